/-! the reference: takeTried -/
def mTt (h h' : Nat → Nat → Int32) : Prop := (¬ (h 194 32 < 0 ∨ f_Mo_costOf h 213 < h 194 32) → h' = h) ∧ (h 194 32 < 0 ∨ f_Mo_costOf h 213 < h 194 32 → (∀ k, k ≠ 194 → k ≠ 214 → h' k = h k) ∧ (h' 194 = upd (h 194) 32 (f_Mo_costOf h 213)) ∧ ∀ e, e < gM h → h' 214 e = h 213 e)
def p_Mo_takeTried (h : Nat → Nat → Int32) : Prop := p_Mo_costOf h 213
theorem s_Mo_takeTried {X : Nat × (Nat → Int32)} {d : Nat} {cu sp n1 n2 n3 n4 : Nat} (h : Nat → Nat → Int32) (hp : p_Mo_takeTried h) : ewP X Mo_takeTried (d + 4) 0 [some (.ref 194), none, none] [] (0, 0) (229, ewR cu sp n1 n2 n3 n4, h) (fun v S' => ∃ (h' : Nat → Nat → Int32), mTt h h' ∧ v = none ∧ S' = (229, ewR cu sp n1 n2 n3 n4, h')) := by
  have hp : p_Mo_costOf h 213 := hp
  obtain ⟨a1, h8, a3, h7, a5, hn, hk⟩ := hp.1.1.1
  have go : (h 194 32 < 0 ∨ f_Mo_costOf h 213 < h 194 32) → ewP X Mo_takeTried (d + 4) 31 [some (.ref 194), some (.int (f_Mo_costOf h 213)), some (.int 0)] [] (0, 0) (229, ewR cu sp n1 n2 n3 n4, (ewS h 194 (upd (h 194) 32 (f_Mo_costOf h 213)))) (fun v S' => ∃ (h' : Nat → Nat → Int32), mTt h h' ∧ v = none ∧ S' = (229, ewR cu sp n1 n2 n3 n4, h')) := by
    intro hc
    refine upto (H := Nat → Nat → Int32) (P := fun e w => (∀ k, k ≠ 194 → k ≠ 214 → w k = h k) ∧ (w 194 = upd (h 194) 32 (f_Mo_costOf h 213)) ∧ ∀ f, f < e → w 214 f = h 213 f) (E := fun e w => ewP X Mo_takeTried (d + 4) 31 [some (.ref 194), some (.int (f_Mo_costOf h 213)), some (.int (nI e))] [] (0, 0) (229, ewR cu sp n1 n2 n3 n4, w) _) (gM h) ?_ ?_ 0 _ (by omega) ⟨fun k h1 h2 => ewS_ne _ _ h1, ewS_self _ _ _, fun f hf => by omega⟩
    · rintro e w he ⟨w1, w2, w3⟩ next
      have hlt : nI e < w 194 1 := by rw [w2]; show nI e < h 194 1; rw [a3]; exact nI_lt he (by omega)
      refine v_Mo_takeTried_31 _ _ w (fun q => absurd hlt q) (fun _ => nI_inB (by omega) (by decide)) (fun _ => ?_)
      rw [← nI_succ, nI_clamp (by omega), w1 213 (by decide) (by decide)]
      refine next _ ⟨fun k h1 h2 => by rw [ewS_ne _ _ h2]; exact w1 k h1 h2, by rw [ewS_ne _ _ (by decide)]; exact w2, fun f hf => ?_⟩
      rw [ewS_self, upd]
      by_cases q : f = e
      · rw [if_pos q, q]
      · rw [if_neg q]; exact w3 f (by omega)
    · rintro w ⟨w1, w2, w3⟩
      have hlt : ¬ nI (gM h) < w 194 1 := by rw [w2]; show ¬ nI (gM h) < h 194 1; rw [a3]; exact nI_nlt (Nat.le_refl _) (by omega)
      exact v_Mo_takeTried_31 _ _ w (fun _ => ⟨w, ⟨fun q => absurd hc q, fun _ => ⟨w1, w2, w3⟩⟩, rfl, rfl⟩) (fun q => absurd q hlt) (fun q => absurd q hlt)
  refine v_Mo_takeTried_0 h hp (fun q => go (Or.inl q)) (fun q1 q2 => ⟨h, ⟨fun _ => rfl, fun q => ?_⟩, rfl, rfl⟩) (fun q1 q2 => go (Or.inr q2))
  rcases q with q | q
  · exact absurd q q1
  · exact absurd q q2
