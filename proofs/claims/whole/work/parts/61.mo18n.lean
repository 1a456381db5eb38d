/-! the reference: takeLengths; pure: the lengths -/
def mTk (h : Nat → Nat → Int32) (x1 : Int32) (h' : Nat → Nat → Int32) : Prop := (f_Mo_areApart h = 0 → h' = h) ∧ (¬ f_Mo_areApart h = 0 → (∀ k, k ≠ 194 → k ≠ 218 → h' k = h k) ∧ (h' 194 = upd (h 194) 39 x1) ∧ ∀ e, e < gM h → h' 218 e = h 219 e)
def p_Mo_takeLengths (h : Nat → Nat → Int32) (x1 : Int32) : Prop := p_Mo_areApart h ∧ h 194 1 = nI (gM h) ∧ gM h ≤ 7
theorem s_Mo_takeLengths {X : Nat × (Nat → Int32)} {d : Nat} {cu sp n1 n2 n3 n4 : Nat} (x1 : Int32) (h : Nat → Nat → Int32) (hp : p_Mo_takeLengths h x1) : ewP X Mo_takeLengths (d + 2) 0 [some (.ref 194), some (.int x1), none] [] (0, 0) (229, ewR cu sp n1 n2 n3 n4, h) (fun v S' => ∃ (h' : Nat → Nat → Int32), mTk h x1 h' ∧ v = none ∧ S' = (229, ewR cu sp n1 n2 n3 n4, h')) := by
  obtain ⟨hp, a3, h7⟩ := hp
  refine v_Mo_takeLengths_0 x1 h hp (fun q => ⟨h, ⟨fun _ => rfl, fun z => absurd q z⟩, rfl, rfl⟩) (fun hc => ?_)
  refine upto (H := Nat → Nat → Int32) (P := fun e w => (∀ k, k ≠ 194 → k ≠ 218 → w k = h k) ∧ (w 194 = upd (h 194) 39 x1) ∧ ∀ f, f < e → w 218 f = h 219 f) (E := fun e w => ewP X Mo_takeLengths (d + 2) 14 [some (.ref 194), some (.int x1), some (.int (nI e))] [] (0, 0) (229, ewR cu sp n1 n2 n3 n4, w) _) (gM h) ?_ ?_ 0 _ (by omega) ⟨fun k h1 h2 => ewS_ne _ _ h1, ewS_self _ _ _, fun f hf => by omega⟩
  · rintro e w he ⟨w1, w2, w3⟩ next
    have hlt : nI e < w 194 1 := by rw [w2]; show nI e < h 194 1; rw [a3]; exact nI_lt he (by omega)
    refine v_Mo_takeLengths_14 _ _ w (fun q => absurd hlt q) (fun _ => nI_inB (by omega) (by decide)) (fun _ => ?_)
    rw [← nI_succ, nI_clamp (by omega), w1 219 (by decide) (by decide)]
    refine next _ ⟨fun k h1 h2 => by rw [ewS_ne _ _ h2]; exact w1 k h1 h2, by rw [ewS_ne _ _ (by decide)]; exact w2, fun f hf => ?_⟩
    rw [ewS_self, upd]
    by_cases q : f = e
    · rw [if_pos q, q]
    · rw [if_neg q]; exact w3 f (by omega)
  · rintro w ⟨w1, w2, w3⟩
    have hlt : ¬ nI (gM h) < w 194 1 := by rw [w2]; show ¬ nI (gM h) < h 194 1; rw [a3]; exact nI_nlt (Nat.le_refl _) (by omega)
    exact v_Mo_takeLengths_14 _ _ w (fun _ => ⟨w, ⟨fun q => absurd q hc, fun _ => ⟨w1, w2, w3⟩⟩, rfl, rfl⟩) (fun q => absurd q hlt) (fun q => absurd q hlt)
/-- how a stretch leads, by its length and its direction -/
def pdx (dv v : Nat → Nat) (e : Nat) : Int32 := nI (v e) * f_Mo_stepX (nI (dv e))
def pdy (dv v : Nat → Nat) (e : Nat) : Int32 := nI (v e) * f_Mo_stepY (nI (dv e))
def pls (n m : Nat) (A B dv : Nat → Nat) (b : Nat × (Nat → Nat)) (v : Nat → Nat) : Nat × (Nat → Nat) := if pfB A B n m (pdx dv v) (pdy dv v) = true ∧ sm v m < b.1 then (sm v m, v) else b
/-- the lengths: the least sum (1000000: none), the first ones of it -/
def pBl (n m : Nat) (A B dv : Nat → Nat) : Nat × (Nat → Nat) := fdS (fun _ => 3) (fun _ i => 1 + i) (pls n m A B dv) 0 m (fun _ => 0) (1000000, fun _ => 0)
theorem dig_top {c : Nat → Nat} {g : Nat → Nat → Nat} {m : Nat} {v0 : Nat → Nat} {i e : Nat} (he : e < m) : ∀ j, j ≤ e → dig c g 0 m v0 (i % pP c 0 m) e = dig c g j (m - j) v0 (i % pP c j (m - j)) e
  | 0, _ => rfl
  | j + 1, h => by
    rw [dig_top he j (by omega), show m - j = (m - (j + 1)) + 1 by omega, dig_up _ _ _ _ _ (by omega) (by omega)]
theorem dig_val {c : Nat → Nat} {g : Nat → Nat → Nat} {m : Nat} {v0 : Nat → Nat} {i e : Nat} (he : e < m) (hi : i < pP c 0 m) : dig c g 0 m v0 i e = g e (i / pP c (e + 1) (m - (e + 1)) % c e) := by
  have h := dig_top (c := c) (g := g) (v0 := v0) (i := i) he e (Nat.le_refl _)
  rw [Nat.mod_eq_of_lt hi] at h
  rw [h, show m - e = (m - (e + 1)) + 1 by omega, dig_at]
theorem sm_mono {f : Nat → Nat} {a b : Nat} (h : a ≤ b) : sm f a ≤ sm f b := by
  induction b with
  | zero => have : a = 0 := by omega
            subst this; exact Nat.le_refl _
  | succ b ih =>
    by_cases q : a = b + 1
    · rw [q]; exact Nat.le_refl _
    · exact Nat.le_trans (ih (by omega)) (by show sm f b ≤ sm f b + f b; omega)
theorem pP_3 : ∀ k e, pP (fun _ => 3) e k = 3 ^ k
  | 0, _ => rfl
  | k + 1, e => by show 3 * pP (fun _ => 3) (e + 1) k = _; rw [pP_3 k, Nat.pow_succ, Nat.mul_comm]
