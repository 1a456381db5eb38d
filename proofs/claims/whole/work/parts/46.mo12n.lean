/-! the reference: bends -/
def pbs (w : Nat) (A B : Nat → Nat) (m : Nat) (v : Nat → Nat) (k : Nat) (F T : Nat → Nat) : Nat := sm (fun l => pbd w A B m v (F l) (T l)) k
def f_Mo_bends (h : Nat → Nat → Int32) (q1 : Nat) : Int32 := nI (pbs (gW h) (gA h) (gB h) (gM h) (gV h q1) (gK h) (gF h) (gT h))
def p_Mo_bends (h : Nat → Nat → Int32) (q1 : Nat) : Prop := mN h ∧ mDr h q1 (gM h) (gV h q1) ∧ (h 202 23 = nI (gW h) ∧ gW h < 4)
theorem s_Mo_bends {X : Nat × (Nat → Int32)} {d : Nat} {Q : Option Value → eS → Prop} {cu sp n1 n2 n3 n4 : Nat} (q1 : Nat) (h : Nat → Nat → Int32) (hp : p_Mo_bends h q1) (z9 : Q (some (.int (f_Mo_bends h q1))) (229, (ewR cu sp n1 n2 n3 n4), h)) : ewP X Mo_bends (d + 2) 0 [some (.ref 194), some (.ref q1), none, none] [] (0, 0) (229, (ewR cu sp n1 n2 n3 n4), h) Q := by
  obtain ⟨hN, hv, hw⟩ := hp
  have hk := hN.2.2.1
  refine v_Mo_bends_0 q1 h ?_
  refine upto (H := Unit) (P := fun _ _ => True) (E := fun l _ => ewP X Mo_bends (d + 2) 4 [some (.ref 194), some (.ref q1), some (.int (nI (pbs (gW h) (gA h) (gB h) (gM h) (gV h q1) l (gF h) (gT h)))), some (.int (nI l))] [] (0, 0) (229, ewR cu sp n1 n2 n3 n4, h) Q) (gK h) ?_ ?_ 0 () (by omega) trivial
  · intro l _ hl _ next
    have next := next () trivial
    have hlt : nI l < h 194 4 := by rw [hk.1]; exact nI_lt hl (by omega)
    refine v_Mo_bends_4 q1 _ _ h (fun q => absurd hlt q) (fun _ => ⟨hN, hv, hw, l, hl, rfl⟩) (fun _ => ?_)
    unfold f_Mo_bendsOf
    rw [nI_ad, ← nI_succ, nI_clamp (by omega)]
    exact next
  · intro _ _
    have hlt : ¬ nI (gK h) < h 194 4 := by rw [hk.1]; exact nI_nlt (Nat.le_refl _) (by omega)
    exact v_Mo_bends_4 q1 _ _ h (fun _ => z9) (fun q => absurd q hlt) (fun q => absurd q hlt)
