/-! the reference: costOf -/
def pco (o w : Nat) (A B : Nat → Nat) (m : Nat) (v tr : Nat → Nat) (k : Nat) (F T : Nat → Nat) : Nat := o * sm (fun e => pap (v e) (tr e)) m + pbs w A B m v k F T
def gO (h : Nat → Nat → Int32) : Nat := (h 202 24).toNatClampNeg
def f_Mo_costOf (h : Nat → Nat → Int32) (q1 : Nat) : Int32 := nI (pco (gO h) (gW h) (gA h) (gB h) (gM h) (gV h q1) (gV h 212) (gK h) (gF h) (gT h))
def p_Mo_costOf (h : Nat → Nat → Int32) (q1 : Nat) : Prop := p_Mo_bends h q1 ∧ mDr h 212 (gM h) (gV h 212) ∧ (h 202 24 = nI (gO h) ∧ gO h < 10)
theorem s_Mo_costOf {X : Nat × (Nat → Int32)} {d : Nat} {Q : Option Value → eS → Prop} {cu sp n1 n2 n3 n4 : Nat} (q1 : Nat) (h : Nat → Nat → Int32) (hp : p_Mo_costOf h q1) (z9 : Q (some (.int (f_Mo_costOf h q1))) (229, (ewR cu sp n1 n2 n3 n4), h)) : ewP X Mo_costOf (d + 3) 0 [some (.ref 194), some (.ref q1), none, none] [] (0, 0) (229, (ewR cu sp n1 n2 n3 n4), h) Q := by
  obtain ⟨hb, ht, ho⟩ := hp
  obtain ⟨hN, hv, hw⟩ := id hb
  obtain ⟨a1, h8, a3, h7, a5, hn, hk⟩ := hN.1
  refine v_Mo_costOf_0 q1 h ?_
  refine upto (H := Unit) (P := fun _ _ => True) (E := fun e _ => ewP X Mo_costOf (d + 3) 4 [some (.ref 194), some (.ref q1), some (.int (nI (sm (fun e => pap (gV h q1 e) (gV h 212 e)) e))), some (.int (nI e))] [] (0, 0) (229, ewR cu sp n1 n2 n3 n4, h) Q) (gM h) ?_ ?_ 0 () (by omega) trivial
  · intro e _ he _ next
    have next := next () trivial
    have hlt : nI e < h 194 1 := by rw [a3]; exact nI_lt he (by omega)
    have ce : (nI e).toNatClampNeg = e := nI_clamp (by omega)
    refine v_Mo_costOf_4 q1 _ _ h (fun q => absurd hlt q) (fun q => absurd hlt q) (fun _ => hv.1.1) (fun _ => by rw [hv.1.2]; exact nI_inB (by omega) (by decide)) (fun _ => nI_inB (by omega) (by decide)) (fun _ => ?_)
    rw [ce, (hv.2 e he).1, (ht.2 e he).1, apart_n (hv.2 e he).2 (ht.2 e he).2, nI_ad, ← nI_succ]
    exact next
  · intro _ _
    have hlt : ¬ nI (gM h) < h 194 1 := by rw [a3]; exact nI_nlt (Nat.le_refl _) (by omega)
    refine v_Mo_costOf_4 q1 _ _ h (fun _ => hb) (fun _ => ?_) (fun q => absurd q hlt) (fun q => absurd q hlt) (fun q => absurd q hlt) (fun q => absurd q hlt)
    unfold f_Mo_costOf pco at z9
    unfold f_Mo_bends
    rw [ho.1, nI_mu, nI_ad]
    exact z9
