/-! the class's Places: isTaken, isClear, join -/
section PLACES
variable {X : Nat × (Nat → Int32)} {d : Nat} {cu sp n2 n4 : Nat} {n m : Nat} {A B : Nat → Nat} {k : Nat} {F T : Nat → Nat}
theorem isTaken_n {h : Nat → Nat → Int32} (h0 : h 3 0 = nI n) (h8 : n ≤ 8) {q1 q2 : Nat} (t1 : ewTj q1 9 = true ∧ kL q1 = 8) (t2 : ewTj q2 9 = true ∧ kL q2 = 8) (g : Nat → Bool) (x y : Int32) : ewP X Pl_isTaken (d + 1) 0 [some (.ref 150), some (.ref q1), some (.ref q2), some (.int (nI (msk g 8))), some (.int x), some (.int y), none] [] (0, 0) (229, ewR cu sp 3 n2 3 n4, h) (fun v S' => ∃ (h' : Nat → Nat → Int32) (z : Int32), (h' = h ∧ z = bI ((List.range n).any fun s => g s && decide (h q1 s = x ∧ h q2 s = y))) ∧ v = some (.int z) ∧ S' = (229, ewR cu sp 3 n2 3 n4, h')) := by
  refine v_Pl_isTaken_0 _ _ _ _ _ h ?_
  refine upto (H := Unit) (P := fun s _ => ∀ t, t < s → ¬ (g t = true ∧ h q1 t = x ∧ h q2 t = y)) (E := fun s _ => ewP X Pl_isTaken (d + 1) 3 [some (.ref 150), some (.ref q1), some (.ref q2), some (.int (nI (msk g 8))), some (.int x), some (.int y), some (.int (nI s))] [] (0, 0) (229, ewR cu sp 3 n2 3 n4, h) _) n ?_ ?_ 0 () (by omega) (fun t ht => by omega)
  · intro s _ hs hP next
    have hlt : nI s < h 3 0 := by rw [h0]; exact (nI_ltb (by omega) (by omega)).mpr hs
    have cs : (nI s).toNatClampNeg = s := nI_clamp (by omega)
    have hh : f_Ew_has (nI (msk g 8)) (nI s) ↔ g s = true := has_m (by omega)
    have go : ¬ (g s = true ∧ h q1 s = x ∧ h q2 s = y) → ∀ t, t < s + 1 → ¬ (g t = true ∧ h q1 t = x ∧ h q2 t = y) := fun q t ht => by
      by_cases z : t = s
      · rw [z]; exact q
      · exact hP t (by omega)
    refine v_Pl_isTaken_3 _ _ _ _ _ _ h (fun q => absurd hlt q) (fun _ q => ?_) (fun _ _ => t1.1) (fun _ _ => by rw [t1.2]; exact nI_inB (by omega) (by decide)) (fun _ q p => ?_) (fun _ _ _ => t2.1) (fun _ _ _ => by rw [t2.2]; exact nI_inB (by omega) (by decide)) (fun _ q p r => ?_) (fun _ q p r => ?_)
    · rw [← nI_succ]; exact next () (go (fun z => q (hh.mpr z.1)))
    · rw [cs] at p
      rw [← nI_succ]; exact next () (go (fun z => p z.2.1))
    · rw [cs] at r
      rw [← nI_succ]; exact next () (go (fun z => r z.2.2))
    · rw [cs] at p r
      refine ⟨h, 1, ⟨rfl, ?_⟩, rfl, rfl⟩
      have : ((List.range n).any fun s => g s && decide (h q1 s = x ∧ h q2 s = y)) = true := by
        rw [List.any_eq_true]
        exact ⟨s, List.mem_range.mpr hs, by rw [hh.mp q, decide_eq_true ⟨p, r⟩]; rfl⟩
      rw [this]; rfl
  · intro _ hP
    have hlt : ¬ nI n < h 3 0 := by rw [h0]; exact nI_nlt (Nat.le_refl _) (by omega)
    refine v_Pl_isTaken_3 _ _ _ _ _ _ h (fun _ => ⟨h, 0, ⟨rfl, ?_⟩, rfl, rfl⟩) (fun q => absurd q hlt) (fun q => absurd q hlt) (fun q => absurd q hlt) (fun q => absurd q hlt) (fun q => absurd q hlt) (fun q => absurd q hlt) (fun q => absurd q hlt) (fun q => absurd q hlt)
    have : ((List.range n).any fun s => g s && decide (h q1 s = x ∧ h q2 s = y)) = false := by
      rw [List.any_eq_false]
      intro s hs z
      rw [Bool.and_eq_true, decide_eq_true_iff] at z
      exact hP s (List.mem_range.mp hs) z
    rw [this]; rfl
theorem rowXY {e : Nat} (he : e < 8) : (ewTj (156 + 1 + e) 9 = true ∧ kL (156 + 1 + e) = 8) ∧ ewTj (165 + 1 + e) 9 = true ∧ kL (165 + 1 + e) = 8 := by
  have hh : ∀ e : Fin 8, (ewTj (156 + 1 + e.1) 9 = true ∧ kL (156 + 1 + e.1) = 8) ∧ ewTj (165 + 1 + e.1) 9 = true ∧ kL (165 + 1 + e.1) = 8 := by decide +kernel
  exact hh ⟨e, he⟩
theorem isClear_n {h : Nat → Nat → Int32} {dx dy : Nat → Int32} (hN : cNt h n m A B k F T) {e : Nat} (he : e < m) (hr : ∀ s, s < n → h (157 + (e + 1)) s = ppx A B dx (e + 1) s ∧ h (166 + (e + 1)) s = ppx A B dy (e + 1) s) : ewP X Pl_isClear (d + 2) 0 [some (.ref 150), some (.int (nI e)), none, none, none] [] (0, 0) (229, ewR cu sp 3 n2 3 n4, h) (fun v S' => ∃ (h' : Nat → Nat → Int32) (z : Int32), (h' = h ∧ ∃ b : Bool, z = bI b ∧ (b = true ↔ clr A B n dx dy e)) ∧ v = some (.int z) ∧ S' = (229, ewR cu sp 3 n2 3 n4, h')) := by
  have h7 := hN.2.1.2.1
  have h8 := hN.1.2.1
  have h0 := hN.1.1
  obtain ⟨e1, e2, e3, e4⟩ := hN.2.1.2.2.1 e he
  obtain ⟨r1, r2⟩ := rowXY (show e + 1 < 8 by omega)
  have ce : (nI e).toNatClampNeg = e := nI_clamp (by omega)
  have ce1 : (nI e + 1).toNatClampNeg = e + 1 := by rw [← nI_succ, nI_clamp (by omega)]
  refine v_Pl_isClear_0 _ h (by rw [← nI_succ]; exact nI_inB (by omega) (by decide)) (by rw [ce1]; exact beq_no (by omega)) (by rw [ce1]; exact beq_no (by omega)) ?_
  rw [ce1]
  have rr : ∀ s, s < n → h (156 + 1 + (e + 1)) s = ppx A B dx (e + 1) s ∧ h (165 + 1 + (e + 1)) s = ppx A B dy (e + 1) s := fun s hs => hr s hs
  generalize 156 + 1 + (e + 1) = qx at *
  generalize 165 + 1 + (e + 1) = qy at *
  refine upto (H := Unit) (P := fun s _ => ∀ u, u < s → ∀ t, t < n → plb A B e u = plb A B e (A e) → plb A B e t = plb A B e (B e) → ¬ (ppx A B dx (e + 1) u = ppx A B dx (e + 1) t ∧ ppx A B dy (e + 1) u = ppx A B dy (e + 1) t)) (E := fun s _ => ewP X Pl_isClear (d + 2) 21 [some (.ref 150), some (.int (nI e)), some (.ref qx), some (.ref qy), some (.int (nI s))] [] (0, 0) (229, ewR cu sp 3 n2 3 n4, h) _) n ?_ ?_ 0 () (by omega) (fun t ht => by omega)
  · intro s _ hs hP next
    have hlt : nI s < h 3 0 := by rw [h0]; exact (nI_ltb (by omega) (by omega)).mpr hs
    have cs : (nI s).toNatClampNeg = s := nI_clamp (by omega)
    have hh : f_Ew_has (h 11 (nI e).toNatClampNeg) (nI s) ↔ plb A B e s = plb A B e (A e) := by rw [ce, e3]; exact ptm_has (by omega)
    refine v_Pl_isClear_21 _ _ _ _ h (P_Pl_isTaken := fun h' a b x3 x4 x5 => h' = h ∧ a = qx ∧ b = qy ∧ x3 = nI (ptm A B e (B e)) ∧ x4 = ppx A B dx (e + 1) s ∧ x5 = ppx A B dy (e + 1) s) (R_Pl_isTaken := fun h' a b x3 x4 x5 h'' y => h'' = h ∧ y = bI ((List.range n).any fun t => decide (plb A B e t = plb A B e (B e)) && decide (h qx t = ppx A B dx (e + 1) s ∧ h qy t = ppx A B dy (e + 1) s))) (fun a b x3 x4 x5 h' hp => ?_) (fun q => absurd hlt q) (fun _ => nI_inB (by omega) (by decide)) (fun _ q => ?_) (fun _ _ => r1.1) (fun _ _ => by rw [r1.2]; exact nI_inB (by omega) (by decide)) (fun _ _ => r2.1) (fun _ _ => by rw [r2.2]; exact nI_inB (by omega) (by decide)) (fun _ _ => ?_) (fun _ q w6 y7 hw => ?_)
    · obtain ⟨rfl, rfl, rfl, rfl, rfl, rfl⟩ := hp
      exact isTaken_n h0 h8 r1 r2 _ _ _
    · rw [← nI_succ]
      refine next () (fun u hu t ht p1 p2 => ?_)
      by_cases z : u = s
      · rw [z] at p1; exact absurd (hh.mpr p1) q
      · exact hP u (by omega) t ht p1 p2
    · rw [ce, cs, e4, (rr s hs).1, (rr s hs).2]
      exact ⟨rfl, rfl, rfl, rfl, rfl, rfl⟩
    · obtain ⟨rfl, ey⟩ := hw
      refine ⟨fun q0 => ?_, fun q0 => ⟨w6, 0, ⟨rfl, false, rfl, ?_⟩, rfl, rfl⟩⟩
      · rw [ey, bI_eq, List.any_eq_false] at q0
        rw [← nI_succ]
        refine next () (fun u hu t ht p1 p2 p3 => ?_)
        by_cases z : u = s
        · refine q0 t (List.mem_range.mpr ht) ?_
          rw [Bool.and_eq_true, decide_eq_true_iff, decide_eq_true_iff, (rr t ht).1, (rr t ht).2, ← z]
          exact ⟨p2, p3.1.symm, p3.2.symm⟩
        · exact hP u (by omega) t ht p1 p2 p3
      · rw [ey, bI_ne, List.any_eq_true] at q0
        obtain ⟨t, ht, q1⟩ := q0
        rw [Bool.and_eq_true, decide_eq_true_iff, decide_eq_true_iff] at q1
        have ht' := List.mem_range.mp ht
        rw [(rr t ht').1, (rr t ht').2] at q1
        exact ⟨fun z => (by cases z), fun z => absurd ⟨q1.2.1.symm, q1.2.2.symm⟩ (z s t hs ht' (hh.mp q) q1.1)⟩
  · intro _ hP
    have hlt : ¬ nI n < h 3 0 := by rw [h0]; exact nI_nlt (Nat.le_refl _) (by omega)
    exact v_Pl_isClear_21 _ _ _ _ h (P_Pl_isTaken := fun _ _ _ _ _ _ => False) (R_Pl_isTaken := fun _ _ _ _ _ _ _ _ => False) (fun _ _ _ _ _ _ hp => hp.elim) (fun _ => ⟨h, 1, ⟨rfl, true, rfl, fun _ s t hs ht => hP s hs t ht, fun _ => rfl⟩, rfl, rfl⟩) (fun q => absurd q hlt) (fun q => absurd q hlt) (fun q => absurd q hlt) (fun q => absurd q hlt) (fun q => absurd q hlt) (fun q => absurd q hlt) (fun q => absurd q hlt) (fun q => absurd q hlt)
def mJn (A B : Nat → Nat) (n e : Nat) (dx dy : Nat → Int32) (h h' : Nat → Nat → Int32) : Prop := (∀ q, q ≠ 157 + (e + 1) → q ≠ 166 + (e + 1) → h' q = h q) ∧ ∀ s, s < n → h' (157 + (e + 1)) s = ppx A B dx (e + 1) s ∧ h' (166 + (e + 1)) s = ppx A B dy (e + 1) s
set_option maxHeartbeats 1000000 in
theorem join_n {h : Nat → Nat → Int32} {dv v : Nat → Nat} (hN : cNt h n m A B k F T) {e : Nat} (he : e < m) (hd : dv e < 8) (h143 : h 143 e = nI (dv e)) (hr : ∀ s, s < n → h (157 + e) s = ppx A B (pdx dv v) e s ∧ h (166 + e) s = ppx A B (pdy dv v) e s) : ewP X Pl_join (d + 1) 0 [some (.ref 150), some (.int (nI e)), some (.int (nI (v e))), none, none, none, none, none, none] [] (0, 0) (229, ewR cu sp 3 n2 3 n4, h) (fun r S' => ∃ (h' : Nat → Nat → Int32), mJn A B n e (pdx dv v) (pdy dv v) h h' ∧ r = none ∧ S' = (229, ewR cu sp 3 n2 3 n4, h')) := by
  have h7 := hN.2.1.2.1
  have h8 := hN.1.2.1
  have h0 := hN.1.1
  obtain ⟨e1, e2, e3, e4⟩ := hN.2.1.2.2.1 e he
  obtain ⟨b1, b2⟩ := hN.2.2.2.1.1 e he
  obtain ⟨r1, r2⟩ := rowXY (show e < 8 by omega)
  obtain ⟨r3, r4⟩ := rowXY (show e + 1 < 8 by omega)
  have ce : (nI e).toNatClampNeg = e := nI_clamp (by omega)
  have ce1 : (nI e + 1).toNatClampNeg = e + 1 := by rw [← nI_succ, nI_clamp (by omega)]
  have cA : (nI (A e)).toNatClampNeg = A e := nI_clamp (by omega)
  have cB : (nI (B e)).toNatClampNeg = B e := nI_clamp (by omega)
  have cD : (nI (dv e)).toNatClampNeg = dv e := nI_clamp (by omega)
  refine v_Pl_join_0 _ _ h (nI_inB (by omega) (by decide)) (nI_inB (by omega) (by decide)) (by rw [ce]; exact beq_no (by omega)) (by rw [ce]; exact r1.1) (by rw [ce, e1, r1.2]; exact nI_inB (by omega) (by decide)) (by rw [ce, h143]; exact nI_inB hd (by decide)) (by rw [ce, e2, r1.2]; exact nI_inB (by omega) (by decide)) (by rw [ce]; exact beq_no (by omega)) (by rw [ce]; exact r2.1) (by rw [ce, e1, r2.2]; exact nI_inB (by omega) (by decide)) (by rw [ce, e2, r2.2]; exact nI_inB (by omega) (by decide)) ?_
  rw [ce, e1, e2, h143, cA, cB, cD, (step_n hd).1, (step_n hd).2, show 156 + 1 + e = 157 + e by omega, show 165 + 1 + e = 166 + e by omega, (hr _ b1).1, (hr _ b1).2, (hr _ b2).1, (hr _ b2).2]
  refine upto (H := Nat → Nat → Int32) (P := fun s w => (∀ q, q ≠ 157 + (e + 1) → q ≠ 166 + (e + 1) → w q = h q) ∧ ∀ t, t < s → w (157 + (e + 1)) t = ppx A B (pdx dv v) (e + 1) t ∧ w (166 + (e + 1)) t = ppx A B (pdy dv v) (e + 1) t) (E := fun s w => ewP X Pl_join (d + 1) 90 [some (.ref 150), some (.int (nI e)), some (.int (nI (v e))), some (.int (nI (A e))), some (.int (nI (B e))), some (.int (ppx A B (pdx dv v) e (A e) + nI (v e) * f_Mo_stepX (nI (dv e)) - ppx A B (pdx dv v) e (B e))), some (.int (ppx A B (pdy dv v) e (A e) + nI (v e) * f_Mo_stepY (nI (dv e)) - ppx A B (pdy dv v) e (B e))), some (.int (nI s)), none] [] (0, 0) (229, ewR cu sp 3 n2 3 n4, w) _) n ?_ ?_ 0 h (by omega) ⟨fun _ _ _ => rfl, fun t ht => by omega⟩
  · rintro s w hs ⟨w1, w2⟩ next
    have w3 : w 3 = h 3 := w1 3 (by omega) (by omega)
    have hlt : nI s < w 3 0 := by rw [w3, h0]; exact (nI_ltb (by omega) (by omega)).mpr hs
    have cs : (nI s).toNatClampNeg = s := nI_clamp (by omega)
    refine v_Pl_join_90 _ _ _ _ _ _ _ w (fun q => absurd hlt q) (fun _ => nI_inB (by omega) (by decide)) (fun _ => by rw [← nI_succ]; exact nI_inB (by omega) (by decide)) (fun _ => by rw [ce1]; exact beq_no (by omega)) (fun _ => nI_inB (by omega) (by decide)) (fun _ => by rw [ce]; exact beq_no (by omega)) (fun _ => by rw [ce]; exact r1.1) (fun _ => by rw [ce, r1.2]; exact nI_inB (by omega) (by decide)) (fun _ => by rw [ce1]; exact r3.1) (fun _ => by rw [ce1, r3.2]; exact nI_inB (by omega) (by decide)) (fun _ => by rw [ce1]; exact beq_no (by omega)) (fun _ => by rw [ce]; exact beq_no (by omega)) (fun _ => by rw [ce]; exact r2.1) (fun _ => by rw [ce, r2.2]; exact nI_inB (by omega) (by decide)) (fun _ => by rw [ce1]; exact r4.1) (fun _ => by rw [ce1, r4.2]; exact nI_inB (by omega) (by decide)) (fun _ => ?_)
    have hh : f_Ew_has (w 12 e) (nI s) ↔ plb A B e s = plb A B e (B e) := by rw [w1 12 (by omega) (by omega), e4]; exact ptm_has (by omega)
    rw [ce, ce1, cs, ← nI_succ, show 156 + 1 + e = 157 + e by omega, show 165 + 1 + e = 166 + e by omega, show 156 + 1 + (e + 1) = 157 + (e + 1) by omega, show 165 + 1 + (e + 1) = 166 + (e + 1) by omega, ewS_ne _ _ (show 166 + (e + 1) ≠ 157 + (e + 1) by omega), ewS_ne _ _ (show 166 + e ≠ 157 + (e + 1) by omega), w1 (157 + e) (by omega) (by omega), w1 (166 + e) (by omega) (by omega), (hr s hs).1, (hr s hs).2]
    refine next _ ⟨fun q q1 q2 => ?_, fun t ht => ?_⟩
    · rw [ewS_ne _ _ q2, ewS_ne _ _ q1]; exact w1 q q1 q2
    · rw [ewS_ne _ _ (show 157 + (e + 1) ≠ 166 + (e + 1) by omega), ewS_self, ewS_self]
      show (if t = s then _ else w (157 + (e + 1)) t) = _ ∧ (if t = s then _ else w (166 + (e + 1)) t) = _
      by_cases z : t = s
      · rw [if_pos z, if_pos z, z, ppx_s, ppx_s]
        refine ⟨?_, ?_⟩
        · congr 1
          exact ite_cg hh (fun _ => rfl) (fun _ => rfl)
        · congr 1
          exact ite_cg hh (fun _ => rfl) (fun _ => rfl)
      · rw [if_neg z, if_neg z]; exact w2 t (by omega)
  · rintro w ⟨w1, w2⟩
    have w3 : w 3 = h 3 := w1 3 (by omega) (by omega)
    have hlt : ¬ nI n < w 3 0 := by rw [w3, h0]; exact nI_nlt (Nat.le_refl _) (by omega)
    exact v_Pl_join_90 _ _ _ _ _ _ _ w (fun _ => ⟨w, ⟨w1, w2⟩, rfl, rfl⟩) (fun q => absurd q hlt) (fun q => absurd q hlt) (fun q => absurd q hlt) (fun q => absurd q hlt) (fun q => absurd q hlt) (fun q => absurd q hlt) (fun q => absurd q hlt) (fun q => absurd q hlt) (fun q => absurd q hlt) (fun q => absurd q hlt) (fun q => absurd q hlt) (fun q => absurd q hlt) (fun q => absurd q hlt) (fun q => absurd q hlt) (fun q => absurd q hlt) (fun q => absurd q hlt)
end PLACES
