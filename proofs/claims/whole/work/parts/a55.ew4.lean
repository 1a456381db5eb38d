/-! the class's calls: stretch, line, along, plans, fault, feed -/
section EW4
variable {X : Nat × (Nat → Int32)} {d : Nat} {n1 n2 n3 n4 : Nat} {h : Nat → Nat → Int32} {G : Nat → Nat → Int32} {tn : Nat} {tx : Nat → Int32} {fp wy : Int32} {n m : Nat} {A B : Nat → Nat} {k : Nat} {F T : Nat → Nat} {c : Nat → Int32} {u : Nat} {S : Nat → Nat → Int32} {g : Nat → Bool} {I : Nat → Nat → Int32}
theorem t_Ew_stretch (a : cI h n1 n3 n4 G tn tx fp wy n m A B k F T c u S g I) (hA : aSe n m c) (x1 x2 : Int32) : ewP X Ew_stretch (d + 14) 0 [some (.ref 0), some (.int x1), some (.int x2)] [] (0, 0) (229, ewR 3 35 n1 n2 n3 n4, h) (eO fun h' n1 n3 n4 y => cI h' n1 n3 n4 G tn tx fp wy n m A B k F T c u S g I ∧ ((¬ (∃ e, e < m ∧ x1 = nI e) ∧ y = -1000000001) ∨ ∃ e, e < m ∧ x1 = nI e ∧ y = aSt n m A B k F T c e x2)) := by
  have hN := a.1.2.2.1
  have h7 := hN.2.1.2.1
  have is := isStr (x := x1) hN
  by_cases q : ∃ e, e < m ∧ x1 = nI e
  · have iq := is.mpr q
    obtain ⟨e, he, rfl⟩ := q
    have ce : (nI e).toNatClampNeg = e := nI_clamp (by omega)
    have in7 : vp_in (nI e) 7 := nI_inB (by omega) (by decide)
    have hS := a.1.2.2.2.1
    obtain ⟨to1, to2⟩ := trueOf_n hN hS hA he
    have fin : ∀ {w : Nat → Nat → Int32} {n1 n2 n3 n4 : Nat} (y : Int32), cI w n1 n3 n4 G tn tx fp wy n m A B k F T c u S g I → y = aSt n m A B k F T c e x2 → eO (fun h' n1 n3 n4 y => cI h' n1 n3 n4 G tn tx fp wy n m A B k F T c u S g I ∧ ((¬ (∃ e', e' < m ∧ nI e = nI e') ∧ y = -1000000001) ∨ ∃ e', e' < m ∧ nI e = nI e' ∧ y = aSt n m A B k F T c e' x2)) (some (.int y)) (229, ewR 3 35 n1 n2 n3 n4, w) := fun y ha hy => ⟨_, _, _, _, _, y, rfl, rfl, ha, Or.inr ⟨e, he, rfl, hy⟩⟩
    refine v_Ew_stretch_0 (nI e) x2 h (P_Ew_knownBest := fun h' => h' = h) (R_Ew_knownBest := fun _ w => cJ w G tn tx fp wy n m A B k F T c u S g I ∧ cC w 3 n3 n4 n m A B k F T c ∧ ¬ w 0 12 = 0 ∧ cKn w n m A B k F T c ∧ ∀ q, q ≠ 0 → ¬ (142 ≤ q ∧ q ≤ 145) → w q = h q) (fun h' e => by subst e; exact knownBest_n (d := d + 1) a.1 a.2 hA)
      (P_Ew_knownPlaces := fun h' => h' = h) (R_Ew_knownPlaces := fun _ w => cJ w G tn tx fp wy n m A B k F T c u S g I ∧ cC w 3 3 n4 n m A B k F T c ∧ cPk w n m A B k F T c) (fun h' e => by subst e; exact knownPlaces_n (d := d) a.1 a.2 hA)
      (fun _ _ => in7) (fun _ z => fin _ a ?_) (fun _ _ => in7) (fun _ z => fin _ a ?_) (fun _ _ => to1) (fun _ z => fin _ a ?_) (fun _ _ => rfl) (fun _ z w hw => ⟨in7, fin _ ⟨hw.1, hw.2.1⟩ ?_⟩) (fun _ _ => rfl) (fun _ z w hw => ⟨(off_n hw.2.2.2.1 hA.1 he).1, fin _ ⟨hw.1, hw.2.1⟩ ?_⟩) (fun _ _ => rfl) (fun _ z w hw => ⟨in7, fin _ ⟨hw.1, hw.2.1⟩ ?_⟩) (fun _ _ => in7) (fun _ z => fin _ a ?_) (fun _ _ => in7) (fun _ z => fin _ a ?_) (fun _ z => fin _ a ?_) (fun z => absurd iq z)
    · rw [z, ce]; exact (hN.2.1.2.2.1 e he).1
    · rw [z, ce]; exact (hN.2.1.2.2.1 e he).2.1
    · rw [z]; exact to2
    · rw [z, ce]
      exact ite_p (p := (pBp c m A B k F T).2.1 = 1000000) (fun p => hw.2.2.2.1.2.2.1 p e (by omega)) (fun p => hw.2.2.2.1.2.2.2 p e he)
    · rw [z]; exact (off_n hw.2.2.2.1 hA.1 he).2
    · rw [z, ce]
      exact ite_p (p := (pBp c m A B k F T).2.1 = 1000000 ∨ (pBl n m A B (pBp c m A B k F T).2.2).1 = 1000000) (fun p => (hw.2.2.1 p).2.2.1 e he) (fun p => (hw.2.2.2 p).2.2.1 e he)
    · rw [z, ce]; exact hS.2.2.2 e (by omega)
    · rw [z, ce]; exact hN.2.2.1.2.2.2.1 e (by omega)
    · have o8 := i32_out 8 (by decide) z
      unfold aSt
      rw [if_neg (show ¬ x2 = 0 from o8 0 (by omega)), if_neg (show ¬ x2 = 1 from o8 1 (by omega)), if_neg (show ¬ x2 = 2 from o8 2 (by omega)), if_neg (show ¬ x2 = 3 from o8 3 (by omega)), if_neg (show ¬ x2 = 4 from o8 4 (by omega)), if_neg (show ¬ x2 = 5 from o8 5 (by omega)), if_neg (show ¬ x2 = 6 from o8 6 (by omega)), if_neg (show ¬ x2 = 7 from o8 7 (by omega))]
  · have nq : ¬ f_Ew_isStretch h x1 := fun z => q (is.mp z)
    exact v_Ew_stretch_0 x1 x2 h (P_Ew_knownBest := fun _ => False) (R_Ew_knownBest := fun _ _ => True) (fun _ z => z.elim) (P_Ew_knownPlaces := fun _ => False) (R_Ew_knownPlaces := fun _ _ => True) (fun _ z => z.elim) (fun z => absurd z nq) (fun z => absurd z nq) (fun z => absurd z nq) (fun z => absurd z nq) (fun z => absurd z nq) (fun z => absurd z nq) (fun z => absurd z nq) (fun z => absurd z nq) (fun z => absurd z nq) (fun z => absurd z nq) (fun z => absurd z nq) (fun z => absurd z nq) (fun z => absurd z nq) (fun z => absurd z nq) (fun z => absurd z nq) (fun z => absurd z nq) (fun z => absurd z nq) (fun _ => ⟨h, n1, n2, n3, n4, _, rfl, rfl, a, Or.inl ⟨q, rfl⟩⟩)
theorem t_Ew_line (a : cI h n1 n3 n4 G tn tx fp wy n m A B k F T c u S g I) (hA : aSe n m c) (x1 x2 : Int32) : ewP X Ew_line (d + 14) 0 [some (.ref 0), some (.int x1), some (.int x2)] [] (0, 0) (229, ewR 3 35 n1 n2 n3 n4, h) (eO fun h' n1 n3 n4 y => cI h' n1 n3 n4 G tn tx fp wy n m A B k F T c u S g I ∧
    ((¬ (∃ l, l < k ∧ x1 = nI l) ∧ y = -1000000001) ∨ ∃ l, l < k ∧ x1 = nI l ∧ ((x2 = 0 ∧ y = nI (F l)) ∨ (x2 = 1 ∧ y = nI (T l)) ∨ (x2 = 2 ∧ y = nI (tds A B m (F l) (T l))) ∨ (x2 = 3 ∧ y = (if (pBp c m A B k F T).2.1 = 1000000 then -1 else nI (pbd (c 23).toNatClampNeg A B m (pBp c m A B k F T).2.2 (F l) (T l)))) ∨ ((x2 < 0 ∨ 4 ≤ x2) ∧ y = -1000000002)))) := by
  have hN := a.1.2.2.1
  have hk3 := hN.2.2.1.2.1
  have is := isLin (x := x1) hN
  by_cases q : ∃ e, e < k ∧ x1 = nI e
  · have iq := is.mpr q
    obtain ⟨l, hl, rfl⟩ := q
    have cl : (nI l).toNatClampNeg = l := nI_clamp (by omega)
    have in3 : vp_in (nI l) 3 := nI_inB (by omega) (by decide)
    have hL := hN.2.2.1.2.2.1 l hl
    refine v_Ew_line_0 (nI l) x2 h (P_Ew_knownBest := fun h' => h' = h) (R_Ew_knownBest := fun _ w => cJ w G tn tx fp wy n m A B k F T c u S g I ∧ cC w 3 n3 n4 n m A B k F T c ∧ ¬ w 0 12 = 0 ∧ cKn w n m A B k F T c ∧ ∀ q, q ≠ 0 → ¬ (142 ≤ q ∧ q ≤ 145) → w q = h q) (fun h' e => by subst e; exact knownBest_n (d := d + 1) a.1 a.2 hA)
      (P_Ch_bendsOf := fun h' x => cKn h' n m A B k F T c ∧ x = nI l) (R_Ch_bendsOf := fun h' x w y => w = h' ∧ y = if (pBp c m A B k F T).2.1 = 1000000 then -1 else nI (pbd (c 23).toNatClampNeg A B m (pBp c m A B k F T).2.2 (F l) (T l))) (fun x h' hp => by obtain ⟨p1, rfl⟩ := hp; exact bendsOf_n (d := d + 12) p1 hA.1 hl)
      (fun _ _ => in3) (fun _ z => ⟨h, n1, n2, n3, n4, _, rfl, rfl, a, Or.inr ⟨l, hl, rfl, Or.inl ⟨z, by rw [cl]; exact hL.1⟩⟩⟩) (fun _ _ => in3) (fun _ z => ⟨h, n1, n2, n3, n4, _, rfl, rfl, a, Or.inr ⟨l, hl, rfl, Or.inr (Or.inl ⟨z, by rw [cl]; exact hL.2.1⟩)⟩⟩) (fun _ _ => in3) (fun _ z => ⟨h, n1, n2, n3, n4, _, rfl, rfl, a, Or.inr ⟨l, hl, rfl, Or.inr (Or.inr (Or.inl ⟨z, by rw [cl]; exact hL.2.2.1⟩))⟩⟩) (fun _ _ => rfl) (fun _ z w hw => ⟨⟨hw.2.2.2.1, rfl⟩, fun w9 y hy => ?_⟩) (fun _ z => ⟨h, n1, n2, n3, n4, _, rfl, rfl, a, Or.inr ⟨l, hl, rfl, Or.inr (Or.inr (Or.inr (Or.inr ⟨z, rfl⟩)))⟩⟩) (fun z => absurd iq z)
    obtain ⟨rfl, hy⟩ := hy
    exact ⟨_, 3, n2, n3, n4, _, rfl, rfl, ⟨hw.1, hw.2.1⟩, Or.inr ⟨l, hl, rfl, Or.inr (Or.inr (Or.inr (Or.inl ⟨z, hy⟩)))⟩⟩
  · have nq : ¬ f_Ew_isLine h x1 := fun z => q (is.mp z)
    exact v_Ew_line_0 x1 x2 h (P_Ew_knownBest := fun _ => False) (R_Ew_knownBest := fun _ _ => True) (fun _ z => z.elim) (P_Ch_bendsOf := fun _ _ => False) (R_Ch_bendsOf := fun _ _ _ _ => True) (fun _ _ z => z.elim) (fun z => absurd z nq) (fun z => absurd z nq) (fun z => absurd z nq) (fun z => absurd z nq) (fun z => absurd z nq) (fun z => absurd z nq) (fun z => absurd z nq) (fun z => absurd z nq) (fun z => absurd z nq) (fun _ => ⟨h, n1, n2, n3, n4, _, rfl, rfl, a, Or.inl ⟨q, rfl⟩⟩)
theorem t_Ew_along (a : cI h n1 n3 n4 G tn tx fp wy n m A B k F T c u S g I) (x1 x2 : Int32) : ewP X Ew_along (d + 14) 0 [some (.ref 0), some (.int x1), some (.int x2)] [] (0, 0) (229, ewR 3 35 n1 n2 n3 n4, h) (eO fun h' n1 n3 n4 y => cI h' n1 n3 n4 G tn tx fp wy n m A B k F T c u S g I ∧
    ((¬ (∃ l, l < k ∧ x1 = nI l) ∧ y = -1000000001) ∨ ∃ l, l < k ∧ x1 = nI l ∧ ((x2 < 0 ∧ y = -1000000002) ∨ (¬ x2 < 0 ∧ ((¬ x2 < nI (tds A B m (F l) (T l)) ∧ y = -1) ∨ ∃ i, i < tds A B m (F l) (T l) ∧ x2 = nI i ∧ y = nI (tpe A B m (T l) (F l) i)))))) := by
  have hN := a.1.2.2.1
  have h7 := hN.2.1.2.1
  have hk3 := hN.2.2.1.2.1
  have is := isLin (x := x1) hN
  have t7 : ∀ l, l < k → tds A B m (F l) (T l) ≤ 7 := by
    intro l hl
    obtain ⟨f1, f2, f3, f4⟩ := hN.2.2.2.1.2.2 l hl
    have := tds_cnt hN.2.2.2.1.2.1 hN.2.2.2.1.1 f1 f2 f4
    have := tcn_le (A := A) (B := B) n m (F l)
    have := hN.1.2.1
    omega
  refine v_Ew_along_0 x1 x2 h (fun q _ => ?_) (fun q q2 q3 => ?_) (fun q q2 => ?_) (fun q q2 => ?_) (fun q => ⟨h, n1, n2, n3, n4, _, rfl, rfl, a, Or.inl ⟨fun y => q (is.mpr y), rfl⟩⟩)
  all_goals obtain ⟨l, hl, rfl⟩ := is.mp q
  all_goals have cl : (nI l).toNatClampNeg = l := nI_clamp (by omega)
  all_goals have hL := hN.2.2.1.2.2.1 l hl
  all_goals have t7 := t7 l hl
  · exact nI_inB (by omega) (by decide)
  · rw [cl, hL.2.2.1] at q3
    obtain ⟨i, hi, rfl⟩ := i32_small (by omega) q2 q3
    have hh : ∀ (l : Fin 3) (i : Fin 7), nI l.1 * 7 + nI i.1 = nI (7 * l.1 + i.1) := by decide +kernel
    rw [hh ⟨l, by omega⟩ ⟨i, by omega⟩]
    exact nI_inB (by omega) (by decide)
  · refine ⟨h, n1, n2, n3, n4, _, rfl, rfl, a, Or.inr ⟨l, hl, rfl, Or.inr ⟨q2, ?_⟩⟩⟩
    rw [cl, hL.2.2.1]
    by_cases q3 : x2 < nI (tds A B m (F l) (T l))
    · obtain ⟨i, hi, rfl⟩ := i32_small (by omega) q2 q3
      have hh : ∀ (l : Fin 3) (i : Fin 7), nI l.1 * 7 + nI i.1 = nI (7 * l.1 + i.1) := by decide +kernel
      rw [if_pos q3, hh ⟨l, by omega⟩ ⟨i, by omega⟩, nI_clamp (by omega)]
      exact Or.inr ⟨i, hi, rfl, hL.2.2.2 i hi⟩
    · rw [if_neg q3]
      exact Or.inl ⟨q3, rfl⟩
  · exact ⟨h, n1, n2, n3, n4, _, rfl, rfl, a, Or.inr ⟨l, hl, rfl, Or.inl ⟨q2, rfl⟩⟩⟩
end EW4
