/-! the reference's calls: along, bend, order, line -/
section CALLS5
variable {h w : Nat → Nat → Int32} {G : Nat → Nat → Int32} {tn : Nat} {tx : Nat → Int32} {fp wy : Int32} {n m : Nat} {A B : Nat → Nat} {k : Nat} {F T : Nat → Nat} {c : Nat → Int32} {u : Nat} {S : Nat → Nat → Int32} {g : Nat → Bool} {I : Nat → Nat → Int32}
theorem t_Mo_order {X : Nat × (Nat → Int32)} {d : Nat} {cu sp n1 n2 n3 n4 : Nat} (a : mI h G tn tx fp wy n m A B k F T c u S g I) (o : mSe c m) (x1 x2 : Int32) : ewP X Mo_order (d + 6) 0 [some (.ref 194), some (.int x1), some (.int x2)] [] (0, 0) (229, ewR cu sp n1 n2 n3 n4, h) (fun v S' => ∃ (h' : Nat → Nat → Int32) (y : Int32), v = some (.int y) ∧ S' = (229, ewR cu sp n1 n2 n3 n4, h') ∧ mI h' G tn tx fp wy n m A B k F T c u S g I ∧
    ((¬ (∃ e, e < m ∧ x1 = nI e) ∧ y = -1000000001) ∨ ∃ e, e < m ∧ x1 = nI e ∧ ((x2 < 0 ∧ y = -1000000002) ∨ (¬ x2 < 0 ∧ ((((pBp c m A B k F T).2.1 = 1000000 ∨ ¬ x2 < nI (pbc (pLs m A B k F T e))) ∧ y = -1) ∨ ((pBp c m A B k F T).2.1 ≠ 1000000 ∧ ∃ i, i < pbc (pLs m A B k F T e) ∧ x2 = nI i ∧ y = nI (pol (pLs m A B k F T e) ((pBo n m A B k F T (pBp c m A B k F T).2.2).2 e) i))))))) := by
  have is := isStretch_n a x1
  have h7 := a.2.2.1.1.2.2.2.1
  have hk3 := a.2.2.1.2.2.1.2
  obtain ⟨p1, p2⟩ := a.p o
  refine v_Mo_order_0 x1 x2 h (fun _ _ => p1) (fun q1 q2 w6 hw6 => ?_) (fun q1 q2 => ?_) (fun q => ⟨h, _, rfl, rfl, a, Or.inl ⟨fun z => q (is.mpr z), rfl⟩⟩)
  · obtain ⟨e, he, rfl⟩ := is.mp q1
    obtain ⟨⟨r1, r2, r3, r4, r5, r6, r7⟩, wN, w202, neg, good, pO, pL⟩ := mLp.at p1 hw6
    have a6 := a.fr hw6.1 (by decide) (by decide) (by decide) (by decide)
    obtain ⟨g1, g2, g3, g4, g5, g6, g7⟩ := a.2.2.1.g
    rw [g1] at r1; rw [g2] at r2; rw [g3] at r3; rw [g4] at r4; rw [g5] at r5; rw [g6] at r6; rw [g7] at r7
    refine ⟨pO, fun w9 hw9 => ?_⟩
    obtain ⟨f0, f1, f2, f3⟩ := hw9
    have a9 := a6.fr f0 (by decide) (by decide) (by decide) (by decide)
    have e32 : w9 194 32 = w6 194 32 := f0.2 32 (by decide)
    have ce : (nI e).toNatClampNeg = e := nI_clamp (by omega)
    rw [r2, r3, r4, r5, r6, r7] at f1 f3
    have Ls8 := pLs_lt (m := m) (A := A) (B := B) (F := F) (T := T) hk3 e
    have h3 := pbc_le (s := pLs m A B k F T e)
    have bt : f_Mo_bits (w9 221 (nI e).toNatClampNeg) = nI (pbc (pLs m A B k F T e)) := by rw [ce, f1 e he, bits_n Ls8]
    rw [bt, e32]
    have small : ¬ x2 < 0 → x2 < nI (pbc (pLs m A B k F T e)) → ∃ i, i < pbc (pLs m A B k F T e) ∧ x2 = nI i := by
      intro z1 z2
      refine (nI_iff (by omega)).mp ⟨?_, ?_⟩
      · have := (Int32.lt_iff_toInt_lt (x := x2) (y := 0)); rw [this] at z1; have e0 : (0 : Int32).toInt = 0 := by decide
        rw [e0] at z1; omega
      · have := (Int32.lt_iff_toInt_lt (x := x2) (y := nI (pbc (pLs m A B k F T e)))).mp z2
        rw [nI_toInt (by omega)] at this; exact this
    refine ⟨fun _ => nI_inB (by omega) (by decide), fun z1 z2 => ?_, w9, _, rfl, rfl, a9, Or.inr ⟨e, he, rfl, Or.inr ⟨q2, ?_⟩⟩⟩
    · obtain ⟨i, hi, rfl⟩ := small q2 z2
      rw [show (3 : Int32) * nI e + nI i = nI (3 * e + i) by rw [show (3 : Int32) * nI e = nI (3 * e) from nI_mu 3 e, nI_ad]]
      exact nI_inB (by omega) (by decide)
    · by_cases z1 : w6 194 32 < 0
      · rw [if_pos z1]
        exact Or.inl ⟨Or.inl (by rw [← p2]; exact neg.mp z1), rfl⟩
      · rw [if_neg z1]
        by_cases z2 : x2 < nI (pbc (pLs m A B k F T e))
        · rw [if_pos z2]
          obtain ⟨i, hi, rfl⟩ := small q2 z2
          refine Or.inr ⟨by rw [← p2]; exact fun y => z1 (neg.mpr y), i, hi, rfl, ?_⟩
          rw [show (3 : Int32) * nI e + nI i = nI (3 * e + i) by rw [show (3 : Int32) * nI e = nI (3 * e) from nI_mu 3 e, nI_ad], nI_clamp (by omega), (f3 z1).2.2 e he i hi]
          unfold gB2
          rw [r1, r2, r3, r4, r5, r6, r7, (good z1).2.2.1, p2]
        · rw [if_neg z2]
          exact Or.inl ⟨Or.inr z2, rfl⟩
  · obtain ⟨e, he, rfl⟩ := is.mp q1
    exact ⟨h, _, rfl, rfl, a, Or.inr ⟨e, he, rfl, Or.inl ⟨q2, rfl⟩⟩⟩
end CALLS5
