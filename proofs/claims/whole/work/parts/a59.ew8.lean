/-! the class's calls that change: fix, loose, move, count -/
def oFix (m : Nat) (A B : Nat → Nat) (k : Nat) (F T : Nat → Nat) (c : Nat → Int32) (u : Nat) (S : Nat → Nat → Int32) (x1 x2 y : Int32) (c' : Nat → Int32) (u' : Nat) (S' : Nat → Nat → Int32) : Prop :=
  (((¬ (∃ e, e < m ∧ x1 = nI e) ∧ y = -1000000001) ∨ ((∃ e, e < m ∧ x1 = nI e) ∧ ¬ (∃ j, j < 8 ∧ x2 = nI j) ∧ y = -1000000002)) ∧ c' = c ∧ u' = u ∧ S' = S) ∨ ∃ e j, e < m ∧ j < 8 ∧ x1 = nI e ∧ x2 = nI j ∧ y = pCs (pBp (upd c (16 + e) (nI j)) m A B k F T) ∧ c' = upd c (16 + e) (nI j) ∧ u' = pPu u ∧ S' = pPS u S c
def oLoose (m : Nat) (c : Nat → Int32) (u : Nat) (S : Nat → Nat → Int32) (x1 y : Int32) (c' : Nat → Int32) (u' : Nat) (S' : Nat → Nat → Int32) : Prop :=
  (((¬ (∃ e, e < m ∧ x1 = nI e) ∧ y = -1000000001) ∨ ∃ e, e < m ∧ x1 = nI e ∧ c (16 + e) < 0 ∧ y = -1000000003) ∧ c' = c ∧ u' = u ∧ S' = S) ∨ ∃ e, e < m ∧ x1 = nI e ∧ ¬ c (16 + e) < 0 ∧ y = c (16 + e) ∧ c' = upd c (16 + e) (-1) ∧ u' = pPu u ∧ S' = pPS u S c
def oMove (n m : Nat) (A B : Nat → Nat) (k : Nat) (F T : Nat → Nat) (c : Nat → Int32) (u : Nat) (S : Nat → Nat → Int32) (x1 x2 x3 y : Int32) (c' : Nat → Int32) (u' : Nat) (S' : Nat → Nat → Int32) : Prop :=
  (((¬ (∃ s, s < n ∧ x1 = nI s) ∧ y = -1000000001) ∨ ((∃ s, s < n ∧ x1 = nI s) ∧ ¬ ((∃ j, j < 100 ∧ x2 = nI j) ∧ ∃ j, j < 100 ∧ x3 = nI j) ∧ y = -1000000002)) ∧ c' = c ∧ u' = u ∧ S' = S) ∨ ∃ s i j, s < n ∧ i < 100 ∧ j < 100 ∧ x1 = nI s ∧ x2 = nI i ∧ x3 = nI j ∧ y = pCs (pBp (upd (upd c s (nI i)) (8 + s) (nI j)) m A B k F T) ∧ c' = upd (upd c s (nI i)) (8 + s) (nI j) ∧ u' = pPu u ∧ S' = pPS u S c
def oCount (m : Nat) (A B : Nat → Nat) (k : Nat) (F T : Nat → Nat) (c : Nat → Int32) (u : Nat) (S : Nat → Nat → Int32) (x1 x2 y : Int32) (c' : Nat → Int32) (u' : Nat) (S' : Nat → Nat → Int32) : Prop :=
  (¬ (∃ i v, i < 2 ∧ x1 = nI i ∧ x2 = nI v ∧ v < (if i = 0 then 4 else 10)) ∧ y = -1000000002 ∧ c' = c ∧ u' = u ∧ S' = S) ∨ ∃ i v, i < 2 ∧ x1 = nI i ∧ x2 = nI v ∧ v < (if i = 0 then 4 else 10) ∧ y = pCs (pBp (upd c (23 + i) (nI v)) m A B k F T) ∧ c' = upd c (23 + i) (nI v) ∧ u' = pPu u ∧ S' = pPS u S c
section EW8
variable {X : Nat × (Nat → Int32)} {d : Nat} {n1 n2 n3 n4 : Nat} {h : Nat → Nat → Int32} {G : Nat → Nat → Int32} {tn : Nat} {tx : Nat → Int32} {fp wy : Int32} {n m : Nat} {A B : Nat → Nat} {k : Nat} {F T : Nat → Nat} {c c' : Nat → Int32} {u : Nat} {S : Nat → Nat → Int32} {g : Nat → Bool} {I : Nat → Nat → Int32}
theorem cNo.fr {w : Nat → Nat → Int32} (z : cNo h) (e : w 0 = h 0) : cNo w := by unfold cNo; rw [e]; exact z
theorem chg_kb (hA : aSe n m c') (h' : Nat → Nat → Int32) (a : cJ h' G tn tx fp wy n m A B k F T c' u S g I ∧ cNo h') : ewP X Ew_knownBest (d + 13) 0 [some (.ref 0)] [] (0, 0) (229, ewR 3 35 n1 n2 n3 n4, h') (fun v S' => ∃ (h'' : Nat → Nat → Int32), (cI h'' 3 n3 n4 G tn tx fp wy n m A B k F T c' u S g I ∧ h'' 142 0 = pCs (pBp c' m A B k F T)) ∧ v = some (.ref 142) ∧ S' = (229, ewR 3 35 3 n2 n3 n4, h'')) := by
  refine ewP_m (fun v S' q => ?_) (knownBest_n (d := d + 1) a.1 a.2.cC hA)
  obtain ⟨w, ⟨q1, q2, -, q3, -⟩, q4, q5⟩ := q
  exact ⟨w, ⟨⟨q1, q2⟩, q3.2.1⟩, q4, q5⟩
theorem chg_st (a : cI h n1 n3 n4 G tn tx fp wy n m A B k F T c u S g I) (h' : Nat → Nat → Int32) (e : h' = h) : ewP X Ew_startChange (d + 13) 0 [some (.ref 0)] [] (0, 0) (229, ewR 3 35 n1 n2 n3 n4, h') (fun v S' => ∃ (h'' : Nat → Nat → Int32), (cJ h'' G tn tx fp wy n m A B k F T c (pPu u) (pPS u S c) g I ∧ cNo h'') ∧ v = none ∧ S' = (229, ewR 3 35 n1 n2 n3 n4, h'')) := by
  subst e
  refine ewP_m (fun v S' q => ?_) (startChange_n (d := d + 10) a.1)
  obtain ⟨w, ⟨q1, q2, -⟩, q4, q5⟩ := q
  exact ⟨w, ⟨q1, q2⟩, q4, q5⟩
theorem t_Ew_fix (a : cI h n1 n3 n4 G tn tx fp wy n m A B k F T c u S g I) (o : aSx n m c) (x1 x2 : Int32) : ewP X Ew_fix (d + 14) 0 [some (.ref 0), some (.int x1), some (.int x2)] [] (0, 0) (229, ewR 3 35 n1 n2 n3 n4, h) (eO fun h' n1 n3 n4 y => ∃ c' u' S', oFix m A B k F T c u S x1 x2 y c' u' S' ∧ cI h' n1 n3 n4 G tn tx fp wy n m A B k F T c' u' S' g I) := by
  have hN := a.1.2.2.1
  have h8 := hN.1.2.1
  have h7 := hN.2.1.2.1
  have is := isStr (x := x1) hN
  have i7 := in_7 (x := x2) 7 (by omega)
  have pp : ∀ (w6 : Nat → Nat → Int32), f_Ew_isStretch h x1 → f_Ew_isDirection x2 → (cJ w6 G tn tx fp wy n m A B k F T c (pPu u) (pPS u S c) g I ∧ cNo w6) → aSe n m (upd c (16 + x1.toNatClampNeg) x2) ∧ cJ (ewS w6 70 (upd (w6 70) x1.toNatClampNeg x2)) G tn tx fp wy n m A B k F T (upd c (16 + x1.toNatClampNeg) x2) (pPu u) (pPS u S c) g I ∧ cNo (ewS w6 70 (upd (w6 70) x1.toNatClampNeg x2)) := by
    intro w6 q1 q2 hw
    obtain ⟨e, he, rfl⟩ := is.mp q1
    obtain ⟨j, hj, rfl⟩ := i7.mp q2
    rw [nI_clamp (show e < 2 ^ 31 by omega)]
    exact ⟨(aSx_fix o h8 h7 he hj).1, hw.1.set (fun q hq => ewS_ne _ _ (by omega)) (cSt_fix hw.1.2.2.2.1 h8 (by omega) _), hw.2.fr (ewS_ne _ _ (by omega))⟩
  refine v_Ew_fix_0 x1 x2 h (chg_st (d := d) a) (P_Ew_knownBest := fun h' => aSe n m (upd c (16 + x1.toNatClampNeg) x2) ∧ cJ h' G tn tx fp wy n m A B k F T (upd c (16 + x1.toNatClampNeg) x2) (pPu u) (pPS u S c) g I ∧ cNo h') (R_Ew_knownBest := fun _ w => cI w 3 n3 n4 G tn tx fp wy n m A B k F T (upd c (16 + x1.toNatClampNeg) x2) (pPu u) (pPS u S c) g I ∧ w 142 0 = pCs (pBp (upd c (16 + x1.toNatClampNeg) x2) m A B k F T)) (fun h' hp => chg_kb hp.1 h' hp.2) (fun _ _ => rfl) (fun q1 q2 w6 hw => ⟨?_, pp w6 q1 q2 hw, fun w9 hw9 => ?_⟩) (fun q1 q2 => ⟨h, n1, n2, n3, n4, _, rfl, rfl, c, u, S, Or.inl ⟨Or.inr ⟨is.mp q1, fun z => q2 (i7.mpr z), rfl⟩, rfl, rfl, rfl⟩, a⟩) (fun q1 => ⟨h, n1, n2, n3, n4, _, rfl, rfl, c, u, S, Or.inl ⟨Or.inl ⟨fun z => q1 (is.mpr z), rfl⟩, rfl, rfl, rfl⟩, a⟩)
  · obtain ⟨e, he, rfl⟩ := is.mp q1
    exact nI_inB (by omega) (by decide)
  · obtain ⟨e, he, rfl⟩ := is.mp q1
    obtain ⟨j, hj, rfl⟩ := i7.mp q2
    rw [nI_clamp (show e < 2 ^ 31 by omega)] at hw9
    exact ⟨w9, 3, n2, n3, n4, _, rfl, rfl, _, _, _, Or.inr ⟨e, j, he, hj, rfl, rfl, hw9.2, rfl, rfl, rfl⟩, hw9.1⟩
theorem t_Ew_loose (a : cI h n1 n3 n4 G tn tx fp wy n m A B k F T c u S g I) (o : aSx n m c) (x1 : Int32) : ewP X Ew_loose (d + 14) 0 [some (.ref 0), some (.int x1), none] [] (0, 0) (229, ewR 3 35 n1 n2 n3 n4, h) (eO fun h' n1 n3 n4 y => ∃ c' u' S', oLoose m c u S x1 y c' u' S' ∧ cI h' n1 n3 n4 G tn tx fp wy n m A B k F T c' u' S' g I) := by
  have hN := a.1.2.2.1
  have h8 := hN.1.2.1
  have h7 := hN.2.1.2.1
  have is := isStr (x := x1) hN
  have s4 : ∀ e, e < m → h 70 e = c (16 + e) := fun e he => a.1.2.2.2.1.2.2.2 e (by omega)
  have lt : ∀ e, e < m → (c (16 + e) < 0 ↔ c (16 + e) = -1) := fun e he => by
    rcases o.1.1.2.2 e he with y | ⟨j, hj, y⟩
    · rw [y]; decide
    · rw [y]
      exact ⟨fun z => absurd z (nI_nlt (b := 0) (Nat.zero_le _) (by omega)), fun z => absurd z (nI_m1 (by omega))⟩
  refine v_Ew_loose_0 x1 h (chg_st (d := d) a) (fun q1 => ?_) (fun _ _ => rfl) (fun q1 q2 w6 hw => ?_) (fun q1 q2 => ?_) (fun q1 => ⟨h, n1, n2, n3, n4, _, rfl, rfl, c, u, S, Or.inl ⟨Or.inl ⟨fun z => q1 (is.mpr z), rfl⟩, rfl, rfl, rfl⟩, a⟩)
  · obtain ⟨e, he, rfl⟩ := is.mp q1
    exact nI_inB (by omega) (by decide)
  · obtain ⟨e, he, rfl⟩ := is.mp q1
    rw [nI_clamp (show e < 2 ^ 31 by omega), s4 e he] at q2 ⊢
    refine ⟨nI_inB (by omega) (by decide), _, n1, n2, n3, n4, _, rfl, rfl, _, _, _, Or.inr ⟨e, he, rfl, fun z => q2 ((lt e he).mp z), rfl, rfl, rfl, rfl⟩, hw.1.set (fun q hq => ewS_ne _ _ (by omega)) (cSt_fix hw.1.2.2.2.1 h8 (by omega) _), (hw.2.fr (ewS_ne _ _ (by omega))).cC⟩
  · obtain ⟨e, he, rfl⟩ := is.mp q1
    rw [nI_clamp (show e < 2 ^ 31 by omega), s4 e he] at q2
    exact ⟨h, n1, n2, n3, n4, _, rfl, rfl, c, u, S, Or.inl ⟨Or.inr ⟨e, he, rfl, (lt e he).mpr q2, rfl⟩, rfl, rfl, rfl⟩, a⟩
theorem t_Ew_move (a : cI h n1 n3 n4 G tn tx fp wy n m A B k F T c u S g I) (o : aSx n m c) (x1 x2 x3 : Int32) : ewP X Ew_move (d + 14) 0 [some (.ref 0), some (.int x1), some (.int x2), some (.int x3)] [] (0, 0) (229, ewR 3 35 n1 n2 n3 n4, h) (eO fun h' n1 n3 n4 y => ∃ c' u' S', oMove n m A B k F T c u S x1 x2 x3 y c' u' S' ∧ cI h' n1 n3 n4 G tn tx fp wy n m A B k F T c' u' S' g I) := by
  have hN := a.1.2.2.1
  have h8 := hN.1.2.1
  have is := isSta (x := x1) hN
  have i2 := in_7 (x := x2) 99 (by omega)
  have i3 := in_7 (x := x3) 99 (by omega)
  have no : ∀ (q1 : f_Ew_isStation h x1) (q : ¬ ((¬ x2 < 0 ∧ ¬ nI 99 < x2) ∧ (¬ x3 < 0 ∧ ¬ nI 99 < x3))), eO (fun h' n1 n3 n4 y => ∃ c' u' S', oMove n m A B k F T c u S x1 x2 x3 y c' u' S' ∧ cI h' n1 n3 n4 G tn tx fp wy n m A B k F T c' u' S' g I) (some (.int (-1000000002))) (229, ewR 3 35 n1 n2 n3 n4, h) := fun q1 q => ⟨h, n1, n2, n3, n4, _, rfl, rfl, c, u, S, Or.inl ⟨Or.inr ⟨is.mp q1, fun z => q ⟨i2.mpr z.1, i3.mpr z.2⟩, rfl⟩, rfl, rfl, rfl⟩, a⟩
  have pp : ∀ (w6 : Nat → Nat → Int32), f_Ew_isStation h x1 → (¬ x2 < 0 ∧ ¬ nI 99 < x2) → (¬ x3 < 0 ∧ ¬ nI 99 < x3) → (cJ w6 G tn tx fp wy n m A B k F T c (pPu u) (pPS u S c) g I ∧ cNo w6) → aSe n m (upd (upd c x1.toNatClampNeg x2) (8 + x1.toNatClampNeg) x3) ∧ cJ (ewS (ewS w6 68 (upd (w6 68) x1.toNatClampNeg x2)) 69 (upd (w6 69) x1.toNatClampNeg x3)) G tn tx fp wy n m A B k F T (upd (upd c x1.toNatClampNeg x2) (8 + x1.toNatClampNeg) x3) (pPu u) (pPS u S c) g I ∧ cNo (ewS (ewS w6 68 (upd (w6 68) x1.toNatClampNeg x2)) 69 (upd (w6 69) x1.toNatClampNeg x3)) := by
    intro w6 q1 q2 q3 hw
    obtain ⟨e, he, rfl⟩ := is.mp q1
    obtain ⟨i, hi, rfl⟩ := i2.mp q2
    obtain ⟨j, hj, rfl⟩ := i3.mp q3
    rw [nI_clamp (show e < 2 ^ 31 by omega)]
    exact ⟨(aSx_move o h8 he hi hj).1, hw.1.set (fun q hq => (ewS_ne _ _ (by omega)).trans (ewS_ne _ _ (by omega))) (cSt_move hw.1.2.2.2.1 h8 he _ _), hw.2.fr ((ewS_ne _ _ (by omega)).trans (ewS_ne _ _ (by omega)))⟩
  refine v_Ew_move_0 x1 x2 x3 h (chg_st (d := d) a) (P_Ew_knownBest := fun h' => aSe n m (upd (upd c x1.toNatClampNeg x2) (8 + x1.toNatClampNeg) x3) ∧ cJ h' G tn tx fp wy n m A B k F T (upd (upd c x1.toNatClampNeg x2) (8 + x1.toNatClampNeg) x3) (pPu u) (pPS u S c) g I ∧ cNo h') (R_Ew_knownBest := fun _ w => cI w 3 n3 n4 G tn tx fp wy n m A B k F T (upd (upd c x1.toNatClampNeg x2) (8 + x1.toNatClampNeg) x3) (pPu u) (pPS u S c) g I ∧ w 142 0 = pCs (pBp (upd (upd c x1.toNatClampNeg x2) (8 + x1.toNatClampNeg) x3) m A B k F T)) (fun h' hp => chg_kb hp.1 h' hp.2) (fun q1 q2 => no q1 (fun z => z.1.1 q2)) (fun q1 q2 q3 => no q1 (fun z => z.1.2 q3)) (fun q1 q2 q3 q4 => no q1 (fun z => z.2.1 q4)) (fun _ _ _ _ _ => rfl) (fun q1 q2 q3 q4 q5 w6 hw => ⟨?_, pp w6 q1 ⟨q2, q3⟩ ⟨q4, q5⟩ hw, fun w9 hw9 => ?_⟩) (fun q1 q2 q3 q4 q5 => no q1 (fun z => z.2.2 q5)) (fun q1 => ⟨h, n1, n2, n3, n4, _, rfl, rfl, c, u, S, Or.inl ⟨Or.inl ⟨fun z => q1 (is.mpr z), rfl⟩, rfl, rfl, rfl⟩, a⟩)
  · obtain ⟨e, he, rfl⟩ := is.mp q1
    exact nI_inB (by omega) (by decide)
  · obtain ⟨e, he, rfl⟩ := is.mp q1
    obtain ⟨i, hi, rfl⟩ := i2.mp ⟨q2, q3⟩
    obtain ⟨j, hj, rfl⟩ := i3.mp ⟨q4, q5⟩
    rw [nI_clamp (show e < 2 ^ 31 by omega)] at hw9
    exact ⟨w9, 3, n2, n3, n4, _, rfl, rfl, _, _, _, Or.inr ⟨e, i, j, he, hi, hj, rfl, rfl, rfl, hw9.2, rfl, rfl, rfl⟩, hw9.1⟩
theorem t_Ew_count (a : cI h n1 n3 n4 G tn tx fp wy n m A B k F T c u S g I) (o : aSx n m c) (x1 x2 : Int32) : ewP X Ew_count (d + 14) 0 [some (.ref 0), some (.int x1), some (.int x2)] [] (0, 0) (229, ewR 3 35 n1 n2 n3 n4, h) (eO fun h' n1 n3 n4 y => ∃ c' u' S', oCount m A B k F T c u S x1 x2 y c' u' S' ∧ cI h' n1 n3 n4 G tn tx fp wy n m A B k F T c' u' S' g I) := by
  have hN := a.1.2.2.1
  have h8 := hN.1.2.1
  have h7 := hN.2.1.2.1
  have i3 := in_7 (x := x2) 3 (by omega)
  have i9 := in_7 (x := x2) 9 (by omega)
  have no : ∀ (q : ¬ ((x1 = 0 ∧ f_Ew_isWay x2) ∨ (x1 = 1 ∧ (¬ x2 < 0 ∧ ¬ 9 < x2)))), eO (fun h' n1 n3 n4 y => ∃ c' u' S', oCount m A B k F T c u S x1 x2 y c' u' S' ∧ cI h' n1 n3 n4 G tn tx fp wy n m A B k F T c' u' S' g I) (some (.int (-1000000002))) (229, ewR 3 35 n1 n2 n3 n4, h) := fun q => ⟨h, n1, n2, n3, n4, _, rfl, rfl, c, u, S, Or.inl ⟨fun z => by
    obtain ⟨i, v, hi, e1, e2, hv⟩ := z
    by_cases i0 : i = 0
    · rw [if_pos i0] at hv
      exact q (Or.inl ⟨by rw [e1, i0]; rfl, i3.mpr ⟨v, hv, e2⟩⟩)
    · rw [if_neg i0] at hv
      exact q (Or.inr ⟨by rw [e1, show i = 1 by omega]; rfl, i9.mpr ⟨v, hv, e2⟩⟩), rfl, rfl, rfl, rfl⟩, a⟩
  have pp : ∀ (w6 : Nat → Nat → Int32) (i : Nat) (hi : i < 2) (q : (i = 0 ∧ f_Ew_isWay x2) ∨ (i = 1 ∧ (¬ x2 < 0 ∧ ¬ 9 < x2))), (cJ w6 G tn tx fp wy n m A B k F T c (pPu u) (pPS u S c) g I ∧ cNo w6) → aSe n m (upd c (23 + i) x2) ∧ cJ (ewS w6 67 (upd (w6 67) i x2)) G tn tx fp wy n m A B k F T (upd c (23 + i) x2) (pPu u) (pPS u S c) g I ∧ cNo (ewS w6 67 (upd (w6 67) i x2)) := by
    intro w6 i hi q hw
    have : ∃ v, v < (if i = 0 then 4 else 10) ∧ x2 = nI v := by
      rcases q with ⟨rfl, y⟩ | ⟨rfl, y⟩
      · exact i3.mp y
      · exact i9.mp y
    obtain ⟨v, hv, rfl⟩ := this
    exact ⟨(aSx_cnt o h8 h7 hi hv).1, hw.1.set (fun q hq => ewS_ne _ _ (by omega)) (cSt_cnt hw.1.2.2.2.1 h8 hi _), hw.2.fr (ewS_ne _ _ (by omega))⟩
  have fin : ∀ (w9 : Nat → Nat → Int32) (i : Nat) (hi : i < 2) (q : (i = 0 ∧ f_Ew_isWay x2) ∨ (i = 1 ∧ (¬ x2 < 0 ∧ ¬ 9 < x2))) (e1 : x1 = nI i), (cI w9 3 n3 n4 G tn tx fp wy n m A B k F T (upd c (23 + i) x2) (pPu u) (pPS u S c) g I ∧ w9 142 0 = pCs (pBp (upd c (23 + i) x2) m A B k F T)) → eO (fun h' n1 n3 n4 y => ∃ c' u' S', oCount m A B k F T c u S x1 x2 y c' u' S' ∧ cI h' n1 n3 n4 G tn tx fp wy n m A B k F T c' u' S' g I) (some (.int (w9 142 0))) (229, ewR 3 35 3 n2 n3 n4, w9) := by
    intro w9 i hi q e1 hw9
    have : ∃ v, v < (if i = 0 then 4 else 10) ∧ x2 = nI v := by
      rcases q with ⟨rfl, y⟩ | ⟨rfl, y⟩
      · exact i3.mp y
      · exact i9.mp y
    obtain ⟨v, hv, rfl⟩ := this
    exact ⟨w9, 3, n2, n3, n4, _, rfl, rfl, _, _, _, Or.inr ⟨i, v, hi, e1, rfl, hv, hw9.2, rfl, rfl, rfl⟩, hw9.1⟩
  refine v_Ew_count_0 x1 x2 h (chg_st (d := d) a) (P_Ew_knownBest := fun h' => ∃ i, (x1 = nI i) ∧ i < 2 ∧ aSe n m (upd c (23 + i) x2) ∧ cJ h' G tn tx fp wy n m A B k F T (upd c (23 + i) x2) (pPu u) (pPS u S c) g I ∧ cNo h') (R_Ew_knownBest := fun _ w => ∃ i, (x1 = nI i) ∧ i < 2 ∧ cI w 3 n3 n4 G tn tx fp wy n m A B k F T (upd c (23 + i) x2) (pPu u) (pPS u S c) g I ∧ w 142 0 = pCs (pBp (upd c (23 + i) x2) m A B k F T)) (fun h' hp => ?_) (fun q1 q2 => no (fun z => ?_)) (fun q1 q2 q3 => no (fun z => ?_)) (fun q1 q2 q3 q4 => no (fun z => ?_)) (fun _ _ _ _ => rfl) (fun q1 q2 q3 q4 w hw => ⟨⟨1, q2, by omega, pp w 1 (by omega) (Or.inr ⟨rfl, q3, q4⟩) hw⟩, fun w9 hw9 => ?_⟩) (fun q1 q2 q3 => no (fun z => ?_)) (fun q1 q2 q3 q4 => no (fun z => ?_)) (fun q1 q2 q3 q4 q5 => no (fun z => ?_)) (fun _ _ _ _ _ => rfl) (fun q1 q2 q3 => absurd q3 (by rw [q1]; decide)) (fun _ _ => rfl) (fun q1 q2 w hw => ⟨⟨0, q1, by omega, pp w 0 (by omega) (Or.inl ⟨rfl, q2⟩) hw⟩, fun w9 hw9 => ?_⟩)
  · obtain ⟨i, p1, p2, p3, p4⟩ := hp
    refine ewP_m (fun v S' q => ?_) (chg_kb p3 h' p4)
    obtain ⟨w, q1, q2, q3⟩ := q
    exact ⟨w, ⟨i, p1, p2, q1⟩, q2, q3⟩
  · rcases z with z | z
    · exact q1 z.1
    · exact q2 z.1
  · rcases z with z | z
    · exact q1 z.1
    · exact z.2.1 q3
  · rcases z with z | z
    · exact q1 z.1
    · exact z.2.2 q4
  · obtain ⟨i, p1, p2, p3⟩ := hw9
    have : i = 1 := by
      have e : nI i = nI 1 := p1.symm.trans q2
      exact (nI_eq (by omega) (by omega)).mp e
    subst this
    exact fin w9 1 (by omega) (Or.inr ⟨rfl, q3, q4⟩) q2 p3
  · rcases z with z | z
    · exact q2 z.2
    · exact q3 z.1
  · rcases z with z | z
    · exact q2 z.2
    · exact z.2.1 q4
  · rcases z with z | z
    · exact q2 z.2
    · exact z.2.2 q5
  · obtain ⟨i, p1, p2, p3⟩ := hw9
    have : i = 0 := by
      have e : nI i = nI 0 := p1.symm.trans q1
      exact (nI_eq (by omega) (by omega)).mp e
    subst this
    exact fin w9 0 (by omega) (Or.inl ⟨rfl, q2⟩) q1 p3
end EW8
