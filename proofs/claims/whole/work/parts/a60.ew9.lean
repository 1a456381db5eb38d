/-! the class's calls that change: drift, undo, would, keep, goBack -/
def oDrift (n m : Nat) (A B : Nat → Nat) (k : Nat) (F T : Nat → Nat) (c : Nat → Int32) (u : Nat) (S : Nat → Nat → Int32) (x1 y : Int32) (c' : Nat → Int32) (u' : Nat) (S' : Nat → Nat → Int32) : Prop :=
  (((¬ (1 ≤ x1.toInt ∧ x1.toInt ≤ 999999) ∧ y = -1000000002) ∨ (1 ≤ x1.toInt ∧ x1.toInt ≤ 999999 ∧ n = 0 ∧ y = -1000000003)) ∧ c' = c ∧ u' = u ∧ S' = S) ∨ (1 ≤ x1.toInt ∧ x1.toInt ≤ 999999 ∧ n ≠ 0 ∧ y = pCs (pBp (pDc x1.toInt64 c n) m A B k F T) ∧ c' = pDc x1.toInt64 c n ∧ u' = pPu u ∧ S' = pPS u S c)
def oUndo (c : Nat → Int32) (u : Nat) (S : Nat → Nat → Int32) (y : Int32) (c' : Nat → Int32) (u' : Nat) : Prop :=
  (u = 0 ∧ y = -1000000003 ∧ c' = c ∧ u' = u) ∨ (u ≠ 0 ∧ y = nI (u - 1) ∧ c' = S (u - 1) ∧ u' = u - 1)
def oKeep (c : Nat → Int32) (u : Nat) (g : Nat → Bool) (I : Nat → Nat → Int32) (x1 y : Int32) (u' : Nat) (g' : Nat → Bool) (I' : Nat → Nat → Int32) : Prop :=
  (¬ (∃ i, i < 2 ∧ x1 = nI i) ∧ y = -1000000001 ∧ u' = u ∧ g' = g ∧ I' = I) ∨ ∃ i, i < 2 ∧ x1 = nI i ∧ y = 1 ∧ u' = 0 ∧ g' = (fun j => if j = i then true else g j) ∧ I' = fun j => if j = i then c else I j
def oGoBack (m : Nat) (A B : Nat → Nat) (k : Nat) (F T : Nat → Nat) (c : Nat → Int32) (u : Nat) (g : Nat → Bool) (I : Nat → Nat → Int32) (x1 y : Int32) (c' : Nat → Int32) (u' : Nat) : Prop :=
  (((¬ (∃ i, i < 2 ∧ x1 = nI i) ∧ y = -1000000001) ∨ ∃ i, i < 2 ∧ x1 = nI i ∧ g i = false ∧ y = -1000000003) ∧ c' = c ∧ u' = u) ∨ ∃ i, i < 2 ∧ x1 = nI i ∧ g i = true ∧ y = pCs (pBp (I i) m A B k F T) ∧ c' = I i ∧ u' = 0
theorem msk2_bit (g : Nat → Bool) {i : Nat} (hi : i < 2) : f_Ew_has (nI (msk g 2)) (nI i) ↔ g i = true := by
  have : ∀ a b : Bool, (f_Ew_has (nI ((0 + if a = true then 2 ^ 0 else 0) + if b = true then 2 ^ 1 else 0)) (nI 0) ↔ a = true) ∧ (f_Ew_has (nI ((0 + if a = true then 2 ^ 0 else 0) + if b = true then 2 ^ 1 else 0)) (nI 1) ↔ b = true) := by decide +kernel
  match i, hi with
  | 0, _ => exact (this (g 0) (g 1)).1
  | 1, _ => exact (this (g 0) (g 1)).2
theorem msk2_or (g : Nat → Bool) {i : Nat} (hi : i < 2) : (nI (msk g 2)) ||| ((1 : Int32) <<< (nI i &&& 31)) = nI (msk (fun j => if j = i then true else g j) 2) := by
  have : ∀ a b : Bool, (nI ((0 + if a = true then 2 ^ 0 else 0) + if b = true then 2 ^ 1 else 0)) ||| ((1 : Int32) <<< (nI 0 &&& 31)) = nI ((0 + 1) + if b = true then 2 ^ 1 else 0) ∧ (nI ((0 + if a = true then 2 ^ 0 else 0) + if b = true then 2 ^ 1 else 0)) ||| ((1 : Int32) <<< (nI 1 &&& 31)) = nI ((0 + if a = true then 2 ^ 0 else 0) + 2) := by decide +kernel
  match i, hi with
  | 0, _ => exact (this (g 0) (g 1)).1
  | 1, _ => exact (this (g 0) (g 1)).2
section EW9
variable {X : Nat × (Nat → Int32)} {d : Nat} {n1 n2 n3 n4 : Nat} {h : Nat → Nat → Int32} {G : Nat → Nat → Int32} {tn : Nat} {tx : Nat → Int32} {fp wy : Int32} {n m : Nat} {A B : Nat → Nat} {k : Nat} {F T : Nat → Nat} {c c' : Nat → Int32} {u : Nat} {S : Nat → Nat → Int32} {g : Nat → Bool} {I : Nat → Nat → Int32}
theorem mBe_s8 {w : Nat → Nat → Int32} {q0 q1 : Nat} (b : mBe h q0 q1 w) (h8 : n ≤ 8) (s : cSt h q1 n c) : cSt w q0 n c := by
  obtain ⟨b1, b2, b3, b4, b5⟩ := b
  exact ⟨b2.trans s.1, b3.trans s.2.1, fun t ht => ⟨(b4 t (by omega)).1.trans (s.2.2.1 t ht).1, (b4 t (by omega)).2.trans (s.2.2.1 t ht).2⟩, fun e he => (b5 e he).trans (s.2.2.2 e he)⟩
theorem cPa_clear {w : Nat → Nat → Int32} {o : Nat} (a : cPa h n u S o) (w75 : w 75 = upd (h 75) 0 0) : cPa w n 0 S o := by
  refine ⟨⟨by rw [w75]; rfl, by omega⟩, ⟨by rw [w75]; exact a.2.1.1, a.2.1.2⟩, fun j hj => absurd hj (by omega)⟩
theorem t_Ew_drift (a : cI h n1 n3 n4 G tn tx fp wy n m A B k F T c u S g I) (o : aSx n m c) (x1 : Int32) : ewP X Ew_drift (d + 14) 0 [some (.ref 0), some (.int x1)] [] (0, 0) (229, ewR 3 35 n1 n2 n3 n4, h) (eO fun h' n1 n3 n4 y => ∃ c' u' S', oDrift n m A B k F T c u S x1 y c' u' S' ∧ cI h' n1 n3 n4 G tn tx fp wy n m A B k F T c' u' S' g I) := by
  have hN := a.1.2.2.1
  have h8 := hN.1.2.1
  have l1 : ¬ x1 < 1 ↔ 1 ≤ x1.toInt := by
    rw [Int32.lt_iff_toInt_lt, show (1 : Int32).toInt = 1 from rfl]; omega
  have l2 : ¬ 999999 < x1 ↔ x1.toInt ≤ 999999 := by
    rw [Int32.lt_iff_toInt_lt, show (999999 : Int32).toInt = 999999 from rfl]; omega
  have n0 : h 3 0 = 0 ↔ n = 0 := by rw [hN.1.1]; exact nI_eq (b := 0) (by omega) (by omega)
  have no : ∀ (q : ¬ (1 ≤ x1.toInt ∧ x1.toInt ≤ 999999)), eO (fun h' n1 n3 n4 y => ∃ c' u' S', oDrift n m A B k F T c u S x1 y c' u' S' ∧ cI h' n1 n3 n4 G tn tx fp wy n m A B k F T c' u' S' g I) (some (.int (-1000000002))) (229, ewR 3 35 n1 n2 n3 n4, h) := fun q => ⟨h, n1, n2, n3, n4, _, rfl, rfl, c, u, S, Or.inl ⟨Or.inl ⟨q, rfl⟩, rfl, rfl, rfl⟩, a⟩
  refine v_Ew_drift_0 x1 h (chg_st (d := d) a) (P_Se_scatter := fun h' z1 z2 => z1 = x1 ∧ z2 = nI n ∧ cJ h' G tn tx fp wy n m A B k F T c (pPu u) (pPS u S c) g I ∧ cNo h') (R_Se_scatter := fun h' z1 z2 w => cJ w G tn tx fp wy n m A B k F T (pDc x1.toInt64 c n) (pPu u) (pPS u S c) g I ∧ cNo w) (fun z1 z2 h' hp => ?_) (P_Ew_knownBest := fun h' => aSe n m (pDc x1.toInt64 c n) ∧ cJ h' G tn tx fp wy n m A B k F T (pDc x1.toInt64 c n) (pPu u) (pPS u S c) g I ∧ cNo h') (R_Ew_knownBest := fun _ w => cI w 3 n3 n4 G tn tx fp wy n m A B k F T (pDc x1.toInt64 c n) (pPu u) (pPS u S c) g I ∧ w 142 0 = pCs (pBp (pDc x1.toInt64 c n) m A B k F T)) (fun h' hp => chg_kb hp.1 h' hp.2) (fun q1 => no (fun z => l1.mpr z.1 q1)) (fun _ _ _ => rfl) (fun q1 q2 q3 w8 hw8 => ⟨⟨rfl, hw8.1.2.2.1.1.1, hw8⟩, fun w11 hw11 => ⟨⟨(aSx_dc o h8 (l1.mp q1) (l2.mp q2)).1, hw11⟩, fun w14 hw14 => ⟨w14, 3, n2, n3, n4, _, rfl, rfl, _, _, _, Or.inr ⟨l1.mp q1, l2.mp q2, fun z => q3 (n0.mpr z), hw14.2, rfl, rfl, rfl⟩, hw14.1⟩⟩⟩) (fun q1 q2 q3 => ⟨h, n1, n2, n3, n4, _, rfl, rfl, c, u, S, Or.inl ⟨Or.inr ⟨l1.mp q1, l2.mp q2, n0.mp q3, rfl⟩, rfl, rfl, rfl⟩, a⟩) (fun q1 q2 => no (fun z => l2.mpr z.2 q2))
  obtain ⟨rfl, rfl, p1, p2⟩ := hp
  refine ewP_m (fun v S' q => ?_) (scatter_n (d := d + 13) z1 h' p1.2.2.2.1 h8)
  obtain ⟨w, ⟨q1, q2⟩, q3, q4⟩ := q
  exact ⟨w, ⟨p1.set (fun q hq => q1 q (by omega) (by omega)) q2, p2.fr (q1 0 (by omega) (by omega))⟩, q3, q4⟩
theorem t_Ew_undo (a : cI h n1 n3 n4 G tn tx fp wy n m A B k F T c u S g I) : ewP X Ew_undo (d + 14) 0 [some (.ref 0)] [] (0, 0) (229, ewR 3 35 n1 n2 n3 n4, h) (eO fun h' n1 n3 n4 y => ∃ c' u', oUndo c u S y c' u' ∧ cI h' n1 n3 n4 G tn tx fp wy n m A B k F T c' u' S g I) := by
  have hN := a.1.2.2.1
  have h8 := hN.1.2.1
  obtain ⟨⟨a1, a2, a3, a4, ⟨o, a5⟩, ⟨a6, a7⟩, a8⟩, ac⟩ := id a
  refine v_Ew_undo_0 h (P_Pa_giveBack := fun h' => h' = h) (R_Pa_giveBack := fun _ h' y => (u = 0 → y = 0 ∧ h' = h) ∧ (u ≠ 0 → y = 1 ∧ (∀ q, ¬ (67 ≤ q ∧ q ≤ 70) → q ≠ 75 → h' q = h q) ∧ cPa h' n (u - 1) S o ∧ cSt h' 67 n (S (u - 1)))) (fun h' e => by subst e; exact giveBack_n (d := d + 12) a5 h8) rfl (fun w y hw => ⟨fun q => ?_, fun q => ?_⟩)
  · have u0 : u ≠ 0 := fun z => q (hw.1 z).1
    obtain ⟨-, f, w5, w4⟩ := hw.2 u0
    obtain ⟨f1, f2, f3⟩ := forget_n w
    have ff : ∀ q, q ≠ 0 → ¬ (67 ≤ q ∧ q ≤ 70) → q ≠ 75 → g_Ew_forget w q = h q := fun q q1 q2 q3 => (f1 q q1).trans (f q q2 q3)
    refine ⟨_, n1, n2, n3, n4, _, rfl, rfl, S (u - 1), u - 1, Or.inr ⟨u0, ?_, rfl, rfl⟩, ⟨?_, ?_, a3.fr (fun q q1 q2 => ff q (by omega) (by omega) (by omega)), w4.fr (fun q q1 q2 => f1 q (by omega)), ⟨o, w5.fr (fun q q1 q2 => f1 q (by omega))⟩, ⟨?_, fun i hi hg => (a7 i hi hg).fr (fun q q1 q2 => ff q (by omega) (by omega) (by omega))⟩, ?_⟩, f3.cC⟩
    · rw [f1 75 (by omega)]; exact w5.1.1
    · rw [ff 1 (by omega) (by omega) (by omega), ff 2 (by omega) (by omega) (by omega)]; exact a1
    · rw [ff 1 (by omega) (by omega) (by omega)]; exact a2
    · rw [f2, f 0 (by omega) (by omega)]; exact a6
    · exact ⟨by rw [ff 157 (by omega) (by omega) (by omega), ff 166 (by omega) (by omega) (by omega)]; exact a8.1, fun q hq => (ff q (by omega) (by omega) (by omega)).trans (a8.2 q hq)⟩
  · by_cases u0 : u = 0
    · obtain ⟨-, rfl⟩ := hw.1 u0
      exact ⟨w, n1, n2, n3, n4, _, rfl, rfl, c, u, Or.inl ⟨u0, rfl, rfl, rfl⟩, a⟩
    · have := (hw.2 u0).1
      rw [q] at this
      exact absurd this (by decide)
theorem t_Ew_would (a : cI h n1 n3 n4 G tn tx fp wy n m A B k F T c u S g I) (o : aSx n m c) (x1 x2 : Int32) : ewP X Ew_would (d + 14) 0 [some (.ref 0), some (.int x1), some (.int x2)] [] (0, 0) (229, ewR 3 35 n1 n2 n3 n4, h) (eO fun h' n1 n3 n4 y => cI h' n1 n3 n4 G tn tx fp wy n m A B k F T c u S g I ∧
    ((¬ (∃ e, e < m ∧ x1 = nI e) ∧ y = -1000000001) ∨ ((∃ e, e < m ∧ x1 = nI e) ∧ ¬ (∃ j, j < 8 ∧ x2 = nI j) ∧ y = -1000000002) ∨ ∃ e j, e < m ∧ j < 8 ∧ x1 = nI e ∧ x2 = nI j ∧ y = pCs (pBp (upd c (16 + e) (nI j)) m A B k F T))) := by
  have hN := a.1.2.2.1
  have h8 := hN.1.2.1
  have h7 := hN.2.1.2.1
  have is := isStr (x := x1) hN
  have i7 := in_7 (x := x2) 7 (by omega)
  refine v_Ew_would_0 x1 x2 h (P_Ch_draw := fun h' => (∃ e j, e < m ∧ j < 8 ∧ x1 = nI e ∧ x2 = nI j) ∧ (∀ q, ¬ (71 ≤ q ∧ q ≤ 74) → h' q = h q) ∧ cSt h' 71 n (upd c (16 + x1.toNatClampNeg) x2)) (R_Ch_draw := fun h' w => (∀ q, ¬ (71 ≤ q ∧ q ≤ 74) → q ≠ 146 → q ≠ 147 → q ≠ 148 → q ≠ 149 → w q = h q) ∧ cKnx w n m A B k F T (upd c (16 + x1.toNatClampNeg) x2)) (fun h' hp => ?_) (fun _ _ => ⟨Or.inr (Or.inl rfl), Or.inl rfl, by omega⟩) (fun q1 q2 w6 hw => ⟨?_, ?_, fun w9 hw9 => ?_⟩) (fun q1 q2 => ⟨h, n1, n2, n3, n4, _, rfl, rfl, a, Or.inr (Or.inl ⟨is.mp q1, fun z => q2 (i7.mpr z), rfl⟩)⟩) (fun q1 => ⟨h, n1, n2, n3, n4, _, rfl, rfl, a, Or.inl ⟨fun z => q1 (is.mpr z), rfl⟩⟩)
  · obtain ⟨⟨e, j, he, hj, rfl, rfl⟩, p1, p2⟩ := hp
    rw [nI_clamp (show e < 2 ^ 31 by omega)] at p2 ⊢
    refine ewP_m (fun v S' q => ?_) (drawx_n (d := d + 2) (hN.fr (fun q q1 q2 => p1 q (by omega))) p2 (aSx_fix o h8 h7 he hj).1)
    obtain ⟨w, ⟨q1, q2⟩, q3, q4⟩ := q
    exact ⟨w, ⟨fun q y0 y1 y2 y3 y4 => (q1 q y1 y2 y3 y4).trans (p1 q y0), q2⟩, q3, q4⟩
  · obtain ⟨e, he, rfl⟩ := is.mp q1
    exact nI_inB (by omega) (by decide)
  · obtain ⟨e, he, rfl⟩ := is.mp q1
    obtain ⟨j, hj, rfl⟩ := i7.mp q2
    refine ⟨⟨e, j, he, hj, rfl, rfl⟩, fun q hq => (ewS_ne _ _ (by omega)).trans (hw.1 q (by omega)), ?_⟩
    rw [nI_clamp (show e < 2 ^ 31 by omega)]
    obtain ⟨s1, s2, s3, s4⟩ := mBe_s8 hw h8 a.1.2.2.2.1
    refine ⟨?_, ?_, fun t ht => ⟨?_, ?_⟩, fun f hf => ?_⟩
    · rw [upd, if_neg (by omega)]; exact s1
    · rw [upd, if_neg (by omega)]; exact s2
    · rw [upd, if_neg (by omega)]; exact (s3 t ht).1
    · rw [upd, if_neg (by omega)]; exact (s3 t ht).2
    · show (if f = e then nI j else w6 74 f) = if 16 + f = 16 + e then nI j else c (16 + f)
      by_cases y : f = e
      · rw [if_pos y, if_pos (by omega)]
      · rw [if_neg y, if_neg (by omega)]; exact s4 f hf
  · obtain ⟨e, he, rfl⟩ := is.mp q1
    obtain ⟨j, hj, rfl⟩ := i7.mp q2
    rw [nI_clamp (show e < 2 ^ 31 by omega)] at hw9
    have f := hw9.1
    have f0 : w9 0 = h 0 := f 0 (by omega) (by omega) (by omega) (by omega) (by omega)
    refine ⟨w9, n1, 3, n3, n4, _, rfl, rfl, ⟨a.1.fr (fun q hq => f q (by omega) (by omega) (by omega) (by omega) (by omega)) (by rw [f0]), ?_⟩, Or.inr (Or.inr ⟨e, j, he, hj, rfl, rfl, hw9.2.2.1⟩)⟩
    obtain ⟨b1, b2, b3, b4⟩ := a.2
    refine ⟨fun z => ?_, fun z => ?_, fun z => ?_, fun z => ?_⟩
    · rw [f0] at z
      exact ⟨(b1 z).1, (b1 z).2.fr (fun q hq => f q (by omega) (by omega) (by omega) (by omega) (by omega))⟩
    · rw [f0] at z ⊢
      exact b2 z
    · rw [f0] at z ⊢
      exact ⟨(b3 z).1, (b3 z).2.1, (b3 z).2.2.fr (fun q hq => f q (by omega) (by omega) (by omega) (by omega) (by omega))⟩
    · rw [f0] at z ⊢
      exact ⟨(b4 z).1, (b4 z).2.1, (b4 z).2.2.fr (fun q hq => f q (by omega) (by omega) (by omega) (by omega) (by omega))⟩
theorem t_Ew_keep (a : cI h n1 n3 n4 G tn tx fp wy n m A B k F T c u S g I) (x1 : Int32) : ewP X Ew_keep (d + 14) 0 [some (.ref 0), some (.int x1)] [] (0, 0) (229, ewR 3 35 n1 n2 n3 n4, h) (eO fun h' n1 n3 n4 y => ∃ u' g' I', oKeep c u g I x1 y u' g' I' ∧ cI h' n1 n3 n4 G tn tx fp wy n m A B k F T c u' S g' I') := by
  have hN := a.1.2.2.1
  have h8 := hN.1.2.1
  have is : f_Ew_isImage x1 ↔ ∃ i, i < 2 ∧ x1 = nI i := in_n (b := 2) (by decide)
  have cl : ∀ i, i < 2 → (nI i).toNatClampNeg = i := fun i hi => nI_clamp (by omega)
  refine v_Ew_keep_0 x1 h (fun q => ?_) (fun q => ?_) (fun q => ?_) (fun q => ?_) (fun q w hw => ?_) (fun q => ⟨h, n1, n2, n3, n4, _, rfl, rfl, u, g, I, Or.inl ⟨fun z => q (is.mpr z), rfl, rfl, rfl, rfl⟩, a⟩)
  · obtain ⟨i, hi, rfl⟩ := is.mp q
    exact nI_inB (by omega) (by decide)
  · obtain ⟨i, hi, rfl⟩ := is.mp q
    rw [cl i hi]; exact beq_f (by omega)
  · obtain ⟨i, hi, rfl⟩ := is.mp q
    rw [cl i hi]; exact ⟨Or.inr (Or.inr (Or.inr ⟨i, hi, rfl⟩)), Or.inl rfl, by omega⟩
  · obtain ⟨i, hi, rfl⟩ := is.mp q
    rw [cl i hi]
    match i, hi with
    | 0, _ => rfl
    | 1, _ => rfl
  · obtain ⟨i, hi, rfl⟩ := is.mp q
    rw [cl i hi] at hw
    obtain ⟨⟨a1, a2, a3, a4, ⟨o, a5⟩, ⟨a6, a7⟩, a8⟩, b⟩ := a
    have f := hw.1
    have f0 : w 0 = h 0 := f 0 (by omega)
    rw [f0, a6, msk2_or g hi]
    have ff : ∀ q, q ≠ 0 → q ≠ 75 → ¬ (186 + 4 * i ≤ q ∧ q ≤ 186 + 4 * i + 3) → (g_Pa_clear (ewS w 0 (upd (h 0) 7 (nI (msk (fun j => if j = i then true else g j) 2))))) q = h q := fun q q1 q2 q3 => (ewS_ne _ _ q2).trans ((ewS_ne _ _ q1).trans (f q q3))
    have ffw : ∀ q, q ≠ 0 → q ≠ 75 → (g_Pa_clear (ewS w 0 (upd (h 0) 7 (nI (msk (fun j => if j = i then true else g j) 2))))) q = w q := fun q q1 q2 => (ewS_ne _ _ q2).trans (ewS_ne _ _ q1)
    generalize eg : (g_Pa_clear (ewS w 0 (upd (h 0) 7 (nI (msk (fun j => if j = i then true else g j) 2))))) = w' at ff ffw ⊢
    have w0 : w' 0 = upd (h 0) 7 (nI (msk (fun j => if j = i then true else g j) 2)) := by rw [← eg]; exact (ewS_ne _ _ (by omega)).trans (ewS_self _ _ _)
    have w75 : w' 75 = upd (h 75) 0 0 := by rw [← eg]; show upd (w 75) 0 0 = _; rw [f 75 (by omega)]
    refine ⟨w', n1, n2, n3, n4, _, rfl, rfl, _, _, _, Or.inr ⟨i, hi, rfl, rfl, rfl, rfl, rfl⟩, ⟨?_, ?_, a3.fr (fun q q1 q2 => ff q (by omega) (by omega) (by omega)), a4.fr (fun q q1 q2 => ff q (by omega) (by omega) (by omega)), ⟨o, cPa_clear a5 w75⟩, ⟨?_, fun j hj hg => ?_⟩, ?_⟩, ?_⟩
    · rw [ff 1 (by omega) (by omega) (by omega), ff 2 (by omega) (by omega) (by omega)]; exact a1
    · rw [ff 1 (by omega) (by omega) (by omega)]; exact a2
    · rw [w0]; rfl
    · by_cases ji : j = i
      · subst ji
        dsimp only
        rw [if_pos rfl]
        exact (mBe_s8 hw h8 a4).fr (fun q q1 q2 => ffw q (by omega) (by omega))
      · dsimp only at hg ⊢
        rw [if_neg ji] at hg ⊢
        exact (a7 j hj hg).fr (fun q q1 q2 => ff q (by omega) (by omega) (by omega))
    · exact ⟨by rw [ff 157 (by omega) (by omega) (by omega), ff 166 (by omega) (by omega) (by omega)]; exact a8.1, fun q hq => (ff q (by omega) (by omega) (by omega)).trans (a8.2 q hq)⟩
    · obtain ⟨b1, b2, b3, b4⟩ := b
      have e12 : w' 0 12 = h 0 12 := by rw [w0]; rfl
      have e13 : w' 0 13 = h 0 13 := by rw [w0]; rfl
      have e14 : w' 0 14 = h 0 14 := by rw [w0]; rfl
      have e15 : w' 0 15 = h 0 15 := by rw [w0]; rfl
      have e16 : w' 0 16 = h 0 16 := by rw [w0]; rfl
      refine ⟨fun z => ?_, fun z => ?_, fun z => ?_, fun z => ?_⟩
      · rw [e12] at z
        exact ⟨(b1 z).1, (b1 z).2.fr (fun q hq => ff q (by omega) (by omega) (by omega))⟩
      · rw [e13] at z
        rw [e16]; exact b2 z
      · rw [e14] at z
        rw [e12]; exact ⟨(b3 z).1, (b3 z).2.1, (b3 z).2.2.fr (fun q hq => ff q (by omega) (by omega) (by omega))⟩
      · rw [e15] at z
        rw [e12]; exact ⟨(b4 z).1, (b4 z).2.1, (b4 z).2.2.fr (fun q hq => ff q (by omega) (by omega) (by omega))⟩
theorem t_Ew_goBack (a : cI h n1 n3 n4 G tn tx fp wy n m A B k F T c u S g I) (oi : ∀ i, i < 2 → g i = true → aSe n m (I i)) (x1 : Int32) : ewP X Ew_goBack (d + 14) 0 [some (.ref 0), some (.int x1)] [] (0, 0) (229, ewR 3 35 n1 n2 n3 n4, h) (eO fun h' n1 n3 n4 y => ∃ c' u', oGoBack m A B k F T c u g I x1 y c' u' ∧ cI h' n1 n3 n4 G tn tx fp wy n m A B k F T c' u' S g I) := by
  have hN := a.1.2.2.1
  have h8 := hN.1.2.1
  have is : f_Ew_isImage x1 ↔ ∃ i, i < 2 ∧ x1 = nI i := in_n (b := 2) (by decide)
  have cl : ∀ i, i < 2 → (nI i).toNatClampNeg = i := fun i hi => nI_clamp (by omega)
  have a6 := a.1.2.2.2.2.2.1.1
  have ih : ∀ i, i < 2 → (f_Ew_has (h 0 7) (nI i) ↔ g i = true) := fun i hi => by rw [a6]; exact msk2_bit g hi
  refine v_Ew_goBack_0 x1 h (P_Ew_knownBest := fun h' => ∃ i, i < 2 ∧ x1 = nI i ∧ g i = true ∧ cJ h' G tn tx fp wy n m A B k F T (I i) 0 S g I ∧ cNo h') (R_Ew_knownBest := fun _ w => ∃ i, i < 2 ∧ x1 = nI i ∧ g i = true ∧ cI w 3 n3 n4 G tn tx fp wy n m A B k F T (I i) 0 S g I ∧ w 142 0 = pCs (pBp (I i) m A B k F T)) (fun h' hp => ?_) (fun q q2 => ?_) (fun q q2 => ?_) (fun q q2 => ?_) (fun q q2 w hw => ⟨?_, fun w9 hw9 => ?_⟩) (fun q q2 => ?_) (fun q => ⟨h, n1, n2, n3, n4, _, rfl, rfl, c, u, Or.inl ⟨Or.inl ⟨fun z => q (is.mpr z), rfl⟩, rfl, rfl⟩, a⟩)
  · obtain ⟨i, hi, p1, p2, p3⟩ := hp
    refine ewP_m (fun v S' q => ?_) (chg_kb (oi i hi p2) h' p3)
    obtain ⟨w, q1, q2, q3⟩ := q
    exact ⟨w, ⟨i, hi, p1, p2, q1⟩, q2, q3⟩
  · obtain ⟨i, hi, rfl⟩ := is.mp q
    exact nI_inB (by omega) (by decide)
  · obtain ⟨i, hi, rfl⟩ := is.mp q
    rw [cl i hi]; exact beq_f (by omega)
  · obtain ⟨i, hi, rfl⟩ := is.mp q
    rw [cl i hi]; exact ⟨Or.inl rfl, Or.inr (Or.inr (Or.inr ⟨i, hi, rfl⟩)), by omega⟩
  · obtain ⟨i, hi, rfl⟩ := is.mp q
    rw [cl i hi] at hw
    have gi := (ih i hi).mp q2
    obtain ⟨⟨a1, a2, a3, a4, ⟨o, a5⟩, ⟨a6, a7⟩, a8⟩, b⟩ := a
    have f := hw.1
    obtain ⟨f1, f2, f3⟩ := forget_n (g_Pa_clear w)
    have f1' : ∀ q, q ≠ 0 → q ≠ 75 → g_Ew_forget (g_Pa_clear w) q = w q := fun q q1 q2 => (f1 q q1).trans (ewS_ne _ _ q2)
    have ff : ∀ q, q ≠ 0 → ¬ (67 ≤ q ∧ q ≤ 70) → q ≠ 75 → g_Ew_forget (g_Pa_clear w) q = h q := fun q q1 q2 q3 => (f1' q q1 q3).trans (f q q2)
    refine ⟨i, hi, rfl, gi, ⟨?_, ?_, a3.fr (fun q q1 q2 => ff q (by omega) (by omega) (by omega)), (mBe_s8 hw h8 (a7 i hi gi)).fr (fun q q1 q2 => f1' q (by omega) (by omega)), ⟨o, cPa_clear a5 ?_⟩, ⟨?_, fun j hj hg => (a7 j hj hg).fr (fun q q1 q2 => ff q (by omega) (by omega) (by omega))⟩, ?_⟩, f3⟩
    · rw [ff 1 (by omega) (by omega) (by omega), ff 2 (by omega) (by omega) (by omega)]; exact a1
    · rw [ff 1 (by omega) (by omega) (by omega)]; exact a2
    · rw [f1 75 (by omega)]; show upd (w 75) 0 0 = _; rw [f 75 (by omega)]
    · rw [f2]; show w 0 7 = _; rw [f 0 (by omega)]; exact a6
    · exact ⟨by rw [ff 157 (by omega) (by omega) (by omega), ff 166 (by omega) (by omega) (by omega)]; exact a8.1, fun q hq => (ff q (by omega) (by omega) (by omega)).trans (a8.2 q hq)⟩
  · obtain ⟨i, hi, e1, gi, p1, p2⟩ := hw9
    exact ⟨w9, 3, n2, n3, n4, _, rfl, rfl, _, _, Or.inr ⟨i, hi, e1, gi, p2, rfl, rfl⟩, p1⟩
  · obtain ⟨i, hi, rfl⟩ := is.mp q
    have gi : g i = false := by
      cases y : g i with
      | false => rfl
      | true => exact absurd ((ih i hi).mpr y) q2
    exact ⟨h, n1, n2, n3, n4, _, rfl, rfl, c, u, Or.inl ⟨Or.inr ⟨i, hi, rfl, gi, rfl⟩, rfl, rfl⟩, a⟩
end EW9
