/-! signs told of a drawing; the reference's calls: stretch, station -/
/-- station s has room for its sign in direction d: places P, Q; no stretch of s goes there -/
def psf (n m : Nat) (A B dv : Nat → Nat) (P Q : Nat → Int32) (s d : Nat) : Bool :=
  (! (List.range n).any fun t => decide (t ≠ s ∧ plb A B m t = plb A B m s ∧ P t = P s + f_Mo_stepX (nI d) ∧ Q t = Q s + f_Mo_stepY (nI d))) && (List.range m).all fun e => decide (¬ ((A e = s ∨ B e = s) ∧ pwf A dv e s = d))
def psg (n m : Nat) (A B dv : Nat → Nat) (P Q : Nat → Int32) (s : Nat) : Nat → Nat → Int32
  | 0, _ => -1
  | k + 1, j => if psf n m A B dv P Q s j = true then nI j else psg n m A B dv P Q s k (j + 1)
theorem pSu_iff {h : Nat → Nat → Int32} {x1 x2 : Int32} : ∀ m, pSu h x1 x2 m = true ↔ ∀ e, e < m → ¬ (f_Mo_goesFrom h (nI e) x1) ∨ ¬ (f_Mo_wayFrom h 214 (nI e) x1 = x2)
  | 0 => ⟨fun _ e he => by omega, fun _ => rfl⟩
  | m + 1 => by
    show (pSu h x1 x2 m && decide (¬ (f_Mo_goesFrom h (nI m) x1) ∨ ¬ (f_Mo_wayFrom h 214 (nI m) x1 = x2))) = true ↔ _
    rw [Bool.and_eq_true, decide_eq_true_iff, pSu_iff m]
    constructor
    · rintro ⟨h1, h2⟩ e he
      by_cases q : e = m
      · rw [q]; exact h2
      · exact h1 e (by omega)
    · exact fun h1 => ⟨fun e he => h1 e (by omega), h1 m (by omega)⟩
theorem psf_iff {n m : Nat} {A B dv : Nat → Nat} {P Q : Nat → Int32} {s d : Nat} : psf n m A B dv P Q s d = true ↔ (∀ t, t < n → ¬ (t ≠ s ∧ plb A B m t = plb A B m s ∧ P t = P s + f_Mo_stepX (nI d) ∧ Q t = Q s + f_Mo_stepY (nI d))) ∧ ∀ e, e < m → ¬ ((A e = s ∨ B e = s) ∧ pwf A dv e s = d) := by
  unfold psf
  rw [Bool.and_eq_true, Bool.not_eq_true', List.any_eq_false, List.all_eq_true]
  constructor
  · rintro ⟨h1, h2⟩
    exact ⟨fun t ht z => h1 t (List.mem_range.mpr ht) (decide_eq_true z), fun e he => of_decide_eq_true (h2 e (List.mem_range.mpr he))⟩
  · rintro ⟨h1, h2⟩
    exact ⟨fun t ht z => h1 t (List.mem_range.mp ht) (of_decide_eq_true z), fun e he => decide_eq_true (h2 e (List.mem_range.mp he))⟩
/-- places P, Q as they lie in the reference -/
theorem pSf_n {w : Nat → Nat → Int32} {n m : Nat} {A B dv : Nat → Nat} {P Q : Nat → Int32} (hs : mSt w n m A B) (hz : ∀ e, m ≤ e → A e = 0 ∧ B e = 0) (hv : mDr w 214 m dv) (hr : ∀ s, s < n → w 215 s = nI (prt (plb A B m) s)) (hx : ∀ s, s < n → w 216 s = P s ∧ w 217 s = Q s) {s d : Nat} (h1 : s < n) (hd : d < 8) : pSf w (nI s) d = psf n m A B dv P Q s d := by
  have h8 := hs.2.1
  obtain ⟨g1, g2, g3, g4⟩ := hs.g hz
  rw [Bool.eq_iff_iff, psf_iff]
  unfold pSf
  rw [Bool.and_eq_true, Bool.not_eq_true', Bool.eq_false_iff, Ne, pTk_iff, pSu_iff, g1, g2, nI_clamp (show s < 2 ^ 31 by omega)]
  refine and_congr ?_ ?_
  · constructor
    · intro z t ht y
      refine z ⟨t, ht, fun q => y.1 ((nI_eq (by omega) (by omega)).mp q), ?_, ?_, ?_⟩
      · rw [hr t ht, hr s h1, prt_eq y.2.1]
      · rw [(hx t ht).1, (hx s h1).1]; exact y.2.2.1
      · rw [(hx t ht).2, (hx s h1).2]; exact y.2.2.2
    · rintro z ⟨t, ht, q1, q2, q3, q4⟩
      refine z t ht ⟨fun q => q1 (by rw [q]), ?_, ?_, ?_⟩
      · rw [hr t ht, hr s h1] at q2
        have l1 := (prt_at (plb A B m) t).2.1
        have l2 := (prt_at (plb A B m) s).2.1
        have e1 := (nI_eq (by omega) (by omega)).mp q2
        rw [← (prt_at (plb A B m) s).1, ← e1, (prt_at (plb A B m) t).1]
      · rw [← (hx t ht).1, ← (hx s h1).1]; exact q3
      · rw [← (hx t ht).2, ← (hx s h1).2]; exact q4
  · refine forall_congr' fun e => forall_congr' fun he => ?_
    have hb := hs.2.2.2.2.2.1 e he
    have h7 := hs.2.2.2.1
    have e1 : f_Mo_goesFrom w (nI e) (nI s) ↔ (A e = s ∨ B e = s) := by
      show (w 195 (nI e).toNatClampNeg = nI s ∨ w 196 (nI e).toNatClampNeg = nI s) ↔ _
      rw [nI_clamp (by omega), (hs.2.2.2.2.1 e he).1, (hs.2.2.2.2.1 e he).2, nI_eq (by omega) (by omega), nI_eq (by omega) (by omega)]
    have lt := pwf_lt (A := A) (s := s) (hv.2 e he).2
    rw [e1, (wayFrom_n hs hv he h1).2, nI_eq (by omega) (by omega), ← Decidable.not_and_iff_or_not]
theorem pSg_n {w : Nat → Nat → Int32} {n m : Nat} {A B dv : Nat → Nat} {P Q : Nat → Int32} (hs : mSt w n m A B) (hz : ∀ e, m ≤ e → A e = 0 ∧ B e = 0) (hv : mDr w 214 m dv) (hr : ∀ s, s < n → w 215 s = nI (prt (plb A B m) s)) (hx : ∀ s, s < n → w 216 s = P s ∧ w 217 s = Q s) {s : Nat} (h1 : s < n) : ∀ k j, j + k ≤ 8 → pSg w (nI s) k j = psg n m A B dv P Q s k j
  | 0, _, _ => rfl
  | k + 1, j, h => by
    show (if pSf w (nI s) j = true then nI j else pSg w (nI s) k (j + 1)) = if psf n m A B dv P Q s j = true then nI j else psg n m A B dv P Q s k (j + 1)
    rw [pSf_n hs hz hv hr hx h1 (by omega), pSg_n hs hz hv hr hx h1 k (j + 1) (by omega)]
theorem psg_lt {n m : Nat} {A B dv : Nat → Nat} {P Q : Nat → Int32} {s : Nat} : ∀ k j, psg n m A B dv P Q s k j = -1 ∨ ∃ i, i < j + k ∧ psg n m A B dv P Q s k j = nI i
  | 0, _ => Or.inl rfl
  | k + 1, j => by
    show (if psf n m A B dv P Q s j = true then nI j else psg n m A B dv P Q s k (j + 1)) = -1 ∨ ∃ i, i < j + (k + 1) ∧ (if psf n m A B dv P Q s j = true then nI j else psg n m A B dv P Q s k (j + 1)) = nI i
    split
    · exact Or.inr ⟨j, by omega, rfl⟩
    · rcases psg_lt k (j + 1) with q | ⟨i, hi, q⟩
      · exact Or.inl q
      · exact Or.inr ⟨i, by omega, q⟩
/-- the places of the drawing, told from the least station of each tree -/
def pPx (n m : Nat) (A B dv : Nat → Nat) (s : Nat) : Int32 := ppx A B (pdx dv (pBl n m A B dv).2) m s - ppx A B (pdx dv (pBl n m A B dv).2) m (prt (plb A B m) s)
def pPy (n m : Nat) (A B dv : Nat → Nat) (s : Nat) : Int32 := ppx A B (pdy dv (pBl n m A B dv).2) m s - ppx A B (pdy dv (pBl n m A B dv).2) m (prt (plb A B m) s)
def pSn (n m : Nat) (A B dv : Nat → Nat) (s : Nat) : Int32 := psg n m A B dv (pPx n m A B dv) (pPy n m A B dv) s 8 0
/-- what stretch answers -/
def aSt (n m : Nat) (A B : Nat → Nat) (k : Nat) (F T : Nat → Nat) (c : Nat → Int32) (e : Nat) (x : Int32) : Int32 :=
  if x = 0 then nI (A e) else if x = 1 then nI (B e) else if x = 2 then nI (ptr c A B e) else
  if x = 3 then (if (pBp c m A B k F T).2.1 = 1000000 then -1 else nI ((pBp c m A B k F T).2.2 e)) else
  if x = 4 then (if (pBp c m A B k F T).2.1 = 1000000 then -1 else nI (pap ((pBp c m A B k F T).2.2 e) (ptr c A B e))) else
  if x = 5 then (if (pBp c m A B k F T).2.1 = 1000000 ∨ (pBl n m A B (pBp c m A B k F T).2.2).1 = 1000000 then -1 else nI ((pBl n m A B (pBp c m A B k F T).2.2).2 e)) else
  if x = 6 then c (16 + e) else if x = 7 then nI (pLs m A B k F T e) else -1000000002
/-- what station answers -/
def aSo (n m : Nat) (A B : Nat → Nat) (k : Nat) (F T : Nat → Nat) (c : Nat → Int32) (s : Nat) (x : Int32) : Int32 :=
  if x = 0 then c s else if x = 1 then c (8 + s) else if x = 2 then nI (prt (plb A B m) s) else if x = 3 then nI (pdeg A B m s) else
  if x = 4 then (if (pBp c m A B k F T).2.1 = 1000000 ∨ (pBl n m A B (pBp c m A B k F T).2.2).1 = 1000000 then -99 else pPx n m A B (pBp c m A B k F T).2.2 s) else
  if x = 5 then (if (pBp c m A B k F T).2.1 = 1000000 ∨ (pBl n m A B (pBp c m A B k F T).2.2).1 = 1000000 then -99 else pPy n m A B (pBp c m A B k F T).2.2 s) else
  if x = 6 then (if (pBp c m A B k F T).2.1 = 1000000 ∨ (pBl n m A B (pBp c m A B k F T).2.2).1 = 1000000 then -1 else pSn n m A B (pBp c m A B k F T).2.2 s) else -1000000002
theorem i32_out {x : Int32} (b : Nat) (hb : b < 2 ^ 31) (h : x < 0 ∨ nI b ≤ x) : ∀ i, i < b → x ≠ nI i := by
  intro i hi e
  rw [e] at h
  rcases h with h | h
  · exact nI_nlt (b := 0) (Nat.zero_le _) (by omega) h
  · have := (Int32.le_iff_toInt_le).mp h
    rw [nI_toInt hb, nI_toInt (by omega)] at this
    omega
section CALLS11
variable {h w : Nat → Nat → Int32} {G : Nat → Nat → Int32} {tn : Nat} {tx : Nat → Int32} {fp wy : Int32} {n m : Nat} {A B : Nat → Nat} {k : Nat} {F T : Nat → Nat} {c : Nat → Int32} {u : Nat} {S : Nat → Nat → Int32} {g : Nat → Bool} {I : Nat → Nat → Int32}
/-- the sum of lengths told: none -/
theorem mI.l39 {w4 w7 : Nat → Nat → Int32} (a : mI h G tn tx fp wy n m A B k F T c u S g I) (o : mSe c m) (h4 : mLp h w4) (h9 : mLg w4 w7) : (w7 194 39 < 0 ↔ (pBp c m A B k F T).2.1 = 1000000 ∨ (pBl n m A B (pBp c m A B k F T).2.2).1 = 1000000) ∧ (¬ w7 194 39 < 0 → ¬ w7 194 32 < 0) ∧ (w7 194 39 = if (pBp c m A B k F T).2.1 = 1000000 ∨ (pBl n m A B (pBp c m A B k F T).2.2).1 = 1000000 then -1 else nI (pBl n m A B (pBp c m A B k F T).2.2).1) := by
  obtain ⟨a7, neg, good, tr, ro, l1, l2⟩ := a.ll o h4 h9
  by_cases q : w7 194 32 < 0
  · have q2 := neg.mp q
    have q3 := l1 q
    rw [if_pos (Or.inl q2)]
    exact ⟨⟨fun _ => Or.inl q2, fun _ => by rw [q3]; decide⟩, fun z => absurd (by rw [q3]; decide) z, q3⟩
  · have q2 : ¬ (pBp c m A B k F T).2.1 = 1000000 := fun z => q (neg.mpr z)
    obtain ⟨⟨y1, y2⟩, -⟩ := l2 q
    by_cases p : (pBl n m A B (pBp c m A B k F T).2.2).1 = 1000000
    · have := y1 p
      rw [if_pos (Or.inr p)]
      exact ⟨⟨fun _ => Or.inr p, fun _ => by rw [this]; decide⟩, fun z => q, this⟩
    · obtain ⟨z1, z2, z3⟩ := y2 p
      rw [if_neg (fun x => x.elim q2 p)]
      refine ⟨⟨fun z => absurd z (by rw [z2]; exact nI_nlt (b := 0) (Nat.zero_le _) (by omega)), ?_⟩, fun _ => q, z2⟩
      rintro (x | x)
      · exact absurd x q2
      · exact absurd x p
theorem t_Mo_stretch {X : Nat × (Nat → Int32)} {d : Nat} {cu sp n1 n2 n3 n4 : Nat} (a : mI h G tn tx fp wy n m A B k F T c u S g I) (o : mSe c m) (x1 x2 : Int32) : ewP X Mo_stretch (d + 6) 0 [some (.ref 194), some (.int x1), some (.int x2)] [] (0, 0) (229, ewR cu sp n1 n2 n3 n4, h) (fun v S' => ∃ (h' : Nat → Nat → Int32) (y : Int32), v = some (.int y) ∧ S' = (229, ewR cu sp n1 n2 n3 n4, h') ∧ mI h' G tn tx fp wy n m A B k F T c u S g I ∧
    ((¬ (∃ e, e < m ∧ x1 = nI e) ∧ y = -1000000001) ∨ ∃ e, e < m ∧ x1 = nI e ∧ y = aSt n m A B k F T c e x2)) := by
  have i1 := isStretch_n a x1
  obtain ⟨p1, p2⟩ := a.p o
  refine v_Mo_stretch_0 x1 x2 h (fun _ => p1) (fun q w4 h4 => ⟨(mLp.at p1 h4).2.2.2.2.2.2, fun w7 h9 => ?_⟩) (fun q => ⟨h, _, rfl, rfl, a, Or.inl ⟨fun z => q (i1.mpr z), rfl⟩⟩)
  obtain ⟨a7, neg, good, tr, ro, l1, l2⟩ := a.ll o h4 h9
  obtain ⟨n39, i39, e39⟩ := a.l39 o h4 h9
  obtain ⟨e, he, rfl⟩ := i1.mp q
  have h7 := a.2.2.1.1.2.2.2.1
  obtain ⟨g1, g2, g3, g4, g5, g6, g7⟩ := a7.2.2.1.g
  have in7 : vp_in (nI e) 7 := nI_inB (by omega) (by decide)
  have ad : (16 : Int32) + nI e = nI (16 + e) := nI_ad 16 e
  have fin : ∀ y, y = aSt n m A B k F T c e x2 → ∃ (h' : Nat → Nat → Int32) (y' : Int32), some (Value.int y) = some (.int y') ∧ ((229, ewR cu sp n1 n2 n3 n4, w7) : eS) = (229, ewR cu sp n1 n2 n3 n4, h') ∧ mI h' G tn tx fp wy n m A B k F T c u S g I ∧ ((¬ (∃ e', e' < m ∧ nI e = nI e') ∧ y' = -1000000001) ∨ ∃ e', e' < m ∧ nI e = nI e' ∧ y' = aSt n m A B k F T c e' x2) := fun y hy => ⟨w7, y, rfl, rfl, a7, Or.inr ⟨e, he, rfl, hy⟩⟩
  rw [nI_clamp (show e < 2 ^ 31 by omega)] at *
  refine ⟨fun _ => in7, fun z => fin _ ?_, fun _ => in7, fun z => fin _ ?_, fun _ => in7, fun z => fin _ ?_, fun _ _ => in7, fun z => fin _ ?_, fun _ _ => in7, fun z => fin _ ?_, fun _ _ => in7, fun z => fin _ ?_, fun _ => by rw [ad]; exact nI_inB (by omega) (by decide), fun z => fin _ ?_, fun _ => ⟨a7.2.2.1.N, e, by rw [g2]; exact he, rfl⟩, fun z => fin _ ?_, fun z => fin _ ?_⟩
  · rw [z]; exact (a7.2.2.1.1.2.2.2.2.1 e he).1
  · rw [z]; exact (a7.2.2.1.1.2.2.2.2.1 e he).2
  · rw [z]; exact tr e he
  · rw [z]
    show _ = if (pBp c m A B k F T).2.1 = 1000000 then -1 else nI ((pBp c m A B k F T).2.2 e)
    exact ite_cg neg (fun _ => rfl) (fun x => ((good (fun y => x (neg.mp y))).2.2 e he).1)
  · rw [z]
    show _ = if (pBp c m A B k F T).2.1 = 1000000 then -1 else nI (pap ((pBp c m A B k F T).2.2 e) (ptr c A B e))
    refine ite_cg neg (fun _ => rfl) (fun x => ?_)
    have y := (good (fun y => x (neg.mp y))).2.2 e he
    rw [y.1, tr e he, apart_n y.2 (ptr_n c A B e).2]
  · rw [z]
    show _ = if (pBp c m A B k F T).2.1 = 1000000 ∨ (pBl n m A B (pBp c m A B k F T).2.2).1 = 1000000 then -1 else nI ((pBl n m A B (pBp c m A B k F T).2.2).2 e)
    refine ite_cg n39 (fun _ => rfl) (fun x => ?_)
    exact (((l2 (i39 (fun y => x (n39.mp y)))).1).2 (fun y => x (Or.inr y))).2.2 e he
  · rw [z, ad, nI_clamp (by omega)]
    exact a7.2.2.2.1 _ (by omega)
  · rw [z]
    show f_Mo_linesAlong w7 (nI e) = nI (pLa A B m F T e k)
    unfold f_Mo_linesAlong
    rw [nI_clamp (by omega), g2, g3, g4, g5, g6, g7]
  · have o8 := i32_out 8 (by decide) z
    unfold aSt
    rw [if_neg (show ¬ x2 = 0 from o8 0 (by omega)), if_neg (show ¬ x2 = 1 from o8 1 (by omega)), if_neg (show ¬ x2 = 2 from o8 2 (by omega)), if_neg (show ¬ x2 = 3 from o8 3 (by omega)), if_neg (show ¬ x2 = 4 from o8 4 (by omega)), if_neg (show ¬ x2 = 5 from o8 5 (by omega)), if_neg (show ¬ x2 = 6 from o8 6 (by omega)), if_neg (show ¬ x2 = 7 from o8 7 (by omega))]
theorem t_Mo_station {X : Nat × (Nat → Int32)} {d : Nat} {cu sp n1 n2 n3 n4 : Nat} (a : mI h G tn tx fp wy n m A B k F T c u S g I) (o : mSe c m) (x1 x2 : Int32) : ewP X Mo_station (d + 6) 0 [some (.ref 194), some (.int x1), some (.int x2)] [] (0, 0) (229, ewR cu sp n1 n2 n3 n4, h) (fun v S' => ∃ (h' : Nat → Nat → Int32) (y : Int32), v = some (.int y) ∧ S' = (229, ewR cu sp n1 n2 n3 n4, h') ∧ mI h' G tn tx fp wy n m A B k F T c u S g I ∧
    ((¬ (∃ e, e < n ∧ x1 = nI e) ∧ y = -1000000001) ∨ ∃ e, e < n ∧ x1 = nI e ∧ y = aSo n m A B k F T c e x2)) := by
  have i1 := isStation_n a x1
  obtain ⟨p1, p2⟩ := a.p o
  refine v_Mo_station_0 x1 x2 h (fun _ => p1) (fun q w4 h4 => ⟨(mLp.at p1 h4).2.2.2.2.2.2, fun w7 h9 => ?_⟩) (fun q => ⟨h, _, rfl, rfl, a, Or.inl ⟨fun z => q (i1.mpr z), rfl⟩⟩)
  obtain ⟨a7, neg, good, tr, ro, l1, l2⟩ := a.ll o h4 h9
  obtain ⟨n39, i39, e39⟩ := a.l39 o h4 h9
  obtain ⟨e, he, rfl⟩ := i1.mp q
  have h7 := a.2.2.1.1.2.2.2.1
  have h8 := a.2.2.1.1.2.1
  obtain ⟨g1, g2, g3, g4, g5, g6, g7⟩ := a7.2.2.1.g
  have in7 : vp_in (nI e) 8 := nI_inB (by omega) (by decide)
  have ad : (8 : Int32) + nI e = nI (8 + e) := nI_ad 8 e
  have hm : mS w7 := a7.2.2.1.1.m a7.2.2.1.2.1
  have s1 := a7.2.2.1.1.1
  have s2 := a7.2.2.1.1.2.2.1
  have fin : ∀ y, y = aSo n m A B k F T c e x2 → ∃ (h' : Nat → Nat → Int32) (y' : Int32), some (Value.int y) = some (.int y') ∧ ((229, ewR cu sp n1 n2 n3 n4, w7) : eS) = (229, ewR cu sp n1 n2 n3 n4, h') ∧ mI h' G tn tx fp wy n m A B k F T c u S g I ∧ ((¬ (∃ e', e' < n ∧ nI e = nI e') ∧ y' = -1000000001) ∨ ∃ e', e' < n ∧ nI e = nI e' ∧ y' = aSo n m A B k F T c e' x2) := fun y hy => ⟨w7, y, rfl, rfl, a7, Or.inr ⟨e, he, rfl, hy⟩⟩
  rw [nI_clamp (show e < 2 ^ 31 by omega)] at *
  refine ⟨fun _ => nI_inB (by omega) (by decide), fun z => fin _ ?_, fun _ => by rw [ad]; exact nI_inB (by omega) (by decide), fun z => fin _ ?_, fun _ => in7, fun z => fin _ ?_, fun _ => ⟨hm, e, by rw [g1]; exact he, rfl⟩, fun z => fin _ ?_, fun _ _ => in7, fun z => fin _ ?_, fun _ _ => in7, fun z => fin _ ?_, fun _ _ => ⟨⟨by rw [g1]; exact s1, by rw [g1]; exact h8⟩, ⟨by rw [g2]; exact s2, by rw [g2]; exact h7⟩, in7⟩, fun z => fin _ ?_, fun z => fin _ ?_⟩
  · rw [z]; exact a7.2.2.2.1 _ (by omega)
  · rw [z, ad, nI_clamp (by omega)]; exact a7.2.2.2.1 _ (by omega)
  · rw [z]; exact ro e he
  · rw [z]
    show f_Mo_degree w7 (nI e) = nI (pdeg A B m e)
    unfold f_Mo_degree
    rw [nI_clamp (by omega), g2, g3, g4]
  · rw [z]
    show _ = if (pBp c m A B k F T).2.1 = 1000000 ∨ (pBl n m A B (pBp c m A B k F T).2.2).1 = 1000000 then -99 else pPx n m A B (pBp c m A B k F T).2.2 e
    exact ite_cg n39 (fun _ => rfl) (fun x => ((l2 (i39 (fun y => x (n39.mp y)))).2 (fun y => x (Or.inr y)) e he).1)
  · rw [z]
    show _ = if (pBp c m A B k F T).2.1 = 1000000 ∨ (pBl n m A B (pBp c m A B k F T).2.2).1 = 1000000 then -99 else pPy n m A B (pBp c m A B k F T).2.2 e
    exact ite_cg n39 (fun _ => rfl) (fun x => ((l2 (i39 (fun y => x (n39.mp y)))).2 (fun y => x (Or.inr y)) e he).2)
  · rw [z]
    show _ = if (pBp c m A B k F T).2.1 = 1000000 ∨ (pBl n m A B (pBp c m A B k F T).2.2).1 = 1000000 then -1 else pSn n m A B (pBp c m A B k F T).2.2 e
    refine ite_cg n39 (fun _ => rfl) (fun x => ?_)
    have i32 := i39 (fun y => x (n39.mp y))
    exact pSg_n a7.2.2.1.1 a7.2.2.1.2.1 (good i32).2 ro (fun s hs => (l2 i32).2 (fun y => x (Or.inr y)) s hs) he 8 0 (by omega)
  · have o8 := i32_out 7 (by decide) z
    unfold aSo
    rw [if_neg (show ¬ x2 = 0 from o8 0 (by omega)), if_neg (show ¬ x2 = 1 from o8 1 (by omega)), if_neg (show ¬ x2 = 2 from o8 2 (by omega)), if_neg (show ¬ x2 = 3 from o8 3 (by omega)), if_neg (show ¬ x2 = 4 from o8 4 (by omega)), if_neg (show ¬ x2 = 5 from o8 5 (by omega)), if_neg (show ¬ x2 = 6 from o8 6 (by omega))]
end CALLS11
