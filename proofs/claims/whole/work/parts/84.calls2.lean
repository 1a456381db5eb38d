/-! the reference's calls: loose, count, move, would, plans, undo, keep -/
section CALLS2
variable {h w : Nat → Nat → Int32} {G : Nat → Nat → Int32} {tn : Nat} {tx : Nat → Int32} {fp wy : Int32} {n m : Nat} {A B : Nat → Nat} {k : Nat} {F T : Nat → Nat} {c : Nat → Int32} {u : Nat} {S : Nat → Nat → Int32} {g : Nat → Bool} {I : Nat → Nat → Int32}
theorem isStation_n (a : mI h G tn tx fp wy n m A B k F T c u S g I) (x : Int32) : f_Mo_isStation h x ↔ ∃ s, s < n ∧ x = nI s := by
  have h1 := a.2.2.1.1.1
  have h8 := a.2.2.1.1.2.1
  unfold f_Mo_isStation
  rw [h1]
  exact in_cnt x (by omega)
theorem isLine_n (a : mI h G tn tx fp wy n m A B k F T c u S g I) (x : Int32) : f_Mo_isLine h x ↔ ∃ l, l < k ∧ x = nI l := by
  have h1 := a.2.2.1.2.2.1
  unfold f_Mo_isLine
  rw [h1.1]
  exact in_cnt x (by omega)
theorem t_Mo_loose {X : Nat × (Nat → Int32)} {d : Nat} {cu sp n1 n2 n3 n4 : Nat} (a : mI h G tn tx fp wy n m A B k F T c u S g I) (hu : u ≤ 16) (x1 : Int32) : ewP X Mo_loose (d + 2) 0 [some (.ref 194), some (.int x1), none] [] (0, 0) (229, ewR cu sp n1 n2 n3 n4, h) (fun v S' => ∃ (h' : Nat → Nat → Int32) (y : Int32), v = some (.int y) ∧ S' = (229, ewR cu sp n1 n2 n3 n4, h') ∧
    ((¬ (∃ e, e < m ∧ x1 = nI e) ∧ y = -1000000001 ∧ h' = h) ∨ ∃ e, e < m ∧ x1 = nI e ∧ ((c (16 + e) < 0 ∧ y = -1000000003 ∧ h' = h) ∨ (¬ c (16 + e) < 0 ∧ y = c (16 + e) ∧ mI h' G tn tx fp wy n m A B k F T (upd c (16 + e) (-1)) (pPu u) (pPS u S c) g I)))) := by
  have is := isStretch_n a x1
  have h7 := a.2.2.1.1.2.2.2.1
  have a4 := a.2.2.2.1
  have s16 : ∀ e, (16 : Int32) + nI e = nI (16 + e) := fun e => nI_ad 16 e
  refine v_Mo_loose_0 x1 h (fun q => ?_) (fun _ _ => ⟨u, a.2.2.2.2.1.1, hu⟩) (fun q1 q2 w6 hw6 => ?_) (fun q1 q2 => ?_) (fun q => ⟨h, _, rfl, rfl, Or.inl ⟨fun z => q (is.mpr z), rfl, rfl⟩⟩)
  · obtain ⟨e, he, rfl⟩ := is.mp q
    rw [s16]; exact nI_inB (by omega) (by decide)
  · obtain ⟨e, he, rfl⟩ := is.mp q1
    rw [s16, nI_clamp (show 16 + e < 2 ^ 31 by omega)] at q2 ⊢
    rw [a4 _ (by omega)] at q2
    have b := (a.rm hu hw6)
    refine ⟨nI_inB (by omega) (by decide), _, _, rfl, rfl, Or.inr ⟨e, he, rfl, Or.inr ⟨q2, b.2.2.2.1 _ (by omega), b.st (16 + e) (-1)⟩⟩⟩
  · obtain ⟨e, he, rfl⟩ := is.mp q1
    rw [s16, nI_clamp (show 16 + e < 2 ^ 31 by omega), a4 _ (by omega)] at q2
    exact ⟨h, _, rfl, rfl, Or.inr ⟨e, he, rfl, Or.inl ⟨q2, rfl, rfl⟩⟩⟩
theorem mSe_way (o : mSe c m) (h7 : m ≤ 7) {v : Nat} (hv : v < 4) : mSe (upd c 23 (nI v)) m := by
  obtain ⟨o1, o2, o3⟩ := o
  refine ⟨by rw [upd, if_pos rfl, nI_clamp (by omega)]; exact ⟨rfl, hv⟩, by rw [upd, if_neg (by omega)]; exact o2, fun f hf => ?_⟩
  rw [upd, if_neg (by omega)]
  exact o3 f hf
theorem mSe_off (o : mSe c m) (h7 : m ≤ 7) {v : Nat} (hv : v < 10) : mSe (upd c 24 (nI v)) m := by
  obtain ⟨o1, o2, o3⟩ := o
  refine ⟨by rw [upd, if_neg (by omega)]; exact o1, by rw [upd, if_pos rfl, nI_clamp (by omega)]; exact ⟨rfl, hv⟩, fun f hf => ?_⟩
  rw [upd, if_neg (by omega)]
  exact o3 f hf
theorem mSe_xy (o : mSe c m) {i : Nat} (hi : i < 16) (x : Int32) : mSe (upd c i x) m := by
  obtain ⟨o1, o2, o3⟩ := o
  refine ⟨by rw [upd, if_neg (by omega)]; exact o1, by rw [upd, if_neg (by omega)]; exact o2, fun f hf => ?_⟩
  rw [upd, if_neg (by omega)]
  exact o3 f hf
theorem t_Mo_move {X : Nat × (Nat → Int32)} {d : Nat} {cu sp n1 n2 n3 n4 : Nat} (a : mI h G tn tx fp wy n m A B k F T c u S g I) (o : mSe c m) (hu : u ≤ 16) (x1 x2 x3 : Int32) : ewP X Mo_move (d + 7) 0 [some (.ref 194), some (.int x1), some (.int x2), some (.int x3)] [] (0, 0) (229, ewR cu sp n1 n2 n3 n4, h) (fun v S' => ∃ (h' : Nat → Nat → Int32) (y : Int32), v = some (.int y) ∧ S' = (229, ewR cu sp n1 n2 n3 n4, h') ∧
    ((¬ (∃ s, s < n ∧ x1 = nI s) ∧ y = -1000000001 ∧ h' = h) ∨ ((∃ s, s < n ∧ x1 = nI s) ∧ ¬ ((∃ j, j < 100 ∧ x2 = nI j) ∧ ∃ j, j < 100 ∧ x3 = nI j) ∧ y = -1000000002 ∧ h' = h) ∨ ∃ s i j, s < n ∧ i < 100 ∧ j < 100 ∧ x1 = nI s ∧ x2 = nI i ∧ x3 = nI j ∧ y = pCs (pBp (upd (upd c s (nI i)) (8 + s) (nI j)) m A B k F T) ∧ mI h' G tn tx fp wy n m A B k F T (upd (upd c s (nI i)) (8 + s) (nI j)) (pPu u) (pPS u S c) g I)) := by
  have is := isStation_n a x1
  have i2 := in_07 x2 99 (by omega)
  have i3 := in_07 x3 99 (by omega)
  have h8 := a.2.2.1.1.2.1
  refine v_Mo_move_0 x1 x2 x3 h (fun q1 q2 => ⟨h, _, rfl, rfl, Or.inr (Or.inl ⟨is.mp q1, fun z => q2 (i2.mpr z.1), rfl, rfl⟩)⟩) (fun _ _ _ => ⟨u, a.2.2.2.2.1.1, hu⟩) (fun q1 q2 q3 w8 hw8 => ?_) (fun q1 q2 q3 => ⟨h, _, rfl, rfl, Or.inr (Or.inl ⟨is.mp q1, fun z => q3 (i3.mpr z.2), rfl, rfl⟩)⟩) (fun q => ⟨h, _, rfl, rfl, Or.inl ⟨fun z => q (is.mpr z), rfl, rfl⟩⟩)
  obtain ⟨s, hs, rfl⟩ := is.mp q1
  obtain ⟨i, hi, rfl⟩ := i2.mp q2
  obtain ⟨j, hj, rfl⟩ := i3.mp q3
  have s8 : (8 : Int32) + nI s = nI (8 + s) := nI_ad 8 s
  rw [s8, nI_clamp (show s < 2 ^ 31 by omega), nI_clamp (show 8 + s < 2 ^ 31 by omega)]
  have b := ((a.rm hu hw8).st s (nI i)).st (8 + s) (nI j)
  rw [ewS_self] at b
  have o2 := mSe_xy (mSe_xy o (show s < 16 by omega) (nI i)) (show 8 + s < 16 by omega) (nI j)
  refine ⟨nI_inB (by omega) (by decide), nI_inB (by omega) (by decide), (b.p o2).1, fun w9 y10 hw9 => ?_⟩
  obtain ⟨e1, e2⟩ := b.bc o2 hw9
  exact ⟨w9, y10, rfl, rfl, Or.inr (Or.inr ⟨s, i, j, hs, by omega, by omega, rfl, rfl, rfl, e1, e2⟩)⟩
theorem t_Mo_plans {X : Nat × (Nat → Int32)} {d : Nat} {cu sp n1 n2 n3 n4 : Nat} (a : mI h G tn tx fp wy n m A B k F T c u S g I) (o : mSe c m) : ewP X Mo_plans (d + 6) 0 [some (.ref 194)] [] (0, 0) (229, ewR cu sp n1 n2 n3 n4, h) (fun v S' => ∃ (h' : Nat → Nat → Int32), v = some (.int (nI (pBp c m A B k F T).1)) ∧ S' = (229, ewR cu sp n1 n2 n3 n4, h') ∧ mI h' G tn tx fp wy n m A B k F T c u S g I) := by
  obtain ⟨p1, p2⟩ := a.p o
  refine v_Mo_plans_0 h p1 (fun w hw => ⟨w, ?_, rfl, a.fr hw.1 (by decide) (by decide) (by decide) (by decide)⟩)
  rw [hw.2.2.1, p2]
theorem t_Mo_would {X : Nat × (Nat → Int32)} {d : Nat} {cu sp n1 n2 n3 n4 : Nat} (a : mI h G tn tx fp wy n m A B k F T c u S g I) (o : mSe c m) (x1 x2 : Int32) : ewP X Mo_would (d + 7) 0 [some (.ref 194), some (.int x1), some (.int x2), none, none] [] (0, 0) (229, ewR cu sp n1 n2 n3 n4, h) (fun v S' => ∃ (h' : Nat → Nat → Int32) (y : Int32), v = some (.int y) ∧ S' = (229, ewR cu sp n1 n2 n3 n4, h') ∧ mI h' G tn tx fp wy n m A B k F T c u S g I ∧
    ((¬ (∃ e, e < m ∧ x1 = nI e) ∧ y = -1000000001) ∨ ((∃ e, e < m ∧ x1 = nI e) ∧ ¬ (∃ j, j < 8 ∧ x2 = nI j) ∧ y = -1000000002) ∨ ∃ e j, e < m ∧ j < 8 ∧ x1 = nI e ∧ x2 = nI j ∧ y = pCs (pBp (upd c (16 + e) (nI j)) m A B k F T))) := by
  have is := isStretch_n a x1
  have i7 := in_07 x2 7 (by omega)
  have h7 := a.2.2.1.1.2.2.2.1
  have s16 : ∀ e, (16 : Int32) + nI e = nI (16 + e) := fun e => nI_ad 16 e
  refine v_Mo_would_0 x1 x2 h (fun q1 q2 => ?_) (fun q1 q2 => ?_) (fun q1 q2 w6 y7 hw6 => ?_) (fun q1 q2 => ⟨h, _, rfl, rfl, a, Or.inr (Or.inl ⟨is.mp q1, fun z => q2 (i7.mpr z), rfl⟩)⟩) (fun q => ⟨h, _, rfl, rfl, a, Or.inl ⟨fun z => q (is.mpr z), rfl⟩⟩)
  · obtain ⟨e, he, rfl⟩ := is.mp q1
    rw [s16]; exact nI_inB (by omega) (by decide)
  · obtain ⟨e, he, rfl⟩ := is.mp q1
    obtain ⟨j, hj, rfl⟩ := i7.mp q2
    rw [s16, nI_clamp (show 16 + e < 2 ^ 31 by omega)]
    exact ((a.st (16 + e) (nI j)).p (mSe_fix o (by omega) (by omega))).1
  · obtain ⟨e, he, rfl⟩ := is.mp q1
    obtain ⟨j, hj, rfl⟩ := i7.mp q2
    rw [s16, nI_clamp (show 16 + e < 2 ^ 31 by omega)] at *
    obtain ⟨e1, e2⟩ := (a.st (16 + e) (nI j)).bc (mSe_fix o (by omega) (by omega)) hw6
    refine ⟨nI_inB (by omega) (by decide), _, y7, rfl, rfl, ?_, Or.inr (Or.inr ⟨e, j, he, by omega, rfl, rfl, e1⟩)⟩
    have b := e2.st (16 + e) (h 202 (16 + e))
    rw [a.2.2.2.1 _ (by omega), upd_S, upd_id c (16 + e) rfl] at b
    rw [a.2.2.2.1 _ (by omega)]
    exact b
end CALLS2
