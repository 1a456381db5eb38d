/-! the reference's calls: line -/
section CALLS9
variable {h w : Nat → Nat → Int32} {G : Nat → Nat → Int32} {tn : Nat} {tx : Nat → Int32} {fp wy : Int32} {n m : Nat} {A B : Nat → Nat} {k : Nat} {F T : Nat → Nat} {c : Nat → Int32} {u : Nat} {S : Nat → Nat → Int32} {g : Nat → Bool} {I : Nat → Nat → Int32}
theorem t_Mo_line {X : Nat × (Nat → Int32)} {d : Nat} {cu sp n1 n2 n3 n4 : Nat} (a : mI h G tn tx fp wy n m A B k F T c u S g I) (o : mSe c m) (x1 x2 : Int32) : ewP X Mo_line (d + 7) 0 [some (.ref 194), some (.int x1), some (.int x2)] [] (0, 0) (229, ewR cu sp n1 n2 n3 n4, h) (fun v S' => ∃ (h' : Nat → Nat → Int32) (y : Int32), v = some (.int y) ∧ S' = (229, ewR cu sp n1 n2 n3 n4, h') ∧ mI h' G tn tx fp wy n m A B k F T c u S g I ∧
    ((¬ (∃ l, l < k ∧ x1 = nI l) ∧ y = -1000000001) ∨ ∃ l, l < k ∧ x1 = nI l ∧ ((x2 = 0 ∧ y = nI (F l)) ∨ (x2 = 1 ∧ y = nI (T l)) ∨ (x2 = 2 ∧ y = nI (tds A B m (F l) (T l))) ∨ (x2 = 3 ∧ y = (if (pBp c m A B k F T).2.1 = 1000000 then -1 else nI (pbd (c 23).toNatClampNeg A B m (pBp c m A B k F T).2.2 (F l) (T l)))) ∨ ((x2 < 0 ∨ 4 ≤ x2) ∧ y = -1000000002)))) := by
  have i1 := isLine_n a x1
  have hk3 := a.2.2.1.2.2.1.2
  have hls := a.2.2.1.2.2.2.2
  obtain ⟨p1, p2⟩ := a.p o
  obtain ⟨g1, g2, g3, g4, g5, g6, g7⟩ := a.2.2.1.g
  have in3 : f_Mo_isLine h x1 → vp_in x1 3 := fun q => by
    obtain ⟨l, hl, rfl⟩ := i1.mp q
    exact nI_inB (by omega) (by decide)
  refine v_Mo_line_0 x1 x2 h (fun q _ => in3 q) (fun q z => ?_) (fun q _ => in3 q) (fun q z => ?_) (fun q _ => in3 q) (fun q z => ?_) (fun q _ => ?_) (fun q z w5 y6 hw5 => ?_) (fun q z => ?_) (fun q => ⟨h, _, rfl, rfl, a, Or.inl ⟨fun z => q (i1.mpr z), rfl⟩⟩)
  · obtain ⟨l, hl, rfl⟩ := i1.mp q
    exact ⟨h, _, rfl, rfl, a, Or.inr ⟨l, hl, rfl, Or.inl ⟨z, by rw [nI_clamp (by omega)]; exact (hls l hl).2.2.2.2.1⟩⟩⟩
  · obtain ⟨l, hl, rfl⟩ := i1.mp q
    exact ⟨h, _, rfl, rfl, a, Or.inr ⟨l, hl, rfl, Or.inr (Or.inl ⟨z, by rw [nI_clamp (by omega)]; exact (hls l hl).2.2.2.2.2.1⟩)⟩⟩
  · obtain ⟨l, hl, rfl⟩ := i1.mp q
    exact ⟨h, _, rfl, rfl, a, Or.inr ⟨l, hl, rfl, Or.inr (Or.inr (Or.inl ⟨z, by rw [nI_clamp (by omega)]; exact (hls l hl).2.2.2.2.2.2.1⟩))⟩⟩
  · obtain ⟨l, hl, rfl⟩ := i1.mp q
    exact ⟨p1, l, by rw [g5]; exact hl, rfl⟩
  · obtain ⟨l, hl, rfl⟩ := i1.mp q
    obtain ⟨m1, m2⟩ := hw5
    have e := m2 l (by rw [g5]; exact hl) rfl
    have gw : gW h = (c 23).toNatClampNeg := by unfold gW; rw [a.2.2.2.1 23 (by omega)]
    rw [p2, g2, g3, g4, g6, g7, gw] at e
    exact ⟨w5, y6, rfl, rfl, a.fr m1.1 (by decide) (by decide) (by decide) (by decide), Or.inr ⟨l, hl, rfl, Or.inr (Or.inr (Or.inr (Or.inl ⟨z, e⟩)))⟩⟩
  · obtain ⟨l, hl, rfl⟩ := i1.mp q
    exact ⟨h, _, rfl, rfl, a, Or.inr ⟨l, hl, rfl, Or.inr (Or.inr (Or.inr (Or.inr ⟨z, rfl⟩)))⟩⟩
end CALLS9
