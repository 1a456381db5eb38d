/-! the reference's calls: along, bend, fault -/
section CALLS8
variable {h w : Nat → Nat → Int32} {G : Nat → Nat → Int32} {tn : Nat} {tx : Nat → Int32} {fp wy : Int32} {n m : Nat} {A B : Nat → Nat} {k : Nat} {F T : Nat → Nat} {c : Nat → Int32} {u : Nat} {S : Nat → Nat → Int32} {g : Nat → Bool} {I : Nat → Nat → Int32}
theorem i32_small {x : Int32} {b : Nat} (hb : b < 2 ^ 31) (h1 : ¬ x < 0) (h2 : x < nI b) : ∃ i, i < b ∧ x = nI i := by
  refine (nI_iff hb).mp ⟨?_, ?_⟩
  · rw [Int32.lt_iff_toInt_lt (x := x) (y := 0)] at h1
    have e0 : (0 : Int32).toInt = 0 := by decide
    rw [e0] at h1; omega
  · have := (Int32.lt_iff_toInt_lt (x := x) (y := nI b)).mp h2
    rw [nI_toInt hb] at this; exact this
theorem t_Mo_along {X : Nat × (Nat → Int32)} {d : Nat} {cu sp n1 n2 n3 n4 : Nat} (a : mI h G tn tx fp wy n m A B k F T c u S g I) (x1 x2 : Int32) : ewP X Mo_along (d + 2) 0 [some (.ref 194), some (.int x1), some (.int x2)] [] (0, 0) (229, ewR cu sp n1 n2 n3 n4, h) (fun v S' => ∃ (y : Int32), v = some (.int y) ∧ S' = (229, ewR cu sp n1 n2 n3 n4, h) ∧
    ((¬ (∃ l, l < k ∧ x1 = nI l) ∧ y = -1000000001) ∨ ∃ l, l < k ∧ x1 = nI l ∧ ((x2 < 0 ∧ y = -1000000002) ∨ (¬ x2 < 0 ∧ ((¬ x2 < nI (tds A B m (F l) (T l)) ∧ y = -1) ∨ ∃ i, i < tds A B m (F l) (T l) ∧ x2 = nI i ∧ y = nI (tpe A B m (T l) (F l) i)))))) := by
  have i1 := isLine_n a x1
  have hk3 := a.2.2.1.2.2.1.2
  obtain ⟨⟨a1, h8, a3, h7, a5, hn, hk⟩, -, -, -, hls⟩ := a.2.2.1
  have key : ∀ l, l < k → x1 = nI l → ¬ x2 < 0 → x2 < h 199 x1.toNatClampNeg → ∃ i, i < tds A B m (F l) (T l) ∧ x2 = nI i ∧ (8 : Int32) * x1 + x2 = nI (8 * l + i) ∧ 8 * l + i < 24 := by
    intro l hl el z1 z2
    obtain ⟨l1, l2, l3, l4, l5, l6, l7, l8, l9⟩ := hls l hl
    have hD := tds_lt hk hn l1 l2 l4
    rw [el, nI_clamp (by omega), l7] at z2
    obtain ⟨i, hi, ei⟩ := i32_small (by omega) z1 z2
    refine ⟨i, hi, ei, ?_, by omega⟩
    rw [el, ei, show (8 : Int32) * nI l = nI (8 * l) from nI_mu 8 l, nI_ad]
  refine s_Mo_along x1 x2 h ⟨fun q _ => ?_, fun q z1 z2 => ?_⟩ ⟨_, rfl, rfl, ?_⟩
  · obtain ⟨l, hl, el⟩ := i1.mp q
    rw [el]; exact nI_inB (by omega) (by decide)
  · obtain ⟨l, hl, el⟩ := i1.mp q
    obtain ⟨i, -, -, e3, e4⟩ := key l hl el z1 z2
    rw [e3]; exact nI_inB e4 (by decide)
  · unfold f_Mo_along
    by_cases q : f_Mo_isLine h x1
    · rw [if_pos q]
      obtain ⟨l, hl, el⟩ := i1.mp q
      refine Or.inr ⟨l, hl, el, ?_⟩
      by_cases z1 : x2 < 0
      · rw [if_pos z1]; exact Or.inl ⟨z1, rfl⟩
      · rw [if_neg z1]
        refine Or.inr ⟨z1, ?_⟩
        obtain ⟨l1, l2, l3, l4, l5, l6, l7, l8, l9⟩ := hls l hl
        by_cases z2 : x2 < h 199 x1.toNatClampNeg
        · rw [if_pos z2]
          obtain ⟨i, e1, e2, e3, e4⟩ := key l hl el z1 z2
          refine Or.inr ⟨i, e1, e2, ?_⟩
          rw [e3, nI_clamp (by omega)]
          exact l9 i e1
        · rw [if_neg z2]
          rw [el, nI_clamp (by omega), l7] at z2
          exact Or.inl ⟨z2, rfl⟩
    · rw [if_neg q]; exact Or.inl ⟨fun z => q (i1.mpr z), rfl⟩
end CALLS8
