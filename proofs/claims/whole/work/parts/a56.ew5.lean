/-! the class's calls: plans, feed, fault, bend -/
section EW5
variable {X : Nat × (Nat → Int32)} {d : Nat} {n1 n2 n3 n4 : Nat} {h : Nat → Nat → Int32} {G : Nat → Nat → Int32} {tn : Nat} {tx : Nat → Int32} {fp wy : Int32} {n m : Nat} {A B : Nat → Nat} {k : Nat} {F T : Nat → Nat} {c : Nat → Int32} {u : Nat} {S : Nat → Nat → Int32} {g : Nat → Bool} {I : Nat → Nat → Int32}
/-- no plan: none is told -/
theorem pBp_0 (h : (pBp c m A B k F T).2.1 = 1000000) (lt : ∀ v : Nat → Nat, pco (c 24).toNatClampNeg (c 23).toNatClampNeg A B m v (ptn c A B m) k F T < 1000000) : (pBp c m A B k F T).1 = 0 := by
  have := fdS_I (cn := pcN c) (g := pdi c A B) (st := pst c m A B k F T) (I := fun b => b.2.1 < 1000000 ∨ b.1 = 0) (fun b v hb => by
    unfold pst
    by_cases q : pu2 A B v m = true
    · rw [if_pos q]
      left
      by_cases q2 : pco (c 24).toNatClampNeg (c 23).toNatClampNeg A B m v (ptn c A B m) k F T < b.2.1
      · rw [if_pos q2]; exact lt v
      · rw [if_neg q2]
        have := lt v
        show b.2.1 < 1000000
        omega
    · rw [if_neg q]; exact hb) m 0 (fun _ => 0) (0, 1000000, fun _ => 0) (Or.inr rfl)
  rcases this with y | y
  · exact absurd h (Nat.ne_of_lt y)
  · exact y
theorem t_Ew_fault (a : cI h n1 n3 n4 G tn tx fp wy n m A B k F T c u S g I) (x1 : Int32) : ewP X Ew_fault (d + 14) 0 [some (.ref 0), some (.int x1)] [] (0, 0) (229, ewR 3 35 n1 n2 n3 n4, h) (eO fun h' n1 n3 n4 y => cI h' n1 n3 n4 G tn tx fp wy n m A B k F T c u S g I ∧ y = if x1 = 0 then fp else if x1 = 1 then wy else -1000000002) := by
  refine v_Ew_fault_0 x1 h (fun q => ⟨h, n1, n2, n3, n4, _, rfl, rfl, a, ?_⟩) (fun q => ⟨h, n1, n2, n3, n4, _, rfl, rfl, a, ?_⟩)
  · rw [if_neg q, a.1.2.1.2]
  · rw [if_pos q, a.1.2.1.1]
theorem t_Ew_feed (a : cI h n1 n3 n4 G tn tx fp wy n m A B k F T c u S g I) (ht : tn ≤ 240) (x1 : Int32) : ewP X Ew_feed (d + 14) 0 [some (.ref 0), some (.int x1)] [] (0, 0) (229, ewR 3 35 n1 n2 n3 n4, h) (eO fun h' n1 n3 n4 y =>
    ((¬ (∃ i, i < 256 ∧ x1 = nI i) ∧ y = -1000000002 ∧ cI h' n1 n3 n4 G tn tx fp wy n m A B k F T c u S g I) ∨ ((∃ i, i < 256 ∧ x1 = nI i) ∧ tn = 240 ∧ y = -1000000004 ∧ cI h' n1 n3 n4 G tn tx fp wy n m A B k F T c u S g I) ∨ ((∃ i, i < 256 ∧ x1 = nI i) ∧ tn ≠ 240 ∧ y = nI (tn + 1) ∧ cI h' n1 n3 n4 G (tn + 1) (upd tx tn x1) fp wy n m A B k F T c u S g I))) := by
  obtain ⟨e1, e2⟩ := a.1.1
  have i1 := in_n (x := x1) (b := 256) (by omega)
  have gt : (255 < x1) ↔ ¬ x1 < nI 256 := by
    rw [Int32.lt_iff_toInt_lt, Int32.lt_iff_toInt_lt]
    show (255 : Int) < x1.toInt ↔ ¬ x1.toInt < (256 : Int)
    omega
  have lt : (h 1 0 < 240) ↔ tn < 240 := by rw [e1]; exact nI_ltb (b := 240) (by omega) (by omega)
  refine v_Ew_feed_0 x1 h (fun q => ⟨h, n1, n2, n3, n4, _, rfl, rfl, Or.inl ⟨fun y => (i1.mpr y).1 q, rfl, a⟩⟩) (fun q1 q2 q3 => by rw [e1]; exact nI_inB (lt.mp q3) (by decide)) (fun q1 q2 => ?_) (fun q1 q2 => ⟨h, n1, n2, n3, n4, _, rfl, rfl, Or.inl ⟨fun y => (gt.mp q2) (i1.mpr y).2, rfl, a⟩⟩)
  have ex := i1.mp ⟨q1, Decidable.byContradiction (fun y => q2 (gt.mpr y))⟩
  by_cases q : tn = 240
  · have nl : ¬ h 1 0 < 240 := fun y => by have := lt.mp y; omega
    refine ⟨_, n1, n2, n3, n4, _, rfl, rfl, Or.inr (Or.inl ⟨ex, q, ?_, ?_⟩)⟩
    · unfold f_Re_take; rw [if_neg nl]; rfl
    · unfold g_Re_take; rw [if_neg nl]; exact a
  · have nl : h 1 0 < 240 := lt.mpr (by omega)
    refine ⟨_, n1, n2, n3, n4, _, rfl, rfl, Or.inr (Or.inr ⟨ex, q, ?_, ?_⟩)⟩
    · unfold f_Re_take g_Re_take
      rw [if_pos nl, if_pos nl]
      show h 1 0 + 1 = _
      rw [e1, ← nI_succ]
    · unfold g_Re_take
      rw [if_pos nl]
      have f : ∀ q, q ≠ 1 → q ≠ 2 → (ewS (ewS h 2 (upd (h 2) ((h 1 0).toNatClampNeg) x1)) 1 (upd (h 1) 0 ((h 1 0) + 1))) q = h q := fun q q1 q2 => (ewS_ne _ _ q1).trans (ewS_ne _ _ q2)
      obtain ⟨⟨a1, a2, a3, a4, ⟨o, a5⟩, ⟨a6, a7⟩, a8⟩, b1, b2, b3, b4⟩ := a
      have f0 := f 0 (by omega) (by omega)
      refine ⟨⟨⟨?_, fun j hj => ?_⟩, ?_, a3.fr (fun q q1 q2 => f q (by omega) (by omega)), a4.fr (fun q q1 q2 => f q (by omega) (by omega)), ⟨o, a5.fr (fun q q1 q2 => f q (by omega) (by omega))⟩, ⟨by rw [f0]; exact a6, fun i hi hg => (a7 i hi hg).fr (fun q q1 q2 => f q (by omega) (by omega))⟩, ?_⟩, ?_, ?_, ?_, ?_⟩
      · show h 1 0 + 1 = _
        rw [e1, ← nI_succ]
      · show (if j = (h 1 0).toNatClampNeg then x1 else h 2 j) = if j = tn then x1 else tx j
        rw [e1, nI_clamp (by omega)]
        by_cases y : j = tn
        · rw [if_pos y, if_pos y]
        · rw [if_neg y, if_neg y]; exact e2 j (by omega)
      · exact a2
      · exact ⟨by rw [f 157 (by omega) (by omega), f 166 (by omega) (by omega)]; exact a8.1, fun q hq => (f q (by omega) (by omega)).trans (a8.2 q hq)⟩
      · rw [f0]; exact fun y => ⟨(b1 y).1, (b1 y).2.fr (fun q hq => f q (by omega) (by omega))⟩
      · rw [f0]; exact b2
      · rw [f0]; exact fun y => ⟨(b3 y).1, (b3 y).2.1, (b3 y).2.2.fr (fun q hq => f q (by omega) (by omega))⟩
      · rw [f0]; exact fun y => ⟨(b4 y).1, (b4 y).2.1, (b4 y).2.2.fr (fun q hq => f q (by omega) (by omega))⟩
end EW5
