/-! the class's calls: order, crossings, cross, plans -/
def cI (h : Nat → Nat → Int32) (n1 n3 n4 : Nat) (G : Nat → Nat → Int32) (tn : Nat) (tx : Nat → Int32) (fp wy : Int32) (n m : Nat) (A B : Nat → Nat) (k : Nat) (F T : Nat → Nat) (c : Nat → Int32) (u : Nat) (S : Nat → Nat → Int32) (g : Nat → Bool) (I : Nat → Nat → Int32) : Prop := cJ h G tn tx fp wy n m A B k F T c u S g I ∧ cC h n1 n3 n4 n m A B k F T c
/-- a call answers y and leaves h', the references n1 .. n4 -/
def eO (P : (Nat → Nat → Int32) → Nat → Nat → Nat → Int32 → Prop) : Option Value → eS → Prop := fun v S' => ∃ (h' : Nat → Nat → Int32) (n1 n2 n3 n4 : Nat) (y : Int32), v = some (.int y) ∧ S' = (229, ewR 3 35 n1 n2 n3 n4, h') ∧ P h' n1 n3 n4 y
theorem in_n {x : Int32} {b : Nat} (hb : b < 2 ^ 31) : (¬ x < 0 ∧ x < nI b) ↔ ∃ i, i < b ∧ x = nI i := by
  constructor
  · rintro ⟨h1, h2⟩
    exact i32_small hb h1 h2
  · rintro ⟨i, hi, rfl⟩
    exact ⟨nI_nlt (b := 0) (Nat.zero_le _) (by omega), (nI_ltb (by omega) hb).mpr hi⟩
section EW2
variable {X : Nat × (Nat → Int32)} {d : Nat} {n1 n2 n3 n4 : Nat} {h : Nat → Nat → Int32} {G : Nat → Nat → Int32} {tn : Nat} {tx : Nat → Int32} {fp wy : Int32} {n m : Nat} {A B : Nat → Nat} {k : Nat} {F T : Nat → Nat} {c : Nat → Int32} {u : Nat} {S : Nat → Nat → Int32} {g : Nat → Bool} {I : Nat → Nat → Int32}
theorem isSta {x : Int32} (hN : cNt h n m A B k F T) : f_Ew_isStation h x ↔ ∃ s, s < n ∧ x = nI s := by
  show (¬ x < 0 ∧ x < h 3 0) ↔ _
  rw [hN.1.1]; exact in_n (by have := hN.1.2.1; omega)
theorem isStr {x : Int32} (hN : cNt h n m A B k F T) : f_Ew_isStretch h x ↔ ∃ e, e < m ∧ x = nI e := by
  show (¬ x < 0 ∧ x < h 3 1) ↔ _
  rw [hN.2.1.1]; exact in_n (by have := hN.2.1.2.1; omega)
theorem isLin {x : Int32} (hN : cNt h n m A B k F T) : f_Ew_isLine h x ↔ ∃ l, l < k ∧ x = nI l := by
  show (¬ x < 0 ∧ x < h 3 2) ↔ _
  rw [hN.2.2.1.1]; exact in_n (by have := hN.2.2.1.2.1; omega)
theorem t_Ew_order (a : cI h n1 n3 n4 G tn tx fp wy n m A B k F T c u S g I) (hA : aSe n m c) (x1 x2 : Int32) : ewP X Ew_order (d + 14) 0 [some (.ref 0), some (.int x1), some (.int x2)] [] (0, 0) (229, ewR 3 35 n1 n2 n3 n4, h) (eO fun h' n1 n3 n4 y => cI h' n1 n3 n4 G tn tx fp wy n m A B k F T c u S g I ∧
    ((¬ (∃ e, e < m ∧ x1 = nI e) ∧ y = -1000000001) ∨ ∃ e, e < m ∧ x1 = nI e ∧ ((x2 < 0 ∧ y = -1000000002) ∨ (¬ x2 < 0 ∧ ((((pBp c m A B k F T).2.1 = 1000000 ∨ ¬ x2 < nI (pbc (pLs m A B k F T e))) ∧ y = -1) ∨ ((pBp c m A B k F T).2.1 ≠ 1000000 ∧ ∃ i, i < pbc (pLs m A B k F T e) ∧ x2 = nI i ∧ y = nI (pol (pLs m A B k F T e) ((pBo n m A B k F T (pBp c m A B k F T).2.2).2 e) i))))))) := by
  have is := isStr (x := x1) a.1.2.2.1
  refine v_Ew_order_0 x1 x2 h (P_Ew_knownSides := fun h' => h' = h) (R_Ew_knownSides := fun h' w => cJ w G tn tx fp wy n m A B k F T c u S g I ∧ cC w 3 n3 3 n m A B k F T c ∧ cSk w n m A B k F T c) (fun h' e => by subst e; exact knownSides_n (d := d) a.1 a.2 hA) (P_Si_lineAt := fun h' z1 z2 => z1 = x1 ∧ z2 = x2 ∧ (∃ e, e < m ∧ x1 = nI e) ∧ ¬ x2 < 0 ∧ cNt h' n m A B k F T ∧ cSk h' n m A B k F T c) (R_Si_lineAt := fun h' z1 z2 w y => w = h' ∧ ∃ e, e < m ∧ x1 = nI e ∧ ((((pBp c m A B k F T).2.1 = 1000000 ∨ ¬ x2 < nI (pbc (pLs m A B k F T e))) ∧ y = -1) ∨ ((pBp c m A B k F T).2.1 ≠ 1000000 ∧ ∃ i, i < pbc (pLs m A B k F T e) ∧ x2 = nI i ∧ y = nI (pol (pLs m A B k F T e) ((pBo n m A B k F T (pBp c m A B k F T).2.2).2 e) i)))) (fun z1 z2 h' hp => ?_) (fun _ _ => rfl) (fun q1 q2 w hw => ⟨⟨rfl, rfl, is.mp q1, q2, hw.1.2.2.1, hw.2.2⟩, fun w9 y hy => ?_⟩) (fun q1 q2 => ?_) (fun q1 => ⟨h, n1, n2, n3, n4, _, rfl, rfl, a, Or.inl ⟨fun y => q1 (is.mpr y), rfl⟩⟩)
  · obtain ⟨rfl, rfl, ⟨e, he, rfl⟩, p2, p3, p4⟩ := hp
    refine ewP_m (fun v S' q => ?_) (lineAt_n (d := d + 12) p3 p4 he p2)
    obtain ⟨y, q1, q2, q3⟩ := q
    exact ⟨h', y, ⟨rfl, e, he, rfl, q3⟩, q1, q2⟩
  · obtain ⟨rfl, e, he, ee, hy⟩ := hy
    exact ⟨_, 3, n2, n3, 3, y, rfl, rfl, ⟨hw.1, hw.2.1⟩, Or.inr ⟨e, he, ee, Or.inr ⟨q2, hy⟩⟩⟩
  · obtain ⟨e, he, ee⟩ := is.mp q1
    exact ⟨h, n1, n2, n3, n4, _, rfl, rfl, a, Or.inr ⟨e, he, ee, Or.inl ⟨q2, rfl⟩⟩⟩
theorem t_Ew_crossings (a : cI h n1 n3 n4 G tn tx fp wy n m A B k F T c u S g I) (hA : aSe n m c) (x1 : Int32) : ewP X Ew_crossings (d + 14) 0 [some (.ref 0), some (.int x1)] [] (0, 0) (229, ewR 3 35 n1 n2 n3 n4, h) (eO fun h' n1 n3 n4 y => cI h' n1 n3 n4 G tn tx fp wy n m A B k F T c u S g I ∧
    ((¬ (∃ s, s < n ∧ x1 = nI s) ∧ y = -1000000001) ∨ ∃ s, s < n ∧ x1 = nI s ∧ y = (if (pBp c m A B k F T).2.1 = 1000000 then -1 else nI (sm (fun p => if pq1 p < k then pcx m A B k F T (pBp c m A B k F T).2.2 (pBo n m A B k F T (pBp c m A B k F T).2.2).2 s (pq0 p) (pq1 p) else 0) 3)))) := by
  have is := isSta (x := x1) a.1.2.2.1
  refine v_Ew_crossings_0 x1 h (P_Ew_knownSides := fun h' => h' = h) (R_Ew_knownSides := fun h' w => cJ w G tn tx fp wy n m A B k F T c u S g I ∧ cC w 3 n3 3 n m A B k F T c ∧ cSk w n m A B k F T c) (fun h' e => by subst e; exact knownSides_n (d := d) a.1 a.2 hA) (fun q1 => ⟨h, n1, n2, n3, n4, _, rfl, rfl, a, Or.inl ⟨fun y => q1 (is.mpr y), rfl⟩⟩) (fun _ => rfl) (fun q1 w hw => ?_)
  obtain ⟨s, hs, rfl⟩ := is.mp q1
  obtain ⟨c1, c2⟩ := crossedAt_n a.1.2.2.1.1.2.1 hw.2.2 hs
  exact ⟨c1, w, 3, n2, n3, 3, _, rfl, rfl, ⟨hw.1, hw.2.1⟩, Or.inr ⟨s, hs, rfl, c2⟩⟩
theorem t_Ew_cross (a : cI h n1 n3 n4 G tn tx fp wy n m A B k F T c u S g I) (hA : aSe n m c) (x1 x2 : Int32) : ewP X Ew_cross (d + 14) 0 [some (.ref 0), some (.int x1), some (.int x2)] [] (0, 0) (229, ewR 3 35 n1 n2 n3 n4, h) (eO fun h' n1 n3 n4 y => cI h' n1 n3 n4 G tn tx fp wy n m A B k F T c u S g I ∧
    ((¬ (∃ l j, l < k ∧ j < k ∧ l ≠ j ∧ x1 = nI l ∧ x2 = nI j) ∧ y = -1000000001) ∨ ∃ l j, l < k ∧ j < k ∧ l ≠ j ∧ x1 = nI l ∧ x2 = nI j ∧ y = (if (pBp c m A B k F T).2.1 = 1000000 then -1 else nI (sm (fun s => pcx m A B k F T (pBp c m A B k F T).2.2 (pBo n m A B k F T (pBp c m A B k F T).2.2).2 s l j) n)))) := by
  have i1 := isLin (x := x1) a.1.2.2.1
  have i2 := isLin (x := x2) a.1.2.2.1
  have ne : ∀ l j, x1 = nI l → x2 = nI j → ¬ x1 = x2 → l ≠ j := fun l j e1 e2 y z => y (by rw [e1, e2, z])
  refine v_Ew_cross_0 x1 x2 h (P_Ew_knownSides := fun h' => h' = h) (R_Ew_knownSides := fun h' w => cJ w G tn tx fp wy n m A B k F T c u S g I ∧ cC w 3 n3 3 n m A B k F T c ∧ cSk w n m A B k F T c) (fun h' e => by subst e; exact knownSides_n (d := d) a.1 a.2 hA) (P_Si_crossedBy := fun h' z1 z2 => z1 = x1 ∧ z2 = x2 ∧ (∃ l, l < k ∧ x1 = nI l) ∧ (∃ l, l < k ∧ x2 = nI l) ∧ ¬ x1 = x2 ∧ cNt h' n m A B k F T ∧ cSk h' n m A B k F T c) (R_Si_crossedBy := fun h' z1 z2 w y => w = h' ∧ ∃ l j, l < k ∧ j < k ∧ l ≠ j ∧ x1 = nI l ∧ x2 = nI j ∧ y = (if (pBp c m A B k F T).2.1 = 1000000 then -1 else nI (sm (fun s => pcx m A B k F T (pBp c m A B k F T).2.2 (pBo n m A B k F T (pBp c m A B k F T).2.2).2 s l j) n))) (fun z1 z2 h' hp => ?_) (fun q1 => ?_) (fun q1 q2 => ?_) (fun _ _ _ => rfl) (fun q1 q2 q3 w hw => ⟨⟨rfl, rfl, i1.mp q1, i2.mp q2, q3, hw.1.2.2.1, hw.2.2⟩, fun w9 y hy => ?_⟩) (fun q1 q2 q3 => ?_)
  · obtain ⟨rfl, rfl, ⟨l, hl, e1⟩, ⟨j, hj, e2⟩, p2, p3, p4⟩ := hp
    have := crossedBy_n (X := X) (d := d + 12) (cu := 3) (sp := 35) (n2 := n2) (n3 := n3) hA.1 p3 p4 hl hj (ne l j e1 e2 p2)
    rw [← e1, ← e2] at this
    refine ewP_m (fun v S' q => ?_) this
    obtain ⟨y, q1, q2, q3⟩ := q
    exact ⟨h', y, ⟨rfl, l, j, hl, hj, ne l j e1 e2 p2, e1, e2, q3⟩, q1, q2⟩
  · exact ⟨h, n1, n2, n3, n4, _, rfl, rfl, a, Or.inl ⟨fun y => by obtain ⟨l, j, y1, y2, y3, y4, y5⟩ := y; exact q1 (i1.mpr ⟨l, y1, y4⟩), rfl⟩⟩
  · exact ⟨h, n1, n2, n3, n4, _, rfl, rfl, a, Or.inl ⟨fun y => by obtain ⟨l, j, y1, y2, y3, y4, y5⟩ := y; exact q2 (i2.mpr ⟨j, y2, y5⟩), rfl⟩⟩
  · obtain ⟨rfl, hy⟩ := hy
    exact ⟨_, 3, n2, n3, 3, y, rfl, rfl, ⟨hw.1, hw.2.1⟩, Or.inr hy⟩
  · have hk3 := a.1.2.2.1.2.2.1.2.1
    exact ⟨h, n1, n2, n3, n4, _, rfl, rfl, a, Or.inl ⟨fun y => by
      obtain ⟨l, j, y1, y2, y3, y4, y5⟩ := y
      rw [y4, y5] at q3
      exact y3 ((nI_eq (by omega) (by omega)).mp q3), rfl⟩⟩
end EW2
