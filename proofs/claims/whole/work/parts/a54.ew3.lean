/-! the class's calls: told, station, stretch, line, along -/
theorem ite_p {p : Prop} [Decidable p] {x a b : Int32} (h1 : p → x = a) (h2 : ¬ p → x = b) : x = if p then a else b := by
  by_cases y : p
  · rw [if_pos y]; exact h1 y
  · rw [if_neg y]; exact h2 y
section EW3
variable {X : Nat × (Nat → Int32)} {d : Nat} {n1 n2 n3 n4 : Nat} {h : Nat → Nat → Int32} {G : Nat → Nat → Int32} {tn : Nat} {tx : Nat → Int32} {fp wy : Int32} {n m : Nat} {A B : Nat → Nat} {k : Nat} {F T : Nat → Nat} {c : Nat → Int32} {u : Nat} {S : Nat → Nat → Int32} {g : Nat → Bool} {I : Nat → Nat → Int32}
theorem t_Ew_told (a : cI h n1 n3 n4 G tn tx fp wy n m A B k F T c u S g I) (hA : aSe n m c) (hx : ∀ e, m ≤ e → e < 7 → c (16 + e) = -1) (x1 : Int32) : ewP X Ew_told (d + 14) 0 [some (.ref 0), some (.int x1)] [] (0, 0) (229, ewR 3 35 n1 n2 n3 n4, h) (eO fun h' n1 n3 n4 y => cI h' n1 n3 n4 G tn tx fp wy n m A B k F T c u S g I ∧ y = aTo tn n m A B k F T c u x1) := by
  have hN := a.1.2.2.1
  obtain ⟨o, hP⟩ := a.1.2.2.2.2.1
  have same : ∀ y, y = aTo tn n m A B k F T c u x1 → eO (fun h' n1 n3 n4 y => cI h' n1 n3 n4 G tn tx fp wy n m A B k F T c u S g I ∧ y = aTo tn n m A B k F T c u x1) (some (.int y)) (229, ewR 3 35 n1 n2 n3 n4, h) := fun y hy => ⟨h, n1, n2, n3, n4, y, rfl, rfl, a, hy⟩
  refine v_Ew_told_0 x1 h (P_Ew_knownBest := fun h' => h' = h) (R_Ew_knownBest := fun _ w => cJ w G tn tx fp wy n m A B k F T c u S g I ∧ cC w 3 n3 n4 n m A B k F T c ∧ ¬ w 0 12 = 0 ∧ cKn w n m A B k F T c ∧ ∀ q, q ≠ 0 → ¬ (142 ≤ q ∧ q ≤ 145) → w q = h q) (fun h' e => by subst e; exact knownBest_n (d := d + 1) a.1 a.2 hA)
    (P_Ch_bends := fun h' => cKn h' n m A B k F T c) (R_Ch_bends := fun h' w y => w = h' ∧ y = if (pBp c m A B k F T).2.1 = 1000000 then -1 else nI (pbs (c 23).toNatClampNeg A B m (pBp c m A B k F T).2.2 k F T)) (fun h' hp => bends_n (d := d + 11) hp hA.1)
    (P_Ew_knownPlaces := fun h' => h' = h) (R_Ew_knownPlaces := fun _ w => cJ w G tn tx fp wy n m A B k F T c u S g I ∧ cC w 3 3 n4 n m A B k F T c ∧ cPk w n m A B k F T c) (fun h' e => by subst e; exact knownPlaces_n (d := d) a.1 a.2 hA)
    (P_Ew_knownSides := fun h' => h' = h) (R_Ew_knownSides := fun _ w => cJ w G tn tx fp wy n m A B k F T c u S g I ∧ cC w 3 n3 3 n m A B k F T c ∧ cSk w n m A B k F T c) (fun h' e => by subst e; exact knownSides_n (d := d) a.1 a.2 hA)
    (P_Se_fixedSet := fun h' => h' = h) (R_Se_fixedSet := fun _ w y => w = h ∧ y = nI (pfx c m)) (fun h' e => by subst e; exact fixedSet_n (d := d + 13) h' a.1.2.2.2.1 hN.2.1.2.1 hA.1 hx ⟨_, _, ⟨rfl, rfl⟩, rfl, rfl⟩)
    (fun z => same _ ?_) (fun z => same _ ?_) (fun z => same _ ?_) (fun z => same _ ?_) (fun z => same _ ?_) (fun z => same _ ?_) (fun _ => rfl) (fun z w hw => ?_) (fun _ => rfl) (fun z w hw => ⟨hw.2.2.2.1, fun w9 y hy => ?_⟩) (fun _ => rfl) (fun z w hw => ?_) (fun _ => rfl) (fun z w hw => ?_) (fun _ => rfl) (fun z w y hy => ?_) (fun _ => rfl) (fun z w hw => ?_) (fun z => same _ ?_) (fun z => same _ ?_)
  · rw [z]; exact hN.1.1
  · rw [z]; exact hN.2.1.1
  · rw [z]; exact hN.2.2.1.1
  · rw [z]; exact a.1.1.1
  · rw [z]; exact a.1.2.2.2.1.1
  · rw [z]; exact a.1.2.2.2.1.2.1
  · refine ⟨w, 3, n2, n3, n4, _, rfl, rfl, ⟨hw.1, hw.2.1⟩, ?_⟩
    rw [z]; exact hw.2.2.2.1.2.1
  · obtain ⟨rfl, hy⟩ := hy
    refine ⟨_, 3, n2, n3, n4, _, rfl, rfl, ⟨hw.1, hw.2.1⟩, ?_⟩
    rw [z]; exact hy
  · refine ⟨w, 3, n2, 3, n4, _, rfl, rfl, ⟨hw.1, hw.2.1⟩, ?_⟩
    rw [z]
    exact ite_p (p := (pBp c m A B k F T).2.1 = 1000000 ∨ (pBl n m A B (pBp c m A B k F T).2.2).1 = 1000000) (fun p => (hw.2.2.1 p).1) (fun p => (hw.2.2.2 p).1)
  · refine ⟨w, 3, n2, n3, 3, _, rfl, rfl, ⟨hw.1, hw.2.1⟩, ?_⟩
    rw [z]
    exact ite_p (p := (pBp c m A B k F T).2.1 = 1000000) (fun p => hw.2.2.1 p) (fun p => (hw.2.2.2 p).1.1)
  · obtain ⟨rfl, hy⟩ := hy
    refine ⟨_, n1, n2, n3, n4, _, rfl, rfl, a, ?_⟩
    rw [z]; exact hy
  · refine ⟨w, 3, n2, 3, n4, _, rfl, rfl, ⟨hw.1, hw.2.1⟩, ?_⟩
    rw [z]
    exact ite_p (p := (pBp c m A B k F T).2.1 = 1000000 ∨ (pBl n m A B (pBp c m A B k F T).2.2).1 = 1000000) (fun p => (hw.2.2.1 p).2.1) (fun p => (hw.2.2.2 p).2.1)
  · rw [z]; exact hP.1.1
  · have o8 := i32_out 13 (by decide) z
    unfold aTo
    rw [if_neg (show ¬ x1 = 0 from o8 0 (by omega)), if_neg (show ¬ x1 = 1 from o8 1 (by omega)), if_neg (show ¬ x1 = 2 from o8 2 (by omega)), if_neg (show ¬ x1 = 3 from o8 3 (by omega)), if_neg (show ¬ x1 = 4 from o8 4 (by omega)), if_neg (show ¬ x1 = 5 from o8 5 (by omega)), if_neg (show ¬ x1 = 6 from o8 6 (by omega)), if_neg (show ¬ x1 = 7 from o8 7 (by omega)), if_neg (show ¬ x1 = 8 from o8 8 (by omega)), if_neg (show ¬ x1 = 9 from o8 9 (by omega)), if_neg (show ¬ x1 = 10 from o8 10 (by omega)), if_neg (show ¬ x1 = 11 from o8 11 (by omega)), if_neg (show ¬ x1 = 12 from o8 12 (by omega))]
theorem t_Ew_station (a : cI h n1 n3 n4 G tn tx fp wy n m A B k F T c u S g I) (hA : aSe n m c) (x1 x2 : Int32) : ewP X Ew_station (d + 14) 0 [some (.ref 0), some (.int x1), some (.int x2)] [] (0, 0) (229, ewR 3 35 n1 n2 n3 n4, h) (eO fun h' n1 n3 n4 y => cI h' n1 n3 n4 G tn tx fp wy n m A B k F T c u S g I ∧ ((¬ (∃ e, e < n ∧ x1 = nI e) ∧ y = -1000000001) ∨ ∃ e, e < n ∧ x1 = nI e ∧ y = aSo n m A B k F T c e x2)) := by
  have hN := a.1.2.2.1
  have h8 := hN.1.2.1
  have is := isSta (x := x1) hN
  by_cases q : ∃ e, e < n ∧ x1 = nI e
  · have iq := is.mpr q
    obtain ⟨s, hs, rfl⟩ := q
    have cs : (nI s).toNatClampNeg = s := nI_clamp (by omega)
    have in8 : vp_in (nI s) 8 := nI_inB (by omega) (by decide)
    have hS := a.1.2.2.2.1
    have fin : ∀ {w : Nat → Nat → Int32} {n1 n2 n3 n4 : Nat} (y : Int32), cI w n1 n3 n4 G tn tx fp wy n m A B k F T c u S g I → y = aSo n m A B k F T c s x2 → eO (fun h' n1 n3 n4 y => cI h' n1 n3 n4 G tn tx fp wy n m A B k F T c u S g I ∧ ((¬ (∃ e, e < n ∧ nI s = nI e) ∧ y = -1000000001) ∨ ∃ e, e < n ∧ nI s = nI e ∧ y = aSo n m A B k F T c e x2)) (some (.int y)) (229, ewR 3 35 n1 n2 n3 n4, w) := fun y ha hy => ⟨_, _, _, _, _, y, rfl, rfl, ha, Or.inr ⟨s, hs, rfl, hy⟩⟩
    refine v_Ew_station_0 (nI s) x2 h (P_Ne_least := fun h' x => h' = h ∧ x = nI s) (R_Ne_least := fun _ _ w y => w = h ∧ y = nI (prt (plb A B m) s)) (fun x h' e => by obtain ⟨rfl, rfl⟩ := e; exact least_n (d := d + 12) h' (by omega) (hN.1.2.2 s hs) ⟨_, _, ⟨rfl, rfl⟩, rfl, rfl⟩)
      (P_Ne_degree := fun h' x => h' = h ∧ x = nI s) (R_Ne_degree := fun _ _ w y => w = h ∧ y = nI (pdeg A B m s)) (fun x h' e => by obtain ⟨rfl, rfl⟩ := e; exact degree_n (d := d + 12) h' (by omega) h8 hN.2.1 hN.2.2.2.1.1 ⟨_, _, ⟨rfl, rfl⟩, rfl, rfl⟩)
      (P_Ew_knownPlaces := fun h' => h' = h) (R_Ew_knownPlaces := fun _ w => cJ w G tn tx fp wy n m A B k F T c u S g I ∧ cC w 3 3 n4 n m A B k F T c ∧ cPk w n m A B k F T c) (fun h' e => by subst e; exact knownPlaces_n (d := d) a.1 a.2 hA)
      (fun _ _ => in8) (fun _ z => fin _ a ?_) (fun _ _ => in8) (fun _ z => fin _ a ?_) (fun _ _ => ⟨rfl, rfl⟩) (fun _ z w y hy => ?_) (fun _ _ => ⟨rfl, rfl⟩) (fun _ z w y hy => ?_) (fun _ _ => rfl) (fun _ z w hw => ⟨in8, fin _ ⟨hw.1, hw.2.1⟩ ?_⟩) (fun _ _ => rfl) (fun _ z w hw => ⟨in8, fin _ ⟨hw.1, hw.2.1⟩ ?_⟩) (fun _ _ => rfl) (fun _ z w hw => ⟨in8, fin _ ⟨hw.1, hw.2.1⟩ ?_⟩) (fun _ z => fin _ a ?_) (fun z => absurd iq z)
    · rw [z, cs]; exact (hS.2.2.1 s hs).1
    · rw [z, cs]; exact (hS.2.2.1 s hs).2
    · obtain ⟨rfl, hy⟩ := hy
      exact fin _ a (by rw [z]; exact hy)
    · obtain ⟨rfl, hy⟩ := hy
      exact fin _ a (by rw [z]; exact hy)
    · rw [z, cs]
      exact ite_p (p := (pBp c m A B k F T).2.1 = 1000000 ∨ (pBl n m A B (pBp c m A B k F T).2.2).1 = 1000000) (fun p => ((hw.2.2.1 p).2.2.2 s hs).1) (fun p => ((hw.2.2.2 p).2.2.2 s hs).1)
    · rw [z, cs]
      exact ite_p (p := (pBp c m A B k F T).2.1 = 1000000 ∨ (pBl n m A B (pBp c m A B k F T).2.2).1 = 1000000) (fun p => ((hw.2.2.1 p).2.2.2 s hs).2.1) (fun p => ((hw.2.2.2 p).2.2.2 s hs).2.1)
    · rw [z, cs]
      exact ite_p (p := (pBp c m A B k F T).2.1 = 1000000 ∨ (pBl n m A B (pBp c m A B k F T).2.2).1 = 1000000) (fun p => ((hw.2.2.1 p).2.2.2 s hs).2.2) (fun p => ((hw.2.2.2 p).2.2.2 s hs).2.2)
    · have o8 := i32_out 7 (by decide) z
      unfold aSo
      rw [if_neg (show ¬ x2 = 0 from o8 0 (by omega)), if_neg (show ¬ x2 = 1 from o8 1 (by omega)), if_neg (show ¬ x2 = 2 from o8 2 (by omega)), if_neg (show ¬ x2 = 3 from o8 3 (by omega)), if_neg (show ¬ x2 = 4 from o8 4 (by omega)), if_neg (show ¬ x2 = 5 from o8 5 (by omega)), if_neg (show ¬ x2 = 6 from o8 6 (by omega))]
  · have nq : ¬ f_Ew_isStation h x1 := fun z => q (is.mp z)
    exact v_Ew_station_0 x1 x2 h (P_Ne_least := fun _ _ => False) (R_Ne_least := fun _ _ _ _ => True) (fun _ _ z => z.elim) (P_Ne_degree := fun _ _ => False) (R_Ne_degree := fun _ _ _ _ => True) (fun _ _ z => z.elim) (P_Ew_knownPlaces := fun _ => False) (R_Ew_knownPlaces := fun _ _ => True) (fun _ z => z.elim) (fun z => absurd z nq) (fun z => absurd z nq) (fun z => absurd z nq) (fun z => absurd z nq) (fun z => absurd z nq) (fun z => absurd z nq) (fun z => absurd z nq) (fun z => absurd z nq) (fun z => absurd z nq) (fun z => absurd z nq) (fun z => absurd z nq) (fun z => absurd z nq) (fun z => absurd z nq) (fun z => absurd z nq) (fun z => absurd z nq) (fun _ => ⟨h, n1, n2, n3, n4, _, rfl, rfl, a, Or.inl ⟨q, rfl⟩⟩)
end EW3
