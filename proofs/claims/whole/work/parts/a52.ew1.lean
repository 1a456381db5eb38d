/-! the class between calls; startChange, knownBest, knownPlaces, knownSides -/
def cJ (h G : Nat → Nat → Int32) (tn : Nat) (tx : Nat → Int32) (fp wy : Int32) (n m : Nat) (A B : Nat → Nat) (k : Nat) (F T : Nat → Nat) (c : Nat → Int32) (u : Nat) (S : Nat → Nat → Int32) (g : Nat → Bool) (I : Nat → Nat → Int32) : Prop :=
  (h 1 0 = nI tn ∧ ∀ j, j < tn → h 2 j = tx j) ∧ (h 1 1 = fp ∧ h 1 2 = wy) ∧ cNt h n m A B k F T ∧ cSt h 67 n c ∧ (∃ o, cPa h n u S o) ∧ (h 0 7 = nI (msk g 2) ∧ ∀ i, i < 2 → g i = true → cSt h (186 + 4 * i) n (I i)) ∧ (∀ s, s < 8 → h 157 s = 0 ∧ h 166 s = 0) ∧ ∀ q, 194 ≤ q → h q = G q
/-- what is known, where it is said to be -/
def cC (h : Nat → Nat → Int32) (n1 n3 n4 : Nat) (n m : Nat) (A B : Nat → Nat) (k : Nat) (F T : Nat → Nat) (c : Nat → Int32) : Prop :=
  (¬ h 0 12 = 0 → n1 = 3 ∧ cKn h n m A B k F T c) ∧ (¬ h 0 13 = 0 → h 0 16 = nI (pBp c m A B k F T).1) ∧ (¬ h 0 14 = 0 → ¬ h 0 12 = 0 ∧ n3 = 3 ∧ cPk h n m A B k F T c) ∧ (¬ h 0 15 = 0 → ¬ h 0 12 = 0 ∧ n4 = 3 ∧ cSk h n m A B k F T c)
def cNo (h : Nat → Nat → Int32) : Prop := h 0 12 = 0 ∧ h 0 13 = 0 ∧ h 0 14 = 0 ∧ h 0 15 = 0
section EW1
variable {X : Nat × (Nat → Int32)} {d : Nat} {n1 n2 n3 n4 : Nat} {h : Nat → Nat → Int32} {G : Nat → Nat → Int32} {tn : Nat} {tx : Nat → Int32} {fp wy : Int32} {n m : Nat} {A B : Nat → Nat} {k : Nat} {F T : Nat → Nat} {c : Nat → Int32} {u : Nat} {S : Nat → Nat → Int32} {g : Nat → Bool} {I : Nat → Nat → Int32}
theorem cNo.cC (z : cNo h) : cC h n1 n3 n4 n m A B k F T c := ⟨fun y => absurd z.1 y, fun y => absurd z.2.1 y, fun y => absurd z.2.2.1 y, fun y => absurd z.2.2.2 y⟩
theorem cKn.fr {w : Nat → Nat → Int32} (a : cKn h n m A B k F T c) (f : ∀ q, (3 ≤ q ∧ q ≤ 34) ∨ (67 ≤ q ∧ q ≤ 70) ∨ (142 ≤ q ∧ q ≤ 144) → w q = h q) : cKn w n m A B k F T c := by
  obtain ⟨⟨a1, a2, a3⟩, a4, a5, a6⟩ := a
  refine ⟨⟨a1.fr (fun q q1 q2 => f q (by omega)), a2.fr (fun q q1 q2 => f q (by omega)), fun e he => ?_⟩, ?_, ?_, ?_⟩
  · rw [f 144 (by omega)]; exact a3 e he
  · rw [f 142 (by omega)]; exact a4
  · rw [f 143 (by omega)]; exact a5
  · rw [f 143 (by omega)]; exact a6
theorem cPk.fr {w : Nat → Nat → Int32} (a : cPk h n m A B k F T c) (f : ∀ q, 150 ≤ q ∧ q ≤ 154 → w q = h q) : cPk w n m A B k F T c := by
  unfold cPk
  rw [f 150 (by omega), f 151 (by omega), f 152 (by omega), f 153 (by omega), f 154 (by omega)]
  exact a
theorem cSk.fr {w : Nat → Nat → Int32} (a : cSk h n m A B k F T c) (f : ∀ q, 174 ≤ q ∧ q ≤ 176 → w q = h q) : cSk w n m A B k F T c := by
  unfold cSk
  rw [f 174 (by omega), f 175 (by omega), f 176 (by omega)]
  exact a
/-- what the class keeps stays while other rows change -/
theorem cJ.fr {w : Nat → Nat → Int32} (a : cJ h G tn tx fp wy n m A B k F T c u S g I) (f : ∀ q, (1 ≤ q ∧ q ≤ 34) ∨ (67 ≤ q ∧ q ≤ 70) ∨ (75 ≤ q ∧ q ≤ 141) ∨ q = 157 ∨ q = 166 ∨ (186 ≤ q ∧ q ≤ 193) ∨ 194 ≤ q → w q = h q) (f7 : w 0 7 = h 0 7) : cJ w G tn tx fp wy n m A B k F T c u S g I := by
  obtain ⟨a1, a2, a3, a4, ⟨o, a5⟩, ⟨a6, a7⟩, a8⟩ := a
  refine ⟨?_, ?_, a3.fr (fun q q1 q2 => f q (by omega)), a4.fr (fun q q1 q2 => f q (by omega)), ⟨o, a5.fr (fun q q1 q2 => f q (by omega))⟩, ⟨f7.trans a6, fun i hi hg => (a7 i hi hg).fr (fun q q1 q2 => f q (by omega))⟩, ?_⟩
  · rw [f 1 (by omega), f 2 (by omega)]; exact a1
  · rw [f 1 (by omega)]; exact a2
  · exact ⟨by rw [f 157 (by omega), f 166 (by omega)]; exact a8.1, fun q hq => (f q (by omega)).trans (a8.2 q hq)⟩
theorem forget_n (h : Nat → Nat → Int32) : (∀ q, q ≠ 0 → g_Ew_forget h q = h q) ∧ g_Ew_forget h 0 7 = h 0 7 ∧ cNo (g_Ew_forget h) := by
  refine ⟨fun q hq => ?_, rfl, rfl, rfl, rfl, rfl⟩
  unfold g_Ew_forget
  rw [ewS_ne _ _ hq, ewS_ne _ _ hq, ewS_ne _ _ hq, ewS_ne _ _ hq]
theorem startChange_n (a : cJ h G tn tx fp wy n m A B k F T c u S g I) : ewP X Ew_startChange (d + 3) 0 [some (.ref 0)] [] (0, 0) (229, ewR 3 35 n1 n2 n3 n4, h) (fun v S' => ∃ (h' : Nat → Nat → Int32), (cJ h' G tn tx fp wy n m A B k F T c (pPu u) (pPS u S c) g I ∧ cNo h' ∧ ∀ q, 67 ≤ q ∧ q ≤ 70 → h' q = h q) ∧ v = none ∧ S' = (229, ewR 3 35 n1 n2 n3 n4, h')) := by
  obtain ⟨a1, a2, a3, a4, ⟨o, a5⟩, ⟨a6, a7⟩, a8⟩ := a
  refine v_Ew_startChange_0 h (P_Pa_hold := fun h' => h' = h) (R_Pa_hold := fun h' w => (∀ q, ¬ (75 ≤ q ∧ q ≤ 140) → w q = h q) ∧ ∃ o', cPa w n (pPu u) (pPS u S c) o') (fun h' e => by subst e; exact hold_n (d := d + 1) a5 a4 a3.1.2.1) rfl (fun w hw => ?_)
  obtain ⟨w1, o', w2⟩ := hw
  obtain ⟨f1, f2, f3⟩ := forget_n w
  have ff : ∀ q, q ≠ 0 → ¬ (75 ≤ q ∧ q ≤ 140) → g_Ew_forget w q = h q := fun q q1 q2 => (f1 q q1).trans (w1 q q2)
  refine ⟨_, ⟨⟨?_, ?_, a3.fr (fun q q1 q2 => ff q (by omega) (by omega)), a4.fr (fun q q1 q2 => ff q (by omega) (by omega)), ⟨o', w2.fr (fun q q1 q2 => f1 q (by omega))⟩, ⟨?_, fun i hi hg => (a7 i hi hg).fr (fun q q1 q2 => ff q (by omega) (by omega))⟩, ?_⟩, f3, fun q hq => ff q (by omega) (by omega)⟩, rfl, rfl⟩
  · rw [ff 1 (by omega) (by omega), ff 2 (by omega) (by omega)]; exact a1
  · rw [ff 1 (by omega) (by omega)]; exact a2
  · rw [f2, w1 0 (by omega)]; exact a6
  · exact ⟨by rw [ff 157 (by omega) (by omega), ff 166 (by omega) (by omega)]; exact a8.1, fun q hq => (ff q (by omega) (by omega)).trans (a8.2 q hq)⟩
theorem knownBest_n (a : cJ h G tn tx fp wy n m A B k F T c u S g I) (b : cC h n1 n3 n4 n m A B k F T c) (hA : aSe n m c) : ewP X Ew_knownBest (d + 12) 0 [some (.ref 0)] [] (0, 0) (229, ewR 3 35 n1 n2 n3 n4, h) (fun v S' => ∃ (h' : Nat → Nat → Int32), (cJ h' G tn tx fp wy n m A B k F T c u S g I ∧ cC h' 3 n3 n4 n m A B k F T c ∧ ¬ h' 0 12 = 0 ∧ cKn h' n m A B k F T c ∧ ∀ q, q ≠ 0 → ¬ (142 ≤ q ∧ q ≤ 145) → h' q = h q) ∧ v = some (.ref 142) ∧ S' = (229, ewR 3 35 3 n2 n3 n4, h')) := by
  refine v_Ew_knownBest_0 h (P_Ch_draw := fun h' => h' = h) (R_Ch_draw := fun h' w => (∀ q, q ≠ 142 → q ≠ 143 → q ≠ 144 → q ≠ 145 → w q = h q) ∧ cKn w n m A B k F T c) (fun h' e => by subst e; exact draw_n (d := d) a.2.2.1 a.2.2.2.1 hA) (fun q => ?_) (fun _ => rfl) (fun q w hw => ?_)
  · obtain ⟨rfl, b1⟩ := b.1 q
    exact ⟨h, ⟨a, b, q, b1, fun _ _ _ => rfl⟩, rfl, rfl⟩
  · obtain ⟨w1, w2⟩ := hw
    have z := q
    have w0 : w 0 = h 0 := w1 0 (by omega) (by omega) (by omega) (by omega)
    have ff : ∀ q, q ≠ 0 → ¬ (142 ≤ q ∧ q ≤ 145) → (ewS w 0 (upd (w 0) 12 1)) q = h q := fun q q1 q2 => (ewS_ne _ _ q1).trans (w1 q (by omega) (by omega) (by omega) (by omega))
    have k' : cKn (ewS w 0 (upd (w 0) 12 1)) n m A B k F T c := w2.fr (fun q hq => ewS_ne _ _ (by omega))
    have n12 : ¬ (ewS w 0 (upd (w 0) 12 1)) 0 12 = 0 := by show ¬ (1 : Int32) = 0; decide
    refine ⟨_, ⟨a.fr (fun q hq => ff q (by omega) (by omega)) (by show w 0 7 = _; rw [w0]), ⟨fun _ => ⟨rfl, k'⟩, fun y => ?_, fun y => ?_, fun y => ?_⟩, n12, k', ff⟩, rfl, rfl⟩
    · have y : ¬ w 0 13 = 0 := y
      rw [w0] at y
      show w 0 16 = _
      rw [w0]; exact b.2.1 y
    · have y : ¬ w 0 14 = 0 := y
      rw [w0] at y
      exact absurd z (b.2.2.1 y).1
    · have y : ¬ w 0 15 = 0 := y
      rw [w0] at y
      exact absurd z (b.2.2.2 y).1
theorem knownPlaces_n (a : cJ h G tn tx fp wy n m A B k F T c u S g I) (b : cC h n1 n3 n4 n m A B k F T c) (hA : aSe n m c) : ewP X Ew_knownPlaces (d + 13) 0 [some (.ref 0)] [] (0, 0) (229, ewR 3 35 n1 n2 n3 n4, h) (fun v S' => ∃ (h' : Nat → Nat → Int32), (cJ h' G tn tx fp wy n m A B k F T c u S g I ∧ cC h' 3 3 n4 n m A B k F T c ∧ cPk h' n m A B k F T c) ∧ v = some (.ref 150) ∧ S' = (229, ewR 3 35 3 n2 3 n4, h')) := by
  refine v_Ew_knownPlaces_0 h (P_Ew_knownBest := fun h' => h' = h) (R_Ew_knownBest := fun h' w => cJ w G tn tx fp wy n m A B k F T c u S g I ∧ cC w 3 n3 n4 n m A B k F T c ∧ ¬ w 0 12 = 0 ∧ cKn w n m A B k F T c ∧ ∀ q, q ≠ 0 → ¬ (142 ≤ q ∧ q ≤ 145) → w q = h q) (fun h' e => by subst e; exact knownBest_n (d := d) a b hA) (P_Pl_settle := fun h' => cKn h' n m A B k F T c ∧ ∀ s, s < 8 → h' 157 s = 0 ∧ h' 166 s = 0) (R_Pl_settle := fun h' w => (∀ q, ¬ (150 ≤ q ∧ q ≤ 173) → w q = h' q) ∧ w 157 = h' 157 ∧ w 166 = h' 166 ∧ cPk w n m A B k F T c) (fun h' hp => settle_n (d := d + 1) hp.1 hA.1 hp.2) (fun q => ?_) (fun _ => rfl) (fun q w hw => ?_)
  · obtain ⟨b0, rfl, b1⟩ := b.2.2.1 q
    obtain ⟨rfl, -⟩ := b.1 b0
    exact ⟨h, ⟨a, b, b1⟩, rfl, rfl⟩
  · obtain ⟨w1, w2, w3, w4, w5⟩ := hw
    refine ⟨⟨w4, w1.2.2.2.2.2.2.1⟩, fun v hv => ?_⟩
    obtain ⟨v1, v2, v3, v4⟩ := hv
    have v0 : v 0 = w 0 := v1 0 (by omega)
    have ff : ∀ q, q ≠ 0 → (¬ (150 ≤ q ∧ q ≤ 173) ∨ q = 157 ∨ q = 166) → (ewS v 0 (upd (v 0) 14 1)) q = w q := fun q q1 q2 => (ewS_ne _ _ q1).trans (by
      rcases q2 with y | rfl | rfl
      · exact v1 q y
      · exact v2
      · exact v3)
    have n12 : ¬ (ewS v 0 (upd (v 0) 14 1)) 0 12 = 0 := by show ¬ v 0 12 = 0; rw [v0]; exact w3
    have p' : cPk (ewS v 0 (upd (v 0) 14 1)) n m A B k F T c := v4.fr (fun q hq => ewS_ne _ _ (by omega))
    refine ⟨_, ⟨w1.fr (fun q hq => ff q (by omega) (by omega)) (by show v 0 7 = _; rw [v0]), ⟨fun _ => ⟨rfl, w4.fr (fun q hq => ff q (by omega) (by omega))⟩, fun y => ?_, fun _ => ⟨n12, rfl, p'⟩, fun y => ?_⟩, p'⟩, rfl, rfl⟩
    · have y : ¬ v 0 13 = 0 := y
      rw [v0] at y
      show v 0 16 = _
      rw [v0]; exact w2.2.1 y
    · have y : ¬ v 0 15 = 0 := y
      rw [v0] at y
      exact ⟨n12, (w2.2.2.2 y).2.1, (w2.2.2.2 y).2.2.fr (fun q hq => ff q (by omega) (by omega))⟩
theorem knownSides_n (a : cJ h G tn tx fp wy n m A B k F T c u S g I) (b : cC h n1 n3 n4 n m A B k F T c) (hA : aSe n m c) : ewP X Ew_knownSides (d + 13) 0 [some (.ref 0)] [] (0, 0) (229, ewR 3 35 n1 n2 n3 n4, h) (fun v S' => ∃ (h' : Nat → Nat → Int32), (cJ h' G tn tx fp wy n m A B k F T c u S g I ∧ cC h' 3 n3 3 n m A B k F T c ∧ cSk h' n m A B k F T c) ∧ v = some (.ref 174) ∧ S' = (229, ewR 3 35 3 n2 n3 3, h')) := by
  refine v_Ew_knownSides_0 h (P_Ew_knownBest := fun h' => h' = h) (R_Ew_knownBest := fun h' w => cJ w G tn tx fp wy n m A B k F T c u S g I ∧ cC w 3 n3 n4 n m A B k F T c ∧ ¬ w 0 12 = 0 ∧ cKn w n m A B k F T c ∧ ∀ q, q ≠ 0 → ¬ (142 ≤ q ∧ q ≤ 145) → w q = h q) (fun h' e => by subst e; exact knownBest_n (d := d) a b hA) (P_Si_settle := fun h' => cKn h' n m A B k F T c) (R_Si_settle := fun h' w => (∀ q, ¬ (174 ≤ q ∧ q ≤ 185) → w q = h' q) ∧ cSk w n m A B k F T c) (fun h' hp => sidesSettle_n (d := d + 7) hp hA.1) (fun q => ?_) (fun _ => rfl) (fun q w hw => ?_)
  · obtain ⟨b0, rfl, b1⟩ := b.2.2.2 q
    obtain ⟨rfl, -⟩ := b.1 b0
    exact ⟨h, ⟨a, b, b1⟩, rfl, rfl⟩
  · obtain ⟨w1, w2, w3, w4, w5⟩ := hw
    refine ⟨w4, fun v hv => ?_⟩
    obtain ⟨v1, v4⟩ := hv
    have v0 : v 0 = w 0 := v1 0 (by omega)
    have ff : ∀ q, q ≠ 0 → ¬ (174 ≤ q ∧ q ≤ 185) → (ewS v 0 (upd (v 0) 15 1)) q = w q := fun q q1 q2 => (ewS_ne _ _ q1).trans (v1 q q2)
    have n12 : ¬ (ewS v 0 (upd (v 0) 15 1)) 0 12 = 0 := by show ¬ v 0 12 = 0; rw [v0]; exact w3
    have p' : cSk (ewS v 0 (upd (v 0) 15 1)) n m A B k F T c := v4.fr (fun q hq => ewS_ne _ _ (by omega))
    refine ⟨_, ⟨w1.fr (fun q hq => ff q (by omega) (by omega)) (by show v 0 7 = _; rw [v0]), ⟨fun _ => ⟨rfl, w4.fr (fun q hq => ff q (by omega) (by omega))⟩, fun y => ?_, fun y => ?_, fun _ => ⟨n12, rfl, p'⟩⟩, p'⟩, rfl, rfl⟩
    · have y : ¬ v 0 13 = 0 := y
      rw [v0] at y
      show v 0 16 = _
      rw [v0]; exact w2.2.1 y
    · have y : ¬ v 0 14 = 0 := y
      rw [v0] at y
      exact ⟨n12, (w2.2.2.1 y).2.1, (w2.2.2.1 y).2.2.fr (fun q hq => ff q (by omega) (by omega))⟩
end EW1
