/-! the class's Past: hold, giveBack -/
theorem beq_f {a b : Nat} (h : a ≠ b) : Nat.beq a b = false := by cases y : Nat.beq a b with
  | false => rfl
  | true => exact absurd (Nat.eq_of_beq_eq_true y) h
/-- the ring of what was so: u settings S, the oldest at o -/
def cPa (h : Nat → Nat → Int32) (n u : Nat) (S : Nat → Nat → Int32) (o : Nat) : Prop := (h 75 0 = nI u ∧ u ≤ 16) ∧ (h 75 1 = nI o ∧ o < 16) ∧ ∀ j, j < u → cSt h (77 + 4 * ((o + j) % 16)) n (S j)
theorem ring_1 {o u : Nat} (ho : o < 16) (hu : u < 17) : (nI o + nI u) - (nI o + nI u) / 16 * 16 = nI ((o + u) % 16) := by
  have hh : ∀ (o : Fin 16) (u : Fin 17), (nI o.1 + nI u.1) - (nI o.1 + nI u.1) / 16 * 16 = nI ((o.1 + u.1) % 16) := by decide +kernel
  exact hh ⟨o, ho⟩ ⟨u, hu⟩
theorem isSet_p {i : Nat} (hi : i < 16) : isSet (77 + 4 * i) := Or.inr (Or.inr (Or.inl ⟨i, hi, rfl⟩))
section PAST
variable {X : Nat × (Nat → Int32)} {d : Nat} {cu sp n1 n2 n3 n4 : Nat} {n u o : Nat} {S : Nat → Nat → Int32} {c : Nat → Int32} {h : Nat → Nat → Int32}
theorem cPa.fr {h' : Nat → Nat → Int32} (a : cPa h n u S o) (f : ∀ q, 75 ≤ q → q ≤ 140 → h' q = h q) : cPa h' n u S o := by
  obtain ⟨a1, a2, a3⟩ := a
  refine ⟨?_, ?_, fun j hj => (a3 j hj).fr (fun k k1 k2 => f k (by omega) (by omega))⟩
  · rw [f 75 (by omega) (by omega)]; exact a1
  · rw [f 75 (by omega) (by omega)]; exact a2
theorem hold_n (a : cPa h n u S o) (s : cSt h 67 n c) (h8 : n ≤ 8) : ewP X Pa_hold (d + 1) 0 [some (.ref 75), some (.ref 67)] [] (0, 0) (229, ewR cu sp n1 n2 n3 n4, h) (fun v S' => ∃ (h' : Nat → Nat → Int32), ((∀ q, ¬ (75 ≤ q ∧ q ≤ 140) → h' q = h q) ∧ ∃ o', cPa h' n (pPu u) (pPS u S c) o') ∧ v = none ∧ S' = (229, ewR cu sp n1 n2 n3 n4, h')) := by
  obtain ⟨⟨a1, a2⟩, ⟨a3, a4⟩, a5⟩ := a
  have u16 : h 75 0 = 16 ↔ u = 16 := by rw [a1]; exact nI_eq (b := 16) (by omega) (by omega)
  have i1 := ring_1 a4 (show u < 17 by omega)
  have lt : (o + u) % 16 < 16 := Nat.mod_lt _ (by omega)
  have c1 : (nI ((o + u) % 16)).toNatClampNeg = (o + u) % 16 := nI_clamp (by omega)
  have ring2 : ∀ o : Fin 16, (nI o.1 + 1) - (nI o.1 + 1) / 16 * 16 = nI ((o.1 + 1) % 16) := by decide +kernel
  have i2 : (nI o + 1) - (nI o + 1) / 16 * 16 = nI ((o + 1) % 16) := ring2 ⟨o, a4⟩
  have lt2 : (o + 1) % 16 < 16 := Nat.mod_lt _ (by omega)
  have i3 := ring_1 lt2 (show 15 < 17 by omega)
  have lt3 : ((o + 1) % 16 + 15) % 16 < 16 := Nat.mod_lt _ (by omega)
  have c3 : (nI (((o + 1) % 16 + 15) % 16)).toNatClampNeg = ((o + 1) % 16 + 15) % 16 := nI_clamp (by omega)
  refine v_Pa_hold_0 h ?_ ?_ ?_ ?_ ?_ ?_ ?_ ?_ ?_ ?_
  all_goals intro q
  · rw [a1, a3, i1]; exact nI_inB (by omega) (by omega)
  · rw [a1, a3, i1, c1]; exact beq_f (by omega)
  · rw [a1, a3, i1, c1]; exact ⟨isSet_p lt, Or.inl rfl, by omega⟩
  · rw [a1, a3, i1, c1]; exact ((isSet_p lt).at (cu := 0) (sp := 0) (n1 := 0) (n2 := 0) (n3 := 0) (n4 := 0)).1.1
  · rw [a1, a3, i1, c1]
    intro w hw
    have nu : u ≠ 16 := fun y => q (u16.mpr y)
    have f75 : w 75 = h 75 := hw.1 75 (by omega)
    refine ⟨_, ⟨fun k hk => (ewS_ne _ _ (by omega)).trans (hw.1 k (by omega)), o, ?_⟩, rfl, rfl⟩
    unfold pPu pPS
    rw [if_neg nu]
    refine ⟨⟨?_, by omega⟩, ⟨?_, a4⟩, fun j hj => ?_⟩
    · show w 75 0 + 1 = _
      rw [f75, a1, ← nI_succ]
    · show w 75 1 = _
      rw [f75, a3]
    · dsimp only
      rw [if_neg nu]
      by_cases y : j = u
      · rw [if_pos y, y]
        exact (hw.st h8 s).fr (fun k k1 k2 => ewS_ne _ _ (by omega))
      · rw [if_neg y]
        refine ((a5 j (by omega)).fr (fun k k1 k2 => hw.1 k (by omega))).fr (fun k k1 k2 => ewS_ne _ _ (by omega))
  all_goals have e16 := u16.mp q
  all_goals have s16 : h 75 0 - 1 = nI 15 := by rw [q]; decide
  · rw [s16, a3, i2, i3]; exact nI_inB (by omega) (by omega)
  · rw [s16, a3, i2, i3, c3]; exact beq_f (by omega)
  · rw [s16, a3, i2, i3, c3]; exact ⟨isSet_p lt3, Or.inl rfl, by omega⟩
  · rw [s16, a3, i2, i3, c3]; exact ((isSet_p lt3).at (cu := 0) (sp := 0) (n1 := 0) (n2 := 0) (n3 := 0) (n4 := 0)).1.1
  · rw [s16, a3, i2, i3, c3]
    intro w hw
    have hw1 : ∀ k, k ≠ 75 → ¬ (77 + 4 * (((o + 1) % 16 + 15) % 16) ≤ k ∧ k ≤ 77 + 4 * (((o + 1) % 16 + 15) % 16) + 3) → w k = h k := fun k k1 k2 => (hw.1 k k2).trans ((ewS_ne _ _ k1).trans (ewS_ne _ _ k1))
    have f75 : w 75 = upd (upd (h 75) 1 (nI ((o + 1) % 16))) 0 (nI 15) := (hw.1 75 (by omega)).trans (ewS_self _ _ _)
    refine ⟨_, ⟨fun k hk => (ewS_ne _ _ (by omega)).trans (hw1 k (by omega) (by omega)), (o + 1) % 16, ?_⟩, rfl, rfl⟩
    unfold pPu pPS
    rw [if_pos e16]
    refine ⟨⟨?_, by omega⟩, ⟨?_, lt2⟩, fun j hj => ?_⟩
    · show w 75 0 + 1 = _
      rw [f75]; rfl
    · show w 75 1 = _
      rw [f75]; rfl
    · dsimp only
      rw [if_pos e16]
      by_cases y : j = 15
      · rw [if_pos y, y]
        exact (hw.st h8 (s.fr (fun k k1 k2 => (ewS_ne _ _ (by omega)).trans (ewS_ne _ _ (by omega))))).fr (fun k k1 k2 => ewS_ne _ _ (by omega))
      · rw [if_neg y]
        have := a5 (j + 1) (by omega)
        rw [show (o + (j + 1)) % 16 = ((o + 1) % 16 + j) % 16 by omega] at this
        exact (this.fr (fun k k1 k2 => hw1 k (by omega) (by omega))).fr (fun k k1 k2 => ewS_ne _ _ (by omega))
theorem giveBack_n (a : cPa h n u S o) (h8 : n ≤ 8) : ewP X Pa_giveBack (d + 1) 0 [some (.ref 75), some (.ref 67)] [] (0, 0) (229, ewR cu sp n1 n2 n3 n4, h) (fun v S' => ∃ (h' : Nat → Nat → Int32) (y : Int32), ((u = 0 → y = 0 ∧ h' = h) ∧ (u ≠ 0 → y = 1 ∧ (∀ q, ¬ (67 ≤ q ∧ q ≤ 70) → q ≠ 75 → h' q = h q) ∧ cPa h' n (u - 1) S o ∧ cSt h' 67 n (S (u - 1)))) ∧ v = some (.int y) ∧ S' = (229, ewR cu sp n1 n2 n3 n4, h')) := by
  obtain ⟨⟨a1, a2⟩, ⟨a3, a4⟩, a5⟩ := a
  have u0 : h 75 0 = 0 ↔ u = 0 := by rw [a1]; exact nI_eq (b := 0) (by omega) (by omega)
  have lt : (o + (u - 1)) % 16 < 16 := Nat.mod_lt _ (by omega)
  have c1 : (nI ((o + (u - 1)) % 16)).toNatClampNeg = (o + (u - 1)) % 16 := nI_clamp (by omega)
  have i1 := ring_1 a4 (show u - 1 < 17 by omega)
  have um : ¬ h 75 0 = 0 → h 75 0 - 1 = nI (u - 1) := fun q => by
    rw [a1]
    have : u ≠ 0 := fun y => q (u0.mpr y)
    have hh : ∀ u : Fin 17, u.1 ≠ 0 → nI u.1 - 1 = nI (u.1 - 1) := by decide +kernel
    exact hh ⟨u, by omega⟩ this
  refine v_Pa_giveBack_0 h (fun q => ?_) (fun q => ?_) (fun q => ?_) (fun q => ?_) (fun q => ⟨h, 0, ⟨fun _ => ⟨rfl, rfl⟩, fun y => absurd (u0.mp q) y⟩, rfl, rfl⟩)
  · rw [um q, a3, i1]; exact nI_inB (by omega) (by omega)
  · rw [um q, a3, i1, c1]; exact beq_f (by omega)
  · rw [um q, a3, i1, c1]; exact ⟨Or.inl rfl, isSet_p lt, by omega⟩
  · rw [um q, a3, i1, c1]
    intro w hw
    have nu : u ≠ 0 := fun y => q (u0.mpr y)
    have hw1 : ∀ k, k ≠ 75 → ¬ (67 ≤ k ∧ k ≤ 70) → w k = h k := fun k k1 k2 => (hw.1 k (by omega)).trans (ewS_ne _ _ k1)
    have f75 : w 75 = upd (h 75) 0 (nI (u - 1)) := (hw.1 75 (by omega)).trans (ewS_self _ _ _)
    refine ⟨w, 1, ⟨fun y => absurd y nu, fun _ => ⟨rfl, fun k k1 k2 => hw1 k k2 k1, ⟨⟨?_, by omega⟩, ⟨?_, a4⟩, fun j hj => ?_⟩, ?_⟩⟩, rfl, rfl⟩
    · rw [f75]; rfl
    · rw [f75]; exact a3
    · exact (a5 j (by omega)).fr (fun k k1 k2 => hw1 k (by omega) (by omega))
    · exact hw.st h8 ((a5 (u - 1) (by omega)).fr (fun k k1 k2 => ewS_ne _ _ (by omega)))
end PAST
