/-! the law from its entry -/
theorem law_start {h9 : Nat → Nat → Int32} (hm : mBg (ewS hS 194 (upd (hS 194) 13 (-1))) h9) : lwI (ewR 3 35 3 3 3 3) h9 := by
  obtain ⟨m1, m2, m3, m4, m5⟩ := hm
  obtain ⟨-, s2, s3⟩ := start_n (h := hR) (n := 0) (X := fun _ => 0) (Y := fun _ => 0) (fun s hs => absurd hs (Nat.not_lt_zero s)) (by omega)
  have a0 : ∀ k, k ≠ 202 → k ≠ 194 → h9 k = hS k := fun k h1 h2 => (m1 k h1).trans (ewS_ne _ _ h2)
  have a1 : ∀ k, k ≠ 202 → k ≠ 194 → ¬ (67 ≤ k ∧ k ≤ 70) → h9 k = hR k := fun k h1 h2 h3 => (a0 k h1 h2).trans (s2 k h3)
  have z : ∀ k, k ≠ 202 → k ≠ 194 → ¬ (67 ≤ k ∧ k ≤ 70) → k ≠ 1 → h9 k = fun _ => 0 := fun k h1 h2 h3 h4 => (a1 k h1 h2 h3).trans (ewS_ne _ _ h4)
  have h1 : h9 1 = upd (hZ 1) 1 (-1) := (a1 1 (by omega) (by omega) (by omega)).trans (ewS_self _ _ _)
  have h194 : h9 194 = upd (hR 194) 13 (-1) := by
    rw [m1 194 (by omega), ewS_self]
    show upd (g_Se_start hR 194) 13 (-1) = _
    rw [s2 194 (by omega)]
  refine ⟨3, 3, 3, 3, ((0, fun _ => 0), (-1, 0), (0, 0, fun _ => 0, fun _ => 0, 0, fun _ => 0, fun _ => 0), pS0 (fun _ => 0) (fun _ => 0), (0, fun _ _ => 0), (fun _ => false), fun _ _ => 0), rfl, ⟨⟨⟨by rw [h1]; rfl, fun j hj => absurd hj (Nat.not_lt_zero j)⟩, ⟨by rw [h1]; rfl, by rw [h1]; rfl⟩, ?_, s3.fr (fun q q1 q2 => a0 q (by omega) (by omega)), ⟨0, ?_⟩, ⟨by rw [z 0 (by omega) (by omega) (by omega) (by omega)]; rfl, fun i hi hg => by cases hg⟩, fun s hs => ⟨by rw [z 157 (by omega) (by omega) (by omega) (by omega)], by rw [z 166 (by omega) (by omega) (by omega) (by omega)]⟩, fun _ _ => rfl⟩, ?_⟩, ⟨⟨by rw [h194]; rfl, fun j hj => absurd hj (Nat.not_lt_zero j)⟩, ⟨⟨by rw [h194]; rfl, by rw [h194]; rfl⟩, fun _ _ => rfl⟩, ?_, ?_, ⟨by rw [h194]; rfl, fun j hj => absurd hj (Nat.not_lt_zero j)⟩, fun i hi => ⟨by rw [z 228 (by omega) (by omega) (by omega) (by omega)]; rfl, fun hg => by cases hg⟩⟩, ?_⟩
  · have z3 := z 3 (by omega) (by omega) (by omega) (by omega)
    refine ⟨⟨by rw [z3]; rfl, by decide, fun s hs => absurd hs (Nat.not_lt_zero s)⟩, ⟨by rw [z3]; rfl, by decide, fun s hs => absurd hs (Nat.not_lt_zero s), fun e f he => absurd he (Nat.not_lt_zero e)⟩, ⟨by rw [z3]; rfl, by decide, fun s hs => absurd hs (Nat.not_lt_zero s), fun e he => by rw [z 15 (by omega) (by omega) (by omega) (by omega)]; rfl, fun l s hl => absurd hl (Nat.not_lt_zero l), fun e f he hf => by rw [z (27 + e) (by omega) (by omega) (by omega) (by omega)]; rfl⟩, ⟨fun e he => absurd he (Nat.not_lt_zero e), fun e he => absurd he (Nat.not_lt_zero e), fun e he => absurd he (Nat.not_lt_zero e)⟩, fun _ _ => ⟨rfl, rfl⟩, fun _ _ => ⟨rfl, rfl⟩⟩
  · have z75 := z 75 (by omega) (by omega) (by omega) (by omega)
    exact ⟨⟨by rw [z75]; rfl, Nat.zero_le 16⟩, ⟨by rw [z75]; rfl, by omega⟩, fun j hj => absurd hj (Nat.not_lt_zero j)⟩
  · have z0 := z 0 (by omega) (by omega) (by omega) (by omega)
    refine cNo.cC ⟨?_, ?_, ?_, ?_⟩ <;> rw [z0]
  · refine ⟨?_, fun _ _ => ⟨rfl, rfl⟩, ⟨by rw [h194]; rfl, by decide⟩, fun _ _ => ⟨rfl, rfl⟩, fun l hl => absurd hl (Nat.not_lt_zero l)⟩
    exact ⟨by rw [h194]; rfl, by decide, by rw [h194]; rfl, by decide, fun e he => absurd he (Nat.not_lt_zero e), fun e he => absurd he (Nat.not_lt_zero e), fun e he => absurd he (Nat.not_lt_zero e)⟩
  · intro i hi
    show h9 202 i = pS0 (fun _ => 0) (fun _ => 0) i
    unfold pS0
    by_cases i8 : i < 8
    · rw [if_pos i8, m2 i (by omega)]; rfl
    · rw [if_neg i8]
      by_cases i16 : i < 16
      · rw [if_pos i16, m2 i i16]; rfl
      · rw [if_neg i16]
        by_cases i23 : i < 23
        · rw [if_pos i23]
          obtain ⟨j, rfl⟩ : ∃ j, i = 16 + j := ⟨i - 16, by omega⟩
          exact m3 j (by omega)
        · rw [if_neg i23]
          by_cases e23 : i = 23
          · rw [if_pos e23, e23]; exact m4
          · rw [if_neg e23, show i = 24 by omega]; exact m5
  · exact ⟨⟨Nat.zero_le 240, fun j hj => absurd hj (Nat.not_lt_zero j)⟩, aSx_S0 (n := 0) (m := 0) (X := fun _ => 0) (Y := fun _ => 0) (Nat.zero_le 8) (Nat.zero_le 7) (fun s hs => absurd hs (Nat.not_lt_zero s)), ⟨Nat.zero_le 16, fun j hj => absurd hj (Nat.not_lt_zero j)⟩, fun i hi hg => by cases hg⟩
theorem law_all {X : Nat × (Nat → Int32)} {d : Nat} (hX : X.1 ≤ 2048) : ewP X La_law (d + 15) 0 [some (.ref 300000), none, none, none] [] (600000, 7302250) (0, rC 0 0 0 0, hZ) lwQ :=
  law_0 (fun h9 m9 => law_loop hX (X.1 + 1) 0 (by omega) (by omega) _ _ (law_start m9))
