/-! the law's loop -/
def lwQ : Option Value → eS → Prop := fun v S' => v = some (.int 1) ∧ S'.1 = 229
theorem law_loop {X : Nat × (Nat → Int32)} {d : Nat} {b : Nat × Nat} (hX : X.1 ≤ 2048) : ∀ (f j : Nat), X.1 < 4 * j + f → 4 * j ≤ X.1 + 3 → ∀ (r : Nat → Nat → Nat) (h : Nat → Nat → Int32), lwI r h → ewP X La_law (d + 15) 18 [some (.ref 300000), some (.ref 0), some (.ref 194), some (.int (nI (4 * j)))] [] b (229, r, h) lwQ
  | f, j, hf, hj, r, h, L => by
    have e4 : (Int32.ofNat X.1 - 4).toInt = (X.1 : Int) - 4 := by
      have a1 : (Int32.ofNat X.1).toInt = (X.1 : Int) := nI_toInt (by omega)
      rw [Int32.toInt_sub, a1, show (4 : Int32).toInt = 4 from rfl]
      rw [Int.bmod_def]
      omega
    have ci : ¬ ((Int32.ofNat X.1 - 4) < nI (4 * j)) → 4 * j + 4 ≤ X.1 := by
      rw [Int32.lt_iff_toInt_lt, e4, nI_toInt (by omega)]
      omega
    have v0 : ¬ ((Int32.ofNat X.1 - 4) < nI (4 * j)) → vp_in (nI (4 * j)) X.1 := fun q => by have := ci q; exact nI_inB (by omega) (by omega)
    have v1 : ¬ ((Int32.ofNat X.1 - 4) < nI (4 * j)) → vp_in (nI (4 * j) + 1) X.1 := fun q => by
      have := ci q
      rw [show nI (4 * j) + 1 = nI (4 * j + 1) from nI_ad _ 1]; exact nI_inB (by omega) (by omega)
    have v2 : ¬ ((Int32.ofNat X.1 - 4) < nI (4 * j)) → vp_in (nI (4 * j) + 2) X.1 := fun q => by
      have := ci q
      rw [show nI (4 * j) + 2 = nI (4 * j + 2) from nI_ad _ 2]; exact nI_inB (by omega) (by omega)
    have v3 : ¬ ((Int32.ofNat X.1 - 4) < nI (4 * j)) → vp_in (nI (4 * j) + 3) X.1 := fun q => by
      have := ci q
      rw [show nI (4 * j) + 3 = nI (4 * j + 3) from nI_ad _ 3]; exact nI_inB (by omega) (by omega)
    have nx : ¬ ((Int32.ofNat X.1 - 4) < nI (4 * j)) → ∀ (r : Nat → Nat → Nat) (h : Nat → Nat → Int32), lwN r h → ewP X La_law (d + 15) 18 [some (.ref 300000), some (.ref 0), some (.ref 194), some (.int (nI (4 * j) + 4))] [] b (229, r, h) lwQ := fun q r h N => by
      have := ci q
      rw [show nI (4 * j) + 4 = nI (4 * (j + 1)) from nI_ad _ 4]
      match f, hf with
      | 0, hf => omega
      | f + 1, hf =>
        rcases N with N | ⟨n1, n2, n3, n4, rfl, N⟩
        · exact law_loop hX f (j + 1) (by omega) (by omega) r h N
        · refine ewP_pi rfl rfl (fun v S' s1 s2 => ?_) (ewP_m (fun v S' s2 => ⟨s2.2, s2⟩) (law_loop hX f (j + 1) (by omega) (by omega) _ _ N))
          obtain ⟨rfl, s3⟩ := s2
          exact ⟨rfl, s3⟩
    exact v_La_law_18 (nI (4 * j)) h (fun _ => ⟨rfl, rfl⟩) (fun q => v0 q) (fun q _ => v1 q) (fun _ _ => l_feed L _) (fun q _ r' w y _ => ⟨v1 q, fun w' hN => ⟨fun _ => nx q _ _ hN, fun z => absurd rfl z⟩⟩) (fun _ _ => l_net L) (fun q _ r' w y _ => fun w' hN => ⟨fun _ => nx q _ _ hN, fun z => absurd rfl z⟩) (fun q _ => v1 q) (fun _ _ => l_fault L _) (fun q _ r' w y _ => ⟨v1 q, fun w' hN => ⟨fun _ => nx q _ _ hN, fun z => absurd rfl z⟩⟩) (fun q _ => v1 q) (fun _ _ => l_told L _) (fun q _ r' w y _ => ⟨v1 q, fun w' hN => ⟨fun _ => nx q _ _ hN, fun z => absurd rfl z⟩⟩) (fun q _ => v1 q) (fun q _ => v2 q) (fun _ _ => l_station L _ _) (fun q _ r' w y _ => ⟨v1 q, v2 q, fun w' hN => ⟨fun _ => nx q _ _ hN, fun z => absurd rfl z⟩⟩) (fun q _ => v1 q) (fun q _ => v2 q) (fun _ _ => l_stretch L _ _) (fun q _ r' w y _ => ⟨v1 q, v2 q, fun w' hN => ⟨fun _ => nx q _ _ hN, fun z => absurd rfl z⟩⟩) (fun q _ => v1 q) (fun q _ => v2 q) (fun _ _ => l_line L _ _) (fun q _ r' w y _ => ⟨v1 q, v2 q, fun w' hN => ⟨fun _ => nx q _ _ hN, fun z => absurd rfl z⟩⟩) (fun q _ => v1 q) (fun q _ => v2 q) (fun _ _ => l_along L _ _) (fun q _ r' w y _ => ⟨v1 q, v2 q, fun w' hN => ⟨fun _ => nx q _ _ hN, fun z => absurd rfl z⟩⟩) (fun q _ => v1 q) (fun q _ => v2 q) (fun _ _ => l_fix L _ _) (fun q _ r' w y _ => ⟨v1 q, v2 q, fun w' hN => ⟨fun _ => nx q _ _ hN, fun z => absurd rfl z⟩⟩) (fun q _ => v1 q) (fun _ _ => l_loose L _) (fun q _ r' w y _ => ⟨v1 q, fun w' hN => ⟨fun _ => nx q _ _ hN, fun z => absurd rfl z⟩⟩) (fun q _ => v1 q) (fun q _ => v2 q) (fun _ _ => l_count L _ _) (fun q _ r' w y _ => ⟨v1 q, v2 q, fun w' hN => ⟨fun _ => nx q _ _ hN, fun z => absurd rfl z⟩⟩) (fun q _ => v1 q) (fun q _ => v2 q) (fun q _ => v3 q) (fun _ _ => l_move L _ _ _) (fun q _ r' w y _ => ⟨v1 q, v2 q, v3 q, fun w' hN => ⟨fun _ => nx q _ _ hN, fun z => absurd rfl z⟩⟩) (fun q _ => v1 q) (fun _ _ => l_drift L _) (fun q _ r' w y _ => ⟨v1 q, fun w' hN => ⟨fun _ => nx q _ _ hN, fun z => absurd rfl z⟩⟩) (fun _ _ => l_undo L) (fun q _ r' w y _ => fun w' hN => ⟨fun _ => nx q _ _ hN, fun z => absurd rfl z⟩) (fun q _ => v1 q) (fun q _ => v2 q) (fun _ _ => l_bend L _ _) (fun q _ r' w y _ => ⟨v1 q, v2 q, fun w' hN => ⟨fun _ => nx q _ _ hN, fun z => absurd rfl z⟩⟩) (fun q _ => v1 q) (fun q _ => v2 q) (fun _ _ => l_would L _ _) (fun q _ r' w y _ => ⟨v1 q, v2 q, fun w' hN => ⟨fun _ => nx q _ _ hN, fun z => absurd rfl z⟩⟩) (fun _ _ => l_plans L) (fun q _ r' w y _ => fun w' hN => ⟨fun _ => nx q _ _ hN, fun z => absurd rfl z⟩) (fun q _ => v1 q) (fun q _ => v2 q) (fun _ _ => l_order L _ _) (fun q _ r' w y _ => ⟨v1 q, v2 q, fun w' hN => ⟨fun _ => nx q _ _ hN, fun z => absurd rfl z⟩⟩) (fun q _ => v1 q) (fun _ _ => l_crossings L _) (fun q _ r' w y _ => ⟨v1 q, fun w' hN => ⟨fun _ => nx q _ _ hN, fun z => absurd rfl z⟩⟩) (fun q _ => v1 q) (fun q _ => v2 q) (fun _ _ => l_cross L _ _) (fun q _ r' w y _ => ⟨v1 q, v2 q, fun w' hN => ⟨fun _ => nx q _ _ hN, fun z => absurd rfl z⟩⟩) (fun q _ => v1 q) (fun _ _ => l_keep L _) (fun q _ r' w y _ => ⟨v1 q, fun w' hN => ⟨fun _ => nx q _ _ hN, fun z => absurd rfl z⟩⟩) (fun q _ => v1 q) (fun _ _ => l_goBack L _) (fun q _ r' w y _ => ⟨v1 q, fun w' hN => ⟨fun _ => nx q _ _ hN, fun z => absurd rfl z⟩⟩) (fun q _ => nx q _ _ (Or.inl L))
