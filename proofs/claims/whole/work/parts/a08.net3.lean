/-! leadTo -/
theorem ite01 {p q : Prop} {_ : Decidable p} {_ : Decidable q} (h : (if p then (1 : Int32) else 0) = if q then 1 else 0) : p ↔ q := by
  by_cases a : p
  · by_cases b : q
    · exact ⟨fun _ => b, fun _ => a⟩
    · rw [if_pos a, if_neg b] at h; exact absurd h (by decide)
  · by_cases b : q
    · rw [if_neg a, if_pos b] at h; exact absurd h (by decide)
    · exact ⟨fun z => absurd z a, fun z => absurd z b⟩
theorem or1_m {f : Nat → Bool} {j : Nat} (hj : j < 8) : nI (msk f 8) ||| ((1 : Int32) <<< ((nI j : Int32) &&& 31)) = nI (msk (fun i => f i || decide (i = j)) 8) := by
  rw [shl_m hj, or_m]
/-- by which stretch one comes nearer -/
def mLd (n m : Nat) (A B : Nat → Nat) (t : Nat) (h h' : Nat → Nat → Int32) : Prop := (∀ k, k ≠ 66 → h' k = h k) ∧ ∀ s, s < n → plb A B m s = plb A B m t → s ≠ t → h' 66 s = nI (tfx A B m s t)
set_option maxHeartbeats 1000000 in
theorem s_Ne_leadTo {X : Nat × (Nat → Int32)} {d : Nat} {cu sp n1 n2 n3 n4 : Nat} {n m : Nat} {A B : Nat → Nat} {t : Nat} (h : Nat → Nat → Int32) (h8 : n ≤ 8) (h7 : m ≤ 7) (e1 : h 35 1 = nI m) (eA : ∀ e, e < m → h 38 e = nI (A e) ∧ h 39 e = nI (B e)) (hn : ∀ e, e < m → A e < n ∧ B e < n) (hk : tOK A B m) (ht : t < n) : ewP X Ne_leadTo (d + 1) 0 [some (.ref 35), some (.int (nI t)), none, none, none, none, none] [] (0, 0) (229, ewR cu sp n1 n2 n3 n4, h) (fun v S' => ∃ (h' : Nat → Nat → Int32), mLd n m A B t h h' ∧ v = none ∧ S' = (229, ewR cu sp n1 n2 n3 n4, h')) := by
  refine v_Ne_leadTo_0 _ h ⟨rfl, by decide⟩ ?_
  rw [shl_m (show t < 8 by omega)]
  -- what is reached: G; sound: its stretch is known, the next one is reached; complete up to round i, stretch e
  let Pi : Nat → Nat → (Nat → Bool) × (Nat → Nat → Int32) → Prop := fun i e Gw => (∀ k, k ≠ 66 → Gw.2 k = h k) ∧ Gw.1 t = true ∧ (∀ s, s < n → Gw.1 s = true → plb A B m s = plb A B m t ∧ (s ≠ t → Gw.2 66 s = nI (tfx A B m s t) ∧ Gw.1 (tst A B m t s) = true)) ∧ ∀ s, s < n → plb A B m s = plb A B m t → (tds A B m s t ≤ i ∨ (tds A B m s t = i + 1 ∧ tfx A B m s t < e)) → Gw.1 s = true
  have start : Pi 0 0 (fun i => decide (i = t), g_Ja_fill h 66 (-1)) := by
    refine ⟨fun k hk' => ewS_ne _ _ hk', decide_eq_true rfl, fun s hs hg => ?_, fun s hs hc hd => ?_⟩
    · have := of_decide_eq_true hg
      exact ⟨by rw [this], fun z => absurd this z⟩
    · have : tds A B m s t = 0 := by omega
      exact decide_eq_true (tds_eq0 hk this)
  refine upto (H := (Nat → Bool) × (Nat → Nat → Int32)) (P := fun i Gw => Pi i 0 Gw) (E := fun i Gw => ewP X Ne_leadTo (d + 1) 14 [some (.ref 35), some (.int (nI t)), some (.int (nI (msk Gw.1 8))), some (.int (nI i)), none, none, none] [] (0, 0) (229, ewR cu sp n1 n2 n3 n4, Gw.2) _) 7 ?_ ?_ 0 (fun i => decide (i = t), g_Ja_fill h 66 (-1)) (by omega) start
  · intro i Gw hi hP next
    have hlt : nI i < 7 := (nI_ltb (b := 7) (by omega) (by omega)).mpr hi
    refine v_Ne_leadTo_14 _ _ _ Gw.2 (fun q => absurd hlt q) (fun _ => ?_)
    refine upto (H := (Nat → Bool) × (Nat → Nat → Int32)) (P := fun e Gw => Pi i e Gw) (E := fun e Gw => ewP X Ne_leadTo (d + 1) 23 [some (.ref 35), some (.int (nI t)), some (.int (nI (msk Gw.1 8))), some (.int (nI i)), some (.int (nI e)), none, none] [] (0, 0) (229, ewR cu sp n1 n2 n3 n4, Gw.2) _) m ?_ ?_ 0 Gw (by omega) hP
    · rintro e ⟨G, w⟩ he ⟨w1, w2, w3, w4⟩ nx
      dsimp only at w1 w2 w3 w4 ⊢
      have hAB := hn e he
      have wA : w 38 e = nI (A e) := by rw [w1 38 (by decide)]; exact (eA e he).1
      have wB : w 39 e = nI (B e) := by rw [w1 39 (by decide)]; exact (eA e he).2
      have hlt2 : nI e < w 35 1 := by rw [w1 35 (by decide), e1]; exact (nI_ltb (by omega) (by omega)).mpr he
      have hA : f_Ew_has (nI (msk G 8)) (nI (A e)) ↔ G (A e) = true := has_m (by omega)
      have hB : f_Ew_has (nI (msk G 8)) (nI (B e)) ↔ G (B e) = true := has_m (by omega)
      have cl : nI e = nI e := rfl
      -- the step of the complete part
      have grow : ∀ (G' : Nat → Bool), (∀ s, s < n → G s = true → G' s = true) → (plb A B m (A e) = plb A B m t → (G (A e) = true ∨ G (B e) = true) → G' (A e) = true ∧ G' (B e) = true) → ∀ s, s < n → plb A B m s = plb A B m t → (tds A B m s t ≤ i ∨ (tds A B m s t = i + 1 ∧ tfx A B m s t < e + 1)) → G' s = true := by
        intro G' mono both s hs hc hd
        by_cases q : tds A B m s t ≤ i ∨ (tds A B m s t = i + 1 ∧ tfx A B m s t < e)
        · exact mono s hs (w4 s hs hc q)
        · have d1 : tds A B m s t = i + 1 := by omega
          have d2 : tfx A B m s t = e := by omega
          have hne : s ≠ t := fun z => by rw [z, tds_0] at d1; omega
          obtain ⟨f1, f2⟩ := tfx_at hk hc hne
          rw [d2] at f2
          rcases f2 with ⟨f2, f3⟩ | ⟨f2, f3⟩
          · have pe := plb_ends (A := A) (B := B) (k := m) he
            have hc2 : plb A B m (A e) = plb A B m t := by rw [f2]; exact hc
            have g2 := w4 (B e) hAB.2 (by rw [← pe]; exact hc2) (Or.inl (by omega))
            have := (both hc2 (Or.inr g2)).1
            rw [f2] at this; exact this
          · have pe := plb_ends (A := A) (B := B) (k := m) he
            have hc2 : plb A B m (B e) = plb A B m t := by rw [f2]; exact hc
            have g2 := w4 (A e) hAB.1 (by rw [pe]; exact hc2) (Or.inl (by omega))
            have := (both (by rw [pe]; exact hc2) (Or.inl g2)).2
            rw [f2] at this; exact this
      refine v_Ne_leadTo_23 _ _ _ _ w (fun q => absurd hlt2 q) (fun _ => nI_inB (by omega) (by decide)) (fun _ q => ?_) (fun _ q => ?_) (fun _ q => ?_)
      · -- both or none: nothing changes
        rw [nI_clamp (by omega), wA, wB] at q
        rw [← nI_succ]
        refine nx (G, w) ⟨w1, w2, w3, grow G (fun _ _ h => h) (fun _ z => ?_)⟩
        have iff : (G (A e) = true) ↔ (G (B e) = true) := by
          rw [← hA, ← hB]
          exact ite01 q
        rcases z with z | z
        · exact ⟨z, iff.mp z⟩
        · exact ⟨iff.mpr z, z⟩
      · rw [nI_clamp (by omega), wA, wB]
        by_cases a1 : f_Ew_has (nI (msk G 8)) (nI (A e))
        · rw [if_pos a1]; exact nI_inB (by omega) (by decide)
        · rw [if_neg a1]; exact nI_inB (by omega) (by decide)
      · rw [nI_clamp (show e < 2 ^ 31 by omega), wA, wB] at q ⊢
        by_cases a1 : f_Ew_has (nI (msk G 8)) (nI (A e))
        · have gA := hA.mp a1
          have gB : ¬ G (B e) = true := fun z => q (by rw [if_pos a1, if_pos (hB.mpr z)])
          rw [if_pos a1, or1_m (show B e < 8 by omega), nI_clamp (show B e < 2 ^ 31 by omega), ← nI_succ]
          have hcA := (w3 (A e) hAB.1 gA).1
          have pe := plb_ends (A := A) (B := B) (k := m) he
          have fx : tfx A B m (B e) t = e ∧ tst A B m t (B e) = A e := by
            rcases tds_end hk (by omega) he hcA with ⟨d1, d2, d3⟩ | ⟨d1, d2, d3⟩
            · exfalso
              have hne : A e ≠ t := fun z => by rw [z, tds_0] at d1; omega
              have := ((w3 (A e) hAB.1 gA).2 hne).2
              unfold tst at this
              rw [if_neg hne, d2, if_pos rfl] at this
              exact gB this
            · refine ⟨d2, ?_⟩
              have hne : B e ≠ t := fun z => by rw [z, tds_0] at d1; omega
              have hab : ¬ A e = B e := fun z => hk e he (by rw [z])
              unfold tst
              rw [if_neg hne, d2, if_neg hab]
          refine nx (fun i => G i || decide (i = B e), ewS w 66 (upd (w 66) (B e) (nI e))) ⟨fun k hk' => (ewS_ne _ _ hk').trans (w1 k hk'), by show (G t || _) = true; rw [w2]; rfl, fun s hs hg => ?_, grow _ (fun s _ h => by show (G s || _) = true; rw [h]; rfl) (fun _ _ => ⟨by show (G (A e) || _) = true; rw [gA]; rfl, by show (G (B e) || _) = true; simp⟩)⟩
          dsimp only at hg ⊢
          rw [ewS_self]
          by_cases z : s = B e
          · refine ⟨by rw [z, ← pe]; exact hcA, fun _ => ⟨?_, ?_⟩⟩
            · rw [z]
              show (if B e = B e then nI e else _) = _
              rw [if_pos rfl, fx.1]
            · rw [z, fx.2, gA]; rfl
          · have hg' : G s = true := by
              rw [Bool.or_eq_true, decide_eq_true_iff] at hg
              exact hg.resolve_right z
            refine ⟨(w3 s hs hg').1, fun hne => ⟨?_, ?_⟩⟩
            · show (if s = B e then nI e else w 66 s) = _
              rw [if_neg z]; exact ((w3 s hs hg').2 hne).1
            · rw [((w3 s hs hg').2 hne).2]; rfl
        · have gA : ¬ G (A e) = true := fun z => a1 (hA.mpr z)
          have gB : G (B e) = true := by
            by_cases a2 : f_Ew_has (nI (msk G 8)) (nI (B e))
            · exact hB.mp a2
            · exact absurd (by rw [if_neg a1, if_neg a2]) q
          rw [if_neg a1, or1_m (show A e < 8 by omega), nI_clamp (show A e < 2 ^ 31 by omega), ← nI_succ]
          have hcB := (w3 (B e) hAB.2 gB).1
          have pe := plb_ends (A := A) (B := B) (k := m) he
          have hcA : plb A B m (A e) = plb A B m t := by rw [pe]; exact hcB
          have fx : tfx A B m (A e) t = e ∧ tst A B m t (A e) = B e := by
            rcases tds_end hk (by omega) he hcA with ⟨d1, d2, d3⟩ | ⟨d1, d2, d3⟩
            · refine ⟨d2, ?_⟩
              have hne : A e ≠ t := fun z => by rw [z, tds_0] at d1; omega
              unfold tst
              rw [if_neg hne, d2, if_pos rfl]
            · exfalso
              have hne : B e ≠ t := fun z => by rw [z, tds_0] at d1; omega
              have hab : ¬ A e = B e := fun z => hk e he (by rw [z])
              have := ((w3 (B e) hAB.2 gB).2 hne).2
              unfold tst at this
              rw [if_neg hne, d2, if_neg hab] at this
              exact gA this
          refine nx (fun i => G i || decide (i = A e), ewS w 66 (upd (w 66) (A e) (nI e))) ⟨fun k hk' => (ewS_ne _ _ hk').trans (w1 k hk'), by show (G t || _) = true; rw [w2]; rfl, fun s hs hg => ?_, grow _ (fun s _ h => by show (G s || _) = true; rw [h]; rfl) (fun _ _ => ⟨by show (G (A e) || _) = true; simp, by show (G (B e) || _) = true; rw [gB]; rfl⟩)⟩
          dsimp only at hg ⊢
          rw [ewS_self]
          by_cases z : s = A e
          · refine ⟨by rw [z]; exact hcA, fun _ => ⟨?_, ?_⟩⟩
            · rw [z]
              show (if A e = A e then nI e else _) = _
              rw [if_pos rfl, fx.1]
            · rw [z, fx.2, gB]; rfl
          · have hg' : G s = true := by
              rw [Bool.or_eq_true, decide_eq_true_iff] at hg
              exact hg.resolve_right z
            refine ⟨(w3 s hs hg').1, fun hne => ⟨?_, ?_⟩⟩
            · show (if s = A e then nI e else w 66 s) = _
              rw [if_neg z]; exact ((w3 s hs hg').2 hne).1
            · rw [((w3 s hs hg').2 hne).2]; rfl
    · rintro ⟨G, w⟩ ⟨w1, w2, w3, w4⟩
      dsimp only at w1 w2 w3 w4 ⊢
      have hlt2 : ¬ nI m < w 35 1 := by rw [w1 35 (by decide), e1]; exact nI_nlt (Nat.le_refl _) (by omega)
      refine v_Ne_leadTo_23 _ _ _ _ w (fun _ => ?_) (fun q => absurd q hlt2) (fun q => absurd q hlt2) (fun q => absurd q hlt2) (fun q => absurd q hlt2)
      rw [← nI_succ]
      refine next (G, w) ⟨w1, w2, w3, fun s hs hc hd => w4 s hs hc ?_⟩
      by_cases z : tds A B m s t ≤ i
      · exact Or.inl z
      · refine Or.inr ⟨by omega, ?_⟩
        have hne : s ≠ t := fun y => by rw [y, tds_0] at z; omega
        exact (tfx_at hk hc hne).1
  · rintro ⟨G, w⟩ ⟨w1, w2, w3, w4⟩
    dsimp only at w1 w2 w3 w4 ⊢
    have hlt : ¬ nI 7 < 7 := by decide
    refine v_Ne_leadTo_14 _ _ _ w (fun _ => ⟨w, ⟨w1, fun s hs hc hne => ?_⟩, rfl, rfl⟩) (fun q => absurd q hlt)
    have := tds_lt hk hn hs ht hc
    exact ((w3 s hs (w4 s hs hc (Or.inl (by omega)))).2 hne).1
