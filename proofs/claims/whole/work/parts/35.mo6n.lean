/-! the reference: layFar -/
theorem nI_ite {a b : Nat} (c d : Nat) (ha : a < 2 ^ 31) (hb : b < 2 ^ 31) : (if nI a < nI b then nI c else nI d) = nI (if a < b then c else d) := by
  by_cases h : a < b
  · rw [if_pos h, if_pos (nI_lt h hb)]
  · rw [if_neg h, if_neg (nI_nlt (by omega) ha)]
theorem s_Mo_layFar {X : Nat × (Nat → Int32)} {d : Nat} {cu sp n1 n2 n3 n4 : Nat} (x1 : Int32) (h : Nat → Nat → Int32) (hp : p_Mo_layFar h x1) : ewP X Mo_layFar (d + 1) 0 [some (.ref 194), some (.int x1), none, none, none, none] [] (0, 0) (229, ewR cu sp n1 n2 n3 n4, h) (fun v S' => ∃ (h' : Nat → Nat → Int32), mFa h x1 h' ∧ v = none ∧ S' = (229, ewR cu sp n1 n2 n3 n4, h')) := by
  obtain ⟨n, m, t, A, B, hst, rfl, ht⟩ := hp
  obtain ⟨a1, h8, a3, h7, a5, hn, hk⟩ := id hst
  -- the end
  have fin : ∀ w : Nat → Nat → Int32, (∀ k, k ≠ 211 → w k = h k) → (∃ f : Nat → Nat, (∀ s, s < n → w 211 s = nI (f s)) ∧ tFar A B n m t n 0 f) → mFa h (nI t) w := by
    intro w w1 ⟨f, w2, w3⟩
    refine ⟨w1, fun n' m' t' A' B' hst' et ht' s hs => ?_⟩
    obtain ⟨b1, b8, b3, b7, b5, bn, bk⟩ := hst'
    have e1 : n' = n := (nI_eq (by omega) (by omega)).mp (b1.symm.trans a1)
    have e2 : m' = m := (nI_eq (by omega) (by omega)).mp (b3.symm.trans a3)
    have e3 : t' = t := (nI_eq (by omega) (by omega)).mp et.symm
    subst e1; subst e2; subst e3
    have cg : ∀ k, k ≤ m' → (∀ e, e < k → A' e = A e ∧ B' e = B e) := by
      intro k hk2 e he
      have q1 := b5 e (by omega)
      have q2 := a5 e (by omega)
      have q3 := bn e (by omega)
      have q4 := hn e (by omega)
      exact ⟨(nI_eq (by omega) (by omega)).mp (q1.1.symm.trans q2.1), (nI_eq (by omega) (by omega)).mp (q1.2.symm.trans q2.2)⟩
    have cd : ∀ k, k ≤ m' → ∀ u v, tds A' B' k u v = tds A B k u v := by
      intro k
      induction k with
      | zero => intro _ u v; rfl
      | succ k ih =>
        intro hk2 u v
        have ih := ih (by omega)
        have p := plb_congr k (cg k (by omega))
        have q := cg (k + 1) hk2 k (by omega)
        rw [tds_s, tds_s, p, p, q.1, q.2, p, p, ih, ih, ih, ih, ih]
    rw [w2 s hs, tFar_n hk hn ht w3 s hs, cd m' (Nat.le_refl _)]
  refine v_Mo_layFar_0 (nI t) h ?_
  refine upto (H := Nat → Nat → Int32) (P := fun i w => (∀ k, k ≠ 211 → w k = h k) ∧ ∀ j, j < i → w 211 j = nI (if j = t then 0 else 99)) (E := fun i w => ewP X Mo_layFar (d + 1) 2 [some (.ref 194), some (.int (nI t)), some (.int (nI i)), none, none, none] [] (0, 0) (229, ewR cu sp n1 n2 n3 n4, w) (fun v S' => ∃ (h' : Nat → Nat → Int32), mFa h (nI t) h' ∧ v = none ∧ S' = (229, ewR cu sp n1 n2 n3 n4, h'))) n ?_ ?_ 0 h (by omega) ⟨fun _ _ => rfl, fun j hj => absurd hj (by omega)⟩
  · rintro i w hi ⟨w1, w2⟩ next
    have hlt : nI i < w 194 0 := by rw [w1 194 (by decide), a1]; exact nI_lt hi (by omega)
    refine v_Mo_layFar_2 (nI t) (nI i) w (fun q => absurd hlt q) (fun _ => nI_inB (by omega) (by decide)) (fun _ => ?_)
    rw [← nI_succ, nI_clamp (by omega)]
    refine next _ ⟨fun k hk => by rw [ewS_ne _ _ hk]; exact w1 k hk, fun j hj => ?_⟩
    rw [ewS_self]
    by_cases e : j = i
    · subst e
      rw [upd, if_pos rfl]
      by_cases e2 : j = t
      · rw [if_pos (by rw [e2]), if_pos e2]; rfl
      · rw [if_neg (fun q => e2 ((nI_eq (by omega) (by omega)).mp q)), if_neg e2]; rfl
    · rw [upd, if_neg e]
      exact w2 j (by omega)
  · rintro w ⟨w1, w2⟩
    have hlt : ¬ nI n < w 194 0 := by rw [w1 194 (by decide), a1]; exact nI_nlt (Nat.le_refl _) (by omega)
    refine v_Mo_layFar_2 (nI t) (nI n) w (fun _ => ?_) (fun q => absurd q hlt) (fun q => absurd q hlt)
    refine upto (H := Nat → Nat → Int32) (P := fun i w => (∀ k, k ≠ 211 → w k = h k) ∧ ∃ f : Nat → Nat, (∀ s, s < n → w 211 s = nI (f s)) ∧ tFar A B n m t i 0 f) (E := fun i w => ewP X Mo_layFar (d + 1) 35 [some (.ref 194), some (.int (nI t)), some (.int (nI i)), none, none, none] [] (0, 0) (229, ewR cu sp n1 n2 n3 n4, w) (fun v S' => ∃ (h' : Nat → Nat → Int32), mFa h (nI t) h' ∧ v = none ∧ S' = (229, ewR cu sp n1 n2 n3 n4, h'))) n ?_ ?_ 0 w (by omega) ⟨w1, _, w2, tFar_0 h8 hk hn ht (fun _ _ => rfl)⟩
    · rintro i w hi ⟨w1, w2⟩ next
      have hlt : nI i < w 194 0 := by rw [w1 194 (by decide), a1]; exact nI_lt hi (by omega)
      refine v_Mo_layFar_35 (nI t) (nI i) w (fun q => absurd hlt q) (fun _ => ?_)
      refine upto (H := Nat → Nat → Int32) (P := fun e w => (∀ k, k ≠ 211 → w k = h k) ∧ ∃ f : Nat → Nat, (∀ s, s < n → w 211 s = nI (f s)) ∧ tFar A B n m t i e f) (E := fun e w => ewP X Mo_layFar (d + 1) 45 [some (.ref 194), some (.int (nI t)), some (.int (nI i)), some (.int (nI e)), none, none] [] (0, 0) (229, ewR cu sp n1 n2 n3 n4, w) (fun v S' => ∃ (h' : Nat → Nat → Int32), mFa h (nI t) h' ∧ v = none ∧ S' = (229, ewR cu sp n1 n2 n3 n4, h'))) m ?_ ?_ 0 w (by omega) ⟨w1, w2⟩
      · rintro e w he ⟨w1, f, w2, w3⟩ next
        have hlt : nI e < w 194 1 := by rw [w1 194 (by decide), a3]; exact nI_lt he (by omega)
        obtain ⟨eA, eB⟩ := a5 e he
        obtain ⟨hA, hB⟩ := hn e he
        have fA := (w3 _ hA).2.1
        have fB := (w3 _ hB).2.1
        have i1 : w 195 (nI e).toNatClampNeg = nI (A e) := by rw [nI_clamp (by omega), w1 195 (by decide), eA]
        have i2 : w 196 (nI e).toNatClampNeg = nI (B e) := by rw [nI_clamp (by omega), w1 196 (by decide), eB]
        have i3 : (nI (A e)).toNatClampNeg = A e := nI_clamp (by omega)
        have i4 : (nI (B e)).toNatClampNeg = B e := nI_clamp (by omega)
        have hab : A e ≠ B e := fun q => hk e he (by rw [q])
        refine v_Mo_layFar_45 (nI t) (nI i) (nI e) w (fun q => absurd hlt q) (fun _ => nI_inB (by omega) (by decide)) (fun _ => by rw [i2]; exact nI_inB (by omega) (by decide)) (fun _ => by rw [i1]; exact nI_inB (by omega) (by decide)) (fun _ => ?_)
        rw [← nI_succ, i1, i2, i3, i4, ewS_S]
        have v1 : (if w 211 (B e) + 1 < w 211 (A e) then w 211 (B e) + 1 else w 211 (A e)) = nI (if f (B e) + 1 < f (A e) then f (B e) + 1 else f (A e)) := by
          rw [w2 _ hA, w2 _ hB, ← nI_succ, nI_ite _ _ (by omega) (by omega)]
        have v2 : upd (w 211) (A e) (nI (if f (B e) + 1 < f (A e) then f (B e) + 1 else f (A e))) (A e) = nI (if f (B e) + 1 < f (A e) then f (B e) + 1 else f (A e)) := if_pos rfl
        have v3 : upd (w 211) (A e) (nI (if f (B e) + 1 < f (A e) then f (B e) + 1 else f (A e))) (B e) = nI (f (B e)) := by rw [upd, if_neg hab.symm]; exact w2 _ hB
        simp only [v1, v2, v3]
        refine next _ ⟨fun k hk => by rw [ewS_ne _ _ hk]; exact w1 k hk, _, fun s hs => ?_, tFar_e h8 h7 hk hn ht hi he w3⟩
        rw [ewS_self]
        by_cases e1 : s = B e
        · subst e1
          rw [pup_self, upd, if_pos rfl, ← nI_succ, nI_ite _ _ (by split <;> omega) (by omega)]
        · rw [pup_ne _ _ e1, upd, if_neg e1]
          by_cases e2 : s = A e
          · subst e2; rw [pup_self, v2]
          · rw [pup_ne _ _ e2, upd, if_neg e2]; exact w2 s hs
      · rintro w ⟨w1, f, w2, w3⟩
        have hlt : ¬ nI m < w 194 1 := by rw [w1 194 (by decide), a3]; exact nI_nlt (Nat.le_refl _) (by omega)
        refine v_Mo_layFar_45 (nI t) (nI i) (nI m) w (fun _ => ?_) (fun q => absurd q hlt) (fun q => absurd q hlt) (fun q => absurd q hlt) (fun q => absurd q hlt)
        rw [← nI_succ]
        exact next _ ⟨w1, f, w2, tFar_i h8 hk hi w3⟩
    · rintro w ⟨w1, w2⟩
      have hlt : ¬ nI n < w 194 0 := by rw [w1 194 (by decide), a1]; exact nI_nlt (Nat.le_refl _) (by omega)
      exact v_Mo_layFar_35 (nI t) (nI n) w (fun _ => ⟨w, fin w w1 w2, rfl, rfl⟩) (fun q => absurd q hlt)
