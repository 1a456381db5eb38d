/-! the reference: loops in general; begin, layFar -/
theorem nI_ltb {a b : Nat} (ha : a < 2 ^ 31) (hb : b < 2 ^ 31) : nI a < nI b ↔ a < b := ⟨fun h => by
  by_cases q : a < b
  · exact q
  · exact absurd h (nI_nlt (by omega) ha), fun h => nI_lt h hb⟩
theorem nI_inB {c N : Nat} (h : c < N) (hN : N < 2 ^ 31) : vp_in (nI c) N := nI_in h hN
/-- a loop that counts up -/
theorem upto {H : Type} {P E : Nat → H → Prop} (n : Nat) (step : ∀ i h, i < n → P i h → (∀ h', P (i + 1) h' → E (i + 1) h') → E i h) (last : ∀ h, P n h → E n h) : ∀ i h, i ≤ n → P i h → E i h := by
  have key : ∀ k i h, i + k = n → P i h → E i h := by
    intro k
    induction k with
    | zero => intro i h hi hP; have : i = n := by omega
              subst this; exact last h hP
    | succ k ih => intro i h hi hP; exact step i h (by omega) hP (fun h' hP' => ih (i + 1) h' (by omega) hP')
  intro i h hi hP
  exact key (n - i) i h (by omega) hP
/-- the setting at the start -/
def mBg (h h' : Nat → Nat → Int32) : Prop := (∀ k, k ≠ 202 → h' k = h k) ∧ (∀ j, j < 16 → h' 202 j = 0) ∧ (∀ j, j < 7 → h' 202 (16 + j) = -1) ∧ h' 202 23 = 0 ∧ h' 202 24 = 1
theorem s_Mo_begin {X : Nat × (Nat → Int32)} {d : Nat} {cu sp n1 n2 n3 n4 : Nat} (h : Nat → Nat → Int32) : ewP X Mo_begin (d + 1) 0 [some (.ref 194), none] [] (0, 0) (229, ewR cu sp n1 n2 n3 n4, h) (fun v S' => ∃ (h' : Nat → Nat → Int32), mBg h h' ∧ v = none ∧ S' = (229, ewR cu sp n1 n2 n3 n4, h')) := by
  refine v_Mo_begin_0 h ?_
  refine upto (H := Nat → Nat → Int32) (P := fun i w => (∀ k, k ≠ 202 → w k = h k) ∧ ∀ j, j < i → w 202 j = if 16 ≤ j ∧ j ≤ 22 then -1 else 0) (E := fun i w => ewP X Mo_begin (d + 1) 2 [some (.ref 194), some (.int (nI i))] [] (0, 0) (229, ewR cu sp n1 n2 n3 n4, w) (fun v S' => ∃ (h' : Nat → Nat → Int32), mBg h h' ∧ v = none ∧ S' = (229, ewR cu sp n1 n2 n3 n4, h'))) 25 ?_ ?_ 0 h (by omega) ⟨fun _ _ => rfl, fun j hj => absurd hj (by omega)⟩
  · rintro i w hi ⟨w1, w2⟩ next
    have hlt : nI i < 25 := (nI_ltb (b := 25) (by omega) (by omega)).mpr hi
    refine v_Mo_begin_2 (nI i) w (fun q => absurd hlt q) (fun _ => nI_inB hi (by decide)) (fun _ => ?_)
    rw [← nI_succ, nI_clamp (by omega)]
    refine next _ ⟨fun k hk => by rw [ewS_ne _ _ hk]; exact w1 k hk, fun j hj => ?_⟩
    rw [ewS_self]
    have hin : f_Mo_in (nI i).toInt64 (Int64.ofNat 16) (Int64.ofNat 22) ↔ (16 ≤ i ∧ i ≤ 22) := by
      rw [in_nat _ _ _ (by decide) (by decide), nI_toInt (by omega)]; omega
    by_cases e : j = i
    · subst e
      simp only [upd, if_pos, hin]
    · rw [upd, if_neg e]
      exact w2 j (by omega)
  · rintro w ⟨w1, w2⟩
    have hlt : ¬ nI 25 < 25 := by decide
    refine v_Mo_begin_2 (nI 25) w (fun _ => ⟨_, ⟨fun k hk => by rw [ewS_ne _ _ hk]; exact w1 k hk, fun j hj => ?_, fun j hj => ?_, ?_, ?_⟩, rfl, rfl⟩) (fun q => absurd q hlt) (fun q => absurd q hlt)
    · rw [ewS_self, upd, if_neg (by omega), w2 j (by omega), if_neg (by omega)]
    · rw [ewS_self, upd, if_neg (by omega), w2 _ (by omega), if_pos (by omega)]
    · rw [ewS_self, upd, if_neg (by decide), w2 _ (by omega), if_neg (by omega)]
    · rw [ewS_self, upd, if_pos rfl]
/-- stations and stretches as they stand -/
def mSt (h : Nat → Nat → Int32) (n m : Nat) (A B : Nat → Nat) : Prop := h 194 0 = nI n ∧ n ≤ 8 ∧ h 194 1 = nI m ∧ m ≤ 7 ∧ (∀ e, e < m → h 195 e = nI (A e) ∧ h 196 e = nI (B e)) ∧ (∀ e, e < m → A e < n ∧ B e < n) ∧ tOK A B m
/-- far, as far as it is known: i turns, and e stretches of the next one -/
def tFar (A B : Nat → Nat) (n m t i e : Nat) (f : Nat → Nat) : Prop := ∀ s, s < n → tds A B m s t ≤ f s ∧ f s ≤ 99 ∧ ((tds A B m s t ≤ i ∨ (tds A B m s t = i + 1 ∧ tfx A B m s t < e)) → f s = tds A B m s t)
theorem tds_99 {A B : Nat → Nat} {n k : Nat} (h8 : n ≤ 99) (hk : tOK A B k) (hn : ∀ e, e < k → A e < n ∧ B e < n) {s t : Nat} (hs : s < n) (ht : t < n) : tds A B k s t ≤ 99 := by
  by_cases h : plb A B k s = plb A B k t
  · have := tds_lt hk hn hs ht h; omega
  · rw [tds_no h]; omega
/-- one stretch of a turn -/
theorem tFar_e {A B : Nat → Nat} {n m t i e : Nat} {f : Nat → Nat} (h8 : n ≤ 8) (h7 : m ≤ 7) (hk : tOK A B m) (hn : ∀ e, e < m → A e < n ∧ B e < n) (ht : t < n) (hi : i < n) (he : e < m) (hf : tFar A B n m t i e f) :
    tFar A B n m t i (e + 1) (pup (pup f (A e) (if f (B e) + 1 < f (A e) then f (B e) + 1 else f (A e))) (B e) (if (if f (B e) + 1 < f (A e) then f (B e) + 1 else f (A e)) + 1 < f (B e) then (if f (B e) + 1 < f (A e) then f (B e) + 1 else f (A e)) + 1 else f (B e))) := by
  obtain ⟨ha, hb⟩ := hn e he
  have hab : A e ≠ B e := fun q => hk e he (by rw [q])
  obtain ⟨a1, a2, a3⟩ := hf _ ha
  obtain ⟨b1, b2, b3⟩ := hf _ hb
  intro s hs
  obtain ⟨s1, s2, s3⟩ := hf s hs
  by_cases hc : plb A B m (A e) = plb A B m t
  · rcases tds_end hk (by omega) he hc with ⟨q1, q2, q3⟩ | ⟨q1, q2, q3⟩
    · by_cases e1 : s = B e
      · subst e1
        rw [pup_self]
        refine ⟨by split <;> split <;> omega, by split <;> split <;> omega, fun hq => ?_⟩
        have := b3 (by omega)
        split <;> split <;> omega
      · rw [pup_ne _ _ e1]
        by_cases e2 : s = A e
        · subst e2
          rw [pup_self]
          refine ⟨by split <;> omega, by split <;> omega, fun hq => ?_⟩
          by_cases hz : tds A B m (A e) t ≤ i
          · have := a3 (Or.inl hz); split <;> omega
          · have := b3 (by omega)
            split <;> omega
        · rw [pup_ne _ _ e2]
          refine ⟨s1, s2, fun hq => s3 ?_⟩
          rcases hq with hq | ⟨hq, hr⟩
          · exact Or.inl hq
          · refine Or.inr ⟨hq, ?_⟩
            have hcs : plb A B m s = plb A B m t := by
              by_cases q : plb A B m s = plb A B m t
              · exact q
              · rw [tds_no q] at hq; omega
            have hne : s ≠ t := by intro q; rw [q, tds_0] at hq; omega
            have := tfx_at hk hcs hne
            by_cases q : tfx A B m s t = e
            · rw [q] at this
              rcases this.2 with ⟨z, -⟩ | ⟨z, -⟩
              · exact absurd z.symm e2
              · exact absurd z.symm e1
            · omega
    · by_cases e1 : s = B e
      · subst e1
        rw [pup_self]
        refine ⟨by split <;> split <;> omega, by split <;> split <;> omega, fun hq => ?_⟩
        by_cases hz : tds A B m (B e) t ≤ i
        · have := b3 (Or.inl hz); split <;> split <;> omega
        · have := a3 (by omega)
          split <;> split <;> omega
      · rw [pup_ne _ _ e1]
        by_cases e2 : s = A e
        · subst e2
          rw [pup_self]
          refine ⟨by split <;> omega, by split <;> omega, fun hq => ?_⟩
          have := a3 (by omega)
          split <;> omega
        · rw [pup_ne _ _ e2]
          refine ⟨s1, s2, fun hq => s3 ?_⟩
          rcases hq with hq | ⟨hq, hr⟩
          · exact Or.inl hq
          · refine Or.inr ⟨hq, ?_⟩
            have hcs : plb A B m s = plb A B m t := by
              by_cases q : plb A B m s = plb A B m t
              · exact q
              · rw [tds_no q] at hq; omega
            have hne : s ≠ t := by intro q; rw [q, tds_0] at hq; omega
            have := tfx_at hk hcs hne
            by_cases q : tfx A B m s t = e
            · rw [q] at this
              rcases this.2 with ⟨z, -⟩ | ⟨z, -⟩
              · exact absurd z.symm e2
              · exact absurd z.symm e1
            · omega
  · have hcb : ¬ plb A B m (B e) = plb A B m t := fun q => hc ((plb_ends he).trans q)
    have ea := tds_no hc
    have eb := tds_no hcb
    have fa : f (A e) = 99 := by omega
    have fb : f (B e) = 99 := by omega
    have e0 : pup (pup f (A e) (if f (B e) + 1 < f (A e) then f (B e) + 1 else f (A e))) (B e) (if (if f (B e) + 1 < f (A e) then f (B e) + 1 else f (A e)) + 1 < f (B e) then (if f (B e) + 1 < f (A e) then f (B e) + 1 else f (A e)) + 1 else f (B e)) s = f s := by
      by_cases e1 : s = B e
      · subst e1; rw [pup_self, fa, fb]; rfl
      · rw [pup_ne _ _ e1]
        by_cases e2 : s = A e
        · subst e2; rw [pup_self, fa, fb]; rfl
        · rw [pup_ne _ _ e2]
    rw [e0]
    refine ⟨s1, s2, fun hq => s3 ?_⟩
    rcases hq with hq | ⟨hq, hr⟩
    · exact Or.inl hq
    · refine Or.inr ⟨hq, ?_⟩
      have hcs : plb A B m s = plb A B m t := by
        by_cases q : plb A B m s = plb A B m t
        · exact q
        · rw [tds_no q] at hq; omega
      have hne : s ≠ t := by intro q; rw [q, tds_0] at hq; omega
      have := tfx_at hk hcs hne
      by_cases q : tfx A B m s t = e
      · rw [q] at this
        rcases this.2 with ⟨z, -⟩ | ⟨z, -⟩
        · exact absurd (z ▸ hcs) hc
        · exact absurd (z ▸ hcs) hcb
      · omega
/-- a turn is done -/
theorem tFar_i {A B : Nat → Nat} {n m t i : Nat} {f : Nat → Nat} (h8 : n ≤ 8) (hk : tOK A B m) (hi : i < n) (hf : tFar A B n m t i m f) : tFar A B n m t (i + 1) 0 f := by
  intro s hs
  obtain ⟨s1, s2, s3⟩ := hf s hs
  refine ⟨s1, s2, fun hq => s3 ?_⟩
  rcases hq with hq | ⟨hq, hr⟩
  · by_cases z : tds A B m s t ≤ i
    · exact Or.inl z
    · refine Or.inr ⟨by omega, ?_⟩
      have hcs : plb A B m s = plb A B m t := by
        by_cases q : plb A B m s = plb A B m t
        · exact q
        · rw [tds_no q] at hq; omega
      have hne : s ≠ t := by intro q; rw [q, tds_0] at z; omega
      exact (tfx_at hk hcs hne).1
  · omega
theorem tFar_n {A B : Nat → Nat} {n m t : Nat} {f : Nat → Nat} (hk : tOK A B m) (hn : ∀ e, e < m → A e < n ∧ B e < n) (ht : t < n) (hf : tFar A B n m t n 0 f) : ∀ s, s < n → f s = tds A B m s t := by
  intro s hs
  obtain ⟨s1, s2, s3⟩ := hf s hs
  by_cases q : plb A B m s = plb A B m t
  · exact s3 (Or.inl (by have := tds_lt hk hn hs ht q; omega))
  · have := tds_no q; omega
theorem tFar_0 {A B : Nat → Nat} {n m t : Nat} {f : Nat → Nat} (h8 : n ≤ 8) (hk : tOK A B m) (hn : ∀ e, e < m → A e < n ∧ B e < n) (ht : t < n) (hf : ∀ s, s < n → f s = if s = t then 0 else 99) : tFar A B n m t 0 0 f := by
  intro s hs
  rw [hf s hs]
  by_cases e : s = t
  · subst e; rw [if_pos rfl, tds_0]; exact ⟨by omega, by omega, fun _ => rfl⟩
  · rw [if_neg e]
    refine ⟨tds_99 (by omega) hk hn hs ht, by omega, fun hq => ?_⟩
    rcases hq with hq | ⟨-, hq⟩
    · exact absurd (tds_eq0 hk (by omega)) e
    · omega
def mFa (h : Nat → Nat → Int32) (x1 : Int32) (h' : Nat → Nat → Int32) : Prop := (∀ k, k ≠ 211 → h' k = h k) ∧ ∀ n m t A B, mSt h n m A B → x1 = nI t → t < n → ∀ s, s < n → h' 211 s = nI (tds A B m s t)
def p_Mo_layFar (h : Nat → Nat → Int32) (x1 : Int32) : Prop := ∃ n m t A B, mSt h n m A B ∧ x1 = nI t ∧ t < n
theorem mSt.fr {h h' : Nat → Nat → Int32} {n m : Nat} {A B : Nat → Nat} (a : mSt h n m A B) (h0 : h' 194 0 = h 194 0) (h1 : h' 194 1 = h 194 1) (h2 : h' 195 = h 195) (h3 : h' 196 = h 196) : mSt h' n m A B := by
  obtain ⟨a1, a2, a3, a4, a5, a6, a7⟩ := a
  exact ⟨h0.trans a1, a2, h1.trans a3, a4, fun e he => by rw [h2, h3]; exact a5 e he, a6, a7⟩
