/-! the reference: a clause -/
def mPS (h : Nat → Nat → Int32) (n : Nat) (z : pSt) : Prop := mTx h z.1 n ∧
  (h 194 18 = nI z.2.1.1 ∧ z.2.1.1 ≤ 8 ∧ ∀ s, s < z.2.1.1 → h 204 s = nI (z.2.1.2.1 s) ∧ h 205 s = nI (z.2.1.2.2 s) ∧ h 210 s = nI (plb z.2.2.1.2.1 z.2.2.1.2.2 z.2.2.1.1 s)) ∧
  (h 194 21 = nI z.2.2.1.1 ∧ z.2.2.1.1 ≤ 7 ∧ ∀ e, e < z.2.2.1.1 → h 206 e = nI (z.2.2.1.2.1 e) ∧ h 207 e = nI (z.2.2.1.2.2 e)) ∧
  (h 194 24 = nI z.2.2.2.1 ∧ z.2.2.2.1 ≤ 3 ∧ ∀ l, l < z.2.2.2.1 → h 208 l = nI (z.2.2.2.2.1 l) ∧ h 209 l = nI (z.2.2.2.2.2 l))
/-- what has been read makes sense -/
def pWF (z : pSt) : Prop := (∀ s, s < z.2.1.1 → z.2.1.2.1 s < 100 ∧ z.2.1.2.2 s < 100) ∧ (∀ e, e < z.2.2.1.1 → z.2.2.1.2.1 e < z.2.1.1 ∧ z.2.2.1.2.2 e < z.2.1.1 ∧ plb z.2.2.1.2.1 z.2.2.1.2.2 e (z.2.2.1.2.1 e) ≠ plb z.2.2.1.2.1 z.2.2.1.2.2 e (z.2.2.1.2.2 e)) ∧
  (∀ l, l < z.2.2.2.1 → z.2.2.2.2.1 l < z.2.1.1 ∧ z.2.2.2.2.2 l < z.2.1.1 ∧ z.2.2.2.2.1 l ≠ z.2.2.2.2.2 l ∧ plb z.2.2.1.2.1 z.2.2.1.2.2 z.2.2.1.1 (z.2.2.2.2.1 l) = plb z.2.2.1.2.1 z.2.2.1.2.2 z.2.2.1.1 (z.2.2.2.2.2 l))
theorem plb_congr {A B A' B' : Nat → Nat} : ∀ (e : Nat), (∀ i, i < e → A' i = A i ∧ B' i = B i) → ∀ s, plb A' B' e s = plb A B e s
  | 0, _, s => rfl
  | e + 1, h, s => by
    have ih := plb_congr e (fun i hi => h i (by omega))
    unfold plb
    rw [ih, ih, ih, (h e (by omega)).1, (h e (by omega)).2]
theorem plb_lt {A B : Nat → Nat} {n : Nat} : ∀ (e : Nat), (∀ i, i < e → A i < n ∧ B i < n) → ∀ s, s < n → plb A B e s < n
  | 0, _, s, hs => hs
  | e + 1, h, s, hs => by
    have ih := plb_lt (n := n) e (fun i hi => h i (by omega))
    unfold plb
    split
    · exact ih _ (h e (by omega)).1
    · exact ih _ hs
theorem plb_new {A B : Nat → Nat} {n : Nat} : ∀ (e : Nat), (∀ i, i < e → A i < n ∧ B i < n) → plb A B e n = n
  | 0, _ => rfl
  | e + 1, h => by
    have ih := plb_new (n := n) e (fun i hi => h i (by omega))
    have hb := plb_lt (n := n) e (fun i hi => h i (by omega)) _ (h e (by omega)).2
    unfold plb
    rw [ih, if_neg (by omega)]
theorem pup_self (f : Nat → Nat) (k v : Nat) : pup f k v k = v := if_pos rfl
theorem pup_ne (f : Nat → Nat) {k j : Nat} (v : Nat) (h : j ≠ k) : pup f k v j = f j := if_neg h
/-- later stretches keep what is joined -/
theorem plb_step {A B : Nat → Nat} (e s t : Nat) (h : plb A B e s = plb A B e t) : plb A B (e + 1) s = plb A B (e + 1) t := by
  unfold plb
  rw [h]
theorem mPS.here {h : Nat → Nat → Int32} {n : Nat} {z : pSt} (hz : mPS h n z) : f_Mo_here h = (if psk (h 203) n z.1 < n then h 203 (psk (h 203) n z.1) else -1) ∧ g_Mo_here h = ewS h 194 (upd (h 194) 15 (nI (psk (h 203) n z.1))) := by
  obtain ⟨ha, hn, han, hn2⟩ := hz.1
  unfold f_Mo_here g_Mo_here
  rw [ha, hn, nI_clamp (by omega), nI_clamp (by omega)]
  exact ⟨rfl, rfl⟩
def mTc (h : Nat → Nat → Int32) (h' : Nat → Nat → Int32) (y : Int32) : Prop := mFq h h' [204, 205, 206, 207, 208, 209, 210] [13, 14, 15, 16, 17, 18, 21, 24] ∧ ∀ (n : Nat) (z : pSt), mPS h n z → pWF z → psk (h 203) n z.1 < n →
  match pcl (h 203) n z with
  | .inl x => y = nI x.1 ∧ x.1 ≠ 0 ∧ x.1 ≤ 4 ∧ h' 194 13 = nI x.2.1 ∧ h' 194 14 = (if x.2.2 = 0 then h 194 14 else nI x.2.2)
  | .inr z' => y = 0 ∧ mPS h' n z' ∧ pWF z' ∧ h' 194 13 = h 194 13 ∧ h' 194 14 = h 194 14
def p_Mo_takeClause (h : Nat → Nat → Int32) : Prop := ∃ (n : Nat) (z : pSt), mPS h n z ∧ pWF z ∧ psk (h 203) n z.1 < n
/-- where the letters' own part of pcl ends -/
theorem pcl_bad {t : Nat → Int32} {n : Nat} {z : pSt} (h1 : ¬ t (psk t n z.1) = 115) (h2 : ¬ t (psk t n z.1) = 101) (h3 : ¬ t (psk t n z.1) = 108) : pcl t n z = .inl (1, psk t n z.1, 0) := by
  unfold pcl
  simp only
  rw [if_pos ⟨h1, h2, h3⟩]
theorem pcl_full {t : Nat → Int32} {n : Nat} {z : pSt} (h : (t (psk t n z.1) = 115 ∧ z.2.1.1 = 8) ∨ (t (psk t n z.1) = 101 ∧ z.2.2.1.1 = 7) ∨ (t (psk t n z.1) = 108 ∧ z.2.2.2.1 = 3)) : pcl t n z = .inl (3, psk t n z.1, 0) := by
  unfold pcl
  simp only
  rw [if_neg (by rcases h with h | h | h <;> simp [h.1]), if_pos h]
theorem pcl_go {t : Nat → Int32} {n : Nat} {z : pSt} {c : Int32} (hc : t (psk t n z.1) = c) (h : c = 115 ∨ c = 101 ∨ c = 108) (hf : ¬ ((c = 115 ∧ z.2.1.1 = 8) ∨ (c = 101 ∧ z.2.2.1.1 = 7) ∨ (c = 108 ∧ z.2.2.2.1 = 3))) {lim w : Nat} (hl : (if c = 115 then 100 else z.2.1.1) = lim)
    (hw : (if c = 115 then 0 else pwy (plb z.2.2.1.2.1 z.2.2.1.2.2 z.2.2.1.1) (decide (c = 101)) (pnv t n (psk t n z.1 + 1)) (pnv t n (pnq t n (psk t n z.1 + 1)))) = w) :
    (p2f t n (psk t n z.1 + 1) lim ≠ 0 → pcl t n z = .inl (p2f t n (psk t n z.1 + 1) lim, p2p t n (psk t n z.1 + 1) lim, 0)) ∧
    (p2f t n (psk t n z.1 + 1) lim = 0 → w ≠ 0 → pcl t n z = .inl (4, pnp t n (pnq t n (psk t n z.1 + 1)), w)) ∧
    (p2f t n (psk t n z.1 + 1) lim = 0 → w = 0 → ¬ (psk t n (pnq t n (pnq t n (psk t n z.1 + 1))) < n ∧ t (psk t n (pnq t n (pnq t n (psk t n z.1 + 1)))) = 59) → pcl t n z = .inl (1, psk t n (pnq t n (pnq t n (psk t n z.1 + 1))), 0)) ∧
    (p2f t n (psk t n z.1 + 1) lim = 0 → w = 0 → (psk t n (pnq t n (pnq t n (psk t n z.1 + 1))) < n ∧ t (psk t n (pnq t n (pnq t n (psk t n z.1 + 1)))) = 59) → pcl t n z = .inr (psk t n (pnq t n (pnq t n (psk t n z.1 + 1))) + 1, if c = 115 then ((z.2.1.1 + 1, pup z.2.1.2.1 z.2.1.1 (pnv t n (psk t n z.1 + 1)), pup z.2.1.2.2 z.2.1.1 (pnv t n (pnq t n (psk t n z.1 + 1)))), z.2.2.1, z.2.2.2)
              else if c = 101 then (z.2.1, (z.2.2.1.1 + 1, pup z.2.2.1.2.1 z.2.2.1.1 (pnv t n (psk t n z.1 + 1)), pup z.2.2.1.2.2 z.2.2.1.1 (pnv t n (pnq t n (psk t n z.1 + 1)))), z.2.2.2)
              else (z.2.1, z.2.2.1, (z.2.2.2.1 + 1, pup z.2.2.2.2.1 z.2.2.2.1 (pnv t n (psk t n z.1 + 1)), pup z.2.2.2.2.2 z.2.2.2.1 (pnv t n (pnq t n (psk t n z.1 + 1))))))) := by
  have h0 : ¬ (c ≠ 115 ∧ c ≠ 101 ∧ c ≠ 108) := by
    rintro ⟨q1, q2, q3⟩
    rcases h with h | h | h
    · exact q1 h
    · exact q2 h
    · exact q3 h
  unfold pcl p2f p2p
  simp only
  rw [hc, if_neg h0, if_neg hf, hl, hw]
  refine ⟨fun q => ?_, fun q1 q2 => ?_, fun q1 q2 q3 => ?_, fun q1 q2 q3 => ?_⟩
  · by_cases e : pnf t n (psk t n z.1 + 1) lim = 0
    · rw [if_pos e] at q ⊢
      rw [if_pos e, if_neg (by simp [e]), if_pos q]
    · rw [if_neg e] at q ⊢
      rw [if_neg e, if_pos e]
  all_goals
    have e : pnf t n (psk t n z.1 + 1) lim = 0 := by
      by_cases e : pnf t n (psk t n z.1 + 1) lim = 0
      · exact e
      · rw [if_neg e] at q1; exact absurd q1 e
    rw [if_pos e] at q1
    rw [if_neg (by simp [e]), if_neg (by simp [q1])]
  · rw [if_pos q2]
  · rw [if_neg (by simp [q2]), if_neg q3]
  · rw [if_neg (by simp [q2]), if_pos q3]
