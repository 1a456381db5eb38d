/-! what is so between calls, told of both sides alike -/
theorem fdS_cg {β : Type} {c c' : Nat → Nat} {g g' : Nat → Nat → Nat} {st : β → (Nat → Nat) → β} : ∀ k e, (∀ j, e ≤ j → j < e + k → c j = c' j ∧ ∀ i, g j i = g' j i) → ∀ v b, fdS c g st e k v b = fdS c' g' st e k v b
  | 0, _, _, _, _ => rfl
  | k + 1, e, h, v, b => by
    show (List.range (c e)).foldl (fun b i => fdS c g st (e + 1) k (pup v e (g e i)) b) b = (List.range (c' e)).foldl (fun b i => fdS c' g' st (e + 1) k (pup v e (g' e i)) b) b
    have h0 := h e (Nat.le_refl _) (by omega)
    rw [h0.1]
    congr 1
    funext b i
    rw [h0.2 i]
    exact fdS_cg k (e + 1) (fun j h1 h2 => h j (by omega) (by omega)) _ b
theorem ptr_cg {c c' : Nat → Int32} {A B : Nat → Nat} {e : Nat} (h : ∀ i, i < 25 → c i = c' i) (hA : A e < 8) (hB : B e < 8) : ptr c A B e = ptr c' A B e := by
  unfold ptr
  rw [h _ (by omega), h _ (by omega), h _ (by omega), h _ (by omega)]
/-- only the 25 numbers of a setting bear on the best plan -/
theorem pBp_cg {c c' : Nat → Int32} {n m : Nat} {A B : Nat → Nat} {k : Nat} {F T : Nat → Nat} (h : ∀ i, i < 25 → c i = c' i) (h8 : n ≤ 8) (h7 : m ≤ 7) (hn : ∀ e, e < m → A e < n ∧ B e < n) : pBp c m A B k F T = pBp c' m A B k F T := by
  have hp : ∀ e, e < m → ptr c A B e = ptr c' A B e := fun e he => ptr_cg h (by have := hn e he; omega) (by have := hn e he; omega)
  have hs : pst c m A B k F T = pst c' m A B k F T := by
    have e1 : ptn c A B m = ptn c' A B m := by
      funext e
      unfold ptn
      split
      · rename_i q; exact hp e q
      · rfl
    funext b v
    unfold pst
    rw [h 24 (by omega), h 23 (by omega), e1]
  unfold pBp
  rw [hs]
  refine fdS_cg m 0 (fun j _ hj => ?_) _ _
  have e1 : c (16 + j) = c' (16 + j) := h _ (by omega)
  refine ⟨by unfold pcN; rw [e1], fun i => ?_⟩
  unfold pdi
  rw [e1, hp j (by omega)]
theorem mSe_cg {c c' : Nat → Int32} {m : Nat} (h : ∀ i, i < 25 → c i = c' i) (h7 : m ≤ 7) : mSe c m → mSe c' m := by
  rintro ⟨a, b, e⟩
  refine ⟨by rw [← h 23 (by omega)]; exact a, by rw [← h 24 (by omega)]; exact b, fun j hj => by rw [← h _ (by omega)]; exact e j hj⟩
/-- the cost as it is told -/
def pCs (b : Nat × Nat × (Nat → Nat)) : Int32 := if b.2.1 = 1000000 then -1 else nI b.2.1
/-- the reference between calls: text tn, tx; fault fp, wy; net; setting c; what can be undone u, S; images g, I -/
theorem mGq {h w : Nat → Nat → Int32} {K L : List Nat} {G : Nat → Nat → Int32} (f : mFq h w K L) (hk : ∀ k, k ∈ K → 194 ≤ k) (a : ∀ q, q < 194 → h q = G q) : ∀ q, q < 194 → w q = G q := fun q hq => (f.1 q (by omega) (fun z => by have := hk q z; omega)).trans (a q hq)
/-- the reference between calls (G: what the class's rows hold) -/
def mI (h G : Nat → Nat → Int32) (tn : Nat) (tx : Nat → Int32) (fp wy : Int32) (n m : Nat) (A B : Nat → Nat) (k : Nat) (F T : Nat → Nat) (c : Nat → Int32) (u : Nat) (S : Nat → Nat → Int32) (g : Nat → Bool) (I : Nat → Nat → Int32) : Prop :=
  (h 194 12 = nI tn ∧ ∀ j, j < tn → h 203 j = tx j) ∧ ((h 194 13 = fp ∧ h 194 14 = wy) ∧ ∀ q, q < 194 → h q = G q) ∧ mNt h n m A B k F T ∧ (∀ i, i < 25 → h 202 i = c i) ∧ (h 194 47 = nI u ∧ ∀ j, j < u → ∀ i, i < 25 → h 226 (25 * j + i) = S j i) ∧ ∀ i, i < 2 → h 228 i = bI (g i) ∧ (g i = true → ∀ j, j < 25 → h 227 (25 * i + j) = I i j)
/-- a setting of a net -/
def aSe (n m : Nat) (c : Nat → Int32) : Prop := mSe c m ∧ ∀ s, s < n → (∃ x, x < 100 ∧ c s = nI x) ∧ ∃ y, y < 100 ∧ c (8 + s) = nI y
/-- what makes sense -/
def aOK (tn : Nat) (tx : Nat → Int32) (n m : Nat) (c : Nat → Int32) (u : Nat) (S : Nat → Nat → Int32) (g : Nat → Bool) (I : Nat → Nat → Int32) : Prop :=
  (tn ≤ 240 ∧ ∀ j, j < tn → ∃ x, x < 256 ∧ tx j = nI x) ∧ aSe n m c ∧ (u ≤ 16 ∧ ∀ j, j < u → aSe n m (S j)) ∧ ∀ i, i < 2 → g i = true → aSe n m (I i)
/-- a call may lay plans -/
theorem mI.p {h : Nat → Nat → Int32} {G : Nat → Nat → Int32} {tn : Nat} {tx : Nat → Int32} {fp wy : Int32} {n m : Nat} {A B : Nat → Nat} {k : Nat} {F T : Nat → Nat} {c : Nat → Int32} {u : Nat} {S : Nat → Nat → Int32} {g : Nat → Bool} {I : Nat → Nat → Int32} (a : mI h G tn tx fp wy n m A B k F T c u S g I) (o : mSe c m) : p_Mo_layPlan h ∧ gP h = pBp c m A B k F T := by
  obtain ⟨-, -, a3, a4, -⟩ := a
  obtain ⟨g1, g2, g3, g4, g5, g6, g7⟩ := a3.g
  have h7 := a3.1.2.2.2.1
  refine ⟨⟨a3.N, ?_⟩, ?_⟩
  · rw [g2]; exact mSe_cg (fun i hi => (a4 i hi).symm) h7 o
  · unfold gP
    rw [g2, g3, g4, g5, g6, g7]
    exact pBp_cg a4 a3.1.2.1 h7 a3.1.2.2.2.2.2.1
/-- plans, lengths, orders may be laid between calls: nothing of it is told -/
theorem mI.fr {h w : Nat → Nat → Int32} {K L : List Nat} {G : Nat → Nat → Int32} {tn : Nat} {tx : Nat → Int32} {fp wy : Int32} {n m : Nat} {A B : Nat → Nat} {k : Nat} {F T : Nat → Nat} {c : Nat → Int32} {u : Nat} {S : Nat → Nat → Int32} {g : Nat → Bool} {I : Nat → Nat → Int32} (a : mI h G tn tx fp wy n m A B k F T c u S g I) (f : mFq h w K L) (hK : 195 ∉ K ∧ 196 ∉ K ∧ 197 ∉ K ∧ 198 ∉ K ∧ 199 ∉ K ∧ 200 ∉ K ∧ 201 ∉ K) (hK2 : 202 ∉ K ∧ 203 ∉ K ∧ 226 ∉ K ∧ 227 ∉ K ∧ 228 ∉ K ∧ ∀ k, k ∈ K → 194 ≤ k) (hL : 0 ∉ L ∧ 1 ∉ L ∧ 4 ∉ L) (hL2 : 12 ∉ L ∧ 13 ∉ L ∧ 14 ∉ L ∧ 47 ∉ L) : mI w G tn tx fp wy n m A B k F T c u S g I := by
  obtain ⟨a1, a2, a3, a4, a5, a6⟩ := a
  obtain ⟨q2, q3, q26, q27, q28, q0⟩ := hK2
  obtain ⟨l12, l13, l14, l47⟩ := hL2
  obtain ⟨r1, r2, r3, r4, r5, r6, r7, r8⟩ := g_fr f hK hL
  obtain ⟨g1, g2, g3, g4, g5, g6, g7⟩ := a3.g
  have wN := r8 a3.N
  unfold mN at wN
  rw [r1, r2, r3, r4, r5, r6, r7, g1, g2, g3, g4, g5, g6, g7] at wN
  refine ⟨by rw [f.2 12 l12, f.1 203 (by decide) q3]; exact a1, ⟨by rw [f.2 13 l13, f.2 14 l14]; exact a2.1, mGq f q0 a2.2⟩, wN, by rw [f.1 202 (by decide) q2]; exact a4, by rw [f.2 47 l47, f.1 226 (by decide) q26]; exact a5, ?_⟩
  rw [f.1 227 (by decide) q27, f.1 228 (by decide) q28]
  exact a6
