/-! pure: what spreads along stretches; the least station of a tree; places -/
theorem i32_a (a b c : Int32) : a + (b + c - a) = b + c := by grind
theorem i32_b (a b c : Int32) (h : a = b + c) (d : Int32) : a + d = b + d + c := by grind
def tSp (A B : Nat → Nat) (n m : Nat) (r : Nat → Nat) (i e : Nat) (G : Nat → Prop) : Prop := ∀ s, s < n → (tds A B m s (r s) ≤ i ∨ (tds A B m s (r s) = i + 1 ∧ tfx A B m s (r s) < e)) → G s
theorem tSp_e {A B : Nat → Nat} {n m : Nat} {r : Nat → Nat} {i e : Nat} {G G' : Nat → Prop} (h9 : m ≤ 90) (hk : tOK A B m) (hr : ∀ s, s < n → plb A B m (r s) = plb A B m s) (hrc : ∀ s t, s < n → t < n → plb A B m s = plb A B m t → r s = r t) (hn : ∀ e, e < m → A e < n ∧ B e < n) (he : e < m) (mono : ∀ s, s < n → G s → G' s) (both : G (A e) ∨ G (B e) → G' (A e) ∧ G' (B e)) (h : tSp A B n m r i e G) : tSp A B n m r i (e + 1) G' := by
  intro s hs hq
  rcases hq with hq | ⟨hq, hlt⟩
  · exact mono s hs (h s hs (Or.inl hq))
  · by_cases q : tfx A B m s (r s) = e
    · have hne : s ≠ r s := by intro z; rw [← z, tds_0] at hq; omega
      obtain ⟨f1, f2⟩ := tfx_at hk (hr s hs).symm hne
      rw [q] at f2
      obtain ⟨hA, hB⟩ := hn e he
      rcases f2 with ⟨g1, g2⟩ | ⟨g1, g2⟩
      · have e1 : r (B e) = r s := hrc _ _ hB hs (by rw [← plb_ends he, g1])
        have := (both (Or.inr (h (B e) hB (Or.inl (by rw [e1]; omega))))).1
        rw [g1] at this; exact this
      · have e1 : r (A e) = r s := hrc _ _ hA hs (by rw [plb_ends he, g1])
        have := (both (Or.inl (h (A e) hA (Or.inl (by rw [e1]; omega))))).2
        rw [g1] at this; exact this
    · exact mono s hs (h s hs (Or.inr ⟨hq, by omega⟩))
theorem tSp_i {A B : Nat → Nat} {n m : Nat} {r : Nat → Nat} {i : Nat} {G : Nat → Prop} (hk : tOK A B m) (hr : ∀ s, s < n → plb A B m (r s) = plb A B m s) (h : tSp A B n m r i m G) : tSp A B n m r (i + 1) 0 G := by
  intro s hs hq
  refine h s hs ?_
  rcases hq with hq | ⟨-, hq⟩
  · by_cases z : tds A B m s (r s) ≤ i
    · exact Or.inl z
    · refine Or.inr ⟨by omega, ?_⟩
      have hne : s ≠ r s := by intro q; rw [← q, tds_0] at z; omega
      exact (tfx_at hk (hr s hs).symm hne).1
  · omega
theorem tSp_n {A B : Nat → Nat} {n m : Nat} {r : Nat → Nat} {G : Nat → Prop} (hk : tOK A B m) (hn : ∀ e, e < m → A e < n ∧ B e < n) (hr : ∀ s, s < n → plb A B m (r s) = plb A B m s) (hrn : ∀ s, s < n → r s < n) (h : tSp A B n m r n 0 G) : ∀ s, s < n → G s := fun s hs => h s hs (Or.inl (by have := tds_lt hk hn hs (hrn s hs) (hr s hs).symm; omega))
theorem tSp_0 {A B : Nat → Nat} {n m : Nat} {r : Nat → Nat} {G : Nat → Prop} (hk : tOK A B m) (h : ∀ s, s < n → s = r s → G s) : tSp A B n m r 0 0 G := by
  intro s hs hq
  rcases hq with hq | ⟨-, hq⟩
  · exact h s hs (tds_eq0 hk (by omega))
  · omega
/-- the least station of a tree, looked for from t on -/
def prt0 (lb : Nat → Nat) (s : Nat) : Nat → Nat → Nat
  | 0, _ => s
  | k + 1, t => if lb t = lb s then t else prt0 lb s k (t + 1)
def prt (lb : Nat → Nat) (s : Nat) : Nat := prt0 lb s s 0
theorem prt0_at {lb : Nat → Nat} {s : Nat} : ∀ k t, t + k = s → (∀ u, u < t → lb u ≠ lb s) → lb (prt0 lb s k t) = lb s ∧ prt0 lb s k t ≤ s ∧ ∀ u, u < prt0 lb s k t → lb u ≠ lb s
  | 0, t, h, hu => ⟨rfl, Nat.le_refl _, fun u hu2 => hu u (by have : u < s := hu2; omega)⟩
  | k + 1, t, h, hu => by
    unfold prt0
    by_cases q : lb t = lb s
    · rw [if_pos q]; exact ⟨q, by omega, hu⟩
    · rw [if_neg q]
      refine prt0_at k (t + 1) (by omega) (fun u hu2 => ?_)
      by_cases z : u = t
      · rw [z]; exact q
      · exact hu u (by omega)
theorem prt_at (lb : Nat → Nat) (s : Nat) : lb (prt lb s) = lb s ∧ prt lb s ≤ s ∧ ∀ u, u < prt lb s → lb u ≠ lb s := prt0_at s 0 (by omega) (fun u hu => by omega)
theorem prt_eq {lb : Nat → Nat} {s t : Nat} (h : lb s = lb t) : prt lb s = prt lb t := by
  obtain ⟨a1, a2, a3⟩ := prt_at lb s
  obtain ⟨b1, b2, b3⟩ := prt_at lb t
  rcases Nat.lt_trichotomy (prt lb s) (prt lb t) with q | q | q
  · exact absurd (a1.trans h) (b3 _ q)
  · exact q
  · exact absurd (b1.trans h.symm) (a3 _ q)
/-- where stations lie by the first k stretches (one coordinate) -/
def ppx (A B : Nat → Nat) (dx : Nat → Int32) : Nat → Nat → Int32
  | 0, _ => 0
  | k + 1, s => if plb A B k s = plb A B k (B k) then ppx A B dx k s + (ppx A B dx k (A k) + dx k - ppx A B dx k (B k)) else ppx A B dx k s
theorem ppx_edge {A B : Nat → Nat} {dx : Nat → Int32} : ∀ {k : Nat}, tOK A B k → ∀ {e : Nat}, e < k → ppx A B dx k (B e) = ppx A B dx k (A e) + dx e
  | k + 1, hk, e, he => by
    have hk0 := hk k (by omega)
    show (if _ then _ else _) = (if _ then _ else _) + dx e
    by_cases q : e = k
    · subst q
      rw [if_pos rfl, if_neg hk0]
      exact i32_a _ _ _
    · have ih := ppx_edge (dx := dx) (hk.lt (by omega)) (show e < k by omega)
      have hend := plb_ends (A := A) (B := B) (show e < k by omega)
      by_cases z : plb A B k (B e) = plb A B k (B k)
      · rw [if_pos z, if_pos (hend.trans z)]
        exact i32_b _ _ _ ih _
      · rw [if_neg z, if_neg (fun y => z (hend.symm.trans y))]
        exact ih
