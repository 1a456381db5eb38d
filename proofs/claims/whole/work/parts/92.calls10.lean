/-! the reference's calls: stretch -/
section CALLS10
variable {h w : Nat → Nat → Int32} {G : Nat → Nat → Int32} {tn : Nat} {tx : Nat → Int32} {fp wy : Int32} {n m : Nat} {A B : Nat → Nat} {k : Nat} {F T : Nat → Nat} {c : Nat → Int32} {u : Nat} {S : Nat → Nat → Int32} {g : Nat → Bool} {I : Nat → Nat → Int32}
/-- behind layPlan and layLengths -/
theorem mI.ll {w4 w7 : Nat → Nat → Int32} (a : mI h G tn tx fp wy n m A B k F T c u S g I) (o : mSe c m) (h4 : mLp h w4) (h9 : mLg w4 w7) : mI w7 G tn tx fp wy n m A B k F T c u S g I ∧ (w7 194 32 < 0 ↔ (pBp c m A B k F T).2.1 = 1000000) ∧ (¬ w7 194 32 < 0 → w7 194 32 = nI (pBp c m A B k F T).2.1 ∧ mDr w7 214 m (pBp c m A B k F T).2.2) ∧ (∀ e, e < m → w7 212 e = nI (ptr c A B e)) ∧ (∀ s, s < n → w7 215 s = nI (prt (plb A B m) s)) ∧ (w7 194 32 < 0 → w7 194 39 = -1) ∧ (¬ w7 194 32 < 0 → mRl w7 m (pBl n m A B (pBp c m A B k F T).2.2) ∧ ((pBl n m A B (pBp c m A B k F T).2.2).1 ≠ 1000000 → ∀ s, s < n → w7 216 s = ppx A B (pdx (pBp c m A B k F T).2.2 (pBl n m A B (pBp c m A B k F T).2.2).2) m s - ppx A B (pdx (pBp c m A B k F T).2.2 (pBl n m A B (pBp c m A B k F T).2.2).2) m (prt (plb A B m) s) ∧ w7 217 s = ppx A B (pdy (pBp c m A B k F T).2.2 (pBl n m A B (pBp c m A B k F T).2.2).2) m s - ppx A B (pdy (pBp c m A B k F T).2.2 (pBl n m A B (pBp c m A B k F T).2.2).2) m (prt (plb A B m) s))) := by
  obtain ⟨p1, p2⟩ := a.p o
  obtain ⟨⟨r1, r2, r3, r4, r5, r6, r7⟩, wN, w202, neg, good, pO, pL⟩ := mLp.at p1 h4
  have a4 := a.fr h4.1 (by decide) (by decide) (by decide) (by decide)
  obtain ⟨g1, g2, g3, g4, g5, g6, g7⟩ := a.2.2.1.g
  have h8 := a.2.2.1.1.2.1
  have h7 := a.2.2.1.1.2.2.2.1
  have hn := a.2.2.1.1.2.2.2.2.2.1
  rw [g1] at r1; rw [g2] at r2; rw [g3] at r3; rw [g4] at r4; rw [g5] at r5; rw [g6] at r6; rw [g7] at r7
  obtain ⟨f0, f1, f2, f3⟩ := h9
  have a7 := a4.fr f0 (by decide) (by decide) (by decide) (by decide)
  have e32 : w7 194 32 = w4 194 32 := f0.2 32 (by decide)
  unfold gL gR at f3
  unfold gR at f1
  rw [r1, r2, r3, r4] at f1 f3
  rw [e32, ← p2]
  refine ⟨a7, neg, fun q => ?_, fun e he => ?_, f1, f2, fun q => ?_⟩
  · obtain ⟨x1, x2, x3, x4⟩ := good q
    rw [x3, r2] at x4
    exact ⟨x1, x4.1, fun e he => by rw [f0.1 214 (by decide) (by decide)]; exact x4.2 e he⟩
  · rw [f0.1 212 (by decide) (by decide), h4.2.1 e (by rw [g2]; exact he), g3, g4]
    rw [ptr_cg (c := h 202) (c' := c) (fun i hi => a.2.2.2.1 i hi) (by have := hn e he; omega) (by have := hn e he; omega)]
  · have x3 := (good q).2.2.1
    have := f3 q
    rw [x3] at this
    exact this
end CALLS10
