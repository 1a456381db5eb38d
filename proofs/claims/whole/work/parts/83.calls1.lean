/-! the reference's calls, between mI and mI -/
/-- what can be undone, with one more -/
def pPu (u : Nat) : Nat := if u = 16 then 16 else u + 1
def pPS (u : Nat) (S : Nat → Nat → Int32) (c : Nat → Int32) (j : Nat) : Nat → Int32 := if u = 16 then (if j = 15 then c else S (j + 1)) else (if j = u then c else S j)
section CALLS
variable {h w : Nat → Nat → Int32} {G : Nat → Nat → Int32} {tn : Nat} {tx : Nat → Int32} {fp wy : Int32} {n m : Nat} {A B : Nat → Nat} {k : Nat} {F T : Nat → Nat} {c : Nat → Int32} {u : Nat} {S : Nat → Nat → Int32} {g : Nat → Bool} {I : Nat → Nat → Int32}
theorem mI.rm (a : mI h G tn tx fp wy n m A B k F T c u S g I) (hu : u ≤ 16) (r : mRm h w) : mI w G tn tx fp wy n m A B k F T c (pPu u) (pPS u S c) g I := by
  obtain ⟨f, r⟩ := r
  obtain ⟨r1, r2⟩ := r u a.2.2.2.2.1.1 hu
  have a0 := a
  obtain ⟨a1, a2, a3, a4, ⟨a5, a6⟩, a7⟩ := a
  obtain ⟨q1, q2, q3, q4, q5, q6, q7, q8⟩ := g_fr f (by decide) (by decide)
  obtain ⟨g1, g2, g3, g4, g5, g6, g7⟩ := a3.g
  have wN := q8 a3.N
  unfold mN at wN
  rw [q1, q2, q3, q4, q5, q6, q7, g1, g2, g3, g4, g5, g6, g7] at wN
  refine ⟨by rw [f.2 12 (by decide), f.1 203 (by decide) (by decide)]; exact a1, ⟨by rw [f.2 13 (by decide), f.2 14 (by decide)]; exact a2.1, mGq f (by decide) a2.2⟩, wN, by rw [f.1 202 (by decide) (by decide)]; exact a4, ?_, by rw [f.1 227 (by decide) (by decide), f.1 228 (by decide) (by decide)]; exact a7⟩
  unfold pPu pPS
  by_cases e : u = 16
  · obtain ⟨s1, s2, s3⟩ := r2 e
    rw [if_pos e]
    refine ⟨s1, fun j hj i hi => ?_⟩
    rw [if_pos e]
    by_cases z : j = 15
    · rw [if_pos z, z, s3 i hi, a4 i hi]
    · rw [if_neg z, s2 j (by omega) i hi, a6 (j + 1) (by omega) i hi]
  · obtain ⟨s1, s2, s3⟩ := r1 (by omega)
    rw [if_neg e]
    refine ⟨s1, fun j hj i hi => ?_⟩
    rw [if_neg e]
    by_cases z : j = u
    · rw [if_pos z, z, s3 i hi, a4 i hi]
    · rw [if_neg z, s2 j (by omega) i hi, a6 j (by omega) i hi]
theorem mI.bc {y : Int32} (a : mI h G tn tx fp wy n m A B k F T c u S g I) (o : mSe c m) (r : mBc h w y) : y = pCs (pBp c m A B k F T) ∧ mI w G tn tx fp wy n m A B k F T c u S g I := by
  obtain ⟨p1, p2⟩ := a.p o
  obtain ⟨-, -, -, neg, good, -⟩ := mLp.at p1 r.1
  refine ⟨?_, a.fr r.1.1 (by decide) (by decide) (by decide) (by decide)⟩
  rw [r.2, ← p2]
  unfold pCs
  by_cases q : w 194 32 < 0
  · rw [if_pos (neg.mp q)]
    exact r.1.2.2.2.1 (neg.mp q)
  · rw [if_neg (fun z => q (neg.mpr z))]
    exact (good q).1
/-- the setting is changed at one place -/
theorem mI.st (a : mI h G tn tx fp wy n m A B k F T c u S g I) (i : Nat) (x : Int32) : mI (ewS h 202 (upd (h 202) i x)) G tn tx fp wy n m A B k F T (upd c i x) u S g I := by
  obtain ⟨a1, a2, a3, a4, a5, a7⟩ := a
  have f : mFq h (ewS h 202 (upd (h 202) i x)) [202] [] := ⟨fun k hk hK => ewS_ne _ _ (fun e => hK (by rw [e]; simp)), fun j _ => by rw [ewS_ne _ _ (by decide)]⟩
  obtain ⟨q1, q2, q3, q4, q5, q6, q7, q8⟩ := g_fr f (by decide) (by decide)
  obtain ⟨g1, g2, g3, g4, g5, g6, g7⟩ := a3.g
  have wN := q8 a3.N
  unfold mN at wN
  rw [q1, q2, q3, q4, q5, q6, q7, g1, g2, g3, g4, g5, g6, g7] at wN
  refine ⟨by rw [f.2 12 (by decide), f.1 203 (by decide) (by decide)]; exact a1, ⟨by rw [f.2 13 (by decide), f.2 14 (by decide)]; exact a2.1, mGq f (by decide) a2.2⟩, wN, fun j hj => ?_, by rw [f.2 47 (by decide), f.1 226 (by decide) (by decide)]; exact a5, by rw [f.1 227 (by decide) (by decide), f.1 228 (by decide) (by decide)]; exact a7⟩
  rw [ewS_self, upd, upd]
  split
  · rfl
  · exact a4 j hj
theorem mSe_fix (o : mSe c m) {e j : Nat} (he : e < 7) (hj : j < 8) : mSe (upd c (16 + e) (nI j)) m := by
  obtain ⟨o1, o2, o3⟩ := o
  refine ⟨by rw [upd, if_neg (by omega)]; exact o1, by rw [upd, if_neg (by omega)]; exact o2, fun f hf => ?_⟩
  rw [upd]
  split
  · exact Or.inr ⟨j, hj, rfl⟩
  · exact o3 f hf
theorem isStretch_n (a : mI h G tn tx fp wy n m A B k F T c u S g I) (x : Int32) : f_Mo_isStretch h x ↔ ∃ e, e < m ∧ x = nI e := by
  have h1 := a.2.2.1.1.2.2.1
  have h7 := a.2.2.1.1.2.2.2.1
  unfold f_Mo_isStretch
  rw [h1]
  exact in_cnt x (by omega)
theorem in_07 (x : Int32) (b : Nat) (hb : b < 1000) : f_Mo_in x.toInt64 (Int64.ofNat 0) (Int64.ofNat b) ↔ ∃ i, i < b + 1 ∧ x = nI i := by
  rw [in_nat _ _ _ (by decide) (by omega), ← nI_iff (by omega)]
  omega
/-- fix -/
theorem t_Mo_fix {X : Nat × (Nat → Int32)} {d : Nat} {cu sp n1 n2 n3 n4 : Nat} (a : mI h G tn tx fp wy n m A B k F T c u S g I) (o : mSe c m) (hu : u ≤ 16) (x1 x2 : Int32) : ewP X Mo_fix (d + 7) 0 [some (.ref 194), some (.int x1), some (.int x2)] [] (0, 0) (229, ewR cu sp n1 n2 n3 n4, h) (fun v S' => ∃ (h' : Nat → Nat → Int32) (y : Int32), v = some (.int y) ∧ S' = (229, ewR cu sp n1 n2 n3 n4, h') ∧
    ((¬ (∃ e, e < m ∧ x1 = nI e) ∧ y = -1000000001 ∧ h' = h) ∨ ((∃ e, e < m ∧ x1 = nI e) ∧ ¬ (∃ j, j < 8 ∧ x2 = nI j) ∧ y = -1000000002 ∧ h' = h) ∨ ∃ e j, e < m ∧ j < 8 ∧ x1 = nI e ∧ x2 = nI j ∧ y = pCs (pBp (upd c (16 + e) (nI j)) m A B k F T) ∧ mI h' G tn tx fp wy n m A B k F T (upd c (16 + e) (nI j)) (pPu u) (pPS u S c) g I)) := by
  have is := isStretch_n a x1
  have i7 := in_07 x2 7 (by omega)
  have h7 := a.2.2.1.1.2.2.2.1
  refine v_Mo_fix_0 x1 x2 h (fun _ _ => ⟨u, a.2.2.2.2.1.1, hu⟩) (fun q1 q2 w6 hw6 => ?_) (fun q1 q2 => ⟨h, _, rfl, rfl, Or.inr (Or.inl ⟨is.mp q1, fun z => q2 (i7.mpr z), rfl, rfl⟩)⟩) (fun q => ⟨h, _, rfl, rfl, Or.inl ⟨fun z => q (is.mpr z), rfl, rfl⟩⟩)
  obtain ⟨e, he, rfl⟩ := is.mp q1
  obtain ⟨j, hj, rfl⟩ := i7.mp q2
  have s16 : (16 : Int32) + nI e = nI (16 + e) := nI_ad 16 e
  rw [s16, nI_clamp (show 16 + e < 2 ^ 31 by omega)]
  have b := (a.rm hu hw6).st (16 + e) (nI j)
  have o2 := mSe_fix o (e := e) (j := j) (by omega) (by omega)
  refine ⟨nI_inB (by omega) (by decide), (b.p o2).1, fun w9 y10 hw9 => ?_⟩
  obtain ⟨e1, e2⟩ := b.bc o2 hw9
  exact ⟨w9, y10, rfl, rfl, Or.inr (Or.inr ⟨e, j, he, by omega, rfl, rfl, e1, e2⟩)⟩
end CALLS
