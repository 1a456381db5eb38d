/-! the reference's calls: undo, keep, count, goBack -/
section CALLS3
variable {h w : Nat → Nat → Int32} {G : Nat → Nat → Int32} {tn : Nat} {tx : Nat → Int32} {fp wy : Int32} {n m : Nat} {A B : Nat → Nat} {k : Nat} {F T : Nat → Nat} {c : Nat → Int32} {u : Nat} {S : Nat → Nat → Int32} {g : Nat → Bool} {I : Nat → Nat → Int32}
/-- the setting, the undos and the images may change; text and net stay -/
theorem mI.ch (a : mI h G tn tx fp wy n m A B k F T c u S g I) {c' : Nat → Int32} {u' : Nat} {S' : Nat → Nat → Int32} {g' : Nat → Bool} {I' : Nat → Nat → Int32} (f : mFq h w [202, 226, 227, 228] [47]) (h1 : ∀ i, i < 25 → w 202 i = c' i) (h2 : w 194 47 = nI u' ∧ ∀ j, j < u' → ∀ i, i < 25 → w 226 (25 * j + i) = S' j i) (h3 : ∀ i, i < 2 → w 228 i = bI (g' i) ∧ (g' i = true → ∀ j, j < 25 → w 227 (25 * i + j) = I' i j)) : mI w G tn tx fp wy n m A B k F T c' u' S' g' I' := by
  obtain ⟨a1, a2, a3, a4, a5, a7⟩ := a
  obtain ⟨q1, q2, q3, q4, q5, q6, q7, q8⟩ := g_fr f (by decide) (by decide)
  obtain ⟨g1, g2, g3, g4, g5, g6, g7⟩ := a3.g
  have wN := q8 a3.N
  unfold mN at wN
  rw [q1, q2, q3, q4, q5, q6, q7, g1, g2, g3, g4, g5, g6, g7] at wN
  exact ⟨by rw [f.2 12 (by decide), f.1 203 (by decide) (by decide)]; exact a1, ⟨by rw [f.2 13 (by decide), f.2 14 (by decide)]; exact a2.1, mGq f (by decide) a2.2⟩, wN, h1, h2, h3⟩
theorem t_Mo_undo {X : Nat × (Nat → Int32)} {d : Nat} {cu sp n1 n2 n3 n4 : Nat} (a : mI h G tn tx fp wy n m A B k F T c u S g I) (hu : u ≤ 16) : ewP X Mo_undo (d + 0) 0 [some (.ref 194), none] [] (0, 0) (229, ewR cu sp n1 n2 n3 n4, h) (fun v S' => ∃ (h' : Nat → Nat → Int32) (y : Int32), v = some (.int y) ∧ S' = (229, ewR cu sp n1 n2 n3 n4, h') ∧
    ((u = 0 ∧ y = -1000000003 ∧ h' = h) ∨ (u ≠ 0 ∧ y = nI (u - 1) ∧ mI h' G tn tx fp wy n m A B k F T (S (u - 1)) (u - 1) S g I))) := by
  refine ewP_m (fun v S' q => ?_) (s_Mo_undo h ⟨u, a.2.2.2.2.1.1, hu⟩)
  obtain ⟨h', y, hm, ev, eS⟩ := q
  refine ⟨h', y, ev, eS, ?_⟩
  obtain ⟨r1, r2⟩ := hm u a.2.2.2.2.1.1 hu
  by_cases e : u = 0
  · exact Or.inl ⟨e, r1 e⟩
  · obtain ⟨s1, s2, s3, s4⟩ := r2 e
    refine Or.inr ⟨e, s1, a.ch (s2.wk (by simp) (by simp)) (fun i hi => ?_) ⟨s3, fun j hj i hi => ?_⟩ (fun i hi => ?_)⟩
    · rw [s4 i hi]; exact a.2.2.2.2.1.2 _ (by omega) i hi
    · rw [s2.1 226 (by decide) (by decide)]; exact a.2.2.2.2.1.2 j (by omega) i hi
    · rw [s2.1 227 (by decide) (by decide), s2.1 228 (by decide) (by decide)]; exact a.2.2.2.2.2 i hi
theorem t_Mo_keep {X : Nat × (Nat → Int32)} {d : Nat} {cu sp n1 n2 n3 n4 : Nat} (a : mI h G tn tx fp wy n m A B k F T c u S g I) (x1 : Int32) : ewP X Mo_keep (d + 1) 0 [some (.ref 194), some (.int x1), none] [] (0, 0) (229, ewR cu sp n1 n2 n3 n4, h) (fun v S' => ∃ (h' : Nat → Nat → Int32) (y : Int32), v = some (.int y) ∧ S' = (229, ewR cu sp n1 n2 n3 n4, h') ∧
    ((¬ (∃ i, i < 2 ∧ x1 = nI i) ∧ y = -1000000001 ∧ h' = h) ∨ ∃ i, i < 2 ∧ x1 = nI i ∧ y = 1 ∧ mI h' G tn tx fp wy n m A B k F T c 0 S (fun j => if j = i then true else g j) (fun j => if j = i then c else I j))) := by
  refine ewP_m (fun v S' q => ?_) (s_Mo_keep x1 h)
  obtain ⟨h', y, ⟨m1, m2⟩, ev, eS⟩ := q
  refine ⟨h', y, ev, eS, ?_⟩
  by_cases e : ∃ i, i < 2 ∧ x1 = nI i
  · obtain ⟨i, hi, ei⟩ := e
    obtain ⟨r1, r2, r3, r4, r5, r6⟩ := m2 i hi ei
    refine Or.inr ⟨i, hi, ei, r1, a.ch (r2.wk (by simp) (by simp)) (fun j hj => ?_) ⟨r3, fun j hj => by omega⟩ (fun j hj => ?_)⟩
    · rw [r2.1 202 (by decide) (by decide)]; exact a.2.2.2.1 j hj
    · obtain ⟨b1, b2⟩ := a.2.2.2.2.2 j hj
      rw [r4, upd]
      by_cases z : j = i
      · rw [if_pos z, if_pos z, if_pos z]
        refine ⟨rfl, fun _ s hs => ?_⟩
        rw [z, r5 s hs]; exact a.2.2.2.1 s hs
      · rw [if_neg z, if_neg z, if_neg z]
        refine ⟨b1, fun y s hs => ?_⟩
        rw [r6 _ (by omega)]; exact b2 y s hs
  · exact Or.inl ⟨e, m1 (fun i hi ei => e ⟨i, hi, ei⟩)⟩
theorem t_Mo_count {X : Nat × (Nat → Int32)} {d : Nat} {cu sp n1 n2 n3 n4 : Nat} (a : mI h G tn tx fp wy n m A B k F T c u S g I) (o : mSe c m) (hu : u ≤ 16) (x1 x2 : Int32) : ewP X Mo_count (d + 7) 0 [some (.ref 194), some (.int x1), some (.int x2)] [] (0, 0) (229, ewR cu sp n1 n2 n3 n4, h) (fun v S' => ∃ (h' : Nat → Nat → Int32) (y : Int32), v = some (.int y) ∧ S' = (229, ewR cu sp n1 n2 n3 n4, h') ∧
    ((¬ (∃ i v, i < 2 ∧ x1 = nI i ∧ x2 = nI v ∧ v < (if i = 0 then 4 else 10)) ∧ y = -1000000002 ∧ h' = h) ∨ ∃ i v, i < 2 ∧ x1 = nI i ∧ x2 = nI v ∧ v < (if i = 0 then 4 else 10) ∧ y = pCs (pBp (upd c (23 + i) (nI v)) m A B k F T) ∧ mI h' G tn tx fp wy n m A B k F T (upd c (23 + i) (nI v)) (pPu u) (pPS u S c) g I)) := by
  have is := in_01 x1
  have h7 := a.2.2.1.1.2.2.2.1
  have lim : ∀ i, i < 2 → x1 = nI i → ((f_Mo_in x2.toInt64 (Int64.ofNat 0) (if x1 = 0 then (Int64.ofNat 3) else (Int64.ofNat 9))) ↔ ∃ v, v < (if i = 0 then 4 else 10) ∧ x2 = nI v) := by
    intro i hi ei
    rcases (show i = 0 ∨ i = 1 by omega) with e | e
    · subst e; rw [if_pos (show x1 = 0 from ei), if_pos rfl]; exact in_07 x2 3 (by omega)
    · subst e
      have : ¬ x1 = 0 := by rw [ei]; decide
      rw [if_neg this, if_neg (by omega)]; exact in_07 x2 9 (by omega)
  refine v_Mo_count_0 x1 x2 h (fun q => ⟨h, _, rfl, rfl, Or.inl ⟨fun ⟨i, v, hi, ei, _⟩ => q (is.mpr ⟨i, hi, ei⟩), rfl, rfl⟩⟩) (fun _ _ => ⟨u, a.2.2.2.2.1.1, hu⟩) (fun q1 q2 w9 hw9 => ?_) (fun q1 q2 => ⟨h, _, rfl, rfl, Or.inl ⟨fun ⟨i, v, hi, ei, e2, hv⟩ => q2 ((lim i hi ei).mpr ⟨v, hv, e2⟩), rfl, rfl⟩⟩)
  obtain ⟨i, hi, ei⟩ := is.mp q1
  obtain ⟨v, hv, e2⟩ := (lim i hi ei).mp q2
  have ix : (if x1 = 0 then (23 : Int32) else 24) = nI (23 + i) := by
    rcases (show i = 0 ∨ i = 1 by omega) with e | e
    · subst e; rw [if_pos (show x1 = 0 from ei)]; rfl
    · subst e; rw [if_neg (by rw [ei]; decide)]; rfl
  rw [ix, nI_clamp (show 23 + i < 2 ^ 31 by omega), e2]
  have b := (a.rm hu hw9).st (23 + i) (nI v)
  have o2 : mSe (upd c (23 + i) (nI v)) m := by
    rcases (show i = 0 ∨ i = 1 by omega) with e | e
    · subst e; exact mSe_way o h7 (by rw [if_pos rfl] at hv; exact hv)
    · subst e; exact mSe_off o h7 (by rw [if_neg (by omega)] at hv; exact hv)
  refine ⟨nI_inB (by omega) (by decide), (b.p o2).1, fun w15 y16 hw15 => ?_⟩
  obtain ⟨e3, e4⟩ := b.bc o2 hw15
  exact ⟨w15, y16, rfl, rfl, Or.inr ⟨i, v, hi, ei, rfl, hv, e3, e4⟩⟩
end CALLS3
