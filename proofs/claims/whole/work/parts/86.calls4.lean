/-! the reference's calls: goBack, feed, net -/
section CALLS4
variable {h w : Nat → Nat → Int32} {G : Nat → Nat → Int32} {tn : Nat} {tx : Nat → Int32} {fp wy : Int32} {n m : Nat} {A B : Nat → Nat} {k : Nat} {F T : Nat → Nat} {c : Nat → Int32} {u : Nat} {S : Nat → Nat → Int32} {g : Nat → Bool} {I : Nat → Nat → Int32}
theorem t_Mo_goBack {X : Nat × (Nat → Int32)} {d : Nat} {cu sp n1 n2 n3 n4 : Nat} (a : mI h G tn tx fp wy n m A B k F T c u S g I) (o : ∀ i, i < 2 → g i = true → mSe (I i) m) (x1 : Int32) : ewP X Mo_goBack (d + 7) 0 [some (.ref 194), some (.int x1), none] [] (0, 0) (229, ewR cu sp n1 n2 n3 n4, h) (fun v S' => ∃ (h' : Nat → Nat → Int32) (y : Int32), v = some (.int y) ∧ S' = (229, ewR cu sp n1 n2 n3 n4, h') ∧
    ((¬ (∃ i, i < 2 ∧ x1 = nI i) ∧ y = -1000000001 ∧ h' = h) ∨ ∃ i, i < 2 ∧ x1 = nI i ∧ ((g i = false ∧ y = -1000000003 ∧ h' = h) ∨ (g i = true ∧ y = pCs (pBp (I i) m A B k F T) ∧ mI h' G tn tx fp wy n m A B k F T (I i) 0 S g I)))) := by
  have is := in_01 x1
  have gi : ∀ i, i < 2 → h 228 i = bI (g i) := fun i hi => (a.2.2.2.2.2 i hi).1
  refine v_Mo_goBack_0 x1 h (fun q => ?_) (fun q1 q2 => ?_) (fun q1 q2 => ?_) (fun q => ⟨h, _, rfl, rfl, Or.inl ⟨fun z => q (is.mpr z), rfl, rfl⟩⟩)
  · obtain ⟨i, hi, rfl⟩ := is.mp q
    exact nI_inB hi (by decide)
  · obtain ⟨i, hi, rfl⟩ := is.mp q1
    have ci : (nI i).toNatClampNeg = i := nI_clamp (by omega)
    rw [ci, gi i hi, bI_ne] at q2
    have im := (a.2.2.2.2.2 i hi).2 q2
    refine upto (H := Nat → Nat → Int32) (P := fun j y => (∀ k, k ≠ 202 → y k = h k) ∧ ∀ s, s < j → y 202 s = I i s) (E := fun j y => ewP X Mo_goBack (d + 7) 29 [some (.ref 194), some (.int (nI i)), some (.int (nI j))] [] (0, 0) (229, ewR cu sp n1 n2 n3 n4, y) _) 25 ?_ ?_ 0 _ (by omega) ⟨fun _ _ => rfl, fun s hs => by omega⟩
    · rintro j y hj ⟨y1, y2⟩ next
      have hlt : nI j < 25 := (nI_ltb (b := 25) (by omega) (by omega)).mpr hj
      have s1 : (25 : Int32) * nI i + nI j = nI (25 * i + j) := by rw [show (25 : Int32) * nI i = nI (25 * i) from nI_mu 25 i, nI_ad]
      refine v_Mo_goBack_29 _ _ y (fun z => absurd hlt z) (fun z => absurd hlt z) (fun _ => by rw [s1]; exact nI_inB (by omega) (by decide)) (fun _ => nI_inB hj (by decide)) (fun _ => ?_)
      rw [s1, nI_clamp (by omega), nI_clamp (by omega), ← nI_succ, y1 227 (by decide), im j hj]
      refine next _ ⟨fun k hk => by rw [ewS_ne _ _ hk]; exact y1 k hk, fun s hs => ?_⟩
      rw [ewS_self, upd]
      by_cases z : s = j
      · rw [if_pos z, z]
      · rw [if_neg z]; exact y2 s (by omega)
    · rintro y ⟨y1, y2⟩
      have hlt : ¬ nI 25 < 25 := by decide
      have b : mI (ewS y 194 (upd (y 194) 47 0)) G tn tx fp wy n m A B k F T (I i) 0 S g I := by
        refine a.ch ⟨fun k hk hK => ?_, fun j hj => ?_⟩ (fun s hs => by rw [ewS_ne _ _ (by decide)]; exact y2 s hs) ⟨by rw [ewS_self, upd, if_pos rfl]; rfl, fun j hj => by omega⟩ (fun j hj => ?_)
        · rw [ewS_ne _ _ hk]; exact y1 k (fun z => hK (by rw [z]; simp))
        · simp at hj; rw [ewS_self, upd, if_neg hj, y1 194 (by decide)]
        · rw [ewS_ne _ _ (by decide), ewS_ne _ _ (by decide), y1 227 (by decide), y1 228 (by decide)]; exact a.2.2.2.2.2 j hj
      refine v_Mo_goBack_29 _ _ y (fun _ => (b.p (o i hi q2)).1) (fun _ w4 y5 hw4 => ?_) (fun z => absurd z hlt) (fun z => absurd z hlt) (fun z => absurd z hlt)
      obtain ⟨e1, e2⟩ := b.bc (o i hi q2) hw4
      exact ⟨w4, y5, rfl, rfl, Or.inr ⟨i, hi, rfl, Or.inr ⟨q2, e1, e2⟩⟩⟩
  · obtain ⟨i, hi, rfl⟩ := is.mp q1
    rw [nI_clamp (show i < 2 ^ 31 by omega), gi i hi, bI_eq] at q2
    exact ⟨h, _, rfl, rfl, Or.inr ⟨i, hi, rfl, Or.inl ⟨q2, rfl, rfl⟩⟩⟩
theorem t_Mo_feed {X : Nat × (Nat → Int32)} {d : Nat} {cu sp n1 n2 n3 n4 : Nat} (a : mI h G tn tx fp wy n m A B k F T c u S g I) (ht : tn ≤ 240) (x1 : Int32) : ewP X Mo_feed (d + 1) 0 [some (.ref 194), some (.int x1)] [] (0, 0) (229, ewR cu sp n1 n2 n3 n4, h) (fun v S' => ∃ (h' : Nat → Nat → Int32) (y : Int32), v = some (.int y) ∧ S' = (229, ewR cu sp n1 n2 n3 n4, h') ∧
    ((¬ (∃ i, i < 256 ∧ x1 = nI i) ∧ y = -1000000002 ∧ h' = h) ∨ ((∃ i, i < 256 ∧ x1 = nI i) ∧ tn = 240 ∧ y = -1000000004 ∧ h' = h) ∨ ((∃ i, i < 256 ∧ x1 = nI i) ∧ tn ≠ 240 ∧ y = nI (tn + 1) ∧ mI h' G (tn + 1) (upd tx tn x1) fp wy n m A B k F T c u S g I))) := by
  have is := in_07 x1 255 (by omega)
  have t12 := a.1.1
  have t240 : (h 194 12 = 240) ↔ tn = 240 := by rw [t12]; exact nI_eq (b := 240) (by omega) (by omega)
  refine s_Mo_feed x1 h (fun _ q => ?_) ?_
  · rw [t12]; have : ¬ tn = 240 := fun z => q (t240.mpr z); exact nI_inB (by omega) (by decide)
  · unfold f_Mo_feed g_Mo_feed
    by_cases q : f_Mo_in x1.toInt64 (Int64.ofNat 0) (Int64.ofNat 255)
    · rw [if_pos q, if_pos q]
      by_cases e : tn = 240
      · rw [if_pos (t240.mpr e), if_pos (t240.mpr e)]
        exact ⟨h, _, rfl, rfl, Or.inr (Or.inl ⟨is.mp q, e, rfl, rfl⟩)⟩
      · rw [if_neg (fun z => e (t240.mp z)), if_neg (fun z => e (t240.mp z)), t12, nI_clamp (show tn < 2 ^ 31 by omega), ← nI_succ]
        refine ⟨_, _, rfl, rfl, Or.inr (Or.inr ⟨is.mp q, e, rfl, ?_⟩)⟩
        have f : mFq h (ewS (ewS h 203 (upd (h 203) tn x1)) 194 (upd (h 194) 12 (nI (tn + 1)))) [203] [12] := by
          refine ⟨fun k hk hK => ?_, fun j hj => ?_⟩
          · simp at hK; rw [ewS_ne _ _ hk, ewS_ne _ _ hK]
          · simp at hj; rw [ewS_self, upd, if_neg hj]
        obtain ⟨a1, a2, a3, a4, a5, a7⟩ := a
        obtain ⟨q1, q2, q3, q4, q5, q6, q7, q8⟩ := g_fr f (by decide) (by decide)
        obtain ⟨g1, g2, g3, g4, g5, g6, g7⟩ := a3.g
        have wN := q8 a3.N
        unfold mN at wN
        rw [q1, q2, q3, q4, q5, q6, q7, g1, g2, g3, g4, g5, g6, g7] at wN
        refine ⟨⟨by rw [ewS_self, upd, if_pos rfl], fun j hj => ?_⟩, ⟨by rw [f.2 13 (by decide), f.2 14 (by decide)]; exact a2.1, mGq f (by decide) a2.2⟩, wN, by rw [f.1 202 (by decide) (by decide)]; exact a4, by rw [f.2 47 (by decide), f.1 226 (by decide) (by decide)]; exact a5, by rw [f.1 227 (by decide) (by decide), f.1 228 (by decide) (by decide)]; exact a7⟩
        rw [ewS_ne _ _ (by decide), ewS_self, upd, upd]
        by_cases z : j = tn
        · rw [if_pos z, if_pos z]
        · rw [if_neg z, if_neg z]; exact a1.2 j (by omega)
    · rw [if_neg q, if_neg q]
      exact ⟨h, _, rfl, rfl, Or.inl ⟨fun z => q (is.mpr z), rfl, rfl⟩⟩
end CALLS4
