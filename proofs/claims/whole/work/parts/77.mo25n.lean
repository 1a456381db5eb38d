/-! the reference: remember, undo, keep -/
def mRm (h h' : Nat → Nat → Int32) : Prop := mFq h h' [226] [47] ∧ ∀ u, h 194 47 = nI u → u ≤ 16 →
  (u < 16 → h' 194 47 = nI (u + 1) ∧ (∀ j, j < u → ∀ i, i < 25 → h' 226 (25 * j + i) = h 226 (25 * j + i)) ∧ ∀ i, i < 25 → h' 226 (25 * u + i) = h 202 i) ∧
  (u = 16 → h' 194 47 = nI 16 ∧ (∀ j, j < 15 → ∀ i, i < 25 → h' 226 (25 * j + i) = h 226 (25 * (j + 1) + i)) ∧ ∀ i, i < 25 → h' 226 (25 * 15 + i) = h 202 i)
def p_Mo_remember (h : Nat → Nat → Int32) : Prop := ∃ u, h 194 47 = nI u ∧ u ≤ 16
theorem s_Mo_remember {X : Nat × (Nat → Int32)} {d : Nat} {cu sp n1 n2 n3 n4 : Nat} (h : Nat → Nat → Int32) (hp : p_Mo_remember h) : ewP X Mo_remember (d + 0) 0 [some (.ref 194), none] [] (0, 0) (229, ewR cu sp n1 n2 n3 n4, h) (fun v S' => ∃ (h' : Nat → Nat → Int32), mRm h h' ∧ v = none ∧ S' = (229, ewR cu sp n1 n2 n3 n4, h')) := by
  obtain ⟨u, hu, hu16⟩ := hp
  have u16 : (h 194 47 = 16) ↔ u = 16 := by rw [hu]; exact nI_eq (b := 16) (by omega) (by omega)
  -- the copy of what is now, at place q
  have cp : ∀ (q : Nat) (w : Nat → Nat → Int32), q < 16 → mFq h w [226] [47] → w 194 47 = nI q → (∀ h' : Nat → Nat → Int32, mFq h h' [226] [47] → h' 194 47 = nI (q + 1) → (∀ j, ¬ (25 * q ≤ j ∧ j < 25 * q + 25) → h' 226 j = w 226 j) → (∀ i, i < 25 → h' 226 (25 * q + i) = h 202 i) → mRm h h') → ewP X Mo_remember (d + 0) 52 [some (.ref 194), some (.int 0)] [] (0, 0) (229, ewR cu sp n1 n2 n3 n4, w) (fun v S' => ∃ (h' : Nat → Nat → Int32), mRm h h' ∧ v = none ∧ S' = (229, ewR cu sp n1 n2 n3 n4, h')) := by
    intro q w hq hfr h47 fin
    refine upto (H := Nat → Nat → Int32) (P := fun i y => (∀ k, k ≠ 226 → y k = w k) ∧ (∀ j, ¬ (25 * q ≤ j ∧ j < 25 * q + 25) → y 226 j = w 226 j) ∧ ∀ j, j < i → y 226 (25 * q + j) = h 202 j) (E := fun i y => ewP X Mo_remember (d + 0) 52 [some (.ref 194), some (.int (nI i))] [] (0, 0) (229, ewR cu sp n1 n2 n3 n4, y) _) 25 ?_ ?_ 0 _ (by omega) ⟨fun _ _ => rfl, fun _ _ => rfl, fun j hj => by omega⟩
    · rintro i y hi ⟨y1, y2, y3⟩ next
      have hlt : nI i < 25 := (nI_ltb (b := 25) (by omega) (by omega)).mpr hi
      have y47 : y 194 47 = nI q := by rw [y1 194 (by decide)]; exact h47
      have s1 : (25 : Int32) * nI q + nI i = nI (25 * q + i) := by rw [show (25 : Int32) * nI q = nI (25 * q) from nI_mu 25 q, nI_ad]
      refine v_Mo_remember_52 _ y (fun z => absurd hlt z) (fun _ => nI_inB hi (by decide)) (fun _ => by rw [y47, s1]; exact nI_inB (by omega) (by decide)) (fun _ => ?_)
      rw [y47, s1, nI_clamp (by omega), nI_clamp (by omega), ← nI_succ]
      refine next _ ⟨fun k hk => by rw [ewS_ne _ _ hk]; exact y1 k hk, fun j hj => ?_, fun j hj => ?_⟩
      · rw [ewS_self, upd, if_neg (by omega)]; exact y2 j hj
      · rw [ewS_self, upd]
        by_cases z : j = i
        · rw [if_pos (by omega), z, y1 202 (by decide), hfr.1 202 (by decide) (by decide)]
        · rw [if_neg (by omega)]; exact y3 j (by omega)
    · rintro y ⟨y1, y2, y3⟩
      have hlt : ¬ nI 25 < 25 := by decide
      refine v_Mo_remember_52 _ y (fun _ => ⟨_, fin _ ?_ ?_ (fun j hj => ?_) (fun i hi => ?_), rfl, rfl⟩) (fun z => absurd z hlt) (fun z => absurd z hlt) (fun z => absurd z hlt)
      · refine hfr.tr ⟨fun k hk hK => ?_, fun j hj => ?_⟩
        · rw [ewS_ne _ _ hk]; exact y1 k (fun z => hK (by rw [z]; simp))
        · simp at hj
          rw [ewS_self, upd, if_neg hj, y1 194 (by decide)]
      · rw [ewS_self, upd, if_pos rfl, y1 194 (by decide), h47, ← nI_succ]
      · rw [ewS_ne _ _ (by decide)]; exact y2 j hj
      · rw [ewS_ne _ _ (by decide)]; exact y3 i hi
  refine v_Mo_remember_0 h (fun q => ?_) (fun q => ?_)
  · have hlt : u < 16 := by have : ¬ u = 16 := fun z => q (u16.mpr z); omega
    refine cp u h hlt ⟨fun _ _ _ => rfl, fun _ _ => rfl⟩ hu (fun h' f1 f2 f3 f4 => ⟨f1, fun u' hu' hl' => ?_⟩)
    have e : u' = u := (nI_eq (by omega) (by omega)).mp (hu'.symm.trans hu)
    subst e
    exact ⟨fun _ => ⟨f2, fun j hj i hi => f3 _ (by omega), f4⟩, fun z => by omega⟩
  · have hu6 : u = 16 := u16.mp q
    subst hu6
    refine upto (H := Nat → Nat → Int32) (P := fun i y => (∀ k, k ≠ 226 → y k = h k) ∧ (∀ j, j < i → y 226 j = h 226 (j + 25)) ∧ ∀ j, i ≤ j → y 226 j = h 226 j) (E := fun i y => ewP X Mo_remember (d + 0) 12 [some (.ref 194), some (.int (nI (i + 25)))] [] (0, 0) (229, ewR cu sp n1 n2 n3 n4, y) _) 375 ?_ ?_ 0 _ (by omega) ⟨fun _ _ => rfl, fun j hj => by omega, fun _ _ => rfl⟩
    · rintro i y hi ⟨y1, y2, y3⟩ next
      have hlt : nI (i + 25) < 400 := (nI_ltb (b := 400) (by omega) (by omega)).mpr (by omega)
      have s1 : nI (i + 25) - 25 = nI i := by rw [show (25 : Int32) = nI 25 from rfl, nI_sub (by omega), Nat.add_sub_cancel]
      refine v_Mo_remember_12 _ y (fun z => absurd hlt z) (fun _ => nI_inB (by omega) (by decide)) (fun _ => by rw [s1]; exact nI_inB (by omega) (by decide)) (fun _ => ?_)
      rw [s1, nI_clamp (by omega), nI_clamp (by omega), ← nI_succ, show i + 25 + 1 = i + 1 + 25 by omega]
      refine next _ ⟨fun k hk => by rw [ewS_ne _ _ hk]; exact y1 k hk, fun j hj => ?_, fun j hj => ?_⟩
      · rw [ewS_self, upd]
        by_cases z : j = i
        · rw [if_pos z, z]; exact y3 _ (by omega)
        · rw [if_neg z]; exact y2 j (by omega)
      · rw [ewS_self, upd, if_neg (by omega)]; exact y3 j (by omega)
    · rintro y ⟨y1, y2, y3⟩
      have hlt : ¬ nI (375 + 25) < 400 := by decide
      refine v_Mo_remember_12 _ y (fun _ => ?_) (fun z => absurd z hlt) (fun z => absurd z hlt) (fun z => absurd z hlt)
      have y47 : y 194 47 - 1 = nI 15 := by rw [y1 194 (by decide), hu]; rfl
      rw [y47]
      refine cp 15 _ (by omega) ⟨fun k hk hK => ?_, fun j hj => ?_⟩ (by rw [ewS_self, upd, if_pos rfl]) (fun h' f1 f2 f3 f4 => ⟨f1, fun u' hu' hl' => ?_⟩)
      · rw [ewS_ne _ _ hk]; exact y1 k (fun z => hK (by rw [z]; simp))
      · simp at hj; rw [ewS_self, upd, if_neg hj, y1 194 (by decide)]
      · have e : u' = 16 := (nI_eq (by omega) (by omega)).mp (hu'.symm.trans hu)
        subst e
        refine ⟨fun z => by omega, fun _ => ⟨f2, fun j hj i hi => ?_, f4⟩⟩
        rw [f3 _ (by omega), ewS_ne _ _ (by decide), y2 _ (by omega)]
        congr 1; omega
def mUd (h h' : Nat → Nat → Int32) (y : Int32) : Prop := ∀ u, h 194 47 = nI u → u ≤ 16 → (u = 0 → y = -1000000003 ∧ h' = h) ∧ (u ≠ 0 → y = nI (u - 1) ∧ mFq h h' [202] [47] ∧ h' 194 47 = nI (u - 1) ∧ ∀ i, i < 25 → h' 202 i = h 226 (25 * (u - 1) + i))
theorem s_Mo_undo {X : Nat × (Nat → Int32)} {d : Nat} {cu sp n1 n2 n3 n4 : Nat} (h : Nat → Nat → Int32) (hp : p_Mo_remember h) : ewP X Mo_undo (d + 0) 0 [some (.ref 194), none] [] (0, 0) (229, ewR cu sp n1 n2 n3 n4, h) (fun v S' => ∃ (h' : Nat → Nat → Int32) (y : Int32), mUd h h' y ∧ v = some (.int y) ∧ S' = (229, ewR cu sp n1 n2 n3 n4, h')) := by
  obtain ⟨u, hu, hu16⟩ := hp
  have u0 : (h 194 47 = 0) ↔ u = 0 := by rw [hu]; exact nI_eq (b := 0) (by omega) (by omega)
  have uq : ∀ {P : Nat → Prop}, P u → ∀ u', h 194 47 = nI u' → u' ≤ 16 → P u' := by
    intro P hP u' hu' hl
    have e : u' = u := (nI_eq (by omega) (by omega)).mp (hu'.symm.trans hu)
    rw [e]; exact hP
  refine v_Mo_undo_0 h (fun q => ?_) (fun q => ⟨h, _, uq (P := fun u => (u = 0 → _ ∧ h = h) ∧ (u ≠ 0 → _)) ⟨fun _ => ⟨rfl, rfl⟩, fun z => absurd (u0.mp q) z⟩, rfl, rfl⟩)
  have hu0 : u ≠ 0 := fun z => q (u0.mpr z)
  have s0 : h 194 47 - 1 = nI (u - 1) := by rw [hu, ← nI_pred (u - 1), show u - 1 + 1 = u by omega]
  rw [s0]
  refine upto (H := Nat → Nat → Int32) (P := fun i y => (∀ k, k ≠ 202 → k ≠ 194 → y k = h k) ∧ y 194 = upd (h 194) 47 (nI (u - 1)) ∧ ∀ j, j < i → y 202 j = h 226 (25 * (u - 1) + j)) (E := fun i y => ewP X Mo_undo (d + 0) 23 [some (.ref 194), some (.int (nI i))] [] (0, 0) (229, ewR cu sp n1 n2 n3 n4, y) _) 25 ?_ ?_ 0 _ (by omega) ⟨fun k _ hk => ewS_ne _ _ hk, ewS_self _ _ _, fun j hj => by omega⟩
  · rintro i y hi ⟨y1, y2, y3⟩ next
    have hlt : nI i < 25 := (nI_ltb (b := 25) (by omega) (by omega)).mpr hi
    have y47 : y 194 47 = nI (u - 1) := by rw [y2, upd, if_pos rfl]
    have s1 : (25 : Int32) * nI (u - 1) + nI i = nI (25 * (u - 1) + i) := by rw [show (25 : Int32) * nI (u - 1) = nI (25 * (u - 1)) from nI_mu 25 (u - 1), nI_ad]
    refine v_Mo_undo_23 _ y (fun z => absurd hlt z) (fun _ => by rw [y47, s1]; exact nI_inB (by omega) (by decide)) (fun _ => nI_inB hi (by decide)) (fun _ => ?_)
    rw [y47, s1, nI_clamp (by omega), nI_clamp (by omega), ← nI_succ, y1 226 (by decide) (by decide)]
    refine next _ ⟨fun k h1 h2 => by rw [ewS_ne _ _ h1]; exact y1 k h1 h2, by rw [ewS_ne _ _ (by decide)]; exact y2, fun j hj => ?_⟩
    rw [ewS_self, upd]
    by_cases z : j = i
    · rw [if_pos z, z]
    · rw [if_neg z]; exact y3 j (by omega)
  · rintro y ⟨y1, y2, y3⟩
    have hlt : ¬ nI 25 < 25 := by decide
    have y47 : y 194 47 = nI (u - 1) := by rw [y2, upd, if_pos rfl]
    refine v_Mo_undo_23 _ y (fun _ => ⟨y, _, fun u' hu' hl' => ?_, rfl, rfl⟩) (fun z => absurd z hlt) (fun z => absurd z hlt) (fun z => absurd z hlt)
    have e : u' = u := (nI_eq (by omega) (by omega)).mp (hu'.symm.trans hu)
    subst e
    refine ⟨fun z => absurd z hu0, fun _ => ⟨y47, ⟨fun k h1 h2 => y1 k (fun z => h2 (by rw [z]; simp)) h1, fun j hj => ?_⟩, y47, y3⟩⟩
    simp at hj
    rw [y2, upd, if_neg hj]
