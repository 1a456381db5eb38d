/-! the reference: bestCost, keep -/
def mBc (h h' : Nat → Nat → Int32) (y : Int32) : Prop := mLp h h' ∧ y = h' 194 32
theorem s_Mo_bestCost {X : Nat × (Nat → Int32)} {d : Nat} {cu sp n1 n2 n3 n4 : Nat} (h : Nat → Nat → Int32) (hp : p_Mo_layPlan h) : ewP X Mo_bestCost (d + 6) 0 [some (.ref 194)] [] (0, 0) (229, ewR cu sp n1 n2 n3 n4, h) (fun v S' => ∃ (h' : Nat → Nat → Int32) (y : Int32), mBc h h' y ∧ v = some (.int y) ∧ S' = (229, ewR cu sp n1 n2 n3 n4, h')) :=
  v_Mo_bestCost_0 h hp (fun w hw => ⟨w, _, ⟨hw, rfl⟩, rfl, rfl⟩)
/-- an image is kept -/
def mKp (h : Nat → Nat → Int32) (x1 : Int32) (h' : Nat → Nat → Int32) (y : Int32) : Prop := ((∀ i, i < 2 → x1 ≠ nI i) → y = -1000000001 ∧ h' = h) ∧ ∀ i, i < 2 → x1 = nI i → y = 1 ∧ mFq h h' [227, 228] [47] ∧ h' 194 47 = 0 ∧ h' 228 = upd (h 228) i 1 ∧ (∀ j, j < 25 → h' 227 (25 * i + j) = h 202 j) ∧ ∀ j, ¬ (25 * i ≤ j ∧ j < 25 * i + 25) → h' 227 j = h 227 j
theorem in_01 (x : Int32) : f_Mo_in x.toInt64 (Int64.ofNat 0) (Int64.ofNat 1) ↔ ∃ i, i < 2 ∧ x = nI i := by
  rw [in_nat _ _ _ (by decide) (by decide), ← nI_iff (by omega)]
  omega
theorem s_Mo_keep {X : Nat × (Nat → Int32)} {d : Nat} {cu sp n1 n2 n3 n4 : Nat} (x1 : Int32) (h : Nat → Nat → Int32) : ewP X Mo_keep (d + 1) 0 [some (.ref 194), some (.int x1), none] [] (0, 0) (229, ewR cu sp n1 n2 n3 n4, h) (fun v S' => ∃ (h' : Nat → Nat → Int32) (y : Int32), mKp h x1 h' y ∧ v = some (.int y) ∧ S' = (229, ewR cu sp n1 n2 n3 n4, h')) := by
  refine v_Mo_keep_0 x1 h (fun q => ?_) (fun q => ⟨h, _, ⟨fun _ => ⟨rfl, rfl⟩, fun i hi e => absurd ((in_01 x1).mpr ⟨i, hi, e⟩) q⟩, rfl, rfl⟩)
  obtain ⟨i, hi, rfl⟩ := (in_01 x1).mp q
  have ci : (nI i).toNatClampNeg = i := nI_clamp (by omega)
  refine upto (H := Nat → Nat → Int32) (P := fun j y => (∀ k, k ≠ 227 → y k = h k) ∧ (∀ s, s < j → y 227 (25 * i + s) = h 202 s) ∧ ∀ s, ¬ (25 * i ≤ s ∧ s < 25 * i + 25) → y 227 s = h 227 s) (E := fun j y => ewP X Mo_keep (d + 1) 16 [some (.ref 194), some (.int (nI i)), some (.int (nI j))] [] (0, 0) (229, ewR cu sp n1 n2 n3 n4, y) _) 25 ?_ ?_ 0 _ (by omega) ⟨fun _ _ => rfl, fun s hs => by omega, fun _ _ => rfl⟩
  · rintro j y hj ⟨y1, y2, y3⟩ next
    have hlt : nI j < 25 := (nI_ltb (b := 25) (by omega) (by omega)).mpr hj
    have s1 : (25 : Int32) * nI i + nI j = nI (25 * i + j) := by rw [show (25 : Int32) * nI i = nI (25 * i) from nI_mu 25 i, nI_ad]
    refine v_Mo_keep_16 _ _ y (fun z => absurd hlt z) (fun z => absurd hlt z) (fun _ => nI_inB hj (by decide)) (fun _ => by rw [s1]; exact nI_inB (by omega) (by decide)) (fun _ => ?_)
    rw [s1, nI_clamp (by omega), nI_clamp (by omega), ← nI_succ, y1 202 (by decide)]
    refine next _ ⟨fun k hk => by rw [ewS_ne _ _ hk]; exact y1 k hk, fun s hs => ?_, fun s hs => ?_⟩
    · rw [ewS_self, upd]
      by_cases z : s = j
      · rw [if_pos (by omega), z]
      · rw [if_neg (by omega)]; exact y2 s (by omega)
    · rw [ewS_self, upd, if_neg (by omega)]; exact y3 s hs
  · rintro y ⟨y1, y2, y3⟩
    have hlt : ¬ nI 25 < 25 := by decide
    refine v_Mo_keep_16 _ _ y (fun _ => nI_inB hi (by decide)) (fun _ => ⟨_, _, ⟨fun z => absurd rfl (z i hi), fun i' hi' e => ?_⟩, rfl, rfl⟩) (fun z => absurd z hlt) (fun z => absurd z hlt) (fun z => absurd z hlt)
    have e : i = i' := (nI_eq (by omega) (by omega)).mp e
    subst e
    rw [ci]
    refine ⟨rfl, ⟨fun k h1 h2 => ?_, fun j hj => ?_⟩, ?_, ?_, fun j hj => ?_, fun j hj => ?_⟩
    · simp at h2
      rw [ewS_ne _ _ h1, ewS_ne _ _ h2.2]; exact y1 k h2.1
    · simp at hj
      rw [ewS_self, upd, if_neg hj, y1 194 (by decide)]
    · rw [ewS_self, upd, if_pos rfl]
    · rw [ewS_ne _ _ (by decide), ewS_self, y1 228 (by decide)]
    · rw [ewS_ne _ _ (by decide), ewS_ne _ _ (by decide)]; exact y2 j hj
    · rw [ewS_ne _ _ (by decide), ewS_ne _ _ (by decide)]; exact y3 j hj
