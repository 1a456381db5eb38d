/-! only what lies in the cells counts; current and spare change their names -/
def ewQe (S S' : eS) : Prop := S'.1 = S.1 ∧ ∀ k, k < S.1 → (kK k < 9 → ∀ j, j < ewN (kK k) → if ewFT (kK k) j = 2 then S'.2.1 k j = S.2.1 k j else S'.2.2 k j = S.2.2 k j) ∧ (kK k = 9 ∨ kK k = 10 → ∀ j, j < kL k → S'.2.2 k j = S.2.2 k j) ∧ (10 < kK k → ∀ j, j < kL k → S'.2.1 k j = S.2.1 k j)
theorem arrV_cg {c : ClassId} {n : Nat} {f g : Nat → Value} (h : ∀ j, j < n → f j = g j) : arrV c n f = arrV c n g := by
  unfold arrV
  have : (fun j : Fin n => f j.val) = fun j : Fin n => g j.val := funext fun j => h j.val j.isLt
  rw [this]
theorem ewW_eq {D : va_G} {c4 : ClassId × ClassId × ClassId × ClassId} {φ : Nat → Nat} {B : Nat} {S S' : eS} {H : Heap} (e : ewQe S S') (w : ewW D c4 φ B S H) : ewW D c4 φ B S' H := by
  obtain ⟨e0, e1⟩ := e
  obtain ⟨w1, ⟨w2, w3⟩, w4⟩ := w
  have at1 : ∀ (k : Nat) (q : Nat × va_E), (ewWs φ c4 S')[k]? = some q → k < S.1 ∧ q = (φ k, ewEnt φ c4 S' k) := by
    intro k q hq
    have hl : k < S'.1 := by
      have := (List.getElem?_eq_some_iff.mp hq).1
      simp [ewWs] at this
      exact this
    rw [ewWs_at hl] at hq
    exact ⟨by omega, (Option.some.inj hq).symm⟩
  refine ⟨fun k q hq => ?_, ⟨fun i j x y hi hj hxy => ?_, fun k q hq => ?_⟩, by omega⟩
  · obtain ⟨hk, rfl⟩ := at1 k q hq
    have old := w1 k _ (ewWs_at hk)
    obtain ⟨f1, f2, f3⟩ := e1 k hk
    by_cases k9 : kK k < 9
    · have : ewEnt φ c4 S' k = ewEnt φ c4 S k := by
        unfold ewEnt
        rw [if_pos k9, if_pos k9]
        congr 2
        apply List.map_congr_left
        intro j hj
        have := f1 k9 j (List.mem_range.mp hj)
        by_cases t : ewFT (kK k) j = 2
        · rw [if_pos t] at this
          rw [if_pos t, if_pos t, this]
        · rw [if_neg t] at this
          rw [if_neg t, if_neg t, this]
      rw [this]; exact old
    · unfold ewEnt at old ⊢
      rw [if_neg k9] at old ⊢
      by_cases a9 : kK k = 9
      · rw [if_pos a9] at old ⊢
        refine Eq.trans (show H[φ k]? = _ from old) (congrArg some ?_)
        rw [vp_cell_i, vp_cell_i]
        exact arrV_cg (fun j hj => by rw [f2 (Or.inl a9) j hj])
      · rw [if_neg a9] at old ⊢
        by_cases a10 : kK k = 10
        · rw [if_pos a10] at old ⊢
          refine Eq.trans (show H[φ k]? = _ from old) (congrArg some ?_)
          rw [vp_cell_i, vp_cell_i]
          exact arrV_cg (fun j hj => by rw [f2 (Or.inr a10) j hj])
        · rw [if_neg a10] at old ⊢
          have g10 : 10 < kK k := by omega
          by_cases a11 : kK k = 11
          · rw [if_pos a11] at old ⊢
            refine Eq.trans (show H[φ k]? = _ from old) (congrArg some ?_)
            rw [vp_cell_q, vp_cell_q]
            exact arrV_cg (fun j hj => by rw [f3 g10 j hj])
          · rw [if_neg a11] at old ⊢
            refine Eq.trans (show H[φ k]? = _ from old) (congrArg some ?_)
            rw [vp_cell_q, vp_cell_q]
            exact arrV_cg (fun j hj => by rw [f3 g10 j hj])
  · obtain ⟨h1, rfl⟩ := at1 i x hi
    obtain ⟨h2, rfl⟩ := at1 j y hj
    exact w2 i j _ _ (ewWs_at h1) (ewWs_at h2) hxy
  · obtain ⟨hk, rfl⟩ := at1 k q hq
    exact w3 k (φ k, ewEnt φ c4 S k) (ewWs_at hk)
theorem ewP_eq {X : Nat × (Nat → Int32)} {M : ewMt} {d pc : Nat} {ls : eL} {st : List Value} {b : Nat × Nat} {S S' : eS} {Q : Option Value → eS → Prop} (e : ewQe S S') (h : ewP X M d pc ls st b S' Q) : ewP X M d pc ls st b S Q := by
  intro D c4 φ B p l ee R s m args below meth c Z hF hE hret Ls H locs a1 a2 a3 a4 a5 a6 a7
  exact h D c4 φ B p l ee R s m args below meth c Z hF hE hret Ls H locs (ewW_eq e a1) a2 a3 a4 a5 a6 (by have e1 := e.1; intro z; rw [e1] at z ⊢; exact a7 z)
/-- current and spare -/
def ewPi (k : Nat) : Nat := if 3 ≤ k ∧ k ≤ 34 then k + 32 else if 35 ≤ k ∧ k ≤ 66 then k - 32 else k
theorem ewPi_pm : ewPm ewPi := by
  have h1 : ((List.range 229).all fun k => decide (kK (ewPi k) = kK k ∧ kL (ewPi k) = kL k)) = true := by decide +kernel
  refine ⟨fun k => ?_, fun k hk => ⟨?_, of_decide_eq_true (List.all_eq_true.mp h1 k (List.mem_range.mpr hk))⟩, fun k hk => ?_⟩
  · by_cases a : 3 ≤ k ∧ k ≤ 34
    · show ewPi (if 3 ≤ k ∧ k ≤ 34 then k + 32 else if 35 ≤ k ∧ k ≤ 66 then k - 32 else k) = k
      rw [if_pos a]; unfold ewPi; rw [if_neg (by omega), if_pos (by omega)]; omega
    · by_cases b : 35 ≤ k ∧ k ≤ 66
      · show ewPi (if 3 ≤ k ∧ k ≤ 34 then k + 32 else if 35 ≤ k ∧ k ≤ 66 then k - 32 else k) = k
        rw [if_neg a, if_pos b]; unfold ewPi; rw [if_pos (by omega)]; omega
      · have : ewPi k = k := by unfold ewPi; rw [if_neg a, if_neg b]
        rw [this, this]
  · unfold ewPi
    split
    · omega
    · split <;> omega
  · unfold ewPi
    rw [if_neg (by omega), if_neg (by omega)]
theorem ewPi_lo {k : Nat} (h : 3 ≤ k ∧ k ≤ 34) : ewPi k = k + 32 := if_pos h
theorem ewPi_id {k : Nat} (h : k < 3 ∨ 66 < k) : ewPi k = k := by unfold ewPi; rw [if_neg (by omega), if_neg (by omega)]
/-- where a reference is looked at -/
def ewLq (k j : Nat) : Bool := if kK k < 9 then decide (j < ewN (kK k)) && decide (ewFT (kK k) j = 2) else decide (10 < kK k) && decide (j < kL k)
theorem ewPi_R0 : ((List.range 229).all fun k => (List.range 64).all fun j => !(ewLq k j) || (Nat.beq k 0 && (Nat.beq j 1 || Nat.beq j 2)) || (Nat.beq k 142 && Nat.beq j 5) || (Nat.beq k 146 && Nat.beq j 5) || (Nat.beq k 150 && Nat.beq j 11) || (Nat.beq k 174 && Nat.beq j 15) || Nat.beq (ewPi (ewR0 (ewPi k) j)) (ewR0 k j)) = true := by decide +kernel
theorem ewLq_64 : ((List.range 229).all fun k => Nat.ble (ewN (kK k)) 64 && (Nat.ble (kL k) 64 || Nat.ble (kK k) 10)) = true := by decide +kernel
theorem ewPi_R {n1 n2 n3 n4 : Nat} (k j : Nat) (hk : k < 229) (hl : ewLq k j = true) : ewPi (ewR 35 3 n1 n2 n3 n4 (ewPi k) j) = ewR 3 35 (ewPi n1) (ewPi n2) (ewPi n3) (ewPi n4) k j := by
  have j64 : j < 64 := by
    have := List.all_eq_true.mp ewLq_64 k (List.mem_range.mpr hk)
    rw [Bool.and_eq_true, Bool.or_eq_true] at this
    unfold ewLq at hl
    have t1 := Nat.le_of_ble_eq_true this.1
    split at hl
    · rw [Bool.and_eq_true] at hl
      have := of_decide_eq_true hl.1
      omega
    · rw [Bool.and_eq_true] at hl
      have u1 := of_decide_eq_true hl.1
      have u2 := of_decide_eq_true hl.2
      rcases this.2 with y | y
      · have := Nat.le_of_ble_eq_true y; omega
      · have := Nat.le_of_ble_eq_true y; omega
  have key := List.all_eq_true.mp (List.all_eq_true.mp ewPi_R0 k (List.mem_range.mpr hk)) j (List.mem_range.mpr j64)
  rw [hl] at key
  have i0 : ewPi 0 = 0 := rfl
  have i1 : ewPi 142 = 142 := rfl
  have i2 : ewPi 146 = 146 := rfl
  have i3 : ewPi 150 = 150 := rfl
  have i4 : ewPi 174 = 174 := rfl
  have nb : ∀ {a b : Nat}, a ≠ b → Nat.beq a b = false := fun h => beq_f h
  have inj : ∀ a, ¬ (k = a) → ewPi a = a → ewPi k ≠ a := fun a h1 h2 z => h1 (by rw [← ewPi_pm.1 k, z, h2])
  unfold ewR
  by_cases k0 : k = 0
  · subst k0
    rw [i0, if_pos rfl, if_pos rfl]
    by_cases j1 : j = 1
    · rw [if_pos j1, if_pos j1]; rfl
    · rw [if_neg j1, if_neg j1]
      by_cases j2 : j = 2
      · rw [if_pos j2, if_pos j2]; rfl
      · rw [if_neg j2, if_neg j2]
        rw [nb j1, nb j2, i0] at key
        exact Nat.eq_of_beq_eq_true (by simpa using key)
  · rw [if_neg (inj 0 k0 i0), if_neg k0]
    by_cases k1 : k = 142
    · subst k1
      rw [i1, if_pos rfl, if_pos rfl]
      by_cases j1 : j = 5
      · rw [if_pos j1, if_pos j1]
      · rw [if_neg j1, if_neg j1]
        rw [nb j1, i1] at key
        exact Nat.eq_of_beq_eq_true (by simpa using key)
    · rw [if_neg (inj 142 k1 i1), if_neg k1]
      by_cases k2 : k = 146
      · subst k2
        rw [i2, if_pos rfl, if_pos rfl]
        by_cases j1 : j = 5
        · rw [if_pos j1, if_pos j1]
        · rw [if_neg j1, if_neg j1]
          rw [nb j1, i2] at key
          exact Nat.eq_of_beq_eq_true (by simpa using key)
      · rw [if_neg (inj 146 k2 i2), if_neg k2]
        by_cases k3 : k = 150
        · subst k3
          rw [i3, if_pos rfl, if_pos rfl]
          by_cases j1 : j = 11
          · rw [if_pos j1, if_pos j1]
          · rw [if_neg j1, if_neg j1]
            rw [nb j1, i3] at key
            exact Nat.eq_of_beq_eq_true (by simpa using key)
        · rw [if_neg (inj 150 k3 i3), if_neg k3]
          by_cases k4 : k = 174
          · subst k4
            rw [i4, if_pos rfl, if_pos rfl]
            by_cases j1 : j = 15
            · rw [if_pos j1, if_pos j1]
            · rw [if_neg j1, if_neg j1]
              rw [nb j1, i4] at key
              exact Nat.eq_of_beq_eq_true (by simpa using key)
          · rw [if_neg (inj 174 k4 i4), if_neg k4]
            rw [nb k0, nb k1, nb k2, nb k3, nb k4] at key
            exact Nat.eq_of_beq_eq_true (by simpa using key)
theorem ewPi_S (n1 n2 n3 n4 : Nat) (h : Nat → Nat → Int32) : ewQe (ewRS ewPi (229, ewR 35 3 n1 n2 n3 n4, h)) (229, ewR 3 35 (ewPi n1) (ewPi n2) (ewPi n3) (ewPi n4), fun k => h (ewPi k)) := by
  refine ⟨rfl, fun k hk => ⟨fun k9 j hj => ?_, fun _ j hj => rfl, fun k10 j hj => ?_⟩⟩
  · by_cases t : ewFT (kK k) j = 2
    · rw [if_pos t]
      exact (ewPi_R k j hk (by unfold ewLq; rw [if_pos k9, decide_eq_true hj, decide_eq_true t]; rfl)).symm
    · rw [if_neg t]; rfl
  · exact (ewPi_R k j hk (by unfold ewLq; rw [if_neg (by omega), decide_eq_true k10, decide_eq_true hj]; rfl)).symm
/-- after net: the names are changed back -/
theorem ewP_pi {X : Nat × (Nat → Int32)} {M : ewMt} {d pc : Nat} {ls : eL} {st : List Value} {b : Nat × Nat} {n1 n2 n3 n4 : Nat} {h : Nat → Nat → Int32} {Q : Option Value → eS → Prop} (hl : ls.map (Option.map (ewRv ewPi)) = ls) (hs : st.map (ewRv ewPi) = st) (hq : ∀ v S', S'.1 = 229 → Q v S' → Q (v.map (ewRv ewPi)) (ewRS ewPi S'))
    (h5 : ewP X M d pc ls st b (229, ewR 3 35 (ewPi n1) (ewPi n2) (ewPi n3) (ewPi n4), fun k => h (ewPi k)) (fun v S' => S'.1 = 229 ∧ Q v S')) : ewP X M d pc ls st b (229, ewR 35 3 n1 n2 n3 n4, h) Q := by
  refine ewP_ren ewPi ewPi_pm rfl ?_
  rw [hl, hs]
  refine ewP_eq (ewPi_S n1 n2 n3 n4 h) (ewP_m (fun v S' q => ?_) h5)
  exact ⟨q.1, hq v S' q.1 q.2⟩
