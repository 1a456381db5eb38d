/-! the search for the best plan: pure -/
theorem fdS_map {β γ : Type} {c : Nat → Nat} {g : Nat → Nat → Nat} {st : β → (Nat → Nat) → β} {st' : γ → (Nat → Nat) → γ} (φ : β → γ) (hs : ∀ b v, φ (st b v) = st' (φ b) v) : ∀ k e v b, φ (fdS c g st e k v b) = fdS c g st' e k v (φ b)
  | 0, e, v, b => hs b v
  | k + 1, e, v, b => by
    show φ ((List.range (c e)).foldl (fun b i => fdS c g st (e + 1) k (pup v e (g e i)) b) b) = (List.range (c e)).foldl (fun b i => fdS c g st' (e + 1) k (pup v e (g e i)) b) (φ b)
    generalize List.range (c e) = l
    induction l generalizing b with
    | nil => rfl
    | cons x l ih =>
      rw [List.foldl_cons, List.foldl_cons, ih, fdS_map φ hs k (e + 1)]
section SEEK
variable (c : Nat → Int32) (m : Nat) (A B : Nat → Nat) (k : Nat) (F T : Nat → Nat)
/-- cost, and the cost of the first e stretches -/
def pC (v : Nat → Nat) (e : Nat) : Nat := sm (pad (c 24).toNatClampNeg (c 23).toNatClampNeg A B m v (ptn c A B m) k F T) e
def ps2 (b : Nat × (Nat → Nat)) (v : Nat → Nat) : Nat × (Nat → Nat) := if pu2 A B v m = true ∧ pco (c 24).toNatClampNeg (c 23).toNatClampNeg A B m v (ptn c A B m) k F T < b.1 then (pco (c 24).toNatClampNeg (c 23).toNatClampNeg A B m v (ptn c A B m) k F T, v) else b
def ps1 (b : Nat) (v : Nat → Nat) : Nat := if pu2 A B v m = true then b + 1 else b
end SEEK
section SEEK2
variable {c : Nat → Int32} {n m : Nat} {A B : Nat → Nat} {k : Nat} {F T : Nat → Nat}
theorem pBp_2 : (pBp c m A B k F T).2 = fdS (pcN c) (pdi c A B) (ps2 c m A B k F T) 0 m (fun _ => 0) (1000000, fun _ => 0) := by
  unfold pBp
  refine fdS_map (st := pst c m A B k F T) (st' := ps2 c m A B k F T) (fun b : Nat × Nat × (Nat → Nat) => b.2) (fun b v => ?_) m 0 _ _
  unfold pst ps2
  by_cases q : pu2 A B v m = true
  · rw [if_pos q]
    by_cases p : pco (c 24).toNatClampNeg (c 23).toNatClampNeg A B m v (ptn c A B m) k F T < b.2.1
    · rw [if_pos p, if_pos (show _ ∧ _ from ⟨q, p⟩)]
    · rw [if_neg p, if_neg (show ¬ (pu2 A B v m = true ∧ _) from fun z => p z.2)]
  · rw [if_neg q, if_neg (fun z => q z.1)]
theorem pBp_1 : (pBp c m A B k F T).1 = fdS (pcN c) (pdi c A B) (ps1 m A B) 0 m (fun _ => 0) 0 := by
  unfold pBp
  refine fdS_map (st := pst c m A B k F T) (st' := ps1 m A B) (fun b : Nat × Nat × (Nat → Nat) => b.1) (fun b v => ?_) m 0 _ _
  unfold pst ps1
  by_cases q : pu2 A B v m = true
  · rw [if_pos q, if_pos q]
  · rw [if_neg q, if_neg q]
theorem pts_cg {v v' : Nat → Nat} {f e : Nat} (h1 : v' f = v f) (h2 : v' e = v e) : pts A B v' f e = pts A B v f e := by
  unfold pts; rw [h1, h2]
theorem pad_cg {o w : Nat} {v v' tr : Nat → Nat} {e : Nat} (h : ∀ j, j ≤ e → v' j = v j) : pad o w A B m v' tr k F T e = pad o w A B m v tr k F T e := by
  unfold pad
  rw [h e (Nat.le_refl _)]
  congr 1
  refine sm_cg e (fun f hf => ?_)
  rw [pts_cg (h f (by omega)) (h e (Nat.le_refl _))]
theorem pC_cg {v v' : Nat → Nat} {e : Nat} (h : ∀ j, j < e → v' j = v j) : pC c m A B k F T v' e = pC c m A B k F T v e := sm_cg e (fun j hj => pad_cg (fun i hi => h i (by omega)))
theorem pC_s (v : Nat → Nat) (e : Nat) : pC c m A B k F T v (e + 1) = pC c m A B k F T v e + pad (c 24).toNatClampNeg (c 23).toNatClampNeg A B m v (ptn c A B m) k F T e := rfl
theorem pu1_cg {v v' : Nat → Nat} (hv : ∀ e, v e < 8) (hv' : ∀ e, v' e < 8) {e : Nat} (hk : ∀ f, f ≤ e → A f ≠ B f) (h : ∀ j, j ≤ e → v' j = v j) : pu1 A B v' e e = pu1 A B v e e := by
  rw [Bool.eq_iff_iff, pu1_iff hv' (hk e (Nat.le_refl _)) e (fun f hf => hk f (by omega)), pu1_iff hv (hk e (Nat.le_refl _)) e (fun f hf => hk f (by omega))]
  refine forall_congr' fun f => forall_congr' fun hf => ?_
  rw [pts_cg (h f (by omega)) (h e (Nat.le_refl _))]
/-- choices stay below 8 -/
theorem pup8 {v : Nat → Nat} (hv : ∀ e, v e < 8) {e x : Nat} (hx : x < 8) : ∀ j, pup v e x j < 8 := fun j => by
  unfold pup
  split
  · exact hx
  · exact hv j
theorem fdS_skip8 {β : Type} {st : β → (Nat → Nat) → β} {b : β} (hS : mSe c m) : ∀ kk e v, e + kk = m → (∀ e, v e < 8) → (∀ v', (∀ e, v' e < 8) → (∀ j, j < e → v' j = v j) → st b v' = b) → fdS (pcN c) (pdi c A B) st e kk v b = b
  | 0, e, v, _, hv, h => h v hv (fun _ _ => rfl)
  | kk + 1, e, v, he, hv, h => by
    show (List.range (pcN c e)).foldl (fun b i => fdS (pcN c) (pdi c A B) st (e + 1) kk (pup v e (pdi c A B e i)) b) b = b
    have key : ∀ i, fdS (pcN c) (pdi c A B) st (e + 1) kk (pup v e (pdi c A B e i)) b = b := fun i => by
      refine fdS_skip8 hS kk (e + 1) _ (by omega) (pup8 hv (pdi_lt hS A B (by omega) i)) (fun v' hv' hj => h v' hv' (fun j hj' => ?_))
      rw [hj j (by omega), pup_ne _ _ (by omega)]
    generalize List.range (pcN c e) = l
    induction l with
    | nil => rfl
    | cons x l ih => rw [List.foldl_cons, key x]; exact ih
/-- a conflict: nothing of it is a plan -/
theorem seek_no (hS : mSe c m) (ok : cOK n m A B k F T) {kk e : Nat} (he : e + kk + 1 = m) {v : Nat → Nat} (hv : ∀ e, v e < 8) (hu : ¬ pu1 A B v e e = true) (b : Nat × (Nat → Nat)) : fdS (pcN c) (pdi c A B) (ps2 c m A B k F T) (e + 1) kk v b = b := by
  refine fdS_skip8 hS kk (e + 1) v (by omega) hv (fun v' hv' hj => ?_)
  unfold ps2
  rw [if_neg]
  rintro ⟨z, -⟩
  have hab : ∀ f, f ≤ e → A f ≠ B f := fun f hf y => ok.2.1 f (by omega) (by rw [y])
  have := (pu2_iff m).mp z e (by omega)
  rw [pu1_cg hv hv' hab (fun j hj' => hj j (by omega))] at this
  exact hu this
theorem tally_no (hS : mSe c m) (ok : cOK n m A B k F T) {kk e : Nat} (he : e + kk + 1 = m) {v : Nat → Nat} (hv : ∀ e, v e < 8) (hu : ¬ pu1 A B v e e = true) (b : Nat) : fdS (pcN c) (pdi c A B) (ps1 m A B) (e + 1) kk v b = b := by
  refine fdS_skip8 hS kk (e + 1) v (by omega) hv (fun v' hv' hj => ?_)
  unfold ps1
  rw [if_neg]
  intro z
  have hab : ∀ f, f ≤ e → A f ≠ B f := fun f hf y => ok.2.1 f (by omega) (by rw [y])
  have := (pu2_iff m).mp z e (by omega)
  rw [pu1_cg hv hv' hab (fun j hj' => hj j (by omega))] at this
  exact hu this
/-- too dear already -/
theorem seek_dear (hS : mSe c m) (ok : cOK n m A B k F T) (h9 : m ≤ 90) {kk e : Nat} (he : e + kk = m) {v : Nat → Nat} (hv : ∀ e, v e < 8) {b : Nat × (Nat → Nat)} (hd : ¬ pC c m A B k F T v e < b.1) : fdS (pcN c) (pdi c A B) (ps2 c m A B k F T) e kk v b = b := by
  refine fdS_skip8 hS kk e v he hv (fun v' hv' hj => ?_)
  unfold ps2
  rw [if_neg]
  rintro ⟨-, z⟩
  rw [pco_sum hv' h9 ok] at z
  have h1 : pC c m A B k F T v' e ≤ pC c m A B k F T v' m := sm_ge (by omega)
  rw [pC_cg hj] at h1
  unfold pC at h1 hd
  omega
/-- the counts add up -/
theorem tally_add : ∀ kk e v b, fdS (pcN c) (pdi c A B) (ps1 m A B) e kk v b = b + fdS (pcN c) (pdi c A B) (ps1 m A B) e kk v 0
  | 0, e, v, b => by
    show ps1 m A B b v = b + ps1 m A B 0 v
    unfold ps1
    split <;> omega
  | kk + 1, e, v, b => by
    show (List.range (pcN c e)).foldl (fun b i => fdS (pcN c) (pdi c A B) (ps1 m A B) (e + 1) kk (pup v e (pdi c A B e i)) b) b = b + (List.range (pcN c e)).foldl (fun b i => fdS (pcN c) (pdi c A B) (ps1 m A B) (e + 1) kk (pup v e (pdi c A B e i)) b) 0
    have key : ∀ (l : List Nat) b, l.foldl (fun b i => fdS (pcN c) (pdi c A B) (ps1 m A B) (e + 1) kk (pup v e (pdi c A B e i)) b) b = b + l.foldl (fun b i => fdS (pcN c) (pdi c A B) (ps1 m A B) (e + 1) kk (pup v e (pdi c A B e i)) b) 0 := by
      intro l
      induction l with
      | nil => intro b; rfl
      | cons x l ih =>
        intro b
        rw [List.foldl_cons, List.foldl_cons, ih, ih (fdS (pcN c) (pdi c A B) (ps1 m A B) (e + 1) kk (pup v e (pdi c A B e x)) 0), tally_add kk (e + 1) _ b]
        omega
    exact key _ b
end SEEK2
