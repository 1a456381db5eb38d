/-! lengths: what is clear stretch by stretch -/
/-- stretch e lays no station of its one side where one of the other lies -/
def clr (A B : Nat → Nat) (n : Nat) (dx dy : Nat → Int32) (e : Nat) : Prop := ∀ s t, s < n → t < n → plb A B e s = plb A B e (A e) → plb A B e t = plb A B e (B e) → ¬ (ppx A B dx (e + 1) s = ppx A B dx (e + 1) t ∧ ppx A B dy (e + 1) s = ppx A B dy (e + 1) t)
theorem ppx_s (A B : Nat → Nat) (dx : Nat → Int32) (k s : Nat) : ppx A B dx (k + 1) s = ppx A B dx k s + (if plb A B k s = plb A B k (B k) then ppx A B dx k (A k) + dx k - ppx A B dx k (B k) else 0) := by
  show (if plb A B k s = plb A B k (B k) then _ else _) = _
  by_cases q : plb A B k s = plb A B k (B k)
  · rw [if_pos q, if_pos q]
  · rw [if_neg q, if_neg q, Int32.add_zero]
theorem i32_can {a b c : Int32} : (a + c = b + c) ↔ a = b := ⟨fun h => by grind, fun h => by rw [h]⟩
theorem ppx_keep {A B : Nat → Nat} {dx : Nat → Int32} {k s t : Nat} (h : plb A B k s = plb A B k t) : (ppx A B dx (k + 1) s = ppx A B dx (k + 1) t) ↔ ppx A B dx k s = ppx A B dx k t := by
  rw [ppx_s, ppx_s, h, i32_can]
theorem pfP_s {A B : Nat → Nat} {n k : Nat} {dx dy : Nat → Int32} (hk : plb A B k (A k) ≠ plb A B k (B k)) : pfP A B n (k + 1) dx dy ↔ pfP A B n k dx dy ∧ clr A B n dx dy k := by
  constructor
  · intro h
    refine ⟨fun s t hs ht hne hc => ?_, fun s t hs ht h1 h2 => ?_⟩
    · have := h s t hs ht hne (plb_join.mpr (Or.inl hc))
      rw [ppx_keep hc, ppx_keep hc] at this
      exact this
    · refine h s t hs ht (fun z => hk ?_) (plb_join.mpr (Or.inr (Or.inl ⟨h1, h2⟩)))
      rw [← h1, ← h2, z]
  · rintro ⟨h1, h2⟩ s t hs ht hne hc
    rcases plb_join.mp hc with q | ⟨q1, q2⟩ | ⟨q1, q2⟩
    · rw [ppx_keep q, ppx_keep q]; exact h1 s t hs ht hne q
    · exact h2 s t hs ht q1 q2
    · exact fun z => h2 t s ht hs q2 q1 ⟨z.1.symm, z.2.symm⟩
theorem pfP_iff {A B : Nat → Nat} {n : Nat} {dx dy : Nat → Int32} : ∀ m, tOK A B m → (pfP A B n m dx dy ↔ ∀ e, e < m → clr A B n dx dy e)
  | 0, _ => ⟨fun _ e he => by omega, fun _ s t hs ht hne hc => absurd hc hne⟩
  | m + 1, hk => by
    rw [pfP_s (hk m (by omega)), pfP_iff m (hk.lt (by omega))]
    constructor
    · rintro ⟨h1, h2⟩ e he
      by_cases q : e = m
      · rw [q]; exact h2
      · exact h1 e (by omega)
    · exact fun h => ⟨fun e he => h e (by omega), h m (by omega)⟩
theorem clr_cg {A B : Nat → Nat} {n : Nat} {dx dy dx' dy' : Nat → Int32} {e : Nat} (h : ∀ j, j ≤ e → dx' j = dx j ∧ dy' j = dy j) : clr A B n dx' dy' e ↔ clr A B n dx dy e := by
  unfold clr
  have e1 := fun s => ppx_congr (A := A) (B := B) (dx := dx') (dx' := dx) (e + 1) (fun j hj => (h j (by omega)).1) s
  have e2 := fun s => ppx_congr (A := A) (B := B) (dx := dy') (dx' := dy) (e + 1) (fun j hj => (h j (by omega)).2) s
  simp only [e1, e2]
/-- lengths are 1, 2 or 3 -/
theorem fdS_skip3 {β : Type} {st : β → (Nat → Nat) → β} {b : β} : ∀ kk e v, (∀ v', (∀ j, j < e → v' j = v j) → (∀ j, e ≤ j → j < e + kk → 1 ≤ v' j) → st b v' = b) → fdS (fun _ => 3) (fun _ i => 1 + i) st e kk v b = b
  | 0, e, v, h => h v (fun _ _ => rfl) (fun j h1 h2 => by omega)
  | kk + 1, e, v, h => by
    show (List.range 3).foldl (fun b i => fdS (fun _ => 3) (fun _ i => 1 + i) st (e + 1) kk (pup v e (1 + i)) b) b = b
    have key : ∀ i, fdS (fun _ => 3) (fun _ i => 1 + i) st (e + 1) kk (pup v e (1 + i)) b = b := fun i => by
      refine fdS_skip3 kk (e + 1) _ (fun v' hj h1 => h v' (fun j hj' => ?_) (fun j j1 j2 => ?_))
      · rw [hj j (by omega), pup_ne _ _ (by omega)]
      · by_cases q : j = e
        · rw [q, hj e (by omega), pup_self]; omega
        · exact h1 j (by omega) (by omega)
    generalize List.range 3 = l
    induction l with
    | nil => rfl
    | cons x l ih => rw [List.foldl_cons, key x]; exact ih
theorem sm_rest {v : Nat → Nat} {e : Nat} : ∀ kk, (∀ j, e ≤ j → j < e + kk → 1 ≤ v j) → sm v e + kk ≤ sm v (e + kk)
  | 0, _ => Nat.le_refl _
  | kk + 1, h => by
    have := sm_rest kk (fun j j1 j2 => h j j1 (by omega))
    have h2 := h (e + kk) (by omega) (by omega)
    show _ ≤ sm v (e + kk) + v (e + kk)
    omega
section LEN
variable {n m : Nat} {A B dv : Nat → Nat}
theorem len_no (hk : tOK A B m) {kk e : Nat} (he : e + kk + 1 = m) {v : Nat → Nat} (hc : ¬ clr A B n (pdx dv v) (pdy dv v) e) (b : Nat × (Nat → Nat)) : fdS (fun _ => 3) (fun _ i => 1 + i) (pls n m A B dv) (e + 1) kk v b = b := by
  refine fdS_skip3 kk (e + 1) v (fun v' hj _ => ?_)
  unfold pls
  rw [if_neg]
  rintro ⟨z, -⟩
  rw [pfB_iff, pfP_iff m hk] at z
  refine hc ((clr_cg (fun j hj' => ?_)).mp (z e (by omega)))
  unfold pdx pdy
  rw [hj j (by omega)]
  exact ⟨rfl, rfl⟩
theorem len_dear {kk e : Nat} (he : e + kk = m) {v : Nat → Nat} {b : Nat × (Nat → Nat)} (hd : ¬ sm v e + kk < b.1) : fdS (fun _ => 3) (fun _ i => 1 + i) (pls n m A B dv) e kk v b = b := by
  refine fdS_skip3 kk e v (fun v' hj h1 => ?_)
  unfold pls
  rw [if_neg]
  rintro ⟨-, z⟩
  have h2 := sm_rest (v := v') (e := e) kk h1
  rw [he] at h2
  have h3 : sm v' e = sm v e := sm_cg e (fun j hj' => hj j hj')
  omega
end LEN
theorem step_n {d : Nat} (hd : d < 8) : ewSv 1 d = f_Mo_stepX (nI d) ∧ ewSv 2 d = f_Mo_stepY (nI d) := by
  have hh : ∀ d : Fin 8, ewSv 1 d.1 = f_Mo_stepX (nI d.1) ∧ ewSv 2 d.1 = f_Mo_stepY (nI d.1) := by decide +kernel
  exact hh ⟨d, hd⟩
