/-! pure: the best plan -/
def ptd (dx dy : Int32) : Int32 := (if (if (if dy < 0 then (-dy) else dy) < (if dx < 0 then (-dx) else dx) then (if dx < 0 then (-dx) else dx) else (if dy < 0 then (-dy) else dy)) = 0 then 0 else (if (12 * (if (if dy < 0 then (-dy) else dy) < (if dx < 0 then (-dx) else dx) then (if dy < 0 then (-dy) else dy) else (if dx < 0 then (-dx) else dx))) < (5 * (if (if dy < 0 then (-dy) else dy) < (if dx < 0 then (-dx) else dx) then (if dx < 0 then (-dx) else dx) else (if dy < 0 then (-dy) else dy))) then (if (if dy < 0 then (-dy) else dy) < (if dx < 0 then (-dx) else dx) then (if 0 < dx then 0 else 4) else (if 0 < dy then 2 else 6)) else (if 0 < dy then (if 0 < dx then 1 else 3) else (if 0 < dx then 7 else 5))))
theorem ptd_in (dx dy : Int32) : ∃ j : Nat, j < 8 ∧ ptd dx dy = nI j := by
  unfold ptd
  generalize (if dy < 0 then (-dy) else dy) = ay
  generalize (if dx < 0 then (-dx) else dx) = ax
  generalize (if ay < ax then ax else ay) = a
  generalize (if ay < ax then ay else ax) = b
  repeat' split
  all_goals first | exact ⟨0, by omega, rfl⟩ | exact ⟨1, by omega, rfl⟩ | exact ⟨2, by omega, rfl⟩ | exact ⟨3, by omega, rfl⟩ | exact ⟨4, by omega, rfl⟩ | exact ⟨5, by omega, rfl⟩ | exact ⟨6, by omega, rfl⟩ | exact ⟨7, by omega, rfl⟩
/-- the true direction of a stretch, by a setting -/
def ptr (c : Nat → Int32) (A B : Nat → Nat) (e : Nat) : Nat := (ptd (c (B e) - c (A e)) (c (8 + B e) - c (8 + A e))).toNatClampNeg
theorem ptr_n (c : Nat → Int32) (A B : Nat → Nat) (e : Nat) : ptd (c (B e) - c (A e)) (c (8 + B e) - c (8 + A e)) = nI (ptr c A B e) ∧ ptr c A B e < 8 := by
  obtain ⟨j, hj, ej⟩ := ptd_in (c (B e) - c (A e)) (c (8 + B e) - c (8 + A e))
  unfold ptr
  rw [ej, nI_clamp (by omega)]
  exact ⟨rfl, hj⟩
def ptn (c : Nat → Int32) (A B : Nat → Nat) (m e : Nat) : Nat := if e < m then ptr c A B e else 0
/-- how many directions there are for a stretch, and which -/
def pcN (c : Nat → Int32) (e : Nat) : Nat := if c (16 + e) < 0 then 3 else 1
def pdi (c : Nat → Int32) (A B : Nat → Nat) (e i : Nat) : Nat := if c (16 + e) < 0 then (ptr c A B e + (if i = 2 then 7 else i)) % 8 else (c (16 + e)).toNatClampNeg
def pst (c : Nat → Int32) (m : Nat) (A B : Nat → Nat) (k : Nat) (F T : Nat → Nat) (b : Nat × Nat × (Nat → Nat)) (v : Nat → Nat) : Nat × Nat × (Nat → Nat) :=
  if pu2 A B v m = true then (b.1 + 1, if pco (c 24).toNatClampNeg (c 23).toNatClampNeg A B m v (ptn c A B m) k F T < b.2.1 then (pco (c 24).toNatClampNeg (c 23).toNatClampNeg A B m v (ptn c A B m) k F T, v) else b.2) else b
/-- the plans: how many, the least cost (1000000: none), the first one of it -/
def pBp (c : Nat → Int32) (m : Nat) (A B : Nat → Nat) (k : Nat) (F T : Nat → Nat) : Nat × Nat × (Nat → Nat) := fdS (pcN c) (pdi c A B) (pst c m A B k F T) 0 m (fun _ => 0) (0, 1000000, fun _ => 0)
/-- what may stand in a setting -/
def mSe (c : Nat → Int32) (m : Nat) : Prop := (c 23 = nI (c 23).toNatClampNeg ∧ (c 23).toNatClampNeg < 4) ∧ (c 24 = nI (c 24).toNatClampNeg ∧ (c 24).toNatClampNeg < 10) ∧ ∀ e, e < m → c (16 + e) = -1 ∨ ∃ j : Nat, j < 8 ∧ c (16 + e) = nI j
theorem pcN_pos (c : Nat → Int32) (e : Nat) : 0 < pcN c e := by unfold pcN; split <;> omega
theorem pcN_le (c : Nat → Int32) (e : Nat) : pcN c e ≤ 3 := by unfold pcN; split <;> omega
theorem pdi_lt {c : Nat → Int32} {m : Nat} (h : mSe c m) (A B : Nat → Nat) {e : Nat} (he : e < m) (i : Nat) : pdi c A B e i < 8 := by
  unfold pdi
  split
  · exact Nat.mod_lt _ (by omega)
  · rename_i q
    rcases h.2.2 e he with z | ⟨j, hj, z⟩
    · rw [z] at q; exact absurd (by decide) q
    · rw [z, nI_clamp (by omega)]; exact hj
theorem pP_last {c : Nat → Nat} : ∀ k e, pP c e (k + 1) = pP c e k * c (e + k)
  | 0, e => by show c e * 1 = 1 * c e; omega
  | k + 1, e => by
    show c e * pP c (e + 1) (k + 1) = c e * pP c (e + 1) k * c (e + (k + 1))
    rw [pP_last k (e + 1), Nat.mul_assoc, show e + 1 + k = e + (k + 1) by omega]
theorem pP_le {c : Nat → Nat} (hc : ∀ e, c e ≤ 3) : ∀ k e, pP c e k ≤ 3 ^ k
  | 0, _ => by show 1 ≤ 1; omega
  | k + 1, e => by
    show c e * pP c (e + 1) k ≤ _
    rw [Nat.pow_succ, Nat.mul_comm]
    exact Nat.mul_le_mul (pP_le hc k (e + 1)) (hc e)
theorem p3_le {k : Nat} (h : k ≤ 7) : 3 ^ k ≤ 2187 := Nat.pow_le_pow_right (n := 3) (by omega) h
theorem sm_le {f : Nat → Nat} {C : Nat} (h : ∀ i, f i ≤ C) : ∀ n, sm f n ≤ n * C
  | 0 => by show 0 ≤ _; omega
  | n + 1 => by show sm f n + f n ≤ _; have := sm_le h n; have := h n; rw [Nat.succ_mul]; omega
theorem pbd_le {w : Nat} {A B : Nat → Nat} {m : Nat} {v : Nat → Nat} (hw : w < 4) (hv : ∀ e, v e < 8) (f t : Nat) : pbd w A B m v f t ≤ (tds A B m f t - 1) * 16 := by
  refine sm_le (fun i => pct_le hw (pap_le (by omega) (pwf_lt (hv _)))) _
theorem pco_lt {o w : Nat} {A B : Nat → Nat} {n m : Nat} {v tr : Nat → Nat} {k : Nat} {F T : Nat → Nat} (ho : o < 10) (hw : w < 4) (h8 : n ≤ 8) (hm : m ≤ 7) (hk : k ≤ 3) (hv : ∀ e, v e < 8) (ht : ∀ e, tr e < 8) (hok : tOK A B m) (hn : ∀ e, e < m → A e < n ∧ B e < n) (hl : ∀ l, l < k → F l < n ∧ T l < n ∧ plb A B m (F l) = plb A B m (T l)) : pco o w A B m v tr k F T < 1000000 := by
  unfold pco
  have s1 : sm (fun e => pap (v e) (tr e)) m ≤ 28 := Nat.le_trans (sm_le (C := 4) (fun i => by have := pap_le (hv i) (ht i); omega) m) (by omega)
  have s2 : o * sm (fun e => pap (v e) (tr e)) m ≤ 9 * 28 := Nat.mul_le_mul (by omega) s1
  have s3 : ∀ j, j ≤ k → pbs w A B m v j F T ≤ j * 112 := by
    intro j
    induction j with
    | zero => intro _; show 0 ≤ _; omega
    | succ j ih =>
      intro hj
      have ih := ih (by omega)
      show pbs w A B m v j F T + pbd w A B m v (F j) (T j) ≤ _
      obtain ⟨l1, l2, l3⟩ := hl j (by omega)
      have h1 := pbd_le (A := A) (B := B) (m := m) hw hv (F j) (T j)
      have h2 := tds_lt hok hn l1 l2 l3
      omega
  have := s3 k (Nat.le_refl _)
  omega
theorem nI_div {a b : Nat} (ha : a < 2 ^ 31) (hb : b < 2 ^ 31) : nI a / nI b = nI (a / b) := by
  apply Int32.toInt_inj.mp
  have h1 : a / b ≤ a := Nat.div_le_self a b
  rw [Int32.toInt_div, nI_toInt ha, nI_toInt hb, nI_toInt (by omega), ← Int.ofNat_tdiv]
  generalize a / b = q at *
  exact Int.bmod_eq_of_le (by omega) (by omega)
theorem nI_sub {a b : Nat} (h : b ≤ a) : nI a - nI b = nI (a - b) := by
  have e : nI a = nI (a - b) + nI b := by rw [nI_ad]; congr 1; omega
  rw [e]
  exact Int32.add_sub_cancel _ _
theorem nI_mod {a b : Nat} (ha : a < 2 ^ 31) (hb : b < 2 ^ 31) : nI a - nI a / nI b * nI b = nI (a % b) := by
  rw [nI_div ha hb, nI_mu, nI_sub (Nat.div_mul_le_self a b)]
  congr 1
  have := Nat.div_add_mod a b
  rw [Nat.mul_comm] at this
  omega
theorem pdi_n {t i : Nat} (ht : t < 8) (hi : i < 3) : (nI t + (if nI i = 2 then 7 else nI i)) - (nI t + (if nI i = 2 then 7 else nI i)) / 8 * 8 = nI ((t + (if i = 2 then 7 else i)) % 8) := by
  have h : ∀ (t : Fin 8) (i : Fin 3), (nI t.1 + (if nI i.1 = 2 then 7 else nI i.1)) - (nI t.1 + (if nI i.1 = 2 then 7 else nI i.1)) / 8 * 8 = nI ((t.1 + (if i.1 = 2 then 7 else i.1)) % 8) := by decide +kernel
  exact h ⟨t, ht⟩ ⟨i, hi⟩
/-- the best plan is a plan -/
theorem fdS_inv {β : Type} {c : Nat → Nat} {g : Nat → Nat → Nat} {st : β → (Nat → Nat) → β} {I : β → Prop} {V : (Nat → Nat) → Prop} (hs : ∀ b v, I b → V v → I (st b v)) : ∀ k e v b, (∀ v j i, V v → e ≤ j → j < e + k → V (pup v j (g j i))) → V v → I b → I (fdS c g st e k v b)
  | 0, _, v, b, _, hv, hb => hs b v hb hv
  | k + 1, e, v, b, hg, hv, hb => by
    show I ((List.range (c e)).foldl (fun b i => fdS c g st (e + 1) k (pup v e (g e i)) b) b)
    have : ∀ (l : List Nat) b, I b → I (l.foldl (fun b i => fdS c g st (e + 1) k (pup v e (g e i)) b) b) := by
      intro l
      induction l with
      | nil => intro b hb; exact hb
      | cons i l ih =>
        intro b hb
        exact ih _ (fdS_inv hs k (e + 1) _ b (fun v j i hv h1 h2 => hg v j i hv (by omega) (by omega)) (hg v e i hv (by omega) (by omega)) hb)
    exact this _ b hb
