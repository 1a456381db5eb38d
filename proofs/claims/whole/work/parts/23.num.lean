/-! numbers: Int32 and Int64 as integers -/
theorem in_lt (x y : Int64) : lg_cmp x y < 0 ↔ x.toInt < y.toInt := by rw [lg_cmp_lt, Int64.lt_iff_toInt_lt]
theorem in_gt (x y : Int64) : 0 < lg_cmp x y ↔ y.toInt < x.toInt := by rw [lg_cmp_gt, Int64.lt_iff_toInt_lt]
theorem in_iff (a b c : Int64) : f_Mo_in a b c ↔ b.toInt ≤ a.toInt ∧ a.toInt ≤ c.toInt := by
  show (¬ (lg_cmp a b < 0) ∧ ¬ (0 < lg_cmp a c)) ↔ _
  rw [in_lt, in_gt]
  omega
theorem in_nat (x : Int32) (a b : Nat) (ha : a < 2 ^ 63) (hb : b < 2 ^ 63) : f_Mo_in x.toInt64 (Int64.ofNat a) (Int64.ofNat b) ↔ (a : Int) ≤ x.toInt ∧ x.toInt ≤ (b : Int) := by
  rw [in_iff, show (Int64.ofNat a).toInt = (a : Int) from pk_lT ha, show (Int64.ofNat b).toInt = (b : Int) from pk_lT hb, Int32.toInt_toInt64]
theorem nI_iff {x : Int32} {n : Nat} (hn : n < 2 ^ 31) : (0 ≤ x.toInt ∧ x.toInt < (n : Int)) ↔ ∃ j : Nat, j < n ∧ x = nI j := by
  constructor
  · rintro ⟨h1, h2⟩
    have h3 : ¬ x < 0 := by rw [Int32.lt_iff_toInt_lt]; simp; omega
    obtain ⟨j, hj, rfl⟩ := nI_of h3
    rw [nI_toInt hj] at h2
    exact ⟨j, by omega, rfl⟩
  · rintro ⟨j, hj, rfl⟩
    rw [nI_toInt (by omega)]
    omega
theorem nI_pm {n : Nat} (hn : n < 2 ^ 31) : (nI n - 1).toInt = (n : Int) - 1 := by
  cases n with
  | zero => decide
  | succ k =>
    rw [nI_pred, nI_toInt (by omega)]
    omega
/-- the tests of a number against a count -/
theorem in_cnt (x : Int32) {n : Nat} (hn : n < 2 ^ 31) : f_Mo_in x.toInt64 (Int64.ofNat 0) ((nI n - 1).toInt64) ↔ ∃ j : Nat, j < n ∧ x = nI j := by
  rw [in_iff, Int32.toInt_toInt64, Int32.toInt_toInt64, nI_pm hn, ← nI_iff hn]
  rw [show (Int64.ofNat 0).toInt = 0 from by decide]
  omega
