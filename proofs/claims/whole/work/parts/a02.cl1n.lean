/-! the class: counted, fill, blanks, sets of bits, true directions -/
def f_Ew_counted (x0 x1 : Int32) : Int32 := if x0 = 0 then x1 else if x0 = 1 then x1 * x1 else if x0 = 2 then (if x1 < 2 then 0 else 10) else (if ¬ (x1 = 0) then 1 else 0)
theorem s_Ew_counted {X : Nat × (Nat → Int32)} {d : Nat} {Q : Option Value → eS → Prop} {cu sp n1 n2 n3 n4 : Nat} (x0 x1 : Int32) (h : Nat → Nat → Int32) (z9 : Q (some (.int (f_Ew_counted x0 x1))) (229, (ewR cu sp n1 n2 n3 n4), h)) : ewP X Ew_counted (d + 0) 0 [some (.int x0), some (.int x1)] [] (0, 0) (229, (ewR cu sp n1 n2 n3 n4), h) Q := by
  refine v_Ew_counted_0 x0 x1 h (fun q => ?_) (fun q => ?_) (fun q => ?_) (fun q => ?_)
  · rw [q] at z9; exact z9
  · rw [q] at z9; exact z9
  · rw [q] at z9; exact z9
  · have o3 := i32_out 3 (by decide) q
    unfold f_Ew_counted at z9
    rw [if_neg (show ¬ x0 = 0 from o3 0 (by omega)), if_neg (show ¬ x0 = 1 from o3 1 (by omega)), if_neg (show ¬ x0 = 2 from o3 2 (by omega))] at z9
    exact z9
theorem counted2_n {w n : Nat} (hw : w < 4) (hn : n < 5) : f_Ew_counted (nI w) (nI n) = nI (pct w n) := by
  have hh : ∀ (w : Fin 4) (n : Fin 5), f_Ew_counted (nI w.1) (nI n.1) = nI (pct w.1 n.1) := by decide +kernel
  exact hh ⟨w, hw⟩ ⟨n, hn⟩
/-- Arrays.fill -/
def g_Ja_fill (h : Nat → Nat → Int32) (q0 : Nat) (x1 : Int32) : Nat → Nat → Int32 := ewS h q0 (fun j => if j < kL q0 then x1 else h q0 j)
def p_Ja_fill (_ : Nat → Nat → Int32) (q0 : Nat) (_ : Int32) : Prop := ewTj q0 9 = true ∧ kL q0 < 1000
theorem s_Ja_fill {X : Nat × (Nat → Int32)} {d : Nat} {Q : Option Value → eS → Prop} {cu sp n1 n2 n3 n4 : Nat} (q0 : Nat) (x1 : Int32) (h : Nat → Nat → Int32) (hp : p_Ja_fill h q0 x1) (z9 : Q none (229, (ewR cu sp n1 n2 n3 n4), g_Ja_fill h q0 x1)) : ewP X Ja_fill (d + 0) 0 [some (.ref q0), some (.int x1), none, none] [] (0, 0) (229, (ewR cu sp n1 n2 n3 n4), h) Q := by
  obtain ⟨h1, h2⟩ := hp
  refine v_Ja_fill_0 q0 x1 h h1 ?_
  refine upto (H := Nat → Nat → Int32) (P := fun i w => w = ewS h q0 (fun j => if j < i then x1 else h q0 j)) (E := fun i w => ewP X Ja_fill (d + 0) 5 [some (.ref q0), some (.int x1), some (.int (nI i)), some (.int (nI (kL q0)))] [] (0, 0) (229, ewR cu sp n1 n2 n3 n4, w) Q) (kL q0) ?_ ?_ 0 h (Nat.zero_le _) ?_
  · intro i w hi hw next
    have hlt : nI i < nI (kL q0) := (nI_ltb (by omega) (by omega)).mpr hi
    refine v_Ja_fill_5 _ _ _ _ w (fun q => absurd hlt q) (fun _ => h1) (fun _ => nI_inB hi (by omega)) (fun _ => ?_)
    rw [← nI_succ, nI_clamp (by omega)]
    refine next _ ?_
    rw [hw, ewS_S, ewS_self]
    congr 1
    funext j
    show (if j = i then x1 else if j < i then x1 else h q0 j) = if j < i + 1 then x1 else h q0 j
    by_cases q : j = i
    · rw [if_pos q, if_pos (by omega)]
    · rw [if_neg q]
      by_cases q2 : j < i
      · rw [if_pos q2, if_pos (by omega)]
      · rw [if_neg q2, if_neg (by omega)]
  · intro w hw
    have hlt : ¬ nI (kL q0) < nI (kL q0) := nI_nlt (Nat.le_refl _) (by omega)
    refine v_Ja_fill_5 _ _ _ _ w (fun _ => ?_) (fun q => absurd q hlt) (fun q => absurd q hlt) (fun q => absurd q hlt)
    rw [hw]; exact z9
  · exact (ewS_id h q0 (by funext j; rw [if_neg (by omega)])).symm
/-- blanks -/
def g_Re_skipBlanks (h : Nat → Nat → Int32) : Nat → Nat → Int32 := ewS h 1 (upd (h 1) 5 (nI (psk (h 2) (h 1 0).toNatClampNeg (h 1 5).toNatClampNeg)))
def p_Re_skipBlanks (h : Nat → Nat → Int32) : Prop := ∃ a n, h 1 5 = nI a ∧ h 1 0 = nI n ∧ a ≤ n ∧ n ≤ 240
theorem s_Re_skipBlanks {X : Nat × (Nat → Int32)} {d : Nat} {Q : Option Value → eS → Prop} {cu sp n1 n2 n3 n4 : Nat} (h : Nat → Nat → Int32) (hp : p_Re_skipBlanks h) (z9 : Q none (229, (ewR cu sp n1 n2 n3 n4), g_Re_skipBlanks h)) : ewP X Re_skipBlanks (d + 0) 0 [some (.ref 1)] [] (0, 0) (229, (ewR cu sp n1 n2 n3 n4), h) Q := by
  obtain ⟨a, n, ha, hn, han, hn2⟩ := hp
  unfold g_Re_skipBlanks at z9
  rw [ha, hn, nI_clamp (by omega), nI_clamp (by omega)] at z9
  have key : ∀ t i w, i + t = n → w = ewS h 1 (upd (h 1) 5 (nI i)) → psk (h 2) n i = psk (h 2) n a → ewP X Re_skipBlanks (d + 0) 0 [some (.ref 1)] [] (0, 0) (229, (ewR cu sp n1 n2 n3 n4), w) Q := by
    intro t
    induction t with
    | zero =>
      intro i w hi hw hq
      have e5 : w 1 5 = nI i := by rw [hw]; rfl
      have e0 : w 1 0 = nI n := by rw [hw]; exact hn
      have hlt : ¬ w 1 5 < w 1 0 := by rw [e5, e0]; exact nI_nlt (by omega) (by omega)
      refine v_Re_skipBlanks_0 w (fun _ => ?_) (fun q => absurd q hlt) (fun q => absurd q hlt) (fun q => absurd q hlt)
      rw [hw]
      rw [← hq, psk_at (by omega)] at z9
      exact z9
    | succ t ih =>
      intro i w hi hw hq
      have e5 : w 1 5 = nI i := by rw [hw]; rfl
      have e0 : w 1 0 = nI n := by rw [hw]; exact hn
      have e2 : w 2 = h 2 := by rw [hw]; rfl
      have hlt : w 1 5 < w 1 0 := by rw [e5, e0]; exact (nI_ltb (by omega) (by omega)).mpr (by omega)
      refine v_Re_skipBlanks_0 w (fun q => absurd hlt q) (fun _ => ?_) (fun _ q => ?_) (fun _ q => ?_)
      · rw [e5]; exact nI_inB (by omega) (by decide)
      · rw [e5, e2, nI_clamp (by omega)] at q
        rw [← hq, psk_at (fun z => q z.2)] at z9
        rw [hw]; exact z9
      · rw [e5, e2, nI_clamp (by omega)] at q
        refine ih (i + 1) _ (by omega) ?_ (by rw [← hq, psk_go (by omega) q])
        rw [hw, ewS_S, ewS_self, upd_S]
        congr 2
        rw [nI_succ]
        rfl
  exact key (n - a) a h (by omega) (ewS_id h 1 (upd_id _ _ ha).symm).symm rfl
/-- sets of bits -/
def msk (f : Nat → Bool) : Nat → Nat
  | 0 => 0
  | k + 1 => msk f k + if f k = true then 2 ^ k else 0
theorem msk_lt (f : Nat → Bool) : ∀ k, msk f k < 2 ^ k
  | 0 => Nat.one_pos
  | k + 1 => by
    have := msk_lt f k
    unfold msk
    rw [Nat.pow_succ]
    split <;> omega
theorem msk_cg {f g : Nat → Bool} : ∀ k, (∀ i, i < k → f i = g i) → msk f k = msk g k
  | 0, _ => rfl
  | k + 1, h => by
    unfold msk
    rw [msk_cg k (fun i hi => h i (by omega)), h k (by omega)]
theorem msk_bit (f : Nat → Bool) : ∀ k j, (msk f k).testBit j = (decide (j < k) && f j)
  | 0, j => by simp [msk]
  | k + 1, j => by
    unfold msk
    have lt := msk_lt f k
    by_cases q : f k = true
    · rw [if_pos q, Nat.add_comm]
      by_cases e : j = k
      · subst e
        rw [Nat.testBit_two_pow_add_eq, Nat.testBit_lt_two_pow lt]
        simp [q]
      · by_cases l : j < k
        · rw [Nat.testBit_two_pow_add_gt l, msk_bit f k j]
          simp [l, show j < k + 1 by omega]
        · have h2 : 2 ^ k + msk f k < 2 ^ j := Nat.lt_of_lt_of_le (show _ < 2 ^ (k + 1) by rw [Nat.pow_succ]; omega) (Nat.pow_le_pow_right (by omega) (by omega))
          rw [Nat.testBit_lt_two_pow h2]
          simp [show ¬ j < k + 1 by omega]
    · rw [if_neg q, Nat.add_zero, msk_bit f k j]
      by_cases e : j = k
      · subst e; simp [q]
      · by_cases l : j < k
        · simp [l, show j < k + 1 by omega]
        · simp [l, show ¬ j < k + 1 by omega]
theorem has_n {x j : Nat} (hx : x < 256) (hj : j < 8) : f_Ew_has (nI x) (nI j) ↔ x.testBit j = true := by
  have hh : ∀ (x : Fin 256) (j : Fin 8), f_Ew_has (nI x.1) (nI j.1) ↔ x.1.testBit j.1 = true := by decide +kernel
  exact hh ⟨x, hx⟩ ⟨j, hj⟩
theorem has_m {f : Nat → Bool} {j : Nat} (hj : j < 8) : f_Ew_has (nI (msk f 8)) (nI j) ↔ f j = true := by
  rw [has_n (msk_lt f 8) hj, msk_bit]
  simp [hj]
theorem or_nI (a b : Nat) : nI a ||| nI b = nI (a ||| b) := by
  apply Int32.toBitVec_inj.mp
  show BitVec.ofNat 32 a ||| BitVec.ofNat 32 b = BitVec.ofNat 32 (a ||| b)
  apply BitVec.eq_of_toNat_eq
  simp [Nat.or_mod_two_pow]
theorem msk_or (f g : Nat → Bool) : msk f 8 ||| msk g 8 = msk (fun i => f i || g i) 8 := by
  apply Nat.eq_of_testBit_eq
  intro j
  rw [Nat.testBit_or, msk_bit, msk_bit, msk_bit]
  cases decide (j < 8) <;> rfl
theorem shl_n {j : Nat} (hj : j < 8) : (1 : Int32) <<< ((nI j : Int32) &&& 31) = nI (2 ^ j) := by
  have hh : ∀ j : Fin 8, (1 : Int32) <<< ((nI j.1 : Int32) &&& 31) = nI (2 ^ j.1) := by decide +kernel
  exact hh ⟨j, hj⟩
theorem msk_one {j : Nat} (hj : j < 8) : 2 ^ j = msk (fun i => decide (i = j)) 8 := by
  apply Nat.eq_of_testBit_eq
  intro i
  rw [Nat.testBit_two_pow, msk_bit]
  by_cases q : i = j
  · subst q; simp [hj]
  · have q2 : ¬ j = i := fun z => q z.symm
    simp [q, q2]
theorem shl_m {j : Nat} (hj : j < 8) : (1 : Int32) <<< ((nI j : Int32) &&& 31) = nI (msk (fun i => decide (i = j)) 8) := by
  rw [shl_n hj, msk_one hj]
theorem or_m (f g : Nat → Bool) : nI (msk f 8) ||| nI (msk g 8) = nI (msk (fun i => f i || g i) 8) := by
  rw [or_nI, msk_or]
/-- true directions -/
theorem mabs_eq (x : Int32) : mabs x = if x < 0 then -x else x := by
  unfold mabs
  by_cases q : x < 0
  · rw [if_pos q, if_neg (by rw [Int32.le_iff_toInt_le]; rw [Int32.lt_iff_toInt_lt] at q; omega)]
    exact Int32.zero_sub x
  · rw [if_neg q, if_pos (by rw [Int32.le_iff_toInt_le]; rw [Int32.lt_iff_toInt_lt] at q; omega)]
theorem td_n {dx dy : Int32} (h1 : ¬ mabs dx < 0) (h2 : ¬ mabs dy < 0) : f_Ew_trueDirection dx dy = ptd dx dy := by
  unfold f_Ew_trueDirection ptd
  rw [← mabs_eq, ← mabs_eq]
  generalize mabs dx = W at *
  generalize mabs dy = H at *
  have e1 : mmin W H = if H < W then H else W := rfl
  have e2 : mmax W H = if H < W then W else H := by
    unfold mmax
    simp only [Int32.lt_iff_toInt_lt] at *
    by_cases a : W.toInt < H.toInt
    · rw [if_pos a, if_neg (by omega)]
    · rw [if_neg a]
      by_cases b : H.toInt < W.toInt
      · rw [if_pos b]
      · rw [if_neg b]
        exact Int32.toInt_inj.mp (by omega)
  rw [e1, e2]
  have e3 : ((if H < W then W else H) = 0) ↔ (W = 0 ∧ H = 0) := by
    have z0 : (0 : Int32).toInt = 0 := by decide
    simp only [Int32.lt_iff_toInt_lt, ← Int32.toInt_inj, z0] at *
    split
    · rename_i q
      constructor
      · intro z; omega
      · intro z; omega
    · rename_i q
      constructor
      · intro z; omega
      · intro z; omega
  by_cases q1 : W = 0
  · by_cases q2 : H = 0
    · rw [if_pos q1, if_pos q2, if_pos (e3.mpr ⟨q1, q2⟩)]
    · rw [if_pos q1, if_neg q2, if_neg (fun z => q2 (e3.mp z).2)]
      repeat' split
      all_goals first | rfl | contradiction
  · rw [if_neg q1, if_neg (fun z => q1 (e3.mp z).1)]
    repeat' split
    all_goals first | rfl | contradiction
theorem mabs_d {a b : Nat} (ha : a < 100) (hb : b < 100) : ¬ mabs (nI a - nI b) < 0 := by
  have hh : ∀ (a b : Fin 100), ¬ mabs (nI a.1 - nI b.1) < 0 := by decide +kernel
  exact hh ⟨a, ha⟩ ⟨b, hb⟩
