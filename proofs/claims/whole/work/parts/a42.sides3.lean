/-! the class's Sides: sets of pairs, countPartings, goOn -/
theorem xor_nI (a b : Nat) : nI a ^^^ nI b = nI (a ^^^ b) := by
  apply Int32.toBitVec_inj.mp
  show BitVec.ofNat 32 a ^^^ BitVec.ofNat 32 b = BitVec.ofNat 32 (a ^^^ b)
  apply BitVec.eq_of_toNat_eq
  simp [Nat.xor_mod_two_pow]
theorem and_nI (a b : Nat) : nI a &&& nI b = nI (a &&& b) := by
  apply Int32.toBitVec_inj.mp
  show BitVec.ofNat 32 a &&& BitVec.ofNat 32 b = BitVec.ofNat 32 (a &&& b)
  apply BitVec.eq_of_toNat_eq
  simp [Nat.and_mod_two_pow]
theorem bits3 (f : Nat → Bool) : ewSv 5 (msk f 3) = nI (sm (fun p => b1 (f p)) 3) := by
  have key : ∀ a b c : Bool, ewSv 5 (((0 + if a = true then 2 ^ 0 else 0) + if b = true then 2 ^ 1 else 0) + if c = true then 2 ^ 2 else 0) = nI (((0 + b1 a) + b1 b) + b1 c) := by decide +kernel
  exact key (f 0) (f 1) (f 2)
theorem psd_m {i : Nat} (hi : i < 6) : ewSv 4 i = nI (psd i) ∧ psd i < 8 := by
  have hh : ∀ i : Fin 6, ewSv 4 i.1 = nI (psd i.1) ∧ psd i.1 < 8 := by decide +kernel
  exact hh ⟨i, hi⟩
theorem msk3_ext {x : Nat} {f : Nat → Bool} (hx : x < 8) (h : ∀ p, p < 3 → x.testBit p = f p) : x = msk f 3 := by
  apply Nat.eq_of_testBit_eq
  intro p
  rw [msk_bit]
  by_cases q : p < 3
  · rw [decide_eq_true q, Bool.true_and]; exact h p q
  · rw [decide_eq_false q, Bool.false_and]
    exact Nat.testBit_lt_two_pow (Nat.lt_of_lt_of_le hx (show 2 ^ 3 ≤ 2 ^ p from Nat.pow_le_pow_right (by omega) (by omega)))
theorem pair_x {i j : Nat} {f g : Nat → Bool} (hi : i < 6) (hj : j < 6) : ((ewSv 4 i ^^^ ewSv 4 j) ^^^ nI (msk (fun p => f p && g p) 3)) &&& nI (msk f 3) = nI (msk (fun p => f p && ((sdb i p != sdb j p) != g p)) 3) := by
  rw [(psd_m hi).1, (psd_m hj).1, xor_nI, xor_nI, and_nI]
  congr 1
  refine msk3_ext (Nat.lt_of_le_of_lt Nat.and_le_right (msk_lt f 3)) (fun p hp => ?_)
  rw [Nat.testBit_and, Nat.testBit_xor, Nat.testBit_xor, msk_bit, msk_bit, decide_eq_true hp]
  unfold sdb
  cases (psd i).testBit p <;> cases (psd j).testBit p <;> cases f p <;> cases g p <;> rfl
theorem part_x {i : Nat} {f g : Nat → Bool} (hi : i < 6) : (ewSv 4 i ^^^ (nI (msk (fun p => f p && g p) 3) ^^^ (-1))) &&& nI (msk f 3) = nI (msk (fun p => f p && (sdb i p == g p)) 3) := by
  have hh : ∀ a b c : Fin 8, (nI a.1 ^^^ (nI b.1 ^^^ (-1))) &&& nI c.1 = nI (((a.1 ^^^ b.1) ^^^ 7) &&& c.1) := by decide +kernel
  rw [(psd_m hi).1, hh ⟨psd i, (psd_m hi).2⟩ ⟨_, msk_lt _ 3⟩ ⟨_, msk_lt _ 3⟩]
  congr 1
  refine msk3_ext (Nat.lt_of_le_of_lt Nat.and_le_right (msk_lt f 3)) (fun p hp => ?_)
  dsimp only
  rw [Nat.testBit_and, Nat.testBit_xor, Nat.testBit_xor, msk_bit, msk_bit, decide_eq_true hp]
  have t7 : (7 : Nat).testBit p = true := by
    rcases (show p = 0 ∨ p = 1 ∨ p = 2 by omega) with rfl | rfl | rfl <;> rfl
  rw [t7]
  unfold sdb
  cases (psd i).testBit p <;> cases f p <;> cases g p <;> rfl
section CS
variable (A B dv : Nat → Nat) (n m k : Nat) (F T : Nat → Nat) (o1 o2 : Nat → Nat)
/-- what lookAtStations has laid out -/
def cSs (h : Nat → Nat → Int32) : Prop :=
  (∀ e, e < m → (h 177 (2 * e) = nI (msk (fun p => xH A B m k F T (A e) p e) 3) ∧ h 178 (2 * e) = nI (msk (fun p => xH A B m k F T (A e) p e && (xL A B dv m F T (A e) p e == true)) 3)) ∧ h 177 (2 * e + 1) = nI (msk (fun p => xH A B m k F T (B e) p e) 3) ∧ h 178 (2 * e + 1) = nI (msk (fun p => xH A B m k F T (B e) p e && (xL A B dv m F T (B e) p e == false)) 3)) ∧
  (∀ s, s < n → h 180 s = nI (msk (fun p => xP A B m k F T s p) 3) ∧ h 181 s = nI (msk (fun p => xP A B m k F T s p && xS A B m F T s p) 3)) ∧
  sOO A B m k F T n o1 o2 ∧ ∀ s, s < n → spd A B m k F T s = true → h 182 s = nI (o1 s) ∧ h 183 s = nI (o2 s)
end CS
section SIDES3
variable {X : Nat × (Nat → Int32)} {d : Nat} {cu sp n2 n3 : Nat} {A B dv : Nat → Nat} {n m k : Nat} {F T : Nat → Nat} {o1 o2 : Nat → Nat}
theorem cSs.fr {h h' : Nat → Nat → Int32} (c : cSs A B dv n m k F T o1 o2 h) (f : ∀ q, 177 ≤ q → q ≤ 183 → q ≠ 179 → h' q = h q) : cSs A B dv n m k F T o1 o2 h' := by
  unfold cSs
  rw [f 177 (by omega) (by omega) (by omega), f 178 (by omega) (by omega) (by omega), f 180 (by omega) (by omega) (by omega), f 181 (by omega) (by omega) (by omega), f 182 (by omega) (by omega) (by omega), f 183 (by omega) (by omega) (by omega)]
  exact c
theorem cSd_all {h : Nat → Nat → Int32} (ok : cOK n m A B k F T) (h9 : m ≤ 90) (c : cSd A B dv n m k F T (fun _ p => decide (pq1 p < k)) h) : cSs A B dv n m k F T (fun s => (h 182 s).toNatClampNeg) (fun s => (h 183 s).toNatClampNeg) h := by
  obtain ⟨c1, c2, c3⟩ := c
  have zP : ∀ s p, (decide (pq1 p < k) && xP A B m k F T s p) = xP A B m k F T s p := fun s p => by
    by_cases q : xP A B m k F T s p = true
    · rw [q, decide_eq_true (xP_iff.mp q).1.1]; rfl
    · rw [Bool.not_eq_true] at q; rw [q, Bool.and_false]
  have zH : ∀ s p e, (decide (pq1 p < k) && xH A B m k F T s p e) = xH A B m k F T s p e := fun s p e => by
    by_cases q : xH A B m k F T s p e = true
    · rw [q, decide_eq_true (xH_iff.mp q).1.1]; rfl
    · rw [Bool.not_eq_true] at q; rw [q, Bool.and_false]
  refine ⟨fun e he => ?_, fun s hs => ?_, fun s p hs hp hx => ?_, fun s hs hx => ?_⟩
  · obtain ⟨d1, d2, d3, d4⟩ := c1 e he
    simp only [zH, ← Bool.and_assoc] at d1 d2 d3 d4
    exact ⟨⟨d1, d3⟩, d2, d4⟩
  · obtain ⟨d1, d2⟩ := c2 s hs
    simp only [zP, ← Bool.and_assoc] at d1 d2
    exact ⟨d1, d2⟩
  · have pl := pq_lt hp
    have th := (xP_iff.mp hx).1
    obtain ⟨⟨a1, -⟩, ⟨b1, -⟩, -⟩ := thr_at ok h9 (show pq0 p < k by have := th.1; omega) th.2.1
    rcases c3 s p hs hp (decide_eq_true th.1) hx with ⟨q1, q2⟩ | ⟨q1, q2⟩
    · left; dsimp only; rw [q1, q2, nI_clamp (by omega), nI_clamp (by omega)]; exact ⟨rfl, rfl⟩
    · right; dsimp only; rw [q1, q2, nI_clamp (by omega), nI_clamp (by omega)]; exact ⟨rfl, rfl⟩
  · obtain ⟨p, hp, hx⟩ := spd_iff.mp hx
    have pl := pq_lt hp
    have th := (xP_iff.mp hx).1
    obtain ⟨⟨a1, -⟩, ⟨b1, -⟩, -⟩ := thr_at ok h9 (show pq0 p < k by have := th.1; omega) th.2.1
    rcases c3 s p hs hp (decide_eq_true th.1) hx with ⟨q1, q2⟩ | ⟨q1, q2⟩
    · dsimp only; rw [q1, q2, nI_clamp (by omega), nI_clamp (by omega)]; exact ⟨rfl, rfl⟩
    · dsimp only; rw [q1, q2, nI_clamp (by omega), nI_clamp (by omega)]; exact ⟨rfl, rfl⟩
/-- pairs that part on e and cross, by its ranking -/
theorem pcd_n {h : Nat → Nat → Int32} (c : cSs A B dv n m k F T o1 o2 h) (h7 : m ≤ 7) {e i : Nat} (he : e < m) (hi : i < 6) : (p_Si_partingCrossed (2 * nI e) (nI i) ∧ f_Si_partingCrossed h (2 * nI e) (nI i) = nI (msk (fun p => xH A B m k F T (A e) p e && ((sdb i p != true) != xL A B dv m F T (A e) p e)) 3)) ∧ p_Si_partingCrossed (2 * nI e + 1) (nI i) ∧ f_Si_partingCrossed h (2 * nI e + 1) (nI i) = nI (msk (fun p => xH A B m k F T (B e) p e && ((sdb i p != false) != xL A B dv m F T (B e) p e)) 3) := by
  obtain ⟨⟨d1, d2⟩, d3, d4⟩ := c.1 e he
  have m2 : (2 : Int32) * nI e = nI (2 * e) := nI_mu 2 e
  have ci : (nI i).toNatClampNeg = i := nI_clamp (by omega)
  refine ⟨⟨⟨nI_inB hi (by decide), by rw [m2]; exact nI_inB (by omega) (by decide)⟩, ?_⟩, ⟨nI_inB hi (by decide), by rw [m2, ← nI_succ]; exact nI_inB (by omega) (by decide)⟩, ?_⟩
  · unfold f_Si_partingCrossed
    rw [m2, ci, nI_clamp (by omega), d1, d2, part_x hi]
    congr 1
    refine msk_cg 3 (fun p _ => ?_)
    cases xH A B m k F T (A e) p e <;> cases sdb i p <;> cases xL A B dv m F T (A e) p e <;> rfl
  · unfold f_Si_partingCrossed
    rw [m2, ← nI_succ, ci, nI_clamp (by omega), d3, d4, part_x hi]
    congr 1
    refine msk_cg 3 (fun p _ => ?_)
    cases xH A B m k F T (B e) p e <;> cases sdb i p <;> cases xL A B dv m F T (B e) p e <;> rfl
theorem m3_in (f : Nat → Bool) : vp_in (nI (msk f 3)) 8 ∧ (nI (msk f 3)).toNatClampNeg = msk f 3 := by
  have := msk_lt f 3
  exact ⟨nI_inB (by omega) (by decide), nI_clamp (by omega)⟩
def cPc (A B dv : Nat → Nat) (m k : Nat) (F T : Nat → Nat) (h : Nat → Nat → Int32) : Prop := ∀ e i, e < m → i < 6 → h 179 (6 * e + i) = nI (sP A B dv m k F T e i)
theorem countPartings_n {h : Nat → Nat → Int32} (hN : cNt h n m A B k F T) (c : cSs A B dv n m k F T o1 o2 h) : ewP X Si_countPartings (d + 1) 0 [some (.ref 174), none, none] [] (0, 0) (229, ewR cu sp 3 n2 n3 3, h) (fun v S' => ∃ (h' : Nat → Nat → Int32), ((∀ q, q ≠ 179 → h' q = h q) ∧ cPc A B dv m k F T h') ∧ v = none ∧ S' = (229, ewR cu sp 3 n2 n3 3, h')) := by
  have h7 := hN.2.1.2.1
  refine v_Si_countPartings_0 h ?_
  refine upto (H := Nat → Nat → Int32) (P := fun e w => (∀ q, q ≠ 179 → w q = h q) ∧ ∀ e' i, e' < e → i < 6 → w 179 (6 * e' + i) = nI (sP A B dv m k F T e' i)) (E := fun e w => ewP X Si_countPartings (d + 1) 2 [some (.ref 174), some (.int (nI e)), none] [] (0, 0) (229, ewR cu sp 3 n2 n3 3, w) _) m ?_ ?_ 0 h (by omega) ⟨fun _ _ => rfl, fun e' i h' => by omega⟩
  · rintro e w he ⟨w1, w2⟩ next
    have hlt : nI e < w 3 1 := by rw [w1 3 (by decide), hN.2.1.1]; exact (nI_ltb (by omega) (by omega)).mpr he
    refine v_Si_countPartings_2 _ w (fun q => absurd hlt q) (fun _ => ?_)
    refine upto (H := Nat → Nat → Int32) (P := fun i v => (∀ q, q ≠ 179 → v q = h q) ∧ (∀ e' i, e' < e → i < 6 → v 179 (6 * e' + i) = nI (sP A B dv m k F T e' i)) ∧ ∀ i', i' < i → v 179 (6 * e + i') = nI (sP A B dv m k F T e i')) (E := fun i v => ewP X Si_countPartings (d + 1) 15 [some (.ref 174), some (.int (nI e)), some (.int (nI i))] [] (0, 0) (229, ewR cu sp 3 n2 n3 3, v) _) 6 ?_ ?_ 0 w (by omega) ⟨w1, w2, fun i' h' => by omega⟩
    · rintro i v hi ⟨v1, v2, v3⟩ next2
      have hlt6 : nI i < 6 := (nI_ltb (b := 6) (by omega) (by omega)).mpr hi
      have cv : cSs A B dv n m k F T o1 o2 v := c.fr (fun q _ _ q3 => v1 q q3)
      obtain ⟨⟨p1, p2⟩, p3, p4⟩ := pcd_n cv h7 he hi
      have i6 : nI e * 6 + nI i = nI (6 * e + i) := by rw [show (nI e : Int32) * 6 = nI (e * 6) from nI_mu e 6, nI_ad, Nat.mul_comm]
      refine v_Si_countPartings_15 _ _ v (fun q => absurd hlt6 q) (fun _ => p1) (fun _ => by rw [p2]; exact (m3_in _).1) (fun _ => p3) (fun _ => by rw [p4]; exact (m3_in _).1) (fun _ => by rw [i6]; exact nI_inB (by omega) (by decide)) (fun _ => ?_)
      rw [p2, p4, (m3_in _).2, (m3_in _).2, bits3, bits3, nI_ad, i6, nI_clamp (by omega), ← nI_succ, ← sm_add]
      refine next2 _ ⟨fun q hq => (ewS_ne _ _ hq).trans (v1 q hq), fun e' i' he' hi' => ?_, fun i' hi' => ?_⟩
      · rw [ewS_self]
        show (if 6 * e' + i' = 6 * e + i then _ else v 179 (6 * e' + i')) = _
        rw [if_neg (by omega)]; exact v2 e' i' he' hi'
      · rw [ewS_self]
        show (if 6 * e + i' = 6 * e + i then _ else v 179 (6 * e + i')) = _
        by_cases q : i' = i
        · rw [if_pos (by omega), q]; rfl
        · rw [if_neg (by omega)]; exact v3 i' (by omega)
    · rintro v ⟨v1, v2, v3⟩
      have hlt6 : ¬ nI 6 < 6 := by decide
      refine v_Si_countPartings_15 _ _ v (fun _ => ?_) (fun q => absurd q hlt6) (fun q => absurd q hlt6) (fun q => absurd q hlt6) (fun q => absurd q hlt6) (fun q => absurd q hlt6) (fun q => absurd q hlt6)
      rw [← nI_succ]
      refine next v ⟨v1, fun e' i he' hi => ?_⟩
      by_cases q : e' = e
      · rw [q]; exact v3 i hi
      · exact v2 e' i (by omega) hi
  · rintro w ⟨w1, w2⟩
    have hlt : ¬ nI m < w 3 1 := by rw [w1 3 (by decide), hN.2.1.1]; exact nI_nlt (Nat.le_refl _) (by omega)
    exact v_Si_countPartings_2 _ w (fun _ => ⟨w, ⟨w1, w2⟩, rfl, rfl⟩) (fun q => absurd q hlt)
/-- rankings as they stand: 6 for none -/
def cRk (m : Nat) (rk : Nat → Nat) (h : Nat → Nat → Int32) : Prop := ∀ e, e < m → rk e ≤ 6 ∧ h 175 e = if rk e = 6 then -1 else nI (rk e)
theorem cRk.at {rk : Nat → Nat} {h : Nat → Nat → Int32} (c : cRk m rk h) {e i : Nat} (he : e < m) (hi : i < 6) : ((h 175 e = -1) ↔ rk e = 6) ∧ ((h 175 e = nI i) ↔ rk e = i) := by
  obtain ⟨c1, c2⟩ := c e he
  rw [c2]
  by_cases q : rk e = 6
  · rw [if_pos q]
    exact ⟨⟨fun _ => q, fun _ => rfl⟩, ⟨fun z => absurd z.symm (nI_m1 (by omega)), fun z => by omega⟩⟩
  · rw [if_neg q]
    exact ⟨⟨fun z => absurd z (nI_m1 (by omega)), fun z => absurd z q⟩, nI_eq (by omega) (by omega)⟩
/-- the least way on -/
def gmn (A B : Nat → Nat) (m k : Nat) (F T : Nat → Nat) (D : Nat → Nat) (s i : Nat) : Nat → Nat
  | 0 => 1000000
  | j + 1 => if D j + sX A B m k F T s i j < gmn A B m k F T D s i j then D j + sX A B m k F T s i j else gmn A B m k F T D s i j
theorem gmn_le {D : Nat → Nat} {s i : Nat} : ∀ t, gmn A B m k F T D s i t ≤ 1000000 ∧ (∀ j, j < t → gmn A B m k F T D s i t ≤ D j + sX A B m k F T s i j) ∧ (gmn A B m k F T D s i t = 1000000 ∨ ∃ j, j < t ∧ gmn A B m k F T D s i t = D j + sX A B m k F T s i j)
  | 0 => ⟨Nat.le_refl _, fun j hj => by omega, Or.inl rfl⟩
  | t + 1 => by
    obtain ⟨h1, h2, h3⟩ := gmn_le (D := D) (s := s) (i := i) t
    unfold gmn
    split
    · rename_i q
      refine ⟨by omega, fun j hj => ?_, Or.inr ⟨t, by omega, rfl⟩⟩
      by_cases y : j = t
      · rw [y]; exact Nat.le_refl _
      · have := h2 j (by omega); omega
    · rename_i q
      refine ⟨h1, fun j hj => ?_, h3.imp id (fun ⟨j, hj, e⟩ => ⟨j, by omega, e⟩)⟩
      by_cases y : j = t
      · rw [y]; omega
      · exact h2 j (by omega)
theorem sX_le (s i j : Nat) : sX A B m k F T s i j ≤ 3 := by
  have := sm_le (f := fun p => b1 (xP A B m k F T s p && ((sdb i p != sdb j p) != xS A B m F T s p))) (C := 1) (fun p => by unfold b1; split <;> omega) 3
  exact this
theorem sP_le (e i : Nat) : sP A B dv m k F T e i ≤ 6 := by
  have := sm_le (f := fun p => b1 (xH A B m k F T (A e) p e && ((sdb i p != true) != xL A B dv m F T (A e) p e)) + b1 (xH A B m k F T (B e) p e && ((sdb i p != false) != xL A B dv m F T (B e) p e))) (C := 2) (fun p => by unfold b1; split <;> split <;> omega) 3
  exact this
theorem mmin_n {a b : Nat} (ha : a < 2 ^ 31) (hb : b < 2 ^ 31) : mmin (nI a) (nI b) = nI (if b < a then b else a) := by
  unfold mmin
  exact nI_ite b a hb ha
def gnx (A B dv : Nat → Nat) (m k : Nat) (F T : Nat → Nat) (rk D : Nat → Nat) (s f i : Nat) : Nat := if rk f = 6 ∨ rk f = i then gmn A B m k F T D s i 6 + sP A B dv m k F T f i else 1000000
set_option maxHeartbeats 1000000 in
theorem goOn_n {h : Nat → Nat → Int32} {rk D : Nat → Nat} (hN : cNt h n m A B k F T) (c : cSs A B dv n m k F T o1 o2 h) (hP : cPc A B dv m k F T h) (hR : cRk m rk h) (hD : ∀ i, i < 6 → h 184 i = nI (D i) ∧ D i ≤ 2000000) {s f : Nat} (hs : s < n) (hf : f < m) : ewP X Si_goOn (d + 1) 0 [some (.ref 174), some (.int (nI s)), some (.int (nI f)), none, none, none, none, none] [] (0, 0) (229, ewR cu sp 3 n2 n3 3, h) (fun v S' => ∃ (h' : Nat → Nat → Int32), ((∀ q, q ≠ 184 → q ≠ 185 → h' q = h q) ∧ ∀ i, i < 6 → h' 184 i = nI (gnx A B dv m k F T rk D s f i)) ∧ v = none ∧ S' = (229, ewR cu sp 3 n2 n3 3, h')) := by
  have h7 := hN.2.1.2.1
  have h8 := hN.1.2.1
  have cs : (nI s).toNatClampNeg = s := nI_clamp (by omega)
  have cf : (nI f).toNatClampNeg = f := nI_clamp (by omega)
  obtain ⟨p0, p1⟩ := c.2.1 s hs
  refine v_Si_goOn_0 _ _ h ?_
  refine upto (H := Nat → Nat → Int32) (P := fun i w => (∀ q, q ≠ 185 → w q = h q) ∧ ∀ i', i' < i → w 185 i' = nI (gnx A B dv m k F T rk D s f i')) (E := fun i w => ewP X Si_goOn (d + 1) 2 [some (.ref 174), some (.int (nI s)), some (.int (nI f)), some (.int (nI i)), none, none, none, none] [] (0, 0) (229, ewR cu sp 3 n2 n3 3, w) _) 6 ?_ ?_ 0 h (by omega) ⟨fun _ _ => rfl, fun i' h' => by omega⟩
  · rintro i w hi ⟨w1, w2⟩ next
    have hlt : nI i < 6 := (nI_ltb (b := 6) (by omega) (by omega)).mpr hi
    have ci : (nI i).toNatClampNeg = i := nI_clamp (by omega)
    have i6 : nI f * 6 + nI i = nI (6 * f + i) := by rw [show (nI f : Int32) * 6 = nI (f * 6) from nI_mu f 6, nI_ad, Nat.mul_comm]
    obtain ⟨m1, m2⟩ := hR.at hf hi
    have may : ((w 175 (nI f).toNatClampNeg = -1) ∨ (w 175 (nI f).toNatClampNeg = nI i)) ↔ (rk f = 6 ∨ rk f = i) := by
      rw [cf, w1 175 (by decide), m1, m2]
    refine v_Si_goOn_2 _ _ _ w (fun q => absurd hlt q) (fun _ => nI_inB (by omega) (by decide)) (fun _ => ?_)
    have fin : ∀ w', w' = ewS w 185 (upd (w 185) i (nI (gnx A B dv m k F T rk D s f i))) → ewP X Si_goOn (d + 1) 2 [some (.ref 174), some (.int (nI s)), some (.int (nI f)), some (.int (nI (i + 1))), none, none, none, none] [] (0, 0) (229, ewR cu sp 3 n2 n3 3, w') (fun v S' => ∃ (h' : Nat → Nat → Int32), ((∀ q, q ≠ 184 → q ≠ 185 → h' q = h q) ∧ ∀ i, i < 6 → h' 184 i = nI (gnx A B dv m k F T rk D s f i)) ∧ v = none ∧ S' = (229, ewR cu sp 3 n2 n3 3, h')) := fun w' hw' => next w' ⟨fun q hq => by rw [hw', ewS_ne _ _ hq]; exact w1 q hq, fun i' hi' => by
      rw [hw', ewS_self]
      show (if i' = i then _ else w 185 i') = _
      by_cases q : i' = i
      · rw [if_pos q, q]
      · rw [if_neg q]; exact w2 i' (by omega)⟩
    by_cases mb : rk f = 6 ∨ rk f = i
    · rw [if_pos (may.mpr mb)]
      refine upto (H := Unit) (P := fun _ _ => True) (E := fun j _ => ewP X Si_goOn (d + 1) 42 [some (.ref 174), some (.int (nI s)), some (.int (nI f)), some (.int (nI i)), some (.int 1), some (.int (nI (gmn A B m k F T D s i j))), some (.int (nI j)), none] [] (0, 0) (229, ewR cu sp 3 n2 n3 3, w) _) 6 ?_ ?_ 0 () (by omega) trivial
      · intro j _ hj _ next2
        have hltj : nI j < 6 := (nI_ltb (b := 6) (by omega) (by omega)).mpr hj
        have cj : (nI j).toNatClampNeg = j := nI_clamp (by omega)
        have n1 : ¬ (1 : Int32) = 0 := by decide
        have ex : ((ewSv 4 (nI i).toNatClampNeg ^^^ ewSv 4 (nI j).toNatClampNeg) ^^^ w 181 (nI s).toNatClampNeg) &&& w 180 (nI s).toNatClampNeg = nI (msk (fun p => xP A B m k F T s p && ((sdb i p != sdb j p) != xS A B m F T s p)) 3) := by
          rw [ci, cj, cs, w1 181 (by decide), w1 180 (by decide), p0, p1]
          exact pair_x hi hj
        refine v_Si_goOn_42 _ _ _ _ _ _ w (fun q => absurd hltj q) (fun q => absurd hltj q) (fun q => absurd hltj q) (fun _ q => absurd q n1) (fun _ q => absurd q n1) (fun _ _ => nI_inB hi (by decide)) (fun _ _ => nI_inB hj (by decide)) (fun _ _ => nI_inB (by omega) (by decide)) (fun _ _ => by rw [ex]; exact (m3_in _).1) (fun _ _ => ?_)
        have g6 := (gmn_le (A := A) (B := B) (m := m) (k := k) (F := F) (T := T) (D := D) (s := s) (i := i) j).1
        have xl := sX_le (A := A) (B := B) (m := m) (k := k) (F := F) (T := T) s i j
        rw [ex, (m3_in _).2, bits3, cj, w1 184 (by decide), (hD j hj).1, nI_ad, ← nI_succ]
        have : sm (fun p => b1 (xP A B m k F T s p && ((sdb i p != sdb j p) != xS A B m F T s p))) 3 = sX A B m k F T s i j := rfl
        rw [this, mmin_n (by omega) (by have := (hD j hj).2; omega)]
        exact next2 () trivial
      · intro _ _
        have hltj : ¬ nI 6 < 6 := by decide
        have n1 : ¬ (1 : Int32) = 0 := by decide
        refine v_Si_goOn_42 _ _ _ _ _ _ w (fun _ _ => by rw [i6]; exact nI_inB (by omega) (by decide)) (fun _ => nI_inB hi (by decide)) (fun _ => ?_) (fun q => absurd q hltj) (fun q => absurd q hltj) (fun q => absurd q hltj) (fun q => absurd q hltj) (fun q => absurd q hltj) (fun q => absurd q hltj) (fun q => absurd q hltj)
        rw [if_neg n1, i6, ci, nI_clamp (show 6 * f + i < 2 ^ 31 by omega), w1 179 (by decide), hP f i hf hi, nI_ad, ← nI_succ]
        refine fin _ ?_
        unfold gnx
        rw [if_pos mb]
    · rw [if_neg (fun z => mb (may.mp z))]
      have hlt0 : (0 : Int32) < 6 := by decide
      refine v_Si_goOn_42 _ _ _ _ _ _ w (fun q => absurd hlt0 q) (fun q => absurd hlt0 q) (fun q => absurd hlt0 q) (fun _ _ => nI_inB hi (by decide)) (fun _ _ => ?_) (fun _ q => absurd rfl q) (fun _ q => absurd rfl q) (fun _ q => absurd rfl q) (fun _ q => absurd rfl q) (fun _ q => absurd rfl q)
      rw [ci, ← nI_succ]
      refine fin _ ?_
      unfold gnx
      rw [if_neg mb]
      rfl
  · rintro w ⟨w1, w2⟩
    have hlt : ¬ nI 6 < 6 := by decide
    refine v_Si_goOn_2 _ _ _ w (fun _ => ⟨_, ⟨fun q q1 q2 => (ewS_ne _ _ q1).trans (w1 q q2), fun i hi => ?_⟩, rfl, rfl⟩) (fun q => absurd q hlt) (fun q => absurd q hlt)
    rw [ewS_self, cpy_n _ _ hi]; exact w2 i hi
end SIDES3
