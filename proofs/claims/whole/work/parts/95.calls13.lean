/-! lots; the reference's calls: drift, net -/
def lo1 (x : Int64) : Int64 := (x * (Int64.ofNat 16807)) - (x * (Int64.ofNat 16807)) / (Int64.ofNat 2147483647) * (Int64.ofNat 2147483647)
def lo0 (x : Int64) : Int32 := (x - x / (Int64.ofNat 100) * (Int64.ofNat 100)).toInt32
def pLt (x : Int64) : Nat → Int64
  | 0 => x
  | s + 1 => lo1 (lo1 (pLt x s))
def pDc (x : Int64) (c : Nat → Int32) : Nat → Nat → Int32
  | 0 => c
  | s + 1 => upd (upd (pDc x c s) s (lo0 (lo1 (pLt x s)))) (8 + s) (lo0 (lo1 (lo1 (pLt x s))))
theorem l_div {a b : Nat} (ha : a < 2 ^ 63) (hb : b < 2 ^ 63) : Int64.ofNat a / Int64.ofNat b = Int64.ofNat (a / b) := by
  apply Int64.toInt_inj.mp
  have h1 : a / b ≤ a := Nat.div_le_self a b
  rw [Int64.toInt_div, show (Int64.ofNat a).toInt = (a : Int) from pk_lT ha, show (Int64.ofNat b).toInt = (b : Int) from pk_lT hb, show (Int64.ofNat (a / b)).toInt = ((a / b : Nat) : Int) from pk_lT (by omega), ← Int.ofNat_tdiv]
  generalize a / b = q at *
  exact Int.bmod_eq_of_le (by omega) (by omega)
theorem l_mod {a b : Nat} (ha : a < 2 ^ 63) (hb : b < 2 ^ 63) : Int64.ofNat a - Int64.ofNat a / Int64.ofNat b * Int64.ofNat b = Int64.ofNat (a % b) := by
  rw [l_div ha hb, ← Int64.ofNat_mul]
  have e : a = a % b + a / b * b := by have := Nat.div_add_mod a b; rw [Nat.mul_comm] at this; omega
  have e2 : Int64.ofNat a = Int64.ofNat (a % b) + Int64.ofNat (a / b * b) := by rw [← Int64.ofNat_add, ← e]
  rw [e2]
  exact Int64.add_sub_cancel _ _
theorem lo1_n {x : Nat} (h : x < 2147483647) : lo1 (Int64.ofNat x) = Int64.ofNat (x * 16807 % 2147483647) := by
  unfold lo1
  rw [← Int64.ofNat_mul]
  exact l_mod (by omega) (by decide)
theorem lo0_n {x : Nat} (h : x < 2147483647) : lo0 (Int64.ofNat x) = nI (x % 100) := by
  unfold lo0
  rw [l_mod (by omega) (by decide)]
  have h1 : x % 100 < 100 := Nat.mod_lt _ (by omega)
  generalize x % 100 = y at *
  have hh : ∀ y : Fin 100, (Int64.ofNat y.1).toInt32 = nI y.1 := by decide +kernel
  exact hh ⟨y, h1⟩
theorem pLt_n {x : Nat} (h : x < 2147483647) : ∀ s, ∃ j, j < 2147483647 ∧ pLt (Int64.ofNat x) s = Int64.ofNat j
  | 0 => ⟨x, h, rfl⟩
  | s + 1 => by
    obtain ⟨j, hj, e⟩ := pLt_n h s
    have h1 : j * 16807 % 2147483647 < 2147483647 := Nat.mod_lt _ (by omega)
    refine ⟨(j * 16807 % 2147483647) * 16807 % 2147483647, Nat.mod_lt _ (by omega), ?_⟩
    show lo1 (lo1 (pLt (Int64.ofNat x) s)) = _
    rw [e, lo1_n hj, lo1_n h1]
theorem pDc_n {x : Nat} (h : x < 2147483647) (c : Nat → Int32) : ∀ s, s ≤ 8 → (∀ i, i < s → (∃ j, j < 100 ∧ pDc (Int64.ofNat x) c s i = nI j) ∧ ∃ j, j < 100 ∧ pDc (Int64.ofNat x) c s (8 + i) = nI j) ∧ ∀ i, 16 ≤ i → pDc (Int64.ofNat x) c s i = c i
  | 0, _ => ⟨fun i hi => by omega, fun _ _ => rfl⟩
  | s + 1, h8 => by
    obtain ⟨f1, f2⟩ := pDc_n h c s (by omega)
    obtain ⟨j, hj, e⟩ := pLt_n h s
    have h1 : j * 16807 % 2147483647 < 2147483647 := Nat.mod_lt _ (by omega)
    have h2 : (j * 16807 % 2147483647) * 16807 % 2147483647 < 2147483647 := Nat.mod_lt _ (by omega)
    have d : pDc (Int64.ofNat x) c (s + 1) = upd (upd (pDc (Int64.ofNat x) c s) s (nI ((j * 16807 % 2147483647) % 100))) (8 + s) (nI ((j * 16807 % 2147483647) * 16807 % 2147483647 % 100)) := by
      show upd (upd (pDc (Int64.ofNat x) c s) s (lo0 (lo1 (pLt (Int64.ofNat x) s)))) (8 + s) (lo0 (lo1 (lo1 (pLt (Int64.ofNat x) s)))) = _
      rw [e, lo1_n hj, lo1_n h1, lo0_n h1, lo0_n h2]
    refine ⟨fun i hi => ?_, fun i hi => ?_⟩
    · rw [d]
      by_cases q : i = s
      · rw [q]
        refine ⟨⟨(j * 16807 % 2147483647) % 100, Nat.mod_lt _ (by omega), ?_⟩, ⟨(j * 16807 % 2147483647) * 16807 % 2147483647 % 100, Nat.mod_lt _ (by omega), ?_⟩⟩
        · show (if s = 8 + s then _ else if s = s then _ else _) = _
          rw [if_neg (by omega), if_pos rfl]
        · show (if 8 + s = 8 + s then _ else _) = _
          rw [if_pos rfl]
      · obtain ⟨⟨a, ha, ea⟩, b, hb, eb⟩ := f1 i (by omega)
        refine ⟨⟨a, ha, ?_⟩, b, hb, ?_⟩
        · show (if i = 8 + s then _ else if i = s then _ else _) = _
          rw [if_neg (by omega), if_neg (by omega)]; exact ea
        · show (if 8 + i = 8 + s then _ else if 8 + i = s then _ else _) = _
          rw [if_neg (by omega), if_neg (by omega)]; exact eb
    · rw [d]
      show (if i = 8 + s then _ else if i = s then _ else _) = _
      rw [if_neg (by omega), if_neg (by omega)]
      exact f2 i hi
section CALLS13
variable {h w : Nat → Nat → Int32} {G : Nat → Nat → Int32} {tn : Nat} {tx : Nat → Int32} {fp wy : Int32} {n m : Nat} {A B : Nat → Nat} {k : Nat} {F T : Nat → Nat} {c : Nat → Int32} {u : Nat} {S : Nat → Nat → Int32} {g : Nat → Bool} {I : Nat → Nat → Int32}
theorem mSe_dc (o : mSe c m) (x : Int64) : ∀ s, s ≤ 8 → mSe (pDc x c s) m
  | 0, _ => o
  | s + 1, h => mSe_xy (mSe_xy (mSe_dc o x s (by omega)) (by omega) _) (by omega) _
theorem t_Mo_drift {X : Nat × (Nat → Int32)} {d : Nat} {cu sp n1 n2 n3 n4 : Nat} (a : mI h G tn tx fp wy n m A B k F T c u S g I) (o : mSe c m) (hu : u ≤ 16) (x1 : Int32) : ewP X Mo_drift (d + 7) 0 [some (.ref 194), some (.int x1), none, none, none] [] (0, 0) (229, ewR cu sp n1 n2 n3 n4, h) (fun v S' => ∃ (h' : Nat → Nat → Int32) (y : Int32), v = some (.int y) ∧ S' = (229, ewR cu sp n1 n2 n3 n4, h') ∧
    ((¬ (1 ≤ x1.toInt ∧ x1.toInt ≤ 999999) ∧ y = -1000000002 ∧ h' = h) ∨ (1 ≤ x1.toInt ∧ x1.toInt ≤ 999999 ∧ n = 0 ∧ y = -1000000003 ∧ h' = h) ∨ (1 ≤ x1.toInt ∧ x1.toInt ≤ 999999 ∧ n ≠ 0 ∧ y = pCs (pBp (pDc x1.toInt64 c n) m A B k F T) ∧ mI h' G tn tx fp wy n m A B k F T (pDc x1.toInt64 c n) (pPu u) (pPS u S c) g I))) := by
  have i1 : f_Mo_in x1.toInt64 (Int64.ofNat 1) (Int64.ofNat 999999) ↔ (1 ≤ x1.toInt ∧ x1.toInt ≤ 999999) := in_nat x1 1 999999 (by decide) (by decide)
  have h8 := a.2.2.1.1.2.1
  have s1 := a.2.2.1.1.1
  have n0 : h 194 0 = 0 ↔ n = 0 := by rw [s1]; exact nI_eq (b := 0) (by omega) (by omega)
  refine v_Mo_drift_0 x1 h (fun _ _ => ⟨u, a.2.2.2.2.1.1, hu⟩) (fun q1 q2 w6 hw6 => ?_) (fun q1 q2 => ⟨h, _, rfl, rfl, Or.inr (Or.inl ⟨(i1.mp q1).1, (i1.mp q1).2, n0.mp q2, rfl, rfl⟩)⟩) (fun q => ⟨h, _, rfl, rfl, Or.inl ⟨fun z => q (i1.mpr z), rfl, rfl⟩⟩)
  refine upto (H := Nat → Nat → Int32) (P := fun s w => mI w G tn tx fp wy n m A B k F T (pDc x1.toInt64 c s) (pPu u) (pPS u S c) g I) (E := fun s w => ewP X Mo_drift (d + 7) 36 [some (.ref 194), some (.int x1), some (.long (pLt x1.toInt64 s)), none, some (.int (nI s))] [] (0, 0) (229, ewR cu sp n1 n2 n3 n4, w) _) n ?_ ?_ 0 w6 (by omega) (a.rm hu hw6)
  · intro s w hs hw next
    have e0 : w 194 0 = nI n := hw.2.2.1.1.1
    have hlt : nI s < w 194 0 := by rw [e0]; exact (nI_ltb (by omega) (by omega)).mpr hs
    have ad : (8 : Int32) + nI s = nI (8 + s) := nI_ad 8 s
    refine v_Mo_drift_36 _ _ _ w (fun q => absurd hlt q) (fun q => absurd hlt q) (fun _ => nI_inB (by omega) (by decide)) (fun _ => by rw [ad]; exact nI_inB (by omega) (by decide)) (fun _ => ?_)
    rw [ad, nI_clamp (show s < 2 ^ 31 by omega), nI_clamp (show 8 + s < 2 ^ 31 by omega), ← nI_succ]
    refine next _ ?_
    have := (hw.st s (lo0 (lo1 (pLt x1.toInt64 s)))).st (8 + s) (lo0 (lo1 (lo1 (pLt x1.toInt64 s))))
    rw [ewS_self] at this
    exact this
  · intro w hw
    have e0 : w 194 0 = nI n := hw.2.2.1.1.1
    have hlt : ¬ nI n < w 194 0 := by rw [e0]; exact nI_nlt (Nat.le_refl _) (by omega)
    have o2 := mSe_dc o x1.toInt64 n (by omega)
    refine v_Mo_drift_36 _ _ _ w (fun _ => (hw.p o2).1) (fun _ w4 y5 h4 => ?_) (fun q => absurd q hlt) (fun q => absurd q hlt) (fun q => absurd q hlt)
    obtain ⟨e1, e2⟩ := hw.bc o2 h4
    exact ⟨w4, y5, rfl, rfl, Or.inr (Or.inr ⟨(i1.mp q1).1, (i1.mp q1).2, fun z => q2 (n0.mpr z), e1, e2⟩)⟩
end CALLS13
