/-! the class's calls: plans, bend, fix, loose, move, count -/
section EW6
variable {X : Nat × (Nat → Int32)} {d : Nat} {n1 n2 n3 n4 : Nat} {h : Nat → Nat → Int32} {G : Nat → Nat → Int32} {tn : Nat} {tx : Nat → Int32} {fp wy : Int32} {n m : Nat} {A B : Nat → Nat} {k : Nat} {F T : Nat → Nat} {c : Nat → Int32} {u : Nat} {S : Nat → Nat → Int32} {g : Nat → Bool} {I : Nat → Nat → Int32}
theorem pBp_00 (hS : mSe c m) (h8 : n ≤ 8) (h7 : m ≤ 7) (hk : k ≤ 3) (ok : cOK n m A B k F T) (h : (pBp c m A B k F T).2.1 = 1000000) : (pBp c m A B k F T).1 = 0 := by
  have := fdS_inv (c := pcN c) (g := pdi c A B) (st := pst c m A B k F T) (I := fun b => b.2.1 < 1000000 ∨ b.1 = 0) (V := fun v => ∀ e, v e < 8) (fun b v hb v8 => by
    have lt := pco_lt (o := (c 24).toNatClampNeg) (w := (c 23).toNatClampNeg) (A := A) (B := B) (n := n) (m := m) (v := v) (tr := ptn c A B m) (k := k) (F := F) (T := T) hS.2.1.2 hS.1.2 h8 h7 hk v8 (fun e => by unfold ptn; split; exact (ptr_n c A B e).2; omega) ok.2.1 ok.1 (fun l hl => ⟨(ok.2.2 l hl).1, (ok.2.2 l hl).2.1, (ok.2.2 l hl).2.2.2⟩)
    unfold pst
    by_cases q : pu2 A B v m = true
    · rw [if_pos q]
      left
      by_cases q2 : pco (c 24).toNatClampNeg (c 23).toNatClampNeg A B m v (ptn c A B m) k F T < b.2.1
      · rw [if_pos q2]; exact lt
      · rw [if_neg q2]
        show b.2.1 < 1000000
        omega
    · rw [if_neg q]; exact hb) m 0 (fun _ => 0) (0, 1000000, fun _ => 0) (fun v j i hv h1 h2 e => by
    by_cases q : e = j
    · subst q; rw [pup_self]; exact pdi_lt hS A B (by omega) i
    · rw [pup_ne _ _ q]; exact hv e) (fun _ => by show 0 < 8; omega) (Or.inr rfl)
  rcases this with y | y
  · exact absurd h (Nat.ne_of_lt y)
  · exact y
theorem t_Ew_plans (a : cI h n1 n3 n4 G tn tx fp wy n m A B k F T c u S g I) (hA : aSe n m c) : ewP X Ew_plans (d + 14) 0 [some (.ref 0)] [] (0, 0) (229, ewR 3 35 n1 n2 n3 n4, h) (eO fun h' n1 n3 n4 y => cI h' n1 n3 n4 G tn tx fp wy n m A B k F T c u S g I ∧ y = nI (pBp c m A B k F T).1) := by
  have hN := a.1.2.2.1
  have fin : ∀ (w9 w : Nat → Nat → Int32) (y : Int32), cJ w G tn tx fp wy n m A B k F T c u S g I → cC w 3 n3 n4 n m A B k F T c → ¬ w 0 12 = 0 → (∀ q, q ≠ 145 → w9 q = w q) → y = nI (pBp c m A B k F T).1 → eO (fun h' n1 n3 n4 y => cI h' n1 n3 n4 G tn tx fp wy n m A B k F T c u S g I ∧ y = nI (pBp c m A B k F T).1) (some (.int y)) (229, ewR 3 35 3 n2 n3 n4, (ewS (ewS w9 0 (upd (w9 0) 16 y)) 0 (upd (upd (w9 0) 16 y) 13 1))) := by
    intro w9 w y b1 b2 b3 f hy
    have ff : ∀ q, q ≠ 0 → q ≠ 145 → (ewS (ewS w9 0 (upd (w9 0) 16 y)) 0 (upd (upd (w9 0) 16 y) 13 1)) q = w q := fun q q1 q2 => (ewS_ne _ _ q1).trans ((ewS_ne _ _ q1).trans (f q q2))
    have f0 := f 0 (by omega)
    refine ⟨_, 3, n2, n3, n4, y, rfl, rfl, ⟨b1.fr (fun q hq => ff q (by omega) (by omega)) (by show w9 0 7 = _; rw [f0]), fun z => ?_, fun z => hy, fun z => ?_, fun z => ?_⟩, hy⟩
    · exact ⟨rfl, (b2.1 b3).2.fr (fun q hq => ff q (by omega) (by omega))⟩
    · have z : ¬ w9 0 14 = 0 := z
      rw [f0] at z
      exact ⟨by show ¬ w9 0 12 = 0; rw [f0]; exact b3, (b2.2.2.1 z).2.1, (b2.2.2.1 z).2.2.fr (fun q hq => ff q (by omega) (by omega))⟩
    · have z : ¬ w9 0 15 = 0 := z
      rw [f0] at z
      exact ⟨by show ¬ w9 0 12 = 0; rw [f0]; exact b3, (b2.2.2.2 z).2.1, (b2.2.2.2 z).2.2.fr (fun q hq => ff q (by omega) (by omega))⟩
  refine v_Ew_plans_0 h (P_Ew_knownBest := fun h' => h' = h) (R_Ew_knownBest := fun _ w => cJ w G tn tx fp wy n m A B k F T c u S g I ∧ cC w 3 n3 n4 n m A B k F T c ∧ ¬ w 0 12 = 0 ∧ cKn w n m A B k F T c ∧ ∀ q, q ≠ 0 → ¬ (142 ≤ q ∧ q ≤ 145) → w q = h q) (fun h' e => by subst e; exact knownBest_n (d := d + 1) a.1 a.2 hA) (P_Ch_tallyPlans := fun h' => cKn h' n m A B k F T c) (R_Ch_tallyPlans := fun h' w y => (∀ q, q ≠ 145 → w q = h' q) ∧ y = nI (pBp c m A B k F T).1) (fun h' hp => tallyPlans_n (d := d + 2) hp.1 hA.1) (fun q => ⟨h, n1, n2, n3, n4, _, rfl, rfl, a, a.2.2.1 q⟩) (fun _ => rfl) (fun q w hw => ⟨fun _ => hw.2.2.2.1, fun z w9 y hy => fin w9 w y hw.1 hw.2.1 hw.2.2.1 hy.1 hy.2, fun z => fin w w 0 hw.1 hw.2.1 hw.2.2.1 (fun _ _ => rfl) ?_⟩)
  have e0 : (pBp c m A B k F T).2.1 = 1000000 := by
    rw [hw.2.2.2.1.2.1] at z
    exact pCs_m1.mp z
  rw [pBp_00 hA.1 hN.1.2.1 hN.2.1.2.1 hN.2.2.1.2.1 hN.2.2.2.1 e0]
  rfl
theorem t_Ew_bend (a : cI h n1 n3 n4 G tn tx fp wy n m A B k F T c u S g I) (x1 x2 : Int32) : ewP X Ew_bend (d + 14) 0 [some (.ref 0), some (.int x1), some (.int x2)] [] (0, 0) (229, ewR 3 35 n1 n2 n3 n4, h) (eO fun h' n1 n3 n4 y => cI h' n1 n3 n4 G tn tx fp wy n m A B k F T c u S g I ∧ y = if ¬ f_Ew_isWay x1 ∨ x2 < 0 ∨ 4 < x2 then -1000000002 else f_Ew_counted x1 x2) := by
  refine v_Ew_bend_0 x1 x2 h (P_Ew_counted := fun h' z1 z2 => h' = h) (R_Ew_counted := fun h' z1 z2 w y => w = h ∧ y = f_Ew_counted z1 z2) (fun z1 z2 h' e => by subst e; exact s_Ew_counted (d := d + 13) _ _ _ ⟨_, _, ⟨rfl, rfl⟩, rfl, rfl⟩) (fun q => ⟨h, n1, n2, n3, n4, _, rfl, rfl, a, by rw [if_pos (Or.inl q)]⟩) (fun q q2 => ⟨h, n1, n2, n3, n4, _, rfl, rfl, a, by rw [if_pos (Or.inr (Or.inl q2))]⟩) (fun _ _ _ => rfl) (fun q1 q2 q3 w y hy => ?_) (fun q q2 q3 => ⟨h, n1, n2, n3, n4, _, rfl, rfl, a, by rw [if_pos (Or.inr (Or.inr q3))]⟩)
  obtain ⟨rfl, hy⟩ := hy
  exact ⟨_, n1, n2, n3, n4, _, rfl, rfl, a, by rw [if_neg (by rintro (z | z | z); exact z q1; exact q2 z; exact q3 z)]; exact hy⟩
end EW6
