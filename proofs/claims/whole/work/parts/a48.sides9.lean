/-! the class's Sides: lineAt, crossedAt, crossedBy -/
def pln (r kk : Nat) : Nat := (ewSv 3 (3 * r + kk)).toNatClampNeg
def pps (L r : Nat) : Nat → Nat
  | 0 => 0
  | kk + 1 => pps L r kk + if L.testBit (pln r kk) = true then 1 else 0
theorem pps_n {L r kk : Nat} (hL : L < 8) (hr : r < 6) (hk : kk < 3) : (pln r kk < 3 ∧ ewSv 3 (3 * r + kk) = nI (pln r kk)) ∧ (L.testBit (pln r kk) = true → pps L r kk < pbc L ∧ pol L (prh L r) (pps L r kk) = pln r kk) ∧ pps L r 3 = pbc L ∧ pps L r kk < 4 := by
  have hh : ∀ (L : Fin 8) (r : Fin 6) (kk : Fin 3), (pln r.1 kk.1 < 3 ∧ ewSv 3 (3 * r.1 + kk.1) = nI (pln r.1 kk.1)) ∧ (L.1.testBit (pln r.1 kk.1) = true → pps L.1 r.1 kk.1 < pbc L.1 ∧ pol L.1 (prh L.1 r.1) (pps L.1 r.1 kk.1) = pln r.1 kk.1) ∧ pps L.1 r.1 3 = pbc L.1 ∧ pps L.1 r.1 kk.1 < 4 := by decide +kernel
  exact hh ⟨L, hL⟩ ⟨r, hr⟩ ⟨kk, hk⟩
section SIDES9
variable {X : Nat × (Nat → Int32)} {d : Nat} {cu sp n2 n3 : Nat} {A B : Nat → Nat} {n m k : Nat} {F T : Nat → Nat} {c : Nat → Int32}
theorem lineAt_n {h : Nat → Nat → Int32} (hN : cNt h n m A B k F T) (hk : cSk h n m A B k F T c) {e : Nat} (he : e < m) {x2 : Int32} (hx : ¬ x2 < 0) : ewP X Si_lineAt (d + 1) 0 [some (.ref 174), some (.int (nI e)), some (.int x2), none, none, none] [] (0, 0) (229, ewR cu sp 3 n2 n3 3, h) (fun v S' => ∃ y : Int32, v = some (.int y) ∧ S' = (229, ewR cu sp 3 n2 n3 3, h) ∧ ((((pBp c m A B k F T).2.1 = 1000000 ∨ ¬ x2 < nI (pbc (pLs m A B k F T e))) ∧ y = -1) ∨ ((pBp c m A B k F T).2.1 ≠ 1000000 ∧ ∃ i, i < pbc (pLs m A B k F T e) ∧ x2 = nI i ∧ y = nI (pol (pLs m A B k F T e) ((pBo n m A B k F T (pBp c m A B k F T).2.2).2 e) i)))) := by
  have h7 := hN.2.1.2.1
  have hk3 := hN.2.2.1.2.1
  have L8 := pLs_lt (m := m) (A := A) (B := B) (F := F) (T := T) hk3 e
  have r15 : h 15 e = nI (pLs m A B k F T e) := hN.2.2.1.2.2.2.1 e (by omega)
  have ce : (nI e).toNatClampNeg = e := nI_clamp (by omega)
  have h1 : h 174 0 = -1 ↔ (pBp c m A B k F T).2.1 = 1000000 := ⟨fun y => Decidable.byContradiction (fun z => by
    have := (hk.2 z).1
    rw [this.1] at y
    exact nI_m1 (by omega) y), hk.1⟩
  refine v_Si_lineAt_0 _ _ h (fun q => ?_) (fun q => ⟨_, rfl, rfl, Or.inl ⟨Or.inl (h1.mp q), rfl⟩⟩)
  have nq : (pBp c m A B k F T).2.1 ≠ 1000000 := fun y => q (h1.mpr y)
  obtain ⟨-, ⟨r, hr⟩, -⟩ := hk.2 nq
  obtain ⟨r6, r75, ro⟩ := hr e he
  generalize hL : pLs m A B k F T e = L at *
  refine upto (H := Unit) (P := fun kk _ => ∀ j, j < pps L (r e) kk → x2 ≠ nI j) (E := fun kk _ => ewP X Si_lineAt (d + 1) 15 [some (.ref 174), some (.int (nI e)), some (.int x2), some (.int (nI (pps L (r e) kk))), some (.int (nI kk)), none] [] (0, 0) (229, ewR cu sp 3 n2 n3 3, h) _) 3 ?_ ?_ 0 () (by omega) (fun j hj => absurd hj (Nat.not_lt_zero j))
  · rintro kk - hkk hP next
    obtain ⟨⟨p1, p2⟩, p3, p4, p5⟩ := pps_n (kk := kk) L8 r6 hkk
    have lt : nI kk < 3 := (nI_ltb (b := 3) (by omega) (by omega)).mpr hkk
    have ix : (h 175 (nI e).toNatClampNeg * 3) + nI kk = nI (3 * r e + kk) := by
      rw [ce, r75]
      have hh : ∀ (r : Fin 6) (k : Fin 3), nI r.1 * 3 + nI k.1 = nI (3 * r.1 + k.1) := by decide +kernel
      exact hh ⟨_, r6⟩ ⟨_, hkk⟩
    have cx : (nI (3 * r e + kk)).toNatClampNeg = 3 * r e + kk := nI_clamp (by omega)
    have hb : f_Ew_has (h 15 (nI e).toNatClampNeg) (ewSv 3 ((h 175 (nI e).toNatClampNeg * 3) + nI kk).toNatClampNeg) ↔ L.testBit (pln (r e) kk) = true := by
      rw [ix, cx, p2, ce, r15]
      exact has_n (by omega) (by omega)
    refine v_Si_lineAt_15 _ _ _ _ h (fun z => absurd lt z) (fun _ => nI_inB (by omega) (by decide)) (fun _ => by rw [ix]; exact nI_inB (by omega) (by decide)) (fun _ z => ?_) (fun _ z y => ?_) (fun _ z y => ?_)
    · rw [← nI_succ]
      have e1 : pps L (r e) (kk + 1) = pps L (r e) kk := by
        show pps L (r e) kk + _ = _
        rw [if_neg (fun w => z (hb.mpr w))]
        rfl
      have := next ()
      rw [e1] at this
      exact this hP
    · rw [← nI_succ, ← nI_succ]
      have e1 : pps L (r e) (kk + 1) = pps L (r e) kk + 1 := by
        show pps L (r e) kk + _ = _
        rw [if_pos (hb.mp z)]
      have := next ()
      rw [e1] at this
      refine this (fun j hj => ?_)
      by_cases w : j = pps L (r e) kk
      · rw [w]; exact fun u => y u.symm
      · exact hP j (by omega)
    · obtain ⟨s1, s2⟩ := p3 (hb.mp z)
      refine ⟨_, rfl, rfl, Or.inr ⟨nq, pps L (r e) kk, s1, y.symm, ?_⟩⟩
      rw [ix, cx, p2, ro, s2]
  · rintro - hP
    have p4 := (pps_n (kk := 0) L8 r6 (by omega)).2.2.1
    refine v_Si_lineAt_15 _ _ _ _ h (fun _ => ⟨_, rfl, rfl, Or.inl ⟨Or.inr (fun y => ?_), rfl⟩⟩) (fun z => absurd z (by decide)) (fun z => absurd z (by decide)) (fun z => absurd z (by decide)) (fun z => absurd z (by decide)) (fun z => absurd z (by decide))
    have : pbc L < 4 := by unfold pbc pbt; omega
    obtain ⟨i, hi, yi⟩ := i32_small (show pbc L < 2 ^ 31 by omega) hx y
    exact hP i (by rw [p4]; exact hi) yi
theorem crossedAt_n {h : Nat → Nat → Int32} (h8 : n ≤ 8) (hk : cSk h n m A B k F T c) {s : Nat} (hs : s < n) : p_Si_crossedAt h (nI s) ∧ f_Si_crossedAt h (nI s) = if (pBp c m A B k F T).2.1 = 1000000 then -1 else nI (sm (fun p => if pq1 p < k then pcx m A B k F T (pBp c m A B k F T).2.2 (pBo n m A B k F T (pBp c m A B k F T).2.2).2 s (pq0 p) (pq1 p) else 0) 3) := by
  have h1 : h 174 0 = -1 ↔ (pBp c m A B k F T).2.1 = 1000000 := ⟨fun y => Decidable.byContradiction (fun z => by
    have := (hk.2 z).1
    rw [this.1] at y
    exact nI_m1 (by omega) y), hk.1⟩
  have cs : (nI s).toNatClampNeg = s := nI_clamp (by omega)
  unfold p_Si_crossedAt f_Si_crossedAt
  rw [cs]
  by_cases q : (pBp c m A B k F T).2.1 = 1000000
  · have q' := h1.mpr q
    rw [if_pos q, if_pos q']
    exact ⟨⟨fun y => absurd q' y, fun y => absurd q' y⟩, rfl⟩
  · have q' : ¬ h 174 0 = -1 := fun y => q (h1.mp y)
    rw [if_neg q, if_neg q', (hk.2 q).2.2 s hs, (m3_in _).2, bits3]
    refine ⟨⟨fun _ => nI_inB (by omega) (by decide), fun _ => (m3_in _).1⟩, ?_⟩
    congr 1
    refine sm_cg 3 (fun p _ => ?_)
    unfold b1 pxb
    by_cases y : pq1 p < k
    · rw [if_pos y]
      unfold pcx
      split
      · rw [if_pos (decide_eq_true ⟨y, rfl⟩)]
      · rw [if_neg (by rw [decide_eq_true_iff]; rintro ⟨-, z⟩; cases z)]
    · rw [if_neg y, if_neg (by rw [decide_eq_true_iff]; exact fun z => y z.1)]
theorem crossedBy_n {h : Nat → Nat → Int32} (hS : mSe c m) (hN : cNt h n m A B k F T) (hk : cSk h n m A B k F T c) {l j : Nat} (hl : l < k) (hj : j < k) (ne : l ≠ j) : ewP X Si_crossedBy (d + 1) 0 [some (.ref 174), some (.int (nI l)), some (.int (nI j)), none, none] [] (0, 0) (229, ewR cu sp 3 n2 n3 3, h) (fun v S' => ∃ y : Int32, v = some (.int y) ∧ S' = (229, ewR cu sp 3 n2 n3 3, h) ∧ y = (if (pBp c m A B k F T).2.1 = 1000000 then -1 else nI (sm (fun s => pcx m A B k F T (pBp c m A B k F T).2.2 (pBo n m A B k F T (pBp c m A B k F T).2.2).2 s l j) n))) := by
  have h7 := hN.2.1.2.1
  have h8 := hN.1.2.1
  have hk3 := hN.2.2.1.2.1
  have ok := hN.2.2.2.1
  have v8 := fun e => (pBp_8 (A := A) (B := B) (k := k) (F := F) (T := T) hS e).1
  have h1 : h 174 0 = -1 ↔ (pBp c m A B k F T).2.1 = 1000000 := ⟨fun y => Decidable.byContradiction (fun z => by
    have := (hk.2 z).1
    rw [this.1] at y
    exact nI_m1 (by omega) y), hk.1⟩
  refine v_Si_crossedBy_0 _ _ h (fun q => ?_) (fun q => ⟨_, rfl, rfl, by rw [if_pos (h1.mp q)]⟩)
  have nq : (pBp c m A B k F T).2.1 ≠ 1000000 := fun y => q (h1.mpr y)
  rw [if_neg nq]
  obtain ⟨-, ⟨r, hr⟩, h176⟩ := hk.2 nq
  have hu := pBp_u nq
  generalize (pBp c m A B k F T).2.2 = dv at *
  generalize (pBo n m A B k F T dv).2 = o at *
  obtain ⟨p, hp, hk1, pv, pc⟩ : ∃ p, p < 3 ∧ pq1 p < k ∧ f_Si_pairOf (nI l) (nI j) = nI p ∧ ∀ s, pcx m A B k F T dv o s l j = pcx m A B k F T dv o s (pq0 p) (pq1 p) := by
    have hh : ∀ l j : Fin 3, l.1 ≠ j.1 → ∃ p : Fin 3, (l.1 = pq0 p.1 ∧ j.1 = pq1 p.1) ∨ (l.1 = pq1 p.1 ∧ j.1 = pq0 p.1) := by decide +kernel
    obtain ⟨⟨p, hp⟩, y⟩ := hh ⟨l, by omega⟩ ⟨j, by omega⟩ ne
    rcases y with ⟨y1, y2⟩ | ⟨y1, y2⟩
    · have y1 : l = pq0 p := y1
      have y2 : j = pq1 p := y2
      rw [y1, y2]
      exact ⟨p, hp, by omega, (pair_v hp).2.1, fun _ => rfl⟩
    · have y1 : l = pq1 p := y1
      have y2 : j = pq0 p := y2
      rw [y1, y2]
      exact ⟨p, hp, by omega, (pair_v hp).2.2, fun s => pcx_sym ok (by omega) hk3 v8 hu (fun e he => (hr e he).1) (fun e he => (hr e he).2.2) hp (by omega)⟩
  rw [sm_cg n (fun s _ => pc s)]
  refine upto (H := Unit) (P := fun _ _ => True) (E := fun s _ => ewP X Si_crossedBy (d + 1) 15 [some (.ref 174), some (.int (nI l)), some (.int (nI j)), some (.int (nI (sm (fun s => pcx m A B k F T dv o s (pq0 p) (pq1 p)) s))), some (.int (nI s))] [] (0, 0) (229, ewR cu sp 3 n2 n3 3, h) _) n ?_ ?_ 0 () (by omega) trivial
  · rintro s - hs - next
    have lt : nI s < h 3 0 := by rw [hN.1.1]; exact (nI_ltb (by omega) (by omega)).mpr hs
    have cs : (nI s).toNatClampNeg = s := nI_clamp (by omega)
    refine v_Si_crossedBy_15 _ _ _ _ h (fun z => absurd lt z) (fun _ => nI_inB (by omega) (by decide)) (fun _ => ?_)
    have hb : f_Ew_has (h 176 (nI s).toNatClampNeg) (f_Si_pairOf (nI l) (nI j)) ↔ pcx m A B k F T dv o s (pq0 p) (pq1 p) = 1 := by
      rw [cs, h176 s hs, pv, has_n (by have := msk_lt (fun p => pxb m A B k F T dv o s p) 3; omega) (by omega), msk_bit, decide_eq_true hp, Bool.true_and]
      unfold pxb
      rw [decide_eq_true_iff]
      exact ⟨fun y => y.2, fun y => ⟨hk1, y⟩⟩
    have := next () trivial
    rw [← nI_succ]
    have e1 : nI (sm (fun s => pcx m A B k F T dv o s (pq0 p) (pq1 p)) s) + (if f_Ew_has (h 176 (nI s).toNatClampNeg) (f_Si_pairOf (nI l) (nI j)) then 1 else 0) = nI (sm (fun s => pcx m A B k F T dv o s (pq0 p) (pq1 p)) (s + 1)) := by
      show _ = nI (sm (fun s => pcx m A B k F T dv o s (pq0 p) (pq1 p)) s + pcx m A B k F T dv o s (pq0 p) (pq1 p))
      have p01 : pcx m A B k F T dv o s (pq0 p) (pq1 p) ≤ 1 := by unfold pcx; split <;> omega
      by_cases y : pcx m A B k F T dv o s (pq0 p) (pq1 p) = 1
      · rw [if_pos (hb.mpr y), y, nI_succ]
      · rw [if_neg (fun z => y (hb.mp z)), show pcx m A B k F T dv o s (pq0 p) (pq1 p) = 0 by omega]
        exact Int32.add_zero _
    rw [e1]
    exact this
  · rintro - -
    have nlt : ¬ nI n < h 3 0 := by rw [hN.1.1]; exact nI_nlt (Nat.le_refl _) (by omega)
    exact v_Si_crossedBy_15 _ _ _ _ h (fun _ => ⟨_, rfl, rfl, rfl⟩) (fun z => absurd z nlt) (fun z => absurd z nlt)
end SIDES9
