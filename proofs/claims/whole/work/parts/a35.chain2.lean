/-! chains: the end of a chain, all chains -/
section CHAIN3
variable {A B : Nat → Nat} {n m : Nat} {pd : Nat → Bool} {o1 o2 : Nat → Nat} {P : Nat → Nat → Nat} {Xc : Nat → Nat → Nat → Nat} {rk : Nat → Nat}
/-- the least cost within a set that is closed -/
def gSm (n m : Nat) (pd : Nat → Bool) (o1 o2 : Nat → Nat) (P : Nat → Nat → Nat) (Xc : Nat → Nat → Nat → Nat) (rk : Nat → Nat) (z : Nat → Bool) (y : Nat) : Prop := gCl n pd o1 o2 z ∧ (∀ x, z x = true → x < m) ∧ (∀ r, gAl m rk r → y ≤ hW n m pd o1 o2 P Xc z r) ∧ ∃ r, gAl m rk r ∧ hW n m pd o1 o2 P Xc z r = y
theorem gCh_e {z0 z : Nat → Bool} {e y : Nat} {D : Nat → Nat} (g : gOK A B n m pd o1 o2) (c : gCh A B n m pd o1 o2 P Xc rk z0 z e D) (h0 : gCl n pd o1 o2 z0) (he : ∀ s, s < n → gPd pd o1 o2 e s → (z0 (gOt o1 o2 s e) || z (gOt o1 o2 s e)) = true) {r0 : Nat → Nat} (ha : gAl m rk r0) (hb : hW n m pd o1 o2 P Xc z r0 < 1000000) (hy1 : y ≤ 1000000) (hy2 : ∀ i, i < 6 → y ≤ D i) (hy3 : y = 1000000 ∨ ∃ i, i < 6 ∧ y = D i) : gSm n m pd o1 o2 P Xc rk z y := by
  obtain ⟨⟨c1, c2⟩, c3, c4, -, c6, c7⟩ := c
  have nb : ∀ s, s < n → ∀ a, gPd pd o1 o2 a s → z a = true → z (gOt o1 o2 s a) = true := by
    intro s hs a hp hz
    by_cases q : a = e
    · rw [q] at hp ⊢
      have := he s hs hp
      rw [Bool.or_eq_true] at this
      refine this.resolve_left (fun w => ?_)
      have k := gOt_ne g hs hp
      have cl := h0 s hs hp.1
      have : z0 e = true := by
        unfold gOt at w
        by_cases y1 : o1 s = e
        · rw [if_pos y1] at w; rw [← y1]; exact cl.mpr w
        · rw [if_neg y1] at w; rw [← hp.2.resolve_left y1]; exact cl.mp w
      exact (c3 e c2).2 this
    · exact c4 s hs a hp hz q
  have lt : y < 1000000 := by
    have := c6 r0 ha
    have := hy2 _ (ha e c1).1
    omega
  refine ⟨fun s hs hp => ?_, fun x hx => (c3 x hx).1, fun r hr => Nat.le_trans (hy2 _ (hr e c1).1) (c6 r hr), ?_⟩
  · have g3 := (g s hs hp).2.2.1
    constructor
    · intro q
      have := nb s hs (o1 s) ⟨hp, Or.inl rfl⟩ q
      unfold gOt at this; rw [if_pos rfl] at this; exact this
    · intro q
      have := nb s hs (o2 s) ⟨hp, Or.inr rfl⟩ q
      unfold gOt at this; rw [if_neg g3] at this; exact this
  · rcases hy3 with q | ⟨i, hi, q⟩
    · omega
    · obtain ⟨r, r1, r2, r3⟩ := c7 i hi (by omega)
      exact ⟨r, r1, by rw [r3, q]⟩
theorem gSm_add {z0 z : Nat → Bool} {x y : Nat} (a : gSm n m pd o1 o2 P Xc rk z0 x) (b : gSm n m pd o1 o2 P Xc rk z y) (dis : ∀ e, z0 e = true → ¬ z e = true) : gSm n m pd o1 o2 P Xc rk (fun e => z0 e || z e) (x + y) := by
  obtain ⟨a1, a2, a3, ra, a4, a5⟩ := a
  obtain ⟨b1, b2, b3, rb, b4, b5⟩ := b
  have two := fun r => hW_two (m := m) (P := P) (Xc := Xc) (r := r) dis a1 b1
  refine ⟨fun s hs hp => ?_, fun e he => ?_, fun r hr => ?_, fun e => if z e = true then rb e else ra e, fun e he => ?_, ?_⟩
  · have q1 := a1 s hs hp
    have q2 := b1 s hs hp
    simp only [Bool.or_eq_true, q1, q2]
  · rw [Bool.or_eq_true] at he
    exact he.elim (a2 e) (b2 e)
  · rw [two]
    have := a3 r hr
    have := b3 r hr
    omega
  · dsimp only
    by_cases q : z e = true
    · rw [if_pos q]; exact b4 e he
    · rw [if_neg q]; exact a4 e he
  · rw [two, hW_cg (z := z0) (r' := ra) (fun e he => if_neg (dis e he)), hW_cg (z := z) (r' := rb) (fun e he => if_pos he), a5, b5]
theorem gSm_0 {r0 : Nat → Nat} (ha : gAl m rk r0) : gSm n m pd o1 o2 P Xc rk (fun _ => false) 0 := by
  refine ⟨fun _ _ _ => ⟨fun z => z, fun z => z⟩, fun x hx => (by cases hx), fun _ _ => Nat.zero_le _, r0, ha, ?_⟩
  unfold hW
  rw [sm_cg m (g := fun _ => 0) (fun e _ => if_neg (fun q => by cases q)), sm_cg n (g := fun _ => 0) (fun s _ => if_neg (fun q => by cases q.2.1)), sm_z, sm_z]
/-- no ring: a set all of whose ends go on within it is empty -/
theorem no_ring {U : Nat → Bool} (hk : tOK A B m) (h9 : m ≤ 90) (hn : ∀ e, e < m → A e < n ∧ B e < n) (g : gOK A B n m pd o1 o2) (hU : ∀ e, U e = true → e < m ∧ ∀ v, (v = A e ∨ v = B e) → gPd pd o1 o2 e v ∧ U (gOt o1 o2 v e) = true) : ∀ e, ¬ U e = true := by
  intro e0 h0
  have key : ∀ d, ∃ e v, U e = true ∧ (v = A e ∨ v = B e) ∧ plb A B m v = plb A B m (A e0) ∧ tds A B m v (A e0) = d := by
    intro d
    induction d with
    | zero => exact ⟨e0, A e0, h0, Or.inl rfl, rfl, tds_0 _ _⟩
    | succ d ih =>
      obtain ⟨e, v, q1, q2, q3, q4⟩ := ih
      obtain ⟨m1, m2⟩ := hU e q1
      obtain ⟨p1, p2⟩ := m2 v q2
      have vn : v < n := by
        have := hn e m1
        rcases q2 with q | q <;> rw [q] <;> omega
      obtain ⟨k1, k2, k3, -⟩ := gOt_ne g vn p1
      -- one of the two leads away
      have pick : ∃ f, U f = true ∧ f < m ∧ (A f = v ∨ B f = v) ∧ tfx A B m v (A e0) ≠ f := by
        by_cases y : tfx A B m v (A e0) = e
        · exact ⟨gOt o1 o2 v e, p2, k2, k3, fun w => k1 (by rw [← w, y])⟩
        · exact ⟨e, q1, m1, q2.imp Eq.symm Eq.symm, y⟩
      obtain ⟨f, f1, f2, f3, f4⟩ := pick
      have cA : plb A B m (A f) = plb A B m (A e0) := by
        rcases f3 with w | w
        · rw [w]; exact q3
        · rw [plb_ends f2, w]; exact q3
      rcases tds_end hk h9 f2 cA with ⟨d1, d2, d3⟩ | ⟨d1, d2, d3⟩
      · -- A f is farther
        rcases f3 with w | w
        · rw [w] at d2; exact absurd d2 f4
        · exact ⟨f, A f, f1, Or.inl rfl, cA, by rw [d1, w, q4]⟩
      · rcases f3 with w | w
        · exact ⟨f, B f, f1, Or.inr rfl, by rw [← plb_ends f2]; exact cA, by rw [d1, w, q4]⟩
        · rw [w] at d2; exact absurd d2 f4
  obtain ⟨e, v, q1, q2, q3, q4⟩ := key n
  have m1 := (hU e q1).1
  have vn : v < n := by
    have := hn e m1
    rcases q2 with q | q <;> rw [q] <;> omega
  have := tds_lt hk hn vn (hn e0 (hU e0 h0).1).1 q3
  omega
/-- all chains are through: the least of all -/
theorem gSm_all {z : Nat → Bool} {y : Nat} (hk : tOK A B m) (h9 : m ≤ 90) (hn : ∀ e, e < m → A e < n ∧ B e < n) (g : gOK A B n m pd o1 o2) (a : gSm n m pd o1 o2 P Xc rk z y) (hend : ∀ e, e < m → (∃ v, (v = A e ∨ v = B e) ∧ ¬ gPd pd o1 o2 e v) → z e = true) : gSm n m pd o1 o2 P Xc rk (fun e => decide (e < m)) y := by
  obtain ⟨a1, a2, a3, a4⟩ := a
  have all : ∀ e, e < m → z e = true := by
    intro e he
    refine Decidable.byContradiction (fun q => no_ring (U := fun x => decide (x < m) && !(z x)) hk h9 hn g (fun x hx => ?_) e ?_)
    · rw [Bool.and_eq_true, decide_eq_true_iff, Bool.not_eq_true'] at hx
      refine ⟨hx.1, fun v hv => ?_⟩
      have nz : ¬ z x = true := by rw [hx.2]; decide
      have vn : v < n := by
        have := hn x hx.1
        rcases hv with w | w <;> rw [w] <;> omega
      have pv : gPd pd o1 o2 x v := Classical.byContradiction (fun w => nz (hend x hx.1 ⟨v, hv, w⟩))
      refine ⟨pv, ?_⟩
      obtain ⟨k1, k2, -⟩ := gOt_ne g vn pv
      rw [Bool.and_eq_true, decide_eq_true_iff, Bool.not_eq_true', Bool.eq_false_iff]
      refine ⟨k2, fun w => nz ?_⟩
      have cl := a1 v vn pv.1
      unfold gOt at w
      by_cases y1 : o1 v = x
      · rw [if_pos y1] at w; rw [← y1]; exact cl.mpr w
      · rw [if_neg y1] at w; rw [← pv.2.resolve_left y1]; exact cl.mp w
    · rw [Bool.and_eq_true, decide_eq_true_iff, Bool.not_eq_true', Bool.eq_false_iff]
      exact ⟨he, q⟩
  have ez : z = fun e => decide (e < m) := by
    funext e
    rw [Bool.eq_iff_iff, decide_eq_true_iff]
    exact ⟨a2 e, all e⟩
  rw [← ez]
  exact ⟨a1, a2, a3, a4⟩
end CHAIN3
