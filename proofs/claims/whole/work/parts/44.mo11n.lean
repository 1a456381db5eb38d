/-! the reference: bendsOf -/
/-- the k-th bend of the way from f to t -/
def pb1 (w : Nat) (A B : Nat → Nat) (m : Nat) (v : Nat → Nat) (f t k : Nat) : Nat := pct w (pap ((pwf A v (tpe A B m t f k) (tnd A B m t f (k + 1)) + 4) % 8) (pwf A v (tpe A B m t f (k + 1)) (tnd A B m t f (k + 1))))
def pbd (w : Nat) (A B : Nat → Nat) (m : Nat) (v : Nat → Nat) (f t : Nat) : Nat := sm (pb1 w A B m v f t) (tds A B m f t - 1)
def gF (h : Nat → Nat → Int32) (l : Nat) : Nat := if l < gK h then (h 197 l).toNatClampNeg else 0
def gT (h : Nat → Nat → Int32) (l : Nat) : Nat := if l < gK h then (h 198 l).toNatClampNeg else 0
def gW (h : Nat → Nat → Int32) : Nat := (h 202 23).toNatClampNeg
def mN (h : Nat → Nat → Int32) : Prop := mNt h (gN h) (gM h) (gA h) (gB h) (gK h) (gF h) (gT h)
theorem mNt.g {h : Nat → Nat → Int32} {n m : Nat} {A B : Nat → Nat} {k : Nat} {F T : Nat → Nat} (a : mNt h n m A B k F T) : gN h = n ∧ gM h = m ∧ gA h = A ∧ gB h = B ∧ gK h = k ∧ gF h = F ∧ gT h = T := by
  obtain ⟨a1, a2, ⟨a3, a4⟩, a5, a6⟩ := a
  obtain ⟨e1, e2, e3, e4⟩ := a1.g a2
  have ek : gK h = k := by unfold gK; rw [a3, nI_clamp (by omega)]
  have h8 := a1.2.1
  refine ⟨e1, e2, e3, e4, ek, ?_, ?_⟩
  · funext l
    unfold gF
    rw [ek]
    split
    · rename_i q; have z := a6 l q; rw [z.2.2.2.2.1, nI_clamp (by have := z.1; omega)]
    · rename_i q; exact (a5 l (by omega)).1.symm
  · funext l
    unfold gT
    rw [ek]
    split
    · rename_i q; have z := a6 l q; rw [z.2.2.2.2.2.1, nI_clamp (by have := z.2.1; omega)]
    · rename_i q; exact (a5 l (by omega)).2.symm
theorem mNt.N {h : Nat → Nat → Int32} {n m : Nat} {A B : Nat → Nat} {k : Nat} {F T : Nat → Nat} (a : mNt h n m A B k F T) : mN h := by
  obtain ⟨e1, e2, e3, e4, e5, e6, e7⟩ := a.g
  unfold mN
  rw [e1, e2, e3, e4, e5, e6, e7]
  exact a
def f_Mo_bendsOf (h : Nat → Nat → Int32) (q1 : Nat) (x2 : Int32) : Int32 := nI (pbd (gW h) (gA h) (gB h) (gM h) (gV h q1) (gF h x2.toNatClampNeg) (gT h x2.toNatClampNeg))
def p_Mo_bendsOf (h : Nat → Nat → Int32) (q1 : Nat) (x2 : Int32) : Prop := mN h ∧ mDr h q1 (gM h) (gV h q1) ∧ (h 202 23 = nI (gW h) ∧ gW h < 4) ∧ ∃ l, l < gK h ∧ x2 = nI l
/-- the way's stretches -/
theorem tpe_at {A B : Nat → Nat} {n m s t : Nat} (hk : tOK A B m) (hn : ∀ e, e < m → A e < n ∧ B e < n) (hc : plb A B m s = plb A B m t) (hs : s < n) {k : Nat} (h : k < tds A B m s t) : tpe A B m t s k < m ∧ ((A (tpe A B m t s k) = tnd A B m t s k ∧ B (tpe A B m t s k) = tnd A B m t s (k + 1)) ∨ (B (tpe A B m t s k) = tnd A B m t s k ∧ A (tpe A B m t s k) = tnd A B m t s (k + 1))) := by
  obtain ⟨i1, i2, i3⟩ := tnd_at hk hn hc hs k (by omega)
  have hne : tnd A B m t s k ≠ t := by intro q; rw [q, tds_0] at i2; omega
  obtain ⟨f1, f2⟩ := tfx_at hk i1 hne
  refine ⟨f1, ?_⟩
  have e : tnd A B m t s (k + 1) = tst A B m t (tnd A B m t s k) := tnd_l A B m t s k
  unfold tst at e
  rw [if_neg hne] at e
  have hab : A (tpe A B m t s k) ≠ B (tpe A B m t s k) := fun q => hk _ f1 (by unfold tpe at q; rw [q])
  rw [e]
  unfold tpe at *
  rcases f2 with ⟨g, -⟩ | ⟨g, -⟩
  · exact Or.inl ⟨g, by rw [if_pos g]⟩
  · exact Or.inr ⟨g, by rw [if_neg (fun q => hab (q.trans g.symm))]⟩
theorem s_Mo_bendsOf {X : Nat × (Nat → Int32)} {d : Nat} {Q : Option Value → eS → Prop} {cu sp n1 n2 n3 n4 : Nat} (q1 : Nat) (x2 : Int32) (h : Nat → Nat → Int32) (hp : p_Mo_bendsOf h q1 x2) (z9 : Q (some (.int (f_Mo_bendsOf h q1 x2))) (229, (ewR cu sp n1 n2 n3 n4), h)) : ewP X Mo_bendsOf (d + 1) 0 [some (.ref 194), some (.ref q1), some (.int x2), none, none, none, none] [] (0, 0) (229, (ewR cu sp n1 n2 n3 n4), h) Q := by
  obtain ⟨hN, hv, ⟨hw, hw4⟩, l, hl, rfl⟩ := hp
  unfold f_Mo_bendsOf pbd at z9
  unfold mN at hN
  obtain ⟨hs, -, ⟨-, hk3⟩, -, hls⟩ := hN
  obtain ⟨l1, l2, l3, l4, l5, l6, l7, l8, l9⟩ := hls l hl
  obtain ⟨a1, h8, a3, h7, a5, hn, hk⟩ := id hs
  rw [nI_clamp (by omega)] at z9
  generalize gN h = n at *
  generalize gM h = m at *
  generalize gA h = A at *
  generalize gB h = B at *
  generalize gV h q1 = v at *
  generalize gW h = w at *
  generalize gF h l = f at *
  generalize gT h l = t at *
  have hD := tds_lt hk hn l1 l2 l4
  have hD0 : 0 < tds A B m f t := by
    rcases Nat.eq_zero_or_pos (tds A B m f t) with q | q
    · exact absurd (tds_eq0 hk q) l3
    · exact q
  have m8 : (8 : Int32) * nI l = nI (8 * l) := nI_mu 8 l
  have cl : (nI l).toNatClampNeg = l := nI_clamp (by omega)
  have inl : vp_in (nI l) 3 := nI_inB (by omega) (by decide)
  refine v_Mo_bendsOf_0 q1 (nI l) h ?_
  refine upto (H := Unit) (P := fun _ _ => True) (E := fun k _ => ewP X Mo_bendsOf (d + 1) 5 [some (.ref 194), some (.ref q1), some (.int (nI l)), some (.int (nI (sm (pb1 w A B m v f t) k))), some (.int (nI (k + 1))), none, none] [] (0, 0) (229, ewR cu sp n1 n2 n3 n4, h) Q) (tds A B m f t - 1) ?_ ?_ 0 () (by omega) trivial
  · intro k _ hk2 _ next
    have next := next () trivial
    have hlt : nI (k + 1) < h 199 (nI l).toNatClampNeg := by rw [cl, l7]; exact nI_lt (by omega) (by omega)
    have s1 : (8 : Int32) * nI l + nI (k + 1) = nI (8 * l + (k + 1)) := by rw [m8, nI_ad]
    have s2 : (8 : Int32) * nI l + nI (k + 1) - 1 = nI (8 * l + k) := by rw [s1, ← Nat.add_assoc, nI_pred]
    have c1 : (nI (8 * l + (k + 1))).toNatClampNeg = 8 * l + (k + 1) := nI_clamp (by omega)
    have c2 : (nI (8 * l + k)).toNatClampNeg = 8 * l + k := nI_clamp (by omega)
    have nd := l8 (k + 1) (by omega)
    have p0 := l9 k (by omega)
    have p1 := l9 (k + 1) (by omega)
    have t0 := tpe_at hk hn l4 l1 (k := k) (by omega)
    have t1 := tpe_at hk hn l4 l1 (k := k + 1) (by omega)
    have hnd := (tnd_at hk hn l4 l1 (k + 1) (by omega)).2.2
    have W0 := wayFrom_n hs hv t0.1 hnd
    have W1 := wayFrom_n hs hv t1.1 hnd
    have v0 : pwf A v (tpe A B m t f k) (tnd A B m t f (k + 1)) < 8 := pwf_lt (hv.2 _ t0.1).2
    have v1 : pwf A v (tpe A B m t f (k + 1)) (tnd A B m t f (k + 1)) < 8 := pwf_lt (hv.2 _ t1.1).2
    refine v_Mo_bendsOf_5 q1 _ _ _ h inl (fun q => absurd hlt q) (fun _ => by rw [s1]; exact nI_inB (by omega) (by decide)) (fun _ => by rw [s2]; exact nI_inB (by omega) (by decide)) (fun _ => ?_) (fun _ => ?_) (fun _ => ?_)
    · rw [s2, s1, c1, c2, p0, nd]; exact W0.1
    · rw [s1, c1, p1, nd]; exact W1.1
    · rw [s2, s1, c1, c2, p0, p1, nd, W0.2, W1.2, plus4_n v0, apart_n (by omega) v1, hw, counted_n hw4 (pap_le (by omega) v1), nI_ad, ← nI_succ]
      exact next
  · intro _ _
    have hlt : ¬ nI (tds A B m f t - 1 + 1) < h 199 (nI l).toNatClampNeg := by rw [cl, l7]; exact nI_nlt (by omega) (by omega)
    exact v_Mo_bendsOf_5 q1 _ _ _ h inl (fun _ => z9) (fun q => absurd q hlt) (fun q => absurd q hlt) (fun q => absurd q hlt) (fun q => absurd q hlt) (fun q => absurd q hlt)
