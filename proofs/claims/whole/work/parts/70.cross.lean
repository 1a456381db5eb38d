/-! the reference: hangsOn, doCross -/
section CROSS
variable (A B : Nat → Nat) (m : Nat) (F T : Nat → Nat)
/-- a station's place within a line; the stretches ahead of it and behind it -/
def pw (l s : Nat) : Nat := pwi A B m (F l) (T l) s (tds A B m (F l) (T l) - 1)
def pe0 (l s : Nat) : Nat := tpe A B m (T l) (F l) (pw A B m F T l s - 1)
def pe1 (l s : Nat) : Nat := tpe A B m (T l) (F l) (pw A B m F T l s)
/-- on which stretch it hangs (99: none) -/
def phg (s l j : Nat) : Nat := if pw A B m F T l s = 0 then 99 else if pw A B m F T j s = 0 then 99 else
  if pe0 A B m F T l s = pe0 A B m F T j s ∨ pe0 A B m F T l s = pe1 A B m F T j s then
    (if pe1 A B m F T l s = pe0 A B m F T j s ∨ pe1 A B m F T l s = pe1 A B m F T j s then (if pe1 A B m F T l s < pe0 A B m F T l s then pe0 A B m F T l s else pe1 A B m F T l s) else pe0 A B m F T l s)
  else (if pe1 A B m F T l s = pe0 A B m F T j s ∨ pe1 A B m F T l s = pe1 A B m F T j s then pe1 A B m F T l s else 99)
end CROSS
/-- by how many eighths a stretch turns behind another one, and 3 -/
def ptu (A v : Nat → Nat) (s e f : Nat) : Nat := (pwf A v f s + 15 - pwf A v e s) % 8
/-- whether two lines cross: a, b the stretches of the one, c, g those of the other; Lf e: the one is left of the other in the order of e -/
def pcr (A B v : Nat → Nat) (Lf : Nat → Bool) (s a b c g : Nat) : Bool :=
  if a = c ∨ a = g then
    (if b = c ∨ b = g then ((Lf (if a < b then a else b) == decide (B (if a < b then a else b) = s)) != (Lf (if a < b then b else a) == decide (A (if a < b then b else a) = s)))
     else ((Lf a == decide (B a = s)) != decide (ptu A v s a (if c = a then g else c) < ptu A v s a b)))
  else ((Lf b == decide (B b = s)) != decide (ptu A v s b (if c = b then g else c) < ptu A v s b a))
theorem pwi_at {A B : Nat → Nat} {m f t s : Nat} : ∀ k, pwi A B m f t s k ≤ k ∧ (pwi A B m f t s k ≠ 0 → tnd A B m t f (pwi A B m f t s k) = s)
  | 0 => ⟨Nat.le_refl _, fun h => absurd rfl h⟩
  | k + 1 => by
    unfold pwi
    split
    · rename_i q; exact ⟨Nat.le_refl _, fun _ => q⟩
    · have := pwi_at (A := A) (B := B) (m := m) (f := f) (t := t) (s := s) k
      exact ⟨by omega, this.2⟩
/-- what the heap holds of a line at a station -/
theorem pw_n {h : Nat → Nat → Int32} {n m : Nat} {A B : Nat → Nat} {k : Nat} {F T : Nat → Nat} (hN : mNt h n m A B k F T) {l s : Nat} (hl : l < k) (hs : s < n) : f_Mo_within h (nI l) (nI s) = nI (pw A B m F T l s) ∧ p_Mo_within h (nI l) (nI s) ∧ pw A B m F T l s < 8 ∧ (pw A B m F T l s ≠ 0 → (vp_in (8 * nI l + nI (pw A B m F T l s) - 1) 24 ∧ vp_in (8 * nI l + nI (pw A B m F T l s)) 24) ∧ h 200 (8 * nI l + nI (pw A B m F T l s) - 1).toNatClampNeg = nI (pe0 A B m F T l s) ∧ h 200 (8 * nI l + nI (pw A B m F T l s)).toNatClampNeg = nI (pe1 A B m F T l s) ∧ pe0 A B m F T l s < m ∧ pe1 A B m F T l s < m ∧ pe0 A B m F T l s ≠ pe1 A B m F T l s ∧ (A (pe0 A B m F T l s) = s ∨ B (pe0 A B m F T l s) = s) ∧ (A (pe1 A B m F T l s) = s ∨ B (pe1 A B m F T l s) = s)) := by
  obtain ⟨g1, g2, g3, g4, g5, g6, g7⟩ := hN.g
  have hN2 := hN.N
  obtain ⟨⟨a1, h8, a3, h7, a5, hn, hk⟩, -, ⟨a4, hk3⟩, -, hls⟩ := hN
  obtain ⟨l1, l2, l3, l4, l5, l6, l7, l8, l9⟩ := hls l hl
  have hD := tds_lt hk hn l1 l2 l4
  have pa := pwi_at (A := A) (B := B) (m := m) (f := F l) (t := T l) (s := s) (tds A B m (F l) (T l) - 1)
  refine ⟨?_, ⟨hN2, l, s, by rw [g5]; exact hl, by rw [g1]; exact hs, rfl, rfl⟩, ?_, fun hp => ?_⟩
  · unfold f_Mo_within pw
    rw [nI_clamp (by omega), nI_clamp (by omega), g2, g3, g4, g6, g7]
  · have : pw A B m F T l s ≤ tds A B m (F l) (T l) - 1 := pa.1
    omega
  · have p1 : pw A B m F T l s ≤ tds A B m (F l) (T l) - 1 := pa.1
    have p2 : tnd A B m (T l) (F l) (pw A B m F T l s) = s := pa.2 hp
    unfold pe0 pe1
    generalize pw A B m F T l s = p at *
    have s1 : (8 : Int32) * nI l + nI p = nI (8 * l + p) := by rw [show (8 : Int32) * nI l = nI (8 * l) from nI_mu 8 l, nI_ad]
    have s2 : nI (8 * l + p) - 1 = nI (8 * l + (p - 1)) := by rw [show 8 * l + p = (8 * l + (p - 1)) + 1 by omega, nI_pred]
    have t0 := tpe_at hk hn l4 l1 (k := p - 1) (by omega)
    have t1 := tpe_at hk hn l4 l1 (k := p) (by omega)
    rw [show p - 1 + 1 = p by omega] at t0
    rw [s1, s2]
    refine ⟨⟨nI_inB (by omega) (by decide), nI_inB (by omega) (by decide)⟩, by rw [nI_clamp (by omega)]; exact l9 _ (by omega), by rw [nI_clamp (by omega)]; exact l9 _ (by omega), t0.1, t1.1, ?_, ?_, ?_⟩
    · intro q
      -- the same stretch twice: one comes back
      have d0 := (tnd_at hk hn l4 l1 (p - 1) (by omega)).2.1
      have d2 := (tnd_at hk hn l4 l1 (p + 1) (by omega)).2.1
      have : tnd A B m (T l) (F l) (p - 1) = tnd A B m (T l) (F l) (p + 1) := by
        have x0 := t0.2
        have x1 := t1.2
        rw [q] at x0
        have d1 := (tnd_at hk hn l4 l1 p (by omega)).2.1
        rcases x0 with ⟨u1, u2⟩ | ⟨u1, u2⟩ <;> rcases x1 with ⟨v1, v2⟩ | ⟨v1, v2⟩
        · rw [u2] at v2; rw [v2] at d1; omega
        · rw [← u1, ← v2]
        · rw [← u1, ← v2]
        · rw [u2] at v2; rw [v2] at d1; omega
      rw [this] at d0
      omega
    · rcases t0.2 with ⟨u1, u2⟩ | ⟨u1, u2⟩
      · exact Or.inr (u2.trans p2)
      · exact Or.inl (u2.trans p2)
    · rcases t1.2 with ⟨u1, u2⟩ | ⟨u1, u2⟩
      · exact Or.inl (u1.trans p2)
      · exact Or.inr (u1.trans p2)
theorem ite_cg {α : Type} {p q : Prop} {_ : Decidable p} {_ : Decidable q} (h : p ↔ q) {a b c d : α} (h1 : q → a = c) (h2 : ¬ q → b = d) : (if p then a else b) = (if q then c else d) := by
  by_cases z : q
  · rw [if_pos z, if_pos (h.mpr z)]; exact h1 z
  · rw [if_neg z, if_neg (fun y => z (h.mp y))]; exact h2 z
theorem hangsOn_n {h : Nat → Nat → Int32} {n m : Nat} {A B : Nat → Nat} {k : Nat} {F T : Nat → Nat} (hN : mNt h n m A B k F T) {s l j : Nat} (hs : s < n) (hl : l < k) (hj : j < k) : p_Mo_hangsOn h (nI s) (nI l) (nI j) ∧ f_Mo_hangsOn h (nI s) (nI l) (nI j) = (if phg A B m F T s l j = 99 then -1 else nI (phg A B m F T s l j)) := by
  obtain ⟨u1, u2, u3, u4⟩ := pw_n hN hl hs
  obtain ⟨v1, v2, v3, v4⟩ := pw_n hN hj hs
  have h7 := hN.1.2.2.2.1
  have z1 : (nI (pw A B m F T l s) = 0) ↔ pw A B m F T l s = 0 := nI_eq (b := 0) (by omega) (by omega)
  have z2 : (nI (pw A B m F T j s) = 0) ↔ pw A B m F T j s = 0 := nI_eq (b := 0) (by omega) (by omega)
  constructor
  · unfold p_Mo_hangsOn
    rw [u1, v1]
    exact ⟨u2, v2, fun p q => (u4 (fun y => p (z1.mpr y))).1.1, fun p q => (u4 (fun y => p (z1.mpr y))).1.2, fun p q => (v4 (fun y => q (z2.mpr y))).1.1, fun p q => (v4 (fun y => q (z2.mpr y))).1.2⟩
  · unfold f_Mo_hangsOn phg
    rw [u1, v1]
    by_cases p1 : pw A B m F T l s = 0
    · rw [if_pos (z1.mpr p1), if_pos p1, if_pos rfl]
    · rw [if_neg (fun y => p1 (z1.mp y)), if_neg p1]
      by_cases p2 : pw A B m F T j s = 0
      · rw [if_pos (z2.mpr p2), if_pos p2, if_pos rfl]
      · rw [if_neg (fun y => p2 (z2.mp y)), if_neg p2]
        obtain ⟨-, e1, e2, b1, b2, -⟩ := u4 p1
        obtain ⟨-, f1, f2, c1, c2, -⟩ := v4 p2
        rw [e1, e2, f1, f2]
        generalize pe0 A B m F T l s = a at *
        generalize pe1 A B m F T l s = b at *
        generalize pe0 A B m F T j s = c at *
        generalize pe1 A B m F T j s = g at *
        have fc : ((nI a = nI c) ∨ (nI a = nI g)) ↔ (a = c ∨ a = g) := by rw [nI_eq (by omega) (by omega), nI_eq (by omega) (by omega)]
        have sc : ((nI b = nI c) ∨ (nI b = nI g)) ↔ (b = c ∨ b = g) := by rw [nI_eq (by omega) (by omega), nI_eq (by omega) (by omega)]
        have ba : nI b < nI a ↔ b < a := nI_ltb (by omega) (by omega)
        by_cases q1 : a = c ∨ a = g
        · rw [if_pos (fc.mpr q1), if_pos q1]
          by_cases q2 : b = c ∨ b = g
          · rw [if_pos (sc.mpr q2), if_pos q2]
            by_cases q3 : b < a
            · rw [if_pos (ba.mpr q3), if_pos q3, if_neg (by omega)]
            · rw [if_neg (fun y => q3 (ba.mp y)), if_neg q3, if_neg (by omega)]
          · rw [if_neg (fun y => q2 (sc.mp y)), if_neg q2, if_neg (by omega)]
        · rw [if_neg (fun y => q1 (fc.mp y)), if_neg q1]
          by_cases q2 : b = c ∨ b = g
          · rw [if_pos (sc.mpr q2), if_pos q2, if_neg (by omega)]
          · rw [if_neg (fun y => q2 (sc.mp y)), if_neg q2, if_pos rfl]
