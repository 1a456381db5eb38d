/-! the reference: doCross -/
theorem turn_v {x y : Nat} (hx : x < 8) (hy : y < 8) : (if 4 < (((nI y - nI x) + 12) - ((nI y - nI x) + 12) / 8 * 8) then ((((nI y - nI x) + 12) - ((nI y - nI x) + 12) / 8 * 8) - 8) else (((nI y - nI x) + 12) - ((nI y - nI x) + 12) / 8 * 8)) = nI ((y + 15 - x) % 8) - 3 := by
  have h : ∀ x y : Fin 8, (if 4 < (((nI y.1 - nI x.1) + 12) - ((nI y.1 - nI x.1) + 12) / 8 * 8) then ((((nI y.1 - nI x.1) + 12) - ((nI y.1 - nI x.1) + 12) / 8 * 8) - 8) else (((nI y.1 - nI x.1) + 12) - ((nI y.1 - nI x.1) + 12) / 8 * 8)) = nI ((y.1 + 15 - x.1) % 8) - 3 := by decide +kernel
  exact h ⟨x, hx⟩ ⟨y, hy⟩
theorem turn_lt {a b : Nat} (ha : a < 8) (hb : b < 8) : (nI a - 3 < nI b - 3) ↔ a < b := by
  have h : ∀ a b : Fin 8, (nI a.1 - 3 < nI b.1 - 3) ↔ a.1 < b.1 := by decide +kernel
  exact h ⟨a, ha⟩ ⟨b, hb⟩
theorem turn_n {h : Nat → Nat → Int32} {n m : Nat} {A B v : Nat → Nat} (hs : mSt h n m A B) (hv : mDr h 214 m v) {e f s : Nat} (he : e < m) (hf : f < m) (hs8 : s < n) : p_Mo_turnOf h (nI e) (nI f) (nI s) ∧ f_Mo_turnOf h (nI e) (nI f) (nI s) = nI (ptu A v s e f) - 3 := by
  have W1 := wayFrom_n hs hv he hs8
  have W2 := wayFrom_n hs hv hf hs8
  refine ⟨⟨W2.1, W1.1⟩, ?_⟩
  unfold f_Mo_turnOf ptu
  rw [W1.2, W2.2]
  exact turn_v (pwf_lt (hv.2 e he).2) (pwf_lt (hv.2 f hf).2)
theorem ptu_lt (A v : Nat → Nat) (s e f : Nat) : ptu A v s e f < 8 := Nat.mod_lt _ (by omega)
/-- left of another line, by a row of orders -/
def gLf (h : Nat → Nat → Int32) (q1 l j e : Nat) : Bool := pis (fun i => h q1 (3 * e + i)) (nI l) (nI j) (pbc (h 221 e).toNatClampNeg)
theorem isLeft_n {h : Nat → Nat → Int32} {q1 : Nat} (t1 : ewTj q1 9 = true) (t2 : kL q1 = 21) {e c l j : Nat} (he : e < 7) (hc : c < 8) (hl : h 221 e = nI c) {b : Prop} {_ : Decidable b} : p_Mo_isLeft h q1 (nI e) (nI l) (nI j) (if b then 1 else 0) ∧ f_Mo_isLeft h q1 (nI e) (nI l) (nI j) (if b then 1 else 0) = bI (gLf h q1 l j e == decide b) := by
  refine ⟨⟨e, c, he, hc, rfl, hl, t1, t2⟩, ?_⟩
  unfold f_Mo_isLeft gLf
  rw [nI_clamp (show e < 2 ^ 31 by omega)]
  generalize pis (fun i => h q1 (3 * e + i)) (nI l) (nI j) (pbc (h 221 e).toNatClampNeg) = L
  by_cases q : b
  · rw [if_pos q, decide_eq_true q]; cases L <;> decide
  · rw [if_neg q, decide_eq_false q]; cases L <;> decide
theorem bI_inj (a b : Bool) : (bI a = bI b) ↔ a = b := by cases a <;> cases b <;> decide
theorem bI_d (p : Prop) (_ : Decidable p) : (if p then (1 : Int32) else 0) = bI (decide p) := by
  by_cases q : p
  · rw [if_pos q, decide_eq_true q]; rfl
  · rw [if_neg q, decide_eq_false q]; rfl
theorem bne_t (a b : Bool) : (a != b) = true ↔ ¬ a = b := by cases a <;> cases b <;> decide
set_option maxHeartbeats 1000000 in
theorem doCross_n {h : Nat → Nat → Int32} {n m : Nat} {A B : Nat → Nat} {k : Nat} {F T v : Nat → Nat} (hN : mNt h n m A B k F T) (hv : mDr h 214 m v) {q1 : Nat} (t1 : ewTj q1 9 = true) (t2 : kL q1 = 21) (hL : ∀ e, e < m → ∃ c, c < 8 ∧ h 221 e = nI c) {s l j : Nat} (hs : s < n) (hl : l < k) (hj : j < k) (hg : phg A B m F T s l j ≠ 99) : p_Mo_doCross h q1 (nI s) (nI l) (nI j) ∧ (f_Mo_doCross h q1 (nI s) (nI l) (nI j) ↔ pcr A B v (gLf h q1 l j) s (pe0 A B m F T l s) (pe1 A B m F T l s) (pe0 A B m F T j s) (pe1 A B m F T j s) = true) := by
  obtain ⟨u1, u2, u3, u4⟩ := pw_n hN hl hs
  obtain ⟨v1, v2, v3, v4⟩ := pw_n hN hj hs
  have hst := hN.1
  obtain ⟨a1, h8, a3, h7, a5, hn, hk⟩ := id hst
  unfold phg at hg
  have p1 : pw A B m F T l s ≠ 0 := by intro q; rw [if_pos q] at hg; exact hg rfl
  rw [if_neg p1] at hg
  have p2 : pw A B m F T j s ≠ 0 := by intro q; rw [if_pos q] at hg; exact hg rfl
  rw [if_neg p2] at hg
  obtain ⟨⟨i1, i2⟩, e1, e2, b1, b2, -⟩ := u4 p1
  obtain ⟨⟨i3, i4⟩, f1, f2, c1, c2, -⟩ := v4 p2
  unfold p_Mo_doCross f_Mo_doCross
  rw [u1, v1, e1, e2, f1, f2]
  generalize pe0 A B m F T l s = a at *
  generalize pe1 A B m F T l s = b at *
  generalize pe0 A B m F T j s = c at *
  generalize pe1 A B m F T j s = g at *
  have fc : ((nI a = nI c) ∨ (nI a = nI g)) ↔ (a = c ∨ a = g) := by rw [nI_eq (by omega) (by omega), nI_eq (by omega) (by omega)]
  have sc : ((nI b = nI c) ∨ (nI b = nI g)) ↔ (b = c ∨ b = g) := by rw [nI_eq (by omega) (by omega), nI_eq (by omega) (by omega)]
  have oa : (if nI c = nI a then nI g else nI c) = nI (if c = a then g else c) := by
    by_cases q : c = a
    · rw [if_pos q, if_pos (by rw [q])]
    · rw [if_neg q, if_neg (fun y => q ((nI_eq (by omega) (by omega)).mp y))]
  have ob : (if nI c = nI b then nI g else nI c) = nI (if c = b then g else c) := by
    by_cases q : c = b
    · rw [if_pos q, if_pos (by rw [q])]
    · rw [if_neg q, if_neg (fun y => q ((nI_eq (by omega) (by omega)).mp y))]
  have la : (if c = a then g else c) < m := by split <;> omega
  have lb : (if c = b then g else c) < m := by split <;> omega
  have lmn : (if a < b then a else b) < m := by split <;> omega
  have lmx : (if a < b then b else a) < m := by split <;> omega
  have ca : (nI a).toNatClampNeg = a := nI_clamp (by omega)
  have cb : (nI b).toNatClampNeg = b := nI_clamp (by omega)
  have in7 : ∀ e, e < m → vp_in (nI e) 7 := fun e he => nI_inB (by omega) (by decide)
  rw [oa, ob, nI_ite _ _ (show a < 2 ^ 31 by omega) (show b < 2 ^ 31 by omega), nI_ite _ _ (show a < 2 ^ 31 by omega) (show b < 2 ^ 31 by omega), ca, cb, nI_clamp (show (if a < b then a else b) < 2 ^ 31 by omega), nI_clamp (show (if a < b then b else a) < 2 ^ 31 by omega)]
  have dB : ∀ e, e < m → ((h 196 e = nI s) ↔ B e = s) := fun e he => by have := hn e he; rw [(a5 e he).2, nI_eq (by omega) (by omega)]
  have dA : ∀ e, e < m → ((h 195 e = nI s) ↔ A e = s) := fun e he => by have := hn e he; rw [(a5 e he).1, nI_eq (by omega) (by omega)]
  have il : ∀ e, e < m → ∀ (x : Prop) (_ : Decidable x), p_Mo_isLeft h q1 (nI e) (nI l) (nI j) (if x then 1 else 0) ∧ f_Mo_isLeft h q1 (nI e) (nI l) (nI j) (if x then 1 else 0) = bI (gLf h q1 l j e == decide x) := fun e he x _ => by
    obtain ⟨c0, hc0, hc1⟩ := hL e he
    exact isLeft_n t1 t2 (by omega) hc0 hc1
  have tn : ∀ e f, e < m → f < m → p_Mo_turnOf h (nI e) (nI f) (nI s) ∧ f_Mo_turnOf h (nI e) (nI f) (nI s) = nI (ptu A v s e f) - 3 := fun e f he hf => turn_n hst hv he hf hs
  constructor
  · exact ⟨u2, v2, i1, i2, i3, i4, fun _ => in7 b b2, fun _ => (il b b2 _ _).1, fun _ => (tn b a b2 b1).1, fun _ => (tn b _ b2 lb).1, fun _ _ => in7 a b1, fun _ _ => (il a b1 _ _).1, fun _ _ => (tn a b b1 b2).1, fun _ _ => (tn a _ b1 la).1, fun _ _ => in7 _ lmn, fun _ _ => (il _ lmn _ _).1, fun _ _ => in7 _ lmx, fun _ _ => (il _ lmx _ _).1⟩
  · rw [(il a b1 _ _).2, (il b b2 _ _).2, (il _ lmn _ _).2, (il _ lmx _ _).2, (tn a b b1 b2).2, (tn b a b2 b1).2, (tn a _ b1 la).2, (tn b _ b2 lb).2, bI_d, bI_d, bI_inj, bI_inj, bI_inj, fc, sc]
    have x1 : decide (nI (ptu A v s a (if c = a then g else c)) - 3 < nI (ptu A v s a b) - 3) = decide (ptu A v s a (if c = a then g else c) < ptu A v s a b) := by rw [decide_eq_decide]; exact turn_lt (ptu_lt _ _ _ _ _) (ptu_lt _ _ _ _ _)
    have x2 : decide (nI (ptu A v s b (if c = b then g else c)) - 3 < nI (ptu A v s b a) - 3) = decide (ptu A v s b (if c = b then g else c) < ptu A v s b a) := by rw [decide_eq_decide]; exact turn_lt (ptu_lt _ _ _ _ _) (ptu_lt _ _ _ _ _)
    have y1 : decide (h 196 a = nI s) = decide (B a = s) := by rw [decide_eq_decide]; exact dB a b1
    have y2 : decide (h 196 b = nI s) = decide (B b = s) := by rw [decide_eq_decide]; exact dB b b2
    have y3 : decide (h 196 (if a < b then a else b) = nI s) = decide (B (if a < b then a else b) = s) := by rw [decide_eq_decide]; exact dB _ lmn
    have y4 : decide (h 195 (if a < b then b else a) = nI s) = decide (A (if a < b then b else a) = s) := by rw [decide_eq_decide]; exact dA _ lmx
    rw [x1, x2, y1, y2, y3, y4]
    unfold pcr
    by_cases w1 : a = c ∨ a = g
    · rw [if_pos w1]
      by_cases w2 : b = c ∨ b = g
      · rw [if_pos w2, bne_t]
        exact ⟨fun z => by rcases z with ⟨-, ⟨-, z⟩ | ⟨z, -⟩⟩ | ⟨z, -⟩; exact z; exact absurd w2 z; exact absurd w1 z, fun z => Or.inl ⟨w1, Or.inl ⟨w2, z⟩⟩⟩
      · rw [if_neg w2, bne_t]
        exact ⟨fun z => by rcases z with ⟨-, ⟨z, -⟩ | ⟨-, z⟩⟩ | ⟨z, -⟩; exact absurd z w2; exact z; exact absurd w1 z, fun z => Or.inl ⟨w1, Or.inr ⟨w2, z⟩⟩⟩
    · rw [if_neg w1, bne_t]
      exact ⟨fun z => by rcases z with ⟨z, -⟩ | ⟨-, z⟩; exact absurd z w1; exact z, fun z => Or.inr ⟨w1, z⟩⟩
