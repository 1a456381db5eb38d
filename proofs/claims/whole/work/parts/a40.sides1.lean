/-! the class's Sides: what lookAtStations lays out -/
theorem or1_3 {f : Nat → Bool} {p : Nat} (hp : p < 3) : nI (msk f 3) ||| nI (2 ^ p) = nI (msk (fun i => f i || decide (i = p)) 3) := by
  rw [or_nI]
  congr 1
  apply Nat.eq_of_testBit_eq
  intro i
  rw [Nat.testBit_or, msk_bit, msk_bit, Nat.testBit_two_pow]
  by_cases q : i < 3
  · rw [decide_eq_true q, Bool.true_and, Bool.true_and]
    congr 1
    rw [decide_eq_decide]; exact eq_comm
  · rw [decide_eq_false q, Bool.false_and, Bool.false_and, Bool.false_or, decide_eq_false (by omega)]
section SD
variable (A B dv : Nat → Nat) (n m k : Nat) (F T : Nat → Nat)
/-- as far as stations and pairs D have been looked at -/
def cSd (D : Nat → Nat → Bool) (h : Nat → Nat → Int32) : Prop :=
  (∀ e, e < m → h 177 (2 * e) = nI (msk (fun p => D (A e) p && xH A B m k F T (A e) p e) 3) ∧ h 177 (2 * e + 1) = nI (msk (fun p => D (B e) p && xH A B m k F T (B e) p e) 3) ∧ h 178 (2 * e) = nI (msk (fun p => D (A e) p && (xH A B m k F T (A e) p e && (xL A B dv m F T (A e) p e == true))) 3) ∧ h 178 (2 * e + 1) = nI (msk (fun p => D (B e) p && (xH A B m k F T (B e) p e && (xL A B dv m F T (B e) p e == false))) 3)) ∧
  (∀ s, s < n → h 180 s = nI (msk (fun p => D s p && xP A B m k F T s p) 3) ∧ h 181 s = nI (msk (fun p => D s p && (xP A B m k F T s p && xS A B m F T s p)) 3)) ∧
  ∀ s p, s < n → p < 3 → D s p = true → xP A B m k F T s p = true → (h 182 s = nI (pe0 A B m F T (pq0 p) s) ∧ h 183 s = nI (pe1 A B m F T (pq0 p) s)) ∨ (h 182 s = nI (pe1 A B m F T (pq0 p) s) ∧ h 183 s = nI (pe0 A B m F T (pq0 p) s))
end SD
def sFr (h h' : Nat → Nat → Int32) : Prop := ∀ q, q ≠ 177 → q ≠ 178 → q ≠ 180 → q ≠ 181 → q ≠ 182 → q ≠ 183 → h' q = h q
section SD2
variable {A B dv : Nat → Nat} {n m k : Nat} {F T : Nat → Nat}
/-- nothing to be seen -/
theorem cSd_no {D : Nat → Nat → Bool} {h : Nat → Nat → Int32} {s p : Nat} (c : cSd A B dv n m k F T D h) (h1 : xP A B m k F T s p = false) (h2 : ∀ e, xH A B m k F T s p e = false) : cSd A B dv n m k F T (fun s' p' => D s' p' || decide (s' = s ∧ p' = p)) h := by
  obtain ⟨c1, c2, c3⟩ := c
  have z : ∀ s' p' (b : Bool), (s' = s ∧ p' = p → b = false) → ((D s' p' || decide (s' = s ∧ p' = p)) && b) = (D s' p' && b) := fun s' p' b hb => by
    by_cases q : s' = s ∧ p' = p
    · rw [hb q, Bool.and_false, Bool.and_false]
    · rw [decide_eq_false q, Bool.or_false]
  refine ⟨fun e he => ?_, fun s' hs => ?_, fun s' p' hs hp hd hx => ?_⟩
  · have w : ∀ s' p', s' = s ∧ p' = p → xH A B m k F T s' p' e = false := fun s' p' q => by rw [q.1, q.2]; exact h2 e
    obtain ⟨e1, e2, e3, e4⟩ := c1 e he
    refine ⟨e1.trans ?_, e2.trans ?_, e3.trans ?_, e4.trans ?_⟩ <;> congr 1 <;> refine msk_cg 3 (fun p' _ => (z _ _ _ (fun q => ?_)).symm)
    · exact w _ _ q
    · exact w _ _ q
    · rw [w _ _ q]; rfl
    · rw [w _ _ q]; rfl
  · obtain ⟨e1, e2⟩ := c2 s' hs
    refine ⟨e1.trans ?_, e2.trans ?_⟩ <;> congr 1 <;> refine msk_cg 3 (fun p' _ => (z _ _ _ (fun q => ?_)).symm)
    · rw [q.1, q.2]; exact h1
    · rw [q.1, q.2, h1]; rfl
  · rw [Bool.or_eq_true, decide_eq_true_iff] at hd
    rcases hd with hd | ⟨q1, q2⟩
    · exact c3 s' p' hs hp hd hx
    · rw [q1, q2, h1] at hx; cases hx
/-- pairs that go on together at one station go along the same stretches -/
theorem xP_set {s p : Nat} (h : xP A B m k F T s p = true) (ok : cOK n m A B k F T) (h9 : m ≤ 90) (hp : p < 3) : (pe0 A B m F T (pq0 p) s = pe0 A B m F T (pq1 p) s ∧ pe1 A B m F T (pq0 p) s = pe1 A B m F T (pq1 p) s) ∨ (pe0 A B m F T (pq0 p) s = pe1 A B m F T (pq1 p) s ∧ pe1 A B m F T (pq0 p) s = pe0 A B m F T (pq1 p) s) := by
  have pl := pq_lt hp
  obtain ⟨th, s0, s1⟩ := xP_iff.mp h
  obtain ⟨-, -, ab, -⟩ := thr_at ok h9 (show pq0 p < k by have := th.1; omega) th.2.1
  rcases s0 with q0 | q0 <;> rcases s1 with q1 | q1
  · exact absurd (q0.trans q1.symm) ab
  · exact Or.inl ⟨q0, q1⟩
  · exact Or.inr ⟨q0, q1⟩
  · exact absurd (q0.trans q1.symm) ab
theorem xP_uni {s p p' : Nat} (ok : cOK n m A B k F T) (h9 : m ≤ 90) (hp : p < 3) (hp' : p' < 3) (h : xP A B m k F T s p = true) (h' : xP A B m k F T s p' = true) : (pe0 A B m F T (pq0 p) s = pe0 A B m F T (pq0 p') s ∧ pe1 A B m F T (pq0 p) s = pe1 A B m F T (pq0 p') s) ∨ (pe0 A B m F T (pq0 p) s = pe1 A B m F T (pq0 p') s ∧ pe1 A B m F T (pq0 p) s = pe0 A B m F T (pq0 p') s) := by
  have a := xP_set h ok h9 hp
  have b := xP_set h' ok h9 hp'
  rcases (show p = 0 ∨ p = 1 ∨ p = 2 by omega) with rfl | rfl | rfl <;> rcases (show p' = 0 ∨ p' = 1 ∨ p' = 2 by omega) with rfl | rfl | rfl <;> simp only [show pq0 0 = 0 from rfl, show pq1 0 = 1 from rfl, show pq0 1 = 0 from rfl, show pq1 1 = 2 from rfl, show pq0 2 = 1 from rfl, show pq1 2 = 2 from rfl] at a b ⊢ <;> rcases a with ⟨a1, a2⟩ | ⟨a1, a2⟩ <;> rcases b with ⟨b1, b2⟩ | ⟨b1, b2⟩ <;> first | exact Or.inl ⟨by omega, by omega⟩ | exact Or.inr ⟨by omega, by omega⟩ | simp
/-- together -/
theorem cSd_P {D : Nat → Nat → Bool} {h h' : Nat → Nat → Int32} {s p : Nat} (ok : cOK n m A B k F T) (h9 : m ≤ 90) (c : cSd A B dv n m k F T D h) (hs : s < n) (hp : p < 3) (h1 : xP A B m k F T s p = true) (e2 : h' 182 = upd (h 182) s (nI (pe0 A B m F T (pq0 p) s))) (e3 : h' 183 = upd (h 183) s (nI (pe1 A B m F T (pq0 p) s))) (e0 : h' 180 = upd (h 180) s (h 180 s ||| nI (2 ^ p))) (e1 : h' 181 = if xS A B m F T s p = true then upd (h 181) s (h 181 s ||| nI (2 ^ p)) else h 181) (e7 : h' 177 = h 177) (e8 : h' 178 = h 178) : cSd A B dv n m k F T (fun s' p' => D s' p' || decide (s' = s ∧ p' = p)) h' := by
  have h2 : ∀ e, xH A B m k F T s p e = false := fun e => by
    rw [Bool.eq_false_iff]
    intro z
    obtain ⟨-, s0, s1⟩ := xP_iff.mp h1
    rcases (xH_iff.mp z).2 with w | w
    · exact w.2.1 s1
    · exact w.1 s0
  obtain ⟨c1, c2, c3⟩ := c
  have z : ∀ s' p' (b : Bool), (s' = s ∧ p' = p → b = false) → ((D s' p' || decide (s' = s ∧ p' = p)) && b) = (D s' p' && b) := fun s' p' b hb => by
    by_cases q : s' = s ∧ p' = p
    · rw [hb q, Bool.and_false, Bool.and_false]
    · rw [decide_eq_false q, Bool.or_false]
  refine ⟨fun e he => ?_, fun s' hs' => ?_, fun s' p' hs' hp' hd hx => ?_⟩
  · have w : ∀ s' p', s' = s ∧ p' = p → xH A B m k F T s' p' e = false := fun s' p' q => by rw [q.1, q.2]; exact h2 e
    rw [e7, e8]
    obtain ⟨d1, d2, d3, d4⟩ := c1 e he
    refine ⟨d1.trans ?_, d2.trans ?_, d3.trans ?_, d4.trans ?_⟩ <;> congr 1 <;> refine msk_cg 3 (fun p' _ => (z _ _ _ (fun q => ?_)).symm)
    · exact w _ _ q
    · exact w _ _ q
    · rw [w _ _ q]; rfl
    · rw [w _ _ q]; rfl
  · obtain ⟨d1, d2⟩ := c2 s' hs'
    rw [e0, e1]
    by_cases q : s' = s
    · subst q
      refine ⟨?_, ?_⟩
      · show (if s' = s' then h 180 s' ||| nI (2 ^ p) else _) = _
        rw [if_pos rfl, d1, or1_3 hp]
        congr 1
        refine msk_cg 3 (fun p' _ => ?_)
        dsimp only
        by_cases y : p' = p
        · rw [y, h1]; simp
        · rw [decide_eq_false y, decide_eq_false (fun w => y w.2), Bool.or_false, Bool.or_false]
      · by_cases x : xS A B m F T s' p = true
        · rw [if_pos x]
          show (if s' = s' then h 181 s' ||| nI (2 ^ p) else _) = _
          rw [if_pos rfl, d2, or1_3 hp]
          congr 1
          refine msk_cg 3 (fun p' _ => ?_)
          dsimp only
          by_cases y : p' = p
          · rw [y, h1, x]; simp
          · rw [decide_eq_false y, decide_eq_false (fun w => y w.2), Bool.or_false, Bool.or_false]
        · rw [if_neg x, d2]
          congr 1
          refine msk_cg 3 (fun p' _ => (z _ _ _ (fun w => ?_)).symm)
          rw [w.2]
          rw [Bool.not_eq_true] at x
          rw [x, Bool.and_false]
    · refine ⟨?_, ?_⟩
      · show (if s' = s then _ else h 180 s') = _
        rw [if_neg q, d1]
        congr 1
        exact msk_cg 3 (fun p' _ => (by dsimp only; rw [decide_eq_false (fun w => q w.1), Bool.or_false]))
      · have : (if xS A B m F T s p = true then upd (h 181) s (h 181 s ||| nI (2 ^ p)) else h 181) s' = h 181 s' := by
          split
          · show (if s' = s then _ else h 181 s') = _
            rw [if_neg q]
          · rfl
        rw [this, d2]
        congr 1
        exact msk_cg 3 (fun p' _ => (by dsimp only; rw [decide_eq_false (fun w => q w.1), Bool.or_false]))
  · rw [e2, e3]
    show ((if s' = s then _ else h 182 s') = _ ∧ (if s' = s then _ else h 183 s') = _) ∨ ((if s' = s then _ else h 182 s') = _ ∧ (if s' = s then _ else h 183 s') = _)
    by_cases q : s' = s
    · subst q
      rw [if_pos rfl, if_pos rfl]
      rcases xP_uni ok h9 hp hp' h1 hx with ⟨u1, u2⟩ | ⟨u1, u2⟩
      · exact Or.inl ⟨by rw [u1], by rw [u2]⟩
      · exact Or.inr ⟨by rw [u1], by rw [u2]⟩
    · rw [if_neg q, if_neg q]
      rw [Bool.or_eq_true, decide_eq_true_iff] at hd
      exact c3 s' p' hs' hp' (hd.resolve_right (fun w => q w.1)) hx
/-- parting -/
theorem cSd_H {D : Nat → Nat → Bool} {h h' : Nat → Nat → Int32} {s p e0 : Nat} (ok : cOK n m A B k F T) (h9 : m ≤ 90) (c : cSd A B dv n m k F T D h) (hp : p < 3) (h1 : xH A B m k F T s p e0 = true) (f7 : h' 177 = upd (h 177) (if A e0 = s then 2 * e0 else 2 * e0 + 1) (h 177 (if A e0 = s then 2 * e0 else 2 * e0 + 1) ||| nI (2 ^ p))) (f8 : h' 178 = if (xL A B dv m F T s p e0 == decide (A e0 = s)) = true then upd (h 178) (if A e0 = s then 2 * e0 else 2 * e0 + 1) (h 178 (if A e0 = s then 2 * e0 else 2 * e0 + 1) ||| nI (2 ^ p)) else h 178) (f0 : h' 180 = h 180) (f1 : h' 181 = h 181) (f2 : h' 182 = h 182) (f3 : h' 183 = h 183) : cSd A B dv n m k F T (fun s' p' => D s' p' || decide (s' = s ∧ p' = p)) h' := by
  obtain ⟨em, es, sn⟩ := xH_s ok h9 hp h1
  have hab : ∀ e, e < m → A e ≠ B e := fun e he y => ok.2.1 e he (by rw [y])
  have hP : xP A B m k F T s p = false := by
    rw [Bool.eq_false_iff]
    intro z
    obtain ⟨-, s0, s1⟩ := xP_iff.mp z
    rcases (xH_iff.mp h1).2 with w | w
    · exact w.2.1 s1
    · exact w.1 s0
  have uni : ∀ e, xH A B m k F T s p e = true → e = e0 := fun e z => by
    rcases (xH_iff.mp h1).2 with ⟨a1, a2, a3⟩ | ⟨a1, a2, a3⟩ <;> rcases (xH_iff.mp z).2 with ⟨b1, b2, b3⟩ | ⟨b1, b2, b3⟩
    · exact b3.symm.trans a3
    · exact absurd a1 b1
    · exact absurd b1 a1
    · exact b3.symm.trans a3
  obtain ⟨c1, c2, c3⟩ := c
  have z : ∀ s' p' (b : Bool), (s' = s ∧ p' = p → b = false) → ((D s' p' || decide (s' = s ∧ p' = p)) && b) = (D s' p' && b) := fun s' p' b hb => by
    by_cases q : s' = s ∧ p' = p
    · rw [hb q, Bool.and_false, Bool.and_false]
    · rw [decide_eq_false q, Bool.or_false]
  refine ⟨fun e he => ?_, fun s' hs' => ?_, fun s' p' hs' hp' hd hx => ?_⟩
  · obtain ⟨d1, d2, d3, d4⟩ := c1 e he
    -- one place of a row
    have one : ∀ (row row' : Nat → Int32) (q v : Nat) (G : Nat → Bool) (ch : Bool), row q = nI (msk (fun p' => D v p' && G p') 3) → (∀ p', G p' = true → v = s → p' = p → e = e0 ∧ q = (if A e0 = s then 2 * e0 else 2 * e0 + 1) ∧ ch = true) → (q = (if A e0 = s then 2 * e0 else 2 * e0 + 1) → e = e0 → v = s ∧ (ch = true → G p = true)) → (q = (if A e0 = s then 2 * e0 else 2 * e0 + 1) → e = e0) → row' = (if ch = true then upd row (if A e0 = s then 2 * e0 else 2 * e0 + 1) (row (if A e0 = s then 2 * e0 else 2 * e0 + 1) ||| nI (2 ^ p)) else row) → row' q = nI (msk (fun p' => (D v p' || decide (v = s ∧ p' = p)) && G p') 3) := by
      intro row row' q v G ch r1 r2 r3 r4 r5
      rw [r5]
      by_cases y : ch = true ∧ q = (if A e0 = s then 2 * e0 else 2 * e0 + 1)
      · obtain ⟨v1, v2⟩ := r3 y.2 (r4 y.2)
        rw [if_pos y.1]
        show (if q = _ then _ else _) = _
        rw [if_pos y.2, ← y.2, r1, or1_3 hp]
        congr 1
        refine msk_cg 3 (fun p' _ => ?_)
        by_cases w : p' = p
        · rw [w, v2 y.1, decide_eq_true (⟨v1, rfl⟩ : v = s ∧ p = p)]; simp
        · rw [decide_eq_false w, decide_eq_false (fun u => w u.2), Bool.or_false, Bool.or_false]
      · have same : (if ch = true then upd row (if A e0 = s then 2 * e0 else 2 * e0 + 1) (row (if A e0 = s then 2 * e0 else 2 * e0 + 1) ||| nI (2 ^ p)) else row) q = row q := by
          by_cases w : ch = true
          · rw [if_pos w]
            show (if q = _ then _ else row q) = _
            rw [if_neg (fun u => y ⟨w, u⟩)]
          · rw [if_neg w]
        rw [same, r1]
        congr 1
        refine msk_cg 3 (fun p' _ => (z _ _ _ (fun u => ?_)).symm)
        rw [Bool.eq_false_iff]
        intro w
        obtain ⟨g1, g2, g3⟩ := r2 p' w u.1 u.2
        exact y ⟨g3, g2⟩
    have hA0 := hab e0 em
    have f7' : h' 177 = if true = true then upd (h 177) (if A e0 = s then 2 * e0 else 2 * e0 + 1) (h 177 (if A e0 = s then 2 * e0 else 2 * e0 + 1) ||| nI (2 ^ p)) else h 177 := by rw [if_pos rfl]; exact f7
    have qA : ∀ {e}, 2 * e = (if A e0 = s then 2 * e0 else 2 * e0 + 1) → e = e0 ∧ A e0 = s := fun {e} w => by
      by_cases y : A e0 = s
      · rw [if_pos y] at w; exact ⟨by omega, y⟩
      · rw [if_neg y] at w; omega
    have qB : ∀ {e}, 2 * e + 1 = (if A e0 = s then 2 * e0 else 2 * e0 + 1) → e = e0 ∧ B e0 = s := fun {e} w => by
      by_cases y : A e0 = s
      · rw [if_pos y] at w; omega
      · rw [if_neg y] at w; exact ⟨by omega, es.resolve_left y⟩
    refine ⟨one (h 177) _ _ (A e) (fun p' => xH A B m k F T (A e) p' e) true d1 (fun p' w v1 v2 => ?_) (fun w v1 => ?_) (fun w => (qA w).1) f7', one (h 177) _ _ (B e) (fun p' => xH A B m k F T (B e) p' e) true d2 (fun p' w v1 v2 => ?_) (fun w v1 => ?_) (fun w => (qB w).1) f7', one (h 178) _ _ (A e) (fun p' => xH A B m k F T (A e) p' e && (xL A B dv m F T (A e) p' e == true)) _ d3 (fun p' w v1 v2 => ?_) (fun w v1 => ?_) (fun w => (qA w).1) f8, one (h 178) _ _ (B e) (fun p' => xH A B m k F T (B e) p' e && (xL A B dv m F T (B e) p' e == false)) _ d4 (fun p' w v1 v2 => ?_) (fun w v1 => ?_) (fun w => (qB w).1) f8⟩
    · rw [v1, v2] at w
      have := uni e w
      rw [this] at v1
      exact ⟨this, by rw [if_pos v1, this], rfl⟩
    · obtain ⟨w1, w2⟩ := qA w
      rw [v1]; exact ⟨w2, fun _ => by rw [w2]; exact h1⟩
    · rw [v1, v2] at w
      have := uni e w
      rw [this] at v1
      exact ⟨this, by rw [if_neg (fun y => hA0 (y.trans v1.symm)), this], rfl⟩
    · obtain ⟨w1, w2⟩ := qB w
      rw [v1]; exact ⟨w2, fun _ => by rw [w2]; exact h1⟩
    · rw [v1, v2, Bool.and_eq_true] at w
      have := uni e w.1
      rw [this] at v1 w
      refine ⟨this, by rw [if_pos v1, this], ?_⟩
      rw [decide_eq_true v1]; exact w.2
    · obtain ⟨w1, w2⟩ := qA w
      rw [v1]
      refine ⟨w2, fun u => ?_⟩
      rw [decide_eq_true w2] at u
      rw [w2, h1, u]; rfl
    · rw [v1, v2, Bool.and_eq_true] at w
      have := uni e w.1
      rw [this] at v1 w
      have nA : ¬ A e0 = s := fun y => hA0 (y.trans v1.symm)
      refine ⟨this, by rw [if_neg nA, this], ?_⟩
      rw [decide_eq_false nA]; exact w.2
    · obtain ⟨w1, w2⟩ := qB w
      rw [v1]
      refine ⟨w2, fun u => ?_⟩
      have nA : ¬ A e0 = s := fun y => hA0 (y.trans w2.symm)
      rw [decide_eq_false nA] at u
      rw [w2, h1, u]; rfl
  · obtain ⟨d1, d2⟩ := c2 s' hs'
    rw [f0, f1]
    refine ⟨d1.trans ?_, d2.trans ?_⟩ <;> congr 1 <;> refine msk_cg 3 (fun p' _ => (z _ _ _ (fun q => ?_)).symm)
    · rw [q.1, q.2]; exact hP
    · rw [q.1, q.2, hP]; rfl
  · rw [f2, f3]
    rw [Bool.or_eq_true, decide_eq_true_iff] at hd
    rcases hd with hd | ⟨q1, q2⟩
    · exact c3 s' p' hs' hp' hd hx
    · rw [q1, q2, hP] at hx; cases hx
end SD2
