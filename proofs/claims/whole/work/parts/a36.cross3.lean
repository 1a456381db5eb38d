/-! crossings by stations and pairs -/
section CX
variable (A B dv : Nat → Nat) (m k : Nat) (F T : Nat → Nat)
/-- both lines of a pair go through s; they share the stretch ahead, behind -/
abbrev xth (s p : Nat) : Prop := pq1 p < k ∧ pw A B m F T (pq0 p) s ≠ 0 ∧ pw A B m F T (pq1 p) s ≠ 0
abbrev xs0 (s p : Nat) : Prop := pe0 A B m F T (pq0 p) s = pe0 A B m F T (pq1 p) s ∨ pe0 A B m F T (pq0 p) s = pe1 A B m F T (pq1 p) s
abbrev xs1 (s p : Nat) : Prop := pe1 A B m F T (pq0 p) s = pe0 A B m F T (pq1 p) s ∨ pe1 A B m F T (pq0 p) s = pe1 A B m F T (pq1 p) s
/-- the pair goes on together / parts at s, coming along e -/
def xP (s p : Nat) : Bool := decide (xth A B m k F T s p ∧ xs0 A B m F T s p ∧ xs1 A B m F T s p)
def xH (s p e : Nat) : Bool := decide (xth A B m k F T s p ∧ ((xs0 A B m F T s p ∧ ¬ xs1 A B m F T s p ∧ pe0 A B m F T (pq0 p) s = e) ∨ (¬ xs0 A B m F T s p ∧ xs1 A B m F T s p ∧ pe1 A B m F T (pq0 p) s = e)))
/-- where the other line goes on that comes along e -/
def xG (s p e : Nat) : Nat := if pe0 A B m F T (pq1 p) s = e then pe1 A B m F T (pq1 p) s else pe0 A B m F T (pq1 p) s
def xO (s p e : Nat) : Nat := if pe0 A B m F T (pq0 p) s = e then pe1 A B m F T (pq0 p) s else pe0 A B m F T (pq0 p) s
/-- the lesser line turns more to the left behind e -/
def xL (s p e : Nat) : Bool := decide (ptu A dv s e (xG A B m F T s p e) < ptu A dv s e (xO A B m F T s p e))
def xS (s p : Nat) : Bool := decide (A (pe0 A B m F T (pq0 p) s) = A (pe1 A B m F T (pq0 p) s) ∨ B (pe0 A B m F T (pq0 p) s) = B (pe1 A B m F T (pq0 p) s))
/-- whether they cross: going on together; parting -/
def xcP (L : Nat → Nat → Bool) (s p : Nat) : Bool := xP A B m k F T s p && ((L (pe0 A B m F T (pq0 p) s) p != L (pe1 A B m F T (pq0 p) s) p) != xS A B m F T s p)
def xcH (L : Nat → Nat → Bool) (s p e : Nat) : Bool := xH A B m k F T s p e && ((L e p != decide (A e = s)) != xL A B dv m F T s p e)
end CX
section CX2
variable {A B dv : Nat → Nat} {n m k : Nat} {F T : Nat → Nat}
theorem thr_at (ok : cOK n m A B k F T) (h9 : m ≤ 90) {l s : Nat} (hl : l < k) (h : pw A B m F T l s ≠ 0) : (pe0 A B m F T l s < m ∧ (A (pe0 A B m F T l s) = s ∨ B (pe0 A B m F T l s) = s)) ∧ (pe1 A B m F T l s < m ∧ (A (pe1 A B m F T l s) = s ∨ B (pe1 A B m F T l s) = s)) ∧ pe0 A B m F T l s ≠ pe1 A B m F T l s ∧ s < n := by
  obtain ⟨hn, hk, hls⟩ := ok
  obtain ⟨f1, f2, f3, f4⟩ := hls l hl
  have w1 := pw_le (A := A) (B := B) (m := m) (F := F) (T := T) l s
  have w2 : tnd A B m (T l) (F l) (pw A B m F T l s) = s := (pwi_at _).2 h
  unfold pe0 pe1
  generalize pw A B m F T l s = x at *
  obtain ⟨t1, t2⟩ := tpe_at hk hn f4 f1 (show x - 1 < tds A B m (F l) (T l) by omega)
  obtain ⟨u1, u2⟩ := tpe_at hk hn f4 f1 (show x < tds A B m (F l) (T l) by omega)
  rw [show x - 1 + 1 = x by omega, w2] at t2
  rw [w2] at u2
  have ne := tpe_ne hk h9 hn f4 f1 (show x - 1 + 1 < tds A B m (F l) (T l) by omega)
  rw [show x - 1 + 1 = x by omega] at ne
  have sn := (tnd_at hk hn f4 f1 x (by omega)).2.2
  rw [w2] at sn
  exact ⟨⟨t1, t2.elim (fun z => Or.inr z.2) (fun z => Or.inl z.2)⟩, ⟨u1, u2.elim (fun z => Or.inl z.1) (fun z => Or.inr z.1)⟩, ne, sn⟩
theorem xP_iff {s p : Nat} : xP A B m k F T s p = true ↔ xth A B m k F T s p ∧ xs0 A B m F T s p ∧ xs1 A B m F T s p := by
  unfold xP; exact decide_eq_true_iff
theorem xH_iff {s p e : Nat} : xH A B m k F T s p e = true ↔ xth A B m k F T s p ∧ ((xs0 A B m F T s p ∧ ¬ xs1 A B m F T s p ∧ pe0 A B m F T (pq0 p) s = e) ∨ (¬ xs0 A B m F T s p ∧ xs1 A B m F T s p ∧ pe1 A B m F T (pq0 p) s = e)) := by
  unfold xH; exact decide_eq_true_iff
theorem bxor4 (a b c d : Bool) : ((a == b) != (c == d)) = ((a != c) != (b != d)) := by cases a <;> cases b <;> cases c <;> cases d <;> rfl
theorem pq_lt {p : Nat} (hp : p < 3) : pq0 p < pq1 p ∧ pq1 p < 3 := by
  have hh : ∀ p : Fin 3, pq0 p.1 < pq1 p.1 ∧ pq1 p.1 < 3 := by decide
  exact hh ⟨p, hp⟩
/-- the reference's crossings -/
theorem pcx_n (ok : cOK n m A B k F T) (h9 : m ≤ 90) {o : Nat → Nat} {s p : Nat} (hp : p < 3) (hk : pq1 p < k) : pcx m A B k F T dv o s (pq0 p) (pq1 p) = (if xcP A B m k F T (fun e p => pLf m A B k F T o (pq0 p) (pq1 p) e) s p = true then 1 else 0) + sm (fun e => if xcH A B dv m k F T (fun e p => pLf m A B k F T o (pq0 p) (pq1 p) e) s p e = true then 1 else 0) m := by
  have pl := pq_lt hp
  generalize hL : (fun e p => pLf m A B k F T o (pq0 p) (pq1 p) e) = L
  have Lp : pLf m A B k F T o (pq0 p) (pq1 p) = fun e => L e p := by rw [← hL]
  unfold pcx
  rw [Lp]
  -- nothing at all
  have none : ¬ (xth A B m k F T s p ∧ (xs0 A B m F T s p ∨ xs1 A B m F T s p)) → (if xcP A B m k F T L s p = true then 1 else 0) + sm (fun e => if xcH A B dv m k F T L s p e = true then 1 else 0) m = 0 := by
    intro q
    have e1 : xP A B m k F T s p = false := by rw [Bool.eq_false_iff]; exact fun z => q ⟨(xP_iff.mp z).1, Or.inl (xP_iff.mp z).2.1⟩
    have e2 : ∀ e, xH A B m k F T s p e = false := fun e => by
      rw [Bool.eq_false_iff]
      intro z
      obtain ⟨z1, z2⟩ := xH_iff.mp z
      exact q ⟨z1, z2.imp (fun w => w.1) (fun w => w.2.1)⟩
    unfold xcP xcH
    rw [e1, sm_cg m (g := fun _ => 0) (fun e _ => by rw [e2 e]; rfl), sm_z]
    rfl
  by_cases q0 : pw A B m F T (pq0 p) s = 0
  · rw [none (fun z => z.1.2.1 q0), if_neg]
    rintro ⟨z, -⟩
    unfold phg at z
    rw [if_pos q0] at z
    exact z rfl
  · by_cases q1 : pw A B m F T (pq1 p) s = 0
    · rw [none (fun z => z.1.2.2 q1), if_neg]
      rintro ⟨z, -⟩
      unfold phg at z
      rw [if_neg q0, if_pos q1] at z
      exact z rfl
    · have th : xth A B m k F T s p := ⟨hk, q0, q1⟩
      obtain ⟨⟨a1, a2⟩, ⟨b1, b2⟩, ab, -⟩ := thr_at ok h9 (show pq0 p < k by omega) q0
      have hA : ∀ e, e < m → A e ≠ B e := fun e he y => ok.2.1 e he (by rw [y])
      by_cases s0 : xs0 A B m F T s p
      · by_cases s1 : xs1 A B m F T s p
        · -- together
          have eP : xP A B m k F T s p = true := xP_iff.mpr ⟨th, s0, s1⟩
          have eH : ∀ e, xH A B m k F T s p e = false := fun e => by
            rw [Bool.eq_false_iff]
            intro z
            rcases (xH_iff.mp z).2 with w | w
            · exact w.2.1 s1
            · exact w.1 s0
          have r0 : sm (fun e => if xcH A B dv m k F T L s p e = true then 1 else 0) m = 0 := by
            unfold xcH
            rw [sm_cg m (g := fun _ => 0) (fun e _ => by rw [eH e]; rfl), sm_z]
          rw [r0, Nat.add_zero]
          have hg : phg A B m F T s (pq0 p) (pq1 p) ≠ 99 := by
            unfold phg
            rw [if_neg q0, if_neg q1, if_pos s0, if_pos s1]
            split <;> omega
          refine ite_cg ?_ (fun _ => rfl) (fun _ => rfl)
          have ec : pcr A B dv (fun e => L e p) s (pe0 A B m F T (pq0 p) s) (pe1 A B m F T (pq0 p) s) (pe0 A B m F T (pq1 p) s) (pe1 A B m F T (pq1 p) s) = ((L (pe0 A B m F T (pq0 p) s) p != L (pe1 A B m F T (pq0 p) s) p) != xS A B m F T s p) := by
            unfold pcr xS
            rw [if_pos s0, if_pos s1]
            generalize pe0 A B m F T (pq0 p) s = x at *
            generalize pe1 A B m F T (pq0 p) s = y at *
            have hx := hA x a1
            have hy := hA y b1
            have key : ∀ u v, (A u = s ∨ B u = s) → (A v = s ∨ B v = s) → A u ≠ B u → A v ≠ B v → ((L u p == decide (B u = s)) != (L v p == decide (A v = s))) = ((L u p != L v p) != decide (A u = A v ∨ B u = B v)) := by
              intro u v hu hv nu nv
              rw [bxor4]
              congr 1
              rw [Bool.eq_iff_iff, bne_iff_ne, Ne, decide_eq_decide, decide_eq_true_iff]
              omega
            by_cases w : x < y
            · rw [if_pos w, if_pos w, key x y a2 b2 hx hy]
            · rw [if_neg w, if_neg w, key y x b2 a2 hy hx]
              congr 1
              · cases L x p <;> cases L y p <;> rfl
              · rw [decide_eq_decide]; exact ⟨fun z => z.imp Eq.symm Eq.symm, fun z => z.imp Eq.symm Eq.symm⟩
          unfold xcP
          rw [ec, eP, Bool.true_and]
          exact ⟨fun z => z.2, fun z => ⟨hg, z⟩⟩
        · -- part, coming along the stretch ahead
          have eP : xP A B m k F T s p = false := by rw [Bool.eq_false_iff]; exact fun z => s1 (xP_iff.mp z).2.2
          have eH : ∀ e, xH A B m k F T s p e = decide (e = pe0 A B m F T (pq0 p) s) := fun e => by
            rw [Bool.eq_iff_iff, xH_iff, decide_eq_true_iff]
            constructor
            · rintro ⟨-, w | w⟩
              · exact w.2.2.symm
              · exact absurd s0 w.1
            · exact fun w => ⟨th, Or.inl ⟨s0, s1, w.symm⟩⟩
          have hg : phg A B m F T s (pq0 p) (pq1 p) ≠ 99 := by
            unfold phg
            rw [if_neg q0, if_neg q1, if_pos s0, if_neg s1]
            omega
          unfold xcP xcH
          rw [eP, Bool.false_and, if_neg (show ¬ false = true by decide), Nat.zero_add]
          have e1 : ∀ e, e < m → (if (xH A B m k F T s p e && ((L e p != decide (A e = s)) != xL A B dv m F T s p e)) = true then 1 else 0) = (if e = pe0 A B m F T (pq0 p) s then (if ((L e p != decide (A e = s)) != xL A B dv m F T s p e) = true then 1 else 0) else 0) := by
            intro e _
            rw [eH e]
            by_cases w : e = pe0 A B m F T (pq0 p) s
            · rw [if_pos w, decide_eq_true w, Bool.true_and]
            · rw [if_neg w, decide_eq_false w, Bool.false_and, if_neg (show ¬ false = true by decide)]
          rw [sm_cg m e1, sm_pick, if_pos a1]
          refine ite_cg ?_ (fun _ => rfl) (fun _ => rfl)
          have ec : pcr A B dv (fun e => L e p) s (pe0 A B m F T (pq0 p) s) (pe1 A B m F T (pq0 p) s) (pe0 A B m F T (pq1 p) s) (pe1 A B m F T (pq1 p) s) = ((L (pe0 A B m F T (pq0 p) s) p != decide (A (pe0 A B m F T (pq0 p) s) = s)) != xL A B dv m F T s p (pe0 A B m F T (pq0 p) s)) := by
            unfold pcr xL xO xG
            have hx := hA _ a1
            rw [if_pos s0, if_neg s1, if_pos rfl]
            congr 1
            have : decide (B (pe0 A B m F T (pq0 p) s) = s) = !decide (A (pe0 A B m F T (pq0 p) s) = s) := by
              rw [Bool.eq_iff_iff, decide_eq_true_iff, Bool.not_eq_true', decide_eq_false_iff_not]
              omega
            rw [this]
            dsimp only
            cases L (pe0 A B m F T (pq0 p) s) p <;> cases decide (A (pe0 A B m F T (pq0 p) s) = s) <;> rfl
          rw [ec]
          exact ⟨fun z => z.2, fun z => ⟨hg, z⟩⟩
      · by_cases s1 : xs1 A B m F T s p
        · have eP : xP A B m k F T s p = false := by rw [Bool.eq_false_iff]; exact fun z => s0 (xP_iff.mp z).2.1
          have eH : ∀ e, xH A B m k F T s p e = decide (e = pe1 A B m F T (pq0 p) s) := fun e => by
            rw [Bool.eq_iff_iff, xH_iff, decide_eq_true_iff]
            constructor
            · rintro ⟨-, w | w⟩
              · exact absurd w.1 s0
              · exact w.2.2.symm
            · exact fun w => ⟨th, Or.inr ⟨s0, s1, w.symm⟩⟩
          have hg : phg A B m F T s (pq0 p) (pq1 p) ≠ 99 := by
            unfold phg
            rw [if_neg q0, if_neg q1, if_neg s0, if_pos s1]
            omega
          unfold xcP xcH
          rw [eP, Bool.false_and, if_neg (show ¬ false = true by decide), Nat.zero_add]
          have e1 : ∀ e, e < m → (if (xH A B m k F T s p e && ((L e p != decide (A e = s)) != xL A B dv m F T s p e)) = true then 1 else 0) = (if e = pe1 A B m F T (pq0 p) s then (if ((L e p != decide (A e = s)) != xL A B dv m F T s p e) = true then 1 else 0) else 0) := by
            intro e _
            rw [eH e]
            by_cases w : e = pe1 A B m F T (pq0 p) s
            · rw [if_pos w, decide_eq_true w, Bool.true_and]
            · rw [if_neg w, decide_eq_false w, Bool.false_and, if_neg (show ¬ false = true by decide)]
          rw [sm_cg m e1, sm_pick, if_pos b1]
          refine ite_cg ?_ (fun _ => rfl) (fun _ => rfl)
          have ec : pcr A B dv (fun e => L e p) s (pe0 A B m F T (pq0 p) s) (pe1 A B m F T (pq0 p) s) (pe0 A B m F T (pq1 p) s) (pe1 A B m F T (pq1 p) s) = ((L (pe1 A B m F T (pq0 p) s) p != decide (A (pe1 A B m F T (pq0 p) s) = s)) != xL A B dv m F T s p (pe1 A B m F T (pq0 p) s)) := by
            unfold pcr xL xO xG
            have hx := hA _ b1
            rw [if_neg s0, if_neg (show ¬ pe0 A B m F T (pq0 p) s = pe1 A B m F T (pq0 p) s from ab)]
            congr 1
            have : decide (B (pe1 A B m F T (pq0 p) s) = s) = !decide (A (pe1 A B m F T (pq0 p) s) = s) := by
              rw [Bool.eq_iff_iff, decide_eq_true_iff, Bool.not_eq_true', decide_eq_false_iff_not]
              omega
            rw [this]
            dsimp only
            cases L (pe1 A B m F T (pq0 p) s) p <;> cases decide (A (pe1 A B m F T (pq0 p) s) = s) <;> rfl
          rw [ec]
          exact ⟨fun z => z.2, fun z => ⟨hg, z⟩⟩
        · rw [none (fun z => z.2.elim s0 s1), if_neg]
          rintro ⟨z, -⟩
          unfold phg at z
          rw [if_neg q0, if_neg q1, if_neg s0, if_neg s1] at z
          exact z rfl
end CX2
