/-! the class's Sides: two lines cross alike in either order -/
section SIDES8
variable {X : Nat × (Nat → Int32)} {d : Nat} {cu sp n2 n3 : Nat} {A B dv : Nat → Nat} {n m k : Nat} {F T : Nat → Nat} {c : Nat → Int32}
theorem unl_1 {v : Nat → Nat} (ok : tOK A B m) (hu : pu2 A B v m = true) {e f s : Nat} (he : e < m) (hf : f < e) (h1 : A e = s ∨ B e = s) (h2 : A f = s ∨ B f = s) : pwf A v e s ≠ pwf A v f s := by
  have pu : ∀ k, pu1 A B v e k = true → ∀ f, f < k → puB A B v e f = true := by
    intro k
    induction k with
    | zero => exact fun _ f hf => by omega
    | succ k ih =>
      intro h f hf
      have h : (pu1 A B v e k && puB A B v e k) = true := h
      rw [Bool.and_eq_true] at h
      by_cases q : f = k
      · rw [q]; exact h.2
      · exact ih h.1 f (by omega)
  have p := pu e ((pu2_iff m).mp hu e he) f hf
  have ab : A e ≠ B e := fun y => ok e he (by rw [y])
  have no : ¬ ((A f = A e ∨ B f = A e) ∧ (A f = B e ∨ B f = B e)) := by
    rintro ⟨y1, y2⟩
    have l := plb_ends (A := A) (B := B) hf
    refine ok e he ?_
    rcases y1 with y1 | y1 <;> rcases y2 with y2 | y2
    · exact absurd (y1.symm.trans y2) ab
    · rw [← y1, ← y2]; exact l
    · rw [← y1, ← y2]; exact l.symm
    · exact absurd (y1.symm.trans y2) ab
  unfold puB at p
  by_cases q1 : A f = A e ∨ B f = A e
  · rw [if_pos q1, decide_eq_true_iff] at p
    rcases h1 with y | y
    · rw [← y]; exact p
    · rw [← y] at h2; exact absurd ⟨q1, h2⟩ no
  · rw [if_neg q1] at p
    rcases h1 with y | y
    · rw [← y] at h2; exact absurd h2 q1
    · rw [← y] at h2 ⊢
      rw [if_pos h2, decide_eq_true_iff] at p
      exact p
theorem unl_n {v : Nat → Nat} (ok : tOK A B m) (hu : pu2 A B v m = true) {e f s : Nat} (he : e < m) (hf : f < m) (ne : e ≠ f) (h1 : A e = s ∨ B e = s) (h2 : A f = s ∨ B f = s) : pwf A v e s ≠ pwf A v f s := by
  rcases Nat.lt_or_gt_of_ne ne with q | q
  · exact (unl_1 ok hu hf q h2 h1).symm
  · exact unl_1 ok hu he q h1 h2
theorem pBp_u (h : (pBp c m A B k F T).2.1 ≠ 1000000) : pu2 A B (pBp c m A B k F T).2.2 m = true := by
  have := fdS_I (cn := pcN c) (g := pdi c A B) (st := pst c m A B k F T) (I := fun b => b.2.1 = 1000000 ∨ pu2 A B b.2.2 m = true) (fun b v hb => by
    unfold pst
    by_cases q : pu2 A B v m = true
    · rw [if_pos q]
      by_cases q2 : pco (c 24).toNatClampNeg (c 23).toNatClampNeg A B m v (ptn c A B m) k F T < b.2.1
      · rw [if_pos q2]; exact Or.inr q
      · rw [if_neg q2]; exact hb
    · rw [if_neg q]; exact hb) m 0 (fun _ => 0) (0, 1000000, fun _ => 0) (Or.inl rfl)
  exact this.resolve_left h
theorem ptu_ne {e f g s : Nat} (h8 : ∀ e, dv e < 8) (h : pwf A dv f s ≠ pwf A dv g s) : ptu A dv s e f ≠ ptu A dv s e g := by
  have w : ∀ e, pwf A dv e s < 8 := fun e => by unfold pwf; have := h8 e; split <;> omega
  have := w e
  have := w f
  have := w g
  unfold ptu
  omega
theorem prh_R {L i p : Nat} (hL : L < 8) (hi : i < 6) (hp : p < 3) (h0 : pbt L (pq0 p) = 1) (h1 : pbt L (pq1 p) = 1) : pis (fun j => nI (pol L (prh L i) j)) (nI (pq1 p)) (nI (pq0 p)) (pbc L) = !(sdb i p) := by
  have hh : ∀ (L : Fin 8) (i : Fin 6) (p : Fin 3), pbt L.1 (pq0 p.1) = 1 → pbt L.1 (pq1 p.1) = 1 → pis (fun j => nI (pol L.1 (prh L.1 i.1) j)) (nI (pq1 p.1)) (nI (pq0 p.1)) (pbc L.1) = !(sdb i.1 p.1) := by decide +kernel
  exact hh ⟨L, hL⟩ ⟨i, hi⟩ ⟨p, hp⟩ h0 h1
theorem dlt {x y : Nat} (h : x ≠ y) : decide (x < y) = !(decide (y < x)) := by
  by_cases q : x < y
  · rw [decide_eq_true q, decide_eq_false (by omega)]; rfl
  · rw [decide_eq_false q, decide_eq_true (by omega)]; rfl
theorem bb1 (x y z w : Bool) : (((!x) == y) != ((!z) == w)) = ((x == y) != (z == w)) := by cases x <;> cases y <;> cases z <;> cases w <;> rfl
theorem bb2 (x y z : Bool) : (((!x) == y) != (!z)) = ((x == y) != z) := by cases x <;> cases y <;> cases z <;> rfl
theorem pcr_sym {Lf Lg : Nat → Bool} {s a b c g : Nat} (h8 : ∀ e, dv e < 8) (ab : a ≠ b) (cg : c ≠ g) (un : ∀ e f, (e = a ∨ e = b ∨ e = c ∨ e = g) → (f = a ∨ f = b ∨ f = c ∨ f = g) → e ≠ f → pwf A dv e s ≠ pwf A dv f s) (hL : ∀ e, (e = a ∨ e = b) → (e = c ∨ e = g) → Lg e = !Lf e) (sh : (a = c ∨ a = g) ∨ (b = c ∨ b = g)) : pcr A B dv Lg s c g a b = pcr A B dv Lf s a b c g := by
  by_cases h1 : a = c ∨ a = g <;> by_cases h2 : b = c ∨ b = g
  · have la := hL a (Or.inl rfl) h1
    have lb := hL b (Or.inr rfl) h2
    have h3 : c = a ∨ c = b := by omega
    have h4 : g = a ∨ g = b := by omega
    have mn : (if c < g then c else g) = (if a < b then a else b) := by split <;> split <;> omega
    have mx : (if c < g then g else c) = (if a < b then b else a) := by split <;> split <;> omega
    unfold pcr
    rw [if_pos h1, if_pos h2, if_pos h3, if_pos h4, mn, mx]
    by_cases q : a < b
    · rw [if_pos q, if_pos q, la, lb, bb1]
    · rw [if_neg q, if_neg q, la, lb, bb1]
  · have la := hL a (Or.inl rfl) h1
    unfold pcr
    rw [if_pos h1, if_neg h2]
    by_cases q : a = c
    · subst q
      have u := dlt (ptu_ne (e := a) h8 (un b g (by simp) (by simp) (by omega)))
      rw [if_pos (Or.inl rfl), if_neg (show ¬ (g = a ∨ g = b) by omega), if_pos rfl, if_pos rfl, la, u, bb2]
    · have q' : a = g := h1.resolve_left q
      subst q'
      have u := dlt (ptu_ne (e := a) h8 (un b c (by simp) (by simp) (by omega)))
      rw [if_neg (show ¬ (c = a ∨ c = b) by omega), if_pos rfl, if_neg cg, la, u, bb2]
  · have lb := hL b (Or.inr rfl) h2
    unfold pcr
    rw [if_neg h1]
    by_cases q : b = c
    · subst q
      have u := dlt (ptu_ne (e := b) h8 (un a g (by simp) (by simp) (by omega)))
      rw [if_pos (Or.inr rfl), if_neg (show ¬ (g = a ∨ g = b) by omega), if_pos rfl, if_neg ab, lb, u, bb2]
    · have q' : b = g := h2.resolve_left q
      subst q'
      have u := dlt (ptu_ne (e := b) h8 (un a c (by simp) (by simp) (by omega)))
      rw [if_neg (show ¬ (c = a ∨ c = b) by omega), if_neg ab, if_neg cg, lb, u, bb2]
  · exact absurd sh (fun y => y.elim h1 h2)
theorem phg_99 {s l j : Nat} (a9 : pe0 A B m F T l s < 99) (b9 : pe1 A B m F T l s < 99) (hl : pw A B m F T l s ≠ 0) (hj : pw A B m F T j s ≠ 0) : phg A B m F T s l j ≠ 99 ↔ ((pe0 A B m F T l s = pe0 A B m F T j s ∨ pe0 A B m F T l s = pe1 A B m F T j s) ∨ (pe1 A B m F T l s = pe0 A B m F T j s ∨ pe1 A B m F T l s = pe1 A B m F T j s)) := by
  unfold phg
  rw [if_neg hl, if_neg hj]
  by_cases h1 : pe0 A B m F T l s = pe0 A B m F T j s ∨ pe0 A B m F T l s = pe1 A B m F T j s <;> by_cases h2 : pe1 A B m F T l s = pe0 A B m F T j s ∨ pe1 A B m F T l s = pe1 A B m F T j s
  · rw [if_pos h1, if_pos h2]
    exact ⟨fun _ => Or.inl h1, fun _ => by split <;> omega⟩
  · rw [if_pos h1, if_neg h2]
    exact ⟨fun _ => Or.inl h1, fun _ => by omega⟩
  · rw [if_neg h1, if_pos h2]
    exact ⟨fun _ => Or.inr h2, fun _ => by omega⟩
  · rw [if_neg h1, if_neg h2]
    exact ⟨fun y => absurd rfl y, fun y => absurd y (fun y => y.elim h1 h2)⟩
theorem pcx_sym (ok : cOK n m A B k F T) (h9 : m ≤ 90) (hk3 : k ≤ 3) (h8 : ∀ e, dv e < 8) (hu : pu2 A B dv m = true) {o r : Nat → Nat} (hr : ∀ e, e < m → r e < 6) (h : ∀ e, e < m → o e = prh (pLs m A B k F T e) (r e)) {s p : Nat} (hp : p < 3) (hk : pq1 p < k) : pcx m A B k F T dv o s (pq1 p) (pq0 p) = pcx m A B k F T dv o s (pq0 p) (pq1 p) := by
  have pl := pq_lt hp
  unfold pcx
  by_cases q0 : pw A B m F T (pq0 p) s = 0
  · have z1 : phg A B m F T s (pq0 p) (pq1 p) = 99 := by unfold phg; rw [if_pos q0]
    have z2 : phg A B m F T s (pq1 p) (pq0 p) = 99 := by unfold phg; rw [if_pos q0]; split <;> rfl
    rw [z1, z2, if_neg (fun y => y.1 rfl), if_neg (fun y => y.1 rfl)]
  · by_cases q1 : pw A B m F T (pq1 p) s = 0
    · have z1 : phg A B m F T s (pq0 p) (pq1 p) = 99 := by unfold phg; rw [if_pos q1]; split <;> rfl
      have z2 : phg A B m F T s (pq1 p) (pq0 p) = 99 := by unfold phg; rw [if_pos q1]
      rw [z1, z2, if_neg (fun y => y.1 rfl), if_neg (fun y => y.1 rfl)]
    · obtain ⟨⟨a1, a2⟩, ⟨b1, b2⟩, ab, -⟩ := thr_at ok h9 (show pq0 p < k by omega) q0
      obtain ⟨⟨c1, c2⟩, ⟨d1, d2⟩, cg, -⟩ := thr_at ok h9 hk q1
      obtain ⟨o1, o2⟩ := on_at (A := A) (B := B) (m := m) (F := F) (T := T) hk3 (show pq0 p < k by omega) q0
      obtain ⟨o3, o4⟩ := on_at (A := A) (B := B) (m := m) (F := F) (T := T) hk3 hk q1
      have i1 := phg_99 (A := A) (B := B) (m := m) (F := F) (T := T) (l := pq0 p) (j := pq1 p) (s := s) (by omega) (by omega) q0 q1
      have i2 := phg_99 (A := A) (B := B) (m := m) (F := F) (T := T) (l := pq1 p) (j := pq0 p) (s := s) (by omega) (by omega) q1 q0
      have ii : phg A B m F T s (pq1 p) (pq0 p) ≠ 99 ↔ phg A B m F T s (pq0 p) (pq1 p) ≠ 99 := by
        rw [i1, i2]; omega
      by_cases sh : phg A B m F T s (pq0 p) (pq1 p) ≠ 99
      · have := pcr_sym (A := A) (B := B) (dv := dv) (Lf := pLf m A B k F T o (pq0 p) (pq1 p)) (Lg := pLf m A B k F T o (pq1 p) (pq0 p)) (s := s) h8 ab cg (fun e f he hf ne => by
          have t : ∀ e, (e = pe0 A B m F T (pq0 p) s ∨ e = pe1 A B m F T (pq0 p) s ∨ e = pe0 A B m F T (pq1 p) s ∨ e = pe1 A B m F T (pq1 p) s) → e < m ∧ (A e = s ∨ B e = s) := by
            rintro e (rfl | rfl | rfl | rfl)
            · exact ⟨a1, a2⟩
            · exact ⟨b1, b2⟩
            · exact ⟨c1, c2⟩
            · exact ⟨d1, d2⟩
          exact unl_n ok.2.1 hu (t e he).1 (t f hf).1 ne (t e he).2 (t f hf).2) (fun e he hf => by
          have em : e < m := by rcases he with rfl | rfl <;> assumption
          have e0 : pbt (pLs m A B k F T e) (pq0 p) = 1 := by rcases he with y | y <;> rw [y] <;> assumption
          have e1 : pbt (pLs m A B k F T e) (pq1 p) = 1 := by rcases hf with y | y <;> rw [y] <;> assumption
          show pis (fun i => nI (pol (pLs m A B k F T e) (o e) i)) (nI (pq1 p)) (nI (pq0 p)) (pbc (pLs m A B k F T e)) = !(pis (fun i => nI (pol (pLs m A B k F T e) (o e) i)) (nI (pq0 p)) (nI (pq1 p)) (pbc (pLs m A B k F T e)))
          rw [h e em, prh_L (pLs_lt hk3 e) (hr e em) hp e0 e1, prh_R (pLs_lt hk3 e) (hr e em) hp e0 e1]) (i1.mp sh)
        rw [this]
        by_cases w : pcr A B dv (pLf m A B k F T o (pq0 p) (pq1 p)) s (pe0 A B m F T (pq0 p) s) (pe1 A B m F T (pq0 p) s) (pe0 A B m F T (pq1 p) s) (pe1 A B m F T (pq1 p) s) = true
        · rw [if_pos ⟨ii.mpr sh, w⟩, if_pos ⟨sh, w⟩]
        · rw [if_neg (fun y => w y.2), if_neg (fun y => w y.2)]
      · rw [if_neg (fun y => sh (ii.mp y.1)), if_neg (fun y => sh y.1)]
end SIDES8
