/-! the class's Reader: checks, the end of a clause; what a clause adds -/
theorem pvl2 {t : Nat → Int32} {n p : Nat} (hp : p ≤ n) : ∀ k, k ≤ 2 → p + k ≤ pdg t n p → pvl t p k < 10 ^ k := by
  have hall := pdg_all (t := t) (n := n) (n - p) p (by omega)
  intro k
  induction k with
  | zero => intro _ _; exact Nat.one_pos
  | succ k ih =>
    intro hk2 hk3
    have i1 := ih (by omega) (by omega)
    obtain ⟨dg, d1, d2, d3⟩ := fig_v (hall (p + k) (by omega) (by omega))
    have : 10 ^ k ≤ 10 := by rcases (show k = 0 ∨ k = 1 by omega) with rfl | rfl <;> decide
    unfold pvl
    rw [if_neg (by omega), d3, Nat.pow_succ]
    omega
theorem pnp_le {t : Nat → Int32} {n a : Nat} (h : a ≤ n) : a ≤ pnp t n a ∧ pnp t n a ≤ n := by
  obtain ⟨k1, k2, -⟩ := psk_le (t := t) (n := n) (n - a) a (by omega)
  exact ⟨k1, k2⟩
theorem pnq_l2 {t : Nat → Int32} {n a : Nat} (h : a ≤ n) : pnp t n a ≤ pnq t n a ∧ pnq t n a ≤ n := by
  have := (pnp_le (t := t) h).2
  exact pdg_le (t := t) (n := n) (n - pnp t n a) (pnp t n a) (by omega)
theorem pn0_lt {t : Nat → Int32} {n a : Nat} (h : a ≤ n) (h0 : pn0 t n a = 0) : pnv t n a < 100 := by
  unfold pn0 at h0
  split at h0
  · exact absurd h0 (by decide)
  · split at h0
    · exact absurd h0 (by decide)
    · rename_i q
      have l := pnq_l2 (t := t) h
      have := pvl2 (t := t) (pnp_le (t := t) h).2 (pnq t n a - pnp t n a) (by omega) (by unfold pnq at *; omega)
      have t2 : 10 ^ (pnq t n a - pnp t n a) ≤ 10 ^ 2 := Nat.pow_le_pow_right (by omega) (by omega)
      show pvl t (pnp t n a) (pnq t n a - pnp t n a) < 100
      omega
theorem pnf_0 {t : Nat → Int32} {n a lim : Nat} : pnf t n a lim = if pn0 t n a ≠ 0 then pn0 t n a else if lim ≤ pnv t n a then 2 else 0 := by
  unfold pnf pn0
  by_cases q1 : pnq t n a = pnp t n a
  · simp [q1]
  · by_cases q2 : 2 < pnq t n a - pnp t n a
    · simp [q1, q2]
    · simp [q1, q2]
theorem pnf_le (t : Nat → Int32) (n a lim : Nat) : pnf t n a lim ≤ 2 := by
  unfold pnf
  split
  · omega
  · split <;> omega
/-- a number and its check -/
theorem chk_n {h : Nat → Nat → Int32} {t : Nat → Int32} {a0 a n fl ns lim : Nat} {fp wy c y : Int32} (c0 : cR h a n (if fl = 0 then pn0 t n a0 else fl) (if fl = 0 ∧ pn0 t n a0 ≠ 0 then nI (pnp t n a0) else fp) wy) (h6 : h 1 6 = nI (pnp t n a0)) (hy : y = if fl = 0 ∧ pn0 t n a0 = 0 then nI (pnv t n a0) else 0) (h35 : h 35 0 = nI ns) (hns : ns ≤ 8) (ha : a0 ≤ n) (hl : (if c = 115 then 100 else ns) = lim) :
    rFr h (g_Re_checkStation h c y) ∧ cR (g_Re_checkStation h c y) a n (if fl = 0 then pnf t n a0 lim else fl) (if fl = 0 ∧ pnf t n a0 lim ≠ 0 then nI (pnp t n a0) else fp) wy ∧ g_Re_checkStation h c y 1 6 = nI (pnp t n a0) := by
  unfold g_Re_checkStation
  have pv := pn0_lt (t := t) ha
  by_cases q : c = 115
  · rw [if_pos q] at hl ⊢
    refine ⟨fun _ _ => rfl, ?_, h6⟩
    have e : pnf t n a0 lim = pn0 t n a0 := by
      rw [pnf_0]
      by_cases z : pn0 t n a0 = 0
      · rw [if_neg (fun y => y z), if_neg (by have := pv z; omega), z]
      · rw [if_pos z]
    rw [e]; exact c0
  · rw [if_neg q] at hl ⊢
    subst hl
    by_cases z0 : fl = 0
    · simp only [z0, if_true, true_and] at c0 hy ⊢
      rw [pnf_0]
      by_cases z : pn0 t n a0 = 0
      · have pv2 := pv z
        rw [if_pos z] at hy
        rw [z] at c0
        simp only [z, ne_eq, not_true, if_false] at c0 ⊢
        by_cases y1 : ns ≤ pnv t n a0
        · have nl : ¬ y < h 35 0 := by rw [hy, h35]; exact nI_nlt y1 (by omega)
          rw [if_neg nl, if_pos y1, h6]
          obtain ⟨b1, b2, b3⟩ := blame_n c0 (show 2 ≤ 4 by omega) (nI (pnp t n a0))
          refine ⟨b1, ?_, b3.trans h6⟩
          simp only [if_true] at b2
          rw [if_pos (by decide)]
          exact b2
        · have nl : y < h 35 0 := by rw [hy, h35]; exact (nI_ltb (by omega) (by omega)).mpr (by omega)
          rw [if_pos nl, if_neg y1, if_neg (fun w => w rfl)]
          exact ⟨fun _ _ => rfl, c0, h6⟩
      · simp only [z, ne_eq, not_false_eq_true, if_true] at c0 ⊢
        by_cases nl : y < h 35 0
        · rw [if_pos nl]; exact ⟨fun _ _ => rfl, c0, h6⟩
        · rw [if_neg nl, h6]
          obtain ⟨b1, b2, b3⟩ := blame_n c0 (show 2 ≤ 4 by omega) (nI (pnp t n a0))
          refine ⟨b1, ?_, b3.trans h6⟩
          rw [if_neg z, if_neg z] at b2
          exact b2
    · simp only [z0, if_false, false_and] at c0 ⊢
      by_cases nl : y < h 35 0
      · rw [if_pos nl]; exact ⟨fun _ _ => rfl, c0, h6⟩
      · rw [if_neg nl, h6]
        obtain ⟨b1, b2, b3⟩ := blame_n c0 (show 2 ≤ 4 by omega) (nI (pnp t n a0))
        refine ⟨b1, ?_, b3.trans h6⟩
        rw [if_neg z0, if_neg z0] at b2
        exact b2
/-- the sense of two stations -/
theorem sns_n {h : Nat → Nat → Int32} {a n fl ns m u v : Nat} {A B : Nat → Nat} {p : Nat} {fp c x y : Int32} (hc : c = 115 ∨ c = 101 ∨ c = 108) (c0 : cR h a n fl fp 0) (h6 : h 1 6 = nI p) (hns : ns ≤ 8) (hx : fl = 0 → c ≠ 115 → x = nI u ∧ y = nI v ∧ u < ns ∧ v < ns) (h42 : ∀ s, s < ns → h 42 s = nI (ptm A B m s)) {w : Nat} (hw : (if c = 115 then 0 else pwy (plb A B m) (decide (c = 101)) u v) = w) :
    p_Re_checkSense h c x y ∧ rFr h (g_Re_checkSense h c x y) ∧ cR (g_Re_checkSense h c x y) a n (if fl = 0 ∧ w ≠ 0 then 4 else fl) (if fl = 0 ∧ w ≠ 0 then nI p else fp) (if fl = 0 then nI w else 0) := by
  have z : (h 1 4 = 0) ↔ fl = 0 := by rw [c0.2.2.2.1.1]; exact nI_eq (b := 0) (by have := c0.2.2.2.1.2; omega) (by omega)
  refine ⟨⟨fun q0 q1 _ _ _ => ?_, fun q0 q1 _ _ => ?_⟩, ?_⟩
  · obtain ⟨e1, -, e3, -⟩ := hx (z.mp q0) q1
    show vp_in x 8
    rw [e1]; exact nI_inB (by omega) (by decide)
  · obtain ⟨e1, -, e3, -⟩ := hx (z.mp q0) q1
    show vp_in x 8
    rw [e1]; exact nI_inB (by omega) (by decide)
  · unfold g_Re_checkSense
    by_cases q0 : fl = 0
    · rw [if_pos (z.mpr q0)]
      by_cases q1 : c = 115
      · rw [if_pos q1] at hw ⊢
        subst hw
        rw [if_neg (fun y => y.2 rfl), if_neg (fun y => y.2 rfl), if_pos q0]
        exact ⟨fun _ _ => rfl, c0⟩
      · rw [if_neg q1] at hw ⊢
        obtain ⟨e1, e2, e3, e4⟩ := hx q0 q1
        have jn : f_Ne_joined h x y ↔ plb A B m u = plb A B m v := by
          show f_Ew_has (h 42 x.toNatClampNeg) y ↔ _
          rw [e1, e2, nI_clamp (by omega), h42 u e3, ptm_has (by omega), eq_comm]
        have exy : (x = y) ↔ u = v := by rw [e1, e2]; exact nI_eq (by omega) (by omega)
        have er : (if x = y then (1 : Int32) else if c = 101 then (if f_Ne_joined h x y then (2 : Int32) else if c = 108 then (3 : Int32) else 0) else if c = 108 then (if f_Ne_joined h x y then (0 : Int32) else 3) else 0) = nI w := by
          rw [← hw]
          unfold pwy
          by_cases a1 : u = v
          · rw [if_pos (exy.mpr a1), if_pos a1]; rfl
          · rw [if_neg (fun k => a1 (exy.mp k)), if_neg a1]
            rcases hc with hc | hc | hc
            · exact absurd hc q1
            · rw [if_pos hc, if_neg (show ¬ c = 108 by rw [hc]; decide), decide_eq_true hc, if_pos rfl]
              by_cases a2 : plb A B m u = plb A B m v
              · rw [if_pos (jn.mpr a2), if_pos a2]; rfl
              · rw [if_neg (fun k => a2 (jn.mp k)), if_neg a2]; rfl
            · have c1 : ¬ c = 101 := by rw [hc]; decide
              rw [if_neg c1, if_pos hc, decide_eq_false c1, if_neg (show ¬ false = true by decide)]
              by_cases a2 : plb A B m u = plb A B m v
              · rw [if_pos (jn.mpr a2), if_pos a2]; rfl
              · rw [if_neg (fun k => a2 (jn.mp k)), if_neg a2]; rfl
        have w4 : w < 4 := by
          rw [← hw]; unfold pwy
          repeat' split
          all_goals omega
        rw [er]
        by_cases w0 : w = 0
        · rw [if_pos (show nI w = 0 by rw [w0]; rfl), if_neg (fun k => k.2 w0), if_neg (fun k => k.2 w0), if_pos q0, w0]
          exact ⟨fun _ _ => rfl, c0⟩
        · rw [if_neg (show ¬ nI w = 0 from fun k => w0 ((nI_eq (b := 0) (by omega) (by omega)).mp k)), if_pos ⟨q0, w0⟩, if_pos ⟨q0, w0⟩, if_pos q0, h6]
          obtain ⟨b1, b2, b3⟩ := blame_n c0 (show 4 ≤ 4 by omega) (nI p)
          rw [if_pos q0, if_pos q0] at b2
          obtain ⟨d1, d2, d3, d4, d5, d6⟩ := b2
          exact ⟨fun k hk => (ewS_ne _ _ hk).trans (b1 k hk), d1, d2, d3, d4, d5, rfl⟩
    · rw [if_neg (fun k => q0 (z.mp k)), if_neg (fun k => q0 k.1), if_neg (fun k => q0 k.1), if_neg q0]
      exact ⟨fun _ _ => rfl, c0⟩
/-- the end -/
theorem end_n {h : Nat → Nat → Int32} {a n fl : Nat} {fp wy : Int32} (c0 : cR h a n fl fp wy) : p_Re_readEnd h ∧ rFr h (g_Re_readEnd h) ∧ ∃ a', cR (g_Re_readEnd h) a' n (if fl = 0 ∧ ¬ (psk (h 2) n a < n ∧ h 2 (psk (h 2) n a) = 59) then 1 else fl) (if fl = 0 ∧ ¬ (psk (h 2) n a < n ∧ h 2 (psk (h 2) n a) = 59) then nI (psk (h 2) n a) else fp) wy ∧ (psk (h 2) n a < n ∧ h 2 (psk (h 2) n a) = 59 → a' = psk (h 2) n a + 1) := by
  obtain ⟨c1, c2, ⟨c3, c3'⟩, c4, c5, c6⟩ := id c0
  obtain ⟨k1, k2, -⟩ := psk_le (t := h 2) (n := n) (n - a) a (by omega)
  have eB : g_Re_skipBlanks h = ewS h 1 (upd (h 1) 5 (nI (psk (h 2) n a))) := by
    unfold g_Re_skipBlanks
    rw [c1, c2, nI_clamp (by omega), nI_clamp (by omega)]
  have cB : cR (g_Re_skipBlanks h) (psk (h 2) n a) n fl fp wy := by rw [eB]; exact ⟨rfl, c2, ⟨k2, c3'⟩, c4, c5, c6⟩
  have e2 : g_Re_skipBlanks h 2 = h 2 := by rw [eB]; rfl
  have lt : (g_Re_skipBlanks h 1 5 < g_Re_skipBlanks h 1 0) ↔ psk (h 2) n a < n := by rw [cB.1, cB.2.1]; exact nI_ltb (by omega) (by omega)
  have fB : rFr h (g_Re_skipBlanks h) := by rw [eB]; exact fun k hk => ewS_ne _ _ hk
  refine ⟨⟨⟨a, n, c1, c2, c3, c3'⟩, fun q => ?_⟩, ?_⟩
  · have := lt.mp q
    rw [cB.1]; exact nI_inB (by omega) (by decide)
  · have bl : ¬ (psk (h 2) n a < n ∧ h 2 (psk (h 2) n a) = 59) → rFr h (g_Re_blame (g_Re_skipBlanks h) (1) (g_Re_skipBlanks h 1 5)) ∧ ∃ a', cR (g_Re_blame (g_Re_skipBlanks h) (1) (g_Re_skipBlanks h 1 5)) a' n (if fl = 0 ∧ ¬ (psk (h 2) n a < n ∧ h 2 (psk (h 2) n a) = 59) then 1 else fl) (if fl = 0 ∧ ¬ (psk (h 2) n a < n ∧ h 2 (psk (h 2) n a) = 59) then nI (psk (h 2) n a) else fp) wy ∧ (psk (h 2) n a < n ∧ h 2 (psk (h 2) n a) = 59 → a' = psk (h 2) n a + 1) := by
      intro q
      obtain ⟨b1, b2, b3⟩ := blame_n cB (show 1 ≤ 4 by omega) (g_Re_skipBlanks h 1 5)
      refine ⟨fun k hk => (b1 k hk).trans (fB k hk), psk (h 2) n a, ?_, fun z => absurd z q⟩
      have e5 : g_Re_skipBlanks h 1 5 = nI (psk (h 2) n a) := cB.1
      rw [e5] at b2 ⊢
      by_cases z : fl = 0
      · rw [if_pos ⟨z, q⟩, if_pos ⟨z, q⟩]
        rw [if_pos z, if_pos z] at b2
        exact b2
      · rw [if_neg (fun k => z k.1), if_neg (fun k => z k.1)]
        rw [if_neg z, if_neg z] at b2
        exact b2
    unfold g_Re_readEnd
    by_cases q1 : psk (h 2) n a < n
    · rw [if_pos (lt.mpr q1), cB.1, nI_clamp (by omega), e2]
      by_cases q2 : h 2 (psk (h 2) n a) = 59
      · rw [if_pos q2, if_neg (fun k => k.2 ⟨q1, q2⟩), if_neg (fun k => k.2 ⟨q1, q2⟩)]
        refine ⟨fun k hk => (ewS_ne _ _ hk).trans (fB k hk), psk (h 2) n a + 1, ?_, fun _ => rfl⟩
        obtain ⟨d1, d2, d3, d4, d5, d6⟩ := cB
        exact ⟨(nI_succ _).symm, d2, ⟨by omega, c3'⟩, d4, d5, d6⟩
      · rw [if_neg q2]
        have := bl (fun k => q2 k.2)
        rw [cB.1] at this
        exact this
    · rw [if_neg (fun k => q1 (lt.mp k))]
      exact bl (fun k => q1 k.1)
