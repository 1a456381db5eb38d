/-! the class's Sides: part, lookAt, lookAtStations -/
section SIDES
variable {X : Nat × (Nat → Int32)} {d : Nat} {cu sp n2 n3 : Nat} {A B dv : Nat → Nat} {n m k : Nat} {F T : Nat → Nat}
theorem turn2_v {a b : Nat} (ha : a < 8) (hb : b < 8) (p q : Bool) : ((((nI b - nI a) + (if (p == q) = true then (4 : Int32) else 0)) + 3) &&& 7) - 3 = nI (((if q = true then b else (b + 4) % 8) + 15 - (if p = true then a else (a + 4) % 8)) % 8) - 3 := by
  have hh : ∀ (a b : Fin 8) (p q : Bool), ((((nI b.1 - nI a.1) + (if (p == q) = true then (4 : Int32) else 0)) + 3) &&& 7) - 3 = nI (((if q = true then b.1 else (b.1 + 4) % 8) + 15 - (if p = true then a.1 else (a.1 + 4) % 8)) % 8) - 3 := by decide +kernel
  exact hh ⟨a, ha⟩ ⟨b, hb⟩ p q
theorem row18 {f : Nat} (hf : f < 7) : ewTj (18 + 1 + f) 9 = true ∧ kL (18 + 1 + f) = 7 := by
  have hh : ∀ e : Fin 7, ewTj (18 + 1 + e.1) 9 = true ∧ kL (18 + 1 + e.1) = 7 := by decide +kernel
  exact hh ⟨f, hf⟩
/-- by how much a stretch turns behind another one at s -/
theorem turnOf_n {h : Nat → Nat → Int32} (hN : cNt h n m A B k F T) (hd : ∀ e, e < m → dv e < 8 ∧ h 143 e = nI (dv e)) {e f s : Nat} (he : e < m) (hf : f < m) (hne : e ≠ f) (h1 : A e = s ∨ B e = s) (h2 : A f = s ∨ B f = s) : p_Si_turnOf (nI e) (nI f) ∧ f_Si_turnOf h (nI e) (nI f) = nI (ptu A dv s e f) - 3 := by
  have h7 := hN.2.1.2.1
  have hab : ∀ e, e < m → A e ≠ B e := fun e he y => hN.2.2.2.1.2.1 e he (by rw [y])
  have he' := hab e he
  have hf' := hab f hf
  have mt : h (18 + 1 + e) f = if (decide (A e = s) == decide (A f = s)) = true then 4 else 0 := by
    rw [show 18 + 1 + e = 19 + e by omega, hN.2.1.2.2.2 e f he hf hne]
    unfold pmt
    by_cases q1 : A e = s <;> by_cases q2 : A f = s
    · rw [if_pos (Or.inl (q1.trans q2.symm)), decide_eq_true q1, decide_eq_true q2]; rfl
    · have y := h2.resolve_left q2
      rw [if_neg (by omega), if_pos (by omega), decide_eq_true q1, decide_eq_false q2]; rfl
    · have y := h1.resolve_left q1
      rw [if_neg (by omega), if_pos (by omega), decide_eq_false q1, decide_eq_true q2]; rfl
    · have y1 := h1.resolve_left q1
      have y2 := h2.resolve_left q2
      rw [if_pos (Or.inr (y1.trans y2.symm)), decide_eq_false q1, decide_eq_false q2]; rfl
  obtain ⟨r1, r2⟩ := row18 (show e < 7 by omega)
  have ce : (nI e).toNatClampNeg = e := nI_clamp (by omega)
  have cf : (nI f).toNatClampNeg = f := nI_clamp (by omega)
  refine ⟨⟨nI_inB (by omega) (by decide), nI_inB (by omega) (by decide), by rw [ce]; exact beq_no (by omega), by rw [ce]; exact r1, by rw [ce, r2]; exact nI_inB (by omega) (by decide)⟩, ?_⟩
  unfold f_Si_turnOf
  rw [ce, cf, (hd e he).2, (hd f hf).2, mt, turn2_v (hd e he).1 (hd f hf).1]
  unfold ptu pwf
  simp only [decide_eq_true_iff]
theorem pair_v {p : Nat} (hp : p < 3) : (1 : Int32) <<< (((f_Si_pairOf (nI (pq0 p)) (nI (pq1 p))) : Int32) &&& 31) = nI (2 ^ p) ∧ f_Si_pairOf (nI (pq0 p)) (nI (pq1 p)) = nI p ∧ f_Si_pairOf (nI (pq1 p)) (nI (pq0 p)) = nI p := by
  have hh : ∀ p : Fin 3, (1 : Int32) <<< (((f_Si_pairOf (nI (pq0 p.1)) (nI (pq1 p.1))) : Int32) &&& 31) = nI (2 ^ p.1) ∧ f_Si_pairOf (nI (pq0 p.1)) (nI (pq1 p.1)) = nI p.1 ∧ f_Si_pairOf (nI (pq1 p.1)) (nI (pq0 p.1)) = nI p.1 := by decide +kernel
  exact hh ⟨p, hp⟩
/-- part -/
def mPa (h h' : Nat → Nat → Int32) (e p : Nat) (tA LL : Bool) : Prop := (∀ q, q ≠ 177 → q ≠ 178 → h' q = h q) ∧ h' 177 = upd (h 177) (if tA = true then 2 * e else 2 * e + 1) (h 177 (if tA = true then 2 * e else 2 * e + 1) ||| nI (2 ^ p)) ∧ h' 178 = if (LL == tA) = true then upd (h 178) (if tA = true then 2 * e else 2 * e + 1) (h 178 (if tA = true then 2 * e else 2 * e + 1) ||| nI (2 ^ p)) else h 178
theorem part_n {h : Nat → Nat → Int32} (hN : cNt h n m A B k F T) (hd : ∀ e, e < m → dv e < 8 ∧ h 143 e = nI (dv e)) {s e f g p : Nat} (hs : s < n) (he : e < m) (hf : f < m) (hg : g < m) (ef : e ≠ f) (eg : e ≠ g) (h1 : A e = s ∨ B e = s) (h2 : A f = s ∨ B f = s) (h3 : A g = s ∨ B g = s) : ewP X Si_part (d + 1) 0 [some (.ref 174), some (.int (nI s)), some (.int (nI e)), some (.int (nI f)), some (.int (nI g)), some (.int (nI (2 ^ p))), none, none, none] [] (0, 0) (229, ewR cu sp 3 n2 n3 3, h) (fun v S' => ∃ (h' : Nat → Nat → Int32), mPa h h' e p (decide (A e = s)) (decide (ptu A dv s e g < ptu A dv s e f)) ∧ v = none ∧ S' = (229, ewR cu sp 3 n2 n3 3, h')) := by
  have h7 := hN.2.1.2.1
  have h8 := hN.1.2.1
  obtain ⟨t1, t2⟩ := turnOf_n hN hd he hf ef h1 h2
  obtain ⟨t3, t4⟩ := turnOf_n hN hd he hg eg h1 h3
  have hn := hN.2.2.2.1.1 e he
  have ce : (nI e).toNatClampNeg = e := nI_clamp (by omega)
  have e6 : (h 6 (nI e).toNatClampNeg = nI s) ↔ A e = s := by rw [ce, (hN.2.1.2.2.1 e he).1]; exact nI_eq (by omega) (by omega)
  have pl : (if h 6 (nI e).toNatClampNeg = nI s then (2 * nI e : Int32) else 2 * nI e + 1) = nI (if decide (A e = s) = true then 2 * e else 2 * e + 1) := by
    have m2 : (2 : Int32) * nI e = nI (2 * e) := nI_mu 2 e
    by_cases q : A e = s
    · rw [if_pos (e6.mpr q), decide_eq_true q, if_pos rfl, m2]
    · rw [if_neg (fun z => q (e6.mp z)), decide_eq_false q, if_neg (by decide), m2, ← nI_succ]
  have p14 : (if decide (A e = s) = true then 2 * e else 2 * e + 1) < 14 := by split <;> omega
  have lt : (f_Si_turnOf h (nI e) (nI g) < f_Si_turnOf h (nI e) (nI f)) ↔ ptu A dv s e g < ptu A dv s e f := by
    rw [t2, t4]; exact turn_lt (ptu_lt A dv s e g) (ptu_lt A dv s e f)
  have eqv : (((if (f_Si_turnOf h (nI e) (nI g)) < (f_Si_turnOf h (nI e) (nI f)) then 1 else 0) : Int32) = (if (h 6 (nI e).toNatClampNeg) = (nI s) then 1 else 0)) ↔ (decide (ptu A dv s e g < ptu A dv s e f) == decide (A e = s)) = true := by
    rw [beq_iff_eq, decide_eq_decide, ← lt, ← e6]
    exact ⟨fun z => ite01 z, fun z => ite_cg z (fun _ => rfl) (fun _ => rfl)⟩
  refine v_Si_part_0 _ _ _ _ _ h (nI_inB (by omega) (by decide)) t1 t3 (by rw [pl]; exact nI_inB p14 (by decide)) (fun q => ?_) (fun q => ?_)
  · rw [pl, nI_clamp (by omega)]
    exact ⟨_, ⟨fun q q1 q2 => ewS_ne _ _ q1, rfl, by rw [if_neg (fun z => q (eqv.mpr z))]; rfl⟩, rfl, rfl⟩
  · rw [pl, nI_clamp (by omega)]
    exact ⟨_, ⟨fun q q1 q2 => (ewS_ne _ _ q2).trans (ewS_ne _ _ q1), rfl, by rw [if_pos (eqv.mp q)]; rfl⟩, rfl, rfl⟩
set_option maxHeartbeats 1000000 in
theorem lookAt_n {h : Nat → Nat → Int32} {D : Nat → Nat → Bool} (hN : cNt h n m A B k F T) (hd : ∀ e, e < m → dv e < 8 ∧ h 143 e = nI (dv e)) (c : cSd A B dv n m k F T D h) {s p : Nat} (hs : s < n) (hp : p < 3) (hk : pq1 p < k) : ewP X Si_lookAt (d + 2) 0 [some (.ref 174), some (.int (nI s)), some (.int (nI (pq0 p))), some (.int (nI (pq1 p))), none, none, none, none, none, none, none] [] (0, 0) (229, ewR cu sp 3 n2 n3 3, h) (fun v S' => ∃ (h' : Nat → Nat → Int32), (sFr h h' ∧ cSd A B dv n m k F T (fun s' p' => D s' p' || decide (s' = s ∧ p' = p)) h') ∧ v = none ∧ S' = (229, ewR cu sp 3 n2 n3 3, h')) := by
  have h7 := hN.2.1.2.1
  have h8 := hN.1.2.1
  have ok := hN.2.2.2.1
  have pl := pq_lt hp
  have ix : ∀ l, l < 3 → (nI l * 8 + nI s = nI (8 * l + s)) := fun l _ => by rw [show (nI l : Int32) * 8 = nI (l * 8) from nI_mu l 8, nI_ad, Nat.mul_comm]
  have cx : ∀ l, l < 3 → (nI l * 8 + nI s).toNatClampNeg = 8 * l + s := fun l hl => by rw [ix l hl, nI_clamp (by omega)]
  have rows := hN.2.2.1.2.2.2.2.1
  have R0 := rows (pq0 p) s (by omega) (by omega)
  have R1 := rows (pq1 p) s (by omega) (by omega)
  have at0 := fun (q : pw A B m F T (pq0 p) s ≠ 0) => thr_at ok (show m ≤ 90 by omega) (show pq0 p < k by omega) q
  have at1 := fun (q : pw A B m F T (pq1 p) s ≠ 0) => thr_at ok (show m ≤ 90 by omega) hk q
  have no : ¬ (xth A B m k F T s p ∧ (xs0 A B m F T s p ∨ xs1 A B m F T s p)) → ∃ (h' : Nat → Nat → Int32), (sFr h h' ∧ cSd A B dv n m k F T (fun s' p' => D s' p' || decide (s' = s ∧ p' = p)) h') ∧ (none : Option Value) = none ∧ ((229, ewR cu sp 3 n2 n3 3, h) : eS) = (229, ewR cu sp 3 n2 n3 3, h') := fun q => by
    refine ⟨h, ⟨fun _ _ _ _ _ _ _ => rfl, cSd_no c ?_ (fun e => ?_)⟩, rfl, rfl⟩
    · rw [Bool.eq_false_iff]; exact fun z => q ⟨(xP_iff.mp z).1, Or.inl (xP_iff.mp z).2.1⟩
    · rw [Bool.eq_false_iff]; exact fun z => q ⟨(xH_iff.mp z).1, (xH_iff.mp z).2.imp (fun w => w.1) (fun w => w.2.1)⟩
  -- both lines go through s
  by_cases q0 : pw A B m F T (pq0 p) s = 0
  · have e0 : h 16 (nI (pq0 p) * 8 + nI s).toNatClampNeg = -1 := by rw [cx _ (by omega), R0.1, if_neg (fun z => z.2 q0)]
    exact v_Si_lookAt_0 _ _ _ h (P_Si_part := fun _ _ _ _ _ _ => False) (R_Si_part := fun _ _ _ _ _ _ _ => False) (fun _ _ _ _ _ _ hp => hp.elim) (P_Si_pairUp := fun _ _ _ _ _ => False) (R_Si_pairUp := fun _ _ _ _ _ _ => False) (fun _ _ _ _ _ hp => hp.elim) (by rw [ix _ (by omega)]; exact nI_inB (by omega) (by decide)) (by rw [ix _ (by omega)]; exact nI_inB (by omega) (by decide)) (fun _ => no (fun z => z.1.2.1 q0)) (fun q => absurd e0 q) (fun q => absurd e0 q) (fun q => absurd e0 q) (fun q => absurd e0 q) (fun q => absurd e0 q) (fun q => absurd e0 q) (fun q => absurd e0 q) (fun q => absurd e0 q)
  · by_cases q1 : pw A B m F T (pq1 p) s = 0
    · have e1 : h 16 (nI (pq1 p) * 8 + nI s).toNatClampNeg = -1 := by rw [cx _ (by omega), R1.1, if_neg (fun z => z.2 q1)]
      exact v_Si_lookAt_0 _ _ _ h (P_Si_part := fun _ _ _ _ _ _ => False) (R_Si_part := fun _ _ _ _ _ _ _ => False) (fun _ _ _ _ _ _ hp => hp.elim) (P_Si_pairUp := fun _ _ _ _ _ => False) (R_Si_pairUp := fun _ _ _ _ _ _ => False) (fun _ _ _ _ _ hp => hp.elim) (by rw [ix _ (by omega)]; exact nI_inB (by omega) (by decide)) (by rw [ix _ (by omega)]; exact nI_inB (by omega) (by decide)) (fun _ => no (fun z => z.1.2.2 q1)) (fun _ q => absurd e1 q) (fun _ q => absurd e1 q) (fun _ q => absurd e1 q) (fun _ q => absurd e1 q) (fun _ q => absurd e1 q) (fun _ q => absurd e1 q) (fun _ q => absurd e1 q) (fun _ _ => no (fun z => z.1.2.2 q1))
    · have th : xth A B m k F T s p := ⟨hk, q0, q1⟩
      obtain ⟨⟨a1, a2⟩, ⟨a3, a4⟩, a5, -⟩ := at0 q0
      obtain ⟨⟨b1, b2⟩, ⟨b3, b4⟩, b5, -⟩ := at1 q1
      have r16 : h 16 (nI (pq0 p) * 8 + nI s).toNatClampNeg = nI (pe0 A B m F T (pq0 p) s) := by rw [cx _ (by omega), R0.1, if_pos ⟨by omega, q0⟩]
      have r17 : h 17 (nI (pq0 p) * 8 + nI s).toNatClampNeg = nI (pe1 A B m F T (pq0 p) s) := by rw [cx _ (by omega), R0.2, if_pos ⟨by omega, q0⟩]
      have t16 : h 16 (nI (pq1 p) * 8 + nI s).toNatClampNeg = nI (pe0 A B m F T (pq1 p) s) := by rw [cx _ (by omega), R1.1, if_pos ⟨hk, q1⟩]
      have t17 : h 17 (nI (pq1 p) * 8 + nI s).toNatClampNeg = nI (pe1 A B m F T (pq1 p) s) := by rw [cx _ (by omega), R1.2, if_pos ⟨hk, q1⟩]
      have nm0 : ¬ h 16 (nI (pq0 p) * 8 + nI s).toNatClampNeg = -1 := by rw [r16]; exact nI_m1 (by omega)
      have nm1 : ¬ h 16 (nI (pq1 p) * 8 + nI s).toNatClampNeg = -1 := by rw [t16]; exact nI_m1 (by omega)
      have E : ∀ {x y : Nat}, x < m → y < m → ((nI x = nI y) ↔ x = y) := fun hx hy => nI_eq (by omega) (by omega)
      have S0 : ((h 16 (nI (pq0 p) * 8 + nI s).toNatClampNeg = h 16 (nI (pq1 p) * 8 + nI s).toNatClampNeg) ∨ (h 16 (nI (pq0 p) * 8 + nI s).toNatClampNeg = h 17 (nI (pq1 p) * 8 + nI s).toNatClampNeg)) ↔ xs0 A B m F T s p := by rw [r16, t16, t17, E a1 b1, E a1 b3]
      have S1 : ((h 17 (nI (pq0 p) * 8 + nI s).toNatClampNeg = h 16 (nI (pq1 p) * 8 + nI s).toNatClampNeg) ∨ (h 17 (nI (pq0 p) * 8 + nI s).toNatClampNeg = h 17 (nI (pq1 p) * 8 + nI s).toNatClampNeg)) ↔ xs1 A B m F T s p := by rw [r17, t16, t17, E a3 b1, E a3 b3]
      obtain ⟨pv, -⟩ := pair_v hp
      -- coming along e
      have prt : ∀ e, xH A B m k F T s p e = true → (∀ w, mPa h w e p (decide (A e = s)) (decide (ptu A dv s e (xG A B m F T s p e) < ptu A dv s e (xO A B m F T s p e))) → ∃ (h' : Nat → Nat → Int32), (sFr h h' ∧ cSd A B dv n m k F T (fun s' p' => D s' p' || decide (s' = s ∧ p' = p)) h') ∧ (none : Option Value) = none ∧ ((229, ewR cu sp 3 n2 n3 3, w) : eS) = (229, ewR cu sp 3 n2 n3 3, h')) := by
        intro e he w hw
        obtain ⟨w1, w2, w3⟩ := hw
        refine ⟨w, ⟨fun q g7 g8 _ _ _ _ => w1 q g7 g8, cSd_H ok (by omega) c hp he ?_ ?_ (w1 180 (by decide) (by decide)) (w1 181 (by decide) (by decide)) (w1 182 (by decide) (by decide)) (w1 183 (by decide) (by decide))⟩, rfl, rfl⟩
        · simp only [decide_eq_true_iff] at w2; exact w2
        · unfold xL
          simp only [decide_eq_true_iff] at w3
          exact w3
      refine v_Si_lookAt_0 _ _ _ h (P_Si_part := fun h' x1 x2 x3 x4 x5 => h' = h ∧ x1 = nI s ∧ x5 = nI (2 ^ p) ∧ ∃ e, xH A B m k F T s p e = true ∧ x2 = nI e ∧ x3 = nI (xO A B m F T s p e) ∧ x4 = nI (xG A B m F T s p e)) (R_Si_part := fun h' x1 x2 x3 x4 x5 w => ∃ e, xH A B m k F T s p e = true ∧ mPa h w e p (decide (A e = s)) (decide (ptu A dv s e (xG A B m F T s p e) < ptu A dv s e (xO A B m F T s p e)))) (fun x1 x2 x3 x4 x5 h' hp' => ?_) (P_Si_pairUp := fun h' x1 x2 x3 x4 => h' = h ∧ x1 = nI s ∧ x2 = nI (pe0 A B m F T (pq0 p) s) ∧ x3 = nI (pe1 A B m F T (pq0 p) s) ∧ x4 = nI (2 ^ p)) (R_Si_pairUp := fun h' x1 x2 x3 x4 w => w = g_Si_pairUp h (nI s) (nI (pe0 A B m F T (pq0 p) s)) (nI (pe1 A B m F T (pq0 p) s)) (nI (2 ^ p))) (fun x1 x2 x3 x4 h' hp' => ?_) (by rw [ix _ (by omega)]; exact nI_inB (by omega) (by decide)) (by rw [ix _ (by omega)]; exact nI_inB (by omega) (by decide)) (fun q => absurd q nm0) (fun _ _ z0 z1 => no (fun z => z.2.elim (fun y => z0 (S0.mpr y)) (fun y => z1 (S1.mpr y)))) (fun _ _ z0 z1 => ?_) (fun _ _ z0 z1 w hw => ?_) (fun _ _ z0 z1 => ?_) (fun _ _ z0 z1 w hw => ?_) (fun _ _ z0 z1 => ?_) (fun _ _ z0 z1 w hw => ?_) (fun _ q => absurd q nm1)
      · obtain ⟨rfl, rfl, rfl, e, he, rfl, rfl, rfl⟩ := hp'
        have key : e < m ∧ (A e = s ∨ B e = s) ∧ xO A B m F T s p e < m ∧ e ≠ xO A B m F T s p e ∧ (A (xO A B m F T s p e) = s ∨ B (xO A B m F T s p e) = s) ∧ xG A B m F T s p e < m ∧ e ≠ xG A B m F T s p e ∧ (A (xG A B m F T s p e) = s ∨ B (xG A B m F T s p e) = s) := by
          unfold xO xG
          rcases (xH_iff.mp he).2 with ⟨y1, y2, y3⟩ | ⟨y1, y2, y3⟩
          · rw [if_pos y3, ← y3]
            refine ⟨a1, a2, a3, a5, a4, ?_⟩
            rcases y1 with u | u
            · rw [if_pos u.symm, u]; exact ⟨b3, b5, b4⟩
            · rw [u, if_neg b5]; exact ⟨b1, b5.symm, b2⟩
          · rw [if_neg (fun z => a5 (z.trans y3.symm)), ← y3]
            refine ⟨a3, a4, a1, a5.symm, a2, ?_⟩
            rcases y2 with u | u
            · rw [if_pos u.symm, u]; exact ⟨b3, b5, b4⟩
            · rw [u, if_neg b5]; exact ⟨b1, b5.symm, b2⟩
        obtain ⟨k1, k2, k3, k4, k5, k6, k7, k8⟩ := key
        refine ewP_m (fun v S' q => ?_) (part_n hN hd hs k1 k3 k6 k4 k7 k2 k5 k8)
        obtain ⟨h'', w1, w2, w3⟩ := q
        exact ⟨h'', ⟨e, he, w1⟩, w2, w3⟩
      · obtain ⟨rfl, rfl, rfl, rfl, rfl⟩ := hp'
        obtain ⟨r1, r2⟩ := row18 (show pe0 A B m F T (pq0 p) s < 7 by omega)
        have ce : (nI (pe0 A B m F T (pq0 p) s)).toNatClampNeg = pe0 A B m F T (pq0 p) s := nI_clamp (by omega)
        exact s_Si_pairUp (d := d + 1) _ _ _ _ h' ⟨nI_inB (by omega) (by decide), nI_inB (by omega) (by decide), by rw [ce]; exact beq_no (by omega), by rw [ce]; exact r1, by rw [ce, r2]; exact nI_inB (by omega) (by decide)⟩ ⟨_, rfl, rfl, rfl⟩
      · rw [S0] at z0; rw [S1] at z1
        rw [r16, r17, t16, t17, pv]
        refine ⟨rfl, rfl, rfl, pe1 A B m F T (pq0 p) s, xH_iff.mpr ⟨th, Or.inr ⟨z0, z1, rfl⟩⟩, rfl, ?_, ?_⟩
        · unfold xO; rw [if_neg a5]
        · unfold xG
          by_cases y : pe0 A B m F T (pq1 p) s = pe1 A B m F T (pq0 p) s
          · rw [if_pos ((E a3 b1).mpr y.symm), if_pos y]
          · rw [if_neg (fun z => y ((E a3 b1).mp z).symm), if_neg y]
      · obtain ⟨e, he, hm⟩ := hw
        exact prt e he w hm
      · rw [S0] at z0; rw [S1] at z1
        rw [r16, r17, t16, t17, pv]
        refine ⟨rfl, rfl, rfl, pe0 A B m F T (pq0 p) s, xH_iff.mpr ⟨th, Or.inl ⟨z0, z1, rfl⟩⟩, rfl, ?_, ?_⟩
        · unfold xO; rw [if_pos rfl]
        · unfold xG
          by_cases y : pe0 A B m F T (pq1 p) s = pe0 A B m F T (pq0 p) s
          · rw [if_pos ((E a1 b1).mpr y.symm), if_pos y]
          · rw [if_neg (fun z => y ((E a1 b1).mp z).symm), if_neg y]
      · obtain ⟨e, he, hm⟩ := hw
        exact prt e he w hm
      · rw [r16, r17, pv]
        exact ⟨rfl, rfl, rfl, rfl, rfl⟩
      · rw [S0] at z0; rw [S1] at z1
        have hx : xP A B m k F T s p = true := xP_iff.mpr ⟨th, z0, z1⟩
        have cs : (nI s).toNatClampNeg = s := nI_clamp (by omega)
        have ce : (nI (pe0 A B m F T (pq0 p) s)).toNatClampNeg = pe0 A B m F T (pq0 p) s := nI_clamp (by omega)
        have cf : (nI (pe1 A B m F T (pq0 p) s)).toNatClampNeg = pe1 A B m F T (pq0 p) s := nI_clamp (by omega)
        unfold g_Si_pairUp at hw
        rw [cs, ce, cf, ewS_ne _ _ (by omega), ewS_ne _ _ (by omega), ewS_ne _ _ (by omega), show 18 + 1 + pe0 A B m F T (pq0 p) s = 19 + pe0 A B m F T (pq0 p) s by omega, hN.2.1.2.2.2 _ _ a1 a3 a5] at hw
        have mS : (pmt A B (pe0 A B m F T (pq0 p) s) (pe1 A B m F T (pq0 p) s) = 4) ↔ xS A B m F T s p = true := by
          unfold pmt xS
          rw [decide_eq_true_iff]
          constructor
          · intro z
            split at z
            · assumption
            · split at z
              · exact absurd z (by decide)
              · exact absurd z (by decide)
          · intro z; rw [if_pos z]
        by_cases y : xS A B m F T s p = true
        · rw [if_pos (mS.mpr y)] at hw
          refine ⟨w, ⟨fun q _ _ g0 g1 g2 g3 => by rw [hw, ewS_ne _ _ g1, ewS_ne _ _ g0, ewS_ne _ _ g3, ewS_ne _ _ g2], cSd_P ok (by omega) c hs hp hx (by rw [hw]; rfl) (by rw [hw]; rfl) (by rw [hw]; rfl) (by rw [hw, if_pos y]; rfl) (by rw [hw]; rfl) (by rw [hw]; rfl)⟩, rfl, rfl⟩
        · rw [if_neg (fun z => y (mS.mp z))] at hw
          refine ⟨w, ⟨fun q _ _ g0 g1 g2 g3 => by rw [hw, ewS_ne _ _ g0, ewS_ne _ _ g3, ewS_ne _ _ g2], cSd_P ok (by omega) c hs hp hx (by rw [hw]; rfl) (by rw [hw]; rfl) (by rw [hw]; rfl) (by rw [hw, if_neg y]; rfl) (by rw [hw]; rfl) (by rw [hw]; rfl)⟩, rfl, rfl⟩
/-- all stations -/
theorem lookAtStations_n {h : Nat → Nat → Int32} (hN : cNt h n m A B k F T) (hd : ∀ e, e < m → dv e < 8 ∧ h 143 e = nI (dv e)) : ewP X Si_lookAtStations (d + 3) 0 [some (.ref 174), none, none, none] [] (0, 0) (229, ewR cu sp 3 n2 n3 3, h) (fun v S' => ∃ (h' : Nat → Nat → Int32), (sFr h h' ∧ cSd A B dv n m k F T (fun _ p => decide (pq1 p < k)) h') ∧ v = none ∧ S' = (229, ewR cu sp 3 n2 n3 3, h')) := by
  have h8 := hN.1.2.1
  have h7 := hN.2.1.2.1
  have hk3 := hN.2.2.1.2.1
  refine v_Si_lookAtStations_0 h (P_Ja_fill := fun h' q x => (q = 177 ∨ q = 178 ∨ q = 180 ∨ q = 181)) (R_Ja_fill := fun h' q x w => w = g_Ja_fill h' q x) (fun q x h' hp => by rcases hp with rfl | rfl | rfl | rfl <;> exact s_Ja_fill (d := d + 2) _ _ h' ⟨rfl, by decide⟩ ⟨_, rfl, rfl, rfl⟩) (Or.inl rfl) (fun w2 e2 => ⟨Or.inr (Or.inl rfl), fun w5 e5 => ⟨Or.inr (Or.inr (Or.inl rfl)), fun w8 e8 => ⟨Or.inr (Or.inr (Or.inr rfl)), fun w11 e11 => ?_⟩⟩⟩)
  have z0 : sFr h w11 ∧ cSd A B dv n m k F T (fun _ _ => false) w11 := by
    subst e2; subst e5; subst e8; subst e11
    have k77 : kL 177 = 14 := by decide
    have k78 : kL 178 = 14 := by decide
    have k80 : kL 180 = 8 := by decide
    have k81 : kL 181 = 8 := by decide
    have mz : ∀ f : Nat → Bool, msk (fun p => false && f p) 3 = 0 := fun f => rfl
    refine ⟨fun q q1 q2 q3 q4 _ _ => ?_, fun e he => ⟨?_, ?_, ?_, ?_⟩, fun s hs => ⟨?_, ?_⟩, fun s p _ _ hd => by cases hd⟩
    · unfold g_Ja_fill
      rw [ewS_ne _ _ q4, ewS_ne _ _ q3, ewS_ne _ _ q2, ewS_ne _ _ q1]
    · show (if 2 * e < kL 177 then (0 : Int32) else _) = 0
      rw [if_pos (by omega)]
    · show (if 2 * e + 1 < kL 177 then (0 : Int32) else _) = 0
      rw [if_pos (by omega)]
    · show (if 2 * e < kL 178 then (0 : Int32) else _) = 0
      rw [if_pos (by omega)]
    · show (if 2 * e + 1 < kL 178 then (0 : Int32) else _) = 0
      rw [if_pos (by omega)]
    · show (if s < kL 180 then (0 : Int32) else _) = 0
      rw [if_pos (by omega)]
    · show (if s < kL 181 then (0 : Int32) else _) = 0
      rw [if_pos (by omega)]
  have cg : ∀ (D D' : Nat → Nat → Bool) (w : Nat → Nat → Int32), (∀ s p, s < n → p < 3 → D s p = D' s p) → cSd A B dv n m k F T D w → cSd A B dv n m k F T D' w := by
    rintro D D' w hD ⟨c1, c2, c3⟩
    have hn := hN.2.2.2.1.1
    refine ⟨fun e he => ?_, fun s hs => ?_, fun s p hs hp hd => c3 s p hs hp (by rw [hD s p hs hp]; exact hd)⟩
    · obtain ⟨d1, d2, d3, d4⟩ := c1 e he
      obtain ⟨n1, n2⟩ := hn e he
      refine ⟨d1.trans ?_, d2.trans ?_, d3.trans ?_, d4.trans ?_⟩ <;> congr 1 <;> refine msk_cg 3 (fun p hp => ?_)
      · rw [hD _ p n1 hp]
      · rw [hD _ p n2 hp]
      · rw [hD _ p n1 hp]
      · rw [hD _ p n2 hp]
    · obtain ⟨d1, d2⟩ := c2 s hs
      refine ⟨d1.trans ?_, d2.trans ?_⟩ <;> congr 1 <;> refine msk_cg 3 (fun p hp => ?_) <;> rw [hD s p hs hp]
  -- pairs (l, j) in their order
  have pOf : ∀ l j, l < j → j < 3 → ∃ p, p < 3 ∧ pq0 p = l ∧ pq1 p = j := by
    intro l j hl hj
    rcases (show (l = 0 ∧ j = 1) ∨ (l = 0 ∧ j = 2) ∨ (l = 1 ∧ j = 2) by omega) with ⟨rfl, rfl⟩ | ⟨rfl, rfl⟩ | ⟨rfl, rfl⟩
    · exact ⟨0, by omega, rfl, rfl⟩
    · exact ⟨1, by omega, rfl, rfl⟩
    · exact ⟨2, by omega, rfl, rfl⟩
  have pIn : ∀ p p', p < 3 → p' < 3 → pq0 p = pq0 p' → pq1 p = pq1 p' → p = p' := by
    have hh : ∀ p p' : Fin 3, pq0 p.1 = pq0 p'.1 → pq1 p.1 = pq1 p'.1 → p.1 = p'.1 := by decide
    exact fun p p' hp hp' => hh ⟨p, hp⟩ ⟨p', hp'⟩
  refine upto (H := Nat → Nat → Int32) (P := fun s w => sFr h w ∧ cSd A B dv n m k F T (fun s' p => decide (s' < s ∧ pq1 p < k)) w) (E := fun s w => ewP X Si_lookAtStations (d + 3) 34 [some (.ref 174), some (.int (nI s)), none, none] [] (0, 0) (229, ewR cu sp 3 n2 n3 3, w) _) n ?_ ?_ 0 w11 (by omega) ⟨z0.1, cg _ _ _ (fun s p _ _ => (decide_eq_false (by omega)).symm) z0.2⟩
  · rintro s w hs ⟨w1, w2⟩ next
    have hN1 : ∀ v : Nat → Nat → Int32, sFr h v → cNt v n m A B k F T := fun v f => hN.fr (fun q a b => f q (by omega) (by omega) (by omega) (by omega) (by omega) (by omega))
    have hd1 : ∀ v : Nat → Nat → Int32, sFr h v → ∀ e, e < m → dv e < 8 ∧ v 143 e = nI (dv e) := fun v f e he => by rw [f 143 (by omega) (by omega) (by omega) (by omega) (by omega) (by omega)]; exact hd e he
    have hlt : nI s < w 3 0 := by rw [(hN1 w w1).1.1]; exact (nI_ltb (by omega) (by omega)).mpr hs
    refine v_Si_lookAtStations_34 _ w (fun q => absurd hlt q) (fun _ => ?_)
    refine upto (H := Nat → Nat → Int32) (P := fun l v => sFr h v ∧ cSd A B dv n m k F T (fun s' p => decide ((s' < s ∨ (s' = s ∧ pq0 p < l)) ∧ pq1 p < k)) v) (E := fun l v => ewP X Si_lookAtStations (d + 3) 47 [some (.ref 174), some (.int (nI s)), some (.int (nI l)), none] [] (0, 0) (229, ewR cu sp 3 n2 n3 3, v) _) k ?_ ?_ 0 w (by omega) ⟨w1, cg _ _ _ (fun s' p _ _ => decide_eq_decide.mpr (by omega)) w2⟩
    · rintro l v hl ⟨v1, v2⟩ next2
      have hlt2 : nI l < v 3 2 := by rw [(hN1 v v1).2.2.1.1]; exact (nI_ltb (by omega) (by omega)).mpr hl
      refine v_Si_lookAtStations_47 _ _ v (fun q => absurd hlt2 q) (fun _ => ?_)
      rw [← nI_succ]
      refine upto (H := Nat → Nat → Int32) (P := fun j u => sFr h u ∧ cSd A B dv n m k F T (fun s' p => decide ((s' < s ∨ (s' = s ∧ (pq0 p < l ∨ (pq0 p = l ∧ pq1 p < j)))) ∧ pq1 p < k)) u) (E := fun j u => l < j → ewP X Si_lookAtStations (d + 3) 62 [some (.ref 174), some (.int (nI s)), some (.int (nI l)), some (.int (nI j))] [] (0, 0) (229, ewR cu sp 3 n2 n3 3, u) _) k ?_ ?_ (l + 1) v (by omega) ⟨v1, cg _ _ _ (fun s' p _ hp => decide_eq_decide.mpr (by have := pq_lt hp; omega)) v2⟩ (by omega)
      · rintro j u hj ⟨u1, u2⟩ next3 hlj
        obtain ⟨p, hp, rfl, rfl⟩ := pOf l j hlj (by omega)
        have hlt3 : nI (pq1 p) < u 3 2 := by rw [(hN1 u u1).2.2.1.1]; exact (nI_ltb (by omega) (by omega)).mpr hj
        refine v_Si_lookAtStations_62 _ _ _ u (P_Si_lookAt := fun h' x1 x2 x3 => h' = u ∧ x1 = nI s ∧ x2 = nI (pq0 p) ∧ x3 = nI (pq1 p)) (R_Si_lookAt := fun h' x1 x2 x3 h'' => sFr u h'' ∧ cSd A B dv n m k F T (fun s' p' => decide ((s' < s ∨ (s' = s ∧ (pq0 p' < pq0 p ∨ (pq0 p' = pq0 p ∧ pq1 p' < pq1 p)))) ∧ pq1 p' < k) || decide (s' = s ∧ p' = p)) h'') (fun x1 x2 x3 h' hp' => ?_) (fun q => absurd hlt3 q) (fun _ => ⟨rfl, rfl, rfl, rfl⟩) (fun _ w4 hw => ?_)
        · obtain ⟨rfl, rfl, rfl, rfl⟩ := hp'
          exact lookAt_n (hN1 h' u1) (hd1 h' u1) u2 hs hp hj
        · rw [← nI_succ]
          refine next3 w4 ⟨fun q a1 a2 a3 a4 a5 a6 => (hw.1 q a1 a2 a3 a4 a5 a6).trans (u1 q a1 a2 a3 a4 a5 a6), cg _ _ _ (fun s' p' _ hp' => ?_) hw.2⟩ (by omega)
          rw [Bool.eq_iff_iff, Bool.or_eq_true, decide_eq_true_iff, decide_eq_true_iff, decide_eq_true_iff]
          constructor
          · rintro (y | ⟨y1, y2⟩)
            · omega
            · rw [y2]; omega
          · intro y
            by_cases w : s' = s ∧ pq0 p' = pq0 p ∧ pq1 p' = pq1 p
            · exact Or.inr ⟨w.1, pIn p' p hp' hp w.2.1 w.2.2⟩
            · exact Or.inl (by omega)
      · rintro u ⟨u1, u2⟩ _
        have hlt3 : ¬ nI k < u 3 2 := by rw [(hN1 u u1).2.2.1.1]; exact nI_nlt (Nat.le_refl _) (by omega)
        refine v_Si_lookAtStations_62 _ _ _ u (P_Si_lookAt := fun _ _ _ _ => False) (R_Si_lookAt := fun _ _ _ _ _ => False) (fun _ _ _ _ hp => hp.elim) (fun _ => ?_) (fun q => absurd q hlt3) (fun q => absurd q hlt3)
        rw [← nI_succ]
        exact next2 u ⟨u1, cg _ _ _ (fun s' p _ hp => decide_eq_decide.mpr (by omega)) u2⟩
    · rintro v ⟨v1, v2⟩
      have hlt2 : ¬ nI k < v 3 2 := by rw [(hN1 v v1).2.2.1.1]; exact nI_nlt (Nat.le_refl _) (by omega)
      refine v_Si_lookAtStations_47 _ _ v (fun _ => ?_) (fun q => absurd q hlt2)
      rw [← nI_succ]
      exact next v ⟨v1, cg _ _ _ (fun s' p _ hp => decide_eq_decide.mpr (by have := pq_lt hp; omega)) v2⟩
  · rintro w ⟨w1, w2⟩
    have hN1 : cNt w n m A B k F T := hN.fr (fun q a b => w1 q (by omega) (by omega) (by omega) (by omega) (by omega) (by omega))
    have hlt : ¬ nI n < w 3 0 := by rw [hN1.1.1]; exact nI_nlt (Nat.le_refl _) (by omega)
    exact v_Si_lookAtStations_34 _ w (fun _ => ⟨w, ⟨w1, cg _ _ _ (fun s p hs _ => decide_eq_decide.mpr (by omega)) w2⟩, rfl, rfl⟩) (fun q => absurd q hlt)
end SIDES
