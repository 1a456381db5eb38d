/-! the class's Reader: numbers and checks -/
def cR (h : Nat → Nat → Int32) (a n fl : Nat) (fp wy : Int32) : Prop := h 1 5 = nI a ∧ h 1 0 = nI n ∧ (a ≤ n ∧ n ≤ 240) ∧ (h 1 4 = nI fl ∧ fl ≤ 4) ∧ h 1 1 = fp ∧ h 1 2 = wy
/-- a number's own fault -/
def pn0 (t : Nat → Int32) (n a : Nat) : Nat := if pnq t n a = pnp t n a then 1 else if 2 < pnq t n a - pnp t n a then 2 else 0
def rFr (h h' : Nat → Nat → Int32) : Prop := ∀ k, k ≠ 1 → h' k = h k
theorem blame_n {h : Nat → Nat → Int32} {a n fl : Nat} {fp wy : Int32} (c : cR h a n fl fp wy) {x : Nat} (hx : x ≤ 4) (p : Int32) : rFr h (g_Re_blame h (nI x) p) ∧ cR (g_Re_blame h (nI x) p) a n (if fl = 0 then x else fl) (if fl = 0 then p else fp) wy ∧ g_Re_blame h (nI x) p 1 6 = h 1 6 := by
  obtain ⟨c1, c2, c3, ⟨c4, c4'⟩, c5, c6⟩ := c
  unfold g_Re_blame
  have z : (h 1 4 = 0) ↔ fl = 0 := by rw [c4]; exact nI_eq (b := 0) (by omega) (by omega)
  by_cases q : fl = 0
  · rw [if_pos (z.mpr q), if_pos q, if_pos q, ewS_S]
    exact ⟨fun k hk => ewS_ne _ _ hk, ⟨c1, c2, c3, ⟨rfl, hx⟩, rfl, c6⟩, rfl⟩
  · rw [if_neg (fun y => q (z.mp y)), if_neg q, if_neg q]
    exact ⟨fun _ _ => rfl, ⟨c1, c2, c3, ⟨c4, c4'⟩, c5, c6⟩, rfl⟩
theorem fig_n (x : Int32) : f_Re_isFigure x ↔ pdc x := by
  show (¬ (x < 48) ∧ (¬ (57 < x))) ↔ _
  unfold pdc
  rw [Int32.lt_iff_toInt_lt, Int32.lt_iff_toInt_lt, show (48 : Int32).toInt = 48 by decide, show (57 : Int32).toInt = 57 by decide]
  omega
theorem fig_v {x : Int32} (h : pdc x) : ∃ d, d < 10 ∧ x = nI (48 + d) ∧ (x.toInt - 48).toNat = d := by
  unfold pdc at h
  obtain ⟨j, hj, rfl⟩ := (nI_iff (x := x) (n := 58) (by decide)).mp ⟨by omega, by omega⟩
  rw [nI_toInt (by omega)] at h ⊢
  refine ⟨j - 48, by omega, ?_, by omega⟩
  congr 1; omega
set_option maxHeartbeats 1000000 in
theorem s_Re_readNumber {X : Nat × (Nat → Int32)} {d : Nat} {cu sp n1 n2 n3 n4 : Nat} {a n fl : Nat} {fp wy : Int32} (h : Nat → Nat → Int32) (c : cR h a n fl fp wy) : ewP X Re_readNumber (d + 1) 0 [some (.ref 1), none, none] [] (0, 0) (229, ewR cu sp n1 n2 n3 n4, h) (fun v S' => ∃ (h' : Nat → Nat → Int32) (y : Int32), (rFr h h' ∧ cR h' (pnq (h 2) n a) n (if fl = 0 then pn0 (h 2) n a else fl) (if fl = 0 ∧ pn0 (h 2) n a ≠ 0 then nI (pnp (h 2) n a) else fp) wy ∧ h' 1 6 = nI (pnp (h 2) n a) ∧ y = (if fl = 0 ∧ pn0 (h 2) n a = 0 then nI (pnv (h 2) n a) else 0)) ∧ v = some (.int y) ∧ S' = (229, ewR cu sp n1 n2 n3 n4, h')) := by
  obtain ⟨c1, c2, ⟨c3, c3'⟩, ⟨c4, c4'⟩, c5, c6⟩ := id c
  refine v_Re_readNumber_0 h ⟨a, n, c1, c2, c3, c3'⟩ ?_
  have eB : g_Re_skipBlanks h = ewS h 1 (upd (h 1) 5 (nI (pnp (h 2) n a))) := by
    unfold g_Re_skipBlanks pnp
    rw [c1, c2, nI_clamp (by omega), nI_clamp (by omega)]
  obtain ⟨k1, k2, -⟩ := psk_le (t := h 2) (n := n) (n - a) a (by omega)
  have hpn : pnp (h 2) n a ≤ n := k2
  obtain ⟨g1, g2⟩ := pdg_le (t := h 2) (n := n) (n - pnp (h 2) n a) (pnp (h 2) n a) (by omega)
  have hall := pdg_all (t := h 2) (n := n) (n - pnp (h 2) n a) (pnp (h 2) n a) (by omega)
  generalize hp : pnp (h 2) n a = p at *
  have hq : pnq (h 2) n a = pdg (h 2) n p := by unfold pnq; rw [hp]
  have hv : pnv (h 2) n a = pvl (h 2) p (pdg (h 2) n p - p) := by unfold pnv; rw [hp, hq]
  have h0 : pn0 (h 2) n a = if pdg (h 2) n p = p then 1 else if 2 < pdg (h 2) n p - p then 2 else 0 := by unfold pn0; rw [hp, hq]
  rw [hq, hv, h0]
  have sm2 : ∀ k, k ≤ 2 → p + k ≤ pdg (h 2) n p → pvl (h 2) p k < 10 ^ k := by
    intro k
    induction k with
    | zero => intro _ _; exact Nat.one_pos
    | succ k ih =>
      intro hk2 hk3
      have i1 := ih (by omega) (by omega)
      obtain ⟨dg, d1, d2, d3⟩ := fig_v (hall (p + k) (by omega) (by omega))
      have : 10 ^ k ≤ 10 := by rcases (show k = 0 ∨ k = 1 by omega) with rfl | rfl <;> decide
      unfold pvl
      rw [if_neg (by omega), d3, Nat.pow_succ]
      omega
  have fz : ∀ w : Nat → Nat → Int32, w 1 4 = nI fl → (w 1 4 = 0 ↔ fl = 0) := fun w hw => by rw [hw]; exact nI_eq (b := 0) (by omega) (by omega)
  -- the end of the loop
  have fin : ∀ w, w = ewS h 1 (upd (upd (h 1) 6 (nI p)) 5 (nI (pdg (h 2) n p))) → cR w (pdg (h 2) n p) n fl fp wy ∧ rFr h w ∧ w 1 6 = nI p ∧ w 1 5 = nI (pdg (h 2) n p) ∧ w 1 4 = nI fl := by
    intro w hw
    rw [hw]
    exact ⟨⟨rfl, c2, ⟨g2, c3'⟩, ⟨c4, c4'⟩, c5, c6⟩, fun k hk => ewS_ne _ _ hk, rfl, rfl, c4⟩
  have leaf : ∀ (w : Nat → Nat → Int32) (x2 : Int32), w = ewS h 1 (upd (upd (h 1) 6 (nI p)) 5 (nI (pdg (h 2) n p))) → (pdg (h 2) n p - p ≤ 2 → x2 = nI (pvl (h 2) p (pdg (h 2) n p - p))) →
      (pdg (h 2) n p - p ≠ 0 → ¬ 2 < pdg (h 2) n p - p → ∃ (h' : Nat → Nat → Int32) (y : Int32), (rFr h h' ∧ cR h' (pdg (h 2) n p) n (if fl = 0 then (if pdg (h 2) n p = p then 1 else if 2 < pdg (h 2) n p - p then 2 else 0) else fl) (if fl = 0 ∧ (if pdg (h 2) n p = p then 1 else if 2 < pdg (h 2) n p - p then 2 else 0) ≠ 0 then nI p else fp) wy ∧ h' 1 6 = nI p ∧ y = (if fl = 0 ∧ (if pdg (h 2) n p = p then 1 else if 2 < pdg (h 2) n p - p then 2 else 0) = 0 then nI (pvl (h 2) p (pdg (h 2) n p - p)) else 0)) ∧ some (Value.int (if w 1 4 = 0 then x2 else 0)) = some (.int y) ∧ ((229, ewR cu sp n1 n2 n3 n4, w) : eS) = (229, ewR cu sp n1 n2 n3 n4, h')) ∧
      (2 < pdg (h 2) n p - p → ∃ (h' : Nat → Nat → Int32) (y : Int32), (rFr h h' ∧ cR h' (pdg (h 2) n p) n (if fl = 0 then (if pdg (h 2) n p = p then 1 else if 2 < pdg (h 2) n p - p then 2 else 0) else fl) (if fl = 0 ∧ (if pdg (h 2) n p = p then 1 else if 2 < pdg (h 2) n p - p then 2 else 0) ≠ 0 then nI p else fp) wy ∧ h' 1 6 = nI p ∧ y = (if fl = 0 ∧ (if pdg (h 2) n p = p then 1 else if 2 < pdg (h 2) n p - p then 2 else 0) = 0 then nI (pvl (h 2) p (pdg (h 2) n p - p)) else 0)) ∧ some (Value.int (if (g_Re_blame w (2) (w 1 6)) 1 4 = 0 then x2 else 0)) = some (.int y) ∧ ((229, ewR cu sp n1 n2 n3 n4, (g_Re_blame w (2) (w 1 6))) : eS) = (229, ewR cu sp n1 n2 n3 n4, h')) ∧
      (pdg (h 2) n p - p = 0 → ∃ (h' : Nat → Nat → Int32) (y : Int32), (rFr h h' ∧ cR h' (pdg (h 2) n p) n (if fl = 0 then (if pdg (h 2) n p = p then 1 else if 2 < pdg (h 2) n p - p then 2 else 0) else fl) (if fl = 0 ∧ (if pdg (h 2) n p = p then 1 else if 2 < pdg (h 2) n p - p then 2 else 0) ≠ 0 then nI p else fp) wy ∧ h' 1 6 = nI p ∧ y = (if fl = 0 ∧ (if pdg (h 2) n p = p then 1 else if 2 < pdg (h 2) n p - p then 2 else 0) = 0 then nI (pvl (h 2) p (pdg (h 2) n p - p)) else 0)) ∧ some (Value.int (if (g_Re_blame w (1) (w 1 5)) 1 4 = 0 then x2 else 0)) = some (.int y) ∧ ((229, ewR cu sp n1 n2 n3 n4, (g_Re_blame w (1) (w 1 5))) : eS) = (229, ewR cu sp n1 n2 n3 n4, h')) := by
    intro w x2 hw hx2
    obtain ⟨f1, f2, f3, f4, f5⟩ := fin w hw
    refine ⟨fun q1 q2 => ?_, fun q1 => ?_, fun q1 => ?_⟩
    · rw [if_neg (show ¬ pdg (h 2) n p = p by omega), if_neg q2]
      refine ⟨w, _, ⟨f2, ?_, f3, rfl⟩, ?_, rfl⟩
      · rw [if_neg (show ¬ (fl = 0 ∧ (0 : Nat) ≠ 0) from fun z => z.2 rfl)]
        by_cases z : fl = 0
        · rw [if_pos z, ← z]; exact f1
        · rw [if_neg z]; exact f1
      · by_cases z : fl = 0
        · rw [if_pos ((fz w f5).mpr z), if_pos ⟨z, rfl⟩, hx2 (by omega)]
        · rw [if_neg (fun y => z ((fz w f5).mp y)), if_neg (fun y => z y.1)]
    · rw [if_neg (show ¬ pdg (h 2) n p = p by omega), if_pos q1]
      obtain ⟨b1, b2, b3⟩ := blame_n f1 (show 2 ≤ 4 by omega) (w 1 6)
      refine ⟨_, _, ⟨fun k hk => (b1 k hk).trans (f2 k hk), ?_, b3.trans f3, rfl⟩, ?_, rfl⟩
      · rw [f3] at b2
        by_cases z : fl = 0
        · rw [if_pos z, if_pos ⟨z, by decide⟩]
          rw [if_pos z, if_pos z] at b2
          rw [f3]; exact b2
        · rw [if_neg z, if_neg (fun y => z y.1)]
          rw [if_neg z, if_neg z] at b2
          rw [f3]; exact b2
      · have e4 : g_Re_blame w (2) (w 1 6) 1 4 ≠ 0 := by
          have := b2.2.2.2.1.1
          rw [show g_Re_blame w (2) (w 1 6) 1 4 = _ from this]
          intro y
          have y2 := (nI_eq (b := 0) (by split <;> omega) (by omega)).mp y
          split at y2 <;> omega
        rw [if_neg e4, if_neg (fun y => by have := y.2; omega)]
    · have pq : pdg (h 2) n p = p := by omega
      rw [if_pos pq]
      obtain ⟨b1, b2, b3⟩ := blame_n f1 (show 1 ≤ 4 by omega) (w 1 5)
      refine ⟨_, _, ⟨fun k hk => (b1 k hk).trans (f2 k hk), ?_, b3.trans f3, rfl⟩, ?_, rfl⟩
      · rw [f4] at b2
        by_cases z : fl = 0
        · rw [if_pos z, if_pos ⟨z, by decide⟩]
          rw [if_pos z, if_pos z] at b2
          rw [f4]
          have b2' := b2
          rw [show (nI (pdg (h 2) n p)) = nI p by rw [pq]] at b2' ⊢
          exact b2'
        · rw [if_neg z, if_neg (fun y => z y.1)]
          rw [if_neg z, if_neg z] at b2
          rw [f4]; exact b2
      · have e4 : g_Re_blame w (1) (w 1 5) 1 4 ≠ 0 := by
          have := b2.2.2.2.1.1
          rw [show g_Re_blame w (1) (w 1 5) 1 4 = _ from this]
          intro y
          have y2 := (nI_eq (b := 0) (by split <;> omega) (by omega)).mp y
          split at y2 <;> omega
        rw [if_neg e4, if_neg (fun y => by have := y.2; omega)]
  have key : ∀ t i w x2, i + t = pdg (h 2) n p → p ≤ i → w = ewS h 1 (upd (upd (h 1) 6 (nI p)) 5 (nI i)) → (i - p ≤ 2 → x2 = nI (pvl (h 2) p (i - p))) → ewP X Re_readNumber (d + 1) 16 [some (.ref 1), some (.int (nI (i - p))), some (.int x2)] [] (0, 0) (229, ewR cu sp n1 n2 n3 n4, w) (fun v S' => ∃ (h' : Nat → Nat → Int32) (y : Int32), (rFr h h' ∧ cR h' (pdg (h 2) n p) n (if fl = 0 then (if pdg (h 2) n p = p then 1 else if 2 < pdg (h 2) n p - p then 2 else 0) else fl) (if fl = 0 ∧ (if pdg (h 2) n p = p then 1 else if 2 < pdg (h 2) n p - p then 2 else 0) ≠ 0 then nI p else fp) wy ∧ h' 1 6 = nI p ∧ y = (if fl = 0 ∧ (if pdg (h 2) n p = p then 1 else if 2 < pdg (h 2) n p - p then 2 else 0) = 0 then nI (pvl (h 2) p (pdg (h 2) n p - p)) else 0)) ∧ v = some (.int y) ∧ S' = (229, ewR cu sp n1 n2 n3 n4, h')) := by
    intro t
    induction t with
    | zero =>
      intro i w x2 hi hpi hw hx2
      have ei : i = pdg (h 2) n p := by omega
      subst ei
      have w5 : w 1 5 = nI (pdg (h 2) n p) := by rw [hw]; rfl
      have w0 : w 1 0 = nI n := by rw [hw]; exact c2
      have w2 : w 2 = h 2 := by rw [hw]; rfl
      obtain ⟨L1, L2, L3⟩ := leaf w x2 hw hx2
      have x0 : (nI (pdg (h 2) n p - p) = 0) ↔ pdg (h 2) n p - p = 0 := nI_eq (b := 0) (by omega) (by omega)
      have x2' : (2 < nI (pdg (h 2) n p - p)) ↔ 2 < pdg (h 2) n p - p := nI_ltb (a := 2) (by omega) (by omega)
      have nof : w 1 5 < w 1 0 → ¬ f_Re_isFigure (w 2 (w 1 5).toNatClampNeg) := by
        intro q z
        rw [w5, w0] at q
        have q' := (nI_ltb (by omega) (by omega)).mp q
        rw [w5, w2, nI_clamp (by omega), fig_n] at z
        have := pdg_go q' z
        have l2 := (pdg_le (t := h 2) (n := n) (n - (pdg (h 2) n p + 1)) (pdg (h 2) n p + 1) (by omega)).1
        have idem : pdg (h 2) n (pdg (h 2) n p) = pdg (h 2) n p := by
          have gen : ∀ t i, i + t = n → pdg (h 2) n (pdg (h 2) n i) = pdg (h 2) n i := by
            intro t
            induction t with
            | zero => intro i hi; rw [pdg_at (i := i) (by omega), pdg_at (by omega)]
            | succ t ih =>
              intro i hi
              by_cases y : pdc (h 2 i)
              · rw [pdg_go (i := i) (by omega) y]; exact ih (i + 1) (by omega)
              · rw [pdg_at (i := i) (fun x => y x.2), pdg_at (fun x => y x.2)]
          exact gen (n - p) p (by omega)
        omega
      refine v_Re_readNumber_16 _ _ w (fun _ q1 q2 => L1 (fun y => q1 (x0.mpr y)) (fun y => q2 (x2'.mpr y))) (fun _ q1 q2 => L2 (x2'.mp q2)) (fun _ q1 q2 => L3 (x0.mp q1)) (fun _ q1 q2 => by have := x0.mp q1; have := x2'.mp q2; omega) (fun q => ?_) (fun _ _ q1 q2 => L1 (fun y => q1 (x0.mpr y)) (fun y => q2 (x2'.mpr y))) (fun _ _ q1 q2 => L2 (x2'.mp q2)) (fun _ _ q1 q2 => L3 (x0.mp q1)) (fun _ _ q1 q2 => by have := x0.mp q1; have := x2'.mp q2; omega) (fun q1 q2 => absurd q2 (nof q1))
      rw [w5, w0] at q
      have q' := (nI_ltb (by omega) (by omega)).mp q
      rw [w5]; exact nI_inB (by omega) (by decide)
    | succ t ih =>
      intro i w x2 hi hpi hw hx2
      have w5 : w 1 5 = nI i := by rw [hw]; rfl
      have w0 : w 1 0 = nI n := by rw [hw]; exact c2
      have w2 : w 2 = h 2 := by rw [hw]; rfl
      have hlt : w 1 5 < w 1 0 := by rw [w5, w0]; exact (nI_ltb (by omega) (by omega)).mpr (by omega)
      have hdc : pdc (h 2 i) := hall i hpi (by omega)
      have hfig : f_Re_isFigure (w 2 (w 1 5).toNatClampNeg) := by rw [w5, w2, nI_clamp (by omega), fig_n]; exact hdc
      refine v_Re_readNumber_16 _ _ w (fun q => absurd hlt q) (fun q => absurd hlt q) (fun q => absurd hlt q) (fun q => absurd hlt q) (fun _ => by rw [w5]; exact nI_inB (by omega) (by decide)) (fun _ q => absurd hfig q) (fun _ q => absurd hfig q) (fun _ q => absurd hfig q) (fun _ q => absurd hfig q) (fun _ _ => ?_)
      rw [← nI_succ, show i - p + 1 = i + 1 - p by omega]
      refine ih (i + 1) _ _ (by omega) (by omega) ?_ (fun hl => ?_)
      · rw [w5, hw, ewS_S, ewS_self, upd_S, nI_succ]
      · rw [if_neg (show ¬ (2 : Int32) < nI (i + 1 - p) from nI_nlt (b := i + 1 - p) (a := 2) (by omega) (by omega)), w5, w2, nI_clamp (by omega), hx2 (by omega)]
        obtain ⟨dg, d1, d2, d3⟩ := fig_v hdc
        have s2 := sm2 (i - p) (by omega) (by omega)
        have s3 : 10 ^ (i - p) ≤ 10 := by rcases (show i - p = 0 ∨ i - p = 1 by omega) with q | q <;> rw [q] <;> decide
        have ps : pvl (h 2) p (i + 1 - p) = if 1000 < pvl (h 2) p (i - p) then pvl (h 2) p (i - p) else 10 * pvl (h 2) p (i - p) + ((h 2 (p + (i - p))).toInt - 48).toNat := by rw [show i + 1 - p = (i - p) + 1 by omega]; rfl
        rw [ps, if_neg (by omega), show p + (i - p) = i by omega, d3, d2, show (nI (pvl (h 2) p (i - p)) : Int32) * 10 = nI (pvl (h 2) p (i - p) * 10) from nI_mu _ 10, nI_ad, show (48 : Int32) = nI 48 from rfl, nI_sub (by omega)]
        congr 1; omega
  have st := key (pdg (h 2) n p - p) p (ewS (g_Re_skipBlanks h) 1 (upd (g_Re_skipBlanks h 1) 6 (g_Re_skipBlanks h 1 5))) 0 (by omega) (Nat.le_refl _) (by
    rw [eB, ewS_S, ewS_self]
    congr 1
    show upd (upd (h 1) 5 (nI p)) 6 (nI p) = _
    exact upd_c _ _ _ (by decide)) (fun _ => by rw [Nat.sub_self]; rfl)
  rw [Nat.sub_self] at st
  exact st
