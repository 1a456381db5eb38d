/-! the reference: a number -/
/-- outside row 194, and there outside some slots, nothing changes -/
def mFr (h h' : Nat → Nat → Int32) (L : List Nat) : Prop := (∀ k, k ≠ 194 → h' k = h k) ∧ ∀ j, j ∉ L → h' 194 j = h 194 j
theorem mFr.rf (h : Nat → Nat → Int32) (L : List Nat) : mFr h h L := ⟨fun _ _ => rfl, fun _ _ => rfl⟩
theorem mFr.tr {h h1 h2 : Nat → Nat → Int32} {L : List Nat} (a : mFr h h1 L) (b : mFr h1 h2 L) : mFr h h2 L := ⟨fun k hk => (b.1 k hk).trans (a.1 k hk), fun j hj => (b.2 j hj).trans (a.2 j hj)⟩
theorem mFr.wk {h h1 : Nat → Nat → Int32} {L L' : List Nat} (a : mFr h h1 L) (hl : ∀ x ∈ L, x ∈ L') : mFr h h1 L' := ⟨a.1, fun j hj => a.2 j (fun q => hj (hl j q))⟩
/-- the text and the place in it -/
def mTx (h : Nat → Nat → Int32) (a n : Nat) : Prop := h 194 15 = nI a ∧ h 194 12 = nI n ∧ a ≤ n ∧ n ≤ 240
def mTn (h : Nat → Nat → Int32) (x1 : Int32) (h' : Nat → Nat → Int32) (y : Int32) : Prop := ∀ a n lim : Nat, mTx h a n → x1.toInt = (lim : Int) - 1 → lim ≤ 1000 →
  mFr h h' [13, 15, 16, 17] ∧ y = nI (pnf (h 203) n a lim) ∧ h' 194 13 = (if pnf (h 203) n a lim = 0 then h 194 13 else nI (pnp (h 203) n a)) ∧ h' 194 15 = nI (pnq (h 203) n a) ∧ (pnf (h 203) n a lim = 0 → h' 194 16 = nI (pnv (h 203) n a) ∧ h' 194 17 = nI (pnp (h 203) n a))
def p_Mo_takeNumber (h : Nat → Nat → Int32) (x1 : Int32) : Prop := ∃ a n lim : Nat, mTx h a n ∧ x1.toInt = (lim : Int) - 1 ∧ lim ≤ 1000
theorem pdc_in (c : Int32) : f_Mo_in c.toInt64 (Int64.ofNat 48) (Int64.ofNat 57) ↔ pdc c := by
  rw [in_nat c 48 57 (by decide) (by decide)]; rfl
theorem s_Mo_takeNumber {X : Nat × (Nat → Int32)} {d : Nat} {cu sp n1 n2 n3 n4 : Nat} (x1 : Int32) (h : Nat → Nat → Int32) (hp : p_Mo_takeNumber h x1) : ewP X Mo_takeNumber (d + 2) 0 [some (.ref 194), some (.int x1), none] [] (0, 0) (229, ewR cu sp n1 n2 n3 n4, h) (fun v S' => ∃ (h' : Nat → Nat → Int32) (y : Int32), mTn h x1 h' y ∧ v = some (.int y) ∧ S' = (229, ewR cu sp n1 n2 n3 n4, h')) := by
  obtain ⟨a, n, lim, hT, hx1, hlim⟩ := hp
  obtain ⟨ha, hn, han, hn2⟩ := id hT
  have uniq : ∀ {P : Nat → Nat → Nat → Prop}, P a n lim → ∀ a' n' lim' : Nat, mTx h a' n' → x1.toInt = (lim' : Int) - 1 → lim' ≤ 1000 → P a' n' lim' := by
    intro P hP a' n' lim' hT' hx' hl'
    obtain ⟨ha', hn', han', hn2'⟩ := hT'
    have e1 : a' = a := (nI_eq (by omega) (by omega)).mp (ha'.symm.trans ha)
    have e2 : n' = n := (nI_eq (by omega) (by omega)).mp (hn'.symm.trans hn)
    have e3 : lim' = lim := by omega
    subst e1; subst e2; subst e3
    exact hP
  have ca : (h 194 15).toNatClampNeg = a := by rw [ha, nI_clamp (by omega)]
  have cn : (h 194 12).toNatClampNeg = n := by rw [hn, nI_clamp (by omega)]
  have hp := psk_le (t := h 203) (n := n) (n - a) a (by omega)
  generalize hpe : psk (h 203) n a = p at hp
  have hpn : pnp (h 203) n a = p := hpe
  have eg : g_Mo_here h = ewS h 194 (upd (h 194) 15 (nI p)) := by unfold g_Mo_here; rw [ca, cn, hpe]
  have ef : f_Mo_here h = if p < n then h 203 p else -1 := by unfold f_Mo_here; rw [ca, cn, hpe]
  refine v_Mo_takeNumber_0 x1 h ⟨a, n, hT⟩ (fun hdg => ?_) (fun hdg => ?_)
  · rw [pdc_in, ef] at hdg
    have hpl : p < n := by
      rcases Nat.lt_or_ge p n with q | q
      · exact q
      · rw [if_neg (by omega)] at hdg; exact absurd hdg.1 (by decide)
    rw [if_pos hpl] at hdg
    have hq := pdg_le (t := h 203) (n := n) (n - p) p (by omega)
    have hall := pdg_all (t := h 203) (n := n) (n - p) p (by omega)
    have hqe : pnq (h 203) n a = pdg (h 203) n p := by unfold pnq; rw [hpn]
    generalize hqg : pdg (h 203) n p = q at hq hall hqe
    have hqp : p < q := by
      rw [← hqg, pdg_go hpl hdg]
      have := pdg_le (t := h 203) (n := n) (n - (p + 1)) (p + 1) (by omega)
      omega
    -- the loop
    have loop : ∀ (k i : Nat) (g : Nat → Nat → Int32) (x2 : Int32), i + k = q → p ≤ i → mFr h g [15, 16, 17] → g 194 15 = nI i → g 194 16 = nI (pvl (h 203) p (i - p)) → g 194 17 = nI p →
        ewP X Mo_takeNumber (d + 2) 42 [some (.ref 194), some (.int x1), some (.int x2)] [] (0, 0) (229, ewR cu sp n1 n2 n3 n4, g) (fun v S' => ∃ (h' : Nat → Nat → Int32) (y : Int32), mTn h x1 h' y ∧ v = some (.int y) ∧ S' = (229, ewR cu sp n1 n2 n3 n4, h')) := by
      intro k
      induction k with
      | zero =>
        intro i g x2 hk hpi hfr h15 h16 h17
        have hiq : i = q := by omega
        subst hiq
        have gn : g 194 12 = nI n := by rw [hfr.2 12 (by decide)]; exact hn
        have gt : g 203 = h 203 := hfr.1 203 (by decide)
        have last : ewP X Mo_takeNumber (d + 2) 129 [some (.ref 194), some (.int x1), some (.int x2)] [] (0, 0) (229, ewR cu sp n1 n2 n3 n4, g) (fun v S' => ∃ (h' : Nat → Nat → Int32) (y : Int32), mTn h x1 h' y ∧ v = some (.int y) ∧ S' = (229, ewR cu sp n1 n2 n3 n4, h')) := by
          have hv : pnv (h 203) n a = pvl (h 203) p (i - p) := by unfold pnv; rw [hpn, hqe]
          have hvs := pvl_small (h 203) p (i - p) (fun j hj => hall (p + j) (by omega) (by omega))
          have e2 : (2 : Int32) < g 194 15 - g 194 17 ↔ 2 < i - p := by
            rw [h15, h17, pk_sub hpi, show (2 : Int32) = nI 2 from rfl, nI_ltI (by decide) (by omega)]
          have e3 : x1 < g 194 16 ↔ lim ≤ pvl (h 203) p (i - p) := by
            rw [Int32.lt_iff_toInt_lt, h16, nI_toInt (by omega), hx1]; omega
          have fl : ∀ (yy : Nat) (g' : Nat → Nat → Int32), pnf (h 203) n a lim = yy → mFr g g' [13] → g' 194 13 = (if yy = 0 then h 194 13 else nI p) → mTn h x1 g' (nI yy) := by
            intro yy g' hyy hfr' h13
            refine uniq ⟨⟨fun k hk => (hfr'.1 k hk).trans (hfr.1 k hk), fun j hj => ?_⟩, by rw [hyy], by rw [h13, hyy, hpn], ?_, fun _ => ⟨?_, ?_⟩⟩
            · simp at hj
              rw [hfr'.2 j (by simp; omega), hfr.2 j (by simp; omega)]
            · rw [hfr'.2 15 (by decide), h15, hqe]
            · rw [hfr'.2 16 (by decide), h16, hv]
            · rw [hfr'.2 17 (by decide), h17, hpn]
          have pf : pnf (h 203) n a lim = if 2 < i - p ∨ lim ≤ pvl (h 203) p (i - p) then 2 else 0 := by
            unfold pnf
            rw [hv, hqe, hpn, if_neg (by omega)]
          have bad : (2 < i - p ∨ lim ≤ pvl (h 203) p (i - p)) → mTn h x1 (g_Mo_fails g 2 (g 194 17)) (f_Mo_fails g 2 (g 194 17)) := by
            intro hb
            refine fl 2 _ (by rw [pf, if_pos hb]) ⟨fun k hk => ?_, fun j hj => ?_⟩ ?_
            · simp [g_Mo_fails, ewS, hk]
            · simp at hj; simp [g_Mo_fails, ewS, upd, hj]
            · simp [g_Mo_fails, ewS, upd, h17]
          refine v_Mo_takeNumber_129 x1 x2 g (fun c1 => ?_) (fun c1 c2 => ?_) (fun c1 c2 => ?_)
          · exact ⟨_, _, bad (Or.inl (e2.mp c1)), rfl, rfl⟩
          · have hnb : ¬ (2 < i - p ∨ lim ≤ pvl (h 203) p (i - p)) := by
              rintro (q | q)
              · exact c1 (e2.mpr q)
              · exact c2 (e3.mpr q)
            exact ⟨_, _, fl 0 g (by rw [pf, if_neg hnb]) (mFr.rf _ _) (by rw [if_pos rfl]; exact hfr.2 13 (by decide)), rfl, rfl⟩
          · exact ⟨_, _, bad (Or.inr (e3.mp c2)), rfl, rfl⟩
        have hend : ¬ (i < n ∧ pdc (h 203 i)) := by
          intro hc
          have : pdg (h 203) n i = i := by
            have h9 := pdg_all (t := h 203) (n := n) (n - p) p (by omega)
            rw [hqg] at h9
            -- the run ends at i
            have key : ∀ (f j : Nat), j + f = n → p ≤ j → j ≤ i → pdg (h 203) n j = i → pdg (h 203) n i = i := by
              intro f
              induction f with
              | zero => intro j h1 h2 h3 h4; exact pdg_at (by omega)
              | succ f ihf =>
                intro j h1 h2 h3 h4
                by_cases hj : j < n ∧ pdc (h 203 j)
                · by_cases hji : j = i
                  · subst hji; exact h4
                  · rw [pdg_go hj.1 hj.2] at h4
                    exact ihf (j + 1) (by omega) (by omega) (by omega) h4
                · rw [pdg_at hj] at h4
                  subst h4
                  exact pdg_at hj
            exact key (n - p) p (by omega) (Nat.le_refl _) hpi hqg
          rw [pdg_go hc.1 hc.2] at this
          have h8 := pdg_le (t := h 203) (n := n) (n - (i + 1)) (i + 1) (by omega)
          omega
        refine v_Mo_takeNumber_42 x1 x2 g (fun _ => last) (fun c1 => ?_) (fun c1 c2 => last) (fun c1 c2 => ?_)
        · rw [h15, gn, nI_ltI (by omega) (by omega)] at c1
          rw [h15]; exact vp_in_nI (by omega) (by decide)
        · rw [h15, gn, nI_ltI (by omega) (by omega)] at c1
          rw [pdc_in, h15, nI_clamp (by omega), gt] at c2
          exact absurd ⟨c1, c2⟩ hend
      | succ k ih =>
        intro i g x2 hk hpi hfr h15 h16 h17
        have gn : g 194 12 = nI n := by rw [hfr.2 12 (by decide)]; exact hn
        have gt : g 203 = h 203 := hfr.1 203 (by decide)
        have hlt : g 194 15 < g 194 12 := by rw [h15, gn, nI_ltI (by omega) (by omega)]; omega
        have hd := hall i hpi (by omega)
        have ci : (g 194 15).toNatClampNeg = i := by rw [h15, nI_clamp (by omega)]
        have hvs := pvl_small (h 203) p (i - p) (fun j hj => hall (p + j) (by omega) (by omega))
        refine v_Mo_takeNumber_42 x1 x2 g (fun c1 => absurd hlt c1) (fun _ => by rw [h15]; exact vp_in_nI (by omega) (by decide)) (fun _ c2 => absurd (by rw [pdc_in, ci, gt]; exact hd) c2) (fun _ _ => ?_)
        refine ih (i + 1) _ x2 (by omega) (by omega) ⟨fun k hk => ?_, fun j hj => ?_⟩ ?_ ?_ ?_
        · simp [ewS, hk]; exact hfr.1 k hk
        · simp at hj; simp [ewS, upd, hj]; exact hfr.2 j (by simp; omega)
        · simp [ewS, upd, h15, nI_1]
        · rw [show i + 1 - p = (i - p) + 1 by omega]
          simp only [ewS, upd, if_true]
          rw [if_neg (show ¬ (16 : Nat) = 15 by decide)]
          unfold pvl
          rw [h16, ci, gt, show (1000 : Int32) = nI 1000 from rfl]
          rw [show p + (i - p) = i by omega]
          unfold pdc at hd
          by_cases hbig : 1000 < pvl (h 203) p (i - p)
          · rw [if_pos ((nI_ltI (by decide) (by omega)).mpr hbig), if_pos hbig]
          · rw [if_neg (fun q => hbig ((nI_ltI (by decide) (by omega)).mp q)), if_neg hbig]
            obtain ⟨cc, hcc, hc1, hc2⟩ : ∃ cc : Nat, h 203 i = nI cc ∧ 48 ≤ cc ∧ cc ≤ 57 := by
              refine ⟨(h 203 i).toInt.toNat, ?_, by omega, by omega⟩
              apply Int32.toInt_inj.mp
              rw [nI_toInt (by omega)]; omega
            rw [hcc, show (10 : Int32) = nI 10 from rfl, pk_mul, nI_add, show (48 : Int32) = nI 48 from rfl, pk_sub (by omega), nI_toInt (by omega)]
            congr 1
            omega
        · simp [ewS, upd, h17]
    refine loop (q - p) p _ _ (by omega) (Nat.le_refl _) ⟨fun k hk => ?_, fun j hj => ?_⟩ ?_ ?_ ?_
    · rw [eg]; simp [ewS, hk]
    · simp at hj; rw [eg]; simp [ewS, upd, hj]
    · rw [eg]; simp [ewS, upd]
    · rw [eg, Nat.sub_self]; simp [ewS, upd, pvl]; rfl
    · rw [eg]; simp [ewS, upd]
  · rw [pdc_in, ef] at hdg
    have hqp : pnq (h 203) n a = p := by
      unfold pnq
      rw [hpn]
      refine pdg_at (fun hc => hdg ?_)
      rw [if_pos hc.1]; exact hc.2
    have pf : pnf (h 203) n a lim = 1 := by unfold pnf; rw [hqp, hpn, if_pos rfl]
    refine ⟨_, _, uniq ⟨⟨fun k hk => ?_, fun j hj => ?_⟩, ?_, ?_, ?_, fun h0 => absurd h0 (by rw [pf]; decide)⟩, rfl, rfl⟩
    · rw [eg]; simp [g_Mo_fails, ewS, hk]
    · simp at hj; rw [eg]; simp [g_Mo_fails, ewS, upd, hj]
    · rw [pf]; rfl
    · rw [pf, eg, if_neg (by decide), hpn]; simp [g_Mo_fails, ewS, upd]
    · rw [eg, hqp]; simp [g_Mo_fails, ewS, upd]
