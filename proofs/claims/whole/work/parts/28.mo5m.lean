/-! the reference: a stretch, a line -/
def pwH (g : Nat → Int32) (isE : Bool) (a b : Nat) : Nat := if a = b then 1 else if isE then (if g a = g b then 2 else 0) else (if g a = g b then 0 else 3)
def mTe (h : Nat → Nat → Int32) (h' : Nat → Nat → Int32) (y : Int32) : Prop := ∀ a n ns ne : Nat, mTx h a n → h 194 18 = nI ns → ns ≤ 8 → h 194 21 = nI ne → ne < 7 →
  mFq h h' [206, 207, 210] [13, 14, 15, 16, 17, 21] ∧
  (p2f (h 203) n a ns ≠ 0 → y = nI (p2f (h 203) n a ns) ∧ h' 194 13 = nI (p2p (h 203) n a ns) ∧ h' 194 14 = h 194 14) ∧
  (p2f (h 203) n a ns = 0 →
    (pwH (h 210) true (pnv (h 203) n a) (pnv (h 203) n (pnq (h 203) n a)) ≠ 0 → y = 4 ∧ h' 194 13 = nI (pnp (h 203) n (pnq (h 203) n a)) ∧ h' 194 14 = nI (pwH (h 210) true (pnv (h 203) n a) (pnv (h 203) n (pnq (h 203) n a)))) ∧
    (pwH (h 210) true (pnv (h 203) n a) (pnv (h 203) n (pnq (h 203) n a)) = 0 → y = 0 ∧ h' 194 13 = h 194 13 ∧ h' 194 14 = h 194 14 ∧ h' 194 15 = nI (pnq (h 203) n (pnq (h 203) n a)) ∧ h' 194 21 = nI (ne + 1) ∧ h' 206 = upd (h 206) ne (nI (pnv (h 203) n a)) ∧ h' 207 = upd (h 207) ne (nI (pnv (h 203) n (pnq (h 203) n a))) ∧
      ∀ s, s < ns → h' 210 s = if h 210 s = h 210 (pnv (h 203) n (pnq (h 203) n a)) then h 210 (pnv (h 203) n a) else h 210 s))
def p_Mo_takeStretch (h : Nat → Nat → Int32) : Prop := ∃ a n ns ne : Nat, mTx h a n ∧ h 194 18 = nI ns ∧ ns ≤ 8 ∧ h 194 21 = nI ne ∧ ne < 7
theorem s_Mo_takeStretch {X : Nat × (Nat → Int32)} {d : Nat} {cu sp n1 n2 n3 n4 : Nat} (h : Nat → Nat → Int32) (hp : p_Mo_takeStretch h) : ewP X Mo_takeStretch (d + 3) 0 [some (.ref 194), none, none, none, none, none, none] [] (0, 0) (229, ewR cu sp n1 n2 n3 n4, h) (fun v S' => ∃ (h' : Nat → Nat → Int32) (y : Int32), mTe h h' y ∧ v = some (.int y) ∧ S' = (229, ewR cu sp n1 n2 n3 n4, h')) := by
  obtain ⟨a, n, ns, ne, hT, hs, hs8, he, he7⟩ := hp
  obtain ⟨ha, hn, han, hn2⟩ := id hT
  have uniq : ∀ {P : Nat → Nat → Nat → Nat → Prop}, P a n ns ne → ∀ a' n' s' e' : Nat, mTx h a' n' → h 194 18 = nI s' → s' ≤ 8 → h 194 21 = nI e' → e' < 7 → P a' n' s' e' := by
    intro P hP a' n' s' e' hT' hs' hl' he' hl2
    have e1 : a' = a := (nI_eq (by have := hT'.2.2.1; have := hT'.2.2.2; omega) (by omega)).mp (hT'.1.symm.trans ha)
    have e2 : n' = n := (nI_eq (by have := hT'.2.2.2; omega) (by omega)).mp (hT'.2.1.symm.trans hn)
    have e3 : s' = ns := (nI_eq (by omega) (by omega)).mp (hs'.symm.trans hs)
    have e4 : e' = ne := (nI_eq (by omega) (by omega)).mp (he'.symm.trans he)
    subst e1; subst e2; subst e3; subst e4
    exact hP
  have hx : (h 194 18 - 1).toInt = (ns : Int) - 1 := by rw [hs, nI_pm (by omega)]
  have q1 := pnq_le (t := h 203) han
  refine v_Mo_takeStretch_0 h ⟨a, n, ns, hT, hx, by omega⟩ (fun w y hR => ?_)
  obtain ⟨fr, ey, e13, e15, ev⟩ := hR a n ns hT hx (by omega)
  have hf := pnf_lt (t := h 203) (n := n) (a := a) (lim := ns)
  have w18 : w 194 18 = nI ns := by rw [fr.2 18 (by decide)]; exact hs
  have hxw : (w 194 18 - 1).toInt = (ns : Int) - 1 := by rw [w18, nI_pm (by omega)]
  have wT : mTx w (pnq (h 203) n a) n := ⟨e15, by rw [fr.2 12 (by decide)]; exact hn, q1.2.1, hn2⟩
  refine ⟨fun hy => ⟨_, n, ns, wT, hxw, by omega⟩, fun hy => ?_, fun hy => ?_⟩
  · rw [ey, nI_pos2 (by omega)] at hy
    have f0 : pnf (h 203) n a ns = 0 := by omega
    intro w2 y2 hR2
    have t2 : w 203 = h 203 := fr.1 203 (by decide)
    obtain ⟨fr2, ey2, e132, e152, ev2⟩ := hR2 (pnq (h 203) n a) n ns wT hxw (by omega)
    rw [t2] at ey2 e132 e152 ev2
    have q2 := pnq_le (t := h 203) q1.2.1
    have hf2 := pnf_lt (t := h 203) (n := n) (a := pnq (h 203) n a) (lim := ns)
    have pf : p2f (h 203) n a ns = pnf (h 203) n (pnq (h 203) n a) ns := by unfold p2f; rw [if_pos f0]
    have pp : p2p (h 203) n a ns = pnp (h 203) n (pnq (h 203) n a) := by unfold p2p; rw [if_pos f0]
    have fr3 : mFr h w2 [13, 15, 16, 17] := fr.tr fr2
    have g210 : w2 210 = h 210 := fr3.1 210 (by decide)
    obtain ⟨v1, v2⟩ := ev f0
    generalize hu : pnv (h 203) n a = u at v1
    have hub : u < ns := by rw [← hu]; exact pn_facts f0
    by_cases hy2 : 0 < y2
    · refine ⟨fun q => absurd hy2 q, fun q => absurd hy2 q, fun q => absurd hy2 q, fun q => absurd hy2 q, fun q => absurd hy2 q, fun _ => ?_⟩
      rw [ey2, nI_pos2 (by omega)] at hy2
      refine ⟨_, _, uniq ⟨(fr3.q []).wk (by simp) (by simp), fun _ => ⟨by rw [ey2, pf], by rw [e132, if_neg hy2, pp], fr3.2 14 (by decide)⟩, fun h0 => absurd h0 (by rw [pf]; exact hy2)⟩, rfl, rfl⟩
    · have hy3 := hy2
      rw [ey2, nI_pos2 (by omega)] at hy3
      have f02 : pnf (h 203) n (pnq (h 203) n a) ns = 0 := by omega
      have pf0 : p2f (h 203) n a ns = 0 := by rw [pf, f02]
      obtain ⟨v3, v4⟩ := ev2 f02
      have hvb0 := pn_facts f02
      generalize hv : pnv (h 203) n (pnq (h 203) n a) = vv at v3 hvb0
      have ew16 : (w 194 16 = w2 194 16) ↔ u = vv := by rw [v1, v3, nI_eq (by omega) (by omega)]
      have cu1 : (w 194 16).toNatClampNeg = u := by rw [v1, nI_clamp (by omega)]
      have cv1 : (w2 194 16).toNatClampNeg = vv := by rw [v3, nI_clamp (by omega)]
      have hfail : ∀ x : Nat, x ≠ 0 → pwH (h 210) true u vv = x → mTe h (g_Mo_failsBy w2 (nI x)) 4 := by
        intro x hx0 hpw
        refine uniq ⟨⟨fun k hk hK => ?_, fun j hj => ?_⟩, fun q => absurd pf0 q, fun _ => ⟨fun _ => ⟨rfl, ?_, ?_⟩, fun q => ?_⟩⟩
        · simp [g_Mo_failsBy, g_Mo_fails, ewS, hk]; exact fr3.1 k hk
        · simp at hj; simp [g_Mo_failsBy, g_Mo_fails, ewS, upd, hj]; exact fr3.2 j (by simp; omega)
        · simp [g_Mo_failsBy, g_Mo_fails, ewS, upd]; exact v4
        · rw [hu, hv, hpw]; simp [g_Mo_failsBy, g_Mo_fails, ewS, upd]
        · rw [hu, hv, hpw] at q; exact absurd q hx0
      refine ⟨fun _ c1 => ?_, fun _ _ => by rw [v1]; exact vp_in_nI (by omega) (by decide), fun _ _ => by rw [v3]; exact vp_in_nI (by omega) (by decide), fun _ c1 c2 => ?_, fun _ c1 c2 => ?_, fun q => absurd q hy2⟩
      · exact ⟨_, _, hfail 1 (by decide) (by unfold pwH; rw [if_pos (ew16.mp c1)]), rfl, rfl⟩
      · have huv : ¬ u = vv := fun q => c1 (ew16.mpr q)
        rw [cu1, cv1, g210] at c2
        have hpw : pwH (h 210) true u vv = 0 := by unfold pwH; rw [if_neg huv, if_pos rfl, if_neg c2]
        -- the loop
        have loop : ∀ (k i : Nat) (g : Nat → Nat → Int32) (x2 : Int32), i + k = ns → mFq w2 g [210] [] → (∀ s, s < i → g 210 s = if h 210 s = h 210 vv then h 210 u else h 210 s) → (∀ s, i ≤ s → g 210 s = h 210 s) →
            ewP X Mo_takeStretch (d + 3) 102 [some (.ref 194), some (.int (h 194 21)), some (.int x2), some (.int (w 194 16)), some (.int (w2 194 16)), some (.int (w2 210 ((w2 194 16).toNatClampNeg))), some (.int (nI i))] [] (0, 0) (229, ewR cu sp n1 n2 n3 n4, g) (fun v S' => ∃ (h' : Nat → Nat → Int32) (y : Int32), mTe h h' y ∧ v = some (.int y) ∧ S' = (229, ewR cu sp n1 n2 n3 n4, h')) := by
          intro k
          induction k with
          | zero =>
            intro i g x2 hk hfg hlo hhi
            have hi : i = ns := by omega
            subst hi
            have g18 : g 194 18 = nI i := by rw [hfg.2 18 (by decide), fr3.2 18 (by decide)]; exact hs
            have hnl : ¬ (nI i < g 194 18) := by rw [g18]; exact nI_nlt (Nat.le_refl _) (by omega)
            refine v_Mo_takeStretch_102 _ _ _ _ _ _ g (fun _ => by rw [he]; exact vp_in_nI (by omega) (by decide)) (fun _ => ?_) (fun q => absurd q hnl) (fun q => absurd q hnl) (fun q => absurd q hnl)
            refine ⟨_, _, uniq ⟨⟨fun k hk hK => ?_, fun j hj => ?_⟩, fun q => absurd pf0 q, fun _ => ⟨fun q => absurd (by rw [hu, hv]; exact hpw) q, fun _ => ⟨rfl, ?_, ?_, ?_, ?_, ?_, ?_, ?_⟩⟩⟩, rfl, rfl⟩
            · simp at hK; simp [ewS, hk, hK]; rw [hfg.1 k hk (by simp [hK])]; exact fr3.1 k hk
            · simp at hj; simp [ewS, upd, hj]; rw [hfg.2 j (by simp)]; exact fr3.2 j (by simp; omega)
            · simp [ewS, upd]; rw [hfg.2 13 (by simp), e132, if_pos f02, e13, if_pos f0]
            · simp [ewS, upd]; rw [hfg.2 14 (by simp)]; exact fr3.2 14 (by decide)
            · simp [ewS, upd]; rw [hfg.2 15 (by simp)]; exact e152
            · simp [ewS, upd]; rw [hfg.2 21 (by simp), fr3.2 21 (by decide), he, nI_1]
            · simp [ewS]; rw [hfg.1 206 (by decide) (by decide), fr3.1 206 (by decide), he, nI_clamp (by omega), v1, hu]
            · simp [ewS]; rw [hfg.1 207 (by decide) (by decide), fr3.1 207 (by decide), he, nI_clamp (by omega), v3, hv]
            · intro s hs2
              simp [ewS]; rw [hlo s hs2, hu, hv]
          | succ k ih =>
            intro i g x2 hk hfg hlo hhi
            have g18 : g 194 18 = nI ns := by rw [hfg.2 18 (by decide), fr3.2 18 (by decide)]; exact hs
            have hlt : nI i < g 194 18 := by rw [g18]; exact nI_lt (by omega) (by omega)
            have hgu : g 210 u = h 210 u := by
              by_cases hui : u < i
              · rw [hlo u hui, if_neg c2]
              · exact hhi u (by omega)
            have ci : (nI i).toNatClampNeg = i := nI_clamp (by omega)
            refine v_Mo_takeStretch_102 _ _ _ _ _ _ g (fun q => absurd hlt q) (fun q => absurd hlt q) (fun _ => vp_in_nI (by omega) (by decide)) (fun _ _ => by rw [v1]; exact vp_in_nI (by omega) (by decide)) (fun _ => ?_)
            rw [nI_1]
            refine ih (i + 1) _ x2 (by omega) ⟨fun k hk hK => ?_, fun j hj => ?_⟩ (fun s hs2 => ?_) (fun s hs2 => ?_)
            · simp at hK; simp [ewS, hK]; exact hfg.1 k hk (by simp [hK])
            · simp [ewS]; exact hfg.2 j hj
            · rw [ci, cv1, cu1, g210, hgu, hhi i (Nat.le_refl _)]
              by_cases hsi : s = i
              · subst hsi; simp [ewS, upd]
              · simp [ewS, upd, hsi]; exact hlo s (by omega)
            · rw [ci]
              simp [ewS, upd, show ¬ s = i by omega]; exact hhi s (by omega)
        exact loop ns 0 w2 _ (by omega) ⟨fun _ _ _ => rfl, fun _ _ => rfl⟩ (fun s hs2 => absurd hs2 (by omega)) (fun s _ => by rw [g210])
      · have huv : ¬ u = vv := fun q => c1 (ew16.mpr q)
        rw [cu1, cv1, g210] at c2
        exact ⟨_, _, hfail 2 (by decide) (by unfold pwH; rw [if_neg huv, if_pos rfl, if_pos c2]), rfl, rfl⟩
  · rw [ey, nI_pos2 (by omega)] at hy
    have pf : p2f (h 203) n a ns = pnf (h 203) n a ns := by unfold p2f; rw [if_neg hy]
    have pp : p2p (h 203) n a ns = pnp (h 203) n a := by unfold p2p; rw [if_neg hy]
    refine ⟨_, _, uniq ⟨(fr.q []).wk (by simp) (by simp), fun _ => ⟨by rw [ey, pf], by rw [e13, if_neg hy, pp], fr.2 14 (by decide)⟩, fun h0 => absurd h0 (by rw [pf]; exact hy)⟩, rfl, rfl⟩
def mTl (h : Nat → Nat → Int32) (h' : Nat → Nat → Int32) (y : Int32) : Prop := ∀ a n ns nl : Nat, mTx h a n → h 194 18 = nI ns → ns ≤ 8 → h 194 24 = nI nl → nl < 3 →
  mFq h h' [208, 209] [13, 14, 15, 16, 17, 24] ∧
  (p2f (h 203) n a ns ≠ 0 → y = nI (p2f (h 203) n a ns) ∧ h' 194 13 = nI (p2p (h 203) n a ns) ∧ h' 194 14 = h 194 14) ∧
  (p2f (h 203) n a ns = 0 →
    (pwH (h 210) false (pnv (h 203) n a) (pnv (h 203) n (pnq (h 203) n a)) ≠ 0 → y = 4 ∧ h' 194 13 = nI (pnp (h 203) n (pnq (h 203) n a)) ∧ h' 194 14 = nI (pwH (h 210) false (pnv (h 203) n a) (pnv (h 203) n (pnq (h 203) n a)))) ∧
    (pwH (h 210) false (pnv (h 203) n a) (pnv (h 203) n (pnq (h 203) n a)) = 0 → y = 0 ∧ h' 194 13 = h 194 13 ∧ h' 194 14 = h 194 14 ∧ h' 194 15 = nI (pnq (h 203) n (pnq (h 203) n a)) ∧ h' 194 24 = nI (nl + 1) ∧ h' 208 = upd (h 208) nl (nI (pnv (h 203) n a)) ∧ h' 209 = upd (h 209) nl (nI (pnv (h 203) n (pnq (h 203) n a)))))
def p_Mo_takeLine (h : Nat → Nat → Int32) : Prop := ∃ a n ns nl : Nat, mTx h a n ∧ h 194 18 = nI ns ∧ ns ≤ 8 ∧ h 194 24 = nI nl ∧ nl < 3
theorem s_Mo_takeLine {X : Nat × (Nat → Int32)} {d : Nat} {cu sp n1 n2 n3 n4 : Nat} (h : Nat → Nat → Int32) (hp : p_Mo_takeLine h) : ewP X Mo_takeLine (d + 3) 0 [some (.ref 194), none, none, none, none] [] (0, 0) (229, ewR cu sp n1 n2 n3 n4, h) (fun v S' => ∃ (h' : Nat → Nat → Int32) (y : Int32), mTl h h' y ∧ v = some (.int y) ∧ S' = (229, ewR cu sp n1 n2 n3 n4, h')) := by
  obtain ⟨a, n, ns, ne, hT, hs, hs8, he, he7⟩ := hp
  obtain ⟨ha, hn, han, hn2⟩ := id hT
  have uniq : ∀ {P : Nat → Nat → Nat → Nat → Prop}, P a n ns ne → ∀ a' n' s' e' : Nat, mTx h a' n' → h 194 18 = nI s' → s' ≤ 8 → h 194 24 = nI e' → e' < 3 → P a' n' s' e' := by
    intro P hP a' n' s' e' hT' hs' hl' he' hl2
    have e1 : a' = a := (nI_eq (by have := hT'.2.2.1; have := hT'.2.2.2; omega) (by omega)).mp (hT'.1.symm.trans ha)
    have e2 : n' = n := (nI_eq (by have := hT'.2.2.2; omega) (by omega)).mp (hT'.2.1.symm.trans hn)
    have e3 : s' = ns := (nI_eq (by omega) (by omega)).mp (hs'.symm.trans hs)
    have e4 : e' = ne := (nI_eq (by omega) (by omega)).mp (he'.symm.trans he)
    subst e1; subst e2; subst e3; subst e4
    exact hP
  have hx : (h 194 18 - 1).toInt = (ns : Int) - 1 := by rw [hs, nI_pm (by omega)]
  have q1 := pnq_le (t := h 203) han
  refine v_Mo_takeLine_0 h ⟨a, n, ns, hT, hx, by omega⟩ (fun w y hR => ?_)
  obtain ⟨fr, ey, e13, e15, ev⟩ := hR a n ns hT hx (by omega)
  have hf := pnf_lt (t := h 203) (n := n) (a := a) (lim := ns)
  have w18 : w 194 18 = nI ns := by rw [fr.2 18 (by decide)]; exact hs
  have hxw : (w 194 18 - 1).toInt = (ns : Int) - 1 := by rw [w18, nI_pm (by omega)]
  have wT : mTx w (pnq (h 203) n a) n := ⟨e15, by rw [fr.2 12 (by decide)]; exact hn, q1.2.1, hn2⟩
  refine ⟨fun hy => ⟨_, n, ns, wT, hxw, by omega⟩, fun hy => ?_, fun hy => ?_⟩
  · rw [ey, nI_pos2 (by omega)] at hy
    have f0 : pnf (h 203) n a ns = 0 := by omega
    intro w2 y2 hR2
    have t2 : w 203 = h 203 := fr.1 203 (by decide)
    obtain ⟨fr2, ey2, e132, e152, ev2⟩ := hR2 (pnq (h 203) n a) n ns wT hxw (by omega)
    rw [t2] at ey2 e132 e152 ev2
    have q2 := pnq_le (t := h 203) q1.2.1
    have hf2 := pnf_lt (t := h 203) (n := n) (a := pnq (h 203) n a) (lim := ns)
    have pf : p2f (h 203) n a ns = pnf (h 203) n (pnq (h 203) n a) ns := by unfold p2f; rw [if_pos f0]
    have pp : p2p (h 203) n a ns = pnp (h 203) n (pnq (h 203) n a) := by unfold p2p; rw [if_pos f0]
    have fr3 : mFr h w2 [13, 15, 16, 17] := fr.tr fr2
    have g210 : w2 210 = h 210 := fr3.1 210 (by decide)
    obtain ⟨v1, v2⟩ := ev f0
    generalize hu : pnv (h 203) n a = u at v1
    have hub : u < ns := by rw [← hu]; exact pn_facts f0
    by_cases hy2 : 0 < y2
    · refine ⟨fun q => absurd hy2 q, fun q => absurd hy2 q, fun q => absurd hy2 q, fun q => absurd hy2 q, fun q => absurd hy2 q, fun q => absurd hy2 q, fun _ => ?_⟩
      rw [ey2, nI_pos2 (by omega)] at hy2
      refine ⟨_, _, uniq ⟨(fr3.q []).wk (by simp) (by simp), fun _ => ⟨by rw [ey2, pf], by rw [e132, if_neg hy2, pp], fr3.2 14 (by decide)⟩, fun h0 => absurd h0 (by rw [pf]; exact hy2)⟩, rfl, rfl⟩
    · have hy3 := hy2
      rw [ey2, nI_pos2 (by omega)] at hy3
      have f02 : pnf (h 203) n (pnq (h 203) n a) ns = 0 := by omega
      have pf0 : p2f (h 203) n a ns = 0 := by rw [pf, f02]
      obtain ⟨v3, v4⟩ := ev2 f02
      have hvb0 := pn_facts f02
      generalize hv : pnv (h 203) n (pnq (h 203) n a) = vv at v3 hvb0
      have ew16 : (w 194 16 = w2 194 16) ↔ u = vv := by rw [v1, v3, nI_eq (by omega) (by omega)]
      have cu1 : (w 194 16).toNatClampNeg = u := by rw [v1, nI_clamp (by omega)]
      have cv1 : (w2 194 16).toNatClampNeg = vv := by rw [v3, nI_clamp (by omega)]
      have hfail : ∀ x : Nat, x ≠ 0 → pwH (h 210) false u vv = x → mTl h (g_Mo_failsBy w2 (nI x)) 4 := by
        intro x hx0 hpw
        refine uniq ⟨⟨fun k hk hK => ?_, fun j hj => ?_⟩, fun q => absurd pf0 q, fun _ => ⟨fun _ => ⟨rfl, ?_, ?_⟩, fun q => ?_⟩⟩
        · simp [g_Mo_failsBy, g_Mo_fails, ewS, hk]; exact fr3.1 k hk
        · simp at hj; simp [g_Mo_failsBy, g_Mo_fails, ewS, upd, hj]; exact fr3.2 j (by simp; omega)
        · simp [g_Mo_failsBy, g_Mo_fails, ewS, upd]; exact v4
        · rw [hu, hv, hpw]; simp [g_Mo_failsBy, g_Mo_fails, ewS, upd]
        · rw [hu, hv, hpw] at q; exact absurd q hx0
      refine ⟨fun _ c1 => ?_, fun _ _ => by rw [v1]; exact vp_in_nI (by omega) (by decide), fun _ _ => by rw [v3]; exact vp_in_nI (by omega) (by decide), fun _ _ _ => by rw [he]; exact vp_in_nI (by omega) (by decide), fun _ c1 c2 => ?_, fun _ c1 c2 => ?_, fun q => absurd q hy2⟩
      · exact ⟨_, _, hfail 1 (by decide) (by unfold pwH; rw [if_pos (ew16.mp c1)]), rfl, rfl⟩
      · have huv : ¬ u = vv := fun q => c1 (ew16.mpr q)
        rw [cu1, cv1, g210] at c2
        have hpw : pwH (h 210) false u vv = 0 := by unfold pwH; rw [if_neg huv, if_neg (by decide), if_pos c2]
        refine ⟨_, _, uniq ⟨⟨fun k hk hK => ?_, fun j hj => ?_⟩, fun q => absurd pf0 q, fun _ => ⟨fun q => absurd (by rw [hu, hv]; exact hpw) q, fun _ => ⟨rfl, ?_, ?_, ?_, ?_, ?_, ?_⟩⟩⟩, rfl, rfl⟩
        · simp at hK; simp [ewS, hk, hK]; exact fr3.1 k hk
        · simp at hj; simp [ewS, upd, hj]; exact fr3.2 j (by simp; omega)
        · simp [ewS, upd]; rw [e132, if_pos f02, e13, if_pos f0]
        · simp [ewS, upd]; exact fr3.2 14 (by decide)
        · simp [ewS, upd]; exact e152
        · simp [ewS, upd]; rw [fr3.2 24 (by decide), he, nI_1]
        · simp [ewS]; rw [fr3.1 208 (by decide), he, nI_clamp (by omega), v1, hu]
        · simp [ewS]; rw [fr3.1 209 (by decide), he, nI_clamp (by omega), v3, hv]
      · have huv : ¬ u = vv := fun q => c1 (ew16.mpr q)
        rw [cu1, cv1, g210] at c2
        exact ⟨_, _, hfail 3 (by decide) (by unfold pwH; rw [if_neg huv, if_neg (by decide), if_neg c2]), rfl, rfl⟩
  · rw [ey, nI_pos2 (by omega)] at hy
    have pf : p2f (h 203) n a ns = pnf (h 203) n a ns := by unfold p2f; rw [if_neg hy]
    have pp : p2p (h 203) n a ns = pnp (h 203) n a := by unfold p2p; rw [if_neg hy]
    refine ⟨_, _, uniq ⟨(fr.q []).wk (by simp) (by simp), fun _ => ⟨by rw [ey, pf], by rw [e13, if_neg hy, pp], fr.2 14 (by decide)⟩, fun h0 => absurd h0 (by rw [pf]; exact hy)⟩, rfl, rfl⟩
