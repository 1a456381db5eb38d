/-! the reference: what stands behind a word -/
/-- outside row 194 (some slots) and some rows nothing changes -/
def mFq (h h' : Nat → Nat → Int32) (K L : List Nat) : Prop := (∀ k, k ≠ 194 → k ∉ K → h' k = h k) ∧ ∀ j, j ∉ L → h' 194 j = h 194 j
theorem mFr.q {h h' : Nat → Nat → Int32} {L : List Nat} (a : mFr h h' L) (K : List Nat) : mFq h h' K L := ⟨fun k hk _ => a.1 k hk, a.2⟩
theorem mFq.tr {h h1 h2 : Nat → Nat → Int32} {K L : List Nat} (a : mFq h h1 K L) (b : mFq h1 h2 K L) : mFq h h2 K L := ⟨fun k hk hK => (b.1 k hk hK).trans (a.1 k hk hK), fun j hj => (b.2 j hj).trans (a.2 j hj)⟩
theorem mFq.wk {h h1 : Nat → Nat → Int32} {K K' L L' : List Nat} (a : mFq h h1 K L) (hk : ∀ x ∈ K, x ∈ K') (hl : ∀ x ∈ L, x ∈ L') : mFq h h1 K' L' := ⟨fun k h1 h2 => a.1 k h1 (fun q => h2 (hk k q)), fun j hj => a.2 j (fun q => hj (hl j q))⟩
theorem mTx.of {h h' : Nat → Nat → Int32} {a n b : Nat} (hT : mTx h a n) (e : h' 194 12 = h 194 12) (e2 : h' 194 15 = nI b) (hb : b ≤ n) : mTx h' b n := ⟨e2, e.trans hT.2.1, hb, hT.2.2.2⟩
theorem pnq_le {t : Nat → Int32} {n a : Nat} (h : a ≤ n) : pnp t n a ≤ pnq t n a ∧ pnq t n a ≤ n ∧ a ≤ pnp t n a := by
  have h1 := psk_le (t := t) (n := n) (n - a) a (by omega)
  have h2 := pdg_le (t := t) (n := n) (n - pnp t n a) (pnp t n a) (by have : pnp t n a ≤ n := h1.2.1; omega)
  exact ⟨h2.1, h2.2, h1.1⟩
theorem pnf_lt {t : Nat → Int32} {n a lim : Nat} : pnf t n a lim ≤ 2 := by
  unfold pnf
  repeat' split
  all_goals omega
theorem nI_pos2 {k : Nat} (hk : k < 2 ^ 31) : (0 : Int32) < nI k ↔ k ≠ 0 := by
  rw [show (0 : Int32) = nI 0 from rfl, nI_ltI (by decide) hk]; omega
/-- two numbers, one behind the other: the fault, its place -/
def p2f (t : Nat → Int32) (n a lim : Nat) : Nat := if pnf t n a lim = 0 then pnf t n (pnq t n a) lim else pnf t n a lim
def p2p (t : Nat → Int32) (n a lim : Nat) : Nat := if pnf t n a lim = 0 then pnp t n (pnq t n a) else pnp t n a
theorem pn_facts {t : Nat → Int32} {n a lim : Nat} (h : pnf t n a lim = 0) : pnv t n a < lim := by
  unfold pnf at h
  split at h
  · cases h
  · split at h
    · cases h
    · omega
def mTs (h : Nat → Nat → Int32) (h' : Nat → Nat → Int32) (y : Int32) : Prop := ∀ a n s : Nat, mTx h a n → h 194 18 = nI s → s < 8 →
  mFq h h' [204, 205, 210] [13, 15, 16, 17, 18] ∧ y = nI (p2f (h 203) n a 100) ∧ h' 194 13 = (if p2f (h 203) n a 100 = 0 then h 194 13 else nI (p2p (h 203) n a 100)) ∧
  (p2f (h 203) n a 100 = 0 → h' 194 15 = nI (pnq (h 203) n (pnq (h 203) n a)) ∧ h' 194 18 = nI (s + 1) ∧ h' 204 = upd (h 204) s (nI (pnv (h 203) n a)) ∧ h' 205 = upd (h 205) s (nI (pnv (h 203) n (pnq (h 203) n a))) ∧ h' 210 = upd (h 210) s (nI s))
def p_Mo_takeStation (h : Nat → Nat → Int32) : Prop := ∃ a n s : Nat, mTx h a n ∧ h 194 18 = nI s ∧ s < 8
theorem s_Mo_takeStation {X : Nat × (Nat → Int32)} {d : Nat} {cu sp n1 n2 n3 n4 : Nat} (h : Nat → Nat → Int32) (hp : p_Mo_takeStation h) : ewP X Mo_takeStation (d + 3) 0 [some (.ref 194), none, none] [] (0, 0) (229, ewR cu sp n1 n2 n3 n4, h) (fun v S' => ∃ (h' : Nat → Nat → Int32) (y : Int32), mTs h h' y ∧ v = some (.int y) ∧ S' = (229, ewR cu sp n1 n2 n3 n4, h')) := by
  obtain ⟨a, n, s, hT, hs, hs8⟩ := hp
  obtain ⟨ha, hn, han, hn2⟩ := id hT
  have uniq : ∀ {P : Nat → Nat → Nat → Prop}, P a n s → ∀ a' n' s' : Nat, mTx h a' n' → h 194 18 = nI s' → s' < 8 → P a' n' s' := by
    intro P hP a' n' s' hT' hs' hl'
    have e1 : a' = a := (nI_eq (by have := hT'.2.2.1; have := hT'.2.2.2; omega) (by omega)).mp (hT'.1.symm.trans ha)
    have e2 : n' = n := (nI_eq (by have := hT'.2.2.2; omega) (by omega)).mp (hT'.2.1.symm.trans hn)
    have e3 : s' = s := (nI_eq (by omega) (by omega)).mp (hs'.symm.trans hs)
    subst e1; subst e2; subst e3
    exact hP
  have cs : (h 194 18).toNatClampNeg = s := by rw [hs, nI_clamp (by omega)]
  have hin : vp_in (h 194 18) 8 := by rw [hs]; exact vp_in_nI hs8 (by decide)
  have q1 := pnq_le (t := h 203) han
  refine v_Mo_takeStation_0 h ⟨a, n, 100, hT, by decide, by decide⟩ (fun w y hR => ?_)
  obtain ⟨fr, ey, e13, e15, ev⟩ := hR a n 100 hT (by decide) (by decide)
  have hf := pnf_lt (t := h 203) (n := n) (a := a) (lim := 100)
  have w18 : w 194 18 = nI s := by rw [fr.2 18 (by decide)]; exact hs
  refine ⟨hin, fun hy => ?_, fun hy => ?_, fun hy => ?_⟩
  · exact ⟨pnq (h 203) n a, n, 100, ⟨by simp [ewS, e15], by simp [ewS]; rw [fr.2 12 (by decide)]; exact hn, q1.2.1, hn2⟩, by decide, by decide⟩
  · rw [ey, nI_pos2 (by omega)] at hy
    have f0 : pnf (h 203) n a 100 = 0 := by omega
    intro w2 y2 hR2
    have t2 : (ewS w 204 (upd (w 204) ((h 194 18).toNatClampNeg) (w 194 16))) 203 = h 203 := by simp [ewS]; exact fr.1 203 (by decide)
    obtain ⟨fr2, ey2, e132, e152, ev2⟩ := hR2 (pnq (h 203) n a) n 100 ⟨by simp [ewS, e15], by simp [ewS]; rw [fr.2 12 (by decide)]; exact hn, q1.2.1, hn2⟩ (by decide) (by decide)
    rw [t2] at ey2 e132 e152 ev2
    have q2 := pnq_le (t := h 203) q1.2.1
    have pf : p2f (h 203) n a 100 = pnf (h 203) n (pnq (h 203) n a) 100 := by unfold p2f; rw [if_pos f0]
    have pp : p2p (h 203) n a 100 = pnp (h 203) n (pnq (h 203) n a) := by unfold p2p; rw [if_pos f0]
    refine ⟨hin, _, _, uniq ⟨⟨fun k hk hK => ?_, fun j hj => ?_⟩, by rw [ey2, pf], ?_, fun h0 => ?_⟩, rfl, rfl⟩
    · simp at hK
      simp [ewS, hk, hK]
      rw [fr2.1 k hk]; simp [ewS, hK]; exact fr.1 k hk
    · simp at hj
      simp [ewS, upd, hj]
      rw [fr2.2 j (by simp; omega)]; simp [ewS]; exact fr.2 j (by simp; omega)
    · simp [ewS, upd]
      rw [e132, pf, pp]
      simp [ewS]
      rw [e13, if_pos f0]
    · rw [pf] at h0
      obtain ⟨v1, v2⟩ := ev f0
      obtain ⟨v3, v4⟩ := ev2 h0
      refine ⟨?_, ?_, ?_, ?_, ?_⟩
      · simp [ewS, upd]; exact e152
      · simp [ewS, upd]
        rw [fr2.2 18 (by decide)]; simp [ewS]; rw [w18, nI_1]
      · simp [ewS]
        rw [fr2.1 204 (by decide)]; simp [ewS]
        rw [fr.1 204 (by decide), cs, v1]
      · simp [ewS]
        rw [fr2.1 205 (by decide)]; simp [ewS]
        rw [fr.1 205 (by decide), cs, v3]
      · simp [ewS]
        rw [fr2.1 210 (by decide)]; simp [ewS]
        rw [fr.1 210 (by decide), cs, hs]
  · rw [ey, nI_pos2 (by omega)] at hy
    have pf : p2f (h 203) n a 100 = pnf (h 203) n a 100 := by unfold p2f; rw [if_neg hy]
    have pp : p2p (h 203) n a 100 = pnp (h 203) n a := by unfold p2p; rw [if_neg hy]
    refine ⟨_, _, uniq ⟨⟨fun k hk hK => ?_, fun j hj => ?_⟩, by rw [ey, pf], ?_, fun h0 => absurd h0 (by rw [pf]; exact hy)⟩, rfl, rfl⟩
    · simp at hK
      simp [ewS, hk, hK]
      exact fr.1 k hk
    · simp at hj
      simp [ewS, upd, hj]
      exact fr.2 j (by simp; omega)
    · simp [ewS, upd]
      rw [e13, pf, pp]
