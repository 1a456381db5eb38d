/-! the whole text -/
def pa2 (r : (Nat × Nat × Nat) ⊕ pSt) : (Nat × Nat × Nat) ⊕ ((Nat × (Nat → Nat) × (Nat → Nat)) × (Nat × (Nat → Nat) × (Nat → Nat)) × (Nat × (Nat → Nat) × (Nat → Nat))) := match r with
  | .inl x => .inl x
  | .inr z => .inr z.2
theorem ppa_s (t : Nat → Int32) (n f : Nat) (z : pSt) : ppa t n (f + 1) z = if psk t n z.1 < n then (match pcl t n z with
    | .inl x => .inl x
    | .inr z' => ppa t n f z') else .inr z := rfl
theorem ppa_k {t : Nat → Int32} {n : Nat} (f : Nat) (z : pSt) (h : z.1 ≤ n) : pa2 (ppa t n f (psk t n z.1, z.2)) = pa2 (ppa t n f z) := by
  cases f with
  | zero => rfl
  | succ f =>
    rw [ppa_s, ppa_s, show (psk t n z.1, z.2).1 = psk t n z.1 from rfl, psk_id h, pcl_id h]
    by_cases q : psk t n z.1 < n
    · rw [if_pos q, if_pos q]
    · rw [if_neg q, if_neg q]; rfl
def mRd (h : Nat → Nat → Int32) (n : Nat) (h' : Nat → Nat → Int32) (y : Int32) : Prop := (∀ k, k ≠ 1 → ¬ (35 ≤ k ∧ k ≤ 66) → h' k = h k) ∧ h' 1 0 = 0 ∧
  match ppa (h 2) n 241 ppS with
  | .inl x => y = nI x.1 ∧ (x.1 ≠ 0 ∧ x.1 ≤ 4) ∧ h' 1 1 = nI x.2.1 ∧ h' 1 2 = nI x.2.2
  | .inr z => y = 0 ∧ h' 1 1 = -1 ∧ h' 1 2 = 0 ∧ cNz h' z ∧ pWF z ∧ pNm z
set_option maxHeartbeats 1000000 in
theorem s_Re_read {X : Nat × (Nat → Int32)} {d : Nat} {cu sp n1 n2 n3 n4 : Nat} {n : Nat} (h : Nat → Nat → Int32) (hn : h 1 0 = nI n) (h240 : n ≤ 240) : ewP X Re_read (d + 5) 0 [some (.ref 1), some (.ref 35), none] [] (0, 0) (229, ewR cu sp n1 n2 n3 n4, h) (fun v S' => ∃ (h' : Nat → Nat → Int32) (y : Int32), mRd h n h' y ∧ v = some (.int y) ∧ S' = (229, ewR cu sp n1 n2 n3 n4, h')) := by
  refine v_Re_read_0 h (P_Ne_clear := fun _ => True) (R_Ne_clear := mCl) (fun h' _ => s_Ne_clear (d := d + 3) h') trivial (fun w hw => ?_)
  have w1 : w 1 = h 1 := hw.1 1 (by omega)
  have w2 : w 2 = h 2 := hw.1 2 (by omega)
  generalize hg : ewS (ewS (ewS (ewS w 1 (upd (w 1) 4 0)) 1 (upd (upd (w 1) 4 0) 1 (-1))) 1 (upd (upd (upd (w 1) 4 0) 1 (-1)) 2 0)) 1 (upd (upd (upd (upd (w 1) 4 0) 1 (-1)) 2 0) 5 0) = g
  have gR : cR g 0 n 0 (-1) 0 := by
    rw [← hg]
    refine ⟨rfl, ?_, ⟨Nat.zero_le _, h240⟩, ⟨rfl, by omega⟩, rfl, rfl⟩
    show w 1 0 = nI n
    rw [w1]; exact hn
  have gF : rFr w g := by
    rw [← hg]
    intro k hk
    rw [ewS_ne _ _ hk, ewS_ne _ _ hk, ewS_ne _ _ hk, ewS_ne _ _ hk]
  have skip : ∀ (v : Nat → Nat → Int32) (a fl : Nat) (fp wy : Int32), cR v a n fl fp wy → p_Re_skipBlanks v ∧ rFr v (g_Re_skipBlanks v) ∧ cR (g_Re_skipBlanks v) (psk (v 2) n a) n fl fp wy := by
    intro v a fl fp wy hc
    obtain ⟨c1, c2, ⟨c3, c3'⟩, c4, c5, c6⟩ := hc
    obtain ⟨k1, k2, -⟩ := psk_le (t := v 2) (n := n) (n - a) a (by omega)
    have eB : g_Re_skipBlanks v = ewS v 1 (upd (v 1) 5 (nI (psk (v 2) n a))) := by
      unfold g_Re_skipBlanks
      rw [c1, c2, nI_clamp (by omega), nI_clamp (by omega)]
    refine ⟨⟨a, n, c1, c2, c3, c3'⟩, by rw [eB]; exact fun k hk => ewS_ne _ _ hk, ?_⟩
    rw [eB]
    exact ⟨rfl, c2, ⟨k2, h240⟩, c4, c5, c6⟩
  clear hg
  have g2 : g 2 = h 2 := (gF 2 (by decide)).trans w2
  generalize et : h 2 = t at *
  obtain ⟨s1, s2, s3⟩ := skip g 0 0 (-1) 0 gR
  rw [g2] at s3
  refine ⟨s1, ?_⟩
  refine upto (H := Nat → Nat → Int32) (P := fun i v => (∀ k, k ≠ 1 → ¬ (35 ≤ k ∧ k ≤ 66) → v k = h k) ∧ ((∃ z : pSt, cR v z.1 n 0 (-1) 0 ∧ psk t n z.1 = z.1 ∧ cNz v z ∧ pWF z ∧ pNm z ∧ i ≤ z.1 ∧ pa2 (ppa t n (241 - i) z) = pa2 (ppa t n 241 ppS)) ∨ ∃ x a', ppa t n 241 ppS = .inl x ∧ x.1 ≠ 0 ∧ cR v a' n x.1 (nI x.2.1) (nI x.2.2))) (E := fun i v => ewP X Re_read (d + 5) 30 [some (.ref 1), some (.ref 35), some (.int (nI i))] [] (0, 0) (229, ewR cu sp n1 n2 n3 n4, v) _) 240 ?_ ?_ 0 _ (by omega) ⟨fun k k1 k2 => ?_, Or.inl ⟨(psk t n 0, ppS.2), s3, ?_, ?_, ?_, ?_, Nat.zero_le _, ?_⟩⟩
  · rintro i v hi ⟨v1, v2⟩ next
    have hlt : nI i < 240 := (nI_ltb (b := 240) (by omega) (by omega)).mpr hi
    have v2t : v 2 = t := (v1 2 (by decide) (by omega)).trans et
    rcases v2 with ⟨z, z1, z2, z3, z4, z5, z6, z7⟩ | ⟨x, a', x1, x2, x3⟩
    · have f0 : v 1 4 = 0 := z1.2.2.2.1.1
      have hb := z1.2.2.1
      have ltz : v 1 5 < v 1 0 ↔ z.1 < n := by rw [z1.1, z1.2.1]; exact nI_ltb (by omega) (by omega)
      refine v_Re_read_30 _ v (P_Re_readClause := fun h' x => h' = v ∧ x = v 2 z.1 ∧ z.1 < n) (R_Re_readClause := fun h' x h'' => qRc v n z h'') (fun x2 h' hp => ?_) (fun q => absurd hlt q) (fun _ q => absurd f0 q) (fun _ _ q => ?_) (fun _ _ q => ?_) (fun _ _ q => ?_) (fun _ _ q w8 hw8 => ?_)
      · obtain ⟨rfl, rfl, hp3⟩ := hp
        exact s_Re_readClause h' z1 z3 z4 hp3 (by rw [v2t]; exact z2)
      · have q' : ¬ z.1 < n := fun y => q (ltz.mpr y)
        refine ⟨_, _, ⟨fun k k1 k2 => (ewS_ne _ _ k1).trans (v1 k k1 k2), rfl, ?_⟩, rfl, rfl⟩
        rw [et]
        have : 241 - i = (240 - i) + 1 := by omega
        rw [this, ppa_s, z2, if_neg q'] at z7
        cases hr : ppa t n 241 ppS with
        | inl x => rw [hr] at z7; cases z7
        | inr y =>
          rw [hr] at z7
          have e : z.2 = y.2 := Sum.inr.inj z7
          have c3 : cNz (ewS v 1 (upd (v 1) 0 0)) z := z3.fr (fun k k1 k2 => ewS_ne _ _ (by omega))
          unfold cNz at c3
          unfold pWF at z4
          unfold pNm at z5
          rw [e] at c3 z4 z5
          exact ⟨f0, z1.2.2.2.2.1, z1.2.2.2.2.2, c3, z4, z5⟩
      · have := ltz.mp q
        rw [z1.1]; exact nI_inB (by omega) (by decide)
      · rw [z1.1, nI_clamp (by omega)]
        exact ⟨rfl, rfl, ltz.mp q⟩
      · have hz := ltz.mp q
        obtain ⟨r1, r2⟩ := hw8
        have r2t : w8 2 = t := (r1 2 (by decide) (by omega)).trans v2t
        rw [← nI_succ]
        have e241 : 241 - i = (240 - i) + 1 := by omega
        rw [e241, ppa_s, z2, if_pos hz] at z7
        rw [v2t] at r2
        cases hp : pcl t n z with
        | inl x =>
          rw [hp] at r2 z7
          obtain ⟨r2, a', r3⟩ := r2
          obtain ⟨k1, k2, k3⟩ := skip w8 a' _ _ _ r3
          refine ⟨k1, next _ ⟨fun k q1 q2 => ?_, Or.inr ⟨x, _, ?_, r2, k3⟩⟩⟩
          · rw [k2 k q1, r1 k q1 q2]; exact v1 k q1 q2
          · cases hr : ppa t n 241 ppS with
            | inl y =>
              rw [hr] at z7
              have := Sum.inl.inj z7
              rw [this]
            | inr y => rw [hr] at z7; cases z7
        | inr z' =>
          rw [hp] at r2 z7
          obtain ⟨r2, r3, r4⟩ := r2
          obtain ⟨k1, k2, k3⟩ := skip w8 _ _ _ _ r2
          rw [r2t] at k3
          obtain ⟨p1, p2, p3⟩ := pcl_in hp (by rw [z2]; exact hz) hb.1
          have hb' := r2.2.2.1.1
          have kk := (psk_le (t := t) (n := n) (n - z'.1) z'.1 (by omega)).1
          refine ⟨k1, next _ ⟨fun k q1 q2 => ?_, Or.inl ⟨(psk t n z'.1, z'.2), k3, psk_id hb', ?_, r4, p3 z5, ?_, ?_⟩⟩⟩
          · rw [k2 k q1, r1 k q1 q2]; exact v1 k q1 q2
          · have : cNz (g_Re_skipBlanks w8) z' := r3.fr (fun k q1 q2 => k2 k (by omega))
            exact this
          · show i + 1 ≤ psk t n z'.1
            omega
          · rw [show 241 - (i + 1) = 240 - i by omega, ppa_k _ z' hb']
            exact z7
    · have f0 : ¬ v 1 4 = 0 := by
        rw [x3.2.2.2.1.1]
        exact fun k => x2 ((nI_eq (b := 0) (by have := x3.2.2.2.1.2; omega) (by omega)).mp k)
      refine v_Re_read_30 _ v (P_Re_readClause := fun h' x => False) (R_Re_readClause := fun h' x h'' => False) (fun x2 h' hp => hp.elim) (fun q => absurd hlt q) (fun _ q => ?_) (fun _ q => absurd q f0) (fun _ q => absurd q f0) (fun _ q => absurd q f0) (fun _ q => absurd q f0)
      refine ⟨_, _, ⟨fun k k1 k2 => (ewS_ne _ _ k1).trans (v1 k k1 k2), rfl, ?_⟩, rfl, rfl⟩
      rw [et, x1]
      exact ⟨x3.2.2.2.1.1, ⟨x2, x3.2.2.2.1.2⟩, x3.2.2.2.2.1, x3.2.2.2.2.2⟩
  · rintro v ⟨v1, v2⟩
    have hlt : ¬ nI 240 < 240 := by decide
    refine v_Re_read_30 _ v (P_Re_readClause := fun h' x => False) (R_Re_readClause := fun h' x h'' => False) (fun x2 h' hp => hp.elim) (fun _ => ?_) (fun q => absurd q hlt) (fun q => absurd q hlt) (fun q => absurd q hlt) (fun q => absurd q hlt) (fun q => absurd q hlt)
    refine ⟨_, _, ⟨fun k k1 k2 => (ewS_ne _ _ k1).trans (v1 k k1 k2), rfl, ?_⟩, rfl, rfl⟩
    rw [et]
    rcases v2 with ⟨z, z1, z2, z3, z4, z5, z6, z7⟩ | ⟨x, a', x1, x2, x3⟩
    · have q' : ¬ z.1 < n := by omega
      rw [show 241 - 240 = 0 + 1 by omega, ppa_s, z2, if_neg q'] at z7
      cases hr : ppa t n 241 ppS with
      | inl x => rw [hr] at z7; cases z7
      | inr y =>
        rw [hr] at z7
        have e : z.2 = y.2 := Sum.inr.inj z7
        have c3 : cNz (ewS v 1 (upd (v 1) 0 0)) z := z3.fr (fun k k1 k2 => ewS_ne _ _ (by omega))
        unfold cNz at c3
        unfold pWF at z4
        unfold pNm at z5
        rw [e] at c3 z4 z5
        exact ⟨z1.2.2.2.1.1, z1.2.2.2.2.1, z1.2.2.2.2.2, c3, z4, z5⟩
    · rw [x1]
      exact ⟨x3.2.2.2.1.1, ⟨x2, x3.2.2.2.1.2⟩, x3.2.2.2.2.1, x3.2.2.2.2.2⟩
  · rw [s2 k k1, gF k k1]; exact hw.1 k k2
  · exact psk_id (Nat.zero_le _)
  · have := hw.c (fun _ => 0) (fun _ => 0) (fun _ => 0) (fun _ => 0) (fun _ => 0) (fun _ => 0)
    have c : cNz w ppS := this
    exact c.fr (fun k k1 k2 => (s2 k (by omega)).trans (gF k (by omega)))
  · exact ⟨fun s hs => absurd hs (Nat.not_lt_zero _), fun s hs => absurd hs (Nat.not_lt_zero _), fun s hs => absurd hs (Nat.not_lt_zero _)⟩
  · exact ⟨fun _ _ => ⟨rfl, rfl⟩, fun _ _ => ⟨rfl, rfl⟩, fun _ _ => ⟨rfl, rfl⟩⟩
  · exact ppa_k 241 ppS (Nat.zero_le _)
