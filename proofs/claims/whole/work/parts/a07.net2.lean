/-! addStretch -/
def mAs (n m : Nat) (A B : Nat → Nat) (k : Nat) (F T Xc Yc : Nat → Nat) (a b : Nat) (h h' : Nat → Nat → Int32) : Prop := nFr h h' ∧ cS35 h' n Xc Yc (pup A m a) (pup B m b) (m + 1) ∧ cE35 h' (m + 1) (pup A m a) (pup B m b) ∧ cL35 h' (m + 1) (pup A m a) (pup B m b) k F T
set_option maxHeartbeats 1000000 in
theorem s_Ne_addStretch {X : Nat × (Nat → Int32)} {d : Nat} {cu sp n1 n2 n3 n4 : Nat} {n m : Nat} {A B : Nat → Nat} {k : Nat} {F T Xc Yc : Nat → Nat} {a b : Nat} (h : Nat → Nat → Int32) (cS : cS35 h n Xc Yc A B m) (cE : cE35 h m A B) (cL : cL35 h m A B k F T) (ok : cOK n m A B k F T) (hm : m < 7) (ha : a < n) (hb : b < n) : ewP X Ne_addStretch (d + 1) 0 [some (.ref 35), some (.int (nI a)), some (.int (nI b)), none, none, none] [] (0, 0) (229, ewR cu sp n1 n2 n3 n4, h) (fun v S' => ∃ (h' : Nat → Nat → Int32), mAs n m A B k F T Xc Yc a b h h' ∧ v = none ∧ S' = (229, ewR cu sp n1 n2 n3 n4, h')) := by
  obtain ⟨s1, h8, s3⟩ := id cS
  obtain ⟨e1, h7, e3, e4⟩ := id cE
  obtain ⟨hn, hk, hl⟩ := ok
  have agA : ∀ i, i < m → pup A m a i = A i ∧ pup B m b i = B i := fun i hi => ⟨pup_ne _ _ (by omega), pup_ne _ _ (by omega)⟩
  refine v_Ne_addStretch_0 _ _ h (by rw [e1]; exact nI_inB hm (by decide)) (nI_inB (by omega) (by decide)) (nI_inB (by omega) (by decide)) ?_
  rw [e1, nI_clamp (show m < 2 ^ 31 by omega), nI_clamp (show a < 2 ^ 31 by omega), nI_clamp (show b < 2 ^ 31 by omega), (s3 a ha).2.2, (s3 b hb).2.2, or_nI]
  generalize hg : ewS (ewS (ewS (ewS h 38 (upd (h 38) m (nI a))) 39 (upd (h 39) m (nI b))) 43 (upd (h 43) m (nI (ptm A B m a)))) 44 (upd (h 44) m (nI (ptm A B m b))) = g
  have gF : nFr h g := by rw [← hg]; exact ((((nFr.r h).s (by decide) _).s (by decide) _).s (by decide) _).s (by decide) _
  have gS : cS35 g n Xc Yc A B m := by rw [← hg]; exact cS
  have gL : cL35 g m A B k F T := by
    rw [← hg]
    refine cL.fr rfl rfl rfl rfl rfl rfl rfl rfl (fun e he => ?_)
    rw [ewS_ne _ _ (by omega), ewS_ne _ _ (by omega), ewS_ne _ _ (by omega), ewS_ne _ _ (by omega)]
  have gM : ∀ e f, e < m → f < m → e ≠ f → g (51 + e) f = pmt A B e f := fun e f he hf hne => by
    rw [← hg, ewS_ne _ _ (by omega), ewS_ne _ _ (by omega), ewS_ne _ _ (by omega), ewS_ne _ _ (by omega)]
    exact e4 e f he hf hne
  have g1 : g 35 1 = nI m := by rw [← hg]; exact e1
  have gE : ∀ e, e < m + 1 → g 38 e = nI (pup A m a e) ∧ g 39 e = nI (pup B m b e) ∧ g 43 e = nI (ptm (pup A m a) (pup B m b) e (pup A m a e)) ∧ g 44 e = nI (ptm (pup A m a) (pup B m b) e (pup B m b e)) := by
    intro e he
    rw [ptm_cg (A := A) (B := B) (fun i hi => agA i (by omega)), ptm_cg (A := A) (B := B) (fun i hi => agA i (by omega)), ← hg]
    show (if e = m then nI a else h 38 e) = nI (if e = m then a else A e) ∧ (if e = m then nI b else h 39 e) = nI (if e = m then b else B e) ∧ (if e = m then nI (ptm A B m a) else h 43 e) = nI (ptm A B e (if e = m then a else A e)) ∧ (if e = m then nI (ptm A B m b) else h 44 e) = nI (ptm A B e (if e = m then b else B e))
    by_cases q : e = m
    · rw [if_pos q, if_pos q, if_pos q, if_pos q, if_pos q, if_pos q, q]
      exact ⟨rfl, rfl, rfl, rfl⟩
    · rw [if_neg q, if_neg q, if_neg q, if_neg q, if_neg q, if_neg q]
      exact e3 e (by omega)
  clear hg
  have g0 : g 35 0 = nI n := gS.1
  have pl : ∀ s, plb (pup A m a) (pup B m b) m s = plb A B m s := plb_congr m agA
  have pA : pup A m a m = a := pup_self _ _ _
  have pB : pup B m b m = b := pup_self _ _ _
  have hasE : ∀ s, s < 8 → (f_Ew_has (nI (ptm A B m a ||| ptm A B m b)) (nI s) ↔ plb A B m s = plb A B m a ∨ plb A B m s = plb A B m b) := fun s hs => by
    unfold ptm
    rw [msk_or, has_m hs, Bool.or_eq_true, decide_eq_true_iff, decide_eq_true_iff]
  refine upto (H := Nat → Nat → Int32) (P := fun s w => (∀ k, k ≠ 42 → w k = g k) ∧ ∀ t, t < n → w 42 t = if t < s then nI (ptm (pup A m a) (pup B m b) (m + 1) t) else nI (ptm A B m t)) (E := fun s w => ewP X Ne_addStretch (d + 1) 61 [some (.ref 35), some (.int (nI a)), some (.int (nI b)), some (.int (nI m)), some (.int (nI (ptm A B m a ||| ptm A B m b))), some (.int (nI s))] [] (0, 0) (229, ewR cu sp n1 n2 n3 n4, w) _) n ?_ ?_ 0 g (by omega) ⟨fun _ _ => rfl, fun t ht => (gS.2.2 t ht).2.2⟩
  · rintro s w hs ⟨w1, w2⟩ next
    have hlt : nI s < w 35 0 := by rw [w1 35 (by decide), g0]; exact (nI_ltb (by omega) (by omega)).mpr hs
    have jn : ptm (pup A m a) (pup B m b) (m + 1) s = if plb A B m s = plb A B m a ∨ plb A B m s = plb A B m b then ptm A B m a ||| ptm A B m b else ptm A B m s := by
      rw [ptm_join, pA, pB, pl, pl, pl, ptm_cg agA, ptm_cg agA, ptm_cg agA]
    refine v_Ne_addStretch_61 _ _ _ _ _ w (fun q => absurd hlt q) (fun _ q => ?_) (fun _ _ => nI_inB (by omega) (by decide)) (fun _ q => ?_)
    · rw [← nI_succ]
      refine next _ ⟨w1, fun t ht => ?_⟩
      rw [w2 t ht]
      by_cases z : t = s
      · rw [z, if_neg (by omega), if_pos (by omega), jn, if_neg (fun y => q ((hasE s (by omega)).mpr y))]
      · by_cases y : t < s
        · rw [if_pos y, if_pos (by omega)]
        · rw [if_neg y, if_neg (by omega)]
    · rw [← nI_succ, nI_clamp (by omega)]
      refine next _ ⟨fun j hj => (ewS_ne _ _ hj).trans (w1 j hj), fun t ht => ?_⟩
      rw [ewS_self]
      show (if t = s then _ else w 42 t) = _
      by_cases z : t = s
      · rw [if_pos z, z, if_pos (by omega), jn, if_pos ((hasE s (by omega)).mp q)]
      · rw [if_neg z, w2 t ht]
        by_cases y : t < s
        · rw [if_pos y, if_pos (by omega)]
        · rw [if_neg y, if_neg (by omega)]
  · rintro w ⟨w1, w2⟩
    have hlt : ¬ nI n < w 35 0 := by rw [w1 35 (by decide), g0]; exact nI_nlt (Nat.le_refl _) (by omega)
    refine v_Ne_addStretch_61 _ _ _ _ _ w (fun _ => ?_) (fun q => absurd q hlt) (fun q => absurd q hlt) (fun q => absurd q hlt)
    refine upto (H := Nat → Nat → Int32) (P := fun f v => (∀ k, ¬ (51 ≤ k ∧ k ≤ 57) → v k = w k) ∧ (∀ e f', e < m → f' < m → e ≠ f' → v (51 + e) f' = pmt A B e f') ∧ ∀ f', f' < f → v (51 + m) f' = pmt (pup A m a) (pup B m b) m f' ∧ v (51 + f') m = pmt (pup A m a) (pup B m b) m f') (E := fun f v => ewP X Ne_addStretch (d + 1) 98 [some (.ref 35), some (.int (nI a)), some (.int (nI b)), some (.int (nI m)), some (.int (nI (ptm A B m a ||| ptm A B m b))), some (.int (nI f))] [] (0, 0) (229, ewR cu sp n1 n2 n3 n4, v) _) m ?_ ?_ 0 w (by omega) ⟨fun _ _ => rfl, fun e f' he hf hne => by rw [w1 _ (by omega)]; exact gM e f' he hf hne, fun f' hf => by omega⟩
    · rintro f v hf ⟨v1, v2, v3⟩ next
      have hlt2 : nI f < nI m := (nI_ltb (by omega) (by omega)).mpr hf
      have v38 : v 38 = g 38 := (v1 38 (by omega)).trans (w1 38 (by decide))
      have v39 : v 39 = g 39 := (v1 39 (by omega)).trans (w1 39 (by decide))
      have hbn : pup A m a f < 8 ∧ pup B m b f < 8 := by
        have := hn f hf
        rw [(agA f hf).1, (agA f hf).2]; omega
      have mt := meeting_n (h := v) (A := pup A m a) (B := pup B m b) (e := m) (f := f) hm (by omega) ⟨by rw [pA]; omega, by rw [pB]; omega, hbn.1, hbn.2⟩ (by rw [v38, v39]; exact ⟨(gE m (by omega)).1, (gE m (by omega)).2.1⟩) (by rw [v38, v39]; exact ⟨(gE f (by omega)).1, (gE f (by omega)).2.1⟩)
      obtain ⟨⟨r1, r2⟩, -⟩ := row7 hm
      obtain ⟨⟨r3, r4⟩, -⟩ := row7 (show f < 7 by omega)
      refine v_Ne_addStretch_98 _ _ _ _ _ v (fun q => absurd hlt2 q) (fun _ => nI_inB hm (by decide)) (fun _ => ?_) (fun _ => mt.2) (fun _ => ?_) (fun _ => ?_) (fun _ => nI_inB (by omega) (by decide)) (fun _ => ?_) (fun _ => ?_) (fun _ => ?_) (fun _ => ?_)
      · rw [nI_clamp (by omega)]; exact beq_no (by omega)
      · rw [nI_clamp (by omega)]; exact r1
      · rw [nI_clamp (by omega), r2]; exact nI_inB (by omega) (by decide)
      · rw [nI_clamp (by omega)]; exact beq_no (by omega)
      · rw [nI_clamp (by omega)]; exact r3
      · rw [nI_clamp (by omega), r4]; exact nI_inB hm (by decide)
      · rw [mt.1, nI_clamp (show m < 2 ^ 31 by omega), nI_clamp (show f < 2 ^ 31 by omega), ← nI_succ, show 50 + 1 + m = 51 + m by omega, show 50 + 1 + f = 51 + f by omega, ewS_self, ewS_ne _ _ (show 51 + f ≠ 51 + m by omega)]
        have um : upd (v (51 + m)) f (pmt (pup A m a) (pup B m b) m f) f = pmt (pup A m a) (pup B m b) m f := if_pos rfl
        rw [um]
        refine next _ ⟨fun j hj => ?_, fun e f' he hf' hne => ?_, fun f' hf' => ?_⟩
        · rw [ewS_ne _ _ (by omega), ewS_ne _ _ (by omega)]; exact v1 j hj
        · by_cases q : e = f
          · rw [q, ewS_self]
            show (if f' = m then _ else v (51 + f) f') = _
            rw [if_neg (by omega)]; exact v2 f f' hf hf' (by omega)
          · rw [ewS_ne _ _ (by omega), ewS_ne _ _ (by omega)]; exact v2 e f' he hf' hne
        · rw [ewS_ne _ _ (show 51 + m ≠ 51 + f by omega), ewS_self]
          by_cases q : f' = f
          · rw [q, ewS_self]
            exact ⟨if_pos rfl, if_pos rfl⟩
          · rw [ewS_ne _ _ (show 51 + f' ≠ 51 + f by omega), ewS_ne _ _ (show 51 + f' ≠ 51 + m by omega)]
            refine ⟨?_, (v3 f' (by omega)).2⟩
            show (if f' = f then _ else v (51 + m) f') = _
            rw [if_neg q]; exact (v3 f' (by omega)).1
    · rintro v ⟨v1, v2, v3⟩
      have hlt2 : ¬ nI m < nI m := nI_nlt (Nat.le_refl _) (by omega)
      refine v_Ne_addStretch_98 _ _ _ _ _ v (fun _ => ⟨_, ⟨?_, ?_, ?_, ?_⟩, rfl, rfl⟩) (fun q => absurd q hlt2) (fun q => absurd q hlt2) (fun q => absurd q hlt2) (fun q => absurd q hlt2) (fun q => absurd q hlt2) (fun q => absurd q hlt2) (fun q => absurd q hlt2) (fun q => absurd q hlt2) (fun q => absurd q hlt2) (fun q => absurd q hlt2)
      · refine nFr.s (fun j hj => ?_) (by decide) _
        rw [v1 j (by omega), w1 j (by omega), gF j hj]
      · have v35 : v 35 = g 35 := (v1 35 (by omega)).trans (w1 35 (by decide))
        refine ⟨?_, h8, fun t ht => ⟨?_, ?_, ?_⟩⟩
        · show v 35 0 = _
          rw [v35]; exact g0
        · show v 36 t = _
          rw [v1 36 (by omega), w1 36 (by decide)]; exact (gS.2.2 t ht).1
        · show v 37 t = _
          rw [v1 37 (by omega), w1 37 (by decide)]; exact (gS.2.2 t ht).2.1
        · show v 42 t = _
          rw [v1 42 (by omega), w2 t ht, if_pos ht]
      · have v35 : v 35 = g 35 := (v1 35 (by omega)).trans (w1 35 (by decide))
        refine ⟨?_, by omega, fun e he => ?_, fun e f he hf hne => ?_⟩
        · show v 35 1 + 1 = _
          rw [v35, g1, nI_succ]
        · show v 38 e = _ ∧ v 39 e = _ ∧ v 43 e = _ ∧ v 44 e = _
          rw [v1 38 (by omega), w1 38 (by decide), v1 39 (by omega), w1 39 (by decide), v1 43 (by omega), w1 43 (by decide), v1 44 (by omega), w1 44 (by decide)]
          exact gE e he
        · rw [ewS_ne _ _ (by omega)]
          by_cases q : e = m
          · rw [q]; exact (v3 f (by omega)).1
          · by_cases q2 : f = m
            · rw [q2, pmt_sym]; exact (v3 e (by omega)).2
            · rw [v2 e f (by omega) (by omega) hne]
              unfold pmt
              rw [(agA e (by omega)).1, (agA e (by omega)).2, (agA f (by omega)).1, (agA f (by omega)).2]
      · have v35 : v 35 = g 35 := (v1 35 (by omega)).trans (w1 35 (by decide))
        have up : cL35 g (m + 1) (pup A m a) (pup B m b) k F T := by
          obtain ⟨l1, l2, l3, l4, l5, l6⟩ := gL
          have hq : ∀ l, l < k → F l < n ∧ plb A B m (F l) = plb A B m (T l) := fun l h1 => ⟨(hl l h1).1, (hl l h1).2.2.2⟩
          refine ⟨l1, l2, fun l hl' => ?_, fun e he => ?_, fun l s hl' hs => ?_, fun e f he hf => ?_⟩
          · obtain ⟨x1, x2, x3, x4⟩ := l3 l hl'
            rw [tds_up agA (hq l hl').2]
            refine ⟨x1, x2, x3, fun j hj => ?_⟩
            rw [tpe_up agA hk hn (hq l hl').1 (hq l hl').2 (by omega)]
            exact x4 j hj
          · rw [pLa_up agA hk hn e k hq]; exact l4 e he
          · by_cases z : l < k
            · rw [pw_up agA hk hn (hq l z) s, pe0_up agA hk hn (hq l z) s, pe1_up agA hk hn (hq l z) s]
              exact l5 l s hl' hs
            · have := l5 l s hl' hs
              rw [if_neg (fun y => z y.1), if_neg (fun y => z y.1)] at this ⊢
              exact this
          · rw [pth_up agA hk hn hq]; exact l6 e f he hf
        have vk : ∀ j, j ≠ 35 → j ≠ 42 → ¬ (51 ≤ j ∧ j ≤ 57) → ewS v 35 (upd (v 35) 1 (v 35 1 + 1)) j = g j := fun j q1 q2 q3 => by
          rw [ewS_ne _ _ q1, v1 j q3, w1 j q2]
        refine up.fr ?_ (vk 40 (by decide) (by decide) (by omega)) (vk 41 (by decide) (by decide) (by omega)) (vk 45 (by decide) (by decide) (by omega)) (vk 46 (by decide) (by decide) (by omega)) (vk 47 (by decide) (by decide) (by omega)) (vk 48 (by decide) (by decide) (by omega)) (vk 49 (by decide) (by decide) (by omega)) (fun e he => vk _ (by omega) (by omega) (by omega))
        show v 35 2 = _
        rw [v35]
