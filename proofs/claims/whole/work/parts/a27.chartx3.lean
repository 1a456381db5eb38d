/-! Chart at 146: tally, draw, bends (by program from wip/gen/chart3.tmpl) -/
section CHARTCx
variable {X : Nat × (Nat → Int32)} {cu sp n1 n3 n4 : Nat} {n m : Nat} {A B : Nat → Nat} {k : Nat} {F T : Nat → Nat} {c : Nat → Int32}
set_option maxHeartbeats 1000000 in
theorem tallyx_n {h : Nat → Nat → Int32} (hC : cChx h n m A B k F T c) (hS : mSe c m) :
    ∀ kk e, e + kk = m → ∀ (d : Nat) (v : Nat → Nat) (w : Nat → Nat → Int32), (∀ e, v e < 8) → (∀ q, q ≠ 149 → w q = h q) → (∀ f, f < e → w 149 f = nI (v f)) → (∀ f, f < e → pu1 A B v f f = true) →
      ewP X Ch_tallyFrom (d + kk + 3) 0 [some (.ref 146), some (.int (nI e)), none, none, none] [] (0, 0) (229, ewR cu sp n1 3 n3 n4, w) (fun r S' => ∃ (h' : Nat → Nat → Int32) (y : Int32), ((∀ q, q ≠ 149 → h' q = h q) ∧ (∀ f, f < e → h' 149 f = nI (v f)) ∧ y = nI (fdS (pcN c) (pdi c A B) (ps1 m A B) e kk v 0)) ∧ r = some (.int y) ∧ S' = (229, ewR cu sp n1 3 n3 n4, h')) := by
  have h7 := hC.1.2.1.2.1
  have ok := hC.1.2.2.2.1
  have cf : ∀ w : Nat → Nat → Int32, (∀ q, q ≠ 149 → w q = h q) → cFrx h w := fun w fr => ⟨fun q _ _ q3 => fr q q3, fun j _ => by rw [fr 146 (by decide)]⟩
  intro kk
  induction kk with
  | zero =>
    intro e he d v w hv fr tr free
    have em : e = m := by omega
    subst em
    have w31 : w 3 1 = nI e := by rw [fr 3 (by decide)]; exact hC.1.2.1.1
    have hlt : ¬ nI e < w 3 1 := by rw [w31]; exact nI_nlt (Nat.le_refl _) (by omega)
    refine v_Ch_tallyFromx_0 (d := d) _ w (fun _ => ⟨w, _, ⟨fr, tr, ?_⟩, rfl, rfl⟩) (fun q => absurd q hlt) (fun q => absurd q hlt) (fun q => absurd q hlt)
    show (1 : Int32) = nI (ps1 e A B 0 v)
    unfold ps1
    rw [if_pos ((pu2_iff e).mpr free)]; rfl
  | succ kk ih =>
    intro e he d v w hv fr tr free
    have w31 : w 3 1 = nI m := by rw [fr 3 (by decide)]; exact hC.1.2.1.1
    have hlt : nI e < w 3 1 := by rw [w31]; exact (nI_ltb (by omega) (by omega)).mpr (by omega)
    have hlt7 : nI e < 7 := (nI_ltb (b := 7) (by omega) (by omega)).mpr (by omega)
    have ce : (nI e).toNatClampNeg = e := nI_clamp (by omega)
    have hCw : cChx w n m A B k F T c := hC.fr (cf w fr)
    have p0 := pcN_pos c e
    have p3 := pcN_le c e
    refine v_Ch_tallyFromx_0 (d := d + kk + 1) _ w (fun q => absurd hlt q) (fun _ _ => nI_inB (by omega) (by decide)) (fun _ _ => ?_) (fun _ q => absurd hlt7 q)
    rw [ce, (choicex_n hCw hS (show e < m by omega) p0).2.2]
    refine upto (H := (Nat → Nat → Int32) × Int32) (P := fun i g => (∀ q, q ≠ 149 → g.1 q = h q) ∧ (∀ f, f < e → g.1 149 f = nI (v f)) ∧ g.2 = nI ((List.range i).foldl (fun b i => fdS (pcN c) (pdi c A B) (ps1 m A B) (e + 1) kk (pup v e (pdi c A B e i)) b) 0)) (E := fun i g => ewP X Ch_tallyFrom (d + kk + 1 + 3) 43 [some (.ref 146), some (.int (nI e)), some (.int g.2), some (.int (nI (pcN c e))), some (.int (nI i))] [] (0, 0) (229, ewR cu sp n1 3 n3 n4, g.1) _) (pcN c e) ?_ ?_ 0 (w, 0) (by omega) ⟨fr, tr, rfl⟩
    · rintro i ⟨g, x⟩ hi ⟨g1, g2, g3⟩ next
      dsimp only at g1 g2 g3 ⊢
      rw [foldr_s] at next
      generalize hb : (List.range i).foldl (fun b i => fdS (pcN c) (pdi c A B) (ps1 m A B) (e + 1) kk (pup v e (pdi c A B e i)) b) 0 = b1 at g3 next
      have hlti : nI i < nI (pcN c e) := (nI_ltb (by omega) (by omega)).mpr hi
      have hCg : cChx g n m A B k F T c := hC.fr (cf g g1)
      obtain ⟨c1, c2, -⟩ := choicex_n hCg hS (show e < m by omega) hi
      have d8 := pdi_lt hS A B (show e < m by omega) i
      generalize hv1 : pup v e (pdi c A B e i) = v1 at next
      have v18 : ∀ j, v1 j < 8 := by rw [← hv1]; exact pup8 hv d8
      have v1e : ∀ j, j < e → v1 j = v j := fun j hj => by rw [← hv1, pup_ne _ _ (by omega)]
      have v1s : v1 e = pdi c A B e i := by rw [← hv1, pup_self]
      have ew1 : ewS g 149 (upd (g 149) (nI e).toNatClampNeg (f_Ch_choicex g (nI e) (nI i))) = ewS g 149 (upd (g 149) e (nI (v1 e))) := by rw [ce, c2, v1s]
      have frg : ∀ q, q ≠ 149 → (ewS g 149 (upd (g 149) e (nI (v1 e)))) q = h q := fun q hq => (ewS_ne _ _ hq).trans (g1 q hq)
      have trg : ∀ f, f ≤ e → (ewS g 149 (upd (g 149) e (nI (v1 e)))) 149 f = nI (v1 f) := by
        intro f hf
        rw [ewS_self]
        show (if f = e then _ else g 149 f) = _
        by_cases q : f = e
        · rw [if_pos q, q]
        · rw [if_neg q, g2 f (by omega), v1e f (by omega)]
      have free1 : pu1 A B v1 e e = true → ∀ f, f < e + 1 → pu1 A B v1 f f = true := by
        intro q f hf
        by_cases z : f = e
        · rw [z]; exact q
        · rw [pu1_cg hv v18 (fun j hj y => ok.2.1 j (by omega) (by rw [y])) (fun j hj => v1e j (by omega))]
          exact free f (by omega)
      generalize hg : ewS g 149 (upd (g 149) e (nI (v1 e))) = g' at *
      have keep : ∀ f, f < e → g' 149 f = nI (v f) := fun f hf => by rw [trg f (by omega), v1e f hf]
      refine v_Ch_tallyFromx_43 (d := d + kk + 1) _ _ _ _ g (P_Ch_isFree := fun h' x1 => h' = g' ∧ x1 = nI e) (R_Ch_isFree := fun h' x1 h'' y => h'' = g' ∧ y = bI (pu1 A B v1 e e)) (fun x1 h' hp => ?_) (P_Ch_tallyFrom := fun h' x1 => h' = g' ∧ x1 = nI (e + 1) ∧ pu1 A B v1 e e = true) (R_Ch_tallyFrom := fun h' x1 h'' y => (∀ q, q ≠ 149 → h'' q = h q) ∧ (∀ f, f < e + 1 → h'' 149 f = nI (v1 f)) ∧ y = nI (fdS (pcN c) (pdi c A B) (ps1 m A B) (e + 1) kk v1 0)) (fun x1 h' hp => ?_) (fun q => absurd hlti q) (fun _ => c1) (fun _ => nI_inB (by omega) (by decide)) (fun _ => ⟨by rw [ew1], rfl⟩) (fun _ w4 y5 hw => ?_)
      · obtain ⟨rfl, rfl⟩ := hp
        exact isFreex_n (d := d + kk + 2) (hC.fr (cf _ frg)).1 (by omega) v18 trg
      · obtain ⟨rfl, rfl, hu⟩ := hp
        exact ih (e + 1) (by omega) d v1 h' v18 frg (fun f hf => trg f (by omega)) (free1 hu)
      · obtain ⟨rfl, ey⟩ := hw
        rw [← nI_succ, ← nI_succ]
        refine ⟨fun q => next (_, _) ⟨frg, keep, ?_⟩, fun q => ⟨rfl, rfl, ?_⟩, fun q w10 y11 hw => next (_, _) ⟨hw.1, fun f hf => ?_, ?_⟩⟩
        · rw [ey, bI_eq] at q
          rw [tally_no hS ok (by omega) v18 (by rw [q]; decide)]; exact g3
        · rw [ey] at q
          exact (bI_ne _).mp q
        · dsimp only
          rw [hw.2.1 f (by omega), v1e f hf]
        · dsimp only
          rw [hw.2.2, g3, nI_ad, tally_add _ _ _ b1]
    · rintro ⟨g, x⟩ ⟨g1, g2, g3⟩
      have hlti : ¬ nI (pcN c e) < nI (pcN c e) := nI_nlt (Nat.le_refl _) (by omega)
      exact v_Ch_tallyFromx_43 (d := d + kk + 1) _ _ _ _ g (P_Ch_isFree := fun _ _ => False) (R_Ch_isFree := fun _ _ _ _ => False) (fun _ _ hp => hp.elim) (P_Ch_tallyFrom := fun _ _ => False) (R_Ch_tallyFrom := fun _ _ _ _ => False) (fun _ _ hp => hp.elim) (fun _ => ⟨g, x, ⟨g1, g2, g3⟩, rfl, rfl⟩) (fun q => absurd q hlti) (fun q => absurd q hlti) (fun q => absurd q hlti) (fun q => absurd q hlti)
theorem tallyPlansx_n {d : Nat} {h : Nat → Nat → Int32} (hC : cChx h n m A B k F T c) (hS : mSe c m) : ewP X Ch_tallyPlans (d + 11) 0 [some (.ref 146)] [] (0, 0) (229, ewR cu sp n1 3 n3 n4, h) (fun r S' => ∃ (h' : Nat → Nat → Int32) (y : Int32), ((∀ q, q ≠ 149 → h' q = h q) ∧ y = nI (pBp c m A B k F T).1) ∧ r = some (.int y) ∧ S' = (229, ewR cu sp n1 3 n3 n4, h')) := by
  have h7 := hC.1.2.1.2.1
  refine v_Ch_tallyPlansx_0 h (P_Ch_tallyFrom := fun h' x1 => h' = h ∧ x1 = 0) (R_Ch_tallyFrom := fun h' x1 h'' y => (∀ q, q ≠ 149 → h'' q = h q) ∧ y = nI (pBp c m A B k F T).1) (fun x1 h' hp => ?_) ⟨rfl, rfl⟩ (fun w2 y3 hw => ⟨w2, y3, hw, rfl, rfl⟩)
  obtain ⟨rfl, rfl⟩ := hp
  have := tallyx_n (X := X) (cu := cu) (sp := sp) (n1 := n1) (n3 := n3) (n4 := n4) hC hS m 0 (by omega) (d + (7 - m)) (fun _ => 0) h' (fun _ => by omega) (fun _ _ => rfl) (fun f hf => by omega) (fun f hf => by omega)
  rw [show d + (7 - m) + m + 3 = d + 10 by omega] at this
  refine ewP_m (fun v S' q => ?_) this
  obtain ⟨h'', y, ⟨x1, x2, x3⟩, e1, e2⟩ := q
  exact ⟨h'', y, ⟨x1, by rw [x3, pBp_1]⟩, e1, e2⟩
/-- the chart is drawn -/
def cKnx (h : Nat → Nat → Int32) (n m : Nat) (A B : Nat → Nat) (k : Nat) (F T : Nat → Nat) (c : Nat → Int32) : Prop := cChx h n m A B k F T c ∧ h 146 0 = pCs (pBp c m A B k F T) ∧ ((pBp c m A B k F T).2.1 = 1000000 → ∀ e, e < 7 → h 147 e = -1) ∧ ((pBp c m A B k F T).2.1 ≠ 1000000 → ∀ e, e < m → h 147 e = nI ((pBp c m A B k F T).2.2 e))
theorem trueOfx_n {h : Nat → Nat → Int32} (hN : cNt h n m A B k F T) (hs : cSt h 71 n c) (hA : aSe n m c) {e : Nat} (he : e < m) : p_Ew_trueOfx h (nI e) ∧ f_Ew_trueOfx h (nI e) = nI (ptr c A B e) := by
  have h7 := hN.2.1.2.1
  have h8 := hN.1.2.1
  obtain ⟨b1, b2⟩ := hN.2.2.2.1.1 e he
  obtain ⟨e1, e2, -⟩ := hN.2.1.2.2.1 e he
  obtain ⟨⟨xa, xa1, xa2⟩, ya, ya1, ya2⟩ := hA.2 (A e) b1
  obtain ⟨⟨xb, xb1, xb2⟩, yb, yb1, yb2⟩ := hA.2 (B e) b2
  have s3 := hs.2.2.1
  have x1 : h 72 (B e) = c (B e) := (s3 (B e) b2).1
  have x2 : h 72 (A e) = c (A e) := (s3 (A e) b1).1
  have x3 : h 73 (B e) = c (8 + B e) := (s3 (B e) b2).2
  have x4 : h 73 (A e) = c (8 + A e) := (s3 (A e) b1).2
  unfold p_Ew_trueOfx f_Ew_trueOfx
  rw [nI_clamp (show e < 2 ^ 31 by omega), e1, e2, nI_clamp (show A e < 2 ^ 31 by omega), nI_clamp (show B e < 2 ^ 31 by omega), x1, x2, x3, x4]
  refine ⟨⟨nI_inB (by omega) (by decide), nI_inB (by omega) (by decide), nI_inB (by omega) (by decide)⟩, ?_⟩
  rw [← (ptr_n c A B e).1]
  refine td_n ?_ ?_
  · rw [xa2, xb2]; exact mabs_d xb1 xa1
  · rw [ya2, yb2]; exact mabs_d yb1 ya1
set_option maxHeartbeats 1000000 in
theorem drawx_n {d n2 : Nat} {h : Nat → Nat → Int32} (hN : cNt h n m A B k F T) (hs : cSt h 71 n c) (hA : aSe n m c) : ewP X Ch_draw (d + 11) 0 [some (.ref 146), some (.ref 3), none] [] (0, 0) (229, ewR cu sp n1 n2 n3 n4, h) (fun r S' => ∃ (h' : Nat → Nat → Int32), ((∀ q, q ≠ 146 → q ≠ 147 → q ≠ 148 → q ≠ 149 → h' q = h q) ∧ cKnx h' n m A B k F T c) ∧ r = none ∧ S' = (229, ewR cu sp n1 3 n3 n4, h')) := by
  have h7 := hN.2.1.2.1
  have h8 := hN.1.2.1
  have hS := hA.1
  refine v_Ch_drawx_0 h ?_
  refine upto (H := Nat → Nat → Int32) (P := fun e w => (∀ q, q ≠ 148 → w q = h q) ∧ ∀ f, f < e → w 148 f = nI (ptr c A B f)) (E := fun e w => ewP X Ch_draw (d + 11) 7 [some (.ref 146), some (.ref 3), some (.int (nI e))] [] (0, 0) (229, ewR cu sp n1 3 n3 n4, w) _) m ?_ ?_ 0 h (by omega) ⟨fun _ _ => rfl, fun f hf => by omega⟩
  · rintro e w he ⟨w1, w2⟩ next
    have hlt : nI e < w 3 1 := by rw [w1 3 (by decide), hN.2.1.1]; exact (nI_ltb (by omega) (by omega)).mpr he
    have hNw : cNt w n m A B k F T := hN.fr (fun q q1 q2 => w1 q (by omega))
    have hsw : cSt w 71 n c := hs.fr (fun q q1 q2 => w1 q (by omega))
    obtain ⟨t1, t2⟩ := trueOfx_n hNw hsw hA he
    refine v_Ch_drawx_7 _ w (P_Ch_seek := fun _ _ _ => False) (R_Ch_seek := fun _ _ _ _ => False) (fun _ _ _ hp => hp.elim) (fun q => absurd hlt q) (fun q => absurd hlt q) (fun q => absurd hlt q) (fun _ => t1) (fun _ => nI_inB (by omega) (by decide)) (fun _ => ?_)
    rw [← nI_succ, t2, nI_clamp (by omega)]
    refine next _ ⟨fun q hq => (ewS_ne _ _ hq).trans (w1 q hq), fun f hf => ?_⟩
    rw [ewS_self]
    show (if f = e then _ else w 148 f) = _
    by_cases q : f = e
    · rw [if_pos q, q]
    · rw [if_neg q]; exact w2 f (by omega)
  · rintro w ⟨w1, w2⟩
    have hlt : ¬ nI m < w 3 1 := by rw [w1 3 (by decide), hN.2.1.1]; exact nI_nlt (Nat.le_refl _) (by omega)
    generalize hg : ewS (g_Ja_fill w 147 ((-1))) 146 (upd ((g_Ja_fill w 147 ((-1))) 146) 6 1000000) = g
    have gq : ∀ q, q ≠ 146 → q ≠ 147 → g q = w q := fun q q1 q2 => by
      rw [← hg, ewS_ne _ _ q1]; exact ewS_ne _ _ q2
    have gC : cChx g n m A B k F T c := ⟨hN.fr (fun q q1 q2 => by rw [gq q (by omega) (by omega)]; exact w1 q (by omega)), hs.fr (fun q q1 q2 => by rw [gq q (by omega) (by omega)]; exact w1 q (by omega)), fun e he => by rw [gq 148 (by decide) (by decide)]; exact w2 e he⟩
    have gB : cBsx g m (1000000, fun _ => 0) := by
      refine ⟨?_, Nat.le_refl _, fun _ e he => ?_, fun z => absurd rfl z⟩
      · rw [← hg]; rfl
      · rw [← hg]
        show (if e < kL 147 then (-1 : Int32) else _) = -1
        have : kL 147 = 7 := by decide
        rw [if_pos (by omega)]
    refine v_Ch_drawx_7 _ w (P_Ch_seek := fun h' x1 x2 => h' = g ∧ x1 = 0 ∧ x2 = 0) (R_Ch_seek := fun h' x1 x2 h'' => cFrx g h'' ∧ cBsx h'' m (pBp c m A B k F T).2) (fun x1 x2 h' hp => ?_) (fun _ => ⟨rfl, by decide⟩) (fun _ => ⟨hg, rfl, rfl⟩) (fun _ w4 hw => ⟨_, ⟨?_, ?_⟩, rfl, rfl⟩) (fun q => absurd q hlt) (fun q => absurd q hlt) (fun q => absurd q hlt)
    · obtain ⟨rfl, rfl, rfl⟩ := hp
      have := seekx_n (X := X) (cu := cu) (sp := sp) (n1 := n1) (n3 := n3) (n4 := n4) gC hS m 0 (by omega) (d + (7 - m)) (fun _ => 0) (1000000, fun _ => 0) h' (fun _ => by omega) (cFrx.r _) (fun f hf => by omega) gB (show 0 < 1000000 by omega) (fun f hf => by omega)
      rw [show d + (7 - m) + m + 3 = d + 10 by omega] at this
      refine ewP_m (fun v S' q => ?_) this
      obtain ⟨h'', ⟨x1, x2, x3⟩, e1, e2⟩ := q
      exact ⟨h'', ⟨x1, by rw [pBp_2]; exact x3⟩, e1, e2⟩
    · intro q q1 q2 q3 q4
      rw [ewS_ne _ _ q1, hw.1.1 q q1 q2 q4, gq q q1 q2]; exact w1 q q3
    · obtain ⟨f1, b1, b2, b3, b4⟩ := hw
      refine ⟨gC.f2 (fun q q1 q2 q3 => (ewS_ne _ _ q1).trans (f1.1 q q1 q2 q3)), ?_, b3, b4⟩
      · show (if w4 146 6 = 1000000 then ((-1) : Int32) else w4 146 6) = pCs (pBp c m A B k F T)
        unfold pCs
        rw [b1]
        have e6 : (nI (pBp c m A B k F T).2.1 = 1000000) ↔ (pBp c m A B k F T).2.1 = 1000000 := nI_eq (b := 1000000) (by omega) (by omega)
        exact ite_cg e6 (fun _ => rfl) (fun _ => rfl)
end CHARTCx
