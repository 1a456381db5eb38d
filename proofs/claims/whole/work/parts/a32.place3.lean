/-! the class's Places: take, stretchOut -/
/-- lengths as they stand: none, or the best ones with their places -/
def cLe (n m : Nat) (A B dv : Nat → Nat) (w : Nat → Nat → Int32) (b : Nat × (Nat → Nat)) : Prop := w 150 0 = nI b.1 ∧ b.1 ≤ 1000000 ∧ (b.1 = 1000000 → (∀ e, e < 7 → w 151 e = -1) ∧ ∀ s, s < 8 → w 152 s = -99 ∧ w 153 s = -99) ∧ (b.1 ≠ 1000000 → (∀ e, e < m → w 151 e = nI (b.2 e)) ∧ ∀ s, s < n → w 152 s = ppx A B (pdx dv b.2) m s - ppx A B (pdx dv b.2) m (prt (plb A B m) s) ∧ w 153 s = ppx A B (pdy dv b.2) m s - ppx A B (pdy dv b.2) m (prt (plb A B m) s))
/-- what stretchOut may change -/
def lFr (h w : Nat → Nat → Int32) : Prop := (∀ q, q ≠ 150 → q ≠ 151 → q ≠ 152 → q ≠ 153 → q ≠ 155 → ¬ (158 ≤ q ∧ q ≤ 164) → ¬ (167 ≤ q ∧ q ≤ 173) → w q = h q) ∧ ∀ j, j ≠ 0 → w 150 j = h 150 j
theorem lFr.r (h : Nat → Nat → Int32) : lFr h h := ⟨fun _ _ _ _ _ _ _ _ => rfl, fun _ _ => rfl⟩
theorem lFr.t {h w v : Nat → Nat → Int32} (a : lFr h w) (b : lFr w v) : lFr h v := ⟨fun q q1 q2 q3 q4 q5 q6 q7 => (b.1 q q1 q2 q3 q4 q5 q6 q7).trans (a.1 q q1 q2 q3 q4 q5 q6 q7), fun j hj => (b.2 j hj).trans (a.2 j hj)⟩
theorem lFr.N {h w : Nat → Nat → Int32} {n m : Nat} {A B : Nat → Nat} {k : Nat} {F T : Nat → Nat} (f : lFr h w) (c : cNt h n m A B k F T) : cNt w n m A B k F T := c.fr (fun q q1 q2 => f.1 q (by omega) (by omega) (by omega) (by omega) (by omega) (by omega) (by omega))
section PLACES2
variable {X : Nat × (Nat → Int32)} {cu sp n2 n4 : Nat} {n m : Nat} {A B : Nat → Nat} {k : Nat} {F T : Nat → Nat}
set_option maxHeartbeats 1000000 in
theorem take_n {d : Nat} {h : Nat → Nat → Int32} {dv v : Nat → Nat} (hN : cNt h n m A B k F T) (hv : ∀ e, e < m → h 155 e = nI (v e)) (hr : ∀ s, s < n → h (157 + m) s = ppx A B (pdx dv v) m s ∧ h (166 + m) s = ppx A B (pdy dv v) m s) (hb : sm v m < 1000000) : ewP X Pl_take (d + 2) 0 [some (.ref 150), some (.int (nI (sm v m))), none, none, none] [] (0, 0) (229, ewR cu sp 3 n2 3 n4, h) (fun r S' => ∃ (h' : Nat → Nat → Int32), (((∀ q, q ≠ 150 → q ≠ 151 → q ≠ 152 → q ≠ 153 → h' q = h q) ∧ ∀ j, j ≠ 0 → h' 150 j = h 150 j) ∧ cLe n m A B dv h' (sm v m, v)) ∧ r = none ∧ S' = (229, ewR cu sp 3 n2 3 n4, h')) := by
  have h7 := hN.2.1.2.1
  have h8 := hN.1.2.1
  have h0 := hN.1.1
  have h31 := hN.2.1.1
  have cm : (nI m).toNatClampNeg = m := nI_clamp (by omega)
  obtain ⟨r1, r2⟩ := rowXY (show m < 8 by omega)
  refine v_Pl_take_0 _ h (by rw [h31]; exact nI_nlt (b := 0) (Nat.zero_le _) (by omega)) (by rw [h31, cm]; omega) ?_
  rw [h31, cm]
  generalize hg : ewS (ewS h 150 (upd (h 150) 0 (nI (sm v m)))) 151 (va_cpy (h 155) (h 151) 0 0 m) = g
  have g1 : ∀ q, q ≠ 150 → q ≠ 151 → g q = h q := fun q q1 q2 => by rw [← hg, ewS_ne _ _ q2, ewS_ne _ _ q1]
  have g2 : g 150 = upd (h 150) 0 (nI (sm v m)) := by rw [← hg]; rfl
  have g3 : ∀ e, e < m → g 151 e = nI (v e) := fun e he => by
    rw [← hg, ewS_self, cpy_n _ _ he]; exact hv e he
  clear hg
  refine upto (H := Nat → Nat → Int32) (P := fun s w => (∀ q, q ≠ 152 → q ≠ 153 → w q = g q) ∧ ∀ t, t < s → w 152 t = ppx A B (pdx dv v) m t - ppx A B (pdx dv v) m (prt (plb A B m) t) ∧ w 153 t = ppx A B (pdy dv v) m t - ppx A B (pdy dv v) m (prt (plb A B m) t)) (E := fun s w => ewP X Pl_take (d + 2) 29 [some (.ref 150), some (.int (nI (sm v m))), some (.int (nI m)), some (.int (nI s)), none] [] (0, 0) (229, ewR cu sp 3 n2 3 n4, w) _) n ?_ ?_ 0 g (by omega) ⟨fun _ _ _ => rfl, fun t ht => by omega⟩
  · rintro s w hs ⟨w1, w2⟩ next
    have w3 : w 3 = h 3 := (w1 3 (by omega) (by omega)).trans (g1 3 (by omega) (by omega))
    have w10 : w 10 = h 10 := (w1 10 (by omega) (by omega)).trans (g1 10 (by omega) (by omega))
    have hlt : nI s < w 3 0 := by rw [w3, h0]; exact (nI_ltb (by omega) (by omega)).mpr hs
    have cs : (nI s).toNatClampNeg = s := nI_clamp (by omega)
    have pl := (prt_at (plb A B m) s).2.1
    have cp : (nI (prt (plb A B m) s)).toNatClampNeg = prt (plb A B m) s := nI_clamp (by omega)
    refine v_Pl_take_29 _ _ _ w (P_Ne_least := fun h' x => h' = w ∧ x = nI s) (R_Ne_least := fun h' x h'' y => h'' = w ∧ y = nI (prt (plb A B m) s)) (fun x h' hp => ?_) (fun q => absurd hlt q) (fun _ => ⟨rfl, rfl⟩) (fun _ w4 y5 hw => ?_)
    · obtain ⟨rfl, rfl⟩ := hp
      exact least_n h' (by omega) (by rw [w10]; exact hN.1.2.2 s hs) ⟨h', _, ⟨rfl, rfl⟩, rfl, rfl⟩
    · obtain ⟨rfl, rfl⟩ := hw
      rw [cm, cs, cp, ← nI_succ, show 156 + 1 + m = 157 + m by omega, show 165 + 1 + m = 166 + m by omega, ewS_ne _ _ (show 166 + m ≠ 152 by omega), w1 (157 + m) (by omega) (by omega), w1 (166 + m) (by omega) (by omega), g1 (157 + m) (by omega) (by omega), g1 (166 + m) (by omega) (by omega), (hr s hs).1, (hr s hs).2, (hr (prt (plb A B m) s) (by omega)).1, (hr (prt (plb A B m) s) (by omega)).2]
      refine ⟨nI_inB (by omega) (by decide), beq_no (by omega), r1.1, ?_, ?_, nI_inB (by omega) (by decide), beq_no (by omega), r2.1, ?_, ?_, next _ ⟨fun q q1 q2 => ?_, fun t ht => ?_⟩⟩
      · rw [show 157 + m = 156 + 1 + m by omega, r1.2]; exact nI_inB (by omega) (by decide)
      · rw [show 157 + m = 156 + 1 + m by omega, r1.2]; exact nI_inB (by omega) (by decide)
      · rw [show 166 + m = 165 + 1 + m by omega, r2.2]; exact nI_inB (by omega) (by decide)
      · rw [show 166 + m = 165 + 1 + m by omega, r2.2]; exact nI_inB (by omega) (by decide)
      · rw [ewS_ne _ _ q2, ewS_ne _ _ q1]; exact w1 q q1 q2
      · show (if t = s then _ else w4 152 t) = _ ∧ (if t = s then _ else w4 153 t) = _
        by_cases z : t = s
        · rw [if_pos z, if_pos z, z]; exact ⟨rfl, rfl⟩
        · rw [if_neg z, if_neg z]; exact w2 t (by omega)
  · rintro w ⟨w1, w2⟩
    have w3 : w 3 = h 3 := (w1 3 (by omega) (by omega)).trans (g1 3 (by omega) (by omega))
    have hlt : ¬ nI n < w 3 0 := by rw [w3, h0]; exact nI_nlt (Nat.le_refl _) (by omega)
    refine v_Pl_take_29 _ _ _ w (P_Ne_least := fun _ _ => False) (R_Ne_least := fun _ _ _ _ => False) (fun _ _ hp => hp.elim) (fun _ => ⟨w, ⟨⟨fun q q1 q2 q3 q4 => (w1 q q3 q4).trans (g1 q q1 q2), fun j hj => ?_⟩, ?_, by omega, fun z => absurd z (by omega), fun _ => ⟨fun e he => ?_, w2⟩⟩, rfl, rfl⟩) (fun q => absurd q hlt) (fun q => absurd q hlt)
    · rw [w1 150 (by omega) (by omega), g2]
      show (if j = 0 then _ else h 150 j) = _
      rw [if_neg hj]
    · rw [w1 150 (by omega) (by omega), g2]; rfl
    · rw [w1 151 (by omega) (by omega)]; exact g3 e he
set_option maxHeartbeats 1000000 in
theorem stretchOut_n {h : Nat → Nat → Int32} {dv : Nat → Nat} (hN : cNt h n m A B k F T) (hd : ∀ e, e < m → dv e < 8 ∧ h 143 e = nI (dv e)) (hz : ∀ s, s < n → h 157 s = 0 ∧ h 166 s = 0) :
    ∀ kk e, e + kk = m → ∀ (d : Nat) (v : Nat → Nat) (b : Nat × (Nat → Nat)) (w : Nat → Nat → Int32), lFr h w → (∀ f, f < e → w 155 f = nI (v f) ∧ v f < 4) → (∀ f, f ≤ e → ∀ s, s < n → w (157 + f) s = ppx A B (pdx dv v) f s ∧ w (166 + f) s = ppx A B (pdy dv v) f s) → cLe n m A B dv w b → sm v e + kk < b.1 → (∀ f, f < e → clr A B n (pdx dv v) (pdy dv v) f) →
      ewP X Pl_stretchOut (d + kk + 3) 0 [some (.ref 150), some (.int (nI e)), some (.int (nI (sm v e))), none, none] [] (0, 0) (229, ewR cu sp 3 n2 3 n4, w) (fun r S' => ∃ (h' : Nat → Nat → Int32), (lFr h h' ∧ (∀ f, f < e → h' 155 f = nI (v f)) ∧ (∀ f, f ≤ e → ∀ s, s < n → h' (157 + f) s = ppx A B (pdx dv v) f s ∧ h' (166 + f) s = ppx A B (pdy dv v) f s) ∧ cLe n m A B dv h' (fdS (fun _ => 3) (fun _ i => 1 + i) (pls n m A B dv) e kk v b)) ∧ r = none ∧ S' = (229, ewR cu sp 3 n2 3 n4, h')) := by
  have h7 := hN.2.1.2.1
  have h8 := hN.1.2.1
  have ok := hN.2.2.2.1
  intro kk
  induction kk with
  | zero =>
    intro e he d v b w fr tr rw_ bs lt cl
    have em : e = m := by omega
    subst em
    have w31 : w 3 1 = nI e := by rw [fr.1 3 (by omega) (by omega) (by omega) (by omega) (by omega) (by omega) (by omega)]; exact hN.2.1.1
    have hlt : ¬ nI e < w 3 1 := by rw [w31]; exact nI_nlt (Nat.le_refl _) (by omega)
    refine v_Pl_stretchOut_0 (d := d) _ _ w (P_Pl_take := fun h' x => h' = w ∧ x = nI (sm v e)) (R_Pl_take := fun h' x h'' => ((∀ q, q ≠ 150 → q ≠ 151 → q ≠ 152 → q ≠ 153 → h'' q = w q) ∧ ∀ j, j ≠ 0 → h'' 150 j = w 150 j) ∧ cLe n e A B dv h'' (sm v e, v)) (fun x h' hp => ?_) (fun _ => ⟨rfl, rfl⟩) (fun _ w4 hw => ⟨w4, ⟨?_, ?_, ?_, ?_⟩, rfl, rfl⟩) (fun q => absurd q hlt) (fun q => absurd q hlt) (fun q => absurd q hlt)
    · obtain ⟨rfl, rfl⟩ := hp
      exact take_n (fr.N hN) (fun f hf => (tr f hf).1) (fun s hs => rw_ e (Nat.le_refl _) s hs) (by have := bs.2.1; omega)
    · exact fr.t ⟨fun q q1 q2 q3 q4 _ _ _ => hw.1.1 q q1 q2 q3 q4, hw.1.2⟩
    · exact fun f hf => by rw [hw.1.1 155 (by omega) (by omega) (by omega) (by omega)]; exact (tr f hf).1
    · exact fun f hf s hs => by rw [hw.1.1 (157 + f) (by omega) (by omega) (by omega) (by omega), hw.1.1 (166 + f) (by omega) (by omega) (by omega) (by omega)]; exact rw_ f hf s hs
    · show cLe n e A B dv w4 (pls n e A B dv b v)
      unfold pls
      rw [if_pos ⟨pfB_iff.mpr ((pfP_iff e ok.2.1).mpr cl), by omega⟩]
      exact hw.2
  | succ kk ih =>
    intro e he d v b w fr tr rw_ bs lt cl
    have w31 : w 3 1 = nI m := by rw [fr.1 3 (by omega) (by omega) (by omega) (by omega) (by omega) (by omega) (by omega)]; exact hN.2.1.1
    have hlt : nI e < w 3 1 := by rw [w31]; exact (nI_ltb (by omega) (by omega)).mpr (by omega)
    have hlt7 : nI e < 7 := (nI_ltb (b := 7) (by omega) (by omega)).mpr (by omega)
    have ce : (nI e).toNatClampNeg = e := nI_clamp (by omega)
    have oth : w 3 1 - nI e - 1 = nI kk := by
      rw [w31, nI_sub (by omega), show (nI (m - e) : Int32) - 1 = nI (m - e - 1) from nI_sub (b := 1) (by omega)]
      congr 1; omega
    have sm4 : sm v e ≤ e * 3 := by
      have gen : ∀ j, j ≤ e → sm v j ≤ j * 3 := by
        intro j
        induction j with
        | zero => intro _; exact Nat.le_refl _
        | succ j ihj =>
          intro hj
          have := ihj (by omega)
          have := (tr j (by omega)).2
          show sm v j + v j ≤ _
          omega
      exact gen e (Nat.le_refl _)
    refine v_Pl_stretchOut_0 (d := d + kk + 1) _ _ w (P_Pl_take := fun _ _ => False) (R_Pl_take := fun _ _ _ => False) (fun _ _ hp => hp.elim) (fun q => absurd hlt q) (fun q => absurd hlt q) (fun _ _ => ?_) (fun _ q => absurd hlt7 q) (fun _ q => absurd hlt7 q)
    rw [oth]
    -- what the loop leaves from length i on
    have stop : ∀ i, i ≤ 3 → ∀ b1 : Nat × (Nat → Nat), ¬ sm v e + (1 + i) + kk < b1.1 → ∀ j, i + j ≤ 3 → remf (fun b i => fdS (fun _ => 3) (fun _ i => 1 + i) (pls n m A B dv) (e + 1) kk (pup v e (1 + i)) b) j i b1 = b1 := by
      intro i hi b1 hb j
      induction j generalizing i with
      | zero => intro _; rfl
      | succ j ihj =>
        intro hj
        show remf _ j (i + 1) (fdS (fun _ => 3) (fun _ i => 1 + i) (pls n m A B dv) (e + 1) kk (pup v e (1 + i)) b1) = b1
        rw [len_dear (by omega)]
        · exact ihj (i + 1) (by omega) (by omega) (by omega)
        · show ¬ (sm (pup v e (1 + i)) e + pup v e (1 + i) e) + kk < b1.1
          rw [pup_self, sm_cg e (fun j hj => pup_ne v (1 + i) (by omega))]
          omega
    have main : ∀ t i, i + t = 3 → ∀ (b1 : Nat × (Nat → Nat)) (g : Nat → Nat → Int32), lFr h g → (∀ f, f < e → g 155 f = nI (v f)) → (∀ f, f ≤ e → ∀ s, s < n → g (157 + f) s = ppx A B (pdx dv v) f s ∧ g (166 + f) s = ppx A B (pdy dv v) f s) → cLe n m A B dv g b1 →
        ewP X Pl_stretchOut (d + kk + 1 + 3) 38 [some (.ref 150), some (.int (nI e)), some (.int (nI (sm v e))), some (.int (nI kk)), some (.int (nI (1 + i)))] [] (0, 0) (229, ewR cu sp 3 n2 3 n4, g) (fun r S' => ∃ (h' : Nat → Nat → Int32), (lFr h h' ∧ (∀ f, f < e → h' 155 f = nI (v f)) ∧ (∀ f, f ≤ e → ∀ s, s < n → h' (157 + f) s = ppx A B (pdx dv v) f s ∧ h' (166 + f) s = ppx A B (pdy dv v) f s) ∧ cLe n m A B dv h' (remf (fun b i => fdS (fun _ => 3) (fun _ i => 1 + i) (pls n m A B dv) (e + 1) kk (pup v e (1 + i)) b) t i b1)) ∧ r = none ∧ S' = (229, ewR cu sp 3 n2 3 n4, h')) := by
      intro t
      induction t with
      | zero =>
        intro i hi b1 g g1 g2 g3 g4
        have h3 : (3 : Int32) < nI (1 + i) := (nI_ltb (a := 3) (by omega) (by omega)).mpr (by omega)
        exact v_Pl_stretchOut_38 (d := d + kk + 1) _ _ _ _ g (P_Pl_join := fun _ _ _ => False) (R_Pl_join := fun _ _ _ _ => False) (fun _ _ _ hp => hp.elim) (P_Pl_isClear := fun _ _ => False) (R_Pl_isClear := fun _ _ _ _ => False) (fun _ _ hp => hp.elim) (P_Pl_stretchOut := fun _ _ _ => False) (R_Pl_stretchOut := fun _ _ _ _ => False) (fun _ _ _ hp => hp.elim) (fun _ => ⟨g, ⟨g1, g2, g3, g4⟩, rfl, rfl⟩) (fun q => absurd h3 q) (fun q => absurd h3 q) (fun q => absurd h3 q) (fun q => absurd h3 q)
      | succ t iht =>
        intro i hi b1 g g1 g2 g3 g4
        have h3 : ¬ (3 : Int32) < nI (1 + i) := nI_nlt (a := 3) (by omega) (by omega)
        have tot : ((nI (sm v e) + nI (1 + i)) + nI kk < g 150 0) ↔ sm v e + (1 + i) + kk < b1.1 := by
          rw [nI_ad, nI_ad, g4.1]; exact nI_ltb (by omega) (by have := g4.2.1; omega)
        generalize hv1 : pup v e (1 + i) = v1
        have v1e : ∀ j, j < e → v1 j = v j := fun j hj => by rw [← hv1, pup_ne _ _ (by omega)]
        have v1s : v1 e = 1 + i := by rw [← hv1, pup_self]
        have sm1 : sm v1 (e + 1) = sm v e + (1 + i) := by
          show sm v1 e + v1 e = _
          rw [v1s, sm_cg e v1e]
        have dx1 : ∀ j, j < e → pdx dv v1 j = pdx dv v j ∧ pdy dv v1 j = pdy dv v j := fun j hj => by unfold pdx pdy; rw [v1e j hj]; exact ⟨rfl, rfl⟩
        have pp1 : ∀ f, f ≤ e → ∀ s, ppx A B (pdx dv v1) f s = ppx A B (pdx dv v) f s ∧ ppx A B (pdy dv v1) f s = ppx A B (pdy dv v) f s := fun f hf s => ⟨ppx_congr f (fun j hj => (dx1 j (by omega)).1) s, ppx_congr f (fun j hj => (dx1 j (by omega)).2) s⟩
        generalize hg : ewS g 155 (upd (g 155) e (nI (1 + i))) = g'
        have gq : ∀ q, q ≠ 155 → g' q = g q := fun q hq => by rw [← hg, ewS_ne _ _ hq]
        have g55 : ∀ f, f < e + 1 → g' 155 f = nI (v1 f) := fun f hf => by
          rw [← hg, ewS_self]
          show (if f = e then _ else g 155 f) = _
          by_cases q : f = e
          · rw [if_pos q, q, v1s]
          · rw [if_neg q, g2 f (by omega), v1e f (by omega)]
        have fr' : lFr h g' := g1.t ⟨fun q _ _ _ _ q5 _ _ => gq q q5, fun j _ => by rw [gq 150 (by omega)]⟩
        have hNg' := fr'.N hN
        have bs' : cLe n m A B dv g' b1 := by
          unfold cLe
          rw [gq 150 (by omega), gq 151 (by omega), gq 152 (by omega), gq 153 (by omega)]
          exact g4
        have r143 : ∀ w : Nat → Nat → Int32, lFr h w → w 143 e = nI (dv e) := fun w f => by rw [f.1 143 (by omega) (by omega) (by omega) (by omega) (by omega) (by omega) (by omega)]; exact (hd e (by omega)).2
        have lFj : ∀ w6, mJn A B n e (pdx dv v1) (pdy dv v1) g' w6 → lFr h w6 := fun w6 j => fr'.t ⟨fun q q1 q2 q3 q4 q5 q6 q7 => j.1 q (by omega) (by omega), fun i _ => by rw [j.1 150 (by omega) (by omega)]⟩
        refine v_Pl_stretchOut_38 (d := d + kk + 1) _ _ _ _ g (P_Pl_join := fun h' x1 x2 => h' = g' ∧ x1 = nI e ∧ x2 = nI (v1 e)) (R_Pl_join := fun h' x1 x2 h'' => mJn A B n e (pdx dv v1) (pdy dv v1) g' h'') (fun x1 x2 h' hp => ?_) (P_Pl_isClear := fun h' x1 => mJn A B n e (pdx dv v1) (pdy dv v1) g' h' ∧ x1 = nI e) (R_Pl_isClear := fun h' x1 h'' y => h'' = h' ∧ ∃ b : Bool, y = bI b ∧ (b = true ↔ clr A B n (pdx dv v1) (pdy dv v1) e)) (fun x1 h' hp => ?_) (P_Pl_stretchOut := fun h' x1 x2 => mJn A B n e (pdx dv v1) (pdy dv v1) g' h' ∧ x1 = nI (e + 1) ∧ x2 = nI (sm v1 (e + 1)) ∧ clr A B n (pdx dv v1) (pdy dv v1) e ∧ sm v1 (e + 1) + kk < b1.1) (R_Pl_stretchOut := fun h' x1 x2 h'' => lFr h h'' ∧ (∀ f, f < e + 1 → h'' 155 f = nI (v1 f)) ∧ (∀ f, f ≤ e + 1 → ∀ s, s < n → h'' (157 + f) s = ppx A B (pdx dv v1) f s ∧ h'' (166 + f) s = ppx A B (pdy dv v1) f s) ∧ cLe n m A B dv h'' (fdS (fun _ => 3) (fun _ i => 1 + i) (pls n m A B dv) (e + 1) kk v1 b1)) (fun x1 x2 h' hp => ?_) (fun q => absurd q h3) (fun _ q => ?_) (fun _ _ => nI_inB (by omega) (by decide)) (fun _ _ => ⟨by rw [ce]; exact hg, rfl, by rw [v1s]⟩) (fun _ q w6 hw6 => ?_)
        · obtain ⟨rfl, rfl, rfl⟩ := hp
          exact join_n (d := d + kk + 2) hNg' (by omega) (hd e (by omega)).1 (r143 _ fr') (fun s hs => by
            rw [gq (157 + e) (by omega), gq (166 + e) (by omega), (pp1 e (Nat.le_refl _) s).1, (pp1 e (Nat.le_refl _) s).2]; exact g3 e (Nat.le_refl _) s hs)
        · obtain ⟨hj, rfl⟩ := hp
          exact isClear_n (d := d + kk + 1) ((lFj h' hj).N hN) (by omega) hj.2
        · obtain ⟨hj, rfl, rfl, hcl, hl⟩ := hp
          refine ih (e + 1) (by omega) d v1 b1 h' (lFj h' hj) (fun f hf => ⟨?_, ?_⟩) (fun f hf s hs => ?_) ?_ hl (fun f hf => ?_)
          · rw [hj.1 155 (by omega) (by omega)]; exact g55 f hf
          · by_cases q : f = e
            · rw [q, v1s]; omega
            · rw [v1e f (by omega)]; exact (tr f (by omega)).2
          · by_cases q : f = e + 1
            · rw [q]; exact hj.2 s hs
            · rw [hj.1 (157 + f) (by omega) (by omega), hj.1 (166 + f) (by omega) (by omega), gq (157 + f) (by omega), gq (166 + f) (by omega), (pp1 f (by omega) s).1, (pp1 f (by omega) s).2]; exact g3 f (by omega) s hs
          · unfold cLe
            rw [hj.1 150 (by omega) (by omega), hj.1 151 (by omega) (by omega), hj.1 152 (by omega) (by omega), hj.1 153 (by omega) (by omega)]
            exact bs'
          · by_cases q : f = e
            · rw [q]; exact hcl
            · exact (clr_cg (fun j hj' => dx1 j (by omega))).mpr (cl f (by omega))
        · rw [tot] at q
          refine ⟨g, ⟨g1, g2, g3, ?_⟩, rfl, rfl⟩
          rw [stop i (by omega) b1 q (t + 1) (by omega)]
          exact g4
        · rw [tot] at q
          refine ⟨⟨hw6, rfl⟩, fun w9 y10 hy => ?_⟩
          obtain ⟨rfl, bb, ey, iff⟩ := hy
          have rs : ∀ b2, remf (fun b i => fdS (fun _ => 3) (fun _ i => 1 + i) (pls n m A B dv) (e + 1) kk (pup v e (1 + i)) b) (t + 1) i b2 = remf (fun b i => fdS (fun _ => 3) (fun _ i => 1 + i) (pls n m A B dv) (e + 1) kk (pup v e (1 + i)) b) t (i + 1) (fdS (fun _ => 3) (fun _ i => 1 + i) (pls n m A B dv) (e + 1) kk v1 b2) := fun b2 => by rw [← hv1]; rfl
          rw [rs]
          have keep1 : ∀ f, f < e → w9 155 f = nI (v f) := fun f hf => by rw [hw6.1 155 (by omega) (by omega), g55 f (by omega), v1e f hf]
          have keep2 : ∀ f, f ≤ e → ∀ s, s < n → w9 (157 + f) s = ppx A B (pdx dv v) f s ∧ w9 (166 + f) s = ppx A B (pdy dv v) f s := fun f hf s hs => by
            rw [hw6.1 (157 + f) (by omega) (by omega), hw6.1 (166 + f) (by omega) (by omega), gq (157 + f) (by omega), gq (166 + f) (by omega)]; exact g3 f hf s hs
          have bs9 : cLe n m A B dv w9 b1 := by
            unfold cLe
            rw [hw6.1 150 (by omega) (by omega), hw6.1 151 (by omega) (by omega), hw6.1 152 (by omega) (by omega), hw6.1 153 (by omega) (by omega)]
            exact bs'
          have nxt : nI (1 + i) + 1 = nI (1 + (i + 1)) := (nI_succ (1 + i)).symm
          refine ⟨fun q0 => ?_, fun q0 => ?_, fun q0 w15 hw15 => ?_⟩
          · rw [ey, bI_eq] at q0
            have ncl : ¬ clr A B n (pdx dv v1) (pdy dv v1) e := fun z => by rw [iff.mpr z] at q0; cases q0
            rw [len_no ok.2.1 (by omega) ncl, nxt]
            exact iht (i + 1) (by omega) b1 w9 (lFj w9 hw6) keep1 keep2 bs9
          · rw [ey, bI_ne] at q0
            exact ⟨hw6, (nI_succ e).symm, by rw [nI_ad, sm1], iff.mp q0, by rw [sm1]; exact q⟩
          · rw [nxt]
            refine iht (i + 1) (by omega) _ w15 hw15.1 (fun f hf => ?_) (fun f hf s hs => ?_) hw15.2.2.2
            · rw [hw15.2.1 f (by omega), v1e f hf]
            · rw [(hw15.2.2.1 f (by omega) s hs).1, (hw15.2.2.1 f (by omega) s hs).2, (pp1 f hf s).1, (pp1 f hf s).2]; exact ⟨rfl, rfl⟩
    have := main 3 0 (by omega) b w fr (fun f hf => (tr f hf).1) rw_ bs
    rw [remf_0] at this
    exact this
end PLACES2
