/-! Chart at 146: choice, seek, draw (by program from wip/gen/chart2.tmpl) -/
section CHARTBx
variable {X : Nat × (Nat → Int32)} {cu sp n1 n3 n4 : Nat} {n m : Nat} {A B : Nat → Nat} {k : Nat} {F T : Nat → Nat} {c : Nat → Int32}
theorem choicex_n {h : Nat → Nat → Int32} (hC : cChx h n m A B k F T c) (hS : mSe c m) {e i : Nat} (he : e < m) (hi : i < pcN c e) : p_Ch_choicex (nI e) (nI i) ∧ f_Ch_choicex h (nI e) (nI i) = nI (pdi c A B e i) ∧ (if h 74 e = (-1) then (3 : Int32) else 1) = nI (pcN c e) := by
  have h7 := hC.1.2.1.2.1
  have e3 : h 74 e = c (16 + e) := hC.2.1.2.2.2 e (by omega)
  refine ⟨nI_inB (by omega) (by decide), ?_⟩
  unfold f_Ch_choicex
  rw [nI_clamp (show e < 2 ^ 31 by omega), e3, hC.2.2 e he]
  unfold pdi
  unfold pcN at hi ⊢
  rcases hS.2.2 e he with q | ⟨j, hj, q⟩
  · rw [q] at hi ⊢
    rw [if_pos (show (-1 : Int32) < 0 by decide)] at hi
    rw [if_pos rfl, if_pos (show (-1 : Int32) < 0 by decide), if_pos rfl, if_pos (show (-1 : Int32) < 0 by decide)]
    exact ⟨choice_v (ptr_n c A B e).2 hi, rfl⟩
  · have n1 : ¬ c (16 + e) = -1 := by
      rw [q]
      intro z
      have := congrArg Int32.toInt z
      rw [nI_toInt (by omega), show (-1 : Int32).toInt = -1 by decide] at this
      omega
    have n2 : ¬ c (16 + e) < 0 := by rw [q]; exact nI_nlt (b := 0) (Nat.zero_le _) (by omega)
    rw [if_neg n1, if_neg n2, if_neg n1, if_neg n2, q, nI_clamp (by omega)]
    exact ⟨rfl, rfl⟩
/-- the best so far as it stands -/
def cBsx (w : Nat → Nat → Int32) (m : Nat) (b : Nat × (Nat → Nat)) : Prop := w 146 6 = nI b.1 ∧ b.1 ≤ 1000000 ∧ (b.1 = 1000000 → ∀ e, e < 7 → w 147 e = -1) ∧ (b.1 ≠ 1000000 → ∀ e, e < m → w 147 e = nI (b.2 e))
set_option maxHeartbeats 1000000 in
theorem seekx_n {h : Nat → Nat → Int32} (hC : cChx h n m A B k F T c) (hS : mSe c m) :
    ∀ kk e, e + kk = m → ∀ (d : Nat) (v : Nat → Nat) (b : Nat × (Nat → Nat)) (w : Nat → Nat → Int32), (∀ e, v e < 8) → cFrx h w → (∀ f, f < e → w 149 f = nI (v f)) → cBsx w m b → pC c m A B k F T v e < b.1 → (∀ f, f < e → pu1 A B v f f = true) →
      ewP X Ch_seek (d + kk + 3) 0 [some (.ref 146), some (.int (nI e)), some (.int (nI (pC c m A B k F T v e))), none, none, none] [] (0, 0) (229, ewR cu sp n1 3 n3 n4, w) (fun r S' => ∃ (h' : Nat → Nat → Int32), (cFrx h h' ∧ (∀ f, f < e → h' 149 f = nI (v f)) ∧ cBsx h' m (fdS (pcN c) (pdi c A B) (ps2 c m A B k F T) e kk v b)) ∧ r = none ∧ S' = (229, ewR cu sp n1 3 n3 n4, h')) := by
  have h7 := hC.1.2.1.2.1
  have ok := hC.1.2.2.2.1
  intro kk
  induction kk with
  | zero =>
    intro e he d v b w hv fr tr bs lt free
    have em : e = m := by omega
    subst em
    have w31 : w 3 1 = nI e := by rw [fr.1 3 (by decide) (by decide) (by decide)]; exact hC.1.2.1.1
    have hlt : ¬ nI e < w 3 1 := by rw [w31]; exact nI_nlt (Nat.le_refl _) (by omega)
    have neg : ¬ nI e < 0 := nI_nlt (b := 0) (Nat.zero_le _) (by omega)
    have ce : (nI e).toNatClampNeg = e := nI_clamp (by omega)
    refine v_Ch_seekx_0 (d := d) _ _ w (fun _ => neg) (fun _ => by rw [ce]; omega) (fun _ => ⟨_, ⟨?_, ?_, ?_⟩, rfl, rfl⟩) (fun q => absurd q hlt) (fun q => absurd q hlt) (fun q => absurd q hlt) (fun q => absurd q hlt) (fun q => absurd q hlt)
    · refine ⟨fun q q1 q2 q3 => ?_, fun j hj => ?_⟩
      · rw [ewS_ne _ _ q2, ewS_ne _ _ q1]; exact fr.1 q q1 q2 q3
      · show (if j = 6 then _ else w 146 j) = _
        rw [if_neg hj]; exact fr.2 j hj
    · exact fun f hf => tr f hf
    · show cBsx _ e (ps2 c e A B k F T b v)
      have u2 : pu2 A B v e = true := (pu2_iff e).mpr free
      have ec := pco_sum (o := (c 24).toNatClampNeg) (w := (c 23).toNatClampNeg) (tr := ptn c A B e) hv (by omega) ok
      have lt' := lt
      unfold pC at lt'
      rw [← ec] at lt'
      unfold ps2
      rw [if_pos ⟨u2, lt'⟩]
      refine ⟨?_, ?_, fun z => ?_, fun _ f hf => ?_⟩
      · show nI (pC c e A B k F T v e) = nI _
        unfold pC
        rw [ec]
      · show _ ≤ 1000000
        have := bs.2.1
        omega
      · exfalso
        have := bs.2.1
        dsimp only at z
        omega
      · show va_cpy (w 149) (w 147) 0 0 (nI e).toNatClampNeg f = _
        rw [ce, cpy_n _ _ hf]; exact tr f hf
  | succ kk ih =>
    intro e he d v b w hv fr tr bs lt free
    have w31 : w 3 1 = nI m := by rw [fr.1 3 (by decide) (by decide) (by decide)]; exact hC.1.2.1.1
    have hlt : nI e < w 3 1 := by rw [w31]; exact (nI_ltb (by omega) (by omega)).mpr (by omega)
    have hlt7 : nI e < 7 := (nI_ltb (b := 7) (by omega) (by omega)).mpr (by omega)
    have ce : (nI e).toNatClampNeg = e := nI_clamp (by omega)
    have hCw : cChx w n m A B k F T c := hC.fr fr
    have p0 := pcN_pos c e
    have p3 := pcN_le c e
    refine v_Ch_seekx_0 (d := d + kk + 1) _ _ w (fun q => absurd hlt q) (fun q => absurd hlt q) (fun q => absurd hlt q) (fun _ _ => nI_inB (by omega) (by decide)) (fun _ _ => ?_) (fun _ q => absurd hlt7 q) (fun _ q => absurd hlt7 q) (fun _ q => absurd hlt7 q)
    rw [ce, (choicex_n hCw hS (show e < m by omega) p0).2.2]
    refine upto (H := Nat → Nat → Int32) (P := fun i g => cFrx h g ∧ (∀ f, f < e → g 149 f = nI (v f)) ∧ cBsx g m ((List.range i).foldl (fun b i => fdS (pcN c) (pdi c A B) (ps2 c m A B k F T) (e + 1) kk (pup v e (pdi c A B e i)) b) b)) (E := fun i g => ewP X Ch_seek (d + kk + 1 + 3) 59 [some (.ref 146), some (.int (nI e)), some (.int (nI (pC c m A B k F T v e))), some (.int (nI (pcN c e))), some (.int (nI i)), none] [] (0, 0) (229, ewR cu sp n1 3 n3 n4, g) _) (pcN c e) ?_ ?_ 0 w (by omega) ⟨fr, tr, bs⟩
    · rintro i g hi ⟨g1, g2, g3⟩ next
      rw [foldr_s] at next
      generalize hb : (List.range i).foldl (fun b i => fdS (pcN c) (pdi c A B) (ps2 c m A B k F T) (e + 1) kk (pup v e (pdi c A B e i)) b) b = b1 at g3 next
      have hlti : nI i < nI (pcN c e) := (nI_ltb (by omega) (by omega)).mpr hi
      have hCg : cChx g n m A B k F T c := hC.fr g1
      obtain ⟨c1, c2, -⟩ := choicex_n hCg hS (show e < m by omega) hi
      have d8 := pdi_lt hS A B (show e < m by omega) i
      generalize hv1 : pup v e (pdi c A B e i) = v1 at next
      have v18 : ∀ j, v1 j < 8 := by rw [← hv1]; exact pup8 hv d8
      have v1e : ∀ j, j < e → v1 j = v j := fun j hj => by rw [← hv1, pup_ne _ _ (by omega)]
      have v1s : v1 e = pdi c A B e i := by rw [← hv1, pup_self]
      have ew1 : ewS g 149 (upd (g 149) (nI e).toNatClampNeg (f_Ch_choicex g (nI e) (nI i))) = ewS g 149 (upd (g 149) e (nI (v1 e))) := by rw [ce, c2, v1s]
      have frg : cFrx h (ewS g 149 (upd (g 149) e (nI (v1 e)))) := g1.v _
      have trg : ∀ f, f ≤ e → (ewS g 149 (upd (g 149) e (nI (v1 e)))) 149 f = nI (v1 f) := by
        intro f hf
        rw [ewS_self]
        show (if f = e then _ else g 149 f) = _
        by_cases q : f = e
        · rw [if_pos q, q]
        · rw [if_neg q, g2 f (by omega), v1e f (by omega)]
      have bsg : cBsx (ewS g 149 (upd (g 149) e (nI (v1 e)))) m b1 := g3
      have pce : pC c m A B k F T v1 e = pC c m A B k F T v e := pC_cg v1e
      have free1 : pu1 A B v1 e e = true → ∀ f, f < e + 1 → pu1 A B v1 f f = true := by
        intro q f hf
        by_cases z : f = e
        · rw [z]; exact q
        · rw [pu1_cg hv v18 (fun j hj y => ok.2.1 j (by omega) (by rw [y])) (fun j hj => v1e j (by omega))]
          exact free f (by omega)
      generalize hg : ewS g 149 (upd (g 149) e (nI (v1 e))) = g' at *
      have keep : ∀ f, f < e → g' 149 f = nI (v f) := fun f hf => by rw [trg f (by omega), v1e f hf]
      have pdlt : pC c m A B k F T v1 (e + 1) < 2 ^ 31 := by
        have h1 : pC c m A B k F T v1 (e + 1) ≤ pC c m A B k F T v1 m := sm_ge (by omega)
        have h2 := pco_lt (o := (c 24).toNatClampNeg) (w := (c 23).toNatClampNeg) (A := A) (B := B) (n := n) (m := m) (v := v1) (tr := ptn c A B m) (k := k) (F := F) (T := T) hS.2.1.2 hS.1.2 hC.1.1.2.1 h7 hC.1.2.2.1.2.1 v18 (fun e => by unfold ptn; split; exact (ptr_n c A B e).2; omega) ok.2.1 ok.1 (fun l hl => ⟨(ok.2.2 l hl).1, (ok.2.2 l hl).2.1, (ok.2.2 l hl).2.2.2⟩)
        rw [pco_sum v18 (by omega) ok] at h2
        unfold pC at h1 ⊢
        omega
      refine v_Ch_seekx_59 (d := d + kk + 1) _ _ _ _ g (P_Ch_added := fun h' x1 => h' = g' ∧ x1 = nI e) (R_Ch_added := fun h' x1 h'' y => h'' = g' ∧ y = if pu1 A B v1 e e = true then nI (pad (c 24).toNatClampNeg (c 23).toNatClampNeg A B m v1 (ptn c A B m) k F T e) else -1) (fun x1 h' hp => ?_) (P_Ch_seek := fun h' x1 x2 => h' = g' ∧ x1 = nI (e + 1) ∧ x2 = nI (pC c m A B k F T v1 (e + 1)) ∧ pu1 A B v1 e e = true ∧ pC c m A B k F T v1 (e + 1) < b1.1) (R_Ch_seek := fun h' x1 x2 h'' => cFrx h h'' ∧ (∀ f, f < e + 1 → h'' 149 f = nI (v1 f)) ∧ cBsx h'' m (fdS (pcN c) (pdi c A B) (ps2 c m A B k F T) (e + 1) kk v1 b1)) (fun x1 x2 h' hp => ?_) (fun q => absurd hlti q) (fun _ => c1) (fun _ => nI_inB (by omega) (by decide)) (fun _ => ⟨by rw [ew1], rfl⟩) (fun _ w4 y5 hw => ?_)
      · obtain ⟨rfl, rfl⟩ := hp
        exact addedx_n (d := d + kk + 2) (hC.fr frg) hS (by omega) v18 trg
      · obtain ⟨rfl, rfl, rfl, hu, hl⟩ := hp
        exact ih (e + 1) (by omega) d v1 b1 h' v18 frg (fun f hf => trg f (by omega)) bsg hl (free1 hu)
      · obtain ⟨rfl, ey⟩ := hw
        have ne1 : ∀ x, x < 2 ^ 31 → ¬ nI x = -1 := fun x hx z => by
          have := congrArg Int32.toInt z
          rw [nI_toInt hx, show (-1 : Int32).toInt = -1 by decide] at this
          omega
        have eS := pC_s (c := c) (m := m) (A := A) (B := B) (k := k) (F := F) (T := T) v1 e
        have y1 : y5 = -1 ↔ ¬ pu1 A B v1 e e = true := by
          rw [ey]
          by_cases z : pu1 A B v1 e e = true
          · rw [if_pos z]; exact ⟨fun q => absurd q (ne1 _ (by omega)), fun q => absurd z q⟩
          · rw [if_neg z]; exact ⟨fun _ => z, fun _ => rfl⟩
        have y2 : pu1 A B v1 e e = true → nI (pC c m A B k F T v e) + y5 = nI (pC c m A B k F T v1 (e + 1)) := fun z => by
          rw [ey, if_pos z, nI_ad, eS, pce]
        have lst : w4 146 6 = nI b1.1 := bsg.1
        rw [← nI_succ, ← nI_succ]
        refine ⟨fun q => next _ ⟨frg, keep, ?_⟩, fun q p => next _ ⟨frg, keep, ?_⟩, fun q p => ?_, fun q p w12 hw12 => next _ ⟨hw12.1, fun f hf => ?_, hw12.2.2⟩⟩
        · rw [seek_no hS ok (by omega) v18 (y1.mp q)]; exact bsg
        · have z : pu1 A B v1 e e = true := Decidable.byContradiction (fun z => q (y1.mpr z))
          rw [y2 z, lst, nI_ltb pdlt (by have := bsg.2.1; omega)] at p
          rw [seek_dear hS ok (by omega) (by omega) v18 p]; exact bsg
        · have z : pu1 A B v1 e e = true := Decidable.byContradiction (fun z => q (y1.mpr z))
          rw [y2 z, lst, nI_ltb pdlt (by have := bsg.2.1; omega)] at p
          exact ⟨rfl, rfl, y2 z, z, p⟩
        · rw [hw12.2.1 f (by omega), v1e f hf]
    · rintro g ⟨g1, g2, g3⟩
      have hlti : ¬ nI (pcN c e) < nI (pcN c e) := nI_nlt (Nat.le_refl _) (by omega)
      exact v_Ch_seekx_59 (d := d + kk + 1) _ _ _ _ g (P_Ch_added := fun _ _ => False) (R_Ch_added := fun _ _ _ _ => False) (fun _ _ hp => hp.elim) (P_Ch_seek := fun _ _ _ => False) (R_Ch_seek := fun _ _ _ _ => False) (fun _ _ _ hp => hp.elim) (fun _ => ⟨g, ⟨g1, g2, g3⟩, rfl, rfl⟩) (fun q => absurd q hlti) (fun q => absurd q hlti) (fun q => absurd q hlti) (fun q => absurd q hlti)
end CHARTBx
