/-! the class's Chart at 146 (by program from wip/gen/chart.tmpl) -/
/-- truth and setting, the net -/
def cChx (h : Nat → Nat → Int32) (n m : Nat) (A B : Nat → Nat) (k : Nat) (F T : Nat → Nat) (c : Nat → Int32) : Prop := cNt h n m A B k F T ∧ cSt h 71 n c ∧ ∀ e, e < m → h 148 e = nI (ptr c A B e)
def cFrx (h w : Nat → Nat → Int32) : Prop := (∀ q, q ≠ 146 → q ≠ 147 → q ≠ 149 → w q = h q) ∧ ∀ j, j ≠ 6 → w 146 j = h 146 j
theorem cFrx.r (h : Nat → Nat → Int32) : cFrx h h := ⟨fun _ _ _ _ => rfl, fun _ _ => rfl⟩
theorem cFrx.t {h w v : Nat → Nat → Int32} (a : cFrx h w) (b : cFrx w v) : cFrx h v := ⟨fun q q1 q2 q3 => (b.1 q q1 q2 q3).trans (a.1 q q1 q2 q3), fun j hj => (b.2 j hj).trans (a.2 j hj)⟩
theorem cFrx.v {h w : Nat → Nat → Int32} (a : cFrx h w) (f : Nat → Int32) : cFrx h (ewS w 149 f) := ⟨fun q q1 q2 q3 => (ewS_ne _ _ q3).trans (a.1 q q1 q2 q3), fun j hj => a.2 j hj⟩
theorem cChx.fr {h w : Nat → Nat → Int32} {n m : Nat} {A B : Nat → Nat} {k : Nat} {F T : Nat → Nat} {c : Nat → Int32} (a : cChx h n m A B k F T c) (f : cFrx h w) : cChx w n m A B k F T c := ⟨a.1.fr (fun q q1 q2 => f.1 q (by omega) (by omega) (by omega)), a.2.1.fr (fun q q1 q2 => f.1 q (by omega) (by omega) (by omega)), fun e he => by rw [f.1 148 (by decide) (by decide) (by decide)]; exact a.2.2 e he⟩
theorem cChx.f2 {h w : Nat → Nat → Int32} {n m : Nat} {A B : Nat → Nat} {k : Nat} {F T : Nat → Nat} {c : Nat → Int32} (a : cChx h n m A B k F T c) (f : ∀ q, q ≠ 146 → q ≠ 147 → q ≠ 149 → w q = h q) : cChx w n m A B k F T c := ⟨a.1.fr (fun q q1 q2 => f q (by omega) (by omega) (by omega)), a.2.1.fr (fun q q1 q2 => f q (by omega) (by omega) (by omega)), fun e he => by rw [f 148 (by decide) (by decide) (by decide)]; exact a.2.2 e he⟩
section CHARTx
variable {X : Nat × (Nat → Int32)} {d : Nat} {cu sp n1 n3 n4 : Nat} {n m : Nat} {A B : Nat → Nat} {k : Nat} {F T : Nat → Nat} {c : Nat → Int32}
theorem turnedx_n {h : Nat → Nat → Int32} {v : Nat → Nat} (hN : cNt h n m A B k F T) {q : Nat} (q1 : ewTj q 9 = true) (q2 : kL q = 7) {f e : Nat} (hf : f < m) (he : e < m) (hne : f ≠ e) (hv : v f < 8 ∧ v e < 8) (h1 : h q f = nI (v f)) (h2 : h q e = nI (v e)) (hm : pmt A B f e ≠ -1) : p_Ch_turnedx h q (nI f) (nI e) ∧ f_Ch_turnedx h q (nI f) (nI e) = nI (pts A B v f e) := by
  have h7 := hN.2.1.2.1
  have row : (ewTj (18 + 1 + f) 9 = true ∧ kL (18 + 1 + f) = 7) := by
    have hh : ∀ e : Fin 7, ewTj (18 + 1 + e.1) 9 = true ∧ kL (18 + 1 + e.1) = 7 := by decide +kernel
    exact hh ⟨f, by omega⟩
  have mt : h (18 + 1 + f) e = if decide (A f = A e ∨ B f = B e) = true then 4 else 0 := by
    rw [show 18 + 1 + f = 19 + f by omega, hN.2.1.2.2.2 f e hf he hne]
    unfold pmt at hm ⊢
    by_cases z : A f = A e ∨ B f = B e
    · rw [if_pos z, decide_eq_true z, if_pos rfl]
    · rw [if_neg z] at hm ⊢
      rw [decide_eq_false z, if_neg (show ¬ false = true by decide)]
      by_cases y : A f = B e ∨ B f = A e
      · rw [if_pos y]
      · rw [if_neg y] at hm; exact absurd rfl hm
  obtain ⟨p1, p2⟩ := psh_n hv.2 hv.1 (decide (A f = A e ∨ B f = B e))
  unfold p_Ch_turnedx f_Ch_turnedx
  rw [nI_clamp (show f < 2 ^ 31 by omega), nI_clamp (show e < 2 ^ 31 by omega), h1, h2, mt, pts_d]
  refine ⟨⟨q1, by rw [q2]; exact nI_inB (by omega) (by decide), by rw [q2]; exact nI_inB (by omega) (by decide), nI_inB (by omega) (by decide), beq_no (by omega), row.1, by rw [row.2]; exact nI_inB (by omega) (by decide), p1⟩, p2⟩
/-- isFree -/
theorem isFreex_n {h : Nat → Nat → Int32} {v : Nat → Nat} (hN : cNt h n m A B k F T) {e : Nat} (he : e < m) (hv : ∀ e, v e < 8) (ht : ∀ f, f ≤ e → h 149 f = nI (v f)) : ewP X Ch_isFree (d + 1) 0 [some (.ref 146), some (.int (nI e)), none] [] (0, 0) (229, ewR cu sp n1 3 n3 n4, h) (fun w S' => ∃ (h' : Nat → Nat → Int32) (y : Int32), (h' = h ∧ y = bI (pu1 A B v e e)) ∧ w = some (.int y) ∧ S' = (229, ewR cu sp n1 3 n3 n4, h')) := by
  have h7 := hN.2.1.2.1
  have hab : ∀ f, f < m → A f ≠ B f := fun f hf y => hN.2.2.2.1.2.1 f hf (by rw [y])
  have piff := pu1_iff hv (hab e he) e (fun f hf => hab f (by omega))
  refine v_Ch_isFreex_0 _ h ?_
  refine upto (H := Unit) (P := fun f _ => ∀ f', f' < f → pmt A B f' e ≠ -1 → pts A B v f' e ≠ 4) (E := fun f _ => ewP X Ch_isFree (d + 1) 2 [some (.ref 146), some (.int (nI e)), some (.int (nI f))] [] (0, 0) (229, ewR cu sp n1 3 n3 n4, h) _) e ?_ ?_ 0 () (by omega) (fun f' hf' => by omega)
  · intro f _ hf hP next
    have hlt : nI f < nI e := (nI_ltb (by omega) (by omega)).mpr hf
    have row : (ewTj (18 + 1 + f) 9 = true ∧ kL (18 + 1 + f) = 7) := by
      have hh : ∀ e : Fin 7, ewTj (18 + 1 + e.1) 9 = true ∧ kL (18 + 1 + e.1) = 7 := by decide +kernel
      exact hh ⟨f, by omega⟩
    have mi := m1_iff hN (show f < m by omega) he (by omega)
    have tn : pmt A B f e ≠ -1 → _ := fun z => turnedx_n hN (q := 149) rfl rfl (show f < m by omega) he (by omega) ⟨hv f, hv e⟩ (ht f (by omega)) (ht e (Nat.le_refl _)) z
    have cf : (nI f).toNatClampNeg = f := nI_clamp (by omega)
    have ce : (nI e).toNatClampNeg = e := nI_clamp (by omega)
    have four : ∀ z, f_Ch_turnedx h 149 (nI f) (nI e) = 4 ↔ pts A B v f e = 4 := fun z => by
      rw [(tn z).2]; exact nI_eq (b := 4) (by have := pts_lt (A := A) (B := B) (v := v) f e; omega) (by omega)
    refine v_Ch_isFreex_2 _ _ h (fun q => absurd hlt q) (fun _ => nI_inB (by omega) (by decide)) (fun _ => by rw [cf]; exact beq_no (by omega)) (fun _ => by rw [cf]; exact row.1) (fun _ => by rw [cf, row.2]; exact nI_inB (by omega) (by decide)) (fun _ q => ?_) (fun _ q => ?_) (fun _ q p => ?_) (fun _ q p => ?_)
    · rw [cf, ce, mi] at q
      rw [← nI_succ]
      refine next () (fun f' hf' => ?_)
      by_cases z : f' = f
      · rw [z]; exact fun y => absurd q y
      · exact hP f' (by omega)
    · rw [cf, ce, mi] at q
      exact (tn q).1
    · rw [cf, ce, mi] at q
      rw [← nI_succ]
      refine next () (fun f' hf' => ?_)
      by_cases z : f' = f
      · rw [z]; exact fun y x => p ((four q).mpr x)
      · exact hP f' (by omega)
    · rw [cf, ce, mi] at q
      refine ⟨h, 0, ⟨rfl, ?_⟩, rfl, rfl⟩
      have : pu1 A B v e e = false := by
        rw [Bool.eq_false_iff]
        exact fun z => piff.mp z f hf q ((four q).mp p)
      rw [this]; rfl
  · intro _ hP
    have hlt : ¬ nI e < nI e := nI_nlt (Nat.le_refl _) (by omega)
    refine v_Ch_isFreex_2 _ _ h (fun _ => ⟨h, 1, ⟨rfl, ?_⟩, rfl, rfl⟩) (fun q => absurd q hlt) (fun q => absurd q hlt) (fun q => absurd q hlt) (fun q => absurd q hlt) (fun q => absurd q hlt) (fun q => absurd q hlt) (fun q => absurd q hlt) (fun q => absurd q hlt)
    rw [piff.mpr hP]; rfl
/-- added -/
theorem addedx_n {h : Nat → Nat → Int32} {v : Nat → Nat} (hC : cChx h n m A B k F T c) (hS : mSe c m) {e : Nat} (he : e < m) (hv : ∀ e, v e < 8) (ht : ∀ f, f ≤ e → h 149 f = nI (v f)) : ewP X Ch_added (d + 1) 0 [some (.ref 146), some (.int (nI e)), none, none, none] [] (0, 0) (229, ewR cu sp n1 3 n3 n4, h) (fun w S' => ∃ (h' : Nat → Nat → Int32) (y : Int32), (h' = h ∧ y = if pu1 A B v e e = true then nI (pad (c 24).toNatClampNeg (c 23).toNatClampNeg A B m v (ptn c A B m) k F T e) else -1) ∧ w = some (.int y) ∧ S' = (229, ewR cu sp n1 3 n3 n4, h')) := by
  obtain ⟨hN, hs, htr⟩ := hC
  have h7 := hN.2.1.2.1
  have hab : ∀ f, f < m → A f ≠ B f := fun f hf y => hN.2.2.2.1.2.1 f hf (by rw [y])
  have piff := pu1_iff hv (hab e he) e (fun f hf => hab f (by omega))
  have ce : (nI e).toNatClampNeg = e := nI_clamp (by omega)
  have pt8 := ptr_n c A B e
  have ap := apart2_n (hv e) pt8.2
  have etr : ptn c A B m e = ptr c A B e := by unfold ptn; rw [if_pos he]
  have off : h 71 1 = nI (c 24).toNatClampNeg := hs.2.1.trans hS.2.1.1
  have way : h 71 0 = nI (c 23).toNatClampNeg := hs.1.trans hS.1.1
  refine v_Ch_addedx_0 _ h (nI_inB (by omega) (by decide)) (by rw [ce, ht e (Nat.le_refl _), htr e he]; exact ap.1) ?_
  rw [ce, ht e (Nat.le_refl _), htr e he, ap.2, off, nI_mu]
  obtain ⟨G, hG⟩ : ∃ G : Nat → Nat, G = fun f => pth A B m k F T f e * pct (c 23).toNatClampNeg (pts A B v f e) := ⟨_, rfl⟩
  have epad : pad (c 24).toNatClampNeg (c 23).toNatClampNeg A B m v (ptn c A B m) k F T e = (c 24).toNatClampNeg * pap (v e) (ptr c A B e) + sm G e := by
    unfold pad
    rw [etr, hG]
  have Gf : ∀ f, G f = pth A B m k F T f e * pct (c 23).toNatClampNeg (pts A B v f e) := fun f => by rw [hG]
  clear hG
  generalize (c 24).toNatClampNeg * pap (v e) (ptr c A B e) = o0 at epad ⊢
  rw [epad]
  have smS : ∀ f, sm G (f + 1) = sm G f + G f := fun _ => rfl
  refine upto (H := Int32) (P := fun f x => (∀ f', f' < f → pmt A B f' e ≠ -1 → pts A B v f' e ≠ 4) ∧ x = nI (o0 + sm G f)) (E := fun f x => ewP X Ch_added (d + 1) 26 [some (.ref 146), some (.int (nI e)), some (.int x), some (.int (nI f)), none] [] (0, 0) (229, ewR cu sp n1 3 n3 n4, h) _) e ?_ ?_ 0 _ (by omega) ⟨fun f' hf' => by omega, rfl⟩
  · rintro f x hf ⟨hP, hx⟩ next
    have hlt : nI f < nI e := (nI_ltb (by omega) (by omega)).mpr hf
    have row : (ewTj (18 + 1 + f) 9 = true ∧ kL (18 + 1 + f) = 7) ∧ ewTj (26 + 1 + f) 9 = true ∧ kL (26 + 1 + f) = 7 := by
      have hh : ∀ e : Fin 7, (ewTj (18 + 1 + e.1) 9 = true ∧ kL (18 + 1 + e.1) = 7) ∧ ewTj (26 + 1 + e.1) 9 = true ∧ kL (26 + 1 + e.1) = 7 := by decide +kernel
      exact hh ⟨f, by omega⟩
    obtain ⟨⟨ro1, ro2⟩, ro3, ro4⟩ := row
    have mi := m1_iff hN (show f < m by omega) he (by omega)
    have tn : pmt A B f e ≠ -1 → _ := fun z => turnedx_n hN (q := 149) rfl rfl (show f < m by omega) he (by omega) ⟨hv f, hv e⟩ (ht f (by omega)) (ht e (Nat.le_refl _)) z
    have cf : (nI f).toNatClampNeg = f := nI_clamp (by omega)
    have four : ∀ z, f_Ch_turnedx h 149 (nI f) (nI e) = 4 ↔ pts A B v f e = 4 := fun z => by
      rw [(tn z).2]; exact nI_eq (b := 4) (by have := pts_lt (A := A) (B := B) (v := v) f e; omega) (by omega)
    have th : h (26 + 1 + f) e = nI (pth A B m k F T f e) := by
      rw [show 26 + 1 + f = 27 + f by omega]; exact hN.2.2.1.2.2.2.2.2 f e (by omega) (by omega)
    refine v_Ch_addedx_26 _ _ _ h (fun q => absurd hlt q) (fun _ => nI_inB (by omega) (by decide)) (fun _ => by rw [cf]; exact beq_no (by omega)) (fun _ => by rw [cf]; exact ro1) (fun _ => by rw [cf, ro2]; exact nI_inB (by omega) (by decide)) (fun _ q => ?_) (fun _ q => ?_) (fun _ q p => by rw [cf]; exact beq_no (by omega)) (fun _ q p => by rw [cf]; exact ro3) (fun _ q p => by rw [cf, ro4]; exact nI_inB (by omega) (by decide)) (fun _ q p => ?_) (fun _ q p => ?_)
    · rw [cf, ce, mi] at q
      rw [← nI_succ]
      refine next _ ⟨fun f' hf' => ?_, ?_⟩
      · by_cases z : f' = f
        · rw [z]; exact fun y => absurd q y
        · exact hP f' (by omega)
      · have p0 : pth A B m k F T f e = 0 := by
          unfold pth
          rw [← sm_z k]
          refine sm_cg k (fun l hl => ?_)
          rw [← sm_z (tds A B m (F l) (T l) - 1)]
          refine sm_cg _ (fun j hj => ?_)
          unfold pt1
          rw [if_neg]
          obtain ⟨f1, f2, f3, f4⟩ := hN.2.2.2.1.2.2 l hl
          obtain ⟨t1, t2⟩ := tpe_at hN.2.2.2.1.2.1 hN.2.2.2.1.1 f4 f1 (show j < tds A B m (F l) (T l) by omega)
          obtain ⟨u1, u2⟩ := tpe_at hN.2.2.2.1.2.1 hN.2.2.2.1.1 f4 f1 (show j + 1 < tds A B m (F l) (T l) by omega)
          have nom : ¬ (A f = A e ∨ B f = B e) ∧ ¬ (A f = B e ∨ B f = A e) := by
            unfold pmt at q
            by_cases z1 : A f = A e ∨ B f = B e
            · rw [if_pos z1] at q; exact absurd q (by decide)
            · rw [if_neg z1] at q
              by_cases z2 : A f = B e ∨ B f = A e
              · rw [if_pos z2] at q; exact absurd q (by decide)
              · exact ⟨z1, z2⟩
          rintro (⟨z1, z2⟩ | ⟨z1, z2⟩) <;> rw [z1] at t2 <;> rw [z2] at u2 <;> omega
        rw [hx, smS, Gf, p0, Nat.zero_mul, Nat.add_zero]
    · rw [cf, ce, mi] at q
      exact (tn q).1
    · rw [cf, ce, mi] at q
      rw [← nI_succ, cf, ce, th, way, (tn q).2, counted2_n hS.1.2 (pts_lt f e), nI_mu, hx, nI_ad]
      refine next _ ⟨fun f' hf' => ?_, ?_⟩
      · by_cases z : f' = f
        · rw [z]; exact fun y x => p ((four q).mpr x)
        · exact hP f' (by omega)
      · rw [smS, Gf, Nat.add_assoc]
    · rw [cf, ce, mi] at q
      refine ⟨h, -1, ⟨rfl, ?_⟩, rfl, rfl⟩
      rw [if_neg (fun z => piff.mp z f hf q ((four q).mp p))]
  · rintro x ⟨hP, hx⟩
    have hlt : ¬ nI e < nI e := nI_nlt (Nat.le_refl _) (by omega)
    refine v_Ch_addedx_26 _ _ _ h (fun _ => ⟨h, x, ⟨rfl, ?_⟩, rfl, rfl⟩) (fun q => absurd q hlt) (fun q => absurd q hlt) (fun q => absurd q hlt) (fun q => absurd q hlt) (fun q => absurd q hlt) (fun q => absurd q hlt) (fun q => absurd q hlt) (fun q => absurd q hlt) (fun q => absurd q hlt) (fun q => absurd q hlt) (fun q => absurd q hlt)
    rw [if_pos (piff.mpr hP), hx]
end CHARTx
