/-! the class's Sides: alongChain, fewestCrossings -/
section SIDES4
variable {X : Nat × (Nat → Int32)} {d : Nat} {cu sp n2 n3 : Nat} {A B dv : Nat → Nat} {n m k : Nat} {F T : Nat → Nat} {o1 o2 : Nat → Nat}
theorem msk3_0 (f : Nat → Bool) : (nI (msk f 3) = 0) ↔ (f 0 || f 1 || f 2) = false := by
  have key : ∀ a b c : Bool, (nI (((0 + if a = true then 2 ^ 0 else 0) + if b = true then 2 ^ 1 else 0) + if c = true then 2 ^ 2 else 0) = 0) ↔ (a || b || c) = false := by decide +kernel
  exact key (f 0) (f 1) (f 2)
theorem isPaired_n {h : Nat → Nat → Int32} (c : cSs A B dv n m k F T o1 o2 h) (g : gOK A B n m (spd A B m k F T) o1 o2) (h7 : m ≤ 7) (h8 : n ≤ 8) {e s : Nat} (he : e < m) (hs : s < n) : p_Si_isPaired (nI e) (nI s) ∧ (f_Si_isPaired h (nI e) (nI s) ↔ gPd (spd A B m k F T) o1 o2 e s) ∧ (gPd (spd A B m k F T) o1 o2 e s → p_Si_otherAt (nI s) (nI e) ∧ f_Si_otherAt h (nI s) (nI e) = nI (gOt o1 o2 s e)) := by
  have cs : (nI s).toNatClampNeg = s := nI_clamp (by omega)
  have p0 : (h 180 s = 0) ↔ ¬ spd A B m k F T s = true := by
    rw [(c.2.1 s hs).1, msk3_0, Bool.not_eq_true]; rfl
  refine ⟨nI_inB (by omega) (by decide), ?_, fun hp => ⟨nI_inB (by omega) (by decide), ?_⟩⟩
  · show (¬ (h 180 (nI s).toNatClampNeg = 0) ∧ ((h 182 (nI s).toNatClampNeg = nI e) ∨ (h 183 (nI s).toNatClampNeg = nI e))) ↔ _
    rw [cs, p0]
    unfold gPd
    constructor
    · rintro ⟨q1, q2⟩
      have q1' : spd A B m k F T s = true := Decidable.byContradiction q1
      obtain ⟨r1, r2⟩ := c.2.2.2 s hs q1'
      obtain ⟨g1, g2, -⟩ := g s hs q1'
      rw [r1, r2, nI_eq (by omega) (by omega), nI_eq (by omega) (by omega)] at q2
      exact ⟨q1', q2⟩
    · rintro ⟨q1, q2⟩
      obtain ⟨r1, r2⟩ := c.2.2.2 s hs q1
      obtain ⟨g1, g2, -⟩ := g s hs q1
      rw [r1, r2, nI_eq (by omega) (by omega), nI_eq (by omega) (by omega)]
      exact ⟨fun z => z q1, q2⟩
  · obtain ⟨r1, r2⟩ := c.2.2.2 s hs hp.1
    obtain ⟨g1, g2, -⟩ := g s hs hp.1
    unfold f_Si_otherAt gOt
    rw [cs, r1, r2]
    by_cases y : o1 s = e
    · rw [if_pos ((nI_eq (by omega) (by omega)).mpr y), if_pos y]
    · rw [if_neg (fun z => y ((nI_eq (by omega) (by omega)).mp z)), if_neg y]
theorem gPd_end {e s : Nat} (g : gOK A B n m (spd A B m k F T) o1 o2) (hs : s < n) (hp : gPd (spd A B m k F T) o1 o2 e s) : s = A e ∨ s = B e := by
  have t := g s hs hp.1
  rcases hp.2 with q | q
  · rw [← q]; exact t.2.2.2.1.imp Eq.symm Eq.symm
  · rw [← q]; exact t.2.2.2.2.imp Eq.symm Eq.symm
/-- the next joint: none, or one that leads to a stretch not seen yet -/
theorem nextJoint_n {h : Nat → Nat → Int32} {z : Nat → Bool} (hN : cNt h n m A B k F T) (c : cSs A B dv n m k F T o1 o2 h) (g : gOK A B n m (spd A B m k F T) o1 o2) (hz : h 174 12 = nI (msk z 8)) {e : Nat} (he : e < m) : p_Si_nextJoint h (nI e) ∧ ((f_Si_nextJoint h (nI e) = -1 ∧ ∀ s, s < n → gPd (spd A B m k F T) o1 o2 e s → z (gOt o1 o2 s e) = true) ∨ ∃ s, s < n ∧ f_Si_nextJoint h (nI e) = nI s ∧ gPd (spd A B m k F T) o1 o2 e s ∧ ¬ z (gOt o1 o2 s e) = true) := by
  have h7 := hN.2.1.2.1
  have h8 := hN.1.2.1
  have ce : (nI e).toNatClampNeg = e := nI_clamp (by omega)
  obtain ⟨nA, nB⟩ := hN.2.2.2.1.1 e he
  obtain ⟨eA, eB, -⟩ := hN.2.1.2.2.1 e he
  obtain ⟨a1, a2, a3⟩ := isPaired_n c g h7 h8 he nA
  obtain ⟨b1, b2, b3⟩ := isPaired_n c g h7 h8 he nB
  have hasA : gPd (spd A B m k F T) o1 o2 e (A e) → (f_Ew_has (h 174 12) (f_Si_otherAt h (nI (A e)) (nI e)) ↔ z (gOt o1 o2 (A e) e) = true) := fun w => by
    rw [(a3 w).2, hz]; exact has_m (by have := (gOt_ne g nA w).2.1; omega)
  have hasB : gPd (spd A B m k F T) o1 o2 e (B e) → (f_Ew_has (h 174 12) (f_Si_otherAt h (nI (B e)) (nI e)) ↔ z (gOt o1 o2 (B e) e) = true) := fun w => by
    rw [(b3 w).2, hz]; exact has_m (by have := (gOt_ne g nB w).2.1; omega)
  unfold p_Si_nextJoint f_Si_nextJoint
  rw [ce, eA, eB]
  refine ⟨⟨nI_inB (by omega) (by decide), a1, fun _ => b1, fun _ q => (b3 (b2.mp q)).1, fun q => (a3 (a2.mp q)).1, fun _ _ => b1, fun q _ r => (b3 (b2.mp r)).1⟩, ?_⟩
  have both : ∀ s, s < n → gPd (spd A B m k F T) o1 o2 e s → s = A e ∨ s = B e := fun s hs hp => gPd_end g hs hp
  by_cases pA : gPd (spd A B m k F T) o1 o2 e (A e)
  · rw [if_pos (a2.mpr pA)]
    by_cases sA : z (gOt o1 o2 (A e) e) = true
    · rw [if_pos ((hasA pA).mpr sA)]
      by_cases pB : gPd (spd A B m k F T) o1 o2 e (B e)
      · rw [if_pos (b2.mpr pB)]
        by_cases sB : z (gOt o1 o2 (B e) e) = true
        · rw [if_pos ((hasB pB).mpr sB)]
          exact Or.inl ⟨rfl, fun s hs hp => by rcases both s hs hp with q | q <;> rw [q] <;> assumption⟩
        · rw [if_neg (fun w => sB ((hasB pB).mp w))]
          exact Or.inr ⟨B e, nB, rfl, pB, sB⟩
      · rw [if_neg (fun w => pB (b2.mp w))]
        exact Or.inl ⟨rfl, fun s hs hp => by
          rcases both s hs hp with q | q
          · rw [q]; exact sA
          · rw [q] at hp; exact absurd hp pB⟩
    · rw [if_neg (fun w => sA ((hasA pA).mp w))]
      exact Or.inr ⟨A e, nA, rfl, pA, sA⟩
  · rw [if_neg (fun w => pA (a2.mp w))]
    by_cases pB : gPd (spd A B m k F T) o1 o2 e (B e)
    · rw [if_pos (b2.mpr pB)]
      by_cases sB : z (gOt o1 o2 (B e) e) = true
      · rw [if_pos ((hasB pB).mpr sB)]
        exact Or.inl ⟨rfl, fun s hs hp => by
          rcases both s hs hp with q | q
          · rw [q] at hp; exact absurd hp pA
          · rw [q]; exact sB⟩
      · rw [if_neg (fun w => sB ((hasB pB).mp w))]
        exact Or.inr ⟨B e, nB, rfl, pB, sB⟩
    · rw [if_neg (fun w => pB (b2.mp w))]
      exact Or.inl ⟨rfl, fun s hs hp => by
        rcases both s hs hp with q | q
        · rw [q] at hp; exact absurd hp pA
        · rw [q] at hp; exact absurd hp pB⟩
theorem hW_le {pd : Nat → Bool} {P : Nat → Nat → Nat} {Xc : Nat → Nat → Nat → Nat} {z : Nat → Bool} {r : Nat → Nat} (hP : ∀ e i, P e i ≤ 6) (hX : ∀ s i j, Xc s i j ≤ 3) : hW n m pd o1 o2 P Xc z r ≤ m * 6 + n * 3 := by
  unfold hW
  have a := sm_le (f := fun e => if z e = true then P e (r e) else 0) (C := 6) (fun e => by split; exact hP _ _; omega) m
  have b := sm_le (f := fun s => if pd s = true ∧ z (o1 s) = true ∧ z (o2 s) = true then Xc s (r (o1 s)) (r (o2 s)) else 0) (C := 3) (fun e => by split; exact hX _ _ _; omega) n
  omega
/-- how many there are -/
theorem card_add {z : Nat → Bool} {f : Nat} (hf : f < m) (zf : ¬ z f = true) : sm (fun x => b1 (z x || decide (x = f))) m = sm (fun x => b1 (z x)) m + 1 := by
  rw [← (show sm (fun i => if i = f then 1 else 0) m = 1 by rw [sm_pick (v := fun _ => 1), if_pos hf]), ← sm_add]
  refine sm_cg m (fun x _ => ?_)
  by_cases q : x = f
  · rw [q, if_pos rfl, decide_eq_true rfl, Bool.or_true]
    rw [Bool.not_eq_true] at zf
    rw [zf]; rfl
  · rw [if_neg q, decide_eq_false q, Bool.or_false]; rfl
theorem card_le (z : Nat → Bool) : sm (fun x => b1 (z x)) m ≤ m := by
  have := sm_le (f := fun x => b1 (z x)) (C := 1) (fun x => by unfold b1; split <;> omega) m
  omega
def aFr (h h' : Nat → Nat → Int32) : Prop := (∀ q, q ≠ 174 → q ≠ 184 → q ≠ 185 → h' q = h q) ∧ ∀ j, j ≠ 12 → h' 174 j = h 174 j
theorem aFr.t {h w v : Nat → Nat → Int32} (a : aFr h w) (b : aFr w v) : aFr h v := ⟨fun q q1 q2 q3 => (b.1 q q1 q2 q3).trans (a.1 q q1 q2 q3), fun j hj => (b.2 j hj).trans (a.2 j hj)⟩
theorem aFr.r (h : Nat → Nat → Int32) : aFr h h := ⟨fun _ _ _ _ => rfl, fun _ _ => rfl⟩
/-- what alongChain, fewestCrossings ask -/
def cSi (A B dv : Nat → Nat) (n m k : Nat) (F T o1 o2 rk : Nat → Nat) (h : Nat → Nat → Int32) : Prop := cNt h n m A B k F T ∧ cSs A B dv n m k F T o1 o2 h ∧ cPc A B dv m k F T h ∧ cRk m rk h
theorem cSi.fr {h h' : Nat → Nat → Int32} {rk : Nat → Nat} (c : cSi A B dv n m k F T o1 o2 rk h) (f : aFr h h') : cSi A B dv n m k F T o1 o2 rk h' := by
  obtain ⟨c1, c2, c3, c4⟩ := c
  refine ⟨c1.fr (fun q a b => f.1 q (by omega) (by omega) (by omega)), c2.fr (fun q a b _ => f.1 q (by omega) (by omega) (by omega)), ?_, ?_⟩
  · unfold cPc; rw [f.1 179 (by omega) (by omega) (by omega)]; exact c3
  · unfold cRk; rw [f.1 175 (by omega) (by omega) (by omega)]; exact c4
set_option maxHeartbeats 2000000 in
theorem alongChain_n {h : Nat → Nat → Int32} {rk : Nat → Nat} {z0 : Nat → Bool} (cI : cSi A B dv n m k F T o1 o2 rk h) (hz : h 174 12 = nI (msk z0 8)) (hcl : gCl n (spd A B m k F T) o1 o2 z0) {e : Nat} (he : e < m) (hn0 : ¬ z0 e = true) (hend : ∃ v, (v = A e ∨ v = B e) ∧ ¬ gPd (spd A B m k F T) o1 o2 e v) : ewP X Si_alongChain (d + 2) 0 [some (.ref 174), some (.int (nI e)), none, none, none, none] [] (0, 0) (229, ewR cu sp 3 n2 n3 3, h) (fun v S' => ∃ (h' : Nat → Nat → Int32) (y : Int32), (aFr h h' ∧ ∃ (z : Nat → Bool) (t : Nat), h' 174 12 = nI (msk (fun x => z0 x || z x) 8) ∧ z e = true ∧ (∀ x, z0 x = true → ¬ z x = true) ∧ gSm n m (spd A B m k F T) o1 o2 (sP A B dv m k F T) (sX A B m k F T) rk z t ∧ y = nI t) ∧ v = some (.int y) ∧ S' = (229, ewR cu sp 3 n2 n3 3, h')) := by
  obtain ⟨hN, hSs, hPc, hRk⟩ := id cI
  have h7 := hN.2.1.2.1
  have h8 := hN.1.2.1
  have ok := hN.2.2.2.1
  have g := hSs.2.2.1.ok ok (by omega)
  have ce : (nI e).toNatClampNeg = e := nI_clamp (by omega)
  have al0 : gAl m rk (fun x => if rk x = 6 then 0 else rk x) := fun x hx => by
    have := (hRk x hx).1
    dsimp only
    split
    · exact ⟨by omega, Or.inl (by assumption)⟩
    · exact ⟨by omega, Or.inr rfl⟩
  refine v_Si_alongChain_0 _ h ?_
  rw [hz, or1_m (show e < 8 by omega)]
  generalize hw0 : ewS h 174 (upd (h 174) 12 (nI (msk (fun i => z0 i || decide (i = e)) 8))) = w0
  have f0 : aFr h w0 := by
    rw [← hw0]
    refine ⟨fun q q1 _ _ => ewS_ne _ _ q1, fun j hj => ?_⟩
    show (if j = 12 then _ else h 174 j) = _
    rw [if_neg hj]
  have s0 : w0 174 12 = nI (msk (fun i => z0 i || decide (i = e)) 8) := by rw [← hw0]; rfl
  clear hw0
  generalize hD0 : (fun i => if rk e = 6 ∨ rk e = i then sP A B dv m k F T e i else 1000000) = D0
  have D0i : ∀ i, D0 i = if rk e = 6 ∨ rk e = i then sP A B dv m k F T e i else 1000000 := fun i => by rw [← hD0]
  -- the last loop
  have last : ∀ (e' : Nat) (x3 : Int32) (w : Nat → Nat → Int32) (z : Nat → Bool) (D : Nat → Nat), aFr h w → w 174 12 = nI (msk (fun x => z0 x || z x) 8) → z e = true → gCh A B n m (spd A B m k F T) o1 o2 (sP A B dv m k F T) (sX A B m k F T) rk z0 z e' D → (∀ i, i < 6 → w 184 i = nI (D i) ∧ D i ≤ 2000000) → (∀ s, s < n → gPd (spd A B m k F T) o1 o2 e' s → (z0 (gOt o1 o2 s e') || z (gOt o1 o2 s e')) = true) → ewP X Si_alongChain (d + 2) 135 [some (.ref 174), some (.int (nI e)), some (.int (nI e')), some (.int x3), some (.int 1000000), some (.int 0)] [] (0, 0) (229, ewR cu sp 3 n2 n3 3, w) (fun v S' => ∃ (h' : Nat → Nat → Int32) (y : Int32), (aFr h h' ∧ ∃ (z : Nat → Bool) (t : Nat), h' 174 12 = nI (msk (fun x => z0 x || z x) 8) ∧ z e = true ∧ (∀ x, z0 x = true → ¬ z x = true) ∧ gSm n m (spd A B m k F T) o1 o2 (sP A B dv m k F T) (sX A B m k F T) rk z t ∧ y = nI t) ∧ v = some (.int y) ∧ S' = (229, ewR cu sp 3 n2 n3 3, h')) := by
    intro e' x3 w z D fw sw ze cw dw ew
    refine upto (H := Nat) (P := fun i y => y ≤ 1000000 ∧ (∀ i', i' < i → y ≤ D i') ∧ (y = 1000000 ∨ ∃ i', i' < i ∧ y = D i')) (E := fun i y => ewP X Si_alongChain (d + 2) 135 [some (.ref 174), some (.int (nI e)), some (.int (nI e')), some (.int x3), some (.int (nI y)), some (.int (nI i))] [] (0, 0) (229, ewR cu sp 3 n2 n3 3, w) _) 6 ?_ ?_ 0 1000000 (by omega) ⟨Nat.le_refl _, fun i' h' => by omega, Or.inl rfl⟩
    · rintro i y hi ⟨y1, y2, y3⟩ next
      have hlt : nI i < 6 := (nI_ltb (b := 6) (by omega) (by omega)).mpr hi
      refine v_Si_alongChain_135 _ _ _ _ _ w (fun q => absurd hlt q) (fun _ => nI_inB hi (by decide)) (fun _ => ?_)
      rw [nI_clamp (by omega), (dw i hi).1, mmin_n (by omega) (by have := (dw i hi).2; omega), ← nI_succ]
      refine next _ ?_
      split
      · rename_i q
        refine ⟨by omega, fun i' hi' => ?_, Or.inr ⟨i, by omega, rfl⟩⟩
        by_cases v : i' = i
        · rw [v]; exact Nat.le_refl _
        · have := y2 i' (by omega); omega
      · rename_i q
        refine ⟨y1, fun i' hi' => ?_, y3.imp id (fun ⟨j, hj, ej⟩ => ⟨j, by omega, ej⟩)⟩
        by_cases v : i' = i
        · rw [v]; omega
        · exact y2 i' (by omega)
    · rintro y ⟨y1, y2, y3⟩
      have hlt : ¬ nI 6 < 6 := by decide
      refine v_Si_alongChain_135 _ _ _ _ _ w (fun _ => ⟨w, _, ⟨fw, z, y, sw, ze, fun x hx hzx => (cw.2.1 x hzx).2 hx, ?_, rfl⟩, rfl, rfl⟩) (fun q => absurd q hlt) (fun q => absurd q hlt)
      exact gCh_e g cw hcl ew al0 (Nat.lt_of_le_of_lt (hW_le (fun e i => sP_le e i) (fun s i j => sX_le s i j)) (by omega)) y1 y2 y3
  -- the walk
  have walk : ∀ (w : Nat → Nat → Int32), aFr h w → w 174 12 = nI (msk (fun x => z0 x || decide (x = e)) 8) → (∀ i, i < 6 → w 184 i = nI (D0 i)) → ewP X Si_alongChain (d + 2) 79 [some (.ref 174), some (.int (nI e)), some (.int (nI e)), some (.int (f_Si_nextJoint w (nI e))), some (.int 0), none] [] (0, 0) (229, ewR cu sp 3 n2 n3 3, w) (fun v S' => ∃ (h' : Nat → Nat → Int32) (y : Int32), (aFr h h' ∧ ∃ (z : Nat → Bool) (t : Nat), h' 174 12 = nI (msk (fun x => z0 x || z x) 8) ∧ z e = true ∧ (∀ x, z0 x = true → ¬ z x = true) ∧ gSm n m (spd A B m k F T) o1 o2 (sP A B dv m k F T) (sX A B m k F T) rk z t ∧ y = nI t) ∧ v = some (.int y) ∧ S' = (229, ewR cu sp 3 n2 n3 3, h')) := by
    intro w fw sw dw
    refine upto (H := Nat × (Nat → Nat → Int32)) (P := fun t ew => aFr h ew.2 ∧ ∃ (z : Nat → Bool) (D : Nat → Nat), ew.2 174 12 = nI (msk (fun x => z0 x || z x) 8) ∧ z e = true ∧ gCh A B n m (spd A B m k F T) o1 o2 (sP A B dv m k F T) (sX A B m k F T) rk z0 z ew.1 D ∧ (∀ i, i < 6 → ew.2 184 i = nI (D i) ∧ D i ≤ 2000000) ∧ sm (fun x => b1 (z x)) m = t + 1) (E := fun t ew => ewP X Si_alongChain (d + 2) 79 [some (.ref 174), some (.int (nI e)), some (.int (nI ew.1)), some (.int (f_Si_nextJoint ew.2 (nI ew.1))), some (.int (nI t)), none] [] (0, 0) (229, ewR cu sp 3 n2 n3 3, ew.2) _) 7 ?_ ?_ 0 (e, w) (by omega) ?_
    · rintro t ⟨e', v⟩ ht ⟨fv, z, D, sv, ze, cv, dv', cd⟩ next
      dsimp only at fv sv cv dv' ⊢
      have hlt : nI t < 7 := (nI_ltb (b := 7) (by omega) (by omega)).mpr ht
      have cIv := cI.fr fv
      have em := cv.1.1
      obtain ⟨nj1, nj2⟩ := nextJoint_n cIv.1 cIv.2.1 g sv em
      rcases nj2 with ⟨j1, j2⟩ | ⟨s, hs, j1, j2, j3⟩
      · refine v_Si_alongChain_79 _ _ _ _ v (P_Si_goOn := fun _ _ _ => False) (R_Si_goOn := fun _ _ _ _ => False) (fun _ _ _ hp => hp.elim) (fun q => absurd hlt q) (fun _ _ => last e' _ v z D fv sv ze cv dv' j2) (fun _ q => absurd j1 q) (fun _ q => absurd j1 q) (fun _ q => absurd j1 q)
      · have ne : ¬ f_Si_nextJoint v (nI e') = -1 := by rw [j1]; exact nI_m1 (by omega)
        obtain ⟨k1, k2, k3, k4, k5⟩ := gOt_ne g hs j2
        obtain ⟨i1, i2, i3⟩ := isPaired_n cIv.2.1 g h7 h8 em hs
        obtain ⟨i4, i5⟩ := i3 j2
        rw [Bool.or_eq_true, not_or] at j3
        rw [j1]
        generalize hf : gOt o1 o2 s e' = f at *
        have eS : ewS v 174 (upd (v 174) 12 (v 174 12 ||| ((1 : Int32) <<< ((f_Si_otherAt v (nI s) (nI e') : Int32) &&& 31)))) = ewS v 174 (upd (v 174) 12 (nI (msk (fun x => z0 x || (z x || decide (x = f))) 8))) := by
          rw [i5, sv, or1_m (show f < 8 by omega)]
          congr 4
          funext x
          rw [Bool.or_assoc]
        generalize hv' : ewS v 174 (upd (v 174) 12 (nI (msk (fun x => z0 x || (z x || decide (x = f))) 8))) = v' at *
        have fv' : aFr v v' := by
          rw [← hv']
          refine ⟨fun q q1 _ _ => ewS_ne _ _ q1, fun j hj => ?_⟩
          show (if j = 12 then _ else v 174 j) = _
          rw [if_neg hj]
        have sv' : v' 174 12 = nI (msk (fun x => z0 x || (z x || decide (x = f))) 8) := by rw [← hv']; rfl
        have v184 : v' 184 = v 184 := by rw [← hv']; rfl
        refine v_Si_alongChain_79 _ _ _ _ v (P_Si_goOn := fun h' x1 x2 => h' = v' ∧ x1 = nI s ∧ x2 = nI f) (R_Si_goOn := fun h' x1 x2 h'' => (∀ q, q ≠ 184 → q ≠ 185 → h'' q = v' q) ∧ ∀ i, i < 6 → h'' 184 i = nI (gnx A B dv m k F T rk D s f i)) (fun x1 x2 h' hp => ?_) (fun q => absurd hlt q) (fun _ q => absurd q (nI_m1 (by omega))) (fun _ _ => i4) (fun _ _ => ⟨eS, rfl, i5⟩) (fun _ _ w6 hw => ?_)
        · obtain ⟨rfl, rfl, rfl⟩ := hp
          have cI' := cIv.fr fv'
          exact goOn_n cI'.1 cI'.2.1 cI'.2.2.1 cI'.2.2.2 (fun i hi => by rw [v184]; exact dv' i hi) hs k2
        · have fw6 : aFr h w6 := (fv.t fv').t ⟨fun q q1 q2 q3 => hw.1 q q2 q3, fun j _ => by rw [hw.1 174 (by decide) (by decide)]⟩
          have cI6 := cI.fr fw6
          have s6 : w6 174 12 = nI (msk (fun x => z0 x || (z x || decide (x = f))) 8) := by rw [hw.1 174 (by decide) (by decide)]; exact sv'
          have nx : ∀ i, gnx A B dv m k F T rk D s f i ≤ 2000000 := fun i => by
            unfold gnx
            have := (gmn_le (A := A) (B := B) (m := m) (k := k) (F := F) (T := T) (D := D) (s := s) (i := i) 6).1
            have := sP_le (A := A) (B := B) (dv := dv) (m := m) (k := k) (F := F) (T := T) f i
            split <;> omega
          rw [i5, ← nI_succ]
          refine ⟨(nextJoint_n cI6.1 cI6.2.1 g s6 k2).1, next (f, w6) ⟨fw6, fun x => z x || decide (x = f), gnx A B dv m k F T rk D s f, s6, by dsimp only; rw [ze]; rfl, ?_, fun i hi => ⟨hw.2 i hi, nx i⟩, by rw [card_add k2 j3.2, cd]⟩⟩
          refine gCh_s g (fun s i j => sX_sym s i j) cv hs j2 hf j3.2 j3.1 (fun i j hi hj ha => ?_) (fun i hi hlt' => ?_)
          · unfold gnx
            rw [if_pos ha]
            have := (gmn_le (A := A) (B := B) (m := m) (k := k) (F := F) (T := T) (D := D) (s := s) (i := i) 6).2.1 j hj
            rw [sX_sym s j i]
            omega
          · unfold gnx at hlt' ⊢
            by_cases ha : rk f = 6 ∨ rk f = i
            · rw [if_pos ha] at hlt' ⊢
              refine ⟨ha, ?_⟩
              rcases (gmn_le (A := A) (B := B) (m := m) (k := k) (F := F) (T := T) (D := D) (s := s) (i := i) 6).2.2 with y | ⟨j, hj, ej⟩
              · omega
              · exact ⟨j, hj, by omega, by rw [ej, sX_sym s j i]⟩
            · rw [if_neg ha] at hlt'; omega
    · rintro ⟨e', v⟩ ⟨-, z, D, -, -, -, -, cd⟩
      have := card_le (m := m) z
      omega
    · refine ⟨fw, fun x => decide (x = e), D0, sw, by dsimp only; exact decide_eq_true rfl, gCh_0 g he hn0 hend al0 (fun i hi => D0i i), fun i hi => ⟨dw i hi, ?_⟩, ?_⟩
      · rw [D0i]
        have := sP_le (A := A) (B := B) (dv := dv) (m := m) (k := k) (F := F) (T := T) e i
        split <;> omega
      · have := card_add (m := m) (z := fun _ => false) he (by decide)
        simp only [Bool.false_or] at this
        rw [this]
        have z2 : sm (fun _ => b1 false) m = 0 := sm_z m
        rw [z2]
  refine upto (H := Nat → Nat → Int32) (P := fun i w => (∀ q, q ≠ 184 → w q = w0 q) ∧ ∀ i', i' < i → w 184 i' = nI (D0 i')) (E := fun i w => ewP X Si_alongChain (d + 2) 16 [some (.ref 174), some (.int (nI e)), some (.int (nI e)), some (.int (nI i)), none, none] [] (0, 0) (229, ewR cu sp 3 n2 n3 3, w) _) 6 ?_ ?_ 0 w0 (by omega) ⟨fun _ _ => rfl, fun i' h' => by omega⟩
  · rintro i w hi ⟨w1, w2⟩ next
    have hlt : nI i < 6 := (nI_ltb (b := 6) (by omega) (by omega)).mpr hi
    have ci : (nI i).toNatClampNeg = i := nI_clamp (by omega)
    have i6 : nI e * 6 + nI i = nI (6 * e + i) := by rw [show (nI e : Int32) * 6 = nI (e * 6) from nI_mu e 6, nI_ad, Nat.mul_comm]
    have in42 : vp_in (nI e * 6 + nI i) 42 := by rw [i6]; exact nI_inB (by omega) (by decide)
    obtain ⟨m1, m2⟩ := hRk.at he hi
    have w175 : w 175 = h 175 := (w1 175 (by decide)).trans (f0.1 175 (by decide) (by decide) (by decide))
    have w179 : w 179 = h 179 := (w1 179 (by decide)).trans (f0.1 179 (by decide) (by decide) (by decide))
    refine v_Si_alongChain_16 _ _ _ w (fun q => absurd hlt q) (fun q => absurd hlt q) (fun _ => nI_inB (by omega) (by decide)) (fun _ _ => in42) (fun _ _ _ => in42) (fun _ => nI_inB hi (by decide)) (fun _ => ?_)
    have ev : (if w 175 (nI e).toNatClampNeg = -1 then w 179 (nI e * 6 + nI i).toNatClampNeg else if w 175 (nI e).toNatClampNeg = nI i then w 179 (nI e * 6 + nI i).toNatClampNeg else 1000000) = nI (D0 i) := by
      rw [ce, w175, w179, i6, nI_clamp (by omega), hPc e i he hi, D0i]
      by_cases q1 : rk e = 6
      · rw [if_pos (m1.mpr q1), if_pos (Or.inl q1)]
      · rw [if_neg (fun z => q1 (m1.mp z))]
        by_cases q2 : rk e = i
        · rw [if_pos (m2.mpr q2), if_pos (Or.inr q2)]
        · rw [if_neg (fun z => q2 (m2.mp z)), if_neg (fun z => z.elim q1 q2)]; rfl
    rw [ev, ci, ← nI_succ]
    refine next _ ⟨fun q hq => (ewS_ne _ _ hq).trans (w1 q hq), fun i' hi' => ?_⟩
    rw [ewS_self]
    show (if i' = i then _ else w 184 i') = _
    by_cases q : i' = i
    · rw [if_pos q, q]
    · rw [if_neg q]; exact w2 i' (by omega)
  · rintro w ⟨w1, w2⟩
    have hlt : ¬ nI 6 < 6 := by decide
    have fw : aFr h w := f0.t ⟨fun q _ q2 _ => w1 q q2, fun j _ => by rw [w1 174 (by decide)]⟩
    have sw : w 174 12 = nI (msk (fun x => z0 x || decide (x = e)) 8) := by rw [w1 174 (by decide)]; exact s0
    have cIw := cI.fr fw
    exact v_Si_alongChain_16 _ _ _ w (fun _ => (nextJoint_n cIw.1 cIw.2.1 g sw he).1) (fun _ => walk w fw sw w2) (fun q => absurd q hlt) (fun q => absurd q hlt) (fun q => absurd q hlt) (fun q => absurd q hlt) (fun q => absurd q hlt)
end SIDES4
