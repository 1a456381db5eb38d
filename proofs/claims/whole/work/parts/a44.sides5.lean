/-! the class's Sides: fewestCrossings, chooseRankings -/
section SIDES5
variable {X : Nat × (Nat → Int32)} {d : Nat} {cu sp n2 n3 : Nat} {A B dv : Nat → Nat} {n m k : Nat} {F T : Nat → Nat} {o1 o2 : Nat → Nat}
theorem isChainEnd_n {h : Nat → Nat → Int32} (hN : cNt h n m A B k F T) (c : cSs A B dv n m k F T o1 o2 h) (g : gOK A B n m (spd A B m k F T) o1 o2) {e : Nat} (he : e < m) : p_Si_isChainEnd h (nI e) ∧ (f_Si_isChainEnd h (nI e) ↔ ∃ v, (v = A e ∨ v = B e) ∧ ¬ gPd (spd A B m k F T) o1 o2 e v) := by
  have h7 := hN.2.1.2.1
  have h8 := hN.1.2.1
  have ce : (nI e).toNatClampNeg = e := nI_clamp (by omega)
  obtain ⟨nA, nB⟩ := hN.2.2.2.1.1 e he
  obtain ⟨eA, eB, -⟩ := hN.2.1.2.2.1 e he
  obtain ⟨a1, a2, -⟩ := isPaired_n c g h7 h8 he nA
  obtain ⟨b1, b2, -⟩ := isPaired_n c g h7 h8 he nB
  refine ⟨⟨nI_inB (by omega) (by decide), by rw [ce, eA]; exact a1, fun _ => by rw [ce, eB]; exact b1⟩, ?_⟩
  show (¬ (f_Si_isPaired h (nI e) (h 6 (nI e).toNatClampNeg)) ∨ (¬ (f_Si_isPaired h (nI e) (h 7 (nI e).toNatClampNeg)))) ↔ _
  rw [ce, eA, eB, a2, b2]
  constructor
  · rintro (q | q)
    · exact ⟨A e, Or.inl rfl, q⟩
    · exact ⟨B e, Or.inr rfl, q⟩
  · rintro ⟨v, hv | hv, q⟩
    · rw [hv] at q; exact Or.inl q
    · rw [hv] at q; exact Or.inr q
/-- the least number of crossings with the rankings that are settled -/
theorem fewestCrossings_n {h : Nat → Nat → Int32} {rk : Nat → Nat} (cI : cSi A B dv n m k F T o1 o2 rk h) : ewP X Si_fewestCrossings (d + 3) 0 [some (.ref 174), none, none] [] (0, 0) (229, ewR cu sp 3 n2 n3 3, h) (fun v S' => ∃ (h' : Nat → Nat → Int32) (y : Int32), (aFr h h' ∧ ∃ t : Nat, y = nI t ∧ (∀ r, gAl m rk r → t ≤ pTt A B dv n m k F T (fun e p => sdb (r e) p)) ∧ ∃ r, gAl m rk r ∧ pTt A B dv n m k F T (fun e p => sdb (r e) p) = t) ∧ v = some (.int y) ∧ S' = (229, ewR cu sp 3 n2 n3 3, h')) := by
  obtain ⟨hN, hSs, hPc, hRk⟩ := id cI
  have h7 := hN.2.1.2.1
  have h8 := hN.1.2.1
  have ok := hN.2.2.2.1
  have g := hSs.2.2.1.ok ok (by omega)
  have al0 : gAl m rk (fun x => if rk x = 6 then 0 else rk x) := fun x hx => by
    have := (hRk x hx).1
    dsimp only
    split
    · exact ⟨by omega, Or.inl (by assumption)⟩
    · exact ⟨by omega, Or.inr rfl⟩
  refine v_Si_fewestCrossings_0 h ?_
  refine upto (H := Nat × (Nat → Nat → Int32)) (P := fun e yw => aFr h yw.2 ∧ ∃ z : Nat → Bool, yw.2 174 12 = nI (msk z 8) ∧ gSm n m (spd A B m k F T) o1 o2 (sP A B dv m k F T) (sX A B m k F T) rk z yw.1 ∧ ∀ x, x < e → (∃ v, (v = A x ∨ v = B x) ∧ ¬ gPd (spd A B m k F T) o1 o2 x v) → z x = true) (E := fun e yw => ewP X Si_fewestCrossings (d + 3) 9 [some (.ref 174), some (.int (nI yw.1)), some (.int (nI e))] [] (0, 0) (229, ewR cu sp 3 n2 n3 3, yw.2) _) m ?_ ?_ 0 (0, _) (by omega) ⟨⟨fun q q1 _ _ => ewS_ne _ _ q1, fun j hj => ?_⟩, fun _ => false, rfl, gSm_0 al0, fun x hx => by omega⟩
  · rintro e ⟨y, w⟩ he ⟨fw, z, sw, gs, all⟩ next
    dsimp only at fw sw gs ⊢
    have cIw := cI.fr fw
    have hlt : nI e < w 3 1 := by rw [cIw.1.2.1.1]; exact (nI_ltb (by omega) (by omega)).mpr he
    have hh : f_Ew_has (w 174 12) (nI e) ↔ z e = true := by rw [sw]; exact has_m (by omega)
    obtain ⟨ce1, ce2⟩ := isChainEnd_n cIw.1 cIw.2.1 g he
    refine v_Si_fewestCrossings_9 _ _ w (P_Si_alongChain := fun h' x => h' = w ∧ x = nI e ∧ ¬ z e = true ∧ ∃ v, (v = A e ∨ v = B e) ∧ ¬ gPd (spd A B m k F T) o1 o2 e v) (R_Si_alongChain := fun h' x h'' y' => aFr w h'' ∧ ∃ (z' : Nat → Bool) (t : Nat), h'' 174 12 = nI (msk (fun x => z x || z' x) 8) ∧ z' e = true ∧ (∀ x, z x = true → ¬ z' x = true) ∧ gSm n m (spd A B m k F T) o1 o2 (sP A B dv m k F T) (sX A B m k F T) rk z' t ∧ y' = nI t) (fun x h' hp => ?_) (fun q => absurd hlt q) (fun _ q => ?_) (fun _ _ => ce1) (fun _ q1 q2 => ?_) (fun _ q1 q2 => ⟨rfl, rfl, fun z => q1 (hh.mpr z), ce2.mp q2⟩) (fun _ q1 q2 w8 y9 hw => ?_)
    · obtain ⟨rfl, rfl, q1, q2⟩ := hp
      exact alongChain_n cIw sw gs.1 he q1 q2
    · rw [← nI_succ]
      refine next (y, w) ⟨fw, z, sw, gs, fun x hx hv => ?_⟩
      by_cases y : x = e
      · rw [y]; exact hh.mp q
      · exact all x (by omega) hv
    · rw [← nI_succ]
      refine next (y, w) ⟨fw, z, sw, gs, fun x hx hv => ?_⟩
      by_cases y : x = e
      · rw [y] at hv; exact absurd (ce2.mpr hv) q2
      · exact all x (by omega) hv
    · obtain ⟨f8, z', t, s8, ze, dis, gs', ey⟩ := hw
      rw [← nI_succ, ey, nI_ad]
      refine next (y + t, w8) ⟨fw.t f8, fun x => z x || z' x, s8, gSm_add gs gs' dis, fun x hx hv => ?_⟩
      dsimp only
      by_cases y : x = e
      · rw [y, ze, Bool.or_true]
      · rw [all x (by omega) hv]; rfl
  · rintro ⟨y, w⟩ ⟨fw, z, sw, gs, all⟩
    dsimp only at fw sw gs ⊢
    have cIw := cI.fr fw
    have hlt : ¬ nI m < w 3 1 := by rw [cIw.1.2.1.1]; exact nI_nlt (Nat.le_refl _) (by omega)
    obtain ⟨-, -, ga, r, gr1, gr2⟩ := gSm_all ok.2.1 (by omega) ok.1 g gs all
    refine v_Si_fewestCrossings_9 _ _ w (P_Si_alongChain := fun _ _ => False) (R_Si_alongChain := fun _ _ _ _ => False) (fun _ _ hp => hp.elim) (fun _ => ⟨w, _, ⟨fw, y, rfl, fun r hr => ?_, r, gr1, ?_⟩, rfl, rfl⟩) (fun q => absurd q hlt) (fun q => absurd q hlt) (fun q => absurd q hlt) (fun q => absurd q hlt) (fun q => absurd q hlt)
    · rw [← sW_n ok (by omega) hSs.2.2.1]; exact ga r hr
    · rw [← sW_n ok (by omega) hSs.2.2.1]; exact gr2
  · show (if j = 12 then _ else h 174 j) = _
    rw [if_neg hj]
theorem isAlone_n {h : Nat → Nat → Int32} (hN : cNt h n m A B k F T) {e : Nat} (he : e < m) : p_Si_isAlone h (nI e) ∧ (f_Si_isAlone h (nI e) ↔ pbc (pLs m A B k F T e) < 2) := by
  have h7 := hN.2.1.2.1
  have hk3 := hN.2.2.1.2.1
  have L8 := pLs_lt (m := m) (A := A) (B := B) (F := F) (T := T) hk3 e
  have ce : (nI e).toNatClampNeg = e := nI_clamp (by omega)
  have r15 : h 15 e = nI (pLs m A B k F T e) := hN.2.2.1.2.2.2.1 e (by omega)
  have hh : ∀ L : Fin 8, (¬ ((nI L.1 &&& 7) < 0) ∧ (nI L.1 &&& 7).toNatClampNeg < 8) ∧ (ewSv 5 (nI L.1 &&& 7).toNatClampNeg < 2 ↔ pbc L.1 < 2) := by decide +kernel
  obtain ⟨⟨a1, a2⟩, a3⟩ := hh ⟨_, L8⟩
  refine ⟨⟨nI_inB (by omega) (by decide), ?_⟩, ?_⟩
  · rw [ce, r15]
    exact fun z => z.elim a1 (fun y => absurd a2 (Nat.not_lt.mpr y))
  · show (ewSv 5 ((h 15 (nI e).toNatClampNeg) &&& 7).toNatClampNeg < 2) ↔ _
    rw [ce, r15]; exact a3
/-- what chooseRankings leaves: the first rankings that keep the least -/
def cCr (A B dv : Nat → Nat) (n m k : Nat) (F T : Nat → Nat) (tot : Nat) (e : Nat) (rk : Nat → Nat) : Prop :=
  (∀ f, f < e → rk f < 6) ∧ (∀ f, e ≤ f → f < m → rk f = 6) ∧ (∃ r, gAl m rk r ∧ pTt A B dv n m k F T (fun e p => sdb (r e) p) = tot) ∧ ∀ f, f < e → (pbc (pLs m A B k F T f) < 2 ∧ rk f = 0) ∨ ∀ r' : Nat → Nat, (∀ x, x < m → r' x < 6) → (∀ x, x < f → r' x = rk x) → r' f < rk f → tot < pTt A B dv n m k F T (fun e p => sdb (r' e) p)
set_option maxHeartbeats 1000000 in
theorem chooseRankings_n {h : Nat → Nat → Int32} {rk : Nat → Nat} {tot : Nat} (cI : cSi A B dv n m k F T o1 o2 rk h) (h0 : h 174 0 = nI tot) (ht : tot < 1000000) (hmin : ∀ r : Nat → Nat, (∀ e, e < m → r e < 6) → tot ≤ pTt A B dv n m k F T (fun e p => sdb (r e) p)) (hc : cCr A B dv n m k F T tot 0 rk) : ewP X Si_chooseRankings (d + 4) 0 [some (.ref 174), none, none, none] [] (0, 0) (229, ewR cu sp 3 n2 n3 3, h) (fun v S' => ∃ (h' : Nat → Nat → Int32), ((∀ q, q ≠ 174 → q ≠ 175 → q ≠ 184 → q ≠ 185 → h' q = h q) ∧ (∀ j, j ≠ 12 → h' 174 j = h 174 j) ∧ ∃ rk' : Nat → Nat, cSi A B dv n m k F T o1 o2 rk' h' ∧ cCr A B dv n m k F T tot m rk') ∧ v = none ∧ S' = (229, ewR cu sp 3 n2 n3 3, h')) := by
  have h7 := cI.1.2.1.2.1
  have h8 := cI.1.1.2.1
  have ok := cI.1.2.2.2.1
  have hk3 := cI.1.2.2.1.2.1
  refine v_Si_chooseRankings_0 h ?_
  refine upto (H := Nat → Nat → Int32) (P := fun e w => (∀ q, q ≠ 174 → q ≠ 175 → q ≠ 184 → q ≠ 185 → w q = h q) ∧ (∀ j, j ≠ 12 → w 174 j = h 174 j) ∧ ∃ rk' : Nat → Nat, cSi A B dv n m k F T o1 o2 rk' w ∧ cCr A B dv n m k F T tot e rk') (E := fun e w => ewP X Si_chooseRankings (d + 4) 2 [some (.ref 174), some (.int (nI e)), none, none] [] (0, 0) (229, ewR cu sp 3 n2 n3 3, w) _) m ?_ ?_ 0 h (by omega) ⟨fun _ _ _ _ _ => rfl, fun _ _ => rfl, rk, cI, hc⟩
  · rintro e w he ⟨w1, w2, rk1, cI1, cr1, cr2, ⟨r0, cr3, cr3'⟩, cr4⟩ next
    have hlt : nI e < w 3 1 := by rw [cI1.1.2.1.1]; exact (nI_ltb (by omega) (by omega)).mpr he
    have ce : (nI e).toNatClampNeg = e := nI_clamp (by omega)
    refine v_Si_chooseRankings_2 _ w (fun q => absurd hlt q) (fun _ => ?_)
    -- the heap with ranking i of e
    have setR : ∀ (v : Nat → Nat → Int32) (rk' : Nat → Nat) (i : Nat), i < 6 → (∀ x, x ≠ e → rk' x = rk1 x) → cSi A B dv n m k F T o1 o2 rk' v → cSi A B dv n m k F T o1 o2 (pup rk1 e i) (ewS v 175 (upd (v 175) e (nI i))) := by
      rintro v rk' i hi hrk ⟨a1, a2, a3, a4⟩
      refine ⟨a1.fr (fun q b1 b2 => ewS_ne _ _ (by omega)), a2.fr (fun q b1 b2 _ => ewS_ne _ _ (by omega)), a3, fun x hx => ?_⟩
      rw [ewS_self]
      show _ ∧ (if x = e then nI i else v 175 x) = _
      by_cases y : x = e
      · rw [y, if_pos rfl, pup_self, if_neg (by omega)]; exact ⟨by omega, rfl⟩
      · rw [if_neg y, pup_ne _ _ y, ← hrk x y]; exact a4 x hx
    -- once found
    have done : ∀ (v : Nat → Nat → Int32) (i : Nat), i < 6 → (∀ q, q ≠ 174 → q ≠ 175 → q ≠ 184 → q ≠ 185 → v q = h q) → (∀ j, j ≠ 12 → v 174 j = h 174 j) → cSi A B dv n m k F T o1 o2 (pup rk1 e i) v → (∃ r, gAl m (pup rk1 e i) r ∧ pTt A B dv n m k F T (fun e p => sdb (r e) p) = tot) → ((pbc (pLs m A B k F T e) < 2 ∧ i = 0) ∨ ∀ i', i' < i → ∀ r, gAl m (pup rk1 e i') r → tot < pTt A B dv n m k F T (fun e p => sdb (r e) p)) → ewP X Si_chooseRankings (d + 4) 2 [some (.ref 174), some (.int (nI (e + 1))), none, none] [] (0, 0) (229, ewR cu sp 3 n2 n3 3, v) (fun v S' => ∃ (h' : Nat → Nat → Int32), ((∀ q, q ≠ 174 → q ≠ 175 → q ≠ 184 → q ≠ 185 → h' q = h q) ∧ (∀ j, j ≠ 12 → h' 174 j = h 174 j) ∧ ∃ rk' : Nat → Nat, cSi A B dv n m k F T o1 o2 rk' h' ∧ cCr A B dv n m k F T tot m rk') ∧ v = none ∧ S' = (229, ewR cu sp 3 n2 n3 3, h')) := by
      intro v i hi v1 v2 v3 v4 v5
      refine next v ⟨v1, v2, pup rk1 e i, v3, fun f hf => ?_, fun f hf hfm => ?_, v4, fun f hf => ?_⟩
      · by_cases y : f = e
        · rw [y, pup_self]; exact hi
        · rw [pup_ne _ _ y]; exact cr1 f (by omega)
      · rw [pup_ne _ _ (by omega)]; exact cr2 f (by omega) hfm
      · by_cases y : f = e
        · rw [y, pup_self]
          rcases v5 with q | q
          · exact Or.inl q
          · refine Or.inr (fun r' g1 g2 g3 => q (r' e) g3 r' (fun x hx => ⟨g1 x hx, ?_⟩))
            by_cases u : x = e
            · rw [u, pup_self]; exact Or.inr rfl
            · rw [pup_ne _ _ u]
              rcases Nat.lt_or_ge x e with l | l
              · have := g2 x l
                rw [pup_ne _ _ u] at this
                exact Or.inr this.symm
              · exact Or.inl (cr2 x l hx)
        · rw [pup_ne _ _ y]
          rcases cr4 f (by omega) with q | q
          · exact Or.inl q
          · refine Or.inr (fun r' g1 g2 g3 => q r' g1 (fun x hx => ?_) g3)
            rw [g2 x hx, pup_ne _ _ (by omega)]
    refine upto (H := Bool × (Nat → Nat → Int32)) (P := fun i bv => (∀ q, q ≠ 174 → q ≠ 175 → q ≠ 184 → q ≠ 185 → bv.2 q = h q) ∧ (∀ j, j ≠ 12 → bv.2 174 j = h 174 j) ∧ (bv.1 = false → (∃ rk' : Nat → Nat, (∀ x, x ≠ e → rk' x = rk1 x) ∧ cSi A B dv n m k F T o1 o2 rk' bv.2) ∧ ∀ i', i' < i → ¬ pbc (pLs m A B k F T e) < 2 ∧ ∀ r, gAl m (pup rk1 e i') r → tot < pTt A B dv n m k F T (fun e p => sdb (r e) p)) ∧ (bv.1 = true → ∃ i', i = i' + 1 ∧ i' < 6 ∧ cSi A B dv n m k F T o1 o2 (pup rk1 e i') bv.2 ∧ (∃ r, gAl m (pup rk1 e i') r ∧ pTt A B dv n m k F T (fun e p => sdb (r e) p) = tot) ∧ ((pbc (pLs m A B k F T e) < 2 ∧ i' = 0) ∨ ∀ i'', i'' < i' → ∀ r, gAl m (pup rk1 e i'') r → tot < pTt A B dv n m k F T (fun e p => sdb (r e) p)))) (E := fun i bv => ewP X Si_chooseRankings (d + 4) 17 [some (.ref 174), some (.int (nI e)), some (.int (bI bv.1)), some (.int (nI i))] [] (0, 0) (229, ewR cu sp 3 n2 n3 3, bv.2) _) 6 ?_ ?_ 0 (false, w) (by omega) ⟨w1, w2, fun _ => ⟨⟨rk1, fun _ _ => rfl, cI1⟩, fun i' h' => by omega⟩, fun q => (by cases q)⟩
    · rintro i ⟨b, v⟩ hi ⟨v1, v2, v3, v4⟩ next2
      dsimp only at v1 v2 v3 v4 ⊢
      have hlti : nI i < 6 := (nI_ltb (b := 6) (by omega) (by omega)).mpr hi
      cases b with
      | true =>
        obtain ⟨i', ei, hi', c1, c2, c3⟩ := v4 rfl
        have n1 : ¬ bI true = 0 := by decide
        refine v_Si_chooseRankings_17 _ _ _ v (P_Si_fewestCrossings := fun _ => False) (R_Si_fewestCrossings := fun _ _ _ => False) (fun _ hp => hp.elim) (fun q => absurd hlti q) (fun _ _ => ?_) (fun _ q => absurd q n1) (fun _ q => absurd q n1) (fun _ q => absurd q n1) (fun _ q => absurd q n1) (fun _ q => absurd q n1)
        rw [← nI_succ]
        exact done v i' hi' v1 v2 c1 c2 c3
      | false =>
        obtain ⟨⟨rk', q1, q2⟩, q3⟩ := v3 rfl
        have cS := setR v rk' i hi q1 q2
        have fr1 : ∀ q, q ≠ 174 → q ≠ 175 → q ≠ 184 → q ≠ 185 → ewS v 175 (upd (v 175) e (nI i)) q = h q := fun q a1 a2 a3 a4 => (ewS_ne _ _ a2).trans (v1 q a1 a2 a3 a4)
        have fr2 : ∀ j, j ≠ 12 → ewS v 175 (upd (v 175) e (nI i)) 174 j = h 174 j := fun j hj => v2 j hj
        obtain ⟨al1, al2⟩ := isAlone_n cS.1 he
        have pg : ∀ x, x ≠ e → pup rk1 e i x = rk1 x := fun x hx => pup_ne _ _ hx
        refine v_Si_chooseRankings_17 _ _ _ v (P_Si_fewestCrossings := fun h' => h' = ewS v 175 (upd (v 175) e (nI i))) (R_Si_fewestCrossings := fun h' h'' y => aFr (ewS v 175 (upd (v 175) e (nI i))) h'' ∧ ∃ t : Nat, y = nI t ∧ (∀ r, gAl m (pup rk1 e i) r → t ≤ pTt A B dv n m k F T (fun e p => sdb (r e) p)) ∧ ∃ r, gAl m (pup rk1 e i) r ∧ pTt A B dv n m k F T (fun e p => sdb (r e) p) = t) (fun h' hp => ?_) (fun q => absurd hlti q) (fun _ q => absurd rfl q) (fun _ _ => nI_inB (by omega) (by decide)) (fun _ _ => by rw [ce]; exact al1) (fun _ _ q => ?_) (fun _ _ _ => by rw [ce]) (fun _ _ q w8 y9 hw => ?_)
        · rw [hp]; exact fewestCrossings_n cS
        · rw [ce] at q ⊢
          have alone := al2.mp q
          rw [← nI_succ]
          have i0 : i = 0 := by
            by_cases y : i = 0
            · exact y
            · exact absurd alone (q3 0 (by omega)).1
          refine next2 (true, ewS v 175 (upd (v 175) e (nI i))) ⟨fr1, fr2, fun z => (by cases z), fun _ => ⟨i, rfl, hi, cS, ⟨pup r0 e i, fun x hx => ?_, ?_⟩, Or.inl ⟨alone, i0⟩⟩⟩
          · by_cases y : x = e
            · rw [y, pup_self, pup_self]; exact ⟨hi, Or.inr rfl⟩
            · rw [pup_ne _ _ y, pup_ne _ _ y]; exact cr3 x hx
          · rw [← pTt_alone ok (by omega) hk3 alone]; exact cr3'
        · obtain ⟨f8, t, ey, t1, r, t2, t3⟩ := hw
          rw [ce] at q
          have nal : ¬ pbc (pLs m A B k F T e) < 2 := fun z => q (al2.mpr z)
          have w80 : w8 174 0 = nI tot := by rw [f8.2 0 (by decide), fr2 0 (by decide)]; exact h0
          have tle : tot ≤ t := by rw [← t3]; exact hmin r (fun x hx => (t2 x hx).1)
          have tb : t < 2 ^ 31 := by
            rw [← t3, ← sW_n ok (by omega) cI.2.1.2.2.1]
            exact Nat.lt_of_le_of_lt (hW_le (fun e i => sP_le e i) (fun s i j => sX_le s i j)) (by omega)
          have eqv : (y9 = w8 174 0) ↔ t = tot := by rw [ey, w80]; exact nI_eq tb (by omega)
          have g1 : ∀ q, q ≠ 174 → q ≠ 175 → q ≠ 184 → q ≠ 185 → w8 q = h q := fun q a1 a2 a3 a4 => (f8.1 q a1 a3 a4).trans (fr1 q a1 a2 a3 a4)
          have g2 : ∀ j, j ≠ 12 → w8 174 j = h 174 j := fun j hj => (f8.2 j hj).trans (fr2 j hj)
          have c8 := cS.fr f8
          rw [← nI_succ]
          by_cases y : t = tot
          · rw [if_pos (eqv.mpr y)]
            refine next2 (true, w8) ⟨g1, g2, fun z => (by cases z), fun _ => ⟨i, rfl, hi, c8, ⟨r, t2, by rw [t3, y]⟩, Or.inr (fun i'' h'' r'' hr'' => (q3 i'' h'').2 r'' hr'')⟩⟩
          · rw [if_neg (fun z => y (eqv.mp z))]
            refine next2 (false, w8) ⟨g1, g2, fun _ => ⟨⟨pup rk1 e i, pg, c8⟩, fun i' hi' => ?_⟩, fun z => (by cases z)⟩
            by_cases u : i' = i
            · rw [u]
              refine ⟨nal, fun r'' hr'' => ?_⟩
              have := t1 r'' hr''
              omega
            · exact q3 i' (by omega)
    · rintro ⟨b, v⟩ ⟨v1, v2, v3, v4⟩
      dsimp only at v1 v2 v3 v4 ⊢
      have hlti : ¬ nI 6 < 6 := by decide
      refine v_Si_chooseRankings_17 _ _ _ v (P_Si_fewestCrossings := fun _ => False) (R_Si_fewestCrossings := fun _ _ _ => False) (fun _ hp => hp.elim) (fun _ => ?_) (fun q => absurd q hlti) (fun q => absurd q hlti) (fun q => absurd q hlti) (fun q => absurd q hlti) (fun q => absurd q hlti) (fun q => absurd q hlti)
      rw [← nI_succ]
      cases b with
      | true =>
        obtain ⟨i', ei, hi', c1, c2, c3⟩ := v4 rfl
        exact done v i' hi' v1 v2 c1 c2 c3
      | false =>
        exfalso
        obtain ⟨-, q3⟩ := v3 rfl
        have := (q3 (r0 e) (cr3 e he).1).2 r0 (fun x hx => ⟨(cr3 x hx).1, by
          by_cases y : x = e
          · rw [y, pup_self]; exact Or.inr rfl
          · rw [pup_ne _ _ y]; exact (cr3 x hx).2⟩)
        omega
  · rintro w ⟨w1, w2, rk', c1, c2⟩
    have hlt : ¬ nI m < w 3 1 := by rw [c1.1.2.1.1]; exact nI_nlt (Nat.le_refl _) (by omega)
    exact v_Si_chooseRankings_2 _ w (fun _ => ⟨w, ⟨w1, w2, rk', c1, c2⟩, rfl, rfl⟩) (fun q => absurd q hlt)
end SIDES5
