/-! the reference: layPlan -/
theorem g_fr {h w : Nat → Nat → Int32} {K L : List Nat} (f : mFq h w K L) (k1 : 195 ∉ K ∧ 196 ∉ K ∧ 197 ∉ K ∧ 198 ∉ K ∧ 199 ∉ K ∧ 200 ∉ K ∧ 201 ∉ K) (l1 : 0 ∉ L ∧ 1 ∉ L ∧ 4 ∉ L) : gN w = gN h ∧ gM w = gM h ∧ gA w = gA h ∧ gB w = gB h ∧ gK w = gK h ∧ gF w = gF h ∧ gT w = gT h ∧ (mN h → mN w) := by
  obtain ⟨a5, a6, a7, a8, a9, a0, a1⟩ := k1
  obtain ⟨b0, b1, b4⟩ := l1
  have e5 := f.1 195 (by decide) a5
  have e6 := f.1 196 (by decide) a6
  have e7 := f.1 197 (by decide) a7
  have e8 := f.1 198 (by decide) a8
  have e9 := f.1 199 (by decide) a9
  have e0 := f.1 200 (by decide) a0
  have e1 := f.1 201 (by decide) a1
  have c0 := f.2 0 b0
  have c1 := f.2 1 b1
  have c4 := f.2 4 b4
  have gn : gN w = gN h := by unfold gN; rw [c0]
  have gm : gM w = gM h := by unfold gM; rw [c1]
  have ga : gA w = gA h := by funext e; unfold gA; rw [gm, e5]
  have gb : gB w = gB h := by funext e; unfold gB; rw [gm, e6]
  have gk : gK w = gK h := by unfold gK; rw [c4]
  have gf : gF w = gF h := by funext e; unfold gF; rw [gk, e7]
  have gt : gT w = gT h := by funext e; unfold gT; rw [gk, e8]
  refine ⟨gn, gm, ga, gb, gk, gf, gt, fun a => ?_⟩
  unfold mN at a ⊢
  rw [gn, gm, ga, gb, gk, gf, gt]
  obtain ⟨x1, x2, x3, x4, x5⟩ := a
  refine ⟨x1.fr c0 c1 e5 e6, x2, ⟨by rw [c4]; exact x3.1, x3.2⟩, x4, fun l hl => ?_⟩
  obtain ⟨y1, y2, y3, y4, y5, y6, y7, y8, y9⟩ := x5 l hl
  exact ⟨y1, y2, y3, y4, by rw [e7]; exact y5, by rw [e8]; exact y6, by rw [e9]; exact y7, fun j hj => by rw [e1]; exact y8 j hj, fun j hj => by rw [e0]; exact y9 j hj⟩
/-- the plans so far -/
def mRp (w : Nat → Nat → Int32) (m : Nat) (b : Nat × Nat × (Nat → Nat)) : Prop := w 194 33 = nI b.1 ∧ (b.2.1 = 1000000 → w 194 32 = -1) ∧ (b.2.1 ≠ 1000000 → b.2.1 < 1000000 ∧ w 194 32 = nI b.2.1 ∧ ∀ e, e < m → w 214 e = nI (b.2.2 e))
def gP (h : Nat → Nat → Int32) : Nat × Nat × (Nat → Nat) := pBp (h 202) (gM h) (gA h) (gB h) (gK h) (gF h) (gT h)
def mLp (h h' : Nat → Nat → Int32) : Prop := mFq h h' [212, 213, 214] [32, 33] ∧ (∀ e, e < gM h → h' 212 e = nI (ptr (h 202) (gA h) (gB h) e)) ∧ mRp h' (gM h) (gP h)
def p_Mo_layPlan (h : Nat → Nat → Int32) : Prop := mN h ∧ mSe (h 202) (gM h)
set_option maxHeartbeats 2000000 in
theorem s_Mo_layPlan {X : Nat × (Nat → Int32)} {d : Nat} {cu sp n1 n2 n3 n4 : Nat} (h : Nat → Nat → Int32) (hp : p_Mo_layPlan h) : ewP X Mo_layPlan (d + 5) 0 [some (.ref 194), none, none, none, none, none, none] [] (0, 0) (229, ewR cu sp n1 n2 n3 n4, h) (fun v S' => ∃ (h' : Nat → Nat → Int32), mLp h h' ∧ v = none ∧ S' = (229, ewR cu sp n1 n2 n3 n4, h')) := by
  obtain ⟨hN, hS⟩ := hp
  have rd := fun (w : Nat → Nat → Int32) (f : mFq h w [212, 213, 214] [32, 33]) => g_fr f (by decide) (by decide)
  unfold mLp gP
  obtain ⟨⟨a1, h8, a3, h7, a5, hn, hk⟩, z2, ⟨a4, hk3⟩, z3, hl⟩ := id hN
  generalize hgn : gN h = n at *
  generalize hgm : gM h = m at *
  generalize hga : gA h = A at *
  generalize hgb : gB h = B at *
  generalize hgk : gK h = k at *
  generalize hgf : gF h = F at *
  generalize hgt : gT h = T at *
  generalize hc : h 202 = c at *
  have c202 : ∀ w : Nat → Nat → Int32, mFq h w [212, 213, 214] [32, 33] → w 202 = c := fun w f => by rw [f.1 202 (by decide) (by decide), hc]
  have w1 : ∀ w : Nat → Nat → Int32, mFq h w [212, 213, 214] [32, 33] → w 194 1 = nI m := fun w f => by rw [f.2 1 (by decide), a3]
  have w5 : ∀ w : Nat → Nat → Int32, mFq h w [212, 213, 214] [32, 33] → ∀ e, e < m → w 195 e = nI (A e) ∧ w 196 e = nI (B e) := fun w f e he => by rw [f.1 195 (by decide) (by decide), f.1 196 (by decide) (by decide)]; exact a5 e he
  have put : ∀ (w : Nat → Nat → Int32) (j : Nat) (f : Nat → Int32), mFq h w [212, 213, 214] [32, 33] → j = 212 ∨ j = 213 ∨ j = 214 → mFq h (ewS w j f) [212, 213, 214] [32, 33] := by
    intro w j f q hj
    refine q.tr ⟨fun k hk hK => ewS_ne _ _ (fun e => hK (by rw [e]; rcases hj with z | z | z <;> rw [z] <;> simp)), fun i _ => ?_⟩
    rw [ewS_ne _ _ (by rcases hj with z | z | z <;> rw [z] <;> decide)]
  have put2 : ∀ (w : Nat → Nat → Int32) (j : Nat) (x : Int32), mFq h w [212, 213, 214] [32, 33] → j = 32 ∨ j = 33 → mFq h (ewS w 194 (upd (w 194) j x)) [212, 213, 214] [32, 33] := by
    intro w j x q hj
    refine q.tr ⟨fun k hk _ => ewS_ne _ _ hk, fun i hi => ?_⟩
    rw [ewS_self, upd, if_neg (fun e => hi (by rw [e]; rcases hj with z | z <;> rw [z] <;> simp))]
  have Pb : ∀ e j, pP (pcN c) j e ≤ 3 ^ e := fun e j => pP_le (pcN_le c) e j
  refine v_Mo_layPlan_0 h ?_
  -- true directions, and how many there are
  refine upto (H := Nat → Nat → Int32) (P := fun e w => mFq h w [212, 213, 214] [32, 33] ∧ ∀ f, f < e → w 212 f = nI (ptr c A B f)) (E := fun e w => ewP X Mo_layPlan (d + 5) 4 [some (.ref 194), some (.int (nI (pP (pcN c) 0 e))), some (.int (nI e)), none, none, none, none] [] (0, 0) (229, ewR cu sp n1 n2 n3 n4, w) _) m ?_ ?_ 0 h (by omega) ⟨⟨fun _ _ _ => rfl, fun _ _ => rfl⟩, fun f hf => by omega⟩
  · rintro e w he ⟨f0, f1⟩ next
    have hlt : nI e < w 194 1 := by rw [w1 w f0]; exact nI_lt he (by omega)
    have ce : (nI e).toNatClampNeg = e := nI_clamp (by omega)
    obtain ⟨eA, eB⟩ := w5 w f0 e he
    obtain ⟨hA, hB⟩ := hn e he
    have s8 : ∀ x, (8 : Int32) + nI x = nI (8 + x) := fun x => nI_ad 8 x
    have s16 : (16 : Int32) + nI e = nI (16 + e) := nI_ad 16 e
    have c16 : (nI (16 + e)).toNatClampNeg = 16 + e := nI_clamp (by omega)
    have tr : f_Mo_trueOf w (nI e) = nI (ptr c A B e) := by
      have q := (ptr_n c A B e).1
      rw [← q]
      show ptd (w 202 (w 196 (nI e).toNatClampNeg).toNatClampNeg - w 202 (w 195 (nI e).toNatClampNeg).toNatClampNeg) (w 202 (8 + w 196 (nI e).toNatClampNeg).toNatClampNeg - w 202 (8 + w 195 (nI e).toNatClampNeg).toNatClampNeg) = _
      rw [ce, eA, eB, s8, s8, nI_clamp (show A e < 2 ^ 31 by omega), nI_clamp (show B e < 2 ^ 31 by omega), nI_clamp (show 8 + A e < 2 ^ 31 by omega), nI_clamp (show 8 + B e < 2 ^ 31 by omega), c202 w f0]
    refine v_Mo_layPlan_4 _ _ w (fun q => absurd hlt q) (fun _ => ⟨nI_inB (by omega) (by decide), ?_, ?_, ?_, ?_⟩) (fun _ => nI_inB (by omega) (by decide)) (fun _ => by rw [s16]; exact nI_inB (by omega) (by decide)) (fun _ => ?_)
    · rw [ce, eB]; exact nI_inB (by omega) (by decide)
    · rw [ce, eA]; exact nI_inB (by omega) (by decide)
    · rw [ce, eB, s8]; exact nI_inB (by omega) (by decide)
    · rw [ce, eA, s8]; exact nI_inB (by omega) (by decide)
    · have pr : nI (pP (pcN c) 0 e) * (if w 202 (16 + nI e).toNatClampNeg < 0 then (3 : Int32) else 1) = nI (pP (pcN c) 0 (e + 1)) := by
        rw [s16, c16, c202 w f0, pP_last, ← nI_mu]
        congr 1
        rw [Nat.zero_add]
        unfold pcN
        split <;> rfl
      rw [pr, ← nI_succ, tr, ce]
      refine next _ ⟨put w 212 _ f0 (Or.inl rfl), fun f hf => ?_⟩
      rw [ewS_self, upd]
      by_cases q : f = e
      · rw [if_pos q, q]
      · rw [if_neg q]; exact f1 f (by omega)
  · rintro w ⟨f0, f1⟩
    have hlt : ¬ nI m < w 194 1 := by rw [w1 w f0]; exact nI_nlt (Nat.le_refl _) (by omega)
    refine v_Mo_layPlan_4 _ _ w (fun _ => ?_) (fun q => absurd q hlt) (fun q => absurd q hlt) (fun q => absurd q hlt) (fun q => absurd q hlt)
    have Pm : pP (pcN c) 0 m ≤ 2187 := Nat.le_trans (Pb m 0) (p3_le h7)
    rw [ewS_S]
    have f3 : mFq h (ewS w 194 (upd (upd (w 194) 32 (-1)) 33 0)) [212, 213, 214] [32, 33] := by
      have q := put2 _ 33 0 (put2 w 32 (-1) f0 (Or.inl rfl)) (Or.inr rfl)
      rw [ewS_S, ewS_self] at q
      exact q
    unfold pBp
    rw [fdS_dig (pcN_pos c)]
    -- one plan after the other
    refine upto (H := Nat → Nat → Int32) (P := fun i w => mFq h w [212, 213, 214] [32, 33] ∧ (∀ f, f < m → w 212 f = nI (ptr c A B f)) ∧ mRp w m ((List.range i).foldl (fun b u => pst c m A B k F T b (dig (pcN c) (pdi c A B) 0 m (fun _ => 0) u)) (0, 1000000, fun _ => 0))) (E := fun i w => ewP X Mo_layPlan (d + 5) 61 [some (.ref 194), some (.int (nI (pP (pcN c) 0 m))), some (.int (nI i)), none, none, none, none] [] (0, 0) (229, ewR cu sp n1 n2 n3 n4, w) _) (pP (pcN c) 0 m) ?_ ?_ 0 _ (by omega) ⟨f3, fun f hf => by rw [ewS_ne _ _ (by decide)]; exact f1 f hf, rfl, fun _ => rfl, fun q => absurd rfl q⟩
    · rintro i w hi ⟨f0, f1, f2⟩ next
      have hlt : nI i < nI (pP (pcN c) 0 m) := nI_lt hi (by omega)
      refine v_Mo_layPlan_61 _ _ w (fun q => absurd hlt q) (fun _ => ?_)
      rw [w1 w f0]
      -- down the stretches
      have down : ∀ j (w : Nat → Nat → Int32), j ≤ m → mFq h w [212, 213, 214] [32, 33] → (∀ f, f < m → w 212 f = nI (ptr c A B f)) → mRp w m ((List.range i).foldl (fun b u => pst c m A B k F T b (dig (pcN c) (pdi c A B) 0 m (fun _ => 0) u)) (0, 1000000, fun _ => 0)) → (∀ e, j ≤ e → e < m → w 213 e = nI (dig (pcN c) (pdi c A B) j (m - j) (fun _ => 0) (i % pP (pcN c) j (m - j)) e)) → ewP X Mo_layPlan (d + 5) 76 [some (.ref 194), some (.int (nI (pP (pcN c) 0 m))), some (.int (nI i)), some (.int (nI (i / pP (pcN c) j (m - j)))), some (.int (nI j - 1)), none, none] [] (0, 0) (229, ewR cu sp n1 n2 n3 n4, w) (fun v S' => ∃ (h' : Nat → Nat → Int32), (mFq h h' [212, 213, 214] [32, 33] ∧ (∀ e, e < m → h' 212 e = nI (ptr c A B e)) ∧ mRp h' m ((List.range (pP (pcN c) 0 m)).foldl (fun b w => pst c m A B k F T b (dig (pcN c) (pdi c A B) 0 m (fun _ => 0) w)) (0, 1000000, fun _ => 0))) ∧ v = none ∧ S' = (229, ewR cu sp n1 n2 n3 n4, h')) := by
        intro j
        induction j with
        | zero =>
          intro w _ f0 f1 f2 f3
          have hneg : nI 0 - 1 < 0 := by decide
          obtain ⟨r1, r2, r3, r4, r5, r6, r7, r8⟩ := rd w f0
          have hmod : i % pP (pcN c) 0 m = i := Nat.mod_eq_of_lt hi
          generalize hv : dig (pcN c) (pdi c A B) 0 m (fun _ => 0) i = v at *
          have f3' : ∀ e, e < m → w 213 e = nI (v e) := fun e he => by have := f3 e (by omega) he; rw [Nat.sub_zero, hmod, hv] at this; exact this
          have vz : ∀ e, m ≤ e → v e = 0 := fun e he => by rw [← hv, dig_lo m 0 _ _ e (by omega)]
          have v8 : ∀ e, v e < 8 := by
            intro e
            by_cases q : e < m
            · rw [← hv]
              have : ∀ k2 e0 u w0, (∀ e, u e < 8) → e0 + k2 ≤ m → ∀ e, dig (pcN c) (pdi c A B) e0 k2 u w0 e < 8 := by
                intro k2
                induction k2 with
                | zero => intro e0 u w0 hu _ e; exact hu e
                | succ k2 ih =>
                  intro e0 u w0 hu hle e
                  refine ih (e0 + 1) _ _ (fun e => ?_) (by omega) e
                  by_cases z : e = e0
                  · rw [z, pup_self]; exact pdi_lt hS A B (by omega) _
                  · rw [pup_ne _ _ z]; exact hu e
              exact this m 0 _ _ (fun _ => by show 0 < 8; omega) (by omega) e
            · rw [vz e (by omega)]; omega
          have gv : gV w 213 = v := mDr.g (m := m) ⟨⟨rfl, rfl⟩, fun e he => ⟨f3' e he, v8 e⟩⟩ r2 vz
          have gt2 : gV w 212 = ptn c A B m := mDr.g (m := m) (v := ptn c A B m) ⟨⟨rfl, rfl⟩, fun e he => by unfold ptn; rw [if_pos he]; exact ⟨f1 e he, (ptr_n c A B e).2⟩⟩ r2 (fun e he => if_neg (by omega))
          have mNw := r8 hN
          have d213 : mDr w 213 (gM w) (gV w 213) := by rw [gv, r2]; exact ⟨⟨rfl, rfl⟩, fun e he => ⟨f3' e he, v8 e⟩⟩
          have d212 : mDr w 212 (gM w) (gV w 212) := by rw [gt2, r2]; exact ⟨⟨rfl, rfl⟩, fun e he => by unfold ptn; rw [if_pos he]; exact ⟨f1 e he, (ptr_n c A B e).2⟩⟩
          have hun : f_Mo_areUnlike w = bI (pu2 A B v m) := by unfold f_Mo_areUnlike; rw [r2, r3, r4, gv]
          -- the heap with the count
          generalize hG : ewS w 194 (upd (w 194) 33 (w 194 33 + 1)) = G
          have fG : mFq h G [212, 213, 214] [32, 33] := by rw [← hG]; exact put2 w 33 _ f0 (Or.inr rfl)
          have gG : ∀ k, k ≠ 194 → G k = w k := fun k hk => by rw [← hG]; exact ewS_ne _ _ hk
          obtain ⟨q1, q2, q3, q4, q5, q6, q7, q8⟩ := rd G fG
          have gvG : gV G 213 = v := mDr.g (m := m) ⟨⟨rfl, rfl⟩, fun e he => ⟨by rw [gG 213 (by decide)]; exact f3' e he, v8 e⟩⟩ q2 vz
          have gtG : gV G 212 = ptn c A B m := mDr.g (m := m) (v := ptn c A B m) ⟨⟨rfl, rfl⟩, fun e he => by unfold ptn; rw [if_pos he, gG 212 (by decide)]; exact ⟨f1 e he, (ptr_n c A B e).2⟩⟩ q2 (fun e he => if_neg (by omega))
          have cG : G 202 = c := c202 G fG
          have tri : p_Mo_takeTried G := by
            refine ⟨⟨q8 hN, ?_, ?_⟩, ?_, ?_⟩
            · rw [gvG, q2]; exact ⟨⟨rfl, rfl⟩, fun e he => ⟨by rw [gG 213 (by decide)]; exact f3' e he, v8 e⟩⟩
            · unfold gW; rw [cG]; exact hS.1
            · rw [gtG, q2]; exact ⟨⟨rfl, rfl⟩, fun e he => by unfold ptn; rw [if_pos he, gG 212 (by decide)]; exact ⟨f1 e he, (ptr_n c A B e).2⟩⟩
            · unfold gO; rw [cG]; exact hS.2.1
          generalize hC : pco (c 24).toNatClampNeg (c 23).toNatClampNeg A B m v (ptn c A B m) k F T = C
          have hcost : f_Mo_costOf G 213 = nI C := by
            unfold f_Mo_costOf gO gW
            rw [q2, q3, q4, q5, q6, q7, gvG, gtG, cG, hC]
          have hC6 : C < 1000000 := by
            rw [← hC]
            exact pco_lt hS.2.1.2 hS.1.2 h8 h7 hk3 v8 (fun e => by unfold ptn; split; exact (ptr_n c A B e).2; omega) hk hn (fun l hl2 => ⟨(hl l hl2).1, (hl l hl2).2.1, (hl l hl2).2.2.2.1⟩)
          -- what the next one makes of it
          have nxt : (List.range (i + 1)).foldl (fun b u => pst c m A B k F T b (dig (pcN c) (pdi c A B) 0 m (fun _ => 0) u)) (0, 1000000, fun _ => 0) = pst c m A B k F T ((List.range i).foldl (fun b u => pst c m A B k F T b (dig (pcN c) (pdi c A B) 0 m (fun _ => 0) u)) (0, 1000000, fun _ => 0)) v := by rw [foldr_s, hv]
          rw [nxt] at next
          generalize (List.range i).foldl (fun b u => pst c m A B k F T b (dig (pcN c) (pdi c A B) 0 m (fun _ => 0) u)) (0, 1000000, fun _ => 0) = b at *
          unfold pst at next
          rw [hC] at next
          refine v_Mo_layPlan_76 _ _ _ _ w (fun _ => ⟨mNw.1, d213⟩) (fun _ hz => ?_) (fun _ _ => by rw [hG]; exact tri) (fun _ hz w6 hw6 => ?_) (fun q => absurd hneg q) (fun q => absurd hneg q) (fun q => absurd hneg q) (fun q => absurd hneg q)
          · rw [hun] at hz
            have hb : ¬ pu2 A B v m = true := fun q => by rw [q] at hz; exact absurd hz (by decide)
            rw [← nI_succ]
            refine next w ⟨f0, f1, ?_⟩
            rw [if_neg hb]; exact f2
          · rw [hun] at hz
            have hb : pu2 A B v m = true := by
              by_cases q : pu2 A B v m = true
              · exact q
              · rw [Bool.eq_false_iff.mpr q] at hz; exact absurd rfl hz
            rw [hG] at hw6
            obtain ⟨t1, t2⟩ := hw6
            rw [hcost] at t1 t2
            obtain ⟨m1, m2, m3⟩ := f2
            have G33 : G 194 33 = nI (b.1 + 1) := by rw [← hG, ewS_self, upd, if_pos rfl, m1, ← nI_succ]
            have G32 : G 194 32 = w 194 32 := by rw [← hG, ewS_self, upd, if_neg (by decide)]
            have cond : (G 194 32 < 0 ∨ nI C < G 194 32) ↔ C < b.2.1 := by
              rw [G32]
              by_cases q : b.2.1 = 1000000
              · rw [m2 q, q]; exact ⟨fun _ => hC6, fun _ => Or.inl (by decide)⟩
              · obtain ⟨o1, o2, o3⟩ := m3 q
                rw [o2]
                exact ⟨fun z => (nI_ltb (by omega) (by omega)).mp (z.resolve_left (nI_pos (by omega))), fun z => Or.inr ((nI_ltb (by omega) (by omega)).mpr z)⟩
            rw [← nI_succ]
            by_cases q : C < b.2.1
            · obtain ⟨u1, u2, u3⟩ := t2 (cond.mpr q)
              refine next w6 ⟨?_, fun f hf => ?_, ?_⟩
              · refine fG.tr ⟨fun k hk hK => u1 k hk (fun z => hK (by rw [z]; simp)), fun j hj => ?_⟩
                rw [u2, upd, if_neg (fun z => hj (by rw [z]; simp))]
              · rw [u1 212 (by decide) (by decide), gG 212 (by decide)]; exact f1 f hf
              · rw [if_pos hb, if_pos q]
                refine ⟨by rw [u2, upd, if_neg (by decide)]; exact G33, fun z => absurd z (by show ¬ C = 1000000; omega), fun _ => ⟨hC6, by rw [u2, upd, if_pos rfl], fun e he => ?_⟩⟩
                rw [u3 e (by rw [q2]; exact he), gG 213 (by decide)]
                exact f3' e he
            · have e6 := t1 (fun z => q (cond.mp z))
              rw [e6]
              refine next G ⟨fG, fun f hf => by rw [gG 212 (by decide)]; exact f1 f hf, ?_⟩
              rw [if_pos hb, if_neg q]
              refine ⟨G33, fun z => by rw [G32]; exact m2 z, fun z => ?_⟩
              obtain ⟨o1, o2, o3⟩ := m3 z
              exact ⟨o1, by rw [G32]; exact o2, fun e he => by rw [gG 214 (by decide)]; exact o3 e he⟩
        | succ j ih =>
          intro w hj f0 f1 f2 f3
          rw [nI_pred]
          have hneg : ¬ nI j < 0 := nI_pos (by omega)
          have cj : (nI j).toNatClampNeg = j := nI_clamp (by omega)
          have s16 : (16 : Int32) + nI j = nI (16 + j) := nI_ad 16 j
          have c16 : (nI (16 + j)).toNatClampNeg = 16 + j := nI_clamp (by omega)
          have hmj : m - j = (m - (j + 1)) + 1 := by omega
          have hP0 : 0 < pP (pcN c) (j + 1) (m - (j + 1)) := pP_pos (pcN_pos c) _ _
          generalize hq : i / pP (pcN c) (j + 1) (m - (j + 1)) = q at *
          have hqi : q ≤ i := by rw [← hq]; exact Nat.div_le_self _ _
          have hq3 : q < 2 ^ 31 := by omega
          have m1 : nI j + (-1) = nI j - 1 := by rw [Int32.sub_eq_add_neg]
          refine v_Mo_layPlan_76 _ _ _ _ w (fun z => absurd z hneg) (fun z => absurd z hneg) (fun z => absurd z hneg) (fun z => absurd z hneg) (fun _ => by rw [s16]; exact nI_inB (by omega) (by decide)) (fun _ _ => nI_inB (by omega) (by decide)) (fun _ => nI_inB (by omega) (by decide)) (fun _ => ?_)
          rw [s16, c16, cj, c202 w f0, m1]
          -- the next quotient
          have lf : (if c (16 + j) < 0 then nI q / 3 else nI q) = nI (i / pP (pcN c) j (m - j)) := by
            rw [hmj]
            show _ = nI (i / (pcN c j * pP (pcN c) (j + 1) (m - (j + 1))))
            rw [Nat.mul_comm, ← Nat.div_div_eq_div_mul, hq]
            unfold pcN
            split
            · exact nI_div hq3 (b := 3) (by omega)
            · rw [Nat.div_one]
          have dv : (if c (16 + j) < 0 then (((w 212 j) + (if (if c (16 + j) < 0 then (nI q - nI q / 3 * 3) else 0) = 2 then 7 else (if c (16 + j) < 0 then (nI q - nI q / 3 * 3) else 0))) - ((w 212 j) + (if (if c (16 + j) < 0 then (nI q - nI q / 3 * 3) else 0) = 2 then 7 else (if c (16 + j) < 0 then (nI q - nI q / 3 * 3) else 0))) / 8 * 8) else c (16 + j)) = nI (pdi c A B j (q % pcN c j)) := by
            unfold pdi pcN
            by_cases z : c (16 + j) < 0
            · simp only [if_pos z]
              have e3 : nI q - nI q / 3 * 3 = nI (q % 3) := nI_mod hq3 (b := 3) (by omega)
              rw [e3, f1 j (by omega)]
              exact pdi_n (ptr_n c A B j).2 (Nat.mod_lt _ (by omega))
            · simp only [if_neg z]
              rcases hS.2.2 j (by omega) with y | ⟨x, hx, y⟩
              · rw [y] at z; exact absurd (by decide) z
              · rw [y, nI_clamp (by omega)]
          rw [lf, dv]
          refine ih _ (by omega) (put w 213 _ f0 (Or.inr (Or.inl rfl))) (fun f hf => by rw [ewS_ne _ _ (by decide)]; exact f1 f hf) ?_ (fun e he1 he2 => ?_)
          · obtain ⟨o1, o2, o3⟩ := f2
            refine ⟨by rw [ewS_ne _ _ (by decide)]; exact o1, fun z => by rw [ewS_ne _ _ (by decide)]; exact o2 z, fun z => ?_⟩
            rw [ewS_ne _ _ (by decide), ewS_ne _ _ (by decide)]
            exact o3 z
          · rw [ewS_self, upd]
            by_cases z : e = j
            · rw [if_pos z, z, hmj, dig_at, hq]
            · rw [if_neg z, f3 e (by omega) he2, hmj, dig_up _ _ _ _ _ (by omega) (by omega)]
      have start := down m w (Nat.le_refl _) f0 f1 f2 (fun e h1 h2 => by omega)
      rw [Nat.sub_self] at start
      have e1 : i / pP (pcN c) m 0 = i := Nat.div_one i
      rw [e1] at start
      exact start
    · rintro w ⟨f0, f1, f2⟩
      have hlt : ¬ nI (pP (pcN c) 0 m) < nI (pP (pcN c) 0 m) := nI_nlt (Nat.le_refl _) (by omega)
      exact v_Mo_layPlan_61 _ _ w (fun _ => ⟨w, ⟨f0, f1, f2⟩, rfl, rfl⟩) (fun q => absurd q hlt)
