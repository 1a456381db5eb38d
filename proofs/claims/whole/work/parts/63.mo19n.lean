/-! the reference: layLengths -/
/-- the lengths so far -/
def mRl (w : Nat → Nat → Int32) (m : Nat) (b : Nat × (Nat → Nat)) : Prop := (b.1 = 1000000 → w 194 39 = -1) ∧ (b.1 ≠ 1000000 → b.1 < 1000000 ∧ w 194 39 = nI b.1 ∧ ∀ e, e < m → w 218 e = nI (b.2 e))
def gL (h : Nat → Nat → Int32) : Nat × (Nat → Nat) := pBl (gN h) (gM h) (gA h) (gB h) (gV h 214)
def mLg (h h' : Nat → Nat → Int32) : Prop := mFq h h' [215, 216, 217, 218, 219, 220] [39] ∧ (∀ s, s < gN h → h' 215 s = nI (gR h s)) ∧ (h 194 32 < 0 → h' 194 39 = -1) ∧ (¬ h 194 32 < 0 → mRl h' (gM h) (gL h) ∧ ((gL h).1 ≠ 1000000 → ∀ s, s < gN h → h' 216 s = ppx (gA h) (gB h) (pdx (gV h 214) (gL h).2) (gM h) s - ppx (gA h) (gB h) (pdx (gV h 214) (gL h).2) (gM h) (gR h s) ∧ h' 217 s = ppx (gA h) (gB h) (pdy (gV h 214) (gL h).2) (gM h) s - ppx (gA h) (gB h) (pdy (gV h 214) (gL h).2) (gM h) (gR h s)))
def p_Mo_layLengths (h : Nat → Nat → Int32) : Prop := mN h ∧ (¬ h 194 32 < 0 → mDr h 214 (gM h) (gV h 214))
set_option maxHeartbeats 2000000 in
theorem s_Mo_layLengths {X : Nat × (Nat → Int32)} {d : Nat} {cu sp n1 n2 n3 n4 : Nat} (h : Nat → Nat → Int32) (hp : p_Mo_layLengths h) : ewP X Mo_layLengths (d + 3) 0 [some (.ref 194), none, none, none, none, none] [] (0, 0) (229, ewR cu sp n1 n2 n3 n4, h) (fun v S' => ∃ (h' : Nat → Nat → Int32), mLg h h' ∧ v = none ∧ S' = (229, ewR cu sp n1 n2 n3 n4, h')) := by
  obtain ⟨hN, hD⟩ := hp
  have rd := fun (w : Nat → Nat → Int32) (f : mFq h w [215, 216, 217, 218, 219, 220] [39]) => g_fr f (by decide) (by decide)
  unfold mLg gL gR
  obtain ⟨⟨a1, h8, a3, h7, a5, hn, hk⟩, z2, ⟨a4, hk3⟩, z3, hl⟩ := id hN
  refine v_Mo_layLengths_0 h hN.1 (fun w hw => ?_)
  obtain ⟨hw1, hw2⟩ := hw
  unfold gR at hw2
  generalize hgn : gN h = n at *
  generalize hgm : gM h = m at *
  generalize hga : gA h = A at *
  generalize hgb : gB h = B at *
  generalize hdv : gV h 214 = dv at *
  have m7 : 3 ^ m ≤ 2187 := p3_le h7
  -- what stays so all along
  have fG : mFq h (ewS w 194 (upd (w 194) 39 (-1))) [215, 216, 217, 218, 219, 220] [39] := by
    refine (hw1.wk (by simp) (by simp)).tr ⟨fun k hk _ => ewS_ne _ _ hk, fun j hj => ?_⟩
    simp at hj
    rw [ewS_self, upd, if_neg hj]
  have rG : ∀ s, s < n → (ewS w 194 (upd (w 194) 39 (-1))) 215 s = nI (prt (plb A B m) s) := fun s hs => by rw [ewS_ne _ _ (by decide)]; exact hw2 s hs
  have g39 : (ewS w 194 (upd (w 194) 39 (-1))) 194 39 = -1 := by rw [ewS_self, upd, if_pos rfl]
  generalize (ewS w 194 (upd (w 194) 39 (-1))) = G at *
  have w1 : ∀ w : Nat → Nat → Int32, mFq h w [215, 216, 217, 218, 219, 220] [39] → w 194 1 = nI m := fun w f => by rw [f.2 1 (by decide), a3]
  have w0 : ∀ w : Nat → Nat → Int32, mFq h w [215, 216, 217, 218, 219, 220] [39] → w 194 0 = nI n := fun w f => by rw [f.2 0 (by decide), a1]
  have w32 : ∀ w : Nat → Nat → Int32, mFq h w [215, 216, 217, 218, 219, 220] [39] → w 194 32 = h 194 32 := fun w f => f.2 32 (by decide)
  -- places may be laid
  have may : ∀ (w : Nat → Nat → Int32) (q : Nat), mFq h w [215, 216, 217, 218, 219, 220] [39] → (∀ s, s < n → w 215 s = nI (prt (plb A B m) s)) → q = 218 ∨ q = 219 → p_Mo_layPlaces w q := by
    intro w q f r hq
    obtain ⟨r1, r2, r3, r4, r5, r6, r7, r8⟩ := rd w f
    refine ⟨(r8 hN).1, fun s hs => ?_, ?_⟩
    · unfold gR; rw [r2, r3, r4]; exact r s (by rw [r1] at hs; exact hs)
    · rcases hq with e | e <;> subst e <;> exact ⟨rfl, rfl, by decide, by decide, by decide, by decide⟩
  -- what places are laid
  have laid : ∀ (w w' : Nat → Nat → Int32) (q : Nat) (v : Nat → Nat), ¬ h 194 32 < 0 → mFq h w [215, 216, 217, 218, 219, 220] [39] → (∀ e, e < m → w q e = nI (v e)) → mLs w q w' → mFq h w' [215, 216, 217, 218, 219, 220] [39] ∧ (∀ k, k ≠ 194 → k ≠ 216 → k ≠ 217 → k ≠ 220 → w' k = w k) ∧ w' 194 39 = w 194 39 ∧ ∀ s, s < n → w' 216 s = ppx A B (pdx dv v) m s - ppx A B (pdx dv v) m (prt (plb A B m) s) ∧ w' 217 s = ppx A B (pdy dv v) m s - ppx A B (pdy dv v) m (prt (plb A B m) s) := by
    intro w w' q v hc f hv hm
    obtain ⟨r1, r2, r3, r4, r5, r6, r7, r8⟩ := rd w f
    obtain ⟨m1, m2⟩ := hm
    unfold gR at m2
    rw [r1, r2, r3, r4] at m2
    have d214 := hD hc
    have cx : ∀ e, e < m → gX w q e = pdx dv v e := fun e he => by unfold gX pdx; rw [hv e he, f.1 214 (by decide) (by decide), (d214.2 e he).1]
    have cy : ∀ e, e < m → gY w q e = pdy dv v e := fun e he => by unfold gY pdy; rw [hv e he, f.1 214 (by decide) (by decide), (d214.2 e he).1]
    refine ⟨f.tr (m1.wk (by simp) (by simp)), fun k k0 k1 k2 k3 => m1.1 k k0 (by simp; exact ⟨k1, k2, k3⟩), m1.2 39 (by decide), fun s hs => ?_⟩
    have := m2 s hs
    rw [ppx_congr m cx, ppx_congr m cx, ppx_congr m cy, ppx_congr m cy] at this
    exact this
  -- how many ways there are
  refine upto (H := Unit) (P := fun _ _ => True) (E := fun e _ => ewP X Mo_layLengths (d + 3) 13 [some (.ref 194), some (.int (nI (3 ^ e))), some (.int (nI e)), none, none, none] [] (0, 0) (229, ewR cu sp n1 n2 n3 n4, G) _) m ?_ ?_ 0 () (by omega) trivial
  · intro e _ he _ next
    have next := next () trivial
    have hlt : nI e < G 194 1 := by rw [w1 G fG]; exact nI_lt he (by omega)
    refine v_Mo_layLengths_13 _ _ G (fun q => absurd hlt q) (fun _ => ?_)
    have e3 : nI (3 ^ e) * 3 = nI (3 ^ (e + 1)) := by rw [Nat.pow_succ]; exact nI_mu _ 3
    rw [e3, ← nI_succ]
    exact next
  · intro _ _
    have hlt : ¬ nI m < G 194 1 := by rw [w1 G fG]; exact nI_nlt (Nat.le_refl _) (by omega)
    refine v_Mo_layLengths_13 _ _ G (fun _ => ?_) (fun q => absurd q hlt)
    by_cases hc : h 194 32 < 0
    · -- no plan
      have hpos : (0 : Int32) < nI (3 ^ m) := (nI_pos2 (by omega)).mpr (by have := Nat.pow_pos (n := m) (show 0 < 3 by omega); omega)
      refine v_Mo_layLengths_33 _ _ G (fun q => absurd hpos q) (fun q => absurd hpos q) (fun q => absurd hpos q) (fun _ _ _ => ?_) (fun _ _ q => ?_) (fun _ _ q => ?_) (fun _ q => ?_)
      · exact ⟨G, ⟨fG, rG, fun _ => g39, fun q => absurd hc q⟩, rfl, rfl⟩
      · rw [g39] at q; exact absurd (by decide) q
      · rw [g39] at q; exact absurd (by decide) q
      · rw [w32 G fG] at q; exact absurd hc q
    · unfold pBl
      rw [fdS_dig (fun _ => by omega), pP_3]
      -- one after the other
      refine upto (H := Nat → Nat → Int32) (P := fun i w => mFq h w [215, 216, 217, 218, 219, 220] [39] ∧ (∀ s, s < n → w 215 s = nI (prt (plb A B m) s)) ∧ mRl w m ((List.range i).foldl (fun b u => pls n m A B dv b (dig (fun _ => 3) (fun _ i => 1 + i) 0 m (fun _ => 0) u)) (1000000, fun _ => 0))) (E := fun i w => ewP X Mo_layLengths (d + 3) 33 [some (.ref 194), some (.int (nI (3 ^ m))), some (.int (nI i)), none, none, none] [] (0, 0) (229, ewR cu sp n1 n2 n3 n4, w) _) (3 ^ m) ?_ ?_ 0 _ (Nat.zero_le _) ⟨fG, rG, fun _ => g39, fun q => absurd rfl q⟩
      · rintro i w hi ⟨f0, f1, f2⟩ next
        have hlt : nI i < nI (3 ^ m) := nI_lt hi (by omega)
        refine v_Mo_layLengths_33 _ _ w (fun q => absurd hlt q) (fun q => absurd hlt q) (fun q => absurd hlt q) (fun _ q => absurd (by rw [w32 w f0] at q; exact q) hc) (fun _ q => absurd (by rw [w32 w f0] at q; exact q) hc) (fun _ q => absurd (by rw [w32 w f0] at q; exact q) hc) (fun _ _ => ?_)
        rw [w1 w f0]
        have hi2 : i < pP (fun _ => 3) 0 m := by rw [pP_3]; exact hi
        have nxt : (List.range (i + 1)).foldl (fun b u => pls n m A B dv b (dig (fun _ => 3) (fun _ i => 1 + i) 0 m (fun _ => 0) u)) (1000000, fun _ => 0) = pls n m A B dv ((List.range i).foldl (fun b u => pls n m A B dv b (dig (fun _ => 3) (fun _ i => 1 + i) 0 m (fun _ => 0) u)) (1000000, fun _ => 0)) (dig (fun _ => 3) (fun _ i => 1 + i) 0 m (fun _ => 0) i) := foldr_s _ _ _
        rw [nxt] at next
        generalize (List.range i).foldl (fun b u => pls n m A B dv b (dig (fun _ => 3) (fun _ i => 1 + i) 0 m (fun _ => 0) u)) (1000000, fun _ => 0) = b at *
        have dval := fun e (he : e < m) => dig_val (c := fun _ => 3) (g := fun _ i => 1 + i) (v0 := fun _ => 0) he hi2
        generalize dig (fun _ => 3) (fun _ i => 1 + i) 0 m (fun _ => 0) i = v at *
        have v3 : ∀ e, e < m → v e ≤ 3 := fun e he => by rw [dval e he]; have := Nat.mod_lt (i / pP (fun _ => 3) (e + 1) (m - (e + 1))) (show 0 < 3 by omega); show 1 + _ ≤ 3; omega
        have sv : ∀ j, j ≤ m → sm v j ≤ 3 * j := by
          intro j
          induction j with
          | zero => intro _; exact Nat.le_refl _
          | succ j ih => intro hj; show sm v j + v j ≤ _; have := ih (by omega); have := v3 j (by omega); omega
        have svm := sv m (Nat.le_refl _)
        have down : ∀ j (w : Nat → Nat → Int32), j ≤ m → mFq h w [215, 216, 217, 218, 219, 220] [39] → (∀ s, s < n → w 215 s = nI (prt (plb A B m) s)) → mRl w m b → (∀ e, j ≤ e → e < m → w 219 e = nI (v e)) → ewP X Mo_layLengths (d + 3) 58 [some (.ref 194), some (.int (nI (3 ^ m))), some (.int (nI i)), some (.int (nI (i / pP (fun _ => 3) j (m - j)))), some (.int (nI (sm v m - sm v j))), some (.int (nI j - 1))] [] (0, 0) (229, ewR cu sp n1 n2 n3 n4, w) (fun v S' => ∃ (h' : Nat → Nat → Int32), (mFq h h' [215, 216, 217, 218, 219, 220] [39] ∧ (∀ s, s < n → h' 215 s = nI (prt (plb A B m) s)) ∧ (h 194 32 < 0 → h' 194 39 = -1) ∧ (¬ h 194 32 < 0 → mRl h' m ((List.range (3 ^ m)).foldl (fun b u => pls n m A B dv b (dig (fun _ => 3) (fun _ i => 1 + i) 0 m (fun _ => 0) u)) (1000000, fun _ => 0)) ∧ (((List.range (3 ^ m)).foldl (fun b u => pls n m A B dv b (dig (fun _ => 3) (fun _ i => 1 + i) 0 m (fun _ => 0) u)) (1000000, fun _ => 0)).1 ≠ 1000000 → ∀ s, s < n → h' 216 s = ppx A B (pdx dv ((List.range (3 ^ m)).foldl (fun b u => pls n m A B dv b (dig (fun _ => 3) (fun _ i => 1 + i) 0 m (fun _ => 0) u)) (1000000, fun _ => 0)).2) m s - ppx A B (pdx dv ((List.range (3 ^ m)).foldl (fun b u => pls n m A B dv b (dig (fun _ => 3) (fun _ i => 1 + i) 0 m (fun _ => 0) u)) (1000000, fun _ => 0)).2) m (prt (plb A B m) s) ∧ h' 217 s = ppx A B (pdy dv ((List.range (3 ^ m)).foldl (fun b u => pls n m A B dv b (dig (fun _ => 3) (fun _ i => 1 + i) 0 m (fun _ => 0) u)) (1000000, fun _ => 0)).2) m s - ppx A B (pdy dv ((List.range (3 ^ m)).foldl (fun b u => pls n m A B dv b (dig (fun _ => 3) (fun _ i => 1 + i) 0 m (fun _ => 0) u)) (1000000, fun _ => 0)).2) m (prt (plb A B m) s)))) ∧ v = none ∧ S' = (229, ewR cu sp n1 n2 n3 n4, h')) := by
          intro j
          induction j with
          | zero =>
            intro w _ f0 f1 f2 f3
            have hneg : nI 0 - 1 < 0 := by decide
            have s0 : sm v m - sm v 0 = sm v m := Nat.sub_zero _
            rw [s0]
            have cond : (w 194 39 < 0 ∨ nI (sm v m) < w 194 39) ↔ sm v m < b.1 := by
              by_cases q : b.1 = 1000000
              · rw [f2.1 q, q]; exact ⟨fun _ => by omega, fun _ => Or.inl (by decide)⟩
              · obtain ⟨o1, o2, o3⟩ := f2.2 q
                rw [o2]
                exact ⟨fun z => (nI_ltb (by omega) (by omega)).mp (z.resolve_left (nI_pos (by omega))), fun z => Or.inr ((nI_ltb (by omega) (by omega)).mpr z)⟩
            -- tried
            have go : sm v m < b.1 → ∀ w6, mLs w 219 w6 → p_Mo_takeLengths w6 (nI (sm v m)) ∧ ∀ w9, mTk w6 (nI (sm v m)) w9 → mFq h w9 [215, 216, 217, 218, 219, 220] [39] ∧ (∀ s, s < n → w9 215 s = nI (prt (plb A B m) s)) ∧ mRl w9 m (pls n m A B dv b v) := by
              intro hb w6 hw6
              obtain ⟨l1, l2, l3, l4⟩ := laid w w6 219 v hc f0 (fun e he => f3 e (by omega) he) hw6
              obtain ⟨r1, r2, r3, r4, r5, r6, r7, r8⟩ := rd w6 l1
              have r215 : ∀ s, s < n → w6 215 s = nI (prt (plb A B m) s) := fun s hs => by rw [l2 215 (by decide) (by decide) (by decide) (by decide)]; exact f1 s hs
              have hap : f_Mo_areApart w6 = bI (pfB A B n m (pdx dv v) (pdy dv v)) := by
                unfold f_Mo_areApart
                rw [pAp_n h8 r1 r215 l4]
              refine ⟨⟨⟨by rw [r1]; exact w0 w6 l1, by rw [r1]; exact h8⟩, by rw [r2]; exact w1 w6 l1, by rw [r2]; exact h7⟩, fun w9 hw9 => ?_⟩
              obtain ⟨t1, t2⟩ := hw9
              rw [hap] at t1 t2
              by_cases q : pfB A B n m (pdx dv v) (pdy dv v) = true
              · obtain ⟨u1, u2, u3⟩ := t2 ((bI_ne _).mpr q)
                refine ⟨l1.tr ⟨fun k hk hK => u1 k hk (fun z => hK (by rw [z]; simp)), fun j hj => ?_⟩, fun s hs => by rw [u1 215 (by decide) (by decide)]; exact r215 s hs, ?_⟩
                · simp at hj; rw [u2, upd, if_neg hj]
                · unfold pls
                  rw [if_pos ⟨q, hb⟩]
                  refine ⟨fun z => absurd z (by show ¬ sm v m = 1000000; omega), fun _ => ⟨by show sm v m < 1000000; omega, by rw [u2, upd, if_pos rfl], fun e he => ?_⟩⟩
                  rw [u3 e (by rw [r2]; exact he), l2 219 (by decide) (by decide) (by decide) (by decide)]
                  exact f3 e (by omega) he
              · have e9 := t1 ((bI_eq _).mpr (Bool.eq_false_iff.mpr q))
                rw [e9]
                refine ⟨l1, r215, ?_⟩
                unfold pls
                rw [if_neg (fun z => q z.1)]
                refine ⟨fun z => by rw [l3]; exact f2.1 z, fun z => ?_⟩
                rw [l3, l2 218 (by decide) (by decide) (by decide) (by decide)]
                exact f2.2 z
            refine v_Mo_layLengths_58 _ _ _ _ _ w (fun _ _ => may w 219 f0 f1 (Or.inr rfl)) (fun _ q w6 hw6 => ?_) (fun _ q1 q2 => ?_) (fun _ _ _ => may w 219 f0 f1 (Or.inr rfl)) (fun _ q1 q2 w14 hw14 => ?_) (fun q => absurd hneg q) (fun q => absurd hneg q)
            · obtain ⟨g1, g2⟩ := go (cond.mp (Or.inl q)) w6 hw6
              rw [← nI_succ]
              exact ⟨g1, fun w9 hw9 => next w9 (g2 w9 hw9)⟩
            · rw [← nI_succ]
              refine next w ⟨f0, f1, ?_⟩
              unfold pls
              rw [if_neg (fun z => by rcases cond.mpr z.2 with y | y; exact q1 y; exact q2 y)]
              exact f2
            · obtain ⟨g1, g2⟩ := go (cond.mp (Or.inr q2)) w14 hw14
              rw [← nI_succ]
              exact ⟨g1, fun w9 hw9 => next w9 (g2 w9 hw9)⟩
          | succ j ih =>
            intro w hj f0 f1 f2 f3
            rw [nI_pred]
            have hneg : ¬ nI j < 0 := nI_pos (by omega)
            have cj : (nI j).toNatClampNeg = j := nI_clamp (by omega)
            have hmj : m - j = (m - (j + 1)) + 1 := by omega
            have dj := dval j (by omega)
            have lf0 : i / pP (fun _ => 3) j (m - j) = i / pP (fun _ => 3) (j + 1) (m - (j + 1)) / 3 := by
              rw [hmj]
              show i / (3 * pP (fun _ => 3) (j + 1) (m - (j + 1))) = _
              rw [Nat.mul_comm, ← Nat.div_div_eq_div_mul]
            generalize hq : i / pP (fun _ => 3) (j + 1) (m - (j + 1)) = q at *
            have hqi : q ≤ i := by rw [← hq]; exact Nat.div_le_self _ _
            have hq3 : q < 2 ^ 31 := by omega
            have m1 : nI j + (-1) = nI j - 1 := by rw [Int32.sub_eq_add_neg]
            have d3 : nI q / 3 = nI (q / 3) := nI_div hq3 (b := 3) (by omega)
            have r3 : (1 : Int32) + (nI q - nI q / 3 * 3) = nI (v j) := by
              have e3 : nI q - nI q / 3 * 3 = nI (q % 3) := nI_mod hq3 (b := 3) (by omega)
              rw [e3, dj]
              exact nI_ad 1 _
            refine v_Mo_layLengths_58 _ _ _ _ _ w (fun z => absurd z hneg) (fun z => absurd z hneg) (fun z => absurd z hneg) (fun z => absurd z hneg) (fun z => absurd z hneg) (fun _ => nI_inB (by omega) (by decide)) (fun _ => ?_)
            have uj : upd (w 219) j (nI (v j)) j = nI (v j) := if_pos rfl
            have sj : sm v m - sm v (j + 1) + v j = sm v m - sm v j := by
              have : sm v (j + 1) ≤ sm v m := sm_mono hj
              have e : sm v (j + 1) = sm v j + v j := rfl
              omega
            rw [r3, cj, uj, d3, m1, nI_ad, sj, ← lf0]
            refine ih _ (by omega) ?_ (fun s hs => by rw [ewS_ne _ _ (by decide)]; exact f1 s hs) ?_ (fun e h1 h2 => ?_)
            · refine f0.tr ⟨fun k hk hK => ewS_ne _ _ (fun e => hK (by rw [e]; simp)), fun i _ => ?_⟩
              rw [ewS_ne _ _ (by decide)]
            · refine ⟨fun z => by rw [ewS_ne _ _ (by decide)]; exact f2.1 z, fun z => ?_⟩
              rw [ewS_ne _ _ (by decide), ewS_ne _ _ (by decide)]
              exact f2.2 z
            · rw [ewS_self, upd]
              by_cases z : e = j
              · rw [if_pos z, z]
              · rw [if_neg z]; exact f3 e (by omega) h2
        have start := down m w (Nat.le_refl _) f0 f1 f2 (fun e h1 h2 => by omega)
        rw [Nat.sub_self, Nat.sub_self] at start
        have e1 : i / pP (fun _ => 3) m 0 = i := Nat.div_one i
        rw [e1] at start
        exact start
      · rintro w ⟨f0, f1, f2⟩
        have hlt : ¬ nI (3 ^ m) < nI (3 ^ m) := nI_nlt (Nat.le_refl _) (by omega)
        generalize (List.range (3 ^ m)).foldl (fun b u => pls n m A B dv b (dig (fun _ => 3) (fun _ i => 1 + i) 0 m (fun _ => 0) u)) (1000000, fun _ => 0) = b at *
        have neg : w 194 39 < 0 ↔ b.1 = 1000000 := by
          by_cases q : b.1 = 1000000
          · rw [f2.1 q]; exact ⟨fun _ => q, fun _ => by decide⟩
          · obtain ⟨o1, o2, o3⟩ := f2.2 q
            rw [o2]; exact ⟨fun z => absurd z (nI_pos (by omega)), fun z => absurd z q⟩
        refine v_Mo_layLengths_33 _ _ w (fun _ q => ?_) (fun _ _ => may w 218 f0 f1 (Or.inl rfl)) (fun _ q w6 hw6 => ?_) (fun q => absurd q hlt) (fun q => absurd q hlt) (fun q => absurd q hlt) (fun q => absurd q hlt)
        · exact ⟨w, ⟨f0, f1, fun z => absurd z hc, fun _ => ⟨f2, fun z => absurd (neg.mp q) z⟩⟩, rfl, rfl⟩
        · have hb : b.1 ≠ 1000000 := fun z => q (neg.mpr z)
          obtain ⟨o1, o2, o3⟩ := f2.2 hb
          obtain ⟨l1, l2, l3, l4⟩ := laid w w6 218 b.2 hc f0 o3 hw6
          refine ⟨w6, ⟨l1, fun s hs => by rw [l2 215 (by decide) (by decide) (by decide) (by decide)]; exact f1 s hs, fun z => absurd z hc, fun _ => ⟨⟨fun z => absurd z hb, fun _ => ⟨o1, by rw [l3]; exact o2, fun e he => by rw [l2 218 (by decide) (by decide) (by decide) (by decide)]; exact o3 e he⟩⟩, fun _ => l4⟩⟩, rfl, rfl⟩
