/-! the reference: takeClause -/
theorem plb_succ (A B : Nat → Nat) (e s : Nat) : plb A B (e + 1) s = if plb A B e s = plb A B e (B e) then plb A B e (A e) else plb A B e s := rfl
theorem pwH_y {g : Nat → Int32} {lb : Nat → Nat} {b : Bool} {u v n : Nat} (hu : u < n) (hv : v < n) (hn : n ≤ 8) (hg : ∀ s, s < n → g s = nI (lb s)) (hl : ∀ s, s < n → lb s < n) : pwH g b u v = pwy lb b u v := by
  unfold pwH pwy
  have e : (g u = g v) ↔ (lb u = lb v) := by
    have h1 := hl u hu
    have h2 := hl v hv
    rw [hg u hu, hg v hv, nI_eq (by omega) (by omega)]
  simp only [e]
theorem mPS.lb {h : Nat → Nat → Int32} {n : Nat} {z : pSt} (hz : mPS h n z) (hw : pWF z) : ∀ s, s < z.2.1.1 → plb z.2.2.1.2.1 z.2.2.1.2.2 z.2.2.1.1 s < z.2.1.1 := plb_lt _ (fun i hi => ⟨(hw.2.1 i hi).1, (hw.2.1 i hi).2.1⟩)
set_option maxHeartbeats 4000000 in
theorem s_Mo_takeClause {X : Nat × (Nat → Int32)} {d : Nat} {cu sp n1 n2 n3 n4 : Nat} (h : Nat → Nat → Int32) (hp : p_Mo_takeClause h) : ewP X Mo_takeClause (d + 4) 0 [some (.ref 194), none, none] [] (0, 0) (229, ewR cu sp n1 n2 n3 n4, h) (fun v S' => ∃ (h' : Nat → Nat → Int32) (y : Int32), mTc h h' y ∧ v = some (.int y) ∧ S' = (229, ewR cu sp n1 n2 n3 n4, h')) := by
  obtain ⟨n0, z0, hz0, hw0, hp0⟩ := hp
  obtain ⟨ef0, eg0⟩ := hz0.here
  obtain ⟨ha0, hn0, han0, hn20⟩ := id hz0.1
  rw [if_pos hp0] at ef0
  generalize hP : psk (h 203) n0 z0.1 = P at ef0 eg0 hp0
  -- any other reading of the same heap has the same place and length
  have same : ∀ (n : Nat) (z : pSt), mPS h n z → n = n0 ∧ z.1 = z0.1 ∧ psk (h 203) n z.1 = P ∧ z.2.1.1 = z0.2.1.1 ∧ z.2.2.1.1 = z0.2.2.1.1 ∧ z.2.2.2.1 = z0.2.2.2.1 := by
    intro n z hz
    have a1 := hz.1.2.2.1
    have a2 := hz.1.2.2.2
    have e1 : n = n0 := (nI_eq (by omega) (by omega)).mp (hz.1.2.1.symm.trans hn0)
    have e2 : z.1 = z0.1 := (nI_eq (by omega) (by omega)).mp (hz.1.1.symm.trans ha0)
    have e3 : z.2.1.1 = z0.2.1.1 := (nI_eq (by have := hz.2.1.2.1; omega) (by have := hz0.2.1.2.1; omega)).mp (hz.2.1.1.symm.trans hz0.2.1.1)
    have e4 : z.2.2.1.1 = z0.2.2.1.1 := (nI_eq (by have := hz.2.2.1.2.1; omega) (by have := hz0.2.2.1.2.1; omega)).mp (hz.2.2.1.1.symm.trans hz0.2.2.1.1)
    have e5 : z.2.2.2.1 = z0.2.2.2.1 := (nI_eq (by have := hz.2.2.2.2.1; omega) (by have := hz0.2.2.2.2.1; omega)).mp (hz.2.2.2.1.symm.trans hz0.2.2.2.1)
    exact ⟨e1, e2, by rw [e1, e2]; exact hP, e3, e4, e5⟩
  have k18 : (g_Mo_here h) 194 18 = nI z0.2.1.1 := by rw [eg0]; simp [ewS, upd]; exact hz0.2.1.1
  have k21 : (g_Mo_here h) 194 21 = nI z0.2.2.1.1 := by rw [eg0]; simp [ewS, upd]; exact hz0.2.2.1.1
  have k24 : (g_Mo_here h) 194 24 = nI z0.2.2.2.1 := by rw [eg0]; simp [ewS, upd]; exact hz0.2.2.2.1
  have e8 : ((g_Mo_here h) 194 18 = 8) ↔ z0.2.1.1 = 8 := by rw [k18, show (8 : Int32) = nI 8 from rfl, nI_eq (by have := hz0.2.1.2.1; omega) (by decide)]
  have e7 : ((g_Mo_here h) 194 21 = 7) ↔ z0.2.2.1.1 = 7 := by rw [k21, show (7 : Int32) = nI 7 from rfl, nI_eq (by have := hz0.2.2.1.2.1; omega) (by decide)]
  have e3 : ((g_Mo_here h) 194 24 = 3) ↔ z0.2.2.2.1 = 3 := by rw [k24, show (3 : Int32) = nI 3 from rfl, nI_eq (by have := hz0.2.2.2.2.1; omega) (by decide)]
  -- the heap behind the letter
  generalize hG : ewS (g_Mo_here h) 194 (upd ((g_Mo_here h) 194) 15 ((g_Mo_here h) 194 15 + 1)) = G
  have gFr : mFr h G [15] := by
    rw [← hG, eg0]
    refine ⟨fun k hk => by simp [ewS, hk], fun j hj => ?_⟩
    simp at hj
    simp [ewS, upd, hj]
  have g15 : G 194 15 = nI (P + 1) := by rw [← hG, eg0]; simp [ewS, upd, nI_1]
  have gT : mTx G (P + 1) n0 := ⟨g15, by rw [gFr.2 12 (by decide)]; exact hn0, by omega, hn20⟩
  have gt : G 203 = h 203 := gFr.1 203 (by decide)
  have g210 : G 210 = h 210 := gFr.1 210 (by decide)
  have g18 : G 194 18 = nI z0.2.1.1 := by rw [gFr.2 18 (by decide)]; exact hz0.2.1.1
  have g21 : G 194 21 = nI z0.2.2.1.1 := by rw [gFr.2 21 (by decide)]; exact hz0.2.2.1.1
  have g24 : G 194 24 = nI z0.2.2.2.1 := by rw [gFr.2 24 (by decide)]; exact hz0.2.2.2.1
  have fail0 : ∀ x : Nat, x ≠ 0 → x ≤ 4 → (∀ (n : Nat) (z : pSt), mPS h n z → pcl (h 203) n z = .inl (x, P, 0)) → mTc h (g_Mo_fails (g_Mo_here h) (nI x) ((g_Mo_here h) 194 15)) (f_Mo_fails (g_Mo_here h) (nI x) ((g_Mo_here h) 194 15)) := by
    intro x hx0 hx4 hpc
    refine ⟨⟨fun k hk hK => ?_, fun j hj => ?_⟩, fun n z hz hw hlt => ?_⟩
    · rw [eg0]; simp [g_Mo_fails, ewS, hk]
    · simp at hj; rw [eg0]; simp [g_Mo_fails, ewS, upd, hj]
    · rw [hpc n z hz]
      refine ⟨rfl, hx0, hx4, ?_, ?_⟩
      · rw [eg0]; simp [g_Mo_fails, ewS, upd]
      · rw [eg0]; simp [g_Mo_fails, ewS, upd]
  -- behind the two numbers: the end
  have ender : ∀ (w : Nat → Nat → Int32) (r0 : Nat), mFq G w [204, 205, 206, 207, 208, 209, 210] [13, 14, 15, 16, 17, 18, 21, 24] → w 194 15 = nI r0 → r0 ≤ n0 → w 194 13 = h 194 13 → w 194 14 = h 194 14 →
      p_Mo_here w ∧ (f_Mo_here w = 59 ↔ (psk (h 203) n0 r0 < n0 ∧ h 203 (psk (h 203) n0 r0) = 59)) ∧ g_Mo_here w = ewS w 194 (upd (w 194) 15 (nI (psk (h 203) n0 r0))) := by
    intro w r0 hfr h15 hr0 h13 h14
    have w12 : w 194 12 = nI n0 := by rw [hfr.2 12 (by decide), gFr.2 12 (by decide)]; exact hn0
    have w203 : w 203 = h 203 := by rw [hfr.1 203 (by decide) (by decide)]; exact gt
    refine ⟨⟨r0, n0, h15, w12, hr0, hn20⟩, ?_, ?_⟩
    · unfold f_Mo_here
      rw [h15, w12, nI_clamp (by omega), nI_clamp (by omega), w203]
      split
      · rename_i q; exact ⟨fun z => ⟨q, z⟩, fun z => z.2⟩
      · rename_i q; exact ⟨fun z => absurd z (by decide), fun z => absurd z.1 q⟩
    · unfold g_Mo_here
      rw [h15, w12, nI_clamp (by omega), nI_clamp (by omega), w203]
  have frHW : ∀ {w : Nat → Nat → Int32}, mFq G w [204, 205, 206, 207, 208, 209, 210] [13, 14, 15, 16, 17, 18, 21, 24] → mFq h w [204, 205, 206, 207, 208, 209, 210] [13, 14, 15, 16, 17, 18, 21, 24] := fun hw => ((gFr.q []).wk (by simp) (by simp)).tr hw
  have bump : ∀ {w : Nat → Nat → Int32} (x : Int32), mFq G w [204, 205, 206, 207, 208, 209, 210] [13, 14, 15, 16, 17, 18, 21, 24] → mFq h (ewS w 194 (upd (w 194) 15 x)) [204, 205, 206, 207, 208, 209, 210] [13, 14, 15, 16, 17, 18, 21, 24] := by
    intro w x hw
    refine (frHW hw).tr ⟨fun k hk _ => by simp [ewS, hk], fun j hj => ?_⟩
    simp at hj
    simp [ewS, upd, hj]
  have endFail : ∀ (w : Nat → Nat → Int32) (r0 : Nat), mFq G w [204, 205, 206, 207, 208, 209, 210] [13, 14, 15, 16, 17, 18, 21, 24] → g_Mo_here w = ewS w 194 (upd (w 194) 15 (nI (psk (h 203) n0 r0))) → w 194 14 = h 194 14 → (∀ (n : Nat) (z : pSt), mPS h n z → pWF z → pcl (h 203) n z = .inl (1, psk (h 203) n0 r0, 0)) → mTc h (g_Mo_fails (g_Mo_here w) 1 ((g_Mo_here w) 194 15)) (f_Mo_fails (g_Mo_here w) 1 ((g_Mo_here w) 194 15)) := by
    intro w r0 hfr hg h14 hpc
    refine ⟨?_, fun n z hz hw hlt => ?_⟩
    · rw [hg]
      refine (frHW hfr).tr ⟨fun k hk _ => by simp [g_Mo_fails, ewS, hk], fun j hj => ?_⟩
      simp at hj
      simp [g_Mo_fails, ewS, upd, hj]
    · rw [hpc n z hz hw]
      refine ⟨rfl, by show (1 : Nat) ≠ 0; decide, by show (1 : Nat) ≤ 4; decide, ?_, ?_⟩
      · rw [hg]; simp [g_Mo_fails, ewS, upd]
      · rw [hg]; simp [g_Mo_fails, ewS, upd]; exact h14
  have q1 := pnq_le (t := h 203) (n := n0) (a := P + 1) (by omega)
  have q2 := pnq_le (t := h 203) (n := n0) (a := pnq (h 203) n0 (P + 1)) q1.2.1
  refine v_Mo_takeClause_0 h ⟨z0.1, n0, hz0.1⟩ (fun c1 c2 => ?_) (fun c1 c2 w y hR => ?_) (fun c1 c2 => ?_) (fun c1 c2 c3 => ?_) (fun c1 c2 c3 w y hR => ?_) (fun c1 c2 c3 => ?_) (fun c1 c2 c3 c4 => ?_) (fun c1 c2 c3 c4 w y hR => ?_) (fun c1 c2 c3 c4 => ?_) (fun c1 c2 c3 => ?_)
  · rw [hG]
    exact ⟨P + 1, n0, z0.2.1.1, gT, g18, by have := hz0.2.1.2.1; have : ¬ z0.2.1.1 = 8 := fun q => c2 (e8.mpr q); omega⟩
  · -- a station
    rw [hG] at hR
    have hns : z0.2.1.1 < 8 := by have := hz0.2.1.2.1; have : ¬ z0.2.1.1 = 8 := fun q => c2 (e8.mpr q); omega
    obtain ⟨fr, ey, e13, eok⟩ := hR (P + 1) n0 z0.2.1.1 gT g18 hns
    rw [gt] at ey e13 eok
    have frw := fr.wk (K' := [204, 205, 206, 207, 208, 209, 210]) (L' := [13, 14, 15, 16, 17, 18, 21, 24]) (by simp) (by simp)
    have hle : p2f (h 203) n0 (P + 1) 100 ≤ 2 := by unfold p2f; split <;> exact pnf_lt
    have w14 : w 194 14 = h 194 14 := by rw [fr.2 14 (by decide)]; exact gFr.2 14 (by decide)
    have pc := fun (n : Nat) (z : pSt) (hz : mPS h n z) => pcl_go (t := h 203) (n := n) (z := z) (c := 115) (by rw [(same n z hz).2.2.1, ← ef0]; exact c1) (Or.inl rfl) (by rw [(same n z hz).2.2.2.1]; rintro (q | q | q); · exact absurd q.2 (by omega)
                                                                                                                                                                            · exact absurd q.1 (by decide)
                                                                                                                                                                            · exact absurd q.1 (by decide)) (lim := 100) (w := 0) (if_pos rfl) (if_pos rfl)
    by_cases f0 : p2f (h 203) n0 (P + 1) 100 = 0
    · have y0 : y = 0 := by rw [ey, f0]; rfl
      obtain ⟨o15, o18, o204, o205, o210⟩ := eok f0
      have w13 : w 194 13 = h 194 13 := by rw [e13, if_pos f0]; exact gFr.2 13 (by decide)
      obtain ⟨en1, en2, en3⟩ := ender w _ frw o15 q2.2.1 w13 w14
      refine ⟨fun q => absurd y0 q, fun _ => en1, fun _ c59 => ?_, fun _ c59 => ?_⟩
      · refine ⟨_, _, ⟨?_, fun n z hz hw hlt => ?_⟩, rfl, rfl⟩
        · rw [en3]
          simp only [ewS_S, ewS_self]
          rw [upd_S]
          exact bump _ frw
        · obtain ⟨s1, s2, s3, s4, s5, s6⟩ := same n z hz
          have hpc := (pc n z hz).2.2.2
          rw [s3] at hpc
          rw [s1] at hpc ⊢
          rw [hpc f0 rfl (en2.mp c59), if_pos rfl]
          rw [en3]
          simp only [ewS_S, ewS_self]
          rw [upd_S]
          have hl0 := hz.2.1.2.2
          refine ⟨y0, ⟨⟨by simp [ewS, upd, nI_1], by simp [ewS, upd]; rw [fr.2 12 (by decide), gFr.2 12 (by decide)]; exact hn0, by show _ + 1 ≤ n0; have := (en2.mp c59).1; omega, hn20⟩, ⟨?_, ?_, fun s hs => ?_⟩, ⟨?_, ?_, fun e he => ?_⟩, ⟨?_, ?_, fun l hl => ?_⟩⟩, ⟨fun s hs => ?_, fun e he => ?_, fun l hl => ?_⟩, ?_, ?_⟩
          · simp [ewS, upd]; rw [o18, s4]
          · show z.2.1.1 + 1 ≤ 8; omega
          · have hs : s < z.2.1.1 + 1 := hs
            have he210 : ∀ s, s < z.2.1.1 → h 210 s = nI (plb z.2.2.1.2.1 z.2.2.1.2.2 z.2.2.1.1 s) := fun s hs => (hl0 s hs).2.2
            simp [ewS]
            rw [o204, o205, o210, gFr.1 204 (by decide), gFr.1 205 (by decide), g210, ← s4]
            by_cases hsn : s = z.2.1.1
            · subst hsn
              simp [upd, pup_self]
              rw [plb_new _ (fun i hi => ⟨(hw.2.1 i hi).1, (hw.2.1 i hi).2.1⟩)]
            · have hs2 : s < z.2.1.1 := by omega
              simp [upd, hsn, pup_ne _ _ hsn]
              exact hl0 s hs2
          · simp [ewS, upd]; rw [fr.2 21 (by decide), gFr.2 21 (by decide)]; exact hz.2.2.1.1
          · exact hz.2.2.1.2.1
          · simp [ewS]
            rw [fr.1 206 (by decide) (by decide), fr.1 207 (by decide) (by decide), gFr.1 206 (by decide), gFr.1 207 (by decide)]
            exact hz.2.2.1.2.2 e he
          · simp [ewS, upd]; rw [fr.2 24 (by decide), gFr.2 24 (by decide)]; exact hz.2.2.2.1
          · exact hz.2.2.2.2.1
          · simp [ewS]
            rw [fr.1 208 (by decide) (by decide), fr.1 209 (by decide) (by decide), gFr.1 208 (by decide), gFr.1 209 (by decide)]
            exact hz.2.2.2.2.2 l hl
          · have hs : s < z.2.1.1 + 1 := hs
            have f1 : pnf (h 203) n0 (P + 1) 100 = 0 := by
              unfold p2f at f0
              split at f0
              · assumption
              · rename_i q; exact absurd f0 q
            have f2 : pnf (h 203) n0 (pnq (h 203) n0 (P + 1)) 100 = 0 := by
              unfold p2f at f0
              rw [if_pos f1] at f0
              exact f0
            show pup _ _ _ s < 100 ∧ pup _ _ _ s < 100
            by_cases hsn : s = z.2.1.1
            · subst hsn
              rw [pup_self, pup_self]
              exact ⟨pn_facts f1, pn_facts f2⟩
            · rw [pup_ne _ _ hsn, pup_ne _ _ hsn]
              exact hw.1 s (by omega)
          · have := hw.2.1 e he
            exact ⟨Nat.lt_succ_of_lt this.1, Nat.lt_succ_of_lt this.2.1, this.2.2⟩
          · have := hw.2.2 l hl
            exact ⟨Nat.lt_succ_of_lt this.1, Nat.lt_succ_of_lt this.2.1, this.2.2⟩
          · simp [ewS, upd]; exact w13
          · simp [ewS, upd]; exact w14
      · refine ⟨_, _, endFail w _ frw en3 w14 (fun n z hz hw => ?_), rfl, rfl⟩
        have hpc := (pc n z hz).2.2.1
        obtain ⟨s1, s2, s3, -⟩ := same n z hz
        rw [s3] at hpc
        rw [s1] at hpc ⊢
        exact hpc f0 rfl (fun q => c59 (en2.mpr q))
    · have hy : ¬ y = 0 := by rw [ey, show (0 : Int32) = nI 0 from rfl, nI_eq (by omega) (by decide)]; exact f0
      refine ⟨fun _ => ?_, fun q => absurd q hy, fun q => absurd q hy, fun q => absurd q hy⟩
      refine ⟨_, _, ⟨bump _ frw, fun n z hz hw hlt => ?_⟩, rfl, rfl⟩
      have hpc := (pc n z hz).1
      obtain ⟨s1, s2, s3, -⟩ := same n z hz
      rw [s3] at hpc
      rw [s1] at hpc ⊢
      rw [hpc f0]
      refine ⟨ey, f0, by show p2f _ _ _ _ ≤ 4; omega, ?_, ?_⟩
      · simp [ewS, upd]; rw [e13, if_neg f0]
      · simp [ewS, upd]; exact w14
  · exact ⟨_, _, fail0 3 (by decide) (by decide) (fun n z hz => by
      obtain ⟨s1, s2, s3, s4, s5, s6⟩ := same n z hz
      rw [pcl_full (Or.inl ⟨by rw [s3, ← ef0]; exact c1, by rw [s4]; exact e8.mp c2⟩), s3]), rfl, rfl⟩
  · rw [hG]
    exact ⟨P + 1, n0, z0.2.1.1, z0.2.2.1.1, gT, g18, hz0.2.1.2.1, g21, by have := hz0.2.2.1.2.1; have : ¬ z0.2.2.1.1 = 7 := fun q => c3 (e7.mpr q); omega⟩
  · -- a stretch
    rw [hG] at hR
    have hne : z0.2.2.1.1 < 7 := by have := hz0.2.2.1.2.1; have : ¬ z0.2.2.1.1 = 7 := fun q => c3 (e7.mpr q); omega
    obtain ⟨fr, ebad, eok⟩ := hR (P + 1) n0 z0.2.1.1 z0.2.2.1.1 gT g18 hz0.2.1.2.1 g21 hne
    rw [gt] at ebad eok
    have frw := fr.wk (K' := [204, 205, 206, 207, 208, 209, 210]) (L' := [13, 14, 15, 16, 17, 18, 21, 24]) (by simp) (by simp)
    have hle : p2f (h 203) n0 (P + 1) z0.2.1.1 ≤ 2 := by unfold p2f; split <;> exact pnf_lt
    have pc := fun (n : Nat) (z : pSt) (hz : mPS h n z) => pcl_go (t := h 203) (n := n) (z := z) (c := 101) (by rw [(same n z hz).2.2.1, ← ef0]; exact c2) (Or.inr (Or.inl rfl)) (by rw [(same n z hz).2.2.2.2.1, (same n z hz).2.2.2.2.2]; rintro (q | q | q) <;> first | exact absurd q.1 (by decide) | exact absurd q.2 (by omega)) (lim := z.2.1.1) (w := pwy (plb z.2.2.1.2.1 z.2.2.1.2.2 z.2.2.1.1) true (pnv (h 203) n (psk (h 203) n z.1 + 1)) (pnv (h 203) n (pnq (h 203) n (psk (h 203) n z.1 + 1)))) (if_neg (by decide)) (if_neg (by decide))
    by_cases f0 : p2f (h 203) n0 (P + 1) z0.2.1.1 = 0
    · have f1 : pnf (h 203) n0 (P + 1) z0.2.1.1 = 0 := by
        unfold p2f at f0
        split at f0
        · assumption
        · rename_i q; exact absurd f0 q
      have f2 : pnf (h 203) n0 (pnq (h 203) n0 (P + 1)) z0.2.1.1 = 0 := by
        unfold p2f at f0
        rw [if_pos f1] at f0
        exact f0
      have hub := pn_facts f1
      have hvb := pn_facts f2
      obtain ⟨o1, o2⟩ := eok f0
      have pwe : ∀ (n : Nat) (z : pSt), mPS h n z → pWF z → pwH (G 210) true (pnv (h 203) n0 (P + 1)) (pnv (h 203) n0 (pnq (h 203) n0 (P + 1))) = pwy (plb z.2.2.1.2.1 z.2.2.1.2.2 z.2.2.1.1) true (pnv (h 203) n0 (P + 1)) (pnv (h 203) n0 (pnq (h 203) n0 (P + 1))) := by
        intro n z hz hw
        obtain ⟨s1, s2, s3, s4, s5, s6⟩ := same n z hz
        rw [g210]
        exact pwH_y (n := z.2.1.1) (by omega) (by omega) hz.2.1.2.1 (fun s hs => (hz.2.1.2.2 s hs).2.2) (hz.lb hw)
      by_cases pw0 : pwH (G 210) true (pnv (h 203) n0 (P + 1)) (pnv (h 203) n0 (pnq (h 203) n0 (P + 1))) = 0
      · obtain ⟨y0, o13, o14, o15, onx, oA, oB, oC⟩ := o2 pw0
        have w13 : w 194 13 = h 194 13 := by rw [o13]; exact gFr.2 13 (by decide)
        have w14 : w 194 14 = h 194 14 := by rw [o14]; exact gFr.2 14 (by decide)
        obtain ⟨en1, en2, en3⟩ := ender w _ frw o15 q2.2.1 w13 w14
        refine ⟨fun q => absurd y0 q, fun _ => en1, fun _ c59 => ?_, fun _ c59 => ?_⟩
        · refine ⟨_, _, ⟨?_, fun n z hz hw hlt => ?_⟩, rfl, rfl⟩
          · rw [en3]
            simp only [ewS_S, ewS_self]
            rw [upd_S]
            exact bump _ frw
          · have pq := pwe n z hz hw
            rw [pw0] at pq
            have hpc := (pc n z hz).2.2.2
            obtain ⟨s1, s2, s3, s4, s5, s6⟩ := same n z hz
            rw [s3] at hpc
            rw [s1] at hpc ⊢
            rw [hpc (by rw [s4]; exact f0) pq.symm (en2.mp c59), if_neg (by decide), if_pos rfl]
            rw [en3]
            simp only [ewS_S, ewS_self]
            rw [upd_S]
            generalize pnv (h 203) n0 (P + 1) = u at *
            generalize pnv (h 203) n0 (pnq (h 203) n0 (P + 1)) = v at *
            unfold pwy at pq
            have huv : ¬ u = v := by intro q; rw [if_pos q] at pq; cases pq
            rw [if_neg huv] at pq
            have hlb : ¬ plb z.2.2.1.2.1 z.2.2.1.2.2 z.2.2.1.1 u = plb z.2.2.1.2.1 z.2.2.1.2.2 z.2.2.1.1 v := by
              intro q
              rw [if_pos rfl, if_pos q] at pq
              cases pq
            have cg : ∀ k, k ≤ z.2.2.1.1 → ∀ s, plb (pup z.2.2.1.2.1 z.2.2.1.1 u) (pup z.2.2.1.2.2 z.2.2.1.1 v) k s = plb z.2.2.1.2.1 z.2.2.1.2.2 k s := fun k hk => plb_congr k (fun i hi => ⟨pup_ne _ _ (by omega), pup_ne _ _ (by omega)⟩)
            refine ⟨y0, ⟨⟨by simp [ewS, upd, nI_1], by simp [ewS, upd]; rw [fr.2 12 (by decide), gFr.2 12 (by decide)]; exact hn0, by show _ + 1 ≤ n0; have := (en2.mp c59).1; omega, hn20⟩, ⟨?_, hz.2.1.2.1, fun s hs => ?_⟩, ⟨?_, ?_, fun e he => ?_⟩, ⟨?_, hz.2.2.2.2.1, fun l hl => ?_⟩⟩, ⟨hw.1, fun e he => ?_, fun l hl => ?_⟩, ?_, ?_⟩
            · simp [ewS, upd]; rw [fr.2 18 (by decide), gFr.2 18 (by decide)]; exact hz.2.1.1
            · have hs : s < z.2.1.1 := hs
              have h4 := hz.2.1.2.2 s hs
              refine ⟨?_, ?_, ?_⟩
              · simp [ewS]; rw [fr.1 204 (by decide) (by decide), gFr.1 204 (by decide)]; exact h4.1
              · simp [ewS]; rw [fr.1 205 (by decide) (by decide), gFr.1 205 (by decide)]; exact h4.2.1
              · simp [ewS]
                rw [oC s (by omega), g210]
                have hlt2 := hz.lb hw
                have hu2 := hlt2 u (by omega)
                have hv2 := hlt2 v (by omega)
                have hs2 := hlt2 s hs
                have h8 := hz.2.1.2.1
                rw [h4.2.2, (hz.2.1.2.2 v (by omega)).2.2, (hz.2.1.2.2 u (by omega)).2.2]
                show _ = nI (plb _ _ (z.2.2.1.1 + 1) s)
                rw [plb_succ, cg _ (Nat.le_refl _), cg _ (Nat.le_refl _), cg _ (Nat.le_refl _), pup_self, pup_self]
                by_cases hq : plb z.2.2.1.2.1 z.2.2.1.2.2 z.2.2.1.1 s = plb z.2.2.1.2.1 z.2.2.1.2.2 z.2.2.1.1 v
                · rw [if_pos hq, if_pos (by rw [hq])]
                · rw [if_neg hq, if_neg (fun q => hq ((nI_eq (by omega) (by omega)).mp q))]
            · simp [ewS, upd]; rw [onx, s5]
            · show z.2.2.1.1 + 1 ≤ 7; omega
            · have he : e < z.2.2.1.1 + 1 := he
              simp [ewS]
              rw [oA, oB, gFr.1 206 (by decide), gFr.1 207 (by decide), ← s5]
              by_cases hen : e = z.2.2.1.1
              · subst hen; simp [upd, pup_self]
              · simp [upd, hen, pup_ne _ _ hen]; exact hz.2.2.1.2.2 e (by omega)
            · simp [ewS, upd]; rw [fr.2 24 (by decide), gFr.2 24 (by decide)]; exact hz.2.2.2.1
            · simp [ewS]
              rw [fr.1 208 (by decide) (by decide), fr.1 209 (by decide) (by decide), gFr.1 208 (by decide), gFr.1 209 (by decide)]
              exact hz.2.2.2.2.2 l hl
            · have he : e < z.2.2.1.1 + 1 := he
              show pup _ _ _ e < z.2.1.1 ∧ pup _ _ _ e < z.2.1.1 ∧ plb _ _ e (pup _ _ _ e) ≠ plb _ _ e (pup _ _ _ e)
              rw [cg e (by omega), cg e (by omega)]
              by_cases hen : e = z.2.2.1.1
              · subst hen
                rw [pup_self, pup_self]
                exact ⟨by omega, by omega, hlb⟩
              · rw [pup_ne _ _ hen, pup_ne _ _ hen]
                exact hw.2.1 e (by omega)
            · have h5 := hw.2.2 l hl
              refine ⟨h5.1, h5.2.1, h5.2.2.1, ?_⟩
              refine plb_step _ _ _ ?_
              rw [cg _ (Nat.le_refl _), cg _ (Nat.le_refl _)]
              exact h5.2.2.2
            · simp [ewS, upd]; exact w13
            · simp [ewS, upd]; exact w14
        · refine ⟨_, _, endFail w _ frw en3 w14 (fun n z hz hw => ?_), rfl, rfl⟩
          have pq := pwe n z hz hw
          rw [pw0] at pq
          have hpc := (pc n z hz).2.2.1
          obtain ⟨s1, s2, s3, s4, -⟩ := same n z hz
          rw [s3] at hpc
          rw [s1] at hpc ⊢
          exact hpc (by rw [s4]; exact f0) pq.symm (fun q => c59 (en2.mpr q))
      · obtain ⟨y4, o13, o14⟩ := o1 pw0
        have hy : ¬ y = 0 := by rw [y4]; decide
        refine ⟨fun _ => ?_, fun q => absurd q hy, fun q => absurd q hy, fun q => absurd q hy⟩
        refine ⟨_, _, ⟨bump _ frw, fun n z hz hw hlt => ?_⟩, rfl, rfl⟩
        have pq := pwe n z hz hw
        have hpc := (pc n z hz).2.1
        obtain ⟨s1, s2, s3, s4, -⟩ := same n z hz
        rw [s3] at hpc
        rw [s1] at hpc ⊢
        rw [hpc (by rw [s4]; exact f0) (by rw [← pq]; exact pw0)]
        refine ⟨y4, by show (4 : Nat) ≠ 0; decide, by show (4 : Nat) ≤ 4; decide, ?_, ?_⟩
        · simp [ewS, upd]; exact o13
        · rw [← pq]
          simp [ewS, upd]; rw [if_neg pw0]; exact o14
    · obtain ⟨ey, o13, o14⟩ := ebad f0
      have hy : ¬ y = 0 := by rw [ey, show (0 : Int32) = nI 0 from rfl, nI_eq (by omega) (by decide)]; exact f0
      refine ⟨fun _ => ?_, fun q => absurd q hy, fun q => absurd q hy, fun q => absurd q hy⟩
      refine ⟨_, _, ⟨bump _ frw, fun n z hz hw hlt => ?_⟩, rfl, rfl⟩
      have hpc := (pc n z hz).1
      obtain ⟨s1, s2, s3, s4, -⟩ := same n z hz
      rw [s3] at hpc
      rw [s1] at hpc ⊢
      rw [s4] at hpc
      rw [hpc f0]
      refine ⟨ey, f0, by show p2f _ _ _ _ ≤ 4; omega, ?_, ?_⟩
      · simp [ewS, upd]; exact o13
      · simp [ewS, upd]; rw [o14]; exact gFr.2 14 (by decide)
  · exact ⟨_, _, fail0 3 (by decide) (by decide) (fun n z hz => by
      obtain ⟨s1, s2, s3, s4, s5, s6⟩ := same n z hz
      rw [pcl_full (Or.inr (Or.inl ⟨by rw [s3, ← ef0]; exact c2, by rw [s5]; exact e7.mp c3⟩)), s3]), rfl, rfl⟩
  · rw [hG]
    exact ⟨P + 1, n0, z0.2.1.1, z0.2.2.2.1, gT, g18, hz0.2.1.2.1, g24, by have := hz0.2.2.2.2.1; have : ¬ z0.2.2.2.1 = 3 := fun q => c4 (e3.mpr q); omega⟩
  · -- a line
    rw [hG] at hR
    have hne : z0.2.2.2.1 < 3 := by have := hz0.2.2.2.2.1; have : ¬ z0.2.2.2.1 = 3 := fun q => c4 (e3.mpr q); omega
    obtain ⟨fr, ebad, eok⟩ := hR (P + 1) n0 z0.2.1.1 z0.2.2.2.1 gT g18 hz0.2.1.2.1 g24 hne
    rw [gt] at ebad eok
    have frw := fr.wk (K' := [204, 205, 206, 207, 208, 209, 210]) (L' := [13, 14, 15, 16, 17, 18, 21, 24]) (by simp) (by simp)
    have hle : p2f (h 203) n0 (P + 1) z0.2.1.1 ≤ 2 := by unfold p2f; split <;> exact pnf_lt
    have pc := fun (n : Nat) (z : pSt) (hz : mPS h n z) => pcl_go (t := h 203) (n := n) (z := z) (c := 108) (by rw [(same n z hz).2.2.1, ← ef0]; exact c3) (Or.inr (Or.inr rfl)) (by rw [(same n z hz).2.2.2.2.1, (same n z hz).2.2.2.2.2]; rintro (q | q | q) <;> first | exact absurd q.1 (by decide) | exact absurd q.2 (by omega)) (lim := z.2.1.1) (w := pwy (plb z.2.2.1.2.1 z.2.2.1.2.2 z.2.2.1.1) false (pnv (h 203) n (psk (h 203) n z.1 + 1)) (pnv (h 203) n (pnq (h 203) n (psk (h 203) n z.1 + 1)))) (if_neg (by decide)) (if_neg (by decide))
    by_cases f0 : p2f (h 203) n0 (P + 1) z0.2.1.1 = 0
    · have f1 : pnf (h 203) n0 (P + 1) z0.2.1.1 = 0 := by
        unfold p2f at f0
        split at f0
        · assumption
        · rename_i q; exact absurd f0 q
      have f2 : pnf (h 203) n0 (pnq (h 203) n0 (P + 1)) z0.2.1.1 = 0 := by
        unfold p2f at f0
        rw [if_pos f1] at f0
        exact f0
      have hub := pn_facts f1
      have hvb := pn_facts f2
      obtain ⟨o1, o2⟩ := eok f0
      have pwe : ∀ (n : Nat) (z : pSt), mPS h n z → pWF z → pwH (G 210) false (pnv (h 203) n0 (P + 1)) (pnv (h 203) n0 (pnq (h 203) n0 (P + 1))) = pwy (plb z.2.2.1.2.1 z.2.2.1.2.2 z.2.2.1.1) false (pnv (h 203) n0 (P + 1)) (pnv (h 203) n0 (pnq (h 203) n0 (P + 1))) := by
        intro n z hz hw
        obtain ⟨s1, s2, s3, s4, s5, s6⟩ := same n z hz
        rw [g210]
        exact pwH_y (n := z.2.1.1) (by omega) (by omega) hz.2.1.2.1 (fun s hs => (hz.2.1.2.2 s hs).2.2) (hz.lb hw)
      by_cases pw0 : pwH (G 210) false (pnv (h 203) n0 (P + 1)) (pnv (h 203) n0 (pnq (h 203) n0 (P + 1))) = 0
      · obtain ⟨y0, o13, o14, o15, onx, oA, oB⟩ := o2 pw0
        have w13 : w 194 13 = h 194 13 := by rw [o13]; exact gFr.2 13 (by decide)
        have w14 : w 194 14 = h 194 14 := by rw [o14]; exact gFr.2 14 (by decide)
        obtain ⟨en1, en2, en3⟩ := ender w _ frw o15 q2.2.1 w13 w14
        refine ⟨fun q => absurd y0 q, fun _ => en1, fun _ c59 => ?_, fun _ c59 => ?_⟩
        · refine ⟨_, _, ⟨?_, fun n z hz hw hlt => ?_⟩, rfl, rfl⟩
          · rw [en3]
            simp only [ewS_S, ewS_self]
            rw [upd_S]
            exact bump _ frw
          · have pq := pwe n z hz hw
            rw [pw0] at pq
            have hpc := (pc n z hz).2.2.2
            obtain ⟨s1, s2, s3, s4, s5, s6⟩ := same n z hz
            rw [s3] at hpc
            rw [s1] at hpc ⊢
            rw [hpc (by rw [s4]; exact f0) pq.symm (en2.mp c59), if_neg (by decide), if_neg (by decide)]
            rw [en3]
            simp only [ewS_S, ewS_self]
            rw [upd_S]
            generalize pnv (h 203) n0 (P + 1) = u at *
            generalize pnv (h 203) n0 (pnq (h 203) n0 (P + 1)) = v at *
            unfold pwy at pq
            have huv : ¬ u = v := by intro q; rw [if_pos q] at pq; cases pq
            rw [if_neg huv] at pq
            have hlb : plb z.2.2.1.2.1 z.2.2.1.2.2 z.2.2.1.1 u = plb z.2.2.1.2.1 z.2.2.1.2.2 z.2.2.1.1 v := by
              rw [if_neg (by decide)] at pq
              split at pq
              · assumption
              · cases pq
            refine ⟨y0, ⟨⟨by simp [ewS, upd, nI_1], by simp [ewS, upd]; rw [fr.2 12 (by decide), gFr.2 12 (by decide)]; exact hn0, by show _ + 1 ≤ n0; have := (en2.mp c59).1; omega, hn20⟩, ⟨?_, hz.2.1.2.1, fun s hs => ?_⟩, ⟨?_, hz.2.2.1.2.1, fun e he => ?_⟩, ⟨?_, ?_, fun l hl => ?_⟩⟩, ⟨hw.1, hw.2.1, fun l hl => ?_⟩, ?_, ?_⟩
            · simp [ewS, upd]; rw [fr.2 18 (by decide), gFr.2 18 (by decide)]; exact hz.2.1.1
            · simp [ewS]
              rw [fr.1 204 (by decide) (by decide), fr.1 205 (by decide) (by decide), fr.1 210 (by decide) (by decide), gFr.1 204 (by decide), gFr.1 205 (by decide), g210]
              exact hz.2.1.2.2 s hs
            · simp [ewS, upd]; rw [fr.2 21 (by decide), gFr.2 21 (by decide)]; exact hz.2.2.1.1
            · simp [ewS]
              rw [fr.1 206 (by decide) (by decide), fr.1 207 (by decide) (by decide), gFr.1 206 (by decide), gFr.1 207 (by decide)]
              exact hz.2.2.1.2.2 e he
            · simp [ewS, upd]; rw [onx, s6]
            · show z.2.2.2.1 + 1 ≤ 3; omega
            · have hl : l < z.2.2.2.1 + 1 := hl
              simp [ewS]
              rw [oA, oB, gFr.1 208 (by decide), gFr.1 209 (by decide), ← s6]
              by_cases hen : l = z.2.2.2.1
              · subst hen; simp [upd, pup_self]
              · simp [upd, hen, pup_ne _ _ hen]; exact hz.2.2.2.2.2 l (by omega)
            · have hl : l < z.2.2.2.1 + 1 := hl
              show pup _ _ _ l < z.2.1.1 ∧ pup _ _ _ l < z.2.1.1 ∧ pup _ _ _ l ≠ pup _ _ _ l ∧ plb _ _ _ (pup _ _ _ l) = plb _ _ _ (pup _ _ _ l)
              by_cases hen : l = z.2.2.2.1
              · subst hen
                rw [pup_self, pup_self]
                exact ⟨by omega, by omega, huv, hlb⟩
              · rw [pup_ne _ _ hen, pup_ne _ _ hen]
                exact hw.2.2 l (by omega)
            · simp [ewS, upd]; exact w13
            · simp [ewS, upd]; exact w14
        · refine ⟨_, _, endFail w _ frw en3 w14 (fun n z hz hw => ?_), rfl, rfl⟩
          have pq := pwe n z hz hw
          rw [pw0] at pq
          have hpc := (pc n z hz).2.2.1
          obtain ⟨s1, s2, s3, s4, -⟩ := same n z hz
          rw [s3] at hpc
          rw [s1] at hpc ⊢
          exact hpc (by rw [s4]; exact f0) pq.symm (fun q => c59 (en2.mpr q))
      · obtain ⟨y4, o13, o14⟩ := o1 pw0
        have hy : ¬ y = 0 := by rw [y4]; decide
        refine ⟨fun _ => ?_, fun q => absurd q hy, fun q => absurd q hy, fun q => absurd q hy⟩
        refine ⟨_, _, ⟨bump _ frw, fun n z hz hw hlt => ?_⟩, rfl, rfl⟩
        have pq := pwe n z hz hw
        have hpc := (pc n z hz).2.1
        obtain ⟨s1, s2, s3, s4, -⟩ := same n z hz
        rw [s3] at hpc
        rw [s1] at hpc ⊢
        rw [hpc (by rw [s4]; exact f0) (by rw [← pq]; exact pw0)]
        refine ⟨y4, by show (4 : Nat) ≠ 0; decide, by show (4 : Nat) ≤ 4; decide, ?_, ?_⟩
        · simp [ewS, upd]; exact o13
        · rw [← pq]
          simp [ewS, upd]; rw [if_neg pw0]; exact o14
    · obtain ⟨ey, o13, o14⟩ := ebad f0
      have hy : ¬ y = 0 := by rw [ey, show (0 : Int32) = nI 0 from rfl, nI_eq (by omega) (by decide)]; exact f0
      refine ⟨fun _ => ?_, fun q => absurd q hy, fun q => absurd q hy, fun q => absurd q hy⟩
      refine ⟨_, _, ⟨bump _ frw, fun n z hz hw hlt => ?_⟩, rfl, rfl⟩
      have hpc := (pc n z hz).1
      obtain ⟨s1, s2, s3, s4, -⟩ := same n z hz
      rw [s3] at hpc
      rw [s1] at hpc ⊢
      rw [s4] at hpc
      rw [hpc f0]
      refine ⟨ey, f0, by show p2f _ _ _ _ ≤ 4; omega, ?_, ?_⟩
      · simp [ewS, upd]; exact o13
      · simp [ewS, upd]; rw [o14]; exact gFr.2 14 (by decide)
  · exact ⟨_, _, fail0 3 (by decide) (by decide) (fun n z hz => by
      obtain ⟨s1, s2, s3, s4, s5, s6⟩ := same n z hz
      rw [pcl_full (Or.inr (Or.inr ⟨by rw [s3, ← ef0]; exact c3, by rw [s6]; exact e3.mp c4⟩)), s3]), rfl, rfl⟩
  · exact ⟨_, _, fail0 1 (by decide) (by decide) (fun n z hz => by
      obtain ⟨s1, s2, s3, s4, s5, s6⟩ := same n z hz
      rw [pcl_bad (by rw [s3, ← ef0]; exact c1) (by rw [s3, ← ef0]; exact c2) (by rw [s3, ← ef0]; exact c3), s3]), rfl, rfl⟩
