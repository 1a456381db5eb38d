/-! the reference: net -/
theorem psk_id {t : Nat → Int32} {n i : Nat} (h : i ≤ n) : psk t n (psk t n i) = psk t n i := psk_at (psk_le (n - i) i (by omega)).2.2
theorem pcl_id {t : Nat → Int32} {n : Nat} {z : pSt} (h : z.1 ≤ n) : pcl t n (psk t n z.1, z.2) = pcl t n z := by
  unfold pcl
  simp only [psk_id h]
/-- a clause that was read: one goes on, and nothing lies beyond what has been read -/
theorem pcl_in {t : Nat → Int32} {n : Nat} {z z' : pSt} (h : pcl t n z = .inr z') (h1 : psk t n z.1 < n) (hz : z.1 ≤ n) : z.1 < z'.1 ∧ z'.1 ≤ n ∧ (pNm z → pNm z') := by
  have p0 := psk_le (t := t) (n := n) (n - z.1) z.1 (by omega)
  unfold pcl at h
  simp only at h
  generalize psk t n z.1 = p at *
  have q1 := pnq_le (t := t) (n := n) (a := p + 1) (by omega)
  have q2 := pnq_le (t := t) (n := n) (a := pnq t n (p + 1)) q1.2.1
  have q3 := psk_le (t := t) (n := n) (n - pnq t n (pnq t n (p + 1))) (pnq t n (pnq t n (p + 1))) (by omega)
  split at h
  · cases h
  · split at h
    · cases h
    · generalize (if t p = 115 then 100 else z.2.1.1) = lim at h
      generalize (if t p = 115 then (0 : Nat) else pwy (plb z.2.2.1.2.1 z.2.2.1.2.2 z.2.2.1.1) (decide (t p = 101)) (pnv t n (p + 1)) (pnv t n (pnq t n (p + 1)))) = w at h
      split at h
      · cases h
      · split at h
        · cases h
        · split at h
          · cases h
          · split at h
            · rename_i hr
              have h := Sum.inr.inj h
              subst h
              refine ⟨by show z.1 < _ + 1; omega, by show _ + 1 ≤ n; omega, fun hn => ?_⟩
              obtain ⟨n1, n2, n3⟩ := hn
              have up : ∀ (f : Nat → Nat) (k v s : Nat), (∀ s, k ≤ s → f s = 0) → k + 1 ≤ s → pup f k v s = 0 := fun f k v s hf hs => by rw [pup_ne _ _ (by omega)]; exact hf s (by omega)
              show pNm (_, if _ then _ else _)
              split
              · exact ⟨fun s hs => ⟨up _ _ _ _ (fun s hs => (n1 s hs).1) hs, up _ _ _ _ (fun s hs => (n1 s hs).2) hs⟩, n2, n3⟩
              · split
                · exact ⟨n1, fun s hs => ⟨up _ _ _ _ (fun s hs => (n2 s hs).1) hs, up _ _ _ _ (fun s hs => (n2 s hs).2) hs⟩, n3⟩
                · exact ⟨n1, n2, fun s hs => ⟨up _ _ _ _ (fun s hs => (n3 s hs).1) hs, up _ _ _ _ (fun s hs => (n3 s hs).2) hs⟩⟩
            · cases h
def mNe (h : Nat → Nat → Int32) (h' : Nat → Nat → Int32) (y : Int32) : Prop :=
  mFq h h' [195, 196, 197, 198, 199, 200, 201, 202, 204, 205, 206, 207, 208, 209, 210, 211, 228] [0, 1, 4, 12, 13, 14, 15, 16, 17, 18, 21, 24, 47] ∧ h' 194 12 = 0 ∧
  match ppa (h 203) (h 194 12).toNatClampNeg 241 ppS with
  | .inl x => y = -10 - nI x.1 ∧ h' 194 13 = nI x.2.1 ∧ h' 194 14 = nI x.2.2 ∧ mFq h h' [204, 205, 206, 207, 208, 209, 210] [12, 13, 14, 15, 16, 17, 18, 21, 24]
  | .inr z => y = nI z.2.1.1 ∧ h' 194 13 = -1 ∧ h' 194 14 = 0 ∧ pWF z ∧ pNm z ∧ mNt h' z.2.1.1 z.2.2.1.1 z.2.2.1.2.1 z.2.2.1.2.2 z.2.2.2.1 z.2.2.2.2.1 z.2.2.2.2.2 ∧ (∀ j, j < 25 → h' 202 j = pS0 z.2.1.2.1 z.2.1.2.2 j) ∧ h' 194 47 = 0 ∧ h' 228 0 = 0 ∧ h' 228 1 = 0
def p_Mo_net (h : Nat → Nat → Int32) : Prop := ∃ n, h 194 12 = nI n ∧ n ≤ 240 ∧ ∀ j, j < n → ¬ h 203 j < 0
set_option maxHeartbeats 1000000 in
theorem s_Mo_net {X : Nat × (Nat → Int32)} {d : Nat} {cu sp n1 n2 n3 n4 : Nat} (h : Nat → Nat → Int32) (hp : p_Mo_net h) : ewP X Mo_net (d + 5) 0 [some (.ref 194), none] [] (0, 0) (229, ewR cu sp n1 n2 n3 n4, h) (fun v S' => ∃ (h' : Nat → Nat → Int32) (y : Int32), mNe h h' y ∧ v = some (.int y) ∧ S' = (229, ewR cu sp n1 n2 n3 n4, h')) := by
  obtain ⟨n, hn, hn2, hpos⟩ := hp
  unfold mNe
  rw [hn, nI_clamp (by omega)]
  refine v_Mo_net_0 h ?_
  simp only [ewS_S]
  have key : ∀ (f : Nat) (z : pSt) (w : Nat → Nat → Int32), n < f + z.1 → mFq h w [204, 205, 206, 207, 208, 209, 210] [12, 13, 14, 15, 16, 17, 18, 21, 24] → mPS w n z → pWF z → pNm z → w 194 13 = -1 → w 194 14 = 0 → ppa (h 203) n f z = ppa (h 203) n 241 ppS →
      ewP X Mo_net (d + 5) 32 [some (.ref 194), some (.int 0)] [] (0, 0) (229, ewR cu sp n1 n2 n3 n4, w) (fun v S' => ∃ (h' : Nat → Nat → Int32) (y : Int32), (mFq h h' [195, 196, 197, 198, 199, 200, 201, 202, 204, 205, 206, 207, 208, 209, 210, 211, 228] [0, 1, 4, 12, 13, 14, 15, 16, 17, 18, 21, 24, 47] ∧ h' 194 12 = 0 ∧
  match ppa (h 203) n 241 ppS with
  | .inl x => y = -10 - nI x.1 ∧ h' 194 13 = nI x.2.1 ∧ h' 194 14 = nI x.2.2 ∧ mFq h h' [204, 205, 206, 207, 208, 209, 210] [12, 13, 14, 15, 16, 17, 18, 21, 24]
  | .inr z => y = nI z.2.1.1 ∧ h' 194 13 = -1 ∧ h' 194 14 = 0 ∧ pWF z ∧ pNm z ∧ mNt h' z.2.1.1 z.2.2.1.1 z.2.2.1.2.1 z.2.2.1.2.2 z.2.2.2.1 z.2.2.2.2.1 z.2.2.2.2.2 ∧ (∀ j, j < 25 → h' 202 j = pS0 z.2.1.2.1 z.2.1.2.2 j) ∧ h' 194 47 = 0 ∧ h' 228 0 = 0 ∧ h' 228 1 = 0) ∧ v = some (.int y) ∧ S' = (229, ewR cu sp n1 n2 n3 n4, h')) := by
    intro f
    induction f with
    | zero => intro z w hf _ hz; have := hz.1.2.2.1; omega
    | succ f ih =>
      intro z w hf hfr hz hwf hnm h13 h14 hres
      have hz1 := hz.1.2.2.1
      obtain ⟨ef, eg⟩ := hz.here
      have t3 : w 203 = h 203 := hfr.1 203 (by decide) (by decide)
      rw [t3] at ef eg
      have pz := psk_le (t := h 203) (n := n) (n - z.1) z.1 (by omega)
      -- the heap at the next letter
      generalize hG : g_Mo_here w = G at *
      have Gfr : mFq w G [] [15] := by
        rw [eg]
        refine ⟨fun k hk _ => ewS_ne _ _ hk, fun j hj => ?_⟩
        simp at hj
        simp [ewS, upd, hj]
      have Gz : mPS G n (psk (h 203) n z.1, z.2) := by
        obtain ⟨⟨q1, q2, q3, q4⟩, q5, q6, q7⟩ := hz
        refine ⟨⟨by rw [eg]; simp [ewS, upd], by rw [Gfr.2 12 (by decide)]; exact q2, pz.2.1, q4⟩, ?_, ?_, ?_⟩
        · rw [Gfr.2 18 (by decide), Gfr.1 204 (by decide) (by decide), Gfr.1 205 (by decide) (by decide), Gfr.1 210 (by decide) (by decide)]; exact q5
        · rw [Gfr.2 21 (by decide), Gfr.1 206 (by decide) (by decide), Gfr.1 207 (by decide) (by decide)]; exact q6
        · rw [Gfr.2 24 (by decide), Gfr.1 208 (by decide) (by decide), Gfr.1 209 (by decide) (by decide)]; exact q7
      have hfG : mFq h G [204, 205, 206, 207, 208, 209, 210] [12, 13, 14, 15, 16, 17, 18, 21, 24] := hfr.tr (Gfr.wk (by simp) (by simp))
      have hneg : f_Mo_here w < 0 ↔ ¬ psk (h 203) n z.1 < n := by
        rw [ef]
        by_cases q : psk (h 203) n z.1 < n
        · rw [if_pos q]; exact ⟨fun r => absurd r (hpos _ q), fun r => absurd q r⟩
        · rw [if_neg q]; exact ⟨fun _ => q, fun _ => by decide⟩
      have stop : ¬ psk (h 203) n z.1 < n → ppa (h 203) n 241 ppS = .inr z := by
        intro q
        rw [← hres]
        show (if _ then _ else _) = _
        rw [if_neg q]
      have Gp : mPR (ewS G 194 (upd (G 194) 12 0)) z := Gz.2
      refine v_Mo_net_32 0 w (fun q => absurd rfl q) (fun q => absurd rfl q) (fun q => absurd rfl q) (fun _ => ⟨z.1, n, hz.1⟩) (fun _ q _ => ?_) (fun _ q _ w13 hw => ?_) (fun _ _ q => absurd q (by decide)) (fun _ q => ?_) (fun _ q w16 y17 hw => ?_)
      · rw [hG]; exact ⟨z, Gp, hwf, hnm⟩
      · rw [hG] at hw
        obtain ⟨r1, r2⟩ := hw
        obtain ⟨r3, r4, r5, r6, r7⟩ := r2 z Gp hwf hnm
        rw [stop (hneg.mp q)]
        have fr2 : mFq h w13 [195, 196, 197, 198, 199, 200, 201, 202, 204, 205, 206, 207, 208, 209, 210, 211, 228] [0, 1, 4, 12, 13, 14, 15, 16, 17, 18, 21, 24, 47] := by
          refine (hfG.wk (by simp) (by simp)).tr (mFq.tr (h1 := ewS G 194 (upd (G 194) 12 0)) ⟨fun k hk _ => ewS_ne _ _ hk, fun j hj => ?_⟩ (r1.wk (by simp) (by simp)))
          simp at hj
          simp [ewS, upd, hj]
        refine ⟨w13, _, ⟨fr2, ?_, r3.1.1, ?_, ?_, hwf, hnm, r3, r4, r5, r6, r7⟩, rfl, rfl⟩
        · rw [r1.2 12 (by decide)]; simp [ewS, upd]
        · rw [r1.2 13 (by decide)]; simp [ewS, upd]; rw [Gfr.2 13 (by decide)]; exact h13
        · rw [r1.2 14 (by decide)]; simp [ewS, upd]; rw [Gfr.2 14 (by decide)]; exact h14
      · rw [hG]
        have q2 : psk (h 203) n z.1 < n := by
          by_cases r : psk (h 203) n z.1 < n
          · exact r
          · exact absurd (hneg.mpr r) q
        refine ⟨n, _, Gz, hwf, ?_⟩
        rw [Gfr.1 203 (by decide) (by decide), t3]
        show psk (h 203) n (psk (h 203) n z.1) < n
        rw [psk_id hz1]; exact q2
      · have q2 : psk (h 203) n z.1 < n := by
          by_cases r : psk (h 203) n z.1 < n
          · exact r
          · exact absurd (hneg.mpr r) q
        rw [hG] at hw
        obtain ⟨r1, r2⟩ := hw
        have r2 := r2 n _ Gz hwf (by
          rw [Gfr.1 203 (by decide) (by decide), t3]
          show psk (h 203) n (psk (h 203) n z.1) < n
          rw [psk_id hz1]; exact q2)
        rw [Gfr.1 203 (by decide) (by decide), t3, pcl_id hz1] at r2
        have hfW : mFq h w16 [204, 205, 206, 207, 208, 209, 210] [12, 13, 14, 15, 16, 17, 18, 21, 24] := hfG.tr (r1.wk (by simp) (by simp))
        have hres2 : ppa (h 203) n 241 ppS = (match pcl (h 203) n z with
            | .inl x => .inl x
            | .inr z' => ppa (h 203) n f z') := by
          rw [← hres]
          show (if _ then _ else _) = _
          rw [if_pos q2]
          rfl
        cases hc : pcl (h 203) n z with
        | inl x =>
          rw [hc] at r2 hres2
          obtain ⟨s1, s2, s3, s4, s5⟩ := r2
          have hy : 0 < y17 := by rw [s1]; exact (nI_pos2 (by omega)).mpr s2
          have hy0 : ¬ y17 = 0 := by rw [s1]; exact nI_ne0 (by omega) (by omega)
          refine v_Mo_net_32 y17 w16 (fun _ q => absurd hy q) (fun _ q => absurd hy q) (fun _ _ => ?_) (fun q => absurd q hy0) (fun q => absurd q hy0) (fun q => absurd q hy0) (fun q => absurd q hy0) (fun q => absurd q hy0) (fun q => absurd q hy0)
          rw [hres2]
          have fr3 : mFq h (ewS w16 194 (upd (w16 194) 12 0)) [204, 205, 206, 207, 208, 209, 210] [12, 13, 14, 15, 16, 17, 18, 21, 24] := by
            refine hfW.tr ⟨fun k hk _ => ewS_ne _ _ hk, fun j hj => ?_⟩
            simp at hj
            simp [ewS, upd, hj]
          refine ⟨_, _, ⟨fr3.wk (by simp) (by simp), by simp [ewS, upd], by rw [s1], ?_, ?_, fr3⟩, rfl, rfl⟩
          · simp [ewS, upd]; exact s4
          · simp [ewS, upd]
            rw [s5, Gfr.2 14 (by decide), h14]
            split
            · rename_i q; rw [q]; rfl
            · rfl
        | inr z' =>
          rw [hc] at r2 hres2
          obtain ⟨s1, s2, s3, s4, s5⟩ := r2
          obtain ⟨c1, c2, c3⟩ := pcl_in hc q2 hz1
          rw [s1]
          exact ih z' w16 (by omega) hfW s2 s3 (c3 hnm) (by rw [s4, Gfr.2 13 (by decide)]; exact h13) (by rw [s5, Gfr.2 14 (by decide)]; exact h14) hres2.symm
  refine key 241 ppS _ (by show n < 241 + 0; omega) ⟨fun k hk _ => ewS_ne _ _ hk, fun j hj => ?_⟩ ⟨⟨?_, ?_, by show 0 ≤ n; omega, hn2⟩, ⟨?_, by show 0 ≤ 8; omega, fun s hs => absurd hs (Nat.not_lt_zero _)⟩, ⟨?_, by show 0 ≤ 7; omega, fun s hs => absurd hs (Nat.not_lt_zero _)⟩, ⟨?_, by show 0 ≤ 3; omega, fun s hs => absurd hs (Nat.not_lt_zero _)⟩⟩ ⟨fun s hs => absurd hs (Nat.not_lt_zero _), fun s hs => absurd hs (Nat.not_lt_zero _), fun s hs => absurd hs (Nat.not_lt_zero _)⟩ ⟨fun s _ => ⟨rfl, rfl⟩, fun s _ => ⟨rfl, rfl⟩, fun s _ => ⟨rfl, rfl⟩⟩ ?_ ?_ rfl
  · simp at hj
    simp [ewS, upd, hj]
  · rfl
  · exact hn
  · rfl
  · rfl
  · rfl
  · rfl
  · rfl
