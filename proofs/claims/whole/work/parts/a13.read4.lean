/-! a clause of the text -/
theorem cR.u {h : Nat → Nat → Int32} {a n fl a' n' fl' : Nat} {fp wy fp' wy' : Int32} (x : cR h a n fl fp wy) (y : cR h a' n' fl' fp' wy') : a = a' ∧ n = n' ∧ fl = fl' ∧ fp = fp' ∧ wy = wy' := by
  obtain ⟨x1, x2, x3, x4, x5, x6⟩ := x
  obtain ⟨y1, y2, y3, y4, y5, y6⟩ := y
  exact ⟨(nI_eq (by omega) (by omega)).mp (x1.symm.trans y1), (nI_eq (by omega) (by omega)).mp (x2.symm.trans y2), (nI_eq (by omega) (by omega)).mp (x4.1.symm.trans y4.1), x5.symm.trans y5, x6.symm.trans y6⟩
def qRn (t : Nat → Int32) (n : Nat) (h h' : Nat → Nat → Int32) (y : Int32) : Prop := rFr h h' ∧ ∀ a fl fp, cR h a n fl fp 0 → cR h' (pnq t n a) n (if fl = 0 then pn0 t n a else fl) (if fl = 0 ∧ pn0 t n a ≠ 0 then nI (pnp t n a) else fp) 0 ∧ h' 1 6 = nI (pnp t n a) ∧ y = (if fl = 0 ∧ pn0 t n a = 0 then nI (pnv t n a) else 0)
/-- what a clause leaves -/
def qRc (h : Nat → Nat → Int32) (n : Nat) (z : pSt) (h' : Nat → Nat → Int32) : Prop := (∀ k, k ≠ 1 → ¬ (35 ≤ k ∧ k ≤ 66) → h' k = h k) ∧
  match pcl (h 2) n z with
  | .inl x => x.1 ≠ 0 ∧ ∃ a', cR h' a' n x.1 (nI x.2.1) (nI x.2.2)
  | .inr z' => cR h' z'.1 n 0 (-1) 0 ∧ cNz h' z' ∧ pWF z'
theorem pMy.lt {z : pSt} {c : Int32} {a b : Nat} (h : pMy z c a b) (h8 : z.2.1.1 ≤ 8) : a < 100 ∧ b < 100 := by
  rcases h with ⟨-, h1, h2, h3⟩ | ⟨-, h1, h2, h3, -⟩ | ⟨-, h1, h2, h3, -⟩ <;> exact ⟨by omega, by omega⟩
set_option maxHeartbeats 2000000 in
theorem s_Re_readClause {X : Nat × (Nat → Int32)} {d : Nat} {cu sp n1 n2 n3 n4 : Nat} {z : pSt} {n : Nat} (h : Nat → Nat → Int32) (c0 : cR h z.1 n 0 (-1) 0) (cz : cNz h z) (w : pWF z) (hp : z.1 < n) (hk : psk (h 2) n z.1 = z.1) : ewP X Re_readClause (d + 4) 0 [some (.ref 1), some (.ref 35), some (.int (h 2 z.1)), none, none] [] (0, 0) (229, ewR cu sp n1 n2 n3 n4, h) (fun v S' => ∃ (h' : Nat → Nat → Int32), qRc h n z h' ∧ v = none ∧ S' = (229, ewR cu sp n1 n2 n3 n4, h')) := by
  have hn240 := c0.2.2.1.2
  obtain ⟨cS, cE, cL⟩ := id cz
  have l0 : nI z.2.1.1 < 8 ↔ z.2.1.1 < 8 := nI_ltb (b := 8) (by have := cS.2.1; omega) (by omega)
  have l1 : nI z.2.2.1.1 < 7 ↔ z.2.2.1.1 < 7 := nI_ltb (b := 7) (by have := cE.2.1; omega) (by omega)
  have l2 : nI z.2.2.2.1 < 3 ↔ z.2.2.2.1 < 3 := nI_ltb (b := 3) (by have := cL.2.1; omega) (by omega)
  generalize ec : h 2 z.1 = c
  have ec' : h 2 (psk (h 2) n z.1) = c := by rw [hk]; exact ec
  generalize et : h 2 = t at *
  have isF : f_Ne_isFull h c ↔ ((c = 115 ∧ ¬ z.2.1.1 < 8) ∨ (¬ c = 115 ∧ ((c = 101 ∧ ¬ z.2.2.1.1 < 7) ∨ (¬ c = 101 ∧ ¬ z.2.2.2.1 < 3)))) := by
    show (((c = 115) ∧ (¬ ((h 35 0) < 8))) ∨ (¬ (c = 115) ∧ (((c = 101) ∧ (¬ ((h 35 1) < 7))) ∨ (¬ (c = 101) ∧ (¬ ((h 35 2) < 3)))))) ↔ _
    rw [cS.1, cE.1, cL.1, l0, l1, l2]
  -- faults at once
  have quick : ∀ x, x = 1 ∨ x = 3 → pcl t n z = .inl (x, z.1, 0) → ∃ (h' : Nat → Nat → Int32), qRc h n z h' ∧ (none : Option Value) = none ∧ ((229, ewR cu sp n1 n2 n3 n4, (g_Re_blame h (nI x) (h 1 5))) : eS) = (229, ewR cu sp n1 n2 n3 n4, h') := by
    intro x hx hq
    obtain ⟨b1, b2, -⟩ := blame_n c0 (show x ≤ 4 by omega) (h 1 5)
    refine ⟨_, ⟨fun k k1 k2 => b1 k k1, ?_⟩, rfl, rfl⟩
    rw [et, hq]
    refine ⟨by show x ≠ 0; omega, z.1, ?_⟩
    have b2' := b2
    rw [if_pos rfl, if_pos rfl, c0.1] at b2'
    rw [c0.1]
    exact b2'
  have go : (c = 115 ∨ c = 101 ∨ c = 108) → ¬ f_Ne_isFull h c → (∃ a fl fp, cR (ewS h 1 (upd (h 1) 5 ((h 1 5) + 1))) a n fl fp 0 ∧ ewS h 1 (upd (h 1) 5 ((h 1 5) + 1)) 2 = t) ∧ ∀ w6 y7, qRn t n (ewS h 1 (upd (h 1) 5 ((h 1 5) + 1))) w6 y7 → (∃ a fl fp, cR (g_Re_checkStation w6 c y7) a n fl fp 0 ∧ g_Re_checkStation w6 c y7 2 = t) ∧ ∀ w10 y11, qRn t n (g_Re_checkStation w6 c y7) w10 y11 → p_Re_checkSense (g_Re_checkStation w10 c y11) c y7 y11 ∧ p_Re_readEnd (g_Re_checkSense (g_Re_checkStation w10 c y11) c y7 y11) ∧
      (¬ g_Re_readEnd (g_Re_checkSense (g_Re_checkStation w10 c y11) c y7 y11) 1 4 = 0 → ∃ (h' : Nat → Nat → Int32), qRc h n z h' ∧ (none : Option Value) = none ∧ ((229, ewR cu sp n1 n2 n3 n4, g_Re_readEnd (g_Re_checkSense (g_Re_checkStation w10 c y11) c y7 y11)) : eS) = (229, ewR cu sp n1 n2 n3 n4, h')) ∧
      (g_Re_readEnd (g_Re_checkSense (g_Re_checkStation w10 c y11) c y7 y11) 1 4 = 0 → ∃ a b, cNz (g_Re_readEnd (g_Re_checkSense (g_Re_checkStation w10 c y11) c y7 y11)) z ∧ c = c ∧ y7 = nI a ∧ y11 = nI b ∧ pMy z c a b) ∧
      (g_Re_readEnd (g_Re_checkSense (g_Re_checkStation w10 c y11) c y7 y11) 1 4 = 0 → ∀ w16, (nFr (g_Re_readEnd (g_Re_checkSense (g_Re_checkStation w10 c y11) c y7 y11)) w16 ∧ ∀ a b, y7 = nI a → y11 = nI b → a < 100 → b < 100 → ∀ i, cNz w16 (i, pAd z c a b)) → ∃ (h' : Nat → Nat → Int32), qRc h n z h' ∧ (none : Option Value) = none ∧ ((229, ewR cu sp n1 n2 n3 n4, w16) : eS) = (229, ewR cu sp n1 n2 n3 n4, h')) := by
    intro hc hf
    have hf' : ¬ ((c = 115 ∧ z.2.1.1 = 8) ∨ (c = 101 ∧ z.2.2.1.1 = 7) ∨ (c = 108 ∧ z.2.2.2.1 = 3)) := by
      intro q
      refine hf (isF.mpr ?_)
      rcases q with ⟨rfl, q⟩ | ⟨rfl, q⟩ | ⟨rfl, q⟩
      · exact Or.inl ⟨rfl, by omega⟩
      · exact Or.inr ⟨by decide, Or.inl ⟨rfl, by omega⟩⟩
      · exact Or.inr ⟨by decide, Or.inr ⟨by decide, by omega⟩⟩
    have i0 : cR (ewS h 1 (upd (h 1) 5 ((h 1 5) + 1))) (z.1 + 1) n 0 (-1) 0 := by
      obtain ⟨d1, d2, d3, d4, d5, d6⟩ := c0
      refine ⟨?_, d2, ⟨by omega, hn240⟩, d4, d5, d6⟩
      show h 1 5 + 1 = _
      rw [d1, nI_succ]
    obtain ⟨g1, g2, g3, g4⟩ := pcl_go (t := t) (n := n) (z := z) ec' hc hf' rfl rfl
    rw [hk] at g1 g2 g3 g4
    generalize hlim : (if c = 115 then 100 else z.2.1.1) = lim at g1 g2 g3 g4
    generalize hw0 : (if c = 115 then 0 else pwy (plb z.2.2.1.2.1 z.2.2.1.2.2 z.2.2.1.1) (decide (c = 101)) (pnv t n (z.1 + 1)) (pnv t n (pnq t n (z.1 + 1)))) = wz at g2 g3 g4
    refine ⟨⟨_, _, _, i0, et⟩, fun w6 y7 ⟨r1, r2⟩ => ?_⟩
    obtain ⟨a1, a2, a3⟩ := r2 _ _ _ i0
    have e35 : w6 35 0 = nI z.2.1.1 := by rw [r1 35 (by decide)]; exact cS.1
    obtain ⟨q1, q2⟩ := pnq_l2 (t := t) (show z.1 + 1 ≤ n by omega)
    obtain ⟨b1, b2, b3⟩ := chk_n a1 a2 a3 e35 cS.2.1 (by omega) hlim
    have w62 : w6 2 = t := (r1 2 (by decide)).trans et
    refine ⟨⟨_, _, _, b2, (b1 2 (by decide)).trans w62⟩, fun w10 y11 ⟨r3, r4⟩ => ?_⟩
    obtain ⟨a4, a5, a6⟩ := r4 _ _ _ b2
    have fr10 : ∀ k, k ≠ 1 → w10 k = h k := fun k hk' => by rw [r3 k hk', b1 k hk', r1 k hk']; exact ewS_ne _ _ hk'
    obtain ⟨b4, b5, b6⟩ := chk_n (c := c) a4 a5 a6 (by rw [fr10 35 (by decide)]; exact cS.1) cS.2.1 q2 hlim
    -- both numbers
    have F2 : (if (if (0 : Nat) = 0 then pnf t n (z.1 + 1) lim else 0) = 0 then pnf t n (pnq t n (z.1 + 1)) lim else (if (0 : Nat) = 0 then pnf t n (z.1 + 1) lim else 0)) = p2f t n (z.1 + 1) lim := by
      rw [if_pos rfl]; rfl
    have P2 : p2f t n (z.1 + 1) lim ≠ 0 → (if (if (0 : Nat) = 0 then pnf t n (z.1 + 1) lim else 0) = 0 ∧ pnf t n (pnq t n (z.1 + 1)) lim ≠ 0 then nI (pnp t n (pnq t n (z.1 + 1))) else (if (0 : Nat) = 0 ∧ pnf t n (z.1 + 1) lim ≠ 0 then nI (pnp t n (z.1 + 1)) else -1)) = nI (p2p t n (z.1 + 1) lim) := by
      intro q
      unfold p2f at q
      unfold p2p
      rw [if_pos (rfl : (0 : Nat) = 0)]
      by_cases y : pnf t n (z.1 + 1) lim = 0
      · rw [if_pos y] at q ⊢
        rw [if_pos ⟨y, q⟩]
      · rw [if_neg (fun k => y k.1), if_pos ⟨rfl, y⟩, if_neg y]
    have N2 : p2f t n (z.1 + 1) lim = 0 → (pnf t n (z.1 + 1) lim = 0 ∧ pnf t n (pnq t n (z.1 + 1)) lim = 0) := by
      intro q
      unfold p2f at q
      by_cases y : pnf t n (z.1 + 1) lim = 0
      · rw [if_pos y] at q; exact ⟨y, q⟩
      · rw [if_neg y] at q; exact absurd q y
    have Y2 : p2f t n (z.1 + 1) lim = 0 → y7 = nI (pnv t n (z.1 + 1)) ∧ y11 = nI (pnv t n (pnq t n (z.1 + 1))) ∧ pnv t n (z.1 + 1) < lim ∧ pnv t n (pnq t n (z.1 + 1)) < lim := by
      intro q
      obtain ⟨n1, n2⟩ := N2 q
      have z0 : ∀ a, pnf t n a lim = 0 → pn0 t n a = 0 := by
        intro a ha
        rw [pnf_0] at ha
        by_cases y : pn0 t n a = 0
        · exact y
        · rw [if_pos y] at ha; exact ha
      refine ⟨?_, ?_, pn_facts n1, pn_facts n2⟩
      · rw [a3, if_pos ⟨rfl, z0 _ n1⟩]
      · rw [a6, if_pos ⟨by rw [if_pos rfl]; exact n1, z0 _ n2⟩]
    rw [F2] at b5
    have fr2 : ∀ k, k ≠ 1 → g_Re_checkStation w10 c y11 k = h k := fun k hk' => (b4 k hk').trans (fr10 k hk')
    obtain ⟨s1, s2, s3⟩ := sns_n (u := pnv t n (z.1 + 1)) (v := pnv t n (pnq t n (z.1 + 1))) (ns := z.2.1.1) (A := z.2.2.1.2.1) (B := z.2.2.1.2.2) (m := z.2.2.1.1) (x := y7) (y := y11) hc b5 b6 cS.2.1 (fun q q' => by
      obtain ⟨x1, x2, x3, x4⟩ := Y2 q
      rw [← hlim, if_neg q'] at x3 x4
      exact ⟨x1, x2, x3, x4⟩) (fun s hs => by rw [fr2 42 (by decide)]; exact (cS.2.2 s hs).2.2) hw0
    have t3 : g_Re_checkSense (g_Re_checkStation w10 c y11) c y7 y11 2 = t := by rw [s2 2 (by decide), fr2 2 (by decide)]; exact et
    obtain ⟨x1, x2, a', x3, x4⟩ := end_n s3
    rw [t3] at x3 x4
    have frE : ∀ k, k ≠ 1 → g_Re_readEnd (g_Re_checkSense (g_Re_checkStation w10 c y11) c y7 y11) k = h k := fun k hk' => by rw [x2 k hk', s2 k hk']; exact fr2 k hk'
    generalize g_Re_readEnd (g_Re_checkSense (g_Re_checkStation w10 c y11) c y7 y11) = H at *
    refine ⟨s1, x1, ?_⟩
    -- the four ends
    by_cases p0 : p2f t n (z.1 + 1) lim = 0
    · by_cases w0 : wz = 0
      · by_cases e0 : psk t n (pnq t n (pnq t n (z.1 + 1))) < n ∧ t (psk t n (pnq t n (pnq t n (z.1 + 1)))) = 59
        · have hq := g4 p0 w0 e0
          have ea := x4 e0
          subst ea
          obtain ⟨n1, n2⟩ := N2 p0
          simp only [p0, w0, e0.1, e0.2, n1, n2, ne_eq, not_true_eq_false, not_false_eq_true, and_false, and_true, and_self, if_true, if_false, true_and, false_and] at x3
          have z4 : H 1 4 = 0 := x3.2.2.2.1.1
          obtain ⟨v1, v2, v3, v4⟩ := Y2 p0
          have my : pMy z c (pnv t n (z.1 + 1)) (pnv t n (pnq t n (z.1 + 1))) := by
            rw [← hlim] at v3 v4
            rw [← hw0] at w0
            rcases hc with rfl | rfl | rfl
            · exact Or.inl ⟨rfl, Nat.lt_of_le_of_ne cS.2.1 (fun q => hf' (Or.inl ⟨rfl, q⟩)), v3, v4⟩
            · refine Or.inr (Or.inl ⟨rfl, Nat.lt_of_le_of_ne cE.2.1 (fun q => hf' (Or.inr (Or.inl ⟨rfl, q⟩))), v3, v4, fun q => ?_⟩)
              rw [if_neg (by decide)] at w0
              unfold pwy at w0
              rw [decide_eq_true rfl, if_pos rfl, if_pos q] at w0
              split at w0 <;> exact absurd w0 (by decide)
            · rw [if_neg (by decide)] at w0
              unfold pwy at w0
              rw [show decide ((108 : Int32) = 101) = false by decide, if_neg (show ¬ false = true by decide)] at w0
              split at w0
              · exact absurd w0 (by decide)
              · rename_i qn
                split at w0
                · rename_i qe
                  exact Or.inr (Or.inr ⟨rfl, Nat.lt_of_le_of_ne cL.2.1 (fun q => hf' (Or.inr (Or.inr ⟨rfl, q⟩))), v3, v4, qn, qe⟩)
                · exact absurd w0 (by decide)
          refine ⟨fun k => absurd z4 k, fun _ => ⟨_, _, cz.fr (fun k k1 k2 => frE k (by omega)), rfl, v1, v2, my⟩, fun _ w16 ⟨f1, f2⟩ => ⟨w16, ⟨fun k k1 k2 => (f1 k k2).trans (frE k k1), ?_⟩, rfl, rfl⟩⟩
          rw [et, hq]
          have lt := my.lt cS.2.1
          refine ⟨?_, f2 _ _ v1 v2 lt.1 lt.2 _, pAd_wf w my⟩
          obtain ⟨d1, d2, d3, d4, d5, d6⟩ := x3
          have r1 : w16 1 = H 1 := f1 1 (by omega)
          exact ⟨by rw [r1]; exact d1, by rw [r1]; exact d2, d3, by rw [r1]; exact d4, by rw [r1]; exact d5, by rw [r1]; exact d6⟩
        · have hq := g3 p0 w0 e0
          simp only [p0, w0, e0, ne_eq, not_true_eq_false, not_false_eq_true, and_false, and_true, and_self, if_true, if_false, true_and, false_and] at x3
          have z4 : ¬ H 1 4 = 0 := by rw [x3.2.2.2.1.1]; decide
          refine ⟨fun _ => ⟨H, ⟨fun k k1 k2 => frE k k1, ?_⟩, rfl, rfl⟩, fun k => absurd k z4, fun k => absurd k z4⟩
          rw [et, hq]
          exact ⟨show (1 : Nat) ≠ 0 by decide, a', x3⟩
      · have hq := g2 p0 w0
        simp only [p0, w0, ne_eq, not_true_eq_false, not_false_eq_true, and_false, and_true, and_self, if_true, if_false, true_and, false_and, show ((4 : Nat) = 0) = False from eq_false (by decide)] at x3
        have z4 : ¬ H 1 4 = 0 := by rw [x3.2.2.2.1.1]; decide
        refine ⟨fun _ => ⟨H, ⟨fun k k1 k2 => frE k k1, ?_⟩, rfl, rfl⟩, fun k => absurd k z4, fun k => absurd k z4⟩
        rw [et, hq]
        exact ⟨show (4 : Nat) ≠ 0 by decide, a', x3⟩
    · have hq := g1 p0
      have hF3 : ∀ P : Prop, ¬ (p2f t n (z.1 + 1) lim = 0 ∧ P) := fun P k => p0 k.1
      rw [if_neg (hF3 _), if_neg (hF3 _), if_neg (hF3 _), if_neg (hF3 _), if_neg p0, P2 p0] at x3
      have z4 : ¬ H 1 4 = 0 := by
        rw [x3.2.2.2.1.1]
        exact fun k => p0 ((nI_eq (b := 0) (by have := x3.2.2.2.1.2; omega) (by omega)).mp k)
      refine ⟨fun _ => ⟨H, ⟨fun k k1 k2 => frE k k1, ?_⟩, rfl, rfl⟩, fun k => absurd k z4, fun k => absurd k z4⟩
      rw [et, hq]
      exact ⟨p0, a', x3⟩
  refine v_Re_readClause_0 c h (P_Re_readNumber := fun h' => ∃ a fl fp, cR h' a n fl fp 0 ∧ h' 2 = t) (R_Re_readNumber := qRn t n) (fun h' hP => ?_) (P_Ne_add := fun h' x1 x2 x3 => ∃ a b, cNz h' z ∧ x1 = c ∧ x2 = nI a ∧ x3 = nI b ∧ pMy z c a b) (R_Ne_add := fun h' x1 x2 x3 h'' => nFr h' h'' ∧ ∀ a b, x2 = nI a → x3 = nI b → a < 100 → b < 100 → ∀ i, cNz h'' (i, pAd z c a b)) (fun x1 x2 x3 h' hP => ?_)
    (fun q1 q2 => (go (Or.inl q1) q2).1) (fun q1 q2 => (go (Or.inl q1) q2).2) (fun q1 q2 => quick 3 (Or.inr rfl) ?_) (fun q1 q2 q3 => (go (Or.inr (Or.inl q2)) q3).1) (fun q1 q2 q3 => (go (Or.inr (Or.inl q2)) q3).2) (fun q1 q2 q3 => quick 3 (Or.inr rfl) ?_) (fun q1 q2 q3 q4 => (go (Or.inr (Or.inr q3)) q4).1) (fun q1 q2 q3 q4 => (go (Or.inr (Or.inr q3)) q4).2) (fun q1 q2 q3 q4 => quick 3 (Or.inr rfl) ?_) (fun q1 q2 q3 => quick 1 (Or.inl rfl) ?_)
  · obtain ⟨a, fl, fp, hc, h2⟩ := hP
    refine ewP_m (fun v S' q => ?_) (s_Re_readNumber (d := d + 2) h' hc)
    obtain ⟨h'', y, ⟨x1, x2, x3, x4⟩, e1, e2⟩ := q
    rw [h2] at x2 x3 x4
    refine ⟨h'', y, ⟨x1, fun a1 fl1 fp1 hc1 => ?_⟩, e1, e2⟩
    obtain ⟨rfl, -, rfl, rfl, -⟩ := hc.u hc1
    exact ⟨x2, x3, x4⟩
  · obtain ⟨a, b, hz, rfl, rfl, rfl, my⟩ := hP
    refine ewP_m (fun v S' q => ?_) (s_Ne_add (d := d) h' hz w my)
    obtain ⟨h'', ⟨x1, x2⟩, e1, e2⟩ := q
    refine ⟨h'', ⟨x1, fun a1 b1 ea eb la lb i => ?_⟩, e1, e2⟩
    have lt := my.lt cS.2.1
    have := (nI_eq (by omega) (by omega)).mp ea
    have := (nI_eq (by omega) (by omega)).mp eb
    subst a1 b1
    exact x2 i
  all_goals
    rw [← hk]
    first
    | (refine pcl_bad ?_ ?_ ?_ <;> rw [ec'] <;> assumption)
    | (refine pcl_full ?_
       rw [ec']
       have := isF.mp (by assumption)
       have b1 := cS.2.1
       have b2 := cE.2.1
       have b3 := cL.2.1
       rcases this with ⟨k1, k2⟩ | ⟨k1, ⟨k2, k3⟩ | ⟨k2, k3⟩⟩
       · exact Or.inl ⟨k1, by omega⟩
       · exact Or.inr (Or.inl ⟨k2, by omega⟩)
       · first
         | exact absurd (by assumption) k1
         | exact absurd (by assumption) k2
         | exact Or.inr (Or.inr ⟨by assumption, by omega⟩))
