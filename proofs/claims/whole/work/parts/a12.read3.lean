/-! Net.add; a clause; a text -/
def cNz (h : Nat → Nat → Int32) (z : pSt) : Prop := cS35 h z.2.1.1 z.2.1.2.1 z.2.1.2.2 z.2.2.1.2.1 z.2.2.1.2.2 z.2.2.1.1 ∧ cE35 h z.2.2.1.1 z.2.2.1.2.1 z.2.2.1.2.2 ∧ cL35 h z.2.2.1.1 z.2.2.1.2.1 z.2.2.1.2.2 z.2.2.2.1 z.2.2.2.2.1 z.2.2.2.2.2
theorem cNz.fr {h h' : Nat → Nat → Int32} {z : pSt} (c : cNz h z) (f : ∀ k, 35 ≤ k → k ≤ 66 → h' k = h k) : cNz h' z := by
  obtain ⟨c1, c2, c3⟩ := c
  exact ⟨c1.fr (by rw [f 35 (by omega) (by omega)]) (f 36 (by omega) (by omega)) (f 37 (by omega) (by omega)) (f 42 (by omega) (by omega)), c2.fr (by rw [f 35 (by omega) (by omega)]) (f 38 (by omega) (by omega)) (f 39 (by omega) (by omega)) (f 43 (by omega) (by omega)) (f 44 (by omega) (by omega)) (fun e he => f _ (by omega) (by omega)), c3.fr (by rw [f 35 (by omega) (by omega)]) (f 40 (by omega) (by omega)) (f 41 (by omega) (by omega)) (f 45 (by omega) (by omega)) (f 46 (by omega) (by omega)) (f 47 (by omega) (by omega)) (f 48 (by omega) (by omega)) (f 49 (by omega) (by omega)) (fun e he => f _ (by omega) (by omega))⟩
theorem pWF.ok {z : pSt} (w : pWF z) : cOK z.2.1.1 z.2.2.1.1 z.2.2.1.2.1 z.2.2.1.2.2 z.2.2.2.1 z.2.2.2.2.1 z.2.2.2.2.2 := ⟨fun e he => ⟨(w.2.1 e he).1, (w.2.1 e he).2.1⟩, fun e he => (w.2.1 e he).2.2, fun l hl => w.2.2 l hl⟩
/-- what a clause adds -/
def pAd (z : pSt) (c : Int32) (a b : Nat) : (Nat × (Nat → Nat) × (Nat → Nat)) × (Nat × (Nat → Nat) × (Nat → Nat)) × (Nat × (Nat → Nat) × (Nat → Nat)) :=
  if c = 115 then ((z.2.1.1 + 1, pup z.2.1.2.1 z.2.1.1 a, pup z.2.1.2.2 z.2.1.1 b), z.2.2.1, z.2.2.2)
  else if c = 101 then (z.2.1, (z.2.2.1.1 + 1, pup z.2.2.1.2.1 z.2.2.1.1 a, pup z.2.2.1.2.2 z.2.2.1.1 b), z.2.2.2)
  else (z.2.1, z.2.2.1, (z.2.2.2.1 + 1, pup z.2.2.2.2.1 z.2.2.2.1 a, pup z.2.2.2.2.2 z.2.2.2.1 b))
/-- it may be added -/
def pMy (z : pSt) (c : Int32) (a b : Nat) : Prop := (c = 115 ∧ z.2.1.1 < 8 ∧ a < 100 ∧ b < 100) ∨ (c = 101 ∧ z.2.2.1.1 < 7 ∧ a < z.2.1.1 ∧ b < z.2.1.1 ∧ plb z.2.2.1.2.1 z.2.2.1.2.2 z.2.2.1.1 a ≠ plb z.2.2.1.2.1 z.2.2.1.2.2 z.2.2.1.1 b) ∨ (c = 108 ∧ z.2.2.2.1 < 3 ∧ a < z.2.1.1 ∧ b < z.2.1.1 ∧ a ≠ b ∧ plb z.2.2.1.2.1 z.2.2.1.2.2 z.2.2.1.1 a = plb z.2.2.1.2.1 z.2.2.1.2.2 z.2.2.1.1 b)
theorem pAd_wf {z : pSt} {c : Int32} {a b i : Nat} (w : pWF z) (h : pMy z c a b) : pWF (i, pAd z c a b) := by
  obtain ⟨w1, w2, w3⟩ := w
  rcases h with ⟨rfl, h1, h2, h3⟩ | ⟨rfl, h1, h2, h3, h4⟩ | ⟨rfl, h1, h2, h3, h4, h5⟩
  · unfold pAd
    rw [if_pos rfl]
    refine ⟨fun s hs => ?_, fun e he => ?_, fun l hl => ?_⟩
    · dsimp only at hs ⊢
      by_cases q : s = z.2.1.1
      · rw [q, pup_self, pup_self]; exact ⟨h2, h3⟩
      · rw [pup_ne _ _ q, pup_ne _ _ q]; exact w1 s (by omega)
    · obtain ⟨x1, x2, x3⟩ := w2 e he
      exact ⟨Nat.lt_succ_of_lt x1, Nat.lt_succ_of_lt x2, x3⟩
    · obtain ⟨x1, x2, x3⟩ := w3 l hl
      exact ⟨Nat.lt_succ_of_lt x1, Nat.lt_succ_of_lt x2, x3⟩
  · unfold pAd
    rw [if_neg (by decide), if_pos rfl]
    have ag : ∀ i, i < z.2.2.1.1 → pup z.2.2.1.2.1 z.2.2.1.1 a i = z.2.2.1.2.1 i ∧ pup z.2.2.1.2.2 z.2.2.1.1 b i = z.2.2.1.2.2 i := fun i hi => ⟨pup_ne _ _ (by omega), pup_ne _ _ (by omega)⟩
    refine ⟨w1, fun e he => ?_, fun l hl => ?_⟩
    · dsimp only at he ⊢
      rw [plb_congr e (fun i hi => ag i (by omega)), plb_congr e (fun i hi => ag i (by omega))]
      by_cases q : e = z.2.2.1.1
      · rw [q, pup_self, pup_self]; exact ⟨h2, h3, h4⟩
      · rw [pup_ne _ _ q, pup_ne _ _ q]; exact w2 e (by omega)
    · obtain ⟨x1, x2, x3, x4⟩ := w3 l hl
      refine ⟨x1, x2, x3, ?_⟩
      dsimp only
      refine plb_step _ _ _ ?_
      rw [plb_congr _ ag, plb_congr _ ag]; exact x4
  · unfold pAd
    rw [if_neg (by decide), if_neg (by decide)]
    refine ⟨w1, w2, fun l hl => ?_⟩
    dsimp only at hl ⊢
    by_cases q : l = z.2.2.2.1
    · rw [q, pup_self, pup_self]; exact ⟨h2, h3, h4, h5⟩
    · rw [pup_ne _ _ q, pup_ne _ _ q]; exact w3 l (by omega)
theorem s_Ne_add {X : Nat × (Nat → Int32)} {d : Nat} {cu sp n1 n2 n3 n4 : Nat} {z : pSt} {c : Int32} {a b : Nat} (h : Nat → Nat → Int32) (cz : cNz h z) (w : pWF z) (my : pMy z c a b) : ewP X Ne_add (d + 3) 0 [some (.ref 35), some (.int c), some (.int (nI a)), some (.int (nI b))] [] (0, 0) (229, ewR cu sp n1 n2 n3 n4, h) (fun v S' => ∃ (h' : Nat → Nat → Int32), (nFr h h' ∧ ∀ i, cNz h' (i, pAd z c a b)) ∧ v = none ∧ S' = (229, ewR cu sp n1 n2 n3 n4, h')) := by
  obtain ⟨cS, cE, cL⟩ := cz
  have ok := w.ok
  have full : ¬ f_Ne_isFull h c := by
    show ¬ (((c = 115) ∧ (¬ ((h 35 0) < 8))) ∨ (¬ (c = 115) ∧ (((c = 101) ∧ (¬ ((h 35 1) < 7))) ∨ (¬ (c = 101) ∧ (¬ ((h 35 2) < 3))))))
    rw [cS.1, cE.1, cL.1]
    have l0 : nI z.2.1.1 < 8 ↔ z.2.1.1 < 8 := nI_ltb (b := 8) (by have := cS.2.1; omega) (by omega)
    have l1 : nI z.2.2.1.1 < 7 ↔ z.2.2.1.1 < 7 := nI_ltb (b := 7) (by have := cE.2.1; omega) (by omega)
    have l2 : nI z.2.2.2.1 < 3 ↔ z.2.2.2.1 < 3 := nI_ltb (b := 3) (by have := cL.2.1; omega) (by omega)
    rw [l0, l1, l2]
    rcases my with ⟨rfl, h1, -⟩ | ⟨rfl, h1, -⟩ | ⟨rfl, h1, -⟩
    · rintro (⟨-, q⟩ | ⟨q, -⟩)
      · exact q h1
      · exact q rfl
    · rintro (⟨q, -⟩ | ⟨-, (⟨-, q⟩ | ⟨q, -⟩)⟩)
      · exact absurd q (by decide)
      · exact q h1
      · exact q rfl
    · rintro (⟨q, -⟩ | ⟨-, (⟨q, -⟩ | ⟨-, q⟩)⟩)
      · exact absurd q (by decide)
      · exact absurd q (by decide)
      · exact q h1
  refine v_Ne_add_0 _ _ _ h (P_Ne_addLine := fun h' x1 x2 => h' = h ∧ x1 = nI a ∧ x2 = nI b ∧ c = 108) (R_Ne_addLine := fun h' x1 x2 h'' => mAl z.2.1.1 z.2.2.1.1 z.2.2.1.2.1 z.2.2.1.2.2 z.2.2.2.1 z.2.2.2.2.1 z.2.2.2.2.2 z.2.1.2.1 z.2.1.2.2 a b h h'') (fun x1 x2 h' hp => ?_) (P_Ne_addStretch := fun h' x1 x2 => h' = h ∧ x1 = nI a ∧ x2 = nI b ∧ c = 101) (R_Ne_addStretch := fun h' x1 x2 h'' => mAs z.2.1.1 z.2.2.1.1 z.2.2.1.2.1 z.2.2.1.2.2 z.2.2.2.1 z.2.2.2.2.1 z.2.2.2.2.2 z.2.1.2.1 z.2.1.2.2 a b h h'') (fun x1 x2 h' hp => ?_) (fun _ q1 q2 => ⟨rfl, rfl, rfl, ?_⟩) (fun _ q1 q2 w8 hw8 => ⟨w8, ⟨hw8.1, fun i => ?_⟩, rfl, rfl⟩) (fun _ q1 q2 => ⟨rfl, rfl, rfl, q2⟩) (fun _ q1 q2 w8 hw8 => ⟨w8, ⟨hw8.1, fun i => ?_⟩, rfl, rfl⟩) (fun _ q => ?_) (fun _ q => ⟨_, ⟨?_, fun i => ?_⟩, rfl, rfl⟩) (fun q => absurd q full)
  · obtain ⟨rfl, rfl, rfl, rfl⟩ := hp
    rcases my with ⟨q, -⟩ | ⟨q, -⟩ | ⟨-, h1, h2, h3, h4, h5⟩
    · exact absurd q (by decide)
    · exact absurd q (by decide)
    · exact s_Ne_addLine h' cS cE cL ok h1 h2 h3 h5
  · obtain ⟨rfl, rfl, rfl, rfl⟩ := hp
    rcases my with ⟨q, -⟩ | ⟨-, h1, h2, h3, h4⟩ | ⟨q, -⟩
    · exact absurd q (by decide)
    · exact s_Ne_addStretch (d := d + 1) h' cS cE cL ok h1 h2 h3
    · exact absurd q (by decide)
  · rcases my with ⟨q, -⟩ | ⟨q, -⟩ | ⟨q, -⟩
    · exact absurd q q1
    · exact absurd q q2
    · exact q
  · unfold pAd
    rw [if_neg q1, if_neg q2]
    exact hw8.2
  · unfold pAd
    rw [if_neg q1, if_pos q2]
    exact hw8.2
  all_goals
    rcases my with ⟨-, h1, -⟩ | ⟨y, -⟩ | ⟨y, -⟩
    · first
        | exact (add_st (k := z.2.2.2.1) (F := z.2.2.2.2.1) (T := z.2.2.2.2.2) cS ok.1 h1).1
        | exact (add_st (k := z.2.2.2.1) (F := z.2.2.2.2.1) (T := z.2.2.2.2.2) cS ok.1 h1).2.1
        | (unfold pAd
           rw [if_pos q]
           obtain ⟨-, -, x3, x4, x5⟩ := add_st (k := z.2.2.2.1) (F := z.2.2.2.2.1) (T := z.2.2.2.2.2) (a := a) (b := b) cS ok.1 h1
           exact ⟨x3, x4 cE, x5 cL⟩)
    · rw [q] at y; exact absurd y (by decide)
    · rw [q] at y; exact absurd y (by decide)
