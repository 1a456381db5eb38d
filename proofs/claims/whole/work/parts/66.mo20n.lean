/-! the reference: signOf, degree, fixedOnes, linesAlong -/
/-- no stretch leaves x1 in direction x2 (the first e ones) -/
def pSu (h : Nat → Nat → Int32) (x1 x2 : Int32) : Nat → Bool
  | 0 => true
  | e + 1 => pSu h x1 x2 e && decide (¬ (f_Mo_goesFrom h (nI e) x1) ∨ ¬ (f_Mo_wayFrom h 214 (nI e) x1 = x2))
def pSf (h : Nat → Nat → Int32) (x1 : Int32) (j : Nat) : Bool := (! pTk h (h 215 x1.toNatClampNeg) (h 216 x1.toNatClampNeg + f_Mo_stepX (nI j)) (h 217 x1.toNatClampNeg + f_Mo_stepY (nI j)) x1 (gN h)) && pSu h x1 (nI j) (gM h)
def pSg (h : Nat → Nat → Int32) (x1 : Int32) : Nat → Nat → Int32
  | 0, _ => -1
  | k + 1, j => if pSf h x1 j = true then nI j else pSg h x1 k (j + 1)
def f_Mo_signOf (h : Nat → Nat → Int32) (x1 : Int32) : Int32 := pSg h x1 8 0
def p_Mo_signOf (h : Nat → Nat → Int32) (x1 : Int32) : Prop := (h 194 0 = nI (gN h) ∧ gN h ≤ 8) ∧ (h 194 1 = nI (gM h) ∧ gM h ≤ 7) ∧ vp_in x1 8
theorem s_Mo_signOf {X : Nat × (Nat → Int32)} {d : Nat} {Q : Option Value → eS → Prop} {cu sp n1 n2 n3 n4 : Nat} (x1 : Int32) (h : Nat → Nat → Int32) (hp : p_Mo_signOf h x1) (z9 : Q (some (.int (f_Mo_signOf h x1))) (229, (ewR cu sp n1 n2 n3 n4), h)) : ewP X Mo_signOf (d + 1) 0 [some (.ref 194), some (.int x1), none, none, none] [] (0, 0) (229, (ewR cu sp n1 n2 n3 n4), h) Q := by
  obtain ⟨hN, ⟨a3, h7⟩, hx⟩ := hp
  refine v_Mo_signOf_0 x1 h ?_
  unfold f_Mo_signOf at z9
  have key : ∀ k j, j + k = 8 → Q (some (.int (pSg h x1 k j))) (229, (ewR cu sp n1 n2 n3 n4), h) → ewP X Mo_signOf (d + 1) 2 [some (.ref 194), some (.int x1), some (.int (nI j)), none, none] [] (0, 0) (229, ewR cu sp n1 n2 n3 n4, h) Q := by
    intro k
    induction k with
    | zero =>
      intro j hj z
      have : j = 8 := by omega
      subst this
      exact v_Mo_signOf_2 _ _ h (fun _ => z) (fun q => absurd q (by decide)) (fun q => absurd q (by decide)) (fun q => absurd q (by decide))
    | succ k ih =>
      intro j hj z
      have hlt : nI j < 8 := (nI_ltb (b := 8) (by omega) (by omega)).mpr (by omega)
      refine v_Mo_signOf_2 _ _ h (fun q => absurd hlt q) (fun _ => hx) (fun _ => hN) (fun _ => ?_)
      have e0 : (if f_Mo_isTaken h (h 215 x1.toNatClampNeg) (h 216 x1.toNatClampNeg + f_Mo_stepX (nI j)) (h 217 x1.toNatClampNeg + f_Mo_stepY (nI j)) x1 = 0 then (1 : Int32) else 0) = bI ((! pTk h (h 215 x1.toNatClampNeg) (h 216 x1.toNatClampNeg + f_Mo_stepX (nI j)) (h 217 x1.toNatClampNeg + f_Mo_stepY (nI j)) x1 (gN h)) && pSu h x1 (nI j) 0) := by
        unfold f_Mo_isTaken pSu
        generalize pTk h (h 215 x1.toNatClampNeg) (h 216 x1.toNatClampNeg + f_Mo_stepX (nI j)) (h 217 x1.toNatClampNeg + f_Mo_stepY (nI j)) x1 (gN h) = b
        cases b <;> decide
      rw [e0]
      have z : Q (some (.int (if pSf h x1 j = true then nI j else pSg h x1 k (j + 1)))) (229, (ewR cu sp n1 n2 n3 n4), h) := z
      unfold pSf at z
      generalize (! pTk h (h 215 x1.toNatClampNeg) (h 216 x1.toNatClampNeg + f_Mo_stepX (nI j)) (h 217 x1.toNatClampNeg + f_Mo_stepY (nI j)) x1 (gN h)) = a at *
      refine upto (H := Unit) (P := fun _ _ => True) (E := fun e _ => ewP X Mo_signOf (d + 1) 53 [some (.ref 194), some (.int x1), some (.int (nI j)), some (.int (bI (a && pSu h x1 (nI j) e))), some (.int (nI e))] [] (0, 0) (229, ewR cu sp n1 n2 n3 n4, h) Q) (gM h) ?_ ?_ 0 () (by omega) trivial
      · intro e _ he _ next
        have next := next () trivial
        have hlt2 : nI e < h 194 1 := by rw [a3]; exact nI_lt he (by omega)
        have in7 : vp_in (nI e) 7 := nI_inB (by omega) (by decide)
        refine v_Mo_signOf_53 _ _ _ _ h (fun q => absurd hlt2 q) (fun q => absurd hlt2 q) (fun _ _ => in7) (fun _ _ _ => ⟨in7, fun _ => rfl, fun _ => in7, fun _ => rfl, fun _ => in7⟩) (fun _ => ?_)
        have e1 : (if ¬ (bI (a && pSu h x1 (nI j) e) = 0) ∧ (¬ (f_Mo_goesFrom h (nI e) x1) ∨ (¬ ((f_Mo_wayFrom h 214 (nI e) x1) = nI j))) then (1 : Int32) else 0) = bI (a && pSu h x1 (nI j) (e + 1)) := by
          show _ = bI (a && (pSu h x1 (nI j) e && decide (¬ (f_Mo_goesFrom h (nI e) x1) ∨ ¬ (f_Mo_wayFrom h 214 (nI e) x1 = nI j))))
          rw [← Bool.and_assoc]
          generalize (a && pSu h x1 (nI j) e) = b
          by_cases q : (¬ (f_Mo_goesFrom h (nI e) x1) ∨ (¬ ((f_Mo_wayFrom h 214 (nI e) x1) = nI j)))
          · rw [decide_eq_true q]
            cases b
            · rw [if_neg (fun z => z.1 rfl)]; rfl
            · rw [if_pos ⟨by decide, q⟩]; rfl
          · rw [decide_eq_false q, if_neg (fun z => q z.2)]
            cases b <;> rfl
        rw [e1, ← nI_succ]
        exact next
      · intro _ _
        have hlt2 : ¬ nI (gM h) < h 194 1 := by rw [a3]; exact nI_nlt (Nat.le_refl _) (by omega)
        refine v_Mo_signOf_53 _ _ _ _ h (fun _ q => ?_) (fun _ q => ?_) (fun q => absurd q hlt2) (fun q => absurd q hlt2) (fun q => absurd q hlt2)
        · rw [← nI_succ]
          rw [(bI_eq _).mp q] at z
          exact ih (j + 1) (by omega) z
        · rw [(bI_ne _).mp q] at z
          exact z
  exact key 8 0 (by omega) z9
def pdeg (A B : Nat → Nat) (m s : Nat) : Nat := sm (fun e => if A e = s ∨ B e = s then 1 else 0) m
def f_Mo_degree (h : Nat → Nat → Int32) (x1 : Int32) : Int32 := nI (pdeg (gA h) (gB h) (gM h) x1.toNatClampNeg)
def p_Mo_degree (h : Nat → Nat → Int32) (x1 : Int32) : Prop := mS h ∧ ∃ s, s < gN h ∧ x1 = nI s
theorem s_Mo_degree {X : Nat × (Nat → Int32)} {d : Nat} {Q : Option Value → eS → Prop} {cu sp n1 n2 n3 n4 : Nat} (x1 : Int32) (h : Nat → Nat → Int32) (hp : p_Mo_degree h x1) (z9 : Q (some (.int (f_Mo_degree h x1))) (229, (ewR cu sp n1 n2 n3 n4), h)) : ewP X Mo_degree (d + 1) 0 [some (.ref 194), some (.int x1), none, none] [] (0, 0) (229, (ewR cu sp n1 n2 n3 n4), h) Q := by
  obtain ⟨hS, s, hs, rfl⟩ := hp
  have hS : mSt h (gN h) (gM h) (gA h) (gB h) := hS
  obtain ⟨a1, h8, a3, h7, a5, hn, hk⟩ := hS
  unfold f_Mo_degree pdeg at z9
  rw [nI_clamp (by omega)] at z9
  refine v_Mo_degree_0 _ h ?_
  refine upto (H := Unit) (P := fun _ _ => True) (E := fun e _ => ewP X Mo_degree (d + 1) 4 [some (.ref 194), some (.int (nI s)), some (.int (nI (sm (fun e => if gA h e = s ∨ gB h e = s then 1 else 0) e))), some (.int (nI e))] [] (0, 0) (229, ewR cu sp n1 n2 n3 n4, h) Q) (gM h) ?_ ?_ 0 () (by omega) trivial
  · intro e _ he _ next
    have next := next () trivial
    have hlt : nI e < h 194 1 := by rw [a3]; exact nI_lt he (by omega)
    refine v_Mo_degree_4 _ _ _ h (fun q => absurd hlt q) (fun _ => nI_inB (by omega) (by decide)) (fun _ => ?_)
    obtain ⟨eA, eB⟩ := a5 e he
    obtain ⟨hA, hB⟩ := hn e he
    have g : f_Mo_goesFrom h (nI e) (nI s) ↔ (gA h e = s ∨ gB h e = s) := by unfold f_Mo_goesFrom; rw [nI_clamp (by omega), eA, eB, nI_eq (by omega) (by omega), nI_eq (by omega) (by omega)]
    have e1 : (if f_Mo_goesFrom h (nI e) (nI s) then (1 : Int32) else 0) = nI (if gA h e = s ∨ gB h e = s then 1 else 0) := by
      by_cases q : gA h e = s ∨ gB h e = s
      · rw [if_pos q, if_pos (g.mpr q)]; rfl
      · rw [if_neg q, if_neg (fun z => q (g.mp z))]; rfl
    rw [e1, nI_ad, ← nI_succ]
    exact next
  · intro _ _
    have hlt : ¬ nI (gM h) < h 194 1 := by rw [a3]; exact nI_nlt (Nat.le_refl _) (by omega)
    exact v_Mo_degree_4 _ _ _ h (fun _ => z9) (fun q => absurd q hlt) (fun q => absurd q hlt)
/-- the set of fixed ones -/
def pfx (c : Nat → Int32) : Nat → Nat
  | 0 => 0
  | e + 1 => pfx c e + (if c (16 + e) < 0 then 0 else 2 ^ e)
theorem pfx_lt (c : Nat → Int32) : ∀ e, pfx c e < 2 ^ e
  | 0 => by show 0 < 1; omega
  | e + 1 => by
    have := pfx_lt c e
    unfold pfx
    rw [Nat.pow_succ]
    split <;> omega
theorem or_n {e x : Nat} (he : e < 7) (hx : x < 2 ^ e) : nI x ||| ((1 : Int32) <<< (nI e &&& 31)) = nI (x + 2 ^ e) := by
  have h : ∀ (e : Fin 7) (x : Fin 128), x.1 < 2 ^ e.1 → nI x.1 ||| ((1 : Int32) <<< (nI e.1 &&& 31)) = nI (x.1 + 2 ^ e.1) := by decide +kernel
  exact h ⟨e, he⟩ ⟨x, Nat.lt_of_lt_of_le hx (show 2 ^ e ≤ 2 ^ 7 from Nat.pow_le_pow_right (by omega) (by omega))⟩ hx
theorem or_0 (x : Nat) : nI x ||| (0 : Int32) = nI x := Int32.or_zero
def f_Mo_fixedOnes (h : Nat → Nat → Int32) : Int32 := nI (pfx (h 202) (gM h))
def p_Mo_fixedOnes (h : Nat → Nat → Int32) : Prop := h 194 1 = nI (gM h) ∧ gM h ≤ 7
theorem s_Mo_fixedOnes {X : Nat × (Nat → Int32)} {d : Nat} {Q : Option Value → eS → Prop} {cu sp n1 n2 n3 n4 : Nat} (h : Nat → Nat → Int32) (hp : p_Mo_fixedOnes h) (z9 : Q (some (.int (f_Mo_fixedOnes h))) (229, (ewR cu sp n1 n2 n3 n4), h)) : ewP X Mo_fixedOnes (d + 0) 0 [some (.ref 194), none, none] [] (0, 0) (229, (ewR cu sp n1 n2 n3 n4), h) Q := by
  obtain ⟨a3, h7⟩ := hp
  refine v_Mo_fixedOnes_0 h ?_
  refine upto (H := Unit) (P := fun _ _ => True) (E := fun e _ => ewP X Mo_fixedOnes (d + 0) 4 [some (.ref 194), some (.int (nI (pfx (h 202) e))), some (.int (nI e))] [] (0, 0) (229, ewR cu sp n1 n2 n3 n4, h) Q) (gM h) ?_ ?_ 0 () (by omega) trivial
  · intro e _ he _ next
    have next := next () trivial
    have hlt : nI e < h 194 1 := by rw [a3]; exact nI_lt he (by omega)
    have s16 : (16 : Int32) + nI e = nI (16 + e) := nI_ad 16 e
    refine v_Mo_fixedOnes_4 _ _ h (fun q => absurd hlt q) (fun _ => by rw [s16]; exact nI_inB (by omega) (by decide)) (fun _ => ?_)
    rw [s16, nI_clamp (by omega), ← nI_succ]
    have e1 : nI (pfx (h 202) e) ||| (if h 202 (16 + e) < 0 then 0 else ((1 : Int32) <<< (nI e &&& 31))) = nI (pfx (h 202) (e + 1)) := by
      show _ = nI (pfx (h 202) e + (if h 202 (16 + e) < 0 then 0 else 2 ^ e))
      by_cases q : h 202 (16 + e) < 0
      · rw [if_pos q, if_pos q, or_0]; rfl
      · rw [if_neg q, if_neg q, or_n (by omega) (pfx_lt _ _)]
    rw [e1]
    exact next
  · intro _ _
    have hlt : ¬ nI (gM h) < h 194 1 := by rw [a3]; exact nI_nlt (Nat.le_refl _) (by omega)
    exact v_Mo_fixedOnes_4 _ _ h (fun _ => z9) (fun q => absurd q hlt) (fun q => absurd q hlt)
/-- whether a way goes along a stretch (its first j stretches) -/
def pon (A B : Nat → Nat) (m f t e : Nat) : Nat → Bool
  | 0 => false
  | j + 1 => pon A B m f t e j || decide (tpe A B m t f j = e)
/-- the lines along a stretch -/
def pLa (A B : Nat → Nat) (m : Nat) (F T : Nat → Nat) (e : Nat) : Nat → Nat
  | 0 => 0
  | l + 1 => pLa A B m F T e l + (if pon A B m (F l) (T l) e (tds A B m (F l) (T l)) = true then 2 ^ l else 0)
theorem pLa_lt (A B : Nat → Nat) (m : Nat) (F T : Nat → Nat) (e : Nat) : ∀ l, pLa A B m F T e l < 2 ^ l
  | 0 => by show 0 < 1; omega
  | l + 1 => by
    have := pLa_lt A B m F T e l
    unfold pLa
    rw [Nat.pow_succ]
    split <;> omega
theorem or_3 {l x : Nat} {b c : Bool} (hl : l < 3) (hx : x < 2 ^ l) : nI (x + if b = true then 2 ^ l else 0) ||| (if c = true then ((1 : Int32) <<< (nI l &&& 31)) else 0) = nI (x + if (b || c) = true then 2 ^ l else 0) := by
  have h : ∀ (l : Fin 3) (x : Fin 8) (b c : Bool), x.1 < 2 ^ l.1 → nI (x.1 + if b = true then 2 ^ l.1 else 0) ||| (if c = true then ((1 : Int32) <<< (nI l.1 &&& 31)) else 0) = nI (x.1 + if (b || c) = true then 2 ^ l.1 else 0) := by decide +kernel
  exact h ⟨l, hl⟩ ⟨x, Nat.lt_of_lt_of_le hx (show 2 ^ l ≤ 2 ^ 3 from Nat.pow_le_pow_right (by omega) (by omega))⟩ b c hx
def f_Mo_linesAlong (h : Nat → Nat → Int32) (x1 : Int32) : Int32 := nI (pLa (gA h) (gB h) (gM h) (gF h) (gT h) x1.toNatClampNeg (gK h))
def p_Mo_linesAlong (h : Nat → Nat → Int32) (x1 : Int32) : Prop := mN h ∧ ∃ e, e < gM h ∧ x1 = nI e
theorem s_Mo_linesAlong {X : Nat × (Nat → Int32)} {d : Nat} {Q : Option Value → eS → Prop} {cu sp n1 n2 n3 n4 : Nat} (x1 : Int32) (h : Nat → Nat → Int32) (hp : p_Mo_linesAlong h x1) (z9 : Q (some (.int (f_Mo_linesAlong h x1))) (229, (ewR cu sp n1 n2 n3 n4), h)) : ewP X Mo_linesAlong (d + 0) 0 [some (.ref 194), some (.int x1), none, none, none] [] (0, 0) (229, (ewR cu sp n1 n2 n3 n4), h) Q := by
  obtain ⟨hN, e, he, rfl⟩ := hp
  unfold f_Mo_linesAlong at z9
  unfold mN at hN
  obtain ⟨⟨a1, h8, a3, h7, a5, hn, hk⟩, -, ⟨a4, hk3⟩, -, hls⟩ := hN
  rw [nI_clamp (by omega)] at z9
  generalize gN h = n at *
  generalize gM h = m at *
  generalize gA h = A at *
  generalize gB h = B at *
  generalize gK h = k at *
  generalize gF h = F at *
  generalize gT h = T at *
  refine v_Mo_linesAlong_0 _ h ?_
  refine upto (H := Unit) (P := fun _ _ => True) (E := fun l _ => ewP X Mo_linesAlong (d + 0) 4 [some (.ref 194), some (.int (nI e)), some (.int (nI (pLa A B m F T e l))), some (.int (nI l)), none] [] (0, 0) (229, ewR cu sp n1 n2 n3 n4, h) Q) k ?_ ?_ 0 () (by omega) trivial
  · intro l _ hl _ next
    have next := next () trivial
    obtain ⟨l1, l2, l3, l4, l5, l6, l7, l8, l9⟩ := hls l hl
    have hD := tds_lt hk hn l1 l2 l4
    have hlt : nI l < h 194 4 := by rw [a4]; exact nI_lt hl (by omega)
    refine v_Mo_linesAlong_4 _ _ _ h (fun q => absurd hlt q) (fun _ => ?_)
    have cl : (nI l).toNatClampNeg = l := nI_clamp (by omega)
    have in3 : vp_in (nI l) 3 := nI_inB (by omega) (by decide)
    have st : nI (pLa A B m F T e l) = nI (pLa A B m F T e l + if pon A B m (F l) (T l) e 0 = true then 2 ^ l else 0) := rfl
    rw [st]
    refine upto (H := Unit) (P := fun _ _ => True) (E := fun j _ => ewP X Mo_linesAlong (d + 0) 15 [some (.ref 194), some (.int (nI e)), some (.int (nI (pLa A B m F T e l + if pon A B m (F l) (T l) e j = true then 2 ^ l else 0))), some (.int (nI l)), some (.int (nI j))] [] (0, 0) (229, ewR cu sp n1 n2 n3 n4, h) Q) (tds A B m (F l) (T l)) ?_ ?_ 0 () (by omega) trivial
    · intro j _ hj _ next2
      have next2 := next2 () trivial
      have hlt2 : nI j < h 199 (nI l).toNatClampNeg := by rw [cl, l7]; exact nI_lt hj (by omega)
      have s1 : (8 : Int32) * nI l + nI j = nI (8 * l + j) := by rw [show (8 : Int32) * nI l = nI (8 * l) from nI_mu 8 l, nI_ad]
      have t0 := (tpe_at hk hn l4 l1 hj).1
      refine v_Mo_linesAlong_15 _ _ _ _ h in3 (fun q => absurd hlt2 q) (fun _ => by rw [s1]; exact nI_inB (by omega) (by decide)) (fun _ => ?_)
      rw [s1, nI_clamp (by omega), l9 j hj, ← nI_succ]
      have e1 : (if nI (tpe A B m (T l) (F l) j) = nI e then ((1 : Int32) <<< (nI l &&& 31)) else 0) = (if decide (tpe A B m (T l) (F l) j = e) = true then ((1 : Int32) <<< (nI l &&& 31)) else 0) := by
        by_cases q : tpe A B m (T l) (F l) j = e
        · rw [if_pos (by rw [q]), if_pos (by simpa using q)]
        · rw [if_neg (fun z => q ((nI_eq (by omega) (by omega)).mp z)), if_neg (by simpa using q)]
      rw [e1, or_3 (by omega) (pLa_lt _ _ _ _ _ _ _)]
      exact next2
    · intro _ _
      have hlt2 : ¬ nI (tds A B m (F l) (T l)) < h 199 (nI l).toNatClampNeg := by rw [cl, l7]; exact nI_nlt (Nat.le_refl _) (by omega)
      refine v_Mo_linesAlong_15 _ _ _ _ h in3 (fun _ => ?_) (fun q => absurd q hlt2) (fun q => absurd q hlt2)
      rw [← nI_succ]
      exact next
  · intro _ _
    have hlt : ¬ nI k < h 194 4 := by rw [a4]; exact nI_nlt (Nat.le_refl _) (by omega)
    exact v_Mo_linesAlong_4 _ _ _ h (fun _ => z9) (fun q => absurd q hlt)
