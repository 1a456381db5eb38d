/-! the class: the net that stands (at 3); least, degree; Setting -/
def cS3 (h : Nat → Nat → Int32) (n : Nat) (X Y A B : Nat → Nat) (m : Nat) : Prop := h 3 0 = nI n ∧ n ≤ 8 ∧ ∀ s, s < n → h 4 s = nI (X s) ∧ h 5 s = nI (Y s) ∧ h 10 s = nI (ptm A B m s)
def cE3 (h : Nat → Nat → Int32) (m : Nat) (A B : Nat → Nat) : Prop := h 3 1 = nI m ∧ m ≤ 7 ∧ (∀ e, e < m → h 6 e = nI (A e) ∧ h 7 e = nI (B e) ∧ h 11 e = nI (ptm A B e (A e)) ∧ h 12 e = nI (ptm A B e (B e))) ∧ ∀ e f, e < m → f < m → e ≠ f → h (19 + e) f = pmt A B e f
def cL3 (h : Nat → Nat → Int32) (m : Nat) (A B : Nat → Nat) (k : Nat) (F T : Nat → Nat) : Prop := h 3 2 = nI k ∧ k ≤ 3 ∧ (∀ l, l < k → h 8 l = nI (F l) ∧ h 9 l = nI (T l) ∧ h 14 l = nI (tds A B m (F l) (T l)) ∧ ∀ j, j < tds A B m (F l) (T l) → h 13 (7 * l + j) = nI (tpe A B m (T l) (F l) j)) ∧ (∀ e, e < 7 → h 15 e = nI (pLa A B m F T e k)) ∧
  (∀ l s, l < k → s < 8 → h 16 (8 * l + s) = (if l < k ∧ pw A B m F T l s ≠ 0 then nI (pe0 A B m F T l s) else -1) ∧ h 17 (8 * l + s) = (if l < k ∧ pw A B m F T l s ≠ 0 then nI (pe1 A B m F T l s) else -1)) ∧ ∀ e f, e < 7 → f < 7 → h (27 + e) f = nI (pth A B m k F T e f)
theorem cS3.fr {h h' : Nat → Nat → Int32} {n : Nat} {X Y A B : Nat → Nat} {m : Nat} (c : cS3 h n X Y A B m) (e0 : h' 3 0 = h 3 0) (e1 : h' 4 = h 4) (e2 : h' 5 = h 5) (e3 : h' 10 = h 10) : cS3 h' n X Y A B m := by
  unfold cS3
  rw [e0, e1, e2, e3]
  exact c
theorem cE3.fr {h h' : Nat → Nat → Int32} {m : Nat} {A B : Nat → Nat} (c : cE3 h m A B) (e0 : h' 3 1 = h 3 1) (e1 : h' 6 = h 6) (e2 : h' 7 = h 7) (e3 : h' 11 = h 11) (e4 : h' 12 = h 12) (e5 : ∀ e, e < 7 → h' (19 + e) = h (19 + e)) : cE3 h' m A B := by
  obtain ⟨c1, c2, c3, c4⟩ := c
  refine ⟨e0.trans c1, c2, by rw [e1, e2, e3, e4]; exact c3, fun e f he hf hne => ?_⟩
  rw [e5 e (by omega)]
  exact c4 e f he hf hne
theorem cL3.fr {h h' : Nat → Nat → Int32} {m : Nat} {A B : Nat → Nat} {k : Nat} {F T : Nat → Nat} (c : cL3 h m A B k F T) (e0 : h' 3 2 = h 3 2) (e1 : h' 8 = h 8) (e2 : h' 9 = h 9) (e3 : h' 13 = h 13) (e4 : h' 14 = h 14) (e5 : h' 15 = h 15) (e6 : h' 16 = h 16) (e7 : h' 17 = h 17) (e8 : ∀ e, e < 7 → h' (27 + e) = h (27 + e)) : cL3 h' m A B k F T := by
  obtain ⟨c1, c2, c3, c4, c5, c6⟩ := c
  refine ⟨e0.trans c1, c2, by rw [e1, e2, e3, e4]; exact c3, by rw [e5]; exact c4, by rw [e6, e7]; exact c5, fun e f he hf => ?_⟩
  rw [e8 e he]
  exact c6 e f he hf
def cNt (h : Nat → Nat → Int32) (n m : Nat) (A B : Nat → Nat) (k : Nat) (F T : Nat → Nat) : Prop := (h 3 0 = nI n ∧ n ≤ 8 ∧ ∀ s, s < n → h 10 s = nI (ptm A B m s)) ∧ cE3 h m A B ∧ cL3 h m A B k F T ∧ cOK n m A B k F T ∧ (∀ e, m ≤ e → A e = 0 ∧ B e = 0) ∧ ∀ l, k ≤ l → F l = 0 ∧ T l = 0
theorem cNt.fr {h h' : Nat → Nat → Int32} {n m : Nat} {A B : Nat → Nat} {k : Nat} {F T : Nat → Nat} (c : cNt h n m A B k F T) (f : ∀ q, 3 ≤ q → q ≤ 34 → h' q = h q) : cNt h' n m A B k F T := by
  obtain ⟨c1, c2, c3, c4⟩ := c
  refine ⟨?_, c2.fr (by rw [f 3 (by omega) (by omega)]) (f 6 (by omega) (by omega)) (f 7 (by omega) (by omega)) (f 11 (by omega) (by omega)) (f 12 (by omega) (by omega)) (fun e he => f _ (by omega) (by omega)), c3.fr (by rw [f 3 (by omega) (by omega)]) (f 8 (by omega) (by omega)) (f 9 (by omega) (by omega)) (f 13 (by omega) (by omega)) (f 14 (by omega) (by omega)) (f 15 (by omega) (by omega)) (f 16 (by omega) (by omega)) (f 17 (by omega) (by omega)) (fun e he => f _ (by omega) (by omega)), c4⟩
  rw [f 3 (by omega) (by omega), f 10 (by omega) (by omega)]
  exact c1
/-- least -/
theorem prt0_s (lb : Nat → Nat) (s k t : Nat) : prt0 lb s (k + 1) t = if lb t = lb s then t else prt0 lb s k (t + 1) := rfl
theorem least_n {X : Nat × (Nat → Int32)} {d : Nat} {Q : Option Value → eS → Prop} {cu sp n1 n2 n3 n4 : Nat} {A B : Nat → Nat} {m s : Nat} (h : Nat → Nat → Int32) (hs : s < 8) (h10 : h 10 s = nI (ptm A B m s)) (z9 : Q (some (.int (nI (prt (plb A B m) s)))) (229, ewR cu sp n1 n2 n3 n4, h)) : ewP X Ne_least (d + 1) 0 [some (.ref 3), some (.int (nI s)), none] [] (0, 0) (229, ewR cu sp n1 n2 n3 n4, h) Q := by
  refine v_Ne_least_0 _ h ?_
  have key : ∀ k t, t + k = s → prt0 (plb A B m) s k t = prt (plb A B m) s → ewP X Ne_least (d + 1) 2 [some (.ref 3), some (.int (nI s)), some (.int (nI t))] [] (0, 0) (229, ewR cu sp n1 n2 n3 n4, h) Q := by
    intro k
    induction k with
    | zero =>
      intro t ht hq
      have hlt : ¬ nI t < nI s := nI_nlt (by omega) (by omega)
      refine v_Ne_least_2 _ _ h (fun _ => ?_) (fun q => absurd q hlt) (fun q => absurd q hlt) (fun q => absurd q hlt)
      have e : prt (plb A B m) s = s := by rw [← hq]; show s = s; rfl
      rw [e] at z9; exact z9
    | succ k ih =>
      intro t ht hq
      have hlt : nI t < nI s := (nI_ltb (by omega) (by omega)).mpr (by omega)
      have hh : f_Ew_has (h 10 (nI s).toNatClampNeg) (nI t) ↔ plb A B m t = plb A B m s := by rw [nI_clamp (by omega), h10]; exact ptm_has (by omega)
      rw [prt0_s] at hq
      refine v_Ne_least_2 _ _ h (fun q => absurd hlt q) (fun _ => nI_inB hs (by decide)) (fun _ q => ?_) (fun _ q => ?_)
      · rw [← nI_succ]
        rw [if_neg (fun y => q (hh.mpr y))] at hq
        exact ih (t + 1) (by omega) hq
      · rw [if_pos (hh.mp q)] at hq
        rw [← hq] at z9; exact z9
  exact key s 0 (by omega) rfl
theorem degree_n {X : Nat × (Nat → Int32)} {d : Nat} {Q : Option Value → eS → Prop} {cu sp n1 n2 n3 n4 : Nat} {A B : Nat → Nat} {n m s : Nat} (h : Nat → Nat → Int32) (hs : s < 8) (h8 : n ≤ 8) (hE : cE3 h m A B) (hn : ∀ e, e < m → A e < n ∧ B e < n) (z9 : Q (some (.int (nI (pdeg A B m s)))) (229, ewR cu sp n1 n2 n3 n4, h)) : ewP X Ne_degree (d + 1) 0 [some (.ref 3), some (.int (nI s)), none, none] [] (0, 0) (229, ewR cu sp n1 n2 n3 n4, h) Q := by
  obtain ⟨e1, h7, e3, -⟩ := hE
  refine v_Ne_degree_0 _ h ?_
  refine upto (H := Int32) (P := fun e x => x = nI (sm (fun e => if A e = s ∨ B e = s then 1 else 0) e)) (E := fun e x => ewP X Ne_degree (d + 1) 4 [some (.ref 3), some (.int (nI s)), some (.int x), some (.int (nI e))] [] (0, 0) (229, ewR cu sp n1 n2 n3 n4, h) Q) m ?_ ?_ 0 0 (by omega) rfl
  · intro e x he hx next
    have hlt : nI e < h 3 1 := by rw [e1]; exact (nI_ltb (by omega) (by omega)).mpr he
    refine v_Ne_degree_4 _ _ _ h (fun q => absurd hlt q) (fun _ => nI_inB (by omega) (by decide)) (fun _ => ?_)
    rw [← nI_succ]
    refine next _ ?_
    have b := hn e he
    have tt : f_Ne_touches h (nI e) (nI s) ↔ (A e = s ∨ B e = s) := by
      show (h 6 (nI e).toNatClampNeg = nI s ∨ h 7 (nI e).toNatClampNeg = nI s) ↔ _
      rw [nI_clamp (by omega), (e3 e he).1, (e3 e he).2.1, nI_eq (by omega) (by omega), nI_eq (by omega) (by omega)]
    rw [hx]
    show _ = nI (sm _ e + if A e = s ∨ B e = s then 1 else 0)
    rw [← nI_ad]
    congr 1
    exact (ite_cg tt (fun _ => rfl) (fun _ => rfl) : (if f_Ne_touches h (nI e) (nI s) then (1 : Int32) else 0) = if A e = s ∨ B e = s then nI 1 else nI 0).trans (by split <;> rfl)
  · intro x hx
    have hlt : ¬ nI m < h 3 1 := by rw [e1]; exact nI_nlt (Nat.le_refl _) (by omega)
    refine v_Ne_degree_4 _ _ _ h (fun _ => ?_) (fun q => absurd q hlt) (fun q => absurd q hlt)
    rw [hx]; exact z9
/-- Setting -/
def cSt (h : Nat → Nat → Int32) (q n : Nat) (c : Nat → Int32) : Prop := h q 0 = c 23 ∧ h q 1 = c 24 ∧ (∀ s, s < n → h (q + 1) s = c s ∧ h (q + 2) s = c (8 + s)) ∧ ∀ e, e < 7 → h (q + 3) e = c (16 + e)
def isSet (q : Nat) : Prop := q = 67 ∨ q = 71 ∨ (∃ i, i < 16 ∧ q = 77 + 4 * i) ∨ ∃ i, i < 2 ∧ q = 186 + 4 * i
theorem isSet.at {q cu sp n1 n2 n3 n4 : Nat} (h : isSet q) : (ewTj q 5 = true ∧ ewTj (q + 1) 9 = true ∧ ewTj (q + 2) 9 = true ∧ ewTj (q + 3) 9 = true) ∧ (kL (q + 1) = 8 ∧ kL (q + 2) = 8 ∧ kL (q + 3) = 7) ∧ (ewR cu sp n1 n2 n3 n4 q 2 = q + 1 ∧ ewR cu sp n1 n2 n3 n4 q 3 = q + 2 ∧ ewR cu sp n1 n2 n3 n4 q 4 = q + 3) ∧ 67 ≤ q ∧ q < 200 := by
  have key : (ewTj q 5 = true ∧ ewTj (q + 1) 9 = true ∧ ewTj (q + 2) 9 = true ∧ ewTj (q + 3) 9 = true) ∧ (kL (q + 1) = 8 ∧ kL (q + 2) = 8 ∧ kL (q + 3) = 7) ∧ (ewR0 q 2 = q + 1 ∧ ewR0 q 3 = q + 2 ∧ ewR0 q 4 = q + 3) ∧ (67 ≤ q ∧ q < 200 ∧ q ≠ 142 ∧ q ≠ 146 ∧ q ≠ 150 ∧ q ≠ 174) := by
    rcases h with rfl | rfl | ⟨i, hi, rfl⟩ | ⟨i, hi, rfl⟩
    · decide +kernel
    · decide +kernel
    · have hh : ∀ i : Fin 16, (ewTj (77 + 4 * i.1) 5 = true ∧ ewTj (77 + 4 * i.1 + 1) 9 = true ∧ ewTj (77 + 4 * i.1 + 2) 9 = true ∧ ewTj (77 + 4 * i.1 + 3) 9 = true) ∧ (kL (77 + 4 * i.1 + 1) = 8 ∧ kL (77 + 4 * i.1 + 2) = 8 ∧ kL (77 + 4 * i.1 + 3) = 7) ∧ (ewR0 (77 + 4 * i.1) 2 = 77 + 4 * i.1 + 1 ∧ ewR0 (77 + 4 * i.1) 3 = 77 + 4 * i.1 + 2 ∧ ewR0 (77 + 4 * i.1) 4 = 77 + 4 * i.1 + 3) ∧ (67 ≤ 77 + 4 * i.1 ∧ 77 + 4 * i.1 < 200 ∧ 77 + 4 * i.1 ≠ 142 ∧ 77 + 4 * i.1 ≠ 146 ∧ 77 + 4 * i.1 ≠ 150 ∧ 77 + 4 * i.1 ≠ 174) := by decide +kernel
      exact hh ⟨i, hi⟩
    · have hh : ∀ i : Fin 2, (ewTj (186 + 4 * i.1) 5 = true ∧ ewTj (186 + 4 * i.1 + 1) 9 = true ∧ ewTj (186 + 4 * i.1 + 2) 9 = true ∧ ewTj (186 + 4 * i.1 + 3) 9 = true) ∧ (kL (186 + 4 * i.1 + 1) = 8 ∧ kL (186 + 4 * i.1 + 2) = 8 ∧ kL (186 + 4 * i.1 + 3) = 7) ∧ (ewR0 (186 + 4 * i.1) 2 = 186 + 4 * i.1 + 1 ∧ ewR0 (186 + 4 * i.1) 3 = 186 + 4 * i.1 + 2 ∧ ewR0 (186 + 4 * i.1) 4 = 186 + 4 * i.1 + 3) ∧ (67 ≤ 186 + 4 * i.1 ∧ 186 + 4 * i.1 < 200 ∧ 186 + 4 * i.1 ≠ 142 ∧ 186 + 4 * i.1 ≠ 146 ∧ 186 + 4 * i.1 ≠ 150 ∧ 186 + 4 * i.1 ≠ 174) := by decide +kernel
      exact hh ⟨i, hi⟩
  obtain ⟨k1, k2, ⟨k3, k4, k5⟩, k6, k7, k8, k9, k10, k11⟩ := key
  have e : ∀ j, ewR cu sp n1 n2 n3 n4 q j = ewR0 q j := fun j => by
    unfold ewR
    rw [if_neg (by omega), if_neg k8, if_neg k9, if_neg k10, if_neg k11]
  exact ⟨k1, k2, ⟨(e 2).trans k3, (e 3).trans k4, (e 4).trans k5⟩, k6, k7⟩
def mBe (h : Nat → Nat → Int32) (q0 q1 : Nat) (h' : Nat → Nat → Int32) : Prop := (∀ k, ¬ (q0 ≤ k ∧ k ≤ q0 + 3) → h' k = h k) ∧ h' q0 0 = h q1 0 ∧ h' q0 1 = h q1 1 ∧ (∀ i, i < 8 → h' (q0 + 1) i = h (q1 + 1) i ∧ h' (q0 + 2) i = h (q1 + 2) i) ∧ ∀ i, i < 7 → h' (q0 + 3) i = h (q1 + 3) i
def p_Se_become (_ : Nat → Nat → Int32) (q0 q1 : Nat) : Prop := isSet q0 ∧ isSet q1 ∧ (q0 + 3 < q1 ∨ q1 + 3 < q0)
theorem cpy_n (f g : Nat → Int32) {n i : Nat} (h : i < n) : va_cpy f g 0 0 n i = f i := by
  unfold va_cpy
  rw [if_pos ⟨Nat.zero_le _, by omega⟩]
  congr 1
  omega
set_option maxHeartbeats 1000000 in
theorem s_Se_become {X : Nat × (Nat → Int32)} {d : Nat} {cu sp n1 n2 n3 n4 : Nat} (q0 q1 : Nat) (h : Nat → Nat → Int32) (hp : p_Se_become h q0 q1) : ewP X Se_become (d + 0) 0 [some (.ref q0), some (.ref q1)] [] (0, 0) (229, ewR cu sp n1 n2 n3 n4, h) (fun v S' => ∃ (h' : Nat → Nat → Int32), mBe h q0 q1 h' ∧ v = none ∧ S' = (229, ewR cu sp n1 n2 n3 n4, h')) := by
  obtain ⟨i0, i1, hd⟩ := hp
  obtain ⟨⟨a1, a2, a3, a4⟩, ⟨a5, a6, a7⟩, ⟨a8, a9, a10⟩, a11, a12⟩ := i0.at (cu := cu) (sp := sp) (n1 := n1) (n2 := n2) (n3 := n3) (n4 := n4)
  obtain ⟨⟨b1, b2, b3, b4⟩, ⟨b5, b6, b7⟩, ⟨b8, b9, b10⟩, b11, b12⟩ := i1.at (cu := cu) (sp := sp) (n1 := n1) (n2 := n2) (n3 := n3) (n4 := n4)
  refine v_Se_become_0 q0 q1 h b1 a1 ?_ ?_ ?_ ?_ ?_ ?_ ?_ ?_ ?_ ?_ ?_ ?_ ?_ ?_ ?_ ?_ ?_ ?_ ⟨_, ?_, rfl, rfl⟩
  all_goals try rw [a8]
  all_goals try rw [a9]
  all_goals try rw [a10]
  all_goals try rw [b8]
  all_goals try rw [b9]
  all_goals try rw [b10]
  all_goals first | exact beq_no (by omega) | assumption | omega | skip
  refine ⟨fun k hk => ?_, ?_, ?_, fun i hi => ⟨?_, ?_⟩, fun i hi => ?_⟩
  · rw [ewS_ne _ _ (by omega), ewS_ne _ _ (by omega), ewS_ne _ _ (by omega), ewS_ne _ _ (by omega), ewS_ne _ _ (by omega)]
  · rw [ewS_ne _ _ (by omega), ewS_ne _ _ (by omega), ewS_ne _ _ (by omega), ewS_self, ewS_self]; rfl
  · rw [ewS_ne _ _ (by omega), ewS_ne _ _ (by omega), ewS_ne _ _ (by omega), ewS_self, ewS_self, ewS_ne _ _ (show q1 ≠ q0 by omega)]; rfl
  · rw [ewS_ne _ _ (by omega), ewS_ne _ _ (by omega), ewS_self, cpy_n _ _ hi, ewS_ne _ _ (by omega), ewS_ne _ _ (by omega)]
  · rw [ewS_ne _ _ (by omega), ewS_self, cpy_n _ _ hi, ewS_ne _ _ (by omega), ewS_ne _ _ (by omega), ewS_ne _ _ (by omega)]
  · rw [ewS_self, cpy_n _ _ hi, ewS_ne _ _ (by omega), ewS_ne _ _ (by omega), ewS_ne _ _ (by omega), ewS_ne _ _ (by omega)]
theorem mBe.st {h h' : Nat → Nat → Int32} {q0 q1 n : Nat} {c : Nat → Int32} (b : mBe h q0 q1 h') (h8 : n ≤ 8) (s : cSt h q1 n c) : cSt h' q0 n c := by
  obtain ⟨b1, b2, b3, b4, b5⟩ := b
  obtain ⟨s1, s2, s3, s4⟩ := s
  exact ⟨b2.trans s1, b3.trans s2, fun i hi => ⟨(b4 i (by omega)).1.trans (s3 i hi).1, (b4 i (by omega)).2.trans (s3 i hi).2⟩, fun i hi => (b5 i hi).trans (s4 i hi)⟩
theorem cSt.fr {h h' : Nat → Nat → Int32} {q n : Nat} {c : Nat → Int32} (s : cSt h q n c) (f : ∀ k, q ≤ k → k ≤ q + 3 → h' k = h k) : cSt h' q n c := by
  unfold cSt
  rw [f q (by omega) (by omega), f (q + 1) (by omega) (by omega), f (q + 2) (by omega) (by omega), f (q + 3) (by omega) (by omega)]
  exact s
