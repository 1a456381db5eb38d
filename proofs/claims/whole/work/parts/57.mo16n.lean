/-! the reference: layRoots, isTaken, layPlaces -/
def gR (h : Nat → Nat → Int32) (s : Nat) : Nat := prt (plb (gA h) (gB h) (gM h)) s
def mLr (h h' : Nat → Nat → Int32) : Prop := mFq h h' [215] [] ∧ ∀ s, s < gN h → h' 215 s = nI (gR h s)
def p_Mo_layRoots (h : Nat → Nat → Int32) : Prop := mS h
theorem gR_at {A B : Nat → Nat} {n m : Nat} : (∀ s, s < n → plb A B m (prt (plb A B m) s) = plb A B m s) ∧ (∀ s, s < n → prt (plb A B m) s < n) ∧ (∀ s t, s < n → t < n → plb A B m s = plb A B m t → prt (plb A B m) s = prt (plb A B m) t) := ⟨fun s _ => (prt_at _ s).1, fun s hs => by have := (prt_at (plb A B m) s).2.1; omega, fun s t _ _ h => prt_eq h⟩
set_option maxHeartbeats 1000000 in
theorem s_Mo_layRoots {X : Nat × (Nat → Int32)} {d : Nat} {cu sp n1 n2 n3 n4 : Nat} (h : Nat → Nat → Int32) (hp : p_Mo_layRoots h) : ewP X Mo_layRoots (d + 1) 0 [some (.ref 194), none, none, none] [] (0, 0) (229, ewR cu sp n1 n2 n3 n4, h) (fun v S' => ∃ (h' : Nat → Nat → Int32), mLr h h' ∧ v = none ∧ S' = (229, ewR cu sp n1 n2 n3 n4, h')) := by
  have hp : mSt h (gN h) (gM h) (gA h) (gB h) := hp
  obtain ⟨a1, h8, a3, h7, a5, hn, hk⟩ := hp
  unfold mLr gR
  generalize gN h = n at *
  generalize gM h = m at *
  generalize gA h = A at *
  generalize gB h = B at *
  obtain ⟨R1, R2, R3⟩ := gR_at (A := A) (B := B) (n := n) (m := m)
  have put : ∀ (w : Nat → Nat → Int32) (f : Nat → Int32), mFq h w [215] [] → mFq h (ewS w 215 f) [215] [] := by
    intro w f q
    refine q.tr ⟨fun k hk hK => ewS_ne _ _ (fun e => hK (by rw [e]; simp)), fun i _ => ?_⟩
    rw [ewS_ne _ _ (by decide)]
  have w0 : ∀ w : Nat → Nat → Int32, mFq h w [215] [] → w 194 0 = nI n := fun w f => by rw [f.2 0 (by decide), a1]
  have w1 : ∀ w : Nat → Nat → Int32, mFq h w [215] [] → w 194 1 = nI m := fun w f => by rw [f.2 1 (by decide), a3]
  have w5 : ∀ w : Nat → Nat → Int32, mFq h w [215] [] → ∀ e, e < m → w 195 e = nI (A e) ∧ w 196 e = nI (B e) := fun w f e he => by rw [f.1 195 (by decide) (by decide), f.1 196 (by decide) (by decide)]; exact a5 e he
  refine v_Mo_layRoots_0 h ?_
  refine upto (H := Nat → Nat → Int32) (P := fun i w => mFq h w [215] [] ∧ ∀ s, s < i → w 215 s = nI s) (E := fun i w => ewP X Mo_layRoots (d + 1) 2 [some (.ref 194), some (.int (nI i)), none, none] [] (0, 0) (229, ewR cu sp n1 n2 n3 n4, w) _) n ?_ ?_ 0 h (by omega) ⟨⟨fun _ _ _ => rfl, fun _ _ => rfl⟩, fun f hf => by omega⟩
  · rintro i w hi ⟨f0, f1⟩ next
    have hlt : nI i < w 194 0 := by rw [w0 w f0]; exact nI_lt hi (by omega)
    refine v_Mo_layRoots_2 _ w (fun q => absurd hlt q) (fun _ => nI_inB (by omega) (by decide)) (fun _ => ?_)
    rw [← nI_succ, nI_clamp (by omega)]
    refine next _ ⟨put w _ f0, fun s hs => ?_⟩
    rw [ewS_self, upd]
    by_cases q : s = i
    · rw [if_pos q, q]
    · rw [if_neg q]; exact f1 s (by omega)
  · rintro w ⟨f0, f1⟩
    have hlt : ¬ nI n < w 194 0 := by rw [w0 w f0]; exact nI_nlt (Nat.le_refl _) (by omega)
    refine v_Mo_layRoots_2 _ w (fun _ => ?_) (fun q => absurd q hlt) (fun q => absurd q hlt)
    refine upto (H := Nat → Nat → Int32) (P := fun i w => mFq h w [215] [] ∧ ∃ f : Nat → Nat, (∀ s, s < n → w 215 s = nI (f s) ∧ f s ≤ s ∧ plb A B m (f s) = plb A B m s) ∧ tSp A B n m (prt (plb A B m)) i 0 (fun s => f s = prt (plb A B m) s)) (E := fun i w => ewP X Mo_layRoots (d + 1) 25 [some (.ref 194), some (.int (nI i)), none, none] [] (0, 0) (229, ewR cu sp n1 n2 n3 n4, w) _) n ?_ ?_ 0 w (by omega) ⟨f0, id, fun s hs => ⟨f1 s hs, Nat.le_refl _, rfl⟩, tSp_0 hk (fun s _ q => q)⟩
    · rintro i w hi ⟨f0, f1⟩ next
      have hlt : nI i < w 194 0 := by rw [w0 w f0]; exact nI_lt hi (by omega)
      refine v_Mo_layRoots_25 _ w (fun q => absurd hlt q) (fun _ => ?_)
      refine upto (H := Nat → Nat → Int32) (P := fun e w => mFq h w [215] [] ∧ ∃ f : Nat → Nat, (∀ s, s < n → w 215 s = nI (f s) ∧ f s ≤ s ∧ plb A B m (f s) = plb A B m s) ∧ tSp A B n m (prt (plb A B m)) i e (fun s => f s = prt (plb A B m) s)) (E := fun e w => ewP X Mo_layRoots (d + 1) 35 [some (.ref 194), some (.int (nI i)), some (.int (nI e)), none] [] (0, 0) (229, ewR cu sp n1 n2 n3 n4, w) _) m ?_ ?_ 0 w (by omega) ⟨f0, f1⟩
      · rintro e w he ⟨f0, f, f1, f2⟩ next
        have hlt : nI e < w 194 1 := by rw [w1 w f0]; exact nI_lt he (by omega)
        obtain ⟨eA, eB⟩ := w5 w f0 e he
        obtain ⟨hA, hB⟩ := hn e he
        obtain ⟨gA1, gA2, gA3⟩ := f1 _ hA
        obtain ⟨gB1, gB2, gB3⟩ := f1 _ hB
        have i1 : w 195 (nI e).toNatClampNeg = nI (A e) := by rw [nI_clamp (by omega), eA]
        have i2 : w 196 (nI e).toNatClampNeg = nI (B e) := by rw [nI_clamp (by omega), eB]
        have i3 : (nI (A e)).toNatClampNeg = A e := nI_clamp (by omega)
        have i4 : (nI (B e)).toNatClampNeg = B e := nI_clamp (by omega)
        have hend := plb_ends (A := A) (B := B) he
        refine v_Mo_layRoots_35 _ _ w (fun q => absurd hlt q) (fun _ => nI_inB (by omega) (by decide)) (fun _ => by rw [i1]; exact nI_inB (by omega) (by decide)) (fun _ => by rw [i2]; exact nI_inB (by omega) (by decide)) (fun _ => ?_)
        rw [← nI_succ, i1, i2, i3, i4, ewS_S, gA1, gB1, nI_ite _ _ (by omega) (by omega)]
        generalize hx : (if f (A e) < f (B e) then f (A e) else f (B e)) = x
        have xle : x ≤ f (A e) ∧ x ≤ f (B e) ∧ (x = f (A e) ∨ x = f (B e)) := by rw [← hx]; split <;> omega
        have xlb : plb A B m x = plb A B m (A e) := by
          rcases xle.2.2 with z | z
          · rw [z]; exact gA3
          · rw [z, gB3]; exact hend.symm
        have rAB : prt (plb A B m) (A e) = prt (plb A B m) (B e) := prt_eq hend
        have xge : prt (plb A B m) (A e) ≤ x := by
          by_cases q : prt (plb A B m) (A e) ≤ x
          · exact q
          · exact absurd xlb ((prt_at (plb A B m) (A e)).2.2 x (by omega))
        refine next _ ⟨put w _ f0, pup (pup f (A e) x) (B e) x, fun s hs => ?_, tSp_e (by omega) hk R1 R3 hn he (fun s hs hg => ?_) (fun hg => ?_) f2⟩
        · rw [ewS_self]
          by_cases z1 : s = B e
          · subst z1; rw [upd, if_pos rfl, pup_self]; exact ⟨rfl, by omega, by rw [xlb]; exact hend⟩
          · rw [upd, if_neg z1, pup_ne _ _ z1]
            by_cases z2 : s = A e
            · subst z2; rw [upd, if_pos rfl, pup_self]; exact ⟨rfl, by omega, xlb⟩
            · rw [upd, if_neg z2, pup_ne _ _ z2]; exact f1 s hs
        · show pup (pup f (A e) x) (B e) x s = _
          have hg : f s = prt (plb A B m) s := hg
          by_cases z1 : s = B e
          · subst z1; rw [pup_self]; omega
          · rw [pup_ne _ _ z1]
            by_cases z2 : s = A e
            · subst z2; rw [pup_self]; omega
            · rw [pup_ne _ _ z2]; exact hg
        · have xe : x = prt (plb A B m) (A e) := by
            rcases hg with hg | hg
            · have hg : f (A e) = _ := hg; omega
            · have hg : f (B e) = _ := hg; omega
          constructor
          · show pup (pup f (A e) x) (B e) x (A e) = _
            by_cases z1 : A e = B e
            · rw [z1, pup_self, xe, z1]
            · rw [pup_ne _ _ z1, pup_self, xe]
          · show pup (pup f (A e) x) (B e) x (B e) = _
            rw [pup_self, xe, rAB]
      · rintro w ⟨f0, f, f1, f2⟩
        have hlt : ¬ nI m < w 194 1 := by rw [w1 w f0]; exact nI_nlt (Nat.le_refl _) (by omega)
        refine v_Mo_layRoots_35 _ _ w (fun _ => ?_) (fun q => absurd q hlt) (fun q => absurd q hlt) (fun q => absurd q hlt) (fun q => absurd q hlt)
        rw [← nI_succ]
        exact next _ ⟨f0, f, f1, tSp_i hk R1 f2⟩
    · rintro w ⟨f0, f, f1, f2⟩
      have hlt : ¬ nI n < w 194 0 := by rw [w0 w f0]; exact nI_nlt (Nat.le_refl _) (by omega)
      refine v_Mo_layRoots_25 _ w (fun _ => ⟨w, ⟨f0, fun s hs => ?_⟩, rfl, rfl⟩) (fun q => absurd q hlt)
      rw [(f1 s hs).1, tSp_n hk hn R1 R2 f2 s hs]
/-- whether a place is taken -/
def pTk (h : Nat → Nat → Int32) (x1 x2 x3 x4 : Int32) : Nat → Bool
  | 0 => false
  | s + 1 => pTk h x1 x2 x3 x4 s || decide (¬ (nI s = x4) ∧ (h 215 s = x1 ∧ (h 216 s = x2 ∧ h 217 s = x3)))
def f_Mo_isTaken (h : Nat → Nat → Int32) (x1 x2 x3 x4 : Int32) : Int32 := bI (pTk h x1 x2 x3 x4 (gN h))
def p_Mo_isTaken (h : Nat → Nat → Int32) (x1 x2 x3 x4 : Int32) : Prop := h 194 0 = nI (gN h) ∧ gN h ≤ 8
theorem bI_ne (b : Bool) : (¬ bI b = 0) ↔ b = true := by cases b <;> decide
theorem bI_eq (b : Bool) : (bI b = 0) ↔ b = false := by cases b <;> decide
theorem bI_01 (b : Bool) : bI b = 0 ∨ bI b = 1 := by cases b; exact Or.inl rfl; exact Or.inr rfl
theorem s_Mo_isTaken {X : Nat × (Nat → Int32)} {d : Nat} {Q : Option Value → eS → Prop} {cu sp n1 n2 n3 n4 : Nat} (x1 x2 x3 x4 : Int32) (h : Nat → Nat → Int32) (hp : p_Mo_isTaken h x1 x2 x3 x4) (z9 : Q (some (.int (f_Mo_isTaken h x1 x2 x3 x4))) (229, (ewR cu sp n1 n2 n3 n4), h)) : ewP X Mo_isTaken (d + 0) 0 [some (.ref 194), some (.int x1), some (.int x2), some (.int x3), some (.int x4), none, none] [] (0, 0) (229, (ewR cu sp n1 n2 n3 n4), h) Q := by
  obtain ⟨a1, h8⟩ := hp
  refine v_Mo_isTaken_0 _ _ _ _ h ?_
  refine upto (H := Unit) (P := fun _ _ => True) (E := fun s _ => ewP X Mo_isTaken (d + 0) 6 [some (.ref 194), some (.int x1), some (.int x2), some (.int x3), some (.int x4), some (.int (bI (pTk h x1 x2 x3 x4 s))), some (.int (nI s))] [] (0, 0) (229, ewR cu sp n1 n2 n3 n4, h) Q) (gN h) ?_ ?_ 0 () (by omega) trivial
  · intro s _ hs _ next
    have next := next () trivial
    have hlt : nI s < h 194 0 := by rw [a1]; exact nI_lt hs (by omega)
    refine v_Mo_isTaken_6 _ _ _ _ _ _ h (fun q => absurd hlt q) (fun q => absurd hlt q) (fun _ _ _ => nI_inB (by omega) (by decide)) (fun _ => ?_)
    have e : (if ¬ (bI (pTk h x1 x2 x3 x4 s) = 0) ∨ (¬ (nI s = x4) ∧ ((h 215 (nI s).toNatClampNeg = x1) ∧ ((h 216 (nI s).toNatClampNeg = x2) ∧ (h 217 (nI s).toNatClampNeg = x3)))) then (1 : Int32) else 0) = bI (pTk h x1 x2 x3 x4 (s + 1)) := by
      rw [nI_clamp (by omega)]
      unfold bI
      have : (¬ ((if pTk h x1 x2 x3 x4 s = true then (1 : Int32) else 0) = 0) ∨ (¬ (nI s = x4) ∧ (h 215 s = x1 ∧ (h 216 s = x2 ∧ h 217 s = x3)))) ↔ pTk h x1 x2 x3 x4 (s + 1) = true := by
        show _ ↔ (pTk h x1 x2 x3 x4 s || decide (¬ (nI s = x4) ∧ (h 215 s = x1 ∧ (h 216 s = x2 ∧ h 217 s = x3)))) = true
        rw [Bool.or_eq_true, decide_eq_true_iff]
        have := bI_ne (pTk h x1 x2 x3 x4 s)
        unfold bI at this
        rw [this]
      by_cases q : pTk h x1 x2 x3 x4 (s + 1) = true
      · rw [if_pos q, if_pos (this.mpr q)]
      · rw [if_neg q, if_neg (fun z => q (this.mp z))]
    rw [e, ← nI_succ]
    exact next
  · intro _ _
    have hlt : ¬ nI (gN h) < h 194 0 := by rw [a1]; exact nI_nlt (Nat.le_refl _) (by omega)
    exact v_Mo_isTaken_6 _ _ _ _ _ _ h (fun _ => z9) (fun _ => bI_01 _) (fun q => absurd q hlt) (fun q => absurd q hlt)
/-- how a stretch leads, by lengths and directions as they stand -/
def gX (h : Nat → Nat → Int32) (q e : Nat) : Int32 := h q e * f_Mo_stepX (h 214 e)
def gY (h : Nat → Nat → Int32) (q e : Nat) : Int32 := h q e * f_Mo_stepY (h 214 e)
def mLs (h : Nat → Nat → Int32) (q1 : Nat) (h' : Nat → Nat → Int32) : Prop := mFq h h' [216, 217, 220] [] ∧ ∀ s, s < gN h → h' 216 s = ppx (gA h) (gB h) (gX h q1) (gM h) s - ppx (gA h) (gB h) (gX h q1) (gM h) (gR h s) ∧ h' 217 s = ppx (gA h) (gB h) (gY h q1) (gM h) s - ppx (gA h) (gB h) (gY h q1) (gM h) (gR h s)
def p_Mo_layPlaces (h : Nat → Nat → Int32) (q1 : Nat) : Prop := mS h ∧ (∀ s, s < gN h → h 215 s = nI (gR h s)) ∧ (ewTj q1 9 = true ∧ kL q1 = 7 ∧ q1 ≠ 216 ∧ q1 ≠ 217 ∧ q1 ≠ 220 ∧ q1 ≠ 194)
theorem i32_c (a b c r : Int32) (h : a = b + c) : b - r + c = a - r := by grind
theorem i32_d (a b c r : Int32) (h : a = b + c) : a - r - c = b - r := by grind
theorem i32_e (a : Int32) : (0 : Int32) = a - a := by grind
set_option maxHeartbeats 1000000 in
theorem s_Mo_layPlaces {X : Nat × (Nat → Int32)} {d : Nat} {cu sp n1 n2 n3 n4 : Nat} (q1 : Nat) (h : Nat → Nat → Int32) (hp : p_Mo_layPlaces h q1) : ewP X Mo_layPlaces (d + 1) 0 [some (.ref 194), some (.ref q1), none, none, none, none, none] [] (0, 0) (229, ewR cu sp n1 n2 n3 n4, h) (fun v S' => ∃ (h' : Nat → Nat → Int32), mLs h q1 h' ∧ v = none ∧ S' = (229, ewR cu sp n1 n2 n3 n4, h')) := by
  obtain ⟨hS, hR, t1, t2, t3, t4, t5, t6⟩ := hp
  have hS : mSt h (gN h) (gM h) (gA h) (gB h) := hS
  obtain ⟨a1, h8, a3, h7, a5, hn, hk⟩ := hS
  unfold mLs gR at *
  generalize hdx : gX h q1 = dx at *
  generalize hdy : gY h q1 = dy at *
  generalize gN h = n at *
  generalize gM h = m at *
  generalize gA h = A at *
  generalize gB h = B at *
  obtain ⟨R1, R2, R3⟩ := gR_at (A := A) (B := B) (n := n) (m := m)
  have put : ∀ (w : Nat → Nat → Int32) (f g i : Nat → Int32), mFq h w [216, 217, 220] [] → mFq h (ewS (ewS (ewS w 216 f) 217 g) 220 i) [216, 217, 220] [] := by
    intro w f g i q
    refine q.tr ⟨fun k hk hK => ?_, fun i _ => ?_⟩
    · simp at hK
      rw [ewS_ne _ _ hK.2.2, ewS_ne _ _ hK.2.1, ewS_ne _ _ hK.1]
    · rw [ewS_ne _ _ (by decide), ewS_ne _ _ (by decide), ewS_ne _ _ (by decide)]
  have w0 : ∀ w : Nat → Nat → Int32, mFq h w [216, 217, 220] [] → w 194 0 = nI n := fun w f => by rw [f.2 0 (by decide), a1]
  have w1 : ∀ w : Nat → Nat → Int32, mFq h w [216, 217, 220] [] → w 194 1 = nI m := fun w f => by rw [f.2 1 (by decide), a3]
  have w5 : ∀ w : Nat → Nat → Int32, mFq h w [216, 217, 220] [] → ∀ e, e < m → w 195 e = nI (A e) ∧ w 196 e = nI (B e) := fun w f e he => by rw [f.1 195 (by decide) (by decide), f.1 196 (by decide) (by decide)]; exact a5 e he
  have wd : ∀ w : Nat → Nat → Int32, mFq h w [216, 217, 220] [] → ∀ e, w q1 e * f_Mo_stepX (w 214 e) = dx e ∧ w q1 e * f_Mo_stepY (w 214 e) = dy e := fun w f e => by
    rw [f.1 q1 t6 (by simp; exact ⟨t3, t4, t5⟩), f.1 214 (by decide) (by decide), ← hdx, ← hdy]; exact ⟨rfl, rfl⟩
  refine v_Mo_layPlaces_0 q1 h ?_
  refine upto (H := Nat → Nat → Int32) (P := fun i w => mFq h w [216, 217, 220] [] ∧ ∀ s, s < i → w 216 s = 0 ∧ w 217 s = 0 ∧ (w 220 s = 0 ∨ prt (plb A B m) s = s) ∧ (s = prt (plb A B m) s → ¬ w 220 s = 0)) (E := fun i w => ewP X Mo_layPlaces (d + 1) 2 [some (.ref 194), some (.ref q1), some (.int (nI i)), none, none, none, none] [] (0, 0) (229, ewR cu sp n1 n2 n3 n4, w) _) n ?_ ?_ 0 h (by omega) ⟨⟨fun _ _ _ => rfl, fun _ _ => rfl⟩, fun f hf => by omega⟩
  · rintro i w hi ⟨f0, f1⟩ next
    have hlt : nI i < w 194 0 := by rw [w0 w f0]; exact nI_lt hi (by omega)
    refine v_Mo_layPlaces_2 q1 _ w (fun q => absurd hlt q) (fun _ => nI_inB (by omega) (by decide)) (fun _ => ?_)
    rw [← nI_succ, nI_clamp (by omega), f0.1 215 (by decide) (by decide), hR i hi]
    have hri := R2 i hi
    refine next _ ⟨?_, fun s hs => ?_⟩
    · refine f0.tr ⟨fun k hk hK => ?_, fun i _ => ?_⟩
      · simp at hK
        rw [ewS_ne _ _ hK.2.1, ewS_ne _ _ hK.1, ewS_ne _ _ hK.2.2]
      · rw [ewS_ne _ _ (by decide), ewS_ne _ _ (by decide), ewS_ne _ _ (by decide)]
    · rw [ewS_ne _ _ (show (216 : Nat) ≠ 217 by decide), ewS_self, ewS_self, ewS_ne _ _ (show (220 : Nat) ≠ 217 by decide), ewS_ne _ _ (show (220 : Nat) ≠ 216 by decide), ewS_self, upd, upd, upd]
      by_cases q : s = i
      · subst q
        rw [if_pos rfl, if_pos rfl, if_pos rfl]
        refine ⟨rfl, rfl, ?_, fun z => ?_⟩
        · by_cases z : prt (plb A B m) s = s
          · exact Or.inr z
          · exact Or.inl (if_neg (fun y => z ((nI_eq (by omega) (by omega)).mp y)))
        · rw [if_pos (by rw [← z])]; decide
      · rw [if_neg q, if_neg q, if_neg q]; exact f1 s (by omega)
  · rintro w ⟨f0, f1⟩
    have hlt : ¬ nI n < w 194 0 := by rw [w0 w f0]; exact nI_nlt (Nat.le_refl _) (by omega)
    refine v_Mo_layPlaces_2 q1 _ w (fun _ => ?_) (fun q => absurd q hlt) (fun q => absurd q hlt)
    refine upto (H := Nat → Nat → Int32) (P := fun i w => mFq h w [216, 217, 220] [] ∧ (∀ s, s < n → ¬ w 220 s = 0 → w 216 s = ppx A B dx m s - ppx A B dx m (prt (plb A B m) s) ∧ w 217 s = ppx A B dy m s - ppx A B dy m (prt (plb A B m) s)) ∧ tSp A B n m (prt (plb A B m)) i 0 (fun s => ¬ w 220 s = 0)) (E := fun i w => ewP X Mo_layPlaces (d + 1) 53 [some (.ref 194), some (.ref q1), some (.int (nI i)), none, none, none, none] [] (0, 0) (229, ewR cu sp n1 n2 n3 n4, w) _) n ?_ ?_ 0 w (by omega) ⟨f0, fun s hs hz => ?_, tSp_0 hk (fun s hs q => (f1 s hs).2.2.2 q)⟩
    · rintro i w hi ⟨f0, f1⟩ next
      have hlt : nI i < w 194 0 := by rw [w0 w f0]; exact nI_lt hi (by omega)
      refine v_Mo_layPlaces_53 q1 _ w (fun q => absurd hlt q) (fun _ => ?_)
      refine upto (H := Nat → Nat → Int32) (P := fun e w => mFq h w [216, 217, 220] [] ∧ (∀ s, s < n → ¬ w 220 s = 0 → w 216 s = ppx A B dx m s - ppx A B dx m (prt (plb A B m) s) ∧ w 217 s = ppx A B dy m s - ppx A B dy m (prt (plb A B m) s)) ∧ tSp A B n m (prt (plb A B m)) i e (fun s => ¬ w 220 s = 0)) (E := fun e w => ewP X Mo_layPlaces (d + 1) 63 [some (.ref 194), some (.ref q1), some (.int (nI i)), some (.int (nI e)), none, none, none] [] (0, 0) (229, ewR cu sp n1 n2 n3 n4, w) _) m ?_ ?_ 0 w (by omega) ⟨f0, f1⟩
      · rintro e w he ⟨f0, f1, f2⟩ next
        have hlt : nI e < w 194 1 := by rw [w1 w f0]; exact nI_lt he (by omega)
        obtain ⟨eA, eB⟩ := w5 w f0 e he
        obtain ⟨hA, hB⟩ := hn e he
        have ce : (nI e).toNatClampNeg = e := nI_clamp (by omega)
        have i1 : w 195 (nI e).toNatClampNeg = nI (A e) := by rw [ce, eA]
        have i2 : w 196 (nI e).toNatClampNeg = nI (B e) := by rw [ce, eB]
        have i3 : (nI (A e)).toNatClampNeg = A e := nI_clamp (by omega)
        have i4 : (nI (B e)).toNatClampNeg = B e := nI_clamp (by omega)
        have hend := plb_ends (A := A) (B := B) he
        have rAB : prt (plb A B m) (A e) = prt (plb A B m) (B e) := prt_eq hend
        have ex := ppx_edge (dx := dx) hk he
        have ey := ppx_edge (dx := dy) hk he
        obtain ⟨dx1, dy1⟩ := wd w f0 e
        have inA : vp_in (w 195 (nI e).toNatClampNeg) 8 := by rw [i1]; exact nI_inB (by omega) (by decide)
        have inB : vp_in (w 196 (nI e).toNatClampNeg) 8 := by rw [i2]; exact nI_inB (by omega) (by decide)
        refine v_Mo_layPlaces_63 q1 _ _ w (fun q => absurd hlt q) (fun _ => nI_inB (by omega) (by decide)) (fun _ => t1) (fun _ => by rw [t2]; exact nI_inB (by omega) (by decide)) (fun _ => inA) (fun _ _ => inB) (fun _ p1 p2 => ?_) (fun _ p1 p2 => ?_) (fun _ _ => inB) (fun _ p1 p2 => ?_) (fun _ p1 p2 => ?_)
        · rw [i1, i3] at p1
          rw [i2, i4] at p2
          rw [← nI_succ]
          refine next _ ⟨f0, f1, tSp_e (by omega) hk R1 R3 hn he (fun s _ hg => hg) (fun hg => ?_) f2⟩
          rcases hg with hg | hg
          · exact absurd p1 hg
          · exact absurd p2 hg
        · rw [i1, i3] at p1
          rw [i2, i4] at p2
          rw [← nI_succ, i1, i2, i3, i4, ce, dx1, dy1]
          obtain ⟨b1, b2⟩ := f1 _ hB p2
          refine next _ ⟨put w _ _ _ f0, fun s hs hz => ?_, tSp_e (by omega) hk R1 R3 hn he (fun s _ hg => ?_) (fun hg => ?_) f2⟩
          · rw [ewS_ne _ _ (show (216 : Nat) ≠ 220 by decide), ewS_ne _ _ (show (216 : Nat) ≠ 217 by decide), ewS_self, ewS_ne _ _ (show (217 : Nat) ≠ 220 by decide), ewS_self]
            rw [ewS_self] at hz
            by_cases q : s = A e
            · subst q
              rw [upd, if_pos rfl, upd, if_pos rfl, b1, b2, rAB]
              exact ⟨i32_d _ _ _ _ ex, i32_d _ _ _ _ ey⟩
            · rw [upd, if_neg q, upd, if_neg q]
              rw [upd, if_neg q] at hz
              exact f1 s hs hz
          · show ¬ (ewS (α := Nat → Int32) _ 220 _ 220) s = 0
            have hg : ¬ w 220 s = 0 := hg
            rw [ewS_self, upd]
            split
            · decide
            · exact hg
          · refine ⟨?_, ?_⟩
            · show ¬ (ewS (α := Nat → Int32) _ 220 _ 220) (A e) = 0
              rw [ewS_self, upd, if_pos rfl]; decide
            · show ¬ (ewS (α := Nat → Int32) _ 220 _ 220) (B e) = 0
              rw [ewS_self, upd]
              split
              · decide
              · exact p2
        · rw [i1, i3] at p1
          rw [i2, i4] at p2
          rw [← nI_succ]
          exact next _ ⟨f0, f1, tSp_e (by omega) hk R1 R3 hn he (fun s _ hg => hg) (fun _ => ⟨p1, p2⟩) f2⟩
        · rw [i1, i3] at p1
          rw [i2, i4] at p2
          rw [← nI_succ, i1, i2, i3, i4, ce, dx1, dy1]
          obtain ⟨b1, b2⟩ := f1 _ hA p1
          refine next _ ⟨put w _ _ _ f0, fun s hs hz => ?_, tSp_e (by omega) hk R1 R3 hn he (fun s _ hg => ?_) (fun hg => ?_) f2⟩
          · rw [ewS_ne _ _ (show (216 : Nat) ≠ 220 by decide), ewS_ne _ _ (show (216 : Nat) ≠ 217 by decide), ewS_self, ewS_ne _ _ (show (217 : Nat) ≠ 220 by decide), ewS_self]
            rw [ewS_self] at hz
            by_cases q : s = B e
            · subst q
              rw [upd, if_pos rfl, upd, if_pos rfl, b1, b2, rAB]
              exact ⟨i32_c _ _ _ _ ex, i32_c _ _ _ _ ey⟩
            · rw [upd, if_neg q, upd, if_neg q]
              rw [upd, if_neg q] at hz
              exact f1 s hs hz
          · show ¬ (ewS (α := Nat → Int32) _ 220 _ 220) s = 0
            have hg : ¬ w 220 s = 0 := hg
            rw [ewS_self, upd]
            split
            · decide
            · exact hg
          · refine ⟨?_, ?_⟩
            · show ¬ (ewS (α := Nat → Int32) _ 220 _ 220) (A e) = 0
              rw [ewS_self, upd]
              split
              · decide
              · exact p1
            · show ¬ (ewS (α := Nat → Int32) _ 220 _ 220) (B e) = 0
              rw [ewS_self, upd, if_pos rfl]; decide
      · rintro w ⟨f0, f1, f2⟩
        have hlt : ¬ nI m < w 194 1 := by rw [w1 w f0]; exact nI_nlt (Nat.le_refl _) (by omega)
        refine v_Mo_layPlaces_63 q1 _ _ w (fun _ => ?_) (fun q => absurd q hlt) (fun q => absurd q hlt) (fun q => absurd q hlt) (fun q => absurd q hlt) (fun q => absurd q hlt) (fun q => absurd q hlt) (fun q => absurd q hlt) (fun q => absurd q hlt) (fun q => absurd q hlt) (fun q => absurd q hlt)
        rw [← nI_succ]
        exact next _ ⟨f0, f1, tSp_i hk R1 f2⟩
    · rintro w ⟨f0, f1, f2⟩
      have hlt : ¬ nI n < w 194 0 := by rw [w0 w f0]; exact nI_nlt (Nat.le_refl _) (by omega)
      exact v_Mo_layPlaces_53 q1 _ w (fun _ => ⟨w, ⟨f0, fun s hs => f1 s hs (tSp_n hk hn R1 R2 f2 s hs)⟩, rfl, rfl⟩) (fun q => absurd q hlt)
    · obtain ⟨y1, y2, y3, y4⟩ := f1 s hs
      have e1 : prt (plb A B m) s = s := y3.resolve_left hz
      rw [e1, y1, y2]
      exact ⟨i32_e _, i32_e _⟩
