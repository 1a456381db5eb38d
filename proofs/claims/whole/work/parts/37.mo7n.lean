/-! the reference: layLine -/
theorem tfx_iff {A B : Nat → Nat} {m s t e : Nat} (h9 : m ≤ 90) (hk : tOK A B m) (hc : plb A B m s = plb A B m t) (hne : s ≠ t) (he : e < m) :
    (A e = s → (tds A B m (B e) t + 1 = tds A B m s t ↔ tfx A B m s t = e)) ∧ (B e = s → (tds A B m (A e) t + 1 = tds A B m s t ↔ tfx A B m s t = e)) ∧ (A e ≠ s → B e ≠ s → tfx A B m s t ≠ e) := by
  obtain ⟨f1, f2⟩ := tfx_at hk hc hne
  have hab : A e ≠ B e := fun q => hk e he (by rw [q])
  refine ⟨fun ha => ?_, fun hb => ?_, fun ha hb q => ?_⟩
  · subst ha
    constructor
    · intro q
      rcases tds_end hk h9 he hc with ⟨g1, g2, g3⟩ | ⟨g1, g2, g3⟩
      · exact g2
      · omega
    · intro q
      rw [q] at f2
      rcases f2 with ⟨-, g⟩ | ⟨g, -⟩
      · exact g
      · exact absurd g.symm hab
  · subst hb
    have hc2 := (plb_ends (A := A) (B := B) he).trans hc
    constructor
    · intro q
      rcases tds_end hk h9 he hc2 with ⟨g1, g2, g3⟩ | ⟨g1, g2, g3⟩
      · omega
      · exact g2
    · intro q
      rw [q] at f2
      rcases f2 with ⟨g, -⟩ | ⟨-, g⟩
      · exact absurd g hab
      · exact g
  · rw [q] at f2
    rcases f2 with ⟨g, -⟩ | ⟨g, -⟩
    · exact ha g
    · exact hb g
/-- one step on the way -/
def tst (A B : Nat → Nat) (m t s : Nat) : Nat := if s = t then s else if A (tfx A B m s t) = s then B (tfx A B m s t) else A (tfx A B m s t)
theorem tnd_t (A B : Nat → Nat) (m t k : Nat) : tnd A B m t t k = t := by
  induction k with
  | zero => rfl
  | succ k ih => show (if t = t then t else _) = t; rw [if_pos rfl]
theorem tnd_f (A B : Nat → Nat) (m t s k : Nat) : tnd A B m t s (k + 1) = tnd A B m t (tst A B m t s) k := by
  show (if s = t then s else _) = _
  unfold tst
  by_cases e : s = t
  · rw [if_pos e, if_pos e, e, tnd_t]
  · rw [if_neg e, if_neg e]
theorem tnd_l (A B : Nat → Nat) (m t s k : Nat) : tnd A B m t s (k + 1) = tst A B m t (tnd A B m t s k) := by
  induction k generalizing s with
  | zero => rw [tnd_f]; rfl
  | succ k ih => rw [tnd_f, ih, tnd_f]
theorem tst_at {A B : Nat → Nat} {n m s t : Nat} (hk : tOK A B m) (hn : ∀ e, e < m → A e < n ∧ B e < n) (hc : plb A B m s = plb A B m t) (hne : s ≠ t) : plb A B m (tst A B m t s) = plb A B m t ∧ tds A B m (tst A B m t s) t + 1 = tds A B m s t ∧ tst A B m t s < n := by
  obtain ⟨f1, f2⟩ := tfx_at hk hc hne
  have hab : A (tfx A B m s t) ≠ B (tfx A B m s t) := fun q => hk _ f1 (by rw [q])
  have hend := plb_ends (A := A) (B := B) f1
  have hlt := hn _ f1
  unfold tst
  rw [if_neg hne]
  rcases f2 with ⟨g1, g2⟩ | ⟨g1, g2⟩
  · rw [if_pos g1]; exact ⟨by rw [← hend, g1]; exact hc, g2, hlt.2⟩
  · rw [if_neg (fun q => hab (q.trans g1.symm))]; exact ⟨by rw [hend, g1]; exact hc, g2, hlt.1⟩
theorem tnd_at {A B : Nat → Nat} {n m s t : Nat} (hk : tOK A B m) (hn : ∀ e, e < m → A e < n ∧ B e < n) (hc : plb A B m s = plb A B m t) (hs : s < n) : ∀ k, k ≤ tds A B m s t → plb A B m (tnd A B m t s k) = plb A B m t ∧ tds A B m (tnd A B m t s k) t + k = tds A B m s t ∧ tnd A B m t s k < n
  | 0, _ => ⟨hc, rfl, hs⟩
  | k + 1, h => by
    obtain ⟨i1, i2, i3⟩ := tnd_at hk hn hc hs k (by omega)
    have hne : tnd A B m t s k ≠ t := by intro q; rw [q, tds_0] at i2; omega
    obtain ⟨j1, j2, j3⟩ := tst_at hk hn i1 hne
    rw [tnd_l]
    exact ⟨j1, by omega, j3⟩
/-- readings -/
def gN (h : Nat → Nat → Int32) : Nat := (h 194 0).toNatClampNeg
def gM (h : Nat → Nat → Int32) : Nat := (h 194 1).toNatClampNeg
def gA (h : Nat → Nat → Int32) (e : Nat) : Nat := if e < gM h then (h 195 e).toNatClampNeg else 0
def gB (h : Nat → Nat → Int32) (e : Nat) : Nat := if e < gM h then (h 196 e).toNatClampNeg else 0
def gK (h : Nat → Nat → Int32) : Nat := (h 194 4).toNatClampNeg
def mS (h : Nat → Nat → Int32) : Prop := mSt h (gN h) (gM h) (gA h) (gB h)
theorem plb_cg2 {A B A' B' : Nat → Nat} {m : Nat} (h : ∀ i, i < m → A' i = A i ∧ B' i = B i) : ∀ e, e ≤ m → ∀ s, plb A' B' e s = plb A B e s := fun e he => plb_congr e (fun i hi => h i (by omega))
theorem mSt.g {h : Nat → Nat → Int32} {n m : Nat} {A B : Nat → Nat} (a : mSt h n m A B) (z : ∀ e, m ≤ e → A e = 0 ∧ B e = 0) : gN h = n ∧ gM h = m ∧ gA h = A ∧ gB h = B := by
  obtain ⟨a1, a2, a3, a4, a5, a6, a7⟩ := a
  have e2 : gM h = m := by unfold gM; rw [a3, nI_clamp (by omega)]
  refine ⟨by unfold gN; rw [a1, nI_clamp (by omega)], e2, ?_, ?_⟩
  · funext e
    unfold gA
    rw [e2]
    split
    · rename_i q
      rw [(a5 e q).1, nI_clamp (by have := a6 e q; omega)]
    · rename_i q
      exact (z e (by omega)).1.symm
  · funext e
    unfold gB
    rw [e2]
    split
    · rename_i q
      rw [(a5 e q).2, nI_clamp (by have := a6 e q; omega)]
    · rename_i q
      exact (z e (by omega)).2.symm
theorem mSt.m {h : Nat → Nat → Int32} {n m : Nat} {A B : Nat → Nat} (a : mSt h n m A B) (z : ∀ e, m ≤ e → A e = 0 ∧ B e = 0) : mS h := by
  unfold mS
  obtain ⟨e1, e2, e3, e4⟩ := a.g z
  rw [e1, e2, e3, e4]
  exact a
def mLl (h : Nat → Nat → Int32) (x1 : Int32) (h' : Nat → Nat → Int32) : Prop :=
  (∀ k, k ≠ 199 → k ≠ 200 → k ≠ 201 → k ≠ 211 → h' k = h k) ∧
  h' 199 = upd (h 199) x1.toNatClampNeg (nI (tds (gA h) (gB h) (gM h) (h 197 x1.toNatClampNeg).toNatClampNeg (h 198 x1.toNatClampNeg).toNatClampNeg)) ∧
  (∀ j, ¬ (8 * x1.toNatClampNeg ≤ j ∧ j < 8 * x1.toNatClampNeg + 8) → h' 200 j = h 200 j ∧ h' 201 j = h 201 j) ∧
  (∀ k, k ≤ tds (gA h) (gB h) (gM h) (h 197 x1.toNatClampNeg).toNatClampNeg (h 198 x1.toNatClampNeg).toNatClampNeg → h' 201 (8 * x1.toNatClampNeg + k) = nI (tnd (gA h) (gB h) (gM h) (h 198 x1.toNatClampNeg).toNatClampNeg (h 197 x1.toNatClampNeg).toNatClampNeg k)) ∧
  (∀ k, k < tds (gA h) (gB h) (gM h) (h 197 x1.toNatClampNeg).toNatClampNeg (h 198 x1.toNatClampNeg).toNatClampNeg → h' 200 (8 * x1.toNatClampNeg + k) = nI (tpe (gA h) (gB h) (gM h) (h 198 x1.toNatClampNeg).toNatClampNeg (h 197 x1.toNatClampNeg).toNatClampNeg k))
def p_Mo_layLine (h : Nat → Nat → Int32) (x1 : Int32) : Prop := mS h ∧ ∃ l f t : Nat, l < 3 ∧ x1 = nI l ∧ h 197 l = nI f ∧ h 198 l = nI t ∧ f < gN h ∧ t < gN h ∧ plb (gA h) (gB h) (gM h) f = plb (gA h) (gB h) (gM h) t
set_option maxHeartbeats 1000000 in
theorem s_Mo_layLine {X : Nat × (Nat → Int32)} {d : Nat} {cu sp n1 n2 n3 n4 : Nat} (x1 : Int32) (h : Nat → Nat → Int32) (hp : p_Mo_layLine h x1) : ewP X Mo_layLine (d + 2) 0 [some (.ref 194), some (.int x1), none, none, none, none, none] [] (0, 0) (229, ewR cu sp n1 n2 n3 n4, h) (fun v S' => ∃ (h' : Nat → Nat → Int32), mLl h x1 h' ∧ v = none ∧ S' = (229, ewR cu sp n1 n2 n3 n4, h')) := by
  obtain ⟨hst, l, f, t, hl, rfl, hf, ht, hf8, ht8, hc⟩ := hp
  unfold mLl
  unfold mS at hst
  rw [nI_clamp (by omega), hf, ht]
  obtain ⟨a1, h8, a3, h7, a5, hn, hk⟩ := id hst
  rw [nI_clamp (show f < 2 ^ 31 by omega), nI_clamp (show t < 2 ^ 31 by omega)]
  generalize gN h = n at *
  generalize gM h = m at *
  generalize gA h = A at *
  generalize gB h = B at *
  have hD := tds_lt hk hn hf8 ht8 hc
  have m8 : (8 : Int32) * nI l = nI (8 * l) := by unfold nI; rw [Int32.ofNat_mul]; rfl
  have ad : ∀ a b : Nat, nI a + nI b = nI (a + b) := by intro a b; unfold nI; rw [Int32.ofNat_add]
  refine v_Mo_layLine_0 (nI l) h (nI_inB hl (by decide)) ⟨n, m, t, A, B, hst, by rw [nI_clamp (by omega), ht], ht8⟩ (fun w hw => ⟨nI_inB hl (by decide), by rw [m8]; exact nI_inB (by omega) (by decide), ?_⟩)
  rw [nI_clamp (by omega), ht] at hw
  obtain ⟨w1, w2⟩ := hw
  have w2 := w2 n m t A B hst rfl ht8
  rw [m8, nI_clamp (by omega), nI_clamp (by omega), w1 197 (by decide), hf]
  -- the way, step by step
  refine upto (H := Nat → Nat → Int32) (P := fun k u => (∀ j, j ≠ 200 → j ≠ 201 → u j = w j) ∧ (∀ j, ¬ (8 * l ≤ j ∧ j < 8 * l + 8) → u 200 j = w 200 j ∧ u 201 j = w 201 j) ∧ (∀ j, j ≤ k → u 201 (8 * l + j) = nI (tnd A B m t f j)) ∧ (∀ j, j < k → u 200 (8 * l + j) = nI (tpe A B m t f j)))
    (E := fun k u => ewP X Mo_layLine (d + 2) 29 [some (.ref 194), some (.int (nI l)), some (.int (nI (tnd A B m t f k))), some (.int (nI k)), none, none, none] [] (0, 0) (229, ewR cu sp n1 n2 n3 n4, u) _) (tds A B m f t) ?_ ?_ 0 _ (by omega) ⟨fun j h1 h2 => ewS_ne _ _ h2, fun j hj => ?_, fun j hj => ?_, fun j hj => by omega⟩
  · rintro k u hk2 ⟨u1, u2, u3, u4⟩ next
    obtain ⟨i1, i2, i3⟩ := tnd_at hk hn hc hf8 k (by omega)
    have hne : tnd A B m t f k ≠ t := by intro q; rw [q, tds_0] at i2; omega
    have uT : u 198 l = nI t := by rw [u1 198 (by decide) (by decide), w1 198 (by decide)]; exact ht
    refine v_Mo_layLine_29 _ _ _ u (nI_inB hl (by decide)) (fun q => ?_) (fun _ => ?_)
    · rw [nI_clamp (by omega), uT, nI_eq (by omega) (by omega)] at q
      exact absurd q hne
    · have nx : tnd A B m t f (k + 1) = tst A B m t (tnd A B m t f k) := tnd_l A B m t f k
      have pe : tpe A B m t f k = tfx A B m (tnd A B m t f k) t := rfl
      unfold tst at nx
      rw [if_neg hne] at nx
      generalize hsx : tnd A B m t f k = s at *
      have uA : ∀ e, e < m → u 195 e = nI (A e) ∧ u 196 e = nI (B e) := fun e he => by rw [u1 195 (by decide) (by decide), u1 196 (by decide) (by decide), w1 195 (by decide), w1 196 (by decide)]; exact a5 e he
      have uF : ∀ v, v < n → u 211 v = nI (tds A B m v t) := fun v hv => by rw [u1 211 (by decide) (by decide)]; exact w2 v hv
      have uM : u 194 1 = nI m := by rw [u1 194 (by decide) (by decide), w1 194 (by decide)]; exact a3
      have hx := tfx_at hk i1 hne
      refine upto (H := Unit) (P := fun _ _ => True) (E := fun e _ => ewP X Mo_layLine (d + 2) 45 [some (.ref 194), some (.int (nI l)), some (.int (nI s)), some (.int (nI k)), some (.int (if tfx A B m s t < e then nI (tfx A B m s t) else -1)), some (.int (nI e)), none] [] (0, 0) (229, ewR cu sp n1 n2 n3 n4, u) _) m ?_ ?_ 0 () (by omega) trivial
      · intro e _ he _ next2
        have next2 := next2 () trivial
        have hlt : nI e < u 194 1 := by rw [uM]; exact nI_lt he (by omega)
        obtain ⟨eA, eB⟩ := uA e he
        obtain ⟨hA, hB⟩ := hn e he
        obtain ⟨x1, x2, x3⟩ := tfx_iff (by omega) hk i1 hne he
        have fs : u 211 (nI s).toNatClampNeg - 1 = nI (tds A B m s t - 1) := by
          rw [nI_clamp (by omega), uF s i3, ← nI_pred (tds A B m s t - 1), show tds A B m s t - 1 + 1 = tds A B m s t by omega]
        have ce : (nI e).toNatClampNeg = e := nI_clamp (by omega)
        have cA : (u 195 (nI e).toNatClampNeg = nI s) ↔ A e = s := by rw [ce, eA, nI_eq (by omega) (by omega)]
        have cB : (u 196 (nI e).toNatClampNeg = nI s) ↔ B e = s := by rw [ce, eB, nI_eq (by omega) (by omega)]
        -- which other
        have oth : (if u 195 (nI e).toNatClampNeg = nI s then u 196 (nI e).toNatClampNeg else (if u 196 (nI e).toNatClampNeg = nI s then u 195 (nI e).toNatClampNeg else (-1))) = (if A e = s then nI (B e) else if B e = s then nI (A e) else -1) := by
          by_cases q1 : A e = s
          · rw [if_pos (cA.mpr q1), if_pos q1, ce, eB]
          · rw [if_neg (fun z => q1 (cA.mp z)), if_neg q1]
            by_cases q2 : B e = s
            · rw [if_pos (cB.mpr q2), if_pos q2, ce, eA]
            · rw [if_neg (fun z => q2 (cB.mp z)), if_neg q2]
        refine v_Mo_layLine_45 _ _ _ _ _ u (fun q => absurd hlt q) (fun q => absurd hlt q) (fun q => absurd hlt q) (fun q => absurd hlt q) (fun _ => nI_inB (by omega) (by decide)) (fun _ q => ?_) (fun _ _ => nI_inB (by omega) (by decide)) (fun _ => ?_)
        · rw [oth] at q ⊢
          by_cases q1 : A e = s
          · rw [if_pos q1]; exact nI_inB (by omega) (by decide)
          · rw [if_neg q1] at q ⊢
            by_cases q2 : B e = s
            · rw [if_pos q2]; exact nI_inB (by omega) (by decide)
            · rw [if_neg q2] at q; exact absurd (by decide) q
        · rw [oth, fs, ← nI_succ]
          have pos : ∀ v, v < n → (if nI v < 0 then (if tfx A B m s t < e then nI (tfx A B m s t) else -1) else if u 211 (nI v).toNatClampNeg = nI (tds A B m s t - 1) then nI e else (if tfx A B m s t < e then nI (tfx A B m s t) else -1)) = (if tds A B m v t + 1 = tds A B m s t then nI e else (if tfx A B m s t < e then nI (tfx A B m s t) else -1)) := by
            intro v hv
            have h99 := tds_99 (by omega) hk hn hv ht8
            have h98 := tds_99 (by omega) hk hn i3 ht8
            rw [if_neg (nI_pos (by omega)), nI_clamp (by omega), uF v hv]
            have z : (nI (tds A B m v t) = nI (tds A B m s t - 1)) ↔ (tds A B m v t + 1 = tds A B m s t) := by rw [nI_eq (by omega) (by omega)]; omega
            by_cases q : tds A B m v t + 1 = tds A B m s t
            · rw [if_pos q, if_pos (z.mpr q)]
            · rw [if_neg q, if_neg (fun r => q (z.mp r))]
          have goal : (if (if A e = s then nI (B e) else if B e = s then nI (A e) else -1) < 0 then (if tfx A B m s t < e then nI (tfx A B m s t) else -1) else if u 211 (if A e = s then nI (B e) else if B e = s then nI (A e) else -1).toNatClampNeg = nI (tds A B m s t - 1) then nI e else (if tfx A B m s t < e then nI (tfx A B m s t) else -1)) = (if tfx A B m s t < e + 1 then nI (tfx A B m s t) else -1) := by
            have last : (if tfx A B m s t = e then nI e else (if tfx A B m s t < e then nI (tfx A B m s t) else -1)) = (if tfx A B m s t < e + 1 then nI (tfx A B m s t) else -1) := by
              by_cases q : tfx A B m s t = e
              · rw [if_pos q, if_pos (by omega), q]
              · rw [if_neg q]
                by_cases r : tfx A B m s t < e
                · rw [if_pos r, if_pos (by omega)]
                · rw [if_neg r, if_neg (by omega)]
            by_cases q1 : A e = s
            · simp only [if_pos q1]
              rw [pos _ hB, ← last]
              by_cases z : tfx A B m s t = e
              · rw [if_pos z, if_pos ((x1 q1).mpr z)]
              · rw [if_neg z, if_neg (fun r => z ((x1 q1).mp r))]
            · simp only [if_neg q1]
              by_cases q2 : B e = s
              · simp only [if_pos q2]
                rw [pos _ hA, ← last]
                by_cases z : tfx A B m s t = e
                · rw [if_pos z, if_pos ((x2 q2).mpr z)]
                · rw [if_neg z, if_neg (fun r => z ((x2 q2).mp r))]
              · simp only [if_neg q2]
                rw [if_pos (by decide), ← last, if_neg (x3 q1 q2)]
          rw [goal]
          exact next2
      · intro _ _
        have hlt : ¬ nI m < u 194 1 := by rw [uM]; exact nI_nlt (Nat.le_refl _) (by omega)
        rw [if_pos hx.1]
        have hg := uA _ hx.1
        have hb := hn _ hx.1
        have cx : (nI (tfx A B m s t)).toNatClampNeg = tfx A B m s t := nI_clamp (by omega)
        have s1 : (8 : Int32) * nI l + nI k = nI (8 * l + k) := by rw [m8, ad]
        have s2 : (8 : Int32) * nI l + (nI k + 1) = nI (8 * l + (k + 1)) := by rw [m8, ← nI_succ, ad]
        refine v_Mo_layLine_45 _ _ _ _ _ u (fun _ => by rw [s1]; exact nI_inB (by omega) (by decide)) (fun _ => nI_inB (by omega) (by decide)) (fun _ => by rw [s2]; exact nI_inB (by omega) (by decide)) (fun _ => ?_) (fun q => absurd q hlt) (fun q => absurd q hlt) (fun q => absurd q hlt) (fun q => absurd q hlt)
        have nxt : (if u 195 (nI (tfx A B m s t)).toNatClampNeg = nI s then u 196 (nI (tfx A B m s t)).toNatClampNeg else u 195 (nI (tfx A B m s t)).toNatClampNeg) = nI (tnd A B m t f (k + 1)) := by
          rw [cx, hg.1, hg.2, nx]
          by_cases q : A (tfx A B m s t) = s
          · rw [if_pos q, if_pos (by rw [q])]
          · rw [if_neg q, if_neg (fun z => q ((nI_eq (by omega) (by omega)).mp z))]
        rw [nxt, s1, s2, ← nI_succ, nI_clamp (by omega), nI_clamp (by omega)]
        refine next _ ⟨fun j h1 h2 => by rw [ewS_ne _ _ h2, ewS_ne _ _ h1]; exact u1 j h1 h2, fun j hj => ?_, fun j hj => ?_, fun j hj => ?_⟩
        · rw [ewS_ne _ _ (by decide), ewS_self, ewS_self, upd, if_neg (by omega), upd, if_neg (by omega)]
          exact u2 j hj
        · rw [ewS_self, upd]
          by_cases e : j = k + 1
          · rw [if_pos (by omega), e]
          · rw [if_neg (by omega)]; exact u3 j (by omega)
        · rw [ewS_ne _ _ (by decide), ewS_self, upd]
          by_cases e : j = k
          · rw [if_pos (by omega), e, pe]
          · rw [if_neg (by omega)]; exact u4 j (by omega)
  · rintro u ⟨u1, u2, u3, u4⟩
    obtain ⟨i1, i2, i3⟩ := tnd_at hk hn hc hf8 _ (Nat.le_refl _)
    have he : tnd A B m t f (tds A B m f t) = t := tds_eq0 hk (by omega)
    have uT : u 198 l = nI t := by rw [u1 198 (by decide) (by decide), w1 198 (by decide)]; exact ht
    refine v_Mo_layLine_29 _ _ _ u (nI_inB hl (by decide)) (fun q => ?_) (fun q => ?_)
    · rw [nI_clamp (by omega)]
      refine ⟨_, ⟨fun j h1 h2 h3 h4 => by rw [ewS_ne _ _ h1, u1 j h2 h3, w1 j h4], ?_, fun j hj => ?_, fun k hk => ?_, fun k hk => ?_⟩, rfl, rfl⟩
      · rw [ewS_self, u1 199 (by decide) (by decide), w1 199 (by decide)]
      · rw [ewS_ne _ _ (by decide), ewS_ne _ _ (by decide), ← w1 200 (by decide), ← w1 201 (by decide)]; exact u2 j hj
      · rw [ewS_ne _ _ (by decide)]; exact u3 k hk
      · rw [ewS_ne _ _ (by decide)]; exact u4 k hk
    · rw [nI_clamp (by omega), uT, he] at q
      exact absurd rfl q
  · rw [ewS_ne _ _ (by decide), ewS_self, upd, if_neg (by omega)]; exact ⟨rfl, rfl⟩
  · have : j = 0 := by omega
    subst this
    rw [ewS_self, upd, if_pos (by omega)]; rfl
