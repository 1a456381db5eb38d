/-! pure: directions and bends; the reference: areUnlike, bendsOf -/
def sm (f : Nat → Nat) : Nat → Nat
  | 0 => 0
  | n + 1 => sm f n + f n
def pap (d e : Nat) : Nat := if 4 < (d + 8 - e) % 8 then 8 - (d + 8 - e) % 8 else (d + 8 - e) % 8
def pct (w n : Nat) : Nat := if w = 0 then n else if w = 1 then n * n else if w = 2 then (if n < 2 then 0 else 10) else (if n = 0 then 0 else 1)
def pwf (A v : Nat → Nat) (e s : Nat) : Nat := if A e = s then v e else (v e + 4) % 8
theorem apart_n {d e : Nat} (hd : d < 8) (he : e < 8) : f_Mo_apart (nI d) (nI e) = nI (pap d e) := by
  have h : ∀ d e : Fin 8, f_Mo_apart (nI d.1) (nI e.1) = nI (pap d.1 e.1) := by decide +kernel
  exact h ⟨d, hd⟩ ⟨e, he⟩
theorem pap_le {d e : Nat} (hd : d < 8) (he : e < 8) : pap d e < 5 := by
  have h : ∀ d e : Fin 8, pap d.1 e.1 < 5 := by decide +kernel
  exact h ⟨d, hd⟩ ⟨e, he⟩
theorem counted_n {w n : Nat} (hw : w < 4) (hn : n < 5) : f_Mo_counted (nI w) (nI n) = nI (pct w n) := by
  have h : ∀ (w : Fin 4) (n : Fin 5), f_Mo_counted (nI w.1) (nI n.1) = nI (pct w.1 n.1) := by decide +kernel
  exact h ⟨w, hw⟩ ⟨n, hn⟩
theorem pct_le {w n : Nat} (hw : w < 4) (hn : n < 5) : pct w n ≤ 16 := by
  have h : ∀ (w : Fin 4) (n : Fin 5), pct w.1 n.1 ≤ 16 := by decide +kernel
  exact h ⟨w, hw⟩ ⟨n, hn⟩
theorem plus4_n {d : Nat} (hd : d < 8) : (nI d + 4) - (nI d + 4) / 8 * 8 = nI ((d + 4) % 8) := by
  have h : ∀ d : Fin 8, (nI d.1 + 4) - (nI d.1 + 4) / 8 * 8 = nI ((d.1 + 4) % 8) := by decide +kernel
  exact h ⟨d, hd⟩
theorem pwf_lt {A v : Nat → Nat} {e s : Nat} (h : v e < 8) : pwf A v e s < 8 := by unfold pwf; split <;> omega
/-- a row of directions -/
def mDr (h : Nat → Nat → Int32) (k m : Nat) (v : Nat → Nat) : Prop := (ewTj k 9 = true ∧ kL k = 7) ∧ ∀ e, e < m → h k e = nI (v e) ∧ v e < 8
theorem wayFrom_n {h : Nat → Nat → Int32} {n m k : Nat} {A B v : Nat → Nat} (hs : mSt h n m A B) (hv : mDr h k m v) {e s : Nat} (he : e < m) (hs8 : s < n) : p_Mo_wayFrom h k (nI e) (nI s) ∧ f_Mo_wayFrom h k (nI e) (nI s) = nI (pwf A v e s) := by
  obtain ⟨a1, h8, a3, h7, a5, hn, hk⟩ := hs
  obtain ⟨⟨t1, t2⟩, v1⟩ := hv
  have ce : (nI e).toNatClampNeg = e := nI_clamp (by omega)
  have hb : vp_in (nI e) (kL k) := by rw [t2]; exact nI_inB (by omega) (by decide)
  refine ⟨⟨nI_inB (by omega) (by decide), fun _ => t1, fun _ => hb, fun _ => t1, fun _ => hb⟩, ?_⟩
  unfold f_Mo_wayFrom pwf
  rw [ce, (a5 e he).1, (v1 e he).1, plus4_n (v1 e he).2]
  have := hn e he
  by_cases q : A e = s
  · rw [if_pos q, if_pos (by rw [q])]
  · rw [if_neg q, if_neg (fun z => q ((nI_eq (by omega) (by omega)).mp z))]
/-- two stretches don't leave a station in one direction -/
def puB (A B v : Nat → Nat) (e f : Nat) : Bool := if A f = A e ∨ B f = A e then decide (pwf A v e (A e) ≠ pwf A v f (A e)) else if A f = B e ∨ B f = B e then decide (pwf A v e (B e) ≠ pwf A v f (B e)) else true
def pu1 (A B v : Nat → Nat) (e : Nat) : Nat → Bool
  | 0 => true
  | f + 1 => pu1 A B v e f && puB A B v e f
def pu2 (A B v : Nat → Nat) : Nat → Bool
  | 0 => true
  | e + 1 => pu2 A B v e && pu1 A B v e e
def gV (h : Nat → Nat → Int32) (k e : Nat) : Nat := if e < gM h then (h k e).toNatClampNeg else 0
def bI (b : Bool) : Int32 := if b = true then 1 else 0
theorem mDr.g {h : Nat → Nat → Int32} {k m : Nat} {v : Nat → Nat} (a : mDr h k m v) (hm : gM h = m) (z : ∀ e, m ≤ e → v e = 0) : gV h k = v := by
  funext e
  unfold gV
  rw [hm]
  split
  · rename_i q; rw [(a.2 e q).1, nI_clamp (by have := (a.2 e q).2; omega)]
  · rename_i q; exact (z e (by omega)).symm
theorem mDr.c {h : Nat → Nat → Int32} {k m : Nat} {v : Nat → Nat} (a : mDr h k m v) (hm : gM h = m) : mDr h k m (gV h k) := by
  refine ⟨a.1, fun e he => ?_⟩
  have := a.2 e he
  unfold gV
  rw [if_pos (by rw [hm]; exact he), this.1, nI_clamp (by omega)]
  exact ⟨rfl, this.2⟩
def f_Mo_areUnlike (h : Nat → Nat → Int32) : Int32 := bI (pu2 (gA h) (gB h) (gV h 213) (gM h))
def p_Mo_areUnlike (h : Nat → Nat → Int32) : Prop := mS h ∧ mDr h 213 (gM h) (gV h 213)
theorem s_Mo_areUnlike {X : Nat × (Nat → Int32)} {d : Nat} {Q : Option Value → eS → Prop} {cu sp n1 n2 n3 n4 : Nat} (h : Nat → Nat → Int32) (hp : p_Mo_areUnlike h) (z9 : Q (some (.int (f_Mo_areUnlike h))) (229, (ewR cu sp n1 n2 n3 n4), h)) : ewP X Mo_areUnlike (d + 1) 0 [some (.ref 194), none, none, none, none] [] (0, 0) (229, (ewR cu sp n1 n2 n3 n4), h) Q := by
  obtain ⟨hs, hv⟩ := hp
  unfold mS at hs
  unfold f_Mo_areUnlike at z9
  obtain ⟨a1, h8, a3, h7, a5, hn, hk⟩ := id hs
  generalize gN h = n at *
  generalize gM h = m at *
  generalize gA h = A at *
  generalize gB h = B at *
  generalize gV h 213 = v at *
  have b01 : ∀ b, bI b = 0 ∨ bI b = 1 := by intro b; cases b; exact Or.inl rfl; exact Or.inr rfl
  have bne : ∀ b, (¬ bI b = 0) ↔ b = true := by intro b; cases b <;> decide
  refine v_Mo_areUnlike_0 h ?_
  refine upto (H := Unit) (P := fun _ _ => True) (E := fun e _ => ewP X Mo_areUnlike (d + 1) 4 [some (.ref 194), some (.int (bI (pu2 A B v e))), some (.int (nI e)), none, none] [] (0, 0) (229, ewR cu sp n1 n2 n3 n4, h) Q) m ?_ ?_ 0 () (by omega) trivial
  · intro e _ he _ next
    have next := next () trivial
    have hlt : nI e < h 194 1 := by rw [a3]; exact nI_lt he (by omega)
    refine v_Mo_areUnlike_4 _ _ h (fun q => absurd hlt q) (fun q => absurd hlt q) (fun _ => ?_)
    have st : bI (pu2 A B v e) = bI (pu2 A B v e && pu1 A B v e 0) := by unfold pu1; rw [Bool.and_true]
    rw [st]
    refine upto (H := Unit) (P := fun _ _ => True) (E := fun f _ => ewP X Mo_areUnlike (d + 1) 14 [some (.ref 194), some (.int (bI (pu2 A B v e && pu1 A B v e f))), some (.int (nI e)), some (.int (nI f)), none] [] (0, 0) (229, ewR cu sp n1 n2 n3 n4, h) Q) e ?_ ?_ 0 () (by omega) trivial
    · intro f _ hf _ next2
      have next2 := next2 () trivial
      have hlt : nI f < nI e := nI_lt hf (by omega)
      have ce : (nI e).toNatClampNeg = e := nI_clamp (by omega)
      have cf : (nI f).toNatClampNeg = f := nI_clamp (by omega)
      obtain ⟨eA, eB⟩ := a5 e he
      obtain ⟨fA, fB⟩ := a5 f (by omega)
      obtain ⟨hA, hB⟩ := hn e he
      obtain ⟨hA', hB'⟩ := hn f (by omega)
      have gA : f_Mo_goesFrom h (nI f) (nI (A e)) ↔ (A f = A e ∨ B f = A e) := by unfold f_Mo_goesFrom; rw [cf, fA, fB, nI_eq (by omega) (by omega), nI_eq (by omega) (by omega)]
      have gB : f_Mo_goesFrom h (nI f) (nI (B e)) ↔ (A f = B e ∨ B f = B e) := by unfold f_Mo_goesFrom; rw [cf, fA, fB, nI_eq (by omega) (by omega), nI_eq (by omega) (by omega)]
      have inF : vp_in (nI f) 7 := nI_inB (by omega) (by decide)
      have inE : vp_in (nI e) 7 := nI_inB (by omega) (by decide)
      have sh : (if f_Mo_goesFrom h (nI f) (nI (A e)) then nI (A e) else (if f_Mo_goesFrom h (nI f) (nI (B e)) then nI (B e) else (-1))) = (if A f = A e ∨ B f = A e then nI (A e) else if A f = B e ∨ B f = B e then nI (B e) else -1) := by
        by_cases q1 : A f = A e ∨ B f = A e
        · rw [if_pos q1, if_pos (gA.mpr q1)]
        · rw [if_neg q1, if_neg (fun z => q1 (gA.mp z))]
          by_cases q2 : A f = B e ∨ B f = B e
          · rw [if_pos q2, if_pos (gB.mpr q2)]
          · rw [if_neg q2, if_neg (fun z => q2 (gB.mp z))]
      have wA := fun s (hs8 : s < n) => wayFrom_n hs hv he hs8
      have wF := fun s (hs8 : s < n) => wayFrom_n hs hv (show f < m by omega) hs8
      have pe : v e < 8 := (hv.2 e he).2
      have pf : v f < 8 := (hv.2 f (by omega)).2
      have wl : ∀ s, pwf A v e s < 8 ∧ pwf A v f s < 8 := fun s => ⟨pwf_lt pe, pwf_lt pf⟩
      refine v_Mo_areUnlike_14 _ _ _ h (fun q => absurd hlt q) (fun _ => inE) (fun _ => inF) (fun _ _ => inF) (fun _ _ q => ?_) (fun _ _ q => ?_) (fun _ => ?_)
      · rw [ce, eA, eB, sh] at q ⊢
        by_cases q1 : A f = A e ∨ B f = A e
        · rw [if_pos q1]; exact (wA _ hA).1
        · rw [if_neg q1] at q ⊢
          by_cases q2 : A f = B e ∨ B f = B e
          · rw [if_pos q2]; exact (wA _ hB).1
          · rw [if_neg q2] at q; exact absurd (by decide) q
      · rw [ce, eA, eB, sh] at q ⊢
        by_cases q1 : A f = A e ∨ B f = A e
        · rw [if_pos q1]; exact (wF _ hA).1
        · rw [if_neg q1] at q ⊢
          by_cases q2 : A f = B e ∨ B f = B e
          · rw [if_pos q2]; exact (wF _ hB).1
          · rw [if_neg q2] at q; exact absurd (by decide) q
      · rw [ce, eA, eB, sh, ← nI_succ]
        have goal : ∀ b, (if ¬ (bI b = 0) ∧ ((if A f = A e ∨ B f = A e then nI (A e) else if A f = B e ∨ B f = B e then nI (B e) else -1) < 0 ∨ ¬ (f_Mo_wayFrom h 213 (nI e) (if A f = A e ∨ B f = A e then nI (A e) else if A f = B e ∨ B f = B e then nI (B e) else -1) = f_Mo_wayFrom h 213 (nI f) (if A f = A e ∨ B f = A e then nI (A e) else if A f = B e ∨ B f = B e then nI (B e) else -1))) then (1 : Int32) else 0) = bI (b && puB A B v e f) := by
          intro b
          have core : ((if A f = A e ∨ B f = A e then nI (A e) else if A f = B e ∨ B f = B e then nI (B e) else -1) < 0 ∨ ¬ (f_Mo_wayFrom h 213 (nI e) (if A f = A e ∨ B f = A e then nI (A e) else if A f = B e ∨ B f = B e then nI (B e) else -1) = f_Mo_wayFrom h 213 (nI f) (if A f = A e ∨ B f = A e then nI (A e) else if A f = B e ∨ B f = B e then nI (B e) else -1))) ↔ puB A B v e f = true := by
            unfold puB
            by_cases q1 : A f = A e ∨ B f = A e
            · simp only [if_pos q1]
              rw [(wA _ hA).2, (wF _ hA).2, decide_eq_true_iff, nI_eq (by have := wl (A e); omega) (by have := wl (A e); omega)]
              exact ⟨fun z => z.resolve_left (nI_pos (by omega)), fun z => Or.inr z⟩
            · simp only [if_neg q1]
              by_cases q2 : A f = B e ∨ B f = B e
              · simp only [if_pos q2]
                rw [(wA _ hB).2, (wF _ hB).2, decide_eq_true_iff, nI_eq (by have := wl (B e); omega) (by have := wl (B e); omega)]
                exact ⟨fun z => z.resolve_left (nI_pos (by omega)), fun z => Or.inr z⟩
              · simp only [if_neg q2]
                exact ⟨fun _ => trivial, fun _ => Or.inl (by decide)⟩
          by_cases hb : b = true
          · by_cases hu : puB A B v e f = true
            · rw [if_pos ⟨(bne b).mpr hb, core.mpr hu⟩, hb, hu]; rfl
            · rw [if_neg (fun z => hu (core.mp z.2)), hb, Bool.eq_false_iff.mpr hu]; rfl
          · rw [if_neg (fun z => hb ((bne b).mp z.1)), Bool.eq_false_iff.mpr hb]; rfl
        rw [goal, Bool.and_assoc]
        exact next2
    · intro _ _
      have hlt : ¬ nI e < nI e := nI_nlt (Nat.le_refl _) (by omega)
      refine v_Mo_areUnlike_14 _ _ _ h (fun _ => ?_) (fun q => absurd q hlt) (fun q => absurd q hlt) (fun q => absurd q hlt) (fun q => absurd q hlt) (fun q => absurd q hlt) (fun q => absurd q hlt)
      rw [← nI_succ]
      exact next
  · intro _ _
    have hlt : ¬ nI m < h 194 1 := by rw [a3]; exact nI_nlt (Nat.le_refl _) (by omega)
    exact v_Mo_areUnlike_4 _ _ h (fun _ => z9) (fun _ => b01 _) (fun q => absurd q hlt)
