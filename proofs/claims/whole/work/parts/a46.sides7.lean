/-! the class's Sides: settle -/
/-- what Sides knows when its crossings are settled -/
def cSk (h : Nat → Nat → Int32) (n m : Nat) (A B : Nat → Nat) (k : Nat) (F T : Nat → Nat) (c : Nat → Int32) : Prop :=
  ((pBp c m A B k F T).2.1 = 1000000 → h 174 0 = -1) ∧
  ((pBp c m A B k F T).2.1 ≠ 1000000 → (h 174 0 = nI (pBo n m A B k F T (pBp c m A B k F T).2.2).1 ∧ (pBo n m A B k F T (pBp c m A B k F T).2.2).1 < 1000000) ∧ (∃ r : Nat → Nat, ∀ e, e < m → r e < 6 ∧ h 175 e = nI (r e) ∧ (pBo n m A B k F T (pBp c m A B k F T).2.2).2 e = prh (pLs m A B k F T e) (r e)) ∧ ∀ s, s < n → h 176 s = nI (msk (fun p => pxb m A B k F T (pBp c m A B k F T).2.2 (pBo n m A B k F T (pBp c m A B k F T).2.2).2 s p) 3))
section SIDES7
variable {X : Nat × (Nat → Int32)} {d : Nat} {cu sp n2 n3 n4 : Nat} {A B dv : Nat → Nat} {n m k : Nat} {F T : Nat → Nat} {o1 o2 : Nat → Nat} {c : Nat → Int32}
def kTr (A B dv : Nat → Nat) (n m k : Nat) (F T : Nat → Nat) (tot e : Nat) (rk : Nat → Nat) : Prop := tot < 1000000 ∧ (∀ r : Nat → Nat, (∀ e, e < m → r e < 6) → tot ≤ pTt A B dv n m k F T (fun e p => sdb (r e) p)) ∧ cCr A B dv n m k F T tot e rk
theorem kTr.best {tot : Nat} {rk : Nat → Nat} (ok : cOK n m A B k F T) (h9 : m ≤ 90) (hk3 : k ≤ 3) (t : kTr A B dv n m k F T tot m rk) : pBo n m A B k F T dv = (tot, fun e => if e < m then prh (pLs m A B k F T e) (rk e) else 0) := by
  obtain ⟨t1, t2, a1, -, ⟨r, r1, r2⟩, a4⟩ := t
  have e1 : pTt A B dv n m k F T (fun e p => sdb (rk e) p) = tot := by
    rw [← r2]
    refine pTt_cg ok h9 hk3 (fun e p he _ _ _ _ => ?_)
    rcases (r1 e he).2 with y | y
    · have := a1 e he; omega
    · rw [y]
  rw [rank_best (dv := dv) ok h9 hk3 (r := rk) a1 (by rw [e1]; exact t1) (by rw [e1]; exact t2) (by rw [e1]; exact a4), e1]
theorem sidesSettle_n {h : Nat → Nat → Int32} (hK : cKn h n m A B k F T c) (hS : mSe c m) : ewP X Si_settle (d + 5) 0 [some (.ref 174)] [] (0, 0) (229, ewR cu sp 3 n2 n3 n4, h) (fun v S' => ∃ (h' : Nat → Nat → Int32), ((∀ q, ¬ (174 ≤ q ∧ q ≤ 185) → h' q = h q) ∧ cSk h' n m A B k F T c) ∧ v = none ∧ S' = (229, ewR cu sp 3 n2 n3 3, h')) := by
  obtain ⟨hC, k1, k2, k3⟩ := hK
  have hN := hC.1
  have h7 := hN.2.1.2.1
  have h8 := hN.1.2.1
  have ok := hN.2.2.2.1
  have hk3 := hN.2.2.1.2.1
  have v8 := fun e => (pBp_8 (A := A) (B := B) (k := k) (F := F) (T := T) hS e).1
  have zc : (h 142 0 = -1) ↔ (pBp c m A B k F T).2.1 = 1000000 := by rw [k1]; exact pCs_m1
  unfold cSk
  generalize hdv : (pBp c m A B k F T).2.2 = dv at *
  refine v_Si_settle_0 h (P_Ja_fill := fun h' q x => (q = 175 ∨ q = 176)) (R_Ja_fill := fun h' q x w => w = g_Ja_fill h' q x) (fun q x h' hp => by rcases hp with rfl | rfl <;> exact s_Ja_fill (d := d + 4) _ _ h' ⟨rfl, by decide⟩ ⟨_, rfl, rfl, rfl⟩)
    (P_Si_lookAtStations := fun h' => cNt h' n m A B k F T ∧ ∀ e, e < m → dv e < 8 ∧ h' 143 e = nI (dv e)) (R_Si_lookAtStations := fun h' h'' => sFr h' h'' ∧ cSd A B dv n m k F T (fun _ p => decide (pq1 p < k)) h'') (fun h' hp => lookAtStations_n (d := d + 1) hp.1 hp.2)
    (P_Si_countPartings := fun h' => ∃ o1 o2, cNt h' n m A B k F T ∧ cSs A B dv n m k F T o1 o2 h') (R_Si_countPartings := fun h' h'' => (∀ q, q ≠ 179 → h'' q = h' q) ∧ cPc A B dv m k F T h'') (fun h' hp => by obtain ⟨o1, o2, p1, p2⟩ := hp; exact countPartings_n (d := d + 3) p1 p2)
    (P_Si_fewestCrossings := fun h' => ∃ o1 o2, cSi A B dv n m k F T o1 o2 (fun _ => 6) h') (R_Si_fewestCrossings := fun h' h'' y => aFr h' h'' ∧ ∃ t : Nat, y = nI t ∧ (∀ r, gAl m (fun _ => 6) r → t ≤ pTt A B dv n m k F T (fun e p => sdb (r e) p)) ∧ ∃ r, gAl m (fun _ => 6) r ∧ pTt A B dv n m k F T (fun e p => sdb (r e) p) = t) (fun h' hp => by obtain ⟨o1, o2, p1⟩ := hp; exact fewestCrossings_n (d := d + 1) p1)
    (P_Si_chooseRankings := fun h' => ∃ o1 o2 tot, cSi A B dv n m k F T o1 o2 (fun _ => 6) h' ∧ h' 174 0 = nI tot ∧ kTr A B dv n m k F T tot 0 (fun _ => 6)) (R_Si_chooseRankings := fun h' h'' => (∀ q, q ≠ 174 → q ≠ 175 → q ≠ 184 → q ≠ 185 → h'' q = h' q) ∧ ∃ o1 o2 tot rk, cSi A B dv n m k F T o1 o2 rk h'' ∧ h'' 174 0 = nI tot ∧ kTr A B dv n m k F T tot m rk) (fun h' hp => by
      obtain ⟨o1, o2, tot, p1, p2, p3, p4, p5⟩ := hp
      refine ewP_m (fun v S' q => ?_) (chooseRankings_n (d := d) p1 p2 p3 p4 p5)
      obtain ⟨h'', ⟨q1, q2, rk, q3, q4⟩, e1, e2⟩ := q
      exact ⟨h'', ⟨q1, o1, o2, tot, rk, q3, (q2 0 (by decide)).trans p2, p3, p4, q4⟩, e1, e2⟩)
    (P_Si_markCrossed := fun h' => (∃ o1 o2 tot rk, cSi A B dv n m k F T o1 o2 rk h' ∧ h' 174 0 = nI tot ∧ kTr A B dv n m k F T tot m rk) ∧ ∀ s, s < n → h' 176 s = 0) (R_Si_markCrossed := fun h' h'' => (∀ q, q ≠ 176 → h'' q = h' q) ∧ ∃ tot rk, cRk m rk h' ∧ h' 174 0 = nI tot ∧ kTr A B dv n m k F T tot m rk ∧ ∀ s, s < n → h'' 176 s = nI (msk (fun p => xcP A B m k F T (fun e p => sdb (rk e) p) s p || (List.range m).any fun e => xcH A B dv m k F T (fun e p => sdb (rk e) p) s p e) 3)) (fun h' hp => by
      obtain ⟨⟨o1, o2, tot, rk, p1, p2, p3⟩, p4⟩ := hp
      refine ewP_m (fun v S' q => ?_) (markCrossed_n (d := d + 3) p1 p3.2.2.1 p4)
      obtain ⟨h'', ⟨q1, q2⟩, e1, e2⟩ := q
      exact ⟨h'', ⟨q1, tot, rk, p1.2.2.2, p2, p3, q2⟩, e1, e2⟩)
    (Or.inr rfl) (fun w2 e2 => ⟨Or.inl rfl, fun w5 e5 => ?_⟩)
  have k75 : kL 175 = 7 := by decide
  have k76 : kL 176 = 8 := by decide
  obtain ⟨f5, z5, m5⟩ : (∀ q, q ≠ 175 → q ≠ 176 → w5 q = h q) ∧ (∀ s, s < 8 → w5 176 s = 0) ∧ ∀ e, e < 7 → w5 175 e = -1 := by
    subst e2; subst e5
    refine ⟨fun q q1 q2 => ?_, fun s hs => ?_, fun e he => ?_⟩
    · unfold g_Ja_fill
      rw [ewS_ne _ _ q1, ewS_ne _ _ q2]
    · show (if s < kL 176 then (0 : Int32) else _) = 0
      rw [if_pos (by omega)]
    · show (if e < kL 175 then (-1 : Int32) else _) = -1
      rw [if_pos (by omega)]
  have z5c : (w5 142 0 = -1) ↔ (pBp c m A B k F T).2.1 = 1000000 := by rw [f5 142 (by omega) (by omega)]; exact zc
  refine ⟨fun q => ⟨_, ⟨fun q' hq => (ewS_ne _ _ (by omega)).trans (f5 q' (by omega) (by omega)), fun _ => rfl, fun y => absurd (z5c.mp q) y⟩, rfl, rfl⟩, fun q => ?_, fun q w10 h10 => ?_⟩
  all_goals have nq : (pBp c m A B k F T).2.1 ≠ 1000000 := fun y => q (z5c.mpr y)
  all_goals have f5' : ∀ q, q ≠ 174 → q ≠ 175 → q ≠ 176 → (ewS w5 174 (upd (w5 174) 0 (-1))) q = h q := fun q q0 q1 q2 => (ewS_ne _ _ q0).trans (f5 q q1 q2)
  · exact ⟨hN.fr (fun q a b => f5' q (by omega) (by omega) (by omega)), fun e he => ⟨v8 e, by rw [f5' 143 (by omega) (by omega) (by omega)]; exact k3 nq e he⟩⟩
  · obtain ⟨s10, d10⟩ := h10
    have N10 : cNt w10 n m A B k F T := hN.fr (fun q a b => (s10 q (by omega) (by omega) (by omega) (by omega) (by omega) (by omega)).trans (f5' q (by omega) (by omega) (by omega)))
    have c10 := cSd_all ok (by omega) d10
    refine ⟨⟨_, _, N10, c10⟩, fun w13 h13 => ?_⟩
    obtain ⟨s13, c13⟩ := h13
    have f13 : ∀ q, ¬ (174 ≤ q ∧ q ≤ 185) → w13 q = h q := fun q hq => (s13 q (by omega)).trans ((s10 q (by omega) (by omega) (by omega) (by omega) (by omega) (by omega)).trans (f5' q (by omega) (by omega) (by omega)))
    have r13 : ∀ e, e < 7 → w13 175 e = -1 := fun e he => by
      rw [s13 175 (by omega), s10 175 (by omega) (by omega) (by omega) (by omega) (by omega) (by omega), ewS_ne _ _ (by omega)]; exact m5 e he
    have z13 : ∀ s, s < n → w13 176 s = 0 := fun s hs => by
      rw [s13 176 (by omega), s10 176 (by omega) (by omega) (by omega) (by omega) (by omega) (by omega), ewS_ne _ _ (by omega)]; exact z5 s (by omega)
    have i13 : cSi A B dv n m k F T _ _ (fun _ => 6) w13 := ⟨hN.fr (fun q a b => f13 q (by omega)), c10.fr (fun q a b c => s13 q (by omega)), c13, fun e he => ⟨Nat.le_refl _, by rw [if_pos rfl]; exact r13 e (by omega)⟩⟩
    refine ⟨⟨_, _, i13⟩, fun w16 y17 h16 => ?_⟩
    obtain ⟨a16, t, rfl, t1, r, t2, t3⟩ := h16
    have tl : t < 1000000 := by
      have g := i13.2.1.2.2.1.ok ok (by omega)
      have := hW_le (n := n) (m := m) (o1 := fun s => (w10 182 s).toNatClampNeg) (o2 := fun s => (w10 183 s).toNatClampNeg) (pd := spd A B m k F T) (P := sP A B dv m k F T) (Xc := sX A B m k F T) (z := fun e => decide (e < m)) (r := r) (fun e i => sP_le e i) (fun s i j => sX_le s i j)
      rw [sW_n ok (by omega) i13.2.1.2.2.1 r, t3] at this
      omega
    have kt : kTr A B dv n m k F T t 0 (fun _ => 6) := ⟨tl, fun r hr => t1 r (fun e he => ⟨hr e he, Or.inl rfl⟩), fun f hf => by omega, fun _ _ _ => rfl, ⟨r, t2, t3⟩, fun f hf => by omega⟩
    have i16 := (i13.fr a16).fr (h' := ewS w16 174 (upd (w16 174) 0 (nI t)))
    have i16' : cSi A B dv n m k F T (fun s => (w10 182 s).toNatClampNeg) (fun s => (w10 183 s).toNatClampNeg) (fun _ => 6) (ewS w16 174 (upd (w16 174) 0 (nI t))) := by
      have b := i13.fr a16
      exact ⟨b.1.fr (fun q x y => ewS_ne _ _ (by omega)), b.2.1.fr (fun q x y z => ewS_ne _ _ (by omega)), fun e i he hi => by rw [ewS_ne _ _ (by omega)]; exact b.2.2.1 e i he hi, fun e he => by rw [ewS_ne _ _ (by omega)]; exact b.2.2.2 e he⟩
    refine ⟨⟨_, _, t, i16', rfl, kt⟩, fun w20 h20 => ?_⟩
    obtain ⟨f20, o1, o2, tot, rk, i20, e20, kt20⟩ := h20
    have f20' : ∀ q, ¬ (174 ≤ q ∧ q ≤ 185) → w20 q = h q := fun q hq => (f20 q (by omega) (by omega) (by omega) (by omega)).trans ((ewS_ne _ _ (by omega)).trans ((a16.1 q (by omega) (by omega) (by omega)).trans (f13 q hq)))
    have z20 : ∀ s, s < n → w20 176 s = 0 := fun s hs => by
      rw [f20 176 (by omega) (by omega) (by omega) (by omega), ewS_ne _ _ (by omega), a16.1 176 (by omega) (by omega) (by omega)]; exact z13 s hs
    refine ⟨⟨⟨o1, o2, tot, rk, i20, e20, kt20⟩, z20⟩, fun w23 h23 => ?_⟩
    obtain ⟨f23, tot, rk, r23, e23, kt23, x23⟩ := h23
    have bo := kt23.best ok (by omega) hk3
    refine ⟨w23, ⟨fun q hq => (f23 q (by omega)).trans (f20' q hq), fun y => absurd y nq, fun _ => ⟨⟨?_, ?_⟩, ⟨rk, fun e he => ⟨kt23.2.2.1 e he, ?_, ?_⟩⟩, fun s hs => ?_⟩⟩, rfl, rfl⟩
    · rw [f23 174 (by omega), e23, bo]
    · rw [bo]; exact kt23.1
    · rw [f23 175 (by omega), (r23 e he).2, if_neg (by have := kt23.2.2.1 e he; omega)]
    · rw [bo]; exact if_pos he
    · rw [x23 s hs]
      congr 1
      refine msk_cg 3 (fun p hp => ?_)
      exact pxb_n ok (by omega) hk3 kt23.2.2.1 (fun e he => by rw [bo]; exact if_pos he) hp
end SIDES7
