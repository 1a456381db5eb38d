/-! the reference: crossedNow, lineBends -/
def mCn (h h' : Nat → Nat → Int32) (y : Int32) : Prop := mLO h h' ∧ y = h' 194 46
theorem s_Mo_crossedNow {X : Nat × (Nat → Int32)} {d : Nat} {cu sp n1 n2 n3 n4 : Nat} (h : Nat → Nat → Int32) (hp : p_Mo_layOrders h) : ewP X Mo_crossedNow (d + 5) 0 [some (.ref 194)] [] (0, 0) (229, ewR cu sp n1 n2 n3 n4, h) (fun v S' => ∃ (h' : Nat → Nat → Int32) (y : Int32), mCn h h' y ∧ v = some (.int y) ∧ S' = (229, ewR cu sp n1 n2 n3 n4, h')) :=
  v_Mo_crossedNow_0 h hp (fun w hw => ⟨w, _, ⟨hw, rfl⟩, rfl, rfl⟩)
/-- the best plan is a row of directions -/
theorem pBp_8 {c : Nat → Int32} {m : Nat} {A B : Nat → Nat} {k : Nat} {F T : Nat → Nat} (hS : mSe c m) : ∀ e, (pBp c m A B k F T).2.2 e < 8 ∧ (m ≤ e → (pBp c m A B k F T).2.2 e = 0) := by
  unfold pBp
  refine fdS_inv (β := Nat × Nat × (Nat → Nat)) (I := fun b => ∀ e, b.2.2 e < 8 ∧ (m ≤ e → b.2.2 e = 0)) (V := fun v => ∀ e, v e < 8 ∧ (m ≤ e → v e = 0)) (fun b v hb hv => ?_) m 0 _ _ (fun v j i hv h1 h2 => ?_) (fun e => ⟨by show 0 < 8; omega, fun _ => rfl⟩) (fun e => ⟨by show 0 < 8; omega, fun _ => rfl⟩)
  · intro e
    unfold pst
    split
    · show ((if _ then _ else _ : Nat × (Nat → Nat)).2 e < 8 ∧ _)
      split
      · exact hv e
      · exact hb e
    · exact hb e
  · intro e
    by_cases q : e = j
    · subst q; rw [pup_self]; exact ⟨pdi_lt hS A B (by omega) i, fun z => by omega⟩
    · rw [pup_ne _ _ q]; exact hv e
/-- behind layPlan: what stands -/
theorem mLp.at {h w : Nat → Nat → Int32} (hp : p_Mo_layPlan h) (hw : mLp h w) : (gN w = gN h ∧ gM w = gM h ∧ gA w = gA h ∧ gB w = gB h ∧ gK w = gK h ∧ gF w = gF h ∧ gT w = gT h) ∧ mN w ∧ w 202 = h 202 ∧ (w 194 32 < 0 ↔ (gP h).2.1 = 1000000) ∧ (¬ w 194 32 < 0 → w 194 32 = nI (gP h).2.1 ∧ (gP h).2.1 < 1000000 ∧ gV w 214 = (gP h).2.2 ∧ mDr w 214 (gM w) (gV w 214)) ∧ p_Mo_layOrders w ∧ p_Mo_layLengths w := by
  obtain ⟨f0, f1, f2, f3, f4⟩ := hw
  obtain ⟨r1, r2, r3, r4, r5, r6, r7, r8⟩ := g_fr f0 (by decide) (by decide)
  have neg : w 194 32 < 0 ↔ (gP h).2.1 = 1000000 := by
    by_cases q : (gP h).2.1 = 1000000
    · rw [f3 q]; exact ⟨fun _ => q, fun _ => by decide⟩
    · obtain ⟨o1, o2, o3⟩ := f4 q
      rw [o2]; exact ⟨fun z => absurd z (nI_pos (by omega)), fun z => absurd z q⟩
  have b8 := pBp_8 (A := gA h) (B := gB h) (k := gK h) (F := gF h) (T := gT h) hp.2
  have good : ¬ w 194 32 < 0 → w 194 32 = nI (gP h).2.1 ∧ (gP h).2.1 < 1000000 ∧ gV w 214 = (gP h).2.2 ∧ mDr w 214 (gM w) (gV w 214) := by
    intro q
    obtain ⟨o1, o2, o3⟩ := f4 (fun z => q (neg.mpr z))
    have e : gV w 214 = (gP h).2.2 := mDr.g (m := gM h) ⟨⟨rfl, rfl⟩, fun e he => ⟨o3 e he, (b8 e).1⟩⟩ r2 (fun e he => (b8 e).2 he)
    refine ⟨o2, o1, e, ?_⟩
    rw [e, r2]
    exact ⟨⟨rfl, rfl⟩, fun e he => ⟨o3 e he, (b8 e).1⟩⟩
  exact ⟨⟨r1, r2, r3, r4, r5, r6, r7⟩, r8 hp.1, f0.1 202 (by decide) (by decide), neg, good, ⟨r8 hp.1, fun q => (good q).2.2.2⟩, ⟨r8 hp.1, fun q => (good q).2.2.2⟩⟩
def mLb (h : Nat → Nat → Int32) (x1 : Int32) (h' : Nat → Nat → Int32) (y : Int32) : Prop := mLp h h' ∧ ∀ l, l < gK h → x1 = nI l → y = (if (gP h).2.1 = 1000000 then -1 else nI (pbd (gW h) (gA h) (gB h) (gM h) (gP h).2.2 (gF h l) (gT h l)))
def p_Mo_lineBends (h : Nat → Nat → Int32) (x1 : Int32) : Prop := p_Mo_layPlan h ∧ ∃ l, l < gK h ∧ x1 = nI l
theorem s_Mo_lineBends {X : Nat × (Nat → Int32)} {d : Nat} {cu sp n1 n2 n3 n4 : Nat} (x1 : Int32) (h : Nat → Nat → Int32) (hp : p_Mo_lineBends h x1) : ewP X Mo_lineBends (d + 6) 0 [some (.ref 194), some (.int x1)] [] (0, 0) (229, ewR cu sp n1 n2 n3 n4, h) (fun v S' => ∃ (h' : Nat → Nat → Int32) (y : Int32), mLb h x1 h' y ∧ v = some (.int y) ∧ S' = (229, ewR cu sp n1 n2 n3 n4, h')) := by
  obtain ⟨hp, l, hl, rfl⟩ := hp
  have hk3 := hp.1.2.2.1.2
  refine v_Mo_lineBends_0 _ h hp (fun w hw => ?_)
  obtain ⟨⟨r1, r2, r3, r4, r5, r6, r7⟩, wN, w202, neg, good, -, -⟩ := mLp.at hp hw
  have gw : gW w = gW h := by unfold gW; rw [w202]
  refine ⟨fun q => ⟨wN, (good q).2.2.2, ?_, l, by rw [r5]; exact hl, rfl⟩, w, _, ⟨hw, fun l' hl' e => ?_⟩, rfl, rfl⟩
  · unfold gW; rw [w202]; exact hp.2.1
  · have e : l = l' := (nI_eq (by omega) (by omega)).mp e
    subst e
    by_cases q : w 194 32 < 0
    · rw [if_pos q, if_pos (neg.mp q)]
    · rw [if_neg q, if_neg (fun z => q (neg.mpr z))]
      unfold f_Mo_bendsOf
      rw [nI_clamp (by omega), gw, r2, r3, r4, r6, r7, (good q).2.2.1]
