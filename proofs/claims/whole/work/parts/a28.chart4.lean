/-! Chart at 142: off, bends -/
section CHARTD
variable {X : Nat × (Nat → Int32)} {cu sp n2 n3 n4 : Nat} {n m : Nat} {A B : Nat → Nat} {k : Nat} {F T : Nat → Nat} {c : Nat → Int32}
theorem fdS_I {β : Type} {cn : Nat → Nat} {g : Nat → Nat → Nat} {st : β → (Nat → Nat) → β} {I : β → Prop} (hs : ∀ b v, I b → I (st b v)) : ∀ k e v b, I b → I (fdS cn g st e k v b)
  | 0, _, v, b, h => hs b v h
  | k + 1, e, v, b, h => by
    show I ((List.range (cn e)).foldl (fun b i => fdS cn g st (e + 1) k (pup v e (g e i)) b) b)
    generalize List.range (cn e) = l
    induction l generalizing b with
    | nil => exact h
    | cons x l ih => exact ih _ (fdS_I hs k (e + 1) _ b h)
theorem pBp_le : (pBp c m A B k F T).2.1 ≤ 1000000 := by
  rw [pBp_2]
  refine fdS_I (I := fun b : Nat × (Nat → Nat) => b.1 ≤ 1000000) (fun b v h => ?_) m 0 _ _ (Nat.le_refl _)
  unfold ps2
  split
  · rename_i q
    exact Nat.le_trans (Nat.le_of_lt q.2) h
  · exact h
theorem nI_m1 {x : Nat} (hx : x < 2 ^ 31) : ¬ nI x = -1 := fun z => by
  have := congrArg Int32.toInt z
  rw [nI_toInt hx, show (-1 : Int32).toInt = -1 by decide] at this
  omega
theorem pCs_m1 : pCs (pBp c m A B k F T) = -1 ↔ (pBp c m A B k F T).2.1 = 1000000 := by
  have := pBp_le (c := c) (m := m) (A := A) (B := B) (k := k) (F := F) (T := T)
  unfold pCs
  by_cases q : (pBp c m A B k F T).2.1 = 1000000
  · rw [if_pos q]; exact ⟨fun _ => q, fun _ => rfl⟩
  · rw [if_neg q]; exact ⟨fun z => absurd z (nI_m1 (by omega)), fun z => absurd z q⟩
theorem off_n {h : Nat → Nat → Int32} (hK : cKn h n m A B k F T c) (hS : mSe c m) {e : Nat} (he : e < m) : p_Ch_off h (nI e) ∧ f_Ch_off h (nI e) = if (pBp c m A B k F T).2.1 = 1000000 then -1 else nI (pap ((pBp c m A B k F T).2.2 e) (ptr c A B e)) := by
  obtain ⟨hC, k1, k2, k3⟩ := hK
  have h7 := hC.1.2.1.2.1
  have ce : (nI e).toNatClampNeg = e := nI_clamp (by omega)
  have z : (h 142 0 = -1) ↔ (pBp c m A B k F T).2.1 = 1000000 := by rw [k1]; exact pCs_m1
  have ap := apart2_n (pBp_8 (A := A) (B := B) (k := k) (F := F) (T := T) hS e).1 (ptr_n c A B e).2
  refine ⟨⟨fun _ => nI_inB (by omega) (by decide), fun q => ?_⟩, ?_⟩
  · rw [ce, k3 (fun y => q (z.mpr y)) e he, hC.2.2 e he]; exact ap.1
  · unfold f_Ch_off
    refine ite_cg z (fun _ => rfl) (fun q => ?_)
    rw [ce, k3 q e he, hC.2.2 e he]; exact ap.2
theorem bendsOf_n {d : Nat} {h : Nat → Nat → Int32} (hK : cKn h n m A B k F T c) (hS : mSe c m) {l : Nat} (hl : l < k) : ewP X Ch_bendsOf (d + 1) 0 [some (.ref 142), some (.int (nI l)), none, none, none, none] [] (0, 0) (229, ewR cu sp 3 n2 n3 n4, h) (fun v S' => ∃ (h' : Nat → Nat → Int32) (y : Int32), (h' = h ∧ y = if (pBp c m A B k F T).2.1 = 1000000 then -1 else nI (pbd (c 23).toNatClampNeg A B m (pBp c m A B k F T).2.2 (F l) (T l))) ∧ v = some (.int y) ∧ S' = (229, ewR cu sp 3 n2 n3 n4, h')) := by
  obtain ⟨hC, k1, k2, k3⟩ := hK
  obtain ⟨hN, hs, -⟩ := id hC
  have h7 := hN.2.1.2.1
  have h8 := hN.1.2.1
  have hk3 := hN.2.2.1.2.1
  obtain ⟨hn, hk, hls⟩ := hN.2.2.2.1
  obtain ⟨f1, f2, f3, f4⟩ := hls l hl
  obtain ⟨x1, x2, x3, x4⟩ := hN.2.2.1.2.2.1 l hl
  have hD := tds_lt hk hn f1 f2 f4
  have cl : (nI l).toNatClampNeg = l := nI_clamp (by omega)
  have z : (h 142 0 = -1) ↔ (pBp c m A B k F T).2.1 = 1000000 := by rw [k1]; exact pCs_m1
  have way : h 67 0 = nI (c 23).toNatClampNeg := hs.1.trans hS.1.1
  have v8 := fun e => (pBp_8 (A := A) (B := B) (k := k) (F := F) (T := T) hS e).1
  refine v_Ch_bendsOf_0 _ h (fun q => ?_) (fun q => ⟨h, _, ⟨rfl, by rw [if_pos (z.mp q)]⟩, rfl, rfl⟩)
  have nq : (pBp c m A B k F T).2.1 ≠ 1000000 := fun y => q (z.mpr y)
  rw [if_neg nq]
  have dd := k3 nq
  generalize (pBp c m A B k F T).2.2 = v at *
  obtain ⟨G, hG⟩ : ∃ G : Nat → Nat, G = pb1 (c 23).toNatClampNeg A B m v (F l) (T l) := ⟨_, rfl⟩
  have epb : pbd (c 23).toNatClampNeg A B m v (F l) (T l) = sm G (tds A B m (F l) (T l) - 1) := by rw [hG]; rfl
  have Gj : ∀ j, j + 1 < tds A B m (F l) (T l) → G j = pct (c 23).toNatClampNeg (pts A B v (tpe A B m (T l) (F l) j) (tpe A B m (T l) (F l) (j + 1))) := by
    intro j hj
    obtain ⟨t1, t2⟩ := tpe_at hk hn f4 f1 (show j < tds A B m (F l) (T l) by omega)
    obtain ⟨u1, u2⟩ := tpe_at hk hn f4 f1 hj
    rw [hG]
    unfold pb1
    rw [(pts_at v8 (fun y => hk _ t1 (by rw [y])) (fun y => hk _ u1 (by rw [y])) (t2.elim (fun z => Or.inr z.2) (fun z => Or.inl z.2)) (u2.elim (fun z => Or.inl z.1) (fun z => Or.inr z.1))).1]
  rw [epb]
  clear hG epb
  have hne : tds A B m (F l) (T l) ≠ 0 := fun y => f3 (tds_eq0 hk y)
  have inl : vp_in (nI l) 3 := nI_inB (by omega) (by decide)
  refine upto (H := Int32) (P := fun j x => x = nI (sm G j)) (E := fun j x => ewP X Ch_bendsOf (d + 1) 14 [some (.ref 142), some (.int (nI l)), some (.int x), some (.int (nI (j + 1))), none, none] [] (0, 0) (229, ewR cu sp 3 n2 n3 n4, h) _) (tds A B m (F l) (T l) - 1) ?_ ?_ 0 0 (by omega) rfl
  · intro j x hj hx next
    have hlt : nI (j + 1) < h 14 (nI l).toNatClampNeg := by rw [cl, x3]; exact (nI_ltb (by omega) (by omega)).mpr (by omega)
    have i7 : nI l * 7 + nI (j + 1) = nI (7 * l + (j + 1)) := by rw [show (nI l : Int32) * 7 = nI (l * 7) from nI_mu l 7, nI_ad, Nat.mul_comm]
    have i8 : nI (7 * l + (j + 1)) - 1 = nI (7 * l + j) := by rw [show 7 * l + j = 7 * l + (j + 1) - 1 by omega]; exact nI_sub (b := 1) (by omega)
    obtain ⟨t1, t2⟩ := tpe_at hk hn f4 f1 (show j < tds A B m (F l) (T l) by omega)
    obtain ⟨u1, u2⟩ := tpe_at hk hn f4 f1 (show j + 1 < tds A B m (F l) (T l) by omega)
    have ne := tpe_ne hk (by omega) hn f4 f1 (show j + 1 < tds A B m (F l) (T l) by omega)
    have pm : pmt A B (tpe A B m (T l) (F l) j) (tpe A B m (T l) (F l) (j + 1)) ≠ -1 := by
      unfold pmt
      split
      · decide
      · split
        · decide
        · omega
    have tn := turned_n hN (q := 143) (v := v) rfl rfl t1 u1 ne ⟨v8 _, v8 _⟩ (dd _ t1) (dd _ u1) pm
    have r1 : h 13 (7 * l + j) = nI (tpe A B m (T l) (F l) j) := x4 j (by omega)
    have r2 : h 13 (7 * l + (j + 1)) = nI (tpe A B m (T l) (F l) (j + 1)) := x4 (j + 1) (by omega)
    refine v_Ch_bendsOf_14 _ _ _ h inl (fun q => absurd hlt q) (fun _ => ?_) (fun _ => ?_) (fun _ => ?_) (fun _ => ?_)
    · rw [i7, i8]; exact nI_inB (by omega) (by decide)
    · rw [i7]; exact nI_inB (by omega) (by decide)
    · rw [i7, i8, nI_clamp (by omega), nI_clamp (by omega), r1, r2]; exact tn.1
    · rw [i7, i8, nI_clamp (by omega), nI_clamp (by omega), r1, r2, tn.2, way, counted2_n hS.1.2 (pts_lt _ _), ← nI_succ, hx, nI_ad, ← Gj j (by omega)]
      exact next _ rfl
  · intro x hx
    have hlt : ¬ nI (tds A B m (F l) (T l) - 1 + 1) < h 14 (nI l).toNatClampNeg := by rw [cl, x3]; exact nI_nlt (by omega) (by omega)
    refine v_Ch_bendsOf_14 _ _ _ h inl (fun _ => ⟨h, x, ⟨rfl, hx⟩, rfl, rfl⟩) (fun q => absurd q hlt) (fun q => absurd q hlt) (fun q => absurd q hlt) (fun q => absurd q hlt)
theorem bends_n {d : Nat} {h : Nat → Nat → Int32} (hK : cKn h n m A B k F T c) (hS : mSe c m) : ewP X Ch_bends (d + 2) 0 [some (.ref 142), none, none] [] (0, 0) (229, ewR cu sp 3 n2 n3 n4, h) (fun v S' => ∃ (h' : Nat → Nat → Int32) (y : Int32), (h' = h ∧ y = if (pBp c m A B k F T).2.1 = 1000000 then -1 else nI (pbs (c 23).toNatClampNeg A B m (pBp c m A B k F T).2.2 k F T)) ∧ v = some (.int y) ∧ S' = (229, ewR cu sp 3 n2 n3 n4, h')) := by
  have hN := hK.1.1
  have hk3 := hN.2.2.1.2.1
  have z : (h 142 0 = -1) ↔ (pBp c m A B k F T).2.1 = 1000000 := by rw [hK.2.1]; exact pCs_m1
  refine v_Ch_bends_0 h (fun q => ?_) (fun q => ⟨h, _, ⟨rfl, by rw [if_pos (z.mp q)]⟩, rfl, rfl⟩)
  have nq : (pBp c m A B k F T).2.1 ≠ 1000000 := fun y => q (z.mpr y)
  rw [if_neg nq]
  unfold pbs
  generalize hG : (fun l => pbd (c 23).toNatClampNeg A B m (pBp c m A B k F T).2.2 (F l) (T l)) = G
  refine upto (H := Int32) (P := fun l x => x = nI (sm G l)) (E := fun l x => ewP X Ch_bends (d + 2) 14 [some (.ref 142), some (.int x), some (.int (nI l))] [] (0, 0) (229, ewR cu sp 3 n2 n3 n4, h) _) k ?_ ?_ 0 0 (by omega) rfl
  · intro l x hl hx next
    have hlt : nI l < h 3 2 := by rw [hN.2.2.1.1]; exact (nI_ltb (by omega) (by omega)).mpr hl
    refine v_Ch_bends_14 _ _ h (P_Ch_bendsOf := fun h' x1 => h' = h ∧ x1 = nI l) (R_Ch_bendsOf := fun h' x1 h'' y => h'' = h ∧ y = nI (G l)) (fun x1 h' hp => ?_) (fun q => absurd hlt q) (fun _ => ⟨rfl, rfl⟩) (fun _ w4 y5 hw => ?_)
    · obtain ⟨rfl, rfl⟩ := hp
      refine ewP_m (fun v S' q => ?_) (bendsOf_n hK hS hl)
      obtain ⟨h'', y, ⟨a1, a2⟩, e1, e2⟩ := q
      rw [if_neg nq] at a2
      exact ⟨h'', y, ⟨a1, by rw [a2, ← hG]⟩, e1, e2⟩
    · obtain ⟨rfl, rfl⟩ := hw
      rw [← nI_succ, hx, nI_ad]
      exact next _ rfl
  · intro x hx
    have hlt : ¬ nI k < h 3 2 := by rw [hN.2.2.1.1]; exact nI_nlt (Nat.le_refl _) (by omega)
    exact v_Ch_bends_14 _ _ h (P_Ch_bendsOf := fun _ _ => False) (R_Ch_bendsOf := fun _ _ _ _ => False) (fun _ _ hp => hp.elim) (fun _ => ⟨h, x, ⟨rfl, hx⟩, rfl, rfl⟩) (fun q => absurd q hlt) (fun q => absurd q hlt)
end CHARTD
