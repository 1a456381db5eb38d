/-! the reference's calls: crossings, cross -/
/-- whether two lines cross at a station, by orders o -/
def pcx (m : Nat) (A B : Nat → Nat) (k : Nat) (F T dv o : Nat → Nat) (s l j : Nat) : Nat := if phg A B m F T s l j ≠ 99 ∧ pcr A B dv (pLf m A B k F T o l j) s (pe0 A B m F T l s) (pe1 A B m F T l s) (pe0 A B m F T j s) (pe1 A B m F T j s) = true then 1 else 0
theorem cx_n {w : Nat → Nat → Int32} {n m : Nat} {A B : Nat → Nat} {k : Nat} {F T dv o : Nat → Nat} (hN : mNt w n m A B k F T) (hv : mDr w 214 m dv) (h1 : ∀ e, e < m → w 221 e = nI (pLs m A B k F T e)) (h3 : ∀ e, e < m → ∀ i, i < pbc (pLs m A B k F T e) → w 223 (3 * e + i) = nI (pol (pLs m A B k F T e) (o e) i)) {s l j : Nat} (hs : s < n) (hl : l < k) (hj : j < k) : p_Mo_crossingsOf w (nI s) (nI l) (nI j) ∧ f_Mo_crossingsOf w (nI s) (nI l) (nI j) = nI (pcx m A B k F T dv o s l j) := by
  have hk3 := hN.2.2.1.2
  have h7 := hN.1.2.2.2.1
  obtain ⟨g1, g2⟩ := hangsOn_n hN hs hl hj
  have Ls8 := fun e => pLs_lt (m := m) (A := A) (B := B) (F := F) (T := T) hk3 e
  have neg : f_Mo_hangsOn w (nI s) (nI l) (nI j) < 0 ↔ phg A B m F T s l j = 99 := by
    rw [g2]
    by_cases q : phg A B m F T s l j = 99
    · rw [if_pos q]; exact ⟨fun _ => q, fun _ => by decide⟩
    · rw [if_neg q]
      rcases phg_le hN hs hl hj with z | z
      · exact ⟨fun y => absurd y (nI_pos (by omega)), fun y => absurd y q⟩
      · exact absurd z q
  have dc := fun (q : phg A B m F T s l j ≠ 99) => doCross_n hN hv (q1 := 223) rfl rfl (fun e he => ⟨_, Ls8 e, h1 e he⟩) hs hl hj q
  refine ⟨⟨g1, fun q => (dc (fun z => q (neg.mpr z))).1⟩, ?_⟩
  unfold f_Mo_crossingsOf pcx
  by_cases q : phg A B m F T s l j = 99
  · rw [if_neg (fun z => z.1 (neg.mpr q)), if_neg (fun z => z.1 q)]; rfl
  · have lt : phg A B m F T s l j < m := (phg_le hN hs hl hj).resolve_right q
    have cg : pcr A B dv (gLf w 223 l j) s (pe0 A B m F T l s) (pe1 A B m F T l s) (pe0 A B m F T j s) (pe1 A B m F T j s) = pcr A B dv (pLf m A B k F T o l j) s (pe0 A B m F T l s) (pe1 A B m F T l s) (pe0 A B m F T j s) (pe1 A B m F T j s) := by
      refine pcr_cg q (fun f hf => ?_)
      unfold gLf pLf
      rw [h1 f (by omega), nI_clamp (by have := Ls8 f; omega)]
      exact (pis_cg _ (fun i hi => h3 f (by omega) i hi)).2
    have d2 := (dc q).2
    rw [cg] at d2
    by_cases z : pcr A B dv (pLf m A B k F T o l j) s (pe0 A B m F T l s) (pe1 A B m F T l s) (pe0 A B m F T j s) (pe1 A B m F T j s) = true
    · rw [if_pos ⟨fun y => q (neg.mp y), d2.mpr z⟩, if_pos ⟨q, z⟩]; rfl
    · rw [if_neg (fun y => z (d2.mp y.2)), if_neg (fun y => z y.2)]; rfl
section CALLS6
variable {h w : Nat → Nat → Int32} {G : Nat → Nat → Int32} {tn : Nat} {tx : Nat → Int32} {fp wy : Int32} {n m : Nat} {A B : Nat → Nat} {k : Nat} {F T : Nat → Nat} {c : Nat → Int32} {u : Nat} {S : Nat → Nat → Int32} {g : Nat → Bool} {I : Nat → Nat → Int32}
/-- behind layPlan and layOrders -/
theorem mI.lo {w6 w9 : Nat → Nat → Int32} (a : mI h G tn tx fp wy n m A B k F T c u S g I) (o : mSe c m) (hw6 : mLp h w6) (hw9 : mLO w6 w9) : mI w9 G tn tx fp wy n m A B k F T c u S g I ∧ (w9 194 32 < 0 ↔ (pBp c m A B k F T).2.1 = 1000000) ∧ (∀ e, e < m → w9 221 e = nI (pLs m A B k F T e)) ∧ (¬ w9 194 32 < 0 → mDr w9 214 m (pBp c m A B k F T).2.2 ∧ w9 194 46 = nI (pBo n m A B k F T (pBp c m A B k F T).2.2).1 ∧ ∀ e, e < m → ∀ i, i < pbc (pLs m A B k F T e) → w9 223 (3 * e + i) = nI (pol (pLs m A B k F T e) ((pBo n m A B k F T (pBp c m A B k F T).2.2).2 e) i)) := by
  obtain ⟨p1, p2⟩ := a.p o
  obtain ⟨⟨r1, r2, r3, r4, r5, r6, r7⟩, wN, w202, neg, good, pO, pL⟩ := mLp.at p1 hw6
  have a6 := a.fr hw6.1 (by decide) (by decide) (by decide) (by decide)
  obtain ⟨g1, g2, g3, g4, g5, g6, g7⟩ := a.2.2.1.g
  rw [g1] at r1; rw [g2] at r2; rw [g3] at r3; rw [g4] at r4; rw [g5] at r5; rw [g6] at r6; rw [g7] at r7
  obtain ⟨f0, f1, f2, f3⟩ := hw9
  have a9 := a6.fr f0 (by decide) (by decide) (by decide) (by decide)
  have e32 : w9 194 32 = w6 194 32 := f0.2 32 (by decide)
  unfold gB2 at f3
  rw [r2, r3, r4, r5, r6, r7] at f1 f3
  rw [r1] at f3
  refine ⟨a9, by rw [e32, ← p2]; exact neg, f1, fun q => ?_⟩
  rw [e32] at q
  obtain ⟨x1, x2, x3, x4⟩ := good q
  obtain ⟨y1, y2, y3⟩ := f3 q
  rw [x3, p2] at y1 y3
  refine ⟨?_, y1, y3⟩
  rw [x3, r2, p2] at x4
  exact ⟨x4.1, fun e he => by rw [f0.1 214 (by decide) (by decide)]; exact x4.2 e he⟩
theorem t_Mo_cross {X : Nat × (Nat → Int32)} {d : Nat} {cu sp n1 n2 n3 n4 : Nat} (a : mI h G tn tx fp wy n m A B k F T c u S g I) (o : mSe c m) (x1 x2 : Int32) : ewP X Mo_cross (d + 6) 0 [some (.ref 194), some (.int x1), some (.int x2), none, none] [] (0, 0) (229, ewR cu sp n1 n2 n3 n4, h) (fun v S' => ∃ (h' : Nat → Nat → Int32) (y : Int32), v = some (.int y) ∧ S' = (229, ewR cu sp n1 n2 n3 n4, h') ∧ mI h' G tn tx fp wy n m A B k F T c u S g I ∧
    ((¬ (∃ l j, l < k ∧ j < k ∧ l ≠ j ∧ x1 = nI l ∧ x2 = nI j) ∧ y = -1000000001) ∨ ∃ l j, l < k ∧ j < k ∧ l ≠ j ∧ x1 = nI l ∧ x2 = nI j ∧ y = (if (pBp c m A B k F T).2.1 = 1000000 then -1 else nI (sm (fun s => pcx m A B k F T (pBp c m A B k F T).2.2 (pBo n m A B k F T (pBp c m A B k F T).2.2).2 s l j) n)))) := by
  have i1 := isLine_n a x1
  have i2 := isLine_n a x2
  have hk3 := a.2.2.1.2.2.1.2
  have h8 := a.2.2.1.1.2.1
  obtain ⟨p1, p2⟩ := a.p o
  refine v_Mo_cross_0 x1 x2 h (fun q => ⟨h, _, rfl, rfl, a, Or.inl ⟨fun ⟨l, j, h1, h2, h3, h4, h5⟩ => q (i1.mpr ⟨l, h1, h4⟩), rfl⟩⟩) (fun _ q => ⟨h, _, rfl, rfl, a, Or.inl ⟨fun ⟨l, j, h1, h2, h3, h4, h5⟩ => q (i2.mpr ⟨j, h2, h5⟩), rfl⟩⟩) (fun _ _ _ => p1) (fun q1 q2 q3 w6 hw6 => ?_) (fun q1 q2 q3 => ⟨h, _, rfl, rfl, a, Or.inl ⟨fun ⟨l, j, h1, h2, h3, h4, h5⟩ => h3 ((nI_eq (by omega) (by omega)).mp (by rw [← h4, ← h5]; exact q3)), rfl⟩⟩)
  refine ⟨(mLp.at p1 hw6).2.2.2.2.2.1, fun w9 hw9 => ?_⟩
  obtain ⟨a9, neg, f1, f3⟩ := a.lo o hw6 hw9
  obtain ⟨l, hl, rfl⟩ := i1.mp q1
  obtain ⟨j, hj, rfl⟩ := i2.mp q2
  have hlj : l ≠ j := fun z => q3 (by rw [z])
  refine upto (H := Unit) (P := fun _ _ => True) (E := fun s _ => ewP X Mo_cross (d + 6) 38 [some (.ref 194), some (.int (nI l)), some (.int (nI j)), some (.int (nI (sm (fun s => pcx m A B k F T (pBp c m A B k F T).2.2 (pBo n m A B k F T (pBp c m A B k F T).2.2).2 s l j) s))), some (.int (nI s))] [] (0, 0) (229, ewR cu sp n1 n2 n3 n4, w9) _) n ?_ ?_ 0 () (by omega) trivial
  · intro s _ hs _ next
    have next := next () trivial
    have hlt : nI s < w9 194 0 := by rw [a9.2.2.1.1.1]; exact nI_lt hs (by omega)
    refine v_Mo_cross_38 _ _ _ _ w9 (fun q => absurd hlt q) (fun _ q => ⟨w9, _, rfl, rfl, a9, Or.inr ⟨l, j, hl, hj, hlj, rfl, rfl, by rw [if_pos (neg.mp q)]⟩⟩) (fun _ q => ?_) (fun _ q => ?_)
    · obtain ⟨x, y, z⟩ := f3 q
      exact (cx_n a9.2.2.1 x f1 z hs hl hj).1
    · obtain ⟨x, y, z⟩ := f3 q
      rw [(cx_n a9.2.2.1 x f1 z hs hl hj).2, nI_ad, ← nI_succ]
      exact next
  · intro _ _
    have hlt : ¬ nI n < w9 194 0 := by rw [a9.2.2.1.1.1]; exact nI_nlt (Nat.le_refl _) (by omega)
    refine v_Mo_cross_38 _ _ _ _ w9 (fun _ => ⟨w9, _, rfl, rfl, a9, Or.inr ⟨l, j, hl, hj, hlj, rfl, rfl, ?_⟩⟩) (fun q => absurd q hlt) (fun q => absurd q hlt) (fun q => absurd q hlt)
    by_cases q : w9 194 32 < 0
    · rw [if_pos q, if_pos (neg.mp q)]
    · rw [if_neg q, if_neg (fun z => q (neg.mpr z))]
end CALLS6
