/-! class and reference side by side: what stands between calls, and one call of both -/
abbrev aP : Type := (Nat × (Nat → Int32)) × (Int32 × Int32) × (Nat × Nat × (Nat → Nat) × (Nat → Nat) × Nat × (Nat → Nat) × (Nat → Nat)) × (Nat → Int32) × (Nat × (Nat → Nat → Int32)) × (Nat → Bool) × (Nat → Nat → Int32)
def cIa (h : Nat → Nat → Int32) (n1 n3 n4 : Nat) (G : Nat → Nat → Int32) (a : aP) : Prop := cI h n1 n3 n4 G a.1.1 a.1.2 a.2.1.1 a.2.1.2 a.2.2.1.1 a.2.2.1.2.1 a.2.2.1.2.2.1 a.2.2.1.2.2.2.1 a.2.2.1.2.2.2.2.1 a.2.2.1.2.2.2.2.2.1 a.2.2.1.2.2.2.2.2.2 a.2.2.2.1 a.2.2.2.2.1.1 a.2.2.2.2.1.2 a.2.2.2.2.2.1 a.2.2.2.2.2.2
def mIa (h G : Nat → Nat → Int32) (a : aP) : Prop := mI h G a.1.1 a.1.2 a.2.1.1 a.2.1.2 a.2.2.1.1 a.2.2.1.2.1 a.2.2.1.2.2.1 a.2.2.1.2.2.2.1 a.2.2.1.2.2.2.2.1 a.2.2.1.2.2.2.2.2.1 a.2.2.1.2.2.2.2.2.2 a.2.2.2.1 a.2.2.2.2.1.1 a.2.2.2.2.1.2 a.2.2.2.2.2.1 a.2.2.2.2.2.2
def aOx (tn : Nat) (tx : Nat → Int32) (n m : Nat) (c : Nat → Int32) (u : Nat) (S : Nat → Nat → Int32) (g : Nat → Bool) (I : Nat → Nat → Int32) : Prop :=
  (tn ≤ 240 ∧ ∀ j, j < tn → ∃ x, x < 256 ∧ tx j = nI x) ∧ aSx n m c ∧ (u ≤ 16 ∧ ∀ j, j < u → aSx n m (S j)) ∧ ∀ i, i < 2 → g i = true → aSx n m (I i)
def aOxa (a : aP) : Prop := aOx a.1.1 a.1.2 a.2.2.1.1 a.2.2.1.2.1 a.2.2.2.1 a.2.2.2.2.1.1 a.2.2.2.2.1.2 a.2.2.2.2.2.1 a.2.2.2.2.2.2
def lwI (r : Nat → Nat → Nat) (h : Nat → Nat → Int32) : Prop := ∃ (n1 n2 n3 n4 : Nat) (a : aP), r = ewR 3 35 n1 n2 n3 n4 ∧ cIa h n1 n3 n4 h a ∧ mIa h h a ∧ aOxa a
/-- as it stands behind a call: net may have changed the names of current and spare -/
def lwN (r : Nat → Nat → Nat) (h : Nat → Nat → Int32) : Prop := lwI r h ∨ ∃ (n1 n2 n3 n4 : Nat), r = ewR 35 3 n1 n2 n3 n4 ∧ lwI (ewR 3 35 (ewPi n1) (ewPi n2) (ewPi n3) (ewPi n4)) (fun q => h (ewPi q))
/-- both answer the same -/
def lwB (X : Nat × (Nat → Int32)) (d : Nat) (MC MR : ewMt) (ac ar : eL) (r : Nat → Nat → Nat) (h : Nat → Nat → Int32) : Prop :=
  ewP X MC (d + 14) 0 ac [] (0, 0) (229, r, h) (fun v S' => ∃ (r' : Nat → Nat → Nat) (h' : Nat → Nat → Int32) (y : Int32), v = some (.int y) ∧ S' = (229, r', h') ∧ ewP X MR (d + 14) 0 ar [] (0, 0) (229, r', h') (fun v' S'' => ∃ (h'' : Nat → Nat → Int32), v' = some (.int y) ∧ S'' = (229, r', h'') ∧ lwN r' h''))
section BOTH
variable {X : Nat × (Nat → Int32)} {d : Nat} {MC MR : ewMt} {ac ar : eL} {n1 n2 n3 n4 : Nat} {h : Nat → Nat → Int32} {a : aP}
theorem both (O : Int32 → aP → Prop) (uq : ∀ y a1 y2 a2, O y a1 → O y2 a2 → y2 = y ∧ a2 = a1) (ok : ∀ y a', O y a' → aOxa a')
    (hc : ewP X MC (d + 14) 0 ac [] (0, 0) (229, ewR 3 35 n1 n2 n3 n4, h) (eO fun h' n1 n3 n4 y => ∃ a', O y a' ∧ cIa h' n1 n3 n4 h a')) (hm : mIa h h a)
    (hr : ∀ (h' : Nat → Nat → Int32) (m1 m2 m3 m4 : Nat), mIa h' h' a → ewP X MR (d + 14) 0 ar [] (0, 0) (229, ewR 3 35 m1 m2 m3 m4, h') (fun v S' => ∃ (h'' : Nat → Nat → Int32) (y : Int32), v = some (.int y) ∧ S' = (229, ewR 3 35 m1 m2 m3 m4, h'') ∧ ∃ a', O y a' ∧ mIa h'' h' a')) : lwB X d MC MR ac ar (ewR 3 35 n1 n2 n3 n4) h := by
  refine ewP_m (fun v S' q => ?_) hc
  obtain ⟨h', m1, m2, m3, m4, y, e1, e2, a', o1, c1⟩ := q
  refine ⟨_, h', y, e1, e2, ewP_m (fun v S'' q => ?_) (hr h' m1 m2 m3 m4 (mI.re hm (fun q hq => c1.1.2.2.2.2.2.2.2 q hq)))⟩
  obtain ⟨h'', y2, e3, e4, a2, o2, c2⟩ := q
  obtain ⟨rfl, rfl⟩ := uq _ _ _ _ o1 o2
  exact ⟨h'', e3, e4, Or.inl ⟨m1, m2, m3, m4, a2, rfl, cI.re c1 (fun q hq => c2.2.1.2 q hq), mI.re c2 (fun _ _ => rfl), ok _ _ o1⟩⟩
theorem bothQ (D : Int32 → Prop) (uq : ∀ y y2, D y → D y2 → y2 = y) (ok : aOxa a)
    (hc : ewP X MC (d + 14) 0 ac [] (0, 0) (229, ewR 3 35 n1 n2 n3 n4, h) (eO fun h' n1 n3 n4 y => cIa h' n1 n3 n4 h a ∧ D y)) (hm : mIa h h a)
    (hr : ∀ (h' : Nat → Nat → Int32) (m1 m2 m3 m4 : Nat), mIa h' h' a → ewP X MR (d + 14) 0 ar [] (0, 0) (229, ewR 3 35 m1 m2 m3 m4, h') (fun v S' => ∃ (h'' : Nat → Nat → Int32) (y : Int32), v = some (.int y) ∧ S' = (229, ewR 3 35 m1 m2 m3 m4, h'') ∧ mIa h'' h' a ∧ D y)) : lwB X d MC MR ac ar (ewR 3 35 n1 n2 n3 n4) h := by
  refine both (a := a) (fun y a' => D y ∧ a' = a) (fun y a1 y2 a2 h1 h2 => ⟨uq _ _ h1.1 h2.1, h2.2.trans h1.2.symm⟩) (fun y a' o => by rw [o.2]; exact ok) ?_ hm (fun h' m1 m2 m3 m4 hm' => ?_)
  · refine ewP_m (fun v S' q => ?_) hc
    obtain ⟨h', m1, m2, m3, m4, y, e1, e2, c1, o1⟩ := q
    exact ⟨h', m1, m2, m3, m4, y, e1, e2, a, ⟨o1, rfl⟩, c1⟩
  · refine ewP_m (fun v S' q => ?_) (hr h' m1 m2 m3 m4 hm')
    obtain ⟨h'', y, e1, e2, c1, o1⟩ := q
    exact ⟨h'', y, e1, e2, a, ⟨o1, rfl⟩, c1⟩
end BOTH
theorem nI_u {a b : Nat} (ha : a < 1000) (hb : b < 1000) {x : Int32} (e1 : x = nI a) (e2 : x = nI b) : b = a := (nI_eq (by omega) (by omega)).mp (e2.symm.trans e1)
theorem un1 {b : Nat} (hb : b ≤ 1000) {x1 z : Int32} {P : Nat → Int32 → Prop} (hu : ∀ e y y2, e < b → P e y → P e y2 → y2 = y) : ∀ y y2, ((¬ (∃ e, e < b ∧ x1 = nI e) ∧ y = z) ∨ ∃ e, e < b ∧ x1 = nI e ∧ P e y) → ((¬ (∃ e, e < b ∧ x1 = nI e) ∧ y2 = z) ∨ ∃ e, e < b ∧ x1 = nI e ∧ P e y2) → y2 = y := by
  rintro y y2 (⟨h1, rfl⟩ | ⟨e, he, e1, p1⟩) (⟨h2, rfl⟩ | ⟨f, hf, e2, p2⟩)
  · rfl
  · exact absurd ⟨f, hf, e2⟩ h1
  · exact absurd ⟨e, he, e1⟩ h2
  · have := nI_u (by omega) (by omega) e1 e2
    subst this
    exact hu _ _ _ hf p1 p2
section BQ
variable {X : Nat × (Nat → Int32)} {d : Nat} {r : Nat → Nat → Nat} {h : Nat → Nat → Int32}
theorem l_fault (L : lwI r h) (x1 : Int32) : lwB X d Ew_fault Mo_fault [some (.ref 0), some (.int x1)] [some (.ref 194), some (.int x1)] r h := by
  obtain ⟨n1, n2, n3, n4, a, rfl, hc, hm, ok⟩ := L
  refine bothQ (a := a) _ (fun y y2 h1 h2 => h2.trans h1.symm) ok (t_Ew_fault hc x1) hm (fun h' m1 m2 m3 m4 hm' => ?_)
  refine s_Mo_fault (d := d + 14) x1 h' ⟨h', _, rfl, rfl, hm', ?_⟩
  unfold f_Mo_fault
  rw [hm'.2.1.1.1, hm'.2.1.1.2]
theorem l_told (L : lwI r h) (x1 : Int32) : lwB X d Ew_told Mo_told [some (.ref 0), some (.int x1)] [some (.ref 194), some (.int x1)] r h := by
  obtain ⟨n1, n2, n3, n4, a, rfl, hc, hm, ok⟩ := L
  exact bothQ (a := a) _ (fun y y2 h1 h2 => h2.trans h1.symm) ok (t_Ew_told hc ok.2.1.1 ok.2.1.2 x1) hm (fun h' m1 m2 m3 m4 hm' => t_Mo_told (d := d + 8) hm' ok.2.1.1.1 x1)
theorem l_station (L : lwI r h) (x1 x2 : Int32) : lwB X d Ew_station Mo_station [some (.ref 0), some (.int x1), some (.int x2)] [some (.ref 194), some (.int x1), some (.int x2)] r h := by
  obtain ⟨n1, n2, n3, n4, a, rfl, hc, hm, ok⟩ := L
  have h8 := hc.1.2.2.1.1.2.1
  exact bothQ (a := a) _ (un1 (by omega) (fun e y y2 _ h1 h2 => h2.trans h1.symm)) ok (t_Ew_station hc ok.2.1.1 x1 x2) hm (fun h' m1 m2 m3 m4 hm' => t_Mo_station (d := d + 8) hm' ok.2.1.1.1 x1 x2)
theorem l_stretch (L : lwI r h) (x1 x2 : Int32) : lwB X d Ew_stretch Mo_stretch [some (.ref 0), some (.int x1), some (.int x2)] [some (.ref 194), some (.int x1), some (.int x2)] r h := by
  obtain ⟨n1, n2, n3, n4, a, rfl, hc, hm, ok⟩ := L
  have h7 := hc.1.2.2.1.2.1.2.1
  exact bothQ (a := a) _ (un1 (by omega) (fun e y y2 _ h1 h2 => h2.trans h1.symm)) ok (t_Ew_stretch hc ok.2.1.1 x1 x2) hm (fun h' m1 m2 m3 m4 hm' => t_Mo_stretch (d := d + 8) hm' ok.2.1.1.1 x1 x2)
theorem un5 {x y y2 a b c e z : Int32} (h1 : (x = 0 ∧ y = a) ∨ (x = 1 ∧ y = b) ∨ (x = 2 ∧ y = c) ∨ (x = 3 ∧ y = e) ∨ ((x < 0 ∨ 4 ≤ x) ∧ y = z)) (h2 : (x = 0 ∧ y2 = a) ∨ (x = 1 ∧ y2 = b) ∨ (x = 2 ∧ y2 = c) ∨ (x = 3 ∧ y2 = e) ∨ ((x < 0 ∨ 4 ≤ x) ∧ y2 = z)) : y2 = y := by
  have n0 : ¬ ((0 : Int32) < 0 ∨ (4 : Int32) ≤ 0) := by decide
  have n1 : ¬ ((1 : Int32) < 0 ∨ (4 : Int32) ≤ 1) := by decide
  have n2 : ¬ ((2 : Int32) < 0 ∨ (4 : Int32) ≤ 2) := by decide
  have n3 : ¬ ((3 : Int32) < 0 ∨ (4 : Int32) ≤ 3) := by decide
  rcases h1 with ⟨rfl, rfl⟩ | ⟨rfl, rfl⟩ | ⟨rfl, rfl⟩ | ⟨rfl, rfl⟩ | ⟨q, rfl⟩ <;> rcases h2 with ⟨p, rfl⟩ | ⟨p, rfl⟩ | ⟨p, rfl⟩ | ⟨p, rfl⟩ | ⟨p, rfl⟩ <;> first | rfl | exact absurd p (by decide) | exact absurd p n0 | exact absurd p n1 | exact absurd p n2 | exact absurd p n3 | (rw [p] at q; first | exact absurd q n0 | exact absurd q n1 | exact absurd q n2 | exact absurd q n3)
theorem l_line (L : lwI r h) (x1 x2 : Int32) : lwB X d Ew_line Mo_line [some (.ref 0), some (.int x1), some (.int x2)] [some (.ref 194), some (.int x1), some (.int x2)] r h := by
  obtain ⟨n1, n2, n3, n4, a, rfl, hc, hm, ok⟩ := L
  have h3 := hc.1.2.2.1.2.2.1.2.1
  refine bothQ (a := a) _ (fun y y2 h1 h2 => ?_) ok (t_Ew_line hc ok.2.1.1 x1 x2) hm (fun h' m1 m2 m3 m4 hm' => t_Mo_line (d := d + 7) hm' ok.2.1.1.1 x1 x2)
  rcases h1 with ⟨p, rfl⟩ | ⟨l, hl, e1, h1⟩ <;> rcases h2 with ⟨q, rfl⟩ | ⟨j, hj, e2, h2⟩
  · rfl
  · exact absurd ⟨j, hj, e2⟩ p
  · exact absurd ⟨l, hl, e1⟩ q
  · have := nI_u (by omega) (by omega) e1 e2
    subst this
    exact un5 h1 h2
theorem l_along (L : lwI r h) (x1 x2 : Int32) : lwB X d Ew_along Mo_along [some (.ref 0), some (.int x1), some (.int x2)] [some (.ref 194), some (.int x1), some (.int x2)] r h := by
  obtain ⟨n1, n2, n3, n4, a, rfl, hc, hm, ok⟩ := L
  have h3 := hc.1.2.2.1.2.2.1.2.1
  have h7 := hc.1.2.2.1.2.1.2.1
  have okk := hc.1.2.2.1.2.2.2.1
  have h8 := hc.1.2.2.1.1.2.1
  refine bothQ (a := a) _ (un1 (by omega) (fun l y y2 hl h1 h2 => ?_)) ok (t_Ew_along hc x1 x2) hm (fun h' m1 m2 m3 m4 hm' => ?_)
  · have len := tds_lt okk.2.1 okk.1 (okk.2.2 l hl).1 (okk.2.2 l hl).2.1 (okk.2.2 l hl).2.2.2
    rcases h1 with ⟨p, rfl⟩ | ⟨p, ⟨p1, rfl⟩ | ⟨i, hi, p1, rfl⟩⟩ <;> rcases h2 with ⟨q, rfl⟩ | ⟨q, ⟨q1, rfl⟩ | ⟨j, hj, q1, rfl⟩⟩
    · rfl
    · exact absurd p q
    · exact absurd p q
    · exact absurd q p
    · rfl
    · exact absurd ((nI_ltb (by omega) (by omega)).mpr hj) (by rw [← q1]; exact p1)
    · exact absurd q p
    · exact absurd ((nI_ltb (by omega) (by omega)).mpr hi) (by rw [← p1]; exact q1)
    · rw [nI_u (by omega) (by omega) p1 q1]
  · refine ewP_m (fun v S' q => ?_) (t_Mo_along (d := d + 12) hm' x1 x2)
    obtain ⟨y, e1, e2, e3⟩ := q
    exact ⟨h', y, e1, e2, hm', e3⟩
theorem l_bend (L : lwI r h) (x1 x2 : Int32) : lwB X d Ew_bend Mo_bend [some (.ref 0), some (.int x1), some (.int x2)] [some (.ref 194), some (.int x1), some (.int x2)] r h := by
  obtain ⟨n1, n2, n3, n4, a, rfl, hc, hm, ok⟩ := L
  refine bothQ (a := a) _ (fun y y2 h1 h2 => h2.trans h1.symm) ok (t_Ew_bend hc x1 x2) hm (fun h' m1 m2 m3 m4 hm' => ?_)
  refine s_Mo_bend (d := d + 13) x1 x2 h' ⟨h', _, rfl, rfl, hm', ?_⟩
  have i3 := in_07 x1 3 (by omega)
  have i4 := in_07 x2 4 (by omega)
  have j3 := in_7 (x := x1) 3 (by omega)
  have j4 := in_7 (x := x2) 4 (by omega)
  unfold f_Mo_bend
  by_cases q1 : ¬ x1 < 0 ∧ ¬ nI 3 < x1
  · rw [if_pos (i3.mpr (j3.mp q1))]
    by_cases q2 : ¬ x2 < 0 ∧ ¬ nI 4 < x2
    · rw [if_pos (i4.mpr (j4.mp q2)), if_neg (by rintro (z | z | z); exact z q1; exact q2.1 z; exact q2.2 z)]
      obtain ⟨i, hi, rfl⟩ := j3.mp q1
      obtain ⟨j, hj, rfl⟩ := j4.mp q2
      exact (by decide +kernel : ∀ (i : Fin 4) (j : Fin 5), f_Mo_counted (nI i.val) (nI j.val) = f_Ew_counted (nI i.val) (nI j.val)) ⟨i, hi⟩ ⟨j, hj⟩
    · rw [if_neg (fun z => q2 (j4.mpr (i4.mp z))), if_pos]
      by_cases z : x2 < 0
      · exact Or.inr (Or.inl z)
      · exact Or.inr (Or.inr (Decidable.byContradiction fun y => q2 ⟨z, y⟩))
  · rw [if_neg (fun z => q1 (j3.mpr (i3.mp z))), if_pos (show ¬ f_Ew_isWay x1 ∨ x2 < 0 ∨ 4 < x2 from Or.inl q1)]
theorem l_plans (L : lwI r h) : lwB X d Ew_plans Mo_plans [some (.ref 0)] [some (.ref 194)] r h := by
  obtain ⟨n1, n2, n3, n4, a, rfl, hc, hm, ok⟩ := L
  refine bothQ (a := a) _ (fun y y2 h1 h2 => h2.trans h1.symm) ok (t_Ew_plans hc ok.2.1.1) hm (fun h' m1 m2 m3 m4 hm' => ?_)
  refine ewP_m (fun v S' q => ?_) (t_Mo_plans (d := d + 8) hm' ok.2.1.1.1)
  obtain ⟨h'', e1, e2, e3⟩ := q
  exact ⟨h'', _, e1, e2, e3, rfl⟩
theorem l_crossings (L : lwI r h) (x1 : Int32) : lwB X d Ew_crossings Mo_crossings [some (.ref 0), some (.int x1)] [some (.ref 194), some (.int x1), none, none, none, none] r h := by
  obtain ⟨n1, n2, n3, n4, a, rfl, hc, hm, ok⟩ := L
  have h8 := hc.1.2.2.1.1.2.1
  exact bothQ (a := a) _ (un1 (by omega) (fun e y y2 _ h1 h2 => h2.trans h1.symm)) ok (t_Ew_crossings hc ok.2.1.1 x1) hm (fun h' m1 m2 m3 m4 hm' => t_Mo_crossings (d := d + 8) hm' ok.2.1.1.1 x1)
theorem l_cross (L : lwI r h) (x1 x2 : Int32) : lwB X d Ew_cross Mo_cross [some (.ref 0), some (.int x1), some (.int x2)] [some (.ref 194), some (.int x1), some (.int x2), none, none] r h := by
  obtain ⟨n1, n2, n3, n4, a, rfl, hc, hm, ok⟩ := L
  have h3 := hc.1.2.2.1.2.2.1.2.1
  refine bothQ (a := a) _ (fun y y2 h1 h2 => ?_) ok (t_Ew_cross hc ok.2.1.1 x1 x2) hm (fun h' m1 m2 m3 m4 hm' => t_Mo_cross (d := d + 8) hm' ok.2.1.1.1 x1 x2)
  rcases h1 with ⟨p, rfl⟩ | ⟨l, j, hl, hj, hn, e1, e2, rfl⟩ <;> rcases h2 with ⟨q, rfl⟩ | ⟨l', j', hl', hj', hn', e1', e2', rfl⟩
  · rfl
  · exact absurd ⟨l', j', hl', hj', hn', e1', e2'⟩ p
  · exact absurd ⟨l, j, hl, hj, hn, e1, e2⟩ q
  · rw [nI_u (by omega) (by omega) e1 e1', nI_u (by omega) (by omega) e2 e2']
theorem l_order (L : lwI r h) (x1 x2 : Int32) : lwB X d Ew_order Mo_order [some (.ref 0), some (.int x1), some (.int x2)] [some (.ref 194), some (.int x1), some (.int x2)] r h := by
  obtain ⟨n1, n2, n3, n4, a, rfl, hc, hm, ok⟩ := L
  have h7 := hc.1.2.2.1.2.1.2.1
  refine bothQ (a := a) _ (un1 (by omega) (fun e y y2 he h1 h2 => ?_)) ok (t_Ew_order hc ok.2.1.1 x1 x2) hm (fun h' m1 m2 m3 m4 hm' => t_Mo_order (d := d + 8) hm' ok.2.1.1.1 x1 x2)
  have len := pbc_le (s := pLs a.2.2.1.2.1 a.2.2.1.2.2.1 a.2.2.1.2.2.2.1 a.2.2.1.2.2.2.2.1 a.2.2.1.2.2.2.2.2.1 a.2.2.1.2.2.2.2.2.2 e)
  rcases h1 with ⟨p, rfl⟩ | ⟨p, ⟨p1, rfl⟩ | ⟨p0, i, hi, p1, rfl⟩⟩ <;> rcases h2 with ⟨q, rfl⟩ | ⟨q, ⟨q1, rfl⟩ | ⟨q0, j, hj, q1, rfl⟩⟩
  · rfl
  · exact absurd p q
  · exact absurd p q
  · exact absurd q p
  · rfl
  · rcases p1 with z | z
    · exact absurd z q0
    · exact absurd ((nI_ltb (by omega) (by omega)).mpr hj) (by rw [← q1]; exact z)
  · exact absurd q p
  · rcases q1 with z | z
    · exact absurd z p0
    · exact absurd ((nI_ltb (by omega) (by omega)).mpr hi) (by rw [← p1]; exact z)
  · rw [nI_u (by omega) (by omega) p1 q1]
end BQ
