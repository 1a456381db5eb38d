/-! one call of both: those that change -/
theorem aOx_pp {n m : Nat} {c : Nat → Int32} {u : Nat} {S : Nat → Nat → Int32} (h1 : u ≤ 16 ∧ ∀ j, j < u → aSx n m (S j)) (h2 : aSx n m c) : pPu u ≤ 16 ∧ ∀ j, j < pPu u → aSx n m (pPS u S c j) := by
  unfold pPu pPS
  by_cases e : u = 16
  · rw [if_pos e]
    refine ⟨by omega, fun j hj => ?_⟩
    rw [if_pos e]
    by_cases z : j = 15
    · rw [if_pos z]; exact h2
    · rw [if_neg z]; exact h1.2 _ (by omega)
  · rw [if_neg e]
    refine ⟨by omega, fun j hj => ?_⟩
    rw [if_neg e]
    by_cases z : j = u
    · rw [if_pos z]; exact h2
    · rw [if_neg z]; exact h1.2 _ (by omega)
/-- the tuple with another setting and other undos -/
def aCh (a : aP) (c' : Nat → Int32) (u' : Nat) (S' : Nat → Nat → Int32) : aP := (a.1, a.2.1, a.2.2.1, c', (u', S'), a.2.2.2.2.2)
theorem aCh_id (a : aP) : aCh a a.2.2.2.1 a.2.2.2.2.1.1 a.2.2.2.2.1.2 = a := rfl
section BOTH2
variable {X : Nat × (Nat → Int32)} {d : Nat} {r : Nat → Nat → Nat} {h : Nat → Nat → Int32} {MC MR : ewMt} {ac ar : eL} {n1 n2 n3 n4 : Nat} {a : aP}
theorem bothC (O : Int32 → (Nat → Int32) → Nat → (Nat → Nat → Int32) → Prop) (uq : ∀ y c1 u1 S1 y2 c2 u2 S2, O y c1 u1 S1 → O y2 c2 u2 S2 → y2 = y ∧ c2 = c1 ∧ u2 = u1 ∧ S2 = S1) (ok : ∀ y c' u' S', O y c' u' S' → aOxa (aCh a c' u' S'))
    (hc : ewP X MC (d + 14) 0 ac [] (0, 0) (229, ewR 3 35 n1 n2 n3 n4, h) (eO fun h' n1 n3 n4 y => ∃ c' u' S', O y c' u' S' ∧ cIa h' n1 n3 n4 h (aCh a c' u' S'))) (hm : mIa h h a)
    (hr : ∀ (h' : Nat → Nat → Int32) (m1 m2 m3 m4 : Nat), mIa h' h' a → ewP X MR (d + 14) 0 ar [] (0, 0) (229, ewR 3 35 m1 m2 m3 m4, h') (fun v S' => ∃ (h'' : Nat → Nat → Int32) (y : Int32), v = some (.int y) ∧ S' = (229, ewR 3 35 m1 m2 m3 m4, h'') ∧ ∃ c' u' S', O y c' u' S' ∧ mIa h'' h' (aCh a c' u' S'))) : lwB X d MC MR ac ar (ewR 3 35 n1 n2 n3 n4) h := by
  refine both (a := a) (fun y a' => ∃ c' u' S', O y c' u' S' ∧ a' = aCh a c' u' S') ?_ ?_ ?_ hm (fun h' m1 m2 m3 m4 hm' => ?_)
  · rintro y a1 y2 a2 ⟨c1, u1, S1, o1, rfl⟩ ⟨c2, u2, S2, o2, rfl⟩
    obtain ⟨e1, e2, e3, e4⟩ := uq _ _ _ _ _ _ _ _ o1 o2
    exact ⟨e1, by rw [e2, e3, e4]⟩
  · rintro y a' ⟨c1, u1, S1, o1, rfl⟩
    exact ok _ _ _ _ o1
  · refine ewP_m (fun v S' q => ?_) hc
    obtain ⟨h', m1, m2, m3, m4, y, e1, e2, c1, u1, S1, o1, i1⟩ := q
    exact ⟨h', m1, m2, m3, m4, y, e1, e2, _, ⟨c1, u1, S1, o1, rfl⟩, i1⟩
  · refine ewP_m (fun v S' q => ?_) (hr h' m1 m2 m3 m4 hm')
    obtain ⟨h'', y, e1, e2, c1, u1, S1, o1, i1⟩ := q
    exact ⟨h'', y, e1, e2, _, ⟨c1, u1, S1, o1, rfl⟩, i1⟩
theorem l_fix (L : lwI r h) (x1 x2 : Int32) : lwB X d Ew_fix Mo_fix [some (.ref 0), some (.int x1), some (.int x2)] [some (.ref 194), some (.int x1), some (.int x2)] r h := by
  obtain ⟨n1, n2, n3, n4, a, rfl, hc, hm, ok⟩ := L
  have h8 := hc.1.2.2.1.1.2.1
  have h7 := hc.1.2.2.1.2.1.2.1
  refine bothC (a := a) _ ?_ ?_ (t_Ew_fix hc ok.2.1 x1 x2) hm (fun h' m1 m2 m3 m4 hm' => ?_)
  · rintro y c1 u1 S1 y2 c2 u2 S2 (⟨p, rfl, rfl, rfl⟩ | ⟨e, j, he, hj, e1, e2, rfl, rfl, rfl, rfl⟩) (⟨q, rfl, rfl, rfl⟩ | ⟨e', j', he', hj', e1', e2', rfl, rfl, rfl, rfl⟩)
    · rcases p with ⟨p1, rfl⟩ | ⟨p1, p2, rfl⟩ <;> rcases q with ⟨q1, rfl⟩ | ⟨q1, q2, rfl⟩
      · exact ⟨rfl, rfl, rfl, rfl⟩
      · exact absurd q1 p1
      · exact absurd p1 q1
      · exact ⟨rfl, rfl, rfl, rfl⟩
    · rcases p with ⟨p1, rfl⟩ | ⟨p1, p2, rfl⟩
      · exact absurd ⟨e', he', e1'⟩ p1
      · exact absurd ⟨j', hj', e2'⟩ p2
    · rcases q with ⟨p1, rfl⟩ | ⟨p1, p2, rfl⟩
      · exact absurd ⟨e, he, e1⟩ p1
      · exact absurd ⟨j, hj, e2⟩ p2
    · have := nI_u (by omega) (by omega) e1 e1'
      have := nI_u (by omega) (by omega) e2 e2'
      subst_vars
      exact ⟨rfl, rfl, rfl, rfl⟩
  · rintro y c' u' S' (⟨p, rfl, rfl, rfl⟩ | ⟨e, j, he, hj, e1, e2, rfl, rfl, rfl, rfl⟩)
    · exact ok
    · exact ⟨ok.1, aSx_fix ok.2.1 h8 h7 he hj, aOx_pp ok.2.2.1 ok.2.1, ok.2.2.2⟩
  · refine ewP_m (fun v S' q => ?_) (t_Mo_fix (d := d + 7) hm' ok.2.1.1.1 ok.2.2.1.1 x1 x2)
    obtain ⟨h'', y, e1, e2, ⟨p1, p2, rfl⟩ | ⟨p1, p2, p3, rfl⟩ | ⟨e, j, he, hj, q1, q2, q3, q4⟩⟩ := q
    · exact ⟨_, y, e1, e2, _, _, _, Or.inl ⟨Or.inl ⟨p1, p2⟩, rfl, rfl, rfl⟩, hm'⟩
    · exact ⟨_, y, e1, e2, _, _, _, Or.inl ⟨Or.inr ⟨p1, p2, p3⟩, rfl, rfl, rfl⟩, hm'⟩
    · exact ⟨h'', y, e1, e2, _, _, _, Or.inr ⟨e, j, he, hj, q1, q2, q3, rfl, rfl, rfl⟩, q4⟩
theorem l_loose (L : lwI r h) (x1 : Int32) : lwB X d Ew_loose Mo_loose [some (.ref 0), some (.int x1), none] [some (.ref 194), some (.int x1), none] r h := by
  obtain ⟨n1, n2, n3, n4, a, rfl, hc, hm, ok⟩ := L
  have h8 := hc.1.2.2.1.1.2.1
  have h7 := hc.1.2.2.1.2.1.2.1
  refine bothC (a := a) _ ?_ ?_ (t_Ew_loose hc ok.2.1 x1) hm (fun h' m1 m2 m3 m4 hm' => ?_)
  · rintro y c1 u1 S1 y2 c2 u2 S2 (⟨p, rfl, rfl, rfl⟩ | ⟨e, he, e1, p2, rfl, rfl, rfl, rfl⟩) (⟨q, rfl, rfl, rfl⟩ | ⟨e', he', e1', q2, rfl, rfl, rfl, rfl⟩)
    · rcases p with ⟨p1, rfl⟩ | ⟨e, he, p1, p2, rfl⟩ <;> rcases q with ⟨q1, rfl⟩ | ⟨e', he', q1, q2, rfl⟩
      · exact ⟨rfl, rfl, rfl, rfl⟩
      · exact absurd ⟨e', he', q1⟩ p1
      · exact absurd ⟨e, he, p1⟩ q1
      · exact ⟨rfl, rfl, rfl, rfl⟩
    · rcases p with ⟨p1, rfl⟩ | ⟨e, he, p1, p2, rfl⟩
      · exact absurd ⟨e', he', e1'⟩ p1
      · have := nI_u (by omega) (by omega) p1 e1'
        subst this
        exact absurd p2 q2
    · rcases q with ⟨p1, rfl⟩ | ⟨e', he', p1, q2, rfl⟩
      · exact absurd ⟨e, he, e1⟩ p1
      · have := nI_u (by omega) (by omega) e1 p1
        subst this
        exact absurd q2 p2
    · have := nI_u (by omega) (by omega) e1 e1'
      subst this
      exact ⟨rfl, rfl, rfl, rfl⟩
  · rintro y c' u' S' (⟨p, rfl, rfl, rfl⟩ | ⟨e, he, e1, e2, rfl, rfl, rfl, rfl⟩)
    · exact ok
    · exact ⟨ok.1, aSx_loose ok.2.1 h8 h7 he, aOx_pp ok.2.2.1 ok.2.1, ok.2.2.2⟩
  · refine ewP_m (fun v S' q => ?_) (t_Mo_loose (d := d + 12) hm' ok.2.2.1.1 x1)
    obtain ⟨h'', y, e1, e2, ⟨p1, p2, rfl⟩ | ⟨e, he, q1, ⟨q2, q3, rfl⟩ | ⟨q2, q3, q4⟩⟩⟩ := q
    · exact ⟨_, y, e1, e2, _, _, _, Or.inl ⟨Or.inl ⟨p1, p2⟩, rfl, rfl, rfl⟩, hm'⟩
    · exact ⟨_, y, e1, e2, _, _, _, Or.inl ⟨Or.inr ⟨e, he, q1, q2, q3⟩, rfl, rfl, rfl⟩, hm'⟩
    · exact ⟨h'', y, e1, e2, _, _, _, Or.inr ⟨e, he, q1, q2, q3, rfl, rfl, rfl⟩, q4⟩
theorem l_move (L : lwI r h) (x1 x2 x3 : Int32) : lwB X d Ew_move Mo_move [some (.ref 0), some (.int x1), some (.int x2), some (.int x3)] [some (.ref 194), some (.int x1), some (.int x2), some (.int x3)] r h := by
  obtain ⟨n1, n2, n3, n4, a, rfl, hc, hm, ok⟩ := L
  have h8 := hc.1.2.2.1.1.2.1
  refine bothC (a := a) _ ?_ ?_ (t_Ew_move hc ok.2.1 x1 x2 x3) hm (fun h' m1 m2 m3 m4 hm' => ?_)
  · rintro y c1 u1 S1 y2 c2 u2 S2 (⟨p, rfl, rfl, rfl⟩ | ⟨e, i, j, he, hi, hj, e1, e2, e3, rfl, rfl, rfl, rfl⟩) (⟨q, rfl, rfl, rfl⟩ | ⟨e', i', j', he', hi', hj', e1', e2', e3', rfl, rfl, rfl, rfl⟩)
    · rcases p with ⟨p1, rfl⟩ | ⟨p1, p2, rfl⟩ <;> rcases q with ⟨q1, rfl⟩ | ⟨q1, q2, rfl⟩
      · exact ⟨rfl, rfl, rfl, rfl⟩
      · exact absurd q1 p1
      · exact absurd p1 q1
      · exact ⟨rfl, rfl, rfl, rfl⟩
    · rcases p with ⟨p1, rfl⟩ | ⟨p1, p2, rfl⟩
      · exact absurd ⟨e', he', e1'⟩ p1
      · exact absurd ⟨⟨i', hi', e2'⟩, ⟨j', hj', e3'⟩⟩ p2
    · rcases q with ⟨p1, rfl⟩ | ⟨p1, p2, rfl⟩
      · exact absurd ⟨e, he, e1⟩ p1
      · exact absurd ⟨⟨i, hi, e2⟩, ⟨j, hj, e3⟩⟩ p2
    · have := nI_u (by omega) (by omega) e1 e1'
      have := nI_u (by omega) (by omega) e2 e2'
      have := nI_u (by omega) (by omega) e3 e3'
      subst_vars
      exact ⟨rfl, rfl, rfl, rfl⟩
  · rintro y c' u' S' (⟨p, rfl, rfl, rfl⟩ | ⟨e, i, j, he, hi, hj, e1, e2, e3, rfl, rfl, rfl, rfl⟩)
    · exact ok
    · exact ⟨ok.1, aSx_move ok.2.1 h8 he hi hj, aOx_pp ok.2.2.1 ok.2.1, ok.2.2.2⟩
  · refine ewP_m (fun v S' q => ?_) (t_Mo_move (d := d + 7) hm' ok.2.1.1.1 ok.2.2.1.1 x1 x2 x3)
    obtain ⟨h'', y, e1, e2, ⟨p1, p2, rfl⟩ | ⟨p1, p2, p3, rfl⟩ | ⟨e, i, j, he, hi, hj, q1, q2, q3, q4, q5⟩⟩ := q
    · exact ⟨_, y, e1, e2, _, _, _, Or.inl ⟨Or.inl ⟨p1, p2⟩, rfl, rfl, rfl⟩, hm'⟩
    · exact ⟨_, y, e1, e2, _, _, _, Or.inl ⟨Or.inr ⟨p1, p2, p3⟩, rfl, rfl, rfl⟩, hm'⟩
    · exact ⟨h'', y, e1, e2, _, _, _, Or.inr ⟨e, i, j, he, hi, hj, q1, q2, q3, q4, rfl, rfl, rfl⟩, q5⟩
theorem l_count (L : lwI r h) (x1 x2 : Int32) : lwB X d Ew_count Mo_count [some (.ref 0), some (.int x1), some (.int x2)] [some (.ref 194), some (.int x1), some (.int x2)] r h := by
  obtain ⟨n1, n2, n3, n4, a, rfl, hc, hm, ok⟩ := L
  have h8 := hc.1.2.2.1.1.2.1
  have h7 := hc.1.2.2.1.2.1.2.1
  have lt : ∀ {i v : Nat}, v < (if i = 0 then 4 else 10) → v < 1000 := fun {i v} hv => by split at hv <;> omega
  refine bothC (a := a) _ ?_ ?_ (t_Ew_count hc ok.2.1 x1 x2) hm (fun h' m1 m2 m3 m4 hm' => ?_)
  · rintro y c1 u1 S1 y2 c2 u2 S2 (⟨p, rfl, rfl, rfl, rfl⟩ | ⟨i, v, hi, e1, e2, hv, rfl, rfl, rfl, rfl⟩) (⟨q, rfl, rfl, rfl, rfl⟩ | ⟨i', v', hi', e1', e2', hv', rfl, rfl, rfl, rfl⟩)
    · exact ⟨rfl, rfl, rfl, rfl⟩
    · exact absurd ⟨i', v', hi', e1', e2', hv'⟩ p
    · exact absurd ⟨i, v, hi, e1, e2, hv⟩ q
    · have := nI_u (by omega) (by omega) e1 e1'
      have := nI_u (lt hv) (lt hv') e2 e2'
      subst_vars
      exact ⟨rfl, rfl, rfl, rfl⟩
  · rintro y c' u' S' (⟨p, rfl, rfl, rfl, rfl⟩ | ⟨i, v, hi, e1, e2, hv, rfl, rfl, rfl, rfl⟩)
    · exact ok
    · exact ⟨ok.1, aSx_cnt ok.2.1 h8 h7 hi hv, aOx_pp ok.2.2.1 ok.2.1, ok.2.2.2⟩
  · refine ewP_m (fun v S' q => ?_) (t_Mo_count (d := d + 7) hm' ok.2.1.1.1 ok.2.2.1.1 x1 x2)
    obtain ⟨h'', y, e1, e2, ⟨p1, p2, rfl⟩ | ⟨i, v, hi, q1, q2, q3, q4, q5⟩⟩ := q
    · exact ⟨_, y, e1, e2, _, _, _, Or.inl ⟨p1, p2, rfl, rfl, rfl⟩, hm'⟩
    · exact ⟨h'', y, e1, e2, _, _, _, Or.inr ⟨i, v, hi, q1, q2, q3, q4, rfl, rfl, rfl⟩, q5⟩
theorem l_drift (L : lwI r h) (x1 : Int32) : lwB X d Ew_drift Mo_drift [some (.ref 0), some (.int x1)] [some (.ref 194), some (.int x1), none, none, none] r h := by
  obtain ⟨n1, n2, n3, n4, a, rfl, hc, hm, ok⟩ := L
  have h8 := hc.1.2.2.1.1.2.1
  refine bothC (a := a) _ ?_ ?_ (t_Ew_drift hc ok.2.1 x1) hm (fun h' m1 m2 m3 m4 hm' => ?_)
  · rintro y c1 u1 S1 y2 c2 u2 S2 (⟨p, rfl, rfl, rfl⟩ | ⟨p1, p2, p3, rfl, rfl, rfl, rfl⟩) (⟨q, rfl, rfl, rfl⟩ | ⟨q1, q2, q3, rfl, rfl, rfl, rfl⟩)
    · rcases p with ⟨p1, rfl⟩ | ⟨p1, p2, p3, rfl⟩ <;> rcases q with ⟨q1, rfl⟩ | ⟨q1, q2, q3, rfl⟩
      · exact ⟨rfl, rfl, rfl, rfl⟩
      · exact absurd ⟨q1, q2⟩ p1
      · exact absurd ⟨p1, p2⟩ q1
      · exact ⟨rfl, rfl, rfl, rfl⟩
    · rcases p with ⟨p1, rfl⟩ | ⟨p1, p2, p3, rfl⟩
      · exact absurd ⟨q1, q2⟩ p1
      · exact absurd p3 q3
    · rcases q with ⟨q1, rfl⟩ | ⟨q1, q2, q3, rfl⟩
      · exact absurd ⟨p1, p2⟩ q1
      · exact absurd q3 p3
    · exact ⟨rfl, rfl, rfl, rfl⟩
  · rintro y c' u' S' (⟨p, rfl, rfl, rfl⟩ | ⟨p1, p2, p3, rfl, rfl, rfl, rfl⟩)
    · exact ok
    · exact ⟨ok.1, aSx_dc ok.2.1 h8 p1 p2, aOx_pp ok.2.2.1 ok.2.1, ok.2.2.2⟩
  · refine ewP_m (fun v S' q => ?_) (t_Mo_drift (d := d + 7) hm' ok.2.1.1.1 ok.2.2.1.1 x1)
    obtain ⟨h'', y, e1, e2, ⟨p1, p2, rfl⟩ | ⟨p1, p2, p3, p4, rfl⟩ | ⟨q1, q2, q3, q4, q5⟩⟩ := q
    · exact ⟨_, y, e1, e2, _, _, _, Or.inl ⟨Or.inl ⟨p1, p2⟩, rfl, rfl, rfl⟩, hm'⟩
    · exact ⟨_, y, e1, e2, _, _, _, Or.inl ⟨Or.inr ⟨p1, p2, p3, p4⟩, rfl, rfl, rfl⟩, hm'⟩
    · exact ⟨h'', y, e1, e2, _, _, _, Or.inr ⟨q1, q2, q3, q4, rfl, rfl, rfl⟩, q5⟩
theorem l_undo (L : lwI r h) : lwB X d Ew_undo Mo_undo [some (.ref 0)] [some (.ref 194), none] r h := by
  obtain ⟨n1, n2, n3, n4, a, rfl, hc, hm, ok⟩ := L
  refine bothC (a := a) (fun y c' u' S' => oUndo a.2.2.2.1 a.2.2.2.2.1.1 a.2.2.2.2.1.2 y c' u' ∧ S' = a.2.2.2.2.1.2) ?_ ?_ (ewP_m (fun v S' q => ?_) (t_Ew_undo hc)) hm (fun h' m1 m2 m3 m4 hm' => ?_)
  · rintro y c1 u1 S1 y2 c2 u2 S2 ⟨⟨p, rfl, rfl, rfl⟩ | ⟨p, rfl, rfl, rfl⟩, rfl⟩ ⟨⟨q, rfl, rfl, rfl⟩ | ⟨q, rfl, rfl, rfl⟩, rfl⟩
    · exact ⟨rfl, rfl, rfl, rfl⟩
    · exact absurd p q
    · exact absurd q p
    · exact ⟨rfl, rfl, rfl, rfl⟩
  · rintro y c' u' S' ⟨⟨p, rfl, rfl, rfl⟩ | ⟨p, rfl, rfl, rfl⟩, rfl⟩
    · exact ok
    · have o16 := ok.2.2.1.1
      exact ⟨ok.1, ok.2.2.1.2 _ (by omega), ⟨show a.2.2.2.2.1.1 - 1 ≤ 16 by omega, fun j (hj : j < a.2.2.2.2.1.1 - 1) => ok.2.2.1.2 j (by omega)⟩, ok.2.2.2⟩
  · obtain ⟨h', m1, m2, m3, m4, y, e1, e2, c', u', o, i⟩ := q
    exact ⟨h', m1, m2, m3, m4, y, e1, e2, c', u', _, ⟨o, rfl⟩, i⟩
  · refine ewP_m (fun v S' q => ?_) (t_Mo_undo (d := d + 14) hm' ok.2.2.1.1)
    obtain ⟨h'', y, e1, e2, ⟨p1, p2, rfl⟩ | ⟨p1, p2, p3⟩⟩ := q
    · exact ⟨_, y, e1, e2, _, _, _, ⟨Or.inl ⟨p1, p2, rfl, rfl⟩, rfl⟩, hm'⟩
    · exact ⟨h'', y, e1, e2, _, _, _, ⟨Or.inr ⟨p1, p2, rfl, rfl⟩, rfl⟩, p3⟩
theorem l_goBack (L : lwI r h) (x1 : Int32) : lwB X d Ew_goBack Mo_goBack [some (.ref 0), some (.int x1)] [some (.ref 194), some (.int x1), none] r h := by
  obtain ⟨n1, n2, n3, n4, a, rfl, hc, hm, ok⟩ := L
  refine bothC (a := a) (fun y c' u' S' => oGoBack a.2.2.1.2.1 a.2.2.1.2.2.1 a.2.2.1.2.2.2.1 a.2.2.1.2.2.2.2.1 a.2.2.1.2.2.2.2.2.1 a.2.2.1.2.2.2.2.2.2 a.2.2.2.1 a.2.2.2.2.1.1 a.2.2.2.2.2.1 a.2.2.2.2.2.2 x1 y c' u' ∧ S' = a.2.2.2.2.1.2) ?_ ?_ (ewP_m (fun v S' q => ?_) (t_Ew_goBack hc (fun i hi hg => (ok.2.2.2 i hi hg).1) x1)) hm (fun h' m1 m2 m3 m4 hm' => ?_)
  · rintro y c1 u1 S1 y2 c2 u2 S2 ⟨⟨p, rfl, rfl⟩ | ⟨i, hi, e1, e2, rfl, rfl, rfl⟩, rfl⟩ ⟨⟨q, rfl, rfl⟩ | ⟨i', hi', e1', e2', rfl, rfl, rfl⟩, rfl⟩
    · rcases p with ⟨p1, rfl⟩ | ⟨i, hi, p1, p2, rfl⟩ <;> rcases q with ⟨q1, rfl⟩ | ⟨i', hi', q1, q2, rfl⟩
      · exact ⟨rfl, rfl, rfl, rfl⟩
      · exact absurd ⟨i', hi', q1⟩ p1
      · exact absurd ⟨i, hi, p1⟩ q1
      · exact ⟨rfl, rfl, rfl, rfl⟩
    · rcases p with ⟨p1, rfl⟩ | ⟨i, hi, p1, p2, rfl⟩
      · exact absurd ⟨i', hi', e1'⟩ p1
      · have := nI_u (by omega) (by omega) p1 e1'
        subst this
        rw [p2] at e2'; cases e2'
    · rcases q with ⟨p1, rfl⟩ | ⟨i', hi', p1, p2, rfl⟩
      · exact absurd ⟨i, hi, e1⟩ p1
      · have := nI_u (by omega) (by omega) e1 p1
        subst this
        rw [p2] at e2; cases e2
    · have := nI_u (by omega) (by omega) e1 e1'
      subst this
      exact ⟨rfl, rfl, rfl, rfl⟩
  · rintro y c' u' S' ⟨⟨p, rfl, rfl⟩ | ⟨i, hi, e1, e2, rfl, rfl, rfl⟩, rfl⟩
    · exact ok
    · exact ⟨ok.1, ok.2.2.2 i hi e2, ⟨Nat.zero_le 16, fun j hj => absurd hj (Nat.not_lt_zero j)⟩, ok.2.2.2⟩
  · obtain ⟨h', m1, m2, m3, m4, y, e1, e2, c', u', o, i⟩ := q
    exact ⟨h', m1, m2, m3, m4, y, e1, e2, c', u', _, ⟨o, rfl⟩, i⟩
  · refine ewP_m (fun v S' q => ?_) (t_Mo_goBack (d := d + 7) hm' (fun i hi hg => (ok.2.2.2 i hi hg).1.1) x1)
    obtain ⟨h'', y, e1, e2, ⟨p1, p2, rfl⟩ | ⟨i, hi, q1, ⟨q2, q3, rfl⟩ | ⟨q2, q3, q4⟩⟩⟩ := q
    · exact ⟨_, y, e1, e2, _, _, _, ⟨Or.inl ⟨Or.inl ⟨p1, p2⟩, rfl, rfl⟩, rfl⟩, hm'⟩
    · exact ⟨_, y, e1, e2, _, _, _, ⟨Or.inl ⟨Or.inr ⟨i, hi, q1, q2, q3⟩, rfl, rfl⟩, rfl⟩, hm'⟩
    · exact ⟨h'', y, e1, e2, _, _, _, ⟨Or.inr ⟨i, hi, q1, q2, q3, rfl, rfl⟩, rfl⟩, q4⟩
theorem l_would (L : lwI r h) (x1 x2 : Int32) : lwB X d Ew_would Mo_would [some (.ref 0), some (.int x1), some (.int x2)] [some (.ref 194), some (.int x1), some (.int x2), none, none] r h := by
  obtain ⟨n1, n2, n3, n4, a, rfl, hc, hm, ok⟩ := L
  have h7 := hc.1.2.2.1.2.1.2.1
  refine bothQ (a := a) _ (fun y y2 h1 h2 => ?_) ok (t_Ew_would hc ok.2.1 x1 x2) hm (fun h' m1 m2 m3 m4 hm' => t_Mo_would (d := d + 7) hm' ok.2.1.1.1 x1 x2)
  rcases h1 with ⟨p1, rfl⟩ | ⟨p1, p2, rfl⟩ | ⟨e, j, he, hj, e1, e2, rfl⟩ <;> rcases h2 with ⟨q1, rfl⟩ | ⟨q1, q2, rfl⟩ | ⟨e', j', he', hj', e1', e2', rfl⟩
  · rfl
  · exact absurd q1 p1
  · exact absurd ⟨e', he', e1'⟩ p1
  · exact absurd p1 q1
  · rfl
  · exact absurd ⟨j', hj', e2'⟩ p2
  · exact absurd ⟨e, he, e1⟩ q1
  · exact absurd ⟨j, hj, e2⟩ q2
  · rw [nI_u (by omega) (by omega) e1 e1', nI_u (by omega) (by omega) e2 e2']
theorem l_keep (L : lwI r h) (x1 : Int32) : lwB X d Ew_keep Mo_keep [some (.ref 0), some (.int x1)] [some (.ref 194), some (.int x1), none] r h := by
  obtain ⟨n1, n2, n3, n4, a, rfl, hc, hm, ok⟩ := L
  refine both (a := a) (fun y a' => ∃ u' g' I', oKeep a.2.2.2.1 a.2.2.2.2.1.1 a.2.2.2.2.2.1 a.2.2.2.2.2.2 x1 y u' g' I' ∧ a' = (a.1, a.2.1, a.2.2.1, a.2.2.2.1, (u', a.2.2.2.2.1.2), g', I')) ?_ ?_ (ewP_m (fun v S' q => ?_) (t_Ew_keep hc x1)) hm (fun h' m1 m2 m3 m4 hm' => ?_)
  · rintro y a1 y2 a2 ⟨u1, g1, I1, ⟨p, rfl, rfl, rfl, rfl⟩ | ⟨i, hi, e1, rfl, rfl, rfl, rfl⟩, rfl⟩ ⟨u2, g2, I2, ⟨q, rfl, rfl, rfl, rfl⟩ | ⟨i', hi', e1', rfl, rfl, rfl, rfl⟩, rfl⟩
    · exact ⟨rfl, rfl⟩
    · exact absurd ⟨i', hi', e1'⟩ p
    · exact absurd ⟨i, hi, e1⟩ q
    · have := nI_u (by omega) (by omega) e1 e1'
      subst this
      exact ⟨rfl, rfl⟩
  · rintro y a' ⟨u1, g1, I1, ⟨p, rfl, rfl, rfl, rfl⟩ | ⟨i, hi, e1, rfl, rfl, rfl, rfl⟩, rfl⟩
    · exact ok
    · refine ⟨ok.1, ok.2.1, ⟨Nat.zero_le 16, fun j hj => absurd hj (Nat.not_lt_zero j)⟩, fun j hj (hg : (if j = i then true else a.2.2.2.2.2.1 j) = true) => ?_⟩
      show aSx _ _ (if j = i then a.2.2.2.1 else a.2.2.2.2.2.2 j)
      by_cases z : j = i
      · rw [if_pos z]; exact ok.2.1
      · rw [if_neg z] at hg ⊢; exact ok.2.2.2 j hj hg
  · obtain ⟨h', m1, m2, m3, m4, y, e1, e2, u', g', I', o, i⟩ := q
    exact ⟨h', m1, m2, m3, m4, y, e1, e2, _, ⟨u', g', I', o, rfl⟩, i⟩
  · refine ewP_m (fun v S' q => ?_) (t_Mo_keep (d := d + 13) hm' x1)
    obtain ⟨h'', y, e1, e2, ⟨p1, p2, rfl⟩ | ⟨i, hi, q1, q2, q3⟩⟩ := q
    · exact ⟨_, y, e1, e2, _, ⟨_, _, _, Or.inl ⟨p1, p2, rfl, rfl, rfl⟩, rfl⟩, hm'⟩
    · exact ⟨h'', y, e1, e2, _, ⟨_, _, _, Or.inr ⟨i, hi, q1, q2, rfl, rfl, rfl⟩, rfl⟩, q3⟩
theorem l_feed (L : lwI r h) (x1 : Int32) : lwB X d Ew_feed Mo_feed [some (.ref 0), some (.int x1)] [some (.ref 194), some (.int x1)] r h := by
  obtain ⟨n1, n2, n3, n4, a, rfl, hc, hm, ok⟩ := L
  refine both (a := a) (fun y a' => (((¬ (∃ i, i < 256 ∧ x1 = nI i) ∧ y = -1000000002) ∨ ((∃ i, i < 256 ∧ x1 = nI i) ∧ a.1.1 = 240 ∧ y = -1000000004)) ∧ a' = a) ∨ ((∃ i, i < 256 ∧ x1 = nI i) ∧ a.1.1 ≠ 240 ∧ y = nI (a.1.1 + 1) ∧ a' = ((a.1.1 + 1, upd a.1.2 a.1.1 x1), a.2))) ?_ ?_ (ewP_m (fun v S' q => ?_) (t_Ew_feed hc ok.1.1 x1)) hm (fun h' m1 m2 m3 m4 hm' => ?_)
  · rintro y a1 y2 a2 (⟨p, rfl⟩ | ⟨p1, p2, rfl, rfl⟩) (⟨q, rfl⟩ | ⟨q1, q2, rfl, rfl⟩)
    · rcases p with ⟨p1, rfl⟩ | ⟨p1, p2, rfl⟩ <;> rcases q with ⟨q1, rfl⟩ | ⟨q1, q2, rfl⟩
      · exact ⟨rfl, rfl⟩
      · exact absurd q1 p1
      · exact absurd p1 q1
      · exact ⟨rfl, rfl⟩
    · rcases p with ⟨p1, rfl⟩ | ⟨p1, p2, rfl⟩
      · exact absurd q1 p1
      · exact absurd p2 q2
    · rcases q with ⟨q1, rfl⟩ | ⟨q1, q2, rfl⟩
      · exact absurd p1 q1
      · exact absurd q2 p2
    · exact ⟨rfl, rfl⟩
  · rintro y a' (⟨p, rfl⟩ | ⟨p1, p2, rfl, rfl⟩)
    · exact ok
    · have o240 := ok.1.1
      refine ⟨⟨show a.1.1 + 1 ≤ 240 by omega, fun j (hj : j < a.1.1 + 1) => ?_⟩, ok.2⟩
      show ∃ x, x < 256 ∧ upd a.1.2 a.1.1 x1 j = nI x
      rw [upd]
      by_cases z : j = a.1.1
      · rw [if_pos z]; exact p1
      · rw [if_neg z]; exact ok.1.2 j (by omega)
  · obtain ⟨h', m1, m2, m3, m4, y, e1, e2, ⟨p1, p2, p3⟩ | ⟨p1, p2, p3, p4⟩ | ⟨p1, p2, p3, p4⟩⟩ := q
    · exact ⟨h', m1, m2, m3, m4, y, e1, e2, a, Or.inl ⟨Or.inl ⟨p1, p2⟩, rfl⟩, p3⟩
    · exact ⟨h', m1, m2, m3, m4, y, e1, e2, a, Or.inl ⟨Or.inr ⟨p1, p2, p3⟩, rfl⟩, p4⟩
    · exact ⟨h', m1, m2, m3, m4, y, e1, e2, _, Or.inr ⟨p1, p2, p3, rfl⟩, p4⟩
  · refine ewP_m (fun v S' q => ?_) (t_Mo_feed (d := d + 13) hm' ok.1.1 x1)
    obtain ⟨h'', y, e1, e2, ⟨p1, p2, rfl⟩ | ⟨p1, p2, p3, rfl⟩ | ⟨p1, p2, p3, p4⟩⟩ := q
    · exact ⟨_, y, e1, e2, a, Or.inl ⟨Or.inl ⟨p1, p2⟩, rfl⟩, hm'⟩
    · exact ⟨_, y, e1, e2, a, Or.inl ⟨Or.inr ⟨p1, p2, p3⟩, rfl⟩, hm'⟩
    · exact ⟨h'', y, e1, e2, _, Or.inr ⟨p1, p2, p3, rfl⟩, p4⟩
end BOTH2
