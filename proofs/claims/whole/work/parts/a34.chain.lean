/-! chains: least cost along chains of stretches, pure -/
section CHAIN
variable (A B : Nat → Nat) (n m : Nat) (pd : Nat → Bool) (o1 o2 : Nat → Nat) (P : Nat → Nat → Nat) (Xc : Nat → Nat → Nat → Nat)
/-- stations that pair two stretches -/
def gOK : Prop := ∀ s, s < n → pd s = true → o1 s < m ∧ o2 s < m ∧ o1 s ≠ o2 s ∧ (A (o1 s) = s ∨ B (o1 s) = s) ∧ (A (o2 s) = s ∨ B (o2 s) = s)
def gPd (e s : Nat) : Prop := pd s = true ∧ (o1 s = e ∨ o2 s = e)
def gOt (s e : Nat) : Nat := if o1 s = e then o2 s else o1 s
/-- what a choice costs within a set of stretches -/
def hW (z : Nat → Bool) (r : Nat → Nat) : Nat := sm (fun e => if z e = true then P e (r e) else 0) m + sm (fun s => if pd s = true ∧ z (o1 s) = true ∧ z (o2 s) = true then Xc s (r (o1 s)) (r (o2 s)) else 0) n
/-- the choices that keep what is settled (6: not settled) -/
def gAl (rk r : Nat → Nat) : Prop := ∀ e, e < m → r e < 6 ∧ (rk e = 6 ∨ rk e = r e)
def gCl (z : Nat → Bool) : Prop := ∀ s, s < n → pd s = true → (z (o1 s) = true ↔ z (o2 s) = true)
end CHAIN
section CHAIN2
variable {A B : Nat → Nat} {n m : Nat} {pd : Nat → Bool} {o1 o2 : Nat → Nat} {P : Nat → Nat → Nat} {Xc : Nat → Nat → Nat → Nat}
theorem gOt_ne {s e : Nat} (g : gOK A B n m pd o1 o2) (hs : s < n) (h : gPd pd o1 o2 e s) : gOt o1 o2 s e ≠ e ∧ gOt o1 o2 s e < m ∧ (A (gOt o1 o2 s e) = s ∨ B (gOt o1 o2 s e) = s) ∧ gPd pd o1 o2 (gOt o1 o2 s e) s ∧ gOt o1 o2 s (gOt o1 o2 s e) = e := by
  obtain ⟨g1, g2, g3, g4, g5⟩ := g s hs h.1
  unfold gOt gPd
  by_cases q : o1 s = e
  · rw [if_pos q, if_neg g3]
    exact ⟨fun z => g3 (q.trans z.symm), g2, g5, ⟨h.1, Or.inr rfl⟩, q⟩
  · have q2 := h.2.resolve_left q
    rw [if_neg q, if_pos rfl]
    exact ⟨q, g1, g4, ⟨h.1, Or.inl rfl⟩, q2⟩
theorem hW_cg {z : Nat → Bool} {r r' : Nat → Nat} (h : ∀ e, z e = true → r e = r' e) : hW n m pd o1 o2 P Xc z r = hW n m pd o1 o2 P Xc z r' := by
  unfold hW
  congr 1
  · refine sm_cg m (fun e _ => ?_)
    by_cases q : z e = true
    · rw [if_pos q, if_pos q, h e q]
    · rw [if_neg q, if_neg q]
  · refine sm_cg n (fun s _ => ?_)
    by_cases q : pd s = true ∧ z (o1 s) = true ∧ z (o2 s) = true
    · rw [if_pos q, if_pos q, h _ q.2.1, h _ q.2.2]
    · rw [if_neg q, if_neg q]
/-- a stretch more -/
theorem hW_add {z : Nat → Bool} {r : Nat → Nat} {e f s : Nat} (g : gOK A B n m pd o1 o2) (sym : ∀ s i j, Xc s i j = Xc s j i) (hs : s < n) (hp : gPd pd o1 o2 e s) (hf : gOt o1 o2 s e = f) (ze : z e = true) (zf : ¬ z f = true) (only : ∀ s', s' < n → s' ≠ s → pd s' = true → ¬ ((o1 s' = f ∧ z (o2 s') = true) ∨ (o2 s' = f ∧ z (o1 s') = true))) : hW n m pd o1 o2 P Xc (fun x => z x || decide (x = f)) r = hW n m pd o1 o2 P Xc z r + (P f (r f) + Xc s (r e) (r f)) := by
  obtain ⟨k1, k2, k3, k4, k5⟩ := gOt_ne g hs hp
  rw [hf] at k1 k2 k3 k4 k5
  unfold hW
  have a1 : sm (fun x => if (z x || decide (x = f)) = true then P x (r x) else 0) m = sm (fun x => if z x = true then P x (r x) else 0) m + P f (r f) := by
    rw [← (show sm (fun i => if i = f then P i (r i) else 0) m = P f (r f) by rw [sm_pick, if_pos k2]), ← sm_add]
    refine sm_cg m (fun x _ => ?_)
    by_cases q : x = f
    · rw [q, if_neg zf, if_pos rfl, if_pos (by simp), Nat.zero_add]
    · rw [if_neg q, Nat.add_zero, decide_eq_false q, Bool.or_false]
  have a2 : sm (fun t => if pd t = true ∧ (z (o1 t) || decide (o1 t = f)) = true ∧ (z (o2 t) || decide (o2 t = f)) = true then Xc t (r (o1 t)) (r (o2 t)) else 0) n = sm (fun t => if pd t = true ∧ z (o1 t) = true ∧ z (o2 t) = true then Xc t (r (o1 t)) (r (o2 t)) else 0) n + Xc s (r e) (r f) := by
    rw [← (show sm (fun i => if i = s then Xc i (r e) (r f) else 0) n = Xc s (r e) (r f) by rw [sm_pick, if_pos hs]), ← sm_add]
    refine sm_cg n (fun t ht => ?_)
    by_cases q : t = s
    · subst q
      rw [if_pos rfl]
      have h12 : (o1 t = e ∧ o2 t = f) ∨ (o1 t = f ∧ o2 t = e) := by
        unfold gOt at hf
        by_cases y : o1 t = e
        · rw [if_pos y] at hf; exact Or.inl ⟨y, hf⟩
        · rw [if_neg y] at hf; exact Or.inr ⟨hf, hp.2.resolve_left y⟩
      rcases h12 with ⟨y1, y2⟩ | ⟨y1, y2⟩
      · rw [y1, y2, if_pos ⟨hp.1, by rw [ze]; rfl, by simp⟩, if_neg (fun w => zf w.2.2), Nat.zero_add]
      · rw [y1, y2, if_pos ⟨hp.1, by simp, by rw [ze]; rfl⟩, if_neg (fun w => zf w.2.1), Nat.zero_add, sym]
    · rw [if_neg q, Nat.add_zero]
      by_cases y : pd t = true
      · have nn := only t ht q y
        have g3 := (g t ht y).2.2.1
        by_cases w : z (o1 t) = true ∧ z (o2 t) = true
        · rw [if_pos ⟨y, by rw [w.1]; rfl, by rw [w.2]; rfl⟩, if_pos ⟨y, w⟩]
        · rw [if_neg (show ¬ (pd t = true ∧ z (o1 t) = true ∧ z (o2 t) = true) from fun v => w v.2), if_neg]
          rintro ⟨-, w1, w2⟩
          rw [Bool.or_eq_true, decide_eq_true_iff] at w1 w2
          rcases w1 with w1 | w1
          · rcases w2 with w2 | w2
            · exact w ⟨w1, w2⟩
            · exact nn (Or.inr ⟨w2, w1⟩)
          · rcases w2 with w2 | w2
            · exact nn (Or.inl ⟨w1, w2⟩)
            · exact g3 (w1.trans w2.symm)
      · rw [if_neg (fun v => y v.1), if_neg (fun v => y v.1)]
  rw [a1, a2]
  omega
/-- two sets that don't touch -/
theorem hW_two {z y : Nat → Bool} {r : Nat → Nat} (dis : ∀ x, z x = true → ¬ y x = true) (cz : gCl n pd o1 o2 z) (cy : gCl n pd o1 o2 y) : hW n m pd o1 o2 P Xc (fun x => z x || y x) r = hW n m pd o1 o2 P Xc z r + hW n m pd o1 o2 P Xc y r := by
  unfold hW
  have a1 : sm (fun x => if (z x || y x) = true then P x (r x) else 0) m = sm (fun x => if z x = true then P x (r x) else 0) m + sm (fun x => if y x = true then P x (r x) else 0) m := by
    rw [← sm_add]
    refine sm_cg m (fun x _ => ?_)
    by_cases q : z x = true
    · rw [if_pos (by rw [q]; rfl), if_pos q, if_neg (dis x q), Nat.add_zero]
    · rw [if_neg q, Nat.zero_add]
      by_cases p : y x = true
      · rw [if_pos (by rw [p, Bool.or_true]), if_pos p]
      · rw [if_neg p, if_neg (by rw [Bool.or_eq_true]; exact fun w => w.elim q p)]
  have a2 : sm (fun s => if pd s = true ∧ (z (o1 s) || y (o1 s)) = true ∧ (z (o2 s) || y (o2 s)) = true then Xc s (r (o1 s)) (r (o2 s)) else 0) n = sm (fun s => if pd s = true ∧ z (o1 s) = true ∧ z (o2 s) = true then Xc s (r (o1 s)) (r (o2 s)) else 0) n + sm (fun s => if pd s = true ∧ y (o1 s) = true ∧ y (o2 s) = true then Xc s (r (o1 s)) (r (o2 s)) else 0) n := by
    rw [← sm_add]
    refine sm_cg n (fun s hs => ?_)
    by_cases w : pd s = true
    · have c1 := cz s hs w
      have c2 := cy s hs w
      by_cases q : z (o1 s) = true
      · have q2 := c1.mp q
        rw [if_pos ⟨w, by rw [q]; rfl, by rw [q2]; rfl⟩, if_pos ⟨w, q, q2⟩, if_neg (fun v => dis _ q v.2.1), Nat.add_zero]
      · rw [if_neg (fun v : pd s = true ∧ z (o1 s) = true ∧ z (o2 s) = true => q v.2.1), Nat.zero_add]
        by_cases p : y (o1 s) = true
        · have p2 := c2.mp p
          rw [if_pos ⟨w, by rw [p, Bool.or_true], by rw [p2, Bool.or_true]⟩, if_pos ⟨w, p, p2⟩]
        · rw [if_neg (fun v : pd s = true ∧ y (o1 s) = true ∧ y (o2 s) = true => p v.2.1), if_neg]
          rintro ⟨-, v, -⟩
          rw [Bool.or_eq_true] at v
          exact v.elim q p
    · rw [if_neg (fun v => w v.1), if_neg (fun v => w v.1), if_neg (fun v => w v.1)]
  rw [a1, a2]
  omega
/-- along a chain: z the stretches so far, e the last one, D the least costs by its choice -/
def gCh (A B : Nat → Nat) (n m : Nat) (pd : Nat → Bool) (o1 o2 : Nat → Nat) (P : Nat → Nat → Nat) (Xc : Nat → Nat → Nat → Nat) (rk : Nat → Nat) (z0 z : Nat → Bool) (e : Nat) (D : Nat → Nat) : Prop :=
  (e < m ∧ z e = true) ∧ (∀ x, z x = true → x < m ∧ ¬ z0 x = true) ∧ (∀ s, s < n → ∀ a, gPd pd o1 o2 a s → z a = true → a ≠ e → z (gOt o1 o2 s a) = true) ∧ (∃ v, (v = A e ∨ v = B e) ∧ (gPd pd o1 o2 e v → z (gOt o1 o2 v e) = true)) ∧
  (∀ r, gAl m rk r → D (r e) ≤ hW n m pd o1 o2 P Xc z r) ∧ ∀ i, i < 6 → D i < 1000000 → ∃ r, gAl m rk r ∧ r e = i ∧ hW n m pd o1 o2 P Xc z r = D i
theorem gCh_0 {rk : Nat → Nat} {z0 : Nat → Bool} {e : Nat} {D r0 : Nat → Nat} (g : gOK A B n m pd o1 o2) (he : e < m) (h0 : ¬ z0 e = true) (hend : ∃ v, (v = A e ∨ v = B e) ∧ ¬ gPd pd o1 o2 e v) (ha : gAl m rk r0) (hD : ∀ i, i < 6 → D i = if rk e = 6 ∨ rk e = i then P e i else 1000000) : gCh A B n m pd o1 o2 P Xc rk z0 (fun x => decide (x = e)) e D := by
  have w1 : ∀ r, hW n m pd o1 o2 P Xc (fun x => decide (x = e)) r = P e (r e) := by
    intro r
    unfold hW
    have a1 : sm (fun x => if decide (x = e) = true then P x (r x) else 0) m = P e (r e) := by
      rw [sm_cg m (fun x _ => show (if decide (x = e) = true then P x (r x) else 0) = (if x = e then P x (r x) else 0) by simp only [decide_eq_true_iff]), sm_pick, if_pos he]
    have a2 : sm (fun s => if pd s = true ∧ decide (o1 s = e) = true ∧ decide (o2 s = e) = true then Xc s (r (o1 s)) (r (o2 s)) else 0) n = 0 := by
      refine (sm_cg n (g := fun _ => 0) (fun s hs => ?_)).trans (sm_z n)
      show (if pd s = true ∧ decide (o1 s = e) = true ∧ decide (o2 s = e) = true then Xc s (r (o1 s)) (r (o2 s)) else 0) = 0
      exact if_neg (fun q => (g s hs q.1).2.2.1 ((of_decide_eq_true q.2.1).trans (of_decide_eq_true q.2.2).symm))
    rw [a1, a2]; rfl
  obtain ⟨v, hv, hn⟩ := hend
  refine ⟨⟨he, by simp⟩, fun x hx => ?_, fun s hs a _ hz hne => absurd (of_decide_eq_true hz) hne, ⟨v, hv, fun y => absurd y hn⟩, fun r hr => ?_, fun i hi hlt => ?_⟩
  · have := of_decide_eq_true hx
    rw [this]; exact ⟨he, h0⟩
  · rw [w1, hD _ (hr e he).1, if_pos (hr e he).2]; exact Nat.le_refl _
  · rw [hD i hi] at hlt ⊢
    by_cases q : rk e = 6 ∨ rk e = i
    · rw [if_pos q] at hlt ⊢
      refine ⟨pup r0 e i, fun x hx => ?_, pup_self _ _ _, by rw [w1, pup_self]⟩
      by_cases y : x = e
      · rw [y, pup_self]; exact ⟨hi, q⟩
      · rw [pup_ne _ _ y]; exact ha x hx
    · rw [if_neg q] at hlt; omega
/-- on to the next stretch -/
theorem gCh_s {rk : Nat → Nat} {z0 z : Nat → Bool} {e f s : Nat} {D D' : Nat → Nat} (g : gOK A B n m pd o1 o2) (sym : ∀ s i j, Xc s i j = Xc s j i) (c : gCh A B n m pd o1 o2 P Xc rk z0 z e D) (hs : s < n) (hp : gPd pd o1 o2 e s) (hf : gOt o1 o2 s e = f) (zf : ¬ z f = true) (z0f : ¬ z0 f = true)
    (h1 : ∀ i j, i < 6 → j < 6 → (rk f = 6 ∨ rk f = i) → D' i ≤ D j + Xc s j i + P f i) (h2 : ∀ i, i < 6 → D' i < 1000000 → (rk f = 6 ∨ rk f = i) ∧ ∃ j, j < 6 ∧ D j < 1000000 ∧ D' i = D j + Xc s j i + P f i) : gCh A B n m pd o1 o2 P Xc rk z0 (fun x => z x || decide (x = f)) f D' := by
  obtain ⟨⟨c1, c2⟩, c3, c4, ⟨v, hv, c5⟩, c6, c7⟩ := c
  obtain ⟨k1, k2, k3, k4, k5⟩ := gOt_ne g hs hp
  rw [hf] at k1 k2 k3 k4 k5
  have te := g s hs hp.1
  have tes : A e = s ∨ B e = s := by
    rcases hp.2 with q | q
    · rw [← q]; exact te.2.2.2.1
    · rw [← q]; exact te.2.2.2.2
  -- s is not the end v
  have sv : s ≠ v := fun q => zf (by rw [← hf, q]; exact c5 (by rw [← q]; exact hp))
  have ends : ∀ s', s' < n → gPd pd o1 o2 e s' → s' ≠ s → s' = v := by
    intro s' hs' hp' hne
    have t' := g s' hs' hp'.1
    have tes' : A e = s' ∨ B e = s' := by
      rcases hp'.2 with q | q
      · rw [← q]; exact t'.2.2.2.1
      · rw [← q]; exact t'.2.2.2.2
    rcases tes with q1 | q1 <;> rcases tes' with q2 | q2 <;> rcases hv with q3 | q3 <;> omega
  have only : ∀ s', s' < n → s' ≠ s → pd s' = true → ¬ ((o1 s' = f ∧ z (o2 s') = true) ∨ (o2 s' = f ∧ z (o1 s') = true)) := by
    intro s' hs' hne hpd
    have key : ∀ a, gPd pd o1 o2 a s' → gOt o1 o2 s' a = f → z a = true → False := by
      intro a ha hfa hz
      by_cases q : a = e
      · rw [q] at ha hfa
        have := ends s' hs' ha hne
        rw [this] at ha hfa
        have := c5 ha
        rw [hfa] at this
        exact zf this
      · have := c4 s' hs' a ha hz q
        rw [hfa] at this
        exact zf this
    have g3 := (g s' hs' hpd).2.2.1
    rintro (⟨q1, q2⟩ | ⟨q1, q2⟩)
    · refine key (o2 s') ⟨hpd, Or.inr rfl⟩ ?_ q2
      unfold gOt; rw [if_neg g3]; exact q1
    · refine key (o1 s') ⟨hpd, Or.inl rfl⟩ ?_ q2
      unfold gOt; rw [if_pos rfl]; exact q1
  have ad := fun r => hW_add (P := P) (r := r) g sym hs hp hf c2 zf only
  refine ⟨⟨k2, by simp⟩, fun x hx => ?_, fun s' hs' a ha hz hne => ?_, ⟨s, k3.imp Eq.symm Eq.symm, fun _ => by show (z (gOt o1 o2 s f) || decide (gOt o1 o2 s f = f)) = true; rw [k5, c2]; rfl⟩, fun r hr => ?_, fun i hi hlt => ?_⟩
  · rw [Bool.or_eq_true, decide_eq_true_iff] at hx
    rcases hx with hx | hx
    · exact c3 x hx
    · rw [hx]; exact ⟨k2, z0f⟩
  · rw [Bool.or_eq_true, decide_eq_true_iff] at hz
    have hz' := hz.resolve_right hne
    show (z (gOt o1 o2 s' a) || decide (gOt o1 o2 s' a = f)) = true
    by_cases q : a = e
    · rw [q] at ha ⊢
      by_cases y : s' = s
      · rw [y, hf]; simp
      · have := ends s' hs' ha y
        rw [this] at ha ⊢
        rw [c5 ha]; rfl
    · rw [c4 s' hs' a ha hz' q]; rfl
  · rw [ad r]
    have a1 := h1 (r f) (r e) (hr f k2).1 (hr e c1).1 (hr f k2).2
    have a2 := c6 r hr
    omega
  · obtain ⟨q, j, hj, hjl, e1⟩ := h2 i hi hlt
    obtain ⟨r0, r1, r2, r3⟩ := c7 j hj hjl
    refine ⟨pup r0 f i, fun x hx => ?_, pup_self _ _ _, ?_⟩
    · by_cases y : x = f
      · rw [y, pup_self]; exact ⟨hi, q⟩
      · rw [pup_ne _ _ y]; exact r1 x hx
    · rw [ad, pup_self, pup_ne _ _ k1.symm, r2, ← hW_cg (r := r0) (fun x hx => (pup_ne r0 i (fun y => zf (by rw [← y]; exact hx))).symm), r3, e1]
      omega
end CHAIN2
