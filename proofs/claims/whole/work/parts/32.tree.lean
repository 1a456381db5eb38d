/-! trees: how far, and by which stretch first; built up stretch by stretch -/
section TREE
variable (A B : Nat → Nat)
/-- how far from s to t, by the first k stretches (99: not to be come to) -/
def tds : Nat → Nat → Nat → Nat
  | 0, s, t => if s = t then 0 else 99
  | k + 1, s, t => if plb A B k s = plb A B k t then tds k s t
    else if plb A B k s = plb A B k (A k) ∧ plb A B k t = plb A B k (B k) then tds k s (A k) + 1 + tds k (B k) t
    else if plb A B k s = plb A B k (B k) ∧ plb A B k t = plb A B k (A k) then tds k s (B k) + 1 + tds k (A k) t
    else 99
/-- the first stretch on the way from s to t -/
def tfx : Nat → Nat → Nat → Nat
  | 0, _, _ => 99
  | k + 1, s, t => if plb A B k s = plb A B k t then tfx k s t
    else if plb A B k s = plb A B k (A k) ∧ plb A B k t = plb A B k (B k) then (if s = A k then k else tfx k s (A k))
    else if plb A B k s = plb A B k (B k) ∧ plb A B k t = plb A B k (A k) then (if s = B k then k else tfx k s (B k))
    else 99
/-- no stretch closes a ring -/
def tOK (k : Nat) : Prop := ∀ e, e < k → plb A B e (A e) ≠ plb A B e (B e)
/-- how many of the first n stations are in the tree of s -/
def tcn (n k s : Nat) : Nat := (List.range n).countP (fun v => decide (plb A B k v = plb A B k s))
end TREE
section TREE2
variable {A B : Nat → Nat}
theorem tds_s (k s t : Nat) : tds A B (k + 1) s t = if plb A B k s = plb A B k t then tds A B k s t
    else if plb A B k s = plb A B k (A k) ∧ plb A B k t = plb A B k (B k) then tds A B k s (A k) + 1 + tds A B k (B k) t
    else if plb A B k s = plb A B k (B k) ∧ plb A B k t = plb A B k (A k) then tds A B k s (B k) + 1 + tds A B k (A k) t
    else 99 := rfl
theorem tfx_s (k s t : Nat) : tfx A B (k + 1) s t = if plb A B k s = plb A B k t then tfx A B k s t
    else if plb A B k s = plb A B k (A k) ∧ plb A B k t = plb A B k (B k) then (if s = A k then k else tfx A B k s (A k))
    else if plb A B k s = plb A B k (B k) ∧ plb A B k t = plb A B k (A k) then (if s = B k then k else tfx A B k s (B k))
    else 99 := rfl
/-- joined by k + 1 stretches: joined before, or by the last one -/
theorem plb_join {k s t : Nat} : plb A B (k + 1) s = plb A B (k + 1) t ↔ plb A B k s = plb A B k t ∨ (plb A B k s = plb A B k (A k) ∧ plb A B k t = plb A B k (B k)) ∨ (plb A B k s = plb A B k (B k) ∧ plb A B k t = plb A B k (A k)) := by
  rw [plb_succ, plb_succ]
  by_cases h1 : plb A B k s = plb A B k (B k)
  · rw [if_pos h1]
    by_cases h2 : plb A B k t = plb A B k (B k)
    · rw [if_pos h2]
      exact ⟨fun _ => Or.inl (h1.trans h2.symm), fun _ => rfl⟩
    · rw [if_neg h2]
      constructor
      · intro h; exact Or.inr (Or.inr ⟨h1, h.symm⟩)
      · rintro (h | h | h)
        · exact absurd (h ▸ h1) h2
        · exact absurd h.2 h2
        · exact h.2.symm
  · rw [if_neg h1]
    by_cases h2 : plb A B k t = plb A B k (B k)
    · rw [if_pos h2]
      constructor
      · intro h; exact Or.inr (Or.inl ⟨h, h2⟩)
      · rintro (h | h | h)
        · exact absurd (h.trans h2) h1
        · exact h.1
        · exact absurd h.1 h1
    · rw [if_neg h2]
      constructor
      · intro h; exact Or.inl h
      · rintro (h | h | h)
        · exact h
        · exact absurd h.2 h2
        · exact absurd h.1 h1
theorem tOK.lt {k j : Nat} (h : tOK A B k) (hj : j ≤ k) : tOK A B j := fun e he => h e (by omega)
theorem tds_A {k s t : Nat} (h0 : ¬ plb A B k s = plb A B k t) (h1 : plb A B k s = plb A B k (A k)) (h2 : plb A B k t = plb A B k (B k)) : tds A B (k + 1) s t = tds A B k s (A k) + 1 + tds A B k (B k) t := by
  rw [tds_s, if_neg h0, if_pos ⟨h1, h2⟩]
theorem tds_B {k s t : Nat} (hk : plb A B k (A k) ≠ plb A B k (B k)) (h1 : plb A B k s = plb A B k (B k)) (h2 : plb A B k t = plb A B k (A k)) : tds A B (k + 1) s t = tds A B k s (B k) + 1 + tds A B k (A k) t := by
  rw [tds_s, if_neg (by rw [h1, h2]; exact hk.symm), if_neg (by rintro ⟨q, -⟩; exact hk (q.symm.trans h1)), if_pos ⟨h1, h2⟩]
theorem tfx_A {k s t : Nat} (h0 : ¬ plb A B k s = plb A B k t) (h1 : plb A B k s = plb A B k (A k)) (h2 : plb A B k t = plb A B k (B k)) : tfx A B (k + 1) s t = if s = A k then k else tfx A B k s (A k) := by
  rw [tfx_s, if_neg h0, if_pos ⟨h1, h2⟩]
theorem tfx_B {k s t : Nat} (hk : plb A B k (A k) ≠ plb A B k (B k)) (h1 : plb A B k s = plb A B k (B k)) (h2 : plb A B k t = plb A B k (A k)) : tfx A B (k + 1) s t = if s = B k then k else tfx A B k s (B k) := by
  rw [tfx_s, if_neg (by rw [h1, h2]; exact hk.symm), if_neg (by rintro ⟨q, -⟩; exact hk (q.symm.trans h1)), if_pos ⟨h1, h2⟩]
theorem tds_0 (k s : Nat) : tds A B k s s = 0 := by
  induction k with
  | zero => simp [tds]
  | succ k ih => rw [tds_s, if_pos rfl, ih]
theorem tfx_0 (k s : Nat) : tfx A B k s s = 99 := by
  induction k with
  | zero => rfl
  | succ k ih => rw [tfx_s, if_pos rfl, ih]
theorem tfx_le (k s t : Nat) : tfx A B k s t < k ∨ tfx A B k s t = 99 := by
  induction k generalizing s t with
  | zero => exact Or.inr rfl
  | succ k ih =>
    rw [tfx_s]
    split
    · rcases ih s t with h | h
      · exact Or.inl (by omega)
      · exact Or.inr h
    · split
      · split
        · exact Or.inl (by omega)
        · rcases ih s (A k) with h | h
          · exact Or.inl (by omega)
          · exact Or.inr h
      · split
        · split
          · exact Or.inl (by omega)
          · rcases ih s (B k) with h | h
            · exact Or.inl (by omega)
            · exact Or.inr h
        · exact Or.inr rfl
/-- the first stretch: it leaves s, and brings one nearer -/
theorem tfx_at {k : Nat} (hk : tOK A B k) : ∀ {s t : Nat}, plb A B k s = plb A B k t → s ≠ t → tfx A B k s t < k ∧ ((A (tfx A B k s t) = s ∧ tds A B k (B (tfx A B k s t)) t + 1 = tds A B k s t) ∨ (B (tfx A B k s t) = s ∧ tds A B k (A (tfx A B k s t)) t + 1 = tds A B k s t)) := by
  induction k with
  | zero => intro s t h hne; exact absurd h hne
  | succ k ih =>
    intro s t h hne
    have ih := @ih (hk.lt (by omega))
    have hk0 := hk k (by omega)
    -- ends of an earlier stretch are joined
    have ends : ∀ e, e < k → plb A B k (A e) = plb A B k (B e) := by
      intro e he
      have h1 : plb A B (e + 1) (A e) = plb A B (e + 1) (B e) := plb_join.mpr (Or.inr (Or.inl ⟨rfl, rfl⟩))
      have step : ∀ j, plb A B (e + 1 + j) (A e) = plb A B (e + 1 + j) (B e) := by
        intro j
        induction j with
        | zero => exact h1
        | succ j ihj => exact plb_join.mpr (Or.inl ihj)
      have := step (k - (e + 1))
      rw [show e + 1 + (k - (e + 1)) = k by omega] at this
      exact this
    have keep : ∀ e, e < k → ∀ u, (plb A B k (A e) = plb A B k u → tds A B (k + 1) (A e) u = tds A B k (A e) u) ∧ (plb A B k (B e) = plb A B k u → tds A B (k + 1) (B e) u = tds A B k (B e) u) := fun e he u => ⟨fun q => by rw [tds_s, if_pos q], fun q => by rw [tds_s, if_pos q]⟩
    rcases plb_join.mp h with h0 | ⟨h1, h2⟩ | ⟨h1, h2⟩
    · obtain ⟨f1, f2⟩ := ih h0 hne
      have e1 : tfx A B (k + 1) s t = tfx A B k s t := by rw [tfx_s, if_pos h0]
      have e2 : tds A B (k + 1) s t = tds A B k s t := by rw [tds_s, if_pos h0]
      rw [e1, e2]
      refine ⟨by omega, ?_⟩
      rcases f2 with ⟨g1, g2⟩ | ⟨g1, g2⟩
      · exact Or.inl ⟨g1, by rw [(keep _ f1 t).2 (by rw [← ends _ f1, g1]; exact h0)]; exact g2⟩
      · exact Or.inr ⟨g1, by rw [(keep _ f1 t).1 (by rw [ends _ f1, g1]; exact h0)]; exact g2⟩
    · have hst : ¬ plb A B k s = plb A B k t := by rw [h1, h2]; exact hk0
      rw [tfx_A hst h1 h2, tds_A hst h1 h2]
      by_cases hs : s = A k
      · rw [if_pos hs]
        refine ⟨by omega, Or.inl ⟨hs.symm, ?_⟩⟩
        rw [tds_s, if_pos h2.symm, hs, tds_0]
        omega
      · rw [if_neg hs]
        obtain ⟨f1, f2⟩ := ih h1 hs
        refine ⟨by omega, ?_⟩
        rcases f2 with ⟨g1, g2⟩ | ⟨g1, g2⟩
        · have hb : plb A B k (B (tfx A B k s (A k))) = plb A B k (A k) := by rw [← ends _ f1, g1]; exact h1
          refine Or.inl ⟨g1, ?_⟩
          rw [tds_A (by rw [hb, h2]; exact hk0) hb h2]
          omega
        · have hb : plb A B k (A (tfx A B k s (A k))) = plb A B k (A k) := by rw [ends _ f1, g1]; exact h1
          refine Or.inr ⟨g1, ?_⟩
          rw [tds_A (by rw [hb, h2]; exact hk0) hb h2]
          omega
    · rw [tfx_B hk0 h1 h2, tds_B hk0 h1 h2]
      by_cases hs : s = B k
      · rw [if_pos hs]
        refine ⟨by omega, Or.inr ⟨hs.symm, ?_⟩⟩
        rw [tds_s, if_pos h2.symm, hs, tds_0]
        omega
      · rw [if_neg hs]
        obtain ⟨f1, f2⟩ := ih h1 hs
        refine ⟨by omega, ?_⟩
        rcases f2 with ⟨g1, g2⟩ | ⟨g1, g2⟩
        · have hb : plb A B k (B (tfx A B k s (B k))) = plb A B k (B k) := by rw [← ends _ f1, g1]; exact h1
          refine Or.inl ⟨g1, ?_⟩
          rw [tds_B hk0 hb h2]
          omega
        · have hb : plb A B k (A (tfx A B k s (B k))) = plb A B k (B k) := by rw [ends _ f1, g1]; exact h1
          refine Or.inr ⟨g1, ?_⟩
          rw [tds_B hk0 hb h2]
          omega
theorem plb_ends {k e : Nat} (he : e < k) : plb A B k (A e) = plb A B k (B e) := by
  have h1 : plb A B (e + 1) (A e) = plb A B (e + 1) (B e) := plb_join.mpr (Or.inr (Or.inl ⟨rfl, rfl⟩))
  have step : ∀ j, plb A B (e + 1 + j) (A e) = plb A B (e + 1 + j) (B e) := by
    intro j
    induction j with
    | zero => exact h1
    | succ j ihj => exact plb_join.mpr (Or.inl ihj)
  have := step (k - (e + 1))
  rw [show e + 1 + (k - (e + 1)) = k by omega] at this
  exact this
/-- of a stretch's two ends one is nearer by one, and from the other one the stretch is the first -/
theorem tds_end {k : Nat} (hk : tOK A B k) (h9 : k ≤ 90) : ∀ {e t : Nat}, e < k → plb A B k (A e) = plb A B k t → (tds A B k (A e) t = tds A B k (B e) t + 1 ∧ tfx A B k (A e) t = e ∧ tfx A B k (B e) t ≠ e) ∨ (tds A B k (B e) t = tds A B k (A e) t + 1 ∧ tfx A B k (B e) t = e ∧ tfx A B k (A e) t ≠ e) := by
  induction k with
  | zero => intro e t he; omega
  | succ k ih =>
    intro e t he h
    have ih := @ih (hk.lt (by omega)) (by omega)
    have hk0 := hk k (by omega)
    by_cases hek : e = k
    · subst hek
      rcases plb_join.mp h with h0 | ⟨h1, h2⟩ | ⟨h1, h2⟩
      · -- t beside A
        right
        have hb : ¬ plb A B e (B e) = plb A B e t := by rw [← h0]; exact hk0.symm
        refine ⟨?_, ?_, ?_⟩
        · rw [tds_B hk0 rfl h0.symm, tds_0, tds_s, if_pos h0]; omega
        · rw [tfx_B hk0 rfl h0.symm, if_pos rfl]
        · rw [tfx_s, if_pos h0]
          rcases tfx_le (A := A) (B := B) e (A e) t with q | q
          · omega
          · rw [q]; omega
      · left
        refine ⟨?_, ?_, ?_⟩
        · rw [tds_A (by rw [h2]; exact hk0) rfl h2, tds_0, tds_s, if_pos h2.symm]; omega
        · rw [tfx_A (by rw [h2]; exact hk0) rfl h2, if_pos rfl]
        · rw [tfx_s, if_pos h2.symm]
          rcases tfx_le (A := A) (B := B) e (B e) t with q | q
          · omega
          · rw [q]; omega
      · exact absurd h1 hk0
    · have hlt : e < k := by omega
      have hends := plb_ends (A := A) (B := B) hlt
      rcases plb_join.mp h with h0 | ⟨h1, h2⟩ | ⟨h1, h2⟩
      · rw [tds_s, if_pos h0, tds_s, if_pos (hends.symm.trans h0), tfx_s, if_pos h0, tfx_s, if_pos (hends.symm.trans h0)]
        exact ih hlt h0
      · have hb := hends.symm.trans h1
        have n1 : ¬ plb A B k (A e) = plb A B k t := by rw [h1, h2]; exact hk0
        have n2 : ¬ plb A B k (B e) = plb A B k t := by rw [hb, h2]; exact hk0
        rw [tds_A n1 h1 h2, tds_A n2 hb h2, tfx_A n1 h1 h2, tfx_A n2 hb h2]
        rcases ih hlt h1 with ⟨g1, g2, g3⟩ | ⟨g1, g2, g3⟩
        · left
          have hne : ¬ A e = A k := by intro q; rw [q, tds_0] at g1; omega
          refine ⟨by omega, by rw [if_neg hne]; exact g2, ?_⟩
          split
          · omega
          · exact g3
        · right
          have hne : ¬ B e = A k := by intro q; rw [q, tds_0] at g1; omega
          refine ⟨by omega, by rw [if_neg hne]; exact g2, ?_⟩
          split
          · omega
          · exact g3
      · have hb := hends.symm.trans h1
        rw [tds_B hk0 h1 h2, tds_B hk0 hb h2, tfx_B hk0 h1 h2, tfx_B hk0 hb h2]
        rcases ih hlt h1 with ⟨g1, g2, g3⟩ | ⟨g1, g2, g3⟩
        · left
          have hne : ¬ A e = B k := by intro q; rw [q, tds_0] at g1; omega
          refine ⟨by omega, by rw [if_neg hne]; exact g2, ?_⟩
          split
          · omega
          · exact g3
        · right
          have hne : ¬ B e = B k := by intro q; rw [q, tds_0] at g1; omega
          refine ⟨by omega, by rw [if_neg hne]; exact g2, ?_⟩
          split
          · omega
          · exact g3
theorem cnt_two (p q r : Nat → Bool) (h1 : ∀ x, p x = true → r x = true) (h2 : ∀ x, q x = true → r x = true) (h3 : ∀ x, p x = true → q x = true → False) : ∀ l : List Nat, l.countP p + l.countP q ≤ l.countP r
  | [] => by simp
  | x :: l => by
    have ih := cnt_two p q r h1 h2 h3 l
    rw [List.countP_cons, List.countP_cons, List.countP_cons]
    cases hp : p x <;> cases hq : q x
    · simp; omega
    · simp [h2 x hq]; omega
    · simp [h1 x hp]; omega
    · exact absurd hq (fun z => h3 x hp z)
theorem cnt_pos {p : Nat → Bool} {n s : Nat} (hs : s < n) (hp : p s = true) : 1 ≤ (List.range n).countP p := by
  have := List.countP_pos_iff (p := p) (l := List.range n) |>.mpr ⟨s, List.mem_range.mpr hs, hp⟩
  omega
/-- a way is shorter than its tree has stations -/
theorem tds_cnt {n k : Nat} (hk : tOK A B k) (hn : ∀ e, e < k → A e < n ∧ B e < n) : ∀ {s t : Nat}, s < n → t < n → plb A B k s = plb A B k t → tds A B k s t + 1 ≤ tcn A B n k s := by
  induction k with
  | zero =>
    intro s t hs ht h
    have h : s = t := h
    subst h
    rw [tds_0]
    exact cnt_pos hs (by simp)
  | succ k ih =>
    intro s t hs ht h
    have ih := @ih (hk.lt (by omega)) (fun e he => hn e (by omega))
    have hk0 := hk k (by omega)
    obtain ⟨ha, hb⟩ := hn k (by omega)
    have mono : ∀ u, plb A B k u = plb A B k s → tcn A B n k u ≤ tcn A B n (k + 1) s := by
      intro u hu
      unfold tcn
      refine List.countP_mono_left (fun v _ hv => ?_)
      simp only [decide_eq_true_eq] at hv ⊢
      exact plb_join.mpr (Or.inl (hv.trans hu))
    have two : (plb A B k s = plb A B k (A k) ∨ plb A B k s = plb A B k (B k)) → tcn A B n k (A k) + tcn A B n k (B k) ≤ tcn A B n (k + 1) s := by
      intro hs2
      unfold tcn
      refine cnt_two _ _ _ (fun v hv => ?_) (fun v hv => ?_) (fun v h1 h2 => ?_) _
      · simp only [decide_eq_true_eq] at hv ⊢
        refine plb_join.mpr ?_
        rcases hs2 with q | q
        · exact Or.inl (hv.trans q.symm)
        · exact Or.inr (Or.inl ⟨hv, q⟩)
      · simp only [decide_eq_true_eq] at hv ⊢
        refine plb_join.mpr ?_
        rcases hs2 with q | q
        · exact Or.inr (Or.inr ⟨hv, q⟩)
        · exact Or.inl (hv.trans q.symm)
      · simp only [decide_eq_true_eq] at h1 h2
        exact hk0 (h1.symm.trans h2)
    have eqc : ∀ {u v : Nat}, plb A B k u = plb A B k v → tcn A B n k u = tcn A B n k v := by
      intro u v huv
      unfold tcn
      rw [huv]
    rcases plb_join.mp h with h0 | ⟨h1, h2⟩ | ⟨h1, h2⟩
    · rw [tds_s, if_pos h0]
      exact Nat.le_trans (ih hs ht h0) (mono s rfl)
    · rw [tds_A (by rw [h1, h2]; exact hk0) h1 h2]
      have q1 := ih hs ha h1
      have q2 := ih hb ht h2.symm
      have q3 := two (Or.inl h1)
      rw [eqc h1] at q1
      omega
    · rw [tds_B hk0 h1 h2]
      have q1 := ih hs hb h1
      have q2 := ih ha ht h2.symm
      have q3 := two (Or.inr h1)
      rw [eqc h1] at q1
      omega
theorem tcn_le (n k s : Nat) : tcn A B n k s ≤ n := by
  unfold tcn
  have := List.countP_le_length (p := fun v => decide (plb A B k v = plb A B k s)) (l := List.range n)
  rw [List.length_range] at this
  exact this
theorem tds_lt {n k : Nat} (hk : tOK A B k) (hn : ∀ e, e < k → A e < n ∧ B e < n) {s t : Nat} (hs : s < n) (ht : t < n) (h : plb A B k s = plb A B k t) : tds A B k s t < n := by
  have h1 := tds_cnt hk hn hs ht h
  have h2 := tcn_le (A := A) (B := B) n k s
  omega
theorem tds_no {k : Nat} : ∀ {s t : Nat}, ¬ plb A B k s = plb A B k t → tds A B k s t = 99 := by
  induction k with
  | zero => intro s t h; exact if_neg h
  | succ k ih =>
    intro s t h
    have h1 : ¬ plb A B k s = plb A B k t := fun q => h (plb_join.mpr (Or.inl q))
    rw [tds_s, if_neg h1, if_neg (fun q => h (plb_join.mpr (Or.inr (Or.inl q)))), if_neg (fun q => h (plb_join.mpr (Or.inr (Or.inr q))))]
/-- only the station itself is at 0 -/
theorem tds_eq0 {k : Nat} (hk : tOK A B k) {s t : Nat} (h : tds A B k s t = 0) : s = t := by
  by_cases hc : plb A B k s = plb A B k t
  · by_cases e : s = t
    · exact e
    · obtain ⟨-, h2⟩ := tfx_at hk hc e
      rcases h2 with ⟨-, q⟩ | ⟨-, q⟩ <;> omega
  · rw [tds_no hc] at h; cases h
/-- the way itself: the k-th station, the k-th stretch -/
def tnd (A B : Nat → Nat) (m : Nat) (t : Nat) : Nat → Nat → Nat
  | s, 0 => s
  | s, k + 1 => if s = t then s else tnd A B m t (if A (tfx A B m s t) = s then B (tfx A B m s t) else A (tfx A B m s t)) k
def tpe (A B : Nat → Nat) (m : Nat) (t s k : Nat) : Nat := tfx A B m (tnd A B m t s k) t
end TREE2
