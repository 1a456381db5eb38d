/-! the reference: behind the blanks -/
def g_Mo_here (h : Nat → Nat → Int32) : Nat → Nat → Int32 := ewS h 194 (upd (h 194) 15 (nI (psk (h 203) (h 194 12).toNatClampNeg (h 194 15).toNatClampNeg)))
def f_Mo_here (h : Nat → Nat → Int32) : Int32 := if psk (h 203) (h 194 12).toNatClampNeg (h 194 15).toNatClampNeg < (h 194 12).toNatClampNeg then h 203 (psk (h 203) (h 194 12).toNatClampNeg (h 194 15).toNatClampNeg) else -1
def p_Mo_here (h : Nat → Nat → Int32) : Prop := ∃ a n : Nat, h 194 15 = nI a ∧ h 194 12 = nI n ∧ a ≤ n ∧ n ≤ 240
theorem s_Mo_here {X : Nat × (Nat → Int32)} {d : Nat} {Q : Option Value → eS → Prop} {cu sp n1 n2 n3 n4 : Nat} (h : Nat → Nat → Int32) (hp : p_Mo_here h) (z9 : Q (some (.int (f_Mo_here h))) (229, ewR cu sp n1 n2 n3 n4, g_Mo_here h)) : ewP X Mo_here (d + 0) 0 [some (.ref 194)] [] (0, 0) (229, ewR cu sp n1 n2 n3 n4, h) Q := by
  obtain ⟨a, n, ha, hn, han, hn2⟩ := hp
  have key : ∀ (k a : Nat) (h : Nat → Nat → Int32), a + k = n → h 194 15 = nI a → h 194 12 = nI n → Q (some (.int (f_Mo_here h))) (229, ewR cu sp n1 n2 n3 n4, g_Mo_here h) → ewP X Mo_here (d + 0) 0 [some (.ref 194)] [] (0, 0) (229, ewR cu sp n1 n2 n3 n4, h) Q := by
    intro k
    induction k with
    | zero =>
      intro a h hk ha hn z
      have hlt : ¬ (h 194 15 < h 194 12) := by rw [ha, hn, nI_ltI (by omega) (by omega)]; omega
      have e1 : psk (h 203) (h 194 12).toNatClampNeg (h 194 15).toNatClampNeg = a := by rw [ha, hn, nI_clamp (by omega), nI_clamp (by omega)]; exact psk_at (by omega)
      have e2 : g_Mo_here h = h := by
        unfold g_Mo_here
        rw [e1, upd_id _ _ ha]
        exact ewS_id _ _ rfl
      have e3 : f_Mo_here h = -1 := by
        unfold f_Mo_here
        rw [e1, hn, nI_clamp (by omega), if_neg (by omega)]
      rw [e2, e3] at z
      exact v_Mo_here_0 h (fun _ => z) (fun q => absurd q hlt) (fun q => absurd q hlt) (fun q => absurd q hlt)
    | succ k ih =>
      intro a h hk ha hn z
      have hlt : h 194 15 < h 194 12 := by rw [ha, hn, nI_ltI (by omega) (by omega)]; omega
      have hin : vp_in (h 194 15) 240 := by rw [ha]; exact vp_in_nI (by omega) (by omega)
      have ca : (h 194 15).toNatClampNeg = a := by rw [ha, nI_clamp (by omega)]
      have cn : (h 194 12).toNatClampNeg = n := by rw [hn, nI_clamp (by omega)]
      refine v_Mo_here_0 h (fun q => absurd hlt q) (fun _ => hin) (fun _ hne => ?_) (fun _ heq => ?_)
      · rw [ca] at hne
        have e1 : psk (h 203) (h 194 12).toNatClampNeg (h 194 15).toNatClampNeg = a := by rw [ca, cn]; exact psk_at (fun q => hne q.2)
        have e2 : g_Mo_here h = h := by
          unfold g_Mo_here
          rw [e1, upd_id _ _ ha]
          exact ewS_id _ _ rfl
        have e3 : f_Mo_here h = h 203 ((h 194 15).toNatClampNeg) := by
          unfold f_Mo_here
          rw [e1, ca, cn, if_pos (by omega)]
        rw [e2, e3] at z
        exact z
      · rw [ca] at heq
        have e1 : psk (h 203) (h 194 12).toNatClampNeg (h 194 15).toNatClampNeg = psk (h 203) n (a + 1) := by rw [ca, cn]; exact psk_go (by omega) heq
        refine ih (a + 1) _ (by omega) ?_ ?_ ?_
        · simp [ewS, upd, ha, nI_1]
        · simp [ewS, upd, hn]
        · have e4 : psk ((ewS h 194 (upd (h 194) 15 (h 194 15 + 1))) 203) ((ewS h 194 (upd (h 194) 15 (h 194 15 + 1))) 194 12).toNatClampNeg ((ewS h 194 (upd (h 194) 15 (h 194 15 + 1))) 194 15).toNatClampNeg = psk (h 203) n (a + 1) := by
            have q1 : (ewS h 194 (upd (h 194) 15 (h 194 15 + 1))) 203 = h 203 := by simp [ewS]
            have q2 : (ewS h 194 (upd (h 194) 15 (h 194 15 + 1))) 194 12 = nI n := by simp [ewS, upd, hn]
            have q3 : (ewS h 194 (upd (h 194) 15 (h 194 15 + 1))) 194 15 = nI (a + 1) := by simp [ewS, upd, ha, nI_1]
            rw [q1, q2, q3, nI_clamp (by omega), nI_clamp (by omega)]
          have e2 : g_Mo_here (ewS h 194 (upd (h 194) 15 (h 194 15 + 1))) = g_Mo_here h := by
            unfold g_Mo_here
            rw [e4, e1, ewS_S, ewS_self, upd_S]
          have e3 : f_Mo_here (ewS h 194 (upd (h 194) 15 (h 194 15 + 1))) = f_Mo_here h := by
            unfold f_Mo_here
            rw [e4, e1]
            simp [ewS, upd]
          rw [e2, e3]
          exact z
  exact key (n - a) a h (by omega) ha hn z9
