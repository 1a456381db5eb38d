/-! one call of both: net -/
theorem aSx_S0 {n m : Nat} {X Y : Nat → Nat} (h8 : n ≤ 8) (h7 : m ≤ 7) (hx : ∀ s, s < n → X s < 100 ∧ Y s < 100) : aSx n m (pS0 X Y) := by
  have h23 : pS0 X Y 23 = 0 := rfl
  have h24 : pS0 X Y 24 = 1 := rfl
  have hf : ∀ e, e < 7 → pS0 X Y (16 + e) = -1 := fun e he => by unfold pS0; rw [if_neg (by omega), if_neg (by omega), if_pos (by omega)]
  refine ⟨⟨⟨?_, ?_, fun e he => Or.inl (hf e (by omega))⟩, fun s hs => ⟨⟨X s, (hx s hs).1, ?_⟩, ⟨Y s, (hx s hs).2, ?_⟩⟩⟩, fun e _ he => hf e he⟩
  · rw [h23]; exact ⟨rfl, by decide⟩
  · rw [h24]; exact ⟨rfl, by decide⟩
  · unfold pS0; rw [if_pos (by omega)]
  · unfold pS0; rw [if_neg (by omega), if_pos (by omega), show 8 + s - 8 = s by omega]
section BOTH3
variable {X : Nat × (Nat → Int32)} {d : Nat} {r : Nat → Nat → Nat} {h : Nat → Nat → Int32}
theorem l_net (L : lwI r h) : lwB X d Ew_net Mo_net [some (.ref 0), none, none] [some (.ref 194), none] r h := by
  obtain ⟨n1, n2, n3, n4, a, rfl, hc, hm, ok⟩ := L
  refine ewP_m (fun v S' q => ?_) (t_Ew_net hc ok.1.1)
  obtain ⟨h', y, e1, q⟩ := q
  revert q
  cases ep : ppa a.1.2 a.1.1 241 ppS with
  | inl x =>
    rintro ⟨rfl, rfl, c1⟩
    refine ⟨_, h', _, e1, rfl, ewP_m (fun v S'' q => ?_) (t_Mo_net (d := d + 9) (mI.re hm (fun q hq => c1.1.2.2.2.2.2.2.2 q hq)) ok.1)⟩
    rw [ep] at q
    obtain ⟨h'', y2, e3, e4, rfl, c2⟩ := q
    exact ⟨h'', e3, e4, Or.inl ⟨n1, n2, n3, n4, ((0, a.1.2), (nI x.2.1, nI x.2.2), a.2.2), rfl, cI.re c1 (fun q hq => c2.2.1.2 q hq), mI.re c2 (fun _ _ => rfl), ⟨⟨Nat.zero_le 240, fun j hj => absurd hj (Nat.not_lt_zero j)⟩, ok.2⟩⟩⟩
  | inr z =>
    rintro ⟨rfl, rfl, ⟨wf, nm, z8, z7, z3⟩, fr, c1⟩
    refine ⟨_, h', _, e1, rfl, ewP_m (fun v S'' q => ?_) (t_Mo_net (d := d + 9) (mI.re hm fr) ok.1)⟩
    rw [ep] at q
    obtain ⟨h'', y2, e3, e4, rfl, -, -, c2⟩ := q
    refine ⟨h'', e3, e4, Or.inr ⟨n1, n2, n3, n4, rfl, ewPi n1, ewPi n2, ewPi n3, ewPi n4, ((0, a.1.2), (-1, 0), (z.2.1.1, z.2.2.1.1, z.2.2.1.2.1, z.2.2.1.2.2, z.2.2.2.1, z.2.2.2.2.1, z.2.2.2.2.2), pS0 z.2.1.2.1 z.2.1.2.2, (0, a.2.2.2.2.1.2), (fun _ => false), a.2.2.2.2.2.2), rfl, ?_, ?_, ?_⟩⟩
    · refine cI.re c1 (fun q hq => ?_)
      show h'' (ewPi q) = h' (ewPi q)
      refine c2.2.1.2 _ ?_
      unfold ewPi
      split
      · omega
      · split <;> omega
    · refine mI.re c2 (fun q hq => ?_)
      show h'' (ewPi q) = h'' q
      rw [ewPi_id (by omega)]
    · exact ⟨⟨Nat.zero_le 240, fun j hj => absurd hj (Nat.not_lt_zero j)⟩, aSx_S0 z8 z7 (fun s hs => wf.1 s hs), ⟨Nat.zero_le 16, fun j hj => absurd hj (Nat.not_lt_zero j)⟩, fun i hi hg => by cases hg⟩
end BOTH3
