/-! the reference: signs, layOrder -/
def f_Mo_signs (h : Nat → Nat → Int32) : Int32 := if h 194 39 < 0 then (-1) else nI (sm (fun s => if ¬ (f_Mo_signOf h (nI s) < 0) then 1 else 0) (gN h))
def p_Mo_signs (h : Nat → Nat → Int32) : Prop := (h 194 0 = nI (gN h) ∧ gN h ≤ 8) ∧ (h 194 1 = nI (gM h) ∧ gM h ≤ 7)
theorem s_Mo_signs {X : Nat × (Nat → Int32)} {d : Nat} {Q : Option Value → eS → Prop} {cu sp n1 n2 n3 n4 : Nat} (h : Nat → Nat → Int32) (hp : p_Mo_signs h) (z9 : Q (some (.int (f_Mo_signs h))) (229, (ewR cu sp n1 n2 n3 n4), h)) : ewP X Mo_signs (d + 2) 0 [some (.ref 194), none, none] [] (0, 0) (229, (ewR cu sp n1 n2 n3 n4), h) Q := by
  obtain ⟨hN, hM⟩ := hp
  refine v_Mo_signs_0 h ?_
  refine upto (H := Unit) (P := fun _ _ => True) (E := fun s _ => ewP X Mo_signs (d + 2) 4 [some (.ref 194), some (.int (nI (sm (fun s => if ¬ (f_Mo_signOf h (nI s) < 0) then 1 else 0) s))), some (.int (nI s))] [] (0, 0) (229, ewR cu sp n1 n2 n3 n4, h) Q) (gN h) ?_ ?_ 0 () (by omega) trivial
  · intro s _ hs _ next
    have next := next () trivial
    have hlt : nI s < h 194 0 := by rw [hN.1]; exact nI_lt hs (by omega)
    refine v_Mo_signs_4 _ _ h (fun q => absurd hlt q) (fun _ => ⟨hN, hM, nI_inB (by omega) (by decide)⟩) (fun _ => ?_)
    have e1 : (if ¬ (f_Mo_signOf h (nI s) < 0) then (1 : Int32) else 0) = nI (if ¬ (f_Mo_signOf h (nI s) < 0) then 1 else 0) := by split <;> rfl
    rw [e1, nI_ad, ← nI_succ]
    exact next
  · intro _ _
    have hlt : ¬ nI (gN h) < h 194 0 := by rw [hN.1]; exact nI_nlt (Nat.le_refl _) (by omega)
    exact v_Mo_signs_4 _ _ h (fun _ => z9) (fun q => absurd q hlt) (fun q => absurd q hlt)
/-- the orders of a set: how many; which one of those left comes i-th in the n-th order; what is left -/
def poN (s : Nat) : Nat := if pbc s = 3 then 6 else if pbc s = 2 then 2 else 1
def pki (s n i : Nat) : Nat := if i = 0 then (if pbc s = 3 then n / 2 else if pbc s = 2 then n else 0) else if i = 1 then (if pbc s = 3 then n % 2 else 0) else 0
def pos (s n : Nat) : Nat → Nat
  | 0 => s
  | i + 1 => pos s n i - 2 ^ ppk (pos s n i) 3 (pki s n i) 0
def pol (s n i : Nat) : Nat := ppk (pos s n i) 3 (pki s n i) 0
theorem pol_n {s n i : Nat} (hs : s < 8) (hn : n < poN s) (hi : i < pbc s) : pos s n i < 8 ∧ pki s n i < pbc (pos s n i) ∧ pol s n i < 3 ∧ nI (pos s n i) &&& (((1 : Int32) <<< ((nI (pol s n i) : Int32) &&& 31)) ^^^ (-1)) = nI (pos s n (i + 1)) := by
  have h : ∀ (s : Fin 8) (n : Fin 6) (i : Fin 3), n.1 < poN s.1 → i.1 < pbc s.1 → pos s.1 n.1 i.1 < 8 ∧ pki s.1 n.1 i.1 < pbc (pos s.1 n.1 i.1) ∧ pol s.1 n.1 i.1 < 3 ∧ nI (pos s.1 n.1 i.1) &&& (((1 : Int32) <<< ((nI (pol s.1 n.1 i.1) : Int32) &&& 31)) ^^^ (-1)) = nI (pos s.1 n.1 (i.1 + 1)) := by decide +kernel
  have h6 : poN s ≤ 6 := by unfold poN; split; omega; split <;> omega
  have h3 := pbc_le (s := s)
  exact h ⟨s, hs⟩ ⟨n, by omega⟩ ⟨i, by omega⟩ hn hi
def mLo (h : Nat → Nat → Int32) (x1 x2 : Int32) (h' : Nat → Nat → Int32) : Prop := (∀ k, k ≠ 222 → h' k = h k) ∧ ∀ e s n, e < 7 → s < 8 → n < poN s → x1 = nI e → x2 = nI n → h 221 e = nI s → (∀ j, ¬ (3 * e ≤ j ∧ j < 3 * e + 3) → h' 222 j = h 222 j) ∧ ∀ i, i < pbc s → h' 222 (3 * e + i) = nI (pol s n i)
def p_Mo_layOrder (h : Nat → Nat → Int32) (x1 x2 : Int32) : Prop := ∃ e s n, e < 7 ∧ s < 8 ∧ n < poN s ∧ x1 = nI e ∧ x2 = nI n ∧ h 221 e = nI s
theorem s_Mo_layOrder {X : Nat × (Nat → Int32)} {d : Nat} {cu sp n1 n2 n3 n4 : Nat} (x1 x2 : Int32) (h : Nat → Nat → Int32) (hp : p_Mo_layOrder h x1 x2) : ewP X Mo_layOrder (d + 1) 0 [some (.ref 194), some (.int x1), some (.int x2), none, none, none, none, none, none] [] (0, 0) (229, ewR cu sp n1 n2 n3 n4, h) (fun v S' => ∃ (h' : Nat → Nat → Int32), mLo h x1 x2 h' ∧ v = none ∧ S' = (229, ewR cu sp n1 n2 n3 n4, h')) := by
  obtain ⟨e, s, n, he, hs, hn, rfl, rfl, hl⟩ := hp
  have h6 : poN s ≤ 6 := by unfold poN; split; omega; split <;> omega
  have h3 := pbc_le (s := s)
  have ce : (nI e).toNatClampNeg = e := nI_clamp (by omega)
  have post : ∀ h' : Nat → Nat → Int32, (∀ k, k ≠ 222 → h' k = h k) → (∀ j, ¬ (3 * e ≤ j ∧ j < 3 * e + 3) → h' 222 j = h 222 j) → (∀ i, i < pbc s → h' 222 (3 * e + i) = nI (pol s n i)) → mLo h (nI e) (nI n) h' := by
    intro h' q1 q2 q3
    refine ⟨q1, fun e' s' n' he' hs' hn' ee en el => ?_⟩
    have h6' : poN s' ≤ 6 := by unfold poN; split; omega; split <;> omega
    have e1 : e = e' := (nI_eq (by omega) (by omega)).mp ee
    have e2 : n = n' := (nI_eq (by omega) (by omega)).mp en
    subst e1; subst e2
    have e3 : s = s' := (nI_eq (by omega) (by omega)).mp (hl.symm.trans el)
    subst e3
    exact ⟨q2, q3⟩
  refine v_Mo_layOrder_0 _ _ h (nI_inB he (by decide)) ?_
  rw [ce, hl, bits_n hs]
  have d2 : nI n / 2 = nI (n / 2) := nI_div (b := 2) (by omega) (by omega)
  have m2 : nI n - nI n / 2 * 2 = nI (n % 2) := nI_mod (b := 2) (by omega) (by omega)
  have b3 : (nI (pbc s) = 3) ↔ pbc s = 3 := nI_eq (b := 3) (by omega) (by omega)
  have b2 : (nI (pbc s) = 2) ↔ pbc s = 2 := nI_eq (b := 2) (by omega) (by omega)
  have fst : (if nI (pbc s) = 3 then nI n / 2 else if nI (pbc s) = 2 then nI n else 0) = nI (pki s n 0) := by
    unfold pki
    rw [if_pos rfl, d2]
    by_cases q : pbc s = 3
    · rw [if_pos q, if_pos (b3.mpr q)]
    · rw [if_neg q, if_neg (fun z => q (b3.mp z))]
      by_cases q2 : pbc s = 2
      · rw [if_pos q2, if_pos (b2.mpr q2)]
      · rw [if_neg q2, if_neg (fun z => q2 (b2.mp z))]; rfl
  rw [fst]
  refine upto (H := Nat → Nat → Int32) (P := fun i w => (∀ k, k ≠ 222 → w k = h k) ∧ (∀ j, ¬ (3 * e ≤ j ∧ j < 3 * e + 3) → w 222 j = h 222 j) ∧ ∀ j, j < i → w 222 (3 * e + j) = nI (pol s n j)) (E := fun i w => ewP X Mo_layOrder (d + 1) 41 [some (.ref 194), some (.int (nI e)), some (.int (nI n)), some (.int (nI (pos s n i))), some (.int (nI (pbc s))), some (.int (nI (pki s n 0))), some (.int (nI i)), none, none] [] (0, 0) (229, ewR cu sp n1 n2 n3 n4, w) _) (pbc s) ?_ ?_ 0 _ (by omega) ⟨fun _ _ => rfl, fun _ _ => rfl, fun j hj => by omega⟩
  · rintro i w hi ⟨w1, w2, w3⟩ next
    have hlt : nI i < nI (pbc s) := nI_lt hi (by omega)
    obtain ⟨p1, p2, p3, p4⟩ := pol_n hs hn hi
    have s1 : (3 : Int32) * nI e + nI i = nI (3 * e + i) := by rw [show (3 : Int32) * nI e = nI (3 * e) from nI_mu 3 e, nI_ad]
    have kk : (if nI i = 0 then nI (pki s n 0) else (if nI i = 1 then (if nI (pbc s) = 3 then (nI n - nI n / 2 * 2) else 0) else 0)) = nI (pki s n i) := by
      rw [m2]
      have z0 : (nI i = 0) ↔ i = 0 := nI_eq (b := 0) (by omega) (by omega)
      have z1 : (nI i = 1) ↔ i = 1 := nI_eq (b := 1) (by omega) (by omega)
      by_cases q : i = 0
      · rw [if_pos (z0.mpr q), q]
      · rw [if_neg (fun z => q (z0.mp z))]
        unfold pki
        rw [if_neg q]
        by_cases q1 : i = 1
        · rw [if_pos q1, if_pos (z1.mpr q1)]
          by_cases q3 : pbc s = 3
          · rw [if_pos q3, if_pos (b3.mpr q3)]
          · rw [if_neg q3, if_neg (fun z => q3 (b3.mp z))]; rfl
        · rw [if_neg q1, if_neg (fun z => q1 (z1.mp z))]; rfl
    have pk : f_Mo_pick w (nI (pos s n i)) (nI (pki s n i)) = nI (pol s n i) := by
      unfold f_Mo_pick pol
      have := pbc_le (s := pos s n i)
      rw [nI_clamp (by omega), nI_clamp (by omega)]
    refine v_Mo_layOrder_41 _ _ _ _ _ _ w (fun q => absurd hlt q) (fun _ => ?_) (fun _ => by rw [s1]; exact nI_inB (by omega) (by decide)) (fun _ => ?_)
    · rw [kk]; exact ⟨_, _, p1, p2, rfl, rfl⟩
    · rw [kk, pk, p4, s1, nI_clamp (by omega), ← nI_succ]
      refine next _ ⟨fun k hk => by rw [ewS_ne _ _ hk]; exact w1 k hk, fun j hj => ?_, fun j hj => ?_⟩
      · rw [ewS_self, upd, if_neg (by omega)]; exact w2 j hj
      · rw [ewS_self, upd]
        by_cases q : j = i
        · rw [if_pos (by omega), q]
        · rw [if_neg (by omega)]; exact w3 j (by omega)
  · rintro w ⟨w1, w2, w3⟩
    have hlt : ¬ nI (pbc s) < nI (pbc s) := nI_nlt (Nat.le_refl _) (by omega)
    exact v_Mo_layOrder_41 _ _ _ _ _ _ w (fun _ => ⟨w, post w w1 w2 w3, rfl, rfl⟩) (fun q => absurd q hlt) (fun q => absurd q hlt) (fun q => absurd q hlt)
