/-! fixedSet, scatter, start; references that change -/
theorem pfx_s (c : Nat → Int32) (e : Nat) : pfx c (e + 1) = pfx c e + (if ¬ (c (16 + e) < 0) then 2 ^ e else 0) := by
  show pfx c e + (if c (16 + e) < 0 then 0 else 2 ^ e) = _
  by_cases q : c (16 + e) < 0
  · rw [if_pos q, if_neg (fun z => z q)]
  · rw [if_neg q, if_pos q]
theorem pfx_m {c : Nat → Int32} {m : Nat} (hc : ∀ e, m ≤ e → e < 7 → c (16 + e) = -1) : ∀ k, m + k ≤ 7 → pfx c (m + k) = pfx c m
  | 0, _ => rfl
  | k + 1, h => by
    rw [show m + (k + 1) = (m + k) + 1 by omega, pfx_s, hc _ (by omega) (by omega), if_neg (by decide), Nat.add_zero]
    exact pfx_m hc k (by omega)
theorem fixedSet_n {X : Nat × (Nat → Int32)} {d : Nat} {Q : Option Value → eS → Prop} {cu sp n1 n2 n3 n4 : Nat} {n m : Nat} {c : Nat → Int32} (h : Nat → Nat → Int32) (s : cSt h 67 n c) (hm : m ≤ 7) (hS : mSe c m) (hc : ∀ e, m ≤ e → e < 7 → c (16 + e) = -1) (z9 : Q (some (.int (nI (pfx c m)))) (229, ewR cu sp n1 n2 n3 n4, h)) : ewP X Se_fixedSet (d + 0) 0 [some (.ref 67), none, none] [] (0, 0) (229, ewR cu sp n1 n2 n3 n4, h) Q := by
  refine v_Se_fixedSet_0 h ?_
  have e7 : pfx c 7 = pfx c m := by
    have := pfx_m hc (7 - m) (by omega)
    rw [show m + (7 - m) = 7 by omega] at this
    exact this
  refine upto (H := Int32) (P := fun e x => x = nI (pfx c e)) (E := fun e x => ewP X Se_fixedSet (d + 0) 4 [some (.ref 67), some (.int x), some (.int (nI e))] [] (0, 0) (229, ewR cu sp n1 n2 n3 n4, h) Q) 7 ?_ ?_ 0 0 (by omega) rfl
  · intro e x he hx next
    have hlt : nI e < 7 := (nI_ltb (b := 7) (by omega) (by omega)).mpr he
    refine v_Se_fixedSet_4 _ _ h (fun q => absurd hlt q) (fun _ => nI_inB he (by decide)) (fun _ => ?_)
    rw [← nI_succ]
    refine next _ ?_
    have e70 : h 70 e = c (16 + e) := s.2.2.2 e he
    rw [nI_clamp (by omega), e70, hx, pfx_s]
    have dich : c (16 + e) = -1 ∨ ∃ j : Nat, j < 8 ∧ c (16 + e) = nI j := by
      by_cases q : e < m
      · exact hS.2.2 e q
      · exact Or.inl (hc e (by omega) he)
    rcases dich with q | ⟨j, hj, q⟩
    · rw [q, if_pos rfl, if_neg (by decide), Nat.add_zero]
    · have n1 : ¬ c (16 + e) = -1 := by
        rw [q]
        intro z
        have := congrArg Int32.toInt z
        rw [nI_toInt (by omega), show (-1 : Int32).toInt = -1 by decide] at this
        omega
      rw [if_neg n1, or_n he (pfx_lt c e), if_pos (by rw [q]; exact nI_nlt (b := 0) (Nat.zero_le _) (by omega))]
  · intro x hx
    have hlt : ¬ nI 7 < 7 := by decide
    refine v_Se_fixedSet_4 _ _ h (fun _ => ?_) (fun q => absurd q hlt) (fun q => absurd q hlt)
    rw [hx, e7]; exact z9
/-- lots -/
def mSc (n : Nat) (c : Nat → Int32) (x : Int32) (h h' : Nat → Nat → Int32) : Prop := (∀ k, k ≠ 68 → k ≠ 69 → h' k = h k) ∧ cSt h' 67 n (pDc x.toInt64 c n)
theorem scatter_n {X : Nat × (Nat → Int32)} {d : Nat} {cu sp n1 n2 n3 n4 : Nat} {n : Nat} {c : Nat → Int32} (x : Int32) (h : Nat → Nat → Int32) (s : cSt h 67 n c) (h8 : n ≤ 8) : ewP X Se_scatter (d + 0) 0 [some (.ref 67), some (.int x), some (.int (nI n)), none, none, none] [] (0, 0) (229, ewR cu sp n1 n2 n3 n4, h) (fun v S' => ∃ (h' : Nat → Nat → Int32), mSc n c x h h' ∧ v = none ∧ S' = (229, ewR cu sp n1 n2 n3 n4, h')) := by
  refine v_Se_scatter_0 _ _ h ?_
  refine upto (H := Nat → Nat → Int32) (P := fun t w => (∀ k, k ≠ 68 → k ≠ 69 → w k = h k) ∧ cSt w 67 n (pDc x.toInt64 c t)) (E := fun t w => ewP X Se_scatter (d + 0) 6 [some (.ref 67), some (.int x), some (.int (nI n)), some (.long (pLt x.toInt64 t)), none, some (.int (nI t))] [] (0, 0) (229, ewR cu sp n1 n2 n3 n4, w) _) n ?_ ?_ 0 h (by omega) ⟨fun _ _ _ => rfl, s⟩
  · rintro t w ht ⟨w1, w2⟩ next
    have hlt : nI t < nI n := (nI_ltb (by omega) (by omega)).mpr ht
    have hlt8 : nI t < 8 := (nI_ltb (b := 8) (by omega) (by omega)).mpr (by omega)
    refine v_Se_scatter_6 _ _ _ _ w (fun q => absurd hlt q) (fun _ q => absurd hlt8 q) (fun _ _ => nI_inB (by omega) (by decide)) (fun _ _ => ?_)
    rw [← nI_succ, nI_clamp (by omega)]
    refine next _ ⟨fun k k1 k2 => ?_, ?_⟩
    · rw [ewS_ne _ _ k2, ewS_ne _ _ k1]; exact w1 k k1 k2
    · obtain ⟨s1, s2, s3, s4⟩ := w2
      have u : ∀ i, i < 8 → ∀ v1 v2 : Int32, upd (upd (pDc x.toInt64 c t) t v1) (8 + t) v2 i = (if i = t then v1 else pDc x.toInt64 c t i) ∧ upd (upd (pDc x.toInt64 c t) t v1) (8 + t) v2 (8 + i) = (if i = t then v2 else pDc x.toInt64 c t (8 + i)) := by
        intro i hi v1 v2
        refine ⟨?_, ?_⟩
        · show (if i = 8 + t then v2 else if i = t then v1 else _) = _
          rw [if_neg (by omega)]
        · show (if 8 + i = 8 + t then v2 else if 8 + i = t then v1 else _) = _
          by_cases q : i = t
          · rw [if_pos (by omega), if_pos q]
          · rw [if_neg (by omega), if_neg (by omega), if_neg q]
      refine ⟨?_, ?_, fun i hi => ⟨?_, ?_⟩, fun e he => ?_⟩
      · show w 67 0 = (if 23 = 8 + t then _ else if 23 = t then _ else _)
        rw [if_neg (by omega), if_neg (by omega)]; exact s1
      · show w 67 1 = (if 24 = 8 + t then _ else if 24 = t then _ else _)
        rw [if_neg (by omega), if_neg (by omega)]; exact s2
      · refine Eq.trans ?_ (u i (by omega) (lo0 (lo1 (pLt x.toInt64 t))) (lo0 (lo1 (lo1 (pLt x.toInt64 t))))).1.symm
        rw [← (s3 i hi).1]
        rfl
      · refine Eq.trans ?_ (u i (by omega) (lo0 (lo1 (pLt x.toInt64 t))) (lo0 (lo1 (lo1 (pLt x.toInt64 t))))).2.symm
        rw [← (s3 i hi).2]
        rfl
      · show w 70 e = (if 16 + e = 8 + t then _ else if 16 + e = t then _ else _)
        rw [if_neg (by omega), if_neg (by omega)]; exact s4 e he
  · rintro w ⟨w1, w2⟩
    have hlt : ¬ nI n < nI n := nI_nlt (Nat.le_refl _) (by omega)
    exact v_Se_scatter_6 _ _ _ _ w (fun _ => ⟨w, ⟨w1, w2⟩, rfl, rfl⟩) (fun q => absurd q hlt) (fun q => absurd q hlt) (fun q => absurd q hlt)
/-- start -/
theorem start_n {h : Nat → Nat → Int32} {n : Nat} {X Y : Nat → Nat} (hx : ∀ s, s < n → h 4 s = nI (X s) ∧ h 5 s = nI (Y s)) (h8 : n ≤ 8) : p_Se_start h ∧ (∀ k, ¬ (67 ≤ k ∧ k ≤ 70) → g_Se_start h k = h k) ∧ cSt (g_Se_start h) 67 n (pS0 X Y) := by
  refine ⟨⟨rfl, by decide⟩, fun k hk => ?_, rfl, rfl, fun s hs => ⟨?_, ?_⟩, fun e he => ?_⟩
  · unfold g_Se_start g_Ja_fill
    rw [ewS_ne _ _ (by omega), ewS_ne _ _ (by omega), ewS_ne _ _ (by omega), ewS_ne _ _ (by omega), ewS_ne _ _ (by omega)]
  · show va_cpy (h 4) (h 68) 0 0 8 s = pS0 X Y s
    unfold pS0
    rw [cpy_n _ _ (show s < 8 by omega), if_pos (by omega)]; exact (hx s hs).1
  · show va_cpy (h 5) (h 69) 0 0 8 s = pS0 X Y (8 + s)
    unfold pS0
    rw [cpy_n _ _ (show s < 8 by omega), if_neg (by omega), if_pos (by omega), show 8 + s - 8 = s by omega]; exact (hx s hs).2
  · show (if e < kL 70 then (-1 : Int32) else _) = pS0 X Y (16 + e)
    have : kL 70 = 7 := by decide
    unfold pS0
    rw [if_pos (by omega), if_neg (by omega), if_neg (by omega), if_pos (by omega)]
theorem startx_n {h : Nat → Nat → Int32} {n : Nat} {X Y : Nat → Nat} (hx : ∀ s, s < n → h 36 s = nI (X s) ∧ h 37 s = nI (Y s)) (h8 : n ≤ 8) : p_Se_startx h ∧ (∀ k, ¬ (67 ≤ k ∧ k ≤ 70) → g_Se_startx h k = h k) ∧ cSt (g_Se_startx h) 67 n (pS0 X Y) := by
  refine ⟨⟨rfl, by decide⟩, fun k hk => ?_, rfl, rfl, fun s hs => ⟨?_, ?_⟩, fun e he => ?_⟩
  · unfold g_Se_startx g_Ja_fill
    rw [ewS_ne _ _ (by omega), ewS_ne _ _ (by omega), ewS_ne _ _ (by omega), ewS_ne _ _ (by omega), ewS_ne _ _ (by omega)]
  · show va_cpy (h 36) (h 68) 0 0 8 s = pS0 X Y s
    unfold pS0
    rw [cpy_n _ _ (show s < 8 by omega), if_pos (by omega)]; exact (hx s hs).1
  · show va_cpy (h 37) (h 69) 0 0 8 s = pS0 X Y (8 + s)
    unfold pS0
    rw [cpy_n _ _ (show s < 8 by omega), if_neg (by omega), if_pos (by omega), show 8 + s - 8 = s by omega]; exact (hx s hs).2
  · show (if e < kL 70 then (-1 : Int32) else _) = pS0 X Y (16 + e)
    have : kL 70 = 7 := by decide
    unfold pS0
    rw [if_pos (by omega), if_neg (by omega), if_neg (by omega), if_pos (by omega)]
/-- references that change -/
theorem ewPr {X : Nat × (Nat → Int32)} {M : ewMt} {d pc : Nat} {ls : eL} {st : List Value} {b : Nat × Nat} {n : Nat} {r r' : Nat → Nat → Nat} {h : Nat → Nat → Int32} {Q : Option Value → eS → Prop} (e : r = r') (k : ewP X M d pc ls st b (n, r', h) Q) : ewP X M d pc ls st b (n, r, h) Q := by rw [e]; exact k
section REFS
variable (cu sp n1 n2 n3 n4 x : Nat)
theorem ewR_0_1 : ewS (ewR cu sp n1 n2 n3 n4) 0 (ewU ((ewR cu sp n1 n2 n3 n4) 0) 1 x) = ewR x sp n1 n2 n3 n4 := by
  funext k j
  unfold ewS ewR ewU
  by_cases q : k = 0
  · subst q; by_cases p : j = 1 <;> simp [p]
  · simp [q]
theorem ewR_0_2 : ewS (ewR cu sp n1 n2 n3 n4) 0 (ewU ((ewR cu sp n1 n2 n3 n4) 0) 2 x) = ewR cu x n1 n2 n3 n4 := by
  funext k j
  unfold ewS ewR ewU
  by_cases q : k = 0
  · subst q; by_cases p : j = 2
    · subst p; simp
    · simp [p]
  · simp [q]
theorem ewR_142_5 : ewS (ewR cu sp n1 n2 n3 n4) 142 (ewU ((ewR cu sp n1 n2 n3 n4) 142) 5 x) = ewR cu sp x n2 n3 n4 := by
  funext k j
  unfold ewS ewR ewU
  by_cases q : k = 142
  · subst q; by_cases p : j = 5 <;> simp [p]
  · simp [q]
theorem ewR_146_5 : ewS (ewR cu sp n1 n2 n3 n4) 146 (ewU ((ewR cu sp n1 n2 n3 n4) 146) 5 x) = ewR cu sp n1 x n3 n4 := by
  funext k j
  unfold ewS ewR ewU
  by_cases q : k = 146
  · subst q; by_cases p : j = 5 <;> simp [p]
  · simp [q]
theorem ewR_150_11 : ewS (ewR cu sp n1 n2 n3 n4) 150 (ewU ((ewR cu sp n1 n2 n3 n4) 150) 11 x) = ewR cu sp n1 n2 x n4 := by
  funext k j
  unfold ewS ewR ewU
  by_cases q : k = 150
  · subst q; by_cases p : j = 11 <;> simp [p]
  · simp [q]
theorem ewR_174_15 : ewS (ewR cu sp n1 n2 n3 n4) 174 (ewU ((ewR cu sp n1 n2 n3 n4) 174) 15 x) = ewR cu sp n1 n2 n3 x := by
  funext k j
  unfold ewS ewR ewU
  by_cases q : k = 174
  · subst q; by_cases p : j = 15 <;> simp [p]
  · simp [q]
end REFS
