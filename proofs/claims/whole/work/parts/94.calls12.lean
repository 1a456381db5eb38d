/-! the reference's calls: told -/
/-- how many stations have a sign -/
def pSc (n m : Nat) (A B dv : Nat → Nat) : Nat := sm (fun s => if ¬ (pSn n m A B dv s < 0) then 1 else 0) n
/-- what told answers -/
def aTo (tn n m : Nat) (A B : Nat → Nat) (k : Nat) (F T : Nat → Nat) (c : Nat → Int32) (u : Nat) (x : Int32) : Int32 :=
  if x = 0 then nI n else if x = 1 then nI m else if x = 2 then nI k else if x = 3 then nI tn else if x = 4 then c 23 else if x = 5 then c 24 else
  if x = 6 then pCs (pBp c m A B k F T) else
  if x = 7 then (if (pBp c m A B k F T).2.1 = 1000000 then -1 else nI (pbs (c 23).toNatClampNeg A B m (pBp c m A B k F T).2.2 k F T)) else
  if x = 8 then (if (pBp c m A B k F T).2.1 = 1000000 ∨ (pBl n m A B (pBp c m A B k F T).2.2).1 = 1000000 then -1 else nI (pBl n m A B (pBp c m A B k F T).2.2).1) else
  if x = 9 then (if (pBp c m A B k F T).2.1 = 1000000 then -1 else nI (pBo n m A B k F T (pBp c m A B k F T).2.2).1) else
  if x = 10 then nI (pfx c m) else
  if x = 11 then (if (pBp c m A B k F T).2.1 = 1000000 ∨ (pBl n m A B (pBp c m A B k F T).2.2).1 = 1000000 then -1 else nI (pSc n m A B (pBp c m A B k F T).2.2)) else
  if x = 12 then nI u else -1000000002
theorem pfx_cg {c c' : Nat → Int32} : ∀ m, (∀ e, e < m → c (16 + e) = c' (16 + e)) → pfx c m = pfx c' m
  | 0, _ => rfl
  | m + 1, h => by
    unfold pfx
    rw [pfx_cg m (fun e he => h e (by omega)), h m (by omega)]
section CALLS12
variable {h w : Nat → Nat → Int32} {G : Nat → Nat → Int32} {tn : Nat} {tx : Nat → Int32} {fp wy : Int32} {n m : Nat} {A B : Nat → Nat} {k : Nat} {F T : Nat → Nat} {c : Nat → Int32} {u : Nat} {S : Nat → Nat → Int32} {g : Nat → Bool} {I : Nat → Nat → Int32}
theorem t_Mo_told {X : Nat × (Nat → Int32)} {d : Nat} {cu sp n1 n2 n3 n4 : Nat} (a : mI h G tn tx fp wy n m A B k F T c u S g I) (o : mSe c m) (x1 : Int32) : ewP X Mo_told (d + 6) 0 [some (.ref 194), some (.int x1)] [] (0, 0) (229, ewR cu sp n1 n2 n3 n4, h) (fun v S' => ∃ (h' : Nat → Nat → Int32) (y : Int32), v = some (.int y) ∧ S' = (229, ewR cu sp n1 n2 n3 n4, h') ∧ mI h' G tn tx fp wy n m A B k F T c u S g I ∧ y = aTo tn n m A B k F T c u x1) := by
  obtain ⟨p1, p2⟩ := a.p o
  refine v_Mo_told_0 x1 h p1 (fun w4 h4 => ⟨(mLp.at p1 h4).2.2.2.2.2.2, fun w7 h9 => ?_⟩)
  obtain ⟨a7, neg, good, tr, ro, l1, l2⟩ := a.ll o h4 h9
  obtain ⟨n39, i39, e39⟩ := a.l39 o h4 h9
  have h7 := a.2.2.1.1.2.2.2.1
  have h8 := a.2.2.1.1.2.1
  obtain ⟨g1, g2, g3, g4, g5, g6, g7⟩ := a7.2.2.1.g
  have s1 := a7.2.2.1.1.1
  have s2 := a7.2.2.1.1.2.2.1
  have s3 := a7.2.2.1.2.2.1.1
  have dv8 := fun e => (pBp_8 (c := c) (m := m) (A := A) (B := B) (k := k) (F := F) (T := T) o e)
  have gv : ¬ w7 194 32 < 0 → gV w7 214 = (pBp c m A B k F T).2.2 := fun q => mDr.g (good q).2 g2 (fun e he => (dv8 e).2 he)
  have dr : ¬ w7 194 32 < 0 → mDr w7 214 (gM w7) (gV w7 214) := fun q => by rw [gv q, g2]; exact (good q).2
  have fin : ∀ y, y = aTo tn n m A B k F T c u x1 → ∃ (h' : Nat → Nat → Int32) (y' : Int32), some (Value.int y) = some (.int y') ∧ ((229, ewR cu sp n1 n2 n3 n4, w7) : eS) = (229, ewR cu sp n1 n2 n3 n4, h') ∧ mI h' G tn tx fp wy n m A B k F T c u S g I ∧ y' = aTo tn n m A B k F T c u x1 := fun y hy => ⟨w7, y, rfl, rfl, a7, hy⟩
  have c23 := a7.2.2.2.1 23 (by omega)
  have gw : gW w7 = (c 23).toNatClampNeg := by unfold gW; rw [c23]
  refine ⟨fun z => fin _ ?_, fun z => fin _ ?_, fun z => fin _ ?_, fun z => fin _ ?_, fun z => fin _ ?_, fun z => fin _ ?_, fun z => fin _ ?_, fun z q => ?_, fun z => fin _ ?_, fun z => fin _ ?_, fun z => ?_, fun z w9 y10 h10 => ?_, fun z => ?_, fun z => fin _ ?_, fun z => ?_, fun z => fin _ ?_, fun z => fin _ ?_, fun z => fin _ ?_⟩
  · rw [z]; exact s1
  · rw [z]; exact s2
  · rw [z]; exact s3
  · rw [z]; exact a7.1.1
  · rw [z]; exact c23
  · rw [z]; exact a7.2.2.2.1 24 (by omega)
  · rw [z]
    show w7 194 32 = pCs (pBp c m A B k F T)
    unfold pCs
    by_cases q : w7 194 32 < 0
    · rw [if_pos (neg.mp q)]
      have e32 : w7 194 32 = w4 194 32 := by
        obtain ⟨f0, -⟩ := h9
        exact f0.2 32 (by decide)
      rw [e32]
      exact h4.2.2.2.1 (by rw [p2]; exact neg.mp q)
    · rw [if_neg (fun y => q (neg.mpr y))]
      exact (good q).1
  · refine ⟨a7.2.2.1.N, dr q, ?_⟩
    rw [gw, c23]
    exact o.1
  · rw [z]
    show f_Mo_bestBends w7 = if (pBp c m A B k F T).2.1 = 1000000 then -1 else nI (pbs (c 23).toNatClampNeg A B m (pBp c m A B k F T).2.2 k F T)
    refine ite_cg neg (fun _ => rfl) (fun x => ?_)
    unfold f_Mo_bends
    rw [gw, g2, g3, g4, g5, g6, g7, gv (fun y => x (neg.mp y))]
  · rw [z]; exact e39
  · exact ⟨a7.2.2.1.N, dr⟩
  · obtain ⟨m1, m2⟩ := h10
    obtain ⟨f0, f1, f2, f3⟩ := m1
    refine ⟨w9, y10, rfl, rfl, a7.fr f0 (by decide) (by decide) (by decide) (by decide), ?_⟩
    rw [z, m2]
    show w9 194 46 = if (pBp c m A B k F T).2.1 = 1000000 then -1 else nI (pBo n m A B k F T (pBp c m A B k F T).2.2).1
    by_cases q : w7 194 32 < 0
    · rw [if_pos (neg.mp q)]; exact f2 q
    · rw [if_neg (fun y => q (neg.mpr y)), (f3 q).1]
      unfold gB2
      rw [g1, g2, g3, g4, g5, g6, g7, gv q]
  · exact ⟨by rw [g2]; exact s2, by rw [g2]; exact h7⟩
  · rw [z]
    show f_Mo_fixedOnes w7 = nI (pfx c m)
    unfold f_Mo_fixedOnes
    rw [g2, pfx_cg m (fun e he => a7.2.2.2.1 _ (by omega))]
  · exact ⟨⟨by rw [g1]; exact s1, by rw [g1]; exact h8⟩, by rw [g2]; exact s2, by rw [g2]; exact h7⟩
  · rw [z]
    show f_Mo_signs w7 = if (pBp c m A B k F T).2.1 = 1000000 ∨ (pBl n m A B (pBp c m A B k F T).2.2).1 = 1000000 then -1 else nI (pSc n m A B (pBp c m A B k F T).2.2)
    refine ite_cg n39 (fun _ => rfl) (fun x => ?_)
    have i32 := i39 (fun y => x (n39.mp y))
    unfold pSc
    rw [g1]
    congr 1
    refine sm_cg n (fun s hs => ?_)
    have e : f_Mo_signOf w7 (nI s) = pSn n m A B (pBp c m A B k F T).2.2 s := pSg_n a7.2.2.1.1 a7.2.2.1.2.1 (good i32).2 ro (fun s hs => (l2 i32).2 (fun y => x (Or.inr y)) s hs) hs 8 0 (by omega)
    rw [e]
  · rw [z]; exact a7.2.2.2.2.1.1
  · have o8 := i32_out 13 (by decide) z
    unfold aTo
    rw [if_neg (show ¬ x1 = 0 from o8 0 (by omega)), if_neg (show ¬ x1 = 1 from o8 1 (by omega)), if_neg (show ¬ x1 = 2 from o8 2 (by omega)), if_neg (show ¬ x1 = 3 from o8 3 (by omega)), if_neg (show ¬ x1 = 4 from o8 4 (by omega)), if_neg (show ¬ x1 = 5 from o8 5 (by omega)), if_neg (show ¬ x1 = 6 from o8 6 (by omega)), if_neg (show ¬ x1 = 7 from o8 7 (by omega)), if_neg (show ¬ x1 = 8 from o8 8 (by omega)), if_neg (show ¬ x1 = 9 from o8 9 (by omega)), if_neg (show ¬ x1 = 10 from o8 10 (by omega)), if_neg (show ¬ x1 = 11 from o8 11 (by omega)), if_neg (show ¬ x1 = 12 from o8 12 (by omega))]
end CALLS12
