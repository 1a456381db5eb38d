/-! the reference's calls: crossings -/
section CALLS7
variable {h w : Nat → Nat → Int32} {G : Nat → Nat → Int32} {tn : Nat} {tx : Nat → Int32} {fp wy : Int32} {n m : Nat} {A B : Nat → Nat} {k : Nat} {F T : Nat → Nat} {c : Nat → Int32} {u : Nat} {S : Nat → Nat → Int32} {g : Nat → Bool} {I : Nat → Nat → Int32}
theorem t_Mo_crossings {X : Nat × (Nat → Int32)} {d : Nat} {cu sp n1 n2 n3 n4 : Nat} (a : mI h G tn tx fp wy n m A B k F T c u S g I) (o : mSe c m) (x1 : Int32) : ewP X Mo_crossings (d + 6) 0 [some (.ref 194), some (.int x1), none, none, none, none] [] (0, 0) (229, ewR cu sp n1 n2 n3 n4, h) (fun v S' => ∃ (h' : Nat → Nat → Int32) (y : Int32), v = some (.int y) ∧ S' = (229, ewR cu sp n1 n2 n3 n4, h') ∧ mI h' G tn tx fp wy n m A B k F T c u S g I ∧
    ((¬ (∃ s, s < n ∧ x1 = nI s) ∧ y = -1000000001) ∨ ∃ s, s < n ∧ x1 = nI s ∧ y = (if (pBp c m A B k F T).2.1 = 1000000 then -1 else nI (sm (fun p => if pq1 p < k then pcx m A B k F T (pBp c m A B k F T).2.2 (pBo n m A B k F T (pBp c m A B k F T).2.2).2 s (pq0 p) (pq1 p) else 0) 3)))) := by
  have i1 := isStation_n a x1
  have hk3 := a.2.2.1.2.2.1
  have h8 := a.2.2.1.1.2.1
  obtain ⟨p1, p2⟩ := a.p o
  refine v_Mo_crossings_0 x1 h (fun _ => p1) (fun q1 w6 hw6 => ?_) (fun q => ⟨h, _, rfl, rfl, a, Or.inl ⟨fun z => q (i1.mpr z), rfl⟩⟩)
  refine ⟨(mLp.at p1 hw6).2.2.2.2.2.1, fun w9 hw9 => ?_⟩
  obtain ⟨a9, neg, f1, f3⟩ := a.lo o hw6 hw9
  obtain ⟨s, hs, rfl⟩ := i1.mp q1
  have a4 := a9.2.2.1.2.2.1.1
  generalize hf : (fun p => if pq1 p < k then pcx m A B k F T (pBp c m A B k F T).2.2 (pBo n m A B k F T (pBp c m A B k F T).2.2).2 s (pq0 p) (pq1 p) else 0) = f
  refine upto (H := Int32) (P := fun p x => ¬ w9 194 32 < 0 → x = nI (sm f p)) (E := fun p x => ewP X Mo_crossings (d + 6) 24 [some (.ref 194), some (.int (nI s)), some (.int x), some (.int (nI p)), none, none] [] (0, 0) (229, ewR cu sp n1 n2 n3 n4, w9) _) 3 ?_ ?_ 0 0 (by omega) (fun _ => rfl)
  · intro p x hp hx next
    have hlt3 : nI p < 3 := (nI_ltb (b := 3) (by omega) (by omega)).mpr hp
    have e0 : (if nI p = 2 then (1 : Int32) else 0) = nI (pq0 p) := by
      have hh : ∀ p : Fin 3, (if nI p.1 = 2 then (1 : Int32) else 0) = nI (pq0 p.1) := by decide
      exact hh ⟨p, hp⟩
    have e1 : (if nI p = 0 then (1 : Int32) else 2) = nI (pq1 p) := by
      have hh : ∀ p : Fin 3, (if nI p.1 = 0 then (1 : Int32) else 2) = nI (pq1 p.1) := by decide
      exact hh ⟨p, hp⟩
    have q1b : pq1 p < 3 := by unfold pq1; split <;> omega
    have q01 : pq0 p < pq1 p := by unfold pq0 pq1; split <;> split <;> omega
    have km : nI (pq1 p) < w9 194 4 ↔ pq1 p < k := by rw [a4]; exact nI_ltb (by omega) (by omega)
    refine v_Mo_crossings_24 _ _ _ w9 (fun q => absurd hlt3 q) (fun _ q z => ?_) (fun _ => ?_)
    · rw [e0, e1] at *
      obtain ⟨x, y, v⟩ := f3 z
      have := km.mp q
      exact (cx_n a9.2.2.1 x f1 v hs (by omega) this).1
    · rw [e0, e1, ← nI_succ]
      refine next _ (fun z => ?_)
      rw [hx z, if_neg z]
      show _ = nI (sm f p + f p)
      rw [← nI_ad]
      congr 1
      rw [← hf]
      show _ = nI (if pq1 p < k then _ else 0)
      by_cases q : pq1 p < k
      · obtain ⟨x, y, v⟩ := f3 z
        rw [if_pos (km.mpr q), if_pos q, (cx_n a9.2.2.1 x f1 v hs (by omega) q).2]
      · rw [if_neg (fun y => q (km.mp y)), if_neg q]; rfl
  · intro x hx
    have hlt3 : ¬ nI 3 < 3 := by decide
    refine v_Mo_crossings_24 _ _ _ w9 (fun _ => ⟨w9, _, rfl, rfl, a9, Or.inr ⟨s, hs, rfl, ?_⟩⟩) (fun q => absurd q hlt3) (fun q => absurd q hlt3)
    by_cases q : w9 194 32 < 0
    · rw [if_pos q, if_pos (neg.mp q)]
    · rw [if_neg q, if_neg (fun z => q (neg.mpr z)), hx q, ← hf]
end CALLS7
