/-! what stands at the law's entry (wip/gen/env.py) -/
section ENV
variable {s : State} {b : Nat}
theorem fl_of (h : (Jvm.Cond.and given_1 narrow_1).before #[Value.ref b] s = true) {w : Cond} (hw : w ∈ flatC (Jvm.Cond.and given_1 narrow_1)) : w.before #[Value.ref b] s = true := flat_of_before _ h w hw
theorem st_0 (hts : ∀ w ∈ lw_tbl, w.before #[Value.ref b] s = true) (h : (Jvm.Cond.and given_1 narrow_1).before #[Value.ref b] s = true) : ∃ t : Nat, va_Z "EightWays" (ewSn 0) "[I" (.ref t) (fun q => s.heap.size ≤ q) s s.heap ∧ va_T .int t (ewSl 0) (fun i => .int (ewSv 0 i)) (fun q => s.heap.size ≤ q) s s.heap := by
  have hA : ∀ a : Nat, a < s.heap.size → ¬ (fun q => s.heap.size ≤ q) a := fun a ha z => by
    have : s.heap.size ≤ a := z
    omega
  obtain ⟨t, ht, hT⟩ := va_Tof (args := #[Value.ref b]) (s := s) (tm := (Term.static "EightWays" "SHORTER" "[I")) (ty := .int) (N := 8) (f := fun i => .int (ewSv 0 i)) (A := fun q => s.heap.size ≤ q) (by decide) (fl_of h (by decide +kernel)) (Cond.eq_int (fl_of h (w := Cond.eq (Term.length (Term.static "EightWays" "SHORTER" "[I")) (.int 8)) (by decide +kernel)) rfl) (fun j hj => by match j, hj with | 0, _ => exact Cond.eq_int (fl_of h (w := Cond.eq (Term.elem (Term.static "EightWays" "SHORTER" "[I") (.int 0)) (.int 0)) (by decide +kernel)) rfl | 1, _ => exact Cond.eq_int (fl_of h (w := Cond.eq (Term.elem (Term.static "EightWays" "SHORTER" "[I") (.int 1)) (.int 1)) (by decide +kernel)) rfl | 2, _ => exact Cond.eq_int (fl_of h (w := Cond.eq (Term.elem (Term.static "EightWays" "SHORTER" "[I") (.int 2)) (.int 2)) (by decide +kernel)) rfl | 3, _ => exact Cond.eq_int (fl_of h (w := Cond.eq (Term.elem (Term.static "EightWays" "SHORTER" "[I") (.int 3)) (.int 3)) (by decide +kernel)) rfl | 4, _ => exact Cond.eq_int (fl_of h (w := Cond.eq (Term.elem (Term.static "EightWays" "SHORTER" "[I") (.int 4)) (.int 4)) (by decide +kernel)) rfl | 5, _ => exact Cond.eq_int (fl_of h (w := Cond.eq (Term.elem (Term.static "EightWays" "SHORTER" "[I") (.int 5)) (.int 3)) (by decide +kernel)) rfl | 6, _ => exact Cond.eq_int (fl_of h (w := Cond.eq (Term.elem (Term.static "EightWays" "SHORTER" "[I") (.int 6)) (.int 2)) (by decide +kernel)) rfl | 7, _ => exact Cond.eq_int (fl_of h (w := Cond.eq (Term.elem (Term.static "EightWays" "SHORTER" "[I") (.int 7)) (.int 1)) (by decide +kernel)) rfl | j + 8, h => exact absurd h (by omega)) hA
  exact ⟨t, va_Zof (hts _ (List.mem_append_right _ (List.mem_of_getElem? (i := 563) (by decide +kernel)))) (hts _ ewQ_i7) ht hA, hT⟩
theorem st_1 (hts : ∀ w ∈ lw_tbl, w.before #[Value.ref b] s = true) (h : (Jvm.Cond.and given_1 narrow_1).before #[Value.ref b] s = true) : ∃ t : Nat, va_Z "EightWays" (ewSn 1) "[I" (.ref t) (fun q => s.heap.size ≤ q) s s.heap ∧ va_T .int t (ewSl 1) (fun i => .int (ewSv 1 i)) (fun q => s.heap.size ≤ q) s s.heap := by
  have hA : ∀ a : Nat, a < s.heap.size → ¬ (fun q => s.heap.size ≤ q) a := fun a ha z => by
    have : s.heap.size ≤ a := z
    omega
  obtain ⟨t, ht, hT⟩ := va_Tof (args := #[Value.ref b]) (s := s) (tm := (Term.static "EightWays" "STEP_X" "[I")) (ty := .int) (N := 8) (f := fun i => .int (ewSv 1 i)) (A := fun q => s.heap.size ≤ q) (by decide) (fl_of h (by decide +kernel)) (Cond.eq_int (fl_of h (w := Cond.eq (Term.length (Term.static "EightWays" "STEP_X" "[I")) (.int 8)) (by decide +kernel)) rfl) (fun j hj => by match j, hj with | 0, _ => exact Cond.eq_int (fl_of h (w := Cond.eq (Term.elem (Term.static "EightWays" "STEP_X" "[I") (.int 0)) (.int 1)) (by decide +kernel)) rfl | 1, _ => exact Cond.eq_int (fl_of h (w := Cond.eq (Term.elem (Term.static "EightWays" "STEP_X" "[I") (.int 1)) (.int 1)) (by decide +kernel)) rfl | 2, _ => exact Cond.eq_int (fl_of h (w := Cond.eq (Term.elem (Term.static "EightWays" "STEP_X" "[I") (.int 2)) (.int 0)) (by decide +kernel)) rfl | 3, _ => exact Cond.eq_int (fl_of h (w := Cond.eq (Term.elem (Term.static "EightWays" "STEP_X" "[I") (.int 3)) (.int (-1))) (by decide +kernel)) rfl | 4, _ => exact Cond.eq_int (fl_of h (w := Cond.eq (Term.elem (Term.static "EightWays" "STEP_X" "[I") (.int 4)) (.int (-1))) (by decide +kernel)) rfl | 5, _ => exact Cond.eq_int (fl_of h (w := Cond.eq (Term.elem (Term.static "EightWays" "STEP_X" "[I") (.int 5)) (.int (-1))) (by decide +kernel)) rfl | 6, _ => exact Cond.eq_int (fl_of h (w := Cond.eq (Term.elem (Term.static "EightWays" "STEP_X" "[I") (.int 6)) (.int 0)) (by decide +kernel)) rfl | 7, _ => exact Cond.eq_int (fl_of h (w := Cond.eq (Term.elem (Term.static "EightWays" "STEP_X" "[I") (.int 7)) (.int 1)) (by decide +kernel)) rfl | j + 8, h => exact absurd h (by omega)) hA
  exact ⟨t, va_Zof (hts _ (List.mem_append_right _ (List.mem_of_getElem? (i := 608) (by decide +kernel)))) (hts _ ewQ_i7) ht hA, hT⟩
theorem st_2 (hts : ∀ w ∈ lw_tbl, w.before #[Value.ref b] s = true) (h : (Jvm.Cond.and given_1 narrow_1).before #[Value.ref b] s = true) : ∃ t : Nat, va_Z "EightWays" (ewSn 2) "[I" (.ref t) (fun q => s.heap.size ≤ q) s s.heap ∧ va_T .int t (ewSl 2) (fun i => .int (ewSv 2 i)) (fun q => s.heap.size ≤ q) s s.heap := by
  have hA : ∀ a : Nat, a < s.heap.size → ¬ (fun q => s.heap.size ≤ q) a := fun a ha z => by
    have : s.heap.size ≤ a := z
    omega
  obtain ⟨t, ht, hT⟩ := va_Tof (args := #[Value.ref b]) (s := s) (tm := (Term.static "EightWays" "STEP_Y" "[I")) (ty := .int) (N := 8) (f := fun i => .int (ewSv 2 i)) (A := fun q => s.heap.size ≤ q) (by decide) (fl_of h (by decide +kernel)) (Cond.eq_int (fl_of h (w := Cond.eq (Term.length (Term.static "EightWays" "STEP_Y" "[I")) (.int 8)) (by decide +kernel)) rfl) (fun j hj => by match j, hj with | 0, _ => exact Cond.eq_int (fl_of h (w := Cond.eq (Term.elem (Term.static "EightWays" "STEP_Y" "[I") (.int 0)) (.int 0)) (by decide +kernel)) rfl | 1, _ => exact Cond.eq_int (fl_of h (w := Cond.eq (Term.elem (Term.static "EightWays" "STEP_Y" "[I") (.int 1)) (.int 1)) (by decide +kernel)) rfl | 2, _ => exact Cond.eq_int (fl_of h (w := Cond.eq (Term.elem (Term.static "EightWays" "STEP_Y" "[I") (.int 2)) (.int 1)) (by decide +kernel)) rfl | 3, _ => exact Cond.eq_int (fl_of h (w := Cond.eq (Term.elem (Term.static "EightWays" "STEP_Y" "[I") (.int 3)) (.int 1)) (by decide +kernel)) rfl | 4, _ => exact Cond.eq_int (fl_of h (w := Cond.eq (Term.elem (Term.static "EightWays" "STEP_Y" "[I") (.int 4)) (.int 0)) (by decide +kernel)) rfl | 5, _ => exact Cond.eq_int (fl_of h (w := Cond.eq (Term.elem (Term.static "EightWays" "STEP_Y" "[I") (.int 5)) (.int (-1))) (by decide +kernel)) rfl | 6, _ => exact Cond.eq_int (fl_of h (w := Cond.eq (Term.elem (Term.static "EightWays" "STEP_Y" "[I") (.int 6)) (.int (-1))) (by decide +kernel)) rfl | 7, _ => exact Cond.eq_int (fl_of h (w := Cond.eq (Term.elem (Term.static "EightWays" "STEP_Y" "[I") (.int 7)) (.int (-1))) (by decide +kernel)) rfl | j + 8, h => exact absurd h (by omega)) hA
  exact ⟨t, va_Zof (hts _ (List.mem_append_right _ (List.mem_of_getElem? (i := 610) (by decide +kernel)))) (hts _ ewQ_i7) ht hA, hT⟩
theorem st_3 (hts : ∀ w ∈ lw_tbl, w.before #[Value.ref b] s = true) (h : (Jvm.Cond.and given_1 narrow_1).before #[Value.ref b] s = true) : ∃ t : Nat, va_Z "EightWays" (ewSn 3) "[I" (.ref t) (fun q => s.heap.size ≤ q) s s.heap ∧ va_T .int t (ewSl 3) (fun i => .int (ewSv 3 i)) (fun q => s.heap.size ≤ q) s s.heap := by
  have hA : ∀ a : Nat, a < s.heap.size → ¬ (fun q => s.heap.size ≤ q) a := fun a ha z => by
    have : s.heap.size ≤ a := z
    omega
  obtain ⟨t, ht, hT⟩ := va_Tof (args := #[Value.ref b]) (s := s) (tm := (Term.static "EightWays" "RANKS" "[I")) (ty := .int) (N := 18) (f := fun i => .int (ewSv 3 i)) (A := fun q => s.heap.size ≤ q) (by decide) (fl_of h (by decide +kernel)) (Cond.eq_int (fl_of h (w := Cond.eq (Term.length (Term.static "EightWays" "RANKS" "[I")) (.int 18)) (by decide +kernel)) rfl) (fun j hj => by match j, hj with | 0, _ => exact Cond.eq_int (fl_of h (w := Cond.eq (Term.elem (Term.static "EightWays" "RANKS" "[I") (.int 0)) (.int 0)) (by decide +kernel)) rfl | 1, _ => exact Cond.eq_int (fl_of h (w := Cond.eq (Term.elem (Term.static "EightWays" "RANKS" "[I") (.int 1)) (.int 1)) (by decide +kernel)) rfl | 2, _ => exact Cond.eq_int (fl_of h (w := Cond.eq (Term.elem (Term.static "EightWays" "RANKS" "[I") (.int 2)) (.int 2)) (by decide +kernel)) rfl | 3, _ => exact Cond.eq_int (fl_of h (w := Cond.eq (Term.elem (Term.static "EightWays" "RANKS" "[I") (.int 3)) (.int 0)) (by decide +kernel)) rfl | 4, _ => exact Cond.eq_int (fl_of h (w := Cond.eq (Term.elem (Term.static "EightWays" "RANKS" "[I") (.int 4)) (.int 2)) (by decide +kernel)) rfl | 5, _ => exact Cond.eq_int (fl_of h (w := Cond.eq (Term.elem (Term.static "EightWays" "RANKS" "[I") (.int 5)) (.int 1)) (by decide +kernel)) rfl | 6, _ => exact Cond.eq_int (fl_of h (w := Cond.eq (Term.elem (Term.static "EightWays" "RANKS" "[I") (.int 6)) (.int 1)) (by decide +kernel)) rfl | 7, _ => exact Cond.eq_int (fl_of h (w := Cond.eq (Term.elem (Term.static "EightWays" "RANKS" "[I") (.int 7)) (.int 0)) (by decide +kernel)) rfl | 8, _ => exact Cond.eq_int (fl_of h (w := Cond.eq (Term.elem (Term.static "EightWays" "RANKS" "[I") (.int 8)) (.int 2)) (by decide +kernel)) rfl | 9, _ => exact Cond.eq_int (fl_of h (w := Cond.eq (Term.elem (Term.static "EightWays" "RANKS" "[I") (.int 9)) (.int 1)) (by decide +kernel)) rfl | 10, _ => exact Cond.eq_int (fl_of h (w := Cond.eq (Term.elem (Term.static "EightWays" "RANKS" "[I") (.int 10)) (.int 2)) (by decide +kernel)) rfl | 11, _ => exact Cond.eq_int (fl_of h (w := Cond.eq (Term.elem (Term.static "EightWays" "RANKS" "[I") (.int 11)) (.int 0)) (by decide +kernel)) rfl | 12, _ => exact Cond.eq_int (fl_of h (w := Cond.eq (Term.elem (Term.static "EightWays" "RANKS" "[I") (.int 12)) (.int 2)) (by decide +kernel)) rfl | 13, _ => exact Cond.eq_int (fl_of h (w := Cond.eq (Term.elem (Term.static "EightWays" "RANKS" "[I") (.int 13)) (.int 0)) (by decide +kernel)) rfl | 14, _ => exact Cond.eq_int (fl_of h (w := Cond.eq (Term.elem (Term.static "EightWays" "RANKS" "[I") (.int 14)) (.int 1)) (by decide +kernel)) rfl | 15, _ => exact Cond.eq_int (fl_of h (w := Cond.eq (Term.elem (Term.static "EightWays" "RANKS" "[I") (.int 15)) (.int 2)) (by decide +kernel)) rfl | 16, _ => exact Cond.eq_int (fl_of h (w := Cond.eq (Term.elem (Term.static "EightWays" "RANKS" "[I") (.int 16)) (.int 1)) (by decide +kernel)) rfl | 17, _ => exact Cond.eq_int (fl_of h (w := Cond.eq (Term.elem (Term.static "EightWays" "RANKS" "[I") (.int 17)) (.int 0)) (by decide +kernel)) rfl | j + 18, h => exact absurd h (by omega)) hA
  exact ⟨t, va_Zof (hts _ (List.mem_append_right _ (List.mem_of_getElem? (i := 858) (by decide +kernel)))) (hts _ ewQ_i7) ht hA, hT⟩
theorem st_4 (hts : ∀ w ∈ lw_tbl, w.before #[Value.ref b] s = true) (h : (Jvm.Cond.and given_1 narrow_1).before #[Value.ref b] s = true) : ∃ t : Nat, va_Z "EightWays" (ewSn 4) "[I" (.ref t) (fun q => s.heap.size ≤ q) s s.heap ∧ va_T .int t (ewSl 4) (fun i => .int (ewSv 4 i)) (fun q => s.heap.size ≤ q) s s.heap := by
  have hA : ∀ a : Nat, a < s.heap.size → ¬ (fun q => s.heap.size ≤ q) a := fun a ha z => by
    have : s.heap.size ≤ a := z
    omega
  obtain ⟨t, ht, hT⟩ := va_Tof (args := #[Value.ref b]) (s := s) (tm := (Term.static "EightWays" "SIDES" "[I")) (ty := .int) (N := 6) (f := fun i => .int (ewSv 4 i)) (A := fun q => s.heap.size ≤ q) (by decide) (fl_of h (by decide +kernel)) (Cond.eq_int (fl_of h (w := Cond.eq (Term.length (Term.static "EightWays" "SIDES" "[I")) (.int 6)) (by decide +kernel)) rfl) (fun j hj => by match j, hj with | 0, _ => exact Cond.eq_int (fl_of h (w := Cond.eq (Term.elem (Term.static "EightWays" "SIDES" "[I") (.int 0)) (.int 7)) (by decide +kernel)) rfl | 1, _ => exact Cond.eq_int (fl_of h (w := Cond.eq (Term.elem (Term.static "EightWays" "SIDES" "[I") (.int 1)) (.int 3)) (by decide +kernel)) rfl | 2, _ => exact Cond.eq_int (fl_of h (w := Cond.eq (Term.elem (Term.static "EightWays" "SIDES" "[I") (.int 2)) (.int 6)) (by decide +kernel)) rfl | 3, _ => exact Cond.eq_int (fl_of h (w := Cond.eq (Term.elem (Term.static "EightWays" "SIDES" "[I") (.int 3)) (.int 4)) (by decide +kernel)) rfl | 4, _ => exact Cond.eq_int (fl_of h (w := Cond.eq (Term.elem (Term.static "EightWays" "SIDES" "[I") (.int 4)) (.int 1)) (by decide +kernel)) rfl | 5, _ => exact Cond.eq_int (fl_of h (w := Cond.eq (Term.elem (Term.static "EightWays" "SIDES" "[I") (.int 5)) (.int 0)) (by decide +kernel)) rfl | j + 6, h => exact absurd h (by omega)) hA
  exact ⟨t, va_Zof (hts _ (List.mem_append_right _ (List.mem_of_getElem? (i := 675) (by decide +kernel)))) (hts _ ewQ_i7) ht hA, hT⟩
theorem st_5 (hts : ∀ w ∈ lw_tbl, w.before #[Value.ref b] s = true) (h : (Jvm.Cond.and given_1 narrow_1).before #[Value.ref b] s = true) : ∃ t : Nat, va_Z "EightWays" (ewSn 5) "[I" (.ref t) (fun q => s.heap.size ≤ q) s s.heap ∧ va_T .int t (ewSl 5) (fun i => .int (ewSv 5 i)) (fun q => s.heap.size ≤ q) s s.heap := by
  have hA : ∀ a : Nat, a < s.heap.size → ¬ (fun q => s.heap.size ≤ q) a := fun a ha z => by
    have : s.heap.size ≤ a := z
    omega
  obtain ⟨t, ht, hT⟩ := va_Tof (args := #[Value.ref b]) (s := s) (tm := (Term.static "EightWays" "BITS_IN" "[I")) (ty := .int) (N := 8) (f := fun i => .int (ewSv 5 i)) (A := fun q => s.heap.size ≤ q) (by decide) (fl_of h (by decide +kernel)) (Cond.eq_int (fl_of h (w := Cond.eq (Term.length (Term.static "EightWays" "BITS_IN" "[I")) (.int 8)) (by decide +kernel)) rfl) (fun j hj => by match j, hj with | 0, _ => exact Cond.eq_int (fl_of h (w := Cond.eq (Term.elem (Term.static "EightWays" "BITS_IN" "[I") (.int 0)) (.int 0)) (by decide +kernel)) rfl | 1, _ => exact Cond.eq_int (fl_of h (w := Cond.eq (Term.elem (Term.static "EightWays" "BITS_IN" "[I") (.int 1)) (.int 1)) (by decide +kernel)) rfl | 2, _ => exact Cond.eq_int (fl_of h (w := Cond.eq (Term.elem (Term.static "EightWays" "BITS_IN" "[I") (.int 2)) (.int 1)) (by decide +kernel)) rfl | 3, _ => exact Cond.eq_int (fl_of h (w := Cond.eq (Term.elem (Term.static "EightWays" "BITS_IN" "[I") (.int 3)) (.int 2)) (by decide +kernel)) rfl | 4, _ => exact Cond.eq_int (fl_of h (w := Cond.eq (Term.elem (Term.static "EightWays" "BITS_IN" "[I") (.int 4)) (.int 1)) (by decide +kernel)) rfl | 5, _ => exact Cond.eq_int (fl_of h (w := Cond.eq (Term.elem (Term.static "EightWays" "BITS_IN" "[I") (.int 5)) (.int 2)) (by decide +kernel)) rfl | 6, _ => exact Cond.eq_int (fl_of h (w := Cond.eq (Term.elem (Term.static "EightWays" "BITS_IN" "[I") (.int 6)) (.int 2)) (by decide +kernel)) rfl | 7, _ => exact Cond.eq_int (fl_of h (w := Cond.eq (Term.elem (Term.static "EightWays" "BITS_IN" "[I") (.int 7)) (.int 3)) (by decide +kernel)) rfl | j + 8, h => exact absurd h (by omega)) hA
  exact ⟨t, va_Zof (hts _ (List.mem_append_right _ (List.mem_of_getElem? (i := 669) (by decide +kernel)))) (hts _ ewQ_i7) ht hA, hT⟩
end ENV
/-- the nine classes -/
theorem env_K {s : State} {args : Array Value} (hts : ∀ w ∈ lw_tbl, w.before args s = true) : ∀ c : Nat, ∃ p : ClassId × (Nat → Nat), ∀ q : vw_C, ewCl[c]? = some q → u_Kn s q.1 q.2.1 q.2.2 p.1 p.2 := by
  have key : ∀ {C : String} {T : u_T} {N : Nat} {c : Nat}, ewCl[c]? = some (C, T, N) → (∃ (cC : ClassId) (iS : Nat → Nat), u_Kn s C T N cC iS) → ∃ p : ClassId × (Nat → Nat), ∀ q : vw_C, ewCl[c]? = some q → u_Kn s q.1 q.2.1 q.2.2 p.1 p.2 := by
    intro C T N c hc he
    obtain ⟨cC, iS, hk⟩ := he
    refine ⟨(cC, iS), fun q hq => ?_⟩
    cases Option.some.inj (hc.symm.trans hq)
    exact hk
  intro c
  match c with
  | 0 => exact key rfl (u_known hts ewi0 (hts _ ewQ_n0))
  | 1 => exact key rfl (u_known hts ewi1 (hts _ ewQ_n1))
  | 2 => exact key rfl (u_known hts ewi2 (hts _ ewQ_n2))
  | 3 => exact key rfl (u_known hts ewi3 (hts _ ewQ_n3))
  | 4 => exact key rfl (u_known hts ewi4 (hts _ ewQ_n4))
  | 5 => exact key rfl (u_known hts ewi5 (hts _ ewQ_n5))
  | 6 => exact key rfl (u_known hts ewi6 (hts _ ewQ_n6))
  | 7 => exact key rfl (u_known hts ewi7 (hts _ ewQ_n7))
  | 8 => exact key rfl (u_known hts ewi8 (hts _ ewQ_n8))
  | n + 9 => exact ⟨(0, fun _ => 0), fun q hq => by cases hq⟩
theorem env_start {s : State} {b L : Nat} {xs : Nat → Int32} (hts : ∀ w ∈ lw_tbl, w.before #[Value.ref b] s = true) (h : (Jvm.Cond.and given_1 narrow_1).before #[Value.ref b] s = true) (hX : va_X b L xs s s.heap) (hb : b < s.heap.size) : ∃ (D : va_G) (c4 : ClassId × ClassId × ClassId × ClassId) (φ : Nat → Nat), ewE (L, xs) D c4 φ s.heap.size s s.heap ∧ (∀ k, k < 229 → φ k = s.heap.size + k) ∧ φ 300000 = b := by
  have hK := env_K hts
  obtain ⟨c1, k1, p1, f1, g1, e1⟩ := Cond.arrayClass_spec (hts _ ewQ_ci)
  obtain ⟨c2, k2, p2, f2, g2, e2⟩ := Cond.arrayClass_spec (hts _ ewQ_cz)
  obtain ⟨p3, c3, k3, f3, -, g3, e3, n3⟩ := Cond.arrayOver_spec (hts _ ewQ_os)
  obtain ⟨p4, c4, k4, f4, -, g4, e4, n4⟩ := arrayOverA_spec (hts _ ewQ_oa)
  obtain ⟨t0, z0⟩ := st_0 hts h
  obtain ⟨t1, z1⟩ := st_1 hts h
  obtain ⟨t2, z2⟩ := st_2 hts h
  obtain ⟨t3, z3⟩ := st_3 hts h
  obtain ⟨t4, z4⟩ := st_4 hts h
  obtain ⟨t5, z5⟩ := st_5 hts h
  refine ⟨(fun c => (Classical.choose (hK c)).1, fun c => (Classical.choose (hK c)).2), (c1, c2, c3, c4), fun k => if k < 229 then s.heap.size + k else if k = 300000 then b else if k = 200000 then t0 else if k = 200001 then t1 else if k = 200002 then t2 else if k = 200003 then t3 else if k = 200004 then t4 else t5, ⟨⟨fun c q hq => Classical.choose_spec (hK c) q hq, fun k q hq => ?_⟩, fun j hj => ?_, ⟨hX, hb⟩, Nat.le_refl _, fun w hw hn => ?_, va_AO.of (hts _ ewQ_os), ⟨p4, c4, k4, f4, g4, e4, n4⟩⟩, fun k hk => if_pos hk, rfl⟩
  · match k, hq with
    | 0, hq => cases hq; exact ⟨fun n z => ⟨(fun x hx => by cases hx), k1, g1, p1, e1⟩, f1⟩
    | 1, hq => cases hq; exact ⟨fun n z => ⟨(fun x hx => by cases hx), k2, g2, p2, e2⟩, f2⟩
    | 2, hq => cases hq; exact ⟨fun n z => ⟨(fun x hx => by cases hx), k3, g3, p3, e3⟩, k3, p3, g3, e3, f3, n3⟩
    | 3, hq => cases hq; exact ⟨fun n z => ⟨(fun x hx => by cases hx), k4, g4, p4, e4⟩, n4⟩
    | n + 4, hq => cases hq
  · match j, hj with
    | 0, _ => exact z0
    | 1, _ => exact z1
    | 2, _ => exact z2
    | 3, _ => exact z3
    | 4, _ => exact z4
    | 5, _ => exact z5
    | n + 6, h => exact absurd h (by omega)
  · cases w with
    | methodLinkNest => exact va_Nw.of rfl (hts _ hw)
    | fieldLinkNest => exact va_Nw.of rfl (hts _ hw)
    | _ => cases hn
