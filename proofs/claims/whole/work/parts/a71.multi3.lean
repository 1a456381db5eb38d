/-! int[][]: the rule -/
theorem ewP_ma {X : Nat × (Nat → Int32)} {M : ewMt} {d pc : Nat} {ls : eL} {st : List Value} {b : Nat × Nat} {S : eS} {Q : Option Value → eS → Prop} {idx N K : Nat} (hdec : decode M.1 pc = .ok (.multianewarray idx 2, 4)) (hl : Cond.classLink (ewOwn M.2.2.2.2.2.2) idx "[[I" ∈ lw_tbl) (hpos : 0 < S.1) (hk : kK S.1 = 12) (hL : kL S.1 = N)
    (hrow : ∀ i, i < N → kK (S.1 + 1 + i) = 9 ∧ kL (S.1 + 1 + i) = K ∧ S.2.2 (S.1 + 1 + i) = fun _ => 0) (hN : N ≤ 100) (hK : K ≤ 100) (h229 : S.1 + 1 + N ≤ 229) (hb1 : 1 + N ≤ b.1) (hb2 : N + N * K ≤ b.2)
    (k : ewP X M d (pc + 4) ls (.ref S.1 :: st) (b.1 - (1 + N), b.2 - (N + N * K)) (S.1 + 1 + N, ewS S.2.1 S.1 (fun j => S.1 + 1 + j), S.2.2) Q) : ewP X M d pc ls (.int (nI K) :: .int (nI N) :: st) b S Q := by
  intro D c4 φ B p l e R s m args below meth c Z hF hE hret Ls H locs a1 a2 a3 a4 a5 a6 a7
  obtain ⟨hx, hb, hml, -, hown, hts, -, -, hfr, hlo, hmc, hms⟩ := id hF
  have hA := a7 (by omega)
  refine ewW_size (fun hz => ?_)
  have hsz : H.size = B + S.1 := by
    have := (a1.1 (S.1 - 1) _ (ewWs_at (by omega))).lt
    have e : φ (S.1 - 1) = B + (S.1 - 1) := hA.2 _ (by omega)
    have h2 : φ (S.1 - 1) < H.size := this
    rw [e] at h2
    have := hA.1
    omega
  have hts' : ∀ w, w ∈ lw_tbl → goodWord w = true → w.before args s = true := fun w h1 h2 => hts w (ewGm h1 h2)
  refine mz_W hx hb hown (hts' _ hl rfl) hE.2.2.2.2.2.2 (hts' _ ewQ_ci rfl) hN hK (by omega) (by omega) hdec (fun cA comp H1 fA fC z1 o1 t1 r1 => ?_)
  have eA : c4.2.2.2 = cA := by
    have h3 : s.vm.findClass "[[I" = some c4.2.2.2 := (hE.1.2 3 (c4.2.2.2, .array .int) rfl).2
    exact Option.some.inj (h3.symm.trans fA)
  have eC : c4.1 = comp := by
    have h3 : s.vm.findClass "[I" = some c4.1 := (hE.1.2 0 (c4.1, .int) rfl).2
    exact Option.some.inj (h3.symm.trans fC)
  subst eA
  subst eC
  have hW : ewW D c4 φ B (S.1 + 1 + N, ewS S.2.1 S.1 (fun j => S.1 + 1 + j), S.2.2) H1 := by
    have at1 : ∀ (q : Nat) (y : Nat × va_E), (ewWs φ c4 (S.1 + 1 + N, ewS S.2.1 S.1 (fun j => S.1 + 1 + j), S.2.2))[q]? = some y → q < S.1 + 1 + N ∧ y = (B + q, ewEnt φ c4 (S.1 + 1 + N, ewS S.2.1 S.1 (fun j => S.1 + 1 + j), S.2.2) q) := by
      intro q y hy
      have hl : q < S.1 + 1 + N := by
        have := (List.getElem?_eq_some_iff.mp hy).1
        simp [ewWs] at this
        exact this
      rw [ewWs_at (S := (S.1 + 1 + N, ewS S.2.1 S.1 (fun j => S.1 + 1 + j), S.2.2)) hl, hA.2 q (by omega)] at hy
      exact ⟨hl, (Option.some.inj hy).symm⟩
    refine ⟨fun q y hy => ?_, ⟨fun i j x y hi hj hxy => ?_, fun q y hy => ?_⟩, h229⟩
    · obtain ⟨hq, rfl⟩ := at1 q y hy
      by_cases q1 : q < S.1
      · have old := a1.1 q _ (ewWs_at q1)
        rw [hA.2 q (by omega)] at old
        have e1 : ewEnt φ c4 (S.1 + 1 + N, ewS S.2.1 S.1 (fun j => S.1 + 1 + j), S.2.2) q = ewEnt φ c4 S q := ewEnt_h (ewS_ne _ _ (by omega)) rfl
        rw [e1]
        exact old.kept (o1 _ (by omega))
      · by_cases q2 : q = S.1
        · subst q2
          rw [ewEnt_12 hk]
          show H1[B + S.1]? = some (vp_cell _ _)
          rw [← hsz, t1, vp_cell_q, hL]
          refine congrArg some (arrV_cg (fun j hj => ?_))
          show Value.ref (H.size + 1 + j) = va_rf (ewRo φ (ewS S.2.1 S.1 (fun j => S.1 + 1 + j) S.1 j))
          rw [ewS_self]
          unfold ewRo
          rw [if_neg (by omega), hA.2 _ (by omega), hsz]
          show Value.ref (B + S.1 + 1 + j) = Value.ref (B + (S.1 + 1 + j))
          rw [show B + (S.1 + 1 + j) = B + S.1 + 1 + j by omega]
        · obtain ⟨i, rfl⟩ : ∃ i, q = S.1 + 1 + i := ⟨q - (S.1 + 1), by omega⟩
          obtain ⟨r9, rL, r0⟩ := hrow i (by omega)
          rw [ewEnt_9 r9]
          show H1[B + (S.1 + 1 + i)]? = some (vp_cell _ _)
          rw [show B + (S.1 + 1 + i) = H.size + 1 + i by omega, r1 i (by omega), vp_cell_i, rL]
          refine congrArg some (arrV_cg (fun j hj => ?_))
          show Value.int 0 = Value.int (S.2.2 (S.1 + 1 + i) j)
          rw [r0]
    · obtain ⟨h1, rfl⟩ := at1 i x hi
      obtain ⟨h2, rfl⟩ := at1 j y hj
      have : B + i = B + j := hxy
      omega
    · obtain ⟨h1, rfl⟩ := at1 q y hy
      show B ≤ B + q
      omega
  have hS : va_S (fun q => B ≤ q) s.heap H1 locs := ⟨by have := a2.1; omega, fun q h1 h2 => (o1 q (Nat.lt_of_lt_of_le h1 a2.1)).trans (a2.2.1 q h1 h2), a2.2.2⟩
  have fin := k D c4 φ B p l e R s m args below meth c Z hF hE hret Ls H1 locs hW hS a3 a4 (by show b.1 - (1 + N) ≤ _; omega) (by show b.2 - (N + N * K) ≤ _; omega) (fun _ => ⟨by show s.heap.size + (M.2.2.2.2.1 - (b.1 - (1 + N))) = B + (S.1 + 1 + N); have := hA.1; omega, hA.2⟩)
  have eq : φ S.1 = H.size := by rw [hA.2 _ (by omega), hsz]
  rw [← eq]
  refine W.cs (show _ = M.2.2.2.2.1 - (b.1 - (1 + N), b.2 - (N + N * K)).1 by show _ = M.2.2.2.2.1 - (b.1 - (1 + N)); omega) (show _ = M.2.2.2.2.2.1 - (b.1 - (1 + N), b.2 - (N + N * K)).2 by show _ = M.2.2.2.2.2.1 - (b.2 - (N + N * K)); omega) fin
