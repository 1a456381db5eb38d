/-! SOUNDNESS: locals, constants, fields, arrays -/
section EWS2
variable {X : Nat × (Nat → Int32)} {D : va_G} {c4 : ClassId × ClassId × ClassId × ClassId} {φ : Nat → Nat} {B : Nat} {M : ewMt} {d : Nat}
variable {p : Program} {l : Launch} {e : Env} {R : Room} {s : State} {m : MethodId} {args : Array Value} {below : List Frame} {meth : Method} {c : Code} {Z : State → Prop}
variable {pc : Nat} {ls : eL} {st : List Value} {b : Nat × Nat} {S : eS}
theorem ewX_loc (hF : ewF M d p R s m args meth c) {ins : Instr} {len a bb cc : Nat} {v : Int32} (hdec : decode M.1 pc = .ok (ins, ewLn ins)) (hlk : ewLk M.2.2.2.2.2.2 (ins, len, a, bb, cc, v) = true)
    (h : ewX X (ins, len, a, bb, cc, v) ls st b S (ewAA X D c4 φ B M p l e R s m args below meth c Z (pc + ewLn ins)))
    (hin : (∃ n, ins = .iload_n n) ∨ (∃ n, ins = .iload n) ∨ (∃ n, ins = .lload_n n) ∨ (∃ n, ins = .lload n) ∨ (∃ n, ins = .aload_n n) ∨ (∃ n, ins = .istore_n n) ∨ (∃ n, ins = .istore n) ∨ (∃ n, ins = .astore_n n) ∨ (∃ n, ins = .lstore_n n) ∨ (∃ n w, ins = .iinc n w)) : ewA D c4 φ B M p l e R s m args below meth c Z pc ls st b S := by
  obtain ⟨hx, hb, -⟩ := hF
  rcases hin with ⟨n, rfl⟩ | ⟨n, rfl⟩ | ⟨n, rfl⟩ | ⟨n, rfl⟩ | ⟨n, rfl⟩ | ⟨n, rfl⟩ | ⟨n, rfl⟩ | ⟨n, rfl⟩ | ⟨n, rfl⟩ | ⟨n, w, rfl⟩
  · obtain ⟨x, hat, h⟩ := pLI_of h
    exact fun Ls H locs a1 a2 a3 a4 a5 a6 a7 => lv_iload_n hx hb hdec (Nat.eq_of_beq_eq_true hlk) (ewHas_at a3 hat) (h Ls H locs a1 a2 a3 a4 a5 a6 a7)
  · have e1 : n = a := Nat.eq_of_beq_eq_true hlk
    subst e1
    obtain ⟨x, hat, h⟩ := pLI_of h
    exact fun Ls H locs a1 a2 a3 a4 a5 a6 a7 => lv_iload hx hb hdec (ewHas_at a3 hat) (h Ls H locs a1 a2 a3 a4 a5 a6 a7)
  · obtain ⟨x, hat, h⟩ := pLL_of h
    exact fun Ls H locs a1 a2 a3 a4 a5 a6 a7 => lv_lload_n hx hb hdec (Nat.eq_of_beq_eq_true hlk) (ewHas_at a3 hat) (h Ls H locs a1 a2 a3 a4 a5 a6 a7)
  · have e1 : n = a := Nat.eq_of_beq_eq_true hlk
    subst e1
    obtain ⟨x, hat, h⟩ := pLL_of h
    exact fun Ls H locs a1 a2 a3 a4 a5 a6 a7 => lv_lload hx hb hdec (ewHas_at a3 hat) (h Ls H locs a1 a2 a3 a4 a5 a6 a7)
  · obtain ⟨x, hat, h⟩ := pLR_of h
    exact fun Ls H locs a1 a2 a3 a4 a5 a6 a7 => lv_aload_n hx hb hdec (Nat.eq_of_beq_eq_true hlk) (ewHas_at a3 hat) (h Ls H locs a1 a2 a3 a4 a5 a6 a7)
  · obtain ⟨x, r, rfl, h0, h⟩ := pI1_of h
    exact fun Ls H locs a1 a2 a3 a4 a5 a6 a7 => lv_istore_n hx hb hdec (Nat.eq_of_beq_eq_true hlk) a3 (by rw [← a4]; exact ewNL_lt _ _ h0) rfl (fun Ls' hl' => h Ls' H locs a1 a2 (ewHas_set (v := .int x) h0 hl') (by rw [ewLen_set]; exact a4) a5 a6 a7)
  · obtain ⟨x, r, rfl, h0, h⟩ := pI1_of h
    have e1 : n = a := Nat.eq_of_beq_eq_true hlk
    subst e1
    exact fun Ls H locs a1 a2 a3 a4 a5 a6 a7 => lv_istore hx hb hdec a3 (by rw [← a4]; exact ewNL_lt _ _ h0) rfl (fun Ls' hl' => h Ls' H locs a1 a2 (ewHas_set (v := .int x) h0 hl') (by rw [ewLen_set]; exact a4) a5 a6 a7)
  · obtain ⟨x, r, rfl, h0, h⟩ := pR1_of h
    exact fun Ls H locs a1 a2 a3 a4 a5 a6 a7 => lv_astore_n hx hb hdec (Nat.eq_of_beq_eq_true hlk) a3 (by rw [← a4]; exact ewNL_lt _ _ h0) rfl (fun Ls' hl' => h Ls' H locs a1 a2 (ewHas_set (v := .ref x) h0 hl') (by rw [ewLen_set]; exact a4) a5 a6 a7)
  · obtain ⟨x, r, rfl, h0, h⟩ := pL1_of h
    rw [Bool.and_eq_true] at h0
    have h1 : a + 1 < ls.length := Nat.le_of_ble_eq_true h0.2
    exact fun Ls H locs a1 a2 a3 a4 a5 a6 a7 => lv_lstore_n hx hb hdec (Nat.eq_of_beq_eq_true hlk) a3 (by rw [← a4]; exact h1) rfl (fun Ls' hl' => h Ls' H locs a1 a2 (ewHas_set2 (v := .long x) h1 h0.1 hl') (by rw [ewLen_set2]; exact a4) a5 a6 a7)
  · obtain ⟨x, hat, h⟩ := pLI_of h
    have h9 : (Nat.beq n a && decide (Int32.ofInt w = v)) = true := hlk
    rw [Bool.and_eq_true] at h9
    have e1 : n = a := Nat.eq_of_beq_eq_true h9.1
    have e2 : Int32.ofInt w = v := of_decide_eq_true h9.2
    subst e1
    intro Ls H locs a1 a2 a3 a4 a5 a6 a7
    obtain ⟨kk, hkk⟩ := List.getElem?_of_mem (ewAsc_at (φ := φ) hat)
    have hnl : ewNL ls n = true := by
      unfold ewNL
      rw [Bool.and_eq_true]
      refine ⟨Nat.ble_eq.mpr (ewAt_lt _ _ _ hat), ?_⟩
      cases n with
      | zero => rfl
      | succ j =>
        show (!ewLong (ewAt ls j)) = true
        cases hj : ewAt ls j with
        | none => rfl
        | some w9 =>
          have hc1 := a3.2.1.1 j _ (ewHas_at a3 hj)
          have hc2 := ewHas_at a3 hat
          cases w9 with
          | long z =>
            have := hc1 rfl
            rw [hc2] at this
            cases this
          | double z =>
            have := hc1 rfl
            rw [hc2] at this
            cases this
          | _ => rfl
    refine lv_iinc (v := x + v) hx hb hdec a3 hkk (by rw [e2]) (by rw [← a4]; exact ewAt_lt _ _ _ hat) rfl (fun Ls' hl' => ?_)
    exact h Ls' H locs a1 a2 (ewHas_set (v := .int (x + v)) hnl hl') (by rw [ewLen_set]; exact a4) a5 a6 a7
theorem ewX_con (hF : ewF M d p R s m args meth c) {ins : Instr} {len a bb cc : Nat} {v : Int32} (hdec : decode M.1 pc = .ok (ins, ewLn ins)) (hlk : ewLk M.2.2.2.2.2.2 (ins, len, a, bb, cc, v) = true)
    (h : ewX X (ins, len, a, bb, cc, v) ls st b S (ewAA X D c4 φ B M p l e R s m args below meth c Z (pc + ewLn ins)))
    (hin : (∃ n, ins = .iconst n) ∨ (∃ n, ins = .bipush n) ∨ (∃ n, ins = .sipush n) ∨ (∃ n, ins = .ldc n) ∨ (∃ n, ins = .ldc_w n) ∨ (∃ n, ins = .lconst n) ∨ (∃ n, ins = .ldc2_w n)) : ewA D c4 φ B M p l e R s m args below meth c Z pc ls st b S := by
  obtain ⟨hx, hb, -, -, hown, hts, -⟩ := hF
  rcases hin with ⟨n, rfl⟩ | ⟨n, rfl⟩ | ⟨n, rfl⟩ | ⟨n, rfl⟩ | ⟨n, rfl⟩ | ⟨n, rfl⟩ | ⟨n, rfl⟩
  · exact fun Ls H locs a1 a2 a3 a4 a5 a6 a7 => lv_iconst hx hb hdec (of_decide_eq_true hlk) (h Ls H locs a1 a2 a3 a4 a5 a6 a7)
  · exact fun Ls H locs a1 a2 a3 a4 a5 a6 a7 => lv_bipush hx hb hdec (of_decide_eq_true hlk) (h Ls H locs a1 a2 a3 a4 a5 a6 a7)
  · exact fun Ls H locs a1 a2 a3 a4 a5 a6 a7 => lv_sipush hx hb hdec (of_decide_eq_true hlk) (h Ls H locs a1 a2 a3 a4 a5 a6 a7)
  · exact fun Ls H locs a1 a2 a3 a4 a5 a6 a7 => lv_ldc hx hb hown (hts _ (ewGm (ewKI_ok _ (of_decide_eq_true hlk)) rfl)) hdec (h Ls H locs a1 a2 a3 a4 a5 a6 a7)
  · exact fun Ls H locs a1 a2 a3 a4 a5 a6 a7 => lv_ldcw hx hb hown (hts _ (ewGm (ewKI_ok _ (of_decide_eq_true hlk)) rfl)) hdec (h Ls H locs a1 a2 a3 a4 a5 a6 a7)
  · have e1 : n.val = a := Nat.eq_of_beq_eq_true hlk
    exact fun Ls H locs a1 a2 a3 a4 a5 a6 a7 => lv_lconst hx hb hdec (by rw [e1]) (h Ls H locs a1 a2 a3 a4 a5 a6 a7)
  · exact fun Ls H locs a1 a2 a3 a4 a5 a6 a7 => lv_ldc2 hx hb hown (hts _ (ewGm (ewKL_ok _ (of_decide_eq_true hlk)) rfl)) hdec (h Ls H locs a1 a2 a3 a4 a5 a6 a7)
theorem ewRo_ne {x : Nat} (h : Nat.beq x 100000 = false) : va_rf (ewRo φ x) = .ref (φ x) := by
  unfold ewRo
  rw [if_neg (fun e => by rw [e] at h; cases h)]
  rfl
theorem ewX_get (hF : ewF M d p R s m args meth c) (hE : ewE X D c4 φ B s s.heap) {n len a bb cc : Nat} {v : Int32} (hdec : decode M.1 pc = .ok (.getfield n, 3)) (hlk : ewLk M.2.2.2.2.2.2 (.getfield n, len, a, bb, cc, v) = true)
    (h : ewX X (.getfield n, len, a, bb, cc, v) ls st b S (ewAA X D c4 φ B M p l e R s m args below meth c Z (pc + 3))) : ewA D c4 φ B M p l e R s m args below meth c Z pc ls st b S := by
  obtain ⟨hx, hb, -, -, hown, hts, -⟩ := hF
  have h9 : (decide ((M.2.2.2.2.2.2, n, a, bb) ∈ ewFL) && (Nat.beq (ewFT a bb) cc || (Nat.beq (ewFT a bb) 2 && Nat.ble 3 cc))) = true := hlk
  rw [Bool.and_eq_true] at h9
  obtain ⟨C, T, N, hcl, hj, hlink⟩ := ewFL_ok _ (of_decide_eq_true h9.1)
  have hcc : ewFT a bb = cc ∨ (ewFT a bb = 2 ∧ 3 ≤ cc) := by
    have h8 := h9.2
    rw [Bool.or_eq_true, Bool.and_eq_true] at h8
    rcases h8 with h8 | h8
    · exact Or.inl (Nat.eq_of_beq_eq_true h8)
    · exact Or.inr ⟨Nat.eq_of_beq_eq_true h8.1, Nat.le_of_ble_eq_true h8.2⟩
  dsimp only at hcl hj hlink
  obtain ⟨ha9, hN, hin, hty, hnm⟩ := ewCl_ok hcl
  subst hN
  obtain ⟨q, r, rfl, htk, h⟩ := pR1_of h
  obtain ⟨hk, hq⟩ := ewTk_of htk
  dsimp only at hk hq
  intro Ls H locs a1 a2 a3 a4 a5 a6 a7
  have he := ewWs_at (φ := φ) (c4 := c4) hq
  rw [ewEnt_obj hk ha9] at he
  have key : ∀ w : Value, (if ewFT a bb = 2 then va_rf (ewRo φ (S.2.1 q bb)) else Value.int (S.2.2 q bb)) = w → W p l e R s m args below meth c H locs (M.2.2.2.2.1 - b.1) (M.2.2.2.2.2.1 - b.2) Z (F0 m (pc + 3) Ls (w :: r.map (ewV φ))) → W p l e R s m args below meth c H locs (M.2.2.2.2.1 - b.1) (M.2.2.2.2.2.1 - b.2) Z (F0 m pc Ls (.ref (φ q) :: r.map (ewV φ))) := by
    intro w hw kk
    refine va_get hx hb hts hin hown hE.1 a1.1 q he hcl bb hj (hts _ (ewGm hlink rfl)) (fun _ h => h) (v := w) ?_ hdec kk
    rw [List.getElem?_map, List.getElem?_range hj]
    show some _ = _
    rw [← hw]
  revert h
  dsimp only
  split
  · intro h
    have h2 : ¬ ewFT a bb = 2 := by
      rcases hcc with hc | hc
      · rw [hc]; decide
      · exact absurd hc.2 (by decide)
    exact key _ (by rw [if_neg h2]; rfl) (h Ls H locs a1 a2 a3 a4 a5 a6 a7)
  · intro h
    have h2 : ¬ ewFT a bb = 2 := by
      rcases hcc with hc | hc
      · rw [hc]; decide
      · exact absurd hc.2 (by decide)
    exact key _ (by rw [if_neg h2]; rfl) (h Ls H locs a1 a2 a3 a4 a5 a6 a7)
  · intro h
    have h2 : ewFT a bb = 2 := by
      rcases hcc with hc | hc
      · exact hc
      · exact hc.1
    exact key _ (by rw [if_pos h2, ewRo_ne h.1]; rfl) (h.2 Ls H locs a1 a2 a3 a4 a5 a6 a7)
  · rename_i n3
    intro h
    have h2 : ewFT a bb = 2 := by
      have h7 := ewty_ok a ha9 bb hj
      rcases hcc with hc | hc
      · rcases h7 with h7 | h7 | h7
        · rw [h7.1] at hc; omega
        · rw [h7.1] at hc; omega
        · exact h7.1
      · exact hc.1
    obtain ⟨⟨h5, h6⟩, h7⟩ := h
    exact key _ (by rw [if_pos h2, h5, ewRo_ne h6]; rfl) (h7 Ls H locs a1 a2 a3 a4 a5 a6 a7)
theorem ewX_put (hF : ewF M d p R s m args meth c) (hE : ewE X D c4 φ B s s.heap) {n len a bb cc : Nat} {v : Int32} (hdec : decode M.1 pc = .ok (.putfield n, 3)) (hlk : ewLk M.2.2.2.2.2.2 (.putfield n, len, a, bb, cc, v) = true) (hjp : ewJp M pc (.putfield n, len, a, bb, cc, v) = true)
    (h : ewX X (.putfield n, len, a, bb, cc, v) ls st b S (ewAA X D c4 φ B M p l e R s m args below meth c Z (pc + 3))) : ewA D c4 φ B M p l e R s m args below meth c Z pc ls st b S := by
  obtain ⟨hx, hb, -, -, hown, hts, -, hnm0, -⟩ := hF
  have h9 : (decide ((M.2.2.2.2.2.2, n, a, bb) ∈ ewFL) && Nat.beq (ewFT a bb) cc) = true := hlk
  rw [Bool.and_eq_true] at h9
  obtain ⟨C, T, N, hcl, hj, hlink⟩ := ewFL_ok _ (of_decide_eq_true h9.1)
  have hcc : ewFT a bb = cc := Nat.eq_of_beq_eq_true h9.2
  dsimp only at hcl hj hlink
  obtain ⟨ha9, hN, hin, hty, hnm⟩ := ewCl_ok hcl
  subst hN
  have hfin : (T bb).2.2.2 = false ∨ ((T bb).2.2.2 = true ∧ M.2.1.name = "<init>" ∧ (T bb).1 = ewOwn M.2.2.2.2.2.2) := by
    unfold ewJp at hjp
    simp only [hcl] at hjp
    cases hf : (T bb).2.2.2 with
    | false => exact Or.inl rfl
    | true =>
      rw [hf] at hjp
      simp only [Bool.not_true, Bool.false_or, Bool.and_eq_true, decide_eq_true_eq] at hjp
      exact Or.inr ⟨rfl, hjp.1, hjp.2⟩
  have key : ∀ (q : Nat) (r : List Value) (w : Value) (S' : eS), ewTk S q a = true → narrow (ewty a bb) (ewV φ w) = ewV φ w → fits (ewty a bb) (ewV φ w) = true → S'.1 = S.1 → (∀ x, x ≠ q → ewEnt φ c4 S' x = ewEnt φ c4 S x) → ewEnt φ c4 S' q = .inr (a, ((List.range (ewN a)).map (fun j => if ewFT a j = 2 then va_rf (ewRo φ (S.2.1 q j)) else .int (S.2.2 q j))).set bb (ewV φ w)) → ewA D c4 φ B M p l e R s m args below meth c Z (pc + 3) ls r b S' → ewA D c4 φ B M p l e R s m args below meth c Z pc ls (w :: .ref q :: r) b S := by
    intro q r w S' htk hn hf hs hne heq kk Ls H locs a1 a2 a3 a4 a5 a6 a7
    obtain ⟨hk, hq⟩ := ewTk_of htk
    have he := ewWs_at (φ := φ) (c4 := c4) hq
    rw [ewEnt_obj hk ha9] at he
    have fin : ∀ (H1 : Heap) (locs1 : List Loc), va_P D ewCl ((ewWs φ c4 S).set q (φ q, .inr (a, ((List.range (ewN a)).map (fun j => if ewFT a j = 2 then va_rf (ewRo φ (S.2.1 q j)) else .int (S.2.2 q j))).set bb (ewV φ w)))) H1 → va_D (fun q => B ≤ q) ((ewWs φ c4 S).set q (φ q, .inr (a, ((List.range (ewN a)).map (fun j => if ewFT a j = 2 then va_rf (ewRo φ (S.2.1 q j)) else .int (S.2.2 q j))).set bb (ewV φ w)))) → va_S (fun q => B ≤ q) s.heap H1 locs1 → W p l e R s m args below meth c H1 locs1 (M.2.2.2.2.1 - b.1) (M.2.2.2.2.2.1 - b.2) Z (F0 m (pc + 3) Ls (r.map (ewV φ))) := by
      intro H1 locs1 hP hD hS
      rw [← heq, ewWs_set hs (fun x _ hx => hne x hx)] at hP hD
      exact kk Ls H1 locs1 ⟨hP, hD, by rw [hs]; exact a1.2.2⟩ hS a3 a4 a5 a6 (fun h5 => by rw [hs] at h5 ⊢; exact a7 h5)
    rcases hfin with hfin | ⟨hfin, hi1, hi2⟩
    · exact va_put hx hb hts hin (ewty a) hty hnm hown hE.1 a1.1 a1.2.1 a2 q he hcl bb hj (hts _ (ewGm hlink rfl)) (fun _ h => h) hfin (hty bb hj) hn hf (by simp; exact hj) hdec fin
    · exact va_putF hx hb hts hin (ewty a) hty hnm hown hE.1 a1.1 a1.2.1 a2 q he hcl bb hj (hts _ (ewGm hlink rfl)) (fun _ h => h) hfin (by rw [hnm0]; exact hi1) hi2 (hty bb hj) hn hf (by simp; exact hj) hdec fin
  have hty2 := ewty_ok a ha9 bb hj
  have setI : ∀ (q : Nat) (x : Int32), ewTk S q a = true → ewFT a bb ≠ 2 → ewEnt φ c4 (S.1, S.2.1, ewS S.2.2 q (upd (S.2.2 q) bb x)) q = .inr (a, ((List.range (ewN a)).map (fun j => if ewFT a j = 2 then va_rf (ewRo φ (S.2.1 q j)) else .int (S.2.2 q j))).set bb (.int x)) := by
    intro q x htk h2
    rw [ewEnt_obj (ewTk_of htk).1 ha9]
    rw [← ewFs_set (k := bb) (fun j => if ewFT a j = 2 then va_rf (ewRo φ (S.2.1 q j)) else .int (S.2.2 q j)) (fun j => if ewFT a j = 2 then va_rf (ewRo φ (S.2.1 q j)) else .int (ewS S.2.2 q (upd (S.2.2 q) bb x) q j)) (fun j hj => by rw [ewS_self]; simp [upd, hj])]
    rw [if_neg h2, ewS_self]
    simp [upd]
  by_cases h2 : cc = 2
  · subst h2
    obtain ⟨q, x, r, rfl, htk, hnul, h⟩ := pRR_of h
    have h3 : (ewty a bb).isReference = true := by
      rcases hty2 with ⟨h0, -⟩ | ⟨h0, -⟩ | ⟨-, h0⟩
      · rw [hcc] at h0; cases h0
      · rw [hcc] at h0; cases h0
      · exact h0
    have htk : ewTk S q a = true := htk
    refine key q r (.ref x) (S.1, ewS S.2.1 q (ewU (S.2.1 q) bb x), S.2.2) htk (ewRef_nar h3 _).1 (ewRef_nar h3 _).2.1 rfl (fun y hy => ewEnt_h (ewS_ne _ _ hy) rfl) ?_ h
    rw [ewEnt_obj (ewTk_of htk).1 ha9]
    rw [← ewFs_set (k := bb) (fun j => if ewFT a j = 2 then va_rf (ewRo φ (S.2.1 q j)) else .int (S.2.2 q j)) (fun j => if ewFT a j = 2 then va_rf (ewRo φ (ewS S.2.1 q (ewU (S.2.1 q) bb x) q j)) else .int (S.2.2 q j)) (fun j hj => by rw [ewS_self]; simp [ewU, hj])]
    rw [if_pos hcc, ewS_self]
    have : ewU (S.2.1 q) bb x bb = x := if_pos rfl
    rw [this, ewRo_ne hnul]
    rfl
  · by_cases h1 : cc = 1
    · subst h1
      obtain ⟨q, x, r, rfl, htk, hx1, h⟩ := pIR_of h
      have h3 : ewty a bb = .boolean := by
        rcases hty2 with ⟨h0, -⟩ | ⟨-, h0⟩ | ⟨h0, -⟩
        · rw [hcc] at h0; cases h0
        · exact h0
        · rw [hcc] at h0; cases h0
      refine key q r (.int x) (S.1, S.2.1, ewS S.2.2 q (upd (S.2.2 q) bb x)) htk ?_ ?_ rfl (fun y hy => ewEnt_h rfl (ewS_ne _ _ hy)) (setI q x htk (by rw [hcc]; decide)) h
      · rw [h3]; rcases hx1 with rfl | rfl <;> rfl
      · rw [h3]; rcases hx1 with rfl | rfl <;> rfl
    · have h' : pIR st fun q x st => ewTk S q a = true ∧ ewAA X D c4 φ B M p l e R s m args below meth c Z (pc + 3) ls st b (S.1, S.2.1, ewS S.2.2 q (upd (S.2.2 q) bb x)) := by
        revert h
        unfold ewX
        dsimp only
        split
        · rename_i h3; exact absurd rfl h2
        · rename_i h3; exact absurd rfl h1
        · exact id
      obtain ⟨q, x, r, rfl, htk, h⟩ := pIR_of h'
      have h3 : ewty a bb = .int := by
        rcases hty2 with ⟨-, h0⟩ | ⟨h0, -⟩ | ⟨h0, -⟩
        · exact h0
        · exact absurd (hcc.symm.trans h0) h1
        · exact absurd (hcc.symm.trans h0) h2
      refine key q r (.int x) (S.1, S.2.1, ewS S.2.2 q (upd (S.2.2 q) bb x)) htk ?_ ?_ rfl (fun y hy => ewEnt_h rfl (ewS_ne _ _ hy)) (setI q x htk (by rw [hcc]; exact h2)) h
      · rw [h3]; rfl
      · rw [h3]; rfl
theorem ewX_sta (hF : ewF M d p R s m args meth c) (hE : ewE X D c4 φ B s s.heap) {n len a bb cc : Nat} {v : Int32} (hdec : decode M.1 pc = .ok (.getstatic n, 3)) (hlk : ewLk M.2.2.2.2.2.2 (.getstatic n, len, a, bb, cc, v) = true)
    (h : ewX X (.getstatic n, len, a, bb, cc, v) ls st b S (ewAA X D c4 φ B M p l e R s m args below meth c Z (pc + 3))) : ewA D c4 φ B M p l e R s m args below meth c Z pc ls st b S := by
  obtain ⟨hx, hb, -, -, hown, hts, -⟩ := hF
  obtain ⟨hj, hlink⟩ := ewSL_ok _ (of_decide_eq_true hlk)
  dsimp only at hj hlink
  intro Ls H locs a1 a2 a3 a4 a5 a6 a7
  rcases hlink with hlink | hlink
  · exact va_gets hx hb (hE.2.1 a hj).1 a2 hown (hts _ (ewGm hlink rfl)) (fun _ h => h) hdec (h Ls H locs a1 a2 a3 a4 a5 a6 a7)
  · exact va_getsN hx hb (hE.2.1 a hj).1 a2 hown (va_Nw.use rfl (hE.2.2.2.2.1 _ hlink rfl)) (fun _ h => h) hdec (h Ls H locs a1 a2 a3 a4 a5 a6 a7)
end EWS2
