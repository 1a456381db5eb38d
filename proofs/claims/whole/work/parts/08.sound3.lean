/-! SOUNDNESS: arrays, cells made, Object.<init>, arraycopy -/
section EWS3
variable {X : Nat × (Nat → Int32)} {D : va_G} {c4 : ClassId × ClassId × ClassId × ClassId} {φ : Nat → Nat} {B : Nat} {M : ewMt} {d : Nat}
variable {p : Program} {l : Launch} {e : Env} {R : Room} {s : State} {m : MethodId} {args : Array Value} {below : List Frame} {meth : Method} {c : Code} {Z : State → Prop}
variable {pc : Nat} {ls : eL} {st : List Value} {b : Nat × Nat} {S : eS}
theorem ewX_iald (hF : ewF M d p R s m args meth c) (hE : ewE X D c4 φ B s s.heap) {len a bb cc : Nat} {v : Int32} (hdec : decode M.1 pc = .ok (.iaload, 1)) (hlk : ewLk M.2.2.2.2.2.2 (.iaload, len, a, bb, cc, v) = true)
    (h : ewX X (.iaload, len, a, bb, cc, v) ls st b S (ewAA X D c4 φ B M p l e R s m args below meth c Z (pc + 1))) : ewA D c4 φ B M p l e R s m args below meth c Z pc ls st b S := by
  obtain ⟨hx, hb, -⟩ := hF
  by_cases h1 : a = 1
  · subst h1
    obtain ⟨q, j, r, rfl, hq, hin, h9⟩ := pIR_of h
    have hq : q = 200000 + bb := Nat.eq_of_beq_eq_true hq
    subst hq
    have hb6 : bb < 6 := (of_decide_eq_true hlk) rfl
    exact fun Ls H locs a1 a2 a3 a4 a5 a6 a7 => va_ti hx hb (hE.2.1 bb hb6).2 a2 hin rfl hdec (h9 Ls H locs a1 a2 a3 a4 a5 a6 a7)
  · by_cases h2 : a = 2
    · subst h2
      obtain ⟨q, j, r, rfl, hq, hin, h9⟩ := pIR_of h
      have hq : q = 300000 := Nat.eq_of_beq_eq_true hq
      subst hq
      exact fun Ls H locs a1 a2 a3 a4 a5 a6 a7 => va_sld hx hb hE.2.2.1.1 (Nat.lt_of_lt_of_le hE.2.2.1.2 hE.2.2.2.1) (Nat.not_le.mpr hE.2.2.1.2) a2 hin hdec (h9 Ls H locs a1 a2 a3 a4 a5 a6 a7)
    · have h' : pIR st fun q j st => ewTk S q 9 = true ∧ vp_in j (kL q) ∧ ewAA X D c4 φ B M p l e R s m args below meth c Z (pc + 1) ls (.int (S.2.2 q j.toNatClampNeg) :: st) b S := by
        revert h
        unfold ewX
        dsimp only
        split
        · exact absurd rfl h1
        · exact absurd rfl h2
        · exact id
      obtain ⟨q, j, r, rfl, htk, hin, h⟩ := pIR_of h'
      obtain ⟨hk, hq⟩ := ewTk_of htk
      intro Ls H locs a1 a2 a3 a4 a5 a6 a7
      have he := ewWs_at (φ := φ) (c4 := c4) hq
      rw [ewEnt_9 hk] at he
      exact va_iald hx hb hE.1 a1.1 q 0 he rfl hin hdec (h Ls H locs a1 a2 a3 a4 a5 a6 a7)
theorem ewX_bald (hF : ewF M d p R s m args meth c) (hE : ewE X D c4 φ B s s.heap) {len a bb cc : Nat} {v : Int32} (hdec : decode M.1 pc = .ok (.baload, 1))
    (h : ewX X (.baload, len, a, bb, cc, v) ls st b S (ewAA X D c4 φ B M p l e R s m args below meth c Z (pc + 1))) : ewA D c4 φ B M p l e R s m args below meth c Z pc ls st b S := by
  obtain ⟨hx, hb, -⟩ := hF
  obtain ⟨q, j, r, rfl, htk, hin, h⟩ := pIR_of h
  obtain ⟨hk, hq⟩ := ewTk_of htk
  intro Ls H locs a1 a2 a3 a4 a5 a6 a7
  have he := ewWs_at (φ := φ) (c4 := c4) hq
  rw [ewEnt_10 hk] at he
  exact va_zald hx hb hE.1 a1.1 q 1 he rfl hin hdec (h Ls H locs a1 a2 a3 a4 a5 a6 a7)
theorem ewX_aald (hF : ewF M d p R s m args meth c) (hE : ewE X D c4 φ B s s.heap) {len a bb cc : Nat} {v : Int32} (hdec : decode M.1 pc = .ok (.aaload, 1)) (hlk : ewLk M.2.2.2.2.2.2 (.aaload, len, a, bb, cc, v) = true)
    (h : ewX X (.aaload, len, a, bb, cc, v) ls st b S (ewAA X D c4 φ B M p l e R s m args below meth c Z (pc + 1))) : ewA D c4 φ B M p l e R s m args below meth c Z pc ls st b S := by
  obtain ⟨hx, hb, -⟩ := hF
  obtain ⟨q, j, r, rfl, htk, hin, hnul, h⟩ := pIR_of h
  obtain ⟨hk, hq⟩ := ewTk_of htk
  intro Ls H locs a1 a2 a3 a4 a5 a6 a7
  have he := ewWs_at (φ := φ) (c4 := c4) hq
  have hlt : j.toNatClampNeg < kL q := Nat.not_le.mp fun z => hin (Or.inr z)
  have kk := h Ls H locs a1 a2 a3 a4 a5 a6 a7
  have ev : ewV φ (.ref (S.2.1 q j.toNatClampNeg)) = va_rf (ewRo φ (S.2.1 q j.toNatClampNeg)) := (ewRo_ne hnul).symm
  rw [List.map_cons, ev] at kk
  have ha : a = 0 ∨ a = 1 := of_decide_eq_true hlk
  rcases ha with rfl | rfl
  · rw [ewEnt_11 hk] at he
    exact va_aldq hx hb hE.1 a1.1 q 2 he rfl hin hdec kk
  · rw [ewEnt_12 hk] at he
    exact W.aald (v := va_rf (ewRo φ (S.2.1 q j.toNatClampNeg))) (ty := .array .int) hx hb (a1.1 q _ he) ((hE.1.2 3 _ rfl).1 (kL q) (fun j => va_rf (ewRo φ (S.2.1 q j)))) rfl (fun z => by cases z) (by show ¬ (j < 0 ∨ (arrV _ _ _).slots.size ≤ _); rw [arrV_size]; exact hin) (by show (arrV _ _ _).slots[_]? = _; rw [arrV_read _ _ hlt]) rfl rfl hdec kk
theorem ewX_iast (hF : ewF M d p R s m args meth c) (hE : ewE X D c4 φ B s s.heap) {len a bb cc : Nat} {v : Int32} (hdec : decode M.1 pc = .ok (.iastore, 1))
    (h : ewX X (.iastore, len, a, bb, cc, v) ls st b S (ewAA X D c4 φ B M p l e R s m args below meth c Z (pc + 1))) : ewA D c4 φ B M p l e R s m args below meth c Z pc ls st b S := by
  obtain ⟨hx, hb, -⟩ := hF
  obtain ⟨q, j, x, r, rfl, htk, hin, h⟩ := pIIR_of h
  obtain ⟨hk, hq⟩ := ewTk_of htk
  intro Ls H locs a1 a2 a3 a4 a5 a6 a7
  have he := ewWs_at (φ := φ) (c4 := c4) hq
  rw [ewEnt_9 hk] at he
  refine va_iast hx hb hE.1 a1.1 a1.2.1 a2 q 0 he rfl hin hdec (fun H1 locs1 hP hD hS => ?_)
  have e2 : (.inl (c4.1, kL q, .inl (upd (S.2.2 q) j.toNatClampNeg x)) : va_E) = ewEnt φ c4 (S.1, S.2.1, ewS S.2.2 q (upd (S.2.2 q) j.toNatClampNeg x)) q := by rw [ewEnt_9 hk]; dsimp only; rw [ewS_self]
  rw [e2] at hP hD
  exact h Ls H1 locs1 (ewW_seth a1 hP hD) hS a3 a4 a5 a6 a7
theorem ewX_bast (hF : ewF M d p R s m args meth c) (hE : ewE X D c4 φ B s s.heap) {len a bb cc : Nat} {v : Int32} (hdec : decode M.1 pc = .ok (.bastore, 1))
    (h : ewX X (.bastore, len, a, bb, cc, v) ls st b S (ewAA X D c4 φ B M p l e R s m args below meth c Z (pc + 1))) : ewA D c4 φ B M p l e R s m args below meth c Z pc ls st b S := by
  obtain ⟨hx, hb, -⟩ := hF
  obtain ⟨q, j, x, r, rfl, htk, hin, h01, h⟩ := pIIR_of h
  obtain ⟨hk, hq⟩ := ewTk_of htk
  intro Ls H locs a1 a2 a3 a4 a5 a6 a7
  have he := ewWs_at (φ := φ) (c4 := c4) hq
  rw [ewEnt_10 hk] at he
  refine va_zast hx hb hE.1 a1.1 a1.2.1 a2 q 1 he rfl hin hdec (fun H1 locs1 hP hD hS => ?_)
  have e3 : vp_nar .boolean x = x := by rcases h01 with rfl | rfl <;> rfl
  have e2 : (.inl (c4.2.1, kL q, .inl (upd (S.2.2 q) j.toNatClampNeg (vp_nar .boolean x))) : va_E) = ewEnt φ c4 (S.1, S.2.1, ewS S.2.2 q (upd (S.2.2 q) j.toNatClampNeg x)) q := by rw [ewEnt_10 hk]; dsimp only; rw [ewS_self, e3]
  rw [e2] at hP hD
  exact h Ls H1 locs1 (ewW_seth a1 hP hD) hS a3 a4 a5 a6 a7
theorem ewX_aast (hF : ewF M d p R s m args meth c) (hE : ewE X D c4 φ B s s.heap) {len a bb cc : Nat} {v : Int32} (hdec : decode M.1 pc = .ok (.aastore, 1))
    (h : ewX X (.aastore, len, a, bb, cc, v) ls st b S (ewAA X D c4 φ B M p l e R s m args below meth c Z (pc + 1))) : ewA D c4 φ B M p l e R s m args below meth c Z pc ls st b S := by
  obtain ⟨hx, hb, -⟩ := hF
  obtain ⟨q, j, x, r, rfl, htk, hin, htx, hnul, h⟩ := pRIR_of h
  obtain ⟨hk, hq⟩ := ewTk_of htk
  obtain ⟨hkx, hqx⟩ := ewTk_of htx
  intro Ls H locs a1 a2 a3 a4 a5 a6 a7
  have he := ewWs_at (φ := φ) (c4 := c4) hq
  rw [ewEnt_11 hk] at he
  have hex := ewWs_at (φ := φ) (c4 := c4) hqx
  rw [ewEnt_obj hkx (by decide)] at hex
  refine va_astq hx hb hE.1 a1.1 a1.2.1 a2 q 2 x 5 (r := ("EightWays$Setting", ewT5, 5)) he rfl hex rfl hin hdec (fun H1 locs1 hP hD hS => ?_)
  have e2 : (.inl (c4.2.2.1, kL q, .inr (.inr (.inr (.inr (va_up (fun j => ewRo φ (S.2.1 q j)) j.toNatClampNeg (some (φ x))))))) : va_E) = ewEnt φ c4 (S.1, ewS S.2.1 q (ewU (S.2.1 q) j.toNatClampNeg x), S.2.2) q := by
    rw [ewEnt_11 hk]; dsimp only; rw [ewS_self]
    have e5 : va_up (fun j => ewRo φ (S.2.1 q j)) j.toNatClampNeg (some (φ x)) = fun i => ewRo φ (ewU (S.2.1 q) j.toNatClampNeg x i) := by
      funext i
      by_cases hi : i = j.toNatClampNeg
      · subst hi
        have : ewU (S.2.1 q) j.toNatClampNeg x j.toNatClampNeg = x := if_pos rfl
        rw [this]
        unfold ewRo
        rw [if_neg (fun e => by rw [e] at hnul; cases hnul)]
        exact va_up_self _ _ _
      · have : ewU (S.2.1 q) j.toNatClampNeg x i = S.2.1 q i := if_neg hi
        rw [this]
        exact if_neg hi
    rw [e5]
  rw [e2] at hP hD
  exact h Ls H1 locs1 (ewW_setr a1 hP hD) hS a3 a4 a5 a6 a7
theorem ewX_alen (hF : ewF M d p R s m args meth c) (hE : ewE X D c4 φ B s s.heap) {len a bb cc : Nat} {v : Int32} (hdec : decode M.1 pc = .ok (.arraylength, 1))
    (h : ewX X (.arraylength, len, a, bb, cc, v) ls st b S (ewAA X D c4 φ B M p l e R s m args below meth c Z (pc + 1))) : ewA D c4 φ B M p l e R s m args below meth c Z pc ls st b S := by
  obtain ⟨hx, hb, -⟩ := hF
  obtain ⟨q, r, rfl, h9⟩ := pR1_of h
  by_cases h2 : a = 2
  · subst h2
    have hq : q = 300000 := Nat.eq_of_beq_eq_true h9.1
    subst hq
    exact fun Ls H locs a1 a2 a3 a4 a5 a6 a7 => va_slen hx hb hE.2.2.1.1 (Nat.lt_of_lt_of_le hE.2.2.1.2 hE.2.2.2.1) (Nat.not_le.mpr hE.2.2.1.2) a2 hdec (h9.2 Ls H locs a1 a2 a3 a4 a5 a6 a7)
  · have h' : ewTk S q 9 = true ∧ ewAA X D c4 φ B M p l e R s m args below meth c Z (pc + 1) ls (.int (Int32.ofNat (kL q)) :: r) b S := by
      revert h9
      dsimp only
      split
      · exact absurd rfl h2
      · exact id
    obtain ⟨hk, hq⟩ := ewTk_of h'.1
    intro Ls H locs a1 a2 a3 a4 a5 a6 a7
    have he := ewWs_at (φ := φ) (c4 := c4) hq
    rw [ewEnt_9 hk] at he
    exact va_alen hx hb hE.1 a1.1 q 0 he rfl rfl hdec (h'.2 Ls H locs a1 a2 a3 a4 a5 a6 a7)
theorem ewSum_map (st : List Value) : ((st.map (ewV φ)).map fun v => v.category).sum = ewSum st := by
  unfold ewSum
  rw [List.map_map]
  congr 1
  apply List.map_congr_left
  intro v _
  exact ewV_cat φ v
theorem ewX_oin (hF : ewF M d p R s m args meth c) {n len a bb cc : Nat} {v : Int32} (hdec : decode M.1 pc = .ok (.invokespecial n, 3)) (hlw : ewLw M.2.2.2.2.2.2 (.invokespecial n, len, a, bb, cc, v))
    (h : ewX X (.invokespecial n, len, a, bb, cc, v) ls st b S (ewAA X D c4 φ B M p l e R s m args below meth c Z (pc + 3))) : ewA D c4 φ B M p l e R s m args below meth c Z pc ls st b S := by
  obtain ⟨hx, hb, hml, -, hown, hts, -, -, hfr, hlo, -⟩ := hF
  obtain ⟨q, r, rfl, hs8, h⟩ := pR1_of h
  have hs8 : ewSum r ≤ 8 := Nat.le_of_ble_eq_true hs8
  intro Ls H locs a1 a2 a3 a4 a5 a6 a7
  exact W.objInit hx hb hown (hts _ (ewGm hlw rfl)) (hts _ (ewGm ewQ_oi rfl)) (hts _ (ewGm ewQ_oc rfl)) rfl (by rw [hml]; exact a3.1) rfl hdec (by omega) (by show 2 * 0 + _ + 12 ≤ _; rw [ewSum_map]; omega) (h Ls H locs a1 a2 a3 a4 a5 a6 a7)
theorem ewX_cpy (hF : ewF M d p R s m args meth c) (hE : ewE X D c4 φ B s s.heap) {n len a bb cc : Nat} {v : Int32} (hdec : decode M.1 pc = .ok (.invokestatic n, 3)) (hlw : ewLw M.2.2.2.2.2.2 (.invokestatic n, len, a, bb, cc, v))
    (h : ewX X (.invokestatic n, len, a, bb, cc, v) ls st b S (ewAA X D c4 φ B M p l e R s m args below meth c Z (pc + 3))) : ewA D c4 φ B M p l e R s m args below meth c Z pc ls st b S := by
  obtain ⟨hx, hb, hml, -, hown, hts, -, -, hfr, hlo, -⟩ := hF
  obtain ⟨k0, sp, k1, dp, n', r, rfl, hs8, ht0, ht1, h1, h2, h3, h4, h5, h⟩ := pCpy_of h
  have hs8 : ewSum r ≤ 8 := Nat.le_of_ble_eq_true hs8
  obtain ⟨hk0, hq0⟩ := ewTk_of ht0
  obtain ⟨hk1, hq1⟩ := ewTk_of ht1
  intro Ls H locs a1 a2 a3 a4 a5 a6 a7
  have he0 := ewWs_at (φ := φ) (c4 := c4) hq0
  rw [ewEnt_9 hk0] at he0
  have he1 := ewWs_at (φ := φ) (c4 := c4) hq1
  rw [ewEnt_9 hk1] at he1
  have hn : nativeFrameWords "java/lang/System" "arraycopy" 5 ≤ 30 := by decide +kernel
  refine va_copyi hx hb (by rw [hml]; exact a3.1.symm) hown (hts _ (ewGm hlw rfl)) (hts _ (ewGm ewQ_an rfl)) (hts _ (ewGm ewQ_as rfl)) (hts _ (ewGm ewQ_ai rfl)) hE.1 a1.1 a1.2.1 a2 k0 k1 0 0 he0 he1 rfl rfl rfl h1 h2 h3 h4 h5 (fun _ _ => rfl) (by omega) (by rw [ewSum_map]; omega) hdec (fun H1 locs1 hP hD hS => ?_)
  have e2 : (.inl (c4.1, kL k1, .inl (va_cpy (S.2.2 k0) (S.2.2 k1) sp.toNatClampNeg dp.toNatClampNeg n'.toNatClampNeg)) : va_E) = ewEnt φ c4 (S.1, S.2.1, ewS S.2.2 k1 (va_cpy (S.2.2 k0) (S.2.2 k1) sp.toNatClampNeg dp.toNatClampNeg n'.toNatClampNeg)) k1 := by rw [ewEnt_9 hk1]; dsimp only; rw [ewS_self]
  rw [e2] at hP hD
  exact h Ls H1 locs1 (ewW_seth a1 hP hD) hS a3 a4 a5 a6 a7
/-- a new cell lies at the next place -/
theorem ewNew {H1 : Heap} {q n : Nat} {E : va_E} (hA : n = B + S.1 ∧ ∀ k, k < 229 → φ k = B + k) (h229 : S.1 < 229) (hz : H1.size ≤ n + 1) (hP : va_P D ewCl (ewWs φ c4 S ++ [(q, E)]) H1) (hD : va_D (fun q => B ≤ q) (ewWs φ c4 S ++ [(q, E)])) : q = φ S.1 := by
  have hl : (ewWs φ c4 S).length = S.1 := by simp [ewWs]
  have hat : (ewWs φ c4 S ++ [(q, E)])[S.1]? = some (q, E) := by
    rw [List.getElem?_append_right (by omega), hl, Nat.sub_self]; rfl
  have h1 : q < H1.size := (hP _ _ hat).lt
  have h2 : B ≤ q := hD.2 _ _ hat
  rw [hA.2 _ h229]
  by_cases h3 : q < B + S.1
  · have h4 : q - B < S.1 := by omega
    have h5 : (ewWs φ c4 S ++ [(q, E)])[q - B]? = some (φ (q - B), ewEnt φ c4 S (q - B)) := by
      rw [List.getElem?_append_left (by omega)]
      exact ewWs_at h4
    have h6 := hD.1 _ _ _ _ h5 hat (by show φ (q - B) = q; rw [hA.2 _ (by omega)]; omega)
    omega
  · omega
/-- the cell made is the next one -/
theorem ewMade {E : va_E} {locs : List Loc} {Ls : Array Slot} {pc' : Nat} {r : List Value} {ns : Nat} (hEnt : ewEnt φ c4 S S.1 = E) (h229 : S.1 < 229) (hnc : 1 ≤ b.1) (hns : ns ≤ b.2) (a5 : b.1 ≤ M.2.2.2.2.1) (a6 : b.2 ≤ M.2.2.2.2.2.1) (a3 : lv_has Ls M.2.2.1 (ewAsc φ 0 ls)) (a4 : ls.length = M.2.2.1) (a7 : ewAl φ B S (s.heap.size + (M.2.2.2.2.1 - b.1)))
    (h : ewA D c4 φ B M p l e R s m args below meth c Z pc' ls (.ref S.1 :: r) (b.1 - 1, b.2 - ns) (S.1 + 1, S.2.1, S.2.2)) {q : Nat} {H1 : Heap} (hP : va_P D ewCl (ewWs φ c4 S ++ [(q, E)]) H1) (hD : va_D (fun q => B ≤ q) (ewWs φ c4 S ++ [(q, E)])) (hS : va_S (fun q => B ≤ q) s.heap H1 locs) :
    W p l e R s m args below meth c H1 locs (M.2.2.2.2.1 - b.1 + 1) (M.2.2.2.2.2.1 - b.2 + ns) Z (F0 m pc' Ls (.ref q :: r.map (ewV φ))) := by
  have hA := a7 h229
  refine ewW_size (fun hz => ?_)
  have hq : q = φ S.1 := ewNew hA h229 (by omega) hP hD
  subst hq
  rw [← hEnt, ← ewWs_push] at hP hD
  have := h Ls H1 locs ⟨hP, hD, h229⟩ hS a3 a4 (by show b.1 - 1 ≤ _; omega) (by show b.2 - ns ≤ _; omega) (fun _ => ⟨by show s.heap.size + (M.2.2.2.2.1 - (b.1 - 1)) = B + (S.1 + 1); have := hA.1; omega, hA.2⟩)
  refine W.cs (show _ = M.2.2.2.2.1 - (b.1 - 1, b.2 - ns).1 by show _ = M.2.2.2.2.1 - (b.1 - 1); omega) (show _ = M.2.2.2.2.2.1 - (b.1 - 1, b.2 - ns).2 by show _ = M.2.2.2.2.2.1 - (b.2 - ns); omega) this
theorem ewX_new (hF : ewF M d p R s m args meth c) (hE : ewE X D c4 φ B s s.heap) {n len a bb cc : Nat} {v : Int32} (hdec : decode M.1 pc = .ok (.new n, 3)) (hlw : ewLw M.2.2.2.2.2.2 (.new n, len, a, bb, cc, v))
    (h : ewX X (.new n, len, a, bb, cc, v) ls st b S (ewAA X D c4 φ B M p l e R s m args below meth c Z (pc + 3))) : ewA D c4 φ B M p l e R s m args below meth c Z pc ls st b S := by
  obtain ⟨hx, hb, hml, -, hown, hts, -, -, hfr, hlo, hmc, hms⟩ := hF
  obtain ⟨hk, h229, hh0, hr0, hnc, hns, h⟩ := h
  obtain ⟨C, T, N, hcl, hl1, hl2, hl3⟩ := hlw
  dsimp only at hcl
  obtain ⟨ha9, hN, hin, hty, hnm⟩ := ewCl_ok hcl
  subst hN
  have hk : kK S.1 = a := Nat.eq_of_beq_eq_true hk
  have h229 : S.1 < 229 := Nat.le_of_ble_eq_true h229
  have hnc : 1 ≤ b.1 := Nat.le_of_ble_eq_true hnc
  have hns : ewN a ≤ b.2 := Nat.le_of_ble_eq_true hns
  intro Ls H locs a1 a2 a3 a4 a5 a6 a7
  have hent := ewEnt_obj (φ := φ) (c4 := c4) (S := S) hk ha9
  rw [hh0, hr0] at hent
  refine va_new hx hb hts hin (ewty a) hty hown (hts _ (ewGm hl1 rfl)) (hts _ (ewGm hl2 rfl)) (hts _ (ewGm hl3 rfl)) hE.1 a1.1 a1.2.1 a2 (fun q hq => Nat.le_trans hE.2.2.2.1 hq) hcl (fun j hj => ?_) (by omega) (by omega) hdec (fun q H1 hP hD hS => ewMade hent h229 hnc hns a5 a6 a3 a4 a7 h hP hD hS)
  show _ = ((List.range (ewN a)).map _).getD j Value.null
  rw [List.getD_eq_getElem?_getD, List.getElem?_map, List.getElem?_range hj]
  show _ = if ewFT a j = 2 then va_rf (ewRo φ 100000) else Value.int 0
  rcases ewty_ok a ha9 j hj with ⟨h1, h2⟩ | ⟨h1, h2⟩ | ⟨h1, h2⟩
  · rw [h1, h2]; rfl
  · rw [h1, h2]; rfl
  · rw [if_pos h1]; exact (ewRef_nar h2 0).2.2
theorem ewX_nea (hF : ewF M d p R s m args meth c) (hE : ewE X D c4 φ B s s.heap) {at9 : ArrayType} {len a bb cc : Nat} {v : Int32} (hdec : decode M.1 pc = .ok (.newarray at9, 2)) (hlk : ewLk M.2.2.2.2.2.2 (.newarray at9, len, a, bb, cc, v) = true)
    (h : ewX X (.newarray at9, len, a, bb, cc, v) ls st b S (ewAA X D c4 φ B M p l e R s m args below meth c Z (pc + 2))) : ewA D c4 φ B M p l e R s m args below meth c Z pc ls st b S := by
  obtain ⟨hx, hb, hml, -, hown, hts, -, -, hfr, hlo, hmc, hms⟩ := hF
  obtain ⟨n, r, rfl, hk, h229, hln, hn0, hh0, hnc, hns, h9⟩ := pI1_of h
  dsimp only at hk
  have h229 : S.1 < 229 := Nat.le_of_ble_eq_true h229
  have hnc : 1 ≤ b.1 := Nat.le_of_ble_eq_true hnc
  have hns : kL S.1 ≤ b.2 := Nat.le_of_ble_eq_true hns
  have hln : kL S.1 = n.toNatClampNeg := Nat.eq_of_beq_eq_true hln
  have hL : kL S.1 < 512 := Nat.mod_lt _ (by decide)
  intro Ls H locs a1 a2 a3 a4 a5 a6 a7
  have hat : (at9 = .int ∧ a = 0) ∨ (at9 = .boolean ∧ a = 1) := of_decide_eq_true hlk
  rcases hat with ⟨rfl, rfl⟩ | ⟨rfl, rfl⟩
  · have hk : kK S.1 = 9 := Nat.eq_of_beq_eq_true hk
    have hent := ewEnt_9 (φ := φ) (c4 := c4) (S := S) hk
    rw [hh0] at hent
    refine va_newa (atype := .int) (ty := .int) (a0 := (kL S.1, .inl (fun _ => 0))) hx hb (hts _ (ewGm ewQ_ci rfl)) rfl hE.1 a1.1 a1.2.1 a2 (fun q hq => Nat.le_trans hE.2.2.2.1 hq) (fun _ => rfl) hn0 hln.symm (by show _ * 4 ≤ _; omega) (by omega) (by omega) hdec (fun q cA H1 hK hP hD hS => ?_)
    have e1 : s.vm.findClass ("[" ++ FieldType.int.toString) = some cA := (hK.2 4 (cA, .int) rfl).2
    have e2 : s.vm.findClass ("[" ++ FieldType.int.toString) = some c4.1 := (hE.1.2 0 (c4.1, .int) rfl).2
    cases Option.some.inj (e1.symm.trans e2)
    exact ewMade hent h229 hnc hns a5 a6 a3 a4 a7 h9 hP hD hS
  · have hk : kK S.1 = 10 := Nat.eq_of_beq_eq_true hk
    have hent := ewEnt_10 (φ := φ) (c4 := c4) (S := S) hk
    rw [hh0] at hent
    refine va_newa (atype := .boolean) (ty := .boolean) (a0 := (kL S.1, .inl (fun _ => 0))) hx hb (hts _ (ewGm ewQ_cz rfl)) rfl hE.1 a1.1 a1.2.1 a2 (fun q hq => Nat.le_trans hE.2.2.2.1 hq) (fun _ => rfl) hn0 hln.symm (by show _ * 1 ≤ _; omega) (by omega) (by omega) hdec (fun q cA H1 hK hP hD hS => ?_)
    have e1 : s.vm.findClass ("[" ++ FieldType.boolean.toString) = some cA := (hK.2 4 (cA, .boolean) rfl).2
    have e2 : s.vm.findClass ("[" ++ FieldType.boolean.toString) = some c4.2.1 := (hE.1.2 1 (c4.2.1, .boolean) rfl).2
    cases Option.some.inj (e1.symm.trans e2)
    exact ewMade hent h229 hnc hns a5 a6 a3 a4 a7 h9 hP hD hS
theorem ewX_anw (hF : ewF M d p R s m args meth c) (hE : ewE X D c4 φ B s s.heap) {n9 : Nat} {len a bb cc : Nat} {v : Int32} (hdec : decode M.1 pc = .ok (.anewarray n9, 3)) (hlw : ewLw M.2.2.2.2.2.2 (.anewarray n9, len, a, bb, cc, v))
    (h : ewX X (.anewarray n9, len, a, bb, cc, v) ls st b S (ewAA X D c4 φ B M p l e R s m args below meth c Z (pc + 3))) : ewA D c4 φ B M p l e R s m args below meth c Z pc ls st b S := by
  obtain ⟨hx, hb, hml, -, hown, hts, -, -, hfr, hlo, hmc, hms⟩ := hF
  obtain ⟨n, r, rfl, hk, h229, hln, hn0, hr0, hnc, hns, h⟩ := pI1_of h
  have h229 : S.1 < 229 := Nat.le_of_ble_eq_true h229
  have hnc : 1 ≤ b.1 := Nat.le_of_ble_eq_true hnc
  have hns : kL S.1 ≤ b.2 := Nat.le_of_ble_eq_true hns
  have hln : kL S.1 = n.toNatClampNeg := Nat.eq_of_beq_eq_true hln
  have hL : kL S.1 < 512 := Nat.mod_lt _ (by decide)
  intro Ls H locs a1 a2 a3 a4 a5 a6 a7
  have hk : kK S.1 = 11 := Nat.eq_of_beq_eq_true hk
  have hent := ewEnt_11 (φ := φ) (c4 := c4) (S := S) hk
  rw [hr0] at hent
  refine va_newq hx hb hown (hts _ (ewGm hlw rfl)) hE.2.2.2.2.2.1 hE.1 a1.1 a1.2.1 a2 (fun q hq => Nat.le_trans hE.2.2.2.1 hq) hn0 hln.symm (by omega) (by omega) (by omega) hdec (fun q cA H1 hK hP hD hS => ?_)
  obtain ⟨-, -, -, -, -, e1⟩ := (hK.2 4 (cA, .object "EightWays$Setting") rfl).2
  obtain ⟨-, -, -, -, -, e2⟩ := (hE.1.2 2 (c4.2.2.1, .object "EightWays$Setting") rfl).2
  cases Option.some.inj (e1.symm.trans e2)
  exact ewMade hent h229 hnc hns a5 a6 a3 a4 a7 h hP hD hS
/-- one instruction -/
theorem ewX_ok (hF : ewF M d p R s m args meth c) (hE : ewE X D c4 φ B s s.heap) {i : eI} (hdec : decode M.1 pc = .ok (i.1, i.2.1)) (hln : Nat.beq i.2.1 (ewLn i.1) = true) (hlk : ewLk M.2.2.2.2.2.2 i = true) (hjp : ewJp M pc i = true) (hlw : ewLw M.2.2.2.2.2.2 i)
    (h : ewX X i ls st b S (ewAA X D c4 φ B M p l e R s m args below meth c Z (pc + i.2.1))) : ewA D c4 φ B M p l e R s m args below meth c Z pc ls st b S := by
  obtain ⟨ins, len, a, bb, cc, v⟩ := i
  have e1 : len = ewLn ins := Nat.eq_of_beq_eq_true hln
  subst e1
  dsimp only at hdec h
  cases ins with
  | iadd => exact ewX_stk hF hdec hlk h (by simp)
  | isub => exact ewX_stk hF hdec hlk h (by simp)
  | imul => exact ewX_stk hF hdec hlk h (by simp)
  | iand => exact ewX_stk hF hdec hlk h (by simp)
  | ior => exact ewX_stk hF hdec hlk h (by simp)
  | ixor => exact ewX_stk hF hdec hlk h (by simp)
  | idiv => exact ewX_stk hF hdec hlk h (by simp)
  | irem => exact ewX_stk hF hdec hlk h (by simp)
  | ishl => exact ewX_stk hF hdec hlk h (by simp)
  | ishr => exact ewX_stk hF hdec hlk h (by simp)
  | ineg => exact ewX_stk hF hdec hlk h (by simp)
  | i2l => exact ewX_stk hF hdec hlk h (by simp)
  | l2i => exact ewX_stk hF hdec hlk h (by simp)
  | lmul => exact ewX_stk hF hdec hlk h (by simp)
  | lrem => exact ewX_stk hF hdec hlk h (by simp)
  | lcmp => exact ewX_stk hF hdec hlk h (by simp)
  | dup => exact ewX_stk hF hdec hlk h (by simp)
  | pop => exact ewX_stk hF hdec hlk h (by simp)
  | dup2 => exact ewX_stk hF hdec hlk h (by simp)
  | iload_n n => exact ewX_loc hF hdec hlk h (by simp)
  | iload n => exact ewX_loc hF hdec hlk h (by simp)
  | lload_n n => exact ewX_loc hF hdec hlk h (by simp)
  | lload n => exact ewX_loc hF hdec hlk h (by simp)
  | aload_n n => exact ewX_loc hF hdec hlk h (by simp)
  | istore_n n => exact ewX_loc hF hdec hlk h (by simp)
  | istore n => exact ewX_loc hF hdec hlk h (by simp)
  | astore_n n => exact ewX_loc hF hdec hlk h (by simp)
  | lstore_n n => exact ewX_loc hF hdec hlk h (by simp)
  | iinc n w => exact ewX_loc hF hdec hlk h (by simp)
  | iconst n => exact ewX_con hF hdec hlk h (by simp)
  | bipush n => exact ewX_con hF hdec hlk h (by simp)
  | sipush n => exact ewX_con hF hdec hlk h (by simp)
  | ldc n => exact ewX_con hF hdec hlk h (by simp)
  | ldc_w n => exact ewX_con hF hdec hlk h (by simp)
  | lconst n => exact ewX_con hF hdec hlk h (by simp)
  | ldc2_w n => exact ewX_con hF hdec hlk h (by simp)
  | getfield n => exact ewX_get hF hE hdec hlk h
  | putfield n => exact ewX_put hF hE hdec hlk hjp h
  | getstatic n => exact ewX_sta hF hE hdec hlk h
  | iaload => exact ewX_iald hF hE hdec hlk h
  | baload => exact ewX_bald hF hE hdec h
  | aaload => exact ewX_aald hF hE hdec hlk h
  | iastore => exact ewX_iast hF hE hdec h
  | bastore => exact ewX_bast hF hE hdec h
  | aastore => exact ewX_aast hF hE hdec h
  | arraylength => exact ewX_alen hF hE hdec h
  | new n => exact ewX_new hF hE hdec hlw h
  | newarray n => exact ewX_nea hF hE hdec hlk h
  | anewarray n => exact ewX_anw hF hE hdec hlw h
  | invokespecial n => exact ewX_oin hF hdec hlw h
  | invokestatic n => exact ewX_cpy hF hE hdec hlw h
  | _ => exact h.elim
end EWS3
