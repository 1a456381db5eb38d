/-! SOUNDNESS of one instruction -/
theorem pI1_of {st : List Value} {f : Int32 → List Value → Prop} (h : pI1 st f) : ∃ x r, st = .int x :: r ∧ f x r := by
  unfold pI1 at h
  split at h
  · exact ⟨_, _, rfl, h⟩
  · exact h.elim
theorem pI2_of {st : List Value} {f : Int32 → Int32 → List Value → Prop} (h : pI2 st f) : ∃ x y r, st = .int y :: .int x :: r ∧ f x y r := by
  unfold pI2 at h
  split at h
  · exact ⟨_, _, _, rfl, h⟩
  · exact h.elim
theorem pL1_of {st : List Value} {f : Int64 → List Value → Prop} (h : pL1 st f) : ∃ x r, st = .long x :: r ∧ f x r := by
  unfold pL1 at h
  split at h
  · exact ⟨_, _, rfl, h⟩
  · exact h.elim
theorem pL2_of {st : List Value} {f : Int64 → Int64 → List Value → Prop} (h : pL2 st f) : ∃ x y r, st = .long y :: .long x :: r ∧ f x y r := by
  unfold pL2 at h
  split at h
  · exact ⟨_, _, _, rfl, h⟩
  · exact h.elim
theorem pR1_of {st : List Value} {f : Nat → List Value → Prop} (h : pR1 st f) : ∃ x r, st = .ref x :: r ∧ f x r := by
  unfold pR1 at h
  split at h
  · exact ⟨_, _, rfl, h⟩
  · exact h.elim
theorem pRR_of {st : List Value} {f : Nat → Nat → List Value → Prop} (h : pRR st f) : ∃ k x r, st = .ref x :: .ref k :: r ∧ f k x r := by
  unfold pRR at h
  split at h
  · exact ⟨_, _, _, rfl, h⟩
  · exact h.elim
theorem pIR_of {st : List Value} {f : Nat → Int32 → List Value → Prop} (h : pIR st f) : ∃ k x r, st = .int x :: .ref k :: r ∧ f k x r := by
  unfold pIR at h
  split at h
  · exact ⟨_, _, _, rfl, h⟩
  · exact h.elim
theorem pIIR_of {st : List Value} {f : Nat → Int32 → Int32 → List Value → Prop} (h : pIIR st f) : ∃ k i x r, st = .int x :: .int i :: .ref k :: r ∧ f k i x r := by
  unfold pIIR at h
  split at h
  · exact ⟨_, _, _, _, rfl, h⟩
  · exact h.elim
theorem pRIR_of {st : List Value} {f : Nat → Int32 → Nat → List Value → Prop} (h : pRIR st f) : ∃ k i x r, st = .ref x :: .int i :: .ref k :: r ∧ f k i x r := by
  unfold pRIR at h
  split at h
  · exact ⟨_, _, _, _, rfl, h⟩
  · exact h.elim
theorem pCpy_of {st : List Value} {f : Nat → Int32 → Nat → Int32 → Int32 → List Value → Prop} (h : pCpy st f) : ∃ k0 sp k1 dp n r, st = .int n :: .int dp :: .ref k1 :: .int sp :: .ref k0 :: r ∧ f k0 sp k1 dp n r := by
  unfold pCpy at h
  split at h
  · exact ⟨_, _, _, _, _, _, rfl, h⟩
  · exact h.elim
theorem pLI_of {ls : eL} {i : Nat} {f : Int32 → Prop} (h : pLI ls i f) : ∃ x, ewAt ls i = some (.int x) ∧ f x := by
  unfold pLI at h
  split at h
  · rename_i x hx; exact ⟨x, hx, h⟩
  · exact h.elim
theorem pLL_of {ls : eL} {i : Nat} {f : Int64 → Prop} (h : pLL ls i f) : ∃ x, ewAt ls i = some (.long x) ∧ f x := by
  unfold pLL at h
  split at h
  · rename_i x hx; exact ⟨x, hx, h⟩
  · exact h.elim
theorem pLR_of {ls : eL} {i : Nat} {f : Nat → Prop} (h : pLR ls i f) : ∃ x, ewAt ls i = some (.ref x) ∧ f x := by
  unfold pLR at h
  split at h
  · rename_i x hx; exact ⟨x, hx, h⟩
  · exact h.elim
theorem pD1_of {st : List Value} {f : Value → List Value → Prop} (h : pD1 st f) : ∃ v r, st = v :: r ∧ ewC1 v = true ∧ f v r := by
  unfold pD1 at h
  split at h
  · exact ⟨_, _, rfl, h.1, h.2⟩
  · exact h.elim
theorem pD2_of {st : List Value} {f : Value → Value → List Value → Prop} (h : pD2 st f) : ∃ v w r, st = v :: w :: r ∧ ewC1 v = true ∧ ewC1 w = true ∧ f v w r := by
  unfold pD2 at h
  split at h
  · exact ⟨_, _, _, rfl, h.1, h.2.1, h.2.2⟩
  · exact h.elim
theorem ewC1_cat {φ : Nat → Nat} {v : Value} (h : ewC1 v = true) : (ewV φ v).category = 1 := by cases v <;> first | rfl | cases h
theorem ewCl_ok {a : Nat} {C : String} {T : u_T} {N : Nat} (h : ewCl[a]? = some (C, T, N)) : a < 9 ∧ N = ewN a ∧ (∀ w ∈ u_ws C T N, w ∈ ewG) ∧ (∀ k, k < N → parseFieldDescriptor (T k).2.2.1 = some (ewty a k)) ∧ (∀ i, i < N → ∀ j, j < N → i ≠ j → (T i).2.1 ≠ (T j).2.1) := by
  match a, h with
  | 0, h => cases h; exact ⟨by decide, rfl, ewGu ewi0, ewto0, ewn0⟩
  | 1, h => cases h; exact ⟨by decide, rfl, ewGu ewi1, ewto1, ewn1⟩
  | 2, h => cases h; exact ⟨by decide, rfl, ewGu ewi2, ewto2, ewn2⟩
  | 3, h => cases h; exact ⟨by decide, rfl, ewGu ewi3, ewto3, ewn3⟩
  | 4, h => cases h; exact ⟨by decide, rfl, ewGu ewi4, ewto4, ewn4⟩
  | 5, h => cases h; exact ⟨by decide, rfl, ewGu ewi5, ewto5, ewn5⟩
  | 6, h => cases h; exact ⟨by decide, rfl, ewGu ewi6, ewto6, ewn6⟩
  | 7, h => cases h; exact ⟨by decide, rfl, ewGu ewi7, ewto7, ewn7⟩
  | 8, h => cases h; exact ⟨by decide, rfl, ewGu ewi8, ewto8, ewn8⟩
  | a + 9, h => simp [ewCl] at h
theorem ewty_ok : ∀ a, a < 9 → ∀ j, j < ewN a → (ewFT a j = 0 ∧ ewty a j = .int) ∨ (ewFT a j = 1 ∧ ewty a j = .boolean) ∨ (ewFT a j = 2 ∧ (ewty a j).isReference = true) := by decide +kernel
theorem ewRef_nar {ty : FieldType} (h : ty.isReference = true) (x : Nat) : narrow ty (.ref x) = .ref x ∧ fits ty (.ref x) = true ∧ defaultValue ty = .null := by
  cases ty <;> first | exact ⟨rfl, rfl, rfl⟩ | cases h
def ewF (M : ewMt) (d : Nat) (p : Program) (R : Room) (s : State) (m : MethodId) (args : Array Value) (meth : Method) (c : Code) : Prop :=
  p.tables.exec = Jvm.exec ∧ c.code = M.1 ∧ c.maxLocals = M.2.2.1 ∧ meth.sig.returnType = M.2.2.2.1 ∧ s.vm.findClass (ewOwn M.2.2.2.2.2.2) = some m.cls ∧ (∀ w ∈ ewG, w.before args s = true) ∧ meth.locks = false ∧ meth.name = M.2.1.name ∧ d + 1 ≤ R.frames ∧ 64 * (d + 1) ≤ R.locals ∧ M.2.2.2.2.1 ≤ R.cells ∧ M.2.2.2.2.2.1 ≤ R.slots
/-- while cells are made: the next one's address -/
def ewAl (φ : Nat → Nat) (B : Nat) (S : eS) (n : Nat) : Prop := S.1 < 229 → n = B + S.1 ∧ ∀ k, k < 229 → φ k = B + k
def ewA (D : va_G) (c4 : ClassId × ClassId × ClassId × ClassId) (φ : Nat → Nat) (B : Nat) (M : ewMt) (p : Program) (l : Launch) (e : Env) (R : Room) (s : State) (m : MethodId) (args : Array Value) (below : List Frame) (meth : Method) (c : Code) (Z : State → Prop) (pc : Nat) (ls : eL) (st : List Value) (b : Nat × Nat) (S : eS) : Prop :=
  ∀ (Ls : Array Slot) (H : Heap) (locs : List Loc), ewW D c4 φ B S H → va_S (fun q => B ≤ q) s.heap H locs → lv_has Ls M.2.2.1 (ewAsc φ 0 ls) → ls.length = M.2.2.1 → b.1 ≤ M.2.2.2.2.1 → b.2 ≤ M.2.2.2.2.2.1 → ewAl φ B S (s.heap.size + (M.2.2.2.2.1 - b.1)) → W p l e R s m args below meth c H locs (M.2.2.2.2.1 - b.1) (M.2.2.2.2.2.1 - b.2) Z (F0 m pc Ls (st.map (ewV φ)))
theorem ewFs_set {N k : Nat} (f f' : Nat → Value) (hn : ∀ j, j ≠ k → f' j = f j) : ((List.range N).map f).set k (f' k) = (List.range N).map f' := by
  apply List.ext_getElem?
  intro i
  by_cases hk : k = i
  · subst hk
    by_cases hl : k < N
    · rw [List.getElem?_set_self (by simp [hl]), List.getElem?_map, List.getElem?_range hl]; rfl
    · rw [List.getElem?_eq_none (by simp; omega), List.getElem?_eq_none (by simp; omega)]
  · rw [List.getElem?_set_ne hk, List.getElem?_map, List.getElem?_map]
    by_cases hl : i < N
    · rw [List.getElem?_range hl]
      simp [hn i (Ne.symm hk)]
    · rw [List.getElem?_eq_none (by simp; omega)]; rfl
theorem ewEnt_obj {φ : Nat → Nat} {c4 : ClassId × ClassId × ClassId × ClassId} {S : eS} {k a : Nat} (h : kK k = a) (ha : a < 9) : ewEnt φ c4 S k = .inr (a, (List.range (ewN a)).map (fun j => if ewFT a j = 2 then va_rf (ewRo φ (S.2.1 k j)) else .int (S.2.2 k j))) := by
  unfold ewEnt
  rw [h, if_pos ha]
theorem ewEnt_9 {φ : Nat → Nat} {c4 : ClassId × ClassId × ClassId × ClassId} {S : eS} {k : Nat} (h : kK k = 9) : ewEnt φ c4 S k = .inl (c4.1, kL k, .inl (S.2.2 k)) := by
  unfold ewEnt
  rw [h]; rfl
theorem ewEnt_10 {φ : Nat → Nat} {c4 : ClassId × ClassId × ClassId × ClassId} {S : eS} {k : Nat} (h : kK k = 10) : ewEnt φ c4 S k = .inl (c4.2.1, kL k, .inl (S.2.2 k)) := by
  unfold ewEnt
  rw [h]; rfl
theorem ewEnt_11 {φ : Nat → Nat} {c4 : ClassId × ClassId × ClassId × ClassId} {S : eS} {k : Nat} (h : kK k = 11) : ewEnt φ c4 S k = .inl (c4.2.2.1, kL k, .inr (.inr (.inr (.inr (fun j => ewRo φ (S.2.1 k j)))))) := by
  unfold ewEnt
  rw [h]; rfl
theorem ewEnt_12 {φ : Nat → Nat} {c4 : ClassId × ClassId × ClassId × ClassId} {S : eS} {k : Nat} (h : kK k = 12) : ewEnt φ c4 S k = .inl (c4.2.2.2, kL k, .inr (.inr (.inr (.inr (fun j => ewRo φ (S.2.1 k j)))))) := by
  unfold ewEnt
  rw [h]; rfl
section EWS
variable {X : Nat × (Nat → Int32)} {D : va_G} {c4 : ClassId × ClassId × ClassId × ClassId} {φ : Nat → Nat} {B : Nat} {M : ewMt} {d : Nat}
variable {p : Program} {l : Launch} {e : Env} {R : Room} {s : State} {m : MethodId} {args : Array Value} {below : List Frame} {meth : Method} {c : Code} {Z : State → Prop}
variable {pc : Nat} {ls : eL} {st : List Value} {b : Nat × Nat} {S : eS}
/-- the heap's rows after a row was set -/
theorem ewW_seth {H1 : Heap} {k : Nat} {f : Nat → Int32} {H : Heap} (hW : ewW D c4 φ B S H) (hP : va_P D ewCl ((ewWs φ c4 S).set k (φ k, ewEnt φ c4 (S.1, S.2.1, ewS S.2.2 k f) k)) H1) (hD : va_D (fun q => B ≤ q) ((ewWs φ c4 S).set k (φ k, ewEnt φ c4 (S.1, S.2.1, ewS S.2.2 k f) k))) : ewW D c4 φ B (S.1, S.2.1, ewS S.2.2 k f) H1 := by
  rw [ewWs_set (S := S) (S' := (S.1, S.2.1, ewS S.2.2 k f)) rfl (fun q _ hq => ewEnt_h rfl (ewS_ne _ _ hq))] at hP hD
  exact ⟨hP, hD, hW.2.2⟩
theorem ewW_setr {H1 : Heap} {k : Nat} {f : Nat → Nat} {H : Heap} (hW : ewW D c4 φ B S H) (hP : va_P D ewCl ((ewWs φ c4 S).set k (φ k, ewEnt φ c4 (S.1, ewS S.2.1 k f, S.2.2) k)) H1) (hD : va_D (fun q => B ≤ q) ((ewWs φ c4 S).set k (φ k, ewEnt φ c4 (S.1, ewS S.2.1 k f, S.2.2) k))) : ewW D c4 φ B (S.1, ewS S.2.1 k f, S.2.2) H1 := by
  rw [ewWs_set (S := S) (S' := (S.1, ewS S.2.1 k f, S.2.2)) rfl (fun q _ hq => ewEnt_h (ewS_ne _ _ hq) rfl)] at hP hD
  exact ⟨hP, hD, hW.2.2⟩
theorem ewW_size {H : Heap} {locs : List Loc} {cells slots : Nat} {g : JFrame} (h : H.size ≤ s.heap.size + cells → W p l e R s m args below meth c H locs cells slots Z g) : W p l e R s m args below meth c H locs cells slots Z g := fun T hT X => h (by have := X.same.2.2.1; rw [← hT]; exact this) T hT X
abbrev ewAA (X : Nat × (Nat → Int32)) (D : va_G) (c4 : ClassId × ClassId × ClassId × ClassId) (φ : Nat → Nat) (B : Nat) (M : ewMt) (p : Program) (l : Launch) (e : Env) (R : Room) (s : State) (m : MethodId) (args : Array Value) (below : List Frame) (meth : Method) (c : Code) (Z : State → Prop) (pc : Nat) : eK := fun ls st b S => ewA D c4 φ B M p l e R s m args below meth c Z pc ls st b S
theorem ewX_stk (hF : ewF M d p R s m args meth c) {ins : Instr} {len a bb cc : Nat} {v : Int32} (hdec : decode M.1 pc = .ok (ins, ewLn ins)) (hlk : ewLk M.2.2.2.2.2.2 (ins, len, a, bb, cc, v) = true)
    (h : ewX X (ins, len, a, bb, cc, v) ls st b S (ewAA X D c4 φ B M p l e R s m args below meth c Z (pc + ewLn ins))) (hin : ins = .iadd ∨ ins = .isub ∨ ins = .imul ∨ ins = .iand ∨ ins = .ior ∨ ins = .ixor ∨ ins = .idiv ∨ ins = .irem ∨ ins = .ishl ∨ ins = .ishr ∨ ins = .ineg ∨ ins = .i2l ∨ ins = .l2i ∨ ins = .lmul ∨ ins = .lrem ∨ ins = .lcmp ∨ ins = .dup ∨ ins = .pop ∨ ins = .dup2) : ewA D c4 φ B M p l e R s m args below meth c Z pc ls st b S := by
  obtain ⟨hx, hb, -⟩ := hF
  rcases hin with rfl | rfl | rfl | rfl | rfl | rfl | rfl | rfl | rfl | rfl | rfl | rfl | rfl | rfl | rfl | rfl | rfl | rfl | rfl
  · obtain ⟨x, y, r, rfl, h⟩ := pI2_of h
    exact fun Ls H locs a1 a2 a3 a4 a5 a6 a7 => lv_iadd hx hb hdec (h Ls H locs a1 a2 a3 a4 a5 a6 a7)
  · obtain ⟨x, y, r, rfl, h⟩ := pI2_of h
    exact fun Ls H locs a1 a2 a3 a4 a5 a6 a7 => lv_isub hx hb hdec (h Ls H locs a1 a2 a3 a4 a5 a6 a7)
  · obtain ⟨x, y, r, rfl, h⟩ := pI2_of h
    exact fun Ls H locs a1 a2 a3 a4 a5 a6 a7 => lv_imul hx hb hdec (h Ls H locs a1 a2 a3 a4 a5 a6 a7)
  · obtain ⟨x, y, r, rfl, h⟩ := pI2_of h
    exact fun Ls H locs a1 a2 a3 a4 a5 a6 a7 => lv_iand hx hb hdec (h Ls H locs a1 a2 a3 a4 a5 a6 a7)
  · obtain ⟨x, y, r, rfl, h⟩ := pI2_of h
    exact fun Ls H locs a1 a2 a3 a4 a5 a6 a7 => lv_ior hx hb hdec (h Ls H locs a1 a2 a3 a4 a5 a6 a7)
  · obtain ⟨x, y, r, rfl, h⟩ := pI2_of h
    exact fun Ls H locs a1 a2 a3 a4 a5 a6 a7 => lv_ixor hx hb hdec (h Ls H locs a1 a2 a3 a4 a5 a6 a7)
  · obtain ⟨x, y, r, rfl, h0, h⟩ := pI2_of h
    exact fun Ls H locs a1 a2 a3 a4 a5 a6 a7 => lv_idiv hx hb hdec h0 (h Ls H locs a1 a2 a3 a4 a5 a6 a7)
  · obtain ⟨x, y, r, rfl, h0, h⟩ := pI2_of h
    exact fun Ls H locs a1 a2 a3 a4 a5 a6 a7 => lv_irem hx hb hdec h0 (h Ls H locs a1 a2 a3 a4 a5 a6 a7)
  · obtain ⟨x, y, r, rfl, h⟩ := pI2_of h
    exact fun Ls H locs a1 a2 a3 a4 a5 a6 a7 => lv_ishl hx hb hdec (h Ls H locs a1 a2 a3 a4 a5 a6 a7)
  · obtain ⟨x, y, r, rfl, h⟩ := pI2_of h
    exact fun Ls H locs a1 a2 a3 a4 a5 a6 a7 => lv_ishr hx hb hdec (h Ls H locs a1 a2 a3 a4 a5 a6 a7)
  · obtain ⟨x, r, rfl, h⟩ := pI1_of h
    exact fun Ls H locs a1 a2 a3 a4 a5 a6 a7 => lv_ineg hx hb hdec (h Ls H locs a1 a2 a3 a4 a5 a6 a7)
  · obtain ⟨x, r, rfl, h⟩ := pI1_of h
    exact fun Ls H locs a1 a2 a3 a4 a5 a6 a7 => lv_i2l hx hb hdec rfl (h Ls H locs a1 a2 a3 a4 a5 a6 a7)
  · obtain ⟨x, r, rfl, h⟩ := pL1_of h
    exact fun Ls H locs a1 a2 a3 a4 a5 a6 a7 => lv_l2i hx hb hdec rfl (h Ls H locs a1 a2 a3 a4 a5 a6 a7)
  · obtain ⟨x, y, r, rfl, h⟩ := pL2_of h
    exact fun Ls H locs a1 a2 a3 a4 a5 a6 a7 => lv_lmul hx hb hdec (h Ls H locs a1 a2 a3 a4 a5 a6 a7)
  · obtain ⟨x, y, r, rfl, h0, h⟩ := pL2_of h
    exact fun Ls H locs a1 a2 a3 a4 a5 a6 a7 => lv_lrem hx hb hdec h0 (h Ls H locs a1 a2 a3 a4 a5 a6 a7)
  · obtain ⟨x, y, r, rfl, h⟩ := pL2_of h
    exact fun Ls H locs a1 a2 a3 a4 a5 a6 a7 => W.lcmp hx hb hdec (h Ls H locs a1 a2 a3 a4 a5 a6 a7)
  · obtain ⟨x, r, rfl, h0, h⟩ := pD1_of h
    exact fun Ls H locs a1 a2 a3 a4 a5 a6 a7 => lv_dup hx hb hdec (ewC1_cat h0) (h Ls H locs a1 a2 a3 a4 a5 a6 a7)
  · obtain ⟨x, r, rfl, h0, h⟩ := pD1_of h
    exact fun Ls H locs a1 a2 a3 a4 a5 a6 a7 => lv_pop hx hb hdec (ewC1_cat h0) (h Ls H locs a1 a2 a3 a4 a5 a6 a7)
  · obtain ⟨x, y, r, rfl, h0, h1, h⟩ := pD2_of h
    exact fun Ls H locs a1 a2 a3 a4 a5 a6 a7 => lv_dup2_11 hx hb hdec (ewC1_cat h0) (ewC1_cat h1) (h Ls H locs a1 a2 a3 a4 a5 a6 a7)
end EWS
