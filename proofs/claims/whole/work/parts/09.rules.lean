/-! THE RULES: rows of instructions, returns, calls, contracts -/
section EWM
variable {st : List Value}
theorem pI1_m {f g : Int32 → List Value → Prop} (hf : ∀ x r, f x r → g x r) (h : pI1 st f) : pI1 st g := by obtain ⟨x, r, rfl, h⟩ := pI1_of h; exact hf _ _ h
theorem pI2_m {f g : Int32 → Int32 → List Value → Prop} (hf : ∀ x y r, f x y r → g x y r) (h : pI2 st f) : pI2 st g := by obtain ⟨x, y, r, rfl, h⟩ := pI2_of h; exact hf _ _ _ h
theorem pL1_m {f g : Int64 → List Value → Prop} (hf : ∀ x r, f x r → g x r) (h : pL1 st f) : pL1 st g := by obtain ⟨x, r, rfl, h⟩ := pL1_of h; exact hf _ _ h
theorem pL2_m {f g : Int64 → Int64 → List Value → Prop} (hf : ∀ x y r, f x y r → g x y r) (h : pL2 st f) : pL2 st g := by obtain ⟨x, y, r, rfl, h⟩ := pL2_of h; exact hf _ _ _ h
theorem pR1_m {f g : Nat → List Value → Prop} (hf : ∀ x r, f x r → g x r) (h : pR1 st f) : pR1 st g := by obtain ⟨x, r, rfl, h⟩ := pR1_of h; exact hf _ _ h
theorem pRR_m {f g : Nat → Nat → List Value → Prop} (hf : ∀ x y r, f x y r → g x y r) (h : pRR st f) : pRR st g := by obtain ⟨x, y, r, rfl, h⟩ := pRR_of h; exact hf _ _ _ h
theorem pIR_m {f g : Nat → Int32 → List Value → Prop} (hf : ∀ x y r, f x y r → g x y r) (h : pIR st f) : pIR st g := by obtain ⟨x, y, r, rfl, h⟩ := pIR_of h; exact hf _ _ _ h
theorem pIIR_m {f g : Nat → Int32 → Int32 → List Value → Prop} (hf : ∀ x y z r, f x y z r → g x y z r) (h : pIIR st f) : pIIR st g := by obtain ⟨x, y, z, r, rfl, h⟩ := pIIR_of h; exact hf _ _ _ _ h
theorem pRIR_m {f g : Nat → Int32 → Nat → List Value → Prop} (hf : ∀ x y z r, f x y z r → g x y z r) (h : pRIR st f) : pRIR st g := by obtain ⟨x, y, z, r, rfl, h⟩ := pRIR_of h; exact hf _ _ _ _ h
theorem pCpy_m {f g : Nat → Int32 → Nat → Int32 → Int32 → List Value → Prop} (hf : ∀ x y z u v r, f x y z u v r → g x y z u v r) (h : pCpy st f) : pCpy st g := by obtain ⟨x, y, z, u, v, r, rfl, h⟩ := pCpy_of h; exact hf _ _ _ _ _ _ h
theorem pD1_m {f g : Value → List Value → Prop} (hf : ∀ x r, f x r → g x r) (h : pD1 st f) : pD1 st g := by obtain ⟨x, r, rfl, h0, h⟩ := pD1_of h; exact ⟨h0, hf _ _ h⟩
theorem pD2_m {f g : Value → Value → List Value → Prop} (hf : ∀ x y r, f x y r → g x y r) (h : pD2 st f) : pD2 st g := by obtain ⟨x, y, r, rfl, h0, h1, h⟩ := pD2_of h; exact ⟨h0, h1, hf _ _ _ h⟩
variable {ls : eL} {i : Nat}
theorem pLI_m {f g : Int32 → Prop} (hf : ∀ x, f x → g x) (h : pLI ls i f) : pLI ls i g := by unfold pLI at h ⊢; split at h <;> first | exact hf _ h | exact h.elim
theorem pLL_m {f g : Int64 → Prop} (hf : ∀ x, f x → g x) (h : pLL ls i f) : pLL ls i g := by unfold pLL at h ⊢; split at h <;> first | exact hf _ h | exact h.elim
theorem pLR_m {f g : Nat → Prop} (hf : ∀ x, f x → g x) (h : pLR ls i f) : pLR ls i g := by unfold pLR at h ⊢; split at h <;> first | exact hf _ h | exact h.elim
end EWM
set_option maxHeartbeats 4000000 in
theorem ewX_m {X : Nat × (Nat → Int32)} {i : eI} {ls : eL} {st : List Value} {b : Nat × Nat} {S : eS} {k k' : eK} (hk : ∀ ls st b S, k ls st b S → k' ls st b S) (h : ewX X i ls st b S k) : ewX X i ls st b S k' := by
  obtain ⟨ins, len, a, bb, cc, v⟩ := i
  cases ins with
  | iload_n n => exact pLI_m (fun _ h => hk _ _ _ _ h) h
  | iload n => exact pLI_m (fun _ h => hk _ _ _ _ h) h
  | lload_n n => exact pLL_m (fun _ h => hk _ _ _ _ h) h
  | lload n => exact pLL_m (fun _ h => hk _ _ _ _ h) h
  | aload_n n => exact pLR_m (fun _ h => hk _ _ _ _ h) h
  | istore_n n => exact pI1_m (fun _ _ h => ⟨h.1, hk _ _ _ _ h.2⟩) h
  | istore n => exact pI1_m (fun _ _ h => ⟨h.1, hk _ _ _ _ h.2⟩) h
  | astore_n n => exact pR1_m (fun _ _ h => ⟨h.1, hk _ _ _ _ h.2⟩) h
  | lstore_n n => exact pL1_m (fun _ _ h => ⟨h.1, hk _ _ _ _ h.2⟩) h
  | iconst n => exact hk _ _ _ _ h
  | bipush n => exact hk _ _ _ _ h
  | sipush n => exact hk _ _ _ _ h
  | ldc n => exact hk _ _ _ _ h
  | ldc_w n => exact hk _ _ _ _ h
  | lconst n => exact hk _ _ _ _ h
  | ldc2_w n => exact hk _ _ _ _ h
  | iadd => exact pI2_m (fun _ _ _ h => hk _ _ _ _ h) h
  | isub => exact pI2_m (fun _ _ _ h => hk _ _ _ _ h) h
  | imul => exact pI2_m (fun _ _ _ h => hk _ _ _ _ h) h
  | iand => exact pI2_m (fun _ _ _ h => hk _ _ _ _ h) h
  | ior => exact pI2_m (fun _ _ _ h => hk _ _ _ _ h) h
  | ixor => exact pI2_m (fun _ _ _ h => hk _ _ _ _ h) h
  | idiv => exact pI2_m (fun _ _ _ h => ⟨h.1, hk _ _ _ _ h.2⟩) h
  | irem => exact pI2_m (fun _ _ _ h => ⟨h.1, hk _ _ _ _ h.2⟩) h
  | ishl => exact pI2_m (fun _ _ _ h => hk _ _ _ _ h) h
  | ishr => exact pI2_m (fun _ _ _ h => hk _ _ _ _ h) h
  | ineg => exact pI1_m (fun _ _ h => hk _ _ _ _ h) h
  | iinc n w => exact pLI_m (fun _ h => hk _ _ _ _ h) h
  | i2l => exact pI1_m (fun _ _ h => hk _ _ _ _ h) h
  | l2i => exact pL1_m (fun _ _ h => hk _ _ _ _ h) h
  | lmul => exact pL2_m (fun _ _ _ h => hk _ _ _ _ h) h
  | lrem => exact pL2_m (fun _ _ _ h => ⟨h.1, hk _ _ _ _ h.2⟩) h
  | lcmp => exact pL2_m (fun _ _ _ h => hk _ _ _ _ h) h
  | dup => exact pD1_m (fun _ _ h => hk _ _ _ _ h) h
  | pop => exact pD1_m (fun _ _ h => hk _ _ _ _ h) h
  | dup2 => exact pD2_m (fun _ _ _ h => hk _ _ _ _ h) h
  | getfield n =>
    refine pR1_m (fun q r h => ⟨h.1, ?_⟩) h
    have h2 := h.2
    revert h2
    dsimp only
    split
    · exact fun h => hk _ _ _ _ h
    · exact fun h => hk _ _ _ _ h
    · exact fun h => ⟨h.1, hk _ _ _ _ h.2⟩
    · exact fun h => ⟨h.1, hk _ _ _ _ h.2⟩
  | putfield n =>
    unfold ewX at h ⊢
    revert h
    dsimp only
    split
    · exact fun h => pRR_m (fun _ _ _ h => ⟨h.1, h.2.1, hk _ _ _ _ h.2.2⟩) h
    · exact fun h => pIR_m (fun _ _ _ h => ⟨h.1, h.2.1, hk _ _ _ _ h.2.2⟩) h
    · exact fun h => pIR_m (fun _ _ _ h => ⟨h.1, hk _ _ _ _ h.2⟩) h
  | getstatic n => exact hk _ _ _ _ h
  | iaload =>
    unfold ewX at h ⊢
    revert h
    dsimp only
    split
    · exact fun h => pIR_m (fun _ _ _ h => ⟨h.1, h.2.1, hk _ _ _ _ h.2.2⟩) h
    · exact fun h => pIR_m (fun _ _ _ h => ⟨h.1, h.2.1, hk _ _ _ _ h.2.2⟩) h
    · exact fun h => pIR_m (fun _ _ _ h => ⟨h.1, h.2.1, hk _ _ _ _ h.2.2⟩) h
  | baload => exact pIR_m (fun _ _ _ h => ⟨h.1, h.2.1, hk _ _ _ _ h.2.2⟩) h
  | aaload => exact pIR_m (fun _ _ _ h => ⟨h.1, h.2.1, h.2.2.1, hk _ _ _ _ h.2.2.2⟩) h
  | iastore => exact pIIR_m (fun _ _ _ _ h => ⟨h.1, h.2.1, hk _ _ _ _ h.2.2⟩) h
  | bastore => exact pIIR_m (fun _ _ _ _ h => ⟨h.1, h.2.1, h.2.2.1, hk _ _ _ _ h.2.2.2⟩) h
  | aastore => exact pRIR_m (fun _ _ _ _ h => ⟨h.1, h.2.1, h.2.2.1, h.2.2.2.1, hk _ _ _ _ h.2.2.2.2⟩) h
  | arraylength =>
    refine pR1_m (fun q r h => ?_) h
    revert h
    dsimp only
    split
    · exact fun h => ⟨h.1, hk _ _ _ _ h.2⟩
    · exact fun h => ⟨h.1, hk _ _ _ _ h.2⟩
  | new n => exact ⟨h.1, h.2.1, h.2.2.1, h.2.2.2.1, h.2.2.2.2.1, h.2.2.2.2.2.1, hk _ _ _ _ h.2.2.2.2.2.2⟩
  | newarray n => exact pI1_m (fun _ _ h => ⟨h.1, h.2.1, h.2.2.1, h.2.2.2.1, h.2.2.2.2.1, h.2.2.2.2.2.1, h.2.2.2.2.2.2.1, hk _ _ _ _ h.2.2.2.2.2.2.2⟩) h
  | anewarray n => exact pI1_m (fun _ _ h => ⟨h.1, h.2.1, h.2.2.1, h.2.2.2.1, h.2.2.2.2.1, h.2.2.2.2.2.1, h.2.2.2.2.2.2.1, hk _ _ _ _ h.2.2.2.2.2.2.2⟩) h
  | invokespecial n => exact pR1_m (fun _ _ h => ⟨h.1, hk _ _ _ _ h.2⟩) h
  | invokestatic n => exact pCpy_m (fun _ _ _ _ _ _ h => ⟨h.1, h.2.1, h.2.2.1, h.2.2.2.1, h.2.2.2.2.1, h.2.2.2.2.2.1, h.2.2.2.2.2.2.1, h.2.2.2.2.2.2.2.1, hk _ _ _ _ h.2.2.2.2.2.2.2.2⟩) h
  | _ => exact h.elim
/-- a return of v at pc -/
def ewRet (M : ewMt) (pc : Nat) (v : Option Value) : Prop := match M.2.2.2.1 with
  | none => v = none ∧ decode M.1 pc = .ok (.return_, 1)
  | some .int => (∃ x, v = some (.int x)) ∧ decode M.1 pc = .ok (.ireturn, 1)
  | some .boolean => (∃ x, v = some (.int x) ∧ (x = 0 ∨ x = 1)) ∧ decode M.1 pc = .ok (.ireturn, 1)
  | some (.object _) => (∃ k, v = some (.ref k)) ∧ decode M.1 pc = .ok (.areturn, 1)
  | _ => False
/-- THE JUDGEMENT: from this frame the method returns, with an answer and a heap of which Q holds -/
def ewP (X : Nat × (Nat → Int32)) (M : ewMt) (d : Nat) (pc : Nat) (ls : eL) (st : List Value) (b : Nat × Nat) (S : eS) (Q : Option Value → eS → Prop) : Prop :=
  ∀ (D : va_G) (c4 : ClassId × ClassId × ClassId × ClassId) (φ : Nat → Nat) (B : Nat) (p : Program) (l : Launch) (e : Env) (R : Room) (s : State) (m : MethodId) (args : Array Value) (below : List Frame) (meth : Method) (c : Code) (Z : State → Prop),
    ewF M d p R s m args meth c → ewE X D c4 φ B s s.heap →
    (∀ (v : Option Value) (S' : eS) (b' : Nat × Nat) (pc' : Nat) (Ls : Array Slot) (H : Heap) (locs : List Loc), Q v S' → ewW D c4 φ B S' H → va_S (fun q => B ≤ q) s.heap H locs → b'.1 ≤ M.2.2.2.2.1 → b'.2 ≤ M.2.2.2.2.2.1 → ewRet M pc' v → ewAl φ B S' (s.heap.size + (M.2.2.2.2.1 - b'.1)) →
      W p l e R s m args below meth c H locs (M.2.2.2.2.1 - b'.1) (M.2.2.2.2.2.1 - b'.2) Z (F0 m pc' Ls (v.toList.map (ewV φ)))) →
    ewA D c4 φ B M p l e R s m args below meth c Z pc ls st b S
section EWR
variable {X : Nat × (Nat → Int32)} {M : ewMt} {d pc : Nat} {ls : eL} {st : List Value} {b : Nat × Nat} {S : eS} {Q : Option Value → eS → Prop}
theorem ewP_ret {v : Option Value} (hr : ewRet M pc v) (hQ : Q v S) : ewP X M d pc ls v.toList b S Q := by
  intro D c4 φ B p l e R s m args below meth c Z hF hE hret Ls H locs a1 a2 a3 a4 a5 a6 a7
  exact hret v S b pc Ls H locs hQ a1 a2 a5 a6 hr a7
theorem ewP_m {Q' : Option Value → eS → Prop} (hQ : ∀ v S, Q v S → Q' v S) (h : ewP X M d pc ls st b S Q) : ewP X M d pc ls st b S Q' := by
  intro D c4 φ B p l e R s m args below meth c Z hF hE hret
  exact h D c4 φ B p l e R s m args below meth c Z hF hE (fun v S' b' pc' Ls H locs h0 => hret v S' b' pc' Ls H locs (hQ _ _ h0))
theorem ewB_ok {is : List eI} {k : Nat → eK} : ∀ {pc : Nat} {ls : eL} {st : List Value} {b : Nat × Nat} {S : eS}, ewCk M pc is = true → ewCw M is → (∀ pc ls st b S, k pc ls st b S → ewP X M d pc ls st b S Q) → ewB X is pc ls st b S k → ewP X M d pc ls st b S Q := by
  induction is with
  | nil => intro pc ls st b S _ _ hk h; exact hk _ _ _ _ _ h
  | cons i is ih =>
    intro pc ls st b S hck hcw hk h
    have hck' : (decide (decode M.1 pc = .ok (i.1, i.2.1)) && Nat.beq i.2.1 (ewLn i.1) && ewLk M.2.2.2.2.2.2 i && ewJp M pc i && ewCk M (pc + i.2.1) is) = true := hck
    simp only [Bool.and_eq_true, decide_eq_true_eq] at hck'
    obtain ⟨⟨⟨⟨hdec, hln⟩, hlk⟩, hjp⟩, hck2⟩ := hck'
    intro D c4 φ B p l e R s m args below meth c Z hF hE hret
    have go : ∀ {pc' : Nat} {ls' : eL} {st' : List Value} {b' : Nat × Nat} {S' : eS}, k pc' ls' st' b' S' → ewA D c4 φ B M p l e R s m args below meth c Z pc' ls' st' b' S' := fun h => hk _ _ _ _ _ h D c4 φ B p l e R s m args below meth c Z hF hE hret
    have straight : ewX X i ls st b S (fun ls st b S => ewB X is (pc + i.2.1) ls st b S k) → ewA D c4 φ B M p l e R s m args below meth c Z pc ls st b S := fun h =>
      ewX_ok hF hE hdec hln hlk hjp hcw.1 (ewX_m (fun ls st b S h => ih hck2 hcw.2 hk h D c4 φ B p l e R s m args below meth c Z hF hE hret) h)
    obtain ⟨ins, len, a, bb, cc, v⟩ := i
    have e1 : len = ewLn ins := Nat.eq_of_beq_eq_true hln
    subst e1
    dsimp only at hdec
    obtain ⟨hx, hb, -⟩ := id hF
    unfold ewB at h
    dsimp only at h
    split at h
    · rename_i off
      exact fun Ls H locs a1 a2 a3 a4 a5 a6 a7 => lv_goto hx hb hdec (of_decide_eq_true hjp) (go h Ls H locs a1 a2 a3 a4 a5 a6 a7)
    · rename_i cd off
      obtain ⟨x, r, rfl, h⟩ := pI1_of h
      intro Ls H locs a1 a2 a3 a4 a5 a6 a7
      cases cd with
      | eq => exact lv_if_eq hx hb hdec (of_decide_eq_true hjp) (fun q => go (h.1 q) Ls H locs a1 a2 a3 a4 a5 a6 a7) (fun q => go (h.2 q) Ls H locs a1 a2 a3 a4 a5 a6 a7)
      | ne => exact lv_if_ne hx hb hdec (of_decide_eq_true hjp) (fun q => go (h.1 q) Ls H locs a1 a2 a3 a4 a5 a6 a7) (fun q => go (h.2 q) Ls H locs a1 a2 a3 a4 a5 a6 a7)
      | lt => exact lv_if_lt hx hb hdec (of_decide_eq_true hjp) (fun q => go (h.1 q) Ls H locs a1 a2 a3 a4 a5 a6 a7) (fun q => go (h.2 q) Ls H locs a1 a2 a3 a4 a5 a6 a7)
      | ge => exact lv_if_ge hx hb hdec (of_decide_eq_true hjp) (fun q => go (h.1 (Int32.not_lt.mpr q)) Ls H locs a1 a2 a3 a4 a5 a6 a7) (fun q => go (h.2 (Int32.not_le.mp q)) Ls H locs a1 a2 a3 a4 a5 a6 a7)
      | gt => exact lv_if_gt hx hb hdec (of_decide_eq_true hjp) (fun q => go (h.1 q) Ls H locs a1 a2 a3 a4 a5 a6 a7) (fun q => go (h.2 q) Ls H locs a1 a2 a3 a4 a5 a6 a7)
      | le => exact lv_if_le hx hb hdec (of_decide_eq_true hjp) (fun q => go (h.1 (Int32.not_lt.mpr q)) Ls H locs a1 a2 a3 a4 a5 a6 a7) (fun q => go (h.2 (Int32.not_le.mp q)) Ls H locs a1 a2 a3 a4 a5 a6 a7)
    · rename_i cd off
      obtain ⟨x, y, r, rfl, h⟩ := pI2_of h
      intro Ls H locs a1 a2 a3 a4 a5 a6 a7
      cases cd with
      | eq => exact lv_icmp_eq hx hb hdec (of_decide_eq_true hjp) (fun q => go (h.1 q) Ls H locs a1 a2 a3 a4 a5 a6 a7) (fun q => go (h.2 q) Ls H locs a1 a2 a3 a4 a5 a6 a7)
      | ne => exact lv_icmp_ne hx hb hdec (of_decide_eq_true hjp) (fun q => go (h.1 q) Ls H locs a1 a2 a3 a4 a5 a6 a7) (fun q => go (h.2 q) Ls H locs a1 a2 a3 a4 a5 a6 a7)
      | lt => exact lv_icmp_lt hx hb hdec (of_decide_eq_true hjp) (fun q => go (h.1 q) Ls H locs a1 a2 a3 a4 a5 a6 a7) (fun q => go (h.2 q) Ls H locs a1 a2 a3 a4 a5 a6 a7)
      | ge => exact lv_icmp_ge hx hb hdec (of_decide_eq_true hjp) (fun q => go (h.1 (Int32.not_lt.mpr q)) Ls H locs a1 a2 a3 a4 a5 a6 a7) (fun q => go (h.2 (Int32.not_le.mp q)) Ls H locs a1 a2 a3 a4 a5 a6 a7)
      | gt => exact lv_icmp_gt hx hb hdec (of_decide_eq_true hjp) (fun q => go (h.1 q) Ls H locs a1 a2 a3 a4 a5 a6 a7) (fun q => go (h.2 q) Ls H locs a1 a2 a3 a4 a5 a6 a7)
      | le => exact lv_icmp_le hx hb hdec (of_decide_eq_true hjp) (fun q => go (h.1 (Int32.not_lt.mpr q)) Ls H locs a1 a2 a3 a4 a5 a6 a7) (fun q => go (h.2 (Int32.not_le.mp q)) Ls H locs a1 a2 a3 a4 a5 a6 a7)
    · exact straight h
/-- a row of instructions -/
theorem ewP_b (is : List eI) (hck : ewCk M pc is = true) (hcw : ewCw M is) (h : ewB X is pc ls st b S (fun pc ls st b S => ewP X M d pc ls st b S Q)) : ewP X M d pc ls st b S Q := ewB_ok hck hcw (fun _ _ _ _ _ h => h) h
end EWR
