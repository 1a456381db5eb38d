/-! the reference: areApart -/
def pAp (h : Nat → Nat → Int32) : Nat → Bool
  | 0 => true
  | s + 1 => pAp h s && ! pTk h (h 215 s) (h 216 s) (h 217 s) (nI s) (gN h)
def f_Mo_areApart (h : Nat → Nat → Int32) : Int32 := bI (pAp h (gN h))
def p_Mo_areApart (h : Nat → Nat → Int32) : Prop := h 194 0 = nI (gN h) ∧ gN h ≤ 8
theorem s_Mo_areApart {X : Nat × (Nat → Int32)} {d : Nat} {Q : Option Value → eS → Prop} {cu sp n1 n2 n3 n4 : Nat} (h : Nat → Nat → Int32) (hp : p_Mo_areApart h) (z9 : Q (some (.int (f_Mo_areApart h))) (229, (ewR cu sp n1 n2 n3 n4), h)) : ewP X Mo_areApart (d + 1) 0 [some (.ref 194), none, none] [] (0, 0) (229, (ewR cu sp n1 n2 n3 n4), h) Q := by
  obtain ⟨a1, h8⟩ := id hp
  refine v_Mo_areApart_0 h ?_
  refine upto (H := Unit) (P := fun _ _ => True) (E := fun s _ => ewP X Mo_areApart (d + 1) 4 [some (.ref 194), some (.int (bI (pAp h s))), some (.int (nI s))] [] (0, 0) (229, ewR cu sp n1 n2 n3 n4, h) Q) (gN h) ?_ ?_ 0 () (by omega) trivial
  · intro s _ hs _ next
    have next := next () trivial
    have hlt : nI s < h 194 0 := by rw [a1]; exact nI_lt hs (by omega)
    refine v_Mo_areApart_4 _ _ h (fun q => absurd hlt q) (fun q => absurd hlt q) (fun _ _ => nI_inB (by omega) (by decide)) (fun _ _ => hp) (fun _ => ?_)
    rw [nI_clamp (by omega), ← nI_succ]
    have e : (if ¬ (bI (pAp h s) = 0) ∧ (f_Mo_isTaken h (h 215 s) (h 216 s) (h 217 s) (nI s) = 0) then (1 : Int32) else 0) = bI (pAp h (s + 1)) := by
      show _ = bI (pAp h s && ! pTk h (h 215 s) (h 216 s) (h 217 s) (nI s) (gN h))
      unfold f_Mo_isTaken
      generalize pAp h s = a
      generalize pTk h (h 215 s) (h 216 s) (h 217 s) (nI s) (gN h) = b
      cases a <;> cases b <;> decide
    rw [e]
    exact next
  · intro _ _
    have hlt : ¬ nI (gN h) < h 194 0 := by rw [a1]; exact nI_nlt (Nat.le_refl _) (by omega)
    exact v_Mo_areApart_4 _ _ h (fun _ => z9) (fun _ => bI_01 _) (fun q => absurd q hlt) (fun q => absurd q hlt) (fun q => absurd q hlt)
theorem pTk_iff {h : Nat → Nat → Int32} {x1 x2 x3 x4 : Int32} : ∀ n, pTk h x1 x2 x3 x4 n = true ↔ ∃ s, s < n ∧ ¬ nI s = x4 ∧ h 215 s = x1 ∧ h 216 s = x2 ∧ h 217 s = x3
  | 0 => by simp [pTk]
  | n + 1 => by
    show (pTk h x1 x2 x3 x4 n || decide (¬ (nI n = x4) ∧ (h 215 n = x1 ∧ (h 216 n = x2 ∧ h 217 n = x3)))) = true ↔ _
    rw [Bool.or_eq_true, decide_eq_true_iff, pTk_iff n]
    constructor
    · rintro (⟨s, h1, h2⟩ | h2)
      · exact ⟨s, by omega, h2⟩
      · exact ⟨n, by omega, h2⟩
    · rintro ⟨s, h1, h2⟩
      by_cases q : s = n
      · subst q; exact Or.inr h2
      · exact Or.inl ⟨s, by omega, h2⟩
theorem pAp_iff {h : Nat → Nat → Int32} : ∀ n, pAp h n = true ↔ ∀ s, s < n → pTk h (h 215 s) (h 216 s) (h 217 s) (nI s) (gN h) = false
  | 0 => by simp [pAp]
  | n + 1 => by
    show (pAp h n && ! pTk h (h 215 n) (h 216 n) (h 217 n) (nI n) (gN h)) = true ↔ _
    rw [Bool.and_eq_true, pAp_iff n]
    constructor
    · rintro ⟨h1, h2⟩ s hs
      by_cases q : s = n
      · subst q; simpa using h2
      · exact h1 s (by omega)
    · intro h1
      exact ⟨fun s hs => h1 s (by omega), by rw [h1 n (by omega)]; rfl⟩
/-- no two stations of a tree lie at one place -/
def pfP (A B : Nat → Nat) (n m : Nat) (dx dy : Nat → Int32) : Prop := ∀ s t, s < n → t < n → s ≠ t → plb A B m s = plb A B m t → ¬ (ppx A B dx m s = ppx A B dx m t ∧ ppx A B dy m s = ppx A B dy m t)
def pfB (A B : Nat → Nat) (n m : Nat) (dx dy : Nat → Int32) : Bool := (List.range n).all fun s => (List.range n).all fun t => decide (s = t ∨ ¬ plb A B m s = plb A B m t ∨ ¬ (ppx A B dx m s = ppx A B dx m t ∧ ppx A B dy m s = ppx A B dy m t))
theorem pfB_iff {A B : Nat → Nat} {n m : Nat} {dx dy : Nat → Int32} : pfB A B n m dx dy = true ↔ pfP A B n m dx dy := by
  unfold pfB pfP
  simp only [List.all_eq_true, List.mem_range, decide_eq_true_iff]
  constructor
  · intro h s t hs ht hne hp
    rcases h s hs t ht with q | q | q
    · exact absurd q hne
    · exact absurd hp q
    · exact q
  · intro h s hs t ht
    by_cases q1 : s = t
    · exact Or.inl q1
    · by_cases q2 : plb A B m s = plb A B m t
      · exact Or.inr (Or.inr (h s t hs ht q1 q2))
      · exact Or.inr (Or.inl q2)
theorem ppx_congr {A B : Nat → Nat} {dx dx' : Nat → Int32} : ∀ k, (∀ e, e < k → dx e = dx' e) → ∀ s, ppx A B dx k s = ppx A B dx' k s
  | 0, _, _ => rfl
  | k + 1, h, s => by
    have ih := ppx_congr (A := A) (B := B) k (fun e he => h e (by omega))
    unfold ppx
    rw [ih, ih, ih, h k (by omega)]
theorem i32_f (a b r : Int32) : (a - r = b - r) ↔ a = b := by constructor <;> intro h <;> grind
/-- as the reference tells it -/
theorem pAp_n {h : Nat → Nat → Int32} {A B : Nat → Nat} {n m : Nat} {dx dy : Nat → Int32} (h8 : n ≤ 8) (hn : gN h = n) (hr : ∀ s, s < n → h 215 s = nI (prt (plb A B m) s)) (hx : ∀ s, s < n → h 216 s = ppx A B dx m s - ppx A B dx m (prt (plb A B m) s) ∧ h 217 s = ppx A B dy m s - ppx A B dy m (prt (plb A B m) s)) : pAp h (gN h) = pfB A B n m dx dy := by
  rw [Bool.eq_iff_iff, pfB_iff, pAp_iff, hn]
  unfold pfP
  constructor
  · intro h1 s t hs ht hne hp hc
    have q := h1 s hs
    rw [Bool.eq_false_iff] at q
    refine q ((pTk_iff n).mpr ⟨t, ht, fun z => hne ((nI_eq (by omega) (by omega)).mp z).symm, ?_, ?_, ?_⟩)
    · rw [hr t ht, hr s hs, prt_eq hp]
    · rw [(hx t ht).1, (hx s hs).1, prt_eq hp, hc.1]
    · rw [(hx t ht).2, (hx s hs).2, prt_eq hp, hc.2]
  · intro h1 s hs
    rw [Bool.eq_false_iff]
    intro q
    obtain ⟨t, ht, q1, q2, q3, q4⟩ := (pTk_iff n).mp q
    rw [hr t ht, hr s hs] at q2
    have l1 := (prt_at (plb A B m) t).2.1
    have l2 := (prt_at (plb A B m) s).2.1
    have e1 := (nI_eq (by omega) (by omega)).mp q2
    have hp : plb A B m s = plb A B m t := by
      rw [← (prt_at (plb A B m) s).1, ← e1, (prt_at (plb A B m) t).1]
    rw [(hx t ht).1, (hx s hs).1, e1] at q3
    rw [(hx t ht).2, (hx s hs).2, e1] at q4
    exact h1 s t hs ht (fun z => q1 (by rw [z])) hp ⟨((i32_f _ _ _).mp q3).symm, ((i32_f _ _ _).mp q4).symm⟩
