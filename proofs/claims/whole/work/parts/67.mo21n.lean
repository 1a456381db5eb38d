/-! the reference: pick, isLeft, within -/
def pbt (s l : Nat) : Nat := s / 2 ^ l % 2
def pbc (s : Nat) : Nat := pbt s 0 + pbt s 1 + pbt s 2
/-- how many of a set are not less than l -/
def pbf (s : Nat) : Nat → Nat → Nat
  | 0, _ => 0
  | k + 1, l => pbt s l + pbf s k (l + 1)
/-- the k-th of a set, from l on -/
def ppk (s : Nat) : Nat → Nat → Nat → Nat
  | 0, _, l => l
  | f + 1, k, l => if pbt s l = 0 then ppk s f k (l + 1) else if k = 0 then l else ppk s f (k - 1) (l + 1)
theorem bits_n {s : Nat} (hs : s < 8) : f_Mo_bits (nI s) = nI (pbc s) := by
  have h : ∀ s : Fin 8, f_Mo_bits (nI s.1) = nI (pbc s.1) := by decide +kernel
  exact h ⟨s, hs⟩
theorem pbc_le {s : Nat} : pbc s ≤ 3 := by
  unfold pbc pbt; omega
theorem bit_n {s l : Nat} (hs : s < 8) (hl : l < 3) : (nI s >>> ((nI l : Int32) &&& 31)) &&& 1 = nI (pbt s l) := by
  have h : ∀ (s : Fin 8) (l : Fin 3), (nI s.1 >>> ((nI l.1 : Int32) &&& 31)) &&& 1 = nI (pbt s.1 l.1) := by decide +kernel
  exact h ⟨s, hs⟩ ⟨l, hl⟩
def f_Mo_pick (_ : Nat → Nat → Int32) (x0 x1 : Int32) : Int32 := nI (ppk x0.toNatClampNeg 3 x1.toNatClampNeg 0)
def p_Mo_pick (_ : Nat → Nat → Int32) (x0 x1 : Int32) : Prop := ∃ s k, s < 8 ∧ k < pbc s ∧ x0 = nI s ∧ x1 = nI k
theorem s_Mo_pick {X : Nat × (Nat → Int32)} {d : Nat} {Q : Option Value → eS → Prop} {cu sp n1 n2 n3 n4 : Nat} (x0 x1 : Int32) (h : Nat → Nat → Int32) (hp : p_Mo_pick h x0 x1) (z9 : Q (some (.int (f_Mo_pick h x0 x1))) (229, (ewR cu sp n1 n2 n3 n4), h)) : ewP X Mo_pick (d + 0) 0 [some (.int x0), some (.int x1), none, none] [] (0, 0) (229, (ewR cu sp n1 n2 n3 n4), h) Q := by
  obtain ⟨s, k, hs, hk, rfl, rfl⟩ := hp
  have h3 := pbc_le (s := s)
  unfold f_Mo_pick at z9
  rw [nI_clamp (by omega), nI_clamp (by omega)] at z9
  have key : ∀ f k l, f + l = 3 → k < pbf s f l → Q (some (.int (nI (ppk s f k l)))) (229, (ewR cu sp n1 n2 n3 n4), h) → ∀ x1 : Int32, ewP X Mo_pick (d + 0) 4 [some (.int (nI s)), some (.int x1), some (.int (nI k)), some (.int (nI l))] [] (0, 0) (229, ewR cu sp n1 n2 n3 n4, h) Q := by
    intro f
    induction f with
    | zero => intro k l hl hk2; exact absurd hk2 (Nat.not_lt_zero _)
    | succ f ih =>
      intro k l hl hk2 z x1
      have b := bit_n hs (show l < 3 by omega)
      have hb2 : pbt s l < 2 := Nat.mod_lt _ (by omega)
      have z : Q (some (.int (nI (if pbt s l = 0 then ppk s f k (l + 1) else if k = 0 then l else ppk s f (k - 1) (l + 1))))) (229, (ewR cu sp n1 n2 n3 n4), h) := z
      have hk2 : k < pbt s l + pbf s f (l + 1) := hk2
      have kb : k < 2 ^ 31 := by
        have : pbf s f (l + 1) ≤ f := by
          have : ∀ f l, pbf s f l ≤ f := by
            intro f
            induction f with
            | zero => intro l; exact Nat.le_refl _
            | succ f ih => intro l; show pbt s l + pbf s f (l + 1) ≤ f + 1; have := ih (l + 1); have : pbt s l < 2 := Nat.mod_lt _ (by omega); omega
          exact this f (l + 1)
        omega
      refine v_Mo_pick_4 _ _ _ _ h (fun q => ?_) (fun q1 q2 => ?_) (fun q1 q2 => ?_)
      · rw [b] at q
        have b0 : pbt s l = 0 := (nI_eq (b := 0) (by omega) (by omega)).mp q
        rw [b, b0, ← nI_succ, nI_sub (Nat.zero_le _)]
        rw [if_pos b0] at z
        exact ih k (l + 1) (by omega) (by omega) z _
      · rw [b] at q1
        have b0 : ¬ pbt s l = 0 := fun e => q1 (by rw [e]; rfl)
        have k0 : k = 0 := by
          by_cases e : k = 0
          · exact e
          · exact absurd ((nI_pos2 kb).mpr e) q2
        rw [if_neg b0, if_pos k0] at z
        exact z
      · rw [b] at q1
        have b0 : ¬ pbt s l = 0 := fun e => q1 (by rw [e]; rfl)
        have k0 : k ≠ 0 := (nI_pos2 kb).mp q2
        rw [if_neg b0, if_neg k0] at z
        rw [b, show pbt s l = 1 by omega, ← nI_succ, nI_sub (by omega)]
        exact ih (k - 1) (l + 1) (by omega) (by omega) z _
  refine v_Mo_pick_0 _ _ h ?_
  exact key 3 k 0 (by omega) (by unfold pbc at hk; show k < pbt s 0 + (pbt s 1 + (pbt s 2 + 0)); omega) z9 _
/-- whether x has come, and whether o came behind it -/
def pah (r : Nat → Int32) (x : Int32) : Nat → Bool
  | 0 => false
  | i + 1 => pah r x i || decide (r i = x)
def pis (r : Nat → Int32) (x o : Int32) : Nat → Bool
  | 0 => false
  | i + 1 => pis r x o i || (decide (r i = o) && pah r x i)
def f_Mo_isLeft (h : Nat → Nat → Int32) (q1 : Nat) (x2 x3 x4 x5 : Int32) : Int32 := if bI (pis (fun i => h q1 (3 * x2.toNatClampNeg + i)) x3 x4 (pbc (h 221 x2.toNatClampNeg).toNatClampNeg)) = x5 then 1 else 0
def p_Mo_isLeft (h : Nat → Nat → Int32) (q1 : Nat) (x2 x3 x4 x5 : Int32) : Prop := ∃ e s, e < 7 ∧ s < 8 ∧ x2 = nI e ∧ h 221 e = nI s ∧ ewTj q1 9 = true ∧ kL q1 = 21
theorem s_Mo_isLeft {X : Nat × (Nat → Int32)} {d : Nat} {Q : Option Value → eS → Prop} {cu sp n1 n2 n3 n4 : Nat} (q1 : Nat) (x2 x3 x4 x5 : Int32) (h : Nat → Nat → Int32) (hp : p_Mo_isLeft h q1 x2 x3 x4 x5) (z9 : Q (some (.int (f_Mo_isLeft h q1 x2 x3 x4 x5))) (229, (ewR cu sp n1 n2 n3 n4), h)) : ewP X Mo_isLeft (d + 1) 0 [some (.ref 194), some (.ref q1), some (.int x2), some (.int x3), some (.int x4), some (.int x5), none, none, none] [] (0, 0) (229, (ewR cu sp n1 n2 n3 n4), h) Q := by
  obtain ⟨e, s, he, hs, rfl, hl, t1, t2⟩ := hp
  unfold f_Mo_isLeft at z9
  have ce : (nI e).toNatClampNeg = e := nI_clamp (by omega)
  rw [ce, hl, nI_clamp (by omega)] at z9
  have h3 := pbc_le (s := s)
  have sz : f_Mo_bits (h 221 (nI e).toNatClampNeg) = nI (pbc s) := by rw [ce, hl, bits_n hs]
  have in7 : vp_in (nI e) 7 := nI_inB he (by decide)
  refine v_Mo_isLeft_0 q1 _ _ _ _ h ?_
  refine upto (H := Unit) (P := fun _ _ => True) (E := fun i _ => ewP X Mo_isLeft (d + 1) 9 [some (.ref 194), some (.ref q1), some (.int (nI e)), some (.int x3), some (.int x4), some (.int x5), some (.int (bI (pah (fun i => h q1 (3 * e + i)) x3 i))), some (.int (bI (pis (fun i => h q1 (3 * e + i)) x3 x4 i))), some (.int (nI i))] [] (0, 0) (229, ewR cu sp n1 n2 n3 n4, h) Q) (pbc s) ?_ ?_ 0 () (by omega) trivial
  · intro i _ hi _ next
    have next := next () trivial
    have hlt : nI i < f_Mo_bits (h 221 (nI e).toNatClampNeg) := by rw [sz]; exact nI_lt hi (by omega)
    have s1 : (3 : Int32) * nI e + nI i = nI (3 * e + i) := by rw [show (3 : Int32) * nI e = nI (3 * e) from nI_mu 3 e, nI_ad]
    have in21 : vp_in (3 * nI e + nI i) (kL q1) := by rw [t2, s1]; exact nI_inB (by omega) (by decide)
    refine v_Mo_isLeft_9 q1 _ _ _ _ _ _ _ h in7 (fun q => absurd hlt q) (fun _ _ => t1) (fun _ _ => in21) (fun _ _ => t1) (fun _ _ => in21) (fun _ => ?_)
    rw [s1, nI_clamp (by omega), ← nI_succ]
    have e1 : ∀ (b : Bool) (p : Prop) (_ : Decidable p), (if ¬ (bI b = 0) ∨ p then (1 : Int32) else 0) = bI (b || decide p) := by
      intro b p _
      by_cases q : p
      · rw [if_pos (Or.inr q), decide_eq_true q]; cases b <;> rfl
      · rw [decide_eq_false q]
        cases b
        · rw [if_neg (by rintro (z | z); exact z rfl; exact q z)]; rfl
        · rw [if_pos (Or.inl (by decide))]; rfl
    have e2 : ∀ (b a : Bool) (p : Prop) (_ : Decidable p), (if ¬ (bI b = 0) ∨ (p ∧ (¬ (bI a = 0))) then (1 : Int32) else 0) = bI (b || (decide p && a)) := by
      intro b a p _
      by_cases q : p
      · rw [decide_eq_true q]
        cases b <;> cases a
        · rw [if_neg (by rintro (z | z); exact z rfl; exact z.2 rfl)]; rfl
        · rw [if_pos (Or.inr ⟨q, by decide⟩)]; rfl
        · rw [if_pos (Or.inl (by decide))]; rfl
        · rw [if_pos (Or.inl (by decide))]; rfl
      · rw [decide_eq_false q]
        cases b
        · rw [if_neg (by rintro (z | z); exact z rfl; exact q z.1)]; rfl
        · rw [if_pos (Or.inl (by decide))]; rfl
    rw [e1, e2]
    exact next
  · intro _ _
    have hlt : ¬ nI (pbc s) < f_Mo_bits (h 221 (nI e).toNatClampNeg) := by rw [sz]; exact nI_nlt (Nat.le_refl _) (by omega)
    exact v_Mo_isLeft_9 q1 _ _ _ _ _ _ _ h in7 (fun _ => z9) (fun q => absurd q hlt) (fun q => absurd q hlt) (fun q => absurd q hlt) (fun q => absurd q hlt) (fun q => absurd q hlt)
/-- a station's place within a way, its ends aside -/
def pwi (A B : Nat → Nat) (m f t s : Nat) : Nat → Nat
  | 0 => 0
  | k + 1 => if tnd A B m t f (k + 1) = s then k + 1 else pwi A B m f t s k
def f_Mo_within (h : Nat → Nat → Int32) (x1 x2 : Int32) : Int32 := nI (pwi (gA h) (gB h) (gM h) (gF h x1.toNatClampNeg) (gT h x1.toNatClampNeg) x2.toNatClampNeg (tds (gA h) (gB h) (gM h) (gF h x1.toNatClampNeg) (gT h x1.toNatClampNeg) - 1))
def p_Mo_within (h : Nat → Nat → Int32) (x1 x2 : Int32) : Prop := mN h ∧ ∃ l s, l < gK h ∧ s < gN h ∧ x1 = nI l ∧ x2 = nI s
theorem s_Mo_within {X : Nat × (Nat → Int32)} {d : Nat} {Q : Option Value → eS → Prop} {cu sp n1 n2 n3 n4 : Nat} (x1 x2 : Int32) (h : Nat → Nat → Int32) (hp : p_Mo_within h x1 x2) (z9 : Q (some (.int (f_Mo_within h x1 x2))) (229, (ewR cu sp n1 n2 n3 n4), h)) : ewP X Mo_within (d + 0) 0 [some (.ref 194), some (.int x1), some (.int x2), none, none] [] (0, 0) (229, (ewR cu sp n1 n2 n3 n4), h) Q := by
  obtain ⟨hN, l, s, hl, hs, rfl, rfl⟩ := hp
  unfold f_Mo_within at z9
  unfold mN at hN
  obtain ⟨⟨a1, h8, a3, h7, a5, hn, hk⟩, -, ⟨a4, hk3⟩, -, hls⟩ := hN
  obtain ⟨l1, l2, l3, l4, l5, l6, l7, l8, l9⟩ := hls l hl
  rw [nI_clamp (by omega), nI_clamp (by omega)] at z9
  generalize gN h = n at *
  generalize gM h = m at *
  generalize gA h = A at *
  generalize gB h = B at *
  generalize gF h l = f at *
  generalize gT h l = t at *
  have hD := tds_lt hk hn l1 l2 l4
  have hD0 : 0 < tds A B m f t := by
    rcases Nat.eq_zero_or_pos (tds A B m f t) with q | q
    · exact absurd (tds_eq0 hk q) l3
    · exact q
  have cl : (nI l).toNatClampNeg = l := nI_clamp (by omega)
  have in3 : vp_in (nI l) 3 := nI_inB (by omega) (by decide)
  refine v_Mo_within_0 _ _ h ?_
  refine upto (H := Unit) (P := fun _ _ => True) (E := fun k _ => ewP X Mo_within (d + 0) 5 [some (.ref 194), some (.int (nI l)), some (.int (nI s)), some (.int (nI (pwi A B m f t s k))), some (.int (nI (k + 1)))] [] (0, 0) (229, ewR cu sp n1 n2 n3 n4, h) Q) (tds A B m f t - 1) ?_ ?_ 0 () (by omega) trivial
  · intro k _ hk2 _ next
    have next := next () trivial
    have hlt : nI (k + 1) < h 199 (nI l).toNatClampNeg := by rw [cl, l7]; exact nI_lt (by omega) (by omega)
    have s1 : (8 : Int32) * nI l + nI (k + 1) = nI (8 * l + (k + 1)) := by rw [show (8 : Int32) * nI l = nI (8 * l) from nI_mu 8 l, nI_ad]
    have hnd := (tnd_at hk hn l4 l1 (k + 1) (by omega)).2.2
    refine v_Mo_within_5 _ _ _ _ h in3 (fun q => absurd hlt q) (fun _ => by rw [s1]; exact nI_inB (by omega) (by decide)) (fun _ => ?_)
    rw [s1, nI_clamp (by omega), l8 (k + 1) (by omega), ← nI_succ]
    have e1 : (if nI (tnd A B m t f (k + 1)) = nI s then nI (k + 1) else nI (pwi A B m f t s k)) = nI (pwi A B m f t s (k + 1)) := by
      show _ = nI (if tnd A B m t f (k + 1) = s then k + 1 else pwi A B m f t s k)
      by_cases q : tnd A B m t f (k + 1) = s
      · rw [if_pos q, if_pos (by rw [q])]
      · rw [if_neg q, if_neg (fun z => q ((nI_eq (by omega) (by omega)).mp z))]
    rw [e1]
    exact next
  · intro _ _
    have hlt : ¬ nI (tds A B m f t - 1 + 1) < h 199 (nI l).toNatClampNeg := by rw [cl, l7]; exact nI_nlt (by omega) (by omega)
    exact v_Mo_within_5 _ _ _ _ h in3 (fun _ => z9) (fun q => absurd q hlt) (fun q => absurd q hlt)
