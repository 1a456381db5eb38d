/-! the class's Places: signs, settle -/
section PLACES3
variable {X : Nat × (Nat → Int32)} {cu sp n2 n4 : Nat} {n m : Nat} {A B : Nat → Nat} {k : Nat} {F T : Nat → Nat}
theorem xor4 {v : Nat} (hv : v < 8) : nI v ^^^ 4 = nI ((v + 4) % 8) := by
  have hh : ∀ v : Fin 8, nI v.1 ^^^ 4 = nI ((v.1 + 4) % 8) := by decide +kernel
  exact hh ⟨v, hv⟩
theorem isUsed_n {d : Nat} {h : Nat → Nat → Int32} {dv : Nat → Nat} (hN : cNt h n m A B k F T) (hd : ∀ e, e < m → dv e < 8 ∧ h 143 e = nI (dv e)) {s x : Nat} (hs : s < n) (hx : x < 8) : ewP X Pl_isUsed (d + 0) 0 [some (.ref 150), some (.int (nI s)), some (.int (nI x)), none] [] (0, 0) (229, ewR cu sp 3 n2 3 n4, h) (fun v S' => ∃ (h' : Nat → Nat → Int32) (z : Int32), (h' = h ∧ ∃ b : Bool, z = bI b ∧ (b = true ↔ ¬ ∀ e, e < m → ¬ ((A e = s ∨ B e = s) ∧ pwf A dv e s = x))) ∧ v = some (.int z) ∧ S' = (229, ewR cu sp 3 n2 3 n4, h')) := by
  have h7 := hN.2.1.2.1
  have h8 := hN.1.2.1
  have ok := hN.2.2.2.1
  refine v_Pl_isUsed_0 _ _ h ?_
  refine upto (H := Unit) (P := fun e _ => ∀ f, f < e → ¬ ((A f = s ∨ B f = s) ∧ pwf A dv f s = x)) (E := fun e _ => ewP X Pl_isUsed (d + 0) 2 [some (.ref 150), some (.int (nI s)), some (.int (nI x)), some (.int (nI e))] [] (0, 0) (229, ewR cu sp 3 n2 3 n4, h) _) m ?_ ?_ 0 () (by omega) (fun t ht => by omega)
  · intro e _ he hP next
    have hlt : nI e < h 3 1 := by rw [hN.2.1.1]; exact (nI_ltb (by omega) (by omega)).mpr he
    have ce : (nI e).toNatClampNeg = e := nI_clamp (by omega)
    obtain ⟨e1, e2, -⟩ := hN.2.1.2.2.1 e he
    obtain ⟨b1, b2⟩ := ok.1 e he
    obtain ⟨d1, d2⟩ := hd e he
    have hab : A e ≠ B e := fun y => ok.2.1 e he (by rw [y])
    have qA : (h 6 (nI e).toNatClampNeg = nI s) ↔ A e = s := by rw [ce, e1]; exact nI_eq (by omega) (by omega)
    have qB : (h 7 (nI e).toNatClampNeg = nI s) ↔ B e = s := by rw [ce, e2]; exact nI_eq (by omega) (by omega)
    have qD : (h 143 (nI e).toNatClampNeg = nI x) ↔ dv e = x := by rw [ce, d2]; exact nI_eq (by omega) (by omega)
    have m8 : (dv e + 4) % 8 < 8 := Nat.mod_lt _ (by omega)
    have qX : (h 143 (nI e).toNatClampNeg ^^^ 4 = nI x) ↔ (dv e + 4) % 8 = x := by rw [ce, d2, xor4 d1]; exact nI_eq (by omega) (by omega)
    have pA : A e = s → pwf A dv e s = dv e := fun z => by unfold pwf; rw [if_pos z]
    have pB : ¬ A e = s → pwf A dv e s = (dv e + 4) % 8 := fun z => by unfold pwf; rw [if_neg z]
    have go : ¬ ((A e = s ∨ B e = s) ∧ pwf A dv e s = x) → ∀ f, f < e + 1 → ¬ ((A f = s ∨ B f = s) ∧ pwf A dv f s = x) := fun q f hf => by
      by_cases z : f = e
      · rw [z]; exact q
      · exact hP f (by omega)
    have yes : ((A e = s ∨ B e = s) ∧ pwf A dv e s = x) → ∃ (h' : Nat → Nat → Int32) (z : Int32), (h' = h ∧ ∃ b : Bool, z = bI b ∧ (b = true ↔ ¬ ∀ e, e < m → ¬ ((A e = s ∨ B e = s) ∧ pwf A dv e s = x))) ∧ some (Value.int 1) = some (.int z) ∧ ((229, ewR cu sp 3 n2 3 n4, h) : eS) = (229, ewR cu sp 3 n2 3 n4, h') := fun q => ⟨h, 1, ⟨rfl, true, rfl, fun _ z => z e he q, fun _ => rfl⟩, rfl, rfl⟩
    refine v_Pl_isUsed_2 _ _ _ h (fun q => absurd hlt q) (fun _ => nI_inB (by omega) (by decide)) (fun _ a1 a2 => ?_) (fun _ a1 a2 a3 => ?_) (fun _ a1 a2 a3 => ?_) (fun _ a1 a2 => ?_) (fun _ a1 a2 a3 => ?_) (fun _ a1 a2 a3 => ?_) (fun _ a1 a2 a3 => ?_)
    · rw [qA] at a1; rw [qB] at a2
      rw [← nI_succ]; exact next () (go (fun z => z.1.elim a1 a2))
    · rw [qA] at a1; rw [qX] at a3
      rw [← nI_succ]; exact next () (go (fun z => a3 ((pB a1).symm.trans z.2)))
    · rw [qA] at a1; rw [qB] at a2; rw [qX] at a3
      exact yes ⟨Or.inr a2, (pB a1).trans a3⟩
    · rw [qA] at a1; rw [qD] at a2
      exact yes ⟨Or.inl a1, (pA a1).trans a2⟩
    · rw [qA] at a1; rw [qD] at a2
      rw [← nI_succ]; exact next () (go (fun z => a2 ((pA a1).symm.trans z.2)))
    · rw [qA] at a1; rw [qB] at a3
      exact absurd (a1.trans a3.symm) hab
    · rw [qA] at a1; rw [qB] at a3
      exact absurd (a1.trans a3.symm) hab
  · intro _ hP
    have hlt : ¬ nI m < h 3 1 := by rw [hN.2.1.1]; exact nI_nlt (Nat.le_refl _) (by omega)
    exact v_Pl_isUsed_2 _ _ _ h (fun _ => ⟨h, 0, ⟨rfl, false, rfl, ⟨fun z => (by cases z), fun z => absurd hP z⟩⟩, rfl, rfl⟩) (fun q => absurd q hlt) (fun q => absurd q hlt) (fun q => absurd q hlt) (fun q => absurd q hlt) (fun q => absurd q hlt) (fun q => absurd q hlt) (fun q => absurd q hlt) (fun q => absurd q hlt)
theorem step_0 {x : Nat} (hx : x < 8) : ¬ (f_Mo_stepX (nI x) = 0 ∧ f_Mo_stepY (nI x) = 0) := by
  have hh : ∀ x : Fin 8, ¬ (f_Mo_stepX (nI x.1) = 0 ∧ f_Mo_stepY (nI x.1) = 0) := by decide +kernel
  exact hh ⟨x, hx⟩
theorem i32_self {a b : Int32} : a = a + b ↔ b = 0 := ⟨fun h => by grind, fun h => by rw [h, Int32.add_zero]⟩
theorem signOf_n {d : Nat} {h : Nat → Nat → Int32} {dv : Nat → Nat} {P Q : Nat → Int32} (hN : cNt h n m A B k F T) (hd : ∀ e, e < m → dv e < 8 ∧ h 143 e = nI (dv e)) (hp : ∀ s, s < n → h 152 s = P s ∧ h 153 s = Q s) {s : Nat} (hs : s < n) : ewP X Pl_signOf (d + 2) 0 [some (.ref 150), some (.int (nI s)), none] [] (0, 0) (229, ewR cu sp 3 n2 3 n4, h) (fun v S' => ∃ (h' : Nat → Nat → Int32) (z : Int32), (h' = h ∧ z = psg n m A B dv P Q s 8 0) ∧ v = some (.int z) ∧ S' = (229, ewR cu sp 3 n2 3 n4, h')) := by
  have h8 := hN.1.2.1
  have h0 := hN.1.1
  have cs : (nI s).toNatClampNeg = s := nI_clamp (by omega)
  refine v_Pl_signOf_0 _ h ?_
  have key : ∀ t x, x + t = 8 → psg n m A B dv P Q s t x = psg n m A B dv P Q s 8 0 → ewP X Pl_signOf (d + 2) 2 [some (.ref 150), some (.int (nI s)), some (.int (nI x))] [] (0, 0) (229, ewR cu sp 3 n2 3 n4, h) (fun v S' => ∃ (h' : Nat → Nat → Int32) (z : Int32), (h' = h ∧ z = psg n m A B dv P Q s 8 0) ∧ v = some (.int z) ∧ S' = (229, ewR cu sp 3 n2 3 n4, h')) := by
    intro t
    induction t with
    | zero =>
      intro x hx hq
      have hlt : ¬ nI x < 8 := nI_nlt (b := 8) (by omega) (by omega)
      exact v_Pl_signOf_2 _ _ h (P_Pl_isUsed := fun _ _ _ => False) (R_Pl_isUsed := fun _ _ _ _ _ => False) (fun _ _ _ hp => hp.elim) (P_Pl_isTaken := fun _ _ _ _ _ _ => False) (R_Pl_isTaken := fun _ _ _ _ _ _ _ _ => False) (fun _ _ _ _ _ _ hp => hp.elim) (fun _ => ⟨h, -1, ⟨rfl, hq⟩, rfl, rfl⟩) (fun q => absurd q hlt) (fun q => absurd q hlt)
    | succ t ih =>
      intro x hx hq
      have hlt : nI x < 8 := (nI_ltb (b := 8) (by omega) (by omega)).mpr (by omega)
      have cx : (nI x).toNatClampNeg = x := nI_clamp (by omega)
      have hq' : (if psf n m A B dv P Q s x = true then nI x else psg n m A B dv P Q s t (x + 1)) = psg n m A B dv P Q s 8 0 := hq
      have no : ¬ psf n m A B dv P Q s x = true → ewP X Pl_signOf (d + 2) 2 [some (.ref 150), some (.int (nI s)), some (.int (nI (x + 1)))] [] (0, 0) (229, ewR cu sp 3 n2 3 n4, h) (fun v S' => ∃ (h' : Nat → Nat → Int32) (z : Int32), (h' = h ∧ z = psg n m A B dv P Q s 8 0) ∧ v = some (.int z) ∧ S' = (229, ewR cu sp 3 n2 3 n4, h')) := fun z => by
        rw [if_neg z] at hq'
        exact ih (x + 1) (by omega) hq'
      refine v_Pl_signOf_2 _ _ h (P_Pl_isUsed := fun h' x1 x2 => h' = h ∧ x1 = nI s ∧ x2 = nI x) (R_Pl_isUsed := fun h' x1 x2 h'' y => h'' = h ∧ ∃ b : Bool, y = bI b ∧ (b = true ↔ ¬ ∀ e, e < m → ¬ ((A e = s ∨ B e = s) ∧ pwf A dv e s = x))) (fun x1 x2 h' hp' => ?_) (P_Pl_isTaken := fun h' a b x3 x4 x5 => h' = h ∧ a = 152 ∧ b = 153 ∧ x3 = nI (ptm A B m s) ∧ x4 = P s + f_Mo_stepX (nI x) ∧ x5 = Q s + f_Mo_stepY (nI x)) (R_Pl_isTaken := fun h' a b x3 x4 x5 h'' y => h'' = h ∧ y = bI ((List.range n).any fun t => decide (plb A B m t = plb A B m s) && decide (h 152 t = P s + f_Mo_stepX (nI x) ∧ h 153 t = Q s + f_Mo_stepY (nI x)))) (fun a b x3 x4 x5 h' hp' => ?_) (fun q => absurd hlt q) (fun _ => ⟨rfl, rfl, rfl⟩) (fun _ w4 y5 hw => ?_)
      · obtain ⟨rfl, rfl, rfl⟩ := hp'
        exact isUsed_n (d := d + 1) hN hd hs (by omega)
      · obtain ⟨rfl, rfl, rfl, rfl, rfl, rfl⟩ := hp'
        exact isTaken_n h0 h8 ⟨rfl, rfl⟩ ⟨rfl, rfl⟩ _ _ _
      · obtain ⟨rfl, bb, ey, iff⟩ := hw
        rw [← nI_succ]
        refine ⟨fun q => no (fun z => ?_), fun _ => nI_inB (by omega) (by decide), fun _ => nI_inB (by omega) (by decide), fun _ => ?_, fun q w10 y11 hw10 => ?_⟩
        · rw [ey, bI_ne] at q
          exact iff.mp q (psf_iff.mp z).2
        · rw [cs, cx, (step_n (show x < 8 by omega)).1, (step_n (show x < 8 by omega)).2, hN.1.2.2 s hs, (hp s hs).1, (hp s hs).2]
          exact ⟨rfl, rfl, rfl, rfl, rfl, rfl⟩
        · obtain ⟨rfl, ez⟩ := hw10
          rw [ey, bI_eq] at q
          have fr : ∀ e, e < m → ¬ ((A e = s ∨ B e = s) ∧ pwf A dv e s = x) := Decidable.byContradiction (fun z => by rw [iff.mpr z] at q; cases q)
          refine ⟨fun q2 => no (fun z => ?_), fun q2 => ?_⟩
          · rw [ez, bI_ne, List.any_eq_true] at q2
            obtain ⟨t, ht, q3⟩ := q2
            rw [Bool.and_eq_true, decide_eq_true_iff, decide_eq_true_iff] at q3
            have ht' := List.mem_range.mp ht
            rw [(hp t ht').1, (hp t ht').2] at q3
            refine (psf_iff.mp z).1 t ht' ⟨fun y => ?_, q3.1, q3.2.1, q3.2.2⟩
            rw [y] at q3
            exact step_0 (show x < 8 by omega) ⟨i32_self.mp q3.2.1, i32_self.mp q3.2.2⟩
          · rw [ez, bI_eq, List.any_eq_false] at q2
            have yes : psf n m A B dv P Q s x = true := psf_iff.mpr ⟨fun t ht y => q2 t (List.mem_range.mpr ht) (by
              rw [Bool.and_eq_true, decide_eq_true_iff, decide_eq_true_iff, (hp t ht).1, (hp t ht).2]
              exact y.2), fr⟩
            rw [if_pos yes] at hq'
            exact ⟨w10, nI x, ⟨rfl, hq'⟩, rfl, rfl⟩
  exact key 8 0 (by omega) rfl
theorem putSigns_n {d : Nat} {h : Nat → Nat → Int32} {dv : Nat → Nat} {P Q : Nat → Int32} (hN : cNt h n m A B k F T) (hd : ∀ e, e < m → dv e < 8 ∧ h 143 e = nI (dv e)) (hp : ∀ s, s < n → h 152 s = P s ∧ h 153 s = Q s) : ewP X Pl_putSigns (d + 3) 0 [some (.ref 150), none] [] (0, 0) (229, ewR cu sp 3 n2 3 n4, h) (fun v S' => ∃ (h' : Nat → Nat → Int32), ((∀ q, q ≠ 150 → q ≠ 154 → h' q = h q) ∧ (∀ j, j ≠ 1 → h' 150 j = h 150 j) ∧ h' 150 1 = nI (sm (fun s => if ¬ (psg n m A B dv P Q s 8 0 < 0) then 1 else 0) n) ∧ ∀ s, s < n → h' 154 s = psg n m A B dv P Q s 8 0) ∧ v = none ∧ S' = (229, ewR cu sp 3 n2 3 n4, h')) := by
  have h8 := hN.1.2.1
  have h0 := hN.1.1
  refine v_Pl_putSigns_0 h ?_
  generalize hG : (fun s => if ¬ (psg n m A B dv P Q s 8 0 < 0) then 1 else 0) = G
  refine upto (H := Nat → Nat → Int32) (P := fun s w => (∀ q, q ≠ 150 → q ≠ 154 → w q = h q) ∧ (∀ j, j ≠ 1 → w 150 j = h 150 j) ∧ w 150 1 = nI (sm G s) ∧ ∀ t, t < s → w 154 t = psg n m A B dv P Q t 8 0) (E := fun s w => ewP X Pl_putSigns (d + 3) 7 [some (.ref 150), some (.int (nI s))] [] (0, 0) (229, ewR cu sp 3 n2 3 n4, w) _) n ?_ ?_ 0 _ (by omega) ⟨fun q q1 _ => ewS_ne _ _ q1, fun j hj => ?_, rfl, fun t ht => by omega⟩
  · rintro s w hs ⟨w1, w2, w3, w4⟩ next
    have hlt : nI s < w 3 0 := by rw [w1 3 (by omega) (by omega), h0]; exact (nI_ltb (by omega) (by omega)).mpr hs
    have cs : (nI s).toNatClampNeg = s := nI_clamp (by omega)
    refine v_Pl_putSigns_7 _ w (P_Pl_signOf := fun h' x => h' = w ∧ x = nI s) (R_Pl_signOf := fun h' x h'' y => h'' = w ∧ y = psg n m A B dv P Q s 8 0) (fun x h' hp' => ?_) (fun q => absurd hlt q) (fun _ => ⟨rfl, rfl⟩) (fun _ g y hg => ?_)
    · obtain ⟨rfl, rfl⟩ := hp'
      exact signOf_n (hN.fr (fun q q1 q2 => w1 q (by omega) (by omega))) (fun e he => by rw [w1 143 (by omega) (by omega)]; exact hd e he) (fun s hs => by rw [w1 152 (by omega) (by omega), w1 153 (by omega) (by omega)]; exact hp s hs) hs
    · obtain ⟨rfl, ey⟩ := hg
      rw [cs, ← nI_succ, show upd (g 154) s y s = y from if_pos rfl]
      refine ⟨nI_inB (by omega) (by decide), next _ ⟨fun q q1 q2 => ?_, fun j hj => ?_, ?_, fun t ht => ?_⟩⟩
      · rw [ewS_ne _ _ q1, ewS_ne _ _ q2]; exact w1 q q1 q2
      · show (if j = 1 then _ else g 150 j) = _
        rw [if_neg hj]; exact w2 j hj
      · show g 150 1 + _ = nI (sm G s + G s)
        rw [w3, ← nI_ad, ← hG]
        congr 1
        show _ = nI (if ¬ (psg n m A B dv P Q s 8 0 < 0) then 1 else 0)
        rw [ey]
        have iff : (¬ psg n m A B dv P Q s 8 0 = -1) ↔ ¬ psg n m A B dv P Q s 8 0 < 0 := by
          rcases psg_lt (n := n) (m := m) (A := A) (B := B) (dv := dv) (P := P) (Q := Q) (s := s) 8 0 with z | ⟨i, hi, z⟩
          · rw [z]; exact ⟨fun y => absurd rfl y, fun y => absurd (by decide) y⟩
          · rw [z]; exact ⟨fun _ => nI_nlt (b := 0) (Nat.zero_le _) (by omega), fun _ => nI_m1 (by omega)⟩
        by_cases z : ¬ psg n m A B dv P Q s 8 0 < 0
        · rw [if_pos (iff.mpr z), if_pos z]; rfl
        · rw [if_neg (fun y => z (iff.mp y)), if_neg z]; rfl
      · show (if t = s then y else g 154 t) = _
        by_cases z : t = s
        · rw [if_pos z, z, ey]
        · rw [if_neg z]; exact w4 t (by omega)
  · rintro w ⟨w1, w2, w3, w4⟩
    have hlt : ¬ nI n < w 3 0 := by rw [w1 3 (by omega) (by omega), h0]; exact nI_nlt (Nat.le_refl _) (by omega)
    exact v_Pl_putSigns_7 _ w (P_Pl_signOf := fun _ _ => False) (R_Pl_signOf := fun _ _ _ _ => False) (fun _ _ hp => hp.elim) (fun _ => ⟨w, ⟨w1, w2, w3, w4⟩, rfl, rfl⟩) (fun q => absurd q hlt) (fun q => absurd q hlt)
  · show (if j = 1 then _ else h 150 j) = _
    rw [if_neg hj]
/-- no drawing -/
def pNo (n m : Nat) (A B : Nat → Nat) (k : Nat) (F T : Nat → Nat) (c : Nat → Int32) : Prop := (pBp c m A B k F T).2.1 = 1000000 ∨ (pBl n m A B (pBp c m A B k F T).2.2).1 = 1000000
/-- places, lengths, signs are known -/
def cPk (h : Nat → Nat → Int32) (n m : Nat) (A B : Nat → Nat) (k : Nat) (F T : Nat → Nat) (c : Nat → Int32) : Prop :=
  (pNo n m A B k F T c → h 150 0 = -1 ∧ h 150 1 = -1 ∧ (∀ e, e < m → h 151 e = -1) ∧ ∀ s, s < n → h 152 s = -99 ∧ h 153 s = -99 ∧ h 154 s = -1) ∧
  (¬ pNo n m A B k F T c → h 150 0 = nI (pBl n m A B (pBp c m A B k F T).2.2).1 ∧ h 150 1 = nI (pSc n m A B (pBp c m A B k F T).2.2) ∧ (∀ e, e < m → h 151 e = nI ((pBl n m A B (pBp c m A B k F T).2.2).2 e)) ∧ ∀ s, s < n → h 152 s = pPx n m A B (pBp c m A B k F T).2.2 s ∧ h 153 s = pPy n m A B (pBp c m A B k F T).2.2 s ∧ h 154 s = pSn n m A B (pBp c m A B k F T).2.2 s)
set_option maxHeartbeats 1000000 in
theorem settle_n {d n3 : Nat} {c : Nat → Int32} {h : Nat → Nat → Int32} (hK : cKn h n m A B k F T c) (hS : mSe c m) (hz : ∀ s, s < 8 → h 157 s = 0 ∧ h 166 s = 0) : ewP X Pl_settle (d + 11) 0 [some (.ref 150)] [] (0, 0) (229, ewR cu sp 3 n2 n3 n4, h) (fun v S' => ∃ (h' : Nat → Nat → Int32), ((∀ q, ¬ (150 ≤ q ∧ q ≤ 173) → h' q = h q) ∧ h' 157 = h 157 ∧ h' 166 = h 166 ∧ cPk h' n m A B k F T c) ∧ v = none ∧ S' = (229, ewR cu sp 3 n2 3 n4, h')) := by
  obtain ⟨hC, k1, k2, k3⟩ := hK
  have hN := hC.1
  have h7 := hN.2.1.2.1
  have h8 := hN.1.2.1
  have v8 := fun e => (pBp_8 (A := A) (B := B) (k := k) (F := F) (T := T) hS e).1
  have zc : (h 142 0 = -1) ↔ (pBp c m A B k F T).2.1 = 1000000 := by rw [k1]; exact pCs_m1
  generalize hdv : (pBp c m A B k F T).2.2 = dv at *
  -- behind the fills
  have start : ∀ w2 w5 w8 w11 : Nat → Nat → Int32, w2 = g_Ja_fill (ewS (ewS h 150 (upd (h 150) 0 1000000)) 150 (upd (upd (h 150) 0 1000000) 1 (-1))) 151 (-1) → w5 = g_Ja_fill w2 152 (-99) → w8 = g_Ja_fill w5 153 (-99) → w11 = g_Ja_fill w8 154 (-1) → (∀ q, q ≠ 150 → q ≠ 151 → q ≠ 152 → q ≠ 153 → q ≠ 154 → w11 q = h q) ∧ w11 150 0 = 1000000 ∧ w11 150 1 = -1 ∧ (∀ e, e < 7 → w11 151 e = -1) ∧ ∀ s, s < 8 → w11 152 s = -99 ∧ w11 153 s = -99 ∧ w11 154 s = -1 := by
    intro w2 w5 w8 w11 e2 e5 e8 e11
    subst e2; subst e5; subst e8; subst e11
    have k51 : kL 151 = 7 := by decide
    have k52 : kL 152 = 8 := by decide
    have k53 : kL 153 = 8 := by decide
    have k54 : kL 154 = 8 := by decide
    refine ⟨fun q q1 q2 q3 q4 q5 => ?_, rfl, rfl, fun e he => ?_, fun s hs => ⟨?_, ?_, ?_⟩⟩
    · unfold g_Ja_fill
      rw [ewS_ne _ _ q5, ewS_ne _ _ q4, ewS_ne _ _ q3, ewS_ne _ _ q2, ewS_ne _ _ q1, ewS_ne _ _ q1]
    · show (if e < kL 151 then (-1 : Int32) else _) = -1
      rw [if_pos (by omega)]
    · show (if s < kL 152 then (-99 : Int32) else _) = -99
      rw [if_pos (by omega)]
    · show (if s < kL 153 then (-99 : Int32) else _) = -99
      rw [if_pos (by omega)]
    · show (if s < kL 154 then (-1 : Int32) else _) = -1
      rw [if_pos (by omega)]
  refine v_Pl_settle_0 h (P_Ja_fill := fun h' q x => (q = 151 ∨ q = 152 ∨ q = 153 ∨ q = 154)) (R_Ja_fill := fun h' q x w => w = g_Ja_fill h' q x) (fun q x h' hp => ?_) (P_Pl_stretchOut := fun h' x1 x2 => x1 = 0 ∧ x2 = 0 ∧ (pBp c m A B k F T).2.1 ≠ 1000000 ∧ (∀ q, q ≠ 150 → q ≠ 151 → q ≠ 152 → q ≠ 153 → q ≠ 154 → h' q = h q) ∧ h' 150 0 = 1000000 ∧ (∀ e, e < 7 → h' 151 e = -1) ∧ ∀ s, s < 8 → h' 152 s = -99 ∧ h' 153 s = -99) (R_Pl_stretchOut := fun h' x1 x2 h'' => lFr h' h'' ∧ cLe n m A B dv h'' (pBl n m A B dv)) (fun x1 x2 h' hp => ?_) (P_Pl_putSigns := fun h' => (∀ q, ¬ (150 ≤ q ∧ q ≤ 173) → h' q = h q) ∧ (pBp c m A B k F T).2.1 ≠ 1000000 ∧ ∀ s, s < n → h' 152 s = pPx n m A B dv s ∧ h' 153 s = pPy n m A B dv s) (R_Pl_putSigns := fun h' h'' => (∀ q, q ≠ 150 → q ≠ 154 → h'' q = h' q) ∧ (∀ j, j ≠ 1 → h'' 150 j = h' 150 j) ∧ h'' 150 1 = nI (pSc n m A B dv) ∧ ∀ s, s < n → h'' 154 s = pSn n m A B dv s) (fun h' hp => ?_) (Or.inl rfl) (fun w2 e2 => ⟨Or.inr (Or.inl rfl), fun w5 e5 => ⟨Or.inr (Or.inr (Or.inl rfl)), fun w8 e8 => ⟨Or.inr (Or.inr (Or.inr rfl)), fun w11 e11 => ?_⟩⟩⟩)
  · rcases hp with rfl | rfl | rfl | rfl <;> exact s_Ja_fill (d := d + 10) _ _ h' ⟨rfl, by decide⟩ ⟨_, rfl, rfl, rfl⟩
  · obtain ⟨rfl, rfl, nq, hq, q0, q1, q2⟩ := hp
    have hN' : cNt h' n m A B k F T := hN.fr (fun q a b => hq q (by omega) (by omega) (by omega) (by omega) (by omega))
    have := stretchOut_n (X := X) (cu := cu) (sp := sp) (n2 := n2) (n4 := n4) hN' (dv := dv) (fun e he => ⟨v8 e, by rw [hq 143 (by omega) (by omega) (by omega) (by omega) (by omega)]; exact k3 nq e he⟩) (fun s hs => by rw [hq 157 (by omega) (by omega) (by omega) (by omega) (by omega), hq 166 (by omega) (by omega) (by omega) (by omega) (by omega)]; exact hz s (by omega)) m 0 (by omega) (d + (7 - m)) (fun _ => 0) (1000000, fun _ => 0) h' (lFr.r h') (fun f hf => by omega) (fun f hf s hs => by
        have : f = 0 := by omega
        rw [this, hq 157 (by omega) (by omega) (by omega) (by omega) (by omega), hq 166 (by omega) (by omega) (by omega) (by omega) (by omega)]; exact hz s (by omega)) ⟨q0, Nat.le_refl _, fun _ => ⟨q1, q2⟩, fun z => absurd rfl z⟩ (show 0 + m < 1000000 by omega) (fun f hf => by omega)
    rw [show d + (7 - m) + m + 3 = d + 10 by omega] at this
    refine ewP_m (fun v S' q => ?_) this
    obtain ⟨h'', ⟨x1, x2, x3, x4⟩, e1, e2⟩ := q
    exact ⟨h'', ⟨x1, x4⟩, e1, e2⟩
  · obtain ⟨hq, nq, hp'⟩ := hp
    exact putSigns_n (d := d + 7) (hN.fr (fun q a b => hq q (by omega))) (fun e he => ⟨v8 e, by rw [hq 143 (by omega)]; exact k3 nq e he⟩) hp'
  · obtain ⟨s1, s2, s3, s4, s5⟩ := start w2 w5 w8 w11 e2 e5 e8 e11
    have z11 : (w11 142 0 = -1) ↔ (pBp c m A B k F T).2.1 = 1000000 := by rw [s1 142 (by omega) (by omega) (by omega) (by omega) (by omega)]; exact zc
    have noend : ∀ w : Nat → Nat → Int32, pNo n m A B k F T c → (∀ q, ¬ (150 ≤ q ∧ q ≤ 173) → w q = h q) → w 157 = h 157 → w 166 = h 166 → w 150 1 = -1 → (∀ e, e < 7 → w 151 e = -1) → (∀ s, s < 8 → w 152 s = -99 ∧ w 153 s = -99 ∧ w 154 s = -1) → ∃ h', ((∀ q, ¬ (150 ≤ q ∧ q ≤ 173) → h' q = h q) ∧ h' 157 = h 157 ∧ h' 166 = h 166 ∧ cPk h' n m A B k F T c) ∧ (none : Option Value) = none ∧ ((229, ewR cu sp 3 n2 3 n4, ewS w 150 (upd (w 150) 0 (-1))) : eS) = (229, ewR cu sp 3 n2 3 n4, h') := by
      intro w no w1 w57 w66 w2 w3 w4
      refine ⟨ewS w 150 (upd (w 150) 0 (-1)), ⟨fun q hq => (ewS_ne _ _ (by omega)).trans (w1 q hq), w57, w66, fun _ => ⟨rfl, w2, fun e he => w3 e (by omega), fun s hs => w4 s (by omega)⟩, fun z => absurd no z⟩, rfl, rfl⟩
    refine ⟨fun q1 q2 => absurd s2 q2, fun q1 q2 => absurd s2 q2, fun q1 q2 => noend w11 (Or.inl (z11.mp q1)) (fun q hq => s1 q (by omega) (by omega) (by omega) (by omega) (by omega)) (s1 157 (by omega) (by omega) (by omega) (by omega) (by omega)) (s1 166 (by omega) (by omega) (by omega) (by omega) (by omega)) s3 s4 s5, fun q1 => ⟨rfl, rfl, fun y => q1 (z11.mpr y), s1, s2, s4, fun s hs => ⟨(s5 s hs).1, (s5 s hs).2.1⟩⟩, fun q1 w21 hw => ?_⟩
    obtain ⟨f1, b1, b2, b3, b4⟩ := hw
    have nq : (pBp c m A B k F T).2.1 ≠ 1000000 := fun y => q1 (z11.mpr y)
    have e0 : (w21 150 0 = 1000000) ↔ (pBl n m A B dv).1 = 1000000 := by rw [b1]; exact nI_eq (b := 1000000) (by omega) (by omega)
    have wq : ∀ q, ¬ (150 ≤ q ∧ q ≤ 173) → w21 q = h q := fun q hq => by rw [f1.1 q (by omega) (by omega) (by omega) (by omega) (by omega) (by omega) (by omega)]; exact s1 q (by omega) (by omega) (by omega) (by omega) (by omega)
    have w57 : w21 157 = h 157 := by rw [f1.1 157 (by omega) (by omega) (by omega) (by omega) (by omega) (by omega) (by omega)]; exact s1 157 (by omega) (by omega) (by omega) (by omega) (by omega)
    have w66 : w21 166 = h 166 := by rw [f1.1 166 (by omega) (by omega) (by omega) (by omega) (by omega) (by omega) (by omega)]; exact s1 166 (by omega) (by omega) (by omega) (by omega) (by omega)
    have w54 : w21 154 = w11 154 := f1.1 154 (by omega) (by omega) (by omega) (by omega) (by omega) (by omega) (by omega)
    refine ⟨fun q2 => ⟨wq, nq, (b4 (fun y => q2 (e0.mpr y))).2⟩, fun q2 w26 hw => ?_, fun q2 => ?_⟩
    · obtain ⟨p1, p2, p3, p4⟩ := hw
      have nb : (pBl n m A B dv).1 ≠ 1000000 := fun y => q2 (e0.mpr y)
      have nno : ¬ pNo n m A B k F T c := by
        unfold pNo
        rw [hdv]
        exact fun y => y.elim nq nb
      refine ⟨w26, ⟨fun q hq => (p1 q (by omega) (by omega)).trans (wq q hq), (p1 157 (by omega) (by omega)).trans w57, (p1 166 (by omega) (by omega)).trans w66, fun y => absurd y nno, fun _ => ?_⟩, rfl, rfl⟩
      rw [hdv]
      refine ⟨(p2 0 (by decide)).trans b1, p3, fun e he => ?_, fun s hs => ?_⟩
      · rw [p1 151 (by omega) (by omega)]; exact (b4 nb).1 e he
      · rw [p1 152 (by omega) (by omega), p1 153 (by omega) (by omega)]
        exact ⟨((b4 nb).2 s hs).1, ((b4 nb).2 s hs).2, p4 s hs⟩
    · have nb := e0.mp q2
      have no : pNo n m A B k F T c := by unfold pNo; rw [hdv]; exact Or.inr nb
      refine noend w21 no wq w57 w66 ((f1.2 1 (by decide)).trans s3) (b3 nb).1 (fun s hs => ⟨((b3 nb).2 s hs).1, ((b3 nb).2 s hs).2, by rw [w54]; exact (s5 s hs).2.2⟩)
end PLACES3
