/-! constructors: states on the way -/
def hZ : Nat → Nat → Int32 := fun _ _ => 0
def hR : Nat → Nat → Int32 := ewS hZ 1 (upd (hZ 1) 1 (-1))
/-- n cells are made; the first p fields of the class stand, a settings of Past, b images -/
def rC (n p a b : Nat) : Nat → Nat → Nat := fun k j => bif Nat.ble n k || (Nat.beq k 0 && Nat.ble p j) || (Nat.beq k 76 && Nat.ble a j) || (Nat.beq k 141 && Nat.ble b j) then 100000 else ewR 3 35 3 3 3 3 k j
def ewLP : List (Nat × Nat) := [(0, 0), (0, 1), (0, 2), (0, 3), (0, 4), (0, 5), (0, 6), (0, 8), (0, 9), (0, 10), (0, 11), (1, 3), (3, 3), (3, 4), (3, 5), (3, 6), (3, 7), (3, 8), (3, 9), (3, 10), (3, 11), (3, 12), (3, 13), (3, 14), (3, 15), (3, 16), (3, 17), (3, 18), (3, 19), (18, 0), (18, 1), (18, 2), (18, 3), (18, 4), (18, 5), (18, 6), (26, 0), (26, 1), (26, 2), (26, 3), (26, 4), (26, 5), (26, 6), (35, 3), (35, 4), (35, 5), (35, 6), (35, 7), (35, 8), (35, 9), (35, 10), (35, 11), (35, 12), (35, 13), (35, 14), (35, 15), (35, 16), (35, 17), (35, 18), (35, 19), (50, 0), (50, 1), (50, 2), (50, 3), (50, 4), (50, 5), (50, 6), (58, 0), (58, 1), (58, 2), (58, 3), (58, 4), (58, 5), (58, 6), (67, 2), (67, 3), (67, 4), (71, 2), (71, 3), (71, 4), (75, 2), (76, 0), (76, 1), (76, 2), (76, 3), (76, 4), (76, 5), (76, 6), (76, 7), (76, 8), (76, 9), (76, 10), (76, 11), (76, 12), (76, 13), (76, 14), (76, 15), (77, 2), (77, 3), (77, 4), (81, 2), (81, 3), (81, 4), (85, 2), (85, 3), (85, 4), (89, 2), (89, 3), (89, 4), (93, 2), (93, 3), (93, 4), (97, 2), (97, 3), (97, 4), (101, 2), (101, 3), (101, 4), (105, 2), (105, 3), (105, 4), (109, 2), (109, 3), (109, 4), (113, 2), (113, 3), (113, 4), (117, 2), (117, 3), (117, 4), (121, 2), (121, 3), (121, 4), (125, 2), (125, 3), (125, 4), (129, 2), (129, 3), (129, 4), (133, 2), (133, 3), (133, 4), (137, 2), (137, 3), (137, 4), (141, 0), (141, 1), (142, 1), (142, 2), (142, 3), (142, 4), (142, 5), (146, 1), (146, 2), (146, 3), (146, 4), (146, 5), (150, 2), (150, 3), (150, 4), (150, 5), (150, 6), (150, 7), (150, 8), (150, 9), (150, 10), (150, 11), (156, 0), (156, 1), (156, 2), (156, 3), (156, 4), (156, 5), (156, 6), (156, 7), (165, 0), (165, 1), (165, 2), (165, 3), (165, 4), (165, 5), (165, 6), (165, 7), (174, 1), (174, 2), (174, 3), (174, 4), (174, 5), (174, 6), (174, 7), (174, 8), (174, 9), (174, 10), (174, 11), (174, 13), (174, 14), (174, 15), (186, 2), (186, 3), (186, 4), (190, 2), (190, 3), (190, 4), (194, 2), (194, 3), (194, 5), (194, 6), (194, 7), (194, 8), (194, 9), (194, 10), (194, 11), (194, 19), (194, 20), (194, 22), (194, 23), (194, 25), (194, 26), (194, 27), (194, 28), (194, 29), (194, 30), (194, 31), (194, 34), (194, 35), (194, 36), (194, 37), (194, 38), (194, 40), (194, 41), (194, 42), (194, 43), (194, 44), (194, 45), (194, 48), (194, 49), (194, 50)]
theorem ewLP_all : ((List.range 229).all fun k => (List.range 64).all fun j => !(ewLq k j) || ewLP.contains (k, j)) = true := by decide +kernel
theorem ewLP_of {k j : Nat} (hk : k < 229) (hl : ewLq k j = true) : (k, j) ∈ ewLP := by
  have j64 : j < 64 := by
    have := List.all_eq_true.mp ewLq_64 k (List.mem_range.mpr hk)
    rw [Bool.and_eq_true, Bool.or_eq_true] at this
    unfold ewLq at hl
    have t1 := Nat.le_of_ble_eq_true this.1
    split at hl
    · rw [Bool.and_eq_true] at hl
      have := of_decide_eq_true hl.1
      omega
    · rw [Bool.and_eq_true] at hl
      have u1 := of_decide_eq_true hl.1
      have u2 := of_decide_eq_true hl.2
      rcases this.2 with y | y
      · have := Nat.le_of_ble_eq_true y; omega
      · have := Nat.le_of_ble_eq_true y; omega
  have key := List.all_eq_true.mp (List.all_eq_true.mp ewLP_all k (List.mem_range.mpr hk)) j (List.mem_range.mpr j64)
  rw [hl] at key
  exact List.contains_iff_mem.mp (by simpa using key)
theorem qe_all {n : Nat} {r rc : Nat → Nat → Nat} {h : Nat → Nat → Int32} (hn : n ≤ 229) (hc : (ewLP.all fun q => Nat.ble n q.1 || Nat.beq (r q.1 q.2) (rc q.1 q.2)) = true) : ewQe (n, r, h) (n, rc, h) := by
  have key : ∀ k j, k < n → ewLq k j = true → rc k j = r k j := fun k j hk hl => by
    have := List.all_eq_true.mp hc _ (ewLP_of (by omega) hl)
    rw [Bool.or_eq_true] at this
    rcases this with y | y
    · have := Nat.le_of_ble_eq_true y
      dsimp only at this
      omega
    · exact (Nat.eq_of_beq_eq_true y).symm
  refine ⟨rfl, fun k hk => ⟨fun k9 j hj => ?_, fun _ j hj => rfl, fun k10 j hj => ?_⟩⟩
  · by_cases t : ewFT (kK k) j = 2
    · rw [if_pos t]
      exact key k j hk (by unfold ewLq; rw [if_pos k9, decide_eq_true hj, decide_eq_true t]; rfl)
    · rw [if_neg t]
  · exact key k j hk (by unfold ewLq; rw [if_neg (by omega), decide_eq_true k10, decide_eq_true hj]; rfl)
/-! fill and start while 194 cells are there -/
def ewTz (k c : Nat) : Bool := Nat.beq (kK k) c && Nat.blt k 194
theorem v_Ja_fillz_0 {X : Nat × (Nat → Int32)} {d : Nat} {Q : Option Value → eS → Prop} {cu sp n1 n2 n3 n4 : Nat} (q0 : Nat) (x1 : Int32) (h : Nat → Nat → Int32) (c1 : ewTz q0 9 = true) (k2 : ewP X Ja_fill (d + 0) 5 [some (.ref q0), some (.int x1), some (.int 0), some (.int (Int32.ofNat (kL q0)))] [] (0, 0) (194, (ewR cu sp n1 n2 n3 n4), h) Q) : ewP X Ja_fill (d + 0) 0 [some (.ref q0), some (.int x1), none, none] [] (0, 0) (194, (ewR cu sp n1 n2 n3 n4), h) Q := (ewP_0 kb_Ja_fill_0_5 (And.intro rfl (And.intro c1 (And.intro rfl k2))))
theorem v_Ja_fillz_5 {X : Nat × (Nat → Int32)} {d : Nat} {Q : Option Value → eS → Prop} {cu sp n1 n2 n3 n4 : Nat} (q0 : Nat) (x1 x2 x3 : Int32) (h : Nat → Nat → Int32) (k1 : (¬ (x2 < x3)) → Q none (194, (ewR cu sp n1 n2 n3 n4), h)) (c2 : (x2 < x3) → ewTz q0 9 = true) (c3 : (x2 < x3) → vp_in x2 (kL q0)) (k4 : (x2 < x3) → ewP X Ja_fill (d + 0) 5 [some (.ref q0), some (.int x1), some (.int (x2 + 1)), some (.int x3)] [] (0, 0) (194, (ewR cu sp n1 n2 n3 n4), (ewS h q0 (upd (h q0) x2.toNatClampNeg x1))) Q) : ewP X Ja_fill (d + 0) 5 [some (.ref q0), some (.int x1), some (.int x2), some (.int x3)] [] (0, 0) (194, (ewR cu sp n1 n2 n3 n4), h) Q := (ewP_0 kb_Ja_fill_5_3 (And.intro (fun (h1 : ¬ (x2 < x3)) => (show ewP X Ja_fill (d + 0) 20 [some (.ref q0), some (.int x1), some (.int x2), some (.int x3)] [] (0, 0) (194, (ewR cu sp n1 n2 n3 n4), h) Q from (ewP_ret (v := none) (And.intro rfl t_Ja_fill_20) (k1 h1)))) (fun (h1 : x2 < x3) => (show ewP X Ja_fill (d + 0) 10 [some (.ref q0), some (.int x1), some (.int x2), some (.int x3)] [] (0, 0) (194, (ewR cu sp n1 n2 n3 n4), h) Q from (ewP_0 kb_Ja_fill_10_6 (And.intro (c2 h1) (And.intro (c3 h1) (show ewP X Ja_fill (d + 0) 5 [some (.ref q0), some (.int x1), some (.int (x2 + 1)), some (.int x3)] [] (0, 0) (194, (ewR cu sp n1 n2 n3 n4), (ewS h q0 (upd (h q0) x2.toNatClampNeg x1))) Q from (k4 h1)))))))))
def p_Ja_fillz (_ : Nat → Nat → Int32) (q0 : Nat) (_ : Int32) : Prop := ewTz q0 9 = true ∧ kL q0 < 1000
theorem s_Ja_fillz {X : Nat × (Nat → Int32)} {d : Nat} {Q : Option Value → eS → Prop} {cu sp n1 n2 n3 n4 : Nat} (q0 : Nat) (x1 : Int32) (h : Nat → Nat → Int32) (hp : p_Ja_fillz h q0 x1) (z9 : Q none (194, (ewR cu sp n1 n2 n3 n4), g_Ja_fill h q0 x1)) : ewP X Ja_fill (d + 0) 0 [some (.ref q0), some (.int x1), none, none] [] (0, 0) (194, (ewR cu sp n1 n2 n3 n4), h) Q := by
  obtain ⟨h1, h2⟩ := hp
  refine v_Ja_fillz_0 q0 x1 h h1 ?_
  refine upto (H := Nat → Nat → Int32) (P := fun i w => w = ewS h q0 (fun j => if j < i then x1 else h q0 j)) (E := fun i w => ewP X Ja_fill (d + 0) 5 [some (.ref q0), some (.int x1), some (.int (nI i)), some (.int (nI (kL q0)))] [] (0, 0) (194, ewR cu sp n1 n2 n3 n4, w) Q) (kL q0) ?_ ?_ 0 h (Nat.zero_le _) ?_
  · intro i w hi hw next
    have hlt : nI i < nI (kL q0) := (nI_ltb (by omega) (by omega)).mpr hi
    refine v_Ja_fillz_5 _ _ _ _ w (fun q => absurd hlt q) (fun _ => h1) (fun _ => nI_inB hi (by omega)) (fun _ => ?_)
    rw [← nI_succ, nI_clamp (by omega)]
    refine next _ ?_
    rw [hw, ewS_S, ewS_self]
    congr 1
    funext j
    show (if j = i then x1 else if j < i then x1 else h q0 j) = if j < i + 1 then x1 else h q0 j
    by_cases q : j = i
    · rw [if_pos q, if_pos (by omega)]
    · rw [if_neg q]
      by_cases q2 : j < i
      · rw [if_pos q2, if_pos (by omega)]
      · rw [if_neg q2, if_neg (by omega)]
  · intro w hw
    have hlt : ¬ nI (kL q0) < nI (kL q0) := nI_nlt (Nat.le_refl _) (by omega)
    refine v_Ja_fillz_5 _ _ _ _ w (fun _ => ?_) (fun q => absurd q hlt) (fun q => absurd q hlt) (fun q => absurd q hlt)
    rw [hw]; exact z9
  · exact (ewS_id h q0 (by funext j; rw [if_neg (by omega)])).symm
def p_Se_startz (h : Nat → Nat → Int32)  : Prop := (p_Ja_fillz (ewS (ewS (ewS (ewS h 67 (upd (h 67) 0 0)) 67 (upd (upd (h 67) 0 0) 1 1)) 68 (va_cpy (h 4) (h 68) 0 0 8)) 69 (va_cpy (h 5) (h 69) 0 0 8)) 70 ((-1)))
theorem s_Se_startz {X : Nat × (Nat → Int32)} {d : Nat} {Q : Option Value → eS → Prop} {cu sp n1 n2 n3 n4 : Nat}  (h : Nat → Nat → Int32) (hp : p_Se_startz h) (z9 : Q none (194, (ewR cu sp n1 n2 n3 n4), g_Se_start h)) : ewP X Se_start (d + 1) 0 [some (.ref 67), some (.ref 3)] [] (0, 0) (194, (ewR cu sp n1 n2 n3 n4), h) Q := by have c1 : p_Ja_fillz (ewS (ewS (ewS (ewS h 67 (upd (h 67) 0 0)) 67 (upd (upd (h 67) 0 0) 1 1)) 68 (va_cpy (h 4) (h 68) 0 0 8)) 69 (va_cpy (h 5) (h 69) 0 0 8)) 70 ((-1)) := hp; exact (ewP_0 kb_Se_start_0_13 (And.intro rfl (And.intro rfl (And.intro rfl (And.intro (And.intro rfl rfl) (And.intro rfl (And.intro (And.intro rfl rfl) (show ewP X Se_start (d + 1) 22 [some (.ref 67), some (.ref 3)] [.int 8, .int 0, .ref 68, .int 0, .ref 4] (0, 0) (194, (ewR cu sp n1 n2 n3 n4), (ewS (ewS h 67 (upd (h 67) 0 0)) 67 (upd (upd (h 67) 0 0) 1 1))) Q from (ewP_b b_Se_start_22_c kb_Se_start_22_c wb_Se_start_22_c (And.intro rfl (And.intro rfl (And.intro rfl (And.intro (by decide) (And.intro (by decide) (And.intro (by decide) (And.intro (by decide) (And.intro (by decide) (show ewP X Se_start (d + 1) 25 [some (.ref 67), some (.ref 3)] [] (0, 0) (194, (ewR cu sp n1 n2 n3 n4), (ewS (ewS (ewS h 67 (upd (h 67) 0 0)) 67 (upd (upd (h 67) 0 0) 1 1)) 68 (va_cpy (h 4) (h 68) 0 0 8))) Q from (ewP_0 kb_Se_start_25_7 (And.intro rfl (And.intro (And.intro rfl rfl) (And.intro rfl (And.intro (And.intro rfl rfl) (show ewP X Se_start (d + 1) 37 [some (.ref 67), some (.ref 3)] [.int 8, .int 0, .ref 69, .int 0, .ref 5] (0, 0) (194, (ewR cu sp n1 n2 n3 n4), (ewS (ewS (ewS h 67 (upd (h 67) 0 0)) 67 (upd (upd (h 67) 0 0) 1 1)) 68 (va_cpy (h 4) (h 68) 0 0 8))) Q from (ewP_b b_Se_start_37_c kb_Se_start_37_c wb_Se_start_37_c (And.intro rfl (And.intro rfl (And.intro rfl (And.intro (by decide) (And.intro (by decide) (And.intro (by decide) (And.intro (by decide) (And.intro (by decide) (show ewP X Se_start (d + 1) 40 [some (.ref 67), some (.ref 3)] [] (0, 0) (194, (ewR cu sp n1 n2 n3 n4), (ewS (ewS (ewS (ewS h 67 (upd (h 67) 0 0)) 67 (upd (upd (h 67) 0 0) 1 1)) 68 (va_cpy (h 4) (h 68) 0 0 8)) 69 (va_cpy (h 5) (h 69) 0 0 8))) Q from (ewP_0 kb_Se_start_40_3 (And.intro rfl (And.intro (And.intro rfl rfl) (show ewP X Se_start (d + 1) 45 [some (.ref 67), some (.ref 3)] [.int (-1), .ref 70] (0, 0) (194, (ewR cu sp n1 n2 n3 n4), (ewS (ewS (ewS (ewS h 67 (upd (h 67) 0 0)) 67 (upd (upd (h 67) 0 0) 1 1)) 68 (va_cpy (h 4) (h 68) 0 0 8)) 69 (va_cpy (h 5) (h 69) 0 0 8))) Q from (ewP_sF (v0 := none) (S0 := (194, (ewR cu sp n1 n2 n3 n4), (g_Ja_fill (ewS (ewS (ewS (ewS h 67 (upd (h 67) 0 0)) 67 (upd (upd (h 67) 0 0) 1 1)) 68 (va_cpy (h 4) (h 68) 0 0 8)) 69 (va_cpy (h 5) (h 69) 0 0 8)) 70 ((-1))))) (as := [.ref 70, .int (-1)]) (rest := []) l_5_38 o_Ja_fill t_Se_start_45 rfl (Nat.le_of_ble_eq_true rfl) rfl rfl rfl rfl (fun Q9 z9 => s_Ja_fillz (d := d + 0) 70 ((-1)) (ewS (ewS (ewS (ewS h 67 (upd (h 67) 0 0)) 67 (upd (upd (h 67) 0 0) 1 1)) 68 (va_cpy (h 4) (h 68) 0 0 8)) 69 (va_cpy (h 5) (h 69) 0 0 8)) c1 z9) (show ewP X Se_start (d + 1) 48 [some (.ref 67), some (.ref 3)] [] (0, 0) (194, (ewR cu sp n1 n2 n3 n4), (g_Ja_fill (ewS (ewS (ewS (ewS h 67 (upd (h 67) 0 0)) 67 (upd (upd (h 67) 0 0) 1 1)) 68 (va_cpy (h 4) (h 68) 0 0 8)) 69 (va_cpy (h 5) (h 69) 0 0 8)) 70 ((-1)))) Q from (ewP_ret (v := none) (And.intro rfl t_Se_start_48) (by simp only [g_Se_start] at z9; exact z9))))))))))))))))))))))))))))))))))))))))))
