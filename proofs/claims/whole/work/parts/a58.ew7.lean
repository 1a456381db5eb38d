/-! settings that make sense; the class's calls that change -/
def aSx (n m : Nat) (c : Nat → Int32) : Prop := aSe n m c ∧ ∀ e, m ≤ e → e < 7 → c (16 + e) = -1
section EW7
variable {X : Nat × (Nat → Int32)} {d : Nat} {n1 n2 n3 n4 : Nat} {h : Nat → Nat → Int32} {G : Nat → Nat → Int32} {tn : Nat} {tx : Nat → Int32} {fp wy : Int32} {n m : Nat} {A B : Nat → Nat} {k : Nat} {F T : Nat → Nat} {c c' : Nat → Int32} {u : Nat} {S : Nat → Nat → Int32} {g : Nat → Bool} {I : Nat → Nat → Int32}
theorem aSx_fix (o : aSx n m c) (h8 : n ≤ 8) (h7 : m ≤ 7) {e j : Nat} (he : e < m) (hj : j < 8) : aSx n m (upd c (16 + e) (nI j)) := by
  obtain ⟨⟨o1, o2⟩, o3⟩ := o
  refine ⟨⟨mSe_fix o1 (by omega) hj, fun s hs => ?_⟩, fun f h1 h2 => ?_⟩
  · rw [upd, upd, if_neg (by omega), if_neg (by omega)]; exact o2 s hs
  · rw [upd, if_neg (by omega)]; exact o3 f h1 h2
theorem aSx_loose (o : aSx n m c) (h8 : n ≤ 8) (h7 : m ≤ 7) {e : Nat} (he : e < m) : aSx n m (upd c (16 + e) (-1)) := by
  obtain ⟨⟨⟨o0, o1, o4⟩, o2⟩, o3⟩ := o
  refine ⟨⟨⟨by rw [upd, if_neg (by omega)]; exact o0, by rw [upd, if_neg (by omega)]; exact o1, fun f hf => ?_⟩, fun s hs => ?_⟩, fun f h1 h2 => ?_⟩
  · rw [upd]
    split
    · exact Or.inl rfl
    · exact o4 f hf
  · rw [upd, upd, if_neg (by omega), if_neg (by omega)]; exact o2 s hs
  · rw [upd, if_neg (by omega)]; exact o3 f h1 h2
theorem aSx_cnt (o : aSx n m c) (h8 : n ≤ 8) (h7 : m ≤ 7) {i v : Nat} (hi : i < 2) (hv : v < (if i = 0 then 4 else 10)) : aSx n m (upd c (23 + i) (nI v)) := by
  obtain ⟨⟨o1, o2⟩, o3⟩ := o
  refine ⟨⟨?_, fun s hs => ?_⟩, fun f h1 h2 => ?_⟩
  · by_cases q : i = 0
    · rw [if_pos q] at hv; subst q; exact mSe_way o1 h7 hv
    · rw [if_neg q] at hv
      have : i = 1 := by omega
      subst this; exact mSe_off o1 h7 hv
  · rw [upd, upd, if_neg (by omega), if_neg (by omega)]; exact o2 s hs
  · rw [upd, if_neg (by omega)]; exact o3 f h1 h2
theorem aSx_move (o : aSx n m c) (h8 : n ≤ 8) {s i j : Nat} (hs : s < n) (hi : i < 100) (hj : j < 100) : aSx n m (upd (upd c s (nI i)) (8 + s) (nI j)) := by
  obtain ⟨⟨o1, o2⟩, o3⟩ := o
  refine ⟨⟨mSe_xy (mSe_xy o1 (by omega) _) (by omega) _, fun t ht => ⟨?_, ?_⟩⟩, fun f h1 h2 => ?_⟩
  · rw [upd, if_neg (by omega), upd]
    split
    · exact ⟨i, hi, rfl⟩
    · exact (o2 t ht).1
  · rw [upd]
    split
    · exact ⟨j, hj, rfl⟩
    · rw [upd, if_neg (by omega)]; exact (o2 t ht).2
  · rw [upd, if_neg (by omega), upd, if_neg (by omega)]; exact o3 f h1 h2
theorem aSx_dc (o : aSx n m c) (h8 : n ≤ 8) {x : Int32} (h1 : 1 ≤ x.toInt) (h2 : x.toInt ≤ 999999) : aSx n m (pDc x.toInt64 c n) := by
  obtain ⟨⟨o1, o2⟩, o3⟩ := o
  obtain ⟨y, hy, rfl⟩ : ∃ y : Nat, y < 1000000 ∧ x = nI y := by
    refine ⟨x.toInt.toNat, by omega, Int32.toInt_inj.mp ?_⟩
    rw [nI_toInt (by omega)]; omega
  have e : (nI y).toInt64 = Int64.ofNat y := by
    apply Int64.toInt_inj.mp
    rw [Int32.toInt_toInt64, nI_toInt (by omega), show (Int64.ofNat y).toInt = (y : Int) from pk_lT (by omega)]
  rw [e]
  obtain ⟨p1, p2⟩ := pDc_n (x := y) (by omega) c n h8
  refine ⟨⟨mSe_dc o1 _ n h8, fun s hs => p1 s hs⟩, fun f h1 h2 => ?_⟩
  rw [p2 _ (by omega)]; exact o3 f h1 h2
/-- another setting -/
theorem cJ.set {w : Nat → Nat → Int32} (a : cJ h G tn tx fp wy n m A B k F T c u S g I) (f : ∀ q, ¬ (67 ≤ q ∧ q ≤ 70) → w q = h q) (s : cSt w 67 n c') : cJ w G tn tx fp wy n m A B k F T c' u S g I := by
  obtain ⟨a1, a2, a3, a4, ⟨o, a5⟩, ⟨a6, a7⟩, a8⟩ := a
  refine ⟨?_, ?_, a3.fr (fun q q1 q2 => f q (by omega)), s, ⟨o, a5.fr (fun q q1 q2 => f q (by omega))⟩, ⟨by rw [f 0 (by omega)]; exact a6, fun i hi hg => (a7 i hi hg).fr (fun q q1 q2 => f q (by omega))⟩, ?_⟩
  · rw [f 1 (by omega), f 2 (by omega)]; exact a1
  · rw [f 1 (by omega)]; exact a2
  · exact ⟨by rw [f 157 (by omega), f 166 (by omega)]; exact a8.1, fun q hq => (f q (by omega)).trans (a8.2 q hq)⟩
theorem cSt_fix (s : cSt h 67 n c) (h8 : n ≤ 8) {e : Nat} (he : e < 7) (x : Int32) : cSt (ewS h 70 (upd (h 70) e x)) 67 n (upd c (16 + e) x) := by
  obtain ⟨s1, s2, s3, s4⟩ := s
  refine ⟨?_, ?_, fun t ht => ⟨?_, ?_⟩, fun f hf => ?_⟩
  · rw [upd, if_neg (by omega)]; exact s1
  · rw [upd, if_neg (by omega)]; exact s2
  · rw [upd, if_neg (by omega)]; exact (s3 t ht).1
  · rw [upd, if_neg (by omega)]; exact (s3 t ht).2
  · show (if f = e then x else h 70 f) = if 16 + f = 16 + e then x else c (16 + f)
    by_cases y : f = e
    · rw [if_pos y, if_pos (by omega)]
    · rw [if_neg y, if_neg (by omega)]; exact s4 f hf
theorem cSt_cnt (s : cSt h 67 n c) (h8 : n ≤ 8) {i : Nat} (hi : i < 2) (x : Int32) : cSt (ewS h 67 (upd (h 67) i x)) 67 n (upd c (23 + i) x) := by
  obtain ⟨s1, s2, s3, s4⟩ := s
  refine ⟨?_, ?_, fun t ht => ⟨?_, ?_⟩, fun f hf => ?_⟩
  · show (if 0 = i then x else h 67 0) = if 23 = 23 + i then x else c 23
    by_cases y : 0 = i
    · rw [if_pos y, if_pos (by omega)]
    · rw [if_neg y, if_neg (by omega)]; exact s1
  · show (if 1 = i then x else h 67 1) = if 24 = 23 + i then x else c 24
    by_cases y : 1 = i
    · rw [if_pos y, if_pos (by omega)]
    · rw [if_neg y, if_neg (by omega)]; exact s2
  · rw [upd, if_neg (by omega)]; exact (s3 t ht).1
  · rw [upd, if_neg (by omega)]; exact (s3 t ht).2
  · rw [upd, if_neg (by omega)]; exact s4 f hf
theorem cSt_move (s : cSt h 67 n c) (h8 : n ≤ 8) {t : Nat} (ht : t < n) (x y : Int32) : cSt (ewS (ewS h 68 (upd (h 68) t x)) 69 (upd (h 69) t y)) 67 n (upd (upd c t x) (8 + t) y) := by
  obtain ⟨s1, s2, s3, s4⟩ := s
  refine ⟨?_, ?_, fun r hr => ⟨?_, ?_⟩, fun f hf => ?_⟩
  · rw [upd, if_neg (by omega), upd, if_neg (by omega)]; exact s1
  · rw [upd, if_neg (by omega), upd, if_neg (by omega)]; exact s2
  · rw [upd, if_neg (by omega), upd]
    show (if r = t then x else h 68 r) = _
    by_cases z : r = t
    · rw [if_pos z, if_pos z]
    · rw [if_neg z, if_neg z]; exact (s3 r hr).1
  · rw [upd, upd]
    show (if r = t then y else h 69 r) = _
    by_cases z : r = t
    · rw [if_pos z, if_pos (by omega)]
    · rw [if_neg z, if_neg (by omega), if_neg (by omega)]; exact (s3 r hr).2
  · rw [upd, if_neg (by omega), upd, if_neg (by omega)]; exact s4 f hf
theorem in_7 {x : Int32} (b : Nat) (hb : b < 1000) : (¬ x < 0 ∧ ¬ nI b < x) ↔ ∃ i, i < b + 1 ∧ x = nI i := by
  rw [← in_n (by omega)]
  refine and_congr_right (fun _ => ?_)
  rw [Int32.lt_iff_toInt_lt, Int32.lt_iff_toInt_lt, nI_toInt (by omega), nI_toInt (by omega)]
  omega
end EW7
