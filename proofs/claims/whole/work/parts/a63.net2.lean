/-! the class's call net; frames between class and reference -/
section EW10
variable {X : Nat × (Nat → Int32)} {d : Nat} {n1 n2 n3 n4 : Nat} {h w : Nat → Nat → Int32} {G : Nat → Nat → Int32} {tn : Nat} {tx : Nat → Int32} {fp wy : Int32} {n m : Nat} {A B : Nat → Nat} {k : Nat} {F T : Nat → Nat} {c c' : Nat → Int32} {u : Nat} {S : Nat → Nat → Int32} {g : Nat → Bool} {I : Nat → Nat → Int32}
theorem cE3_of (e : cE35 w m A B) (f : ∀ q, 3 ≤ q → q ≤ 34 → h q = w (q + 32)) : cE3 h m A B := by
  obtain ⟨e1, e2, e3, e4⟩ := e
  have f3 : h 3 = w 35 := f 3 (by omega) (by omega)
  have f6 : h 6 = w 38 := f 6 (by omega) (by omega)
  have f7 : h 7 = w 39 := f 7 (by omega) (by omega)
  have f11 : h 11 = w 43 := f 11 (by omega) (by omega)
  have f12 : h 12 = w 44 := f 12 (by omega) (by omega)
  refine ⟨by rw [f3]; exact e1, e2, by rw [f6, f7, f11, f12]; exact e3, fun e x he hx hne => ?_⟩
  rw [f (19 + e) (by omega) (by omega), show 19 + e + 32 = 51 + e by omega]
  exact e4 e x he hx hne
theorem cL3_of (e : cL35 w m A B k F T) (f : ∀ q, 3 ≤ q → q ≤ 34 → h q = w (q + 32)) : cL3 h m A B k F T := by
  obtain ⟨e1, e2, e3, e4, e5, e6⟩ := e
  have f3 : h 3 = w 35 := f 3 (by omega) (by omega)
  have f8 : h 8 = w 40 := f 8 (by omega) (by omega)
  have f9 : h 9 = w 41 := f 9 (by omega) (by omega)
  have f13 : h 13 = w 45 := f 13 (by omega) (by omega)
  have f14 : h 14 = w 46 := f 14 (by omega) (by omega)
  have f15 : h 15 = w 47 := f 15 (by omega) (by omega)
  have f16 : h 16 = w 48 := f 16 (by omega) (by omega)
  have f17 : h 17 = w 49 := f 17 (by omega) (by omega)
  refine ⟨by rw [f3]; exact e1, e2, by rw [f8, f9, f13, f14]; exact e3, by rw [f15]; exact e4, fun l s hl hs => by rw [f16, f17]; exact e5 l s (by omega) hs, fun e x he hx => ?_⟩
  rw [f (27 + e) (by omega) (by omega), show 27 + e + 32 = 59 + e by omega]
  exact e6 e x he hx
theorem cNt_of {z : pSt} (cz : cNz w z) (wf : pWF z) (nm : pNm z) (f : ∀ q, 3 ≤ q → q ≤ 34 → h q = w (q + 32)) : cNt h z.2.1.1 z.2.2.1.1 z.2.2.1.2.1 z.2.2.1.2.2 z.2.2.2.1 z.2.2.2.2.1 z.2.2.2.2.2 := by
  obtain ⟨c1, c2, c3⟩ := cz
  have f3 : h 3 = w 35 := f 3 (by omega) (by omega)
  have f10 : h 10 = w 42 := f 10 (by omega) (by omega)
  exact ⟨⟨by rw [f3]; exact c1.1, c1.2.1, fun s hs => by rw [f10]; exact (c1.2.2 s hs).2.2⟩, cE3_of c2 f, cL3_of c3 f, wf.ok, nm.2.1, nm.2.2⟩
/-- what the class keeps, with other rows of the reference -/
theorem cI.re (a : cI h n1 n3 n4 G tn tx fp wy n m A B k F T c u S g I) (f : ∀ q, q < 194 → w q = h q) : cI w n1 n3 n4 w tn tx fp wy n m A B k F T c u S g I := by
  obtain ⟨⟨a1, a2, a3, a4, ⟨o, a5⟩, ⟨a6, a7⟩, a8, -⟩, b1, b2, b3, b4⟩ := a
  have f0 := f 0 (by omega)
  refine ⟨⟨by rw [f 1 (by omega), f 2 (by omega)]; exact a1, by rw [f 1 (by omega)]; exact a2, a3.fr (fun q q1 q2 => f q (by omega)), a4.fr (fun q q1 q2 => f q (by omega)), ⟨o, a5.fr (fun q q1 q2 => f q (by omega))⟩, ⟨by rw [f0]; exact a6, fun i hi hg => (a7 i hi hg).fr (fun q q1 q2 => f q (by omega))⟩, by rw [f 157 (by omega), f 166 (by omega)]; exact a8, fun _ _ => rfl⟩, ?_, ?_, ?_, ?_⟩
  · rw [f0]; exact fun y => ⟨(b1 y).1, (b1 y).2.fr (fun q hq => f q (by omega))⟩
  · rw [f0]; exact b2
  · rw [f0]; exact fun y => ⟨(b3 y).1, (b3 y).2.1, (b3 y).2.2.fr (fun q hq => f q (by omega))⟩
  · rw [f0]; exact fun y => ⟨(b4 y).1, (b4 y).2.1, (b4 y).2.2.fr (fun q hq => f q (by omega))⟩
theorem mI.re (a : mI h G tn tx fp wy n m A B k F T c u S g I) (f : ∀ q, 194 ≤ q → w q = h q) : mI w w tn tx fp wy n m A B k F T c u S g I := by
  have fq : mFq h w (List.range 194) [] := ⟨fun q q1 q2 => f q (by have : ¬ q < 194 := fun z => q2 (List.mem_range.mpr z); omega), fun j _ => by rw [f 194 (by omega)]⟩
  obtain ⟨a1, a2, a3, a4, a5, a6⟩ := a
  have nr : ∀ q, 194 ≤ q → q ∉ List.range 194 := fun q hq z => by have := List.mem_range.mp z; omega
  obtain ⟨r1, r2, r3, r4, r5, r6, r7, r8⟩ := g_fr fq ⟨nr _ (by omega), nr _ (by omega), nr _ (by omega), nr _ (by omega), nr _ (by omega), nr _ (by omega), nr _ (by omega)⟩ (by decide)
  obtain ⟨g1, g2, g3, g4, g5, g6, g7⟩ := a3.g
  have wN := r8 a3.N
  unfold mN at wN
  rw [r1, r2, r3, r4, r5, r6, r7, g1, g2, g3, g4, g5, g6, g7] at wN
  exact ⟨by rw [f 194 (by omega), f 203 (by omega)]; exact a1, ⟨by rw [f 194 (by omega)]; exact a2.1, fun _ _ => rfl⟩, wN, by rw [f 202 (by omega)]; exact a4, by rw [f 194 (by omega), f 226 (by omega)]; exact a5, by rw [f 227 (by omega), f 228 (by omega)]; exact a6⟩
theorem t_Ew_net (a : cI h n1 n3 n4 G tn tx fp wy n m A B k F T c u S g I) (ht : tn ≤ 240) : ewP X Ew_net (d + 14) 0 [some (.ref 0), none, none] [] (0, 0) (229, ewR 3 35 n1 n2 n3 n4, h) (fun v S' => ∃ (h' : Nat → Nat → Int32) (y : Int32), v = some (.int y) ∧
    match ppa tx tn 241 ppS with
    | .inl x => S' = (229, ewR 3 35 n1 n2 n3 n4, h') ∧ y = -10 - nI x.1 ∧ cI h' n1 n3 n4 G 0 tx (nI x.2.1) (nI x.2.2) n m A B k F T c u S g I
    | .inr z => S' = (229, ewR 35 3 n1 n2 n3 n4, h') ∧ y = nI z.2.1.1 ∧ (pWF z ∧ pNm z ∧ z.2.1.1 ≤ 8 ∧ z.2.2.1.1 ≤ 7 ∧ z.2.2.2.1 ≤ 3) ∧ (∀ q, 194 ≤ q → h' q = G q) ∧ cI (fun q => h' (ewPi q)) (ewPi n1) (ewPi n3) (ewPi n4) G 0 tx (-1) 0 z.2.1.1 z.2.2.1.1 z.2.2.1.2.1 z.2.2.1.2.2 z.2.2.2.1 z.2.2.2.2.1 z.2.2.2.2.2 (pS0 z.2.1.2.1 z.2.1.2.2) 0 S (fun _ => false) I) := by
  obtain ⟨⟨a1, a2, a3, a4, ⟨o, a5⟩, ⟨a6, a7⟩, a8, aG⟩, b1, b2, b3, b4⟩ := id a
  refine v_Ew_net_0 h (P_Re_read := fun h' => h' = h) (R_Re_read := fun _ w y => mRd h tn w y) (fun h' e => by subst e; exact s_Re_read (d := d + 8) h' a1.1 ht) rfl (fun w y hw => ?_)
  obtain ⟨f, w10, hm⟩ := hw
  rw [ppa_cg a1.2] at hm
  cases ep : ppa tx tn 241 ppS with
  | inl x =>
    rw [ep] at hm
    obtain ⟨m1, m2, m3, m4⟩ := hm
    have y0 : ¬ y = 0 := by
      rw [m1]
      intro z
      have : x.1 = 0 := (nI_eq (b := 0) (by omega) (by omega)).mp z
      omega
    refine ⟨fun z => absurd z y0, fun z => absurd z y0, fun _ => ⟨w, _, rfl, rfl, by rw [m1], ?_⟩⟩
    have f0 := f 0 (by omega) (by omega)
    refine ⟨⟨⟨w10, fun j hj => absurd hj (by omega)⟩, ⟨m3, m4⟩, a3.fr (fun q q1 q2 => f q (by omega) (by omega)), a4.fr (fun q q1 q2 => f q (by omega) (by omega)), ⟨o, a5.fr (fun q q1 q2 => f q (by omega) (by omega))⟩, ⟨by rw [f0]; exact a6, fun i hi hg => (a7 i hi hg).fr (fun q q1 q2 => f q (by omega) (by omega))⟩, by rw [f 157 (by omega) (by omega), f 166 (by omega) (by omega)]; exact a8, fun q hq => (f q (by omega) (by omega)).trans (aG q hq)⟩, ?_, ?_, ?_, ?_⟩
    · rw [f0]; exact fun y => ⟨(b1 y).1, (b1 y).2.fr (fun q hq => f q (by omega) (by omega))⟩
    · rw [f0]; exact b2
    · rw [f0]; exact fun y => ⟨(b3 y).1, (b3 y).2.1, (b3 y).2.2.fr (fun q hq => f q (by omega) (by omega))⟩
    · rw [f0]; exact fun y => ⟨(b4 y).1, (b4 y).2.1, (b4 y).2.2.fr (fun q hq => f q (by omega) (by omega))⟩
  | inr z =>
    rw [ep] at hm
    obtain ⟨m1, m2, m3, m4, m5, m6⟩ := hm
    have n8 := m4.1.2.1
    obtain ⟨s1, s2, s3⟩ := startx_n (h := w) (n := z.2.1.1) (X := z.2.1.2.1) (Y := z.2.1.2.2) (fun s hs => ⟨(m4.1.2.2 s hs).1, (m4.1.2.2 s hs).2.1⟩) n8
    refine ⟨fun _ => s1, fun _ => ?_, fun q => absurd m1 q⟩
    rw [show ∀ q, g_Ew_forgety q = g_Ew_forget q from fun _ => rfl]
    obtain ⟨f1, f2, f3⟩ := forget_n (ewS (g_Pa_clear (g_Se_startx w)) 0 (upd ((g_Pa_clear (g_Se_startx w)) 0) 7 0))
    have f4 : ∀ q, q ≠ 0 → q ≠ 75 → g_Ew_forget (ewS (g_Pa_clear (g_Se_startx w)) 0 (upd ((g_Pa_clear (g_Se_startx w)) 0) 7 0)) q = g_Se_startx w q := fun q q1 q2 => (f1 q q1).trans ((ewS_ne _ _ q1).trans (ewS_ne _ _ q2))
    have f5 : ∀ q, q ≠ 0 → q ≠ 75 → ¬ (67 ≤ q ∧ q ≤ 70) → g_Ew_forget (ewS (g_Pa_clear (g_Se_startx w)) 0 (upd ((g_Pa_clear (g_Se_startx w)) 0) 7 0)) q = w q := fun q q1 q2 q3 => (f4 q q1 q2).trans (s2 q q3)
    have f7 : g_Ew_forget (ewS (g_Pa_clear (g_Se_startx w)) 0 (upd ((g_Pa_clear (g_Se_startx w)) 0) 7 0)) 0 7 = 0 := f2
    have f75 : g_Ew_forget (ewS (g_Pa_clear (g_Se_startx w)) 0 (upd ((g_Pa_clear (g_Se_startx w)) 0) 7 0)) 75 = upd (h 75) 0 0 := by
      rw [f1 75 (by omega), ewS_ne _ _ (by omega)]
      show upd (g_Se_startx w 75) 0 0 = _
      rw [s2 75 (by omega), f 75 (by omega) (by omega)]
    generalize g_Ew_forget (ewS (g_Pa_clear (g_Se_startx w)) 0 (upd ((g_Pa_clear (g_Se_startx w)) 0) 7 0)) = w' at f1 f2 f3 f4 f5 f7 f75 ⊢
    refine ⟨w', _, rfl, rfl, by rw [f5 35 (by omega) (by omega) (by omega)]; exact m4.1.1, ⟨m5, m6, n8, m4.2.1.2.1, m4.2.2.2.1⟩, fun q hq => (f5 q (by omega) (by omega) (by omega)).trans ((f q (by omega) (by omega)).trans (aG q hq)), ?_⟩
    have e : ∀ q, (q < 3 ∨ 66 < q) → (fun q => w' (ewPi q)) q = w' q := fun q hq => by show w' (ewPi q) = w' q; rw [ewPi_id hq]
    have f9 : ∀ q, (q = 1 ∨ q = 2 ∨ (70 < q ∧ q ≠ 75)) → (fun q => w' (ewPi q)) q = w q := fun q hq => (e q (by omega)).trans (f5 q (by omega) (by omega) (by omega))
    have fN : ∀ q, 3 ≤ q → q ≤ 34 → (fun q => w' (ewPi q)) q = w (q + 32) := fun q q1 q2 => by
      show w' (ewPi q) = _
      rw [ewPi_lo ⟨q1, q2⟩]; exact f5 _ (by omega) (by omega) (by omega)
    have e0 := e 0 (by omega)
    have e75 := e 75 (by omega)
    have e67 : ∀ q, 67 ≤ q → q ≤ 70 → (fun q => w' (ewPi q)) q = g_Se_startx w q := fun q q1 q2 => (e q (by omega)).trans (f4 q (by omega) (by omega))
    generalize (fun q => w' (ewPi q)) = v at e f9 fN e0 e75 e67 ⊢
    refine ⟨⟨⟨by rw [f9 1 (by omega)]; exact w10, fun j hj => absurd hj (by omega)⟩, ?_, cNt_of m4 m5 m6 fN, s3.fr (fun q q1 q2 => e67 q (by omega) (by omega)), ⟨o, ⟨by rw [e75, f75]; rfl, by omega⟩, ⟨by rw [e75, f75]; exact a5.2.1.1, a5.2.1.2⟩, fun j hj => absurd hj (by omega)⟩, ⟨?_, fun i hi hg => by cases hg⟩, ?_, fun q hq => (f9 q (by omega)).trans ((f q (by omega) (by omega)).trans (aG q hq))⟩, cNo.cC ?_⟩
    · rw [f9 1 (by omega)]; exact ⟨m2, m3⟩
    · rw [e0, f7]; rfl
    · rw [f9 157 (by omega), f9 166 (by omega), f 157 (by omega) (by omega), f 166 (by omega) (by omega)]; exact a8
    · exact f3.fr e0
end EW10
