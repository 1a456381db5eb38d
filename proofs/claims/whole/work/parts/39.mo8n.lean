/-! the reference: what has been read is taken -/
def mPR (h : Nat → Nat → Int32) (z : pSt) : Prop :=
  (h 194 18 = nI z.2.1.1 ∧ z.2.1.1 ≤ 8 ∧ ∀ s, s < z.2.1.1 → h 204 s = nI (z.2.1.2.1 s) ∧ h 205 s = nI (z.2.1.2.2 s) ∧ h 210 s = nI (plb z.2.2.1.2.1 z.2.2.1.2.2 z.2.2.1.1 s)) ∧
  (h 194 21 = nI z.2.2.1.1 ∧ z.2.2.1.1 ≤ 7 ∧ ∀ e, e < z.2.2.1.1 → h 206 e = nI (z.2.2.1.2.1 e) ∧ h 207 e = nI (z.2.2.1.2.2 e)) ∧
  (h 194 24 = nI z.2.2.2.1 ∧ z.2.2.2.1 ≤ 3 ∧ ∀ l, l < z.2.2.2.1 → h 208 l = nI (z.2.2.2.2.1 l) ∧ h 209 l = nI (z.2.2.2.2.2 l))
/-- nothing beyond what has been read -/
def pNm (z : pSt) : Prop := (∀ s, z.2.1.1 ≤ s → z.2.1.2.1 s = 0 ∧ z.2.1.2.2 s = 0) ∧ (∀ s, z.2.2.1.1 ≤ s → z.2.2.1.2.1 s = 0 ∧ z.2.2.1.2.2 s = 0) ∧ (∀ s, z.2.2.2.1 ≤ s → z.2.2.2.2.1 s = 0 ∧ z.2.2.2.2.2 s = 0)
theorem nI_fun {f : Nat → Int32} {a b : Nat → Nat} {n : Nat} (ha : ∀ s, s < n → f s = nI (a s) ∧ a s < 2 ^ 31) (hb : ∀ s, s < n → f s = nI (b s) ∧ b s < 2 ^ 31) (za : ∀ s, n ≤ s → a s = 0) (zb : ∀ s, n ≤ s → b s = 0) : a = b := by
  funext s
  by_cases h : s < n
  · exact (nI_eq (ha s h).2 (hb s h).2).mp ((ha s h).1.symm.trans (hb s h).1)
  · rw [za s (by omega), zb s (by omega)]
theorem mPR.u {h : Nat → Nat → Int32} {z z' : pSt} (a : mPR h z) (a' : mPR h z') (w : pWF z) (w' : pWF z') (n : pNm z) (n' : pNm z') : z.2 = z'.2 := by
  obtain ⟨p, ⟨ns, X, Y⟩, ⟨m, A, B⟩, ⟨k, F, T⟩⟩ := z
  obtain ⟨p', ⟨ns', X', Y'⟩, ⟨m', A', B'⟩, ⟨k', F', T'⟩⟩ := z'
  obtain ⟨⟨a1, a2, a3⟩, ⟨a4, a5, a6⟩, ⟨a7, a8, a9⟩⟩ := a
  obtain ⟨⟨b1, b2, b3⟩, ⟨b4, b5, b6⟩, ⟨b7, b8, b9⟩⟩ := a'
  obtain ⟨w1, w2, w3⟩ := w
  obtain ⟨v1, v2, v3⟩ := w'
  obtain ⟨n1, n2, n3⟩ := n
  obtain ⟨o1, o2, o3⟩ := n'
  dsimp only at *
  have e1 : ns = ns' := (nI_eq (by omega) (by omega)).mp (a1.symm.trans b1)
  have e2 : m = m' := (nI_eq (by omega) (by omega)).mp (a4.symm.trans b4)
  have e3 : k = k' := (nI_eq (by omega) (by omega)).mp (a7.symm.trans b7)
  subst e1; subst e2; subst e3
  have f1 : X = X' := nI_fun (f := h 204) (n := ns) (fun s hs => ⟨(a3 s hs).1, by have := w1 s hs; omega⟩) (fun s hs => ⟨(b3 s hs).1, by have := v1 s hs; omega⟩) (fun s hs => (n1 s hs).1) (fun s hs => (o1 s hs).1)
  have f2 : Y = Y' := nI_fun (f := h 205) (n := ns) (fun s hs => ⟨(a3 s hs).2.1, by have := w1 s hs; omega⟩) (fun s hs => ⟨(b3 s hs).2.1, by have := v1 s hs; omega⟩) (fun s hs => (n1 s hs).2) (fun s hs => (o1 s hs).2)
  have f3 : A = A' := nI_fun (f := h 206) (n := m) (fun s hs => ⟨(a6 s hs).1, by have := w2 s hs; omega⟩) (fun s hs => ⟨(b6 s hs).1, by have := v2 s hs; omega⟩) (fun s hs => (n2 s hs).1) (fun s hs => (o2 s hs).1)
  have f4 : B = B' := nI_fun (f := h 207) (n := m) (fun s hs => ⟨(a6 s hs).2, by have := w2 s hs; omega⟩) (fun s hs => ⟨(b6 s hs).2, by have := v2 s hs; omega⟩) (fun s hs => (n2 s hs).2) (fun s hs => (o2 s hs).2)
  have f5 : F = F' := nI_fun (f := h 208) (n := k) (fun s hs => ⟨(a9 s hs).1, by have := w3 s hs; omega⟩) (fun s hs => ⟨(b9 s hs).1, by have := v3 s hs; omega⟩) (fun s hs => (n3 s hs).1) (fun s hs => (o3 s hs).1)
  have f6 : T = T' := nI_fun (f := h 209) (n := k) (fun s hs => ⟨(a9 s hs).2, by have := w3 s hs; omega⟩) (fun s hs => ⟨(b9 s hs).2, by have := v3 s hs; omega⟩) (fun s hs => (n3 s hs).2) (fun s hs => (o3 s hs).2)
  subst f1; subst f2; subst f3; subst f4; subst f5; subst f6
  rfl
/-- a line as it lies -/
def mLn (h : Nat → Nat → Int32) (n m : Nat) (A B : Nat → Nat) (l f t : Nat) : Prop := f < n ∧ t < n ∧ f ≠ t ∧ plb A B m f = plb A B m t ∧ h 197 l = nI f ∧ h 198 l = nI t ∧ h 199 l = nI (tds A B m f t) ∧ (∀ j, j ≤ tds A B m f t → h 201 (8 * l + j) = nI (tnd A B m t f j)) ∧ (∀ j, j < tds A B m f t → h 200 (8 * l + j) = nI (tpe A B m t f j))
/-- the net as it lies -/
def mNt (h : Nat → Nat → Int32) (n m : Nat) (A B : Nat → Nat) (k : Nat) (F T : Nat → Nat) : Prop := mSt h n m A B ∧ (∀ e, m ≤ e → A e = 0 ∧ B e = 0) ∧ (h 194 4 = nI k ∧ k ≤ 3) ∧ (∀ l, k ≤ l → F l = 0 ∧ T l = 0) ∧ ∀ l, l < k → mLn h n m A B l (F l) (T l)
/-- the setting at the start -/
def pS0 (X Y : Nat → Nat) (j : Nat) : Int32 := if j < 8 then nI (X j) else if j < 16 then nI (Y (j - 8)) else if j < 23 then -1 else if j = 23 then 0 else 1
def mTr (h h' : Nat → Nat → Int32) : Prop := mFq h h' [195, 196, 197, 198, 199, 200, 201, 202, 211, 228] [0, 1, 4, 47] ∧ ∀ z, mPR h z → pWF z → pNm z → mNt h' z.2.1.1 z.2.2.1.1 z.2.2.1.2.1 z.2.2.1.2.2 z.2.2.2.1 z.2.2.2.2.1 z.2.2.2.2.2 ∧ (∀ j, j < 25 → h' 202 j = pS0 z.2.1.2.1 z.2.1.2.2 j) ∧ h' 194 47 = 0 ∧ h' 228 0 = 0 ∧ h' 228 1 = 0
def p_Mo_takeRead (h : Nat → Nat → Int32) : Prop := ∃ z, mPR h z ∧ pWF z ∧ pNm z
theorem nI_ad (a b : Nat) : nI a + nI b = nI (a + b) := by unfold nI; rw [Int32.ofNat_add]
theorem nI_mu (a b : Nat) : nI a * nI b = nI (a * b) := by unfold nI; rw [Int32.ofNat_mul]
set_option maxHeartbeats 1000000 in
theorem s_Mo_takeRead {X : Nat × (Nat → Int32)} {d : Nat} {cu sp n1 n2 n3 n4 : Nat} (h : Nat → Nat → Int32) (hp : p_Mo_takeRead h) : ewP X Mo_takeRead (d + 3) 0 [some (.ref 194), none] [] (0, 0) (229, ewR cu sp n1 n2 n3 n4, h) (fun v S' => ∃ (h' : Nat → Nat → Int32), mTr h h' ∧ v = none ∧ S' = (229, ewR cu sp n1 n2 n3 n4, h')) := by
  obtain ⟨z, hz, hw, hm⟩ := hp
  have post : ∀ h', mFq h h' [195, 196, 197, 198, 199, 200, 201, 202, 211, 228] [0, 1, 4, 47] → (mNt h' z.2.1.1 z.2.2.1.1 z.2.2.1.2.1 z.2.2.1.2.2 z.2.2.2.1 z.2.2.2.2.1 z.2.2.2.2.2 ∧ (∀ j, j < 25 → h' 202 j = pS0 z.2.1.2.1 z.2.1.2.2 j) ∧ h' 194 47 = 0 ∧ h' 228 0 = 0 ∧ h' 228 1 = 0) → mTr h h' := by
    intro h' q1 q2
    refine ⟨q1, fun z' hz' hw' hm' => ?_⟩
    rw [hz'.u hz hw' hw hm' hm]
    exact q2
  obtain ⟨p, ⟨n, Xs, Ys⟩, ⟨m, A, B⟩, ⟨k, F, T⟩⟩ := z
  obtain ⟨⟨a1, n8, a3⟩, ⟨a4, m7, a6⟩, ⟨a7, k3, a9⟩⟩ := hz
  obtain ⟨w1, w2, w3⟩ := hw
  obtain ⟨z1, z2, z3⟩ := hm
  dsimp only at *
  have hk : tOK A B m := fun e he => (w2 e he).2.2
  have hn : ∀ e, e < m → A e < n ∧ B e < n := fun e he => ⟨(w2 e he).1, (w2 e he).2.1⟩
  refine v_Mo_takeRead_0 h (fun w ⟨b1, b2, b3, b4, b5⟩ => ?_)
  have b0 : w 194 = h 194 := b1 194 (by decide)
  simp only [ewS_S]
  rw [b0, a1, a4, a7]
  -- the stations
  refine upto (H := Nat → Nat → Int32) (P := fun i u => (∀ j, j ≠ 202 → j ≠ 194 → u j = h j) ∧ (u 194 = upd (upd (upd (h 194) 0 (nI n)) 1 (nI m)) 4 (nI k)) ∧ (∀ j, j < 25 → u 202 j = if j < 8 then (if j < i then nI (Xs j) else 0) else if j < 16 then (if j - 8 < i then nI (Ys (j - 8)) else 0) else if j < 23 then -1 else if j = 23 then 0 else 1))
    (E := fun i u => ewP X Mo_takeRead (d + 3) 30 [some (.ref 194), some (.int (nI i))] [] (0, 0) (229, ewR cu sp n1 n2 n3 n4, u) _) n ?_ ?_ 0 _ (by omega) ⟨fun j h1 h2 => by rw [ewS_ne _ _ h2, b1 j h1], by rw [ewS_self], fun j hj => ?_⟩
  · rintro i u hi ⟨u1, u2, u3⟩ next
    have hlt : nI i < u 194 0 := by rw [u2]; exact nI_lt hi (by omega)
    have s8 : (8 : Int32) + nI i = nI (8 + i) := nI_ad 8 i
    refine v_Mo_takeRead_30 (nI i) u (fun q => absurd hlt q) (fun _ => nI_inB (by omega) (by decide)) (fun _ => nI_inB (by omega) (by decide)) (fun _ => by rw [s8]; exact nI_inB (by omega) (by decide)) (fun _ => ?_)
    rw [← nI_succ, s8, nI_clamp (by omega), nI_clamp (by omega), ewS_S, u1 204 (by decide) (by decide), u1 205 (by decide) (by decide), (a3 i hi).1, (a3 i hi).2.1]
    refine next _ ⟨fun j h1 h2 => by rw [ewS_ne _ _ h1]; exact u1 j h1 h2, by rw [ewS_ne _ _ (by decide)]; exact u2, fun j hj => ?_⟩
    rw [ewS_self]
    by_cases e1 : j = 8 + i
    · rw [upd, if_pos e1, if_neg (by omega), if_pos (by omega), if_pos (by omega)]
      congr 2; omega
    · rw [upd, if_neg e1]
      by_cases e2 : j = i
      · rw [upd, if_pos e2, if_pos (by omega), if_pos (by omega), e2]
      · rw [upd, if_neg e2, u3 j hj]
        by_cases c1 : j < 8
        · rw [if_pos c1, if_pos c1]
          by_cases c2 : j < i
          · rw [if_pos c2, if_pos (by omega)]
          · rw [if_neg c2, if_neg (by omega)]
        · rw [if_neg c1, if_neg c1]
          by_cases c3 : j < 16
          · rw [if_pos c3, if_pos c3]
            by_cases c2 : j - 8 < i
            · rw [if_pos c2, if_pos (by omega)]
            · rw [if_neg c2, if_neg (by omega)]
          · rw [if_neg c3, if_neg c3]
  · rintro u ⟨u1, u2, u3⟩
    have hlt : ¬ nI n < u 194 0 := by rw [u2]; exact nI_nlt (Nat.le_refl _) (by omega)
    refine v_Mo_takeRead_30 (nI n) u (fun _ => ?_) (fun q => absurd q hlt) (fun q => absurd q hlt) (fun q => absurd q hlt) (fun q => absurd q hlt)
    have u202 : ∀ j, j < 25 → u 202 j = pS0 Xs Ys j := by
      intro j hj
      rw [u3 j hj]
      unfold pS0
      by_cases c1 : j < 8
      · rw [if_pos c1, if_pos c1]
        by_cases c2 : j < n
        · rw [if_pos c2]
        · rw [if_neg c2, (z1 j (by omega)).1]; rfl
      · rw [if_neg c1, if_neg c1]
        by_cases c3 : j < 16
        · rw [if_pos c3, if_pos c3]
          by_cases c2 : j - 8 < n
          · rw [if_pos c2]
          · rw [if_neg c2, (z1 (j - 8) (by omega)).2]; rfl
        · rw [if_neg c3, if_neg c3]
    -- the stretches
    refine upto (H := Nat → Nat → Int32) (P := fun i v => (∀ j, j ≠ 195 → j ≠ 196 → v j = u j) ∧ ∀ e, e < i → v 195 e = nI (A e) ∧ v 196 e = nI (B e))
      (E := fun i v => ewP X Mo_takeRead (d + 3) 73 [some (.ref 194), some (.int (nI i))] [] (0, 0) (229, ewR cu sp n1 n2 n3 n4, v) _) m ?_ ?_ 0 _ (by omega) ⟨fun j h1 h2 => rfl, fun j hj => by omega⟩
    · rintro i v hi ⟨v1, v2⟩ next
      have hlt : nI i < v 194 1 := by rw [v1 194 (by decide) (by decide), u2]; exact nI_lt hi (by omega)
      refine v_Mo_takeRead_73 (nI i) v (fun q => absurd hlt q) (fun _ => nI_inB (by omega) (by decide)) (fun _ => ?_)
      rw [← nI_succ, nI_clamp (by omega), v1 206 (by decide) (by decide), v1 207 (by decide) (by decide), u1 206 (by decide) (by decide), u1 207 (by decide) (by decide), (a6 i hi).1, (a6 i hi).2]
      refine next _ ⟨fun j h1 h2 => by rw [ewS_ne _ _ h2, ewS_ne _ _ h1]; exact v1 j h1 h2, fun e he => ?_⟩
      rw [ewS_ne _ _ (by decide), ewS_self, ewS_self]
      by_cases e1 : e = i
      · rw [upd, if_pos e1, upd, if_pos e1, e1]; exact ⟨rfl, rfl⟩
      · rw [upd, if_neg e1, upd, if_neg e1]; exact v2 e (by omega)
    · rintro v ⟨v1, v2⟩
      have hlt : ¬ nI m < v 194 1 := by rw [v1 194 (by decide) (by decide), u2]; exact nI_nlt (Nat.le_refl _) (by omega)
      refine v_Mo_takeRead_73 (nI m) v (fun _ => ?_) (fun q => absurd q hlt) (fun q => absurd q hlt)
      -- the lines
      have stOf : ∀ y : Nat → Nat → Int32, y 194 = v 194 → y 195 = v 195 → y 196 = v 196 → mSt y n m A B := by
        intro y y1 y2 y3
        refine ⟨by rw [y1, v1 194 (by decide) (by decide), u2]; rfl, n8, by rw [y1, v1 194 (by decide) (by decide), u2]; rfl, m7, fun e he => by rw [y2, y3]; exact v2 e he, hn, hk⟩
      refine upto (H := Nat → Nat → Int32) (P := fun i y => (∀ j, j ≠ 197 → j ≠ 198 → j ≠ 199 → j ≠ 200 → j ≠ 201 → j ≠ 211 → y j = v j) ∧ ∀ l, l < i → mLn y n m A B l (F l) (T l))
        (E := fun i y => ewP X Mo_takeRead (d + 3) 113 [some (.ref 194), some (.int (nI i))] [] (0, 0) (229, ewR cu sp n1 n2 n3 n4, y) _) k ?_ ?_ 0 _ (by omega) ⟨fun j _ _ _ _ _ _ => rfl, fun j hj => by omega⟩
      · rintro i y hi ⟨y1, y2⟩ next
        have hlt : nI i < y 194 4 := by rw [y1 194 (by decide) (by decide) (by decide) (by decide) (by decide) (by decide), v1 194 (by decide) (by decide), u2]; exact nI_lt hi (by omega)
        have y208 : y 208 i = nI (F i) := by rw [y1 208 (by decide) (by decide) (by decide) (by decide) (by decide) (by decide), v1 208 (by decide) (by decide), u1 208 (by decide) (by decide)]; exact (a9 i hi).1
        have y209 : y 209 i = nI (T i) := by rw [y1 209 (by decide) (by decide) (by decide) (by decide) (by decide) (by decide), v1 209 (by decide) (by decide), u1 209 (by decide) (by decide)]; exact (a9 i hi).2
        obtain ⟨l1, l2, l3, l4⟩ := w3 i hi
        generalize hG : ewS (ewS y 197 (upd (y 197) i (nI (F i)))) 198 (upd (y 198) i (nI (T i))) = G
        have G1 : ∀ j, j ≠ 197 → j ≠ 198 → G j = y j := fun j h1 h2 => by rw [← hG, ewS_ne _ _ h2, ewS_ne _ _ h1]
        have G7 : G 197 = upd (y 197) i (nI (F i)) := by rw [← hG, ewS_ne _ _ (by decide), ewS_self]
        have G8 : G 198 = upd (y 198) i (nI (T i)) := by rw [← hG, ewS_self]
        have Gst : mSt G n m A B := stOf G (by rw [G1 194 (by decide) (by decide)]; exact y1 194 (by decide) (by decide) (by decide) (by decide) (by decide) (by decide)) (by rw [G1 195 (by decide) (by decide)]; exact y1 195 (by decide) (by decide) (by decide) (by decide) (by decide) (by decide)) (by rw [G1 196 (by decide) (by decide)]; exact y1 196 (by decide) (by decide) (by decide) (by decide) (by decide) (by decide))
        obtain ⟨g1, g2, g3, g4⟩ := Gst.g z2
        have G7i : G 197 i = nI (F i) := by rw [G7, upd, if_pos rfl]
        have G8i : G 198 i = nI (T i) := by rw [G8, upd, if_pos rfl]
        have hp : p_Mo_layLine G (nI i) := ⟨Gst.m z2, i, F i, T i, by omega, rfl, G7i, G8i, by rw [g1]; exact l1, by rw [g1]; exact l2, by rw [g2, g3, g4]; exact l4⟩
        refine v_Mo_takeRead_113 (nI i) y (fun q => absurd hlt q) (fun _ => nI_inB (by omega) (by decide)) (fun _ => ?_) (fun _ w4 hw4 => ?_)
        · rw [nI_clamp (by omega), y208, y209, hG]; exact hp
        · rw [nI_clamp (by omega), y208, y209, hG] at hw4
          rw [← nI_succ]
          obtain ⟨q1, q2, q3, q4, q5⟩ := hw4
          rw [nI_clamp (by omega), G7i, G8i, nI_clamp (show F i < 2 ^ 31 by omega), nI_clamp (show T i < 2 ^ 31 by omega), g2, g3, g4] at q2 q4 q5
          rw [nI_clamp (by omega)] at q3
          refine next _ ⟨fun j h1 h2 h3 h4 h5 h6 => by rw [q1 j h3 h4 h5 h6, G1 j h1 h2]; exact y1 j h1 h2 h3 h4 h5 h6, fun l hl => ?_⟩
          by_cases e : l = i
          · subst e
            exact ⟨l1, l2, l3, l4, by rw [q1 197 (by decide) (by decide) (by decide) (by decide)]; exact G7i, by rw [q1 198 (by decide) (by decide) (by decide) (by decide)]; exact G8i, by rw [q2, upd, if_pos rfl], q4, q5⟩
          · obtain ⟨o1, o2, o3, o4, o5, o6, o7, o8, o9⟩ := y2 l (by omega)
            have hD := tds_lt hk hn o1 o2 o4
            refine ⟨o1, o2, o3, o4, ?_, ?_, ?_, fun j hj => ?_, fun j hj => ?_⟩
            · rw [q1 197 (by decide) (by decide) (by decide) (by decide), G7, upd, if_neg e]; exact o5
            · rw [q1 198 (by decide) (by decide) (by decide) (by decide), G8, upd, if_neg e]; exact o6
            · rw [q2, upd, if_neg e, G1 199 (by decide) (by decide)]; exact o7
            · rw [(q3 _ (by omega)).2, G1 201 (by decide) (by decide)]; exact o8 j hj
            · rw [(q3 _ (by omega)).1, G1 200 (by decide) (by decide)]; exact o9 j hj
      · rintro y ⟨y1, y2⟩
        have y194 : y 194 = upd (upd (upd (h 194) 0 (nI n)) 1 (nI m)) 4 (nI k) := by rw [y1 194 (by decide) (by decide) (by decide) (by decide) (by decide) (by decide), v1 194 (by decide) (by decide), u2]
        have hlt : ¬ nI k < y 194 4 := by rw [y194]; exact nI_nlt (Nat.le_refl _) (by omega)
        refine v_Mo_takeRead_113 (nI k) y (fun _ => ⟨_, post _ ⟨fun j h1 h2 => ?_, fun j hj => ?_⟩ ⟨⟨?_, z2, ⟨?_, k3⟩, z3, fun l hl => ?_⟩, fun j hj => ?_, ?_, ?_, ?_⟩, rfl, rfl⟩) (fun q => absurd q hlt) (fun q => absurd q hlt) (fun q => absurd q hlt)
        · simp only [List.mem_cons, List.not_mem_nil, or_false, not_or] at h2
          obtain ⟨c1, c2, c3, c4, c5, c6, c7, c8, c9, c10⟩ := h2
          rw [ewS_ne _ _ c10, ewS_ne _ _ c10, ewS_ne _ _ h1, y1 j c3 c4 c5 c6 c7 c9, v1 j c1 c2, u1 j c8 h1]
        · simp only [List.mem_cons, List.not_mem_nil, or_false, not_or] at hj
          obtain ⟨c1, c2, c3, c4⟩ := hj
          rw [ewS_ne _ _ (by decide), ewS_ne _ _ (by decide), ewS_self, y194]
          simp [upd, c1, c2, c3, c4]
        · refine (stOf y (y1 194 (by decide) (by decide) (by decide) (by decide) (by decide) (by decide)) (y1 195 (by decide) (by decide) (by decide) (by decide) (by decide) (by decide)) (y1 196 (by decide) (by decide) (by decide) (by decide) (by decide) (by decide))).fr ?_ ?_ ?_ ?_ <;> rfl
        · rw [ewS_ne _ _ (by decide), ewS_ne _ _ (by decide), ewS_self, upd, if_neg (by decide), y194]; rfl
        · exact y2 l hl
        · rw [ewS_ne _ _ (by decide), ewS_ne _ _ (by decide), ewS_ne _ _ (by decide), y1 202 (by decide) (by decide) (by decide) (by decide) (by decide) (by decide), v1 202 (by decide) (by decide)]
          exact u202 j hj
        · rfl
        · rfl
        · rfl
  · rw [ewS_ne _ _ (by decide)]
    by_cases c1 : j < 8
    · rw [if_pos c1, if_neg (by omega), b2 j (by omega)]
    · rw [if_neg c1]
      by_cases c3 : j < 16
      · rw [if_pos c3, if_neg (by omega), b2 j c3]
      · rw [if_neg c3]
        by_cases c4 : j < 23
        · rw [if_pos c4, show j = 16 + (j - 16) by omega, b3 _ (by omega)]
        · rw [if_neg c4]
          by_cases c5 : j = 23
          · rw [if_pos c5, c5, b4]
          · rw [if_neg c5, show j = 24 by omega, b5]
