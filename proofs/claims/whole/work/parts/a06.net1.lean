/-! the class's net as it is read (at 35): clear, addStation, addStretch -/
def nFr (h h' : Nat → Nat → Int32) : Prop := ∀ k, ¬ (35 ≤ k ∧ k ≤ 66) → h' k = h k
def cS35 (h : Nat → Nat → Int32) (n : Nat) (X Y A B : Nat → Nat) (m : Nat) : Prop := h 35 0 = nI n ∧ n ≤ 8 ∧ ∀ s, s < n → h 36 s = nI (X s) ∧ h 37 s = nI (Y s) ∧ h 42 s = nI (ptm A B m s)
def cE35 (h : Nat → Nat → Int32) (m : Nat) (A B : Nat → Nat) : Prop := h 35 1 = nI m ∧ m ≤ 7 ∧ (∀ e, e < m → h 38 e = nI (A e) ∧ h 39 e = nI (B e) ∧ h 43 e = nI (ptm A B e (A e)) ∧ h 44 e = nI (ptm A B e (B e))) ∧ ∀ e f, e < m → f < m → e ≠ f → h (51 + e) f = pmt A B e f
def cL35 (h : Nat → Nat → Int32) (m : Nat) (A B : Nat → Nat) (k : Nat) (F T : Nat → Nat) : Prop := h 35 2 = nI k ∧ k ≤ 3 ∧ (∀ l, l < k → h 40 l = nI (F l) ∧ h 41 l = nI (T l) ∧ h 46 l = nI (tds A B m (F l) (T l)) ∧ ∀ j, j < tds A B m (F l) (T l) → h 45 (7 * l + j) = nI (tpe A B m (T l) (F l) j)) ∧ (∀ e, e < 7 → h 47 e = nI (pLa A B m F T e k)) ∧
  (∀ l s, l < 3 → s < 8 → h 48 (8 * l + s) = (if l < k ∧ pw A B m F T l s ≠ 0 then nI (pe0 A B m F T l s) else -1) ∧ h 49 (8 * l + s) = (if l < k ∧ pw A B m F T l s ≠ 0 then nI (pe1 A B m F T l s) else -1)) ∧ ∀ e f, e < 7 → f < 7 → h (59 + e) f = nI (pth A B m k F T e f)
/-- the net stands: stretches join stations, no ring; lines go along -/
def cOK (n m : Nat) (A B : Nat → Nat) (k : Nat) (F T : Nat → Nat) : Prop := (∀ e, e < m → A e < n ∧ B e < n) ∧ tOK A B m ∧ ∀ l, l < k → F l < n ∧ T l < n ∧ F l ≠ T l ∧ plb A B m (F l) = plb A B m (T l)
theorem cS35.fr {h h' : Nat → Nat → Int32} {n : Nat} {X Y A B : Nat → Nat} {m : Nat} (c : cS35 h n X Y A B m) (e0 : h' 35 0 = h 35 0) (e1 : h' 36 = h 36) (e2 : h' 37 = h 37) (e3 : h' 42 = h 42) : cS35 h' n X Y A B m := by
  unfold cS35
  rw [e0, e1, e2, e3]
  exact c
theorem cE35.fr {h h' : Nat → Nat → Int32} {m : Nat} {A B : Nat → Nat} (c : cE35 h m A B) (e0 : h' 35 1 = h 35 1) (e1 : h' 38 = h 38) (e2 : h' 39 = h 39) (e3 : h' 43 = h 43) (e4 : h' 44 = h 44) (e5 : ∀ e, e < 7 → h' (51 + e) = h (51 + e)) : cE35 h' m A B := by
  obtain ⟨c1, c2, c3, c4⟩ := c
  refine ⟨e0.trans c1, c2, by rw [e1, e2, e3, e4]; exact c3, fun e f he hf hne => ?_⟩
  rw [e5 e (by omega)]
  exact c4 e f he hf hne
theorem cL35.fr {h h' : Nat → Nat → Int32} {m : Nat} {A B : Nat → Nat} {k : Nat} {F T : Nat → Nat} (c : cL35 h m A B k F T) (e0 : h' 35 2 = h 35 2) (e1 : h' 40 = h 40) (e2 : h' 41 = h 41) (e3 : h' 45 = h 45) (e4 : h' 46 = h 46) (e5 : h' 47 = h 47) (e6 : h' 48 = h 48) (e7 : h' 49 = h 49) (e8 : ∀ e, e < 7 → h' (59 + e) = h (59 + e)) : cL35 h' m A B k F T := by
  obtain ⟨c1, c2, c3, c4, c5, c6⟩ := c
  refine ⟨e0.trans c1, c2, by rw [e1, e2, e3, e4]; exact c3, by rw [e5]; exact c4, by rw [e6, e7]; exact c5, fun e f he hf => ?_⟩
  rw [e8 e he]
  exact c6 e f he hf
theorem nFr.t {h w v : Nat → Nat → Int32} (a : nFr h w) (b : nFr w v) : nFr h v := fun k hk => (b k hk).trans (a k hk)
theorem nFr.s {h w : Nat → Nat → Int32} (a : nFr h w) {k : Nat} (hk : 35 ≤ k ∧ k ≤ 66) (f : Nat → Int32) : nFr h (ewS w k f) := fun j hj => (ewS_ne w f (fun q => hj (by rw [q]; exact hk))).trans (a j hj)
theorem nFr.r (h : Nat → Nat → Int32) : nFr h h := fun _ _ => rfl
def mCl (h h' : Nat → Nat → Int32) : Prop := nFr h h' ∧ h' 35 0 = 0 ∧ h' 35 1 = 0 ∧ h' 35 2 = 0 ∧ (∀ j, j < 7 → h' 47 j = 0) ∧ (∀ j, j < 24 → h' 48 j = -1 ∧ h' 49 j = -1) ∧ ∀ e f, e < 7 → f < 7 → h' (59 + e) f = 0
theorem row7 {e : Nat} (he : e < 7) : (ewTj (50 + 1 + e) 9 = true ∧ kL (50 + 1 + e) = 7) ∧ ewTj (58 + 1 + e) 9 = true ∧ kL (58 + 1 + e) = 7 := by
  have hh : ∀ e : Fin 7, (ewTj (50 + 1 + e.1) 9 = true ∧ kL (50 + 1 + e.1) = 7) ∧ ewTj (58 + 1 + e.1) 9 = true ∧ kL (58 + 1 + e.1) = 7 := by decide +kernel
  exact hh ⟨e, he⟩
theorem beq_no {x : Nat} (h : x < 1000) : Nat.beq x 100000 = false := by
  rw [← Bool.not_eq_true]
  intro q
  have := Nat.eq_of_beq_eq_true q
  omega
theorem s_Ne_clear {X : Nat × (Nat → Int32)} {d : Nat} {cu sp n1 n2 n3 n4 : Nat} (h : Nat → Nat → Int32) : ewP X Ne_clear (d + 1) 0 [some (.ref 35), none] [] (0, 0) (229, ewR cu sp n1 n2 n3 n4, h) (fun v S' => ∃ (h' : Nat → Nat → Int32), mCl h h' ∧ v = none ∧ S' = (229, ewR cu sp n1 n2 n3 n4, h')) := by
  refine v_Ne_clear_0 h ⟨rfl, by decide⟩ ⟨rfl, by decide⟩ ⟨rfl, by decide⟩ ?_
  refine upto (H := Nat → Nat → Int32) (P := fun i w => nFr h w ∧ w 35 0 = 0 ∧ w 35 1 = 0 ∧ w 35 2 = 0 ∧ (∀ j, j < 7 → w 47 j = 0) ∧ (∀ j, j < 24 → w 48 j = -1 ∧ w 49 j = -1) ∧ ∀ e f, e < i → f < 7 → w (59 + e) f = 0) (E := fun i w => ewP X Ne_clear (d + 1) 41 [some (.ref 35), some (.int (nI i))] [] (0, 0) (229, ewR cu sp n1 n2 n3 n4, w) _) 7 ?_ ?_ 0 _ (by omega) ?_
  · rintro i w hi ⟨w1, w2, w3, w4, w5, w6, w7⟩ next
    have hlt : nI i < 7 := (nI_ltb (b := 7) (by omega) (by omega)).mpr hi
    obtain ⟨⟨r1, r2⟩, r3, r4⟩ := row7 hi
    refine v_Ne_clear_41 _ w (fun q => absurd hlt q) (fun _ => nI_inB hi (by decide)) (fun _ => ?_) (fun _ => ?_) (fun _ => ?_) (fun _ => ?_) (fun _ => ?_) <;> rw [nI_clamp (by omega)]
    · exact beq_no (by omega)
    · exact ⟨r1, by omega⟩
    · exact beq_no (by omega)
    · exact ⟨r3, by omega⟩
    · rw [← nI_succ]
      refine next _ ⟨(w1.s (by omega) _).s (by omega) _, ?_⟩
      unfold g_Ja_fill
      have o : ∀ k, k < 51 → (ewS (ewS w (50 + 1 + i) (fun j => if j < kL (50 + 1 + i) then -1 else w (50 + 1 + i) j)) (58 + 1 + i) (fun j => if j < kL (58 + 1 + i) then 0 else ewS w (50 + 1 + i) (fun j => if j < kL (50 + 1 + i) then -1 else w (50 + 1 + i) j) (58 + 1 + i) j)) k = w k := fun k hk => by
        rw [ewS_ne _ _ (by omega), ewS_ne _ _ (by omega)]
      rw [o 35 (by omega), o 47 (by omega), o 48 (by omega), o 49 (by omega)]
      refine ⟨w2, w3, w4, w5, w6, fun e f he hf => ?_⟩
      by_cases q : e = i
      · rw [q, show 59 + i = 58 + 1 + i by omega, ewS_self]
        show (if f < kL (58 + 1 + i) then (0 : Int32) else _) = 0
        rw [if_pos (by omega)]
      · rw [ewS_ne _ _ (by omega), ewS_ne _ _ (by omega)]
        exact w7 e f (by omega) hf
  · intro w hw
    have hlt : ¬ nI 7 < 7 := by decide
    exact v_Ne_clear_41 _ w (fun _ => ⟨w, hw, rfl, rfl⟩) (fun q => absurd q hlt) (fun q => absurd q hlt) (fun q => absurd q hlt) (fun q => absurd q hlt) (fun q => absurd q hlt) (fun q => absurd q hlt)
  · refine ⟨?_, rfl, rfl, rfl, fun j hj => ?_, fun j hj => ⟨?_, ?_⟩, fun e f he => by omega⟩
    · exact (((((((nFr.r h).s (by decide) _).s (by decide) _).s (by decide) _).s (by decide) _).s (by decide) _).s (by decide) _)
    · show (if j < kL 47 then (0 : Int32) else _) = 0
      rw [if_pos (by have : kL 47 = 7 := by decide
                     omega)]
    · show (if j < kL 48 then (-1 : Int32) else _) = -1
      rw [if_pos (by have : kL 48 = 24 := by decide
                     omega)]
    · show (if j < kL 49 then (-1 : Int32) else _) = -1
      rw [if_pos (by have : kL 49 = 24 := by decide
                     omega)]
theorem mCl.c {h h' : Nat → Nat → Int32} (c : mCl h h') (X Y A B F T : Nat → Nat) : cS35 h' 0 X Y A B 0 ∧ cE35 h' 0 A B ∧ cL35 h' 0 A B 0 F T := by
  obtain ⟨c1, c2, c3, c4, c5, c6, c7⟩ := c
  refine ⟨⟨c2, by omega, fun s hs => by omega⟩, ⟨c3, by omega, fun e he => by omega, fun e f he => by omega⟩, c4, by omega, fun l hl => by omega, fun e he => c5 e he, fun l s hl hs => ?_, fun e f he hf => c7 e f he hf⟩
  rw [if_neg (by omega), if_neg (by omega)]
  exact c6 _ (by omega)
/-- a station more -/
theorem add_st {h : Nat → Nat → Int32} {n m k : Nat} {X Y A B F T : Nat → Nat} {a b : Nat} (s : cS35 h n X Y A B m) (hn : ∀ e, e < m → A e < n ∧ B e < n) (h8 : n < 8) : p_Ne_addStation h (nI a) (nI b) ∧ nFr h (g_Ne_addStation h (nI a) (nI b)) ∧ cS35 (g_Ne_addStation h (nI a) (nI b)) (n + 1) (pup X n a) (pup Y n b) A B m ∧ (cE35 h m A B → cE35 (g_Ne_addStation h (nI a) (nI b)) m A B) ∧ (cL35 h m A B k F T → cL35 (g_Ne_addStation h (nI a) (nI b)) m A B k F T) := by
  obtain ⟨s1, s2, s3⟩ := s
  have e1 : g_Ne_addStation h (nI a) (nI b) = ewS (ewS (ewS (ewS h 36 (upd (h 36) n (nI a))) 37 (upd (h 37) n (nI b))) 42 (upd (h 42) n (nI (2 ^ n)))) 35 (upd (h 35) 0 (nI (n + 1))) := by
    unfold g_Ne_addStation
    rw [s1, nI_clamp (by omega), shl_n h8, ← nI_succ]
  rw [e1]
  refine ⟨?_, (((((nFr.r h).s (by decide) _).s (by decide) _).s (by decide) _).s (by decide) _), ⟨rfl, by omega, fun t ht => ?_⟩, fun c => c.fr rfl rfl rfl rfl rfl (fun e he => ?_), fun c => c.fr rfl rfl rfl rfl rfl rfl rfl rfl (fun e he => ?_)⟩
  · show vp_in (h 35 0) 8
    rw [s1]; exact nI_inB h8 (by decide)
  · show (if t = n then nI a else h 36 t) = nI (if t = n then a else X t) ∧ (if t = n then nI b else h 37 t) = nI (if t = n then b else Y t) ∧ (if t = n then nI (2 ^ n) else h 42 t) = nI (ptm A B m t)
    by_cases q : t = n
    · rw [if_pos q, if_pos q, if_pos q, if_pos q, if_pos q, q, ptm_new hn h8]
      exact ⟨rfl, rfl, rfl⟩
    · rw [if_neg q, if_neg q, if_neg q, if_neg q, if_neg q]
      exact s3 t (by omega)
  · rw [ewS_ne _ _ (by omega), ewS_ne _ _ (by omega), ewS_ne _ _ (by omega), ewS_ne _ _ (by omega)]
  · rw [ewS_ne _ _ (by omega), ewS_ne _ _ (by omega), ewS_ne _ _ (by omega), ewS_ne _ _ (by omega)]
theorem pmt_sym (A B : Nat → Nat) (e f : Nat) : pmt A B e f = pmt A B f e := by
  unfold pmt
  exact ite_cg ⟨fun z => z.imp Eq.symm Eq.symm, fun z => z.imp Eq.symm Eq.symm⟩ (fun _ => rfl) (fun _ => ite_cg ⟨fun z => z.symm.imp Eq.symm Eq.symm, fun z => z.symm.imp Eq.symm Eq.symm⟩ (fun _ => rfl) (fun _ => rfl))
theorem ite4 (p q r s : Prop) {_ : Decidable p} {_ : Decidable q} {_ : Decidable r} {_ : Decidable s} : (if p then (4 : Int32) else if q then 4 else if r then 0 else if s then 0 else -1) = if p ∨ q then 4 else if r ∨ s then 0 else -1 := by
  by_cases q1 : p <;> by_cases q2 : q <;> by_cases q3 : r <;> by_cases q4 : s <;> simp [q1, q2, q3, q4]
theorem meeting_n {h : Nat → Nat → Int32} {A B : Nat → Nat} {e f : Nat} (he : e < 7) (hf : f < 7) (h8 : A e < 8 ∧ B e < 8 ∧ A f < 8 ∧ B f < 8) (h1 : h 38 e = nI (A e) ∧ h 39 e = nI (B e)) (h2 : h 38 f = nI (A f) ∧ h 39 f = nI (B f)) : f_Ne_meeting h (nI e) (nI f) = pmt A B e f ∧ p_Ne_meeting (nI e) (nI f) := by
  refine ⟨?_, nI_inB he (by decide), nI_inB hf (by decide)⟩
  unfold f_Ne_meeting pmt
  rw [nI_clamp (by omega), nI_clamp (by omega), h1.1, h1.2, h2.1, h2.2]
  simp only [nI_eq (show A e < 2 ^ 31 by omega) (show A f < 2 ^ 31 by omega), nI_eq (show B e < 2 ^ 31 by omega) (show B f < 2 ^ 31 by omega), nI_eq (show A e < 2 ^ 31 by omega) (show B f < 2 ^ 31 by omega), nI_eq (show B e < 2 ^ 31 by omega) (show A f < 2 ^ 31 by omega)]
  exact ite4 _ _ _ _
