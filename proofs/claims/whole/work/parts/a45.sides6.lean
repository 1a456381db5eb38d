/-! the class's Sides: markCrossed, what is told, settle -/
def pxb (m : Nat) (A B : Nat → Nat) (k : Nat) (F T dv o : Nat → Nat) (s p : Nat) : Bool := decide (pq1 p < k ∧ pcx m A B k F T dv o s (pq0 p) (pq1 p) = 1)
section SIDES6
variable {X : Nat × (Nat → Int32)} {d : Nat} {cu sp n2 n3 : Nat} {A B dv : Nat → Nat} {n m k : Nat} {F T : Nat → Nat} {o1 o2 : Nat → Nat}
theorem xc_cg (ok : cOK n m A B k F T) (h9 : m ≤ 90) (hk3 : k ≤ 3) {L L' : Nat → Nat → Bool} (h : ∀ e p, e < m → p < 3 → pq1 p < k → pbt (pLs m A B k F T e) (pq0 p) = 1 → pbt (pLs m A B k F T e) (pq1 p) = 1 → L e p = L' e p) {s p : Nat} (hp : p < 3) : xcP A B m k F T L s p = xcP A B m k F T L' s p ∧ ∀ e, xcH A B dv m k F T L s p e = xcH A B dv m k F T L' s p e := by
  have pl := pq_lt hp
  by_cases q0 : xth A B m k F T s p
  · obtain ⟨⟨a1, -⟩, ⟨b1, -⟩, -⟩ := thr_at ok h9 (show pq0 p < k by have := q0.1; omega) q0.2.1
    obtain ⟨o1, o2⟩ := on_at (A := A) (B := B) (m := m) (F := F) (T := T) hk3 (show pq0 p < k by have := q0.1; omega) q0.2.1
    obtain ⟨o3, o4⟩ := on_at (A := A) (B := B) (m := m) (F := F) (T := T) hk3 q0.1 q0.2.2
    have e0 : xs0 A B m F T s p → L (pe0 A B m F T (pq0 p) s) p = L' (pe0 A B m F T (pq0 p) s) p := fun z => h _ p a1 hp q0.1 o1 (by rcases z with w | w <;> rw [w] <;> assumption)
    have e1 : xs1 A B m F T s p → L (pe1 A B m F T (pq0 p) s) p = L' (pe1 A B m F T (pq0 p) s) p := fun z => h _ p b1 hp q0.1 o2 (by rcases z with w | w <;> rw [w] <;> assumption)
    refine ⟨?_, fun e => ?_⟩
    · unfold xcP
      by_cases w : xP A B m k F T s p = true
      · rw [e0 (xP_iff.mp w).2.1, e1 (xP_iff.mp w).2.2]
      · rw [Bool.not_eq_true] at w; rw [w]; rfl
    · unfold xcH
      by_cases w : xH A B m k F T s p e = true
      · rcases (xH_iff.mp w).2 with ⟨y1, -, y3⟩ | ⟨-, y2, y3⟩
        · have := e0 y1
          rw [y3] at this
          rw [this]
        · have := e1 y2
          rw [y3] at this
          rw [this]
      · rw [Bool.not_eq_true] at w; rw [w]; rfl
  · have z1 : xP A B m k F T s p = false := by rw [Bool.eq_false_iff]; exact fun z => q0 (xP_iff.mp z).1
    have z2 : ∀ e, xH A B m k F T s p e = false := fun e => by rw [Bool.eq_false_iff]; exact fun z => q0 (xH_iff.mp z).1
    unfold xcP xcH
    rw [z1]
    exact ⟨rfl, fun e => by rw [z2 e]; rfl⟩
/-- what is marked is what crosses -/
theorem pxb_n (ok : cOK n m A B k F T) (h9 : m ≤ 90) (hk3 : k ≤ 3) {o r : Nat → Nat} (hr : ∀ e, e < m → r e < 6) (h : ∀ e, e < m → o e = prh (pLs m A B k F T e) (r e)) {s p : Nat} (hp : p < 3) : (xcP A B m k F T (fun e p => sdb (r e) p) s p || (List.range m).any fun e => xcH A B dv m k F T (fun e p => sdb (r e) p) s p e) = pxb m A B k F T dv o s p := by
  unfold pxb
  by_cases hk : pq1 p < k
  · obtain ⟨c1, c2⟩ := xc_cg (dv := dv) ok h9 hk3 (L := fun e p => pLf m A B k F T o (pq0 p) (pq1 p) e) (L' := fun e p => sdb (r e) p) (fun e p he hp hk h0 h1 => by
      show pis (fun i => nI (pol (pLs m A B k F T e) (o e) i)) (nI (pq0 p)) (nI (pq1 p)) (pbc (pLs m A B k F T e)) = sdb (r e) p
      rw [h e he]
      exact prh_L (pLs_lt hk3 e) (hr e he) hp h0 h1) (s := s) hp
    have e1 := pcx_n (dv := dv) ok h9 (o := o) (s := s) hp hk
    rw [c1, sm_cg m (g := fun e => if xcH A B dv m k F T (fun e p => sdb (r e) p) s p e = true then 1 else 0) (fun e _ => by rw [c2 e])] at e1
    have p01 : pcx m A B k F T dv o s (pq0 p) (pq1 p) ≤ 1 := by unfold pcx; split <;> omega
    rw [Bool.eq_iff_iff, Bool.or_eq_true, List.any_eq_true, decide_eq_true_iff]
    constructor
    · intro z
      refine ⟨hk, ?_⟩
      rcases z with z | ⟨e, he, z⟩
      · rw [if_pos z] at e1; omega
      · have : 1 ≤ sm (fun e => if xcH A B dv m k F T (fun e p => sdb (r e) p) s p e = true then 1 else 0) m := by
          have he' := List.mem_range.mp he
          have h1 := sm_pick (v := fun _ => 1) (x := e) m
          rw [if_pos he'] at h1
          have mono : ∀ (f g : Nat → Nat) n, (∀ i, f i ≤ g i) → sm f n ≤ sm g n := by
            intro f g n hfg
            induction n with
            | zero => exact Nat.le_refl _
            | succ n ih => show sm f n + f n ≤ sm g n + g n; have := hfg n; omega
          refine Nat.le_trans (Nat.le_of_eq h1.symm) (mono _ _ m (fun i => ?_))
          by_cases y : i = e
          · rw [if_pos y, y, if_pos z]; exact Nat.le_refl _
          · rw [if_neg y]; exact Nat.zero_le _
        omega
    · rintro ⟨-, z⟩
      rw [z] at e1
      by_cases q : xcP A B m k F T (fun e p => sdb (r e) p) s p = true
      · exact Or.inl q
      · right
        rw [if_neg q, Nat.zero_add] at e1
        refine Classical.byContradiction (fun y => ?_)
        have : sm (fun e => if xcH A B dv m k F T (fun e p => sdb (r e) p) s p e = true then 1 else 0) m = 0 := (sm_cg m (g := fun _ => 0) (fun e he => if_neg (fun w => y ⟨e, List.mem_range.mpr he, w⟩))).trans (sm_z m)
        omega
  · obtain ⟨n1, n2⟩ := xth_no (A := A) (B := B) (dv := dv) (m := m) (F := F) (T := T) (s := s) hk (fun e p => sdb (r e) p)
    rw [n1, Bool.false_or, decide_eq_false (fun z => hk z.1), List.any_eq_false]
    exact fun e _ => by rw [n2 e]; decide
theorem or3_m (f g : Nat → Bool) : nI (msk f 3) ||| nI (msk g 3) = nI (msk (fun i => f i || g i) 3) := by
  rw [or_nI]
  congr 1
  apply Nat.eq_of_testBit_eq
  intro j
  rw [Nat.testBit_or, msk_bit, msk_bit, msk_bit]
  cases decide (j < 3) <;> rfl
set_option maxHeartbeats 1000000 in
theorem markCrossed_n {h : Nat → Nat → Int32} {r : Nat → Nat} (cI : cSi A B dv n m k F T o1 o2 r h) (hr : ∀ e, e < m → r e < 6) (hz : ∀ s, s < n → h 176 s = 0) : ewP X Si_markCrossed (d + 1) 0 [some (.ref 174), none, none] [] (0, 0) (229, ewR cu sp 3 n2 n3 3, h) (fun v S' => ∃ (h' : Nat → Nat → Int32), ((∀ q, q ≠ 176 → h' q = h q) ∧ ∀ s, s < n → h' 176 s = nI (msk (fun p => xcP A B m k F T (fun e p => sdb (r e) p) s p || (List.range m).any fun e => xcH A B dv m k F T (fun e p => sdb (r e) p) s p e) 3)) ∧ v = none ∧ S' = (229, ewR cu sp 3 n2 n3 3, h')) := by
  obtain ⟨hN, hSs, hPc, hRk⟩ := id cI
  have h7 := hN.2.1.2.1
  have h8 := hN.1.2.1
  have ok := hN.2.2.2.1
  have g := hSs.2.2.1.ok ok (by omega)
  have r175 : ∀ e, e < m → h 175 e = nI (r e) := fun e he => by
    have := (hRk e he).2
    rw [if_neg (by have := hr e he; omega)] at this
    exact this
  have any_s : ∀ (f : Nat → Bool) e, ((List.range (e + 1)).any f) = ((List.range e).any f || f e) := fun f e => by
    rw [List.range_succ, List.any_append]; simp
  refine v_Si_markCrossed_0 h ?_
  refine upto (H := Nat → Nat → Int32) (P := fun s w => (∀ q, q ≠ 176 → w q = h q) ∧ (∀ s', s' < s → w 176 s' = nI (msk (fun p => xcP A B m k F T (fun e p => sdb (r e) p) s' p) 3)) ∧ ∀ s', s ≤ s' → s' < n → w 176 s' = 0) (E := fun s w => ewP X Si_markCrossed (d + 1) 2 [some (.ref 174), some (.int (nI s)), none] [] (0, 0) (229, ewR cu sp 3 n2 n3 3, w) _) n ?_ ?_ 0 h (by omega) ⟨fun _ _ => rfl, fun s' h' => by omega, fun s' _ h' => hz s' h'⟩
  · rintro s w hs ⟨w1, w2, w3⟩ next
    have hlt : nI s < w 3 0 := by rw [w1 3 (by decide), hN.1.1]; exact (nI_ltb (by omega) (by omega)).mpr hs
    have cs : (nI s).toNatClampNeg = s := nI_clamp (by omega)
    have p0 : (w 180 (nI s).toNatClampNeg = 0) ↔ ¬ spd A B m k F T s = true := by
      rw [cs, w1 180 (by decide), (hSs.2.1 s hs).1, msk3_0, Bool.not_eq_true]; rfl
    have ex : ¬ (w 180 (nI s).toNatClampNeg = 0) → (w 182 (nI s).toNatClampNeg = nI (o1 s) ∧ w 183 (nI s).toNatClampNeg = nI (o2 s)) ∧ o1 s < m ∧ o2 s < m := fun q => by
      have sp' : spd A B m k F T s = true := Decidable.byContradiction (fun z => q (p0.mpr z))
      rw [cs, w1 182 (by decide), w1 183 (by decide)]
      obtain ⟨g1, g2, -⟩ := g s hs sp'
      exact ⟨hSs.2.2.2 s hs sp', g1, g2⟩
    refine v_Si_markCrossed_2 _ w (fun q => absurd hlt q) (fun _ => nI_inB (by omega) (by decide)) (fun _ q => ?_) (fun _ q => ?_) (fun _ q => ?_) (fun _ q => ?_) (fun _ q => ?_) (fun _ q => ?_)
    · rw [← nI_succ]
      refine next w ⟨w1, fun s' hs' => ?_, fun s' h1 h2 => w3 s' (by omega) h2⟩
      by_cases y : s' = s
      · rw [y, w3 s (Nat.le_refl _) hs]
        have z0 : ∀ p, p < 3 → xcP A B m k F T (fun e p => sdb (r e) p) s p = false := fun p hp => by
          unfold xcP
          rw [show xP A B m k F T s p = false by rw [Bool.eq_false_iff]; exact fun z => (p0.mp q) (spd_iff.mpr ⟨p, hp, z⟩)]; rfl
        rw [msk_cg 3 (g := fun _ => false) z0]; rfl
      · exact w2 s' (by omega)
    · obtain ⟨⟨e1, e2⟩, l1, l2⟩ := ex q
      rw [e1]; exact nI_inB (by omega) (by decide)
    · obtain ⟨⟨e1, e2⟩, l1, l2⟩ := ex q
      rw [e1, nI_clamp (by omega), w1 175 (by decide), r175 _ l1]; exact nI_inB (hr _ l1) (by decide)
    · obtain ⟨⟨e1, e2⟩, l1, l2⟩ := ex q
      rw [e2]; exact nI_inB (by omega) (by decide)
    · obtain ⟨⟨e1, e2⟩, l1, l2⟩ := ex q
      rw [e2, nI_clamp (by omega), w1 175 (by decide), r175 _ l2]; exact nI_inB (hr _ l2) (by decide)
    · obtain ⟨⟨e1, e2⟩, l1, l2⟩ := ex q
      have b1 := hr _ l1
      have b2 := hr _ l2
      rw [e1, e2, nI_clamp (show o1 s < 2 ^ 31 by omega), nI_clamp (show o2 s < 2 ^ 31 by omega), w1 175 (by decide), r175 _ l1, r175 _ l2, nI_clamp (show r (o1 s) < 2 ^ 31 by omega), nI_clamp (show r (o2 s) < 2 ^ 31 by omega), cs, w1 180 (by decide), w1 181 (by decide), (hSs.2.1 s hs).1, (hSs.2.1 s hs).2, pair_x b1 b2, ← nI_succ]
      refine next _ ⟨fun q' hq => (ewS_ne _ _ hq).trans (w1 q' hq), fun s' hs' => ?_, fun s' h1 h2 => ?_⟩
      · rw [ewS_self]
        show (if s' = s then _ else w 176 s') = _
        by_cases y : s' = s
        · rw [if_pos y, y]
          congr 1
          refine msk_cg 3 (fun p hp => ?_)
          unfold xcP
          by_cases u : xP A B m k F T s p = true
          · rcases hSs.2.2.1 s p hs hp u with ⟨v1, v2⟩ | ⟨v1, v2⟩
            · rw [v1, v2]
            · rw [v1, v2, bne_c (sdb (r (pe1 A B m F T (pq0 p) s)) p)]
          · rw [Bool.not_eq_true] at u; rw [u]; rfl
        · rw [if_neg y]; exact w2 s' (by omega)
      · rw [ewS_self]
        show (if s' = s then _ else w 176 s') = _
        rw [if_neg (by omega)]; exact w3 s' (by omega) h2
  · rintro w ⟨w1, w2, w3⟩
    have hlt : ¬ nI n < w 3 0 := by rw [w1 3 (by decide), hN.1.1]; exact nI_nlt (Nat.le_refl _) (by omega)
    refine v_Si_markCrossed_2 _ w (fun _ => ?_) (fun q => absurd q hlt) (fun q => absurd q hlt) (fun q => absurd q hlt) (fun q => absurd q hlt) (fun q => absurd q hlt) (fun q => absurd q hlt) (fun q => absurd q hlt)
    refine upto (H := Nat → Nat → Int32) (P := fun e v => (∀ q, q ≠ 176 → v q = h q) ∧ ∀ s, s < n → v 176 s = nI (msk (fun p => xcP A B m k F T (fun e p => sdb (r e) p) s p || (List.range e).any fun e => xcH A B dv m k F T (fun e p => sdb (r e) p) s p e) 3)) (E := fun e v => ewP X Si_markCrossed (d + 1) 83 [some (.ref 174), some (.int (nI e)), none] [] (0, 0) (229, ewR cu sp 3 n2 n3 3, v) _) m ?_ ?_ 0 w (by omega) ⟨w1, fun s hs => by rw [w2 s hs]; congr 1; exact msk_cg 3 (fun p _ => (Bool.or_false _).symm)⟩
    · rintro e v he ⟨v1, v2⟩ next
      have hlte : nI e < v 3 1 := by rw [v1 3 (by decide), hN.2.1.1]; exact (nI_ltb (by omega) (by omega)).mpr he
      have ce : (nI e).toNatClampNeg = e := nI_clamp (by omega)
      obtain ⟨nA, nB⟩ := ok.1 e he
      obtain ⟨eA, eB, -⟩ := hN.2.1.2.2.1 e he
      have hab : A e ≠ B e := fun y => ok.2.1 e he (by rw [y])
      have cv : cSs A B dv n m k F T o1 o2 v := hSs.fr (fun q _ _ _ => v1 q (by omega))
      have pc := fun (u : Nat → Nat → Int32) (hu : cSs A B dv n m k F T o1 o2 u) => pcd_n hu h7 he (hr e he)
      have a6 : v 6 (nI e).toNatClampNeg = nI (A e) := by rw [ce, v1 6 (by decide)]; exact eA
      have a7 : v 7 (nI e).toNatClampNeg = nI (B e) := by rw [ce, v1 7 (by decide)]; exact eB
      have a5 : v 175 (nI e).toNatClampNeg = nI (r e) := by rw [ce, v1 175 (by decide)]; exact r175 e he
      obtain ⟨⟨p1, p2⟩, p3, p4⟩ := pc v cv
      refine v_Si_markCrossed_83 _ v (fun q => absurd hlte q) (fun _ => nI_inB (by omega) (by decide)) (fun _ => by rw [a6]; exact nI_inB (by omega) (by decide)) (fun _ => by rw [a5]; exact p1) (fun _ => by rw [a7]; exact nI_inB (by omega) (by decide)) (fun _ => by rw [a5]; exact p3) (fun _ => ?_)
      rw [a6, a7, a5, nI_clamp (show A e < 2 ^ 31 by omega), nI_clamp (show B e < 2 ^ 31 by omega), p2, ewS_S, ← nI_succ]
      have cu' : cSs A B dv n m k F T o1 o2 (ewS v 176 (upd (v 176) (A e) (v 176 (A e) ||| nI (msk (fun p => xH A B m k F T (A e) p e && ((sdb (r e) p != true) != xL A B dv m F T (A e) p e)) 3)))) := cv.fr (fun q q1 q2 _ => ewS_ne _ _ (by omega))
      rw [(pc _ cu').2.2]
      refine next _ ⟨fun q hq => (ewS_ne _ _ hq).trans (v1 q hq), fun s hs => ?_⟩
      rw [ewS_self]
      show (if s = B e then (if B e = A e then _ else v 176 (B e)) ||| _ else if s = A e then _ else v 176 s) = _
      rw [if_neg hab.symm]
      have cA : ∀ p, xcH A B dv m k F T (fun e p => sdb (r e) p) (A e) p e = (xH A B m k F T (A e) p e && ((sdb (r e) p != true) != xL A B dv m F T (A e) p e)) := fun p => by unfold xcH; rw [decide_eq_true rfl]
      have cB : ∀ p, xcH A B dv m k F T (fun e p => sdb (r e) p) (B e) p e = (xH A B m k F T (B e) p e && ((sdb (r e) p != false) != xL A B dv m F T (B e) p e)) := fun p => by unfold xcH; rw [decide_eq_false hab]
      by_cases yB : s = B e
      · rw [if_pos yB, yB, v2 _ nB, or3_m]
        congr 1
        refine msk_cg 3 (fun p _ => ?_)
        rw [any_s, cB p, Bool.or_assoc]
      · rw [if_neg yB]
        by_cases yA : s = A e
        · rw [if_pos yA, yA, v2 _ nA, or3_m]
          congr 1
          refine msk_cg 3 (fun p _ => ?_)
          rw [any_s, cA p, Bool.or_assoc]
        · rw [if_neg yA, v2 s hs]
          congr 1
          refine msk_cg 3 (fun p hp => ?_)
          have z : xcH A B dv m k F T (fun e p => sdb (r e) p) s p e = false := by
            unfold xcH
            rw [show xH A B m k F T s p e = false by
              rw [Bool.eq_false_iff]
              intro w
              rcases (xH_s ok (by omega) hp w).2.1 with u | u
              · exact yA u.symm
              · exact yB u.symm]
            rfl
          rw [any_s, z, Bool.or_false]
    · rintro v ⟨v1, v2⟩
      have hlte : ¬ nI m < v 3 1 := by rw [v1 3 (by decide), hN.2.1.1]; exact nI_nlt (Nat.le_refl _) (by omega)
      exact v_Si_markCrossed_83 _ v (fun _ => ⟨v, ⟨v1, v2⟩, rfl, rfl⟩) (fun q => absurd q hlte) (fun q => absurd q hlte) (fun q => absurd q hlte) (fun q => absurd q hlte) (fun q => absurd q hlte) (fun q => absurd q hlte)
end SIDES6
