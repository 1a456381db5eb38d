/-! the class's way to count crossings: pairs that go on together by stations, pairs that part by stretches -/
def b1 (b : Bool) : Nat := if b = true then 1 else 0
section SW
variable (A B dv : Nat → Nat) (m k : Nat) (F T : Nat → Nat)
def sX (s i j : Nat) : Nat := sm (fun p => b1 (xP A B m k F T s p && ((sdb i p != sdb j p) != xS A B m F T s p))) 3
def sP (e i : Nat) : Nat := sm (fun p => b1 (xH A B m k F T (A e) p e && ((sdb i p != true) != xL A B dv m F T (A e) p e)) + b1 (xH A B m k F T (B e) p e && ((sdb i p != false) != xL A B dv m F T (B e) p e))) 3
def spd (s : Nat) : Bool := xP A B m k F T s 0 || xP A B m k F T s 1 || xP A B m k F T s 2
/-- one and two are the stretches of the pairs that go on together -/
def sOO (n : Nat) (o1 o2 : Nat → Nat) : Prop := ∀ s p, s < n → p < 3 → xP A B m k F T s p = true → (o1 s = pe0 A B m F T (pq0 p) s ∧ o2 s = pe1 A B m F T (pq0 p) s) ∨ (o1 s = pe1 A B m F T (pq0 p) s ∧ o2 s = pe0 A B m F T (pq0 p) s)
end SW
section SW2
variable {A B dv : Nat → Nat} {n m k : Nat} {F T : Nat → Nat} {o1 o2 : Nat → Nat}
theorem bne_c (a b : Bool) : (a != b) = (b != a) := by cases a <;> cases b <;> rfl
theorem sX_sym (s i j : Nat) : sX A B m k F T s i j = sX A B m k F T s j i := by
  unfold sX
  refine sm_cg 3 (fun p _ => ?_)
  rw [bne_c (sdb i p)]
theorem spd_iff {s : Nat} : spd A B m k F T s = true ↔ ∃ p, p < 3 ∧ xP A B m k F T s p = true := by
  unfold spd
  rw [Bool.or_eq_true, Bool.or_eq_true]
  constructor
  · rintro ((h | h) | h)
    · exact ⟨0, by omega, h⟩
    · exact ⟨1, by omega, h⟩
    · exact ⟨2, by omega, h⟩
  · rintro ⟨p, hp, h⟩
    rcases (show p = 0 ∨ p = 1 ∨ p = 2 by omega) with rfl | rfl | rfl
    · exact Or.inl (Or.inl h)
    · exact Or.inl (Or.inr h)
    · exact Or.inr h
theorem sOO.ok (oo : sOO A B m k F T n o1 o2) (ok : cOK n m A B k F T) (h9 : m ≤ 90) : gOK A B n m (spd A B m k F T) o1 o2 := by
  intro s hs hp
  obtain ⟨p, hp3, hx⟩ := spd_iff.mp hp
  have pl := pq_lt hp3
  have th := (xP_iff.mp hx).1
  obtain ⟨⟨a1, a2⟩, ⟨b1, b2⟩, ab, -⟩ := thr_at ok h9 (show pq0 p < k by have := th.1; omega) th.2.1
  rcases oo s p hs hp3 hx with ⟨q1, q2⟩ | ⟨q1, q2⟩
  · rw [q1, q2]; exact ⟨a1, b1, ab, a2, b2⟩
  · rw [q1, q2]; exact ⟨b1, a1, ab.symm, b2, a2⟩
theorem xH_s {s p e : Nat} (ok : cOK n m A B k F T) (h9 : m ≤ 90) (hp : p < 3) (h : xH A B m k F T s p e = true) : e < m ∧ (A e = s ∨ B e = s) ∧ s < n := by
  have pl := pq_lt hp
  obtain ⟨th, h2⟩ := xH_iff.mp h
  obtain ⟨⟨a1, a2⟩, ⟨b1, b2⟩, ab, sn⟩ := thr_at ok h9 (show pq0 p < k by have := th.1; omega) th.2.1
  rcases h2 with ⟨-, -, q⟩ | ⟨-, -, q⟩
  · rw [← q]; exact ⟨a1, a2, sn⟩
  · rw [← q]; exact ⟨b1, b2, sn⟩
/-- all together -/
theorem sW_n (ok : cOK n m A B k F T) (h9 : m ≤ 90) (oo : sOO A B m k F T n o1 o2) (r : Nat → Nat) : hW n m (spd A B m k F T) o1 o2 (sP A B dv m k F T) (sX A B m k F T) (fun e => decide (e < m)) r = pTt A B dv n m k F T (fun e p => sdb (r e) p) := by
  have g := oo.ok ok h9
  unfold hW pTt
  have split : sm (fun s => sm (fun p => (if xcP A B m k F T (fun e p => sdb (r e) p) s p = true then 1 else 0) + sm (fun e => if xcH A B dv m k F T (fun e p => sdb (r e) p) s p e = true then 1 else 0) m) 3) n = sm (fun s => sm (fun p => if xcP A B m k F T (fun e p => sdb (r e) p) s p = true then 1 else 0) 3) n + sm (fun e => sm (fun p => sm (fun s => if xcH A B dv m k F T (fun e p => sdb (r e) p) s p e = true then 1 else 0) n) 3) m := by
    rw [sm_cg n (fun s _ => sm_add (f := fun p => if xcP A B m k F T (fun e p => sdb (r e) p) s p = true then 1 else 0) (g := fun p => sm (fun e => if xcH A B dv m k F T (fun e p => sdb (r e) p) s p e = true then 1 else 0) m) 3), sm_add]
    congr 1
    rw [sm_cg n (fun s _ => sm_swap (f := fun p e => if xcH A B dv m k F T (fun e p => sdb (r e) p) s p e = true then 1 else 0) m 3), sm_swap m n]
    exact sm_cg m (fun e _ => sm_swap (f := fun s p => if xcH A B dv m k F T (fun e p => sdb (r e) p) s p e = true then 1 else 0) 3 n)
  rw [split, Nat.add_comm]
  congr 1
  · refine sm_cg n (fun s hs => ?_)
    by_cases q : spd A B m k F T s = true
    · obtain ⟨g1, g2, -⟩ := g s hs q
      rw [if_pos ⟨q, decide_eq_true g1, decide_eq_true g2⟩]
      unfold sX xcP b1
      refine sm_cg 3 (fun p hp => ?_)
      by_cases w : xP A B m k F T s p = true
      · rcases oo s p hs hp w with ⟨q1, q2⟩ | ⟨q1, q2⟩
        · rw [q1, q2]
        · rw [q1, q2, bne_c (sdb (r (pe1 A B m F T (pq0 p) s)) p)]
      · rw [Bool.not_eq_true] at w; rw [w]; rfl
    · rw [if_neg (fun z => q z.1)]
      symm
      refine (sm_cg 3 (g := fun _ => 0) (fun p hp => ?_)).trans (sm_z 3)
      have w : xP A B m k F T s p = false := by rw [Bool.eq_false_iff]; exact fun z => q (spd_iff.mpr ⟨p, hp, z⟩)
      unfold xcP
      rw [w]; rfl
  · refine sm_cg m (fun e he => ?_)
    rw [if_pos (decide_eq_true he)]
    have hab : A e ≠ B e := fun y => ok.2.1 e he (by rw [y])
    have hn := ok.1 e he
    unfold sP
    refine sm_cg 3 (fun p hp => ?_)
    have e1 : ∀ s, s < n → (if xcH A B dv m k F T (fun e p => sdb (r e) p) s p e = true then 1 else 0) = (if s = A e then b1 (xH A B m k F T (A e) p e && ((sdb (r e) p != true) != xL A B dv m F T (A e) p e)) else 0) + (if s = B e then b1 (xH A B m k F T (B e) p e && ((sdb (r e) p != false) != xL A B dv m F T (B e) p e)) else 0) := by
      intro s _
      unfold xcH
      by_cases q1 : s = A e
      · rw [if_pos q1, if_neg (fun z => hab (q1.symm.trans z)), Nat.add_zero, q1, decide_eq_true rfl]; rfl
      · by_cases q2 : s = B e
        · rw [if_neg q1, if_pos q2, Nat.zero_add, q2, decide_eq_false hab]; rfl
        · rw [if_neg q1, if_neg q2]
          have w : xH A B m k F T s p e = false := by
            rw [Bool.eq_false_iff]
            intro z
            rcases (xH_s ok h9 hp z).2.1 with y | y
            · exact q1 y.symm
            · exact q2 y.symm
          rw [w]; rfl
    rw [sm_cg n e1, sm_add, sm_pick (v := fun _ => b1 (xH A B m k F T (A e) p e && ((sdb (r e) p != true) != xL A B dv m F T (A e) p e))), sm_pick (v := fun _ => b1 (xH A B m k F T (B e) p e && ((sdb (r e) p != false) != xL A B dv m F T (B e) p e))), if_pos hn.1, if_pos hn.2]
/-- a stretch with fewer than two lines: its ranking is nothing -/
theorem pbc_two {L p : Nat} (hL : L < 8) (hp : p < 3) (h0 : pbt L (pq0 p) = 1) (h1 : pbt L (pq1 p) = 1) : 2 ≤ pbc L := by
  have hh : ∀ (L : Fin 8) (p : Fin 3), pbt L.1 (pq0 p.1) = 1 → pbt L.1 (pq1 p.1) = 1 → 2 ≤ pbc L.1 := by decide +kernel
  exact hh ⟨L, hL⟩ ⟨p, hp⟩ h0 h1
theorem pTt_alone (ok : cOK n m A B k F T) (h9 : m ≤ 90) (hk3 : k ≤ 3) {r : Nat → Nat} {e i : Nat} (he : pbc (pLs m A B k F T e) < 2) : pTt A B dv n m k F T (fun e p => sdb (r e) p) = pTt A B dv n m k F T (fun x p => sdb (pup r e i x) p) := by
  refine pTt_cg ok h9 hk3 (fun x p _ hp _ h0 h1 => ?_)
  by_cases q : x = e
  · rw [q] at h0 h1
    have := pbc_two (pLs_lt hk3 e) hp h0 h1
    omega
  · rw [pup_ne _ _ q]
/-- the rankings that are chosen tell the reference's best orders -/
theorem rank_best (ok : cOK n m A B k F T) (h9 : m ≤ 90) (hk3 : k ≤ 3) {r : Nat → Nat} (hr : ∀ e, e < m → r e < 6) (hlt : pTt A B dv n m k F T (fun e p => sdb (r e) p) < 1000000) (hmin : ∀ r' : Nat → Nat, (∀ e, e < m → r' e < 6) → pTt A B dv n m k F T (fun e p => sdb (r e) p) ≤ pTt A B dv n m k F T (fun e p => sdb (r' e) p))
    (hfst : ∀ e, e < m → (pbc (pLs m A B k F T e) < 2 ∧ r e = 0) ∨ ∀ r' : Nat → Nat, (∀ x, x < m → r' x < 6) → (∀ x, x < e → r' x = r x) → r' e < r e → pTt A B dv n m k F T (fun e p => sdb (r e) p) < pTt A B dv n m k F T (fun e p => sdb (r' e) p)) :
    pBo n m A B k F T dv = (pTt A B dv n m k F T (fun e p => sdb (r e) p), fun e => if e < m then prh (pLs m A B k F T e) (r e) else 0) := by
  have L8 := pLs_lt (m := m) (A := A) (B := B) (F := F) (T := T) hk3
  generalize hw : (fun e => if e < m then prh (pLs m A B k F T e) (r e) else 0) = w
  have we : ∀ e, e < m → w e = prh (pLs m A B k F T e) (r e) := fun e he => by rw [← hw]; exact if_pos he
  have wz : ∀ e, m ≤ e → w e = 0 := fun e he => by rw [← hw]; exact if_neg (by omega)
  have fw : sm (poc n m A B k F T dv w) m = pTt A B dv n m k F T (fun e p => sdb (r e) p) := poc_rank ok h9 hk3 hr we
  have := fdS_first (c := fun e => poN (pLs m A B k F T e)) (f := fun o => sm (poc n m A B k F T dv o) m) (fun v v' h => by rw [funext h]) m 0 (fun _ => 0) w (1000000, fun _ => 0) (fun j _ hj => by rw [we j (by omega)]; exact (prh_n (L8 j) (hr j (by omega))).1) (fun j hj => by omega) (fun j hj => wz j (by omega)) (fun w' g1 g2 g3 => ?_) (by show sm (poc n m A B k F T dv w) m < 1000000; rw [fw]; exact hlt)
  · rw [← fw]
    exact this
  · have g1' : ∀ j, j < m → w' j < poN (pLs m A B k F T j) := fun j hj => g1 j (by omega) (by omega)
    -- rankings of another choice, equal to r where the orders are equal
    have rk : ∀ j0, (∀ i, i < j0 → w' i = w i) → sm (poc n m A B k F T dv w') m = pTt A B dv n m k F T (fun e p => sdb ((if e < j0 then r e else pfi (pLs m A B k F T e) (w' e))) p) ∧ ∀ e, e < m → (if e < j0 then r e else pfi (pLs m A B k F T e) (w' e)) < 6 := by
      intro j0 hj0
      have h6 : ∀ e, e < m → (if e < j0 then r e else pfi (pLs m A B k F T e) (w' e)) < 6 := fun e he => by
        split
        · exact hr e he
        · exact ((prh_n (L8 e) (show 0 < 6 by omega)).2.1 (w' e) (g1' e he)).1
      refine ⟨poc_rank ok h9 hk3 h6 (fun e he => ?_), h6⟩
      by_cases q : e < j0
      · rw [if_pos q, hj0 e q, we e he]
      · rw [if_neg q, ((prh_n (L8 e) (show 0 < 6 by omega)).2.1 (w' e) (g1' e he)).2.1]
    rw [fw]
    refine ⟨?_, ?_⟩
    · obtain ⟨e1, e2⟩ := rk 0 (fun i hi => by omega)
      rw [e1]
      exact hmin _ e2
    · rintro ⟨j, -, hj, hj3, hj4⟩
      have hjm : j < m := by omega
      obtain ⟨e1, e2⟩ := rk j hj3
      rw [e1]
      rw [we j hjm] at hj4
      have lt := ((prh_n (L8 j) (hr j hjm)).2.1 (w' j) (g1' j hjm)).2.2 hj4
      rcases hfst j hjm with ⟨q1, q2⟩ | q
      · rw [q2] at lt; omega
      · refine q _ e2 (fun x hx => if_pos hx) ?_
        rw [if_neg (by omega)]; exact lt
end SW2
