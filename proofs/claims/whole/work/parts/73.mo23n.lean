/-! the reference: crossedBy, takeOrders -/
section CRB
variable (A B v : Nat → Nat) (n m k : Nat) (F T : Nat → Nat)
def pq0 (p : Nat) : Nat := if p = 2 then 1 else 0
def pq1 (p : Nat) : Nat := if p = 0 then 1 else 2
/-- whether the p-th pair crosses at s, if it hangs on e -/
def pc1 (Lf : Nat → Nat → Nat → Bool) (e s p : Nat) : Nat := if pq1 p < k ∧ phg A B m F T s (pq0 p) (pq1 p) = e ∧ pcr A B v (Lf (pq0 p) (pq1 p)) s (pe0 A B m F T (pq0 p) s) (pe1 A B m F T (pq0 p) s) (pe0 A B m F T (pq1 p) s) (pe1 A B m F T (pq1 p) s) = true then 1 else 0
def pcb (Lf : Nat → Nat → Nat → Bool) (e : Nat) : Nat := sm (fun s => sm (pc1 A B v m k F T Lf e s) 3) n
end CRB
theorem sm_cg {f g : Nat → Nat} : ∀ n, (∀ i, i < n → f i = g i) → sm f n = sm g n
  | 0, _ => rfl
  | n + 1, h => by show sm f n + f n = sm g n + g n; rw [sm_cg n (fun i hi => h i (by omega)), h n (by omega)]
/-- only orders of stretches up to the one on which it hangs bear on it -/
theorem pcr_cg {A B v : Nat → Nat} {m : Nat} {F T : Nat → Nat} {Lf Lf' : Nat → Bool} {s l j : Nat} (hg : phg A B m F T s l j ≠ 99) (h : ∀ e, e ≤ phg A B m F T s l j → Lf e = Lf' e) : pcr A B v Lf s (pe0 A B m F T l s) (pe1 A B m F T l s) (pe0 A B m F T j s) (pe1 A B m F T j s) = pcr A B v Lf' s (pe0 A B m F T l s) (pe1 A B m F T l s) (pe0 A B m F T j s) (pe1 A B m F T j s) := by
  unfold phg at hg h
  by_cases p1 : pw A B m F T l s = 0
  · rw [if_pos p1] at hg; exact absurd rfl hg
  · rw [if_neg p1] at hg h
    by_cases p2 : pw A B m F T j s = 0
    · rw [if_pos p2] at hg; exact absurd rfl hg
    · rw [if_neg p2] at hg h
      unfold pcr
      generalize pe0 A B m F T l s = a at *
      generalize pe1 A B m F T l s = b at *
      generalize pe0 A B m F T j s = c at *
      generalize pe1 A B m F T j s = g at *
      by_cases w1 : a = c ∨ a = g
      · rw [if_pos w1] at h ⊢
        rw [if_pos w1]
        by_cases w2 : b = c ∨ b = g
        · rw [if_pos w2] at h ⊢
          rw [if_pos w2, h (if a < b then a else b) (by split <;> split <;> omega), h (if a < b then b else a) (by split <;> split <;> omega)]
        · rw [if_neg w2] at h ⊢
          rw [if_neg w2, h a (Nat.le_refl _)]
      · rw [if_neg w1] at h hg ⊢
        rw [if_neg w1]
        by_cases w2 : b = c ∨ b = g
        · rw [if_pos w2] at h
          rw [h b (Nat.le_refl _)]
        · rw [if_neg w2] at hg; exact absurd rfl hg
theorem phg_le {A B : Nat → Nat} {n m : Nat} {h : Nat → Nat → Int32} {k : Nat} {F T : Nat → Nat} (hN : mNt h n m A B k F T) {s l j : Nat} (hs : s < n) (hl : l < k) (hj : j < k) : phg A B m F T s l j < m ∨ phg A B m F T s l j = 99 := by
  obtain ⟨-, -, -, u4⟩ := pw_n hN hl hs
  obtain ⟨-, -, -, v4⟩ := pw_n hN hj hs
  unfold phg
  by_cases p1 : pw A B m F T l s = 0
  · rw [if_pos p1]; exact Or.inr rfl
  · rw [if_neg p1]
    by_cases p2 : pw A B m F T j s = 0
    · rw [if_pos p2]; exact Or.inr rfl
    · rw [if_neg p2]
      obtain ⟨-, -, -, b1, b2, -⟩ := u4 p1
      split
      · split
        · split
          · exact Or.inl b1
          · exact Or.inl b2
        · exact Or.inl b1
      · split
        · exact Or.inl b2
        · exact Or.inr rfl
theorem pcb_cg {A B v : Nat → Nat} {n m k : Nat} {F T : Nat → Nat} {Lf Lf' : Nat → Nat → Nat → Bool} {e : Nat} (he : e ≠ 99) (h : ∀ l j f, f ≤ e → Lf l j f = Lf' l j f) : pcb A B v n m k F T Lf e = pcb A B v n m k F T Lf' e := by
  unfold pcb
  refine sm_cg n (fun s _ => sm_cg 3 (fun p _ => ?_))
  unfold pc1
  by_cases q : phg A B m F T s (pq0 p) (pq1 p) = e
  · rw [pcr_cg (by rw [q]; exact he) (fun f hf => h (pq0 p) (pq1 p) f (by rw [q] at hf; exact hf))]
  · rw [if_neg (fun z => q z.2.1), if_neg (fun z => q z.2.1)]
theorem pcb_le {A B v : Nat → Nat} {n m k : Nat} {F T : Nat → Nat} {Lf : Nat → Nat → Nat → Bool} {e : Nat} : pcb A B v n m k F T Lf e ≤ n * 3 := sm_le (fun s => Nat.le_trans (sm_le (C := 1) (fun p => by unfold pc1; split <;> omega) 3) (by omega)) n
def f_Mo_crossedBy (h : Nat → Nat → Int32) (x1 : Int32) : Int32 := nI (pcb (gA h) (gB h) (gV h 214) (gN h) (gM h) (gK h) (gF h) (gT h) (gLf h 222) x1.toNatClampNeg)
def p_Mo_crossedBy (h : Nat → Nat → Int32) (x1 : Int32) : Prop := mN h ∧ mDr h 214 (gM h) (gV h 214) ∧ (∀ e, e < gM h → ∃ c, c < 8 ∧ h 221 e = nI c) ∧ ∃ e, e < gM h ∧ x1 = nI e
set_option maxHeartbeats 1000000 in
theorem s_Mo_crossedBy {X : Nat × (Nat → Int32)} {d : Nat} {Q : Option Value → eS → Prop} {cu sp n1 n2 n3 n4 : Nat} (x1 : Int32) (h : Nat → Nat → Int32) (hp : p_Mo_crossedBy h x1) (z9 : Q (some (.int (f_Mo_crossedBy h x1))) (229, (ewR cu sp n1 n2 n3 n4), h)) : ewP X Mo_crossedBy (d + 3) 0 [some (.ref 194), some (.int x1), none, none, none, none, none] [] (0, 0) (229, (ewR cu sp n1 n2 n3 n4), h) Q := by
  obtain ⟨hN, hv, hL, e, he, rfl⟩ := hp
  unfold f_Mo_crossedBy at z9
  have hN : mNt h (gN h) (gM h) (gA h) (gB h) (gK h) (gF h) (gT h) := hN
  obtain ⟨⟨a1, h8, a3, h7, a5, hn, hk⟩, -, ⟨a4, hk3⟩, -, hls⟩ := id hN
  rw [nI_clamp (show e < 2 ^ 31 by omega)] at z9
  unfold pcb at z9
  generalize gN h = n at *
  generalize gM h = m at *
  generalize gA h = A at *
  generalize gB h = B at *
  generalize gK h = k at *
  generalize gF h = F at *
  generalize gT h = T at *
  generalize gV h 214 = v at *
  refine v_Mo_crossedBy_0 _ h ?_
  refine upto (H := Unit) (P := fun _ _ => True) (E := fun s _ => ewP X Mo_crossedBy (d + 3) 4 [some (.ref 194), some (.int (nI e)), some (.int (nI (sm (fun s => sm (pc1 A B v m k F T (gLf h 222) e s) 3) s))), some (.int (nI s)), none, none, none] [] (0, 0) (229, ewR cu sp n1 n2 n3 n4, h) Q) n ?_ ?_ 0 () (by omega) trivial
  · intro s _ hs _ next
    have next := next () trivial
    have hlt : nI s < h 194 0 := by rw [a1]; exact nI_lt hs (by omega)
    refine v_Mo_crossedBy_4 _ _ _ h (fun q => absurd hlt q) (fun _ => ?_)
    refine upto (H := Unit) (P := fun _ _ => True) (E := fun p _ => ewP X Mo_crossedBy (d + 3) 15 [some (.ref 194), some (.int (nI e)), some (.int (nI (sm (fun s => sm (pc1 A B v m k F T (gLf h 222) e s) 3) s + sm (pc1 A B v m k F T (gLf h 222) e s) p))), some (.int (nI s)), some (.int (nI p)), none, none] [] (0, 0) (229, ewR cu sp n1 n2 n3 n4, h) Q) 3 ?_ ?_ 0 () (by omega) trivial
    · intro p _ hp _ next2
      have next2 := next2 () trivial
      have hlt3 : nI p < 3 := (nI_ltb (b := 3) (by omega) (by omega)).mpr hp
      have e0 : (if nI p = 2 then (1 : Int32) else 0) = nI (pq0 p) := by
        have hh : ∀ p : Fin 3, (if nI p.1 = 2 then (1 : Int32) else 0) = nI (pq0 p.1) := by decide
        exact hh ⟨p, hp⟩
      have e1 : (if nI p = 0 then (1 : Int32) else 2) = nI (pq1 p) := by
        have hh : ∀ p : Fin 3, (if nI p.1 = 0 then (1 : Int32) else 2) = nI (pq1 p.1) := by decide
        exact hh ⟨p, hp⟩
      have q1b : pq1 p < 3 := by unfold pq1; split <;> omega
      have q01 : pq0 p < pq1 p := by unfold pq0 pq1; split <;> split <;> omega
      have km : nI (pq1 p) < h 194 4 ↔ pq1 p < k := by rw [a4]; exact nI_ltb (by omega) (by omega)
      have hang := fun (q : pq1 p < k) => hangsOn_n hN hs (show pq0 p < k by omega) q
      have he9 : ∀ (q : pq1 p < k), (f_Mo_hangsOn h (nI s) (nI (pq0 p)) (nI (pq1 p)) = nI e) ↔ phg A B m F T s (pq0 p) (pq1 p) = e := by
        intro q
        rw [(hang q).2]
        by_cases z : phg A B m F T s (pq0 p) (pq1 p) = 99
        · rw [if_pos z, z]
          exact ⟨fun y => by have : (-1 : Int32) = nI e := y; have hh := nI_pos (n := e) (by omega); rw [← this] at hh; exact absurd (by decide) hh, fun y => by omega⟩
        · rw [if_neg z]
          rcases phg_le hN hs (show pq0 p < k by omega) q with y | y
          · exact nI_eq (by omega) (by omega)
          · exact absurd y z
      have dc := fun (q : pq1 p < k) (z : phg A B m F T s (pq0 p) (pq1 p) = e) => doCross_n hN hv (q1 := 222) rfl rfl hL hs (show pq0 p < k by omega) q (by rw [z]; omega)
      refine v_Mo_crossedBy_15 _ _ _ _ h (fun q => absurd hlt3 q) (fun _ q => ?_) (fun _ q z => ?_) (fun _ => ?_)
      · rw [e0, e1] at *
        exact (hang (km.mp q)).1
      · rw [e0, e1] at *
        exact (dc (km.mp q) ((he9 (km.mp q)).mp z)).1
      · rw [e0, e1, ← nI_succ]
        have eq1 : (if (nI (pq1 p) < h 194 4) ∧ ((f_Mo_hangsOn h (nI s) (nI (pq0 p)) (nI (pq1 p)) = nI e) ∧ f_Mo_doCross h 222 (nI s) (nI (pq0 p)) (nI (pq1 p))) then (1 : Int32) else 0) = nI (pc1 A B v m k F T (gLf h 222) e s p) := by
          unfold pc1
          by_cases w : pq1 p < k ∧ phg A B m F T s (pq0 p) (pq1 p) = e ∧ pcr A B v (gLf h 222 (pq0 p) (pq1 p)) s (pe0 A B m F T (pq0 p) s) (pe1 A B m F T (pq0 p) s) (pe0 A B m F T (pq1 p) s) (pe1 A B m F T (pq1 p) s) = true
          · rw [if_pos w, if_pos ⟨km.mpr w.1, (he9 w.1).mpr w.2.1, (dc w.1 w.2.1).2.mpr w.2.2⟩]; rfl
          · rw [if_neg w, if_neg (fun y => w ⟨km.mp y.1, (he9 (km.mp y.1)).mp y.2.1, (dc (km.mp y.1) ((he9 (km.mp y.1)).mp y.2.1)).2.mp y.2.2⟩)]; rfl
        rw [eq1, nI_ad, Nat.add_assoc]
        exact next2
    · intro _ _
      have hlt3 : ¬ nI 3 < 3 := by decide
      refine v_Mo_crossedBy_15 _ _ _ _ h (fun _ => ?_) (fun q => absurd q hlt3) (fun q => absurd q hlt3) (fun q => absurd q hlt3)
      rw [← nI_succ]
      exact next
  · intro _ _
    have hlt : ¬ nI n < h 194 0 := by rw [a1]; exact nI_nlt (Nat.le_refl _) (by omega)
    exact v_Mo_crossedBy_4 _ _ _ h (fun _ => z9) (fun q => absurd q hlt)
def mTo (h : Nat → Nat → Int32) (x1 : Int32) (h' : Nat → Nat → Int32) : Prop := (∀ k, k ≠ 194 → k ≠ 223 → h' k = h k) ∧ h' 194 = upd (h 194) 46 x1 ∧ ∀ j, j < 21 → h' 223 j = h 222 j
theorem s_Mo_takeOrders {X : Nat × (Nat → Int32)} {d : Nat} {cu sp n1 n2 n3 n4 : Nat} (x1 : Int32) (h : Nat → Nat → Int32) : ewP X Mo_takeOrders (d + 0) 0 [some (.ref 194), some (.int x1), none] [] (0, 0) (229, ewR cu sp n1 n2 n3 n4, h) (fun v S' => ∃ (h' : Nat → Nat → Int32), mTo h x1 h' ∧ v = none ∧ S' = (229, ewR cu sp n1 n2 n3 n4, h')) := by
  refine v_Mo_takeOrders_0 _ h ?_
  refine upto (H := Nat → Nat → Int32) (P := fun i w => (∀ k, k ≠ 194 → k ≠ 223 → w k = h k) ∧ w 194 = upd (h 194) 46 x1 ∧ ∀ j, j < i → w 223 j = h 222 j) (E := fun i w => ewP X Mo_takeOrders (d + 0) 7 [some (.ref 194), some (.int x1), some (.int (nI i))] [] (0, 0) (229, ewR cu sp n1 n2 n3 n4, w) _) 21 ?_ ?_ 0 _ (by omega) ⟨fun k h1 h2 => ewS_ne _ _ h1, ewS_self _ _ _, fun j hj => by omega⟩
  · rintro i w hi ⟨w1, w2, w3⟩ next
    have hlt : nI i < 21 := (nI_ltb (b := 21) (by omega) (by omega)).mpr hi
    refine v_Mo_takeOrders_7 _ _ w (fun q => absurd hlt q) (fun _ => nI_inB hi (by decide)) (fun _ => ?_)
    rw [nI_clamp (by omega), ← nI_succ, w1 222 (by decide) (by decide)]
    refine next _ ⟨fun k h1 h2 => by rw [ewS_ne _ _ h2]; exact w1 k h1 h2, by rw [ewS_ne _ _ (by decide)]; exact w2, fun j hj => ?_⟩
    rw [ewS_self, upd]
    by_cases q : j = i
    · rw [if_pos q, q]
    · rw [if_neg q]; exact w3 j (by omega)
  · rintro w ⟨w1, w2, w3⟩
    have hlt : ¬ nI 21 < 21 := by decide
    exact v_Mo_takeOrders_7 _ _ w (fun _ => ⟨w, ⟨w1, w2, w3⟩, rfl, rfl⟩) (fun q => absurd q hlt) (fun q => absurd q hlt)
