/-! all crossings; rankings and orders -/
def pTt (A B dv : Nat → Nat) (n m k : Nat) (F T : Nat → Nat) (L : Nat → Nat → Bool) : Nat := sm (fun s => sm (fun p => (if xcP A B m k F T L s p = true then 1 else 0) + sm (fun e => if xcH A B dv m k F T L s p e = true then 1 else 0) m) 3) n
section TT
variable {A B dv : Nat → Nat} {n m k : Nat} {F T : Nat → Nat}
theorem xth_no {s p : Nat} (h : ¬ pq1 p < k) (L : Nat → Nat → Bool) : xcP A B m k F T L s p = false ∧ ∀ e, xcH A B dv m k F T L s p e = false := by
  refine ⟨?_, fun e => ?_⟩
  · unfold xcP
    rw [show xP A B m k F T s p = false by rw [Bool.eq_false_iff]; exact fun z => h (xP_iff.mp z).1.1]; rfl
  · unfold xcH
    rw [show xH A B m k F T s p e = false by rw [Bool.eq_false_iff]; exact fun z => h (xH_iff.mp z).1.1]; rfl
theorem phg_lt (ok : cOK n m A B k F T) (h9 : m ≤ 90) {s l j : Nat} (hl : l < k) : phg A B m F T s l j < m ∨ phg A B m F T s l j = 99 := by
  unfold phg
  by_cases q0 : pw A B m F T l s = 0
  · rw [if_pos q0]; exact Or.inr rfl
  · rw [if_neg q0]
    obtain ⟨⟨a1, -⟩, ⟨b1, -⟩, -⟩ := thr_at ok h9 hl q0
    by_cases q1 : pw A B m F T j s = 0
    · rw [if_pos q1]; exact Or.inr rfl
    · rw [if_neg q1]
      repeat' split
      all_goals first | exact Or.inl a1 | exact Or.inl b1 | exact Or.inr rfl
/-- the reference's sum of crossings -/
theorem poc_sum (ok : cOK n m A B k F T) (h9 : m ≤ 90) (o : Nat → Nat) : sm (poc n m A B k F T dv o) m = pTt A B dv n m k F T (fun e p => pLf m A B k F T o (pq0 p) (pq1 p) e) := by
  unfold poc pcb pTt
  rw [sm_swap n m]
  refine sm_cg n (fun s hs => ?_)
  rw [sm_swap 3 m]
  refine sm_cg 3 (fun p hp => ?_)
  have pl := pq_lt hp
  by_cases hk : pq1 p < k
  · rw [← pcx_n ok h9 hp hk]
    unfold pcx
    have e1 : ∀ e, e < m → pc1 A B dv m k F T (pLf m A B k F T o) e s p = if e = phg A B m F T s (pq0 p) (pq1 p) then (if pcr A B dv (pLf m A B k F T o (pq0 p) (pq1 p)) s (pe0 A B m F T (pq0 p) s) (pe1 A B m F T (pq0 p) s) (pe0 A B m F T (pq1 p) s) (pe1 A B m F T (pq1 p) s) = true then 1 else 0) else 0 := by
      intro e _
      unfold pc1
      by_cases w : e = phg A B m F T s (pq0 p) (pq1 p)
      · rw [if_pos w]
        exact ite_cg ⟨fun z => z.2.2, fun z => ⟨hk, w.symm, z⟩⟩ (fun _ => rfl) (fun _ => rfl)
      · rw [if_neg w, if_neg (fun z => w z.2.1.symm)]
    rw [sm_cg m e1, sm_pick]
    rcases phg_lt ok h9 (s := s) (j := pq1 p) (show pq0 p < k by omega) with w | w
    · rw [if_pos w]
      exact ite_cg ⟨fun z => ⟨by omega, z⟩, fun z => z.2⟩ (fun _ => rfl) (fun _ => rfl)
    · rw [if_neg (by omega), if_neg (fun z => z.1 w)]
  · have e1 : ∀ e, e < m → pc1 A B dv m k F T (pLf m A B k F T o) e s p = 0 := fun e _ => by unfold pc1; exact if_neg (fun z => hk z.1)
    obtain ⟨n1, n2⟩ := xth_no (A := A) (B := B) (dv := dv) (m := m) (F := F) (T := T) (s := s) hk (fun e p => pLf m A B k F T o (pq0 p) (pq1 p) e)
    rw [sm_cg m (g := fun _ => 0) e1, sm_z, n1, sm_cg m (g := fun _ => 0) (fun e _ => by rw [n2 e]; rfl), sm_z]
    rfl
end TT
/-- rankings: which pairs have the lesser line to the left -/
def psd (i : Nat) : Nat := if i = 0 then 7 else if i = 1 then 3 else if i = 2 then 6 else if i = 3 then 4 else if i = 4 then 1 else 0
def sdb (i p : Nat) : Bool := (psd i).testBit p
/-- a ranking, told of a set of lines; the first ranking of an order -/
def prh (L i : Nat) : Nat := if pbc L = 3 then i else if pbc L = 2 then (if sdb i (if L = 3 then 0 else if L = 5 then 1 else 2) = true then 0 else 1) else 0
def pfi (L o : Nat) : Nat := if pbc L = 3 then o else if pbc L = 2 then (if o = 0 then 0 else if L = 3 then 2 else if L = 5 then 3 else 1) else 0
theorem prh_n {L i : Nat} (hL : L < 8) (hi : i < 6) : prh L i < poN L ∧ (∀ o, o < poN L → pfi L o < 6 ∧ prh L (pfi L o) = o ∧ (o < prh L i → pfi L o < i)) ∧ (pbc L < 2 → poN L = 1) := by
  have hh : ∀ (L : Fin 8) (i : Fin 6), prh L.1 i.1 < poN L.1 ∧ (∀ o : Fin 6, o.1 < poN L.1 → pfi L.1 o.1 < 6 ∧ prh L.1 (pfi L.1 o.1) = o.1 ∧ (o.1 < prh L.1 i.1 → pfi L.1 o.1 < i.1)) ∧ (pbc L.1 < 2 → poN L.1 = 1) := by decide +kernel
  obtain ⟨h1, h2, h3⟩ := hh ⟨L, hL⟩ ⟨i, hi⟩
  exact ⟨h1, fun o ho => h2 ⟨o, by have := (poN_p L).2; omega⟩ ho, h3⟩
theorem prh_L {L i p : Nat} (hL : L < 8) (hi : i < 6) (hp : p < 3) (h0 : pbt L (pq0 p) = 1) (h1 : pbt L (pq1 p) = 1) : pis (fun j => nI (pol L (prh L i) j)) (nI (pq0 p)) (nI (pq1 p)) (pbc L) = sdb i p := by
  have hh : ∀ (L : Fin 8) (i : Fin 6) (p : Fin 3), pbt L.1 (pq0 p.1) = 1 → pbt L.1 (pq1 p.1) = 1 → pis (fun j => nI (pol L.1 (prh L.1 i.1) j)) (nI (pq0 p.1)) (nI (pq1 p.1)) (pbc L.1) = sdb i.1 p.1 := by decide +kernel
  exact hh ⟨L, hL⟩ ⟨i, hi⟩ ⟨p, hp⟩ h0 h1
section TT2
variable {A B dv : Nat → Nat} {n m k : Nat} {F T : Nat → Nat}
theorem pLa_bit (e : Nat) : ∀ k l, l < k → k ≤ 3 → pbt (pLa A B m F T e k) l = if pon A B m (F l) (T l) e (tds A B m (F l) (T l)) = true then 1 else 0
  | k + 1, l, hl, hk => by
    have lt := pLa_lt A B m F T e k
    show pbt (pLa A B m F T e k + if pon A B m (F k) (T k) e (tds A B m (F k) (T k)) = true then 2 ^ k else 0) l = _
    have gen : ∀ x, x < 2 ^ k → ∀ b : Bool, (l = k → pbt (x + if b = true then 2 ^ k else 0) l = if b = true then 1 else 0) ∧ (l < k → pbt (x + if b = true then 2 ^ k else 0) l = pbt x l) := by
      have hh : ∀ (k l : Fin 3) (x : Fin 8) (b : Bool), x.1 < 2 ^ k.1 → (l.1 = k.1 → pbt (x.1 + if b = true then 2 ^ k.1 else 0) l.1 = if b = true then 1 else 0) ∧ (l.1 < k.1 → pbt (x.1 + if b = true then 2 ^ k.1 else 0) l.1 = pbt x.1 l.1) := by decide +kernel
      intro x hx b
      have h8 : 2 ^ k ≤ 2 ^ 2 := Nat.pow_le_pow_right (by omega) (by omega)
      exact hh ⟨k, by omega⟩ ⟨l, by omega⟩ ⟨x, by omega⟩ b hx
    obtain ⟨g1, g2⟩ := gen _ lt (pon A B m (F k) (T k) e (tds A B m (F k) (T k)))
    by_cases q : l = k
    · rw [g1 q, q]
    · rw [g2 (by omega)]
      exact pLa_bit e k l (by omega) (by omega)
theorem pon_at {f t e : Nat} : ∀ d j, j < d → tpe A B m t f j = e → pon A B m f t e d = true
  | d + 1, j, hj, h => by
    show (pon A B m f t e d || decide (tpe A B m t f d = e)) = true
    by_cases q : j = d
    · rw [← q, decide_eq_true h, Bool.or_true]
    · rw [pon_at d j (by omega) h]; rfl
theorem on_at (hk3 : k ≤ 3) {l s : Nat} (hl : l < k) (h : pw A B m F T l s ≠ 0) : pbt (pLs m A B k F T (pe0 A B m F T l s)) l = 1 ∧ pbt (pLs m A B k F T (pe1 A B m F T l s)) l = 1 := by
  have w1 := pw_le (A := A) (B := B) (m := m) (F := F) (T := T) l s
  unfold pLs
  rw [pLa_bit _ k l hl hk3, pLa_bit _ k l hl hk3, pon_at (e := pe0 A B m F T l s) (f := F l) (t := T l) _ (pw A B m F T l s - 1) (by omega) rfl, pon_at (e := pe1 A B m F T l s) (f := F l) (t := T l) _ (pw A B m F T l s) (by omega) rfl]
  exact ⟨rfl, rfl⟩
/-- only lines of a stretch bear on its order -/
theorem pTt_cg (ok : cOK n m A B k F T) (h9 : m ≤ 90) (hk3 : k ≤ 3) {L L' : Nat → Nat → Bool} (h : ∀ e p, e < m → p < 3 → pq1 p < k → pbt (pLs m A B k F T e) (pq0 p) = 1 → pbt (pLs m A B k F T e) (pq1 p) = 1 → L e p = L' e p) : pTt A B dv n m k F T L = pTt A B dv n m k F T L' := by
  unfold pTt
  refine sm_cg n (fun s _ => sm_cg 3 (fun p hp => ?_))
  have pl := pq_lt hp
  by_cases q0 : xth A B m k F T s p
  · obtain ⟨⟨a1, -⟩, ⟨b1, -⟩, -⟩ := thr_at ok h9 (show pq0 p < k by have := q0.1; omega) q0.2.1
    obtain ⟨o1, o2⟩ := on_at (A := A) (B := B) (m := m) (F := F) (T := T) hk3 (show pq0 p < k by have := q0.1; omega) q0.2.1
    obtain ⟨o3, o4⟩ := on_at (A := A) (B := B) (m := m) (F := F) (T := T) hk3 q0.1 q0.2.2
    have e0 : xs0 A B m F T s p → L (pe0 A B m F T (pq0 p) s) p = L' (pe0 A B m F T (pq0 p) s) p := fun z => h _ p a1 hp q0.1 o1 (by rcases z with w | w <;> rw [w] <;> assumption)
    have e1 : xs1 A B m F T s p → L (pe1 A B m F T (pq0 p) s) p = L' (pe1 A B m F T (pq0 p) s) p := fun z => h _ p b1 hp q0.1 o2 (by rcases z with w | w <;> rw [w] <;> assumption)
    congr 1
    · unfold xcP
      by_cases w : xP A B m k F T s p = true
      · rw [e0 (xP_iff.mp w).2.1, e1 (xP_iff.mp w).2.2]
      · rw [Bool.not_eq_true] at w; rw [w]; rfl
    · refine sm_cg m (fun e _ => ?_)
      unfold xcH
      by_cases w : xH A B m k F T s p e = true
      · rcases (xH_iff.mp w).2 with ⟨y1, -, y3⟩ | ⟨-, y2, y3⟩
        · have := e0 y1
          rw [y3] at this
          rw [this]
        · have := e1 y2
          rw [y3] at this
          rw [this]
      · rw [Bool.not_eq_true] at w; rw [w]; rfl
  · have z1 : xP A B m k F T s p = false := by rw [Bool.eq_false_iff]; exact fun z => q0 (xP_iff.mp z).1
    have z2 : ∀ e, xH A B m k F T s p e = false := fun e => by rw [Bool.eq_false_iff]; exact fun z => q0 (xH_iff.mp z).1
    unfold xcP xcH
    rw [z1, sm_cg m (g := fun _ => 0) (fun e _ => by rw [z2 e]; rfl), sm_cg m (g := fun _ => 0) (f := fun e => if (xH A B m k F T s p e && _) = true then 1 else 0) (fun e _ => by rw [z2 e]; rfl)]
    rfl
/-- an order of each stretch costs what its rankings cost -/
theorem poc_rank (ok : cOK n m A B k F T) (h9 : m ≤ 90) (hk3 : k ≤ 3) {o r : Nat → Nat} (hr : ∀ e, e < m → r e < 6) (h : ∀ e, e < m → o e = prh (pLs m A B k F T e) (r e)) : sm (poc n m A B k F T dv o) m = pTt A B dv n m k F T (fun e p => sdb (r e) p) := by
  rw [poc_sum ok h9]
  refine pTt_cg ok h9 hk3 (fun e p he hp hk h0 h1 => ?_)
  show pis (fun i => nI (pol (pLs m A B k F T e) (o e) i)) (nI (pq0 p)) (nI (pq1 p)) (pbc (pLs m A B k F T e)) = sdb (r e) p
  rw [h e he]
  exact prh_L (pLs_lt hk3 e) (hr e he) hp h0 h1
end TT2
/-- the first least choice is what the fold takes -/
theorem fdS_first {c : Nat → Nat} {f : (Nat → Nat) → Nat} (hf : ∀ v v' : Nat → Nat, (∀ j, v j = v' j) → f v = f v') : ∀ kk e (v w : Nat → Nat) (b : Nat × (Nat → Nat)), (∀ j, e ≤ j → j < e + kk → w j < c j) → (∀ j, j < e → w j = v j) → (∀ j, e + kk ≤ j → w j = v j) →
    (∀ w' : Nat → Nat, (∀ j, e ≤ j → j < e + kk → w' j < c j) → (∀ j, j < e → w' j = v j) → (∀ j, e + kk ≤ j → w' j = v j) → f w ≤ f w' ∧ ((∃ j, e ≤ j ∧ j < e + kk ∧ (∀ i, i < j → w' i = w i) ∧ w' j < w j) → f w < f w')) → f w < b.1 →
    fdS c (fun _ i => i) (fun b o => if f o < b.1 then (f o, o) else b) e kk v b = (f w, w)
  | 0, e, v, w, b, _, h2, h3, _, hb => by
    have ew : w = v := funext fun j => by
      by_cases q : j < e
      · exact h2 j q
      · exact h3 j (by omega)
    show (if f v < b.1 then (f v, v) else b) = _
    rw [← ew, if_pos hb]
  | kk + 1, e, v, w, b, h1, h2, h3, h4, hb => by
    show (List.range (c e)).foldl (fun b i => fdS c (fun _ i => i) (fun b o => if f o < b.1 then (f o, o) else b) (e + 1) kk (pup v e i) b) b = _
    have we := h1 e (by omega) (by omega)
    -- any choice is told by its value at e and the rest
    have low : ∀ (i : Nat) (b : Nat × (Nat → Nat)), i < c e → (∀ w' : Nat → Nat, (∀ j, e ≤ j → j < e + (kk + 1) → w' j < c j) → (∀ j, j < e → w' j = v j) → (∀ j, e + (kk + 1) ≤ j → w' j = v j) → w' e = i → f w < f w') → f w < b.1 → f w < (fdS c (fun _ i => i) (fun b o => if f o < b.1 then (f o, o) else b) (e + 1) kk (pup v e i) b).1 := by
      intro i b hi hw hb
      have inv : ∀ kk' e' (u : Nat → Nat) (b : Nat × (Nat → Nat)), e < e' → e' + kk' = e + (kk + 1) → (∀ j, e ≤ j → j < e' → u j < c j) → (∀ j, j < e → u j = v j) → (∀ j, e + (kk + 1) ≤ j → u j = v j) → u e = i → f w < b.1 → f w < (fdS c (fun _ i => i) (fun b o => if f o < b.1 then (f o, o) else b) e' kk' u b).1 := by
        intro kk'
        induction kk' with
        | zero =>
          intro e' u b _ he' g1 g2 g3 g4 gb
          show f w < (if f u < b.1 then (f u, u) else b).1
          split
          · exact hw u (fun j j1 j2 => g1 j j1 (by omega)) g2 g3 g4
          · exact gb
        | succ kk' ih =>
          intro e' u b hlt he' g1 g2 g3 g4 gb
          show f w < ((List.range (c e')).foldl (fun b i => fdS c (fun _ i => i) (fun b o => if f o < b.1 then (f o, o) else b) (e' + 1) kk' (pup u e' i) b) b).1
          have gen : ∀ l : List Nat, (∀ x ∈ l, x < c e') → ∀ b : Nat × (Nat → Nat), f w < b.1 → f w < (l.foldl (fun b i => fdS c (fun _ i => i) (fun b o => if f o < b.1 then (f o, o) else b) (e' + 1) kk' (pup u e' i) b) b).1 := by
            intro l
            induction l with
            | nil => intro _ b hb; exact hb
            | cons x l ihl =>
              intro hx b hb
              refine ihl (fun y hy => hx y (List.mem_cons_of_mem _ hy)) _ (ih (e' + 1) _ b (by omega) (by omega) (fun j j1 j2 => ?_) (fun j hj => ?_) (fun j hj => ?_) ?_ hb)
              · by_cases q : j = e'
                · rw [q, pup_self]; exact hx x List.mem_cons_self
                · rw [pup_ne _ _ q]; exact g1 j j1 (by omega)
              · rw [pup_ne _ _ (by omega)]; exact g2 j hj
              · rw [pup_ne _ _ (by omega)]; exact g3 j hj
              · rw [pup_ne _ _ (by omega)]; exact g4
          exact gen _ (fun x hx => List.mem_range.mp hx) b gb
      refine inv kk (e + 1) (pup v e i) b (by omega) (by omega) (fun j j1 j2 => ?_) (fun j hj => pup_ne _ _ (by omega)) (fun j hj => pup_ne _ _ (by omega)) (pup_self _ _ _) hb
      have : j = e := by omega
      rw [this, pup_self]; exact hi
    -- the first ones leave something dearer, the one of w takes it, the later ones leave it
    have part1 : ∀ i, i ≤ w e → f w < ((List.range i).foldl (fun b i => fdS c (fun _ i => i) (fun b o => if f o < b.1 then (f o, o) else b) (e + 1) kk (pup v e i) b) b).1 := by
      intro i
      induction i with
      | zero => intro _; exact hb
      | succ i ih =>
        intro hi
        rw [foldr_s]
        refine low i _ (by omega) (fun w' g1 g2 g3 g4 => (h4 w' g1 g2 g3).2 ⟨e, by omega, by omega, fun j hj => by rw [g2 j hj, h2 j hj], by omega⟩) (ih (by omega))
    have part2 : (List.range (w e + 1)).foldl (fun b i => fdS c (fun _ i => i) (fun b o => if f o < b.1 then (f o, o) else b) (e + 1) kk (pup v e i) b) b = (f w, w) := by
      rw [foldr_s]
      refine fdS_first hf kk (e + 1) (pup v e (w e)) w _ (fun j j1 j2 => h1 j (by omega) (by omega)) (fun j hj => ?_) (fun j hj => ?_) (fun w' g1 g2 g3 => ?_) (part1 (w e) (Nat.le_refl _))
      · by_cases q : j = e
        · rw [q, pup_self]
        · rw [pup_ne _ _ q]; exact h2 j (by omega)
      · rw [pup_ne _ _ (by omega)]; exact h3 j (by omega)
      · have we' : w' e = w e := by rw [g2 e (by omega), pup_self]
        obtain ⟨r1, r2⟩ := h4 w' (fun j j1 j2 => by
          by_cases q : j = e
          · rw [q, we']; exact we
          · exact g1 j (by omega) (by omega)) (fun j hj => by rw [g2 j (by omega), pup_ne _ _ (by omega)]) (fun j hj => by rw [g3 j (by omega), pup_ne _ _ (by omega)])
        exact ⟨r1, fun ⟨j, j1, j2, j3, j4⟩ => r2 ⟨j, by omega, by omega, j3, j4⟩⟩
    have part3 : ∀ t, w e + 1 + t ≤ c e → (List.range (w e + 1 + t)).foldl (fun b i => fdS c (fun _ i => i) (fun b o => if f o < b.1 then (f o, o) else b) (e + 1) kk (pup v e i) b) b = (f w, w) := by
      intro t
      induction t with
      | zero => intro _; exact part2
      | succ t ih =>
        intro ht
        rw [show w e + 1 + (t + 1) = (w e + 1 + t) + 1 by omega, foldr_s, ih (by omega)]
        -- nothing less
        have inv : ∀ kk' e' (u : Nat → Nat), e < e' → e' + kk' = e + (kk + 1) → (∀ j, e ≤ j → j < e' → u j < c j) → (∀ j, j < e → u j = v j) → (∀ j, e + (kk + 1) ≤ j → u j = v j) → fdS c (fun _ i => i) (fun b o => if f o < b.1 then (f o, o) else b) e' kk' u (f w, w) = (f w, w) := by
          intro kk'
          induction kk' with
          | zero =>
            intro e' u _ he' g1 g2 g3
            show (if f u < f w then (f u, u) else (f w, w)) = _
            rw [if_neg]
            have := (h4 u (fun j j1 j2 => g1 j j1 (by omega)) g2 g3).1
            omega
          | succ kk' ih' =>
            intro e' u hlt he' g1 g2 g3
            show (List.range (c e')).foldl (fun b i => fdS c (fun _ i => i) (fun b o => if f o < b.1 then (f o, o) else b) (e' + 1) kk' (pup u e' i) b) (f w, w) = _
            have gen : ∀ l : List Nat, (∀ x ∈ l, x < c e') → l.foldl (fun b i => fdS c (fun _ i => i) (fun b o => if f o < b.1 then (f o, o) else b) (e' + 1) kk' (pup u e' i) b) (f w, w) = (f w, w) := by
              intro l
              induction l with
              | nil => intro _; rfl
              | cons x l ihl =>
                intro hx
                rw [List.foldl_cons, ih' (e' + 1) _ (by omega) (by omega) (fun j j1 j2 => ?_) (fun j hj => ?_) (fun j hj => ?_)]
                · exact ihl (fun y hy => hx y (List.mem_cons_of_mem _ hy))
                · by_cases q : j = e'
                  · rw [q, pup_self]; exact hx x List.mem_cons_self
                  · rw [pup_ne _ _ q]; exact g1 j j1 (by omega)
                · rw [pup_ne _ _ (by omega)]; exact g2 j hj
                · rw [pup_ne _ _ (by omega)]; exact g3 j hj
            exact gen _ (fun x hx => List.mem_range.mp hx)
        refine inv kk (e + 1) (pup v e (w e + 1 + t)) (by omega) (by omega) (fun j j1 j2 => ?_) (fun j hj => pup_ne _ _ (by omega)) (fun j hj => pup_ne _ _ (by omega))
        have : j = e := by omega
        rw [this, pup_self]; omega
    have := part3 (c e - (w e + 1)) (by omega)
    rw [show w e + 1 + (c e - (w e + 1)) = c e by omega] at this
    exact this
