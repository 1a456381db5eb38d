/-! the reference: layOrders -/
def remf {β : Type} (f : β → Nat → β) : Nat → Nat → β → β
  | 0, _, b => b
  | t + 1, i, b => remf f t (i + 1) (f b i)
theorem remf_r {β : Type} (f : β → Nat → β) (b0 : β) : ∀ t i, remf f t i ((List.range i).foldl f b0) = (List.range (i + t)).foldl f b0
  | 0, i => rfl
  | t + 1, i => by
    show remf f t (i + 1) (f ((List.range i).foldl f b0) i) = _
    rw [← foldr_s f i b0, remf_r f b0 t (i + 1), show i + 1 + t = i + (t + 1) by omega]
/-- what the last one leaves so -/
theorem fdS_end {β : Type} {c : Nat → Nat} {g : Nat → Nat → Nat} {st : β → (Nat → Nat) → β} {I : β → Prop} (hs : ∀ b v, I (st b v)) (hc : ∀ e, 0 < c e) : ∀ k e v b, I (fdS c g st e k v b)
  | 0, _, v, b => hs b v
  | k + 1, e, v, b => by
    show I ((List.range (c e)).foldl (fun b i => fdS c g st (e + 1) k (pup v e (g e i)) b) b)
    have := hc e
    rw [show c e = (c e - 1) + 1 by omega, foldr_s]
    exact fdS_end hs hc k (e + 1) _ _
section ORD
variable (n m : Nat) (A B : Nat → Nat) (k : Nat) (F T dv : Nat → Nat)
/-- the lines along a stretch; left by the o-th orders; crossings that hang on e -/
def pLs (e : Nat) : Nat := pLa A B m F T e k
def pLf (o : Nat → Nat) (l j e : Nat) : Bool := pis (fun i => nI (pol (pLs m A B k F T e) (o e) i)) (nI l) (nI j) (pbc (pLs m A B k F T e))
def poc (o : Nat → Nat) (e : Nat) : Nat := pcb A B dv n m k F T (pLf m A B k F T o) e
def pso (b : Nat × (Nat → Nat)) (o : Nat → Nat) : Nat × (Nat → Nat) := if sm (poc n m A B k F T dv o) m < b.1 then (sm (poc n m A B k F T dv o) m, o) else b
/-- the orders: the fewest crossings, the first orders with them -/
def pBo : Nat × (Nat → Nat) := fdS (fun e => poN (pLs m A B k F T e)) (fun _ i => i) (pso n m A B k F T dv) 0 m (fun _ => 0) (1000000, fun _ => 0)
end ORD
theorem poc_cg {n m : Nat} {A B : Nat → Nat} {k : Nat} {F T dv o o' : Nat → Nat} {e : Nat} (he : e ≠ 99) (h : ∀ f, f ≤ e → o f = o' f) : poc n m A B k F T dv o e = poc n m A B k F T dv o' e := pcb_cg he (fun l j f hf => by unfold pLf; rw [h f hf])
theorem pis_cg {r r' : Nat → Int32} {x y : Int32} : ∀ n, (∀ i, i < n → r i = r' i) → pah r x n = pah r' x n ∧ pis r x y n = pis r' x y n
  | 0, _ => ⟨rfl, rfl⟩
  | n + 1, h => by
    have ih := pis_cg (x := x) (y := y) n (fun i hi => h i (by omega))
    unfold pah pis
    rw [ih.1, ih.2, h n (by omega)]
    exact ⟨rfl, rfl⟩
theorem sm_ge {f : Nat → Nat} {a b : Nat} (h : a ≤ b) : sm f a ≤ sm f b := sm_mono h
def gB2 (h : Nat → Nat → Int32) : Nat × (Nat → Nat) := pBo (gN h) (gM h) (gA h) (gB h) (gK h) (gF h) (gT h) (gV h 214)
def mLO (h h' : Nat → Nat → Int32) : Prop := mFq h h' [221, 222, 223, 224, 225] [46] ∧ (∀ e, e < gM h → h' 221 e = nI (pLs (gM h) (gA h) (gB h) (gK h) (gF h) (gT h) e)) ∧ (h 194 32 < 0 → h' 194 46 = -1) ∧ (¬ h 194 32 < 0 → h' 194 46 = nI (gB2 h).1 ∧ (gB2 h).1 < 1000000 ∧ ∀ e, e < gM h → ∀ i, i < pbc (pLs (gM h) (gA h) (gB h) (gK h) (gF h) (gT h) e) → h' 223 (3 * e + i) = nI (pol (pLs (gM h) (gA h) (gB h) (gK h) (gF h) (gT h) e) ((gB2 h).2 e) i))
def p_Mo_layOrders (h : Nat → Nat → Int32) : Prop := mN h ∧ (¬ h 194 32 < 0 → mDr h 214 (gM h) (gV h 214))
theorem poN_p (s : Nat) : 0 < poN s ∧ poN s ≤ 6 := by unfold poN; split; omega; split <;> omega
theorem pLs_lt {m : Nat} {A B : Nat → Nat} {k : Nat} {F T : Nat → Nat} (hk : k ≤ 3) (e : Nat) : pLs m A B k F T e < 8 := Nat.lt_of_lt_of_le (pLa_lt A B m F T e k) (show 2 ^ k ≤ 2 ^ 3 from Nat.pow_le_pow_right (by omega) hk)
/-- the levels ahead of e are chosen by o -/
def oJ (n m : Nat) (A B : Nat → Nat) (k : Nat) (F T dv : Nat → Nat) (h w : Nat → Nat → Int32) (e : Nat) (o : Nat → Nat) : Prop := mFq h w [221, 222, 223, 224, 225] [46] ∧ (∀ e, e < m → w 221 e = nI (pLs m A B k F T e)) ∧ (∀ f, f < e → w 224 f = nI (o f) ∧ ∀ i, i < pbc (pLs m A B k F T f) → w 222 (3 * f + i) = nI (pol (pLs m A B k F T f) (o f) i)) ∧ ∀ f, f ≤ e → w 225 f = nI (sm (poc n m A B k F T dv o) f)
/-- the best so far -/
def oR (m : Nat) (A B : Nat → Nat) (k : Nat) (F T : Nat → Nat) (w : Nat → Nat → Int32) (b : Nat × (Nat → Nat)) : Prop := w 194 46 = nI b.1 ∧ b.1 ≤ 1000000 ∧ (b.1 ≠ 1000000 → ∀ e, e < m → ∀ i, i < pbc (pLs m A B k F T e) → w 223 (3 * e + i) = nI (pol (pLs m A B k F T e) (b.2 e) i))
theorem remf_0 {β : Type} (f : β → Nat → β) (b : β) (t : Nat) : remf f t 0 b = (List.range t).foldl f b := by
  have := remf_r f b t 0
  rw [Nat.zero_add] at this
  exact this
set_option maxHeartbeats 4000000 in
theorem oL {X : Nat × (Nat → Int32)} {d : Nat} {Q : Option Value → eS → Prop} {cu sp n1 n2 n3 n4 : Nat} {n m : Nat} {A B : Nat → Nat} {k : Nat} {F T dv : Nat → Nat} (h : Nat → Nat → Int32) (hN : mN h) (hgn : gN h = n) (hgm : gM h = m) (hga : gA h = A) (hgb : gB h = B) (hgk : gK h = k) (hgf : gF h = F) (hgt : gT h = T) (hdv : gV h 214 = dv) (dD : mDr h 214 m dv) :
    ∀ kk e, e + kk + 1 = m → ∀ t i, i + t = poN (pLs m A B k F T e) → ∀ (o : Nat → Nat) (b : Nat × (Nat → Nat)) (w : Nat → Nat → Int32),
      oJ n m A B k F T dv h w e o → oR m A B k F T w b → w 224 e = nI i - 1 →
      (∀ w' : Nat → Nat → Int32, oJ n m A B k F T dv h w' e o → oR m A B k F T w' (remf (fun b i => fdS (fun e => poN (pLs m A B k F T e)) (fun _ i => i) (pso n m A B k F T dv) (e + 1) kk (pup o e i) b) t i b) →
        ewP X Mo_layOrders (d + 4) 86 [some (.ref 194), some (.int (nI e - 1)), none, none] [] (0, 0) (229, ewR cu sp n1 n2 n3 n4, w') Q) →
      ewP X Mo_layOrders (d + 4) 86 [some (.ref 194), some (.int (nI e)), none, none] [] (0, 0) (229, ewR cu sp n1 n2 n3 n4, w) Q := by
  have rd := fun (w : Nat → Nat → Int32) (f : mFq h w [221, 222, 223, 224, 225] [46]) => g_fr f (by decide) (by decide)
  have gv : ∀ w : Nat → Nat → Int32, mFq h w [221, 222, 223, 224, 225] [46] → gV w 214 = gV h 214 := fun w f => by
    funext e; unfold gV; rw [(rd w f).2.1, f.1 214 (by decide) (by decide)]
  obtain ⟨⟨a1, h8, a3, h7, a5, hn, hk⟩, z2, ⟨a4, hk3⟩, z3, hl⟩ := id hN
  rw [hgn, hgm, hga, hgb, hgk, hgf, hgt, hdv] at *
  have w1 : ∀ w : Nat → Nat → Int32, mFq h w [221, 222, 223, 224, 225] [46] → w 194 1 = nI m := fun w f => by rw [f.2 1 (by decide), a3]
  have put : ∀ (w : Nat → Nat → Int32) (j : Nat) (f : Nat → Int32), mFq h w [221, 222, 223, 224, 225] [46] → j ∈ [221, 222, 223, 224, 225] → mFq h (ewS w j f) [221, 222, 223, 224, 225] [46] := by
    intro w j f q hj
    refine q.tr ⟨fun k hk hK => ewS_ne _ _ (fun e => hK (by rw [e]; exact hj)), fun i _ => ?_⟩
    rw [ewS_ne _ _ (fun e => by rw [← e] at hj; revert hj; decide)]
  have Ls8 : ∀ e, pLs m A B k F T e < 8 := pLs_lt hk3
  have inc24 : ∀ o e, poc n m A B k F T dv o e ≤ 24 := fun o e => Nat.le_trans pcb_le (by omega)
  have smb : ∀ o e, sm (poc n m A B k F T dv o) e ≤ e * 24 := fun o e => sm_le (inc24 o) e
  intro kk
  induction kk using Nat.strongRecOn with
  | _ kk ihk =>
    intro e hek t
    induction t with
    | zero =>
      intro i hi o b w hJ hR h224 cont
      obtain ⟨f0, j1, j2, j3⟩ := hJ
      have hneg : ¬ nI e < 0 := nI_pos (by omega)
      have ce : (nI e).toNatClampNeg = e := nI_clamp (by omega)
      have p6 := poN_p (pLs m A B k F T e)
      have e1 : w 224 e + 1 = nI i := by rw [h224]; grind
      have or : ∀ w' : Nat → Nat → Int32, w' 221 e = nI (pLs m A B k F T e) → f_Mo_ordersOf w' (nI e) = nI (poN (pLs m A B k F T e)) := by
        intro w' hw'
        unfold f_Mo_ordersOf poN
        have h3 := pbc_le (s := pLs m A B k F T e)
        rw [ce, hw', bits_n (Ls8 e)]
        have b3 : (nI (pbc (pLs m A B k F T e)) = 3) ↔ pbc (pLs m A B k F T e) = 3 := nI_eq (b := 3) (by omega) (by omega)
        have b2 : (nI (pbc (pLs m A B k F T e)) = 2) ↔ pbc (pLs m A B k F T e) = 2 := nI_eq (b := 2) (by omega) (by omega)
        by_cases q : pbc (pLs m A B k F T e) = 3
        · rw [if_pos q, if_pos (b3.mpr q)]; rfl
        · rw [if_neg q, if_neg (fun z => q (b3.mp z))]
          by_cases q2 : pbc (pLs m A B k F T e) = 2
          · rw [if_pos q2, if_pos (b2.mpr q2)]; rfl
          · rw [if_neg q2, if_neg (fun z => q2 (b2.mp z))]; rfl
      have up : upd (w 224) e (nI i) e = nI i := if_pos rfl
      have oe : f_Mo_ordersOf (ewS w 224 (upd (w 224) e (nI i))) (nI e) = nI i := by
        rw [or _ (by rw [ewS_ne _ _ (by decide)]; exact j1 e (by omega))]
        congr 1; omega
      refine v_Mo_layOrders_86 _ w (fun q => absurd q hneg) (fun _ => nI_inB (by omega) (by decide)) (fun _ => nI_inB (by omega) (by decide)) (fun _ q => ?_) (fun _ q => ?_) (fun _ _ => ?_)
      · rw [ce, e1, up, oe] at q; exact absurd rfl q
      · rw [ce, e1, up, oe] at q; exact absurd rfl q
      · rw [ce, e1, show nI e + (-1) = nI e - 1 from (Int32.sub_eq_add_neg _ _).symm]
        refine cont _ ⟨put w 224 _ f0 (by decide), fun f hf => by rw [ewS_ne _ _ (by decide)]; exact j1 f hf, fun f hf => ?_, fun f hf => by rw [ewS_ne _ _ (by decide)]; exact j3 f hf⟩ ?_
        · rw [ewS_self, ewS_ne _ _ (show (222 : Nat) ≠ 224 by decide), upd, if_neg (by omega)]; exact j2 f hf
        · obtain ⟨r1, r2, r3⟩ := hR
          refine ⟨by rw [ewS_ne _ _ (by decide)]; exact r1, r2, fun q => ?_⟩
          rw [ewS_ne _ _ (by decide)]; exact r3 q
    | succ t iht =>
      intro i hi o b w hJ hR h224 cont
      obtain ⟨f0, j1, j2, j3⟩ := hJ
      have hneg : ¬ nI e < 0 := nI_pos (by omega)
      have ce : (nI e).toNatClampNeg = e := nI_clamp (by omega)
      have p6 := poN_p (pLs m A B k F T e)
      have e1 : w 224 e + 1 = nI i := by rw [h224]; grind
      have or : ∀ w' : Nat → Nat → Int32, w' 221 e = nI (pLs m A B k F T e) → f_Mo_ordersOf w' (nI e) = nI (poN (pLs m A B k F T e)) := by
        intro w' hw'
        unfold f_Mo_ordersOf poN
        have h3 := pbc_le (s := pLs m A B k F T e)
        rw [ce, hw', bits_n (Ls8 e)]
        have b3 : (nI (pbc (pLs m A B k F T e)) = 3) ↔ pbc (pLs m A B k F T e) = 3 := nI_eq (b := 3) (by omega) (by omega)
        have b2 : (nI (pbc (pLs m A B k F T e)) = 2) ↔ pbc (pLs m A B k F T e) = 2 := nI_eq (b := 2) (by omega) (by omega)
        by_cases q : pbc (pLs m A B k F T e) = 3
        · rw [if_pos q, if_pos (b3.mpr q)]; rfl
        · rw [if_neg q, if_neg (fun z => q (b3.mp z))]
          by_cases q2 : pbc (pLs m A B k F T e) = 2
          · rw [if_pos q2, if_pos (b2.mpr q2)]; rfl
          · rw [if_neg q2, if_neg (fun z => q2 (b2.mp z))]; rfl
      have up : upd (w 224) e (nI i) e = nI i := if_pos rfl
      have oe : ¬ nI i = f_Mo_ordersOf (ewS w 224 (upd (w 224) e (nI i))) (nI e) := by
        rw [or _ (by rw [ewS_ne _ _ (by decide)]; exact j1 e (by omega)), nI_eq (by omega) (by omega)]
        omega
      refine v_Mo_layOrders_86 _ w (fun q => absurd q hneg) (fun _ => nI_inB (by omega) (by decide)) (fun _ => nI_inB (by omega) (by decide)) (fun _ q => ?_) (fun _ q w6 hw6 => ?_) (fun _ q => ?_)
      · rw [ce, e1, up]
        exact ⟨e, _, i, by omega, Ls8 e, by omega, rfl, rfl, by rw [ewS_ne _ _ (by decide)]; exact j1 e (by omega)⟩
      · rw [ce, e1, up] at hw6
        rw [ce]
        generalize hw1 : ewS w 224 (upd (w 224) e (nI i)) = W at *
        have fW : mFq h W [221, 222, 223, 224, 225] [46] := by rw [← hw1]; exact put w 224 _ f0 (by decide)
        have W221 : ∀ f, f < m → W 221 f = nI (pLs m A B k F T f) := fun f hf => by rw [← hw1, ewS_ne _ _ (by decide)]; exact j1 f hf
        obtain ⟨l1, l2⟩ := hw6
        obtain ⟨l3, l4⟩ := l2 e _ i (by omega) (Ls8 e) (by omega) rfl rfl (W221 e (by omega))
        have f6 : mFq h w6 [221, 222, 223, 224, 225] [46] := fW.tr ⟨fun k hk hK => l1 k (fun z => hK (by rw [z]; simp)), fun j _ => by rw [l1 194 (by decide)]⟩
        have v221 : ∀ f, f < m → w6 221 f = nI (pLs m A B k F T f) := fun f hf => by rw [l1 221 (by decide)]; exact W221 f hf
        -- the orders so far
        have o' : ∀ f, f < e → pup o e i f = o f := fun f hf => pup_ne _ _ (by omega)
        have rows : ∀ f, f < e + 1 → w6 224 f = nI (pup o e i f) ∧ ∀ j, j < pbc (pLs m A B k F T f) → w6 222 (3 * f + j) = nI (pol (pLs m A B k F T f) (pup o e i f) j) := by
          intro f hf
          by_cases q : f = e
          · subst q
            rw [pup_self, l1 224 (by decide), ← hw1, ewS_self, upd, if_pos rfl]
            exact ⟨rfl, l4⟩
          · have h3 := pbc_le (s := pLs m A B k F T f)
            rw [o' f (by omega), l1 224 (by decide), ← hw1, ewS_self, upd, if_neg q]
            refine ⟨(j2 f (by omega)).1, fun j hj => ?_⟩
            rw [l3 _ (by omega), ← hw1, ewS_ne _ _ (by decide)]
            exact (j2 f (by omega)).2 j hj
        have pcg : ∀ f, f ≤ e → sm (poc n m A B k F T dv (pup o e i)) f = sm (poc n m A B k F T dv o) f := fun f hf => sm_cg f (fun g hg => poc_cg (by omega) (fun x hx => o' x (by omega)))
        have v225 : ∀ f, f ≤ e → w6 225 f = nI (sm (poc n m A B k F T dv (pup o e i)) f) := fun f hf => by rw [l1 225 (by decide), ← hw1, ewS_ne _ _ (by decide), pcg f hf]; exact j3 f hf
        have v46 : w6 194 46 = nI b.1 := by rw [l1 194 (by decide), ← hw1, ewS_ne _ _ (by decide)]; exact hR.1
        have v223 : w6 223 = w 223 := by rw [l1 223 (by decide), ← hw1, ewS_ne _ _ (by decide)]
        have R6 : oR m A B k F T w6 b := ⟨v46, hR.2.1, fun q => by rw [v223]; exact hR.2.2 q⟩
        have J6 : oJ n m A B k F T dv h w6 e o := ⟨f6, v221, fun f hf => by have := rows f (by omega); rw [o' f hf] at this; exact this, fun f hf => by rw [v225 f hf, pcg f hf]⟩
        have c6 : w6 224 e = nI (i + 1) - 1 := by rw [(rows e (by omega)).1, pup_self, nI_pred]
        obtain ⟨r1, r2, r3, r4, r5, r6, r7, r8⟩ := rd w6 f6
        rw [hgn] at r1; rw [hgm] at r2; rw [hga] at r3; rw [hgb] at r4; rw [hgk] at r5; rw [hgf] at r6; rw [hgt] at r7
        have gv6 : gV w6 214 = dv := by rw [gv w6 f6]
        have crp : p_Mo_crossedBy w6 (nI e) := by
          refine ⟨r8 hN, ?_, fun f hf => ⟨_, Ls8 f, v221 f (by rw [r2] at hf; exact hf)⟩, e, by rw [r2]; omega, rfl⟩
          rw [gv6, r2]
          exact ⟨dD.1, fun f hf => by rw [f6.1 214 (by decide) (by decide)]; exact dD.2 f hf⟩
        have crv : f_Mo_crossedBy w6 (nI e) = nI (poc n m A B k F T dv (pup o e i) e) := by
          unfold f_Mo_crossedBy poc
          rw [ce, r1, r2, r3, r4, r5, r6, r7, gv6]
          congr 1
          refine pcb_cg (by omega) (fun l j f hf => ?_)
          unfold gLf pLf
          rw [v221 f (by omega), nI_clamp (by have := Ls8 f; omega)]
          exact (pis_cg _ (fun j hj => (rows f (by omega)).2 j hj)).2
        have sum : w6 225 e + f_Mo_crossedBy w6 (nI e) = nI (sm (poc n m A B k F T dv (pup o e i)) (e + 1)) := by
          rw [crv, v225 e (Nat.le_refl _), nI_ad]; rfl
        have sb := smb (pup o e i) (e + 1)
        have b6 := hR.2.1
        rw [sum, v46, w1 w6 f6]
        have lt : nI (sm (poc n m A B k F T dv (pup o e i)) (e + 1)) < nI b.1 ↔ sm (poc n m A B k F T dv (pup o e i)) (e + 1) < b.1 := nI_ltb (by omega) (by omega)
        have last : (nI e = nI m - 1) ↔ kk = 0 := by
          rw [show m = (m - 1) + 1 by omega, nI_pred, nI_eq (by omega) (by omega)]; omega
        have xs : nI e + 1 = nI (e + 1) := (nI_succ e).symm
        -- going on at this level
        have goOn : ∀ (b' : Nat × (Nat → Nat)) (w' : Nat → Nat → Int32), oJ n m A B k F T dv h w' e o → oR m A B k F T w' b' → w' 224 e = nI (i + 1) - 1 → fdS (fun e => poN (pLs m A B k F T e)) (fun _ i => i) (pso n m A B k F T dv) (e + 1) kk (pup o e i) b = b' → ewP X Mo_layOrders (d + 4) 86 [some (.ref 194), some (.int (nI e)), none, none] [] (0, 0) (229, ewR cu sp n1 n2 n3 n4, w') Q := by
          intro b' w' hJ' hR' hc' hb'
          refine iht (i + 1) (by omega) o b' w' hJ' hR' hc' (fun w9 hJ9 hR9 => cont w9 hJ9 ?_)
          show oR m A B k F T w9 (remf _ t (i + 1) (fdS (fun e => poN (pLs m A B k F T e)) (fun _ i => i) (pso n m A B k F T dv) (e + 1) kk (pup o e i) b))
          rw [hb']
          exact hR9
        refine ⟨nI_inB (by omega) (by decide), crp, fun q => ?_, fun q z => ?_, fun q z => ?_, fun q z => ?_, fun q z w20 hw20 => ?_⟩
        · refine goOn b w6 J6 R6 c6 (fdS_skip kk (e + 1) (pup o e i) (fun v' hv' => ?_))
          unfold pso
          rw [if_neg (fun y => ?_)]
          have c1 : sm (poc n m A B k F T dv v') (e + 1) = sm (poc n m A B k F T dv (pup o e i)) (e + 1) := sm_cg (e + 1) (fun g hg => poc_cg (by omega) (fun x hx => hv' x (by omega)))
          have c2 : sm (poc n m A B k F T dv v') (e + 1) ≤ sm (poc n m A B k F T dv v') m := sm_mono (by omega)
          have c3 : ¬ sm (poc n m A B k F T dv (pup o e i)) (e + 1) < b.1 := fun y => q (lt.mpr y)
          omega
        · have : ¬ kk = 0 := fun y => z (last.mpr y)
          rw [xs]; exact nI_inB (by omega) (by decide)
        · have : ¬ kk = 0 := fun y => z (last.mpr y)
          rw [xs]; exact nI_inB (by omega) (by decide)
        · have hkk : ¬ kk = 0 := fun y => z (last.mpr y)
          rw [xs, nI_clamp (by omega)]
          have pn := poN_p (pLs m A B k F T (e + 1))
          refine ihk (kk - 1) (by omega) (e + 1) (by omega) (poN (pLs m A B k F T (e + 1))) 0 (by omega) (pup o e i) b _ ⟨put _ 224 _ (put w6 225 _ f6 (by decide)) (by decide), fun f hf => by rw [ewS_ne _ _ (by decide), ewS_ne _ _ (by decide)]; exact v221 f hf, fun f hf => ?_, fun f hf => ?_⟩ ?_ ?_ (fun w' hJ' hR' => ?_)
          · rw [ewS_self, upd, if_neg (by omega), ewS_ne _ _ (show (222 : Nat) ≠ 224 by decide), ewS_ne _ _ (show (222 : Nat) ≠ 225 by decide)]
            exact rows f hf
          · rw [ewS_ne _ _ (show (225 : Nat) ≠ 224 by decide), ewS_self, upd]
            by_cases y : f = e + 1
            · rw [if_pos y, y]
            · rw [if_neg y]; exact v225 f (by omega)
          · refine ⟨by rw [ewS_ne _ _ (by decide), ewS_ne _ _ (by decide)]; exact v46, hR.2.1, fun y => ?_⟩
            rw [ewS_ne _ _ (by decide), ewS_ne _ _ (by decide), v223]
            exact hR.2.2 y
          · rw [ewS_self, upd, if_pos rfl]; rfl
          · rw [nI_pred]
            obtain ⟨x1, x2, x3, x4⟩ := hJ'
            refine goOn _ w' ⟨x1, x2, fun f hf => by have := x3 f (by omega); rw [o' f hf] at this; exact this, fun f hf => by rw [x4 f (by omega), pcg f hf]⟩ hR' (by rw [(x3 e (by omega)).1, pup_self, nI_pred]) ?_
            rw [remf_0]
            have : kk = (kk - 1) + 1 := by omega
            rw [this]
            rfl
        · have hkk : kk = 0 := last.mp z
          subst hkk
          have em : e + 1 = m := by omega
          have q := lt.mp q
          rw [em] at q hw20
          obtain ⟨y1, y2, y3⟩ := hw20
          refine goOn (sm (poc n m A B k F T dv (pup o e i)) m, pup o e i) w20 ⟨?_, fun f hf => by rw [y1 221 (by decide) (by decide)]; exact v221 f hf, fun f hf => ?_, fun f hf => ?_⟩ ⟨?_, ?_, fun _ f hf j hj => ?_⟩ ?_ ?_
          · refine f6.tr ⟨fun k hk hK => y1 k hk (fun z => hK (by rw [z]; simp)), fun j hj => ?_⟩
            simp at hj
            rw [y2, upd, if_neg hj]
          · rw [y1 224 (by decide) (by decide), y1 222 (by decide) (by decide)]
            have := rows f (by omega); rw [o' f hf] at this; exact this
          · rw [y1 225 (by decide) (by decide), v225 f hf, pcg f hf]
          · rw [y2, upd, if_pos rfl]
          · show sm (poc n m A B k F T dv (pup o e i)) m ≤ 1000000; omega
          · have h3 := pbc_le (s := pLs m A B k F T f)
            rw [y3 _ (by omega)]
            exact (rows f (by omega)).2 j hj
          · rw [y1 224 (by decide) (by decide)]; exact c6
          · show pso n m A B k F T dv b (pup o e i) = _
            unfold pso
            rw [if_pos q]
      · rw [ce, e1, up] at q
        exact absurd q oe
set_option maxHeartbeats 4000000 in
theorem s_Mo_layOrders {X : Nat × (Nat → Int32)} {d : Nat} {cu sp n1 n2 n3 n4 : Nat} (h : Nat → Nat → Int32) (hp : p_Mo_layOrders h) : ewP X Mo_layOrders (d + 4) 0 [some (.ref 194), none, none, none] [] (0, 0) (229, ewR cu sp n1 n2 n3 n4, h) (fun v S' => ∃ (h' : Nat → Nat → Int32), mLO h h' ∧ v = none ∧ S' = (229, ewR cu sp n1 n2 n3 n4, h')) := by
  obtain ⟨hN, hD⟩ := hp
  have rd := fun (w : Nat → Nat → Int32) (f : mFq h w [221, 222, 223, 224, 225] [46]) => g_fr f (by decide) (by decide)
  have ol := oL (X := X) (d := d) (Q := fun v S' => ∃ (h' : Nat → Nat → Int32), mLO h h' ∧ v = none ∧ S' = (229, ewR cu sp n1 n2 n3 n4, h')) (cu := cu) (sp := sp) (n1 := n1) (n2 := n2) (n3 := n3) (n4 := n4) h hN rfl rfl rfl rfl rfl rfl rfl rfl
  obtain ⟨⟨a1, h8, a3, h7, a5, hn, hk⟩, z2, ⟨a4, hk3⟩, z3, hl⟩ := id hN
  unfold mLO gB2 at *
  generalize hgn : gN h = n at *
  generalize hgm : gM h = m at *
  generalize hga : gA h = A at *
  generalize hgb : gB h = B at *
  generalize hgk : gK h = k at *
  generalize hgf : gF h = F at *
  generalize hgt : gT h = T at *
  generalize hdv : gV h 214 = dv at *
  have w1 : ∀ w : Nat → Nat → Int32, mFq h w [221, 222, 223, 224, 225] [46] → w 194 1 = nI m := fun w f => by rw [f.2 1 (by decide), a3]
  have put : ∀ (w : Nat → Nat → Int32) (j : Nat) (f : Nat → Int32), mFq h w [221, 222, 223, 224, 225] [46] → j ∈ [221, 222, 223, 224, 225] → mFq h (ewS w j f) [221, 222, 223, 224, 225] [46] := by
    intro w j f q hj
    refine q.tr ⟨fun k hk hK => ewS_ne _ _ (fun e => hK (by rw [e]; exact hj)), fun i _ => ?_⟩
    rw [ewS_ne _ _ (fun e => by rw [← e] at hj; revert hj; decide)]
  refine v_Mo_layOrders_0 h ?_
  refine upto (H := Nat → Nat → Int32) (P := fun i w => mFq h w [221, 222, 223, 224, 225] [46] ∧ ∀ e, e < i → w 221 e = nI (pLs m A B k F T e)) (E := fun i w => ewP X Mo_layOrders (d + 4) 2 [some (.ref 194), some (.int (nI i)), none, none] [] (0, 0) (229, ewR cu sp n1 n2 n3 n4, w) _) m ?_ ?_ 0 _ (by omega) ⟨⟨fun _ _ _ => rfl, fun _ _ => rfl⟩, fun e he => by omega⟩
  · rintro e w he ⟨f0, f1⟩ next
    have hlt : nI e < w 194 1 := by rw [w1 w f0]; exact nI_lt he (by omega)
    obtain ⟨r1, r2, r3, r4, r5, r6, r7, r8⟩ := rd w f0
    refine v_Mo_layOrders_2 _ w (fun q => absurd hlt q) (fun _ => ⟨r8 hN, e, by rw [r2]; exact he, rfl⟩) (fun _ => nI_inB (by omega) (by decide)) (fun _ => ?_)
    rw [nI_clamp (by omega), ← nI_succ]
    refine next _ ⟨put w 221 _ f0 (by decide), fun f hf => ?_⟩
    rw [ewS_self, upd]
    by_cases q : f = e
    · rw [if_pos q, q]
      unfold f_Mo_linesAlong pLs
      rw [nI_clamp (by omega), r2, r3, r4, r5, r6, r7]
    · rw [if_neg q]; exact f1 f (by omega)
  · rintro w ⟨f0, f1⟩
    have hlt : ¬ nI m < w 194 1 := by rw [w1 w f0]; exact nI_nlt (Nat.le_refl _) (by omega)
    refine v_Mo_layOrders_2 _ w (fun _ => ?_) (fun q => absurd q hlt) (fun q => absurd q hlt) (fun q => absurd q hlt)
    have w32 : w 194 32 = h 194 32 := f0.2 32 (by decide)
    rw [w32, w1 w f0]
    generalize hini : (if h 194 32 < 0 then (-1 : Int32) else (if nI m = 0 then 0 else 1000000)) = ini
    refine v_Mo_layOrders_56 _ _ ?_
    generalize hG : ewS (ewS (ewS w 194 (upd (w 194) 46 ini)) 225 (upd ((ewS w 194 (upd (w 194) 46 ini)) 225) 0 0)) 224 (upd ((ewS w 194 (upd (w 194) 46 ini)) 224) 0 (-1)) = G
    have x46 : (ewS w 194 (upd (w 194) 46 ini)) 194 46 = ini := by rw [ewS_self, upd, if_pos rfl]
    rw [x46]
    have fG : mFq h G [221, 222, 223, 224, 225] [46] := by
      rw [← hG]
      refine put _ 224 _ (put _ 225 _ (f0.tr ⟨fun k hk _ => ewS_ne _ _ hk, fun j hj => ?_⟩) (by decide)) (by decide)
      simp at hj
      rw [ewS_self, upd, if_neg hj]
    have G221 : ∀ e, e < m → G 221 e = nI (pLs m A B k F T e) := fun e he => by rw [← hG, ewS_ne _ _ (by decide), ewS_ne _ _ (by decide), ewS_ne _ _ (by decide)]; exact f1 e he
    have G46 : G 194 46 = ini := by rw [← hG, ewS_ne _ _ (by decide), ewS_ne _ _ (by decide), ewS_self, upd, if_pos rfl]
    have G225 : G 225 0 = 0 := by rw [← hG, ewS_ne _ _ (by decide), ewS_self, upd, if_pos rfl]
    have G224 : G 224 0 = -1 := by rw [← hG, ewS_self, upd, if_pos rfl]
    by_cases hc : h 194 32 < 0
    · rw [if_pos hc] at hini
      have hx : (if ini = 1000000 then (0 : Int32) else (-1)) < 0 := by rw [← hini]; decide
      refine v_Mo_layOrders_86 _ G (fun _ => ⟨G, ⟨fG, G221, fun _ => by rw [G46]; exact hini.symm, fun q => absurd hc q⟩, rfl, rfl⟩) (fun q => absurd hx q) (fun q => absurd hx q) (fun q => absurd hx q) (fun q => absurd hx q) (fun q => absurd hx q)
    · rw [if_neg hc] at hini
      by_cases hm0 : m = 0
      · have hz : nI m = 0 := by rw [hm0]; rfl
        rw [if_pos hz] at hini
        have hx : (if ini = 1000000 then (0 : Int32) else (-1)) < 0 := by rw [← hini]; decide
        have hb : pBo n m A B k F T dv = (0, fun _ => 0) := by
          unfold pBo
          rw [hm0]
          show pso n 0 A B k F T dv (1000000, fun _ => 0) (fun _ => 0) = _
          unfold pso
          rw [if_pos (by show (0 : Nat) < 1000000; omega)]
          rfl
        refine v_Mo_layOrders_86 _ G (fun _ => ⟨G, ⟨fG, G221, fun q => absurd q hc, fun _ => ⟨by rw [G46, hb, ← hini]; rfl, by rw [hb]; show (0 : Nat) < 1000000; omega, fun e he => by omega⟩⟩, rfl, rfl⟩) (fun q => absurd hx q) (fun q => absurd hx q) (fun q => absurd hx q) (fun q => absurd hx q) (fun q => absurd hx q)
      · have hz : ¬ nI m = 0 := nI_ne0 (by omega) (by omega)
        rw [if_neg hz] at hini
        have hx : (if ini = 1000000 then (0 : Int32) else (-1)) = nI 0 := by rw [← hini]; decide
        rw [hx]
        have pn := poN_p (pLs m A B k F T 0)
        have hlast : ∀ v : Nat → Nat, sm (poc n m A B k F T dv v) m < 1000000 := fun v => by
          have : sm (poc n m A B k F T dv v) m ≤ m * 24 := sm_le (fun e => Nat.le_trans pcb_le (by omega)) m
          omega
        refine ol (hD hc) (m - 1) 0 (by omega) (poN (pLs m A B k F T 0)) 0 (by omega) (fun _ => 0) (1000000, fun _ => 0) G ⟨fG, G221, fun f hf => by omega, fun f hf => by rw [show f = 0 by omega, G225]; rfl⟩ ⟨by rw [G46, ← hini]; rfl, Nat.le_refl _, fun q => absurd rfl q⟩ (by rw [G224]; rfl) (fun w' hJ' hR' => ?_)
        have hneg : nI 0 - 1 < 0 := by decide
        have hb : (remf (fun b i => fdS (fun e => poN (pLs m A B k F T e)) (fun _ i => i) (pso n m A B k F T dv) (0 + 1) (m - 1) (pup (fun _ => 0) 0 i) b) (poN (pLs m A B k F T 0)) 0 (1000000, fun _ => 0)) = pBo n m A B k F T dv := by
          rw [remf_0]
          unfold pBo
          rw [show m = (m - 1) + 1 by omega]
          rfl
        rw [hb] at hR'
        have hlt6 : (pBo n m A B k F T dv).1 < 1000000 := by
          unfold pBo
          refine fdS_end (β := Nat × (Nat → Nat)) (I := fun b => b.1 < 1000000) (fun b v => ?_) (fun e => (poN_p _).1) m 0 _ _
          have hv := hlast v
          unfold pso
          split
          · exact hv
          · omega
        refine v_Mo_layOrders_86 _ w' (fun _ => ⟨w', ⟨hJ'.1, hJ'.2.1, fun q => absurd q hc, fun _ => ⟨hR'.1, hlt6, hR'.2.2 (by omega)⟩⟩, rfl, rfl⟩) (fun q => absurd hneg q) (fun q => absurd hneg q) (fun q => absurd hneg q) (fun q => absurd hneg q) (fun q => absurd hneg q)
