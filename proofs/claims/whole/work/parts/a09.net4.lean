/-! passThrough, addLine -/
theorem pass_n {h : Nat → Nat → Int32} {l s e g : Nat} (hl : l < 3) (hs : s < 8) (he : e < 7) (hg : g < 7) (hne : e ≠ g) : p_Ne_passThrough h (nI l) (nI s) (nI e) (nI g) ∧ (∀ k, k ≠ 48 → k ≠ 49 → ¬ (59 ≤ k ∧ k ≤ 65) → g_Ne_passThrough h (nI l) (nI s) (nI e) (nI g) k = h k) ∧ g_Ne_passThrough h (nI l) (nI s) (nI e) (nI g) 48 = upd (h 48) (8 * l + s) (nI e) ∧ g_Ne_passThrough h (nI l) (nI s) (nI e) (nI g) 49 = upd (h 49) (8 * l + s) (nI g) ∧ ∀ e' g', e' < 7 → g' < 7 → g_Ne_passThrough h (nI l) (nI s) (nI e) (nI g) (59 + e') g' = h (59 + e') g' + (if (e = e' ∧ g = g') ∨ (e = g' ∧ g = e') then 1 else 0) := by
  have i1 : nI l * 8 + nI s = nI (8 * l + s) := by rw [show (nI l : Int32) * 8 = nI (l * 8) from nI_mu l 8, nI_ad, Nat.mul_comm]
  obtain ⟨-, r1, r2⟩ := row7 he
  obtain ⟨-, r3, r4⟩ := row7 hg
  have eG : g_Ne_passThrough h (nI l) (nI s) (nI e) (nI g) = ewS (ewS (ewS (ewS h 48 (upd (h 48) (8 * l + s) (nI e))) 49 (upd (h 49) (8 * l + s) (nI g))) (59 + e) (upd (h (59 + e)) g (h (59 + e) g + 1))) (59 + g) (upd (h (59 + g)) e (h (59 + g) e + 1)) := by
    unfold g_Ne_passThrough
    rw [i1, nI_clamp (show 8 * l + s < 2 ^ 31 by omega), nI_clamp (show e < 2 ^ 31 by omega), nI_clamp (show g < 2 ^ 31 by omega), show 58 + 1 + e = 59 + e by omega, show 58 + 1 + g = 59 + g by omega, ewS_ne _ _ (show 59 + g ≠ 59 + e by omega), ewS_ne _ _ (show 59 + e ≠ 49 by omega), ewS_ne _ _ (show 59 + e ≠ 48 by omega), ewS_ne _ _ (show 59 + g ≠ 49 by omega), ewS_ne _ _ (show 59 + g ≠ 48 by omega)]
  refine ⟨?_, ?_⟩
  · unfold p_Ne_passThrough
    rw [i1, nI_clamp (show e < 2 ^ 31 by omega), nI_clamp (show g < 2 ^ 31 by omega), r2, r4]
    exact ⟨nI_inB (by omega) (by decide), nI_inB he (by decide), beq_no (by omega), r1, nI_inB hg (by decide), nI_inB hg (by decide), beq_no (by omega), r3, nI_inB he (by decide)⟩
  · rw [eG]
    refine ⟨fun k k1 k2 k3 => ?_, ?_, ?_, fun e' g' he' hg' => ?_⟩
    · rw [ewS_ne _ _ (by omega), ewS_ne _ _ (by omega), ewS_ne _ _ k2, ewS_ne _ _ k1]
    · rw [ewS_ne _ _ (by omega), ewS_ne _ _ (by omega), ewS_ne _ _ (by omega), ewS_self]
    · rw [ewS_ne _ _ (by omega), ewS_ne _ _ (by omega), ewS_self]
    · by_cases q : e' = g
      · subst q
        rw [ewS_self]
        show (if g' = e then h (59 + e') e + 1 else h (59 + e') g') = _
        by_cases z : g' = e
        · subst z; rw [if_pos rfl, if_pos (Or.inr ⟨rfl, rfl⟩)]
        · rw [if_neg z, if_neg (fun q0 => q0.elim (fun y => hne y.1) (fun y => z y.1.symm)), Int32.add_zero]
      · rw [ewS_ne _ _ (by omega)]
        by_cases z : e' = e
        · subst z
          rw [ewS_self]
          show (if g' = g then h (59 + e') g + 1 else h (59 + e') g') = _
          by_cases y : g' = g
          · subst y; rw [if_pos rfl, if_pos (Or.inl ⟨rfl, rfl⟩)]
          · rw [if_neg y, if_neg (fun q0 => q0.elim (fun x => y x.2.symm) (fun x => q x.2.symm)), Int32.add_zero]
        · rw [ewS_ne _ _ (by omega), ewS_ne _ _ (by omega), ewS_ne _ _ (by omega), if_neg (fun q0 => q0.elim (fun x => z x.1.symm) (fun x => q x.2.symm)), Int32.add_zero]
theorem tpe_ne {A B : Nat → Nat} {n m s t : Nat} (hk : tOK A B m) (h9 : m ≤ 90) (hn : ∀ e, e < m → A e < n ∧ B e < n) (hc : plb A B m s = plb A B m t) (hs : s < n) {k : Nat} (h : k + 1 < tds A B m s t) : tpe A B m t s k ≠ tpe A B m t s (k + 1) := by
  obtain ⟨p1, p2⟩ := tpe_at hk hn hc hs (show k < tds A B m s t by omega)
  have c0 := (tnd_at hk hn hc hs k (by omega)).1
  have d0 := (tnd_at hk hn hc hs k (by omega)).2.1
  have d1 := (tnd_at hk hn hc hs (k + 1) (by omega)).2.1
  intro z
  have z2 : tfx A B m (tnd A B m t s (k + 1)) t = tpe A B m t s k := z.symm
  generalize tpe A B m t s k = e at *
  have hcA : plb A B m (A e) = plb A B m t := by
    rcases p2 with ⟨q1, q2⟩ | ⟨q1, q2⟩
    · rw [q1]; exact c0
    · rw [plb_ends p1, q1]; exact c0
  rcases tds_end hk h9 p1 hcA with ⟨x1, x2, x3⟩ | ⟨x1, x2, x3⟩
  · rcases p2 with ⟨q1, q2⟩ | ⟨q1, q2⟩
    · rw [q2] at x3; exact x3 z2
    · rw [q1, q2] at x1; omega
  · rcases p2 with ⟨q1, q2⟩ | ⟨q1, q2⟩
    · rw [q1, q2] at x1; omega
    · rw [q2] at x3; exact x3 z2
section CGL
variable {A B : Nat → Nat} {m : Nat} {F T F' T' : Nat → Nat}
theorem pLa_cgl (e : Nat) : ∀ k, (∀ l, l < k → F' l = F l ∧ T' l = T l) → pLa A B m F' T' e k = pLa A B m F T e k
  | 0, _ => rfl
  | k + 1, h => by
    unfold pLa
    rw [pLa_cgl e k (fun l hl => h l (by omega)), (h k (by omega)).1, (h k (by omega)).2]
theorem pw_cgl {l : Nat} (h : F' l = F l ∧ T' l = T l) (s : Nat) : pw A B m F' T' l s = pw A B m F T l s ∧ pe0 A B m F' T' l s = pe0 A B m F T l s ∧ pe1 A B m F' T' l s = pe1 A B m F T l s := by
  have e : pw A B m F' T' l s = pw A B m F T l s := by unfold pw; rw [h.1, h.2]
  refine ⟨e, ?_, ?_⟩
  · unfold pe0; rw [e, h.1, h.2]
  · unfold pe1; rw [e, h.1, h.2]
theorem pth_cgl {k : Nat} (h : ∀ l, l < k → F' l = F l ∧ T' l = T l) (e g : Nat) : pth A B m k F' T' e g = pth A B m k F T e g := by
  unfold pth
  refine sm_cg k (fun l hl => ?_)
  rw [(h l hl).1, (h l hl).2]
end CGL
/-- while a line is laid: its first j stretches -/
def aLi (n m : Nat) (A B : Nat → Nat) (k : Nat) (F T : Nat → Nat) (f t : Nat) (h : Nat → Nat → Int32) (j : Nat) (w : Nat → Nat → Int32) : Prop :=
  (∀ q, q ∉ [35, 40, 41, 45, 46, 47, 48, 49, 66] → ¬ (59 ≤ q ∧ q ≤ 65) → w q = h q) ∧ w 35 = upd (h 35) 2 (nI (k + 1)) ∧ w 40 = upd (h 40) k (nI f) ∧ w 41 = upd (h 41) k (nI t) ∧ w 46 = upd (h 46) k (nI j) ∧ (∀ s, s < n → plb A B m s = plb A B m t → s ≠ t → w 66 s = nI (tfx A B m s t)) ∧
  ((∀ i, i < j → w 45 (7 * k + i) = nI (tpe A B m t f i)) ∧ ∀ i, i < 7 * k → w 45 i = h 45 i) ∧ (∀ e, e < 7 → w 47 e = nI (pLa A B m F T e k + if pon A B m f t e j = true then 2 ^ k else 0)) ∧
  ((∀ v, v < 8 → w 48 (8 * k + v) = (if pwi A B m f t v (j - 1) ≠ 0 then nI (tpe A B m t f (pwi A B m f t v (j - 1) - 1)) else -1) ∧ w 49 (8 * k + v) = (if pwi A B m f t v (j - 1) ≠ 0 then nI (tpe A B m t f (pwi A B m f t v (j - 1))) else -1)) ∧ ∀ i, ¬ (8 * k ≤ i ∧ i < 8 * k + 8) → w 48 i = h 48 i ∧ w 49 i = h 49 i) ∧
  ∀ e g, e < 7 → g < 7 → w (59 + e) g = nI (pth A B m k F T e g + sm (pt1 A B m f t e g) (j - 1))
def mAl (n m : Nat) (A B : Nat → Nat) (k : Nat) (F T Xc Yc : Nat → Nat) (f t : Nat) (h h' : Nat → Nat → Int32) : Prop := nFr h h' ∧ cS35 h' n Xc Yc A B m ∧ cE35 h' m A B ∧ cL35 h' m A B (k + 1) (pup F k f) (pup T k t)
theorem aLi.e {n m : Nat} {A B : Nat → Nat} {k : Nat} {F T Xc Yc : Nat → Nat} {f t : Nat} {h w : Nat → Nat → Int32} (a : aLi n m A B k F T f t h (tds A B m f t) w) (cS : cS35 h n Xc Yc A B m) (cE : cE35 h m A B) (cL : cL35 h m A B k F T) (ok : cOK n m A B k F T) (hk3 : k < 3) : mAl n m A B k F T Xc Yc f t h w := by
  obtain ⟨a1, a2, a3, a4, a5, a6, ⟨a7, a7'⟩, a8, ⟨a9, a9'⟩, a10⟩ := a
  obtain ⟨l1, l2, l3, l4, l5, l6⟩ := cL
  have hF : pup F k f k = f := pup_self _ _ _
  have hT : pup T k t k = t := pup_self _ _ _
  have ag : ∀ l, l < k → pup F k f l = F l ∧ pup T k t l = T l := fun l hl => ⟨pup_ne _ _ (by omega), pup_ne _ _ (by omega)⟩
  refine ⟨fun q hq => ?_, cS.fr (by rw [a2]; rfl) (a1 36 (by decide) (by omega)) (a1 37 (by decide) (by omega)) (a1 42 (by decide) (by omega)), cE.fr (by rw [a2]; rfl) (a1 38 (by decide) (by omega)) (a1 39 (by decide) (by omega)) (a1 43 (by decide) (by omega)) (a1 44 (by decide) (by omega)) (fun e he => a1 _ (by simp; omega) (by omega)), by rw [a2]; rfl, by omega, fun l hl => ?_, fun e he => ?_, fun l s hl hs => ?_, fun e g he hg => ?_⟩
  · exact a1 q (by simp; omega) (by omega)
  · rw [a3, a4, a5]
    show (if l = k then nI f else h 40 l) = _ ∧ (if l = k then nI t else h 41 l) = _ ∧ (if l = k then nI (tds A B m f t) else h 46 l) = _ ∧ _
    by_cases q : l = k
    · rw [if_pos q, if_pos q, if_pos q, q, hF, hT]
      exact ⟨rfl, rfl, rfl, a7⟩
    · obtain ⟨x1, x2, x3, x4⟩ := l3 l (by omega)
      rw [if_neg q, if_neg q, if_neg q, (ag l (by omega)).1, (ag l (by omega)).2]
      refine ⟨x1, x2, x3, fun j hj => ?_⟩
      have hD := tds_lt ok.2.1 ok.1 (ok.2.2 l (by omega)).1 (ok.2.2 l (by omega)).2.1 (ok.2.2 l (by omega)).2.2.2
      have h8 := cS.2.1
      rw [a7' _ (by omega)]; exact x4 j hj
  · rw [a8 e he]
    congr 1
    show _ = pLa A B m (pup F k f) (pup T k t) e k + if pon A B m (pup F k f k) (pup T k t k) e (tds A B m (pup F k f k) (pup T k t k)) = true then 2 ^ k else 0
    rw [pLa_cgl e k ag, hF, hT]
  · by_cases q : l = k
    · have e1 : pw A B m (pup F k f) (pup T k t) k s = pwi A B m f t s (tds A B m f t - 1) := by unfold pw; rw [hF, hT]
      have e2 : pe0 A B m (pup F k f) (pup T k t) k s = tpe A B m t f (pwi A B m f t s (tds A B m f t - 1) - 1) := by unfold pe0; rw [e1, hF, hT]
      have e3 : pe1 A B m (pup F k f) (pup T k t) k s = tpe A B m t f (pwi A B m f t s (tds A B m f t - 1)) := by unfold pe1; rw [e1, hF, hT]
      rw [q, e1, e2, e3]
      have := a9 s hs
      simp only [show k < k + 1 from Nat.lt_succ_self k, true_and]
      exact this
    · have y := a9' (8 * l + s) (by omega)
      rw [y.1, y.2, (l5 l s hl hs).1, (l5 l s hl hs).2]
      by_cases z : l < k
      · obtain ⟨p1, p2, p3⟩ := pw_cgl (A := A) (B := B) (m := m) (ag l z) s
        rw [p1, p2, p3]
        simp only [z, show l < k + 1 by omega, true_and, and_self]
      · have z2 : ∀ P : Prop, ¬ (l < k + 1 ∧ P) := fun P y => by have := y.1; omega
        have z1 : ∀ P : Prop, ¬ (l < k ∧ P) := fun P y => z y.1
        exact ⟨(if_neg (z1 _)).trans (if_neg (z2 _)).symm, (if_neg (z1 _)).trans (if_neg (z2 _)).symm⟩
  · rw [a10 e g he hg]
    congr 1
    show _ = sm _ (k + 1)
    show _ = pth A B m k (pup F k f) (pup T k t) e g + sm (pt1 A B m (pup F k f k) (pup T k t k) e g) (tds A B m (pup F k f k) (pup T k t k) - 1)
    rw [pth_cgl ag, hF, hT]
set_option maxHeartbeats 1000000 in
theorem s_Ne_addLine {X : Nat × (Nat → Int32)} {d : Nat} {cu sp n1 n2 n3 n4 : Nat} {n m : Nat} {A B : Nat → Nat} {k : Nat} {F T Xc Yc : Nat → Nat} {f t : Nat} (h : Nat → Nat → Int32) (cS : cS35 h n Xc Yc A B m) (cE : cE35 h m A B) (cL : cL35 h m A B k F T) (ok : cOK n m A B k F T) (hk3 : k < 3) (hf : f < n) (ht : t < n) (hft : plb A B m f = plb A B m t) : ewP X Ne_addLine (d + 2) 0 [some (.ref 35), some (.int (nI f)), some (.int (nI t)), none, none, none, none] [] (0, 0) (229, ewR cu sp n1 n2 n3 n4, h) (fun v S' => ∃ (h' : Nat → Nat → Int32), mAl n m A B k F T Xc Yc f t h h' ∧ v = none ∧ S' = (229, ewR cu sp n1 n2 n3 n4, h')) := by
  obtain ⟨s1, h8, s3⟩ := id cS
  obtain ⟨e1, h7, e3, e4⟩ := id cE
  obtain ⟨l1, l2, l3, l4, l5, l6⟩ := id cL
  obtain ⟨hn, hk, hl⟩ := id ok
  have hD := tds_lt hk hn hf ht hft
  refine v_Ne_addLine_0 _ _ h (P_Ne_leadTo := fun h x1 => h 35 1 = nI m ∧ (∀ e, e < m → h 38 e = nI (A e) ∧ h 39 e = nI (B e)) ∧ x1 = nI t) (R_Ne_leadTo := fun h x1 h' => mLd n m A B t h h') (fun x1 h hp => by rw [hp.2.2]; exact s_Ne_leadTo h h8 h7 hp.1 hp.2.1 hn hk ht) (by rw [l1]; exact nI_inB hk3 (by decide)) ⟨e1, fun e he => ⟨(e3 e he).1, (e3 e he).2.1⟩, rfl⟩ (fun w hw => ?_)
  obtain ⟨w1, w2⟩ := hw
  rw [l1, nI_clamp (show k < 2 ^ 31 by omega), ← nI_succ] at w1
  rw [l1]
  refine upto (H := Nat → Nat → Int32) (P := fun j w => aLi n m A B k F T f t h j w) (E := fun j w => ewP X Ne_addLine (d + 2) 47 [some (.ref 35), some (.int (nI f)), some (.int (nI t)), some (.int (nI k)), some (.int (nI (tnd A B m t f j))), some (.int (nI j)), none] [] (0, 0) (229, ewR cu sp n1 n2 n3 n4, w) _) (tds A B m f t) ?_ ?_ 0 w (by omega) ?_
  · rintro j w hj ⟨a1, a2, a3, a4, a5, a6, ⟨a7, a7'⟩, a8, ⟨a9, a9'⟩, a10⟩ next
    obtain ⟨c0, c1, c2⟩ := tnd_at hk hn hft hf j (by omega)
    have hne : tnd A B m t f j ≠ t := fun z => by rw [z, tds_0] at c1; omega
    obtain ⟨t1, t2⟩ := tpe_at hk hn hft hf hj
    have eL : w 66 (tnd A B m t f j) = nI (tpe A B m t f j) := a6 _ c2 c0 hne
    have w38 : w 38 = h 38 := a1 38 (by decide) (by omega)
    have w39 : w 39 = h 39 := a1 39 (by decide) (by omega)
    have hAB := hn _ t1
    have step : (if nI (A (tpe A B m t f j)) = nI (tnd A B m t f j) then nI (B (tpe A B m t f j)) else nI (A (tpe A B m t f j))) = nI (tnd A B m t f (j + 1)) := by
      rcases t2 with ⟨q1, q2⟩ | ⟨q1, q2⟩
      · rw [q1, q2, if_pos rfl]
      · have hab : A (tpe A B m t f j) ≠ B (tpe A B m t f j) := fun z => hk _ t1 (by rw [z])
        rw [if_neg (fun z => hab (by rw [q1]; exact (nI_eq (by omega) (by omega)).mp z)), q2]
    have hlt : nI j < 7 := (nI_ltb (b := 7) (by omega) (by omega)).mpr (by omega)
    have i7 : nI k * 7 + nI j = nI (7 * k + j) := by rw [show (nI k : Int32) * 7 = nI (k * 7) from nI_mu k 7, nI_ad, Nat.mul_comm]
    have nx : nI j + 1 = nI (j + 1) := (nI_succ j).symm
    have x4 : ¬ nI (tnd A B m t f j) = nI t := fun z => hne ((nI_eq (by omega) (by omega)).mp z)
    have xm : ¬ w 66 (nI (tnd A B m t f j)).toNatClampNeg = -1 := by
      rw [nI_clamp (by omega), eL]
      intro z
      have := congrArg Int32.toInt z
      rw [nI_toInt (by omega), show (-1 : Int32).toInt = -1 by decide] at this
      omega
    -- what is written when the stretch is taken
    have fin : ∀ v : Nat → Nat → Int32, (∀ q, q ∉ [35, 40, 41, 45, 46, 47, 48, 49, 66] → ¬ (59 ≤ q ∧ q ≤ 65) → v q = h q) → v 35 = w 35 → v 40 = w 40 → v 41 = w 41 → v 45 = w 45 → v 46 = w 46 → v 47 = w 47 → v 66 = w 66 → ((∀ u, u < 8 → v 48 (8 * k + u) = (if pwi A B m f t u j ≠ 0 then nI (tpe A B m t f (pwi A B m f t u j - 1)) else -1) ∧ v 49 (8 * k + u) = (if pwi A B m f t u j ≠ 0 then nI (tpe A B m t f (pwi A B m f t u j)) else -1)) ∧ ∀ i, ¬ (8 * k ≤ i ∧ i < 8 * k + 8) → v 48 i = h 48 i ∧ v 49 i = h 49 i) → (∀ e g, e < 7 → g < 7 → v (59 + e) g = nI (pth A B m k F T e g + sm (pt1 A B m f t e g) j)) → aLi n m A B k F T f t h (j + 1) (ewS (ewS (ewS v 45 (upd (v 45) (7 * k + j) (nI (tpe A B m t f j)))) 46 (upd (v 46) k (nI (j + 1)))) 47 (upd (v 47) (tpe A B m t f j) (v 47 (tpe A B m t f j) ||| ((1 : Int32) <<< ((nI k : Int32) &&& 31))))) := by
      intro v b1 b35 b40 b41 b45 b46 b47 b66 b9 b10
      refine ⟨fun q hq hq2 => ?_, b35.trans a2, b40.trans a3, b41.trans a4, ?_, fun s hs hc hst => ?_, ⟨fun i hi => ?_, fun i hi => ?_⟩, fun e he => ?_, b9, fun e g he hg => ?_⟩
      · simp only [List.mem_cons, List.not_mem_nil, or_false, not_or] at hq
        rw [ewS_ne _ _ (by omega), ewS_ne _ _ (by omega), ewS_ne _ _ (by omega)]
        exact b1 q (by simp; omega) hq2
      · show upd (v 46) k (nI (j + 1)) = _
        rw [b46, a5, upd_S]
      · show v 66 s = _
        rw [b66]; exact a6 s hs hc hst
      · show (if 7 * k + i = 7 * k + j then nI (tpe A B m t f j) else v 45 (7 * k + i)) = _
        by_cases q : i = j
        · rw [if_pos (by omega), q]
        · rw [if_neg (by omega), b45]; exact a7 i (by omega)
      · show (if i = 7 * k + j then nI (tpe A B m t f j) else v 45 i) = _
        rw [if_neg (by omega), b45]; exact a7' i hi
      · show (if e = tpe A B m t f j then v 47 (tpe A B m t f j) ||| ((1 : Int32) <<< ((nI k : Int32) &&& 31)) else v 47 e) = nI (pLa A B m F T e k + if (pon A B m f t e j || decide (tpe A B m t f j = e)) = true then 2 ^ k else 0)
        rw [b47]
        by_cases q : e = tpe A B m t f j
        · rw [if_pos q, ← q, a8 e he]
          have o3 := or_3 (b := pon A B m f t e j) (c := true) hk3 (pLa_lt A B m F T e k)
          rw [if_pos rfl] at o3
          rw [o3, decide_eq_true rfl]
        · rw [if_neg q, a8 e he, decide_eq_false (fun z => q z.symm), Bool.or_false]
      · rw [ewS_ne _ _ (by omega), ewS_ne _ _ (by omega), ewS_ne _ _ (by omega)]
        exact b10 e g he hg
    refine v_Ne_addLine_47 _ _ _ _ _ w (P_Ne_passThrough := fun h x1 x2 x3 x4 => p_Ne_passThrough h x1 x2 x3 x4) (R_Ne_passThrough := fun h x1 x2 x3 x4 h' => h' = g_Ne_passThrough h x1 x2 x3 x4) (fun x1 x2 x3 x4 h hp => s_Ne_passThrough (d := d + 1) x1 x2 x3 x4 h hp ⟨_, rfl, rfl, rfl⟩) (fun q => absurd hlt q) (fun _ q => absurd q x4) (fun _ _ => nI_inB (by omega) (by decide)) (fun _ _ q => absurd q xm) (fun _ _ _ _ => ?_) (fun _ _ _ _ => nI_inB hk3 (by decide)) (fun _ _ _ _ => ?_) (fun _ _ _ q => ?_) (fun _ _ _ q => ?_) (fun _ _ _ q => ?_) (fun _ _ _ q w15 hw15 => ?_)
    · rw [i7]; exact nI_inB (by omega) (by decide)
    · rw [nI_clamp (by omega), eL]; exact nI_inB (by omega) (by decide)
    · have j0 : j = 0 := by
        by_cases z : j = 0
        · exact z
        · exact absurd ((nI_pos2 (by omega)).mpr z) q
      rw [i7, nI_clamp (show 7 * k + j < 2 ^ 31 by omega), nI_clamp (show tnd A B m t f j < 2 ^ 31 by omega), eL, nI_clamp (show tpe A B m t f j < 2 ^ 31 by omega), nI_clamp (show k < 2 ^ 31 by omega), w38, w39, (e3 _ t1).1, (e3 _ t1).2.1, step, nx]
      refine next _ (fin w a1 rfl rfl rfl rfl rfl rfl rfl ⟨fun u hu => ?_, a9'⟩ (fun e g he hg => ?_))
      · have := a9 u hu
        rw [j0] at this ⊢
        exact this
      · have := a10 e g he hg
        rw [j0] at this ⊢
        exact this
    · have j0 : j ≠ 0 := (nI_pos2 (by omega)).mp q
      rw [i7, show nI (7 * k + j) - 1 = nI (7 * k + j - 1) from nI_sub (b := 1) (by omega)]
      exact nI_inB (by omega) (by decide)
    · have j0 : j ≠ 0 := (nI_pos2 (by omega)).mp q
      have p0 := tpe_at hk hn hft hf (show j - 1 < tds A B m f t by omega)
      have ne := tpe_ne hk (by omega) hn hft hf (show (j - 1) + 1 < tds A B m f t by omega)
      rw [show j - 1 + 1 = j by omega] at ne
      rw [i7, show nI (7 * k + j) - 1 = nI (7 * k + (j - 1)) by rw [show 7 * k + (j - 1) = 7 * k + j - 1 by omega]; exact nI_sub (b := 1) (by omega), nI_clamp (show 7 * k + (j - 1) < 2 ^ 31 by omega), a7 (j - 1) (by omega), nI_clamp (show tnd A B m t f j < 2 ^ 31 by omega), eL]
      exact (pass_n hk3 (by omega) (by omega) (by omega) ne).1
    · have j0 : j ≠ 0 := (nI_pos2 (by omega)).mp q
      have p0 := tpe_at hk hn hft hf (show j - 1 < tds A B m f t by omega)
      have ne := tpe_ne hk (by omega) hn hft hf (show (j - 1) + 1 < tds A B m f t by omega)
      rw [show j - 1 + 1 = j by omega] at ne
      rw [i7, show nI (7 * k + j) - 1 = nI (7 * k + (j - 1)) by rw [show 7 * k + (j - 1) = 7 * k + j - 1 by omega]; exact nI_sub (b := 1) (by omega), nI_clamp (show 7 * k + (j - 1) < 2 ^ 31 by omega), a7 (j - 1) (by omega), nI_clamp (show tnd A B m t f j < 2 ^ 31 by omega), eL] at hw15
      obtain ⟨-, u1, u2, u3, u4⟩ := pass_n (h := w) (l := k) (s := tnd A B m t f j) hk3 (by omega) (show tpe A B m t f (j - 1) < 7 by omega) (show tpe A B m t f j < 7 by omega) ne
      rw [← hw15] at u1 u2 u3 u4
      have v38 : w15 38 = h 38 := (u1 38 (by decide) (by decide) (by omega)).trans w38
      have v39 : w15 39 = h 39 := (u1 39 (by decide) (by decide) (by omega)).trans w39
      rw [i7, nI_clamp (show 7 * k + j < 2 ^ 31 by omega), nI_clamp (show tnd A B m t f j < 2 ^ 31 by omega), eL, nI_clamp (show tpe A B m t f j < 2 ^ 31 by omega), nI_clamp (show k < 2 ^ 31 by omega), v38, v39, (e3 _ t1).1, (e3 _ t1).2.1, step, nx]
      refine ⟨nI_inB (by omega) (by decide), nI_inB hk3 (by decide), nI_inB (by omega) (by decide), next _ (fin w15 (fun q' h1 h2 => ?_) (u1 35 (by decide) (by decide) (by omega)) (u1 40 (by decide) (by decide) (by omega)) (u1 41 (by decide) (by decide) (by omega)) (u1 45 (by decide) (by decide) (by omega)) (u1 46 (by decide) (by decide) (by omega)) (u1 47 (by decide) (by decide) (by omega)) (u1 66 (by decide) (by decide) (by omega)) ⟨fun u hu => ?_, fun i hi => ?_⟩ (fun e g he hg => ?_))⟩
      · have h1' := h1
        simp only [List.mem_cons, List.not_mem_nil, or_false, not_or] at h1'
        rw [u1 q' (by omega) (by omega) h2]; exact a1 q' h1 h2
      · have pq : pwi A B m f t u j = if tnd A B m t f j = u then j else pwi A B m f t u (j - 1) := by
          obtain ⟨i, rfl⟩ : ∃ i, j = i + 1 := ⟨j - 1, by omega⟩
          rfl
        rw [u2, u3, pq]
        show (if 8 * k + u = 8 * k + tnd A B m t f j then nI (tpe A B m t f (j - 1)) else w 48 (8 * k + u)) = _ ∧ (if 8 * k + u = 8 * k + tnd A B m t f j then nI (tpe A B m t f j) else w 49 (8 * k + u)) = _
        by_cases z : tnd A B m t f j = u
        · have e8 : 8 * k + u = 8 * k + tnd A B m t f j := by omega
          rw [if_pos e8, if_pos e8, if_pos z, if_pos j0, if_pos j0]
          exact ⟨rfl, rfl⟩
        · have e8 : ¬ 8 * k + u = 8 * k + tnd A B m t f j := by omega
          rw [if_neg e8, if_neg e8, if_neg z]
          exact a9 u hu
      · rw [u2, u3]
        show (if i = 8 * k + tnd A B m t f j then nI (tpe A B m t f (j - 1)) else w 48 i) = _ ∧ (if i = 8 * k + tnd A B m t f j then nI (tpe A B m t f j) else w 49 i) = _
        rw [if_neg (by omega), if_neg (by omega)]
        exact a9' i hi
      · rw [u4 e g he hg, a10 e g he hg]
        obtain ⟨i, rfl⟩ : ∃ i, j = i + 1 := ⟨j - 1, by omega⟩
        show _ = nI (pth A B m k F T e g + (sm (pt1 A B m f t e g) i + pt1 A B m f t e g i))
        rw [← Nat.add_assoc, ← nI_ad (pth A B m k F T e g + sm (pt1 A B m f t e g) i)]
        congr 1
        unfold pt1
        rw [show i + 1 - 1 = i by omega]
        split <;> rfl
  · intro w hw
    obtain ⟨c0, c1, c2⟩ := tnd_at hk hn hft hf (tds A B m f t) (Nat.le_refl _)
    have e0 : tnd A B m t f (tds A B m f t) = t := tds_eq0 hk (by omega)
    rw [e0]
    have hr := hw.e cS cE cL ok hk3
    refine v_Ne_addLine_47 _ _ _ _ _ w (P_Ne_passThrough := fun _ _ _ _ _ => False) (R_Ne_passThrough := fun _ _ _ _ _ _ => False) (fun _ _ _ _ _ hp => hp.elim) (fun _ => ⟨w, hr, rfl, rfl⟩) (fun _ _ => ⟨w, hr, rfl, rfl⟩) (fun _ q => absurd rfl q) (fun _ q => absurd rfl q) (fun _ q => absurd rfl q) (fun _ q => absurd rfl q) (fun _ q => absurd rfl q) (fun _ q => absurd rfl q) (fun _ q => absurd rfl q) (fun _ q => absurd rfl q) (fun _ q => absurd rfl q)
  · refine ⟨fun q hq hq2 => ?_, ?_, ?_, ?_, ?_, fun s hs hc hst => w2 s hs hc hst, ⟨fun i hi => by omega, fun i hi => ?_⟩, fun e he => ?_, ⟨fun v hv => ?_, fun i hi => ?_⟩, fun e g he hg => ?_⟩
    · simp only [List.mem_cons, List.not_mem_nil, or_false, not_or] at hq
      rw [w1 q (by omega), ewS_ne _ _ (by omega), ewS_ne _ _ (by omega), ewS_ne _ _ (by omega), ewS_ne _ _ (by omega)]
    · rw [w1 35 (by decide)]; rfl
    · rw [w1 40 (by decide)]; rfl
    · rw [w1 41 (by decide)]; rfl
    · rw [w1 46 (by decide)]; rfl
    · rw [w1 45 (by decide)]; rfl
    · rw [w1 47 (by decide)]
      show h 47 e = nI (pLa A B m F T e k + 0)
      exact l4 e he
    · rw [w1 48 (by decide), w1 49 (by decide)]
      show h 48 _ = (if (0 : Nat) ≠ 0 then _ else -1) ∧ h 49 _ = (if (0 : Nat) ≠ 0 then _ else -1)
      rw [(l5 k v hk3 hv).1, (l5 k v hk3 hv).2, if_neg (by omega), if_neg (by omega), if_neg (by omega), if_neg (by omega)]
      exact ⟨rfl, rfl⟩
    · rw [w1 48 (by decide), w1 49 (by decide)]; exact ⟨rfl, rfl⟩
    · rw [w1 _ (by omega), ewS_ne _ _ (by omega), ewS_ne _ _ (by omega), ewS_ne _ _ (by omega), ewS_ne _ _ (by omega)]
      exact l6 e g he hg
