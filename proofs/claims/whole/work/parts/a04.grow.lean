/-! nets that grow: later stretches keep what lines go along -/
/-- the set of a station's tree by the first e stretches -/
def ptm (A B : Nat → Nat) (e s : Nat) : Nat := msk (fun t => decide (plb A B e t = plb A B e s)) 8
/-- what one direction must be turned by -/
def pmt (A B : Nat → Nat) (e f : Nat) : Int32 := if A e = A f ∨ B e = B f then 4 else if A e = B f ∨ B e = A f then 0 else -1
/-- how often lines go from e on to g or back -/
def pt1 (A B : Nat → Nat) (m f t e g j : Nat) : Nat := if (tpe A B m t f j = e ∧ tpe A B m t f (j + 1) = g) ∨ (tpe A B m t f j = g ∧ tpe A B m t f (j + 1) = e) then 1 else 0
def pth (A B : Nat → Nat) (m k : Nat) (F T : Nat → Nat) (e g : Nat) : Nat := sm (fun l => sm (pt1 A B m (F l) (T l) e g) (tds A B m (F l) (T l) - 1)) k
section GROW
variable {A B A' B' : Nat → Nat} {m : Nat}
theorem tds_cg : ∀ e, (∀ i, i < e → A' i = A i ∧ B' i = B i) → ∀ s t, tds A' B' e s t = tds A B e s t
  | 0, _, s, t => rfl
  | e + 1, h, s, t => by
    have ih := tds_cg e (fun i hi => h i (by omega))
    have il := plb_congr e (fun i hi => h i (by omega))
    rw [tds_s, tds_s]
    simp only [ih, il, (h e (by omega)).1, (h e (by omega)).2]
theorem tfx_cg : ∀ e, (∀ i, i < e → A' i = A i ∧ B' i = B i) → ∀ s t, tfx A' B' e s t = tfx A B e s t
  | 0, _, s, t => rfl
  | e + 1, h, s, t => by
    have ih := tfx_cg e (fun i hi => h i (by omega))
    have il := plb_congr e (fun i hi => h i (by omega))
    rw [tfx_s, tfx_s]
    simp only [ih, il, (h e (by omega)).1, (h e (by omega)).2]
theorem tds_up (h : ∀ i, i < m → A' i = A i ∧ B' i = B i) {s t : Nat} (hc : plb A B m s = plb A B m t) : tds A' B' (m + 1) s t = tds A B m s t := by
  have il := plb_congr m h
  rw [tds_s, if_pos (by rw [il, il]; exact hc), tds_cg m h]
theorem tfx_up (h : ∀ i, i < m → A' i = A i ∧ B' i = B i) {s t : Nat} (hc : plb A B m s = plb A B m t) : tfx A' B' (m + 1) s t = tfx A B m s t := by
  have il := plb_congr m h
  rw [tfx_s, if_pos (by rw [il, il]; exact hc), tfx_cg m h]
theorem tst_up (h : ∀ i, i < m → A' i = A i ∧ B' i = B i) (hk : tOK A B m) {s t : Nat} (hc : plb A B m s = plb A B m t) : tst A' B' (m + 1) t s = tst A B m t s := by
  unfold tst
  by_cases q : s = t
  · rw [if_pos q, if_pos q]
  · rw [if_neg q, if_neg q, tfx_up h hc]
    have := (tfx_at hk hc q).1
    rw [(h _ this).1, (h _ this).2]
theorem tnd_up {n : Nat} (h : ∀ i, i < m → A' i = A i ∧ B' i = B i) (hk : tOK A B m) (hn : ∀ e, e < m → A e < n ∧ B e < n) {s t : Nat} (hs : s < n) (hc : plb A B m s = plb A B m t) : ∀ k, k ≤ tds A B m s t → tnd A' B' (m + 1) t s k = tnd A B m t s k
  | 0, _ => rfl
  | k + 1, hl => by
    rw [tnd_l, tnd_l, tnd_up h hk hn hs hc k (by omega)]
    exact tst_up h hk (tnd_at hk hn hc hs k (by omega)).1
theorem tpe_up {n : Nat} (h : ∀ i, i < m → A' i = A i ∧ B' i = B i) (hk : tOK A B m) (hn : ∀ e, e < m → A e < n ∧ B e < n) {s t : Nat} (hs : s < n) (hc : plb A B m s = plb A B m t) {k : Nat} (hl : k ≤ tds A B m s t) : tpe A' B' (m + 1) t s k = tpe A B m t s k := by
  unfold tpe
  rw [tnd_up h hk hn hs hc k hl, tfx_up h (tnd_at hk hn hc hs k hl).1]
theorem pon_up {n : Nat} (h : ∀ i, i < m → A' i = A i ∧ B' i = B i) (hk : tOK A B m) (hn : ∀ e, e < m → A e < n ∧ B e < n) {s t : Nat} (hs : s < n) (hc : plb A B m s = plb A B m t) (e : Nat) : ∀ k, k ≤ tds A B m s t → pon A' B' (m + 1) s t e k = pon A B m s t e k
  | 0, _ => rfl
  | k + 1, hl => by
    unfold pon
    rw [pon_up h hk hn hs hc e k (by omega), tpe_up h hk hn hs hc (by omega)]
theorem pwi_up {n : Nat} (h : ∀ i, i < m → A' i = A i ∧ B' i = B i) (hk : tOK A B m) (hn : ∀ e, e < m → A e < n ∧ B e < n) {s t : Nat} (hs : s < n) (hc : plb A B m s = plb A B m t) (v : Nat) : ∀ k, k ≤ tds A B m s t → pwi A' B' (m + 1) s t v k = pwi A B m s t v k
  | 0, _ => rfl
  | k + 1, hl => by
    unfold pwi
    rw [pwi_up h hk hn hs hc v k (by omega), tnd_up h hk hn hs hc _ hl]
variable {n k : Nat} {F T : Nat → Nat}
theorem pLa_up (h : ∀ i, i < m → A' i = A i ∧ B' i = B i) (hk : tOK A B m) (hn : ∀ e, e < m → A e < n ∧ B e < n) (e : Nat) : ∀ k, (∀ l, l < k → F l < n ∧ plb A B m (F l) = plb A B m (T l)) → pLa A' B' (m + 1) F T e k = pLa A B m F T e k
  | 0, _ => rfl
  | k + 1, hl => by
    unfold pLa
    have q := hl k (by omega)
    rw [pLa_up h hk hn e k (fun l hl' => hl l (by omega)), tds_up h q.2, pon_up h hk hn q.1 q.2 e _ (Nat.le_refl _)]
theorem pw_up (h : ∀ i, i < m → A' i = A i ∧ B' i = B i) (hk : tOK A B m) (hn : ∀ e, e < m → A e < n ∧ B e < n) {l : Nat} (hl : F l < n ∧ plb A B m (F l) = plb A B m (T l)) (v : Nat) : pw A' B' (m + 1) F T l v = pw A B m F T l v := by
  unfold pw
  rw [tds_up h hl.2, pwi_up h hk hn hl.1 hl.2 v _ (by omega)]
theorem pw_le (l v : Nat) : pw A B m F T l v ≤ tds A B m (F l) (T l) - 1 := (pwi_at (A := A) (B := B) (m := m) (f := F l) (t := T l) (s := v) _).1
theorem pe0_up (h : ∀ i, i < m → A' i = A i ∧ B' i = B i) (hk : tOK A B m) (hn : ∀ e, e < m → A e < n ∧ B e < n) {l : Nat} (hl : F l < n ∧ plb A B m (F l) = plb A B m (T l)) (v : Nat) : pe0 A' B' (m + 1) F T l v = pe0 A B m F T l v := by
  unfold pe0
  have := pw_le (A := A) (B := B) (m := m) (F := F) (T := T) l v
  rw [pw_up h hk hn hl v, tpe_up h hk hn hl.1 hl.2 (by omega)]
theorem pe1_up (h : ∀ i, i < m → A' i = A i ∧ B' i = B i) (hk : tOK A B m) (hn : ∀ e, e < m → A e < n ∧ B e < n) {l : Nat} (hl : F l < n ∧ plb A B m (F l) = plb A B m (T l)) (v : Nat) : pe1 A' B' (m + 1) F T l v = pe1 A B m F T l v := by
  unfold pe1
  have := pw_le (A := A) (B := B) (m := m) (F := F) (T := T) l v
  rw [pw_up h hk hn hl v, tpe_up h hk hn hl.1 hl.2 (by omega)]
theorem pth_up (h : ∀ i, i < m → A' i = A i ∧ B' i = B i) (hk : tOK A B m) (hn : ∀ e, e < m → A e < n ∧ B e < n) (hl : ∀ l, l < k → F l < n ∧ plb A B m (F l) = plb A B m (T l)) (e g : Nat) : pth A' B' (m + 1) k F T e g = pth A B m k F T e g := by
  unfold pth
  refine sm_cg k (fun l hlk => ?_)
  have q := hl l hlk
  rw [tds_up h q.2]
  refine sm_cg _ (fun j hj => ?_)
  unfold pt1
  rw [tpe_up h hk hn q.1 q.2 (by omega), tpe_up h hk hn q.1 q.2 (by omega)]
theorem ptm_cg {e : Nat} (h : ∀ i, i < e → A' i = A i ∧ B' i = B i) (s : Nat) : ptm A' B' e s = ptm A B e s := by
  unfold ptm
  simp only [plb_congr e h]
theorem plb_out {e t : Nat} (h : ∀ i, i < e → A i < n ∧ B i < n) (ht : n ≤ t) : plb A B e t = t := plb_new e (fun i hi => by have := h i hi; omega)
/-- a new station is alone -/
theorem ptm_new {e : Nat} (h : ∀ i, i < e → A i < n ∧ B i < n) (h8 : n < 8) : ptm A B e n = 2 ^ n := by
  rw [msk_one h8]
  unfold ptm
  refine msk_cg 8 (fun t _ => ?_)
  rw [decide_eq_decide, plb_out h (Nat.le_refl n)]
  constructor
  · intro z
    rcases Nat.lt_or_ge t n with q | q
    · have := plb_lt e h t q
      omega
    · rw [plb_out h q] at z; exact z
  · intro z
    rw [z, plb_out h (Nat.le_refl n)]
/-- a new stretch joins two trees -/
theorem ptm_join {e s : Nat} : ptm A B (e + 1) s = if plb A B e s = plb A B e (A e) ∨ plb A B e s = plb A B e (B e) then ptm A B e (A e) ||| ptm A B e (B e) else ptm A B e s := by
  unfold ptm
  split
  · rename_i q
    rw [msk_or]
    refine msk_cg 8 (fun t _ => ?_)
    rw [Bool.eq_iff_iff, Bool.or_eq_true, decide_eq_true_iff, decide_eq_true_iff, decide_eq_true_iff, plb_join]
    constructor
    · rintro (z | z | z)
      · rcases q with q | q
        · left; rw [z, q]
        · right; rw [z, q]
      · left; exact z.1
      · right; exact z.1
    · rintro (z | z)
      · rcases q with q | q
        · left; rw [z, q]
        · right; left; exact ⟨z, q⟩
      · rcases q with q | q
        · right; right; exact ⟨z, q⟩
        · left; rw [z, q]
  · rename_i q
    refine msk_cg 8 (fun t _ => ?_)
    rw [decide_eq_decide, plb_join]
    constructor
    · rintro (z | z | z)
      · exact z
      · exact absurd (Or.inr z.2) q
      · exact absurd (Or.inl z.2) q
    · exact Or.inl
theorem ptm_has {e s t : Nat} (ht : t < 8) : f_Ew_has (nI (ptm A B e s)) (nI t) ↔ plb A B e t = plb A B e s := by
  unfold ptm
  rw [has_m ht, decide_eq_true_iff]
end GROW
