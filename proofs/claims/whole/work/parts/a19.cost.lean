/-! costs: stretch by stretch -/
theorem sm_add {f g : Nat → Nat} : ∀ n, sm (fun i => f i + g i) n = sm f n + sm g n
  | 0 => rfl
  | n + 1 => by
    show sm (fun i => f i + g i) n + (f n + g n) = (sm f n + f n) + (sm g n + g n)
    rw [sm_add n]; omega
theorem sm_mr {f : Nat → Nat} (c : Nat) : ∀ n, sm f n * c = sm (fun i => f i * c) n
  | 0 => Nat.zero_mul c
  | n + 1 => by
    show (sm f n + f n) * c = sm (fun i => f i * c) n + f n * c
    rw [Nat.add_mul, sm_mr c n]
theorem sm_ml {f : Nat → Nat} (c : Nat) (n : Nat) : c * sm f n = sm (fun i => c * f i) n := by
  rw [Nat.mul_comm, sm_mr]
  exact sm_cg n (fun i _ => Nat.mul_comm _ _)
theorem sm_z : ∀ n, sm (fun _ => 0) n = 0
  | 0 => rfl
  | n + 1 => sm_z n
theorem sm_swap {f : Nat → Nat → Nat} (a : Nat) : ∀ b, sm (fun i => sm (fun j => f i j) a) b = sm (fun j => sm (fun i => f i j) b) a
  | 0 => (sm_z a).symm
  | b + 1 => by
    show sm (fun i => sm (fun j => f i j) a) b + sm (fun j => f b j) a = sm (fun j => sm (fun i => f i j) b + f b j) a
    rw [sm_swap a b, sm_add]
theorem sm_pick {v : Nat → Nat} {x : Nat} : ∀ n, sm (fun i => if i = x then v i else 0) n = if x < n then v x else 0
  | 0 => rfl
  | n + 1 => by
    show sm (fun i => if i = x then v i else 0) n + (if n = x then v n else 0) = _
    rw [sm_pick n]
    by_cases q : n = x
    · rw [if_neg (by omega), if_pos q, if_pos (by omega), q, Nat.zero_add]
    · rw [if_neg q, Nat.add_zero]
      by_cases p : x < n
      · rw [if_pos p, if_pos (by omega)]
      · rw [if_neg p, if_neg (by omega)]
theorem sm_tri {g : Nat → Nat → Nat → Nat} (k m : Nat) : sm (fun e => sm (fun f => sm (fun l => g l f e) k) e) m = sm (fun l => sm (fun e => sm (fun f => g l f e) e) m) k := by
  rw [sm_cg m (fun e _ => sm_swap (f := fun f l => g l f e) k e), sm_swap]
theorem sm_pair {C : Nat → Nat → Nat} (sym : ∀ a b, C a b = C b a) {a b m : Nat} (hne : a ≠ b) (ha : a < m) (hb : b < m) : sm (fun e => sm (fun f => (if (a = f ∧ b = e) ∨ (a = e ∧ b = f) then 1 else 0) * C f e) e) m = C a b := by
  have key : ∀ x y, x < y → y < m → (∀ f e, f < e → ((a = f ∧ b = e) ∨ (a = e ∧ b = f) ↔ f = x ∧ e = y)) → sm (fun e => sm (fun f => (if (a = f ∧ b = e) ∨ (a = e ∧ b = f) then 1 else 0) * C f e) e) m = C x y := by
    intro x y hxy hy iff
    have e1 : ∀ e, e < m → sm (fun f => (if (a = f ∧ b = e) ∨ (a = e ∧ b = f) then 1 else 0) * C f e) e = if e = y then C x e else 0 := by
      intro e he
      have e2 : ∀ f, f < e → (if (a = f ∧ b = e) ∨ (a = e ∧ b = f) then 1 else 0) * C f e = if f = x then (if e = y then C f e else 0) else 0 := by
        intro f hf
        have := iff f e hf
        by_cases q : f = x
        · by_cases p : e = y
          · rw [if_pos (this.mpr ⟨q, p⟩), if_pos q, if_pos p, Nat.one_mul]
          · rw [if_neg (fun z => p (this.mp z).2), if_pos q, if_neg p, Nat.zero_mul]
        · rw [if_neg (fun z => q (this.mp z).1), if_neg q, Nat.zero_mul]
      rw [sm_cg e e2, sm_pick]
      by_cases p : e = y
      · rw [if_pos (by omega)]
      · rw [if_neg p]; split <;> rfl
    rw [sm_cg m e1, sm_pick, if_pos hy]
  rcases Nat.lt_or_gt_of_ne hne with h | h
  · exact key a b h hb (fun f e hf => by omega)
  · rw [sym a b]
    exact key b a h ha (fun f e hf => by omega)
/-- the shorter way -/
def psh (n : Nat) : Nat := if 4 < n then 8 - n else n
def pts (A B v : Nat → Nat) (f e : Nat) : Nat := psh ((v e + 8 - v f + (if A f = A e ∨ B f = B e then 4 else 0)) % 8)
theorem psh_n {a b : Nat} (ha : a < 8) (hb : b < 8) (p : Bool) : vp_in (((nI a - nI b) + (if p = true then (4 : Int32) else 0)) &&& 7) 8 ∧ ewSv 0 (((nI a - nI b) + (if p = true then (4 : Int32) else 0)) &&& 7).toNatClampNeg = nI (psh ((a + 8 - b + (if p = true then 4 else 0)) % 8)) := by
  have hh : ∀ (a b : Fin 8) (p : Bool), (¬ ((((nI a.1 - nI b.1) + (if p = true then (4 : Int32) else 0)) &&& 7) < 0) ∧ (((nI a.1 - nI b.1) + (if p = true then (4 : Int32) else 0)) &&& 7).toNatClampNeg < 8) ∧ ewSv 0 (((nI a.1 - nI b.1) + (if p = true then (4 : Int32) else 0)) &&& 7).toNatClampNeg = nI (psh ((a.1 + 8 - b.1 + (if p = true then 4 else 0)) % 8)) := by decide +kernel
  obtain ⟨⟨h1, h2⟩, h3⟩ := hh ⟨a, ha⟩ ⟨b, hb⟩ p
  exact ⟨fun z => z.elim h1 (fun y => absurd h2 (Nat.not_lt.mpr y)), h3⟩
theorem psh_sym {a b : Nat} (ha : a < 8) (hb : b < 8) (p : Bool) : psh ((a + 8 - b + (if p = true then 4 else 0)) % 8) = psh ((b + 8 - a + (if p = true then 4 else 0)) % 8) := by
  have hh : ∀ (a b : Fin 8) (p : Bool), psh ((a.1 + 8 - b.1 + (if p = true then 4 else 0)) % 8) = psh ((b.1 + 8 - a.1 + (if p = true then 4 else 0)) % 8) := by decide +kernel
  exact hh ⟨a, ha⟩ ⟨b, hb⟩ p
theorem psh_bd {a b : Nat} (ha : a < 8) (hb : b < 8) (p q : Bool) : pap (((if p = true then a else (a + 4) % 8) + 4) % 8) (if q = true then b else (b + 4) % 8) = psh ((b + 8 - a + (if (p == q) = true then 4 else 0)) % 8) ∧ ((psh ((b + 8 - a + (if (p == q) = true then 4 else 0)) % 8) = 4) ↔ (if p = true then a else (a + 4) % 8) = (if q = true then b else (b + 4) % 8)) ∧ psh ((b + 8 - a + (if (p == q) = true then 4 else 0)) % 8) < 5 := by
  have hh : ∀ (a b : Fin 8) (p q : Bool), pap (((if p = true then a.1 else (a.1 + 4) % 8) + 4) % 8) (if q = true then b.1 else (b.1 + 4) % 8) = psh ((b.1 + 8 - a.1 + (if (p == q) = true then 4 else 0)) % 8) ∧ ((psh ((b.1 + 8 - a.1 + (if (p == q) = true then 4 else 0)) % 8) = 4) ↔ (if p = true then a.1 else (a.1 + 4) % 8) = (if q = true then b.1 else (b.1 + 4) % 8)) ∧ psh ((b.1 + 8 - a.1 + (if (p == q) = true then 4 else 0)) % 8) < 5 := by decide +kernel
  exact hh ⟨a, ha⟩ ⟨b, hb⟩ p q
section PTS
variable {A B v : Nat → Nat}
theorem pts_d (f e : Nat) : pts A B v f e = psh ((v e + 8 - v f + (if decide (A f = A e ∨ B f = B e) = true then 4 else 0)) % 8) := by
  unfold pts
  simp only [decide_eq_true_iff]
theorem pts_sym (hv : ∀ e, v e < 8) (f e : Nat) : pts A B v f e = pts A B v e f := by
  rw [pts_d, pts_d, psh_sym (hv e) (hv f), decide_eq_decide.mpr (show (A f = A e ∨ B f = B e) ↔ (A e = A f ∨ B e = B f) from ⟨fun z => z.imp Eq.symm Eq.symm, fun z => z.imp Eq.symm Eq.symm⟩)]
theorem pts_lt (f e : Nat) : pts A B v f e < 5 := by
  unfold pts
  have := Nat.mod_lt (v e + 8 - v f + (if A f = A e ∨ B f = B e then 4 else 0)) (show 0 < 8 by omega)
  generalize (v e + 8 - v f + (if A f = A e ∨ B f = B e then 4 else 0)) % 8 = x at *
  unfold psh
  split <;> omega
theorem pts_at (hv : ∀ e, v e < 8) {f e s : Nat} (hf : A f ≠ B f) (he : A e ≠ B e) (h1 : A f = s ∨ B f = s) (h2 : A e = s ∨ B e = s) : pap ((pwf A v f s + 4) % 8) (pwf A v e s) = pts A B v f e ∧ (pts A B v f e = 4 ↔ pwf A v f s = pwf A v e s) := by
  have e1 : decide (A f = A e ∨ B f = B e) = (decide (A f = s) == decide (A e = s)) := by
    rw [Bool.eq_iff_iff, decide_eq_true_iff, beq_iff_eq]
    by_cases q1 : A f = s <;> by_cases q2 : A e = s <;> simp only [q1, q2, decide_true, decide_false] <;> simp <;> omega
  have e2 : pwf A v f s = if decide (A f = s) = true then v f else (v f + 4) % 8 := by unfold pwf; simp only [decide_eq_true_iff]
  have e3 : pwf A v e s = if decide (A e = s) = true then v e else (v e + 4) % 8 := by unfold pwf; simp only [decide_eq_true_iff]
  obtain ⟨b1, b2, -⟩ := psh_bd (hv f) (hv e) (decide (A f = s)) (decide (A e = s))
  rw [pts_d, e1, e2, e3]
  exact ⟨b1, b2⟩
theorem puB_iff (hv : ∀ e, v e < 8) {f e : Nat} (hf : A f ≠ B f) (he : A e ≠ B e) : puB A B v e f = true ↔ (pmt A B f e ≠ -1 → pts A B v f e ≠ 4) := by
  unfold puB pmt
  by_cases q1 : A f = A e ∨ B f = A e
  · rw [if_pos q1, decide_eq_true_iff]
    have := (pts_at hv hf he q1 (Or.inl rfl)).2
    have ne : (if A f = A e ∨ B f = B e then (4 : Int32) else if A f = B e ∨ B f = A e then 0 else -1) ≠ -1 := by
      by_cases z : A f = A e ∨ B f = B e
      · rw [if_pos z]; decide
      · rw [if_neg z, if_pos (Or.inr (q1.resolve_left (fun y => z (Or.inl y))))]; decide
    rw [Ne, eq_comm, ← this]
    exact ⟨fun h _ => h, fun h => h ne⟩
  · rw [if_neg q1]
    by_cases q2 : A f = B e ∨ B f = B e
    · rw [if_pos q2, decide_eq_true_iff]
      have := (pts_at hv hf he q2 (Or.inr rfl)).2
      have ne : (if A f = A e ∨ B f = B e then (4 : Int32) else if A f = B e ∨ B f = A e then 0 else -1) ≠ -1 := by
        by_cases z : A f = A e ∨ B f = B e
        · rw [if_pos z]; decide
        · rw [if_neg z, if_pos (Or.inl (q2.resolve_right (fun y => z (Or.inr y))))]; decide
      rw [Ne, eq_comm, ← this]
      exact ⟨fun h _ => h, fun h => h ne⟩
    · rw [if_neg q2, if_neg (fun z => z.elim (fun y => q1 (Or.inl y)) (fun y => q2 (Or.inr y))), if_neg (fun z => z.elim (fun y => q2 (Or.inl y)) (fun y => q1 (Or.inr y)))]
      exact ⟨fun _ h => absurd rfl h, fun _ => rfl⟩
theorem pu1_iff (hv : ∀ e, v e < 8) {e : Nat} (he : A e ≠ B e) : ∀ k, (∀ f, f < k → A f ≠ B f) → (pu1 A B v e k = true ↔ ∀ f, f < k → pmt A B f e ≠ -1 → pts A B v f e ≠ 4)
  | 0, _ => ⟨fun _ f hf => by omega, fun _ => rfl⟩
  | k + 1, h => by
    show (pu1 A B v e k && puB A B v e k) = true ↔ _
    rw [Bool.and_eq_true, pu1_iff hv he k (fun f hf => h f (by omega)), puB_iff hv (h k (by omega)) he]
    constructor
    · rintro ⟨h1, h2⟩ f hf
      by_cases q : f = k
      · rw [q]; exact h2
      · exact h1 f (by omega)
    · exact fun h1 => ⟨fun f hf => h1 f (by omega), h1 k (by omega)⟩
theorem pu2_iff : ∀ m, (pu2 A B v m = true ↔ ∀ e, e < m → pu1 A B v e e = true)
  | 0 => ⟨fun _ e he => by omega, fun _ => rfl⟩
  | m + 1 => by
    show (pu2 A B v m && pu1 A B v m m) = true ↔ _
    rw [Bool.and_eq_true, pu2_iff m]
    constructor
    · rintro ⟨h1, h2⟩ e he
      by_cases q : e = m
      · rw [q]; exact h2
      · exact h1 e (by omega)
    · exact fun h1 => ⟨fun f hf => h1 f (by omega), h1 m (by omega)⟩
end PTS
/-- what a stretch's direction costs together with those ahead of it -/
def pad (o w : Nat) (A B : Nat → Nat) (m : Nat) (v tr : Nat → Nat) (k : Nat) (F T : Nat → Nat) (e : Nat) : Nat := o * pap (v e) (tr e) + sm (fun f => pth A B m k F T f e * pct w (pts A B v f e)) e
theorem pco_sum {o w : Nat} {A B : Nat → Nat} {n m : Nat} {v tr : Nat → Nat} {k : Nat} {F T : Nat → Nat} (hv : ∀ e, v e < 8) (h9 : m ≤ 90) (ok : cOK n m A B k F T) : pco o w A B m v tr k F T = sm (pad o w A B m v tr k F T) m := by
  obtain ⟨hn, hk, hl⟩ := ok
  have hab : ∀ e, e < m → A e ≠ B e := fun e he z => hk e he (by rw [z])
  unfold pad pco
  rw [sm_add, sm_ml]
  congr 1
  unfold pth pbs
  have e1 : ∀ e, e < m → sm (fun f => sm (fun l => sm (pt1 A B m (F l) (T l) f e) (tds A B m (F l) (T l) - 1)) k * pct w (pts A B v f e)) e = sm (fun f => sm (fun l => sm (fun j => pt1 A B m (F l) (T l) f e j * pct w (pts A B v f e)) (tds A B m (F l) (T l) - 1)) k) e := by
    intro e he
    refine sm_cg e (fun f hf => ?_)
    rw [sm_mr]
    exact sm_cg k (fun l hl' => sm_mr _ _)
  rw [sm_cg m e1, sm_tri]
  refine sm_cg k (fun l hlk => ?_)
  rw [sm_tri]
  obtain ⟨f1, f2, f3, f4⟩ := hl l hlk
  unfold pbd
  refine sm_cg _ (fun j hj => ?_)
  unfold pb1 pt1
  obtain ⟨t1, t2⟩ := tpe_at hk hn f4 f1 (show j < tds A B m (F l) (T l) by omega)
  obtain ⟨u1, u2⟩ := tpe_at hk hn f4 f1 (show j + 1 < tds A B m (F l) (T l) by omega)
  rw [sm_cg m (fun e he => sm_cg e (g := fun f => (if (tpe A B m (T l) (F l) j = f ∧ tpe A B m (T l) (F l) (j + 1) = e) ∨ (tpe A B m (T l) (F l) j = e ∧ tpe A B m (T l) (F l) (j + 1) = f) then 1 else 0) * pct w (pts A B v f e)) (fun f hf => rfl)), sm_pair (C := fun f e => pct w (pts A B v f e)) (fun a b => by rw [pts_sym hv]) (tpe_ne hk h9 hn f4 f1 (by omega)) t1 u1]
  rw [(pts_at hv (hab _ t1) (hab _ u1) (t2.elim (fun z => Or.inr z.2) (fun z => Or.inl z.2)) (u2.elim (fun z => Or.inl z.1) (fun z => Or.inr z.1))).1]
