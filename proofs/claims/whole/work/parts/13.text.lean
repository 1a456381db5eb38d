/-! rows and text: pure words -/
theorem upd_S (f : Nat → Int32) (k : Nat) (x y : Int32) : upd (upd f k x) k y = upd f k y := by
  funext j
  by_cases e : j = k <;> simp [upd, e]
theorem upd_id (f : Nat → Int32) (k : Nat) {x : Int32} (h : f k = x) : upd f k x = f := by
  funext j
  by_cases e : j = k
  · subst e; simp [upd, h]
  · simp [upd, e]
theorem ewS_id {α : Type} (h : Nat → α) (k : Nat) {f : α} (e : h k = f) : ewS h k f = h := by
  funext j
  by_cases q : j = k
  · subst q; simp [ewS, e]
  · simp [ewS, q]
theorem upd_c (f : Nat → Int32) {k j : Nat} (x y : Int32) (h : k ≠ j) : upd (upd f k x) j y = upd (upd f j y) k x := by
  funext i
  by_cases e : i = k
  · subst e; simp [upd, h]
  · by_cases e2 : i = j
    · subst e2; simp [upd, e]
    · simp [upd, e, e2]
theorem ewS_c {α : Type} (h : Nat → α) {k j : Nat} (f g : α) (e : k ≠ j) : ewS (ewS h k f) j g = ewS (ewS h j g) k f := by
  funext i
  by_cases q : i = k
  · subst q; simp [ewS, e]
  · by_cases q2 : i = j
    · subst q2; simp [ewS, q]
    · simp [ewS, q, q2]
/-- behind the blanks -/
def psk0 (t : Nat → Int32) (n : Nat) : Nat → Nat → Nat
  | 0, i => i
  | f + 1, i => if i < n ∧ t i = 32 then psk0 t n f (i + 1) else i
def psk (t : Nat → Int32) (n i : Nat) : Nat := psk0 t n (n - i) i
theorem psk_go {t : Nat → Int32} {n i : Nat} (h1 : i < n) (h2 : t i = 32) : psk t n i = psk t n (i + 1) := by
  unfold psk
  rw [show n - i = (n - (i + 1)) + 1 by omega]
  show (if i < n ∧ t i = 32 then _ else _) = _
  rw [if_pos ⟨h1, h2⟩]
theorem psk_at {t : Nat → Int32} {n i : Nat} (h : ¬ (i < n ∧ t i = 32)) : psk t n i = i := by
  unfold psk
  cases hk : n - i with
  | zero => rfl
  | succ f => show (if i < n ∧ t i = 32 then _ else _) = _; rw [if_neg h]
theorem psk_le {t : Nat → Int32} {n : Nat} : ∀ (f i : Nat), i + f = n → i ≤ psk t n i ∧ psk t n i ≤ n ∧ ¬ (psk t n i < n ∧ t (psk t n i) = 32)
  | 0, i, h => by
    rw [psk_at (by omega)]
    exact ⟨Nat.le_refl _, by omega, by omega⟩
  | f + 1, i, h => by
    by_cases hc : i < n ∧ t i = 32
    · rw [psk_go hc.1 hc.2]
      have := psk_le (t := t) (n := n) f (i + 1) (by omega)
      exact ⟨by omega, this.2⟩
    · rw [psk_at hc]
      exact ⟨Nat.le_refl _, by omega, hc⟩
/-- a figure -/
def pdc (c : Int32) : Prop := 48 ≤ c.toInt ∧ c.toInt ≤ 57
theorem pdc_dec (c : Int32) : pdc c ∨ ¬ pdc c := Classical.em _
/-- behind the figures -/
def pdg0 (t : Nat → Int32) (n : Nat) : Nat → Nat → Nat
  | 0, i => i
  | f + 1, i => if i < n ∧ 48 ≤ (t i).toInt ∧ (t i).toInt ≤ 57 then pdg0 t n f (i + 1) else i
def pdg (t : Nat → Int32) (n i : Nat) : Nat := pdg0 t n (n - i) i
theorem pdg_go {t : Nat → Int32} {n i : Nat} (h1 : i < n) (h2 : pdc (t i)) : pdg t n i = pdg t n (i + 1) := by
  unfold pdg
  rw [show n - i = (n - (i + 1)) + 1 by omega]
  show (if i < n ∧ 48 ≤ (t i).toInt ∧ (t i).toInt ≤ 57 then _ else _) = _
  rw [if_pos ⟨h1, h2⟩]
theorem pdg_at {t : Nat → Int32} {n i : Nat} (h : ¬ (i < n ∧ pdc (t i))) : pdg t n i = i := by
  unfold pdg
  cases hk : n - i with
  | zero => rfl
  | succ f => exact if_neg h
theorem pdg_le {t : Nat → Int32} {n : Nat} : ∀ (f i : Nat), i + f = n → i ≤ pdg t n i ∧ pdg t n i ≤ n
  | 0, i, h => by
    rw [pdg_at (by omega)]
    exact ⟨Nat.le_refl _, by omega⟩
  | f + 1, i, h => by
    by_cases hc : i < n ∧ pdc (t i)
    · rw [pdg_go hc.1 hc.2]
      have := pdg_le (t := t) (n := n) f (i + 1) (by omega)
      exact ⟨by omega, this.2⟩
    · rw [pdg_at hc]
      exact ⟨Nat.le_refl _, by omega⟩
/-- the number that k figures from p on are; it stays once it is above 1000 -/
def pvl (t : Nat → Int32) (p : Nat) : Nat → Nat
  | 0 => 0
  | k + 1 => if 1000 < pvl t p k then pvl t p k else 10 * pvl t p k + ((t (p + k)).toInt - 48).toNat
/-- a number's place, its end, its value, its fault (lim: as many as there are) -/
def pnp (t : Nat → Int32) (n a : Nat) : Nat := psk t n a
def pnq (t : Nat → Int32) (n a : Nat) : Nat := pdg t n (pnp t n a)
def pnv (t : Nat → Int32) (n a : Nat) : Nat := pvl t (pnp t n a) (pnq t n a - pnp t n a)
def pnf (t : Nat → Int32) (n a lim : Nat) : Nat := if pnq t n a = pnp t n a then 1 else if 2 < pnq t n a - pnp t n a ∨ lim ≤ pnv t n a then 2 else 0
/-- what has been read: at, stations, where, stretches, from, to, lines, from, to -/
abbrev pSt : Type := Nat × (Nat × (Nat → Nat) × (Nat → Nat)) × (Nat × (Nat → Nat) × (Nat → Nat)) × (Nat × (Nat → Nat) × (Nat → Nat))
def pup (f : Nat → Nat) (k v : Nat) : Nat → Nat := fun j => if j = k then v else f j
/-- the tree of a station, by its label, once e stretches are there -/
def plb (A B : Nat → Nat) : Nat → Nat → Nat
  | 0, s => s
  | e + 1, s => if plb A B e s = plb A B e (B e) then plb A B e (A e) else plb A B e s
/-- the sense of a stretch (true) or a line from a to b: 0, or why not -/
def pwy (lb : Nat → Nat) (isE : Bool) (a b : Nat) : Nat := if a = b then 1 else if isE then (if lb a = lb b then 2 else 0) else (if lb a = lb b then 0 else 3)
/-- one clause: a fault (number, place, why), or what has been read then -/
def pcl (t : Nat → Int32) (n : Nat) (z : pSt) : (Nat × Nat × Nat) ⊕ pSt :=
  let p := psk t n z.1
  let c := t p
  if c ≠ 115 ∧ c ≠ 101 ∧ c ≠ 108 then .inl (1, p, 0)
  else if (c = 115 ∧ z.2.1.1 = 8) ∨ (c = 101 ∧ z.2.2.1.1 = 7) ∨ (c = 108 ∧ z.2.2.2.1 = 3) then .inl (3, p, 0)
  else
    let lim := if c = 115 then 100 else z.2.1.1
    if pnf t n (p + 1) lim ≠ 0 then .inl (pnf t n (p + 1) lim, pnp t n (p + 1), 0)
    else
      let a := pnv t n (p + 1)
      let q := pnq t n (p + 1)
      if pnf t n q lim ≠ 0 then .inl (pnf t n q lim, pnp t n q, 0)
      else
        let b := pnv t n q
        let w := if c = 115 then 0 else pwy (plb z.2.2.1.2.1 z.2.2.1.2.2 z.2.2.1.1) (decide (c = 101)) a b
        if w ≠ 0 then .inl (4, pnp t n q, w)
        else
          let r := psk t n (pnq t n q)
          if r < n ∧ t r = 59 then
            .inr (r + 1, if c = 115 then ((z.2.1.1 + 1, pup z.2.1.2.1 z.2.1.1 a, pup z.2.1.2.2 z.2.1.1 b), z.2.2.1, z.2.2.2)
              else if c = 101 then (z.2.1, (z.2.2.1.1 + 1, pup z.2.2.1.2.1 z.2.2.1.1 a, pup z.2.2.1.2.2 z.2.2.1.1 b), z.2.2.2)
              else (z.2.1, z.2.2.1, (z.2.2.2.1 + 1, pup z.2.2.2.2.1 z.2.2.2.1 a, pup z.2.2.2.2.2 z.2.2.2.1 b)))
          else .inl (1, r, 0)
/-- all clauses -/
def ppa (t : Nat → Int32) (n : Nat) : Nat → pSt → (Nat × Nat × Nat) ⊕ pSt
  | 0, z => .inr z
  | f + 1, z => if psk t n z.1 < n then (match pcl t n z with
    | .inl x => .inl x
    | .inr z' => ppa t n f z') else .inr z
def ppS : pSt := (0, (0, fun _ => 0, fun _ => 0), (0, fun _ => 0, fun _ => 0), (0, fun _ => 0, fun _ => 0))
theorem pvl_small (t : Nat → Int32) (p : Nat) : ∀ k, (∀ i, i < k → pdc (t (p + i))) → pvl t p k ≤ 10009
  | 0, _ => by simp [pvl]
  | k + 1, h => by
    have ih := pvl_small t p k (fun i hi => h i (by omega))
    have hd := h k (by omega)
    unfold pdc at hd
    unfold pvl
    split <;> omega
theorem pdg_all {t : Nat → Int32} {n : Nat} : ∀ (f i : Nat), i + f = n → ∀ j, i ≤ j → j < pdg t n i → pdc (t j)
  | 0, i, h, j, h1, h2 => by
    rw [pdg_at (by omega)] at h2
    omega
  | f + 1, i, h, j, h1, h2 => by
    by_cases hc : i < n ∧ pdc (t i)
    · rw [pdg_go hc.1 hc.2] at h2
      by_cases e : j = i
      · subst e; exact hc.2
      · exact pdg_all (t := t) (n := n) f (i + 1) (by omega) j (by omega) h2
    · rw [pdg_at hc] at h2
      omega
