/-! pure: all choices in their order -/
/-- the choices of k stretches from e on, the first ones first -/
def fdS {β : Type} (c : Nat → Nat) (g : Nat → Nat → Nat) (st : β → (Nat → Nat) → β) : Nat → Nat → (Nat → Nat) → β → β
  | _, 0, v, b => st b v
  | e, k + 1, v, b => (List.range (c e)).foldl (fun b i => fdS c g st (e + 1) k (pup v e (g e i)) b) b
def pP (c : Nat → Nat) : Nat → Nat → Nat
  | _, 0 => 1
  | e, k + 1 => c e * pP c (e + 1) k
/-- the w-th of them -/
def dig (c : Nat → Nat) (g : Nat → Nat → Nat) : Nat → Nat → (Nat → Nat) → Nat → Nat → Nat
  | _, 0, v, _ => v
  | e, k + 1, v, w => dig c g (e + 1) k (pup v e (g e (w / pP c (e + 1) k))) (w % pP c (e + 1) k)
theorem fold_mul {β : Type} (F : β → Nat → Nat → β) (p : Nat) (hp : 0 < p) : ∀ (a : Nat) (b : β), (List.range (a * p)).foldl (fun b w => F b (w / p) (w % p)) b = (List.range a).foldl (fun b i => (List.range p).foldl (fun b j => F b i j) b) b
  | 0, b => by simp
  | a + 1, b => by
    rw [Nat.succ_mul, List.range_add, List.foldl_append, fold_mul F p hp a, List.range_succ, List.foldl_append, List.foldl_map]
    show _ = (List.range p).foldl (fun b j => F b a j) _
    have : ∀ (l : List Nat), (∀ j ∈ l, j < p) → ∀ b, l.foldl (fun b y => F b ((a * p + y) / p) ((a * p + y) % p)) b = l.foldl (fun b j => F b a j) b := by
      intro l
      induction l with
      | nil => intro _ b; rfl
      | cons j l ih =>
        intro hl b
        have hj := hl j (by simp)
        show l.foldl _ (F b ((a * p + j) / p) ((a * p + j) % p)) = l.foldl _ (F b a j)
        have e1 : (a * p + j) / p = a := by rw [Nat.mul_comm a p, Nat.mul_add_div hp, Nat.div_eq_of_lt hj, Nat.add_zero]
        have e2 : (a * p + j) % p = j := by rw [Nat.mul_comm a p, Nat.mul_add_mod, Nat.mod_eq_of_lt hj]
        rw [e1, e2]
        exact ih (fun j hj => hl j (by simp [hj])) _
    exact this _ (fun j hj => List.mem_range.mp hj) _
theorem pP_pos {c : Nat → Nat} (hc : ∀ e, 0 < c e) : ∀ k e, 0 < pP c e k
  | 0, _ => by show 0 < 1; omega
  | k + 1, e => Nat.mul_pos (hc e) (pP_pos hc k (e + 1))
/-- one after the other, or by the numbers of all of them -/
theorem fdS_dig {β : Type} {c : Nat → Nat} {g : Nat → Nat → Nat} {st : β → (Nat → Nat) → β} (hc : ∀ e, 0 < c e) : ∀ k e v b, fdS c g st e k v b = (List.range (pP c e k)).foldl (fun b w => st b (dig c g e k v w)) b
  | 0, e, v, b => by show st b v = _; simp [pP, dig]
  | k + 1, e, v, b => by
    show (List.range (c e)).foldl (fun b i => fdS c g st (e + 1) k (pup v e (g e i)) b) b = (List.range (c e * pP c (e + 1) k)).foldl (fun b w => st b (dig c g (e + 1) k (pup v e (g e (w / pP c (e + 1) k))) (w % pP c (e + 1) k))) b
    rw [fold_mul (fun b i j => st b (dig c g (e + 1) k (pup v e (g e i)) j)) _ (pP_pos hc k (e + 1))]
    congr 1
    funext b i
    exact fdS_dig hc k (e + 1) _ b
theorem dig_lo {c : Nat → Nat} {g : Nat → Nat → Nat} : ∀ k e v w j, j < e ∨ e + k ≤ j → dig c g e k v w j = v j
  | 0, _, _, _, _, _ => rfl
  | k + 1, e, v, w, j, h => by
    show dig c g (e + 1) k _ _ j = v j
    rw [dig_lo k (e + 1) _ _ j (by omega), pup_ne _ _ (by omega)]
theorem dig_in {c : Nat → Nat} {g : Nat → Nat → Nat} : ∀ k e v v' w j, e ≤ j → j < e + k → dig c g e k v w j = dig c g e k v' w j
  | 0, _, _, _, _, _, _, _ => by omega
  | k + 1, e, v, v', w, j, h1, h2 => by
    show dig c g (e + 1) k _ _ j = dig c g (e + 1) k _ _ j
    by_cases h : j = e
    · subst h
      rw [dig_lo k _ _ _ j (by omega), dig_lo k _ _ _ j (by omega), pup_self, pup_self]
    · exact dig_in k (e + 1) _ _ _ j (by omega) (by omega)
/-- what is chosen at a stretch: the number's own place -/
theorem dig_at {c : Nat → Nat} {g : Nat → Nat → Nat} (k e : Nat) (v : Nat → Nat) (w : Nat) : dig c g e (k + 1) v (w % pP c e (k + 1)) e = g e (w / pP c (e + 1) k % c e) := by
  show dig c g (e + 1) k _ _ e = _
  rw [dig_lo k _ _ _ e (by omega), pup_self]
  show g e (w % (c e * pP c (e + 1) k) / pP c (e + 1) k) = _
  rw [Nat.mod_mul_left_div_self]
theorem dig_up {c : Nat → Nat} {g : Nat → Nat → Nat} (k e : Nat) (v : Nat → Nat) (w j : Nat) (h1 : e < j) (h2 : j < e + 1 + k) : dig c g e (k + 1) v (w % pP c e (k + 1)) j = dig c g (e + 1) k v (w % pP c (e + 1) k) j := by
  show dig c g (e + 1) k _ ((w % (c e * pP c (e + 1) k)) % pP c (e + 1) k) j = _
  rw [Nat.mod_mul_left_mod]
  exact dig_in k (e + 1) _ _ _ j (by omega) h2
/-- nothing is taken: nothing has changed -/
theorem fdS_skip {β : Type} {c : Nat → Nat} {g : Nat → Nat → Nat} {st : β → (Nat → Nat) → β} {b : β} : ∀ k e v, (∀ v', (∀ j, j < e → v' j = v j) → st b v' = b) → fdS c g st e k v b = b
  | 0, _, v, h => h v (fun _ _ => rfl)
  | k + 1, e, v, h => by
    show (List.range (c e)).foldl (fun b i => fdS c g st (e + 1) k (pup v e (g e i)) b) b = b
    have : ∀ (l : List Nat), l.foldl (fun b i => fdS c g st (e + 1) k (pup v e (g e i)) b) b = b := by
      intro l
      induction l with
      | nil => rfl
      | cons i l ih =>
        show l.foldl _ (fdS c g st (e + 1) k (pup v e (g e i)) b) = b
        rw [fdS_skip k (e + 1) (pup v e (g e i)) (fun v' hv => h v' (fun j hj => by rw [hv j (by omega), pup_ne _ _ (by omega)]))]
        exact ih
    exact this _
theorem foldr_s {β : Type} (f : β → Nat → β) (n : Nat) (b : β) : (List.range (n + 1)).foldl f b = f ((List.range n).foldl f b) n := by
  rw [List.range_succ, List.foldl_append]; rfl
