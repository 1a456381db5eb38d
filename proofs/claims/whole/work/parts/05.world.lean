/-! THE WORLD: what the machine's heap holds, by the rows of cells -/
def ewV (φ : Nat → Nat) : Value → Value
  | .ref k => .ref (φ k)
  | v => v
def ewRo (φ : Nat → Nat) (x : Nat) : Option Nat := if x = 100000 then none else some (φ x)
def ewAsc (φ : Nat → Nat) : Nat → eL → List (Nat × Value)
  | _, [] => []
  | n, none :: l => ewAsc φ (n + 1) l
  | n, some v :: l => (n, ewV φ v) :: ewAsc φ (n + 1) l
theorem ewAsc_mem (φ : Nat → Nat) : ∀ (l : eL) (n i : Nat) (v : Value), (i, v) ∈ ewAsc φ n l ↔ ∃ (j : Nat) (w : Value), i = n + j ∧ ewAt l j = some w ∧ v = ewV φ w
  | [], n, i, v => by simp [ewAsc, ewAt]
  | none :: l, n, i, v => by
    rw [ewAsc, ewAsc_mem φ l (n + 1) i v]
    constructor
    · rintro ⟨j, w, h1, h2, h3⟩
      exact ⟨j + 1, w, by omega, h2, h3⟩
    · rintro ⟨j, w, h1, h2, h3⟩
      cases j with
      | zero => cases h2
      | succ j => exact ⟨j, w, by omega, h2, h3⟩
  | some u :: l, n, i, v => by
    rw [ewAsc, List.mem_cons, ewAsc_mem φ l (n + 1) i v]
    constructor
    · rintro (h | ⟨j, w, h1, h2, h3⟩)
      · cases h
        exact ⟨0, u, rfl, rfl, rfl⟩
      · exact ⟨j + 1, w, by omega, h2, h3⟩
    · rintro ⟨j, w, h1, h2, h3⟩
      cases j with
      | zero =>
        cases h2
        exact Or.inl (by rw [h1, h3]; rfl)
      | succ j => exact Or.inr ⟨j, w, by omega, h2, h3⟩
theorem ewAsc_at {φ : Nat → Nat} {l : eL} {i : Nat} {w : Value} (h : ewAt l i = some w) : (i, ewV φ w) ∈ ewAsc φ 0 l := (ewAsc_mem φ l 0 i _).mpr ⟨i, w, by omega, h, rfl⟩
theorem ewHas_at {φ : Nat → Nat} {Ls : Array Slot} {n : Nat} {l : eL} {i : Nat} {w : Value} (hl : lv_has Ls n (ewAsc φ 0 l)) (h : ewAt l i = some w) : Ls[i]? = some (.val (ewV φ w)) := hl.2.2 _ (ewAsc_at h)
theorem ewV_cat (φ : Nat → Nat) (v : Value) : (ewV φ v).category = v.category := by cases v <;> rfl
theorem ewAt_set : ∀ (l : eL) (i j : Nat) (v w : Value), ewAt (ewSet l i v) j = some w → (j = i ∧ w = v) ∨ (j ≠ i ∧ ewAt l j = some w)
  | [], i, j, v, w, h => by cases h
  | a :: l, 0, 0, v, w, h => by cases h; exact Or.inl ⟨rfl, rfl⟩
  | a :: l, 0, j + 1, v, w, h => Or.inr ⟨by omega, h⟩
  | a :: l, i + 1, 0, v, w, h => Or.inr ⟨by omega, h⟩
  | a :: l, i + 1, j + 1, v, w, h => by
    rcases ewAt_set l i j v w h with ⟨h1, h2⟩ | ⟨h1, h2⟩
    · exact Or.inl ⟨by omega, h2⟩
    · exact Or.inr ⟨by omega, h2⟩
theorem ewAt_set2 : ∀ (l : eL) (i j : Nat) (v w : Value), i + 1 < l.length → ewAt (ewSet2 l i v) j = some w → (j = i ∧ w = v) ∨ (j ≠ i ∧ j ≠ i + 1 ∧ ewAt l j = some w)
  | [], i, j, v, w, hl, h => by simp at hl
  | [a], i, j, v, w, hl, h => by simp at hl
  | a :: b :: l, 0, 0, v, w, hl, h => by cases h; exact Or.inl ⟨rfl, rfl⟩
  | a :: b :: l, 0, 1, v, w, hl, h => by cases h
  | a :: b :: l, 0, j + 2, v, w, hl, h => Or.inr ⟨by omega, by omega, h⟩
  | a :: b :: l, i + 1, 0, v, w, hl, h => Or.inr ⟨by omega, by omega, h⟩
  | a :: b :: l, i + 1, j + 1, v, w, hl, h => by
    rcases ewAt_set2 (b :: l) i j v w (by simp at hl ⊢; omega) h with ⟨h1, h2⟩ | ⟨h1, h2, h3⟩
    · exact Or.inl ⟨by omega, h2⟩
    · exact Or.inr ⟨by omega, by omega, h3⟩
theorem ewNL_lt (l : eL) (i : Nat) (h : ewNL l i = true) : i < l.length := by
  unfold ewNL at h
  rw [Bool.and_eq_true] at h
  exact Nat.le_of_ble_eq_true h.1
theorem ewNL_at (l : eL) (i j : Nat) (w : Value) (h : ewNL l i = true) (h2 : ewAt l j = some w) (h3 : j + 1 = i) : w.category ≠ 2 := by
  subst h3
  unfold ewNL at h
  rw [Bool.and_eq_true] at h
  have h4 := h.2
  simp only [h2] at h4
  cases w <;> simp [Value.category, ewLong] at h4 ⊢
theorem ewAt_lt : ∀ (l : eL) (i : Nat) (w : Value), ewAt l i = some w → i < l.length
  | [], i, w, h => by cases h
  | _ :: _, 0, w, h => by simp
  | a :: l, i + 1, w, h => by
    have := ewAt_lt l i w h
    simp
    omega
theorem ewHas_set {φ : Nat → Nat} {Ls : Array Slot} {n : Nat} {l : eL} {i : Nat} {v : Value} (hnl : ewNL l i = true) (h : lv_has Ls n ((i, ewV φ v) :: (ewAsc φ 0 l).filter (fun q => !(q.1 == i) && !(q.1 + 1 == i && q.2.category == 2)))) : lv_has Ls n (ewAsc φ 0 (ewSet l i v)) := by
  refine ⟨h.1, h.2.1, fun q hq => h.2.2 q ?_⟩
  obtain ⟨a, u⟩ := q
  obtain ⟨j, w, h1, h2, h3⟩ := (ewAsc_mem φ _ 0 a u).mp hq
  rcases ewAt_set _ _ _ _ _ h2 with ⟨e1, e2⟩ | ⟨e1, e2⟩
  · subst e1; subst e2; subst h3
    rw [show a = j by omega]
    exact List.mem_cons_self
  · refine List.mem_cons_of_mem _ (List.mem_filter.mpr ⟨(ewAsc_mem φ _ 0 a u).mpr ⟨j, w, h1, e2, h3⟩, ?_⟩)
    have ea : a = j := by omega
    subst ea
    have e3 : ¬ (a + 1 = i ∧ u.category = 2) := by
      rintro ⟨e4, e5⟩
      rw [h3, ewV_cat] at e5
      exact ewNL_at l i a w hnl e2 e4 e5
    by_cases e4 : a + 1 = i
    · have : ¬ u.category = 2 := fun h => e3 ⟨e4, h⟩
      simp [e1, this]
    · simp [e1, e4]
theorem ewHas_set2 {φ : Nat → Nat} {Ls : Array Slot} {n : Nat} {l : eL} {i : Nat} {v : Value} (hln : i + 1 < l.length) (hnl : ewNL l i = true) (h : lv_has Ls n ((i, ewV φ v) :: (ewAsc φ 0 l).filter (fun q => !(q.1 == i) && (!(q.1 == i + 1) && !(q.1 + 1 == i && q.2.category == 2))))) : lv_has Ls n (ewAsc φ 0 (ewSet2 l i v)) := by
  refine ⟨h.1, h.2.1, fun q hq => h.2.2 q ?_⟩
  obtain ⟨a, u⟩ := q
  obtain ⟨j, w, h1, h2, h3⟩ := (ewAsc_mem φ _ 0 a u).mp hq
  rcases ewAt_set2 _ _ _ _ _ hln h2 with ⟨e1, e2⟩ | ⟨e1, e0, e2⟩
  · subst e1; subst e2; subst h3
    rw [show a = j by omega]
    exact List.mem_cons_self
  · refine List.mem_cons_of_mem _ (List.mem_filter.mpr ⟨(ewAsc_mem φ _ 0 a u).mpr ⟨j, w, h1, e2, h3⟩, ?_⟩)
    have ea : a = j := by omega
    subst ea
    have e3 : ¬ (a + 1 = i ∧ u.category = 2) := by
      rintro ⟨e4, e5⟩
      rw [h3, ewV_cat] at e5
      exact ewNL_at l i a w hnl e2 e4 e5
    by_cases e4 : a + 1 = i
    · have : ¬ u.category = 2 := fun h => e3 ⟨e4, h⟩
      simp [e1, e0, this]
    · simp [e1, e0, e4]
theorem ewLen_set : ∀ (l : eL) (i : Nat) (v : Value), (ewSet l i v).length = l.length
  | [], _, _ => rfl
  | _ :: _, 0, _ => rfl
  | a :: l, i + 1, v => by simp [ewSet, ewLen_set l i v]
theorem ewLen_set2 : ∀ (l : eL) (i : Nat) (v : Value), (ewSet2 l i v).length = l.length
  | [], 0, _ => rfl
  | [], _ + 1, _ => rfl
  | [_], 0, _ => rfl
  | [_], i + 1, v => by cases i <;> rfl
  | _ :: _ :: _, 0, _ => rfl
  | a :: b :: l, i + 1, v => by simp [ewSet2, ewLen_set2 (b :: l) i v]
/-- a cell by its kind -/
def ewEnt (φ : Nat → Nat) (c4 : ClassId × ClassId × ClassId × ClassId) (S : eS) (k : Nat) : va_E :=
  if kK k < 9 then .inr (kK k, (List.range (ewN (kK k))).map (fun j => if ewFT (kK k) j = 2 then va_rf (ewRo φ (S.2.1 k j)) else .int (S.2.2 k j)))
  else if kK k = 9 then .inl (c4.1, kL k, .inl (S.2.2 k))
  else if kK k = 10 then .inl (c4.2.1, kL k, .inl (S.2.2 k))
  else if kK k = 11 then .inl (c4.2.2.1, kL k, .inr (.inr (.inr (.inr (fun j => ewRo φ (S.2.1 k j))))))
  else .inl (c4.2.2.2, kL k, .inr (.inr (.inr (.inr (fun j => ewRo φ (S.2.1 k j))))))
def ewWs (φ : Nat → Nat) (c4 : ClassId × ClassId × ClassId × ClassId) (S : eS) : va_W := (List.range S.1).map (fun k => (φ k, ewEnt φ c4 S k))
theorem ewWs_at {φ : Nat → Nat} {c4 : ClassId × ClassId × ClassId × ClassId} {S : eS} {k : Nat} (h : k < S.1) : (ewWs φ c4 S)[k]? = some (φ k, ewEnt φ c4 S k) := by
  unfold ewWs
  rw [List.getElem?_map, List.getElem?_range h]
  rfl
theorem ewWs_set {φ : Nat → Nat} {c4 : ClassId × ClassId × ClassId × ClassId} {S S' : eS} {k : Nat} (h0 : S'.1 = S.1) (hn : ∀ q, q < S.1 → q ≠ k → ewEnt φ c4 S' q = ewEnt φ c4 S q) : (ewWs φ c4 S).set k (φ k, ewEnt φ c4 S' k) = ewWs φ c4 S' := by
  apply List.ext_getElem?
  intro i
  by_cases hk : k = i
  · subst hk
    by_cases hl : k < S.1
    · rw [List.getElem?_set_self (by simp [ewWs, hl]), ewWs_at (by rw [h0]; exact hl)]
    · rw [List.getElem?_eq_none (by simp [ewWs]; omega), List.getElem?_eq_none (by simp [ewWs]; omega)]
  · rw [List.getElem?_set_ne hk]
    by_cases hl : i < S.1
    · rw [ewWs_at hl, ewWs_at (by rw [h0]; exact hl), hn i hl (Ne.symm hk)]
    · rw [List.getElem?_eq_none (by simp [ewWs]; omega), List.getElem?_eq_none (by simp [ewWs]; omega)]
theorem ewWs_push {φ : Nat → Nat} {c4 : ClassId × ClassId × ClassId × ClassId} {S : eS} : ewWs φ c4 (S.1 + 1, S.2.1, S.2.2) = ewWs φ c4 S ++ [(φ S.1, ewEnt φ c4 S S.1)] := by
  unfold ewWs
  rw [List.range_succ, List.map_append]
  rfl
theorem ewEnt_h {φ : Nat → Nat} {c4 : ClassId × ClassId × ClassId × ClassId} {S S' : eS} {q : Nat} (h1 : S'.2.1 q = S.2.1 q) (h2 : S'.2.2 q = S.2.2 q) : ewEnt φ c4 S' q = ewEnt φ c4 S q := by
  unfold ewEnt
  rw [h1, h2]
theorem ewS_self {α : Type} (h : Nat → α) (k : Nat) (f : α) : ewS h k f k = f := if_pos rfl
theorem ewS_ne {α : Type} (h : Nat → α) {k q : Nat} (f : α) (e : q ≠ k) : ewS h k f q = h q := if_neg e
theorem ewTk_of {S : eS} {k c : Nat} (h : ewTk S k c = true) : kK k = c ∧ k < S.1 := by
  unfold ewTk at h
  rw [Bool.and_eq_true] at h
  exact ⟨Nat.eq_of_beq_eq_true h.1, Nat.le_of_ble_eq_true h.2⟩
/-- the heap holds the cells -/
def ewW (D : va_G) (c4 : ClassId × ClassId × ClassId × ClassId) (φ : Nat → Nat) (B : Nat) (S : eS) (H : Heap) : Prop :=
  va_P D ewCl (ewWs φ c4 S) H ∧ va_D (fun q => B ≤ q) (ewWs φ c4 S) ∧ S.1 ≤ 229
abbrev ewTys (c4 : ClassId × ClassId × ClassId × ClassId) : List (ClassId × FieldType) := [(c4.1, .int), (c4.2.1, .boolean), (c4.2.2.1, .object "EightWays$Setting"), (c4.2.2.2, .array .int)]
/-- int[][]: its class, over int[] -/
def ewAO (s : State) : Prop := ∃ (comp c : ClassId) (k : Class), s.vm.findClass "[I" = some comp ∧ s.vm.classes[c]? = some k ∧ k.kind = .array comp (.array .int) ∧ s.vm.findClass "[[I" = some c
def ewE (X : Nat × (Nat → Int32)) (D : va_G) (c4 : ClassId × ClassId × ClassId × ClassId) (φ : Nat → Nat) (B : Nat) (s : State) (H : Heap) : Prop :=
  va_K D ewCl (ewTys c4) s ∧ (∀ j, j < 6 → va_Z "EightWays" (ewSn j) "[I" (.ref (φ (200000 + j))) (fun q => B ≤ q) s H ∧ va_T .int (φ (200000 + j)) (ewSl j) (fun i => .int (ewSv j i)) (fun q => B ≤ q) s H) ∧ (va_X (φ 300000) X.1 X.2 s H ∧ φ 300000 < B) ∧ B ≤ H.size ∧ (∀ w ∈ lw_tbl, ewNst w = true → va_Nw w s) ∧ va_AO "EightWays$Setting" s ∧ ewAO s
theorem ewAO.moved {s t : State} (hvm : s.vm.Alike t.vm) (h : ewAO s) : ewAO t := by
  obtain ⟨comp, c, k, h1, h2, h3, h4⟩ := h
  obtain ⟨k', hk', he⟩ := hvm.2.2 _ _ h2
  exact ⟨comp, c, k', by rw [hvm.findClass]; exact h1, hk', by rw [he]; exact h3, by rw [hvm.findClass]; exact h4⟩
theorem ewNst.warm {s t : State} {w : Cond} (hW : s.WarmedH t.vm) (hn : ewNst w = true) (h : va_Nw w s) : va_Nw w t := by
  cases w with
  | methodLinkNest => exact va_Nw.warmM hW h
  | fieldLinkNest => exact va_Nw.warmF hW h
  | _ => cases hn
theorem ewE.moved {X : Nat × (Nat → Int32)} {D : va_G} {c4 : ClassId × ClassId × ClassId × ClassId} {φ : Nat → Nat} {B : Nat} {s t : State} {H H1 : Heap} (h : ewE X D c4 φ B s H) (hW : s.WarmedH t.vm) (hz : H.size ≤ H1.size) (hq : ∀ a : Nat, a < H.size → ¬ B ≤ a → H1[a]? = H[a]?) : ewE X D c4 φ B t H1 := by
  obtain ⟨h1, h2, ⟨h3, h4⟩, h5, h6, h7, h8⟩ := h
  have hvm := hW.alike
  refine ⟨h1.moved hvm, fun j hj => ⟨((h2 j hj).1.kept hq).moved hvm, ((h2 j hj).2.kept hq).moved hvm⟩, ⟨(h3.kept (hq _ (by omega) (by omega))).moved hvm, h4⟩, by omega, fun w hw hn => ewNst.warm hW hn (h6 w hw hn), h7.moved hvm, h8.moved hvm⟩
