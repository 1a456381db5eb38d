/-! int[][]: an array of N arrays of K zeros, made at once -/
def mzO (c : ClassId) (N a i : Nat) : Cell := arrV c N (fun j => if j < i then .ref (a + 1 + j) else .null)
def mzI (c : ClassId) (K : Nat) : Cell := arrV c K (fun _ => .int 0)
/-- when i of the rows are made -/
def mzT (s : State) (c comp : ClassId) (N K i : Nat) : State := { s with heap := s.heap.push (mzO c N s.heap.size i) ++ Array.replicate i (mzI comp K), slotsUsed := s.slotsUsed + N + i * K }
theorem mzO_0 (c : ClassId) (N a : Nat) : mzO c N a 0 = arrV c N (fun _ => .null) := arrV_cg (fun j _ => if_neg (Nat.not_lt_zero j))
theorem mzO_N (c : ClassId) (N a : Nat) : mzO c N a N = arrV c N (fun j => .ref (a + 1 + j)) := arrV_cg (fun j hj => if_pos hj)
theorem mzO_s (c : ClassId) (N a i : Nat) : (mzO c N a i).setSlot i (.ref (a + 1 + i)) = mzO c N a (i + 1) := by
  unfold mzO
  rw [arrV_store]
  refine arrV_cg (fun j _ => ?_)
  unfold updV
  by_cases e : j = i
  · rw [if_pos e, if_pos (by omega), e]
  · rw [if_neg e]
    dsimp only
    by_cases h : j < i
    · rw [if_pos h, if_pos (by omega)]
    · rw [if_neg h, if_neg (by omega)]
theorem mzI_sz (c : ClassId) (K : Nat) : (mzI c K).slots.size = K := arrV_size _ _ _
theorem mzT_0 (s : State) (c comp : ClassId) (N K : Nat) : s.pushCell (mzO c N s.heap.size 0) = mzT s c comp N K 0 := by
  unfold State.pushCell mzT
  rw [show (mzO c N s.heap.size 0).slots.size = N from arrV_size _ _ _]
  simp
theorem mzT_heap (s : State) (c comp : ClassId) (N K i : Nat) : (mzT s c comp N K i).heap = s.heap.push (mzO c N s.heap.size i) ++ Array.replicate i (mzI comp K) := rfl
theorem mzT_size (s : State) (c comp : ClassId) (N K i : Nat) : (mzT s c comp N K i).heap.size = s.heap.size + 1 + i := by
  rw [mzT_heap, Array.size_append, Array.size_push, Array.size_replicate]
theorem mzT_top (s : State) (c comp : ClassId) (N K i : Nat) : (mzT s c comp N K i).heap[s.heap.size]? = some (mzO c N s.heap.size i) := by
  rw [mzT_heap, Array.getElem?_append_left (by rw [Array.size_push]; omega), Array.getElem?_push_size]
theorem mzT_old (s : State) (c comp : ClassId) (N K i : Nat) {q : Nat} (hq : q < s.heap.size) : (mzT s c comp N K i).heap[q]? = s.heap[q]? := by
  rw [mzT_heap, Array.getElem?_append_left (by rw [Array.size_push]; omega), Array.getElem?_push, if_neg (Nat.ne_of_lt hq)]
theorem mzT_row (s : State) (c comp : ClassId) (N K i : Nat) {j : Nat} (hj : j < i) : (mzT s c comp N K i).heap[s.heap.size + 1 + j]? = some (mzI comp K) := by
  rw [mzT_heap, Array.getElem?_append_right (by rw [Array.size_push]; omega), Array.size_push, show s.heap.size + 1 + j - (s.heap.size + 1) = j by omega, Array.getElem?_replicate, if_pos hj]
theorem mzT_s (s : State) (c comp : ClassId) (N K i : Nat) : ((mzT s c comp N K i).pushCell (mzI comp K)).setCell s.heap.size (mzO c N s.heap.size (i + 1)) = mzT s c comp N K (i + 1) := by
  have eh : ((s.heap.push (mzO c N s.heap.size i) ++ Array.replicate i (mzI comp K)).push (mzI comp K)).setIfInBounds s.heap.size (mzO c N s.heap.size (i + 1)) = s.heap.push (mzO c N s.heap.size (i + 1)) ++ Array.replicate (i + 1) (mzI comp K) := by
    apply Array.ext_getElem?
    intro q
    rw [Array.getElem?_setIfInBounds]
    by_cases q0 : s.heap.size = q
    · subst q0
      rw [if_pos rfl, if_pos (by simp; omega), Array.getElem?_append_left (by rw [Array.size_push]; omega), Array.getElem?_push_size]
    · rw [if_neg q0, Array.getElem?_push]
      have sz : (s.heap.push (mzO c N s.heap.size i) ++ Array.replicate i (mzI comp K)).size = s.heap.size + 1 + i := by rw [Array.size_append, Array.size_push, Array.size_replicate]
      rw [sz]
      by_cases q1 : q < s.heap.size
      · rw [if_neg (by omega), Array.getElem?_append_left (by rw [Array.size_push]; omega), Array.getElem?_append_left (by rw [Array.size_push]; omega), Array.getElem?_push, Array.getElem?_push, if_neg (by omega), if_neg (by omega)]
      · rw [Array.getElem?_append_right (xs := s.heap.push (mzO c N s.heap.size (i + 1))) (by rw [Array.size_push]; omega), Array.size_push, Array.getElem?_replicate]
        by_cases q2 : q = s.heap.size + 1 + i
        · rw [if_pos q2, if_pos (by omega)]
        · rw [if_neg q2, Array.getElem?_append_right (by rw [Array.size_push]; omega), Array.size_push, Array.getElem?_replicate]
          by_cases q3 : q - (s.heap.size + 1) < i
          · rw [if_pos q3, if_pos (by omega)]
          · rw [if_neg q3, if_neg (by omega)]
  unfold State.setCell State.pushCell mzT
  rw [mzI_sz]
  dsimp only
  rw [eh, Nat.succ_mul, ← Nat.add_assoc]
theorem mzT_top' (s : State) (f : JFrame) (c comp : ClassId) (N K i : Nat) : mzT (s.setTop f) c comp N K i = (mzT s c comp N K i).setTop f := rfl
section MZ
variable {E : CtlPost} {e : Env} {d : Bool} {acts : List Action} {s : State}
theorem mz_new {c comp : ClassId} {k : Class} {ty : FieldType} {len : Nat} {v : Value} (hk : s.vm.classes[c]? = some k) (hc : k.kind = .array comp ty) (h1 : len ≤ e.platform.arrayLengthLimit) (h2 : len * componentBytes ty ≤ e.platform.maxHeapBytes) (hf : fits ty v = true) (hv : v.isDefault = true)
    (h3 : s.heap.size < e.platform.maxCells) (h4 : s.slotsUsed + len ≤ e.platform.maxSlots) {Q : Addr → Pre} (hq : Q s.heap.size d acts (s.pushCell (arrV c len (fun _ => v)))) : wp (Jvm.newArray c len v) Q E e d acts s := by
  have a1 : ¬ len > e.platform.arrayLengthLimit := by omega
  have a2 : ¬ len * componentBytes ty > e.platform.maxHeapBytes := by omega
  have ac : allocActs (Array.replicate len v) s.heap.size acts = acts := by
    unfold allocActs
    rw [if_pos]
    rw [Array.all_replicate]
    split
    · rfl
    · exact hv
  rw [← arrV_new] at hq
  simp only [Jvm.newArray, Jvm.arrayFits, wp_bind', Jvm.W.ask, Jvm.W.ite, a1, if_false, wp_pure', Jvm.W.theClass, hk, hc, a2, Jvm.W.alloc, Jvm.W.stop, Option.some.injEq, exists_eq_left', Array.size_replicate, ac]
  rw [if_neg (by omega)]
  refine ⟨h3, h4, fun i x hx => ?_, hq⟩
  rw [Array.getElem?_replicate] at hx
  split at hx
  · cases hx
    simp [State.fitsSlot, State.slotType?, hk, hc, hf]
  · cases hx
theorem mz_make {cA comp cc : ClassId} {kA kC : Class} {N K : Nat} (hkA : s.vm.classes[cA]? = some kA) (hA : kA.kind = .array comp (.array .int)) (hkC : s.vm.classes[comp]? = some kC) (hC : kC.kind = .array cc .int) (hN : N ≤ 100) (hK : K ≤ 100)
    (h1 : 100 ≤ e.platform.arrayLengthLimit) (h2 : 400 ≤ e.platform.maxHeapBytes) (hc : s.heap.size + (1 + N) ≤ e.platform.maxCells) (hs : s.slotsUsed + (N + N * K) ≤ e.platform.maxSlots) {Q : Addr → Pre} (hq : ∀ d' acts', Q s.heap.size d' acts' (mzT s cA comp N K N)) : wp (Op.multianewarray.make cA [nI N, nI K]) Q E e d acts s := by
  have n0 : ¬ nI N < 0 := nI_nlt (b := 0) (Nat.zero_le _) (by omega)
  have k0 : ¬ nI K < 0 := nI_nlt (b := 0) (Nat.zero_le _) (by omega)
  have nn : (nI N).toNatClampNeg = N := nI_clamp (by omega)
  have kn : (nI K).toNatClampNeg = K := nI_clamp (by omega)
  have fd : ([nI K].find? (· < 0)) = none := by simp [k0]
  rw [Op.multianewarray.make]
  simp only [wp_bind', Jvm.W.ite, n0, if_false, wp_pure', Jvm.W.theClass, hkA, hA, Option.some.injEq, exists_eq_left', nn]
  refine mz_new hkA hA (by omega) (by show N * 4 ≤ _; omega) rfl rfl (by omega) (by have := Nat.zero_le (N * K); omega) ?_
  rw [← mzO_0 cA N s.heap.size, mzT_0 s cA comp N K]
  simp only [fd]
  rw [ite_self, wp_bind', Std.Legacy.Range.forIn_eq_forIn_range']
  have rs : ([:N] : Std.Legacy.Range).size = N := by simp [Std.Legacy.Range.size]
  rw [rs]
  show wp (forIn (List.range' 0 N 1) PUnit.unit _) _ E e d acts _
  refine wp_forIn_inv (fun rest s' => ∃ i, i ≤ N ∧ rest = List.range' i (N - i) ∧ s' = mzT s cA comp N K i) _ _ ⟨0, Nat.zero_le _, rfl, rfl⟩ ?_ ?_
  · rintro x rest s' d' acts' Q' ⟨i, hi, hl, rfl⟩ next
    by_cases iN : i < N
    · rw [show N - i = (N - (i + 1)) + 1 by omega, List.range'_succ] at hl
      obtain ⟨rfl, hr⟩ := List.cons.inj hl
      have vm : (mzT s cA comp N K x).vm = s.vm := rfl
      have su : (mzT s cA comp N K x).slotsUsed = s.slotsUsed + N + x * K := rfl
      have mul : x * K + K ≤ N * K := by
        have := Nat.mul_le_mul_right K (show x + 1 ≤ N from iN)
        rw [Nat.succ_mul] at this; exact this
      simp only [wp_bind']
      rw [Op.multianewarray.make]
      simp only [wp_bind', Jvm.W.ite, k0, if_false, wp_pure', Jvm.W.theClass, vm, hkC, hC, Option.some.injEq, exists_eq_left', kn]
      refine mz_new (by rw [vm]; exact hkC) hC (by omega) (by show K * 4 ≤ _; omega) rfl rfl (by rw [mzT_size]; omega) (by rw [su]; omega) ?_
      show wp _ _ _ _ _ _ ((mzT s cA comp N K x).pushCell (mzI comp K))
      simp only [wp_bind', Jvm.W.writeLoc, wp_pure']
      have hlt : s.heap.size < (mzT s cA comp N K x).heap.size := by rw [mzT_size]; omega
      refine ⟨mzO cA N s.heap.size x, (by rw [State.heap_pushCell_of_lt (h := hlt)]; exact mzT_top s cA comp N K x), (fun z => by cases z), (by rw [show (mzO cA N s.heap.size x).slots.size = N from arrV_size _ _ _]; exact iN), ?_, next _ _ _ ⟨x + 1, iN, hr, ?_⟩⟩
      · show State.fitsSlot ((mzT s cA comp N K x).pushCell (mzI comp K)) cA .none x _ = true
        have vm2 : ((mzT s cA comp N K x).pushCell (mzI comp K)).vm = s.vm := rfl
        simp [State.fitsSlot, State.slotType?, vm, hkA, hA, fits]
      · rw [mzT_size, mzO_s, mzT_s]
    · rw [show N - i = 0 by omega] at hl
      cases hl
  · rintro s' d' acts' ⟨i, hi, hl, rfl⟩
    by_cases iN : i < N
    · rw [show N - i = (N - (i + 1)) + 1 by omega, List.range'_succ] at hl
      cases hl
    · have : i = N := by omega
      subst this
      simp only [wp_pure']
      exact hq _ _
end MZ
