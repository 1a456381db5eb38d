/-! int[][]: the instruction -/
section MZ2
variable {p : Program} {l : Launch} {e : Env} {R : Room} {s : State} {m : MethodId} {args : Array Value} {below : List Frame} {meth : Method} {c : Code} {locs : List Loc} {cells slots : Nat}
theorem mz_stand {T : State} (X : Stand p l e R s m args below meth c T locs cells slots) (cA comp : ClassId) (N K : Nat) : ∀ i, Stand p l e R s m args below meth c (mzT T cA comp N K i) locs (cells + (1 + i)) (slots + (N + i * K))
  | 0 => by
    have h := X.pushed (mzO cA N T.heap.size 0)
    rw [show (mzO cA N T.heap.size 0).slots.size = N from arrV_size _ _ _, mzT_0 T cA comp N K] at h
    rw [show slots + (N + 0 * K) = slots + N by omega]
    exact h
  | i + 1 => by
    have Xi := mz_stand X cA comp N K i
    have hlt : T.heap.size < (mzT T cA comp N K i).heap.size := by rw [mzT_size]; omega
    have hcell : ((mzT T cA comp N K i).pushCell (mzI comp K)).heap[T.heap.size]? = some (mzO cA N T.heap.size i) := by rw [State.heap_pushCell_of_lt (h := hlt)]; exact mzT_top T cA comp N K i
    have h := ((Xi.pushed (mzI comp K)).stored hcell i (.ref (T.heap.size + 1 + i))).dropFresh (fun x hx => by
      rw [List.mem_singleton] at hx
      rw [hx]
      exact X.heapGrown)
    rw [mzO_s, mzT_s, mzI_sz] at h
    rw [show slots + (N + (i + 1) * K) = slots + (N + i * K) + K by rw [Nat.succ_mul]; omega, show cells + (1 + (i + 1)) = cells + (1 + i) + 1 by omega]
    exact h
theorem mz_W {H : Heap} {Q : State → Prop} {cc : ByteArray} (hexec : p.tables.exec = Jvm.exec) (hb : c.code = cc) {own : String} {idx : Nat} (hown : s.vm.findClass own = some m.cls) (hclink : (Cond.classLink own idx "[[I").before args s = true) (hAO : ewAO s) (hci : (Cond.arrayClass .int).before args s = true)
    {N K : Nat} (hN : N ≤ 100) (hK : K ≤ 100) (hcells : cells + (1 + N) ≤ R.cells) (hslots : slots + (N + N * K) ≤ R.slots) {pc : Nat} {ls : Array Slot} {rest : List Value} (hdg : decode cc pc = .ok (.multianewarray idx 2, 4))
    (kk : ∀ (cA comp : ClassId) (H1 : Heap), s.vm.findClass "[[I" = some cA → s.vm.findClass "[I" = some comp → H1.size = H.size + 1 + N → (∀ q : Nat, q < H.size → H1[q]? = H[q]?) → H1[H.size]? = some (arrV cA N (fun j => .ref (H.size + 1 + j))) → (∀ j : Nat, j < N → H1[H.size + 1 + j]? = some (arrV comp K (fun _ => .int 0))) →
      W p l e R s m args below meth c H1 locs (cells + (1 + N)) (slots + (N + N * K)) Q (F0 m (pc + 4) ls (.ref H.size :: rest))) : W p l e R s m args below meth c H locs cells slots Q (F0 m pc ls (.int (nI K) :: .int (nI N) :: rest)) := by
  intro T hT X
  subst hT
  subst hb
  have hpl : e.platform.magicAccessors = ({} : Platform).magicAccessors := by rw [X.admits.platform]
  obtain ⟨comp, cA, kA, hcomp, hkA, hkindA, hnameA⟩ := hAO
  obtain ⟨comp', kC, cx, hcomp', hkC, hkindC⟩ := Cond.arrayClass_spec hci
  have hcomp' : s.vm.findClass "[I" = some comp' := hcomp'
  cases Option.some.inj (hcomp'.symm.trans hcomp)
  obtain ⟨c0, hfc0, hcl⟩ := Cond.classLink_spec hown hclink e.platform hpl
  cases Option.some.inj (hnameA.symm.trans hfc0)
  obtain ⟨hg1, hw1, hr1⟩ := State.classEntry (e := e) X.warmed hcl
  generalize T.vm.noted m.cls idx (.cls cA) = vm1 at hg1 hw1 hr1
  obtain ⟨kA1, hkA1, heA⟩ := hw1.alike.2.2 _ _ hkA
  obtain ⟨kC1, hkC1, heC⟩ := hw1.alike.2.2 _ _ hkC
  have hkindA1 : kA1.kind = .array comp (.array .int) := by rw [heA]; exact hkindA
  have hkindC1 : kC1.kind = .array cx .int := by rw [heC]; exact hkindC
  have X1 := X.noted hw1
  have XF := mz_stand X1 cA comp N K N
  obtain ⟨rm1, rm2⟩ := X.roomAbove hcells hslots
  obtain ⟨t, t1, t2⟩ := kk cA comp (mzT (T.setVm vm1) cA comp N K N).heap hnameA hcomp (mzT_size _ _ _ _ _ _) (fun q hq => mzT_old (T.setVm vm1) cA comp N K N hq) ((mzT_top (T.setVm vm1) cA comp N K N).trans (congrArg some (mzO_N _ _ _))) (fun j hj => mzT_row (T.setVm vm1) cA comp N K N hj) _ rfl XF
  refine ⟨t, ?_, t2⟩
  have l1 : 100 ≤ e.platform.arrayLengthLimit := by rw [Launch.admits_arrayLengthLimit X.admits]; omega
  have l2 : 400 ≤ e.platform.maxHeapBytes := by rw [Launch.admits_maxHeapBytes X.admits]; omega
  jvm_step X.here [hexec, hdg]
  simp only [Op.multianewarray.sem, wp_bind', Jvm.W.resolveClassAt_links (State.method?_setTop (F0 m pc ls (.int (nI K) :: .int (nI N) :: rest)) X.here.top) hg1]
  rw [Jvm.W.popN, if_neg (by decide)]
  refine ⟨F0 m pc ls (.int (nI K) :: .int (nI N) :: rest), State.topJava?_setTop' (s := T.setVm vm1) _ X.here.top, [.int (nI N), .int (nI K)], rest, rfl, rfl, ?_⟩
  simp only [List.mapM_cons, List.mapM_nil, wp_bind', wp_pure']
  refine mz_make (kA := kA1) (kC := kC1) (comp := comp) (cc := cx) hkA1 hkindA1 hkC1 hkindC1 hN hK l1 l2 (by show T.heap.size + _ ≤ _; omega) (by show T.slotsUsed + _ ≤ _; omega) (fun d' acts' => ?_)
  have eS : ((T.setTop (F0 m pc ls (.int (nI K) :: .int (nI N) :: rest))).setVm vm1).setTop (F0 m pc ls rest) = (T.setVm vm1).setTop (F0 m pc ls rest) := by
    show ((T.setVm vm1).setTop (F0 m pc ls (.int (nI K) :: .int (nI N) :: rest))).setTop _ = _
    rw [State.setTop_setTop]
  show wp _ _ _ _ _ _ (mzT (((T.setTop (F0 m pc ls (.int (nI K) :: .int (nI N) :: rest))).setVm vm1).setTop (F0 m pc ls rest)) cA comp N K N)
  rw [eS, mzT_top']
  simp only [wp_bind', Jvm.W.mark, Jvm.W.pushRef, State.topJava?_setTop' _ XF.here.top, Option.some.injEq, exists_eq_left', State.setTop_setTop, State.heap_setTop]
  intro acts
  simp [jvm, XF.here.top]
  exact t1
end MZ2
