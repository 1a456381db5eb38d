/-! single words of the tables, by their places (wip/gen/words2.py) -/
theorem ewQ_oi : Cond.instanceMethod objectInit ∈ lw_tbl := List.mem_append_right _ (List.mem_of_getElem? (i := 19) (by decide +kernel))
theorem ewQ_oc : Cond.code objectInit ⟨#[0xb1]⟩ 1 none ∈ lw_tbl := List.mem_append_right _ (List.mem_of_getElem? (i := 20) (by decide +kernel))
theorem ewQ_as : Cond.static arraycopyName ∈ lw_tbl := List.mem_append_right _ (List.mem_of_getElem? (i := 354) (by decide +kernel))
theorem ewQ_an : Cond.native arraycopyName ∈ lw_tbl := List.mem_append_right _ (List.mem_of_getElem? (i := 355) (by decide +kernel))
theorem ewQ_ai : Cond.initialized "java/lang/System" ∈ lw_tbl := List.mem_append_right _ (List.mem_of_getElem? (i := 9) (by decide +kernel))
theorem ewQ_ci : Cond.arrayClass .int ∈ lw_tbl := List.mem_append_right _ (List.mem_of_getElem? (i := 52) (by decide +kernel))
theorem ewQ_cz : Cond.arrayClass .boolean ∈ lw_tbl := List.mem_append_right _ (List.mem_of_getElem? (i := 1056) (by decide +kernel))
theorem ewQ_os : Cond.arrayOver (.object "EightWays$Setting") ∈ lw_tbl := List.mem_append_right _ (List.mem_of_getElem? (i := 194) (by decide +kernel))
theorem ewQ_oa : Cond.arrayOver (.array .int) ∈ lw_tbl := List.mem_append_right _ (List.mem_of_getElem? (i := 60) (by decide +kernel))
theorem ewQ_ln : Cond.classLink "EightWays$Net" 54 "[[I" ∈ lw_tbl := List.mem_append_right _ (List.mem_of_getElem? (i := 59) (by decide +kernel))
theorem ewQ_lp : Cond.classLink "EightWays$Places" 27 "[[I" ∈ lw_tbl := List.mem_append_right _ (List.mem_of_getElem? (i := 249) (by decide +kernel))
theorem ewQ_n0 : Cond.instantiable "EightWays$Chart" 7 ∈ lw_tbl := List.mem_append_right _ (List.mem_of_getElem? (i := 208) (by decide +kernel))
theorem ewQ_i0 : Cond.initialized "EightWays$Chart" ∈ lw_tbl := List.mem_append_right _ (List.mem_of_getElem? (i := 6) (by decide +kernel))
theorem ewQ_n1 : Cond.instantiable "EightWays$Net" 20 ∈ lw_tbl := List.mem_append_right _ (List.mem_of_getElem? (i := 54) (by decide +kernel))
theorem ewQ_i1 : Cond.initialized "EightWays$Net" ∈ lw_tbl := List.mem_append_right _ (List.mem_of_getElem? (i := 3) (by decide +kernel))
theorem ewQ_n2 : Cond.instantiable "EightWays$Past" 3 ∈ lw_tbl := List.mem_append_right _ (List.mem_of_getElem? (i := 188) (by decide +kernel))
theorem ewQ_i2 : Cond.initialized "EightWays$Past" ∈ lw_tbl := List.mem_append_right _ (List.mem_of_getElem? (i := 5) (by decide +kernel))
theorem ewQ_n3 : Cond.instantiable "EightWays$Places" 12 ∈ lw_tbl := List.mem_append_right _ (List.mem_of_getElem? (i := 244) (by decide +kernel))
theorem ewQ_i3 : Cond.initialized "EightWays$Places" ∈ lw_tbl := List.mem_append_right _ (List.mem_of_getElem? (i := 7) (by decide +kernel))
theorem ewQ_n4 : Cond.instantiable "EightWays$Reader" 7 ∈ lw_tbl := List.mem_append_right _ (List.mem_of_getElem? (i := 22) (by decide +kernel))
theorem ewQ_i4 : Cond.initialized "EightWays$Reader" ∈ lw_tbl := List.mem_append_right _ (List.mem_of_getElem? (i := 2) (by decide +kernel))
theorem ewQ_n5 : Cond.instantiable "EightWays$Setting" 5 ∈ lw_tbl := List.mem_append_right _ (List.mem_of_getElem? (i := 158) (by decide +kernel))
theorem ewQ_i5 : Cond.initialized "EightWays$Setting" ∈ lw_tbl := List.mem_append_right _ (List.mem_of_getElem? (i := 4) (by decide +kernel))
theorem ewQ_n6 : Cond.instantiable "EightWays$Sides" 16 ∈ lw_tbl := List.mem_append_right _ (List.mem_of_getElem? (i := 294) (by decide +kernel))
theorem ewQ_i6 : Cond.initialized "EightWays$Sides" ∈ lw_tbl := List.mem_append_right _ (List.mem_of_getElem? (i := 8) (by decide +kernel))
theorem ewQ_n7 : Cond.instantiable "EightWays" 17 ∈ lw_tbl := List.mem_append_right _ (List.mem_of_getElem? (i := 14) (by decide +kernel))
theorem ewQ_i7 : Cond.initialized "EightWays" ∈ lw_tbl := List.mem_append_right _ (List.mem_of_getElem? (i := 1) (by decide +kernel))
theorem ewQ_n8 : Cond.instantiable "EightWaysModel" 51 ∈ lw_tbl := List.mem_append_right _ (List.mem_of_getElem? (i := 888) (by decide +kernel))
theorem ewQ_i8 : Cond.initialized "EightWaysModel" ∈ lw_tbl := List.mem_append_right _ (List.mem_of_getElem? (i := 11) (by decide +kernel))
theorem ewQ_i9 : Cond.initialized "EightWaysLaw" ∈ lw_tbl := List.mem_append_right _ (List.mem_of_getElem? (i := 0) (by decide +kernel))
theorem ewQ_i10 : Cond.initialized "java/lang/Math" ∈ lw_tbl := List.mem_append_right _ (List.mem_of_getElem? (i := 12) (by decide +kernel))
theorem ewQ_i11 : Cond.initialized "java/util/Arrays" ∈ lw_tbl := List.mem_append_right _ (List.mem_of_getElem? (i := 10) (by decide +kernel))
theorem ewIni : ∀ o, o < 12 → Cond.initialized (ewOwn o) ∈ lw_tbl
  | 0, _ => ewQ_i0
  | 1, _ => ewQ_i1
  | 2, _ => ewQ_i2
  | 3, _ => ewQ_i3
  | 4, _ => ewQ_i4
  | 5, _ => ewQ_i5
  | 6, _ => ewQ_i6
  | 7, _ => ewQ_i7
  | 8, _ => ewQ_i8
  | 9, _ => ewQ_i9
  | 10, _ => ewQ_i10
  | 11, _ => ewQ_i11
  | n + 12, h => absurd h (by omega)
/-- the words that a callee may take over -/
def ewG : List Cond := lw_tbl.filter goodWord
theorem ewGm {w : Cond} (h : w ∈ lw_tbl) (g : goodWord w = true) : w ∈ ewG := List.mem_filter.mpr ⟨h, g⟩
theorem ewGg : ∀ w ∈ ewG, goodWord w = true := fun _ h => (List.mem_filter.mp h).2
theorem ewGu {C : String} {T : u_T} {N : Nat} (h : ∀ w ∈ u_ws C T N, w ∈ lw_tbl) : ∀ w ∈ u_ws C T N, w ∈ ewG := by
  intro w hw
  refine ewGm (h w hw) ?_
  obtain ⟨k, -, rfl⟩ := List.mem_map.mp hw
  unfold u_lay
  split <;> rfl
def ewNst : Cond → Bool
  | .methodLinkNest .. => true
  | .fieldLinkNest .. => true
  | _ => false
