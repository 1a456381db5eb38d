/-! CALLS -/
def ewEn0 : List Value → eL
  | [] => []
  | .long x :: l => some (.long x) :: none :: ewEn0 l
  | .double x :: l => some (.double x) :: none :: ewEn0 l
  | v :: l => some v :: ewEn0 l
def ewPad : eL → Nat → eL
  | l, 0 => l
  | [], n + 1 => none :: ewPad [] n
  | a :: l, n + 1 => a :: ewPad l n
/-- the locals at a method's entry -/
def ewEn (as : List Value) (n : Nat) : eL := ewPad (ewEn0 as) n
theorem ewPad_at : ∀ (l : eL) (n j : Nat) (w : Value), ewAt (ewPad l n) j = some w → ewAt l j = some w
  | l, 0, j, w, h => h
  | [], n + 1, 0, w, h => by cases h
  | [], n + 1, j + 1, w, h => by
    have := ewPad_at [] n j w h
    cases this
  | a :: l, n + 1, 0, w, h => h
  | a :: l, n + 1, j + 1, w, h => ewPad_at l n j w h
theorem ewPad_len : ∀ (l : eL) (n : Nat), l.length ≤ n → (ewPad l n).length = n
  | [], 0, _ => rfl
  | a :: l, 0, h => by simp at h
  | [], n + 1, _ => by simp [ewPad, ewPad_len [] n (by simp)]
  | a :: l, n + 1, h => by simp [ewPad, ewPad_len l n (by simp at h; omega)]
theorem ewEn0_at (φ : Nat → Nat) : ∀ (as : List Value) (n j : Nat) (w : Value), ewAt (ewEn0 as) j = some w → (n + j, ewV φ w) ∈ lv_args n (as.map (ewV φ))
  | [], n, j, w, h => by cases h
  | .long x :: l, n, 0, w, h => by cases h; exact List.mem_cons_self
  | .long x :: l, n, 1, w, h => by cases h
  | .long x :: l, n, j + 2, w, h => by
    have := ewEn0_at φ l (n + 2) j w h
    rw [show n + 2 + j = n + (j + 2) by omega] at this
    exact List.mem_cons_of_mem _ this
  | .double x :: l, n, 0, w, h => by cases h; exact List.mem_cons_self
  | .double x :: l, n, 1, w, h => by cases h
  | .double x :: l, n, j + 2, w, h => by
    have := ewEn0_at φ l (n + 2) j w h
    rw [show n + 2 + j = n + (j + 2) by omega] at this
    exact List.mem_cons_of_mem _ this
  | .int x :: l, n, 0, w, h => by cases h; exact List.mem_cons_self
  | .int x :: l, n, j + 1, w, h => by
    have := ewEn0_at φ l (n + 1) j w h
    rw [show n + 1 + j = n + (j + 1) by omega] at this
    exact List.mem_cons_of_mem _ this
  | .float x :: l, n, 0, w, h => by cases h; exact List.mem_cons_self
  | .float x :: l, n, j + 1, w, h => by
    have := ewEn0_at φ l (n + 1) j w h
    rw [show n + 1 + j = n + (j + 1) by omega] at this
    exact List.mem_cons_of_mem _ this
  | .null :: l, n, 0, w, h => by cases h; exact List.mem_cons_self
  | .null :: l, n, j + 1, w, h => by
    have := ewEn0_at φ l (n + 1) j w h
    rw [show n + 1 + j = n + (j + 1) by omega] at this
    exact List.mem_cons_of_mem _ this
  | .ref x :: l, n, 0, w, h => by cases h; exact List.mem_cons_self
  | .ref x :: l, n, j + 1, w, h => by
    have := ewEn0_at φ l (n + 1) j w h
    rw [show n + 1 + j = n + (j + 1) by omega] at this
    exact List.mem_cons_of_mem _ this
  | .retAddr x :: l, n, 0, w, h => by cases h; exact List.mem_cons_self
  | .retAddr x :: l, n, j + 1, w, h => by
    have := ewEn0_at φ l (n + 1) j w h
    rw [show n + 1 + j = n + (j + 1) by omega] at this
    exact List.mem_cons_of_mem _ this
theorem ewEn0_len (φ : Nat → Nat) : ∀ (as : List Value), (lg_sl (as.map (ewV φ))).length = (ewEn0 as).length
  | [] => rfl
  | v :: l => by
    have := ewEn0_len φ l
    unfold lg_sl at this ⊢
    rw [List.map_cons, List.flatMap_cons, List.length_append, this, ewV_cat]
    cases v <;> simp [Value.category, ewEn0] <;> omega
theorem ewEn_has (φ : Nat → Nat) {as : List Value} {n : Nat} {Ls : Array Slot} (h : lv_has Ls n (lv_args 0 (as.map (ewV φ)))) : lv_has Ls n (ewAsc φ 0 (ewEn as n)) := by
  refine ⟨h.1, h.2.1, fun q hq => h.2.2 q ?_⟩
  obtain ⟨a, u⟩ := q
  obtain ⟨j, w, h1, h2, h3⟩ := (ewAsc_mem φ _ 0 a u).mp hq
  subst h3
  rw [h1]
  exact ewEn0_at φ as 0 j w (ewPad_at _ _ _ _ h2)
abbrev ewRoom (M : ewMt) (d : Nat) : Room := { frames := d + 1, cells := M.2.2.2.2.1, slots := M.2.2.2.2.2.1, locals := 64 * (d + 1) }
abbrev ewPc (X : Nat × (Nat → Int32)) (D : va_G) (c4 : ClassId × ClassId × ClassId × ClassId) (φ : Nat → Nat) (B : Nat) (as : List Value) (S : eS) : Array Value → State → Prop := va_Pc (as.map (ewV φ)) (fun U => ewE X D c4 φ B U U.heap ∧ ewW D c4 φ B S U.heap ∧ ewAl φ B S U.heap.size)
def ewQc (D : va_G) (c4 : ClassId × ClassId × ClassId × ClassId) (φ : Nat → Nat) (B : Nat) (Q : Option Value → eS → Prop) : Array Value → State → Outcome → State → Prop := fun _ st oc t => ∃ (v : Option Value) (S' : eS), oc = .returned (v.map (ewV φ)) ∧ Q v S' ∧ ewW D c4 φ B S' t.heap ∧ va_F (fun q => B ≤ q) st t
theorem ewMet {X : Nat × (Nat → Int32)} {M : ewMt} {d : Nat} {as : List Value} {S : eS} {Q : Option Value → eS → Prop} (hy : plainName M.2.1.cls = true) (ho : ewOwn M.2.2.2.2.2.2 = M.2.1.cls) (hn : (ewEn0 as).length ≤ M.2.2.1) (h : ewP X M d 0 (ewEn as M.2.2.1) [] (M.2.2.2.2.1, M.2.2.2.2.2.1) S Q)
    (l : Launch) (D : va_G) (c4 : ClassId × ClassId × ClassId × ClassId) (φ : Nat → Nat) (B : Nat) : Met l M.2.1 (Cond.code M.2.1 M.1 M.2.2.1 M.2.2.2.1 :: ewG) (ewRoom M d) (ewPc X D c4 φ B as S) (ewQc D c4 φ B Q) M.2.2.2.2.1 M.2.2.2.2.2.1 (fun q => B ≤ q) := by
  refine Met.ofW (cc := M.1) (maxL := M.2.2.1) (ret := M.2.2.2.1) hy rfl ?_
  intro p e s m args below meth c s₁ Bd hml hv
  obtain ⟨rfl, hE, hW, hAl⟩ := hv
  have hts := atoms_spec (ws := Cond.code M.2.1 M.1 M.2.2.1 M.2.2.2.1 :: ewG) Bd.pre
  have hown : s.vm.findClass M.2.1.cls = some m.cls := findClass_of_methodNamed Bd.named
  have hlocks := Bd.notSynchronized
  have hF : ewF M d p (headSpec (Cond.code M.2.1 M.1 M.2.2.1 M.2.2.2.1 :: ewG) (ewRoom M d)).room s m (as.map (ewV φ)).toArray meth c := ⟨Bd.exec, Bd.bytes, hml, Bd.returns, by rw [ho]; exact hown, fun w hw => hts w (List.mem_cons_of_mem _ hw), hlocks, (name_of_methodNamed Bd.named Bd.method).1, Nat.le_refl _, Nat.le_refl _, Nat.le_refl _, Nat.le_refl _⟩
  have hl := lv_entry (as.map (ewV φ)) (n := M.2.2.1) (by rw [ewEn0_len]; exact hn)
  rw [lg_entry_eq]
  have key := h D c4 φ B p l e _ s m _ below meth c (MQ below (ewQc D c4 φ B Q) (as.map (ewV φ)).toArray s M.2.2.2.2.1 M.2.2.2.2.2.1 (fun q => B ≤ q)) hF hE ?_ _ s.heap [] hW va_S.rf (ewEn_has φ hl) (ewPad_len _ _ hn) (Nat.le_refl _) (Nat.le_refl _) ?_
  · rw [Nat.sub_self, Nat.sub_self] at key
    exact key
  · intro v S' b' pc' Ls H locs hQ hW' hS h1 h2 hr hal
    refine W.widen (k := M.2.2.2.2.1) (n := M.2.2.2.2.2.1) (Nat.sub_le _ _) (Nat.sub_le _ _) ?_
    have post : ∀ t : State, t.heap = H → ewQc D c4 φ B Q (as.map (ewV φ)).toArray s (.returned (v.map (ewV φ))) t := fun t ht => ⟨v, S', rfl, hQ, by rw [ht]; exact hW', hS.F ht⟩
    obtain ⟨hx, hb, -, hrt, -⟩ := hF
    unfold ewRet at hr
    split at hr
    · rename_i hr0
      obtain ⟨rfl, hdec⟩ := hr
      exact W.vret hx hb (hrt.trans hr0) (fun t ht _ => post t ht) hS.2.2 hdec
    · rename_i hr0
      obtain ⟨⟨x, rfl⟩, hdec⟩ := hr
      exact W.iret hx hb (hrt.trans hr0) (fun t ht _ => post t ht) hS.2.2 hdec
    · rename_i hr0
      obtain ⟨⟨x, rfl, hx01⟩, hdec⟩ := hr
      exact W.zret hx hb (hrt.trans hr0) (by rcases hx01 with rfl | rfl <;> rfl) (fun t ht _ => post t ht) hS.2.2 hdec
    · rename_i nm hr0
      obtain ⟨⟨k, rfl⟩, hdec⟩ := hr
      exact W.aret hx hb (hrt.trans hr0) (Or.inl ⟨nm, rfl⟩) (Or.inr ⟨φ k, rfl⟩) (fun t ht _ => post t ht) hS.2.2 hdec
    · exact hr.elim
  · intro h9
    have := hAl h9
    exact ⟨by omega, this.2⟩
section EWC
variable {D : va_G} {c4 : ClassId × ClassId × ClassId × ClassId} {φ : Nat → Nat} {B : Nat}
variable {p : Program} {l : Launch} {e : Env} {R : Room} {s : State} {m : MethodId} {args : Array Value} {below : List Frame} {meth : Method} {c : Code} {Z : State → Prop}
theorem ewNst.same {u U : State} {w : Cond} (h : u.vm = U.vm) (hn : ewNst w = true) (hw : va_Nw w u) : va_Nw w U := by
  cases w with
  | methodLinkNest => exact va_Nw.same rfl h hw
  | fieldLinkNest => exact va_Nw.same rfl h hw
  | _ => cases hn
/-- behind a call -/
theorem ewBack {H : Heap} {locs : List Loc} {cells slots mc ms pc : Nat} {Ls : Array Slot} {st0 rest : List Value} {Q : Option Value → eS → Prop} {a : Array Value} (hr : va_Run p l e R s m args below meth c H locs cells slots mc ms (F0 m pc Ls st0) rest (ewQc D c4 φ B Q a) (fun q => B ≤ q)) (hS : va_S (fun q => B ≤ q) s.heap H locs)
    (kk : ∀ (v : Option Value) (S' : eS) (H1 : Heap) (locs1 : List Loc), Q v S' → ewW D c4 φ B S' H1 → va_S (fun q => B ≤ q) s.heap H1 locs1 → W p l e R s m args below meth c H1 locs1 (cells + mc) (slots + ms) Z (F0 m (pc + 3) Ls ((v.map (ewV φ)).toList ++ rest))) : W p l e R s m args below meth c H locs cells slots Z (F0 m pc Ls st0) := by
  intro T hT X
  obtain ⟨v, st₀, t, T', L, h0, X', hL, e1, e2, ⟨v', S', hv, hq, hw, hz, hk⟩, st⟩ := hr T hT X
  cases hv
  rw [h0] at hz hk
  obtain ⟨t2, a1, b1⟩ := kk v' S' T'.heap (locs ++ L) hq (by rw [e1]; exact hw) ⟨Nat.le_trans hS.1 (by rw [e1]; exact hz), fun q h1 h2 => by rw [e1, hk q (Nat.lt_of_lt_of_le h1 hS.1) h2]; exact hS.2.1 q h1 h2, fun q hq => by
      rcases List.mem_append.mp hq with h | h
      · exact hS.2.2 q h
      · exact hL q h⟩ T' rfl X'
  exact ⟨t2, st t2 a1, b1⟩
theorem ewPc_blind {X : Nat × (Nat → Int32)} {as : List Value} {S : eS} : FrameBlind (ewPc X D c4 φ B as S) := by
  intro a U g mk q
  obtain ⟨q0, q1, q2, q3⟩ := q
  obtain ⟨h1, h2, h3, h4, h5, h6, h7⟩ := q1
  have hvm : U.vm.Alike (U.calling g mk a).vm := Vm.Alike.refl U.vm
  exact ⟨q0, ⟨va_K.moved (u := U) (U := U.calling g mk a) hvm h1, fun j hj => ⟨va_Z.moved (u := U) (U := U.calling g mk a) hvm (h2 j hj).1, va_T.moved (u := U) (U := U.calling g mk a) hvm (h2 j hj).2⟩, ⟨va_X.moved (u := U) (U := U.calling g mk a) hvm h3.1, h3.2⟩, h4, fun w hw hn => ewNst.same (u := U) (U := U.calling g mk a) rfl hn (h5 w hw hn), h6, ewAO.moved (s := U) (t := U.calling g mk a) hvm h7⟩, q2, q3⟩
/-- what a callee is given -/
theorem ewPre {X : Nat × (Nat → Int32)} {as : List Value} {S : eS} {H : Heap} {locs : List Loc} {n : Nat} (hE : ewE X D c4 φ B s s.heap) (a1 : ewW D c4 φ B S H) (a2 : va_S (fun q => B ≤ q) s.heap H locs) (a7 : ewAl φ B S (s.heap.size + n)) (hz : H.size ≤ s.heap.size + n) : ∀ U : State, U.heap = H → s.WarmedH U.vm → ewPc X D c4 φ B as S (as.map (ewV φ)).toArray U := by
  intro U hU hW
  refine ⟨rfl, hE.moved hW (by rw [hU]; exact a2.1) (fun a h1 h2 => by rw [hU]; exact a2.2.1 a h1 h2), by rw [hU]; exact a1, fun h9 => ?_⟩
  have hA := a7 h9
  refine ⟨?_, hA.2⟩
  rw [hU]
  by_cases h0 : S.1 = 0
  · have h5 := a2.1
    have h6 := hE.2.2.2.1
    omega
  · have h1 := (a1.1 (S.1 - 1) _ (ewWs_at (φ := φ) (c4 := c4) (by omega))).lt
    have h2 : φ (S.1 - 1) < H.size := h1
    rw [hA.2 _ (by omega)] at h2
    omega
end EWC
/-- what the tables say of a method -/
def ewOKm (M : ewMt) (n : Nat) : Prop := plainName M.2.1.cls = true ∧ ewOwn M.2.2.2.2.2.2 = M.2.1.cls ∧ Cond.code M.2.1 M.1 M.2.2.1 M.2.2.2.1 ∈ lw_tbl ∧ M.2.2.2.2.2.2 < 12 ∧ (M.2.1.cls ≠ "java/lang/invoke/MethodHandle" ∧ M.2.1.cls ≠ "java/lang/invoke/VarHandle" ∧ (parseMethodDescriptor M.2.1.desc).map (fun d => d.parameters.length) = some n) ∧ M.2.2.1 ≤ 40
theorem ewWs_good {M : ewMt} {n : Nat} (h : ewOKm M n) : GoodIn ewG (Cond.code M.2.1 M.1 M.2.2.1 M.2.2.2.1 :: ewG) := by
  intro w hw
  have : w ∈ ewG := by
    rcases List.mem_cons.mp hw with rfl | hw
    · exact ewGm h.2.2.1 rfl
    · exact hw
  exact ⟨this, good_of_word (ewGg w this)⟩
theorem ewG_in {w : Cond} (h : w ∈ lw_tbl) (g : goodWord w = true) : w ∈ ewG ∧ ((w.onTables && w.keeps) = true ∨ ∃ ty, w = .arrayClass ty) := ⟨ewGm h g, good_of_word g⟩
section EWK
variable {X : Nat × (Nat → Int32)} {M M' : ewMt} {d pc n idx : Nat} {ls : eL} {as rest : List Value} {b : Nat × Nat} {S : eS} {Q Q' : Option Value → eS → Prop}
def ewLV (o idx : Nat) (M' : ewMt) : Prop := Cond.methodLink (ewOwn o) idx M'.2.1 ∈ lw_tbl ∧ Cond.instanceMethod M'.2.1 ∈ lw_tbl ∧ Cond.selects M'.2.1.cls M'.2.1 M'.2.1 ∈ lw_tbl
def ewLS (o idx : Nat) (M' : ewMt) : Prop := (Cond.methodLink (ewOwn o) idx M'.2.1 ∈ lw_tbl ∨ Cond.methodLinkNest (ewOwn o) idx M'.2.1 "EightWays" ∈ lw_tbl) ∧ Cond.static M'.2.1 ∈ lw_tbl
def ewLI (o idx : Nat) (M' : ewMt) : Prop := (Cond.methodLink (ewOwn o) idx M'.2.1 ∈ lw_tbl ∨ Cond.methodLinkNest (ewOwn o) idx M'.2.1 "EightWays" ∈ lw_tbl) ∧ Cond.instanceMethod M'.2.1 ∈ lw_tbl ∧ M'.2.1.name = "<init>" ∧ M'.2.2.2.1 = none
theorem ewP_v {k : Nat} (hl : ewLV M.2.2.2.2.2.2 idx M') (hO : ewOKm M' n) (hdec : decode M.1 pc = .ok (.invokevirtual idx, 3)) (hn : as.length = n) (hle : (ewEn0 (.ref k :: as)).length ≤ M'.2.2.1) (hk : ewTk S k M'.2.2.2.2.2.2 = true) (ho9 : M'.2.2.2.2.2.2 < 9) (hr : Nat.ble (ewSum rest) 8 = true) (hb1 : M'.2.2.2.2.1 ≤ b.1) (hb2 : M'.2.2.2.2.2.1 ≤ b.2)
    (hM : ewP X M' d 0 (ewEn (.ref k :: as) M'.2.2.1) [] (M'.2.2.2.2.1, M'.2.2.2.2.2.1) S Q') (kk : ∀ v S', Q' v S' → S'.1 = S.1 + M'.2.2.2.2.1 ∧ ewP X M (d + 1) (pc + 3) ls (v.toList ++ rest) (b.1 - M'.2.2.2.2.1, b.2 - M'.2.2.2.2.2.1) S' Q) :
    ewP X M (d + 1) pc ls (as.reverse ++ .ref k :: rest) b S Q := by
  intro D c4 φ B p l e R s m args below meth c Z hF hE hret Ls H locs a1 a2 a3 a4 a5 a6 a7
  obtain ⟨hx, hb, hml, -, hown, hts, -, -, hfr, hlo, hmc, hms⟩ := id hF
  refine ewW_size (fun hz => ?_)
  have hMet := ewMet hO.1 hO.2.1 hle hM l D c4 φ B
  obtain ⟨hkk, hkq⟩ := ewTk_of hk
  have he := ewWs_at (φ := φ) (c4 := c4) hkq
  rw [ewEnt_obj hkk ho9] at he
  have hcl : ∃ T N, ewCl[M'.2.2.2.2.2.2]? = some (M'.2.1.cls, T, N) := by
    rw [← hO.2.1]
    revert ho9
    generalize M'.2.2.2.2.2.2 = o
    intro ho9
    match o, ho9 with
    | 0, _ => exact ⟨_, _, rfl⟩
    | 1, _ => exact ⟨_, _, rfl⟩
    | 2, _ => exact ⟨_, _, rfl⟩
    | 3, _ => exact ⟨_, _, rfl⟩
    | 4, _ => exact ⟨_, _, rfl⟩
    | 5, _ => exact ⟨_, _, rfl⟩
    | 6, _ => exact ⟨_, _, rfl⟩
    | 7, _ => exact ⟨_, _, rfl⟩
    | 8, _ => exact ⟨_, _, rfl⟩
    | o + 9, h => omega
  obtain ⟨T, N, hcl⟩ := hcl
  have hini : Cond.initialized M'.2.1.cls ∈ lw_tbl := by rw [← hO.2.1]; exact ewIni _ hO.2.2.2.1
  have hcw : CallW R s args (ewOwn M.2.2.2.2.2.2) M'.2.1.cls idx M'.2.1 M'.1 M'.2.2.1 M'.2.2.2.1 (Cond.code M'.2.1 M'.1 M'.2.2.1 M'.2.2.2.1 :: ewG) (ewRoom M' d) M'.2.2.2.2.1 M'.2.2.2.2.2.1 n :=
    cwV n hts (fun w hw => by
      rcases List.mem_append.mp hw with hw | hw
      · simp only [List.mem_cons, List.not_mem_nil, or_false] at hw
        rcases hw with rfl | rfl | rfl | rfl
        · exact ewG_in hl.1 rfl
        · exact ewG_in hl.2.1 rfl
        · exact ewG_in hl.2.2 rfl
        · exact ewG_in hini rfl
      · exact ewWs_good hO w hw) rfl rfl rfl ⟨rfl, hO.2.2.2.2.1⟩ ⟨by show d + 1 + 1 ≤ _; omega, by show 8 + (M'.2.2.1 + 11) + 64 * (d + 1) ≤ _; have := hO.2.2.2.2.2; omega⟩
  have hst : (as.reverse ++ Value.ref k :: rest).map (ewV φ) = (as.map (ewV φ)).reverse ++ .ref (φ k) :: rest.map (ewV φ) := by simp [List.map_append, List.map_reverse, ewV]
  rw [hst]
  refine ewBack (rest := rest.map (ewV φ)) (va_runV ⟨hx, hb, hml, hown, hts⟩ hMet hcw ⟨ewPc_blind, va_recv hE.1 a1.1 hcl he, ewPre (as := .ref k :: as) hE a1 a2 a7 hz⟩ rfl (by rw [List.length_map]; exact hn) a3.1 rfl (lv_room (by rw [ewSum_map]; exact Nat.le_of_ble_eq_true hr)) hdec ⟨by omega, by omega⟩) a2 (fun v S' H1 locs1 hq hw hs => ?_)
  obtain ⟨hsz, hk2⟩ := kk v S' hq
  have h5 := hk2 D c4 φ B p l e R s m args below meth c Z hF hE hret Ls H1 locs1 hw hs a3 a4 (by show b.1 - _ ≤ _; omega) (by show b.2 - _ ≤ _; omega) (fun h9 => by
    have := a7 (by omega)
    refine ⟨?_, this.2⟩
    show s.heap.size + (M.2.2.2.2.1 - (b.1 - M'.2.2.2.2.1)) = _
    omega)
  refine W.cs (show _ = M.2.2.2.2.1 - (b.1 - M'.2.2.2.2.1) by omega) (show _ = M.2.2.2.2.2.1 - (b.2 - M'.2.2.2.2.2.1) by omega) ?_
  rw [List.map_append] at h5
  cases v <;> exact h5
theorem ewP_s (hl : ewLS M.2.2.2.2.2.2 idx M') (hO : ewOKm M' n) (hdec : decode M.1 pc = .ok (.invokestatic idx, 3)) (hn : as.length = n) (hle : (ewEn0 as).length ≤ M'.2.2.1) (hr : Nat.ble (ewSum rest) 8 = true) (hb1 : M'.2.2.2.2.1 ≤ b.1) (hb2 : M'.2.2.2.2.2.1 ≤ b.2)
    (hM : ewP X M' d 0 (ewEn as M'.2.2.1) [] (M'.2.2.2.2.1, M'.2.2.2.2.2.1) S Q') (kk : ∀ v S', Q' v S' → S'.1 = S.1 + M'.2.2.2.2.1 ∧ ewP X M (d + 1) (pc + 3) ls (v.toList ++ rest) (b.1 - M'.2.2.2.2.1, b.2 - M'.2.2.2.2.2.1) S' Q) :
    ewP X M (d + 1) pc ls (as.reverse ++ rest) b S Q := by
  intro D c4 φ B p l e R s m args below meth c Z hF hE hret Ls H locs a1 a2 a3 a4 a5 a6 a7
  obtain ⟨hx, hb, hml, -, hown, hts, -, -, hfr, hlo, hmc, hms⟩ := id hF
  refine ewW_size (fun hz => ?_)
  have hMet := ewMet hO.1 hO.2.1 hle hM l D c4 φ B
  have hini : Cond.initialized M'.2.1.cls ∈ lw_tbl := by rw [← hO.2.1]; exact ewIni _ hO.2.2.2.1
  have hroom : (ewRoom M' d).frames + 1 ≤ R.frames ∧ 8 + (M'.2.2.1 + 11) + (ewRoom M' d).locals ≤ R.locals := ⟨by show d + 1 + 1 ≤ _; omega, by show 8 + (M'.2.2.1 + 11) + 64 * (d + 1) ≤ _; have := hO.2.2.2.2.2; omega⟩
  have hst : (as.reverse ++ rest).map (ewV φ) = (as.map (ewV φ)).reverse ++ rest.map (ewV φ) := by simp [List.map_append, List.map_reverse]
  rw [hst]
  have run : va_Run p l e R s m args below meth c H locs (M.2.2.2.2.1 - b.1) (M.2.2.2.2.2.1 - b.2) M'.2.2.2.2.1 M'.2.2.2.2.2.1 (F0 m pc Ls ((as.map (ewV φ)).reverse ++ rest.map (ewV φ))) (rest.map (ewV φ)) (ewQc D c4 φ B Q' (as.map (ewV φ)).toArray) (fun q => B ≤ q) := by
    rcases hl.1 with hlk | hlk
    · refine va_runS ⟨hx, hb, hml, hown, hts⟩ hMet (va_cwS n hts (fun w hw => ?_) rfl rfl rfl hO.2.2.2.2.1 hroom) ⟨ewPc_blind, ewPre (as := as) hE a1 a2 a7 hz⟩ rfl (by rw [List.length_map]; exact hn) a3.1 rfl (lv_room (by rw [ewSum_map]; exact Nat.le_of_ble_eq_true hr)) hdec ⟨by omega, by omega⟩
      rcases List.mem_append.mp hw with hw | hw
      · simp only [List.mem_cons, List.not_mem_nil, or_false] at hw
        rcases hw with rfl | rfl | rfl
        · exact ewG_in hlk rfl
        · exact ewG_in hl.2 rfl
        · exact ewG_in hini rfl
      · exact ewWs_good hO w hw
    · exact va_runSN ⟨hx, hb, hml, hown, hts⟩ hMet ⟨va_cnB n hts (ewWs_good hO) rfl rfl rfl (hE.2.2.2.2.1 _ hlk rfl) (hts _ (ewGm hini rfl)) hO.2.2.2.2.1 hroom, hts _ (ewGm hl.2 rfl), trivial⟩ ⟨ewPc_blind, ewPre (as := as) hE a1 a2 a7 hz⟩ rfl (by rw [List.length_map]; exact hn) a3.1 rfl (lv_room (by rw [ewSum_map]; exact Nat.le_of_ble_eq_true hr)) hdec ⟨by omega, by omega⟩
  refine ewBack run a2 (fun v S' H1 locs1 hq hw hs => ?_)
  obtain ⟨hsz, hk2⟩ := kk v S' hq
  have h5 := hk2 D c4 φ B p l e R s m args below meth c Z hF hE hret Ls H1 locs1 hw hs a3 a4 (by show b.1 - _ ≤ _; omega) (by show b.2 - _ ≤ _; omega) (fun h9 => by
    have := a7 (by omega)
    refine ⟨?_, this.2⟩
    show s.heap.size + (M.2.2.2.2.1 - (b.1 - M'.2.2.2.2.1)) = _
    omega)
  refine W.cs (show _ = M.2.2.2.2.1 - (b.1 - M'.2.2.2.2.1) by omega) (show _ = M.2.2.2.2.2.1 - (b.2 - M'.2.2.2.2.2.1) by omega) ?_
  rw [List.map_append] at h5
  cases v <;> exact h5
theorem ewP_i {k : Nat} (hl : ewLI M.2.2.2.2.2.2 idx M') (hO : ewOKm M' n) (hdec : decode M.1 pc = .ok (.invokespecial idx, 3)) (hn : as.length = n) (hle : (ewEn0 (.ref k :: as)).length ≤ M'.2.2.1) (hr : Nat.ble (ewSum rest) 8 = true) (hb1 : M'.2.2.2.2.1 ≤ b.1) (hb2 : M'.2.2.2.2.2.1 ≤ b.2)
    (hM : ewP X M' d 0 (ewEn (.ref k :: as) M'.2.2.1) [] (M'.2.2.2.2.1, M'.2.2.2.2.2.1) S Q') (kk : ∀ v S', Q' v S' → S'.1 = S.1 + M'.2.2.2.2.1 ∧ ewP X M (d + 1) (pc + 3) ls (v.toList ++ rest) (b.1 - M'.2.2.2.2.1, b.2 - M'.2.2.2.2.2.1) S' Q) :
    ewP X M (d + 1) pc ls (as.reverse ++ .ref k :: rest) b S Q := by
  intro D c4 φ B p l e R s m args below meth c Z hF hE hret Ls H locs a1 a2 a3 a4 a5 a6 a7
  obtain ⟨hx, hb, hml, -, hown, hts, -, -, hfr, hlo, hmc, hms⟩ := id hF
  refine ewW_size (fun hz => ?_)
  have hMet := ewMet hO.1 hO.2.1 hle hM l D c4 φ B
  have hini : Cond.initialized M'.2.1.cls ∈ lw_tbl := by rw [← hO.2.1]; exact ewIni _ hO.2.2.2.1
  have hroom : (ewRoom M' d).frames + 1 ≤ R.frames ∧ 8 + (M'.2.2.1 + 11) + (ewRoom M' d).locals ≤ R.locals := ⟨by show d + 1 + 1 ≤ _; omega, by show 8 + (M'.2.2.1 + 11) + 64 * (d + 1) ≤ _; have := hO.2.2.2.2.2; omega⟩
  have hst : (as.reverse ++ Value.ref k :: rest).map (ewV φ) = (as.map (ewV φ)).reverse ++ .ref (φ k) :: rest.map (ewV φ) := by simp [List.map_append, List.map_reverse, ewV]
  rw [hst]
  have run : va_Run p l e R s m args below meth c H locs (M.2.2.2.2.1 - b.1) (M.2.2.2.2.2.1 - b.2) M'.2.2.2.2.1 M'.2.2.2.2.2.1 (F0 m pc Ls ((as.map (ewV φ)).reverse ++ .ref (φ k) :: rest.map (ewV φ))) (rest.map (ewV φ)) (ewQc D c4 φ B Q' ((Value.ref k :: as).map (ewV φ)).toArray) (fun q => B ≤ q) := by
    have hnone := hl.2.2.2
    have hgood := ewWs_good hO
    rw [hnone] at hMet hgood
    rcases hl.1 with hlk | hlk
    · exact va_runI ⟨hx, hb, hml, hown, hts⟩ hMet (cwI n hts hgood rfl rfl rfl (hts _ (ewGm hini rfl)) (hts _ (ewGm hlk rfl)) (hts _ (ewGm hl.2.1 rfl)) hl.2.2.1 hO.2.2.2.2.1 hroom) ⟨ewPc_blind, ewPre (as := .ref k :: as) hE a1 a2 a7 hz⟩ rfl (by rw [List.length_map]; exact hn) a3.1 rfl (lv_room (by rw [ewSum_map]; exact Nat.le_of_ble_eq_true hr)) hdec ⟨by omega, by omega⟩
    · exact va_runIN ⟨hx, hb, hml, hown, hts⟩ hMet ⟨va_cnB n hts hgood rfl rfl rfl (hE.2.2.2.2.1 _ hlk rfl) (hts _ (ewGm hini rfl)) hO.2.2.2.2.1 hroom, hl.2.2.1, hts _ (ewGm hl.2.1 rfl)⟩ ⟨ewPc_blind, ewPre (as := .ref k :: as) hE a1 a2 a7 hz⟩ rfl (by rw [List.length_map]; exact hn) a3.1 rfl (lv_room (by rw [ewSum_map]; exact Nat.le_of_ble_eq_true hr)) hdec ⟨by omega, by omega⟩
  refine ewBack run a2 (fun v S' H1 locs1 hq hw hs => ?_)
  obtain ⟨hsz, hk2⟩ := kk v S' hq
  have h5 := hk2 D c4 φ B p l e R s m args below meth c Z hF hE hret Ls H1 locs1 hw hs a3 a4 (by show b.1 - _ ≤ _; omega) (by show b.2 - _ ≤ _; omega) (fun h9 => by
    have := a7 (by omega)
    refine ⟨?_, this.2⟩
    show s.heap.size + (M.2.2.2.2.1 - (b.1 - M'.2.2.2.2.1)) = _
    omega)
  refine W.cs (show _ = M.2.2.2.2.1 - (b.1 - M'.2.2.2.2.1) by omega) (show _ = M.2.2.2.2.2.1 - (b.2 - M'.2.2.2.2.2.1) by omega) ?_
  rw [List.map_append] at h5
  cases v <;> exact h5
end EWK
