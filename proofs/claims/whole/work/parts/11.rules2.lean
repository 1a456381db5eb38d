/-! RULES for steady frames: calls with a known answer, switches, joins, small lemmas -/
section EWT
variable {X : Nat × (Nat → Int32)} {M M' : ewMt} {d pc n idx : Nat} {ls : eL} {as rest : List Value} {b : Nat × Nat} {S S0 : eS} {Q : Option Value → eS → Prop} {v0 : Option Value}
theorem ewP_vF {k : Nat} (hl : ewLV M.2.2.2.2.2.2 idx M') (hO : ewOKm M' n) (hdec : decode M.1 pc = .ok (.invokevirtual idx, 3)) (hn : as.length = n) (hle : (ewEn0 (.ref k :: as)).length ≤ M'.2.2.1) (hk : ewTk S k M'.2.2.2.2.2.2 = true) (ho9 : M'.2.2.2.2.2.2 < 9) (hr : Nat.ble (ewSum rest) 8 = true) (hz1 : M'.2.2.2.2.1 = 0) (hz2 : M'.2.2.2.2.2.1 = 0) (hsz : S0.1 = S.1)
    (hM : ∀ Q' : Option Value → eS → Prop, Q' v0 S0 → ewP X M' d 0 (ewEn (.ref k :: as) M'.2.2.1) [] (0, 0) S Q') (kk : ewP X M (d + 1) (pc + 3) ls (v0.toList ++ rest) b S0 Q) :
    ewP X M (d + 1) pc ls (as.reverse ++ .ref k :: rest) b S Q := by
  refine ewP_v (Q' := fun v S' => v = v0 ∧ S' = S0) hl hO hdec hn hle hk ho9 hr (by omega) (by omega) ?_ (fun v S' h => ?_)
  · rw [hz1, hz2]; exact hM _ ⟨rfl, rfl⟩
  · obtain ⟨rfl, rfl⟩ := h
    rw [hz1, hz2]
    exact ⟨hsz, kk⟩
theorem ewP_sF (hl : ewLS M.2.2.2.2.2.2 idx M') (hO : ewOKm M' n) (hdec : decode M.1 pc = .ok (.invokestatic idx, 3)) (hn : as.length = n) (hle : (ewEn0 as).length ≤ M'.2.2.1) (hr : Nat.ble (ewSum rest) 8 = true) (hz1 : M'.2.2.2.2.1 = 0) (hz2 : M'.2.2.2.2.2.1 = 0) (hsz : S0.1 = S.1)
    (hM : ∀ Q' : Option Value → eS → Prop, Q' v0 S0 → ewP X M' d 0 (ewEn as M'.2.2.1) [] (0, 0) S Q') (kk : ewP X M (d + 1) (pc + 3) ls (v0.toList ++ rest) b S0 Q) :
    ewP X M (d + 1) pc ls (as.reverse ++ rest) b S Q := by
  refine ewP_s (Q' := fun v S' => v = v0 ∧ S' = S0) hl hO hdec hn hle hr (by omega) (by omega) ?_ (fun v S' h => ?_)
  · rw [hz1, hz2]; exact hM _ ⟨rfl, rfl⟩
  · obtain ⟨rfl, rfl⟩ := h
    rw [hz1, hz2]
    exact ⟨hsz, kk⟩
/-- a call of which only a relation is known -/
theorem ewP_vR {k : Nat} {Q' : Option Value → eS → Prop} (hl : ewLV M.2.2.2.2.2.2 idx M') (hO : ewOKm M' n) (hdec : decode M.1 pc = .ok (.invokevirtual idx, 3)) (hn : as.length = n) (hle : (ewEn0 (.ref k :: as)).length ≤ M'.2.2.1) (hk : ewTk S k M'.2.2.2.2.2.2 = true) (ho9 : M'.2.2.2.2.2.2 < 9) (hr : Nat.ble (ewSum rest) 8 = true) (hz1 : M'.2.2.2.2.1 = 0) (hz2 : M'.2.2.2.2.2.1 = 0)
    (hM : ewP X M' d 0 (ewEn (.ref k :: as) M'.2.2.1) [] (0, 0) S Q') (kk : ∀ v S', Q' v S' → S'.1 = S.1 ∧ ewP X M (d + 1) (pc + 3) ls (v.toList ++ rest) b S' Q) :
    ewP X M (d + 1) pc ls (as.reverse ++ .ref k :: rest) b S Q := by
  refine ewP_v (Q' := Q') hl hO hdec hn hle hk ho9 hr (by omega) (by omega) ?_ (fun v S' h => ?_)
  · rw [hz1, hz2]; exact hM
  · rw [hz1, hz2]
    exact kk v S' h
/-- the rows of a switch: x = n goes to the first, and so on -/
def ewSw (x : Int32) (K : Nat → Prop) : Nat → List Nat → Prop
  | _, [] => True
  | n, t :: ts => (x = Int32.ofNat n → K t) ∧ ewSw x K (n + 1) ts
theorem ewSw_at {x : Int32} {K : Nat → Prop} : ∀ {n : Nat} {ts : List Nat}, ewSw x K n ts → ∀ {j t : Nat}, ts[j]? = some t → x = Int32.ofNat (n + j) → K t
  | n, [], _, j, t, h, _ => by simp at h
  | n, u :: ts, hs, 0, t, h, hx => by cases h; exact hs.1 hx
  | n, u :: ts, hs, j + 1, t, h, hx => ewSw_at hs.2 (by simpa using h) (by rw [hx]; congr 1; omega)
def ewSwC (pc : Nat) (offs : List Int) (tg : List Nat) : Bool := decide (offs.map (fun o => (pc : Int) + o) = tg.map (fun t : Nat => (t : Int)))
theorem ewP_t {dflt hi : Int} {offs : Array Int} {len dt : Nat} {x : Int32} (tg : List Nat) (hdec : decode M.1 pc = .ok (.tableswitch dflt 0 hi offs, len)) (hc : ewSwC pc offs.toList tg = true) (hd : (pc : Int) + dflt = (dt : Int)) (hh : hi + 1 = (tg.length : Int)) (hlt : tg.length < 2 ^ 31)
    (k : ewSw x (fun t => ewP X M d t ls rest b S Q) 0 tg ∧ (x < 0 ∨ Int32.ofNat tg.length ≤ x → ewP X M d dt ls rest b S Q)) : ewP X M d pc ls (.int x :: rest) b S Q := by
  intro D c4 φ B p l e R s m args below meth c Z hF hE hret Ls H locs a1 a2 a3 a4 a5 a6 a7
  obtain ⟨hx, hb, -⟩ := id hF
  by_cases hout : x < 0 ∨ Int32.ofNat tg.length ≤ x
  · refine lv_tableOut hx hb hdec ?_ hd (k.2 hout D c4 φ B p l e R s m args below meth c Z hF hE hret Ls H locs a1 a2 a3 a4 a5 a6 a7)
    rcases hout with h | h
    · exact Or.inl (by simpa using Int32.lt_iff_toInt_lt.mp h)
    · have h2 := Int32.le_iff_toInt_le.mp h
      have h3 : (Int32.ofNat tg.length).toInt = (tg.length : Int) := nI_toInt hlt
      rw [h3] at h2
      exact Or.inr (by omega)
  · have hnn : ¬ x < 0 := fun h => hout (Or.inl h)
    obtain ⟨j, hj, rfl⟩ := nI_of hnn
    have hjl : j < tg.length := by
      rcases Nat.lt_or_ge j tg.length with h | h
      · exact h
      · exact absurd (Or.inr (nI_le h hj)) hout
    have hjt : (nI j).toInt = (j : Int) := nI_toInt hj
    have hc' : offs.toList.map (fun o => (pc : Int) + o) = tg.map (fun t : Nat => (t : Int)) := of_decide_eq_true hc
    have hget := congrArg (fun q => q[j]?) hc'
    simp only [List.getElem?_map] at hget
    rw [List.getElem?_eq_getElem hjl] at hget
    cases ho : offs.toList[j]? with
    | none => rw [ho] at hget; cases hget
    | some off =>
      rw [ho] at hget
      have e1 : (pc : Int) + off = ((tg[j] : Nat) : Int) := by simpa using hget
      have ht := ewSw_at k.1 (List.getElem?_eq_getElem hjl) (by rw [Nat.zero_add]; rfl)
      refine lv_tableIn hx hb hdec (by rw [hjt]; omega) (by rw [hjt]; omega) (off := off) ?_ e1 (ht D c4 φ B p l e R s m args below meth c Z hF hE hret Ls H locs a1 a2 a3 a4 a5 a6 a7)
      rw [hjt, ← Array.getElem?_toList]
      rw [show ((j : Int) - 0).toNat = j by omega]
      exact ho
end EWT
theorem ewJ {α : Sort _} {P : α → Prop} {x y : α} (e : x = y) (h : P x) : P y := e ▸ h
theorem ewIn {i : Int32} {n : Nat} (h : (!decide (i < 0) && Nat.blt i.toNatClampNeg n) = true) : vp_in i n := by
  simp only [Bool.and_eq_true, Bool.not_eq_true', decide_eq_false_iff_not] at h
  intro q
  rcases q with q | q
  · exact h.1 q
  · have := Nat.le_of_ble_eq_true h.2
    omega
theorem ewB1 {c : Prop} {h : Decidable c} (q : ¬ (@ite Int32 c h 1 0) = 0) : c := by
  by_cases hc : c
  · exact hc
  · rw [if_neg hc] at q; exact absurd rfl q
theorem ewB0 {c : Prop} {h : Decidable c} (q : (@ite Int32 c h 1 0) = 0) : ¬ c := by
  intro hc
  rw [if_pos hc] at q
  exact absurd q (by decide)
theorem ewB01 {c : Prop} {h : Decidable c} : (@ite Int32 c h 1 0) = 0 ∨ (@ite Int32 c h 1 0) = 1 := by
  by_cases hc : c
  · rw [if_pos hc]; exact Or.inr rfl
  · rw [if_neg hc]; exact Or.inl rfl
theorem ewS_S {α : Type} (h : Nat → α) (k : Nat) (f g : α) : ewS (ewS h k f) k g = ewS h k g := by
  funext q
  by_cases e : q = k <;> simp [ewS, e]
/-- locals of which less is said -/
def ewLe : eL → eL → Prop
  | [], [] => True
  | none :: l, _ :: l' => ewLe l l'
  | some v :: l, w :: l' => w = some v ∧ ewLe l l'
  | _, _ => False
theorem ewLe_at : ∀ {l l' : eL}, ewLe l l' → ∀ {j : Nat} {w : Value}, ewAt l j = some w → ewAt l' j = some w
  | [], [], _, j, w, h => h
  | none :: l, _ :: l', h, 0, w, hw => by cases hw
  | none :: l, _ :: l', h, j + 1, w, hw => ewLe_at (l := l) (l' := l') h hw
  | some v :: l, u :: l', h, 0, w, hw => by cases hw; exact h.1
  | some v :: l, u :: l', h, j + 1, w, hw => ewLe_at (l := l) (l' := l') h.2 hw
  | [], _ :: _, h, _, _, _ => h.elim
  | none :: _, [], h, _, _, _ => h.elim
  | some _ :: _, [], h, _, _, _ => h.elim
theorem ewLe_len : ∀ {l l' : eL}, ewLe l l' → l.length = l'.length
  | [], [], _ => rfl
  | none :: l, _ :: l', h => by simp [ewLe_len (l := l) (l' := l') h]
  | some v :: l, u :: l', h => by simp [ewLe_len (l := l) (l' := l') h.2]
  | [], _ :: _, h => h.elim
  | none :: _, [], h => h.elim
  | some _ :: _, [], h => h.elim
theorem ewP_w {X : Nat × (Nat → Int32)} {M : ewMt} {d pc : Nat} {ls : eL} (ls0 : eL) {st : List Value} {b : Nat × Nat} {S : eS} {Q : Option Value → eS → Prop} (hle : ewLe ls0 ls) (h : ewP X M d pc ls0 st b S Q) : ewP X M d pc ls st b S Q := by
  intro D c4 φ B p l e R s m args below meth c Z hF hE hret Ls H locs a1 a2 a3 a4 a5 a6 a7
  refine h D c4 φ B p l e R s m args below meth c Z hF hE hret Ls H locs a1 a2 ⟨a3.1, a3.2.1, fun q hq => a3.2.2 q ?_⟩ (by rw [ewLe_len hle]; exact a4) a5 a6 a7
  obtain ⟨a, u⟩ := q
  obtain ⟨j, w, h1, h2, h3⟩ := (ewAsc_mem φ _ 0 a u).mp hq
  exact (ewAsc_mem φ _ 0 a u).mpr ⟨j, w, h1, ewLe_at hle h2, h3⟩
def ewNo (i : eI) : Bool := match i.1 with
  | .new _ => false
  | .anewarray _ => false
  | .invokespecial _ => false
  | .invokestatic _ => false
  | _ => true
theorem ewNo_w {M : ewMt} : ∀ {is : List eI}, is.all ewNo = true → ewCw M is
  | [], _ => trivial
  | (ins, q) :: is, h => by
    rw [List.all_cons, Bool.and_eq_true] at h
    refine ⟨?_, ewNo_w h.2⟩
    have h1 := h.1
    cases ins <;> first | exact trivial | (exact absurd h1 (by simp [ewNo]))
theorem ewP_0 {X : Nat × (Nat → Int32)} {M : ewMt} {d pc : Nat} {ls : eL} {st : List Value} {b : Nat × Nat} {S : eS} {Q : Option Value → eS → Prop} {is : List eI} (hck : (ewCk M pc is && is.all ewNo) = true) (h : ewB X is pc ls st b S (fun pc ls st b S => ewP X M d pc ls st b S Q)) : ewP X M d pc ls st b S Q := by
  rw [Bool.and_eq_true] at hck
  exact ewP_b is hck.1 (ewNo_w hck.2) h
theorem ewI {a c : Prop} {ha : Decidable a} {hc : Decidable c} (h : a ↔ c) : (@ite Int32 a ha 1 0) = (@ite Int32 c hc 1 0) := by
  by_cases q : c
  · rw [if_pos q, if_pos (h.mpr q)]
  · rw [if_neg q, if_neg (fun z => q (h.mp z))]
theorem ewT {a : Prop} {ha : Decidable a} (h : a) : (@ite Int32 a ha 1 0) = 1 := if_pos h
theorem ewFa {a : Prop} {ha : Decidable a} (h : ¬ a) : (@ite Int32 a ha 1 0) = 0 := if_neg h
def ewTj (k c : Nat) : Bool := Nat.beq (kK k) c && Nat.blt k 229
