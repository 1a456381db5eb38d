/-! RENAMING of cells: two cells of one kind may change their names -/
def ewRv (π : Nat → Nat) : Value → Value
  | .ref k => .ref (π k)
  | v => v
def ewRS (π : Nat → Nat) (S : eS) : eS := (S.1, fun k j => π (S.2.1 (π k) j), fun k => S.2.2 (π k))
def ewPm (π : Nat → Nat) : Prop := (∀ k, π (π k) = k) ∧ (∀ k, k < 229 → π k < 229 ∧ kK (π k) = kK k ∧ kL (π k) = kL k) ∧ ∀ k, 229 ≤ k → π k = k
theorem ewRv_v (φ π : Nat → Nat) (hπ : ∀ k, π (π k) = k) (v : Value) : ewV (fun k => φ (π k)) (ewRv π v) = ewV φ v := by
  cases v <;> simp [ewRv, ewV, hπ]
theorem ewRv_asc (φ π : Nat → Nat) (hπ : ∀ k, π (π k) = k) : ∀ (ls : eL) (n : Nat), ewAsc (fun k => φ (π k)) n (ls.map (Option.map (ewRv π))) = ewAsc φ n ls
  | [], n => rfl
  | none :: l, n => ewRv_asc φ π hπ l (n + 1)
  | some v :: l, n => by
    show (n, _) :: ewAsc _ (n + 1) (l.map _) = (n, _) :: ewAsc φ (n + 1) l
    rw [ewRv_asc φ π hπ l (n + 1), ewRv_v φ π hπ]
theorem ewRo_ren (φ π : Nat → Nat) (h : ewPm π) (x : Nat) : ewRo (fun k => φ (π k)) (π x) = ewRo φ x := by
  unfold ewRo
  by_cases e : x = 100000
  · rw [if_pos e, e, h.2.2 _ (by decide), if_pos rfl]
  · rw [if_neg e, if_neg (fun q => e (by rw [← h.1 x, q]; exact h.2.2 _ (by decide)))]
    show some (φ (π (π x))) = some (φ x)
    rw [h.1]
theorem ewEnt_ren (φ π : Nat → Nat) (h : ewPm π) (c4 : ClassId × ClassId × ClassId × ClassId) (S : eS) {k : Nat} (hk : k < 229) : ewEnt (fun k => φ (π k)) c4 (ewRS π S) k = ewEnt φ c4 S (π k) := by
  obtain ⟨-, e1, e2⟩ := h.2.1 k hk
  unfold ewEnt ewRS
  rw [e1, e2]
  dsimp only
  simp only [ewRo_ren φ π h]
theorem ewW_ren {D : va_G} {c4 : ClassId × ClassId × ClassId × ClassId} {φ π : Nat → Nat} {B : Nat} {S : eS} {H : Heap} (h : ewPm π) (hS : S.1 = 229) (hW : ewW D c4 φ B S H) : ewW D c4 (fun k => φ (π k)) B (ewRS π S) H := by
  have at1 : ∀ (k : Nat) (q : Nat × va_E), (ewWs (fun k => φ (π k)) c4 (ewRS π S))[k]? = some q → k < 229 ∧ (ewWs φ c4 S)[π k]? = some q := by
    intro k q hq
    have hl : k < 229 := by
      have := (List.getElem?_eq_some_iff.mp hq).1
      simp [ewWs, ewRS, hS] at this
      exact this
    refine ⟨hl, ?_⟩
    rw [ewWs_at (show k < (ewRS π S).1 by show k < S.1; omega)] at hq
    rw [ewWs_at (show π k < S.1 by rw [hS]; exact (h.2.1 k hl).1), ← ewEnt_ren φ π h c4 S hl]
    exact hq
  refine ⟨fun k q hq => hW.1 _ q (at1 k q hq).2, ⟨fun i j x y hi hj hxy => ?_, fun k q hq => hW.2.1.2 _ q (at1 k q hq).2⟩, hW.2.2⟩
  have := hW.2.1.1 _ _ x y (at1 i x hi).2 (at1 j y hj).2 hxy
  rw [← h.1 i, this, h.1]
theorem ewRet_ren {M : ewMt} {pc : Nat} {v : Option Value} (π : Nat → Nat) (h : ewRet M pc v) : ewRet M pc (v.map (ewRv π)) := by
  unfold ewRet at h ⊢
  split at h
  · obtain ⟨rfl, h⟩ := h; exact ⟨rfl, h⟩
  · obtain ⟨⟨x, rfl⟩, h⟩ := h; exact ⟨⟨x, rfl⟩, h⟩
  · obtain ⟨⟨x, rfl, h0⟩, h⟩ := h; exact ⟨⟨x, rfl, h0⟩, h⟩
  · obtain ⟨⟨x, rfl⟩, h⟩ := h; exact ⟨⟨π x, rfl⟩, h⟩
  · exact h
theorem ewRS_S (π : Nat → Nat) (h : ewPm π) (S : eS) : ewRS π (ewRS π S) = S := by
  obtain ⟨n, r, g⟩ := S
  unfold ewRS
  dsimp only
  simp only [h.1]
theorem ewP_ren {X : Nat × (Nat → Int32)} {M : ewMt} {d pc : Nat} {ls : eL} {st : List Value} {b : Nat × Nat} {S : eS} {Q : Option Value → eS → Prop} (π : Nat → Nat) (h : ewPm π) (hS : S.1 = 229)
    (hP : ewP X M d pc (ls.map (Option.map (ewRv π))) (st.map (ewRv π)) b (ewRS π S) (fun v S' => S'.1 = 229 ∧ Q (v.map (ewRv π)) (ewRS π S'))) : ewP X M d pc ls st b S Q := by
  intro D c4 φ B p l e R s m args below meth c Z hF hE hret Ls H locs a1 a2 a3 a4 a5 a6 a7
  have hE' : ewE X D c4 (fun k => φ (π k)) B s s.heap := by
    obtain ⟨h1, h2, h3, h4⟩ := hE
    refine ⟨h1, fun j hj => ?_, ?_, h4⟩
    · show va_Z "EightWays" (ewSn j) "[I" (.ref (φ (π (200000 + j)))) _ s s.heap ∧ va_T .int (φ (π (200000 + j))) _ _ _ s s.heap
      rw [h.2.2 _ (by omega)]
      exact h2 j hj
    · show va_X (φ (π 300000)) X.1 X.2 s s.heap ∧ φ (π 300000) < B
      rw [h.2.2 _ (by decide)]
      exact h3
  have key := hP D c4 (fun k => φ (π k)) B p l e R s m args below meth c Z hF hE' ?_ Ls H locs (ewW_ren h hS a1) a2 (by rw [ewRv_asc φ π h.1]; exact a3) (by rw [List.length_map]; exact a4) a5 a6 (fun h9 => absurd h9 (by show ¬ S.1 < 229; omega))
  · have e1 : (st.map (ewRv π)).map (ewV (fun k => φ (π k))) = st.map (ewV φ) := by
      rw [List.map_map]
      apply List.map_congr_left
      intro v _
      exact ewRv_v φ π h.1 v
    rw [e1] at key
    exact key
  · intro v S' b' pc' Ls' H' locs' hQ hW' hS' h1 h2 hr hal
    have hW2 := ewW_ren (φ := fun k => φ (π k)) h hQ.1 hW'
    have e2 : (fun k => (fun k => φ (π k)) (π k)) = φ := by funext k; show φ (π (π k)) = φ k; rw [h.1]
    rw [e2] at hW2
    have := hret (v.map (ewRv π)) (ewRS π S') b' pc' Ls' H' locs' hQ.2 hW2 hS' h1 h2 (ewRet_ren π hr) (fun h9 => absurd h9 (by show ¬ S'.1 < 229; rw [hQ.1]; decide))
    have e1 : (v.map (ewRv π)).toList.map (ewV φ) = v.toList.map (ewV (fun k => φ (π k))) := by
      cases v with
      | none => rfl
      | some v =>
        show [ewV φ (ewRv π v)] = [ewV (fun k => φ (π k)) v]
        congr 1
        have := ewRv_v (fun k => φ (π k)) π h.1 v
        rw [e2] at this
        exact this
    rw [e1] at this
    exact this
/-- the two nets change places -/
def ewNets (k : Nat) : Nat := if 3 ≤ k ∧ k ≤ 34 then k + 32 else if 35 ≤ k ∧ k ≤ 66 then k - 32 else k
/-- the two charts, the two settings that they draw -/
def ewCharts (k : Nat) : Nat := if 142 ≤ k ∧ k ≤ 145 then k + 4 else if 146 ≤ k ∧ k ≤ 149 then k - 4 else if 67 ≤ k ∧ k ≤ 70 then k + 4 else if 71 ≤ k ∧ k ≤ 74 then k - 4 else k
theorem ewNets_ok : ewPm ewNets := by
  refine ⟨fun k => ?_, ?_, fun k hk => ?_⟩
  · unfold ewNets; repeat' split
    all_goals omega
  · decide +kernel
  · unfold ewNets; repeat' split
    all_goals omega
theorem ewCharts_ok : ewPm ewCharts := by
  refine ⟨fun k => ?_, ?_, fun k hk => ?_⟩
  · unfold ewCharts; repeat' split
    all_goals omega
  · decide +kernel
  · unfold ewCharts; repeat' split
    all_goals omega
