/-! only the letters that were fed bear on what is read; the reference's call: net -/
section CG
variable {t t' : Nat → Int32} {n : Nat}
theorem psk0_cg (h : ∀ j, j < n → t j = t' j) : ∀ f i, psk0 t n f i = psk0 t' n f i
  | 0, _ => rfl
  | f + 1, i => by
    show (if i < n ∧ t i = 32 then psk0 t n f (i + 1) else i) = if i < n ∧ t' i = 32 then psk0 t' n f (i + 1) else i
    rw [psk0_cg h f (i + 1)]
    by_cases q : i < n
    · rw [h i q]
    · rw [if_neg (fun z => q z.1), if_neg (fun z => q z.1)]
theorem psk_cg (h : ∀ j, j < n → t j = t' j) : psk t n = psk t' n := funext fun i => psk0_cg h _ i
theorem pdg0_cg (h : ∀ j, j < n → t j = t' j) : ∀ f i, pdg0 t n f i = pdg0 t' n f i
  | 0, _ => rfl
  | f + 1, i => by
    show (if i < n ∧ 48 ≤ (t i).toInt ∧ (t i).toInt ≤ 57 then pdg0 t n f (i + 1) else i) = if i < n ∧ 48 ≤ (t' i).toInt ∧ (t' i).toInt ≤ 57 then pdg0 t' n f (i + 1) else i
    rw [pdg0_cg h f (i + 1)]
    by_cases q : i < n
    · rw [h i q]
    · rw [if_neg (fun z => q z.1), if_neg (fun z => q z.1)]
theorem pnp_cg (h : ∀ j, j < n → t j = t' j) : pnp t n = pnp t' n := psk_cg h
theorem pnq_cg (h : ∀ j, j < n → t j = t' j) : pnq t n = pnq t' n := funext fun i => by
  unfold pnq
  rw [pnp_cg h]
  exact pdg0_cg h _ _
theorem pvl_cg {p : Nat} : ∀ k, (∀ i, i < k → t (p + i) = t' (p + i)) → pvl t p k = pvl t' p k
  | 0, _ => rfl
  | k + 1, h => by
    unfold pvl
    rw [pvl_cg k (fun i hi => h i (by omega)), h k (by omega)]
theorem pnv_cg (h : ∀ j, j < n → t j = t' j) : pnv t n = pnv t' n := funext fun a => by
  have e1 := congrFun (pnp_cg h) a
  have e2 := congrFun (pnq_cg h) a
  unfold pnv
  rw [← e1, ← e2]
  refine pvl_cg _ (fun i hi => h _ ?_)
  by_cases q : pnp t n a ≤ n
  · have := pdg_le (t := t) (n := n) (n - pnp t n a) (pnp t n a) (by omega)
    unfold pnq at hi
    omega
  · have := pdg_at (t := t) (n := n) (i := pnp t n a) (by omega)
    unfold pnq at hi
    omega
theorem pnf_cg (h : ∀ j, j < n → t j = t' j) : pnf t n = pnf t' n := funext fun a => funext fun l => by
  unfold pnf
  rw [pnp_cg h, pnq_cg h, pnv_cg h]
theorem pcl_cg (h : ∀ j, j < n → t j = t' j) (z : pSt) (hp : psk t n z.1 < n) : pcl t n z = pcl t' n z := by
  unfold pcl
  simp only
  rw [pnp_cg h, pnq_cg h, pnv_cg h, pnf_cg h, h _ hp, psk_cg h]
  have e : ∀ r, (r < n ∧ t r = 59) = (r < n ∧ t' r = 59) := fun r => by
    by_cases q : r < n
    · rw [h r q]
    · rw [eq_iff_iff]; exact ⟨fun z => absurd z.1 q, fun z => absurd z.1 q⟩
  simp only [e]
theorem ppa_cg (h : ∀ j, j < n → t j = t' j) : ∀ f z, ppa t n f z = ppa t' n f z
  | 0, _ => rfl
  | f + 1, z => by
    unfold ppa
    rw [← psk_cg h]
    by_cases q : psk t n z.1 < n
    · rw [if_pos q, if_pos q, pcl_cg h z q]
      split
      · rfl
      · exact ppa_cg h f _
    · rw [if_neg q, if_neg q]
end CG
section CALLS14
variable {h w : Nat → Nat → Int32} {G : Nat → Nat → Int32} {tn : Nat} {tx : Nat → Int32} {fp wy : Int32} {n m : Nat} {A B : Nat → Nat} {k : Nat} {F T : Nat → Nat} {c : Nat → Int32} {u : Nat} {S : Nat → Nat → Int32} {g : Nat → Bool} {I : Nat → Nat → Int32}
theorem mI.n0 (a : mI h G tn tx fp wy n m A B k F T c u S g I) {w : Nat → Nat → Int32} (f : mFq h w [204, 205, 206, 207, 208, 209, 210] [12, 13, 14, 15, 16, 17, 18, 21, 24]) (e : w 194 12 = 0) {p q : Int32} (e1 : w 194 13 = p) (e2 : w 194 14 = q) : mI w G 0 tx p q n m A B k F T c u S g I := by
  obtain ⟨a1, a2, a3, a4, a5, a6⟩ := a
  obtain ⟨r1, r2, r3, r4, r5, r6, r7, r8⟩ := g_fr f (by decide) (by decide)
  obtain ⟨g1, g2, g3, g4, g5, g6, g7⟩ := a3.g
  have wN := r8 a3.N
  unfold mN at wN
  rw [r1, r2, r3, r4, r5, r6, r7, g1, g2, g3, g4, g5, g6, g7] at wN
  refine ⟨⟨e, fun j hj => by omega⟩, ⟨⟨e1, e2⟩, mGq f (by decide) a2.2⟩, wN, by rw [f.1 202 (by decide) (by decide)]; exact a4, by rw [f.2 47 (by decide), f.1 226 (by decide) (by decide)]; exact a5, ?_⟩
  rw [f.1 227 (by decide) (by decide), f.1 228 (by decide) (by decide)]
  exact a6
theorem t_Mo_net {X : Nat × (Nat → Int32)} {d : Nat} {cu sp n1 n2 n3 n4 : Nat} (a : mI h G tn tx fp wy n m A B k F T c u S g I) (ht : tn ≤ 240 ∧ ∀ j, j < tn → ∃ x, x < 256 ∧ tx j = nI x) : ewP X Mo_net (d + 5) 0 [some (.ref 194), none] [] (0, 0) (229, ewR cu sp n1 n2 n3 n4, h) (fun v S' => ∃ (h' : Nat → Nat → Int32) (y : Int32), v = some (.int y) ∧ S' = (229, ewR cu sp n1 n2 n3 n4, h') ∧
    match ppa tx tn 241 ppS with
    | .inl x => y = -10 - nI x.1 ∧ mI h' G 0 tx (nI x.2.1) (nI x.2.2) n m A B k F T c u S g I
    | .inr z => y = nI z.2.1.1 ∧ pWF z ∧ pNm z ∧ mI h' G 0 tx (-1) 0 z.2.1.1 z.2.2.1.1 z.2.2.1.2.1 z.2.2.1.2.2 z.2.2.2.1 z.2.2.2.2.1 z.2.2.2.2.2 (pS0 z.2.1.2.1 z.2.1.2.2) 0 S (fun _ => false) I) := by
  refine ewP_m (fun v S' q => ?_) (s_Mo_net h ⟨tn, a.1.1, ht.1, fun j hj => ?_⟩)
  · obtain ⟨h', y, hN, e1, e2⟩ := q
    refine ⟨h', y, e1, e2, ?_⟩
    obtain ⟨f, z0, hm⟩ := hN
    rw [a.1.1, nI_clamp (by omega), ppa_cg a.1.2] at hm
    revert hm
    cases ppa tx tn 241 ppS with
    | inl x =>
      rintro ⟨y1, y2, y3, y4⟩
      exact ⟨y1, a.n0 y4 z0 y2 y3⟩
    | inr z =>
      rintro ⟨y1, y2, y3, y4, y5, y6, y7, y8, y9, y10⟩
      refine ⟨y1, y4, y5, ⟨z0, fun j hj => by omega⟩, ⟨⟨y2, y3⟩, mGq f (by decide) a.2.1.2⟩, y6, y7, ⟨y8, fun j hj => by omega⟩, fun i hi => ⟨?_, fun z => by cases z⟩⟩
      have : i = 0 ∨ i = 1 := by omega
      rcases this with rfl | rfl
      · exact y9
      · exact y10
  · obtain ⟨x, hx, e⟩ := ht.2 j hj
    rw [a.1.2 j hj, e]
    exact nI_nlt (b := 0) (Nat.zero_le _) (by omega)
end CALLS14
