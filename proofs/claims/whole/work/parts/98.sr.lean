/-! a static callee told by a relation -/
theorem ewP_sR {X : Nat × (Nat → Int32)} {M M' : ewMt} {d pc n idx : Nat} {ls : eL} {as rest : List Value} {b : Nat × Nat} {S : eS} {Q : Option Value → eS → Prop} {Q' : Option Value → eS → Prop} (hl : ewLS M.2.2.2.2.2.2 idx M') (hO : ewOKm M' n) (hdec : decode M.1 pc = .ok (.invokestatic idx, 3)) (hn : as.length = n) (hle : (ewEn0 as).length ≤ M'.2.2.1) (hr : Nat.ble (ewSum rest) 8 = true) (hz1 : M'.2.2.2.2.1 = 0) (hz2 : M'.2.2.2.2.2.1 = 0)
    (hM : ewP X M' d 0 (ewEn as M'.2.2.1) [] (0, 0) S Q') (kk : ∀ v S', Q' v S' → S'.1 = S.1 ∧ ewP X M (d + 1) (pc + 3) ls (v.toList ++ rest) b S' Q) :
    ewP X M (d + 1) pc ls (as.reverse ++ rest) b S Q := by
  refine ewP_s (Q' := Q') hl hO hdec hn hle hr (by omega) (by omega) ?_ (fun v S' h => ?_)
  · rw [hz1, hz2]; exact hM
  · rw [hz1, hz2]
    exact kk v S' h
