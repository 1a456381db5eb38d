/-! Math.abs, max, min: by the kit's rules -/
def mabs (x : Int32) : Int32 := if 0 ≤ x then x else 0 - x
def mmax (x y : Int32) : Int32 := if x < y then y else x
def mmin (x y : Int32) : Int32 := if y < x then y else x
theorem ewMc1 : Lib.Math.abs.code = Jm_abs.1 := by decide +kernel
theorem ewMc2 : Lib.Math.max.code = Jm_max.1 := by decide +kernel
theorem ewMc3 : Lib.Math.min.code = Jm_min.1 := by decide +kernel
section EWMATH
variable {X : Nat × (Nat → Int32)} {M : ewMt} {d pc idx : Nat} {ls : eL} {rest : List Value} {b : Nat × Nat} {S : eS} {Q : Option Value → eS → Prop} {x y : Int32}
theorem ewP_abs (hl : Cond.methodLink (ewOwn M.2.2.2.2.2.2) idx Jm_abs.2.1 ∈ lw_tbl) (h2 : Cond.static Jm_abs.2.1 ∈ lw_tbl) (hdec : decode M.1 pc = .ok (.invokestatic idx, 3)) (hr : Nat.ble (ewSum rest) 8 = true) (kk : ewP X M d (pc + 3) ls (.int (mabs x) :: rest) b S Q) : ewP X M d pc ls (.int x :: rest) b S Q := by
  intro D c4 φ B p l e R s m args below meth c Z hF hE hret Ls H locs a1 a2 a3 a4 a5 a6 a7
  obtain ⟨hx, hb, hml, -, hown, hts, -, -, hfr, hlo, hmc, hms⟩ := id hF
  have h5 := kk D c4 φ B p l e R s m args below meth c Z hF hE hret Ls H locs a1 a2 a3 a4 a5 a6 a7
  exact va_mabs hx hb (hml.trans a3.1.symm) hown (hts _ (ewGm hl rfl)) (hts _ (ewGm h2 rfl)) (hts _ (ewGm (ewIni 10 (by decide)) rfl)) (by rw [ewMc1]; exact hts _ (ewGm Jm_abs_in rfl)) (by omega) (by rw [ewSum_map]; have := Nat.le_of_ble_eq_true hr; omega) (by omega) (by omega) hdec h5
theorem ewP_max (hl : Cond.methodLink (ewOwn M.2.2.2.2.2.2) idx Jm_max.2.1 ∈ lw_tbl) (h2 : Cond.static Jm_max.2.1 ∈ lw_tbl) (hdec : decode M.1 pc = .ok (.invokestatic idx, 3)) (hr : Nat.ble (ewSum rest) 8 = true) (kk : ewP X M d (pc + 3) ls (.int (mmax x y) :: rest) b S Q) : ewP X M d pc ls (.int y :: .int x :: rest) b S Q := by
  intro D c4 φ B p l e R s m args below meth c Z hF hE hret Ls H locs a1 a2 a3 a4 a5 a6 a7
  obtain ⟨hx, hb, hml, -, hown, hts, -, -, hfr, hlo, hmc, hms⟩ := id hF
  have h5 := kk D c4 φ B p l e R s m args below meth c Z hF hE hret Ls H locs a1 a2 a3 a4 a5 a6 a7
  exact va_mmax hx hb (hml.trans a3.1.symm) hown (hts _ (ewGm hl rfl)) (hts _ (ewGm h2 rfl)) (hts _ (ewGm (ewIni 10 (by decide)) rfl)) (by rw [ewMc2]; exact hts _ (ewGm Jm_max_in rfl)) (by omega) (by rw [ewSum_map]; have := Nat.le_of_ble_eq_true hr; omega) (by omega) (by omega) hdec h5
theorem ewP_min (hl : Cond.methodLink (ewOwn M.2.2.2.2.2.2) idx Jm_min.2.1 ∈ lw_tbl) (h2 : Cond.static Jm_min.2.1 ∈ lw_tbl) (hdec : decode M.1 pc = .ok (.invokestatic idx, 3)) (hr : Nat.ble (ewSum rest) 8 = true) (kk : ewP X M d (pc + 3) ls (.int (mmin x y) :: rest) b S Q) : ewP X M d pc ls (.int y :: .int x :: rest) b S Q := by
  intro D c4 φ B p l e R s m args below meth c Z hF hE hret Ls H locs a1 a2 a3 a4 a5 a6 a7
  obtain ⟨hx, hb, hml, -, hown, hts, -, -, hfr, hlo, hmc, hms⟩ := id hF
  have h5 := kk D c4 φ B p l e R s m args below meth c Z hF hE hret Ls H locs a1 a2 a3 a4 a5 a6 a7
  exact va_mmin hx hb (hml.trans a3.1.symm) hown (hts _ (ewGm hl rfl)) (hts _ (ewGm h2 rfl)) (hts _ (ewGm (ewIni 10 (by decide)) rfl)) (by rw [ewMc3]; exact hts _ (ewGm Jm_min_in rfl)) (by omega) (by rw [ewSum_map]; have := Nat.le_of_ble_eq_true hr; omega) (by omega) (by omega) hdec h5
end EWMATH
