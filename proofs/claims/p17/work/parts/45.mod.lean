/-! the law's remainder: never negative -/
theorem dp_rem (x : Int32) {M : Nat} (h1 : 1 ≤ M) (hM : M ≤ 256) : (x - x / nI M * nI M).toInt = x.toInt.tmod (M : Int) := by
  have a := Int.tmod_lt_of_pos x.toInt (b := (M : Int)) (by omega)
  have b := Int.lt_tmod_of_pos x.toInt (b := (M : Int)) (by omega)
  rw [Int32.toInt_sub, Int32.toInt_mul, Int32.toInt_div, nI_toInt (show M < 2 ^ 31 by omega), Int.bmod_mul_bmod, Int.sub_bmod_bmod, Int.mul_comm, ← Int.tmod_def]
  exact Int.bmod_eq_of_le (by omega) (by omega)
theorem dp_mod (v : Int32) {M : Nat} (h1 : 1 ≤ M) (hM : M ≤ 256) : (v - v / nI M * nI M < 0 → ∃ j, j < M ∧ v - v / nI M * nI M + nI M = nI j) ∧ (¬ v - v / nI M * nI M < 0 → ∃ j, j < M ∧ v - v / nI M * nI M = nI j) := by
  have e := dp_rem v h1 hM
  have a := Int.tmod_lt_of_pos v.toInt (b := (M : Int)) (by omega)
  have b := Int.lt_tmod_of_pos v.toInt (b := (M : Int)) (by omega)
  generalize v - v / nI M * nI M = r at e ⊢
  constructor
  · intro h
    rw [Int32.lt_iff_toInt_lt, show (0 : Int32).toInt = 0 from by decide] at h
    refine ⟨(r.toInt + M).toNat, by omega, ?_⟩
    apply Int32.toInt_inj.mp
    rw [Int32.toInt_add, nI_toInt (show M < 2 ^ 31 by omega), nI_toInt (by omega), Int.bmod_eq_of_le (by omega) (by omega)]
    omega
  · intro h
    obtain ⟨j, hj, rfl⟩ := nI_of h
    rw [nI_toInt hj] at e
    exact ⟨j, by omega, rfl⟩
