/-! what is owed -/
theorem dp_67 {N : Nat} {xs : Nat → Int32} {R L H n kc ks : Nat} (hN : N ≤ 260) (hR1 : 2 ≤ R) (hR : R ≤ 12) (hL1 : 1 ≤ L) (hL : L ≤ 16) (hn : n < 2 ^ 31) {f1 f2 f3 : Int32} {a1 a2 a3 a4 a5 a6 a7 a8 a9 a10 a11 a12 : Nat → Int32} (I : dp_I R L H (f1, f2, f3, a1, a2, a3, a4, a5, a6, a7, a8, a9, a10, a11, a12)) :
    wL_law_67 (fun r => r = 1) N xs (nI R) (nI L) (nI n) kc ks f1 f2 f3 a1 a2 a3 a4 a5 a6 a7 a8 a9 a10 a11 a12 := by
  by_cases z : n ≤ 100
  · exact br_t (nI_le (b := 100) z (by decide)) (dp_81 hN hR1 hR hL1 hL z I)
  · exact br_f (nI_ge (a := 100) (by omega) hn) (dp_81 (n := 100) hN hR1 hR hL1 hL (by omega) I)
theorem i_vc (xs : Nat → Int32) (L : Nat) (hL : L ≤ 260) : wpL_law (fun r => r = 1) L xs := by
  unfold wpL_law
  refine dp_cell hL (k := 0) (by omega) rfl (fun v0 => dp_lmod v0 11 (by omega) (by omega) (fun j0 h0 => nm_r (nI_add 2 j0) ?_))
  refine dp_cell hL (k := 1) (by omega) rfl (fun v1 => dp_lmod v1 16 (by omega) (by omega) (fun j1 h1 => nm_r (nI_add 1 j1) ?_))
  refine dp_cell hL (k := 2) (by omega) rfl (fun v2 => dp_lmod v2 16 (by omega) (by omega) (fun j2 h2 => nm_r (nI_add 1 j2) ?_))
  refine ⟨12, 788, by omega, by omega, dp_init (by omega) (by omega) (by omega) (by omega) (by omega) (by omega) (fun u I => ?_)⟩
  obtain ⟨f1, f2, f3, a1, a2, a3, a4, a5, a6, a7, a8, a9, a10, a11, a12⟩ := u
  refine ⟨by decide, nm_e ?_⟩
  by_cases z : 0 ≤ (nI L - 3) / 3
  · obtain ⟨n, hn, e⟩ := nI_of (Int32.not_lt.mpr z)
    refine br_t z ?_
    have e' : (Int32.ofNat L - 3) / 3 = nI n := e
    rw [e']
    exact dp_67 hL (by omega) (by omega) (by omega) (by omega) hn I
  · exact br_f z (dp_67 (n := 0) hL (by omega) (by omega) (by omega) (by omega) (by omega) I)
