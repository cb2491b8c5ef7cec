/-! the constructors, and the calls that change links, costs, preferences -/
theorem dc_clm (v : Int32) {lo hi : Nat} (h : lo ≤ hi) (hh : hi < 2 ^ 31) : ∃ n, lo ≤ n ∧ n ≤ hi ∧ ∀ post : Int32 → Prop, post (nI n) → wpX_clamp post () v (nI lo) (nI hi) := by
  by_cases a : nI lo ≤ v
  · obtain ⟨j, hj, e⟩ := nI_of (x := v) (fun z => Int32.not_le.mpr z (Int32.le_trans (nI_pos' (by omega)) a))
    subst e
    have lj := (nI_leI (by omega) hj).mp a
    by_cases b : nI j ≤ nI hi
    · exact ⟨j, lj, (nI_leI hj hh).mp b, fun post p => br_t a (br_t b p)⟩
    · exact ⟨hi, h, Nat.le_refl _, fun post p => br_t a (br_f b p)⟩
  · exact ⟨lo, Nat.le_refl _, h, fun post p => br_f a p⟩
