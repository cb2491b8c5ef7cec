/-! places in the rows, bounds, the topology in both states -/
theorem dc_i12 (k i : Nat) : nI k * 12 + nI i = nI (k * 12 + i) := by
  rw [show (12 : Int32) = nI 12 from rfl, pk_mul, nI_add]
theorem dc_i16 (k i : Nat) : nI k * 16 + nI i = nI (k * 16 + i) := by
  rw [show (16 : Int32) = nI 16 from rfl, pk_mul, nI_add]
theorem dc_v12 (k i : Nat) {N : Nat} (h : k * 12 + i < N) (hN : N < 2 ^ 31) : vp_in (nI k * 12 + nI i) N := by
  rw [dc_i12]; exact vp_in_nI h hN
theorem dc_c12 (k i : Nat) (h : k * 12 + i < 2 ^ 31) : (nI k * 12 + nI i).toNatClampNeg = k * 12 + i := by
  rw [dc_i12]; exact nI_clamp h
theorem dc_v16 (k i : Nat) {N : Nat} (h : k * 16 + i < N) (hN : N < 2 ^ 31) : vp_in (nI k * 16 + nI i) N := by
  rw [dc_i16]; exact vp_in_nI h hN
theorem dc_c16 (k i : Nat) (h : k * 16 + i < 2 ^ 31) : (nI k * 16 + nI i).toNatClampNeg = k * 16 + i := by
  rw [dc_i16]; exact nI_clamp h
theorem dc_cl (i : Nat) (h : i < 2 ^ 31) : (nI i).toNatClampNeg = i := nI_clamp h
/-- a loop's head: at the end, within -/
theorem dc_end {n : Nat} (h : n < 2 ^ 31) : nI n ≤ nI n := nI_le (Nat.le_refl n) h
theorem dc_in {i n : Nat} (h : i < n) (hn : n < 2 ^ 31) : ¬ nI n ≤ nI i := nI_ge h hn
/-- the bounds of a state -/
def dc_B (R L : Nat) (c : Nat → Nat) : Prop := 2 ≤ R ∧ R ≤ 12 ∧ 1 ≤ L ∧ L ≤ 16 ∧ (∀ k, k < L → 1 ≤ c k) ∧ (∀ k, k < L → c k ≤ 15)
/-- links and costs as the component has them -/
def dc_TX (R L : Nat) (A : Nat → Nat → Bool) (c : Nat → Nat) (xas xlc : Nat → Int32) : Prop :=
  (∀ k, k < L → xlc k = nI (c k)) ∧ (∀ k, k < L → dc_ms R (xas k) (A k))
theorem dc_bf {b : Bool} (h : ¬ b = false) : b = true := by
  cases b
  · exact absurd rfl h
  · rfl
theorem dc_bt {b : Bool} (h : ¬ b = true) : b = false := Bool.eq_false_iff.mpr h
/-- a row filled cell by cell -/
theorem dc_put {f : Nat → Int32} {i : Nat} {x : Int32} (h : ∀ j, j < i → f j = x) : ∀ j, j < i + 1 → upd f i x j = x := by
  intro j hj
  by_cases e : j = i
  · rw [e]; exact pk_us
  · rw [pk_un e]; exact h j (by omega)
