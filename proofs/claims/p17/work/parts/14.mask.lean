/-! sets of routers as bits of an int: x holds the set p of routers below R (over the rows to paste: bt, b_ext, b_or, b_and, b_xor, b_big, b_m1, b_0, s_l, b_shl, b_sshr) -/
def dc_ms (R : Nat) (x : Int32) (p : Nat → Bool) : Prop := ∀ i, i < 32 → bt x i = (decide (i < R) && p i)
theorem dc_and1 (y : Int32) : y &&& 1 = if bt y 0 = true then 1 else 0 := by
  apply Int32.toBitVec_inj.mp
  rw [Int32.toBitVec_and]
  show y.toBitVec &&& 1#32 = _
  rw [BitVec.and_one_eq_setWidth_ofBool_getLsbD]
  unfold bt
  cases y.toBitVec.getLsbD 0 <;> rfl
theorem dc_bit {x : Int32} {r : Nat} (hr : r < 32) : (x >>> (nI r &&& 31)) &&& 1 = 1 ↔ bt x r = true := by
  rw [dc_and1, b_sshr r hr x (by omega), Nat.add_zero, if_pos hr]
  cases bt x r <;> decide
theorem dc_1sh : ∀ r, r < 32 → ∀ i, i < 32 → bt ((1 : Int32) <<< (nI r &&& 31)) i = decide (i = r) := by decide +kernel
theorem dc_ms_bit {R : Nat} {x : Int32} {p : Nat → Bool} (h : dc_ms R x p) {r : Nat} (hr : r < R) (hR : R ≤ 12) : (x >>> (nI r &&& 31)) &&& 1 = 1 ↔ p r = true := by
  rw [dc_bit (by omega), h r (by omega), decide_eq_true hr, Bool.true_and]
theorem dc_ms_or {R : Nat} {x : Int32} {p : Nat → Bool} (h : dc_ms R x p) {r : Nat} (hr : r < R) (hR : R ≤ 12) : dc_ms R (x ||| ((1 : Int32) <<< (nI r &&& 31))) (fun i => if i = r then true else p i) := by
  intro i hi
  rw [b_or, h i hi, dc_1sh r (by omega) i hi]
  by_cases z : i = r
  · subst z; simp [hr]
  · simp [z]
theorem dc_ms_rm {R : Nat} {x : Int32} {p : Nat → Bool} (h : dc_ms R x p) {r : Nat} (hr : r < R) (hR : R ≤ 12) : dc_ms R (x &&& (((1 : Int32) <<< (nI r &&& 31)) ^^^ (-1))) (fun i => if i = r then false else p i) := by
  intro i hi
  rw [b_and, b_xor, b_m1 i hi, h i hi, dc_1sh r (by omega) i hi]
  by_cases z : i = r
  · subst z; simp
  · simp [z]
theorem dc_ms_mn {R : Nat} {x y : Int32} {p q : Nat → Bool} (h : dc_ms R x p) (g : dc_ms R y q) : dc_ms R (x &&& (y ^^^ (-1))) (fun i => p i && !(q i)) := by
  intro i hi
  rw [b_and, b_xor, b_m1 i hi, h i hi, g i hi]
  show ((decide (i < R) && p i) && ((decide (i < R) && q i) ^^ true)) = (decide (i < R) && (p i && !(q i)))
  cases decide (i < R) <;> cases p i <;> cases q i <;> rfl
theorem dc_ms_0 (R : Nat) : dc_ms R 0 (fun _ => false) := by
  intro i _
  rw [b_0, Bool.and_false]
theorem dc_ms_ext {R : Nat} {x : Int32} {p q : Nat → Bool} (h : dc_ms R x p) (e : ∀ i, i < R → p i = q i) : dc_ms R x q := by
  intro i hi
  rw [h i hi]
  by_cases z : i < R
  · rw [e i z]
  · simp [z]
theorem dc_ms_eq {R : Nat} {x y : Int32} {p : Nat → Bool} (h : dc_ms R x p) (g : dc_ms R y p) : x = y := b_ext (fun i hi => by rw [h i hi, g i hi])
theorem dc_ms_z {R : Nat} {x : Int32} {p : Nat → Bool} (h : dc_ms R x p) (hR : R ≤ 12) : x = 0 ↔ ∀ i, i < R → p i = false := by
  constructor
  · intro e i hi
    have a := h i (by omega)
    rw [e, b_0, decide_eq_true hi, Bool.true_and] at a
    exact a.symm
  · intro e
    exact dc_ms_eq (dc_ms_ext h e) (dc_ms_0 R)
/-- the int as a natural number below 4096 -/
theorem dc_ms_nat {R : Nat} {x : Int32} {p : Nat → Bool} (h : dc_ms R x p) (hR : R ≤ 12) : ∃ m, m < 2 ^ R ∧ x = nI m ∧ ∀ i, i < R → m.testBit i = p i := by
  refine ⟨x.toBitVec.toNat, ?_, ?_, fun i hi => ?_⟩
  · apply Nat.lt_pow_two_of_testBit
    intro i hi
    show bt x i = false
    by_cases z : i < 32
    · rw [h i z, decide_eq_false (by omega), Bool.false_and]
    · exact b_big (by omega)
  · apply Int32.toBitVec_inj.mp
    show x.toBitVec = BitVec.ofNat 32 x.toBitVec.toNat
    simp
  · show bt x i = p i
    rw [h i (by omega), decide_eq_true hi, Bool.true_and]
theorem dc_two3 : ∀ a, a < 64 → ∀ b, b < 64 → ((nI (a * 64 + b) &&& (nI (a * 64 + b) - 1) = 0) ↔ dc_cn (fun i => (a * 64 + b).testBit i) 12 < 2) := by decide +kernel
theorem dc_two4 (m : Nat) (h : m < 4096) : (nI m &&& (nI m - 1) = 0) ↔ dc_cn (fun i => m.testBit i) 12 < 2 := by
  have a := dc_two3 (m / 64) (by omega) (m % 64) (by omega)
  rw [show m / 64 * 64 + m % 64 = m by omega] at a
  exact a
theorem dc_ms_two {R : Nat} {x : Int32} {p : Nat → Bool} (h : dc_ms R x p) (hR : R ≤ 12) : x &&& (x - 1) = 0 ↔ dc_cn p R < 2 := by
  obtain ⟨m, hm, rfl, e⟩ := dc_ms_nat h hR
  have h12 : m < 4096 := Nat.lt_of_lt_of_le hm (Nat.pow_le_pow_right (by decide) hR)
  have hc : ∀ i, (fun i => m.testBit i) i = true → i < R := by
    intro i t
    by_cases z : i < R
    · exact z
    · have w : m.testBit i = false := Nat.testBit_lt_two_pow (Nat.lt_of_lt_of_le hm (Nat.pow_le_pow_right (by decide) (by omega)))
      have t' : m.testBit i = true := t
      rw [w] at t'
      exact nomatch t'
  have c1 := dc_cn_cut hc 12 hR
  have c2 : dc_cn (fun i => m.testBit i) R = dc_cn p R := dc_cn_ext e
  rw [dc_two4 m h12, c1, c2]
/-- the sum of the ones shifted, cell by cell -/
theorem dc_sum1 {m r : Nat} (hr : r < 12) (h : m.testBit r = true) : nI (m % 2 ^ r) + ((1 : Int32) <<< (nI r &&& 31)) = nI (m % 2 ^ (r + 1)) := by
  have e : (1 : Int32) <<< (nI r &&& 31) = nI (2 ^ r) := by
    have := (by decide +kernel : ∀ r, r < 12 → (1 : Int32) <<< (nI r &&& 31) = nI (2 ^ r))
    exact this r hr
  rw [e, nI_add, Nat.mod_pow_succ]
  rw [Nat.testBit_eq_decide_div_mod_eq] at h
  rw [of_decide_eq_true h, Nat.mul_one]
theorem dc_sum0 {m r : Nat} (h : m.testBit r = false) : nI (m % 2 ^ r) = nI (m % 2 ^ (r + 1)) := by
  rw [Nat.mod_pow_succ]
  rw [Nat.testBit_eq_decide_div_mod_eq] at h
  have : m / 2 ^ r % 2 = 0 := by
    have a := of_decide_eq_false h
    have b := Nat.mod_lt (m / 2 ^ r) (show 2 > 0 by decide)
    generalize m / 2 ^ r % 2 = t at a b
    omega
  rw [this, Nat.mul_zero, Nat.add_zero]
