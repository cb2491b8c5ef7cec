/-! the reference's flood -/
theorem dc_nar1 : vp_nar .boolean 1 = 1 := by decide +kernel
theorem dc_nar0 : vp_nar .boolean 0 = 0 := by decide +kernel
/-- x may transmit on k: of the topology, the reverse-path links, the prunes and forwarders of one source -/
def dc_can (R : Nat) (A : Nat → Nat → Bool) (rp P F : Nat → Int32) (x k : Nat) : Bool :=
  decide (2 ≤ dc_cn (A k) R ∧ A k x = true ∧ ¬ rp x = nI k ∧ P k = 0 ∧ (F k = -1 ∨ F k = nI x))
section
variable {R L H : Nat} {A : Nat → Nat → Bool} {c : Nat → Nat}
end
