/-! the reference's election and the needed routers -/
theorem dc_E_le {R L : Nat} {A : Nat → Nat → Bool} {c : Nat → Nat} {s : Nat} {D : Nat → Nat} (h : dc_G R L A c s D) (c1 : ∀ k, k < L → 1 ≤ c k) (c15 : ∀ k, k < L → c k ≤ 15) (hR : R ≤ 12) {x q : Nat} (hx : x < R) (hq : q < R) : dc_E D 1000000 q < dc_E D 1000000 x ↔ ¬ D x ≤ D q := by
  have a := h.2.1 x hx
  have b := h.2.1 q hq
  by_cases y : D x < 1000
  · have a' := dc_G165 h c1 c15 hR hx y
    rw [dc_E_lt y]
    by_cases z : D q < 1000
    · rw [dc_E_lt z]; omega
    · rw [dc_E_ge z]; omega
  · rw [dc_E_ge y]
    by_cases z : D q < 1000
    · have b' := dc_G165 h c1 c15 hR hq z
      rw [dc_E_lt z]; omega
    · rw [dc_E_ge z]; omega
theorem dc_E_m {R L : Nat} {A : Nat → Nat → Bool} {c : Nat → Nat} {s : Nat} {D : Nat → Nat} (h : dc_G R L A c s D) {x : Nat} (hx : x < R) : dc_E D 1000000 x ≤ 1000000 := by
  have a := h.2.1 x hx
  by_cases y : D x < 1000
  · rw [dc_E_lt y]; omega
  · rw [dc_E_ge y] <;> exact Nat.le_refl _
section
variable {R L H : Nat} {A : Nat → Nat → Bool} {c : Nat → Nat}
end
