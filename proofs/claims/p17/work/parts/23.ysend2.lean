/-! the reference's send, whole -/
section
variable {R L H : Nat} {A : Nat → Nat → Bool} {c : Nat → Nat}
/-- what a send leaves, said of pure things alone; N: the needed routers -/
def dc_sz (R L : Nat) (A : Nat → Nat → Bool) (rp P F : Nat → Nat → Int32) (s : Nat) : (Nat → Nat) × (Nat → Nat) × (Nat → Nat → Bool) :=
  (dc_fl R L (rp s) (dc_can R A (rp s) (P s) (F s)) (dc_f0 s) R).1
def dc_sb (R : Nat) (pf : Nat → Int32) (D : Nat → Nat → Nat) (s : Nat) (t : Nat → Nat → Bool) : Nat → Int32 := fun j => dc_oI (dc_bs (t j) (dc_be pf (D s)) R)
end
