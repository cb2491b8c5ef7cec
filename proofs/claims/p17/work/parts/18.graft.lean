/-! the graft, as a pure walk over the prune timers -/
/-- a table by source and link, as a row of 16 a source -/
def dc_r2 (R L : Nat) (x : Nat → Int32) (P : Nat → Nat → Int32) : Prop := ∀ s k, s < R → k < L → x (s * 16 + k) = P s k
def dc_p2 (P : Nat → Nat → Int32) (s k : Nat) (v : Int32) : Nat → Nat → Int32 := fun s' k' => if s' = s ∧ k' = k then v else P s' k'
theorem dc_r2_u {R L : Nat} {x : Nat → Int32} {P : Nat → Nat → Int32} (h : dc_r2 R L x P) {s k : Nat} (hL : L ≤ 16) (hk : k < L) (v : Int32) : dc_r2 R L (upd x (s * 16 + k) v) (dc_p2 P s k v) := by
  intro s' k' hs' hk'
  unfold dc_p2
  by_cases e : s' = s ∧ k' = k
  · rw [if_pos e, e.1, e.2]; exact pk_us
  · rw [if_neg e, ← h s' k' hs' hk']
    exact pk_un (fun z => e (by omega))
/-- x: the place of the walk (-1: it has ended) -/
def dc_gr (rp F : Nat → Int32) (U : Nat → Nat → Int32) (s : Nat) : Nat → Int32 → (Nat → Nat → Int32) → (Nat → Nat → Int32)
  | 0, _, P => P
  | n + 1, x, P => if x = -1 ∨ rp x.toNatClampNeg = -1 then P else
      dc_gr rp F U s n (if F (rp x.toNatClampNeg).toNatClampNeg = -1 then U (rp x.toNatClampNeg).toNatClampNeg x.toNatClampNeg else F (rp x.toNatClampNeg).toNatClampNeg) (dc_p2 P s (rp x.toNatClampNeg).toNatClampNeg 0)
section
variable {rp F : Nat → Int32} {U : Nat → Nat → Int32} {s : Nat} {P : Nat → Nat → Int32}
theorem dc_gr_m1 (n : Nat) : dc_gr rp F U s n (-1) P = P := by
  cases n with
  | zero => rfl
  | succ n => exact if_pos (Or.inl rfl)
theorem dc_gr_s {n x : Nat} (hx : x < 2 ^ 31) (h : rp x = -1) : dc_gr rp F U s n (nI x) P = P := by
  cases n with
  | zero => rfl
  | succ n =>
    refine if_pos (Or.inr ?_)
    rw [nI_clamp hx]
    exact h
theorem dc_gr_u {n x k : Nat} (hx : x < 2 ^ 31) (hk : k < 2 ^ 31) (h : rp x = nI k) (e : F k = -1) : dc_gr rp F U s (n + 1) (nI x) P = dc_gr rp F U s n (U k x) (dc_p2 P s k 0) := by
  have z : ¬ (nI x = -1 ∨ rp (nI x).toNatClampNeg = -1) := by
    rw [nI_clamp hx, h]
    exact fun w => w.elim (dc_nm1 hx) (dc_nm1 hk)
  refine (if_neg z).trans ?_
  rw [nI_clamp hx, h, nI_clamp hk, if_pos e]
theorem dc_gr_f {n x k : Nat} (hx : x < 2 ^ 31) (hk : k < 2 ^ 31) (h : rp x = nI k) (e : ¬ F k = -1) : dc_gr rp F U s (n + 1) (nI x) P = dc_gr rp F U s n (F k) (dc_p2 P s k 0) := by
  have z : ¬ (nI x = -1 ∨ rp (nI x).toNatClampNeg = -1) := by
    rw [nI_clamp hx, h]
    exact fun w => w.elim (dc_nm1 hx) (dc_nm1 hk)
  refine (if_neg z).trans ?_
  rw [nI_clamp hx, h, nI_clamp hk, if_neg e]
end
/-- a forwarder's cell: none, or a router -/
def dc_fw (R L : Nat) (F : Nat → Nat → Int32) : Prop := ∀ s k, s < R → k < L → F s k = -1 ∨ ∃ q, q < R ∧ F s k = nI q
/-- all sources' distances and reverse-path links are those of the topology -/
def dc_DR (R L : Nat) (A : Nat → Nat → Bool) (c : Nat → Nat) (D : Nat → Nat → Nat) (rp : Nat → Nat → Int32) : Prop := ∀ s, s < R → dc_G R L A c s (D s) ∧ ∀ r, r < R → dc_isR R L A c (D s) r (rp s r)
/-- the grafts of router r toward all sources -/
def dc_jn (R : Nat) (A : Nat → Nat → Bool) (c : Nat → Nat) (D : Nat → Nat → Nat) (rp F : Nat → Nat → Int32) (r : Nat) (P : Nat → Nat → Int32) (n : Nat) : Nat → Nat → Int32 :=
  dc_it (fun s P => dc_gr (rp s) (F s) (fun k x => dc_U R A c (D s) k x) s R (nI r) P) P n
theorem dc_isR_c {R L : Nat} {A : Nat → Nat → Bool} {c : Nat → Nat} {D : Nat → Nat} {r : Nat} {v : Int32} (h : dc_isR R L A c D r v) : v = -1 ∨ ∃ k, k < L ∧ v = nI k ∧ A k r = true := by
  rcases h with ⟨e, _⟩ | ⟨k, hk, e, hp, _⟩
  · exact Or.inl e
  · exact Or.inr ⟨k, hk, e, hp.1⟩
/-! the reference's graft and join -/
section
variable {R L H : Nat} {A : Nat → Nat → Bool} {c : Nat → Nat}
end
