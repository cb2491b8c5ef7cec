/-! the flood, as a pure work on (received, carried, transmitters); rp: the reverse-path links toward the source; can x k: x may transmit on k -/
section
variable (R L : Nat) (rp : Nat → Int32) (can : Nat → Nat → Bool)
def dc_dl (k : Nat) (rc : Nat → Nat) : Nat → Nat := fun y => if y < R ∧ rp y = nI k then rc y + 1 else rc y
def dc_tr (x k : Nat) (z : (Nat → Nat) × (Nat → Nat) × (Nat → Nat → Bool)) : (Nat → Nat) × (Nat → Nat) × (Nat → Nat → Bool) :=
  (dc_dl R rp k z.1, (fun j => if j = k then z.2.1 j + 1 else z.2.1 j), (fun j y => if j = k ∧ y = x then true else z.2.2 j y))
def dc_fk (x k : Nat) (z : (Nat → Nat) × (Nat → Nat) × (Nat → Nat → Bool)) : (Nat → Nat) × (Nat → Nat) × (Nat → Nat → Bool) :=
  if can x k = true then dc_tr R rp x k z else z
def dc_fx (x : Nat) (z : (Nat → Nat) × (Nat → Nat) × (Nat → Nat → Bool)) : (Nat → Nat) × (Nat → Nat) × (Nat → Nat → Bool) :=
  dc_it (dc_fk R rp can x) z L
def dc_rx (fr : Nat → Bool) (x : Nat) (z : (Nat → Nat) × (Nat → Nat) × (Nat → Nat → Bool)) : (Nat → Nat) × (Nat → Nat) × (Nat → Nat → Bool) :=
  if fr x = true then dc_fx R L rp can x z else z
def dc_rd (fr : Nat → Bool) (z : (Nat → Nat) × (Nat → Nat) × (Nat → Nat → Bool)) : (Nat → Nat) × (Nat → Nat) × (Nat → Nat → Bool) :=
  dc_it (dc_rx R L rp can fr) z R
/-- one round: the work and the next frontier -/
def dc_st (w : ((Nat → Nat) × (Nat → Nat) × (Nat → Nat → Bool)) × (Nat → Bool)) : ((Nat → Nat) × (Nat → Nat) × (Nat → Nat → Bool)) × (Nat → Bool) :=
  (dc_rd R L rp can w.2 w.1, fun y => decide (y < R ∧ w.1.1 y = 0 ∧ 1 ≤ (dc_rd R L rp can w.2 w.1).1 y))
def dc_fl (w : ((Nat → Nat) × (Nat → Nat) × (Nat → Nat → Bool)) × (Nat → Bool)) (n : Nat) : ((Nat → Nat) × (Nat → Nat) × (Nat → Nat → Bool)) × (Nat → Bool) :=
  dc_it (fun _ w => dc_st R L rp can w) w n
end
/-- the start of a flood from s -/
def dc_f0 (s : Nat) : ((Nat → Nat) × (Nat → Nat) × (Nat → Nat → Bool)) × (Nat → Bool) :=
  (((fun y => if y = s then 1 else 0), (fun _ => 0), (fun _ _ => false)), fun y => decide (y = s))
section
variable {R L : Nat} {rp : Nat → Int32} {can : Nat → Nat → Bool}
theorem dc_dl_b (k : Nat) (rc : Nat → Nat) (y : Nat) : rc y ≤ dc_dl R rp k rc y ∧ dc_dl R rp k rc y ≤ rc y + 1 := by
  unfold dc_dl
  split <;> omega
theorem dc_fk_1 {x k : Nat} (h : can x k = true) (z : (Nat → Nat) × (Nat → Nat) × (Nat → Nat → Bool)) : dc_fk R rp can x k z = dc_tr R rp x k z := if_pos h
theorem dc_fk_0 {x k : Nat} (h : ¬ can x k = true) (z : (Nat → Nat) × (Nat → Nat) × (Nat → Nat → Bool)) : dc_fk R rp can x k z = z := if_neg h
theorem dc_rx_1 {fr : Nat → Bool} {x : Nat} (h : fr x = true) (z : (Nat → Nat) × (Nat → Nat) × (Nat → Nat → Bool)) : dc_rx R L rp can fr x z = dc_fx R L rp can x z := if_pos h
theorem dc_rx_0 {fr : Nat → Bool} {x : Nat} (h : ¬ fr x = true) (z : (Nat → Nat) × (Nat → Nat) × (Nat → Nat → Bool)) : dc_rx R L rp can fr x z = z := if_neg h
theorem dc_fk_b (x k : Nat) (z : (Nat → Nat) × (Nat → Nat) × (Nat → Nat → Bool)) (y : Nat) : z.1 y ≤ (dc_fk R rp can x k z).1 y ∧ (dc_fk R rp can x k z).1 y ≤ z.1 y + 1 := by
  by_cases h : can x k = true
  · have e : (dc_fk R rp can x k z).1 y = dc_dl R rp k z.1 y := by rw [dc_fk_1 h] <;> rfl
    rw [e]; exact dc_dl_b k z.1 y
  · rw [dc_fk_0 h]; omega
theorem dc_fx_b (x : Nat) (z : (Nat → Nat) × (Nat → Nat) × (Nat → Nat → Bool)) (y : Nat) : z.1 y ≤ (dc_fx R L rp can x z).1 y ∧ (dc_fx R L rp can x z).1 y ≤ z.1 y + L := by
  unfold dc_fx
  generalize L = n
  induction n with
  | zero => exact ⟨Nat.le_refl _, Nat.le_refl _⟩
  | succ n ih =>
    have h := dc_fk_b (R := R) (rp := rp) (can := can) x n (dc_it (dc_fk R rp can x) z n) y
    show z.1 y ≤ (dc_fk R rp can x n (dc_it (dc_fk R rp can x) z n)).1 y ∧ (dc_fk R rp can x n (dc_it (dc_fk R rp can x) z n)).1 y ≤ z.1 y + (n + 1)
    omega
theorem dc_rx_b (fr : Nat → Bool) (x : Nat) (z : (Nat → Nat) × (Nat → Nat) × (Nat → Nat → Bool)) (y : Nat) : z.1 y ≤ (dc_rx R L rp can fr x z).1 y ∧ (dc_rx R L rp can fr x z).1 y ≤ z.1 y + L := by
  by_cases h : fr x = true
  · rw [dc_rx_1 h]; exact dc_fx_b x z y
  · rw [dc_rx_0 h]; omega
theorem dc_rd_b (fr : Nat → Bool) (z : (Nat → Nat) × (Nat → Nat) × (Nat → Nat → Bool)) (y : Nat) : z.1 y ≤ (dc_rd R L rp can fr z).1 y ∧ (dc_rd R L rp can fr z).1 y ≤ z.1 y + R * L := by
  have H : ∀ n, z.1 y ≤ (dc_it (dc_rx R L rp can fr) z n).1 y ∧ (dc_it (dc_rx R L rp can fr) z n).1 y ≤ z.1 y + n * L := by
    intro n
    induction n with
    | zero => exact ⟨Nat.le_refl _, by rw [Nat.zero_mul] <;> exact Nat.le_refl _⟩
    | succ n ih =>
      have h := dc_rx_b (R := R) (L := L) (rp := rp) (can := can) fr n (dc_it (dc_rx R L rp can fr) z n) y
      rw [Nat.succ_mul]
      show z.1 y ≤ (dc_rx R L rp can fr n (dc_it (dc_rx R L rp can fr) z n)).1 y ∧ (dc_rx R L rp can fr n (dc_it (dc_rx R L rp can fr) z n)).1 y ≤ z.1 y + (n * L + L)
      omega
  exact H R
/-- who transmitted: an earlier one, or a router of the frontier -/
theorem dc_fx_T (x : Nat) (z : (Nat → Nat) × (Nat → Nat) × (Nat → Nat → Bool)) (j y : Nat) (h : (dc_fx R L rp can x z).2.2 j y = true) : z.2.2 j y = true ∨ y = x := by
  have H : ∀ n, (dc_it (dc_fk R rp can x) z n).2.2 j y = true → z.2.2 j y = true ∨ y = x := by
    intro n
    induction n with
    | zero => exact fun h => Or.inl h
    | succ n ih =>
      intro h
      have h' : (dc_fk R rp can x n (dc_it (dc_fk R rp can x) z n)).2.2 j y = true := h
      by_cases hc : can x n = true
      · rw [dc_fk_1 hc] at h'
        by_cases e : j = n ∧ y = x
        · exact Or.inr e.2
        · refine ih ?_
          have e2 : (dc_tr R rp x n (dc_it (dc_fk R rp can x) z n)).2.2 j y = (dc_it (dc_fk R rp can x) z n).2.2 j y := if_neg e
          rw [e2] at h'
          exact h'
      · rw [dc_fk_0 hc] at h'
        exact ih h'
  exact H L h
theorem dc_rd_T (fr : Nat → Bool) (z : (Nat → Nat) × (Nat → Nat) × (Nat → Nat → Bool)) (j y : Nat) (h : (dc_rd R L rp can fr z).2.2 j y = true) : z.2.2 j y = true ∨ (y < R ∧ fr y = true) := by
  have H : ∀ n, n ≤ R → (dc_it (dc_rx R L rp can fr) z n).2.2 j y = true → z.2.2 j y = true ∨ (y < R ∧ fr y = true) := by
    intro n
    induction n with
    | zero => exact fun _ h => Or.inl h
    | succ n ih =>
      intro hn h
      have h' : (dc_rx R L rp can fr n (dc_it (dc_rx R L rp can fr) z n)).2.2 j y = true := h
      by_cases hc : fr n = true
      · rw [dc_rx_1 hc] at h'
        rcases dc_fx_T n _ j y h' with a | a
        · exact ih (by omega) a
        · exact Or.inr ⟨by omega, by rw [a]; exact hc⟩
      · rw [dc_rx_0 hc] at h'
        exact ih (by omega) h'
  exact H R (Nat.le_refl R) h
/-- an empty frontier does nothing -/
theorem dc_rd_0 (fr : Nat → Bool) (z : (Nat → Nat) × (Nat → Nat) × (Nat → Nat → Bool)) (h : ∀ x, x < R → fr x = false) : dc_rd R L rp can fr z = z := by
  have H : ∀ n, n ≤ R → dc_it (dc_rx R L rp can fr) z n = z := by
    intro n
    induction n with
    | zero => exact fun _ => rfl
    | succ n ih =>
      intro hn
      have e : ¬ fr n = true := by rw [h n (by omega)]; decide
      show dc_rx R L rp can fr n (dc_it (dc_rx R L rp can fr) z n) = z
      rw [ih (by omega)]
      exact if_neg e
  exact H R (Nat.le_refl R)
/-- what every round keeps -/
def dc_FI (R L n : Nat) (w : ((Nat → Nat) × (Nat → Nat) × (Nat → Nat → Bool)) × (Nat → Bool)) : Prop :=
  (∀ j y, w.1.2.2 j y = true → y < R ∧ 1 ≤ w.1.1 y) ∧ (∀ y, w.2 y = true → y < R ∧ 1 ≤ w.1.1 y) ∧ (∀ y, w.1.1 y ≤ 1 + n * (R * L)) ∧
  ((∃ y, w.2 y = true) → n + 1 ≤ dc_cn (fun y => decide (1 ≤ w.1.1 y)) R)
theorem dc_FI0 {s : Nat} (hs : s < R) : dc_FI R L 0 (dc_f0 s) := by
  refine ⟨fun j y h => absurd (show false = true from h) (by decide), fun y h => ?_, fun y => ?_, fun _ => ?_⟩
  · have e : y = s := of_decide_eq_true h
    subst e
    exact ⟨hs, by show 1 ≤ (if y = y then 1 else 0); rw [if_pos rfl] <;> exact Nat.le_refl 1⟩
  · show (if y = s then 1 else 0) ≤ 1 + 0 * (R * L)
    split <;> omega
  · exact dc_cn_pos hs (decide_eq_true (Nat.le_of_eq (if_pos rfl).symm))
theorem dc_FIs {n : Nat} {w : ((Nat → Nat) × (Nat → Nat) × (Nat → Nat → Bool)) × (Nat → Bool)} (h : dc_FI R L n w) : dc_FI R L (n + 1) (dc_st R L rp can w) := by
  obtain ⟨h1, h2, h3, h4⟩ := h
  have hb := dc_rd_b (R := R) (L := L) (rp := rp) (can := can) w.2 w.1
  refine ⟨fun j y z => ?_, fun y z => ?_, fun y => ?_, fun ⟨y, z⟩ => ?_⟩
  · have z' : (dc_rd R L rp can w.2 w.1).2.2 j y = true := z
    have b := (hb y).1
    show y < R ∧ 1 ≤ (dc_rd R L rp can w.2 w.1).1 y
    rcases dc_rd_T w.2 w.1 j y z' with a | a
    · have := h1 j y a; omega
    · have := h2 y a.2; omega
  · have z' : y < R ∧ w.1.1 y = 0 ∧ 1 ≤ (dc_rd R L rp can w.2 w.1).1 y := of_decide_eq_true z
    exact ⟨z'.1, z'.2.2⟩
  · have b := (hb y).2
    have a := h3 y
    show (dc_rd R L rp can w.2 w.1).1 y ≤ 1 + (n + 1) * (R * L)
    rw [Nat.succ_mul]
    omega
  · have z' : y < R ∧ w.1.1 y = 0 ∧ 1 ≤ (dc_rd R L rp can w.2 w.1).1 y := of_decide_eq_true z
    have ne : ∃ y, w.2 y = true := by
      by_cases e : ∃ y, w.2 y = true
      · exact e
      · exfalso
        have e0 : ∀ x, x < R → w.2 x = false := by
          intro x _
          cases hx : w.2 x with
          | false => rfl
          | true => exact absurd ⟨x, hx⟩ e
        have e1 := dc_rd_0 (R := R) (L := L) (rp := rp) (can := can) w.2 w.1 e0
        rw [e1] at z'
        omega
    have a := h4 ne
    have g : dc_cn (fun y => decide (1 ≤ w.1.1 y)) R < dc_cn (fun y => decide (1 ≤ (dc_rd R L rp can w.2 w.1).1 y)) R :=
      dc_cn_lt (j := y) (decide_eq_false (by omega)) (decide_eq_true z'.2.2) R (fun i _ t => decide_eq_true (Nat.le_trans (of_decide_eq_true t) (hb i).1)) z'.1
    show n + 1 + 1 ≤ dc_cn (fun y => decide (1 ≤ (dc_rd R L rp can w.2 w.1).1 y)) R
    omega
theorem dc_FIn {s : Nat} (hs : s < R) : ∀ n, dc_FI R L n (dc_fl R L rp can (dc_f0 s) n) := by
  intro n
  induction n with
  | zero => exact dc_FI0 hs
  | succ n ih =>
    show dc_FI R L (n + 1) (dc_st R L rp can (dc_fl R L rp can (dc_f0 s) n))
    exact dc_FIs ih
/-- the frontier of round R is empty -/
theorem dc_fl_R {s : Nat} (hs : s < R) (y : Nat) : (dc_fl R L rp can (dc_f0 s) R).2 y = false := by
  cases h : (dc_fl R L rp can (dc_f0 s) R).2 y with
  | false => rfl
  | true =>
    have a := (dc_FIn (L := L) (rp := rp) (can := can) hs R).2.2.2 ⟨y, h⟩
    have b := dc_cn_le (fun y => decide (1 ≤ (dc_fl R L rp can (dc_f0 s) R).1.1 y)) R
    omega
/-- from an empty frontier on nothing changes -/
theorem dc_fl_e {w : ((Nat → Nat) × (Nat → Nat) × (Nat → Nat → Bool)) × (Nat → Bool)} {n : Nat} (h : ∀ x, x < R → (dc_fl R L rp can w n).2 x = false) : ∀ m, (dc_fl R L rp can w (n + m)).1 = (dc_fl R L rp can w n).1 ∧ ∀ x, x < R → (dc_fl R L rp can w (n + m)).2 x = false := by
  intro m
  induction m with
  | zero => exact ⟨rfl, h⟩
  | succ m ih =>
    have e := dc_rd_0 (R := R) (L := L) (rp := rp) (can := can) _ (dc_fl R L rp can w (n + m)).1 ih.2
    refine ⟨?_, fun x hx => ?_⟩
    · show dc_rd R L rp can (dc_fl R L rp can w (n + m)).2 (dc_fl R L rp can w (n + m)).1 = _
      rw [e]
      exact ih.1
    · show decide (x < R ∧ (dc_fl R L rp can w (n + m)).1.1 x = 0 ∧ 1 ≤ (dc_rd R L rp can (dc_fl R L rp can w (n + m)).2 (dc_fl R L rp can w (n + m)).1).1 x) = false
      rw [e]
      exact decide_eq_false (by omega)
/-- whoever stops at an empty frontier, at R or before or behind, has the same record -/
theorem dc_fl_u {s : Nat} (hs : s < R) {n : Nat} (h : ∀ x, x < R → (dc_fl R L rp can (dc_f0 s) n).2 x = false) : (dc_fl R L rp can (dc_f0 s) n).1 = (dc_fl R L rp can (dc_f0 s) R).1 := by
  rcases Nat.le_total n R with z | z
  · have a := (dc_fl_e h (R - n)).1
    rw [show n + (R - n) = R by omega] at a
    exact a.symm
  · have a := (dc_fl_e (fun x _ => dc_fl_R (L := L) (rp := rp) (can := can) hs x) (n - R)).1
    rw [show R + (n - R) = n by omega] at a
    exact a
end
/-- the counts stay small -/
theorem dc_FI_b {R L n : Nat} {w : ((Nat → Nat) × (Nat → Nat) × (Nat → Nat → Bool)) × (Nat → Bool)} (h : dc_FI R L n w) (hR : R ≤ 12) (hL : L ≤ 16) (hn : n ≤ 13) (y : Nat) : w.1.1 y ≤ 2497 := by
  have a := h.2.2.1 y
  have b : R * L ≤ 12 * 16 := Nat.mul_le_mul hR hL
  have d : n * (R * L) ≤ 13 * (12 * 16) := Nat.mul_le_mul hn b
  omega
