/-! counting the true cells of a row, sums, and the pure store -/
def dc_cn (p : Nat → Bool) : Nat → Nat
  | 0 => 0
  | n + 1 => dc_cn p n + (if p n = true then 1 else 0)
theorem dc_cn_le (p : Nat → Bool) : ∀ n, dc_cn p n ≤ n := by
  intro n
  induction n with
  | zero => exact Nat.le_refl 0
  | succ n ih =>
    simp only [dc_cn]
    split <;> omega
theorem dc_cn_mono {p q : Nat → Bool} : ∀ n, (∀ i, i < n → p i = true → q i = true) → dc_cn p n ≤ dc_cn q n := by
  intro n
  induction n with
  | zero => intro _; exact Nat.le_refl 0
  | succ n ih =>
    intro h
    have h1 := ih (fun i hi => h i (by omega))
    have h2 := h n (by omega)
    simp only [dc_cn]
    by_cases hp : p n = true
    · rw [if_pos hp, if_pos (h2 hp)]; omega
    · rw [if_neg hp]; omega
theorem dc_cn_lt {p q : Nat → Bool} {j : Nat} (hp : p j = false) (hq : q j = true) : ∀ n, (∀ i, i < n → p i = true → q i = true) → j < n → dc_cn p n < dc_cn q n := by
  intro n
  induction n with
  | zero => intro _ hj; omega
  | succ n ih =>
    intro h hj
    have h0 : dc_cn p n ≤ dc_cn q n := dc_cn_mono n (fun i hi => h i (by omega))
    have h2 := h n (by omega)
    simp only [dc_cn]
    by_cases e : j = n
    · subst e
      have hp' : ¬ p j = true := by rw [hp]; decide
      rw [if_neg hp', if_pos hq]; omega
    · have h1 := ih (fun i hi => h i (by omega)) (by omega)
      by_cases z : p n = true
      · rw [if_pos z, if_pos (h2 z)]; omega
      · rw [if_neg z]; omega
theorem dc_cn_all : ∀ n, dc_cn (fun _ => true) n = n := by
  intro n
  induction n with
  | zero => rfl
  | succ n ih => simp only [dc_cn, ih, if_true]
theorem dc_cn_full {p : Nat → Bool} {j n : Nat} (hj : j < n) (hp : p j = false) : dc_cn p n < n := by
  have h := dc_cn_lt (p := p) (q := fun _ => true) hp rfl n (fun _ _ _ => rfl) hj
  rw [dc_cn_all] at h
  exact h
theorem dc_cn_ext {p q : Nat → Bool} {n : Nat} (h : ∀ i, i < n → p i = q i) : dc_cn p n = dc_cn q n :=
  Nat.le_antisymm (dc_cn_mono n (fun i hi z => by rw [← h i hi]; exact z)) (dc_cn_mono n (fun i hi z => by rw [h i hi]; exact z))
theorem dc_cn_none : ∀ n, dc_cn (fun _ => false) n = 0 := by
  intro n
  induction n with
  | zero => rfl
  | succ n ih => simp [dc_cn, ih]
theorem dc_cn_pos {p : Nat → Bool} {j n : Nat} (hj : j < n) (hp : p j = true) : 0 < dc_cn p n := by
  have h := dc_cn_lt (p := fun _ => false) (q := p) rfl hp n (fun _ _ z => nomatch z) hj
  omega
theorem dc_cn_zero {p : Nat → Bool} {n : Nat} (h : dc_cn p n = 0) {j : Nat} (hj : j < n) : p j = false := by
  cases hp : p j with
  | false => rfl
  | true => have := dc_cn_pos hj hp; omega
theorem dc_cn_some {p : Nat → Bool} : ∀ {n : Nat}, 0 < dc_cn p n → ∃ j, j < n ∧ p j = true := by
  intro n
  induction n with
  | zero => intro h; simp only [dc_cn] at h; omega
  | succ n ih =>
    intro h
    by_cases hp : p n = true
    · exact ⟨n, by omega, hp⟩
    · simp only [dc_cn] at h
      rw [if_neg hp] at h
      obtain ⟨j, hj, z⟩ := ih (by omega)
      exact ⟨j, by omega, z⟩
/-- two true cells: the count is two at least -/
theorem dc_cn_two {p : Nat → Bool} {i j n : Nat} (hi : i < n) (hj : j < n) (hij : i ≠ j) (pi : p i = true) (pj : p j = true) : 2 ≤ dc_cn p n := by
  have h1 : 0 < dc_cn (fun x => decide (x = i)) n := dc_cn_pos hi (by simp)
  have h2 : dc_cn (fun x => decide (x = i)) n < dc_cn p n :=
    dc_cn_lt (j := j) (by simp; omega) pj n (fun x _ z => by have := of_decide_eq_true z; rw [this]; exact pi) hj
  omega
theorem dc_cn_one {p : Nat → Bool} {i j n : Nat} (h : dc_cn p n < 2) (hi : i < n) (hj : j < n) (pi : p i = true) (pj : p j = true) : i = j := by
  by_cases e : i = j
  · exact e
  · have := dc_cn_two hi hj e pi pj; omega
/-- two at least: two different true cells -/
theorem dc_cn_pair {p : Nat → Bool} : ∀ {n : Nat}, 2 ≤ dc_cn p n → ∃ i j, i < j ∧ j < n ∧ p i = true ∧ p j = true := by
  intro n
  induction n with
  | zero => intro h; simp only [dc_cn] at h; omega
  | succ n ih =>
    intro h
    by_cases hp : p n = true
    · simp only [dc_cn] at h
      rw [if_pos hp] at h
      obtain ⟨i, hi, z⟩ := dc_cn_some (p := p) (n := n) (by omega)
      exact ⟨i, n, hi, by omega, z, hp⟩
    · simp only [dc_cn] at h
      rw [if_neg hp] at h
      obtain ⟨i, j, hij, hj, zi, zj⟩ := ih (by omega)
      exact ⟨i, j, hij, by omega, zi, zj⟩
/-- nothing true beyond R: the longer count is the shorter one -/
theorem dc_cn_cut {p : Nat → Bool} {R : Nat} (h : ∀ i, p i = true → i < R) : ∀ n, R ≤ n → dc_cn p n = dc_cn p R := by
  intro n hn
  induction n with
  | zero => have : R = 0 := by omega
            rw [this]
  | succ n ih =>
    by_cases e : R = n + 1
    · rw [e]
    · have hp : ¬ p n = true := fun z => by have := h n z; omega
      simp only [dc_cn]
      rw [if_neg hp, Nat.add_zero]
      exact ih (by omega)
def dc_sm (d : Nat → Nat) : Nat → Nat
  | 0 => 0
  | n + 1 => dc_sm d n + d n
def dc_pu (d : Nat → Nat) (y v : Nat) : Nat → Nat := fun i => if i = y then v else d i
theorem dc_pu_s (d : Nat → Nat) (y v : Nat) : dc_pu d y v y = v := if_pos rfl
theorem dc_pu_n (d : Nat → Nat) {y i : Nat} (v : Nat) (h : i ≠ y) : dc_pu d y v i = d i := if_neg h
theorem dc_sm_le {d e : Nat → Nat} : ∀ n, (∀ i, i < n → d i ≤ e i) → dc_sm d n ≤ dc_sm e n := by
  intro n
  induction n with
  | zero => intro _; exact Nat.le_refl 0
  | succ n ih =>
    intro h
    have h1 := ih (fun i hi => h i (by omega))
    have h2 := h n (by omega)
    simp only [dc_sm]
    omega
theorem dc_sm_lt {d e : Nat → Nat} {j : Nat} (hd : d j < e j) : ∀ n, (∀ i, i < n → d i ≤ e i) → j < n → dc_sm d n < dc_sm e n := by
  intro n
  induction n with
  | zero => intro _ hj; omega
  | succ n ih =>
    intro h hj
    have h1 : dc_sm d n ≤ dc_sm e n := dc_sm_le n (fun i hi => h i (by omega))
    have h2 := h n (by omega)
    simp only [dc_sm]
    by_cases z : j = n
    · subst z; omega
    · have := ih (fun i hi => h i (by omega)) (by omega)
      omega
/-- a loop's work, cell by cell -/
def dc_it {σ : Type} (f : Nat → σ → σ) (s : σ) : Nat → σ
  | 0 => s
  | n + 1 => f n (dc_it f s n)
