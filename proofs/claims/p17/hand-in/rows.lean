section
/-! rows pasted from the kit's rows to paste -/
def bt (x : Int32) (i : Nat) : Bool := x.toBitVec.getLsbD i
theorem b_ext {x y : Int32} (h : ∀ i, i < 32 → bt x i = bt y i) : x = y := Int32.toBitVec_inj.mp (BitVec.eq_of_getLsbD_eq (fun i hi => h i hi))
theorem b_or (x y : Int32) (i : Nat) : bt (x ||| y) i = (bt x i || bt y i) := by unfold bt; rw [Int32.toBitVec_or, BitVec.getLsbD_or]
theorem b_and (x y : Int32) (i : Nat) : bt (x &&& y) i = (bt x i && bt y i) := by unfold bt; rw [Int32.toBitVec_and, BitVec.getLsbD_and]
theorem b_xor (x y : Int32) (i : Nat) : bt (x ^^^ y) i = (bt x i ^^ bt y i) := by unfold bt; rw [Int32.toBitVec_xor, BitVec.getLsbD_xor]
theorem b_big {x : Int32} {i : Nat} (h : 32 ≤ i) : bt x i = false := BitVec.getLsbD_of_ge _ _ h
theorem b_255 (i : Nat) : bt 255 i = decide (i < 8) := by
  rcases Nat.lt_or_ge i 32 with h | h
  · exact (by decide +kernel : ∀ i, i < 32 → bt 255 i = decide (i < 8)) i h
  · rw [b_big h, decide_eq_false (by omega)]
theorem b_65535 (i : Nat) : bt 65535 i = decide (i < 16) := by
  rcases Nat.lt_or_ge i 32 with h | h
  · exact (by decide +kernel : ∀ i, i < 32 → bt 65535 i = decide (i < 16)) i h
  · rw [b_big h, decide_eq_false (by omega)]
theorem b_m1 : ∀ i, i < 32 → bt (-1) i = true := by decide +kernel
theorem b_0 (i : Nat) : bt 0 i = false := BitVec.getLsbD_zero
theorem s_l : ∀ n, n < 32 → ((nI n &&& 31).toBitVec.smod 32).toNat = n := by decide +kernel
theorem s_u : ∀ n, n < 32 → (((nI n).toUInt32 &&& Int32.toUInt32 31).toBitVec % 32).toNat = n := by decide +kernel
theorem b_shl (n : Nat) (hn : n < 32) (x : Int32) {i : Nat} (hi : i < 32) : bt (x <<< (nI n &&& 31)) i = (decide (n ≤ i) && bt x (i - n)) := by
  unfold bt
  rw [Int32.toBitVec_shiftLeft]
  show (x.toBitVec <<< ((nI n &&& 31).toBitVec.smod 32).toNat).getLsbD i = _
  rw [s_l n hn, BitVec.getLsbD_shiftLeft]
  rcases Nat.lt_or_ge i n with h | h
  · simp [h, Nat.not_le.mpr h]
  · simp [hi, h, Nat.not_lt.mpr h]
theorem b_ushr (n : Nat) (hn : n < 32) (x : Int32) (i : Nat) : bt ((x.toUInt32 >>> ((nI n).toUInt32 &&& Int32.toUInt32 31)).toInt32) i = bt x (n + i) := by
  show (x.toUInt32 >>> ((nI n).toUInt32 &&& Int32.toUInt32 31)).toBitVec.getLsbD i = x.toUInt32.toBitVec.getLsbD (n + i)
  rw [UInt32.toBitVec_shiftRight]
  show (x.toUInt32.toBitVec >>> (((nI n).toUInt32 &&& Int32.toUInt32 31).toBitVec % 32).toNat).getLsbD i = _
  rw [s_u n hn, BitVec.getLsbD_ushiftRight]
theorem b_sshr (n : Nat) (hn : n < 32) (x : Int32) {i : Nat} (hi : i < 32) : bt (x >>> (nI n &&& 31)) i = if n + i < 32 then bt x (n + i) else bt x 31 := by
  unfold bt
  rw [Int32.toBitVec_shiftRight]
  show (x.toBitVec.sshiftRight ((nI n &&& 31).toBitVec.smod 32).toNat).getLsbD i = _
  rw [s_l n hn, BitVec.getLsbD_sshiftRight, BitVec.msb_eq_getLsbD_last]
  simp [hi]
theorem b_shl8 (x : Int32) {i : Nat} (hi : i < 32) : bt (x <<< ((8 : Int32) &&& 31)) i = (decide (8 ≤ i) && bt x (i - 8)) := b_shl 8 (by omega) x hi
theorem b_shl16 (x : Int32) {i : Nat} (hi : i < 32) : bt (x <<< ((16 : Int32) &&& 31)) i = (decide (16 ≤ i) && bt x (i - 16)) := b_shl 16 (by omega) x hi
theorem b_shl24 (x : Int32) {i : Nat} (hi : i < 32) : bt (x <<< ((24 : Int32) &&& 31)) i = (decide (24 ≤ i) && bt x (i - 24)) := b_shl 24 (by omega) x hi
theorem b_sshr8 (x : Int32) {i : Nat} (hi : i < 32) : bt (x >>> ((8 : Int32) &&& 31)) i = if 8 + i < 32 then bt x (8 + i) else bt x 31 := b_sshr 8 (by omega) x hi
end
section
/-! counting the true cells of a row, sums, and the pure store -/
def dc_cn (p : Nat → Bool) : Nat → Nat
  | 0 => 0
  | n + 1 => dc_cn p n + (if p n = true then 1 else 0)
theorem dc_cn_le (p : Nat → Bool) : ∀ n, dc_cn p n ≤ n := by
  intro n
  induction n with
  | zero => exact Nat.le_refl 0
  | succ n ih =>
    simp only [dc_cn]
    split <;> omega
theorem dc_cn_mono {p q : Nat → Bool} : ∀ n, (∀ i, i < n → p i = true → q i = true) → dc_cn p n ≤ dc_cn q n := by
  intro n
  induction n with
  | zero => intro _; exact Nat.le_refl 0
  | succ n ih =>
    intro h
    have h1 := ih (fun i hi => h i (by omega))
    have h2 := h n (by omega)
    simp only [dc_cn]
    by_cases hp : p n = true
    · rw [if_pos hp, if_pos (h2 hp)]; omega
    · rw [if_neg hp]; omega
theorem dc_cn_lt {p q : Nat → Bool} {j : Nat} (hp : p j = false) (hq : q j = true) : ∀ n, (∀ i, i < n → p i = true → q i = true) → j < n → dc_cn p n < dc_cn q n := by
  intro n
  induction n with
  | zero => intro _ hj; omega
  | succ n ih =>
    intro h hj
    have h0 : dc_cn p n ≤ dc_cn q n := dc_cn_mono n (fun i hi => h i (by omega))
    have h2 := h n (by omega)
    simp only [dc_cn]
    by_cases e : j = n
    · subst e
      have hp' : ¬ p j = true := by rw [hp]; decide
      rw [if_neg hp', if_pos hq]; omega
    · have h1 := ih (fun i hi => h i (by omega)) (by omega)
      by_cases z : p n = true
      · rw [if_pos z, if_pos (h2 z)]; omega
      · rw [if_neg z]; omega
theorem dc_cn_all : ∀ n, dc_cn (fun _ => true) n = n := by
  intro n
  induction n with
  | zero => rfl
  | succ n ih => simp only [dc_cn, ih, if_true]
theorem dc_cn_full {p : Nat → Bool} {j n : Nat} (hj : j < n) (hp : p j = false) : dc_cn p n < n := by
  have h := dc_cn_lt (p := p) (q := fun _ => true) hp rfl n (fun _ _ _ => rfl) hj
  rw [dc_cn_all] at h
  exact h
theorem dc_cn_ext {p q : Nat → Bool} {n : Nat} (h : ∀ i, i < n → p i = q i) : dc_cn p n = dc_cn q n :=
  Nat.le_antisymm (dc_cn_mono n (fun i hi z => by rw [← h i hi]; exact z)) (dc_cn_mono n (fun i hi z => by rw [h i hi]; exact z))
theorem dc_cn_none : ∀ n, dc_cn (fun _ => false) n = 0 := by
  intro n
  induction n with
  | zero => rfl
  | succ n ih => simp [dc_cn, ih]
theorem dc_cn_pos {p : Nat → Bool} {j n : Nat} (hj : j < n) (hp : p j = true) : 0 < dc_cn p n := by
  have h := dc_cn_lt (p := fun _ => false) (q := p) rfl hp n (fun _ _ z => nomatch z) hj
  omega
theorem dc_cn_zero {p : Nat → Bool} {n : Nat} (h : dc_cn p n = 0) {j : Nat} (hj : j < n) : p j = false := by
  cases hp : p j with
  | false => rfl
  | true => have := dc_cn_pos hj hp; omega
theorem dc_cn_some {p : Nat → Bool} : ∀ {n : Nat}, 0 < dc_cn p n → ∃ j, j < n ∧ p j = true := by
  intro n
  induction n with
  | zero => intro h; simp only [dc_cn] at h; omega
  | succ n ih =>
    intro h
    by_cases hp : p n = true
    · exact ⟨n, by omega, hp⟩
    · simp only [dc_cn] at h
      rw [if_neg hp] at h
      obtain ⟨j, hj, z⟩ := ih (by omega)
      exact ⟨j, by omega, z⟩
/-- two true cells: the count is two at least -/
theorem dc_cn_two {p : Nat → Bool} {i j n : Nat} (hi : i < n) (hj : j < n) (hij : i ≠ j) (pi : p i = true) (pj : p j = true) : 2 ≤ dc_cn p n := by
  have h1 : 0 < dc_cn (fun x => decide (x = i)) n := dc_cn_pos hi (by simp)
  have h2 : dc_cn (fun x => decide (x = i)) n < dc_cn p n :=
    dc_cn_lt (j := j) (by simp; omega) pj n (fun x _ z => by have := of_decide_eq_true z; rw [this]; exact pi) hj
  omega
theorem dc_cn_one {p : Nat → Bool} {i j n : Nat} (h : dc_cn p n < 2) (hi : i < n) (hj : j < n) (pi : p i = true) (pj : p j = true) : i = j := by
  by_cases e : i = j
  · exact e
  · have := dc_cn_two hi hj e pi pj; omega
/-- two at least: two different true cells -/
theorem dc_cn_pair {p : Nat → Bool} : ∀ {n : Nat}, 2 ≤ dc_cn p n → ∃ i j, i < j ∧ j < n ∧ p i = true ∧ p j = true := by
  intro n
  induction n with
  | zero => intro h; simp only [dc_cn] at h; omega
  | succ n ih =>
    intro h
    by_cases hp : p n = true
    · simp only [dc_cn] at h
      rw [if_pos hp] at h
      obtain ⟨i, hi, z⟩ := dc_cn_some (p := p) (n := n) (by omega)
      exact ⟨i, n, hi, by omega, z, hp⟩
    · simp only [dc_cn] at h
      rw [if_neg hp] at h
      obtain ⟨i, j, hij, hj, zi, zj⟩ := ih (by omega)
      exact ⟨i, j, hij, by omega, zi, zj⟩
/-- nothing true beyond R: the longer count is the shorter one -/
theorem dc_cn_cut {p : Nat → Bool} {R : Nat} (h : ∀ i, p i = true → i < R) : ∀ n, R ≤ n → dc_cn p n = dc_cn p R := by
  intro n hn
  induction n with
  | zero => have : R = 0 := by omega
            rw [this]
  | succ n ih =>
    by_cases e : R = n + 1
    · rw [e]
    · have hp : ¬ p n = true := fun z => by have := h n z; omega
      simp only [dc_cn]
      rw [if_neg hp, Nat.add_zero]
      exact ih (by omega)
def dc_sm (d : Nat → Nat) : Nat → Nat
  | 0 => 0
  | n + 1 => dc_sm d n + d n
def dc_pu (d : Nat → Nat) (y v : Nat) : Nat → Nat := fun i => if i = y then v else d i
theorem dc_pu_s (d : Nat → Nat) (y v : Nat) : dc_pu d y v y = v := if_pos rfl
theorem dc_pu_n (d : Nat → Nat) {y i : Nat} (v : Nat) (h : i ≠ y) : dc_pu d y v i = d i := if_neg h
theorem dc_sm_le {d e : Nat → Nat} : ∀ n, (∀ i, i < n → d i ≤ e i) → dc_sm d n ≤ dc_sm e n := by
  intro n
  induction n with
  | zero => intro _; exact Nat.le_refl 0
  | succ n ih =>
    intro h
    have h1 := ih (fun i hi => h i (by omega))
    have h2 := h n (by omega)
    simp only [dc_sm]
    omega
theorem dc_sm_lt {d e : Nat → Nat} {j : Nat} (hd : d j < e j) : ∀ n, (∀ i, i < n → d i ≤ e i) → j < n → dc_sm d n < dc_sm e n := by
  intro n
  induction n with
  | zero => intro _ hj; omega
  | succ n ih =>
    intro h hj
    have h1 : dc_sm d n ≤ dc_sm e n := dc_sm_le n (fun i hi => h i (by omega))
    have h2 := h n (by omega)
    simp only [dc_sm]
    by_cases z : j = n
    · subst z; omega
    · have := ih (fun i hi => h i (by omega)) (by omega)
      omega
/-- a loop's work, cell by cell -/
def dc_it {σ : Type} (f : Nat → σ → σ) (s : σ) : Nat → σ
  | 0 => s
  | n + 1 => f n (dc_it f s n)
end
section
/-! the distances: a table that no step shortens and whose finite values each rest on a step; 1000 stands for 'no chain' -/
/-- q and r are neighbours through link k -/
def dc_Ed (R L : Nat) (A : Nat → Nat → Bool) (k q r : Nat) : Prop := k < L ∧ q < R ∧ r < R ∧ q ≠ r ∧ A k q = true ∧ A k r = true
def dc_G (R L : Nat) (A : Nat → Nat → Bool) (c : Nat → Nat) (s : Nat) (D : Nat → Nat) : Prop :=
  D s = 0 ∧ (∀ r, r < R → D r ≤ 1000) ∧
  (∀ r, r < R → r ≠ s → D r < 1000 → ∃ k q, dc_Ed R L A k q r ∧ D q < 1000 ∧ D q + c k = D r) ∧
  (∀ k q r, dc_Ed R L A k q r → D q < 1000 → D r ≤ D q + c k)
def dc_V (R L : Nat) (A : Nat → Nat → Bool) (c : Nat → Nat) (s : Nat) (D : Nat → Nat) : Prop :=
  D s = 0 ∧ (∀ r, r < R → D r ≤ 1000) ∧
  (∀ r, r < R → r ≠ s → D r < 1000 → ∃ k q, dc_Ed R L A k q r ∧ D q < 1000 ∧ D q + c k ≤ D r)
theorem dc_V0 (R L : Nat) (A : Nat → Nat → Bool) (c : Nat → Nat) (s : Nat) : dc_V R L A c s (fun r => if r = s then 0 else 1000) := by
  refine ⟨if_pos rfl, fun r _ => ?_, fun r _ hr h => ?_⟩
  · show (if r = s then 0 else 1000) ≤ 1000
    split <;> omega
  · have e : (if r = s then 0 else 1000) = 1000 := if_neg hr
    have h' : (if r = s then 0 else 1000) < 1000 := h
    omega
theorem dc_Vs {R L : Nat} {A : Nat → Nat → Bool} {c : Nat → Nat} {s : Nat} {D : Nat → Nat} (h : dc_V R L A c s D) {k q r : Nat} (e : dc_Ed R L A k q r) (hq : D q < 1000) (hr : D q + c k < D r) : dc_V R L A c s (dc_pu D r (D q + c k)) := by
  obtain ⟨h0, h1, h2⟩ := h
  have hrs : s ≠ r := fun z => by rw [← z] at hr; omega
  have hr1 := h1 r e.2.2.1
  refine ⟨by rw [dc_pu_n _ _ hrs]; exact h0, fun i hi => ?_, fun i hi his hi2 => ?_⟩
  · by_cases z : i = r
    · rw [z, dc_pu_s]; omega
    · rw [dc_pu_n _ _ z]; exact h1 i hi
  · by_cases z : i = r
    · refine ⟨k, q, by rw [z]; exact e, ?_, ?_⟩
      · rw [dc_pu_n _ _ e.2.2.2.1]; exact hq
      · rw [dc_pu_n _ _ e.2.2.2.1, z, dc_pu_s] <;> exact Nat.le_refl _
    · rw [dc_pu_n _ _ z] at hi2
      obtain ⟨k', q', e', hq', hs'⟩ := h2 i hi his hi2
      refine ⟨k', q', e', ?_, ?_⟩
      · by_cases y : q' = r
        · rw [y, dc_pu_s]; rw [y] at hq'; omega
        · rw [dc_pu_n _ _ y]; exact hq'
      · rw [dc_pu_n _ _ z]
        by_cases y : q' = r
        · rw [y, dc_pu_s]; rw [y] at hs'; omega
        · rw [dc_pu_n _ _ y]; exact hs'
theorem dc_least (P : Nat → Prop) (h : ∃ k, P k) : ∃ k, P k ∧ ∀ j, j < k → ¬ P j := by
  obtain ⟨k, hk⟩ := h
  induction k using Nat.strongRecOn with
  | ind k ih =>
    by_cases z : ∃ j, j < k ∧ P j
    · obtain ⟨j, hj, pj⟩ := z
      exact ih j hj pj
    · exact ⟨k, hk, fun j hj pj => z ⟨j, hj, pj⟩⟩
/-- there is such a table: among the sound ones that of least sum -/
theorem dc_Gex (R L : Nat) (A : Nat → Nat → Bool) (c : Nat → Nat) (s : Nat) : ∃ D, dc_G R L A c s D := by
  obtain ⟨n, ⟨D, hV, hn⟩, hmin⟩ := dc_least (fun n => ∃ D, dc_V R L A c s D ∧ dc_sm D R = n) ⟨_, _, dc_V0 R L A c s, rfl⟩
  have h3 : ∀ k q r, dc_Ed R L A k q r → D q < 1000 → D r ≤ D q + c k := by
    intro k q r e hq
    by_cases z : D r ≤ D q + c k
    · exact z
    · exfalso
      have hlt : D q + c k < D r := by omega
      refine hmin (dc_sm (dc_pu D r (D q + c k)) R) ?_ ⟨_, dc_Vs hV e hq hlt, rfl⟩
      rw [← hn]
      refine dc_sm_lt (j := r) (by rw [dc_pu_s]; exact hlt) R (fun i _ => ?_) e.2.2.1
      by_cases y : i = r
      · rw [y, dc_pu_s]; omega
      · rw [dc_pu_n _ _ y] <;> exact Nat.le_refl _
  refine ⟨D, hV.1, hV.2.1, fun r hr hrs hr2 => ?_, h3⟩
  obtain ⟨k, q, e, hq, hle⟩ := hV.2.2 r hr hrs hr2
  exact ⟨k, q, e, hq, Nat.le_antisymm hle (h3 k q r e hq)⟩
/-- how many routers lie nearer than r -/
def dc_rk (R : Nat) (D : Nat → Nat) (r : Nat) : Nat := dc_cn (fun i => decide (D i < D r)) R
theorem dc_rk_lt {R : Nat} {D : Nat → Nat} {q r : Nat} (hq : q < R) (h : D q < D r) : dc_rk R D q < dc_rk R D r :=
  dc_cn_lt (j := q) (decide_eq_false (Nat.lt_irrefl _)) (decide_eq_true h) R (fun i _ z => decide_eq_true (Nat.lt_trans (of_decide_eq_true z) h)) hq
theorem dc_rk_R {R : Nat} {D : Nat → Nat} {r : Nat} (hr : r < R) : dc_rk R D r < R :=
  dc_cn_full hr (decide_eq_false (Nat.lt_irrefl _))
/-- a finite distance is at most 15 for each nearer router -/
theorem dc_G15 {R L : Nat} {A : Nat → Nat → Bool} {c : Nat → Nat} {s : Nat} {D : Nat → Nat} (h : dc_G R L A c s D) (c1 : ∀ k, k < L → 1 ≤ c k) (c15 : ∀ k, k < L → c k ≤ 15) : ∀ n r, D r = n → r < R → D r < 1000 → D r ≤ 15 * dc_rk R D r := by
  intro n
  induction n using Nat.strongRecOn with
  | ind n ih =>
    intro r hn hr h1
    by_cases z : r = s
    · rw [z, h.1]; omega
    · obtain ⟨k, q, e, hq, hs⟩ := h.2.2.1 r hr z h1
      have a1 := c1 k e.1
      have a2 := c15 k e.1
      have hlt : D q < D r := by omega
      have b := ih (D q) (by omega) q rfl e.2.1 hq
      have b2 := dc_rk_lt e.2.1 hlt
      omega
theorem dc_G165 {R L : Nat} {A : Nat → Nat → Bool} {c : Nat → Nat} {s : Nat} {D : Nat → Nat} (h : dc_G R L A c s D) (c1 : ∀ k, k < L → 1 ≤ c k) (c15 : ∀ k, k < L → c k ≤ 15) (hR : R ≤ 12) {r : Nat} (hr : r < R) (h1 : D r < 1000) : D r ≤ 165 := by
  have a := dc_G15 h c1 c15 _ r rfl hr h1
  have b := dc_rk_R (D := D) hr
  omega
/-! a table in the making: d over the true one, I for 'no chain' (1000 or 1000000) -/
section
variable (R L : Nat) (A : Nat → Nat → Bool) (c : Nat → Nat) (s : Nat) (D : Nat → Nat) (I : Nat)
def dc_E (r : Nat) : Nat := if D r < 1000 then D r else I
def dc_P (d : Nat → Nat) : Prop := ∀ r, r < R → dc_E D I r ≤ d r ∧ d r ≤ I
def dc_Q (t : Nat) (d : Nat → Nat) : Prop := ∀ r, r < R → D r < 1000 → dc_rk R D r ≤ t → d r = D r
/-- what one link's work leaves -/
def dc_S (k : Nat) (d d' : Nat → Nat) : Prop :=
  (∀ r, r < R → dc_E D I r ≤ d' r ∧ d' r ≤ d r) ∧ (∀ q r, dc_Ed R L A k q r → D q < 1000 → d q = D q → d' r ≤ D q + c k)
/-- in the midst of round t + 1, the links below l done -/
def dc_M (t l : Nat) (d : Nat → Nat) : Prop :=
  dc_P R D I d ∧ dc_Q R D t d ∧
  (∀ r, r < R → D r < 1000 → dc_rk R D r ≤ t + 1 → (∃ k q, k < l ∧ dc_Ed R L A k q r ∧ D q < 1000 ∧ D q + c k = D r) → d r = D r)
end
section
variable {R L : Nat} {A : Nat → Nat → Bool} {c : Nat → Nat} {s : Nat} {D : Nat → Nat} {I : Nat}
theorem dc_E_lt {r : Nat} (h : D r < 1000) : dc_E D I r = D r := if_pos h
theorem dc_E_ge {r : Nat} (h : ¬ D r < 1000) : dc_E D I r = I := if_neg h
theorem dc_M0 {t : Nat} {d : Nat → Nat} (hP : dc_P R D I d) (hQ : dc_Q R D t d) : dc_M R L A c D I t 0 d :=
  ⟨hP, hQ, fun _ _ _ _ ⟨_, _, z, _⟩ => absurd z (Nat.not_lt_zero _)⟩
theorem dc_Ms (c1 : ∀ k, k < L → 1 ≤ c k) {t l : Nat} {d d' : Nat → Nat} (h : dc_M R L A c D I t l d) (hS : dc_S R L A c D I l d d') : dc_M R L A c D I t (l + 1) d' := by
  obtain ⟨hP, hQ, hM⟩ := h
  have keep : ∀ r, r < R → D r < 1000 → d r = D r → d' r = D r := by
    intro r hr h1 e
    have a := hS.1 r hr
    rw [dc_E_lt h1] at a
    omega
  refine ⟨fun r hr => ⟨(hS.1 r hr).1, Nat.le_trans (hS.1 r hr).2 (hP r hr).2⟩, fun r hr h1 h2 => keep r hr h1 (hQ r hr h1 h2), ?_⟩
  intro r hr h1 h2 ⟨k, q, hk, e, hq, hs⟩
  by_cases z : k = l
  · subst z
    have a1 := c1 k e.1
    have b := dc_rk_lt (r := r) e.2.1 (show D q < D r by omega)
    have b1 := hS.2 q r e hq (hQ q e.2.1 hq (by omega))
    have b2 := (hS.1 r hr).1
    rw [dc_E_lt h1] at b2
    omega
  · exact keep r hr h1 (hM r hr h1 h2 ⟨k, q, by omega, e, hq, hs⟩)
theorem dc_ML (h : dc_G R L A c s D) {t : Nat} {d : Nat → Nat} (hM : dc_M R L A c D I t L d) : dc_Q R D (t + 1) d := by
  intro r hr h1 h2
  by_cases z : r = s
  · have e : dc_rk R D r = 0 := by
      have e1 : dc_cn (fun i => decide (D i < D r)) R = dc_cn (fun _ => false) R := dc_cn_ext (fun i _ => decide_eq_false (by rw [z, h.1]; omega))
      exact e1.trans (dc_cn_none R)
    exact hM.2.1 r hr h1 (by omega)
  · obtain ⟨k, q, e, hq, hs⟩ := h.2.2.1 r hr z h1
    exact hM.2.2 r hr h1 h2 ⟨k, q, e.1, e, hq, hs⟩
/-- the start: 0 at the source, I elsewhere -/
theorem dc_P0 (h : dc_G R L A c s D) (hI : 1000 ≤ I) {d : Nat → Nat} (hd : ∀ r, r < R → d r = if r = s then 0 else I) : dc_P R D I d := by
  intro r hr
  rw [hd r hr]
  by_cases z : r = s
  · rw [if_pos z, z, dc_E_lt (by rw [h.1]; omega), h.1]; omega
  · rw [if_neg z]
    by_cases y : D r < 1000
    · rw [dc_E_lt y]; omega
    · rw [dc_E_ge y]; omega
theorem dc_Q0 (h : dc_G R L A c s D) (c1 : ∀ k, k < L → 1 ≤ c k) {d : Nat → Nat} (hd : ∀ r, r < R → d r = if r = s then 0 else I) : dc_Q R D 0 d := by
  intro r hr h1 h2
  by_cases z : r = s
  · rw [hd r hr, if_pos z, z, h.1]
  · exfalso
    obtain ⟨k, q, e, hq, hs⟩ := h.2.2.1 r hr z h1
    have a1 := c1 k e.1
    have b := dc_rk_lt (r := r) e.2.1 (show D q < D r by omega)
    omega
/-- the end: after R - 1 rounds or more the table is the true one -/
theorem dc_PQ {t : Nat} {d : Nat → Nat} (hP : dc_P R D I d) (hQ : dc_Q R D t d) (ht : R ≤ t + 1) {r : Nat} (hr : r < R) : d r = dc_E D I r := by
  by_cases y : D r < 1000
  · have b := dc_rk_R (D := D) hr
    rw [dc_E_lt y]
    exact hQ r hr y (by omega)
  · have a := hP r hr
    rw [dc_E_ge y] at a ⊢
    omega
theorem dc_E1000 (h : dc_G R L A c s D) {r : Nat} (hr : r < R) : dc_E D 1000 r = D r := by
  by_cases y : D r < 1000
  · exact dc_E_lt y
  · rw [dc_E_ge y]
    have := h.2.1 r hr
    omega
theorem dc_G_ext (h : dc_G R L A c s D) (hs : s < R) {D' : Nat → Nat} (e : ∀ r, r < R → D' r = D r) : dc_G R L A c s D' := by
  refine ⟨by rw [e s hs]; exact h.1, fun r hr => by rw [e r hr]; exact h.2.1 r hr, fun r hr z h1 => ?_, fun k q r ed hq => ?_⟩
  · rw [e r hr] at h1 ⊢
    obtain ⟨k, q, ed, hq, hh⟩ := h.2.2.1 r hr z h1
    exact ⟨k, q, ed, by rw [e q ed.2.1]; exact hq, by rw [e q ed.2.1]; exact hh⟩
  · rw [e q ed.2.1] at hq ⊢
    rw [e r ed.2.2.1]
    exact h.2.2.2 k q r ed hq
end
/-! the upstream routers and the reverse-path link -/
theorem dc_nm1 {q : Nat} (h : q < 2 ^ 31) : ¬ nI q = -1 := by
  intro e
  have a := nI_pos' h
  rw [e] at a
  exact absurd a (by decide)
/-- the highest cell below n that is true, or -1 -/
def dc_us (p : Nat → Bool) : Nat → Int32
  | 0 => -1
  | n + 1 => if p n = true then nI n else dc_us p n
theorem dc_us_1 {p : Nat → Bool} {n : Nat} (h : p n = true) : dc_us p (n + 1) = nI n := if_pos h
theorem dc_us_0 {p : Nat → Bool} {n : Nat} (h : ¬ p n = true) : dc_us p (n + 1) = dc_us p n := if_neg h
theorem dc_us_or (p : Nat → Bool) : ∀ n, (dc_us p n = -1 ∧ ∀ i, i < n → p i = false) ∨ ∃ q, q < n ∧ p q = true ∧ dc_us p n = nI q := by
  intro n
  induction n with
  | zero => exact Or.inl ⟨rfl, fun i hi => absurd hi (Nat.not_lt_zero i)⟩
  | succ n ih =>
    by_cases h : p n = true
    · exact Or.inr ⟨n, by omega, h, dc_us_1 h⟩
    · rw [dc_us_0 h]
      rcases ih with ⟨a, b⟩ | ⟨q, a, b, e⟩
      · refine Or.inl ⟨a, fun i hi => ?_⟩
        by_cases z : i = n
        · rw [z]; exact Bool.eq_false_iff.mpr h
        · exact b i (by omega)
      · exact Or.inr ⟨q, by omega, b, e⟩
def dc_uq (A : Nat → Nat → Bool) (c : Nat → Nat) (D : Nat → Nat) (k r : Nat) : Nat → Bool := fun q => decide (q ≠ r ∧ A k q = true ∧ D q + c k = D r)
/-- the highest upstream router of r on k, or -1 -/
def dc_U (R : Nat) (A : Nat → Nat → Bool) (c : Nat → Nat) (D : Nat → Nat) (k r : Nat) : Int32 := dc_us (dc_uq A c D k r) R
def dc_Hp (R : Nat) (A : Nat → Nat → Bool) (c : Nat → Nat) (D : Nat → Nat) (k r : Nat) : Prop := A k r = true ∧ ∃ q, q < R ∧ dc_uq A c D k r q = true
theorem dc_U_or (R : Nat) (A : Nat → Nat → Bool) (c : Nat → Nat) (D : Nat → Nat) (k r : Nat) : (dc_U R A c D k r = -1 ∧ ¬ ∃ q, q < R ∧ dc_uq A c D k r q = true) ∨ ∃ q, q < R ∧ dc_uq A c D k r q = true ∧ dc_U R A c D k r = nI q := by
  rcases dc_us_or (dc_uq A c D k r) R with ⟨a, b⟩ | h
  · refine Or.inl ⟨a, fun ⟨q, hq, e⟩ => ?_⟩
    rw [b q hq] at e
    exact nomatch e
  · exact Or.inr h
/-- v is the reverse-path link of r, or -1 -/
def dc_isR (R L : Nat) (A : Nat → Nat → Bool) (c : Nat → Nat) (D : Nat → Nat) (r : Nat) (v : Int32) : Prop :=
  (v = -1 ∧ ∀ k, k < L → ¬ dc_Hp R A c D k r) ∨ (∃ k, k < L ∧ v = nI k ∧ dc_Hp R A c D k r ∧ ∀ j, j < k → ¬ dc_Hp R A c D j r)
theorem dc_isR_u {R L : Nat} {A : Nat → Nat → Bool} {c : Nat → Nat} {D : Nat → Nat} {r : Nat} {v w : Int32} (h : dc_isR R L A c D r v) (g : dc_isR R L A c D r w) : v = w := by
  rcases h with ⟨rfl, h⟩ | ⟨k, hk, rfl, h, hm⟩
  · rcases g with ⟨rfl, _⟩ | ⟨k', hk', _, g, _⟩
    · rfl
    · exact absurd g (h k' hk')
  · rcases g with ⟨_, g⟩ | ⟨k', hk', rfl, g, gm⟩
    · exact absurd h (g k hk)
    · have : k = k' := by
        rcases Nat.lt_trichotomy k k' with z | z | z
        · exact absurd h (gm k z)
        · exact z
        · exact absurd g (hm k' z)
      rw [this]
/-- no upstream router of the source, nor of a router that no chain reaches -/
theorem dc_Hp_s {R L : Nat} {A : Nat → Nat → Bool} {c : Nat → Nat} {s : Nat} {D : Nat → Nat} (h : dc_G R L A c s D) (c1 : ∀ k, k < L → 1 ≤ c k) {k : Nat} (hk : k < L) : ¬ dc_Hp R A c D k s := by
  intro ⟨_, q, _, e⟩
  have e' := of_decide_eq_true e
  have := c1 k hk
  have := h.1
  omega
theorem dc_Hp_i {R L : Nat} {A : Nat → Nat → Bool} {c : Nat → Nat} {s : Nat} {D : Nat → Nat} (h : dc_G R L A c s D) (c1 : ∀ k, k < L → 1 ≤ c k) (c15 : ∀ k, k < L → c k ≤ 15) (hR : R ≤ 12) {k r : Nat} (hk : k < L) (hr : r < R) (hi : ¬ D r < 1000) : ¬ dc_Hp R A c D k r := by
  intro ⟨_, q, hq, e⟩
  have e' := of_decide_eq_true e
  have a1 := c1 k hk
  have a2 := c15 k hk
  have a3 := h.2.1 r hr
  have a4 := dc_G165 h c1 c15 hR hq (by omega)
  omega
/-- the same step, read off the reference's table -/
theorem dc_Eq {R L : Nat} {A : Nat → Nat → Bool} {c : Nat → Nat} {s : Nat} {D : Nat → Nat} (h : dc_G R L A c s D) (c1 : ∀ k, k < L → 1 ≤ c k) (c15 : ∀ k, k < L → c k ≤ 15) (hR : R ≤ 12) {k q r : Nat} (hk : k < L) (hq : q < R) (hr : r < R) : (dc_E D 1000000 q < 1000000 ∧ dc_E D 1000000 q + c k = dc_E D 1000000 r) ↔ D q + c k = D r := by
  have a1 := c1 k hk
  have a2 := c15 k hk
  have a3 := h.2.1 r hr
  have a4 := h.2.1 q hq
  by_cases z : D q < 1000
  · have b := dc_G165 h c1 c15 hR hq z
    rw [dc_E_lt z]
    by_cases y : D r < 1000
    · rw [dc_E_lt y]; omega
    · rw [dc_E_ge y]; omega
  · rw [dc_E_ge z]
    omega
end
section
/-! the flood, as a pure work on (received, carried, transmitters); rp: the reverse-path links toward the source; can x k: x may transmit on k -/
section
variable (R L : Nat) (rp : Nat → Int32) (can : Nat → Nat → Bool)
def dc_dl (k : Nat) (rc : Nat → Nat) : Nat → Nat := fun y => if y < R ∧ rp y = nI k then rc y + 1 else rc y
def dc_tr (x k : Nat) (z : (Nat → Nat) × (Nat → Nat) × (Nat → Nat → Bool)) : (Nat → Nat) × (Nat → Nat) × (Nat → Nat → Bool) :=
  (dc_dl R rp k z.1, (fun j => if j = k then z.2.1 j + 1 else z.2.1 j), (fun j y => if j = k ∧ y = x then true else z.2.2 j y))
def dc_fk (x k : Nat) (z : (Nat → Nat) × (Nat → Nat) × (Nat → Nat → Bool)) : (Nat → Nat) × (Nat → Nat) × (Nat → Nat → Bool) :=
  if can x k = true then dc_tr R rp x k z else z
def dc_fx (x : Nat) (z : (Nat → Nat) × (Nat → Nat) × (Nat → Nat → Bool)) : (Nat → Nat) × (Nat → Nat) × (Nat → Nat → Bool) :=
  dc_it (dc_fk R rp can x) z L
def dc_rx (fr : Nat → Bool) (x : Nat) (z : (Nat → Nat) × (Nat → Nat) × (Nat → Nat → Bool)) : (Nat → Nat) × (Nat → Nat) × (Nat → Nat → Bool) :=
  if fr x = true then dc_fx R L rp can x z else z
def dc_rd (fr : Nat → Bool) (z : (Nat → Nat) × (Nat → Nat) × (Nat → Nat → Bool)) : (Nat → Nat) × (Nat → Nat) × (Nat → Nat → Bool) :=
  dc_it (dc_rx R L rp can fr) z R
/-- one round: the work and the next frontier -/
def dc_st (w : ((Nat → Nat) × (Nat → Nat) × (Nat → Nat → Bool)) × (Nat → Bool)) : ((Nat → Nat) × (Nat → Nat) × (Nat → Nat → Bool)) × (Nat → Bool) :=
  (dc_rd R L rp can w.2 w.1, fun y => decide (y < R ∧ w.1.1 y = 0 ∧ 1 ≤ (dc_rd R L rp can w.2 w.1).1 y))
def dc_fl (w : ((Nat → Nat) × (Nat → Nat) × (Nat → Nat → Bool)) × (Nat → Bool)) (n : Nat) : ((Nat → Nat) × (Nat → Nat) × (Nat → Nat → Bool)) × (Nat → Bool) :=
  dc_it (fun _ w => dc_st R L rp can w) w n
end
/-- the start of a flood from s -/
def dc_f0 (s : Nat) : ((Nat → Nat) × (Nat → Nat) × (Nat → Nat → Bool)) × (Nat → Bool) :=
  (((fun y => if y = s then 1 else 0), (fun _ => 0), (fun _ _ => false)), fun y => decide (y = s))
section
variable {R L : Nat} {rp : Nat → Int32} {can : Nat → Nat → Bool}
theorem dc_dl_b (k : Nat) (rc : Nat → Nat) (y : Nat) : rc y ≤ dc_dl R rp k rc y ∧ dc_dl R rp k rc y ≤ rc y + 1 := by
  unfold dc_dl
  split <;> omega
theorem dc_fk_1 {x k : Nat} (h : can x k = true) (z : (Nat → Nat) × (Nat → Nat) × (Nat → Nat → Bool)) : dc_fk R rp can x k z = dc_tr R rp x k z := if_pos h
theorem dc_fk_0 {x k : Nat} (h : ¬ can x k = true) (z : (Nat → Nat) × (Nat → Nat) × (Nat → Nat → Bool)) : dc_fk R rp can x k z = z := if_neg h
theorem dc_rx_1 {fr : Nat → Bool} {x : Nat} (h : fr x = true) (z : (Nat → Nat) × (Nat → Nat) × (Nat → Nat → Bool)) : dc_rx R L rp can fr x z = dc_fx R L rp can x z := if_pos h
theorem dc_rx_0 {fr : Nat → Bool} {x : Nat} (h : ¬ fr x = true) (z : (Nat → Nat) × (Nat → Nat) × (Nat → Nat → Bool)) : dc_rx R L rp can fr x z = z := if_neg h
theorem dc_fk_b (x k : Nat) (z : (Nat → Nat) × (Nat → Nat) × (Nat → Nat → Bool)) (y : Nat) : z.1 y ≤ (dc_fk R rp can x k z).1 y ∧ (dc_fk R rp can x k z).1 y ≤ z.1 y + 1 := by
  by_cases h : can x k = true
  · have e : (dc_fk R rp can x k z).1 y = dc_dl R rp k z.1 y := by rw [dc_fk_1 h] <;> rfl
    rw [e]; exact dc_dl_b k z.1 y
  · rw [dc_fk_0 h]; omega
theorem dc_fx_b (x : Nat) (z : (Nat → Nat) × (Nat → Nat) × (Nat → Nat → Bool)) (y : Nat) : z.1 y ≤ (dc_fx R L rp can x z).1 y ∧ (dc_fx R L rp can x z).1 y ≤ z.1 y + L := by
  unfold dc_fx
  generalize L = n
  induction n with
  | zero => exact ⟨Nat.le_refl _, Nat.le_refl _⟩
  | succ n ih =>
    have h := dc_fk_b (R := R) (rp := rp) (can := can) x n (dc_it (dc_fk R rp can x) z n) y
    show z.1 y ≤ (dc_fk R rp can x n (dc_it (dc_fk R rp can x) z n)).1 y ∧ (dc_fk R rp can x n (dc_it (dc_fk R rp can x) z n)).1 y ≤ z.1 y + (n + 1)
    omega
theorem dc_rx_b (fr : Nat → Bool) (x : Nat) (z : (Nat → Nat) × (Nat → Nat) × (Nat → Nat → Bool)) (y : Nat) : z.1 y ≤ (dc_rx R L rp can fr x z).1 y ∧ (dc_rx R L rp can fr x z).1 y ≤ z.1 y + L := by
  by_cases h : fr x = true
  · rw [dc_rx_1 h]; exact dc_fx_b x z y
  · rw [dc_rx_0 h]; omega
theorem dc_rd_b (fr : Nat → Bool) (z : (Nat → Nat) × (Nat → Nat) × (Nat → Nat → Bool)) (y : Nat) : z.1 y ≤ (dc_rd R L rp can fr z).1 y ∧ (dc_rd R L rp can fr z).1 y ≤ z.1 y + R * L := by
  have H : ∀ n, z.1 y ≤ (dc_it (dc_rx R L rp can fr) z n).1 y ∧ (dc_it (dc_rx R L rp can fr) z n).1 y ≤ z.1 y + n * L := by
    intro n
    induction n with
    | zero => exact ⟨Nat.le_refl _, by rw [Nat.zero_mul] <;> exact Nat.le_refl _⟩
    | succ n ih =>
      have h := dc_rx_b (R := R) (L := L) (rp := rp) (can := can) fr n (dc_it (dc_rx R L rp can fr) z n) y
      rw [Nat.succ_mul]
      show z.1 y ≤ (dc_rx R L rp can fr n (dc_it (dc_rx R L rp can fr) z n)).1 y ∧ (dc_rx R L rp can fr n (dc_it (dc_rx R L rp can fr) z n)).1 y ≤ z.1 y + (n * L + L)
      omega
  exact H R
/-- who transmitted: an earlier one, or a router of the frontier -/
theorem dc_fx_T (x : Nat) (z : (Nat → Nat) × (Nat → Nat) × (Nat → Nat → Bool)) (j y : Nat) (h : (dc_fx R L rp can x z).2.2 j y = true) : z.2.2 j y = true ∨ y = x := by
  have H : ∀ n, (dc_it (dc_fk R rp can x) z n).2.2 j y = true → z.2.2 j y = true ∨ y = x := by
    intro n
    induction n with
    | zero => exact fun h => Or.inl h
    | succ n ih =>
      intro h
      have h' : (dc_fk R rp can x n (dc_it (dc_fk R rp can x) z n)).2.2 j y = true := h
      by_cases hc : can x n = true
      · rw [dc_fk_1 hc] at h'
        by_cases e : j = n ∧ y = x
        · exact Or.inr e.2
        · refine ih ?_
          have e2 : (dc_tr R rp x n (dc_it (dc_fk R rp can x) z n)).2.2 j y = (dc_it (dc_fk R rp can x) z n).2.2 j y := if_neg e
          rw [e2] at h'
          exact h'
      · rw [dc_fk_0 hc] at h'
        exact ih h'
  exact H L h
theorem dc_rd_T (fr : Nat → Bool) (z : (Nat → Nat) × (Nat → Nat) × (Nat → Nat → Bool)) (j y : Nat) (h : (dc_rd R L rp can fr z).2.2 j y = true) : z.2.2 j y = true ∨ (y < R ∧ fr y = true) := by
  have H : ∀ n, n ≤ R → (dc_it (dc_rx R L rp can fr) z n).2.2 j y = true → z.2.2 j y = true ∨ (y < R ∧ fr y = true) := by
    intro n
    induction n with
    | zero => exact fun _ h => Or.inl h
    | succ n ih =>
      intro hn h
      have h' : (dc_rx R L rp can fr n (dc_it (dc_rx R L rp can fr) z n)).2.2 j y = true := h
      by_cases hc : fr n = true
      · rw [dc_rx_1 hc] at h'
        rcases dc_fx_T n _ j y h' with a | a
        · exact ih (by omega) a
        · exact Or.inr ⟨by omega, by rw [a]; exact hc⟩
      · rw [dc_rx_0 hc] at h'
        exact ih (by omega) h'
  exact H R (Nat.le_refl R) h
/-- an empty frontier does nothing -/
theorem dc_rd_0 (fr : Nat → Bool) (z : (Nat → Nat) × (Nat → Nat) × (Nat → Nat → Bool)) (h : ∀ x, x < R → fr x = false) : dc_rd R L rp can fr z = z := by
  have H : ∀ n, n ≤ R → dc_it (dc_rx R L rp can fr) z n = z := by
    intro n
    induction n with
    | zero => exact fun _ => rfl
    | succ n ih =>
      intro hn
      have e : ¬ fr n = true := by rw [h n (by omega)]; decide
      show dc_rx R L rp can fr n (dc_it (dc_rx R L rp can fr) z n) = z
      rw [ih (by omega)]
      exact if_neg e
  exact H R (Nat.le_refl R)
/-- what every round keeps -/
def dc_FI (R L n : Nat) (w : ((Nat → Nat) × (Nat → Nat) × (Nat → Nat → Bool)) × (Nat → Bool)) : Prop :=
  (∀ j y, w.1.2.2 j y = true → y < R ∧ 1 ≤ w.1.1 y) ∧ (∀ y, w.2 y = true → y < R ∧ 1 ≤ w.1.1 y) ∧ (∀ y, w.1.1 y ≤ 1 + n * (R * L)) ∧
  ((∃ y, w.2 y = true) → n + 1 ≤ dc_cn (fun y => decide (1 ≤ w.1.1 y)) R)
theorem dc_FI0 {s : Nat} (hs : s < R) : dc_FI R L 0 (dc_f0 s) := by
  refine ⟨fun j y h => absurd (show false = true from h) (by decide), fun y h => ?_, fun y => ?_, fun _ => ?_⟩
  · have e : y = s := of_decide_eq_true h
    subst e
    exact ⟨hs, by show 1 ≤ (if y = y then 1 else 0); rw [if_pos rfl] <;> exact Nat.le_refl 1⟩
  · show (if y = s then 1 else 0) ≤ 1 + 0 * (R * L)
    split <;> omega
  · exact dc_cn_pos hs (decide_eq_true (Nat.le_of_eq (if_pos rfl).symm))
theorem dc_FIs {n : Nat} {w : ((Nat → Nat) × (Nat → Nat) × (Nat → Nat → Bool)) × (Nat → Bool)} (h : dc_FI R L n w) : dc_FI R L (n + 1) (dc_st R L rp can w) := by
  obtain ⟨h1, h2, h3, h4⟩ := h
  have hb := dc_rd_b (R := R) (L := L) (rp := rp) (can := can) w.2 w.1
  refine ⟨fun j y z => ?_, fun y z => ?_, fun y => ?_, fun ⟨y, z⟩ => ?_⟩
  · have z' : (dc_rd R L rp can w.2 w.1).2.2 j y = true := z
    have b := (hb y).1
    show y < R ∧ 1 ≤ (dc_rd R L rp can w.2 w.1).1 y
    rcases dc_rd_T w.2 w.1 j y z' with a | a
    · have := h1 j y a; omega
    · have := h2 y a.2; omega
  · have z' : y < R ∧ w.1.1 y = 0 ∧ 1 ≤ (dc_rd R L rp can w.2 w.1).1 y := of_decide_eq_true z
    exact ⟨z'.1, z'.2.2⟩
  · have b := (hb y).2
    have a := h3 y
    show (dc_rd R L rp can w.2 w.1).1 y ≤ 1 + (n + 1) * (R * L)
    rw [Nat.succ_mul]
    omega
  · have z' : y < R ∧ w.1.1 y = 0 ∧ 1 ≤ (dc_rd R L rp can w.2 w.1).1 y := of_decide_eq_true z
    have ne : ∃ y, w.2 y = true := by
      by_cases e : ∃ y, w.2 y = true
      · exact e
      · exfalso
        have e0 : ∀ x, x < R → w.2 x = false := by
          intro x _
          cases hx : w.2 x with
          | false => rfl
          | true => exact absurd ⟨x, hx⟩ e
        have e1 := dc_rd_0 (R := R) (L := L) (rp := rp) (can := can) w.2 w.1 e0
        rw [e1] at z'
        omega
    have a := h4 ne
    have g : dc_cn (fun y => decide (1 ≤ w.1.1 y)) R < dc_cn (fun y => decide (1 ≤ (dc_rd R L rp can w.2 w.1).1 y)) R :=
      dc_cn_lt (j := y) (decide_eq_false (by omega)) (decide_eq_true z'.2.2) R (fun i _ t => decide_eq_true (Nat.le_trans (of_decide_eq_true t) (hb i).1)) z'.1
    show n + 1 + 1 ≤ dc_cn (fun y => decide (1 ≤ (dc_rd R L rp can w.2 w.1).1 y)) R
    omega
theorem dc_FIn {s : Nat} (hs : s < R) : ∀ n, dc_FI R L n (dc_fl R L rp can (dc_f0 s) n) := by
  intro n
  induction n with
  | zero => exact dc_FI0 hs
  | succ n ih =>
    show dc_FI R L (n + 1) (dc_st R L rp can (dc_fl R L rp can (dc_f0 s) n))
    exact dc_FIs ih
/-- the frontier of round R is empty -/
theorem dc_fl_R {s : Nat} (hs : s < R) (y : Nat) : (dc_fl R L rp can (dc_f0 s) R).2 y = false := by
  cases h : (dc_fl R L rp can (dc_f0 s) R).2 y with
  | false => rfl
  | true =>
    have a := (dc_FIn (L := L) (rp := rp) (can := can) hs R).2.2.2 ⟨y, h⟩
    have b := dc_cn_le (fun y => decide (1 ≤ (dc_fl R L rp can (dc_f0 s) R).1.1 y)) R
    omega
/-- from an empty frontier on nothing changes -/
theorem dc_fl_e {w : ((Nat → Nat) × (Nat → Nat) × (Nat → Nat → Bool)) × (Nat → Bool)} {n : Nat} (h : ∀ x, x < R → (dc_fl R L rp can w n).2 x = false) : ∀ m, (dc_fl R L rp can w (n + m)).1 = (dc_fl R L rp can w n).1 ∧ ∀ x, x < R → (dc_fl R L rp can w (n + m)).2 x = false := by
  intro m
  induction m with
  | zero => exact ⟨rfl, h⟩
  | succ m ih =>
    have e := dc_rd_0 (R := R) (L := L) (rp := rp) (can := can) _ (dc_fl R L rp can w (n + m)).1 ih.2
    refine ⟨?_, fun x hx => ?_⟩
    · show dc_rd R L rp can (dc_fl R L rp can w (n + m)).2 (dc_fl R L rp can w (n + m)).1 = _
      rw [e]
      exact ih.1
    · show decide (x < R ∧ (dc_fl R L rp can w (n + m)).1.1 x = 0 ∧ 1 ≤ (dc_rd R L rp can (dc_fl R L rp can w (n + m)).2 (dc_fl R L rp can w (n + m)).1).1 x) = false
      rw [e]
      exact decide_eq_false (by omega)
/-- whoever stops at an empty frontier, at R or before or behind, has the same record -/
theorem dc_fl_u {s : Nat} (hs : s < R) {n : Nat} (h : ∀ x, x < R → (dc_fl R L rp can (dc_f0 s) n).2 x = false) : (dc_fl R L rp can (dc_f0 s) n).1 = (dc_fl R L rp can (dc_f0 s) R).1 := by
  rcases Nat.le_total n R with z | z
  · have a := (dc_fl_e h (R - n)).1
    rw [show n + (R - n) = R by omega] at a
    exact a.symm
  · have a := (dc_fl_e (fun x _ => dc_fl_R (L := L) (rp := rp) (can := can) hs x) (n - R)).1
    rw [show R + (n - R) = n by omega] at a
    exact a
end
/-- the counts stay small -/
theorem dc_FI_b {R L n : Nat} {w : ((Nat → Nat) × (Nat → Nat) × (Nat → Nat → Bool)) × (Nat → Bool)} (h : dc_FI R L n w) (hR : R ≤ 12) (hL : L ≤ 16) (hn : n ≤ 13) (y : Nat) : w.1.1 y ≤ 2497 := by
  have a := h.2.2.1 y
  have b : R * L ≤ 12 * 16 := Nat.mul_le_mul hR hL
  have d : n * (R * L) ≤ 13 * (12 * 16) := Nat.mul_le_mul hn b
  omega
end
section
/-! the election, and the least set of routers that are needed -/
def dc_oI : Option Nat → Int32
  | none => -1
  | some q => nI q
/-- the scan upward: a later one that is not worse wins -/
def dc_bs (T : Nat → Bool) (b : Nat → Nat → Bool) : Nat → Option Nat
  | 0 => none
  | n + 1 => if T n = true then (match dc_bs T b n with
      | none => some n
      | some q => if b n q = true then some n else some q) else dc_bs T b n
theorem dc_bs_eq (T : Nat → Bool) (b : Nat → Nat → Bool) (n : Nat) : dc_bs T b (n + 1) = (if T n = true then (match dc_bs T b n with
      | none => some n
      | some q => if b n q = true then some n else some q) else dc_bs T b n) := rfl
theorem dc_bs_m {T : Nat → Bool} {b : Nat → Nat → Bool} : ∀ {n q : Nat}, dc_bs T b n = some q → q < n ∧ T q = true := by
  intro n
  induction n with
  | zero => intro q h; exact nomatch h
  | succ n ih =>
    intro q h
    rw [dc_bs_eq] at h
    by_cases ht : T n = true
    · rw [if_pos ht] at h
      cases e : dc_bs T b n with
      | none =>
        rw [e] at h
        have : n = q := Option.some.inj h
        subst this
        exact ⟨by omega, ht⟩
      | some p =>
        rw [e] at h
        by_cases hb : b n p = true
        · have h' : (if b n p = true then some n else some p) = some q := h
          rw [if_pos hb] at h'
          have : n = q := Option.some.inj h'
          subst this
          exact ⟨by omega, ht⟩
        · have h' : (if b n p = true then some n else some p) = some q := h
          rw [if_neg hb] at h'
          have := ih (q := q) (by rw [e]; exact h')
          exact ⟨by omega, this.2⟩
    · rw [if_neg ht] at h
      have := ih h
      exact ⟨by omega, this.2⟩
theorem dc_bs_0 {T : Nat → Bool} {b : Nat → Nat → Bool} : ∀ {n : Nat}, dc_bs T b n = none → ∀ i, i < n → T i = false := by
  intro n
  induction n with
  | zero => intro _ i hi; omega
  | succ n ih =>
    intro h i hi
    rw [dc_bs_eq] at h
    by_cases ht : T n = true
    · rw [if_pos ht] at h
      cases e : dc_bs T b n with
      | none => rw [e] at h; exact nomatch h
      | some p =>
        rw [e] at h
        by_cases hb : b n p = true
        · have h' : (if b n p = true then some n else some p) = none := h
          rw [if_pos hb] at h'
          exact nomatch h'
        · have h' : (if b n p = true then some n else some p) = none := h
          rw [if_neg hb] at h'
          exact nomatch h'
    · rw [if_neg ht] at h
      by_cases z : i = n
      · rw [z]
        exact Bool.eq_false_iff.mpr ht
      · exact ih h i (by omega)
/-- of one alone the scan finds that one -/
theorem dc_bs_1 {T : Nat → Bool} {b : Nat → Nat → Bool} {n q : Nat} (hc : dc_cn T n < 2) (hq : q < n) (h : T q = true) : dc_bs T b n = some q := by
  cases e : dc_bs T b n with
  | none => have := dc_bs_0 e q hq; rw [h] at this; exact nomatch this
  | some p =>
    have a := dc_bs_m e
    rw [dc_cn_one hc a.1 hq a.2 h]
theorem dc_bs_n {T : Nat → Bool} {b : Nat → Nat → Bool} {n : Nat} (h : ∀ i, i < n → T i = false) : dc_bs T b n = none := by
  cases e : dc_bs T b n with
  | none => rfl
  | some p => have a := dc_bs_m e; rw [h p a.1] at a; exact nomatch a.2
section
variable (R L s : Nat) (rp f : Nat → Int32) (ok mb : Nat → Bool)
/-- link k is wanted, by the set N -/
def dc_W (N : Nat → Bool) (k : Nat) : Prop := ∃ z, z < R ∧ N z = true ∧ rp z = nI k
def dc_Ph (N : Nat → Bool) (y : Nat) : Prop := y ≠ s ∧ ok y = true ∧ (mb y = true ∨ ∃ j, j < L ∧ f j = nI y ∧ dc_W R rp N j)
def dc_Cl (N : Nat → Bool) : Prop := ∀ y, y < R → dc_Ph R L s rp f ok mb N y → N y = true
def dc_Sd (N : Nat → Bool) : Prop := ∀ C, dc_Cl R L s rp f ok mb C → ∀ y, y < R → N y = true → C y = true
/-- the component's set after i passes -/
def dc_NX (i : Nat) (N : Nat → Bool) : Prop :=
  dc_Sd R L s rp f ok mb N ∧ (∀ y, y < R → y ≠ s → ok y = true → mb y = true → N y = true) ∧ (dc_Cl R L s rp f ok mb N ∨ i ≤ dc_cn N R)
/-- the reference's set in the midst of a pass that began with N0 -/
def dc_NY (N0 : Nat → Bool) (y : Nat) (N : Nat → Bool) (ch : Bool) : Prop :=
  dc_Sd R L s rp f ok mb N ∧ (∀ i, i < R → N0 i = true → N i = true) ∧
  (ch = false → (∀ i, i < R → N i = N0 i) ∧ ∀ i, i < y → i < R → dc_Ph R L s rp f ok mb N0 i → N0 i = true) ∧
  (ch = true → ∃ i, i < R ∧ N0 i = false ∧ N i = true)
end
section
variable {R L s : Nat} {rp f : Nat → Int32} {ok mb : Nat → Bool}
theorem dc_W_mono {N C : Nat → Bool} (h : ∀ y, y < R → N y = true → C y = true) {k : Nat} (w : dc_W R rp N k) : dc_W R rp C k := by
  obtain ⟨z, hz, n, e⟩ := w
  exact ⟨z, hz, h z hz n, e⟩
theorem dc_Ph_mono {N C : Nat → Bool} (h : ∀ y, y < R → N y = true → C y = true) {y : Nat} (w : dc_Ph R L s rp f ok mb N y) : dc_Ph R L s rp f ok mb C y := by
  refine ⟨w.1, w.2.1, ?_⟩
  rcases w.2.2 with a | ⟨j, hj, e, a⟩
  · exact Or.inl a
  · exact Or.inr ⟨j, hj, e, dc_W_mono h a⟩
/-- the two least closed sets are one -/
theorem dc_N_u {N C : Nat → Bool} (n1 : dc_Sd R L s rp f ok mb N) (n2 : dc_Cl R L s rp f ok mb N) (c1 : dc_Sd R L s rp f ok mb C) (c2 : dc_Cl R L s rp f ok mb C) {y : Nat} (hy : y < R) : N y = C y := by
  have a := n1 C c2 y hy
  have b := c1 N n2 y hy
  cases hn : N y with
  | true => rw [a hn]
  | false =>
    cases hc : C y with
    | false => rfl
    | true => rw [b hc] at hn; exact nomatch hn
theorem dc_NX0 {N : Nat → Bool} (h : ∀ y, y < R → (N y = true ↔ (y ≠ s ∧ mb y = true ∧ ok y = true))) : dc_NX R L s rp f ok mb 0 N :=
  ⟨fun C hC y hy n => have a := (h y hy).mp n
    hC y hy ⟨a.1, a.2.2, Or.inl a.2.1⟩, fun y hy a b c => (h y hy).mpr ⟨a, c, b⟩, Or.inr (Nat.zero_le _)⟩
theorem dc_NXs (hf : ∀ j y, j < L → y < R → f j = nI y → ok y = true) {i : Nat} {N N' : Nat → Bool} (h : dc_NX R L s rp f ok mb i N)
    (e : ∀ y, y < R → (N' y = true ↔ (N y = true ∨ (y ≠ s ∧ ∃ j, j < L ∧ f j = nI y ∧ dc_W R rp N j)))) : dc_NX R L s rp f ok mb (i + 1) N' := by
  obtain ⟨h1, h2, h3⟩ := h
  have sub : ∀ y, y < R → N y = true → N' y = true := fun y hy n => (e y hy).mpr (Or.inl n)
  refine ⟨fun C hC y hy n => ?_, fun y hy a b c => sub y hy (h2 y hy a b c), ?_⟩
  · rcases (e y hy).mp n with a | ⟨a, j, hj, ej, w⟩
    · exact h1 C hC y hy a
    · exact hC y hy ⟨a, hf j y hj hy ej, Or.inr ⟨j, hj, ej, dc_W_mono (h1 C hC) w⟩⟩
  · by_cases z : dc_Cl R L s rp f ok mb N
    · left
      have same : ∀ y, y < R → N' y = true → N y = true := by
        intro y hy n
        rcases (e y hy).mp n with a | ⟨a, j, hj, ej, w⟩
        · exact a
        · exact z y hy ⟨a, hf j y hj hy ej, Or.inr ⟨j, hj, ej, w⟩⟩
      intro y hy p
      exact sub y hy (z y hy (dc_Ph_mono same p))
    · right
      rcases h3 with a | a
      · exact absurd a z
      · have : ∃ y, y < R ∧ dc_Ph R L s rp f ok mb N y ∧ N y = false := by
          apply Classical.byContradiction
          intro no
          apply z
          intro y hy p
          cases hn : N y with
          | true => rfl
          | false => exact absurd ⟨y, hy, p, hn⟩ no
        obtain ⟨y, hy, p, hn⟩ := this
        have n' : N' y = true := by
          rcases p.2.2 with b | b
          · have := h2 y hy p.1 p.2.1 b
            rw [hn] at this
            exact nomatch this
          · exact (e y hy).mpr (Or.inr ⟨p.1, b⟩)
        have := dc_cn_lt (j := y) hn n' R sub hy
        omega
theorem dc_NXR {N : Nat → Bool} (h : dc_NX R L s rp f ok mb R N) : dc_Cl R L s rp f ok mb N := by
  rcases h.2.2 with a | a
  · exact a
  · intro y hy _
    cases hn : N y with
    | true => rfl
    | false => have := dc_cn_full hy hn; omega
theorem dc_Sd0 {N : Nat → Bool} (h : ∀ y, y < R → N y = false) : dc_Sd R L s rp f ok mb N :=
  fun _ _ y hy n => by rw [h y hy] at n; exact nomatch n
theorem dc_NY0 {N : Nat → Bool} (h : dc_Sd R L s rp f ok mb N) : dc_NY R L s rp f ok mb N 0 N false :=
  ⟨h, fun _ _ n => n, fun _ => ⟨fun _ _ => rfl, fun _ z => absurd z (Nat.not_lt_zero _)⟩, fun z => nomatch z⟩
/-- a router that the pass leaves as it is -/
theorem dc_NYn {N0 N : Nat → Bool} {y : Nat} {ch : Bool} (h : dc_NY R L s rp f ok mb N0 y N ch) (no : dc_Ph R L s rp f ok mb N y → N y = true) : dc_NY R L s rp f ok mb N0 (y + 1) N ch := by
  obtain ⟨h1, h2, h3, h4⟩ := h
  refine ⟨h1, h2, fun z => ⟨(h3 z).1, fun i hi hR p => ?_⟩, h4⟩
  by_cases e : i = y
  · subst e
    have same := (h3 z).1
    rw [← same i hR]
    exact no (dc_Ph_mono (fun j hj n => by rw [same j hj]; exact n) p)
  · exact (h3 z).2 i (by omega) hR p
/-- a router that the pass adds -/
theorem dc_NYa {N0 N N' : Nat → Bool} {y : Nat} {ch : Bool} (h : dc_NY R L s rp f ok mb N0 y N ch) (hy : y < R) (p : dc_Ph R L s rp f ok mb N y) (n : N y = false)
    (e : ∀ i, i < R → N' i = (if i = y then true else N i)) : dc_NY R L s rp f ok mb N0 (y + 1) N' true := by
  obtain ⟨h1, h2, h3, h4⟩ := h
  have sub : ∀ i, i < R → N i = true → N' i = true := by
    intro i hi t
    rw [e i hi]
    split
    · rfl
    · exact t
  refine ⟨fun C hC i hi t => ?_, fun i hi t => sub i hi (h2 i hi t), fun z => (nomatch z), fun _ => ⟨y, hy, ?_, by rw [e y hy, if_pos rfl]⟩⟩
  · rw [e i hi] at t
    by_cases z : i = y
    · subst z
      exact hC i hi (dc_Ph_mono (h1 C hC) p)
    · rw [if_neg z] at t
      exact h1 C hC i hi t
  · cases hn : N0 y with
    | false => rfl
    | true => rw [h2 y hy hn] at n; exact nomatch n
/-- a pass that changed nothing: the set is closed -/
theorem dc_NYf {N0 N : Nat → Bool} (h : dc_NY R L s rp f ok mb N0 R N false) : dc_Cl R L s rp f ok mb N := by
  have a := h.2.2.1 rfl
  intro y hy p
  rw [a.1 y hy]
  exact a.2 y hy hy (dc_Ph_mono (fun j hj n => by rw [← a.1 j hj]; exact n) p)
/-- a pass that changed something: the set has grown -/
theorem dc_NYt {N0 N : Nat → Bool} (h : dc_NY R L s rp f ok mb N0 R N true) : dc_cn N0 R < dc_cn N R := by
  obtain ⟨i, hi, a, b⟩ := h.2.2.2 rfl
  exact dc_cn_lt (j := i) a b R h.2.1 hi
end
/-! the scan's steps -/
theorem dc_bs_s0 {T : Nat → Bool} {b : Nat → Nat → Bool} {n : Nat} (h : ¬ T n = true) : dc_bs T b (n + 1) = dc_bs T b n := by
  rw [dc_bs_eq]
  exact if_neg h
theorem dc_bs_s1 {T : Nat → Bool} {b : Nat → Nat → Bool} {n : Nat} (h : T n = true) (e : dc_bs T b n = none) : dc_bs T b (n + 1) = some n := by
  rw [dc_bs_eq]
  rw [if_pos h, e]
theorem dc_bs_s2 {T : Nat → Bool} {b : Nat → Nat → Bool} {n q : Nat} (h : T n = true) (e : dc_bs T b n = some q) (hb : b n q = true) : dc_bs T b (n + 1) = some n := by
  rw [dc_bs_eq]
  rw [if_pos h, e]
  exact if_pos hb
theorem dc_bs_s3 {T : Nat → Bool} {b : Nat → Nat → Bool} {n q : Nat} (h : T n = true) (e : dc_bs T b n = some q) (hb : ¬ b n q = true) : dc_bs T b (n + 1) = some q := by
  rw [dc_bs_eq]
  rw [if_pos h, e]
  exact if_neg hb
/-- who wins: x against an earlier q -/
def dc_be (pf : Nat → Int32) (D : Nat → Nat) (x q : Nat) : Bool := decide (pf x < pf q ∨ (pf x = pf q ∧ D x ≤ D q))
/-- wanted, as a truth value -/
def dc_wb (R : Nat) (rp : Nat → Int32) (N : Nat → Bool) (k : Nat) : Bool := decide (0 < dc_cn (fun z => N z && decide (rp z = nI k)) R)
theorem dc_wb_1 {R : Nat} {rp : Nat → Int32} {N : Nat → Bool} {k : Nat} : dc_wb R rp N k = true ↔ dc_W R rp N k := by
  constructor
  · intro h
    obtain ⟨z, hz, e⟩ := dc_cn_some (of_decide_eq_true h)
    have e' : (N z && decide (rp z = nI k)) = true := e
    rw [Bool.and_eq_true] at e'
    exact ⟨z, hz, e'.1, of_decide_eq_true e'.2⟩
  · intro ⟨z, hz, n, e⟩
    refine decide_eq_true (dc_cn_pos hz ?_)
    show (N z && decide (rp z = nI k)) = true
    rw [n, decide_eq_true e] <;> rfl
/-- the record's source row of the prune timers after the links below i -/
def dc_pr (R : Nat) (rp : Nat → Int32) (T : Nat → Nat → Bool) (N : Nat → Bool) (h : Int32) (s : Nat) (P : Nat → Nat → Int32) (i : Nat) : Nat → Nat → Int32 :=
  fun s' k => if s' = s ∧ k < i ∧ 0 < dc_cn (T k) R ∧ dc_wb R rp N k = false then h else P s' k
/-- the forwarders after the links below i -/
def dc_fo (R : Nat) (T : Nat → Nat → Bool) (b : Nat → Nat → Bool) (s : Nat) (F : Nat → Nat → Int32) (i : Nat) : Nat → Nat → Int32 :=
  fun s' k => if s' = s ∧ k < i ∧ 2 ≤ dc_cn (T k) R then dc_oI (dc_bs (T k) b R) else F s' k
end
section
/-! sets of routers as bits of an int: x holds the set p of routers below R (over the rows to paste: bt, b_ext, b_or, b_and, b_xor, b_big, b_m1, b_0, s_l, b_shl, b_sshr) -/
def dc_ms (R : Nat) (x : Int32) (p : Nat → Bool) : Prop := ∀ i, i < 32 → bt x i = (decide (i < R) && p i)
theorem dc_and1 (y : Int32) : y &&& 1 = if bt y 0 = true then 1 else 0 := by
  apply Int32.toBitVec_inj.mp
  rw [Int32.toBitVec_and]
  show y.toBitVec &&& 1#32 = _
  rw [BitVec.and_one_eq_setWidth_ofBool_getLsbD]
  unfold bt
  cases y.toBitVec.getLsbD 0 <;> rfl
theorem dc_bit {x : Int32} {r : Nat} (hr : r < 32) : (x >>> (nI r &&& 31)) &&& 1 = 1 ↔ bt x r = true := by
  rw [dc_and1, b_sshr r hr x (by omega), Nat.add_zero, if_pos hr]
  cases bt x r <;> decide
theorem dc_1sh : ∀ r, r < 32 → ∀ i, i < 32 → bt ((1 : Int32) <<< (nI r &&& 31)) i = decide (i = r) := by decide +kernel
theorem dc_ms_bit {R : Nat} {x : Int32} {p : Nat → Bool} (h : dc_ms R x p) {r : Nat} (hr : r < R) (hR : R ≤ 12) : (x >>> (nI r &&& 31)) &&& 1 = 1 ↔ p r = true := by
  rw [dc_bit (by omega), h r (by omega), decide_eq_true hr, Bool.true_and]
theorem dc_ms_or {R : Nat} {x : Int32} {p : Nat → Bool} (h : dc_ms R x p) {r : Nat} (hr : r < R) (hR : R ≤ 12) : dc_ms R (x ||| ((1 : Int32) <<< (nI r &&& 31))) (fun i => if i = r then true else p i) := by
  intro i hi
  rw [b_or, h i hi, dc_1sh r (by omega) i hi]
  by_cases z : i = r
  · subst z; simp [hr]
  · simp [z]
theorem dc_ms_rm {R : Nat} {x : Int32} {p : Nat → Bool} (h : dc_ms R x p) {r : Nat} (hr : r < R) (hR : R ≤ 12) : dc_ms R (x &&& (((1 : Int32) <<< (nI r &&& 31)) ^^^ (-1))) (fun i => if i = r then false else p i) := by
  intro i hi
  rw [b_and, b_xor, b_m1 i hi, h i hi, dc_1sh r (by omega) i hi]
  by_cases z : i = r
  · subst z; simp
  · simp [z]
theorem dc_ms_mn {R : Nat} {x y : Int32} {p q : Nat → Bool} (h : dc_ms R x p) (g : dc_ms R y q) : dc_ms R (x &&& (y ^^^ (-1))) (fun i => p i && !(q i)) := by
  intro i hi
  rw [b_and, b_xor, b_m1 i hi, h i hi, g i hi]
  show ((decide (i < R) && p i) && ((decide (i < R) && q i) ^^ true)) = (decide (i < R) && (p i && !(q i)))
  cases decide (i < R) <;> cases p i <;> cases q i <;> rfl
theorem dc_ms_0 (R : Nat) : dc_ms R 0 (fun _ => false) := by
  intro i _
  rw [b_0, Bool.and_false]
theorem dc_ms_ext {R : Nat} {x : Int32} {p q : Nat → Bool} (h : dc_ms R x p) (e : ∀ i, i < R → p i = q i) : dc_ms R x q := by
  intro i hi
  rw [h i hi]
  by_cases z : i < R
  · rw [e i z]
  · simp [z]
theorem dc_ms_eq {R : Nat} {x y : Int32} {p : Nat → Bool} (h : dc_ms R x p) (g : dc_ms R y p) : x = y := b_ext (fun i hi => by rw [h i hi, g i hi])
theorem dc_ms_z {R : Nat} {x : Int32} {p : Nat → Bool} (h : dc_ms R x p) (hR : R ≤ 12) : x = 0 ↔ ∀ i, i < R → p i = false := by
  constructor
  · intro e i hi
    have a := h i (by omega)
    rw [e, b_0, decide_eq_true hi, Bool.true_and] at a
    exact a.symm
  · intro e
    exact dc_ms_eq (dc_ms_ext h e) (dc_ms_0 R)
/-- the int as a natural number below 4096 -/
theorem dc_ms_nat {R : Nat} {x : Int32} {p : Nat → Bool} (h : dc_ms R x p) (hR : R ≤ 12) : ∃ m, m < 2 ^ R ∧ x = nI m ∧ ∀ i, i < R → m.testBit i = p i := by
  refine ⟨x.toBitVec.toNat, ?_, ?_, fun i hi => ?_⟩
  · apply Nat.lt_pow_two_of_testBit
    intro i hi
    show bt x i = false
    by_cases z : i < 32
    · rw [h i z, decide_eq_false (by omega), Bool.false_and]
    · exact b_big (by omega)
  · apply Int32.toBitVec_inj.mp
    show x.toBitVec = BitVec.ofNat 32 x.toBitVec.toNat
    simp
  · show bt x i = p i
    rw [h i (by omega), decide_eq_true hi, Bool.true_and]
theorem dc_two3 : ∀ a, a < 64 → ∀ b, b < 64 → ((nI (a * 64 + b) &&& (nI (a * 64 + b) - 1) = 0) ↔ dc_cn (fun i => (a * 64 + b).testBit i) 12 < 2) := by decide +kernel
theorem dc_two4 (m : Nat) (h : m < 4096) : (nI m &&& (nI m - 1) = 0) ↔ dc_cn (fun i => m.testBit i) 12 < 2 := by
  have a := dc_two3 (m / 64) (by omega) (m % 64) (by omega)
  rw [show m / 64 * 64 + m % 64 = m by omega] at a
  exact a
theorem dc_ms_two {R : Nat} {x : Int32} {p : Nat → Bool} (h : dc_ms R x p) (hR : R ≤ 12) : x &&& (x - 1) = 0 ↔ dc_cn p R < 2 := by
  obtain ⟨m, hm, rfl, e⟩ := dc_ms_nat h hR
  have h12 : m < 4096 := Nat.lt_of_lt_of_le hm (Nat.pow_le_pow_right (by decide) hR)
  have hc : ∀ i, (fun i => m.testBit i) i = true → i < R := by
    intro i t
    by_cases z : i < R
    · exact z
    · have w : m.testBit i = false := Nat.testBit_lt_two_pow (Nat.lt_of_lt_of_le hm (Nat.pow_le_pow_right (by decide) (by omega)))
      have t' : m.testBit i = true := t
      rw [w] at t'
      exact nomatch t'
  have c1 := dc_cn_cut hc 12 hR
  have c2 : dc_cn (fun i => m.testBit i) R = dc_cn p R := dc_cn_ext e
  rw [dc_two4 m h12, c1, c2]
/-- the sum of the ones shifted, cell by cell -/
theorem dc_sum1 {m r : Nat} (hr : r < 12) (h : m.testBit r = true) : nI (m % 2 ^ r) + ((1 : Int32) <<< (nI r &&& 31)) = nI (m % 2 ^ (r + 1)) := by
  have e : (1 : Int32) <<< (nI r &&& 31) = nI (2 ^ r) := by
    have := (by decide +kernel : ∀ r, r < 12 → (1 : Int32) <<< (nI r &&& 31) = nI (2 ^ r))
    exact this r hr
  rw [e, nI_add, Nat.mod_pow_succ]
  rw [Nat.testBit_eq_decide_div_mod_eq] at h
  rw [of_decide_eq_true h, Nat.mul_one]
theorem dc_sum0 {m r : Nat} (h : m.testBit r = false) : nI (m % 2 ^ r) = nI (m % 2 ^ (r + 1)) := by
  rw [Nat.mod_pow_succ]
  rw [Nat.testBit_eq_decide_div_mod_eq] at h
  have : m / 2 ^ r % 2 = 0 := by
    have a := of_decide_eq_false h
    have b := Nat.mod_lt (m / 2 ^ r) (show 2 > 0 by decide)
    generalize m / 2 ^ r % 2 = t at a b
    omega
  rw [this, Nat.mul_zero, Nat.add_zero]
end
section
/-! places in the rows, bounds, the topology in both states -/
theorem dc_i12 (k i : Nat) : nI k * 12 + nI i = nI (k * 12 + i) := by
  rw [show (12 : Int32) = nI 12 from rfl, pk_mul, nI_add]
theorem dc_i16 (k i : Nat) : nI k * 16 + nI i = nI (k * 16 + i) := by
  rw [show (16 : Int32) = nI 16 from rfl, pk_mul, nI_add]
theorem dc_v12 (k i : Nat) {N : Nat} (h : k * 12 + i < N) (hN : N < 2 ^ 31) : vp_in (nI k * 12 + nI i) N := by
  rw [dc_i12]; exact vp_in_nI h hN
theorem dc_c12 (k i : Nat) (h : k * 12 + i < 2 ^ 31) : (nI k * 12 + nI i).toNatClampNeg = k * 12 + i := by
  rw [dc_i12]; exact nI_clamp h
theorem dc_v16 (k i : Nat) {N : Nat} (h : k * 16 + i < N) (hN : N < 2 ^ 31) : vp_in (nI k * 16 + nI i) N := by
  rw [dc_i16]; exact vp_in_nI h hN
theorem dc_c16 (k i : Nat) (h : k * 16 + i < 2 ^ 31) : (nI k * 16 + nI i).toNatClampNeg = k * 16 + i := by
  rw [dc_i16]; exact nI_clamp h
theorem dc_cl (i : Nat) (h : i < 2 ^ 31) : (nI i).toNatClampNeg = i := nI_clamp h
/-- a loop's head: at the end, within -/
theorem dc_end {n : Nat} (h : n < 2 ^ 31) : nI n ≤ nI n := nI_le (Nat.le_refl n) h
theorem dc_in {i n : Nat} (h : i < n) (hn : n < 2 ^ 31) : ¬ nI n ≤ nI i := nI_ge h hn
/-- the bounds of a state -/
def dc_B (R L : Nat) (c : Nat → Nat) : Prop := 2 ≤ R ∧ R ≤ 12 ∧ 1 ≤ L ∧ L ≤ 16 ∧ (∀ k, k < L → 1 ≤ c k) ∧ (∀ k, k < L → c k ≤ 15)
/-- links and costs as the component has them -/
def dc_TX (R L : Nat) (A : Nat → Nat → Bool) (c : Nat → Nat) (xas xlc : Nat → Int32) : Prop :=
  (∀ k, k < L → xlc k = nI (c k)) ∧ (∀ k, k < L → dc_ms R (xas k) (A k))
theorem dc_bf {b : Bool} (h : ¬ b = false) : b = true := by
  cases b
  · exact absurd rfl h
  · rfl
theorem dc_bt {b : Bool} (h : ¬ b = true) : b = false := Bool.eq_false_iff.mpr h
/-- a row filled cell by cell -/
theorem dc_put {f : Nat → Int32} {i : Nat} {x : Int32} (h : ∀ j, j < i → f j = x) : ∀ j, j < i + 1 → upd f i x j = x := by
  intro j hj
  by_cases e : j = i
  · rw [e]; exact pk_us
  · rw [pk_un e]; exact h j (by omega)
end
section
/-! the graft, as a pure walk over the prune timers -/
/-- a table by source and link, as a row of 16 a source -/
def dc_r2 (R L : Nat) (x : Nat → Int32) (P : Nat → Nat → Int32) : Prop := ∀ s k, s < R → k < L → x (s * 16 + k) = P s k
def dc_p2 (P : Nat → Nat → Int32) (s k : Nat) (v : Int32) : Nat → Nat → Int32 := fun s' k' => if s' = s ∧ k' = k then v else P s' k'
theorem dc_r2_u {R L : Nat} {x : Nat → Int32} {P : Nat → Nat → Int32} (h : dc_r2 R L x P) {s k : Nat} (hL : L ≤ 16) (hk : k < L) (v : Int32) : dc_r2 R L (upd x (s * 16 + k) v) (dc_p2 P s k v) := by
  intro s' k' hs' hk'
  unfold dc_p2
  by_cases e : s' = s ∧ k' = k
  · rw [if_pos e, e.1, e.2]; exact pk_us
  · rw [if_neg e, ← h s' k' hs' hk']
    exact pk_un (fun z => e (by omega))
/-- x: the place of the walk (-1: it has ended) -/
def dc_gr (rp F : Nat → Int32) (U : Nat → Nat → Int32) (s : Nat) : Nat → Int32 → (Nat → Nat → Int32) → (Nat → Nat → Int32)
  | 0, _, P => P
  | n + 1, x, P => if x = -1 ∨ rp x.toNatClampNeg = -1 then P else
      dc_gr rp F U s n (if F (rp x.toNatClampNeg).toNatClampNeg = -1 then U (rp x.toNatClampNeg).toNatClampNeg x.toNatClampNeg else F (rp x.toNatClampNeg).toNatClampNeg) (dc_p2 P s (rp x.toNatClampNeg).toNatClampNeg 0)
section
variable {rp F : Nat → Int32} {U : Nat → Nat → Int32} {s : Nat} {P : Nat → Nat → Int32}
theorem dc_gr_m1 (n : Nat) : dc_gr rp F U s n (-1) P = P := by
  cases n with
  | zero => rfl
  | succ n => exact if_pos (Or.inl rfl)
theorem dc_gr_s {n x : Nat} (hx : x < 2 ^ 31) (h : rp x = -1) : dc_gr rp F U s n (nI x) P = P := by
  cases n with
  | zero => rfl
  | succ n =>
    refine if_pos (Or.inr ?_)
    rw [nI_clamp hx]
    exact h
theorem dc_gr_u {n x k : Nat} (hx : x < 2 ^ 31) (hk : k < 2 ^ 31) (h : rp x = nI k) (e : F k = -1) : dc_gr rp F U s (n + 1) (nI x) P = dc_gr rp F U s n (U k x) (dc_p2 P s k 0) := by
  have z : ¬ (nI x = -1 ∨ rp (nI x).toNatClampNeg = -1) := by
    rw [nI_clamp hx, h]
    exact fun w => w.elim (dc_nm1 hx) (dc_nm1 hk)
  refine (if_neg z).trans ?_
  rw [nI_clamp hx, h, nI_clamp hk, if_pos e]
theorem dc_gr_f {n x k : Nat} (hx : x < 2 ^ 31) (hk : k < 2 ^ 31) (h : rp x = nI k) (e : ¬ F k = -1) : dc_gr rp F U s (n + 1) (nI x) P = dc_gr rp F U s n (F k) (dc_p2 P s k 0) := by
  have z : ¬ (nI x = -1 ∨ rp (nI x).toNatClampNeg = -1) := by
    rw [nI_clamp hx, h]
    exact fun w => w.elim (dc_nm1 hx) (dc_nm1 hk)
  refine (if_neg z).trans ?_
  rw [nI_clamp hx, h, nI_clamp hk, if_neg e]
end
/-- a forwarder's cell: none, or a router -/
def dc_fw (R L : Nat) (F : Nat → Nat → Int32) : Prop := ∀ s k, s < R → k < L → F s k = -1 ∨ ∃ q, q < R ∧ F s k = nI q
/-- all sources' distances and reverse-path links are those of the topology -/
def dc_DR (R L : Nat) (A : Nat → Nat → Bool) (c : Nat → Nat) (D : Nat → Nat → Nat) (rp : Nat → Nat → Int32) : Prop := ∀ s, s < R → dc_G R L A c s (D s) ∧ ∀ r, r < R → dc_isR R L A c (D s) r (rp s r)
/-- the grafts of router r toward all sources -/
def dc_jn (R : Nat) (A : Nat → Nat → Bool) (c : Nat → Nat) (D : Nat → Nat → Nat) (rp F : Nat → Nat → Int32) (r : Nat) (P : Nat → Nat → Int32) (n : Nat) : Nat → Nat → Int32 :=
  dc_it (fun s P => dc_gr (rp s) (F s) (fun k x => dc_U R A c (D s) k x) s R (nI r) P) P n
theorem dc_isR_c {R L : Nat} {A : Nat → Nat → Bool} {c : Nat → Nat} {D : Nat → Nat} {r : Nat} {v : Int32} (h : dc_isR R L A c D r v) : v = -1 ∨ ∃ k, k < L ∧ v = nI k ∧ A k r = true := by
  rcases h with ⟨e, _⟩ | ⟨k, hk, e, hp, _⟩
  · exact Or.inl e
  · exact Or.inr ⟨k, hk, e, hp.1⟩
/-! the reference's graft and join -/
section
variable {R L H : Nat} {A : Nat → Nat → Bool} {c : Nat → Nat}
end
end
section
/-! the reference's flood -/
theorem dc_nar1 : vp_nar .boolean 1 = 1 := by decide +kernel
theorem dc_nar0 : vp_nar .boolean 0 = 0 := by decide +kernel
/-- x may transmit on k: of the topology, the reverse-path links, the prunes and forwarders of one source -/
def dc_can (R : Nat) (A : Nat → Nat → Bool) (rp P F : Nat → Int32) (x k : Nat) : Bool :=
  decide (2 ≤ dc_cn (A k) R ∧ A k x = true ∧ ¬ rp x = nI k ∧ P k = 0 ∧ (F k = -1 ∨ F k = nI x))
section
variable {R L H : Nat} {A : Nat → Nat → Bool} {c : Nat → Nat}
end
end
section
/-! the reference's election and the needed routers -/
theorem dc_E_le {R L : Nat} {A : Nat → Nat → Bool} {c : Nat → Nat} {s : Nat} {D : Nat → Nat} (h : dc_G R L A c s D) (c1 : ∀ k, k < L → 1 ≤ c k) (c15 : ∀ k, k < L → c k ≤ 15) (hR : R ≤ 12) {x q : Nat} (hx : x < R) (hq : q < R) : dc_E D 1000000 q < dc_E D 1000000 x ↔ ¬ D x ≤ D q := by
  have a := h.2.1 x hx
  have b := h.2.1 q hq
  by_cases y : D x < 1000
  · have a' := dc_G165 h c1 c15 hR hx y
    rw [dc_E_lt y]
    by_cases z : D q < 1000
    · rw [dc_E_lt z]; omega
    · rw [dc_E_ge z]; omega
  · rw [dc_E_ge y]
    by_cases z : D q < 1000
    · have b' := dc_G165 h c1 c15 hR hq z
      rw [dc_E_lt z]; omega
    · rw [dc_E_ge z]; omega
theorem dc_E_m {R L : Nat} {A : Nat → Nat → Bool} {c : Nat → Nat} {s : Nat} {D : Nat → Nat} (h : dc_G R L A c s D) {x : Nat} (hx : x < R) : dc_E D 1000000 x ≤ 1000000 := by
  have a := h.2.1 x hx
  by_cases y : D x < 1000
  · rw [dc_E_lt y]; omega
  · rw [dc_E_ge y] <;> exact Nat.le_refl _
section
variable {R L H : Nat} {A : Nat → Nat → Bool} {c : Nat → Nat}
end
end
section
/-! the reference's send, whole -/
section
variable {R L H : Nat} {A : Nat → Nat → Bool} {c : Nat → Nat}
/-- what a send leaves, said of pure things alone; N: the needed routers -/
def dc_sz (R L : Nat) (A : Nat → Nat → Bool) (rp P F : Nat → Nat → Int32) (s : Nat) : (Nat → Nat) × (Nat → Nat) × (Nat → Nat → Bool) :=
  (dc_fl R L (rp s) (dc_can R A (rp s) (P s) (F s)) (dc_f0 s) R).1
def dc_sb (R : Nat) (pf : Nat → Int32) (D : Nat → Nat → Nat) (s : Nat) (t : Nat → Nat → Bool) : Nat → Int32 := fun j => dc_oI (dc_bs (t j) (dc_be pf (D s)) R)
end
end
section
/-! the component's walks over the topology -/
theorem dc_sube {a b d : Nat} (ha : a < 2 ^ 30) (hb : b < 2 ^ 30) (hd : d < 2 ^ 30) : nI a = nI b - nI d ↔ a + d = b := by
  by_cases z : d ≤ b
  · rw [pk_sub z, nI_eq (by omega) (by omega)]; omega
  · constructor
    · intro e
      have n := pk_sneg hd (show b < d by omega)
      rw [← e] at n
      exact absurd n (nI_pos (by omega))
    · intro e; omega
theorem dc_m1s (x : Int32) : x + (-1) = x - 1 := by rw [Int32.sub_eq_add_neg]
/-- the rows of the other sources are as they were -/
def dc_fr (s : Nat) (x x' : Nat → Int32) : Prop := ∀ s' r, s' ≠ s → r < 12 → x' (s' * 12 + r) = x (s' * 12 + r)
theorem dc_fr_u {s y : Nat} {x x' : Nat → Int32} (h : dc_fr s x x') (hy : y < 12) (v : Int32) : dc_fr s x (upd x' (s * 12 + y) v) := by
  intro s' r hs hr
  rw [pk_un (show s' * 12 + r ≠ s * 12 + y from fun e => hs (by omega))]
  exact h s' r hs hr
theorem dc_fr_t {s : Nat} {x y z : Nat → Int32} (h : dc_fr s x y) (g : dc_fr s y z) : dc_fr s x z := fun s' r hs hr => (g s' r hs hr).trans (h s' r hs hr)
section
variable {R L H : Nat} {A : Nat → Nat → Bool} {c : Nat → Nat} {xas xlc xpf xmb xrd xrp xpt xaw xrc xcc xts xpk : Nat → Int32}
theorem dx_con {post : Int32 → Prop} {x : Int32} {p : Nat → Bool} {r : Nat} (M : dc_ms R x p) (hr : r < R) (hR : R ≤ 12) (h1 : p r = true → post 1) (h0 : p r = false → post 0) : wpX_contains post () x (nI r) := by
  by_cases z : p r = true
  · exact br_t ((dc_ms_bit M hr hR).mpr z) (h1 z)
  · exact br_f (fun e => z ((dc_ms_bit M hr hR).mp e)) (h0 (dc_bt z))
theorem dx_two {post : Int32 → Prop} {x : Int32} {p : Nat → Bool} (M : dc_ms R x p) (hR : R ≤ 12) (h1 : 2 ≤ dc_cn p R → post 1) (h0 : dc_cn p R < 2 → post 0) : wpX_hasTwoOrMore post () x := by
  by_cases z : dc_cn p R < 2
  · exact br_t ((dc_ms_two M hR).mpr z) (h0 z)
  · exact br_f (fun e => z ((dc_ms_two M hR).mp e)) (h1 (by omega))
theorem dx_short72 {post : St2 → Prop} {s k m : Nat} {D dn : Nat → Nat} (B : dc_B R L c) (T : dc_TX R L A c xas xlc) (G : dc_G R L A c s D) (hs : s < R) (hk : k < L) (rep : ∀ r, r < R → xrd (s * 12 + r) = nI (dn r)) (P : dc_P R D 1000 dn)
    (m1 : m ≤ 1000) (m2 : ∀ r, r < R → A k r = true → m ≤ dn r) (m3 : m = 1000 ∨ ∃ x, x < R ∧ A k x = true ∧ dn x = m)
    (h : ∀ (rd' : Nat → Int32) (dn' : Nat → Nat), (∀ r, r < R → rd' (s * 12 + r) = nI (dn' r)) → dc_fr s xrd rd' → dc_S R L A c D 1000 k dn dn' → post (nI R, nI L, nI H, xas, xlc, xpf, xmb, rd', xrp, xpt, xaw, xrc, xcc, xts, xpk)) : ∃ n, wX_shortenAcross_72 post (nI s) (nI k) (nI (m + c k)) (nI R) (nI L) (nI H) n 0 xas xlc xpf xmb xrd xrp xpt xaw xrc xcc xts xpk := by
  obtain ⟨_, hR, _, hL, c1, c15⟩ := B
  have hc1 := c1 k hk
  have hc15 := c15 k hk
  refine loop_0 (fun n i rd => wX_shortenAcross_72 post (nI s) (nI k) (nI (m + c k)) (nI R) (nI L) (nI H) n (nI i) xas xlc xpf xmb rd xrp xpt xaw xrc xcc xts xpk)
    (fun i rd => ∃ dn', (∀ r, r < R → rd (s * 12 + r) = nI (dn' r)) ∧ dc_fr s xrd rd ∧ (∀ r, r < R → dc_E D 1000 r ≤ dn' r ∧ dn' r ≤ dn r) ∧ (∀ r, r < i → r < R → A k r = true → dn' r ≤ m + c k))
    R xrd ⟨dn, rep, fun _ _ _ _ => rfl, fun r hr => ⟨(P r hr).1, Nat.le_refl _⟩, fun r z => absurd z (Nat.not_lt_zero r)⟩ ?_ ?_
  · intro n rd ⟨dn', r1, r2, r3, r4⟩
    refine br_t (dc_end (by omega)) (h rd dn' r1 r2 ⟨r3, fun q r e hD hd => ?_⟩)
    have a := r4 r e.2.2.1 e.2.2.1 e.2.2.2.2.2
    have b := m2 q e.2.1 e.2.2.2.2.1
    omega
  · intro n y rd hy ⟨dn', r1, r2, r3, r4⟩ hn
    have Py := r3 y hy
    have PPy := P y hy
    refine br_f (dc_in hy (by omega)) (nm_r (dc_i12 s y) ⟨vp_in_nI (by omega) (by omega), ?_⟩)
    rw [dc_cl k (by omega), dc_cl (s * 12 + y) (by omega)]
    refine dx_con (T.2 k hk) hy hR (fun za => ?_) (fun za => ?_)
    · refine br_f (by decide) ⟨vp_in_nI (by omega) (by omega), ?_⟩
      rw [r1 y hy]
      by_cases zl : dn' y ≤ m + c k
      · refine br_t (nI_le zl (by omega)) (nm_r (nI_1 y) (hn _ ⟨dn', r1, r2, r3, fun r hr hrR ha => ?_⟩))
        by_cases e : r = y
        · rw [e]; exact zl
        · exact r4 r (by omega) hrR ha
      · refine br_f (fun e => zl ((nI_leI (by omega) (by omega)).mp e)) ⟨vp_in_nI (by omega) (by omega), nm_e (nm_r (nI_1 y) (hn _ ⟨dc_pu dn' y (m + c k), fun r hr => ?_, dc_fr_u r2 (by omega) _, fun r hr => ?_, fun r hr hrR ha => ?_⟩))⟩
        · by_cases e : r = y
          · rw [e, dc_pu_s]; exact pk_us
          · rw [dc_pu_n _ _ e, pk_un (show s * 12 + r ≠ s * 12 + y by omega)]; exact r1 r hr
        · by_cases e : r = y
          · rw [e, dc_pu_s]
            refine ⟨?_, by omega⟩
            rcases m3 with z | ⟨x, hx, ax, ex⟩
            · omega
            · have Px := (P x hx).1
              have zD : D x < 1000 := by
                by_cases q : D x < 1000
                · exact q
                · rw [dc_E_ge q] at Px; omega
              rw [dc_E_lt zD] at Px
              by_cases w : x = y
              · rw [← w, dc_E_lt zD]; omega
              · have g3 := G.2.2.2 k x y ⟨hk, hx, hy, w, ax, za⟩ zD
                rw [dc_E_lt (r := y) (show D y < 1000 by omega)]
                omega
          · rw [dc_pu_n _ _ e]; exact r3 r hr
        · by_cases e : r = y
          · rw [e, dc_pu_s] <;> exact Nat.le_refl _
          · rw [dc_pu_n _ _ e]; exact r4 r (by omega) hrR ha
    · refine br_t rfl (nm_r (nI_1 y) (hn _ ⟨dn', r1, r2, r3, fun r hr hrR ha => ?_⟩))
      by_cases e : r = y
      · rw [e, za] at ha; exact nomatch ha
      · exact r4 r (by omega) hrR ha
theorem dx_short {post : St2 → Prop} {s k : Nat} {D dn : Nat → Nat} (B : dc_B R L c) (T : dc_TX R L A c xas xlc) (G : dc_G R L A c s D) (hs : s < R) (hk : k < L) (rep : ∀ r, r < R → xrd (s * 12 + r) = nI (dn r)) (P : dc_P R D 1000 dn)
    (h : ∀ (rd' : Nat → Int32) (dn' : Nat → Nat), (∀ r, r < R → rd' (s * 12 + r) = nI (dn' r)) → dc_fr s xrd rd' → dc_S R L A c D 1000 k dn dn' → post (nI R, nI L, nI H, xas, xlc, xpf, xmb, rd', xrp, xpt, xaw, xrc, xcc, xts, xpk)) : wpX_shortenAcross post (nI R, nI L, nI H, xas, xlc, xpf, xmb, xrd, xrp, xpt, xaw, xrc, xcc, xts, xpk) (nI s) (nI k) := by
  have B' := B
  obtain ⟨_, hR, _, hL, c1, c15⟩ := B'
  refine loop_0 (fun n i v => wX_shortenAcross_7 post (nI s) (nI k) (nI R) (nI L) (nI H) xas xlc xpf xmb xrd xrp xpt xaw xrc xcc xts xpk n v (nI i))
    (fun i v => ∃ m, v = nI m ∧ m ≤ 1000 ∧ (∀ r, r < i → r < R → A k r = true → m ≤ dn r) ∧ (m = 1000 ∨ ∃ x, x < R ∧ A k x = true ∧ dn x = m))
    R 1000 ⟨1000, rfl, Nat.le_refl _, fun r z => absurd z (Nat.not_lt_zero r), Or.inl rfl⟩ ?_ ?_
  · intro n v ⟨m, e, m1, m2, m3⟩
    subst e
    refine br_t (dc_end (by omega)) ⟨vp_in_nI (by omega) (by omega), ?_⟩
    rw [dc_cl k (by omega), T.1 k hk]
    exact nm_r (nI_add m (c k)) (dx_short72 B T G hs hk rep P m1 (fun r hr => m2 r hr hr) m3 h)
  · intro n y v hy ⟨m, e, m1, m2, m3⟩ hn
    subst e
    have PPy := P y hy
    refine br_f (dc_in hy (by omega)) ⟨dc_v12 s y (by omega) (by omega), ?_⟩
    rw [dc_c12 s y (by omega), rep y hy, dc_cl k (by omega)]
    refine nm_e ⟨vp_in_nI (by omega) (by omega), dx_con (T.2 k hk) hy hR (fun za => ?_) (fun za => ?_)⟩
    · refine br_f (by decide) ?_
      by_cases zl : m ≤ dn y
      · refine br_t (nI_le zl (by omega)) (nm_r (nI_1 y) (hn _ ⟨m, rfl, m1, fun r hr hrR ha => ?_, m3⟩))
        by_cases e : r = y
        · rw [e]; exact zl
        · exact m2 r (by omega) hrR ha
      · refine br_f (fun e => zl ((nI_leI (by omega) (by omega)).mp e)) (nm_r (nI_1 y) (hn _ ⟨dn y, rfl, by omega, fun r hr hrR ha => ?_, Or.inr ⟨y, hy, za, rfl⟩⟩))
        by_cases e : r = y
        · rw [e] <;> exact Nat.le_refl _
        · have := m2 r (by omega) hrR ha
          omega
    · refine br_t rfl (nm_r (nI_1 y) (hn _ ⟨m, rfl, m1, fun r hr hrR ha => ?_, m3⟩))
      by_cases e : r = y
      · rw [e, za] at ha; exact nomatch ha
      · exact m2 r (by omega) hrR ha
theorem dx_dist {post : St2 → Prop} {s : Nat} {D : Nat → Nat} (B : dc_B R L c) (T : dc_TX R L A c xas xlc) (G : dc_G R L A c s D) (hs : s < R)
    (h : ∀ (rd' : Nat → Int32), (∀ r, r < R → rd' (s * 12 + r) = nI (D r)) → dc_fr s xrd rd' → post (nI R, nI L, nI H, xas, xlc, xpf, xmb, rd', xrp, xpt, xaw, xrc, xcc, xts, xpk)) : wpX_findDistances post (nI R, nI L, nI H, xas, xlc, xpf, xmb, xrd, xrp, xpt, xaw, xrc, xcc, xts, xpk) (nI s) := by
  have B' := B
  obtain ⟨hR2, hR, _, hL, c1, c15⟩ := B'
  refine loop_0 (fun n i rd => wX_findDistances_2 post (nI s) (nI R) (nI L) (nI H) n (nI i) xas xlc xpf xmb rd xrp xpt xaw xrc xcc xts xpk) (fun i rd => (∀ r, r < i → rd (s * 12 + r) = nI (if r = s then 0 else 1000)) ∧ dc_fr s xrd rd) R xrd ⟨fun r z => absurd z (Nat.not_lt_zero r), fun _ _ _ _ => rfl⟩ ?_ ?_
  · intro n rd ⟨d0, f0⟩
    refine br_t (dc_end (by omega)) ?_
    refine loop_0 (fun n t rd => wX_findDistances_41 post (nI s) n (nI (t + 1)) (nI R) (nI L) (nI H) xas xlc xpf xmb rd xrp xpt xaw xrc xcc xts xpk) (fun t rd => ∃ dn, (∀ r, r < R → rd (s * 12 + r) = nI (dn r)) ∧ dc_fr s xrd rd ∧ dc_P R D 1000 dn ∧ dc_Q R D t dn) (R - 1) rd
      ⟨fun r => if r = s then 0 else 1000, d0, f0, dc_P0 G (by omega) (fun r _ => rfl), dc_Q0 (I := 1000) G c1 (fun r _ => rfl)⟩ ?_ ?_
    · intro n rd ⟨dn, e1, e2, e3, e4⟩
      exact br_t (nI_le (by omega) (by omega)) (h rd (fun r hr => by rw [e1 r hr, dc_PQ e3 e4 (by omega) hr, dc_E1000 G hr]) e2)
    · intro n t rd ht ⟨dn, e1, e2, e3, e4⟩ hn
      refine br_f (dc_in (show t + 1 < R by omega) (by omega)) ?_
      refine loop_0 (fun m l rd => wX_findDistances_51 post (wX_findDistances_41 post (nI s) n) (nI s) (nI (t + 1)) m (nI l) (nI R) (nI L) (nI H) xas xlc xpf xmb rd xrp xpt xaw xrc xcc xts xpk) (fun l rd => ∃ dn, (∀ r, r < R → rd (s * 12 + r) = nI (dn r)) ∧ dc_fr s xrd rd ∧ dc_M R L A c D 1000 t l dn) L rd ⟨dn, e1, e2, dc_M0 e3 e4⟩ ?_ ?_
      · intro m rd ⟨dn, f1, f2, f3⟩
        exact br_t (dc_end (by omega)) (nm_r (nI_1 (t + 1)) (hn _ ⟨dn, f1, f2, f3.1, dc_ML G f3⟩))
      · intro m l rd hl ⟨dn, f1, f2, f3⟩ hm
        exact br_f (dc_in hl (by omega)) (dx_short B T G hs hl f1 f3.1 (fun rd' dn' g1 g2 g3 => nm_r (nI_1 l) (hm _ ⟨dn', g1, dc_fr_t f2 g2, dc_Ms c1 f3 g3⟩)))
  · intro n i rd hi ⟨d0, f0⟩ hn
    refine br_f (dc_in hi (by omega)) ?_
    by_cases z : i = s
    · refine br_t (by rw [z]) ⟨dc_v12 s i (by omega) (by omega), nm_e (nm_r (nI_1 i) (hn _ ?_))⟩
      rw [dc_c12 s i (by omega)]
      refine ⟨fun r hr => ?_, dc_fr_u f0 (by omega) _⟩
      by_cases e : r = i
      · rw [e, if_pos z]; exact pk_us
      · rw [pk_un (show s * 12 + r ≠ s * 12 + i by omega)]; exact d0 r (by omega)
    · refine br_f (fun e => z ((nI_eq (by omega) (by omega)).mp e)) ⟨dc_v12 s i (by omega) (by omega), nm_e (nm_r (nI_1 i) (hn _ ?_))⟩
      rw [dc_c12 s i (by omega)]
      refine ⟨fun r hr => ?_, dc_fr_u f0 (by omega) _⟩
      by_cases e : r = i
      · rw [e, if_neg z]; exact pk_us
      · rw [pk_un (show s * 12 + r ≠ s * 12 + i by omega)]; exact d0 r (by omega)
end
end
section
/-! the component's upstream routers, reverse paths, routes, reset -/
section
variable {R L H : Nat} {A : Nat → Nat → Bool} {c : Nat → Nat} {xas xlc xpf xmb xrd xrp xpt xaw xrc xcc xts xpk : Nat → Int32}
theorem dx_up {post : Int32 → Prop} {s k r : Nat} {D : Nat → Nat} (B : dc_B R L c) (T : dc_TX R L A c xas xlc) (G : dc_G R L A c s D) (hs : s < R) (hk : k < L) (hr : r < R) (rep : ∀ r, r < R → xrd (s * 12 + r) = nI (D r))
    (h : post (dc_U R A c D k r)) : wpX_upstreamRouter post (nI R, nI L, nI H, xas, xlc, xpf, xmb, xrd, xrp, xpt, xaw, xrc, xcc, xts, xpk) (nI s) (nI r) (nI k) := by
  obtain ⟨hR2, hR, _, hL, c1, c15⟩ := B
  have hc15 := c15 k hk
  have Dr := G.2.1 r hr
  refine ⟨dc_v12 s r (by omega) (by omega), vp_in_nI (by omega) (by omega), ?_⟩
  rw [dc_c12 s r (by omega), dc_cl k (by omega), rep r hr, T.1 k hk]
  refine nm_e (nm_e ⟨R + 1, ?_⟩)
  refine pk_loopD (fun n i (_ : Unit) => wX_upstreamRouter_28 post (nI s) (nI r) (nI k) (nI (D r) - nI (c k)) (nI R) (nI L) (nI H) xas xlc xpf xmb xrd xrp xpt xaw xrc xcc xts xpk n (nI i - 1)) (fun i _ => i ≤ R ∧ dc_U R A c D k r = dc_us (dc_uq A c D k r) i) ?_ ?_ R () ⟨Nat.le_refl R, rfl⟩
  · intro n _ ⟨_, e⟩
    have e' : dc_U R A c D k r = -1 := e
    rw [e'] at h
    exact br_t (by decide) h
  · intro n i _ ⟨hi, e⟩ hn
    show wX_upstreamRouter_28 post (nI s) (nI r) (nI k) (nI (D r) - nI (c k)) (nI R) (nI L) (nI H) xas xlc xpf xmb xrd xrp xpt xaw xrc xcc xts xpk (n + 1) (nI (i + 1) - 1)
    rw [nI_pred]
    have Di := G.2.1 i (show i < R by omega)
    have no : dc_uq A c D k r i = false → wX_upstreamRouter_28 post (nI s) (nI r) (nI k) (nI (D r) - nI (c k)) (nI R) (nI L) (nI H) xas xlc xpf xmb xrd xrp xpt xaw xrc xcc xts xpk n (nI i - 1) := by
      intro z
      refine hn () ⟨by omega, ?_⟩
      exact e.trans (dc_us_0 (show ¬ dc_uq A c D k r i = true by rw [z]; decide))
    refine br_f (nI_pos (by omega)) ⟨dc_v12 s i (by omega) (by omega), ?_⟩
    rw [dc_c12 s i (by omega), rep i (by omega), dc_cl k (by omega)]
    refine nm_e ?_
    by_cases zx : i = r
    · exact br_t (by rw [zx]) (nm_r (dc_m1s _) (no (decide_eq_false (fun w => w.1 zx))))
    · refine br_f (fun e => zx ((nI_eq (by omega) (by omega)).mp e)) ⟨vp_in_nI (by omega) (by omega), dx_con (T.2 k hk) (show i < R by omega) hR (fun za => ?_) (fun za => ?_)⟩
      · refine br_f (by decide) ?_
        by_cases ze : D i + c k = D r
        · refine br_t ((dc_sube (by omega) (by omega) (by omega)).mpr ze) ?_
          rw [e, dc_us_1 (decide_eq_true ⟨zx, za, ze⟩)] at h
          exact h
        · exact br_f (fun e => ze ((dc_sube (by omega) (by omega) (by omega)).mp e)) (nm_r (dc_m1s _) (no (decide_eq_false (fun w => ze w.2.2))))
      · exact br_t rfl (nm_r (dc_m1s _) (no (decide_eq_false (fun w => by rw [za] at w; exact nomatch w.2.1))))
theorem dx_rpf {post : Int32 → Prop} {s r : Nat} {D : Nat → Nat} (B : dc_B R L c) (T : dc_TX R L A c xas xlc) (G : dc_G R L A c s D) (hs : s < R) (hr : r < R) (rep : ∀ r, r < R → xrd (s * 12 + r) = nI (D r))
    (h : ∀ (v : Int32), dc_isR R L A c D r v → post v) : wpX_findReversePath post (nI R, nI L, nI H, xas, xlc, xpf, xmb, xrd, xrp, xpt, xaw, xrc, xcc, xts, xpk) (nI s) (nI r) := by
  have B' := B
  obtain ⟨_, hR, _, hL, c1, c15⟩ := B'
  refine loop_0 (fun n i (_ : Unit) => wX_findReversePath_2 post (nI s) (nI r) (nI R) (nI L) (nI H) xas xlc xpf xmb xrd xrp xpt xaw xrc xcc xts xpk n (nI i)) (fun i _ => ∀ k, k < i → ¬ dc_Hp R A c D k r) L () (fun q z => absurd z (Nat.not_lt_zero q)) ?_ ?_
  · intro n _ hq
    exact br_t (dc_end (by omega)) (h _ (Or.inl ⟨rfl, hq⟩))
  · intro n k _ hk hq hn
    have no : ∀ (z : ¬ dc_Hp R A c D k r) q, q < k + 1 → ¬ dc_Hp R A c D q r := by
      intro z q hq'
      by_cases e : q = k
      · rw [e]; exact z
      · exact hq q (by omega)
    refine br_f (dc_in hk (by omega)) ⟨vp_in_nI (by omega) (by omega), ?_⟩
    rw [dc_cl k (by omega)]
    refine dx_con (T.2 k hk) hr hR (fun za => ?_) (fun za => ?_)
    · refine br_f (by decide) (dx_up B T G hs hk hr rep ?_)
      rcases dc_U_or R A c D k r with ⟨u, z⟩ | ⟨q, hq1, z, u⟩
      · rw [u]
        exact br_t rfl (nm_r (nI_1 k) (hn () (no (fun w => z w.2))))
      · rw [u]
        exact br_f (dc_nm1 (by omega)) (h _ (Or.inr ⟨k, hk, rfl, ⟨za, q, hq1, z⟩, hq⟩))
    · exact br_t rfl (nm_r (nI_1 k) (hn () (no (fun w => by have w1 := w.1; rw [za] at w1; exact nomatch w1))))
theorem dx_routes {post : St2 → Prop} (B : dc_B R L c) (T : dc_TX R L A c xas xlc)
    (h : ∀ (rd' rp' : Nat → Int32) (D : Nat → Nat → Nat), dc_DR R L A c D (fun s r => rp' (s * 12 + r)) → (∀ s r, s < R → r < R → rd' (s * 12 + r) = nI (D s r)) → post (nI R, nI L, nI H, xas, xlc, xpf, xmb, rd', rp', xpt, xaw, xrc, xcc, xts, xpk)) : wpX_findRoutes post (nI R, nI L, nI H, xas, xlc, xpf, xmb, xrd, xrp, xpt, xaw, xrc, xcc, xts, xpk) := by
  have B' := B
  obtain ⟨_, hR, _, hL, c1, c15⟩ := B'
  refine loop_0 (fun n i (w : (Nat → Int32) × (Nat → Int32)) => wX_findRoutes_2 post n (nI i) (nI R) (nI L) (nI H) xas xlc xpf xmb w.1 w.2 xpt xaw xrc xcc xts xpk)
    (fun i w => ∀ s, s < i → ∃ D, dc_G R L A c s D ∧ (∀ r, r < R → w.1 (s * 12 + r) = nI (D r)) ∧ (∀ r, r < R → dc_isR R L A c D r (w.2 (s * 12 + r)))) R (xrd, xrp) (fun s z => absurd z (Nat.not_lt_zero s)) ?_ ?_
  · intro n w hw
    have ch : ∀ s, ∃ D, s < R → dc_G R L A c s D ∧ (∀ r, r < R → w.1 (s * 12 + r) = nI (D r)) ∧ (∀ r, r < R → dc_isR R L A c D r (w.2 (s * 12 + r))) := by
      intro s
      by_cases z : s < R
      · obtain ⟨D, hD⟩ := hw s z
        exact ⟨D, fun _ => hD⟩
      · exact ⟨fun _ => 0, fun y => absurd y z⟩
    obtain ⟨D, hD⟩ := Classical.axiomOfChoice ch
    exact br_t (dc_end (by omega)) (h w.1 w.2 D (fun s hs => ⟨(hD s hs).1, (hD s hs).2.2⟩) (fun s r hs hr => (hD s hs).2.1 r hr))
  · intro n s w hs hw hn
    obtain ⟨D, G⟩ := dc_Gex R L A c s
    refine br_f (dc_in hs (by omega)) (dx_dist B T G hs (fun rd' e1 e2 => ?_))
    refine loop_0 (fun m i rp => wX_findRoutes_17 post (wX_findRoutes_2 post n) (nI s) (nI R) (nI L) (nI H) m (nI i) xas xlc xpf xmb rd' rp xpt xaw xrc xcc xts xpk) (fun i rp => (∀ r, r < i → dc_isR R L A c D r (rp (s * 12 + r))) ∧ dc_fr s w.2 rp) R w.2 ⟨fun r z => absurd z (Nat.not_lt_zero r), fun _ _ _ _ => rfl⟩ ?_ ?_
    · intro m rp ⟨f1, f2⟩
      refine br_t (dc_end (by omega)) (nm_r (nI_1 s) (hn (rd', rp) (fun s' hs' => ?_)))
      by_cases e : s' = s
      · rw [e]; exact ⟨D, G, e1, f1⟩
      · obtain ⟨D', g1, g2, g3⟩ := hw s' (by omega)
        refine ⟨D', g1, fun r hr => ?_, fun r hr => ?_⟩
        · show rd' (s' * 12 + r) = nI (D' r)
          rw [e2 s' r e (by omega)]; exact g2 r hr
        · show dc_isR R L A c D' r (rp (s' * 12 + r))
          rw [f2 s' r e (by omega)]; exact g3 r hr
    · intro m i rp hi ⟨f1, f2⟩ hm
      refine br_f (dc_in hi (by omega)) (dx_rpf B T G hs hi e1 (fun v hv => ⟨dc_v12 s i (by omega) (by omega), nm_e (nm_r (nI_1 i) (hm _ ?_))⟩))
      rw [dc_c12 s i (by omega)]
      refine ⟨fun r hr => ?_, dc_fr_u f2 (by omega) _⟩
      by_cases e : r = i
      · rw [e, pk_us]; exact hv
      · rw [pk_un (show s * 12 + r ≠ s * 12 + i by omega)]; exact f1 r (by omega)
theorem dx_clear {post : St2 → Prop} (B : dc_B R L c) (h : ∀ (rc cc ts : Nat → Int32), (∀ r, r < R → rc r = 0) → (∀ k, k < L → cc k = 0) → (∀ k, k < L → ts k = 0) → post (nI R, nI L, nI H, xas, xlc, xpf, xmb, xrd, xrp, xpt, xaw, rc, cc, ts, xpk)) : wpX_clearPacketRecord post (nI R, nI L, nI H, xas, xlc, xpf, xmb, xrd, xrp, xpt, xaw, xrc, xcc, xts, xpk) := by
  obtain ⟨_, hR, _, hL, c1, c15⟩ := B
  refine loop_0 (fun n i rc => wX_clearPacketRecord_2 post (nI R) (nI L) (nI H) n (nI i) xas xlc xpf xmb xrd xrp xpt xaw rc xcc xts xpk) (fun i rc => ∀ j, j < i → rc j = 0) R xrc (fun j z => absurd z (Nat.not_lt_zero j)) ?_ ?_
  · intro n rc s1
    refine br_t (dc_end (by omega)) ?_
    refine loop_0 (fun n i (w : (Nat → Int32) × (Nat → Int32)) => wX_clearPacketRecord_25 post (nI R) (nI L) (nI H) n (nI i) xas xlc xpf xmb xrd xrp xpt xaw rc w.1 w.2 xpk) (fun i w => (∀ j, j < i → w.1 j = 0) ∧ (∀ j, j < i → w.2 j = 0)) L (xcc, xts) ⟨fun j z => absurd z (Nat.not_lt_zero j), fun j z => absurd z (Nat.not_lt_zero j)⟩ ?_ ?_
    · intro n w ⟨s2, s3⟩
      exact br_t (dc_end (by omega)) (h _ _ _ s1 s2 s3)
    · intro n i w hi ⟨s2, s3⟩ hn
      refine br_f (dc_in hi (by omega)) ⟨vp_in_nI (by omega) (by omega), nm_e ⟨vp_in_nI (by omega) (by omega), nm_e (nm_r (nI_1 i) (hn (_, _) ⟨?_, ?_⟩))⟩⟩
      · rw [dc_cl i (by omega)]; exact dc_put s2
      · rw [dc_cl i (by omega)]; exact dc_put s3
  · intro n i rc hi s1 hn
    exact br_f (dc_in hi (by omega)) ⟨vp_in_nI (by omega) (by omega), nm_e (nm_r (nI_1 i) (hn _ (by rw [dc_cl i (by omega)]; exact dc_put s1)))⟩
theorem dx_reset {post : St2 → Prop} (B : dc_B R L c) (h : ∀ (pt aw rc cc ts : Nat → Int32), dc_r2 R L pt (fun _ _ => 0) → dc_r2 R L aw (fun _ _ => -1) → (∀ r, r < R → rc r = 0) → (∀ k, k < L → cc k = 0) → post (nI R, nI L, nI H, xas, xlc, xpf, xmb, xrd, xrp, pt, aw, rc, cc, ts, xpk)) : wpX_reset post (nI R, nI L, nI H, xas, xlc, xpf, xmb, xrd, xrp, xpt, xaw, xrc, xcc, xts, xpk) := by
  have B' := B
  obtain ⟨_, hR, _, hL, c1, c15⟩ := B'
  refine loop_0 (fun n i (w : (Nat → Int32) × (Nat → Int32)) => wX_reset_2 post (nI R) (nI L) (nI H) n (nI i) xas xlc xpf xmb xrd xrp w.1 w.2 xrc xcc xts xpk) (fun i w => (∀ s k, s < i → k < L → w.1 (s * 16 + k) = 0) ∧ (∀ s k, s < i → k < L → w.2 (s * 16 + k) = -1)) R (xpt, xaw) ⟨fun s k z => absurd z (Nat.not_lt_zero s), fun s k z => absurd z (Nat.not_lt_zero s)⟩ ?_ ?_
  · intro n w ⟨w1, w2⟩
    exact br_t (dc_end (by omega)) (dx_clear B (fun rc cc ts e1 e2 e3 => h w.1 w.2 rc cc ts (fun s k => w1 s k) (fun s k => w2 s k) e1 e2))
  · intro n s w hs ⟨w1, w2⟩ hn
    refine br_f (dc_in hs (by omega)) ?_
    refine loop_0 (fun m i (w : (Nat → Int32) × (Nat → Int32)) => wX_reset_12 post (wX_reset_2 post (nI R) (nI L) (nI H) n) (nI s) (nI R) (nI L) (nI H) m (nI i) xas xlc xpf xmb xrd xrp w.1 w.2 xrc xcc xts xpk)
      (fun i w => (∀ s' k, s' < s ∨ (s' = s ∧ k < i) → k < L → w.1 (s' * 16 + k) = 0) ∧ (∀ s' k, s' < s ∨ (s' = s ∧ k < i) → k < L → w.2 (s' * 16 + k) = -1)) L w ⟨fun s' k z => w1 s' k (by omega), fun s' k z => w2 s' k (by omega)⟩ ?_ ?_
    · intro m w ⟨v1, v2⟩
      exact br_t (dc_end (by omega)) (nm_r (nI_1 s) (hn w ⟨fun s' k z y => v1 s' k (by omega) y, fun s' k z y => v2 s' k (by omega) y⟩))
    · intro m i w hi ⟨v1, v2⟩ hm
      refine br_f (dc_in hi (by omega)) ⟨dc_v16 s i (by omega) (by omega), nm_e ⟨dc_v16 s i (by omega) (by omega), nm_e (nm_r (nI_1 i) (hm (_, _) ⟨?_, ?_⟩))⟩⟩
      · rw [dc_c16 s i (by omega)]
        intro s' k z y
        show upd w.1 (s * 16 + i) 0 (s' * 16 + k) = 0
        by_cases e : s' = s ∧ k = i
        · rw [e.1, e.2]; exact pk_us
        · rw [pk_un (show s' * 16 + k ≠ s * 16 + i from fun q => e (by omega))]; exact v1 s' k (by omega) y
      · rw [dc_c16 s i (by omega)]
        intro s' k z y
        show upd w.2 (s * 16 + i) (-1) (s' * 16 + k) = -1
        by_cases e : s' = s ∧ k = i
        · rw [e.1, e.2]; exact pk_us
        · rw [pk_un (show s' * 16 + k ≠ s * 16 + i from fun q => e (by omega))]; exact v2 s' k (by omega) y
end
end
section
/-! the component's graft and join -/
section
variable {R L H : Nat} {A : Nat → Nat → Bool} {c : Nat → Nat} {xas xlc xpf xmb xrd xrp xpt xaw xrc xcc xts xpk : Nat → Int32}
theorem dx_graft5 {post : St2 → Prop} {s : Nat} {D : Nat → Nat → Nat} {rp F : Nat → Nat → Int32} (B : dc_B R L c) (T : dc_TX R L A c xas xlc) (Q : dc_DR R L A c D rp) (hs : s < R) (rD : ∀ s r, s < R → r < R → xrd (s * 12 + r) = nI (D s r)) (rR : ∀ s r, s < R → r < R → xrp (s * 12 + r) = rp s r) (hF : dc_fw R L F) (rF : dc_r2 R L xaw F) :
    ∀ (m i : Nat) (x : Int32) (xpt : Nat → Int32) (P : Nat → Nat → Int32), i + m = R → (x = -1 ∨ ∃ q, q < R ∧ x = nI q) → dc_r2 R L xpt P →
      (∀ pt', dc_r2 R L pt' (dc_gr (rp s) (F s) (fun k x => dc_U R A c (D s) k x) s m x P) → post (nI R, nI L, nI H, xas, xlc, xpf, xmb, xrd, xrp, pt', xaw, xrc, xcc, xts, xpk)) → wX_graftToward_5 post (nI s) (nI R) (nI L) (nI H) (m + 1) x (nI i) xas xlc xpf xmb xrd xrp xpt xaw xrc xcc xts xpk := by
  have B' := B
  obtain ⟨_, hR, _, hL, c1, c15⟩ := B'
  have G := (Q s hs).1
  have IR := (Q s hs).2
  intro m
  induction m with
  | zero =>
    intro i x xpt P him hx hP h
    have e : i = R := by omega
    subst e
    exact br_t (dc_end (by omega)) (h xpt hP)
  | succ m ih =>
    intro i x xpt P him hx hP h
    refine br_f (dc_in (show i < R by omega) (by omega)) ?_
    rcases hx with e | ⟨x, hx, e⟩
    · subst e
      rw [dc_gr_m1] at h
      exact br_t rfl (h xpt hP)
    · subst e
      refine br_f (dc_nm1 (by omega)) ⟨dc_v12 s x (by omega) (by omega), ?_⟩
      rw [dc_c12 s x (by omega)]
      refine nm_r (rR s x hs hx) ?_
      rcases dc_isR_c (IR x hx) with ev | ⟨k, hk, ev, ak⟩
      · rw [dc_gr_s (by omega) ev] at h
        exact br_t ev (h xpt hP)
      · have P' := dc_r2_u (s := s) hP hL hk 0
        rw [ev]
        refine br_f (dc_nm1 (by omega)) ⟨dc_v16 s k (by omega) (by omega), nm_e ⟨dc_v16 s k (by omega) (by omega), ?_⟩⟩
        rw [dc_c16 s k (by omega)]
        refine nm_r (rF s k hs hk) ?_
        rcases hF s k hs hk with f | ⟨q, hq, f⟩
        · have E : dc_gr (rp s) (F s) (fun k x => dc_U R A c (D s) k x) s (m + 1) (nI x) P = dc_gr (rp s) (F s) (fun k x => dc_U R A c (D s) k x) s m (dc_U R A c (D s) k x) (dc_p2 P s k 0) := dc_gr_u (by omega) (by omega) ev f
          rw [E] at h
          refine br_t f (dx_up B T G hs hk hx (fun r hr => rD s r hs hr) (nm_r (nI_1 i) (ih (i + 1) _ _ _ (by omega) ?_ P' h)))
          rcases dc_U_or R A c (D s) k x with ⟨u, _⟩ | ⟨q, hq, _, u⟩
          · exact Or.inl u
          · exact Or.inr ⟨q, hq, u⟩
        · have f' : ¬ F s k = -1 := by rw [f]; exact dc_nm1 (by omega)
          rw [dc_gr_f (by omega) (by omega) ev f'] at h
          exact br_f f' (nm_r (nI_1 i) (ih (i + 1) _ _ _ (by omega) (Or.inr ⟨q, hq, f⟩) P' h))
theorem dx_join28 {post : Int32 → St2 → Prop} {x : Nat} {D : Nat → Nat → Nat} {rp F P : Nat → Nat → Int32} (B : dc_B R L c) (T : dc_TX R L A c xas xlc) (Q : dc_DR R L A c D rp) (rD : ∀ s r, s < R → r < R → xrd (s * 12 + r) = nI (D s r)) (rR : ∀ s r, s < R → r < R → xrp (s * 12 + r) = rp s r) (hx : x < R) (hF : dc_fw R L F) (rF : dc_r2 R L xaw F) (hP : dc_r2 R L xpt P)
    (h : ∀ (pt' : Nat → Int32), dc_r2 R L pt' (dc_jn R A c D rp F x P R) → post 1 (nI R, nI L, nI H, xas, xlc, xpf, xmb, xrd, xrp, pt', xaw, xrc, xcc, xts, xpk)) : ∃ n, wX_join_28 post (nI x) n 0 (nI R) (nI L) (nI H) xas xlc xpf xmb xrd xrp xpt xaw xrc xcc xts xpk := by
  have hR : R ≤ 12 := B.2.1
  refine loop_0 (fun n i pt => wX_join_28 post (nI x) n (nI i) (nI R) (nI L) (nI H) xas xlc xpf xmb xrd xrp pt xaw xrc xcc xts xpk) (fun i pt => dc_r2 R L pt (dc_jn R A c D rp F x P i)) R xpt hP ?_ ?_
  · intro n pt hw
    exact br_t (dc_end (by omega)) (h pt hw)
  · intro n i pt hi hw hn
    exact br_f (dc_in hi (by omega)) ⟨R + 1, dx_graft5 B T Q hi rD rR hF rF R 0 (nI x) pt _ (by omega) (Or.inr ⟨x, hx, rfl⟩) hw (fun pt' g => nm_r (nI_1 i) (hn pt' g))⟩
end
end
section
/-! the component's flood -/
/-- the record as the component has it -/
def dc_ZX (R L : Nat) (xrc xcc xts : Nat → Int32) (z : (Nat → Nat) × (Nat → Nat) × (Nat → Nat → Bool)) : Prop :=
  (∀ y, y < R → xrc y = nI (z.1 y)) ∧ (∀ k, k < L → xcc k = nI (z.2.1 k)) ∧ (∀ k, k < L → dc_ms R (xts k) (z.2.2 k))
section
variable {R L H : Nat} {A : Nat → Nat → Bool} {c : Nat → Nat} {xas xlc xpf xmb xrd xrp xpt xaw xrc xcc xts xpk : Nat → Int32}
theorem dx_reached {post : Int32 → Prop} {rc : Nat → Nat} (B : dc_B R L c) (rc1 : ∀ y, y < R → xrc y = nI (rc y)) (hb : ∀ y, rc y < 2 ^ 31) (h : ∀ (v : Int32), dc_ms R v (fun y => decide (1 ≤ rc y)) → post v) : wpX_reachedSet post (nI R, nI L, nI H, xas, xlc, xpf, xmb, xrd, xrp, xpt, xaw, xrc, xcc, xts, xpk) := by
  obtain ⟨_, hR, _, hL, c1, c15⟩ := B
  refine loop_0 (fun n i v => wX_reachedSet_4 post (nI R) (nI L) (nI H) xas xlc xpf xmb xrd xrp xpt xaw xrc xcc xts xpk n v (nI i)) (fun i v => dc_ms R v (fun y => decide (y < i ∧ 1 ≤ rc y))) R 0 (dc_ms_ext (dc_ms_0 R) (fun i _ => (decide_eq_false (fun w => absurd w.1 (Nat.not_lt_zero i))).symm)) ?_ ?_
  · intro n v hv
    refine br_t (dc_end (by omega)) (h v (dc_ms_ext hv (fun i hi => ?_)))
    by_cases z : 1 ≤ rc i
    · rw [decide_eq_true (show i < R ∧ 1 ≤ rc i from ⟨hi, z⟩), decide_eq_true z]
    · rw [decide_eq_false (show ¬ (i < R ∧ 1 ≤ rc i) from fun w => z w.2), decide_eq_false z]
  · intro n i v hi hv hn
    refine br_f (dc_in hi (by omega)) ⟨vp_in_nI (by omega) (by omega), ?_⟩
    rw [dc_cl i (by omega), rc1 i hi]
    by_cases z : rc i < 1
    · refine br_t (nI_lt (b := 1) z (by decide)) (nm_r (nI_1 i) (hn _ (dc_ms_ext hv (fun j hj => ?_))))
      by_cases e : j < i ∧ 1 ≤ rc j
      · rw [decide_eq_true e, decide_eq_true (show j < i + 1 ∧ 1 ≤ rc j from ⟨by omega, e.2⟩)]
      · have g : ¬ (j < i + 1 ∧ 1 ≤ rc j) := by
          intro w
          by_cases q : j = i
          · rw [q] at w; omega
          · exact e ⟨by omega, w.2⟩
        rw [decide_eq_false e, decide_eq_false g]
    · refine br_f (nI_nlt (b := 1) (by omega) (hb i)) (nm_e (nm_r (nI_1 i) (hn _ (dc_ms_ext (dc_ms_or hv hi hR) (fun j hj => ?_)))))
      show (if j = i then true else decide (j < i ∧ 1 ≤ rc j)) = decide (j < i + 1 ∧ 1 ≤ rc j)
      by_cases q : j = i
      · rw [if_pos q, decide_eq_true (show j < i + 1 ∧ 1 ≤ rc j by rw [q]; omega)]
      · rw [if_neg q]
        by_cases e : j < i ∧ 1 ≤ rc j
        · rw [decide_eq_true e, decide_eq_true (show j < i + 1 ∧ 1 ≤ rc j from ⟨by omega, e.2⟩)]
        · rw [decide_eq_false e, decide_eq_false (show ¬ (j < i + 1 ∧ 1 ≤ rc j) from fun w => e ⟨by omega, w.2⟩)]
theorem dx_may {post : Int32 → Prop} {s x k : Nat} {rp P F : Nat → Nat → Int32} (B : dc_B R L c) (T : dc_TX R L A c xas xlc) (hs : s < R) (hx : x < R) (hk : k < L) (rR : ∀ s r, s < R → r < R → xrp (s * 12 + r) = rp s r) (rP : dc_r2 R L xpt P) (rF : dc_r2 R L xaw F)
    (h1 : dc_can R A (rp s) (P s) (F s) x k = true → post 1) (h0 : dc_can R A (rp s) (P s) (F s) x k = false → post 0) : wpX_mayTransmit post (nI R, nI L, nI H, xas, xlc, xpf, xmb, xrd, xrp, xpt, xaw, xrc, xcc, xts, xpk) (nI s) (nI x) (nI k) := by
  obtain ⟨_, hR, _, hL, c1, c15⟩ := B
  refine ⟨dc_v16 s k (by omega) (by omega), ?_⟩
  rw [dc_c16 s k (by omega), dc_cl k (by omega)]
  refine nm_r (rF s k hs hk) ⟨vp_in_nI (by omega) (by omega), dx_two (T.2 k hk) hR (fun z2 => ?_) (fun z2 => ?_)⟩
  · refine br_f (by decide) ⟨vp_in_nI (by omega) (by omega), dx_con (T.2 k hk) hx hR (fun za => ?_) (fun za => ?_)⟩
    · refine br_f (by decide) ⟨dc_v12 s x (by omega) (by omega), ?_⟩
      rw [dc_c12 s x (by omega), rR s x hs hx]
      by_cases zr : rp s x = nI k
      · exact br_t zr (h0 (decide_eq_false (fun w => w.2.2.1 zr)))
      · refine br_f zr ⟨dc_v16 s k (by omega) (by omega), ?_⟩
        rw [rP s k hs hk]
        by_cases zp : P s k = 0
        · refine br_t zp ?_
          by_cases zf : F s k = -1
          · exact br_t zf (h1 (decide_eq_true ⟨z2, za, zr, zp, Or.inl zf⟩))
          · refine br_f zf ?_
            by_cases zg : F s k = nI x
            · exact br_t zg (h1 (decide_eq_true ⟨z2, za, zr, zp, Or.inr zg⟩))
            · exact br_f zg (h0 (decide_eq_false (fun w => w.2.2.2.2.elim zf zg)))
        · exact br_f zp (h0 (decide_eq_false (fun w => zp w.2.2.2.1)))
    · exact br_t rfl (h0 (decide_eq_false (fun w => by rw [za] at w; exact nomatch w.2.1)))
  · exact br_t rfl (h0 (decide_eq_false (fun w => by have := w.1; omega)))
theorem dx_deliver {post : St2 → Prop} {s k : Nat} {rp : Nat → Nat → Int32} {rc : Nat → Nat} (B : dc_B R L c) (hs : s < R) (hk : k < L) (rR : ∀ s r, s < R → r < R → xrp (s * 12 + r) = rp s r) (rc1 : ∀ y, y < R → xrc y = nI (rc y))
    (h : ∀ (rc' : Nat → Int32), (∀ y, y < R → rc' y = nI (dc_dl R (rp s) k rc y)) → post (nI R, nI L, nI H, xas, xlc, xpf, xmb, xrd, xrp, xpt, xaw, rc', xcc, xts, xpk)) : wpX_deliver post (nI R, nI L, nI H, xas, xlc, xpf, xmb, xrd, xrp, xpt, xaw, xrc, xcc, xts, xpk) (nI s) (nI k) := by
  obtain ⟨_, hR, _, hL, c1, c15⟩ := B
  refine loop_0 (fun n i r' => wX_deliver_2 post (nI s) (nI k) (nI R) (nI L) (nI H) n (nI i) xas xlc xpf xmb xrd xrp xpt xaw r' xcc xts xpk)
    (fun i r' => ∀ y, y < R → r' y = nI (if y < i ∧ rp s y = nI k then rc y + 1 else rc y)) R xrc (fun y hy => by rw [if_neg (show ¬ (y < 0 ∧ rp s y = nI k) from fun w => absurd w.1 (Nat.not_lt_zero y))]; exact rc1 y hy) ?_ ?_
  · intro n r' hr
    exact br_t (dc_end (by omega)) (h r' hr)
  · intro n i r' hi hr hn
    refine br_f (dc_in hi (by omega)) ⟨dc_v12 s i (by omega) (by omega), ?_⟩
    rw [dc_c12 s i (by omega), rR s i hs hi, dc_cl i (by omega)]
    by_cases zr : rp s i = nI k
    · refine br_t zr ⟨vp_in_nI (by omega) (by omega), vp_in_nI (by omega) (by omega), nm_e (nm_r (nI_1 i) (hn _ ?_))⟩
      intro y hy
      by_cases e : y = i
      · rw [e, if_pos (show i < i + 1 ∧ rp s i = nI k from ⟨by omega, zr⟩), pk_us, hr i hi, if_neg (show ¬ (i < i ∧ rp s i = nI k) from fun t => absurd t.1 (Nat.lt_irrefl i)), nI_1]
      · rw [pk_un e, hr y hy]
        by_cases t : y < i ∧ rp s y = nI k
        · rw [if_pos t, if_pos (show y < i + 1 ∧ rp s y = nI k from ⟨by omega, t.2⟩)]
        · rw [if_neg t, if_neg (show ¬ (y < i + 1 ∧ rp s y = nI k) from fun q => t ⟨by omega, q.2⟩)]
    · refine br_f zr (nm_r (nI_1 i) (hn _ ?_))
      intro y hy
      rw [hr y hy]
      by_cases e : y < i ∧ rp s y = nI k
      · rw [if_pos e, if_pos (show y < i + 1 ∧ rp s y = nI k from ⟨by omega, e.2⟩)]
      · have g : ¬ (y < i + 1 ∧ rp s y = nI k) := by
          intro t
          by_cases q : y = i
          · rw [q] at t; exact zr t.2
          · exact e ⟨by omega, t.2⟩
        rw [if_neg e, if_neg g]
theorem dx_from {post : St2 → Prop} {s x : Nat} {rp P F : Nat → Nat → Int32} {z : (Nat → Nat) × (Nat → Nat) × (Nat → Nat → Bool)} (B : dc_B R L c) (T : dc_TX R L A c xas xlc) (hs : s < R) (hx : x < R) (rR : ∀ s r, s < R → r < R → xrp (s * 12 + r) = rp s r) (rP : dc_r2 R L xpt P) (rF : dc_r2 R L xaw F)
    (Z : dc_ZX R L xrc xcc xts z) (h : ∀ (rc' cc' ts' : Nat → Int32), dc_ZX R L rc' cc' ts' (dc_fx R L (rp s) (dc_can R A (rp s) (P s) (F s)) x z) → post (nI R, nI L, nI H, xas, xlc, xpf, xmb, xrd, xrp, xpt, xaw, rc', cc', ts', xpk)) : wpX_transmitFrom post (nI R, nI L, nI H, xas, xlc, xpf, xmb, xrd, xrp, xpt, xaw, xrc, xcc, xts, xpk) (nI s) (nI x) := by
  have B' := B
  obtain ⟨_, hR, _, hL, c1, c15⟩ := B'
  refine loop_0 (fun n i (w : (Nat → Int32) × (Nat → Int32) × (Nat → Int32)) => wX_transmitFrom_2 post (nI s) (nI x) n (nI i) (nI R) (nI L) (nI H) xas xlc xpf xmb xrd xrp xpt xaw w.1 w.2.1 w.2.2 xpk)
    (fun i w => dc_ZX R L w.1 w.2.1 w.2.2 (dc_it (dc_fk R (rp s) (dc_can R A (rp s) (P s) (F s)) x) z i)) L (xrc, xcc, xts) Z ?_ ?_
  · intro n w hw
    exact br_t (dc_end (by omega)) (h _ _ _ hw)
  · intro n k w hk hw hn
    refine br_f (dc_in hk (by omega)) (dx_may B T hs hx hk rR rP rF (fun zc => ?_) (fun zc => ?_))
    · refine br_f (by decide) ⟨vp_in_nI (by omega) (by omega), vp_in_nI (by omega) (by omega), nm_e ⟨vp_in_nI (by omega) (by omega), vp_in_nI (by omega) (by omega), nm_e ?_⟩⟩
      rw [dc_cl k (by omega)]
      refine dx_deliver B hs hk rR hw.1 (fun rc' e1 => nm_r (nI_1 k) (hn (rc', _, _) ?_))
      show dc_ZX R L rc' (upd w.2.1 k (w.2.1 k + 1)) (upd w.2.2 k (w.2.2 k ||| ((1 : Int32) <<< (nI x &&& 31)))) (dc_fk R (rp s) (dc_can R A (rp s) (P s) (F s)) x k (dc_it (dc_fk R (rp s) (dc_can R A (rp s) (P s) (F s)) x) z k))
      rw [dc_fk_1 zc]
      refine ⟨e1, fun j hj => ?_, fun j hj => ?_⟩
      · show upd w.2.1 k (w.2.1 k + 1) j = nI (if j = k then (dc_it (dc_fk R (rp s) (dc_can R A (rp s) (P s) (F s)) x) z k).2.1 j + 1 else (dc_it (dc_fk R (rp s) (dc_can R A (rp s) (P s) (F s)) x) z k).2.1 j)
        by_cases e : j = k
        · rw [if_pos e, e, pk_us, hw.2.1 k hk, nI_1]
        · rw [if_neg e, pk_un e, hw.2.1 j hj]
      · show dc_ms R (upd w.2.2 k (w.2.2 k ||| ((1 : Int32) <<< (nI x &&& 31))) j) (fun y => if j = k ∧ y = x then true else (dc_it (dc_fk R (rp s) (dc_can R A (rp s) (P s) (F s)) x) z k).2.2 j y)
        by_cases e : j = k
        · rw [e, pk_us]
          refine dc_ms_ext (dc_ms_or (hw.2.2 k hk) hx hR) (fun y _ => ?_)
          by_cases q : y = x
          · rw [if_pos q, if_pos (show k = k ∧ y = x from ⟨rfl, q⟩)]
          · rw [if_neg q, if_neg (show ¬ (k = k ∧ y = x) from fun t => q t.2)]
        · rw [pk_un e]
          refine dc_ms_ext (hw.2.2 j hj) (fun y _ => ?_)
          rw [if_neg (show ¬ (j = k ∧ y = x) from fun t => e t.1)]
    · refine br_t rfl (nm_r (nI_1 k) (hn w ?_))
      show dc_ZX R L w.1 w.2.1 w.2.2 (dc_fk R (rp s) (dc_can R A (rp s) (P s) (F s)) x k _)
      rw [dc_fk_0 (show ¬ dc_can R A (rp s) (P s) (F s) x k = true by rw [zc]; decide)]
      exact hw
theorem dx_flood {post : St2 → Prop} {s : Nat} {rp P F : Nat → Nat → Int32} (B : dc_B R L c) (T : dc_TX R L A c xas xlc) (hs : s < R) (rR : ∀ s r, s < R → r < R → xrp (s * 12 + r) = rp s r) (rP : dc_r2 R L xpt P) (rF : dc_r2 R L xaw F)
    (r0 : ∀ r, r < R → xrc r = 0) (k0 : ∀ k, k < L → xcc k = 0) (t0 : ∀ k, k < L → xts k = 0)
    (h : ∀ (rc' cc' ts' : Nat → Int32), dc_ZX R L rc' cc' ts' (dc_sz R L A rp P F s) → post (nI R, nI L, nI H, xas, xlc, xpf, xmb, xrd, xrp, xpt, xaw, rc', cc', ts', xpk)) : wpX_flood post (nI R, nI L, nI H, xas, xlc, xpf, xmb, xrd, xrp, xpt, xaw, xrc, xcc, xts, xpk) (nI s) := by
  have B' := B
  obtain ⟨_, hR, _, hL, c1, c15⟩ := B'
  have FI := fun n => dc_FIn (R := R) (L := L) (rp := rp s) (can := dc_can R A (rp s) (P s) (F s)) hs n
  have K : ∀ (n : Nat) (w : (Nat → Int32) × (Nat → Int32) × (Nat → Int32)), dc_ZX R L w.1 w.2.1 w.2.2 (dc_fl R L (rp s) (dc_can R A (rp s) (P s) (F s)) (dc_f0 s) n).1 → (∀ y, y < R → (dc_fl R L (rp s) (dc_can R A (rp s) (P s) (F s)) (dc_f0 s) n).2 y = false) →
      post (nI R, nI L, nI H, xas, xlc, xpf, xmb, xrd, xrp, xpt, xaw, w.1, w.2.1, w.2.2, xpk) := by
    intro n w z e
    rw [dc_fl_u hs e] at z
    exact h _ _ _ z
  refine ⟨vp_in_nI (by omega) (by omega), nm_e (nm_e ?_)⟩
  rw [dc_cl s (by omega)]
  refine loop_0 (fun n i (w : Int32 × (Nat → Int32) × (Nat → Int32) × (Nat → Int32)) => wX_flood_13 post (nI s) n w.1 (nI i) (nI R) (nI L) (nI H) xas xlc xpf xmb xrd xrp xpt xaw w.2.1 w.2.2.1 w.2.2.2 xpk)
    (fun i w => dc_ZX R L w.2.1 w.2.2.1 w.2.2.2 (dc_fl R L (rp s) (dc_can R A (rp s) (P s) (F s)) (dc_f0 s) i).1 ∧ dc_ms R w.1 (dc_fl R L (rp s) (dc_can R A (rp s) (P s) (F s)) (dc_f0 s) i).2)
    R ((1 : Int32) <<< (nI s &&& 31), upd xrc s 1, xcc, xts) ⟨⟨fun y hy => ?_, fun k hk => k0 k hk, fun k hk => ?_⟩, ?_⟩ ?_ ?_
  · show upd xrc s 1 y = nI (if y = s then 1 else 0)
    by_cases e : y = s
    · rw [e, pk_us, if_pos rfl] <;> rfl
    · rw [pk_un e, if_neg e, r0 y hy] <;> rfl
  · show dc_ms R (xts k) (fun _ => false)
    rw [t0 k hk]
    exact dc_ms_0 R
  · intro i hi
    show bt ((1 : Int32) <<< (nI s &&& 31)) i = (decide (i < R) && decide (i = s))
    rw [dc_1sh s (by omega) i hi]
    by_cases e : i = s
    · rw [decide_eq_true e, decide_eq_true (show i < R by omega)] <;> rfl
    · rw [decide_eq_false e, Bool.and_false]
  · intro n w ⟨z, f⟩
    exact br_t (dc_end (by omega)) (K R w.2 z (fun y _ => dc_fl_R hs y))
  · intro n i w hi ⟨z, f⟩ hn
    refine br_f (dc_in hi (by omega)) ?_
    by_cases z0 : w.1 = 0
    · exact br_t z0 (K i w.2 z ((dc_ms_z f hR).mp z0))
    · have b1 := dc_FI_b (FI i) hR hL (show i ≤ 13 by omega)
      refine br_f z0 (dx_reached B z.1 (fun y => by have := b1 y; omega) (fun v0 m0 => ?_))
      refine loop_0 (fun m x (w' : (Nat → Int32) × (Nat → Int32) × (Nat → Int32)) => wX_flood_34 post (wX_flood_13 post (nI s) n) (nI s) w.1 (nI i) v0 m (nI x) (nI R) (nI L) (nI H) xas xlc xpf xmb xrd xrp xpt xaw w'.1 w'.2.1 w'.2.2 xpk)
        (fun x w' => dc_ZX R L w'.1 w'.2.1 w'.2.2 (dc_it (dc_rx R L (rp s) (dc_can R A (rp s) (P s) (F s)) (dc_fl R L (rp s) (dc_can R A (rp s) (P s) (F s)) (dc_f0 s) i).2) (dc_fl R L (rp s) (dc_can R A (rp s) (P s) (F s)) (dc_f0 s) i).1 x)) R w.2 z ?_ ?_
      · intro m w' hw
        have b2 := dc_FI_b (FI (i + 1)) hR hL (show i + 1 ≤ 13 by omega)
        refine br_t (dc_end (by omega)) (dx_reached B (rc := (dc_fl R L (rp s) (dc_can R A (rp s) (P s) (F s)) (dc_f0 s) (i + 1)).1.1) hw.1 (fun y => by have := b2 y; omega) (fun v1 m1 => nm_e (nm_r (nI_1 i) (hn (_, w'.1, w'.2.1, w'.2.2) ⟨hw, ?_⟩))))
        refine dc_ms_ext (dc_ms_mn m1 m0) (fun y hy => ?_)
        show (decide (1 ≤ (dc_fl R L (rp s) (dc_can R A (rp s) (P s) (F s)) (dc_f0 s) (i + 1)).1.1 y) && !(decide (1 ≤ (dc_fl R L (rp s) (dc_can R A (rp s) (P s) (F s)) (dc_f0 s) i).1.1 y))) = decide (y < R ∧ (dc_fl R L (rp s) (dc_can R A (rp s) (P s) (F s)) (dc_f0 s) i).1.1 y = 0 ∧ 1 ≤ (dc_fl R L (rp s) (dc_can R A (rp s) (P s) (F s)) (dc_f0 s) (i + 1)).1.1 y)
        generalize (dc_fl R L (rp s) (dc_can R A (rp s) (P s) (F s)) (dc_f0 s) (i + 1)).1.1 y = a
        generalize (dc_fl R L (rp s) (dc_can R A (rp s) (P s) (F s)) (dc_f0 s) i).1.1 y = b
        by_cases q : y < R ∧ b = 0 ∧ 1 ≤ a
        · rw [decide_eq_true q, decide_eq_true q.2.2, decide_eq_false (show ¬ 1 ≤ b by omega)] <;> rfl
        · rw [decide_eq_false q]
          by_cases p : 1 ≤ a
          · rw [decide_eq_true (show 1 ≤ b by omega), Bool.not_true, Bool.and_false]
          · rw [decide_eq_false p, Bool.false_and]
      · intro m x w' hx hw hm
        refine br_f (dc_in hx (by omega)) (dx_con f hx hR (fun zf => ?_) (fun zf => ?_))
        · refine br_f (by decide) (dx_from B T hs hx rR rP rF hw (fun rc' cc' ts' Z' => nm_r (nI_1 x) (hm (rc', cc', ts') ?_)))
          show dc_ZX R L rc' cc' ts' (dc_rx R L (rp s) (dc_can R A (rp s) (P s) (F s)) (dc_fl R L (rp s) (dc_can R A (rp s) (P s) (F s)) (dc_f0 s) i).2 x _)
          rw [dc_rx_1 zf]
          exact Z'
        · refine br_t rfl (nm_r (nI_1 x) (hm w' ?_))
          show dc_ZX R L w'.1 w'.2.1 w'.2.2 (dc_rx R L (rp s) (dc_can R A (rp s) (P s) (F s)) (dc_fl R L (rp s) (dc_can R A (rp s) (P s) (F s)) (dc_f0 s) i).2 x _)
          rw [dc_rx_0 (show ¬ (dc_fl R L (rp s) (dc_can R A (rp s) (P s) (F s)) (dc_f0 s) i).2 x = true by rw [zf]; decide)]
          exact hw
end
end
section
/-! the component's election, needed set, prunes, answer; its send -/
section
variable {R L H : Nat} {A : Nat → Nat → Bool} {c : Nat → Nat} {xas xlc xpf xmb xrd xrp xpt xaw xrc xcc xts xpk : Nat → Int32}
theorem dx_beats {post : Int32 → Prop} {s x q : Nat} {D : Nat → Nat} {pf : Nat → Int32} (B : dc_B R L c) (G : dc_G R L A c s D) (hs : s < R) (hx : x < R) (hq : q < R) (rD : ∀ r, r < R → xrd (s * 12 + r) = nI (D r)) (rpf : ∀ r, r < R → xpf r = pf r)
    (h1 : dc_be pf D x q = true → post 1) (h0 : ¬ dc_be pf D x q = true → post 0) : wpX_beatsLower post (nI R, nI L, nI H, xas, xlc, xpf, xmb, xrd, xrp, xpt, xaw, xrc, xcc, xts, xpk) (nI s) (nI x) (nI q) := by
  obtain ⟨_, hR, _, hL, c1, c15⟩ := B
  have Dx := G.2.1 x hx
  have Dq := G.2.1 q hq
  refine ⟨vp_in_nI (by omega) (by omega), vp_in_nI (by omega) (by omega), ?_⟩
  rw [dc_cl x (by omega), dc_cl q (by omega), rpf x hx, rpf q hq, dc_c12 s x (by omega), dc_c12 s q (by omega), rD x hx, rD q hq]
  by_cases p2 : pf x = pf q
  · refine br_t p2 ⟨dc_v12 s x (by omega) (by omega), nm_e ⟨dc_v12 s q (by omega) (by omega), ?_⟩⟩
    by_cases z : D x ≤ D q
    · exact br_f (nI_nlt z (by omega)) (h1 (decide_eq_true (Or.inr ⟨p2, z⟩)))
    · refine br_t (nI_lt (by omega) (by omega)) (h0 (fun w => ?_))
      rcases of_decide_eq_true w with e | e
      · rw [p2] at e; exact Int32.lt_irrefl e
      · exact z e.2
  · refine br_f p2 ⟨vp_in_nI (by omega) (by omega), vp_in_nI (by omega) (by omega), ?_⟩
    by_cases z : pf q ≤ pf x
    · refine br_t z (h0 (fun w => ?_))
      rcases of_decide_eq_true w with e | e
      · exact Int32.not_lt.mpr z e
      · exact p2 e.1
    · exact br_f z (h1 (decide_eq_true (Or.inl (Int32.not_le.mp z))))
theorem dx_best {post : Int32 → Prop} {s k : Nat} {D : Nat → Nat} {pf : Nat → Int32} {t : Nat → Nat → Bool} (B : dc_B R L c) (G : dc_G R L A c s D) (hs : s < R) (hk : k < L) (rD : ∀ r, r < R → xrd (s * 12 + r) = nI (D r)) (rpf : ∀ r, r < R → xpf r = pf r) (rT : ∀ k, k < L → dc_ms R (xts k) (t k))
    (h : post (dc_oI (dc_bs (t k) (dc_be pf D) R))) : wpX_bestTransmitter post (nI R, nI L, nI H, xas, xlc, xpf, xmb, xrd, xrp, xpt, xaw, xrc, xcc, xts, xpk) (nI s) (nI k) := by
  have B' := B
  obtain ⟨_, hR, _, hL, c1, c15⟩ := B'
  refine loop_0 (fun n i v => wX_bestTransmitter_5 post (nI s) (nI k) (nI R) (nI L) (nI H) xas xlc xpf xmb xrd xrp xpt xaw xrc xcc xts xpk n v (nI i)) (fun i v => v = dc_oI (dc_bs (t k) (dc_be pf D) i)) R (-1) rfl ?_ ?_
  · intro n v hv
    subst hv
    exact br_t (dc_end (by omega)) h
  · intro n i v hi hv hn
    subst hv
    refine br_f (dc_in hi (by omega)) ⟨vp_in_nI (by omega) (by omega), ?_⟩
    rw [dc_cl k (by omega)]
    refine dx_con (rT k hk) hi hR (fun z => ?_) (fun z => ?_)
    · refine br_f (by decide) ?_
      cases e : dc_bs (t k) (dc_be pf D) i with
      | none => exact br_t rfl (nm_r (nI_1 i) (hn _ (congrArg dc_oI (dc_bs_s1 z e)).symm))
      | some q =>
        have hq := (dc_bs_m e).1
        rw [show dc_oI (some q) = nI q from rfl]
        refine br_f (dc_nm1 (by omega)) (dx_beats B G hs hi (show q < R by omega) rD rpf (fun b => ?_) (fun b => ?_))
        · exact br_f (by decide) (nm_r (nI_1 i) (hn _ (congrArg dc_oI (dc_bs_s2 z e b)).symm))
        · exact br_t rfl (nm_r (nI_1 i) (hn _ (congrArg dc_oI (dc_bs_s3 z e b)).symm))
    · exact br_t rfl (nm_r (nI_1 i) (hn _ (congrArg dc_oI (dc_bs_s0 (show ¬ t k i = true by rw [z]; decide))).symm))
theorem dx_elect {post : St2 → Prop} {s : Nat} {D : Nat → Nat} {pf : Nat → Int32} {t : Nat → Nat → Bool} {F : Nat → Nat → Int32} (B : dc_B R L c) (G : dc_G R L A c s D) (hs : s < R) (rD : ∀ r, r < R → xrd (s * 12 + r) = nI (D r)) (rpf : ∀ r, r < R → xpf r = pf r) (rT : ∀ k, k < L → dc_ms R (xts k) (t k)) (rF : dc_r2 R L xaw F)
    (h : ∀ (aw' pk' : Nat → Int32), dc_r2 R L aw' (dc_fo R t (dc_be pf D) s F L) → (∀ j, j < L → pk' j = dc_oI (dc_bs (t j) (dc_be pf D) R)) → post (nI R, nI L, nI H, xas, xlc, xpf, xmb, xrd, xrp, xpt, aw', xrc, xcc, xts, pk')) : wpX_electForwarders post (nI R, nI L, nI H, xas, xlc, xpf, xmb, xrd, xrp, xpt, xaw, xrc, xcc, xts, xpk) (nI s) := by
  have B' := B
  obtain ⟨_, hR, _, hL, c1, c15⟩ := B'
  refine loop_0 (fun n i (w : (Nat → Int32) × (Nat → Int32)) => wX_electForwarders_2 post (nI s) (nI R) (nI L) (nI H) n (nI i) xas xlc xpf xmb xrd xrp xpt w.1 xrc xcc xts w.2)
    (fun i w => dc_r2 R L w.1 (dc_fo R t (dc_be pf D) s F i) ∧ (∀ j, j < i → w.2 j = dc_oI (dc_bs (t j) (dc_be pf D) R))) L (xaw, xpk) ⟨?_, fun j z => absurd z (Nat.not_lt_zero j)⟩ ?_ ?_
  · intro s' k' hs' hk'
    show xaw (s' * 16 + k') = _
    rw [rF s' k' hs' hk']
    unfold dc_fo
    rw [if_neg (show ¬ (s' = s ∧ k' < 0 ∧ 2 ≤ dc_cn (t k') R) from fun w => absurd w.2.1 (Nat.not_lt_zero k'))]
  · intro n w ⟨w1, w2⟩
    exact br_t (dc_end (by omega)) (h _ _ w1 w2)
  · intro n k w hk ⟨w1, w2⟩ hn
    have pk : ∀ j, j < k + 1 → upd w.2 k (dc_oI (dc_bs (t k) (dc_be pf D) R)) j = dc_oI (dc_bs (t j) (dc_be pf D) R) := by
      intro j hj
      by_cases e : j = k
      · rw [e]; exact pk_us
      · rw [pk_un e]; exact w2 j (by omega)
    refine br_f (dc_in hk (by omega)) (dx_best B G hs hk rD rpf rT ⟨vp_in_nI (by omega) (by omega), nm_e ⟨vp_in_nI (by omega) (by omega), ?_⟩⟩)
    rw [dc_cl k (by omega)]
    refine dx_two (rT k hk) hR (fun z2 => ?_) (fun z2 => ?_)
    · refine br_f (by decide) ⟨vp_in_nI (by omega) (by omega), dc_v16 s k (by omega) (by omega), nm_e (nm_r (nI_1 k) (hn (_, _) ⟨?_, pk⟩))⟩
      rw [dc_c16 s k (by omega), pk_us]
      intro s' k' hs' hk'
      show upd w.1 (s * 16 + k) (dc_oI (dc_bs (t k) (dc_be pf D) R)) (s' * 16 + k') = _
      unfold dc_fo
      by_cases e : s' = s ∧ k' = k
      · rw [e.1, e.2, pk_us, if_pos (show s = s ∧ k < k + 1 ∧ 2 ≤ dc_cn (t k) R from ⟨rfl, by omega, z2⟩)]
      · rw [pk_un (show s' * 16 + k' ≠ s * 16 + k from fun w => e (by omega)), w1 s' k' hs' hk']
        unfold dc_fo
        by_cases q : s' = s ∧ k' < k ∧ 2 ≤ dc_cn (t k') R
        · rw [if_pos q, if_pos (show s' = s ∧ k' < k + 1 ∧ 2 ≤ dc_cn (t k') R from ⟨q.1, by have := q.2.1; omega, q.2.2⟩)]
        · rw [if_neg q, if_neg (show ¬ (s' = s ∧ k' < k + 1 ∧ 2 ≤ dc_cn (t k') R) from fun w => q ⟨w.1, by have a1 := w.1; have a2 := w.2.1; omega, w.2.2⟩)]
    · refine br_t rfl (nm_r (nI_1 k) (hn (w.1, _) ⟨?_, pk⟩))
      intro s' k' hs' hk'
      show w.1 (s' * 16 + k') = _
      rw [w1 s' k' hs' hk']
      unfold dc_fo
      by_cases q : s' = s ∧ k' < k ∧ 2 ≤ dc_cn (t k') R
      · rw [if_pos q, if_pos (show s' = s ∧ k' < k + 1 ∧ 2 ≤ dc_cn (t k') R from ⟨q.1, by have := q.2.1; omega, q.2.2⟩)]
      · have g : ¬ (s' = s ∧ k' < k + 1 ∧ 2 ≤ dc_cn (t k') R) := by
          intro w
          by_cases e : k' = k
          · rw [e] at w; have := w.2.2; omega
          · exact q ⟨w.1, by have := w.2.1; omega, w.2.2⟩
        rw [if_neg q, if_neg g]
theorem dx_wanted {post : Int32 → Prop} {s k : Nat} {m : Int32} {rp : Nat → Nat → Int32} {N : Nat → Bool} (B : dc_B R L c) (hs : s < R) (rR : ∀ s r, s < R → r < R → xrp (s * 12 + r) = rp s r) (M : dc_ms R m N)
    (h1 : dc_wb R (rp s) N k = true → post 1) (h0 : dc_wb R (rp s) N k = false → post 0) : wpX_isWanted post (nI R, nI L, nI H, xas, xlc, xpf, xmb, xrd, xrp, xpt, xaw, xrc, xcc, xts, xpk) (nI s) (nI k) m := by
  obtain ⟨_, hR, _, hL, c1, c15⟩ := B
  refine loop_0 (fun n i (_ : Unit) => wX_isWanted_3 post (nI s) (nI k) m (nI R) (nI L) (nI H) xas xlc xpf xmb xrd xrp xpt xaw xrc xcc xts xpk n (nI i)) (fun i _ => ∀ z, z < i → N z = true → ¬ rp s z = nI k) R () (fun q z => absurd z (Nat.not_lt_zero q)) ?_ ?_
  · intro n _ hq
    refine br_t (dc_end (by omega)) (h0 (dc_bt (fun w => ?_)))
    obtain ⟨z, hz, n1, e⟩ := dc_wb_1.mp w
    exact hq z hz n1 e
  · intro n i _ hi hq hn
    have no : ∀ (w : N i = true → ¬ rp s i = nI k) z, z < i + 1 → N z = true → ¬ rp s z = nI k := by
      intro w z hz
      by_cases e : z = i
      · rw [e]; exact w
      · exact hq z (by omega)
    refine br_f (dc_in hi (by omega)) (dx_con M hi hR (fun zn => ?_) (fun zn => ?_))
    · refine br_f (by decide) ⟨dc_v12 s i (by omega) (by omega), ?_⟩
      rw [dc_c12 s i (by omega), rR s i hs hi]
      by_cases zr : rp s i = nI k
      · exact br_t zr (h1 (dc_wb_1.mpr ⟨i, hi, zn, zr⟩))
      · exact br_f zr (nm_r (nI_1 i) (hn () (no (fun _ => zr))))
    · exact br_t rfl (nm_r (nI_1 i) (hn () (no (fun w => by rw [zn] at w; exact nomatch w))))
theorem dx_with {post : Int32 → Prop} {s : Nat} {m : Int32} {rp : Nat → Nat → Int32} {f : Nat → Int32} {N : Nat → Bool} (B : dc_B R L c) (hs : s < R) (rR : ∀ s r, s < R → r < R → xrp (s * 12 + r) = rp s r) (M : dc_ms R m N) (rC : ∀ j, j < L → xpk j = f j) (hf : ∀ j, j < L → f j = -1 ∨ ∃ q, q < R ∧ f j = nI q)
    (h : ∀ (v : Int32) (N' : Nat → Bool), dc_ms R v N' → (∀ y, y < R → (N' y = true ↔ (N y = true ∨ (y ≠ s ∧ ∃ j, j < L ∧ f j = nI y ∧ dc_W R (rp s) N j)))) → post v) : wpX_withForwarders post (nI R, nI L, nI H, xas, xlc, xpf, xmb, xrd, xrp, xpt, xaw, xrc, xcc, xts, xpk) (nI s) m := by
  have B' := B
  obtain ⟨_, hR, _, hL, c1, c15⟩ := B'
  refine loop_0 (fun n i v => wX_withForwarders_5 post (nI s) m (nI R) (nI L) (nI H) xas xlc xpf xmb xrd xrp xpt xaw xrc xcc xts xpk n v (nI i)) (fun i v => ∃ N', dc_ms R v N' ∧ (∀ y, y < R → (N' y = true ↔ (N y = true ∨ (y ≠ s ∧ ∃ j, j < i ∧ f j = nI y ∧ dc_W R (rp s) N j))))) L m
    ⟨N, M, fun y _ => ⟨fun a => Or.inl a, fun a => a.elim (fun b => b) (fun ⟨_, j, z, _⟩ => absurd z (Nat.not_lt_zero j))⟩⟩ ?_ ?_
  · intro n v ⟨N', v1, v2⟩
    exact br_t (dc_end (by omega)) (h v N' v1 v2)
  · intro n i v hi ⟨N', v1, v2⟩ hn
    have keep : (∀ y, y < R → y ≠ s → f i = nI y → ¬ dc_W R (rp s) N i) → wX_withForwarders_5 post (nI s) m (nI R) (nI L) (nI H) xas xlc xpf xmb xrd xrp xpt xaw xrc xcc xts xpk n v (nI (i + 1)) := by
      intro q
      refine hn v ⟨N', v1, fun y hy => (v2 y hy).trans ⟨fun a => a.elim Or.inl (fun ⟨ys, j, hj, e, w⟩ => Or.inr ⟨ys, j, by omega, e, w⟩), fun a => a.elim Or.inl (fun ⟨ys, j, hj, e, w⟩ => ?_)⟩⟩
      by_cases z : j = i
      · subst z; exact absurd w (q y hy ys e)
      · exact Or.inr ⟨ys, j, by omega, e, w⟩
    refine br_f (dc_in hi (by omega)) ⟨vp_in_nI (by omega) (by omega), ?_⟩
    rw [dc_cl i (by omega), rC i hi]
    refine nm_e ?_
    rcases hf i hi with e | ⟨q, hq, e⟩
    · refine br_t e (nm_r (nI_1 i) (keep (fun y hy _ w => ?_)))
      rw [e] at w
      exact absurd w.symm (dc_nm1 (by omega))
    · rw [e]
      refine br_f (dc_nm1 (by omega)) ?_
      by_cases zs : q = s
      · refine br_t (by rw [zs]) (nm_r (nI_1 i) (keep (fun y hy ys w => ?_)))
        rw [e] at w
        exact absurd ((nI_eq (by omega) (by omega)).mp w) (by omega)
      · refine br_f (fun w => zs ((nI_eq (by omega) (by omega)).mp w)) (dx_wanted B hs rR M (fun w => ?_) (fun w => ?_))
        · refine br_f (by decide) (nm_e (nm_r (nI_1 i) (hn _ ⟨_, dc_ms_or v1 hq hR, fun y hy => ?_⟩)))
          show (if y = q then true else N' y) = true ↔ _
          by_cases z : y = q
          · rw [if_pos z]
            exact ⟨fun _ => Or.inr ⟨by omega, i, by omega, by rw [e, z], dc_wb_1.mp w⟩, fun _ => rfl⟩
          · rw [if_neg z]
            refine (v2 y hy).trans ⟨fun a => a.elim Or.inl (fun ⟨ys, j, hj, e1, w1⟩ => Or.inr ⟨ys, j, by omega, e1, w1⟩), fun a => a.elim Or.inl (fun ⟨ys, j, hj, e1, w1⟩ => ?_)⟩
            by_cases y1 : j = i
            · subst y1
              rw [e] at e1
              exact absurd ((nI_eq (by omega) (by omega)).mp e1) (by omega)
            · exact Or.inr ⟨ys, j, by omega, e1, w1⟩
        · refine br_t rfl (nm_r (nI_1 i) (keep (fun y hy ys w1 w2 => ?_)))
          rw [dc_wb_1.mpr w2] at w
          exact nomatch w
theorem dx_needed {post : Int32 → Prop} {s : Nat} {rp : Nat → Nat → Int32} {f mb : Nat → Int32} {rc : Nat → Nat} (B : dc_B R L c) (hs : s < R) (rR : ∀ s r, s < R → r < R → xrp (s * 12 + r) = rp s r) (rC : ∀ j, j < L → xpk j = f j) (hf : ∀ j, j < L → f j = -1 ∨ ∃ q, q < R ∧ f j = nI q ∧ 1 ≤ rc q)
    (rc1 : ∀ y, y < R → xrc y = nI (rc y)) (hb : ∀ y, rc y < 2 ^ 31) (rM : ∀ y, y < R → xmb y = mb y)
    (h : ∀ (v : Int32) (N : Nat → Bool), dc_ms R v N → dc_Sd R L s (rp s) f (fun y => decide (1 ≤ rc y)) (fun y => decide (¬ mb y = 0)) N → dc_Cl R L s (rp s) f (fun y => decide (1 ≤ rc y)) (fun y => decide (¬ mb y = 0)) N → post v) : wpX_neededSet post (nI R, nI L, nI H, xas, xlc, xpf, xmb, xrd, xrp, xpt, xaw, xrc, xcc, xts, xpk) (nI s) := by
  have B' := B
  obtain ⟨_, hR, _, hL, c1, c15⟩ := B'
  have hf1 : ∀ j, j < L → f j = -1 ∨ ∃ q, q < R ∧ f j = nI q := fun j hj => (hf j hj).elim Or.inl (fun ⟨q, hq, e, _⟩ => Or.inr ⟨q, hq, e⟩)
  have hf2 : ∀ j y, j < L → y < R → f j = nI y → (fun y => decide (1 ≤ rc y)) y = true := by
    intro j y hj hy e
    rcases hf j hj with e1 | ⟨q, hq, e1, o⟩
    · rw [e1] at e; exact absurd e.symm (dc_nm1 (by omega))
    · have : q = y := (nI_eq (by omega) (by omega)).mp (e1.symm.trans e)
      rw [← this]
      exact decide_eq_true o
  refine loop_0 (fun n i v => wX_neededSet_4 post (nI s) (nI R) (nI L) (nI H) xas xlc xpf xmb xrd xrp xpt xaw xrc xcc xts xpk n v (nI i)) (fun i v => dc_ms R v (fun y => decide (y < i ∧ y ≠ s ∧ ¬ mb y = 0 ∧ 1 ≤ rc y))) R 0 (dc_ms_ext (dc_ms_0 R) (fun i _ => (decide_eq_false (fun w => absurd w.1 (Nat.not_lt_zero i))).symm)) ?_ ?_
  · intro n v hv
    refine br_t (dc_end (by omega)) ?_
    refine loop_0 (fun n i v => wX_neededSet_50 post (nI s) (nI R) (nI L) (nI H) xas xlc xpf xmb xrd xrp xpt xaw xrc xcc xts xpk n v (nI i)) (fun i v => ∃ N, dc_ms R v N ∧ dc_NX R L s (rp s) f (fun y => decide (1 ≤ rc y)) (fun y => decide (¬ mb y = 0)) i N) R v ⟨_, hv, dc_NX0 (fun y hy => ?_)⟩ ?_ ?_
    · constructor
      · intro w
        have w' := of_decide_eq_true w
        exact ⟨w'.2.1, decide_eq_true w'.2.2.1, decide_eq_true w'.2.2.2⟩
      · intro w
        exact decide_eq_true ⟨hy, w.1, of_decide_eq_true w.2.1, of_decide_eq_true w.2.2⟩
    · intro n v ⟨N, n1, n2⟩
      exact br_t (dc_end (by omega)) (h v N n1 n2.1 (dc_NXR n2))
    · intro n i v hi ⟨N, n1, n2⟩ hn
      exact br_f (dc_in hi (by omega)) (dx_with B hs rR n1 rC hf1 (fun v' N' m1 m2 => nm_r (nI_1 i) (hn _ ⟨N', m1, dc_NXs hf2 n2 m2⟩)))
  · intro n i v hi hv hn
    have keep : ¬ (i ≠ s ∧ ¬ mb i = 0 ∧ 1 ≤ rc i) → wX_neededSet_4 post (nI s) (nI R) (nI L) (nI H) xas xlc xpf xmb xrd xrp xpt xaw xrc xcc xts xpk n v (nI (i + 1)) := by
      intro q
      refine hn v (dc_ms_ext hv (fun j hj => ?_))
      by_cases e : j < i ∧ j ≠ s ∧ ¬ mb j = 0 ∧ 1 ≤ rc j
      · rw [decide_eq_true e, decide_eq_true (show j < i + 1 ∧ j ≠ s ∧ ¬ mb j = 0 ∧ 1 ≤ rc j from ⟨by have := e.1; omega, e.2⟩)]
      · have g : ¬ (j < i + 1 ∧ j ≠ s ∧ ¬ mb j = 0 ∧ 1 ≤ rc j) := by
          intro w
          by_cases z : j = i
          · rw [z] at w; exact q w.2
          · exact e ⟨by have := w.1; omega, w.2⟩
        rw [decide_eq_false e, decide_eq_false g]
    refine br_f (dc_in hi (by omega)) ?_
    by_cases zs : i = s
    · exact br_t (by rw [zs]) (nm_r (nI_1 i) (keep (fun w => w.1 zs)))
    · refine br_f (fun e => zs ((nI_eq (by omega) (by omega)).mp e)) ⟨vp_in_nI (by omega) (by omega), ?_⟩
      rw [dc_cl i (by omega), rM i hi, rc1 i hi]
      by_cases zm : mb i = 0
      · exact br_t zm (nm_r (nI_1 i) (keep (fun w => w.2.1 zm)))
      · refine br_f zm ⟨vp_in_nI (by omega) (by omega), ?_⟩
        by_cases zr : rc i < 1
        · exact br_t (nI_lt (b := 1) zr (by decide)) (nm_r (nI_1 i) (keep (fun w => by have := w.2.2; omega)))
        · refine br_f (nI_nlt (b := 1) (by omega) (hb i)) (nm_e (nm_r (nI_1 i) (hn _ (dc_ms_ext (dc_ms_or hv hi hR) (fun j hj => ?_)))))
          show (if j = i then true else decide (j < i ∧ j ≠ s ∧ ¬ mb j = 0 ∧ 1 ≤ rc j)) = decide (j < i + 1 ∧ j ≠ s ∧ ¬ mb j = 0 ∧ 1 ≤ rc j)
          by_cases z : j = i
          · rw [if_pos z, decide_eq_true (show j < i + 1 ∧ j ≠ s ∧ ¬ mb j = 0 ∧ 1 ≤ rc j by rw [z]; exact ⟨by omega, zs, zm, by omega⟩)]
          · rw [if_neg z]
            by_cases e : j < i ∧ j ≠ s ∧ ¬ mb j = 0 ∧ 1 ≤ rc j
            · rw [decide_eq_true e, decide_eq_true (show j < i + 1 ∧ j ≠ s ∧ ¬ mb j = 0 ∧ 1 ≤ rc j from ⟨by have := e.1; omega, e.2⟩)]
            · rw [decide_eq_false e, decide_eq_false (show ¬ (j < i + 1 ∧ j ≠ s ∧ ¬ mb j = 0 ∧ 1 ≤ rc j) from fun w => e ⟨by have := w.1; omega, w.2⟩)]
theorem dx_prune {post : St2 → Prop} {s : Nat} {m : Int32} {rp P : Nat → Nat → Int32} {t : Nat → Nat → Bool} {N : Nat → Bool} (B : dc_B R L c) (hs : s < R) (rR : ∀ s r, s < R → r < R → xrp (s * 12 + r) = rp s r) (M : dc_ms R m N) (rT : ∀ k, k < L → dc_ms R (xts k) (t k)) (rP : dc_r2 R L xpt P)
    (h : ∀ (pt' : Nat → Int32), dc_r2 R L pt' (dc_pr R (rp s) t N (nI H) s P L) → post (nI R, nI L, nI H, xas, xlc, xpf, xmb, xrd, xrp, pt', xaw, xrc, xcc, xts, xpk)) : wpX_pruneUnwantedLinks post (nI R, nI L, nI H, xas, xlc, xpf, xmb, xrd, xrp, xpt, xaw, xrc, xcc, xts, xpk) (nI s) m := by
  have B' := B
  obtain ⟨_, hR, _, hL, c1, c15⟩ := B'
  refine loop_0 (fun n i pt => wX_pruneUnwantedLinks_2 post (nI s) m (nI R) (nI L) (nI H) n (nI i) xas xlc xpf xmb xrd xrp pt xaw xrc xcc xts xpk) (fun i pt => dc_r2 R L pt (dc_pr R (rp s) t N (nI H) s P i)) L xpt ?_ ?_ ?_
  · intro s' k' hs' hk'
    rw [rP s' k' hs' hk']
    unfold dc_pr
    rw [if_neg (show ¬ (s' = s ∧ k' < 0 ∧ 0 < dc_cn (t k') R ∧ dc_wb R (rp s) N k' = false) from fun w => absurd w.2.1 (Nat.not_lt_zero k'))]
  · intro n pt hp
    exact br_t (dc_end (by omega)) (h pt hp)
  · intro n k pt hk hp hn
    have keep : ¬ (0 < dc_cn (t k) R ∧ dc_wb R (rp s) N k = false) → dc_r2 R L pt (dc_pr R (rp s) t N (nI H) s P (k + 1)) := by
      intro q s' k' hs' hk'
      rw [hp s' k' hs' hk']
      unfold dc_pr
      by_cases e : s' = s ∧ k' < k ∧ 0 < dc_cn (t k') R ∧ dc_wb R (rp s) N k' = false
      · rw [if_pos e, if_pos (show s' = s ∧ k' < k + 1 ∧ 0 < dc_cn (t k') R ∧ dc_wb R (rp s) N k' = false from ⟨e.1, by have := e.2.1; omega, e.2.2⟩)]
      · have g : ¬ (s' = s ∧ k' < k + 1 ∧ 0 < dc_cn (t k') R ∧ dc_wb R (rp s) N k' = false) := by
          intro w
          by_cases z : k' = k
          · rw [z] at w; exact q w.2.2
          · exact e ⟨w.1, by have := w.2.1; omega, w.2.2⟩
        rw [if_neg e, if_neg g]
    have zero := dc_ms_z (rT k hk) hR
    refine br_f (dc_in hk (by omega)) ⟨vp_in_nI (by omega) (by omega), ?_⟩
    rw [dc_cl k (by omega)]
    by_cases z0 : xts k = 0
    · refine br_t z0 (nm_r (nI_1 k) (hn _ (keep (fun w => ?_))))
      obtain ⟨j, hj, e⟩ := dc_cn_some w.1
      rw [zero.mp z0 j hj] at e
      exact nomatch e
    · refine br_f z0 (dx_wanted B hs rR M (fun w => ?_) (fun w => ?_))
      · refine br_f (by decide) (nm_r (nI_1 k) (hn _ (keep (fun q => ?_))))
        rw [q.2] at w
        exact nomatch w
      · have pos : 0 < dc_cn (t k) R := by
          apply Classical.byContradiction
          intro q
          exact z0 (zero.mpr (fun i hi => dc_cn_zero (by omega) hi))
        refine br_t rfl ⟨dc_v16 s k (by omega) (by omega), nm_e (nm_r (nI_1 k) (hn _ ?_))⟩
        rw [dc_c16 s k (by omega)]
        intro s' k' hs' hk'
        unfold dc_pr
        by_cases e : s' = s ∧ k' = k
        · rw [e.1, e.2, pk_us, if_pos (show s = s ∧ k < k + 1 ∧ 0 < dc_cn (t k) R ∧ dc_wb R (rp s) N k = false from ⟨rfl, by omega, pos, w⟩)]
        · rw [pk_un (show s' * 16 + k' ≠ s * 16 + k from fun w => e (by omega)), hp s' k' hs' hk']
          unfold dc_pr
          by_cases q : s' = s ∧ k' < k ∧ 0 < dc_cn (t k') R ∧ dc_wb R (rp s) N k' = false
          · rw [if_pos q, if_pos (show s' = s ∧ k' < k + 1 ∧ 0 < dc_cn (t k') R ∧ dc_wb R (rp s) N k' = false from ⟨q.1, by have := q.2.1; omega, q.2.2⟩)]
          · rw [if_neg q, if_neg (show ¬ (s' = s ∧ k' < k + 1 ∧ 0 < dc_cn (t k') R ∧ dc_wb R (rp s) N k' = false) from fun w => q ⟨w.1, by have a1 := w.1; have a2 := w.2.1; omega, w.2.2⟩)]
theorem dx_count {post : Int32 → Prop} {rc : Nat → Nat} {mb : Nat → Int32} (B : dc_B R L c) (rc1 : ∀ y, y < R → xrc y = nI (rc y)) (hb : ∀ y, rc y < 2 ^ 31) (rM : ∀ y, y < R → xmb y = mb y)
    (h : post (nI (dc_cn (fun r => decide (¬ mb r = 0 ∧ 1 ≤ rc r)) R))) : wpX_countReachedMembers post (nI R, nI L, nI H, xas, xlc, xpf, xmb, xrd, xrp, xpt, xaw, xrc, xcc, xts, xpk) := by
  obtain ⟨_, hR, _, hL, c1, c15⟩ := B
  refine loop_0 (fun n i v => wX_countReachedMembers_4 post (nI R) (nI L) (nI H) xas xlc xpf xmb xrd xrp xpt xaw xrc xcc xts xpk n v (nI i)) (fun i v => v = nI (dc_cn (fun r => decide (¬ mb r = 0 ∧ 1 ≤ rc r)) i)) R 0 rfl ?_ ?_
  · intro n v hv
    subst hv
    exact br_t (dc_end (by omega)) h
  · intro n i v hi hv hn
    subst hv
    have no : ¬ (¬ mb i = 0 ∧ 1 ≤ rc i) → nI (dc_cn (fun r => decide (¬ mb r = 0 ∧ 1 ≤ rc r)) i) = nI (dc_cn (fun r => decide (¬ mb r = 0 ∧ 1 ≤ rc r)) (i + 1)) := by
      intro q
      simp only [dc_cn]
      rw [if_neg (show ¬ decide (¬ mb i = 0 ∧ 1 ≤ rc i) = true from fun w => q (of_decide_eq_true w)), Nat.add_zero]
    refine br_f (dc_in hi (by omega)) ⟨vp_in_nI (by omega) (by omega), ?_⟩
    rw [dc_cl i (by omega), rc1 i hi, rM i hi]
    by_cases zm : mb i = 0
    · exact br_t zm (nm_r (nI_1 i) (hn _ (no (fun w => w.1 zm))))
    · refine br_f zm ⟨vp_in_nI (by omega) (by omega), ?_⟩
      by_cases zr : rc i < 1
      · exact br_t (nI_lt (b := 1) zr (by decide)) (nm_r (nI_1 i) (hn _ (no (fun w => by omega))))
      · refine br_f (nI_nlt (b := 1) (by omega) (hb i)) (nm_r (nI_1 _) (nm_r (nI_1 i) (hn _ ?_)))
        simp only [dc_cn]
        rw [if_pos (show decide (¬ mb i = 0 ∧ 1 ≤ rc i) = true from decide_eq_true ⟨zm, by omega⟩)]
end
end
section
/-! the component's send, whole -/
section
variable {R L H : Nat} {A : Nat → Nat → Bool} {c : Nat → Nat} {xas xlc xpf xmb xrd xrp xpt xaw xrc xcc xts xpk : Nat → Int32}
theorem dx_router1 {post : Int32 → Prop} {j : Nat} (hj : j < R) (hR : R ≤ 12) (h : post 1) : wpX_isRouter post (nI R, nI L, nI H, xas, xlc, xpf, xmb, xrd, xrp, xpt, xaw, xrc, xcc, xts, xpk) (nI j) :=
  br_f (nI_pos (by omega)) (br_f (dc_in hj (by omega)) h)
theorem dx_router0 {post : Int32 → Prop} {v : Int32} (hv : v < 0 ∨ (¬ v < 0 ∧ nI R ≤ v)) (h : post 0) : wpX_isRouter post (nI R, nI L, nI H, xas, xlc, xpf, xmb, xrd, xrp, xpt, xaw, xrc, xcc, xts, xpk) v := by
  rcases hv with a | ⟨a, b⟩
  · exact br_t a h
  · exact br_f a (br_t b h)
theorem dx_link1 {post : Int32 → Prop} {j : Nat} (hj : j < L) (hL : L ≤ 16) (h : post 1) : wpX_isLink post (nI R, nI L, nI H, xas, xlc, xpf, xmb, xrd, xrp, xpt, xaw, xrc, xcc, xts, xpk) (nI j) :=
  br_f (nI_pos (by omega)) (br_f (dc_in hj (by omega)) h)
theorem dx_link0 {post : Int32 → Prop} {v : Int32} (hv : v < 0 ∨ (¬ v < 0 ∧ nI L ≤ v)) (h : post 0) : wpX_isLink post (nI R, nI L, nI H, xas, xlc, xpf, xmb, xrd, xrp, xpt, xaw, xrc, xcc, xts, xpk) v := by
  rcases hv with a | ⟨a, b⟩
  · exact br_t a h
  · exact br_f a (br_t b h)
theorem dx_send {post : Int32 → St2 → Prop} {s : Nat} {D : Nat → Nat → Nat} {rp P F : Nat → Nat → Int32} {pf mb : Nat → Int32} (B : dc_B R L c) (T : dc_TX R L A c xas xlc) (Q : dc_DR R L A c D rp) (hs : s < R)
    (rpf : ∀ r, r < R → xpf r = pf r) (rM : ∀ y, y < R → xmb y = mb y) (rD : ∀ s r, s < R → r < R → xrd (s * 12 + r) = nI (D s r)) (rR : ∀ s r, s < R → r < R → xrp (s * 12 + r) = rp s r) (rP : dc_r2 R L xpt P) (rF : dc_r2 R L xaw F)
    (h : ∀ (N : Nat → Bool) (pt' aw' rc' cc' ts' pk' : Nat → Int32),
      dc_Sd R L s (rp s) (dc_sb R pf D s (dc_sz R L A rp P F s).2.2) (fun y => decide (1 ≤ (dc_sz R L A rp P F s).1 y)) (fun y => decide (¬ mb y = 0)) N →
      dc_Cl R L s (rp s) (dc_sb R pf D s (dc_sz R L A rp P F s).2.2) (fun y => decide (1 ≤ (dc_sz R L A rp P F s).1 y)) (fun y => decide (¬ mb y = 0)) N →
      dc_r2 R L pt' (dc_pr R (rp s) (dc_sz R L A rp P F s).2.2 N (nI H) s P L) → dc_r2 R L aw' (dc_fo R (dc_sz R L A rp P F s).2.2 (dc_be pf (D s)) s F L) →
      (∀ y, y < R → rc' y = nI ((dc_sz R L A rp P F s).1 y)) → (∀ k, k < L → cc' k = nI ((dc_sz R L A rp P F s).2.1 k)) →
      post (nI (dc_cn (fun r => decide (¬ mb r = 0 ∧ 1 ≤ (dc_sz R L A rp P F s).1 r)) R)) (nI R, nI L, nI H, xas, xlc, xpf, xmb, xrd, xrp, pt', aw', rc', cc', ts', pk')) :
    wpX_send post (nI R, nI L, nI H, xas, xlc, xpf, xmb, xrd, xrp, xpt, xaw, xrc, xcc, xts, xpk) (nI s) := by
  have B' := B
  obtain ⟨_, hR, _, hL, c1, c15⟩ := B'
  have G := (Q s hs).1
  have FI := dc_FIn (R := R) (L := L) (rp := rp s) (can := dc_can R A (rp s) (P s) (F s)) hs R
  have hb : ∀ y, (dc_sz R L A rp P F s).1 y < 2 ^ 31 := fun y => by
    have := dc_FI_b FI hR hL (by omega) y
    have e : (dc_sz R L A rp P F s).1 y ≤ 2497 := this
    omega
  have hf : ∀ j, j < L → dc_sb R pf D s (dc_sz R L A rp P F s).2.2 j = -1 ∨ ∃ q, q < R ∧ dc_sb R pf D s (dc_sz R L A rp P F s).2.2 j = nI q ∧ 1 ≤ (dc_sz R L A rp P F s).1 q := by
    intro j _
    unfold dc_sb
    cases e : dc_bs ((dc_sz R L A rp P F s).2.2 j) (dc_be pf (D s)) R with
    | none => exact Or.inl rfl
    | some q =>
      have a := dc_bs_m e
      exact Or.inr ⟨q, a.1, rfl, (FI.1 j q a.2).2⟩
  unfold wpX_send
  refine dx_router1 hs hR (br_f (by decide) (dx_clear B (fun rc0 cc0 ts0 e1 e2 e3 => ?_)))
  refine dx_flood B T hs rR rP rF e1 e2 e3 (fun rc' cc' ts' Z => ?_)
  refine dx_elect B G hs (fun r hr => rD s r hs hr) rpf Z.2.2 rF (fun aw' pk' g1 g2 => ?_)
  refine dx_needed (f := dc_sb R pf D s (dc_sz R L A rp P F s).2.2) B hs rR g2 hf Z.1 hb rM (fun v N m1 m2 m3 => ?_)
  refine dx_prune B hs rR m1 Z.2.2 rP (fun pt' g3 => ?_)
  exact dx_count B Z.1 hb rM (h N pt' aw' rc' cc' ts' pk' m2 m3 g3 g1 Z.1 Z.2.1)
end
end
section
/-! the relation, and how the steps keep it -/
def dc_pm (R L : Nat) (P : Nat → Nat → Int32) : Prop := ∀ s k, s < R → k < L → ∃ p, p ≤ 16 ∧ P s k = nI p
def dc_RX (R L H : Nat) (A : Nat → Nat → Bool) (c : Nat → Nat) (pf mb : Nat → Int32) (D : Nat → Nat → Nat) (rp P F : Nat → Nat → Int32) (rc ca : Nat → Int32) (u : St2) : Prop := match u with
  | (xR, xL, xH, xas, xlc, xpf, xmb, xrd, xrp, xpt, xaw, xrc, xcc, _, _) => xR = nI R ∧ xL = nI L ∧ xH = nI H ∧ dc_TX R L A c xas xlc ∧ (∀ r, r < R → xpf r = pf r) ∧ (∀ r, r < R → xmb r = mb r) ∧
    (∀ s r, s < R → r < R → xrd (s * 12 + r) = nI (D s r)) ∧ (∀ s r, s < R → r < R → xrp (s * 12 + r) = rp s r) ∧ dc_r2 R L xpt P ∧ dc_r2 R L xaw F ∧ (∀ r, r < R → xrc r = rc r) ∧ (∀ k, k < L → xcc k = ca k)
theorem dc_ix (v : Int32) {n : Nat} (hn : n < 2 ^ 31) : (v < 0 ∨ (¬ v < 0 ∧ nI n ≤ v)) ∨ ∃ j : Nat, j < n ∧ v = nI j := by
  rcases pk_ix v hn with a | a | a
  · exact Or.inl (Or.inl a)
  · exact Or.inl (Or.inr ⟨fun h => Int32.not_le.mpr h (Int32.le_trans (nI_pos' hn) a), a⟩)
  · exact Or.inr a
theorem dc_fw0 (R L : Nat) : dc_fw R L (fun _ _ => -1) := fun _ _ _ _ => Or.inl rfl
theorem dc_pm0 (R L : Nat) : dc_pm R L (fun _ _ => 0) := fun _ _ _ _ => ⟨0, by omega, rfl⟩
/-- one router more, or less, on a link -/
def dc_Au (A : Nat → Nat → Bool) (j q : Nat) (b : Bool) : Nat → Nat → Bool := fun k r => if k = j ∧ r = q then b else A k r
theorem dc_TXo {R L : Nat} {A : Nat → Nat → Bool} {c : Nat → Nat} {xas xlc : Nat → Int32} (T : dc_TX R L A c xas xlc) {j q : Nat} (hj : j < L) (hq : q < R) (hR : R ≤ 12) : dc_TX R L (dc_Au A j q true) c (upd xas j (xas j ||| ((1 : Int32) <<< (nI q &&& 31)))) xlc := by
  refine ⟨T.1, fun k hk => ?_⟩
  by_cases e : k = j
  · rw [e, pk_us]
    refine dc_ms_ext (dc_ms_or (T.2 j hj) hq hR) (fun r _ => ?_)
    unfold dc_Au
    by_cases z : r = q
    · rw [if_pos z, if_pos (show j = j ∧ r = q from ⟨rfl, z⟩)]
    · rw [if_neg z, if_neg (show ¬ (j = j ∧ r = q) from fun w => z w.2)]
  · rw [pk_un e]
    refine dc_ms_ext (T.2 k hk) (fun r _ => ?_)
    unfold dc_Au
    rw [if_neg (show ¬ (k = j ∧ r = q) from fun w => e w.1)]
theorem dc_TXr {R L : Nat} {A : Nat → Nat → Bool} {c : Nat → Nat} {xas xlc : Nat → Int32} (T : dc_TX R L A c xas xlc) {j q : Nat} (hj : j < L) (hq : q < R) (hR : R ≤ 12) : dc_TX R L (dc_Au A j q false) c (upd xas j (xas j &&& (((1 : Int32) <<< (nI q &&& 31)) ^^^ (-1)))) xlc := by
  refine ⟨T.1, fun k hk => ?_⟩
  by_cases e : k = j
  · rw [e, pk_us]
    refine dc_ms_ext (dc_ms_rm (T.2 j hj) hq hR) (fun r _ => ?_)
    unfold dc_Au
    by_cases z : r = q
    · rw [if_pos z, if_pos (show j = j ∧ r = q from ⟨rfl, z⟩)]
    · rw [if_neg z, if_neg (show ¬ (j = j ∧ r = q) from fun w => z w.2)]
  · rw [pk_un e]
    refine dc_ms_ext (T.2 k hk) (fun r _ => ?_)
    unfold dc_Au
    rw [if_neg (show ¬ (k = j ∧ r = q) from fun w => e w.1)]
def dc_cu (c : Nat → Nat) (j d : Nat) : Nat → Nat := fun k => if k = j then d else c k
theorem dc_TXc {R L : Nat} {A : Nat → Nat → Bool} {c : Nat → Nat} {xas xlc : Nat → Int32} (T : dc_TX R L A c xas xlc) (j d : Nat) : dc_TX R L A (dc_cu c j d) xas (upd xlc j (nI d)) := by
  refine ⟨fun k hk => ?_, T.2⟩
  unfold dc_cu
  by_cases e : k = j
  · rw [if_pos e, e, pk_us]
  · rw [if_neg e, pk_un e]; exact T.1 k hk
theorem dc_Bc {R L : Nat} {c : Nat → Nat} (B : dc_B R L c) (j : Nat) {d : Nat} (h1 : 1 ≤ d) (h2 : d ≤ 15) : dc_B R L (dc_cu c j d) := by
  obtain ⟨b1, b2, b3, b4, b5, b6⟩ := B
  refine ⟨b1, b2, b3, b4, fun k hk => ?_, fun k hk => ?_⟩
  · unfold dc_cu
    split
    · exact h1
    · exact b5 k hk
  · unfold dc_cu
    split
    · exact h2
    · exact b6 k hk
/-- rows by router: one cell written on both sides -/
theorem dc_row {R : Nat} {x f : Nat → Int32} (h : ∀ r, r < R → x r = f r) (j : Nat) (v : Int32) : ∀ r, r < R → upd x j v r = upd f j v r := by
  intro r hr
  by_cases e : r = j
  · rw [e, pk_us, pk_us]
  · rw [pk_un e, pk_un e]; exact h r hr
/-! the grafts and a send keep the ranges -/
theorem dc_p2_pm {R L : Nat} {P : Nat → Nat → Int32} (h : dc_pm R L P) (s k : Nat) : dc_pm R L (dc_p2 P s k 0) := by
  intro s' k' hs hk
  unfold dc_p2
  split
  · exact ⟨0, by omega, rfl⟩
  · exact h s' k' hs hk
theorem dc_gr_pm {R L : Nat} {rp F : Nat → Int32} {U : Nat → Nat → Int32} {s : Nat} : ∀ (n : Nat) (x : Int32) (P : Nat → Nat → Int32), dc_pm R L P → dc_pm R L (dc_gr rp F U s n x P) := by
  intro n
  induction n with
  | zero => intro x P h; exact h
  | succ n ih =>
    intro x P h
    unfold dc_gr
    split
    · exact h
    · exact ih _ _ (dc_p2_pm h s _)
theorem dc_jn_pm {R L : Nat} {A : Nat → Nat → Bool} {c : Nat → Nat} {D : Nat → Nat → Nat} {rp F : Nat → Nat → Int32} {r : Nat} {P : Nat → Nat → Int32} (h : dc_pm R L P) : ∀ n, dc_pm R L (dc_jn R A c D rp F r P n) := by
  intro n
  induction n with
  | zero => exact h
  | succ n ih => exact dc_gr_pm R (nI r) _ ih
theorem dc_pr_pm {R L H : Nat} {rp : Nat → Int32} {t : Nat → Nat → Bool} {N : Nat → Bool} {s : Nat} {P : Nat → Nat → Int32} (h : dc_pm R L P) (hH : H ≤ 16) (i : Nat) : dc_pm R L (dc_pr R rp t N (nI H) s P i) := by
  intro s' k' hs hk
  unfold dc_pr
  split
  · exact ⟨H, hH, rfl⟩
  · exact h s' k' hs hk
theorem dc_fo_fw {R L : Nat} {t : Nat → Nat → Bool} {b : Nat → Nat → Bool} {s : Nat} {F : Nat → Nat → Int32} (h : dc_fw R L F) (i : Nat) : dc_fw R L (dc_fo R t b s F i) := by
  intro s' k' hs hk
  unfold dc_fo
  split
  · cases e : dc_bs (t k') b R with
    | none => exact Or.inl rfl
    | some q => exact Or.inr ⟨q, (dc_bs_m e).1, rfl⟩
  · exact h s' k' hs hk
/-- the needed routers being the same, the prunes are -/
theorem dc_pr_N {R L : Nat} {rp : Nat → Int32} {t : Nat → Nat → Bool} {N C : Nat → Bool} {h : Int32} {s : Nat} {P : Nat → Nat → Int32} {x : Nat → Int32} (e : ∀ y, y < R → N y = C y) (g : dc_r2 R L x (dc_pr R rp t N h s P L)) : dc_r2 R L x (dc_pr R rp t C h s P L) := by
  intro s' k' hs hk
  rw [g s' k' hs hk]
  unfold dc_pr dc_wb
  rw [dc_cn_ext (p := fun z => N z && decide (rp z = nI k')) (q := fun z => C z && decide (rp z = nI k')) (fun i hi => by show (N i && decide (rp i = nI k')) = (C i && decide (rp i = nI k')); rw [e i hi])]
end
section
/-! the constructors, and the calls that change links, costs, preferences -/
theorem dc_clm (v : Int32) {lo hi : Nat} (h : lo ≤ hi) (hh : hi < 2 ^ 31) : ∃ n, lo ≤ n ∧ n ≤ hi ∧ ∀ post : Int32 → Prop, post (nI n) → wpX_clamp post () v (nI lo) (nI hi) := by
  by_cases a : nI lo ≤ v
  · obtain ⟨j, hj, e⟩ := nI_of (x := v) (fun z => Int32.not_le.mpr z (Int32.le_trans (nI_pos' (by omega)) a))
    subst e
    have lj := (nI_leI (by omega) hj).mp a
    by_cases b : nI j ≤ nI hi
    · exact ⟨j, lj, (nI_leI hj hh).mp b, fun post p => br_t a (br_t b p)⟩
    · exact ⟨hi, h, Nat.le_refl _, fun post p => br_t a (br_f b p)⟩
  · exact ⟨lo, Nat.le_refl _, h, fun post p => br_f a p⟩
end
section
/-! join, leave, send, tick -/
/-- the timers after m ticks -/
def dc_tk (P : Nat → Nat → Int32) (m : Nat) : Nat → Nat → Int32 := fun s k => nI ((P s k).toNatClampNeg - m)
theorem dc_tk_pm {R L : Nat} {P : Nat → Nat → Int32} (h : dc_pm R L P) (m : Nat) : dc_pm R L (dc_tk P m) := by
  intro s k hs hk
  obtain ⟨p, hp, e⟩ := h s k hs hk
  refine ⟨p - m, by omega, ?_⟩
  unfold dc_tk
  rw [e, nI_clamp (by omega)]
section
variable {R L H : Nat} {xas xlc xpf xmb xrd xrp xpt xaw xrc xcc xts xpk : Nat → Int32}
theorem dx_tick21 {post : St2 → Prop} {m : Nat} {P : Nat → Nat → Int32} (hR : R ≤ 12) (hL : L ≤ 16) (hm : m ≤ 64) (hP : dc_pm R L P) (XP : dc_r2 R L xpt P) (h : ∀ (pt' : Nat → Int32), dc_r2 R L pt' (dc_tk P m) → post (nI R, nI L, nI H, xas, xlc, xpf, xmb, xrd, xrp, pt', xaw, xrc, xcc, xts, xpk)) : ∃ n, wX_tick_21 post (nI m) (nI R) (nI L) (nI H) n 0 xas xlc xpf xmb xrd xrp xpt xaw xrc xcc xts xpk := by
  refine loop_0 (fun n i pt => wX_tick_21 post (nI m) (nI R) (nI L) (nI H) n (nI i) xas xlc xpf xmb xrd xrp pt xaw xrc xcc xts xpk) (fun i pt => ∀ s k, s < R → k < L → pt (s * 16 + k) = if s < i then dc_tk P m s k else P s k) R xpt ?_ ?_ ?_
  · intro s k hs hk
    rw [if_neg (Nat.not_lt_zero s)]
    exact XP s k hs hk
  · intro n pt e
    exact br_t (dc_end (by omega)) (h pt (fun s k hs hk => by rw [e s k hs hk, if_pos hs]))
  · intro n s pt hs e hn
    refine br_f (dc_in hs (by omega)) ?_
    refine loop_0 (fun n' i pt => wX_tick_32 post (wX_tick_21 post (nI m) (nI R) (nI L) (nI H) n) (nI m) (nI s) (nI R) (nI L) (nI H) n' (nI i) xas xlc xpf xmb xrd xrp pt xaw xrc xcc xts xpk) (fun i pt => ∀ s' k, s' < R → k < L → pt (s' * 16 + k) = if s' < s ∨ (s' = s ∧ k < i) then dc_tk P m s' k else P s' k) L pt ?_ ?_ ?_
    · intro s' k hs' hk
      rw [e s' k hs' hk]
      by_cases q : s' < s
      · rw [if_pos q, if_pos (show s' < s ∨ (s' = s ∧ k < 0) from Or.inl q)]
      · rw [if_neg q, if_neg (show ¬ (s' < s ∨ (s' = s ∧ k < 0)) by omega)]
    · intro n' pt e'
      refine br_t (dc_end (by omega)) (nm_r (nI_1 s) (hn _ (fun s' k hs' hk => ?_)))
      rw [e' s' k hs' hk]
      by_cases q : s' < s + 1
      · rw [if_pos q, if_pos (show s' < s ∨ (s' = s ∧ k < L) by omega)]
      · rw [if_neg q, if_neg (show ¬ (s' < s ∨ (s' = s ∧ k < L)) by omega)]
    · intro n' i pt hi e' hn'
      have put : ∀ x, x = dc_tk P m s i → ∀ s' k, s' < R → k < L → upd pt (s * 16 + i) x (s' * 16 + k) = if s' < s ∨ (s' = s ∧ k < i + 1) then dc_tk P m s' k else P s' k := by
        intro x hx s' k hs' hk
        by_cases q : s' = s ∧ k = i
        · rw [q.1, q.2, pk_us, if_pos (show s < s ∨ (s = s ∧ i < i + 1) by omega)]
          exact hx
        · rw [pk_un (show s' * 16 + k ≠ s * 16 + i from fun w => q (by omega)), e' s' k hs' hk]
          by_cases y : s' < s ∨ (s' = s ∧ k < i)
          · rw [if_pos y, if_pos (show s' < s ∨ (s' = s ∧ k < i + 1) by omega)]
          · rw [if_neg y, if_neg (show ¬ (s' < s ∨ (s' = s ∧ k < i + 1)) by omega)]
      have here : pt (s * 16 + i) = P s i := by
        rw [e' s i hs hi, if_neg (show ¬ (s < s ∨ (s = s ∧ i < i)) by omega)]
      obtain ⟨p, hp, ep⟩ := hP s i hs hi
      have tk : dc_tk P m s i = nI (p - m) := by
        unfold dc_tk
        rw [ep, nI_clamp (by omega)]
      refine br_f (dc_in hi (by omega)) (nm_r (dc_i16 s i) ⟨vp_in_nI (by omega) (by omega), ?_⟩)
      rw [dc_cl (s * 16 + i) (by omega), here, ep]
      by_cases q : p ≤ m
      · refine br_t (nI_le q (by omega)) ⟨vp_in_nI (by omega) (by omega), nm_e (nm_r (nI_1 i) (hn' _ (put _ ?_)))⟩
        rw [tk, show p - m = 0 by omega] <;> rfl
      · refine br_f (fun w => q ((nI_leI (by omega) (by omega)).mp w)) ⟨vp_in_nI (by omega) (by omega), vp_in_nI (by omega) (by omega), nm_e (nm_r (nI_1 i) (hn' _ (put _ ?_)))⟩
        rw [tk, pk_sub (by omega)]
end
end
section
/-! a second send right behind the first: one copy a link at most, and no router reached that the first did not reach -/
theorem dc_cn_set {p : Nat → Bool} {x : Nat} (hp : p x = false) : ∀ n, x < n → dc_cn (fun y => if y = x then true else p y) n = dc_cn p n + 1 := by
  intro n
  induction n with
  | zero => intro h; omega
  | succ n ih =>
    intro h
    show dc_cn (fun y => if y = x then true else p y) n + (if (if n = x then true else p n) = true then 1 else 0) = dc_cn p n + (if p n = true then 1 else 0) + 1
    by_cases e : n = x
    · have e1 : dc_cn (fun y => if y = x then true else p y) n = dc_cn p n := dc_cn_ext (fun i hi => if_neg (by omega))
      have hp' : ¬ p n = true := by rw [e, hp]; decide
      rw [e1, if_pos e, if_pos rfl, if_neg hp'] <;> omega
    · rw [ih (by omega), if_neg e]
      by_cases q : p n = true
      · rw [if_pos q] <;> omega
      · rw [if_neg q] <;> omega
section
variable (R L : Nat) (rp : Nat → Int32) (s : Nat)
/-- the counts of a record are those of its transmitters -/
def dc_BC (z : (Nat → Nat) × (Nat → Nat) × (Nat → Nat → Bool)) : Prop :=
  (∀ k, k < L → z.2.1 k = dc_cn (z.2.2 k) R) ∧
  (∀ y k, y < R → k < L → rp y = nI k → z.1 y = (if y = s then 1 else 0) + dc_cn (z.2.2 k) R) ∧
  (∀ y, y < R → (∀ k, k < L → ¬ rp y = nI k) → z.1 y = if y = s then 1 else 0)
end
section
variable {R L : Nat} {rp : Nat → Int32} {can : Nat → Nat → Bool} {s : Nat}
theorem dc_BC_tr {z : (Nat → Nat) × (Nat → Nat) × (Nat → Nat → Bool)} (h : dc_BC R L rp s z) (hL : L ≤ 16) {x k : Nat} (hx : x < R) (hk : k < L) (ht : z.2.2 k x = false) : dc_BC R L rp s (dc_tr R rp x k z) := by
  obtain ⟨h1, h2, h3⟩ := h
  have T1 : ∀ j y, (dc_tr R rp x k z).2.2 j y = (if j = k ∧ y = x then true else z.2.2 j y) := fun _ _ => rfl
  have R1 : ∀ y, (dc_tr R rp x k z).1 y = (if y < R ∧ rp y = nI k then z.1 y + 1 else z.1 y) := fun _ => rfl
  have C1 : ∀ j, (dc_tr R rp x k z).2.1 j = (if j = k then z.2.1 j + 1 else z.2.1 j) := fun _ => rfl
  have c1 : dc_cn ((dc_tr R rp x k z).2.2 k) R = dc_cn (z.2.2 k) R + 1 := by
    rw [← dc_cn_set ht R hx]
    refine dc_cn_ext (fun y _ => ?_)
    rw [T1]
    by_cases e : y = x
    · rw [if_pos ⟨rfl, e⟩, if_pos e]
    · have n1 : ¬ (k = k ∧ y = x) := fun w => e w.2
      rw [if_neg n1, if_neg e]
  have c0 : ∀ j, ¬ j = k → dc_cn ((dc_tr R rp x k z).2.2 j) R = dc_cn (z.2.2 j) R := by
    intro j hj
    refine dc_cn_ext (fun y _ => ?_)
    have n1 : ¬ (j = k ∧ y = x) := fun w => hj w.1
    rw [T1, if_neg n1]
  refine ⟨fun j hj => ?_, fun y j hy hj e => ?_, fun y hy e => ?_⟩
  · rw [C1]
    by_cases q : j = k
    · rw [if_pos q, h1 j hj]
      subst q
      exact c1.symm
    · rw [if_neg q, h1 j hj, c0 j q]
  · rw [R1]
    by_cases q : j = k
    · subst q
      rw [if_pos ⟨hy, e⟩, h2 y j hy hj e, c1] <;> exact Nat.add_assoc _ _ _
    · have n1 : ¬ (y < R ∧ rp y = nI k) := fun w => q ((nI_eq (by omega) (by omega)).mp (e.symm.trans w.2))
      rw [if_neg n1, h2 y j hy hj e, c0 j q]
  · have n1 : ¬ (y < R ∧ rp y = nI k) := fun w => e k hk w.2
    rw [R1, if_neg n1]
    exact h3 y hy e
theorem dc_fxJ (hL : L ≤ 16) {x : Nat} (hx : x < R) {z : (Nat → Nat) × (Nat → Nat) × (Nat → Nat → Bool)} (h : dc_BC R L rp s z) (ht : ∀ j, z.2.2 j x = false) : ∀ l, l ≤ L → dc_BC R L rp s (dc_it (dc_fk R rp can x) z l) ∧ ∀ j y, (dc_it (dc_fk R rp can x) z l).2.2 j y = true ↔ (z.2.2 j y = true ∨ (y = x ∧ j < l ∧ can x j = true)) := by
  intro l
  induction l with
  | zero => exact fun _ => ⟨h, fun j y => ⟨fun a => Or.inl a, fun a => a.elim id (fun b => absurd b.2.1 (Nat.not_lt_zero j))⟩⟩
  | succ l ih =>
    intro hl
    obtain ⟨i1, i2⟩ := ih (by omega)
    show dc_BC R L rp s (dc_fk R rp can x l (dc_it (dc_fk R rp can x) z l)) ∧ ∀ j y, (dc_fk R rp can x l (dc_it (dc_fk R rp can x) z l)).2.2 j y = true ↔ (z.2.2 j y = true ∨ (y = x ∧ j < l + 1 ∧ can x j = true))
    generalize dc_it (dc_fk R rp can x) z l = z' at i1 i2 ⊢
    by_cases hc : can x l = true
    · rw [dc_fk_1 hc]
      have f : z'.2.2 l x = false := by
        cases e : z'.2.2 l x with
        | false => rfl
        | true =>
          rcases (i2 l x).mp e with a | a
          · rw [ht l] at a; exact nomatch a
          · exact absurd a.2.1 (Nat.lt_irrefl l)
      refine ⟨dc_BC_tr i1 hL hx (by omega) f, fun j y => ?_⟩
      have T1 : (dc_tr R rp x l z').2.2 j y = (if j = l ∧ y = x then true else z'.2.2 j y) := rfl
      rw [T1]
      by_cases q : j = l ∧ y = x
      · rw [if_pos q]
        exact ⟨fun _ => Or.inr ⟨q.2, by omega, by rw [q.1]; exact hc⟩, fun _ => rfl⟩
      · rw [if_neg q, i2 j y]
        constructor
        · intro a
          rcases a with a | a
          · exact Or.inl a
          · exact Or.inr ⟨a.1, by have := a.2.1; omega, a.2.2⟩
        · intro a
          rcases a with a | a
          · exact Or.inl a
          · refine Or.inr ⟨a.1, ?_, a.2.2⟩
            have n1 : ¬ j = l := fun w => q ⟨w, a.1⟩
            have := a.2.1
            omega
    · rw [dc_fk_0 hc]
      refine ⟨i1, fun j y => ?_⟩
      rw [i2 j y]
      constructor
      · intro a
        rcases a with a | a
        · exact Or.inl a
        · exact Or.inr ⟨a.1, by have := a.2.1; omega, a.2.2⟩
      · intro a
        rcases a with a | a
        · exact Or.inl a
        · refine Or.inr ⟨a.1, ?_, a.2.2⟩
          have n1 : ¬ j = l := fun w => hc (by rw [← w]; exact a.2.2)
          have := a.2.1
          omega
theorem dc_rdJ (hL : L ≤ 16) {fr : Nat → Bool} {z : (Nat → Nat) × (Nat → Nat) × (Nat → Nat → Bool)} (h : dc_BC R L rp s z) (ht : ∀ j y, fr y = true → z.2.2 j y = false) : ∀ n, n ≤ R → dc_BC R L rp s (dc_it (dc_rx R L rp can fr) z n) ∧ ∀ j y, (dc_it (dc_rx R L rp can fr) z n).2.2 j y = true ↔ (z.2.2 j y = true ∨ (y < n ∧ fr y = true ∧ j < L ∧ can y j = true)) := by
  intro n
  induction n with
  | zero => exact fun _ => ⟨h, fun j y => ⟨fun a => Or.inl a, fun a => a.elim id (fun b => absurd b.1 (Nat.not_lt_zero y))⟩⟩
  | succ n ih =>
    intro hn
    obtain ⟨i1, i2⟩ := ih (by omega)
    show dc_BC R L rp s (dc_rx R L rp can fr n (dc_it (dc_rx R L rp can fr) z n)) ∧ ∀ j y, (dc_rx R L rp can fr n (dc_it (dc_rx R L rp can fr) z n)).2.2 j y = true ↔ (z.2.2 j y = true ∨ (y < n + 1 ∧ fr y = true ∧ j < L ∧ can y j = true))
    generalize dc_it (dc_rx R L rp can fr) z n = z' at i1 i2 ⊢
    by_cases hc : fr n = true
    · rw [dc_rx_1 hc]
      have f : ∀ j, z'.2.2 j n = false := by
        intro j
        cases e : z'.2.2 j n with
        | false => rfl
        | true =>
          rcases (i2 j n).mp e with a | a
          · rw [ht j n hc] at a; exact nomatch a
          · exact absurd a.1 (Nat.lt_irrefl n)
      obtain ⟨g1, g2⟩ := dc_fxJ (can := can) hL (show n < R by omega) i1 f L (Nat.le_refl L)
      refine ⟨g1, fun j y => ?_⟩
      show (dc_it (dc_fk R rp can n) z' L).2.2 j y = true ↔ _
      rw [g2 j y, i2 j y]
      constructor
      · intro a
        rcases a with (a | a) | a
        · exact Or.inl a
        · exact Or.inr ⟨by have := a.1; omega, a.2⟩
        · exact Or.inr ⟨by have := a.1; omega, by rw [a.1]; exact hc, a.2.1, by rw [a.1]; exact a.2.2⟩
      · intro a
        rcases a with a | a
        · exact Or.inl (Or.inl a)
        · by_cases q : y = n
          · exact Or.inr ⟨q, a.2.2.1, by rw [← q]; exact a.2.2.2⟩
          · exact Or.inl (Or.inr ⟨by have := a.1; omega, a.2⟩)
    · rw [dc_rx_0 hc]
      refine ⟨i1, fun j y => ?_⟩
      rw [i2 j y]
      constructor
      · intro a
        rcases a with a | a
        · exact Or.inl a
        · exact Or.inr ⟨by have := a.1; omega, a.2⟩
      · intro a
        rcases a with a | a
        · exact Or.inl a
        · have q : ¬ y = n := fun w => hc (by rw [← w]; exact a.2.1)
          exact Or.inr ⟨by have := a.1; omega, a.2⟩
/-- what every round of a flood keeps: who is reached and not in the frontier has transmitted wherever it may -/
def dc_FJ (R L : Nat) (rp : Nat → Int32) (can : Nat → Nat → Bool) (s : Nat) (w : ((Nat → Nat) × (Nat → Nat) × (Nat → Nat → Bool)) × (Nat → Bool)) : Prop :=
  dc_BC R L rp s w.1 ∧ ∀ j y, w.1.2.2 j y = true ↔ (j < L ∧ y < R ∧ 1 ≤ w.1.1 y ∧ w.2 y = false ∧ can y j = true)
theorem dc_FJ0 : dc_FJ R L rp can s (dc_f0 s) := by
  have n0 : dc_cn (fun _ => false) R = 0 := dc_cn_none R
  refine ⟨⟨fun k _ => n0.symm, fun y k _ _ _ => ?_, fun y _ _ => rfl⟩, fun j y => ⟨fun a => absurd (show false = true from a) (by decide), fun a => ?_⟩⟩
  · show (if y = s then 1 else 0) = (if y = s then 1 else 0) + dc_cn (fun _ => false) R
    rw [n0, Nat.add_zero]
  · exfalso
    obtain ⟨_, _, a1, a2, _⟩ := a
    have b1 : 1 ≤ (if y = s then 1 else 0) := a1
    have b2 : decide (y = s) = false := a2
    have b3 := of_decide_eq_false b2
    rw [if_neg b3] at b1
    omega
theorem dc_FJs (hL : L ≤ 16) {n : Nat} {w : ((Nat → Nat) × (Nat → Nat) × (Nat → Nat → Bool)) × (Nat → Bool)} (hI : dc_FI R L n w) (h : dc_FJ R L rp can s w) : dc_FJ R L rp can s (dc_st R L rp can w) := by
  obtain ⟨h1, h2⟩ := h
  have ht : ∀ j y, w.2 y = true → w.1.2.2 j y = false := by
    intro j y e
    cases q : w.1.2.2 j y with
    | false => rfl
    | true =>
      have a := ((h2 j y).mp q).2.2.2.1
      rw [e] at a
      exact nomatch a
  obtain ⟨g1, g2⟩ := dc_rdJ (can := can) hL h1 ht R (Nat.le_refl R)
  have hb := dc_rd_b (R := R) (L := L) (rp := rp) (can := can) w.2 w.1
  refine ⟨g1, fun j y => ?_⟩
  show (dc_it (dc_rx R L rp can w.2) w.1 R).2.2 j y = true ↔ (j < L ∧ y < R ∧ 1 ≤ (dc_rd R L rp can w.2 w.1).1 y ∧ decide (y < R ∧ w.1.1 y = 0 ∧ 1 ≤ (dc_rd R L rp can w.2 w.1).1 y) = false ∧ can y j = true)
  rw [g2 j y, h2 j y]
  have b := hb y
  constructor
  · intro a
    have q : j < L ∧ y < R ∧ 1 ≤ w.1.1 y ∧ can y j = true := by
      rcases a with a | a
      · exact ⟨a.1, a.2.1, a.2.2.1, a.2.2.2.2⟩
      · exact ⟨a.2.2.1, a.1, (hI.2.1 y a.2.1).2, a.2.2.2⟩
    have q1 := q.2.2.1
    exact ⟨q.1, q.2.1, by omega, decide_eq_false (by omega), q.2.2.2⟩
  · intro ⟨a1, a2, a3, a4, a5⟩
    have a6 := of_decide_eq_false a4
    have q : 1 ≤ w.1.1 y := by omega
    cases e : w.2 y with
    | false => exact Or.inl ⟨a1, a2, q, rfl, a5⟩
    | true => exact Or.inr ⟨a2, rfl, a1, a5⟩
theorem dc_FJn (hL : L ≤ 16) (hs : s < R) : ∀ n, dc_FJ R L rp can s (dc_fl R L rp can (dc_f0 s) n) := by
  intro n
  induction n with
  | zero => exact dc_FJ0
  | succ n ih =>
    show dc_FJ R L rp can s (dc_st R L rp can (dc_fl R L rp can (dc_f0 s) n))
    exact dc_FJs hL (dc_FIn hs n) ih
/-- the record of a whole flood: who is reached transmits wherever it may, and nobody else does -/
theorem dc_ZT (hL : L ≤ 16) (hs : s < R) (j y : Nat) : (dc_fl R L rp can (dc_f0 s) R).1.2.2 j y = true ↔ (j < L ∧ y < R ∧ 1 ≤ (dc_fl R L rp can (dc_f0 s) R).1.1 y ∧ can y j = true) := by
  have h := (dc_FJn (R := R) (rp := rp) (can := can) hL hs R).2 j y
  have f := dc_fl_R (L := L) (rp := rp) (can := can) hs y
  constructor
  · intro a
    have b := h.mp a
    exact ⟨b.1, b.2.1, b.2.2.1, b.2.2.2.2⟩
  · intro a
    exact h.mpr ⟨a.1, a.2.1, a.2.2.1, f, a.2.2.2⟩
/-- whoever may less reaches no more -/
theorem dc_mono (hL : L ≤ 16) (hs : s < R) {c2 : Nat → Nat → Bool} (hc : ∀ x k, x < R → k < L → c2 x k = true → can x k = true) : ∀ n y, y < R → 1 ≤ (dc_fl R L rp c2 (dc_f0 s) n).1.1 y → 1 ≤ (dc_fl R L rp can (dc_f0 s) R).1.1 y := by
  have BC := (dc_FJn (R := R) (rp := rp) (can := can) hL hs R).1
  have ZT := dc_ZT (R := R) (rp := rp) (can := can) hL hs
  generalize (dc_fl R L rp can (dc_f0 s) R).1 = Z at BC ZT ⊢
  have S1 : ∀ (x k : Nat) (z : (Nat → Nat) × (Nat → Nat) × (Nat → Nat → Bool)), x < R → k < L → 1 ≤ Z.1 x → (∀ y, y < R → 1 ≤ z.1 y → 1 ≤ Z.1 y) → ∀ y, y < R → 1 ≤ (dc_fk R rp c2 x k z).1 y → 1 ≤ Z.1 y := by
    intro x k z hx hk hZ hz y hy h
    by_cases e : c2 x k = true
    · rw [dc_fk_1 e] at h
      have h' : 1 ≤ (if y < R ∧ rp y = nI k then z.1 y + 1 else z.1 y) := h
      by_cases q : y < R ∧ rp y = nI k
      · have t : Z.2.2 k x = true := (ZT k x).mpr ⟨hk, hx, hZ, hc x k hx hk e⟩
        have a := BC.2.1 y k hy hk q.2
        have b := dc_cn_pos hx t
        omega
      · rw [if_neg q] at h'
        exact hz y hy h'
    · rw [dc_fk_0 e] at h
      exact hz y hy h
  have S2 : ∀ (x : Nat) (z : (Nat → Nat) × (Nat → Nat) × (Nat → Nat → Bool)), x < R → 1 ≤ Z.1 x → (∀ y, y < R → 1 ≤ z.1 y → 1 ≤ Z.1 y) → ∀ l, l ≤ L → ∀ y, y < R → 1 ≤ (dc_it (dc_fk R rp c2 x) z l).1 y → 1 ≤ Z.1 y := by
    intro x z hx hZ hz l
    induction l with
    | zero => exact fun _ => hz
    | succ l ih => exact fun hl => S1 x l _ hx (by omega) hZ (ih (by omega))
  have S3 : ∀ (fr : Nat → Bool) (z : (Nat → Nat) × (Nat → Nat) × (Nat → Nat → Bool)), (∀ x, x < R → fr x = true → 1 ≤ Z.1 x) → (∀ y, y < R → 1 ≤ z.1 y → 1 ≤ Z.1 y) → ∀ n, n ≤ R → ∀ y, y < R → 1 ≤ (dc_it (dc_rx R L rp c2 fr) z n).1 y → 1 ≤ Z.1 y := by
    intro fr z hf hz n
    induction n with
    | zero => exact fun _ => hz
    | succ n ih =>
      intro hn y hy h
      have h' : 1 ≤ (dc_rx R L rp c2 fr n (dc_it (dc_rx R L rp c2 fr) z n)).1 y := h
      by_cases e : fr n = true
      · rw [dc_rx_1 e] at h'
        exact S2 n _ (by omega) (hf n (by omega) e) (ih (by omega)) L (Nat.le_refl L) y hy h'
      · rw [dc_rx_0 e] at h'
        exact ih (by omega) y hy h'
  have Zs : 1 ≤ Z.1 s := by
    by_cases e : ∃ k, k < L ∧ rp s = nI k
    · obtain ⟨k, hk, e⟩ := e
      have a := BC.2.1 s k hs hk e
      rw [if_pos rfl] at a
      omega
    · have a := BC.2.2 s hs (fun k hk w => e ⟨k, hk, w⟩)
      rw [if_pos rfl] at a
      omega
  intro n
  induction n with
  | zero =>
    intro y hy h
    have h' : 1 ≤ (if y = s then 1 else 0) := h
    by_cases e : y = s
    · rw [e]; exact Zs
    · rw [if_neg e] at h'
      omega
  | succ n ih =>
    intro y hy h
    have I := dc_FIn (L := L) (rp := rp) (can := c2) hs n
    exact S3 (dc_fl R L rp c2 (dc_f0 s) n).2 (dc_fl R L rp c2 (dc_f0 s) n).1 (fun x hx e => ih x hx (I.2.1 x e).2) ih R (Nat.le_refl R) y hy h
end
/-! the prunes and forwarders that a send leaves let nobody transmit who might not before; and of two transmitters one alone -/
section
variable {R L : Nat} {A : Nat → Nat → Bool} {rp P F : Nat → Nat → Int32} {s H : Nat} {b : Nat → Nat → Bool} {N : Nat → Bool}
theorem dc_win (hR : R ≤ 12) {t : Nat → Nat → Bool} {x k : Nat} (hx : x < R) (hk : k < L) (h2 : 2 ≤ dc_cn (t k) R) (h : dc_fo R t b s F L s k = -1 ∨ dc_fo R t b s F L s k = nI x) : t k x = true ∧ dc_bs (t k) b R = some x := by
  have c : s = s ∧ k < L ∧ 2 ≤ dc_cn (t k) R := ⟨rfl, hk, h2⟩
  have e : dc_fo R t b s F L s k = dc_oI (dc_bs (t k) b R) := if_pos c
  rw [e] at h
  cases w : dc_bs (t k) b R with
  | none =>
    exfalso
    obtain ⟨j, hj, t1⟩ := dc_cn_some (show 0 < dc_cn (t k) R by omega)
    have t0 := dc_bs_0 w j hj
    rw [t1] at t0
    exact nomatch t0
  | some q =>
    have m := dc_bs_m w
    rw [w] at h
    have h' : nI q = -1 ∨ nI q = nI x := h
    rcases h' with z | z
    · exact absurd z (dc_nm1 (by omega))
    · have z' : q = x := (nI_eq (by omega) (by omega)).mp z
      subst z'
      exact ⟨m.2, rfl⟩
theorem dc_can2 (hR : R ≤ 12) (hL : L ≤ 16) (hs : s < R) (h1 : 1 ≤ H) (h16 : H ≤ 16) (x k : Nat) (hx : x < R) (hk : k < L)
    (e : dc_can R A (rp s) (dc_pr R (rp s) (dc_sz R L A rp P F s).2.2 N (nI H) s P L s) (dc_fo R (dc_sz R L A rp P F s).2.2 b s F L s) x k = true) : dc_can R A (rp s) (P s) (F s) x k = true := by
  have e' := of_decide_eq_true e
  have p : P s k = 0 := by
    have q : (if s = s ∧ k < L ∧ 0 < dc_cn ((dc_sz R L A rp P F s).2.2 k) R ∧ dc_wb R (rp s) N k = false then nI H else P s k) = 0 := e'.2.2.2.1
    by_cases c : s = s ∧ k < L ∧ 0 < dc_cn ((dc_sz R L A rp P F s).2.2 k) R ∧ dc_wb R (rp s) N k = false
    · rw [if_pos c] at q
      exact absurd q (nI_ne0 (by omega) (by omega))
    · rw [if_neg c] at q
      exact q
  by_cases c : s = s ∧ k < L ∧ 2 ≤ dc_cn ((dc_sz R L A rp P F s).2.2 k) R
  · have w := dc_win hR hx hk c.2.2 e'.2.2.2.2
    exact ((dc_ZT hL hs k x).mp w.1).2.2.2
  · have q : dc_fo R (dc_sz R L A rp P F s).2.2 b s F L s k = F s k := if_neg c
    have r := e'.2.2.2.2
    rw [q] at r
    exact decide_eq_true ⟨e'.1, e'.2.1, e'.2.2.1, p, r⟩
/-- the second send's record -/
theorem dc_second (hR : R ≤ 12) (hL : L ≤ 16) (hs : s < R) (h1 : 1 ≤ H) (h16 : H ≤ 16) (h0 : rp s s = -1) {P2 F2 : Nat → Nat → Int32} (eP : P2 = dc_pr R (rp s) (dc_sz R L A rp P F s).2.2 N (nI H) s P L) (eF : F2 = dc_fo R (dc_sz R L A rp P F s).2.2 b s F L) :
    (∀ k, k < L → (dc_sz R L A rp P2 F2 s).2.1 k ≤ 1) ∧ (∀ y, y < R → (dc_sz R L A rp P2 F2 s).1 y ≤ 1) ∧ (∀ y, y < R → 1 ≤ (dc_sz R L A rp P2 F2 s).1 y → 1 ≤ (dc_sz R L A rp P F s).1 y) := by
  have hc : ∀ x k, x < R → k < L → dc_can R A (rp s) (P2 s) (F2 s) x k = true → dc_can R A (rp s) (P s) (F s) x k = true := by
    intro x k hx hk e
    rw [eP, eF] at e
    exact dc_can2 hR hL hs h1 h16 x k hx hk e
  have up : ∀ y, y < R → 1 ≤ (dc_sz R L A rp P2 F2 s).1 y → 1 ≤ (dc_sz R L A rp P F s).1 y := fun y hy h => dc_mono hL hs hc R y hy h
  have BC := (dc_FJn (R := R) (rp := rp s) (can := dc_can R A (rp s) (P2 s) (F2 s)) hL hs R).1
  have T2 : ∀ k x, (dc_sz R L A rp P2 F2 s).2.2 k x = true → (k < L ∧ x < R ∧ 1 ≤ (dc_sz R L A rp P2 F2 s).1 x ∧ dc_can R A (rp s) (P2 s) (F2 s) x k = true) := fun k x h => (dc_ZT hL hs k x).mp h
  have T1 : ∀ k x, (dc_sz R L A rp P2 F2 s).2.2 k x = true → (dc_sz R L A rp P F s).2.2 k x = true := by
    intro k x h
    have a := T2 k x h
    exact (dc_ZT hL hs k x).mpr ⟨a.1, a.2.1, up x a.2.1 a.2.2.1, hc x k a.2.1 a.1 a.2.2.2⟩
  have one : ∀ k, k < L → dc_cn ((dc_sz R L A rp P2 F2 s).2.2 k) R ≤ 1 := by
    intro k hk
    by_cases c : dc_cn ((dc_sz R L A rp P2 F2 s).2.2 k) R ≤ 1
    · exact c
    · exfalso
      obtain ⟨i, j, hij, hj, ti, tj⟩ := dc_cn_pair (show 2 ≤ dc_cn ((dc_sz R L A rp P2 F2 s).2.2 k) R by omega)
      have g : 2 ≤ dc_cn ((dc_sz R L A rp P F s).2.2 k) R := dc_cn_two (show i < R by omega) hj (by omega) (T1 k i ti) (T1 k j tj)
      have ci := (of_decide_eq_true (T2 k i ti).2.2.2).2.2.2.2
      have cj := (of_decide_eq_true (T2 k j tj).2.2.2).2.2.2.2
      rw [eF] at ci cj
      have wi := (dc_win hR (show i < R by omega) hk g ci).2
      have wj := (dc_win hR hj hk g cj).2
      rw [wi] at wj
      have := Option.some.inj wj
      omega
  refine ⟨fun k hk => ?_, fun y hy => ?_, up⟩
  · have a : (dc_sz R L A rp P2 F2 s).2.1 k = dc_cn ((dc_sz R L A rp P2 F2 s).2.2 k) R := BC.1 k hk
    rw [a]
    exact one k hk
  · by_cases ys : y = s
    · have a : (dc_sz R L A rp P2 F2 s).1 y = if y = s then 1 else 0 := BC.2.2 y hy (fun k hk w => by rw [ys, h0] at w; exact dc_nm1 (by omega) w.symm)
      rw [a, if_pos ys] <;> exact Nat.le_refl _
    · by_cases e : ∃ k, k < L ∧ rp s y = nI k
      · obtain ⟨k, hk, e⟩ := e
        have a : (dc_sz R L A rp P2 F2 s).1 y = (if y = s then 1 else 0) + dc_cn ((dc_sz R L A rp P2 F2 s).2.2 k) R := BC.2.1 y k hy hk e
        rw [a, if_neg ys, Nat.zero_add]
        exact one k hk
      · have a : (dc_sz R L A rp P2 F2 s).1 y = if y = s then 1 else 0 := BC.2.2 y hy (fun k hk w => e ⟨k, hk, w⟩)
        rw [a, if_neg ys]
        exact Nat.zero_le _
end
end
section
/-! the law's remainder: never negative -/
theorem dp_rem (x : Int32) {M : Nat} (h1 : 1 ≤ M) (hM : M ≤ 256) : (x - x / nI M * nI M).toInt = x.toInt.tmod (M : Int) := by
  have a := Int.tmod_lt_of_pos x.toInt (b := (M : Int)) (by omega)
  have b := Int.lt_tmod_of_pos x.toInt (b := (M : Int)) (by omega)
  rw [Int32.toInt_sub, Int32.toInt_mul, Int32.toInt_div, nI_toInt (show M < 2 ^ 31 by omega), Int.bmod_mul_bmod, Int.sub_bmod_bmod, Int.mul_comm, ← Int.tmod_def]
  exact Int.bmod_eq_of_le (by omega) (by omega)
theorem dp_mod (v : Int32) {M : Nat} (h1 : 1 ≤ M) (hM : M ≤ 256) : (v - v / nI M * nI M < 0 → ∃ j, j < M ∧ v - v / nI M * nI M + nI M = nI j) ∧ (¬ v - v / nI M * nI M < 0 → ∃ j, j < M ∧ v - v / nI M * nI M = nI j) := by
  have e := dp_rem v h1 hM
  have a := Int.tmod_lt_of_pos v.toInt (b := (M : Int)) (by omega)
  have b := Int.lt_tmod_of_pos v.toInt (b := (M : Int)) (by omega)
  generalize v - v / nI M * nI M = r at e ⊢
  constructor
  · intro h
    rw [Int32.lt_iff_toInt_lt, show (0 : Int32).toInt = 0 from by decide] at h
    refine ⟨(r.toInt + M).toNat, by omega, ?_⟩
    apply Int32.toInt_inj.mp
    rw [Int32.toInt_add, nI_toInt (show M < 2 ^ 31 by omega), nI_toInt (by omega), Int.bmod_eq_of_le (by omega) (by omega)]
    omega
  · intro h
    obtain ⟨j, hj, rfl⟩ := nI_of h
    rw [nI_toInt hj] at e
    exact ⟨j, by omega, rfl⟩
end
section
/-! what each call of the law does to the component -/
/-- the state is sound, and its record is rc, ca -/
def dp_K (R L H : Nat) (A : Nat → Nat → Bool) (rp P F : Nat → Nat → Int32) (rc ca : Nat → Int32) (u : St2) : Prop := ∃ (c : Nat → Nat) (pf mb : Nat → Int32) (D : Nat → Nat → Nat),
  dc_B R L c ∧ 1 ≤ H ∧ H ≤ 16 ∧ dc_DR R L A c D rp ∧ dc_fw R L F ∧ dc_pm R L P ∧ dc_RX R L H A c pf mb D rp P F rc ca u
def dp_I (R L H : Nat) (u : St2) : Prop := ∃ A rp P F rc ca, dp_K R L H A rp P F rc ca u
theorem dp_attach {post : Int32 → St2 → Prop} {R L H j q : Nat} {u : St2} (I : dp_I R L H u) (hj : j < L) (hq : q < R) (h : ∀ r u', dp_I R L H u' → post r u') : wpX_attach post u (nI j) (nI q) := by
  obtain ⟨A, rp, P, F, rc, ca, I⟩ := I
  obtain ⟨c, pf, mb, D, B, hH1, hH, Q, hF, hP, X⟩ := I
  obtain ⟨xR, xL, xH, xas, xlc, xpf, xmb, xrd, xrp, xpt, xaw, xrc, xcc, xts, xpk⟩ := u
  obtain ⟨rfl, rfl, rfl, TX, Xpf, Xmb, XD, XR, XP, XF, Xrc, Xca⟩ := X
  have hR : R ≤ 12 := B.2.1
  have hL : L ≤ 16 := B.2.2.2.1
  have same : dp_I R L H (nI R, nI L, nI H, xas, xlc, xpf, xmb, xrd, xrp, xpt, xaw, xrc, xcc, xts, xpk) := ⟨A, rp, P, F, rc, ca, c, pf, mb, D, B, hH1, hH, Q, hF, hP, ⟨rfl, rfl, rfl, TX, Xpf, Xmb, XD, XR, XP, XF, Xrc, Xca⟩⟩
  unfold wpX_attach
  refine dx_link1 hj hL (br_f (by decide) (dx_router1 hq hR (br_f (by decide) ⟨vp_in_nI (by omega) (by omega), ?_⟩)))
  rw [dc_cl j (by omega)]
  refine dx_con (TX.2 j hj) hq hR (fun z => ?_) (fun z => ?_)
  · exact br_f (by decide) (h _ _ same)
  · exact br_t rfl ⟨vp_in_nI (by omega) (by omega), vp_in_nI (by omega) (by omega), nm_e (dx_routes B (dc_TXo TX hj hq hR) (fun rd rp' D' q1 q2 => dx_reset B (fun pt aw rcx cc ts e1 e2 e3 e4 => h _ _ ⟨dc_Au A j q true, fun s r => rp' (s * 12 + r), fun _ _ => 0, fun _ _ => -1, fun _ => 0, fun _ => 0, c, pf, mb, D', B, hH1, hH, q1, dc_fw0 R L, dc_pm0 R L, ⟨rfl, rfl, rfl, dc_TXo TX hj hq hR, Xpf, Xmb, q2, fun _ _ _ _ => rfl, e1, e2, e3, e4⟩⟩)))⟩
theorem dp_detach {post : Int32 → St2 → Prop} {R L H j q : Nat} {u : St2} (I : dp_I R L H u) (hj : j < L) (hq : q < R) (h : ∀ r u', dp_I R L H u' → post r u') : wpX_detach post u (nI j) (nI q) := by
  obtain ⟨A, rp, P, F, rc, ca, I⟩ := I
  obtain ⟨c, pf, mb, D, B, hH1, hH, Q, hF, hP, X⟩ := I
  obtain ⟨xR, xL, xH, xas, xlc, xpf, xmb, xrd, xrp, xpt, xaw, xrc, xcc, xts, xpk⟩ := u
  obtain ⟨rfl, rfl, rfl, TX, Xpf, Xmb, XD, XR, XP, XF, Xrc, Xca⟩ := X
  have hR : R ≤ 12 := B.2.1
  have hL : L ≤ 16 := B.2.2.2.1
  have same : dp_I R L H (nI R, nI L, nI H, xas, xlc, xpf, xmb, xrd, xrp, xpt, xaw, xrc, xcc, xts, xpk) := ⟨A, rp, P, F, rc, ca, c, pf, mb, D, B, hH1, hH, Q, hF, hP, ⟨rfl, rfl, rfl, TX, Xpf, Xmb, XD, XR, XP, XF, Xrc, Xca⟩⟩
  unfold wpX_detach
  refine dx_link1 hj hL (br_f (by decide) (dx_router1 hq hR (br_f (by decide) ⟨vp_in_nI (by omega) (by omega), ?_⟩)))
  rw [dc_cl j (by omega)]
  refine dx_con (TX.2 j hj) hq hR (fun z => ?_) (fun z => ?_)
  · exact br_f (by decide) ⟨vp_in_nI (by omega) (by omega), vp_in_nI (by omega) (by omega), nm_e (dx_routes B (dc_TXr TX hj hq hR) (fun rd rp' D' q1 q2 => dx_reset B (fun pt aw rcx cc ts e1 e2 e3 e4 => h _ _ ⟨dc_Au A j q false, fun s r => rp' (s * 12 + r), fun _ _ => 0, fun _ _ => -1, fun _ => 0, fun _ => 0, c, pf, mb, D', B, hH1, hH, q1, dc_fw0 R L, dc_pm0 R L, ⟨rfl, rfl, rfl, dc_TXr TX hj hq hR, Xpf, Xmb, q2, fun _ _ _ _ => rfl, e1, e2, e3, e4⟩⟩)))⟩
  · exact br_t rfl (h _ _ same)
theorem dp_setCost {post : Int32 → St2 → Prop} {R L H j d : Nat} {u : St2} (I : dp_I R L H u) (hj : j < L) (d1 : 1 ≤ d) (hd : d ≤ 15) (h : ∀ r u', dp_I R L H u' → post r u') : wpX_setCost post u (nI j) (nI d) := by
  obtain ⟨A, rp, P, F, rc, ca, I⟩ := I
  obtain ⟨c, pf, mb, D, B, hH1, hH, Q, hF, hP, X⟩ := I
  obtain ⟨xR, xL, xH, xas, xlc, xpf, xmb, xrd, xrp, xpt, xaw, xrc, xcc, xts, xpk⟩ := u
  obtain ⟨rfl, rfl, rfl, TX, Xpf, Xmb, XD, XR, XP, XF, Xrc, Xca⟩ := X
  have hR : R ≤ 12 := B.2.1
  have hL : L ≤ 16 := B.2.2.2.1
  have same : dp_I R L H (nI R, nI L, nI H, xas, xlc, xpf, xmb, xrd, xrp, xpt, xaw, xrc, xcc, xts, xpk) := ⟨A, rp, P, F, rc, ca, c, pf, mb, D, B, hH1, hH, Q, hF, hP, ⟨rfl, rfl, rfl, TX, Xpf, Xmb, XD, XR, XP, XF, Xrc, Xca⟩⟩
  unfold wpX_setCost
  refine dx_link1 hj hL (br_f (by decide) (br_f (nI_nlt (b := 1) d1 (by omega)) (br_t (nI_le (b := 15) hd (by decide)) ⟨vp_in_nI (by omega) (by omega), nm_e ?_⟩)))
  rw [dc_cl j (by omega)]
  exact dx_routes (dc_Bc B j d1 hd) (dc_TXc TX j d) (fun rd rp' D' q1 q2 => dx_reset (dc_Bc B j d1 hd) (fun pt aw rcx cc ts e1 e2 e3 e4 => h _ _ ⟨A, fun s r => rp' (s * 12 + r), fun _ _ => 0, fun _ _ => -1, fun _ => 0, fun _ => 0, dc_cu c j d, pf, mb, D', dc_Bc B j d1 hd, hH1, hH, q1, dc_fw0 R L, dc_pm0 R L, ⟨rfl, rfl, rfl, dc_TXc TX j d, Xpf, Xmb, q2, fun _ _ _ _ => rfl, e1, e2, e3, e4⟩⟩))
theorem dp_setPreference {post : Int32 → St2 → Prop} {R L H j d : Nat} {u : St2} (I : dp_I R L H u) (hj : j < R) (hd : d ≤ 255) (h : ∀ r u', dp_I R L H u' → post r u') : wpX_setPreference post u (nI j) (nI d) := by
  obtain ⟨A, rp, P, F, rc, ca, I⟩ := I
  obtain ⟨c, pf, mb, D, B, hH1, hH, Q, hF, hP, X⟩ := I
  obtain ⟨xR, xL, xH, xas, xlc, xpf, xmb, xrd, xrp, xpt, xaw, xrc, xcc, xts, xpk⟩ := u
  obtain ⟨rfl, rfl, rfl, TX, Xpf, Xmb, XD, XR, XP, XF, Xrc, Xca⟩ := X
  have hR : R ≤ 12 := B.2.1
  have hL : L ≤ 16 := B.2.2.2.1
  have same : dp_I R L H (nI R, nI L, nI H, xas, xlc, xpf, xmb, xrd, xrp, xpt, xaw, xrc, xcc, xts, xpk) := ⟨A, rp, P, F, rc, ca, c, pf, mb, D, B, hH1, hH, Q, hF, hP, ⟨rfl, rfl, rfl, TX, Xpf, Xmb, XD, XR, XP, XF, Xrc, Xca⟩⟩
  unfold wpX_setPreference
  refine dx_router1 hj hR (br_f (by decide) (br_f (nI_pos (by omega)) (br_t (nI_le (b := 255) hd (by decide)) ⟨vp_in_nI (by omega) (by omega), nm_e ?_⟩)))
  rw [dc_cl j (by omega)]
  exact dx_reset B (fun pt aw rcx cc ts e1 e2 e3 e4 => h _ _ ⟨A, rp, fun _ _ => 0, fun _ _ => -1, fun _ => 0, fun _ => 0, c, upd pf j (nI d), mb, D, B, hH1, hH, Q, dc_fw0 R L, dc_pm0 R L, ⟨rfl, rfl, rfl, TX, dc_row Xpf j _, Xmb, XD, XR, e1, e2, e3, e4⟩⟩)
theorem dp_join {post : Int32 → St2 → Prop} {R L H j : Nat} {u : St2} (I : dp_I R L H u) (hj : j < R) (h : ∀ r u', dp_I R L H u' → post r u') : wpX_join post u (nI j) := by
  obtain ⟨A, rp, P, F, rc, ca, I⟩ := I
  obtain ⟨c, pf, mb, D, B, hH1, hH, Q, hF, hP, X⟩ := I
  obtain ⟨xR, xL, xH, xas, xlc, xpf, xmb, xrd, xrp, xpt, xaw, xrc, xcc, xts, xpk⟩ := u
  obtain ⟨rfl, rfl, rfl, TX, Xpf, Xmb, XD, XR, XP, XF, Xrc, Xca⟩ := X
  have hR : R ≤ 12 := B.2.1
  have hL : L ≤ 16 := B.2.2.2.1
  have same : dp_I R L H (nI R, nI L, nI H, xas, xlc, xpf, xmb, xrd, xrp, xpt, xaw, xrc, xcc, xts, xpk) := ⟨A, rp, P, F, rc, ca, c, pf, mb, D, B, hH1, hH, Q, hF, hP, ⟨rfl, rfl, rfl, TX, Xpf, Xmb, XD, XR, XP, XF, Xrc, Xca⟩⟩
  unfold wpX_join
  refine dx_router1 hj hR (br_f (by decide) ⟨vp_in_nI (by omega) (by omega), ?_⟩)
  rw [dc_cl j (by omega), Xmb j hj]
  by_cases z : mb j = 0
  · exact br_t z ⟨vp_in_nI (by omega) (by omega), nm_e (dx_join28 B TX Q XD XR hj hF XF XP (fun pt' g => h _ _ ⟨A, rp, dc_jn R A c D rp F j P R, F, rc, ca, c, pf, upd mb j 1, D, B, hH1, hH, Q, hF, dc_jn_pm hP R, ⟨rfl, rfl, rfl, TX, Xpf, dc_row Xmb j _, XD, XR, g, XF, Xrc, Xca⟩⟩))⟩
  · exact br_f z (h _ _ same)
theorem dp_leave {post : Int32 → St2 → Prop} {R L H j : Nat} {u : St2} (I : dp_I R L H u) (hj : j < R) (h : ∀ r u', dp_I R L H u' → post r u') : wpX_leave post u (nI j) := by
  obtain ⟨A, rp, P, F, rc, ca, I⟩ := I
  obtain ⟨c, pf, mb, D, B, hH1, hH, Q, hF, hP, X⟩ := I
  obtain ⟨xR, xL, xH, xas, xlc, xpf, xmb, xrd, xrp, xpt, xaw, xrc, xcc, xts, xpk⟩ := u
  obtain ⟨rfl, rfl, rfl, TX, Xpf, Xmb, XD, XR, XP, XF, Xrc, Xca⟩ := X
  have hR : R ≤ 12 := B.2.1
  have hL : L ≤ 16 := B.2.2.2.1
  have same : dp_I R L H (nI R, nI L, nI H, xas, xlc, xpf, xmb, xrd, xrp, xpt, xaw, xrc, xcc, xts, xpk) := ⟨A, rp, P, F, rc, ca, c, pf, mb, D, B, hH1, hH, Q, hF, hP, ⟨rfl, rfl, rfl, TX, Xpf, Xmb, XD, XR, XP, XF, Xrc, Xca⟩⟩
  unfold wpX_leave
  refine dx_router1 hj hR (br_f (by decide) ⟨vp_in_nI (by omega) (by omega), ?_⟩)
  rw [dc_cl j (by omega), Xmb j hj]
  by_cases z : mb j = 0
  · exact br_t z (h _ _ same)
  · exact br_f z ⟨vp_in_nI (by omega) (by omega), nm_e (h _ _ ⟨A, rp, P, F, rc, ca, c, pf, upd mb j 0, D, B, hH1, hH, Q, hF, hP, ⟨rfl, rfl, rfl, TX, Xpf, dc_row Xmb j _, XD, XR, XP, XF, Xrc, Xca⟩⟩)⟩
theorem dp_tick {post : St2 → Prop} {R L H m : Nat} {u : St2} (I : dp_I R L H u) (h1 : 1 ≤ m) (hm : m ≤ 64) (h : ∀ u', dp_I R L H u' → post u') : wpX_tick post u (nI m) := by
  obtain ⟨A, rp, P, F, rc, ca, I⟩ := I
  obtain ⟨c, pf, mb, D, B, hH1, hH, Q, hF, hP, X⟩ := I
  obtain ⟨xR, xL, xH, xas, xlc, xpf, xmb, xrd, xrp, xpt, xaw, xrc, xcc, xts, xpk⟩ := u
  obtain ⟨rfl, rfl, rfl, TX, Xpf, Xmb, XD, XR, XP, XF, Xrc, Xca⟩ := X
  have hR : R ≤ 12 := B.2.1
  have hL : L ≤ 16 := B.2.2.2.1
  have same : dp_I R L H (nI R, nI L, nI H, xas, xlc, xpf, xmb, xrd, xrp, xpt, xaw, xrc, xcc, xts, xpk) := ⟨A, rp, P, F, rc, ca, c, pf, mb, D, B, hH1, hH, Q, hF, hP, ⟨rfl, rfl, rfl, TX, Xpf, Xmb, XD, XR, XP, XF, Xrc, Xca⟩⟩
  exact br_t (nI_le (a := 1) h1 (by omega)) (br_t (nI_le (b := 64) hm (by decide)) (dx_tick21 hR hL hm hP XP (fun pt' g1 => h _ ⟨A, rp, dc_tk P m, F, rc, ca, c, pf, mb, D, B, hH1, hH, Q, hF, dc_tk_pm hP m, ⟨rfl, rfl, rfl, TX, Xpf, Xmb, XD, XR, g1, XF, Xrc, Xca⟩⟩)))
/-- behind a send from s: z is its record -/
def dp_J (R L H s : Nat) (z : (Nat → Nat) × (Nat → Nat) × (Nat → Nat → Bool)) (u : St2) : Prop := ∃ A rp P F N b, z = dc_sz R L A rp P F s ∧ rp s s = -1 ∧
  dp_K R L H A rp (dc_pr R (rp s) (dc_sz R L A rp P F s).2.2 N (nI H) s P L) (dc_fo R (dc_sz R L A rp P F s).2.2 b s F L) (fun y => nI (z.1 y)) (fun k => nI (z.2.1 k)) u
theorem dp_JI {R L H s : Nat} {z : (Nat → Nat) × (Nat → Nat) × (Nat → Nat → Bool)} {u : St2} (J : dp_J R L H s z u) : dp_I R L H u := by
  obtain ⟨A, rp, P, F, N, b, _, _, k⟩ := J
  exact ⟨_, _, _, _, _, _, k⟩
/-- a send from a sound state -/
theorem dp_sendK {post : Int32 → St2 → Prop} {R L H s : Nat} {A : Nat → Nat → Bool} {rp P F : Nat → Nat → Int32} {rc ca : Nat → Int32} {u : St2} (I : dp_K R L H A rp P F rc ca u) (hs : s < R)
    (h : ∀ n u' N b, n ≤ 12 → rp s s = -1 → dp_K R L H A rp (dc_pr R (rp s) (dc_sz R L A rp P F s).2.2 N (nI H) s P L) (dc_fo R (dc_sz R L A rp P F s).2.2 b s F L) (fun y => nI ((dc_sz R L A rp P F s).1 y)) (fun k => nI ((dc_sz R L A rp P F s).2.1 k)) u' → post (nI n) u') : wpX_send post u (nI s) := by
  obtain ⟨c, pf, mb, D, B, hH1, hH, Q, hF, hP, X⟩ := I
  obtain ⟨xR, xL, xH, xas, xlc, xpf, xmb, xrd, xrp, xpt, xaw, xrc, xcc, xts, xpk⟩ := u
  obtain ⟨rfl, rfl, rfl, TX, Xpf, Xmb, XD, XR, XP, XF, Xrc, Xca⟩ := X
  have hR : R ≤ 12 := B.2.1
  have hL : L ≤ 16 := B.2.2.2.1
  have c1 := B.2.2.2.2.1
  have e0 : rp s s = -1 := dc_isR_u ((Q s hs).2 s hs) (Or.inl ⟨rfl, fun k hk => dc_Hp_s (Q s hs).1 c1 hk⟩)
  refine dx_send B TX Q hs Xpf Xmb XD XR XP XF (fun N pt' aw' rc' cc' ts' pk' a1 a2 a3 a4 a5 a6 => h _ _ N (dc_be pf (D s)) ?_ e0 ⟨c, pf, mb, D, B, hH1, hH, Q, dc_fo_fw hF L, dc_pr_pm hP hH L, ⟨rfl, rfl, rfl, TX, Xpf, Xmb, XD, XR, a3, a4, a5, a6⟩⟩)
  exact Nat.le_trans (dc_cn_le _ R) hR
theorem dp_send {post : Int32 → St2 → Prop} {R L H s : Nat} {u : St2} (I : dp_I R L H u) (hs : s < R) (h : ∀ n u' z, n ≤ 12 → dp_J R L H s z u' → post (nI n) u') : wpX_send post u (nI s) := by
  obtain ⟨A, rp, P, F, rc, ca, I⟩ := I
  exact dp_sendK I hs (fun n u' N b hn e0 k => h n u' _ hn ⟨A, rp, P, F, N, b, rfl, e0, k⟩)
theorem dp_second {post : Int32 → St2 → Prop} {R L H s : Nat} {z : (Nat → Nat) × (Nat → Nat) × (Nat → Nat → Bool)} {u : St2} (J : dp_J R L H s z u) (hs : s < R)
    (h : ∀ n u' z2, n ≤ 12 → dp_J R L H s z2 u' → (∀ k, k < L → z2.2.1 k ≤ 1) → (∀ y, y < R → z2.1 y ≤ 1) → (∀ y, y < R → 1 ≤ z2.1 y → 1 ≤ z.1 y) → post (nI n) u') : wpX_send post u (nI s) := by
  obtain ⟨A, rp, P, F, N, b, ez, e0, I⟩ := J
  have I' := I
  obtain ⟨c, pf, mb, D, B, hH1, hH, _⟩ := I'
  have hR : R ≤ 12 := B.2.1
  have hL : L ≤ 16 := B.2.2.2.1
  have two := dc_second (A := A) (rp := rp) (P := P) (F := F) (b := b) (N := N) hR hL hs hH1 hH e0 rfl rfl
  exact dp_sendK I hs (fun n u' N' b' hn _ k => h n u' _ hn ⟨A, rp, _, _, N', b', rfl, e0, k⟩ two.1 two.2.1 (fun y hy o => by rw [ez]; exact two.2.2 y hy o))
/-! the calls that only look -/
theorem dp_received {post : Int32 → Prop} {R L H s y : Nat} {z : (Nat → Nat) × (Nat → Nat) × (Nat → Nat → Bool)} {u : St2} (J : dp_J R L H s z u) (hy : y < R) (h : post (nI (z.1 y))) : wpX_received post u (nI y) := by
  obtain ⟨A, rp, P, F, N, b, ez, e0, I⟩ := J
  obtain ⟨c, pf, mb, D, B, hH1, hH, Q, hF, hP, X⟩ := I
  obtain ⟨xR, xL, xH, xas, xlc, xpf, xmb, xrd, xrp, xpt, xaw, xrc, xcc, xts, xpk⟩ := u
  obtain ⟨rfl, rfl, rfl, TX, Xpf, Xmb, XD, XR, XP, XF, Xrc, Xca⟩ := X
  have hR : R ≤ 12 := B.2.1
  have hL : L ≤ 16 := B.2.2.2.1
  unfold wpX_received
  refine dx_router1 hy hR (br_f (by decide) ⟨vp_in_nI (by omega) (by omega), ?_⟩)
  rw [dc_cl y (by omega), Xrc y hy]
  exact h
theorem dp_carried {post : Int32 → Prop} {R L H s k : Nat} {z : (Nat → Nat) × (Nat → Nat) × (Nat → Nat → Bool)} {u : St2} (J : dp_J R L H s z u) (hk : k < L) (h : post (nI (z.2.1 k))) : wpX_carried post u (nI k) := by
  obtain ⟨A, rp, P, F, N, b, ez, e0, I⟩ := J
  obtain ⟨c, pf, mb, D, B, hH1, hH, Q, hF, hP, X⟩ := I
  obtain ⟨xR, xL, xH, xas, xlc, xpf, xmb, xrd, xrp, xpt, xaw, xrc, xcc, xts, xpk⟩ := u
  obtain ⟨rfl, rfl, rfl, TX, Xpf, Xmb, XD, XR, XP, XF, Xrc, Xca⟩ := X
  have hR : R ≤ 12 := B.2.1
  have hL : L ≤ 16 := B.2.2.2.1
  unfold wpX_carried
  refine dx_link1 hk hL (br_f (by decide) ⟨vp_in_nI (by omega) (by omega), ?_⟩)
  rw [dc_cl k (by omega), Xca k hk]
  exact h
theorem dp_distance {post : Int32 → Prop} {R L H s r : Nat} {u : St2} (I : dp_I R L H u) (hs : s < R) (hr : r < R) (h : ∀ v, post v) : wpX_distance post u (nI s) (nI r) := by
  obtain ⟨A, rp, P, F, rc, ca, I⟩ := I
  obtain ⟨c, pf, mb, D, B, hH1, hH, Q, hF, hP, X⟩ := I
  obtain ⟨xR, xL, xH, xas, xlc, xpf, xmb, xrd, xrp, xpt, xaw, xrc, xcc, xts, xpk⟩ := u
  obtain ⟨rfl, rfl, rfl, TX, Xpf, Xmb, XD, XR, XP, XF, Xrc, Xca⟩ := X
  have hR : R ≤ 12 := B.2.1
  have hL : L ≤ 16 := B.2.2.2.1
  have same : dp_I R L H (nI R, nI L, nI H, xas, xlc, xpf, xmb, xrd, xrp, xpt, xaw, xrc, xcc, xts, xpk) := ⟨A, rp, P, F, rc, ca, c, pf, mb, D, B, hH1, hH, Q, hF, hP, ⟨rfl, rfl, rfl, TX, Xpf, Xmb, XD, XR, XP, XF, Xrc, Xca⟩⟩
  unfold wpX_distance
  exact dx_router1 hs hR (br_f (by decide) (dx_router1 hr hR (br_f (by decide) ⟨dc_v12 s r (by omega) (by omega), nm_e (br_c (fun _ => h _) (fun _ => h _))⟩)))
theorem dp_rpfLink {post : Int32 → Prop} {R L H s r : Nat} {u : St2} (I : dp_I R L H u) (hs : s < R) (hr : r < R) (h : ∀ v, post v) : wpX_rpfLink post u (nI s) (nI r) := by
  obtain ⟨A, rp, P, F, rc, ca, I⟩ := I
  obtain ⟨c, pf, mb, D, B, hH1, hH, Q, hF, hP, X⟩ := I
  obtain ⟨xR, xL, xH, xas, xlc, xpf, xmb, xrd, xrp, xpt, xaw, xrc, xcc, xts, xpk⟩ := u
  obtain ⟨rfl, rfl, rfl, TX, Xpf, Xmb, XD, XR, XP, XF, Xrc, Xca⟩ := X
  have hR : R ≤ 12 := B.2.1
  have hL : L ≤ 16 := B.2.2.2.1
  have same : dp_I R L H (nI R, nI L, nI H, xas, xlc, xpf, xmb, xrd, xrp, xpt, xaw, xrc, xcc, xts, xpk) := ⟨A, rp, P, F, rc, ca, c, pf, mb, D, B, hH1, hH, Q, hF, hP, ⟨rfl, rfl, rfl, TX, Xpf, Xmb, XD, XR, XP, XF, Xrc, Xca⟩⟩
  unfold wpX_rpfLink
  exact dx_router1 hs hR (br_f (by decide) (dx_router1 hr hR (br_f (by decide) ⟨dc_v12 s r (by omega) (by omega), h _⟩)))
theorem dp_forwarder {post : Int32 → Prop} {R L H s k : Nat} {u : St2} (I : dp_I R L H u) (hs : s < R) (hk : k < L) (h : ∀ v, post v) : wpX_forwarder post u (nI s) (nI k) := by
  obtain ⟨A, rp, P, F, rc, ca, I⟩ := I
  obtain ⟨c, pf, mb, D, B, hH1, hH, Q, hF, hP, X⟩ := I
  obtain ⟨xR, xL, xH, xas, xlc, xpf, xmb, xrd, xrp, xpt, xaw, xrc, xcc, xts, xpk⟩ := u
  obtain ⟨rfl, rfl, rfl, TX, Xpf, Xmb, XD, XR, XP, XF, Xrc, Xca⟩ := X
  have hR : R ≤ 12 := B.2.1
  have hL : L ≤ 16 := B.2.2.2.1
  have same : dp_I R L H (nI R, nI L, nI H, xas, xlc, xpf, xmb, xrd, xrp, xpt, xaw, xrc, xcc, xts, xpk) := ⟨A, rp, P, F, rc, ca, c, pf, mb, D, B, hH1, hH, Q, hF, hP, ⟨rfl, rfl, rfl, TX, Xpf, Xmb, XD, XR, XP, XF, Xrc, Xca⟩⟩
  unfold wpX_forwarder
  exact dx_router1 hs hR (br_f (by decide) (dx_link1 hk hL (br_f (by decide) ⟨dc_v16 s k (by omega) (by omega), h _⟩)))
theorem dp_pruneLeft {post : Int32 → Prop} {R L H s k : Nat} {u : St2} (I : dp_I R L H u) (hs : s < R) (hk : k < L) (h : ∀ v, post v) : wpX_pruneLeft post u (nI s) (nI k) := by
  obtain ⟨A, rp, P, F, rc, ca, I⟩ := I
  obtain ⟨c, pf, mb, D, B, hH1, hH, Q, hF, hP, X⟩ := I
  obtain ⟨xR, xL, xH, xas, xlc, xpf, xmb, xrd, xrp, xpt, xaw, xrc, xcc, xts, xpk⟩ := u
  obtain ⟨rfl, rfl, rfl, TX, Xpf, Xmb, XD, XR, XP, XF, Xrc, Xca⟩ := X
  have hR : R ≤ 12 := B.2.1
  have hL : L ≤ 16 := B.2.2.2.1
  have same : dp_I R L H (nI R, nI L, nI H, xas, xlc, xpf, xmb, xrd, xrp, xpt, xaw, xrc, xcc, xts, xpk) := ⟨A, rp, P, F, rc, ca, c, pf, mb, D, B, hH1, hH, Q, hF, hP, ⟨rfl, rfl, rfl, TX, Xpf, Xmb, XD, XR, XP, XF, Xrc, Xca⟩⟩
  unfold wpX_pruneLeft
  exact dx_router1 hs hR (br_f (by decide) (dx_link1 hk hL (br_f (by decide) ⟨dc_v16 s k (by omega) (by omega), h _⟩)))
theorem dp_linkState {post : Int32 → Prop} {R L H k : Nat} {u : St2} (I : dp_I R L H u) (hk : k < L) (h : ∀ v, post v) : wpX_linkState post u (nI k) := by
  obtain ⟨A, rp, P, F, rc, ca, I⟩ := I
  obtain ⟨c, pf, mb, D, B, hH1, hH, Q, hF, hP, X⟩ := I
  obtain ⟨xR, xL, xH, xas, xlc, xpf, xmb, xrd, xrp, xpt, xaw, xrc, xcc, xts, xpk⟩ := u
  obtain ⟨rfl, rfl, rfl, TX, Xpf, Xmb, XD, XR, XP, XF, Xrc, Xca⟩ := X
  have hR : R ≤ 12 := B.2.1
  have hL : L ≤ 16 := B.2.2.2.1
  have same : dp_I R L H (nI R, nI L, nI H, xas, xlc, xpf, xmb, xrd, xrp, xpt, xaw, xrc, xcc, xts, xpk) := ⟨A, rp, P, F, rc, ca, c, pf, mb, D, B, hH1, hH, Q, hF, hP, ⟨rfl, rfl, rfl, TX, Xpf, Xmb, XD, XR, XP, XF, Xrc, Xca⟩⟩
  unfold wpX_linkState
  exact dx_link1 hk hL (br_f (by decide) ⟨vp_in_nI (by omega) (by omega), vp_in_nI (by omega) (by omega), h _⟩)
theorem dp_routerState {post : Int32 → Prop} {R L H r : Nat} {u : St2} (I : dp_I R L H u) (hr : r < R) (h : ∀ v, post v) : wpX_routerState post u (nI r) := by
  obtain ⟨A, rp, P, F, rc, ca, I⟩ := I
  obtain ⟨c, pf, mb, D, B, hH1, hH, Q, hF, hP, X⟩ := I
  obtain ⟨xR, xL, xH, xas, xlc, xpf, xmb, xrd, xrp, xpt, xaw, xrc, xcc, xts, xpk⟩ := u
  obtain ⟨rfl, rfl, rfl, TX, Xpf, Xmb, XD, XR, XP, XF, Xrc, Xca⟩ := X
  have hR : R ≤ 12 := B.2.1
  have hL : L ≤ 16 := B.2.2.2.1
  have same : dp_I R L H (nI R, nI L, nI H, xas, xlc, xpf, xmb, xrd, xrp, xpt, xaw, xrc, xcc, xts, xpk) := ⟨A, rp, P, F, rc, ca, c, pf, mb, D, B, hH1, hH, Q, hF, hP, ⟨rfl, rfl, rfl, TX, Xpf, Xmb, XD, XR, XP, XF, Xrc, Xca⟩⟩
  unfold wpX_routerState
  exact dx_router1 hr hR (br_f (by decide) ⟨vp_in_nI (by omega) (by omega), vp_in_nI (by omega) (by omega), br_c (fun _ => h _) (fun _ => h _)⟩)
end
section
/-! the law, from its last loops to its first row -/
theorem dp_cell {post : Int32 → Prop} {N k : Nat} {xs : Nat → Int32} {x : Int32} (hN : N ≤ 260) (hk : k < 2 ^ 31) (e : x = nI k) (h : ∀ v, post v) : wpL_cell post N xs () x := by
  subst e
  by_cases z : N ≤ k
  · exact br_t (nI_le z hk) (h 0)
  · exact br_f (nI_ge (by omega) (by omega)) ⟨vp_in_nI (by omega) (by omega), h _⟩
theorem dp_lmod {post : Int32 → Prop} (v : Int32) (M : Nat) (h1 : 1 ≤ M) (hM : M ≤ 256) (h : ∀ j, j < M → post (nI j)) : wpL_mod post () v (nI M) := by
  obtain ⟨a, b⟩ := dp_mod v h1 hM
  refine ⟨nI_ne0 (by omega) (by omega), nm_e ?_⟩
  by_cases z : 0 ≤ v - v / nI M * nI M
  · obtain ⟨j, hj, e⟩ := b (Int32.not_lt.mpr z)
    refine br_t z ?_
    rw [e]
    exact h j hj
  · obtain ⟨j, hj, e⟩ := a (Int32.not_le.mp z)
    refine br_f z ?_
    rw [e]
    exact h j hj
section
variable {post : Int32 → Prop} {N : Nat} {xs : Nat → Int32} {J81 : Int32 → Int32 → Int32 → Int32 → (Nat → Int32) → (Nat → Int32) → (Nat → Int32) → (Nat → Int32) → (Nat → Int32) → (Nat → Int32) → (Nat → Int32) → (Nat → Int32) → (Nat → Int32) → (Nat → Int32) → (Nat → Int32) → (Nat → Int32) → Prop} {R L H s i kc ks : Nat} {x5 x13 : Int32} {z z2 : (Nat → Nat) × (Nat → Nat) × (Nat → Nat → Bool)} {f1 f2 f3 : Int32} {a1 a2 a3 a4 a5 a6 a7 a8 a9 a10 a11 a12 : Nat → Int32}
/-- the routers' counts behind the second send -/
theorem dp_548 (hR : R ≤ 12) (J : dp_J R L H s z2 (f1, f2, f3, a1, a2, a3, a4, a5, a6, a7, a8, a9, a10, a11, a12)) (M : dc_ms R x13 (fun y => decide (1 ≤ z.1 y))) (g2 : ∀ y, y < R → z2.1 y ≤ 1) (g3 : ∀ y, y < R → 1 ≤ z2.1 y → 1 ≤ z.1 y)
    (h : J81 (nI (i + 1)) f1 f2 f3 a1 a2 a3 a4 a5 a6 a7 a8 a9 a10 a11 a12) : ∃ n, wL_law_548 post N xs J81 (nI R) (nI L) x5 (nI i) x13 kc ks f1 f2 f3 a1 a2 a3 a4 a5 a6 a7 a8 a9 a10 a11 a12 n 0 := by
  refine loop_0 (fun n y (_ : Unit) => wL_law_548 post N xs J81 (nI R) (nI L) x5 (nI i) x13 kc ks f1 f2 f3 a1 a2 a3 a4 a5 a6 a7 a8 a9 a10 a11 a12 n (nI y)) (fun _ _ => True) R () trivial ?_ ?_
  · intro n _ _
    exact br_t (dc_end (by omega)) (nm_r (nI_1 i) h)
  · intro n y _ hy _ hn
    have nx : wL_law_548 post N xs J81 (nI R) (nI L) x5 (nI i) x13 kc ks f1 f2 f3 a1 a2 a3 a4 a5 a6 a7 a8 a9 a10 a11 a12 n (nI (y + 1)) := hn () trivial
    refine br_f (dc_in hy (by omega)) (dp_received J hy ?_)
    have o := g2 y hy
    by_cases e : z2.1 y = 0
    · rw [e]
      exact br_t rfl (br_f (by decide) (nm_r (nI_1 y) nx))
    · have e1 : z2.1 y = 1 := by omega
      have bit := (dc_ms_bit M hy hR).mpr (decide_eq_true (g3 y hy (by omega)))
      rw [e1]
      refine br_f (by decide) (br_t rfl (br_t rfl (br_f (fun w => ?_) (nm_r (nI_1 y) nx))))
      rw [w] at bit
      exact absurd bit (by decide)
/-- the links' counts behind the second send -/
theorem dp_511 (hL : L ≤ 16) (J : dp_J R L H s z2 (f1, f2, f3, a1, a2, a3, a4, a5, a6, a7, a8, a9, a10, a11, a12)) (g1 : ∀ k, k < L → z2.2.1 k ≤ 1)
    (h : ∃ n, wL_law_548 post N xs J81 (nI R) (nI L) x5 (nI i) x13 kc ks f1 f2 f3 a1 a2 a3 a4 a5 a6 a7 a8 a9 a10 a11 a12 n 0) : ∃ n, wL_law_511 post N xs J81 (nI R) (nI L) x5 (nI i) x13 kc ks f1 f2 f3 a1 a2 a3 a4 a5 a6 a7 a8 a9 a10 a11 a12 n 0 := by
  refine loop_0 (fun n y (_ : Unit) => wL_law_511 post N xs J81 (nI R) (nI L) x5 (nI i) x13 kc ks f1 f2 f3 a1 a2 a3 a4 a5 a6 a7 a8 a9 a10 a11 a12 n (nI y)) (fun _ _ => True) L () trivial ?_ ?_
  · intro n _ _
    exact br_t (dc_end (by omega)) h
  · intro n y _ hy _ hn
    have nx : wL_law_511 post N xs J81 (nI R) (nI L) x5 (nI i) x13 kc ks f1 f2 f3 a1 a2 a3 a4 a5 a6 a7 a8 a9 a10 a11 a12 n (nI (y + 1)) := hn () trivial
    refine br_f (dc_in hy (by omega)) (dp_carried J hy ?_)
    have o := g1 y hy
    by_cases e : z2.2.1 y = 0
    · rw [e]
      exact br_t rfl (nm_r (nI_1 y) nx)
    · have e1 : z2.2.1 y = 1 := by omega
      rw [e1]
      exact br_f (by decide) (br_t rfl (nm_r (nI_1 y) nx))
theorem dp_Jb (hs : s < R) {u : St2} (J : dp_J R L H s z u) (y : Nat) : z.1 y ≤ 2497 := by
  obtain ⟨A, rp, P, F, N, b, ez, e0, c, pf, mb, D, B, _⟩ := J
  have FI := dc_FIn (R := R) (L := L) (rp := rp s) (can := dc_can R A (rp s) (P s) (F s)) hs R
  rw [ez]
  exact dc_FI_b FI B.2.1 B.2.2.2.1 (by have := B.2.1; omega) y
/-- behind the first send: its reached routers as bits, the looks, the second send -/
theorem dp_380 {x10 : Int32} (hR1 : 2 ≤ R) (hR : R ≤ 12) (hL1 : 1 ≤ L) (hL : L ≤ 16) (hs : s < R) (J : dp_J R L H s z (f1, f2, f3, a1, a2, a3, a4, a5, a6, a7, a8, a9, a10, a11, a12)) (h : ∀ f1' f2' f3' a1' a2' a3' a4' a5' a6' a7' a8' a9' a10' a11' a12', dp_I R L H (f1', f2', f3', a1', a2', a3', a4', a5', a6', a7', a8', a9', a10', a11', a12') → J81 (nI (i + 1)) f1' f2' f3' a1' a2' a3' a4' a5' a6' a7' a8' a9' a10' a11' a12') :
    ∃ n, wL_law_380 post N xs J81 (nI R) (nI L) x5 (nI i) x10 (nI s) kc ks f1 f2 f3 a1 a2 a3 a4 a5 a6 a7 a8 a9 a10 a11 a12 n 0 0 := by
  have hb := dp_Jb hs J
  have I := dp_JI J
  refine loop_0 (fun n y v => wL_law_380 post N xs J81 (nI R) (nI L) x5 (nI i) x10 (nI s) kc ks f1 f2 f3 a1 a2 a3 a4 a5 a6 a7 a8 a9 a10 a11 a12 n v (nI y)) (fun y v => dc_ms R v (fun r => decide (r < y ∧ 1 ≤ z.1 r))) R 0 (dc_ms_ext (dc_ms_0 R) (fun i _ => (decide_eq_false (fun w => absurd w.1 (Nat.not_lt_zero i))).symm)) ?_ ?_
  · intro n v hv
    have hv' : dc_ms R v (fun y => decide (1 ≤ z.1 y)) := by
      refine dc_ms_ext hv (fun r hr => ?_)
      by_cases q : 1 ≤ z.1 r
      · rw [decide_eq_true (show r < R ∧ 1 ≤ z.1 r from ⟨hr, q⟩), decide_eq_true q]
      · rw [decide_eq_false (show ¬ (r < R ∧ 1 ≤ z.1 r) from fun w => q w.2), decide_eq_false q]
    refine br_t (dc_end (by omega)) (dp_lmod x10 R (by omega) (by omega) (fun rb hrb => dp_lmod x10 L (by omega) (by omega) (fun kb hkb => ?_)))
    refine dp_distance I hs hrb (fun _ => dp_rpfLink I hs hrb (fun _ => dp_forwarder I hs hkb (fun _ => dp_pruneLeft I hs hkb (fun _ => dp_linkState I hkb (fun _ => dp_routerState I hrb (fun _ => dp_carried J hkb (dp_received J hrb ?_)))))))
    refine dp_second J hs (fun n u' z2 hn J2 g1 g2 g3 => ?_)
    obtain ⟨f1', f2', f3', a1', a2', a3', a4', a5', a6', a7', a8', a9', a10', a11', a12'⟩ := u'
    exact dp_511 hL J2 g1 (dp_548 hR J2 hv' g2 g3 (h _ _ _ _ _ _ _ _ _ _ _ _ _ _ _ (dp_JI J2)))
  · intro n y v hy hv hn
    refine br_f (dc_in hy (by omega)) (dp_received J hy ?_)
    have o := hb y
    by_cases q : z.1 y < 1
    · refine br_t (nI_lt (b := 1) q (by decide)) (nm_r (nI_1 y) (hn _ (dc_ms_ext hv (fun j hj => ?_))))
      by_cases e : j < y ∧ 1 ≤ z.1 j
      · rw [decide_eq_true e, decide_eq_true (show j < y + 1 ∧ 1 ≤ z.1 j from ⟨by omega, e.2⟩)]
      · have g : ¬ (j < y + 1 ∧ 1 ≤ z.1 j) := by
          intro w
          by_cases t : j = y
          · rw [t] at w; omega
          · exact e ⟨by omega, w.2⟩
        rw [decide_eq_false e, decide_eq_false g]
    · refine br_f (nI_nlt (b := 1) (by omega) (by omega)) (nm_e (nm_r (nI_1 y) (hn _ (dc_ms_ext (dc_ms_or hv hy hR) (fun j hj => ?_)))))
      show (if j = y then true else decide (j < y ∧ 1 ≤ z.1 j)) = decide (j < y + 1 ∧ 1 ≤ z.1 j)
      by_cases t : j = y
      · rw [if_pos t, decide_eq_true (show j < y + 1 ∧ 1 ≤ z.1 j by rw [t]; omega)]
      · rw [if_neg t]
        by_cases e : j < y ∧ 1 ≤ z.1 j
        · rw [decide_eq_true e, decide_eq_true (show j < y + 1 ∧ 1 ≤ z.1 j from ⟨by omega, e.2⟩)]
        · rw [decide_eq_false e, decide_eq_false (show ¬ (j < y + 1 ∧ 1 ≤ z.1 j) from fun w => e ⟨by omega, w.2⟩)]
end
end
section
/-! one step of the law, its loop, the whole -/
section
variable {post : Int32 → Prop} {N : Nat} {xs : Nat → Int32} {J81 : Int32 → Int32 → Int32 → Int32 → (Nat → Int32) → (Nat → Int32) → (Nat → Int32) → (Nat → Int32) → (Nat → Int32) → (Nat → Int32) → (Nat → Int32) → (Nat → Int32) → (Nat → Int32) → (Nat → Int32) → (Nat → Int32) → (Nat → Int32) → Prop} {R L H i kc ks : Nat} {x5 : Int32} {f1 f2 f3 : Int32} {a1 a2 a3 a4 a5 a6 a7 a8 a9 a10 a11 a12 : Nat → Int32}
theorem dp_119 {p c0 : Nat} (hN : N ≤ 260) (hR1 : 2 ≤ R) (hR : R ≤ 12) (hL1 : 1 ≤ L) (hL : L ≤ 16) (hp : p ≤ 1000) (hc : c0 < 10) (I : dp_I R L H (f1, f2, f3, a1, a2, a3, a4, a5, a6, a7, a8, a9, a10, a11, a12)) (h : ∀ f1' f2' f3' a1' a2' a3' a4' a5' a6' a7' a8' a9' a10' a11' a12', dp_I R L H (f1', f2', f3', a1', a2', a3', a4', a5', a6', a7', a8', a9', a10', a11', a12') → J81 (nI (i + 1)) f1' f2' f3' a1' a2' a3' a4' a5' a6' a7' a8' a9' a10' a11' a12') :
    wL_law_119 post N xs J81 (nI R) (nI L) x5 (nI i) (nI p) (nI c0) kc ks f1 f2 f3 a1 a2 a3 a4 a5 a6 a7 a8 a9 a10 a11 a12 := by
  have h' : ∀ u', dp_I R L H u' → J81 (nI (i + 1)) u'.1 u'.2.1 u'.2.2.1 u'.2.2.2.1 u'.2.2.2.2.1 u'.2.2.2.2.2.1 u'.2.2.2.2.2.2.1 u'.2.2.2.2.2.2.2.1 u'.2.2.2.2.2.2.2.2.1 u'.2.2.2.2.2.2.2.2.2.1 u'.2.2.2.2.2.2.2.2.2.2.1 u'.2.2.2.2.2.2.2.2.2.2.2.1 u'.2.2.2.2.2.2.2.2.2.2.2.2.1 u'.2.2.2.2.2.2.2.2.2.2.2.2.2.1 u'.2.2.2.2.2.2.2.2.2.2.2.2.2.2 := fun u' I' => h _ _ _ _ _ _ _ _ _ _ _ _ _ _ _ I'
  refine dp_cell hN (by omega) (nI_1 p) (fun a => dp_cell hN (by omega) (nI_add p 2) (fun b => ?_))
  by_cases z3 : 3 < c0
  · refine br_t (nI_lt (a := 3) z3 (by omega)) ?_
    by_cases z4 : c0 = 4
    · refine br_t (by rw [z4] <;> rfl) (dp_lmod a L (by omega) (by omega) (fun j hj => dp_lmod b R (by omega) (by omega) (fun q hq => dp_detach I hj hq (fun r u' I' => ?_))))
      exact nm_r (nI_1 i) (h' u' I')
    · refine br_f (fun w => z4 ((nI_eq (b := 4) (by omega) (by decide)).mp w)) ?_
      by_cases z5 : c0 = 5
      · refine br_t (by rw [z5] <;> rfl) (dp_lmod a L (by omega) (by omega) (fun j hj => dp_lmod b 15 (by omega) (by omega) (fun q hq => ?_)))
        rw [show 1 + nI q = nI (1 + q) from nI_add 1 q]
        refine dp_setCost I hj (by omega) (by omega) (fun r u' I' => ?_)
        exact nm_r (nI_1 i) (h' u' I')
      · refine br_f (fun w => z5 ((nI_eq (b := 5) (by omega) (by decide)).mp w)) ?_
        by_cases z6 : c0 = 6
        · refine br_t (by rw [z6] <;> rfl) (dp_lmod a R (by omega) (by omega) (fun j hj => dp_lmod b 256 (by omega) (by omega) (fun q hq => dp_setPreference I hj (by omega) (fun r u' I' => ?_))))
          exact nm_r (nI_1 i) (h' u' I')
        · refine br_f (fun w => z6 ((nI_eq (b := 6) (by omega) (by decide)).mp w)) ?_
          by_cases z7 : c0 = 7
          · refine br_t (by rw [z7] <;> rfl) (dp_lmod b 2 (by omega) (by omega) (fun t ht => br_c (fun _ => ?_) (fun _ => ?_)))
            · exact dp_lmod a R (by omega) (by omega) (fun j hj => dp_join I hj (fun r u' I' => nm_r (nI_1 i) (h' u' I')))
            · exact dp_lmod a R (by omega) (by omega) (fun j hj => dp_leave I hj (fun r u' I' => nm_r (nI_1 i) (h' u' I')))
          · refine br_f (fun w => z7 ((nI_eq (b := 7) (by omega) (by decide)).mp w)) ?_
            by_cases z8 : c0 = 8
            · refine br_t (by rw [z8] <;> rfl) (dp_lmod b 2 (by omega) (by omega) (fun t ht => br_c (fun _ => ?_) (fun _ => ?_)))
              · exact dp_lmod a R (by omega) (by omega) (fun j hj => dp_send I hj (fun n u' z hn J => nm_r (nI_1 i) (h' u' (dp_JI J))))
              · refine dp_lmod b 20 (by omega) (by omega) (fun q hq => ?_)
                rw [show 1 + nI q = nI (1 + q) from nI_add 1 q]
                exact dp_tick I (by omega) (by omega) (fun u' I' => nm_r (nI_1 i) (h' u' I'))
            · refine br_f (fun w => z8 ((nI_eq (b := 8) (by omega) (by decide)).mp w)) ?_
              refine dp_lmod a R (by omega) (by omega) (fun s hs => dp_send I hs (fun n u' z hn J => ?_))
              obtain ⟨f1', f2', f3', a1', a2', a3', a4', a5', a6', a7', a8', a9', a10', a11', a12'⟩ := u'
              exact br_t (nI_pos' (by omega)) (dp_380 hR1 hR hL1 hL hs J h)
  · refine br_f (nI_nlt (a := 3) (by omega) (by decide)) (dp_lmod a L (by omega) (by omega) (fun j hj => dp_lmod b R (by omega) (by omega) (fun q hq => dp_attach I hj hq (fun r u' I' => ?_))))
    exact nm_r (nI_1 i) (h' u' I')
end
theorem dp_81 {N : Nat} {xs : Nat → Int32} {R L H n kc ks : Nat} (hN : N ≤ 260) (hR1 : 2 ≤ R) (hR : R ≤ 12) (hL1 : 1 ≤ L) (hL : L ≤ 16) (hn : n ≤ 100) {f1 f2 f3 : Int32} {a1 a2 a3 a4 a5 a6 a7 a8 a9 a10 a11 a12 : Nat → Int32} (I : dp_I R L H (f1, f2, f3, a1, a2, a3, a4, a5, a6, a7, a8, a9, a10, a11, a12)) :
    ∃ m, wL_law_81 (fun r => r = 1) N xs (nI R) (nI L) (nI n) kc ks m 0 f1 f2 f3 a1 a2 a3 a4 a5 a6 a7 a8 a9 a10 a11 a12 := by
  refine loop_0 (fun m i (u : St2) => wL_law_81 (fun r => r = 1) N xs (nI R) (nI L) (nI n) kc ks m (nI i) u.1 u.2.1 u.2.2.1 u.2.2.2.1 u.2.2.2.2.1 u.2.2.2.2.2.1 u.2.2.2.2.2.2.1 u.2.2.2.2.2.2.2.1 u.2.2.2.2.2.2.2.2.1 u.2.2.2.2.2.2.2.2.2.1 u.2.2.2.2.2.2.2.2.2.2.1 u.2.2.2.2.2.2.2.2.2.2.2.1 u.2.2.2.2.2.2.2.2.2.2.2.2.1 u.2.2.2.2.2.2.2.2.2.2.2.2.2.1 u.2.2.2.2.2.2.2.2.2.2.2.2.2.2) (fun _ u => dp_I R L H u) (n + 1) (f1, f2, f3, a1, a2, a3, a4, a5, a6, a7, a8, a9, a10, a11, a12) I ?_ ?_
  · intro m u _
    exact br_t (nI_lt (by omega) (by omega)) rfl
  · intro m i u hi I hm
    obtain ⟨f1, f2, f3, a1, a2, a3, a4, a5, a6, a7, a8, a9, a10, a11, a12⟩ := u
    have nx : ∀ f1' f2' f3' a1' a2' a3' a4' a5' a6' a7' a8' a9' a10' a11' a12', dp_I R L H (f1', f2', f3', a1', a2', a3', a4', a5', a6', a7', a8', a9', a10', a11', a12') → wL_law_81 (fun r => r = 1) N xs (nI R) (nI L) (nI n) kc ks m (nI (i + 1)) f1' f2' f3' a1' a2' a3' a4' a5' a6' a7' a8' a9' a10' a11' a12' := fun f1' f2' f3' a1' a2' a3' a4' a5' a6' a7' a8' a9' a10' a11' a12' I' => hm (f1', f2', f3', a1', a2', a3', a4', a5', a6', a7', a8', a9', a10', a11', a12') I'
    have e3 : (3 : Int32) + 3 * nI i = nI (3 + 3 * i) := by
      rw [show (3 : Int32) = nI 3 from rfl, pk_mul, nI_add]
    refine br_f (nI_nlt (by omega) (by omega)) (nm_r e3 ?_)
    by_cases e : i = n
    · exact br_t (by rw [e]) (dp_119 (c0 := 9) hN hR1 hR hL1 hL (by omega) (by omega) I nx)
    · exact br_f (fun w => e ((nI_eq (by omega) (by omega)).mp w)) (dp_cell hN (by omega) rfl (fun v => dp_lmod v 10 (by omega) (by omega) (fun c0 hc => dp_119 hN hR1 hR hL1 hL (by omega) hc I nx)))
theorem dp_init {post : St2 → Prop} {R L H : Nat} (hR1 : 2 ≤ R) (hR : R ≤ 12) (hL1 : 1 ≤ L) (hL : L ≤ 16) (hH1 : 1 ≤ H) (hH : H ≤ 16) (h : ∀ u, dp_I R L H u → post u) : wpX_init post 12 788 (0, 0, 0) (nI R) (nI L) (nI H) := by
  have B : dc_B R L (fun _ => 1) := ⟨hR1, hR, hL1, hL, fun _ _ => Nat.le_refl 1, fun _ _ => (show (1 : Nat) ≤ 15 by omega)⟩
  have cl : ∀ (p : Int32 → Prop) (v lo hi : Nat), lo ≤ v → v ≤ hi → hi ≤ 16 → p (nI v) → wpX_clamp p () (nI v) (nI lo) (nI hi) := fun p v lo hi a b d q => br_t (nI_le a (by omega)) (br_t (nI_le b (by omega)) q)
  refine ⟨by omega, by omega, by omega, by omega, by omega, by omega, by omega, by omega, by omega, by omega, by omega, by omega, by omega, by omega, by omega, by omega, by omega, by omega, by omega, by omega, by omega, by omega, by omega, by omega, ?_⟩
  refine cl _ R 2 12 hR1 hR (by omega) (cl _ L 1 16 hL1 hL (by omega) (cl _ H 1 16 hH1 hH (by omega) ?_))
  refine loop_0 (fun n i lc => wX_init_140 post 12 788 12 788 (nI R) (nI L) (nI H) n (nI i) (fun _ => 0) lc (fun _ => 0) (fun _ => 0) (fun _ => 0) (fun _ => 0) (fun _ => 0) (fun _ => 0) (fun _ => 0) (fun _ => 0) (fun _ => 0) (fun _ => 0)) (fun i lc => ∀ j, j < i → lc j = 1) L (fun _ => 0) (fun j z => absurd z (Nat.not_lt_zero j)) ?_ ?_
  · intro n lc e
    have T : dc_TX R L (fun _ _ => false) (fun _ => 1) (fun _ => 0) lc := ⟨fun k hk => e k hk, fun k _ => dc_ms_0 R⟩
    exact br_t (dc_end (by omega)) (dx_routes B T (fun rd rp D q1 q2 => dx_reset B (fun pt aw rc cc ts e1 e2 e3 e4 => h _ ⟨fun _ _ => false, fun s r => rp (s * 12 + r), fun _ _ => 0, fun _ _ => -1, fun _ => 0, fun _ => 0, fun _ => 1, fun _ => 0, fun _ => 0, D, B, hH1, hH, q1, dc_fw0 R L, dc_pm0 R L, ⟨rfl, rfl, rfl, T, fun _ _ => rfl, fun _ _ => rfl, q2, fun _ _ _ _ => rfl, e1, e2, e3, e4⟩⟩)))
  · intro n i lc hi e hn
    exact br_f (dc_in hi (by omega)) ⟨vp_in_nI (by omega) (by omega), nm_e (nm_r (nI_1 i) (hn _ (by rw [dc_cl i (by omega)]; exact dc_put e)))⟩
end
section
/-! what is owed -/
theorem dp_67 {N : Nat} {xs : Nat → Int32} {R L H n kc ks : Nat} (hN : N ≤ 260) (hR1 : 2 ≤ R) (hR : R ≤ 12) (hL1 : 1 ≤ L) (hL : L ≤ 16) (hn : n < 2 ^ 31) {f1 f2 f3 : Int32} {a1 a2 a3 a4 a5 a6 a7 a8 a9 a10 a11 a12 : Nat → Int32} (I : dp_I R L H (f1, f2, f3, a1, a2, a3, a4, a5, a6, a7, a8, a9, a10, a11, a12)) :
    wL_law_67 (fun r => r = 1) N xs (nI R) (nI L) (nI n) kc ks f1 f2 f3 a1 a2 a3 a4 a5 a6 a7 a8 a9 a10 a11 a12 := by
  by_cases z : n ≤ 100
  · exact br_t (nI_le (b := 100) z (by decide)) (dp_81 hN hR1 hR hL1 hL z I)
  · exact br_f (nI_ge (a := 100) (by omega) hn) (dp_81 (n := 100) hN hR1 hR hL1 hL (by omega) I)
theorem i_vc (xs : Nat → Int32) (L : Nat) (hL : L ≤ 260) : wpL_law (fun r => r = 1) L xs := by
  unfold wpL_law
  refine dp_cell hL (k := 0) (by omega) rfl (fun v0 => dp_lmod v0 11 (by omega) (by omega) (fun j0 h0 => nm_r (nI_add 2 j0) ?_))
  refine dp_cell hL (k := 1) (by omega) rfl (fun v1 => dp_lmod v1 16 (by omega) (by omega) (fun j1 h1 => nm_r (nI_add 1 j1) ?_))
  refine dp_cell hL (k := 2) (by omega) rfl (fun v2 => dp_lmod v2 16 (by omega) (by omega) (fun j2 h2 => nm_r (nI_add 1 j2) ?_))
  refine ⟨12, 788, by omega, by omega, dp_init (by omega) (by omega) (by omega) (by omega) (by omega) (by omega) (fun u I => ?_)⟩
  obtain ⟨f1, f2, f3, a1, a2, a3, a4, a5, a6, a7, a8, a9, a10, a11, a12⟩ := u
  refine ⟨by decide, nm_e ?_⟩
  by_cases z : 0 ≤ (nI L - 3) / 3
  · obtain ⟨n, hn, e⟩ := nI_of (Int32.not_lt.mpr z)
    refine br_t z ?_
    have e' : (Int32.ofNat L - 3) / 3 = nI n := e
    rw [e']
    exact dp_67 hL (by omega) (by omega) (by omega) (by omega) hn I
  · exact br_f z (dp_67 (n := 0) hL (by omega) (by omega) (by omega) (by omega) (by omega) I)
end
