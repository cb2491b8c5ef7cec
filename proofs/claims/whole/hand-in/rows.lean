section
/-! rows pasted from the kit's rows to paste -/
theorem pk_us {f : Nat → Int32} {k : Nat} {x : Int32} : upd f k x k = x := if_pos rfl
theorem pk_un {f : Nat → Int32} {k j : Nat} {x : Int32} (h : j ≠ k) : upd f k x j = f j := if_neg h
theorem pk_sub {a b : Nat} (h : b ≤ a) : nI a - nI b = nI (a - b) := by
  obtain ⟨c, rfl⟩ : ∃ c, a = c + b := ⟨a - b, by omega⟩
  rw [← nI_add, Int32.add_sub_cancel, Nat.add_sub_cancel]
theorem pk_mul (a b : Nat) : nI a * nI b = nI (a * b) := (Int32.ofNat_mul a b).symm
theorem pk_sub_toInt {a b : Nat} (ha : a < 2 ^ 30) (hb : b < 2 ^ 30) : (nI a - nI b).toInt = (a : Int) - b := by
  rw [Int32.toInt_sub, nI_toInt (by omega), nI_toInt (by omega)]
  exact Int.bmod_eq_of_le (by omega) (by omega)
theorem pk_sneg {a b : Nat} (hb : b < 2 ^ 30) (h : a < b) : nI a - nI b < 0 := by
  rw [Int32.lt_iff_toInt_lt, pk_sub_toInt (by omega) hb, show (0 : Int32).toInt = 0 from by decide]
  omega
theorem pk_ix (x : Int32) {n : Nat} (hn : n < 2 ^ 31) : x < 0 ∨ nI n ≤ x ∨ ∃ j : Nat, j < n ∧ x = nI j := by
  by_cases h : x < 0
  · exact Or.inl h
  · obtain ⟨j, hj, rfl⟩ := nI_of h
    by_cases h2 : j < n
    · exact Or.inr (Or.inr ⟨j, h2, rfl⟩)
    · exact Or.inr (Or.inl (nI_le (by omega) hj))
theorem pk_loopD {σ : Type} (W : Nat → Nat → σ → Prop) (I : Nat → σ → Prop) (hx : ∀ n s, I 0 s → W (n + 1) 0 s)
    (hs : ∀ n i s, I (i + 1) s → (∀ s', I i s' → W n i s') → W (n + 1) (i + 1) s) : ∀ (e : Nat) (s : σ), I e s → W (e + 1) e s := by
  intro e
  induction e with
  | zero => exact fun s h => hx 0 s h
  | succ e ih => exact fun s h => hs (e + 1) e s h (fun s' h' => ih s' h')
def bt (x : Int32) (i : Nat) : Bool := x.toBitVec.getLsbD i
theorem b_ext {x y : Int32} (h : ∀ i, i < 32 → bt x i = bt y i) : x = y := Int32.toBitVec_inj.mp (BitVec.eq_of_getLsbD_eq (fun i hi => h i hi))
theorem b_or (x y : Int32) (i : Nat) : bt (x ||| y) i = (bt x i || bt y i) := by unfold bt; rw [Int32.toBitVec_or, BitVec.getLsbD_or]
theorem b_and (x y : Int32) (i : Nat) : bt (x &&& y) i = (bt x i && bt y i) := by unfold bt; rw [Int32.toBitVec_and, BitVec.getLsbD_and]
theorem b_xor (x y : Int32) (i : Nat) : bt (x ^^^ y) i = (bt x i ^^ bt y i) := by unfold bt; rw [Int32.toBitVec_xor, BitVec.getLsbD_xor]
theorem b_big {x : Int32} {i : Nat} (h : 32 ≤ i) : bt x i = false := BitVec.getLsbD_of_ge _ _ h
theorem b_255 (i : Nat) : bt 255 i = decide (i < 8) := by
  rcases Nat.lt_or_ge i 32 with h | h
  · exact (by decide +kernel : ∀ i, i < 32 → bt 255 i = decide (i < 8)) i h
  · rw [b_big h, decide_eq_false (by omega)]
theorem b_65535 (i : Nat) : bt 65535 i = decide (i < 16) := by
  rcases Nat.lt_or_ge i 32 with h | h
  · exact (by decide +kernel : ∀ i, i < 32 → bt 65535 i = decide (i < 16)) i h
  · rw [b_big h, decide_eq_false (by omega)]
theorem b_m1 : ∀ i, i < 32 → bt (-1) i = true := by decide +kernel
theorem b_0 (i : Nat) : bt 0 i = false := BitVec.getLsbD_zero
theorem s_l : ∀ n, n < 32 → ((nI n &&& 31).toBitVec.smod 32).toNat = n := by decide +kernel
theorem s_u : ∀ n, n < 32 → (((nI n).toUInt32 &&& Int32.toUInt32 31).toBitVec % 32).toNat = n := by decide +kernel
theorem b_shl (n : Nat) (hn : n < 32) (x : Int32) {i : Nat} (hi : i < 32) : bt (x <<< (nI n &&& 31)) i = (decide (n ≤ i) && bt x (i - n)) := by
  unfold bt
  rw [Int32.toBitVec_shiftLeft]
  show (x.toBitVec <<< ((nI n &&& 31).toBitVec.smod 32).toNat).getLsbD i = _
  rw [s_l n hn, BitVec.getLsbD_shiftLeft]
  rcases Nat.lt_or_ge i n with h | h
  · simp [h, Nat.not_le.mpr h]
  · simp [hi, h, Nat.not_lt.mpr h]
theorem b_ushr (n : Nat) (hn : n < 32) (x : Int32) (i : Nat) : bt ((x.toUInt32 >>> ((nI n).toUInt32 &&& Int32.toUInt32 31)).toInt32) i = bt x (n + i) := by
  show (x.toUInt32 >>> ((nI n).toUInt32 &&& Int32.toUInt32 31)).toBitVec.getLsbD i = x.toUInt32.toBitVec.getLsbD (n + i)
  rw [UInt32.toBitVec_shiftRight]
  show (x.toUInt32.toBitVec >>> (((nI n).toUInt32 &&& Int32.toUInt32 31).toBitVec % 32).toNat).getLsbD i = _
  rw [s_u n hn, BitVec.getLsbD_ushiftRight]
theorem b_sshr (n : Nat) (hn : n < 32) (x : Int32) {i : Nat} (hi : i < 32) : bt (x >>> (nI n &&& 31)) i = if n + i < 32 then bt x (n + i) else bt x 31 := by
  unfold bt
  rw [Int32.toBitVec_shiftRight]
  show (x.toBitVec.sshiftRight ((nI n &&& 31).toBitVec.smod 32).toNat).getLsbD i = _
  rw [s_l n hn, BitVec.getLsbD_sshiftRight, BitVec.msb_eq_getLsbD_last]
  simp [hi]
theorem b_shl8 (x : Int32) {i : Nat} (hi : i < 32) : bt (x <<< ((8 : Int32) &&& 31)) i = (decide (8 ≤ i) && bt x (i - 8)) := b_shl 8 (by omega) x hi
theorem b_shl16 (x : Int32) {i : Nat} (hi : i < 32) : bt (x <<< ((16 : Int32) &&& 31)) i = (decide (16 ≤ i) && bt x (i - 16)) := b_shl 16 (by omega) x hi
theorem b_shl24 (x : Int32) {i : Nat} (hi : i < 32) : bt (x <<< ((24 : Int32) &&& 31)) i = (decide (24 ≤ i) && bt x (i - 24)) := b_shl 24 (by omega) x hi
theorem b_sshr8 (x : Int32) {i : Nat} (hi : i < 32) : bt (x >>> ((8 : Int32) &&& 31)) i = if 8 + i < 32 then bt x (8 + i) else bt x 31 := b_sshr 8 (by omega) x hi
end
section
/-! counting the true cells of a row, sums, and the pure store -/
def dc_cn (p : Nat → Bool) : Nat → Nat
  | 0 => 0
  | n + 1 => dc_cn p n + (if p n = true then 1 else 0)
theorem dc_cn_le (p : Nat → Bool) : ∀ n, dc_cn p n ≤ n := by
  intro n
  induction n with
  | zero => exact Nat.le_refl 0
  | succ n ih =>
    simp only [dc_cn]
    split <;> omega
theorem dc_cn_mono {p q : Nat → Bool} : ∀ n, (∀ i, i < n → p i = true → q i = true) → dc_cn p n ≤ dc_cn q n := by
  intro n
  induction n with
  | zero => intro _; exact Nat.le_refl 0
  | succ n ih =>
    intro h
    have h1 := ih (fun i hi => h i (by omega))
    have h2 := h n (by omega)
    simp only [dc_cn]
    by_cases hp : p n = true
    · rw [if_pos hp, if_pos (h2 hp)]; omega
    · rw [if_neg hp]; omega
theorem dc_cn_lt {p q : Nat → Bool} {j : Nat} (hp : p j = false) (hq : q j = true) : ∀ n, (∀ i, i < n → p i = true → q i = true) → j < n → dc_cn p n < dc_cn q n := by
  intro n
  induction n with
  | zero => intro _ hj; omega
  | succ n ih =>
    intro h hj
    have h0 : dc_cn p n ≤ dc_cn q n := dc_cn_mono n (fun i hi => h i (by omega))
    have h2 := h n (by omega)
    simp only [dc_cn]
    by_cases e : j = n
    · subst e
      have hp' : ¬ p j = true := by rw [hp]; decide
      rw [if_neg hp', if_pos hq]; omega
    · have h1 := ih (fun i hi => h i (by omega)) (by omega)
      by_cases z : p n = true
      · rw [if_pos z, if_pos (h2 z)]; omega
      · rw [if_neg z]; omega
theorem dc_cn_all : ∀ n, dc_cn (fun _ => true) n = n := by
  intro n
  induction n with
  | zero => rfl
  | succ n ih => simp only [dc_cn, ih, if_true]
theorem dc_cn_full {p : Nat → Bool} {j n : Nat} (hj : j < n) (hp : p j = false) : dc_cn p n < n := by
  have h := dc_cn_lt (p := p) (q := fun _ => true) hp rfl n (fun _ _ _ => rfl) hj
  rw [dc_cn_all] at h
  exact h
theorem dc_cn_ext {p q : Nat → Bool} {n : Nat} (h : ∀ i, i < n → p i = q i) : dc_cn p n = dc_cn q n :=
  Nat.le_antisymm (dc_cn_mono n (fun i hi z => by rw [← h i hi]; exact z)) (dc_cn_mono n (fun i hi z => by rw [h i hi]; exact z))
theorem dc_cn_none : ∀ n, dc_cn (fun _ => false) n = 0 := by
  intro n
  induction n with
  | zero => rfl
  | succ n ih => simp [dc_cn, ih]
theorem dc_cn_pos {p : Nat → Bool} {j n : Nat} (hj : j < n) (hp : p j = true) : 0 < dc_cn p n := by
  have h := dc_cn_lt (p := fun _ => false) (q := p) rfl hp n (fun _ _ z => nomatch z) hj
  omega
theorem dc_cn_zero {p : Nat → Bool} {n : Nat} (h : dc_cn p n = 0) {j : Nat} (hj : j < n) : p j = false := by
  cases hp : p j with
  | false => rfl
  | true => have := dc_cn_pos hj hp; omega
theorem dc_cn_some {p : Nat → Bool} : ∀ {n : Nat}, 0 < dc_cn p n → ∃ j, j < n ∧ p j = true := by
  intro n
  induction n with
  | zero => intro h; simp only [dc_cn] at h; omega
  | succ n ih =>
    intro h
    by_cases hp : p n = true
    · exact ⟨n, by omega, hp⟩
    · simp only [dc_cn] at h
      rw [if_neg hp] at h
      obtain ⟨j, hj, z⟩ := ih (by omega)
      exact ⟨j, by omega, z⟩
/-- two true cells: the count is two at least -/
theorem dc_cn_two {p : Nat → Bool} {i j n : Nat} (hi : i < n) (hj : j < n) (hij : i ≠ j) (pi : p i = true) (pj : p j = true) : 2 ≤ dc_cn p n := by
  have h1 : 0 < dc_cn (fun x => decide (x = i)) n := dc_cn_pos hi (by simp)
  have h2 : dc_cn (fun x => decide (x = i)) n < dc_cn p n :=
    dc_cn_lt (j := j) (by simp; omega) pj n (fun x _ z => by have := of_decide_eq_true z; rw [this]; exact pi) hj
  omega
theorem dc_cn_one {p : Nat → Bool} {i j n : Nat} (h : dc_cn p n < 2) (hi : i < n) (hj : j < n) (pi : p i = true) (pj : p j = true) : i = j := by
  by_cases e : i = j
  · exact e
  · have := dc_cn_two hi hj e pi pj; omega
/-- two at least: two different true cells -/
theorem dc_cn_pair {p : Nat → Bool} : ∀ {n : Nat}, 2 ≤ dc_cn p n → ∃ i j, i < j ∧ j < n ∧ p i = true ∧ p j = true := by
  intro n
  induction n with
  | zero => intro h; simp only [dc_cn] at h; omega
  | succ n ih =>
    intro h
    by_cases hp : p n = true
    · simp only [dc_cn] at h
      rw [if_pos hp] at h
      obtain ⟨i, hi, z⟩ := dc_cn_some (p := p) (n := n) (by omega)
      exact ⟨i, n, hi, by omega, z, hp⟩
    · simp only [dc_cn] at h
      rw [if_neg hp] at h
      obtain ⟨i, j, hij, hj, zi, zj⟩ := ih (by omega)
      exact ⟨i, j, hij, by omega, zi, zj⟩
/-- nothing true beyond R: the longer count is the shorter one -/
theorem dc_cn_cut {p : Nat → Bool} {R : Nat} (h : ∀ i, p i = true → i < R) : ∀ n, R ≤ n → dc_cn p n = dc_cn p R := by
  intro n hn
  induction n with
  | zero => have : R = 0 := by omega
            rw [this]
  | succ n ih =>
    by_cases e : R = n + 1
    · rw [e]
    · have hp : ¬ p n = true := fun z => by have := h n z; omega
      simp only [dc_cn]
      rw [if_neg hp, Nat.add_zero]
      exact ih (by omega)
def dc_sm (d : Nat → Nat) : Nat → Nat
  | 0 => 0
  | n + 1 => dc_sm d n + d n
def dc_pu (d : Nat → Nat) (y v : Nat) : Nat → Nat := fun i => if i = y then v else d i
theorem dc_pu_s (d : Nat → Nat) (y v : Nat) : dc_pu d y v y = v := if_pos rfl
theorem dc_pu_n (d : Nat → Nat) {y i : Nat} (v : Nat) (h : i ≠ y) : dc_pu d y v i = d i := if_neg h
theorem dc_sm_le {d e : Nat → Nat} : ∀ n, (∀ i, i < n → d i ≤ e i) → dc_sm d n ≤ dc_sm e n := by
  intro n
  induction n with
  | zero => intro _; exact Nat.le_refl 0
  | succ n ih =>
    intro h
    have h1 := ih (fun i hi => h i (by omega))
    have h2 := h n (by omega)
    simp only [dc_sm]
    omega
theorem dc_sm_lt {d e : Nat → Nat} {j : Nat} (hd : d j < e j) : ∀ n, (∀ i, i < n → d i ≤ e i) → j < n → dc_sm d n < dc_sm e n := by
  intro n
  induction n with
  | zero => intro _ hj; omega
  | succ n ih =>
    intro h hj
    have h1 : dc_sm d n ≤ dc_sm e n := dc_sm_le n (fun i hi => h i (by omega))
    have h2 := h n (by omega)
    simp only [dc_sm]
    by_cases z : j = n
    · subst z; omega
    · have := ih (fun i hi => h i (by omega)) (by omega)
      omega
/-- a loop's work, cell by cell -/
def dc_it {σ : Type} (f : Nat → σ → σ) (s : σ) : Nat → σ
  | 0 => s
  | n + 1 => f n (dc_it f s n)
end
section
/-! the distances: a table that no step shortens and whose finite values each rest on a step; 1000 stands for 'no chain' -/
/-- q and r are neighbours through link k -/
def dc_Ed (R L : Nat) (A : Nat → Nat → Bool) (k q r : Nat) : Prop := k < L ∧ q < R ∧ r < R ∧ q ≠ r ∧ A k q = true ∧ A k r = true
def dc_G (R L : Nat) (A : Nat → Nat → Bool) (c : Nat → Nat) (s : Nat) (D : Nat → Nat) : Prop :=
  D s = 0 ∧ (∀ r, r < R → D r ≤ 1000) ∧
  (∀ r, r < R → r ≠ s → D r < 1000 → ∃ k q, dc_Ed R L A k q r ∧ D q < 1000 ∧ D q + c k = D r) ∧
  (∀ k q r, dc_Ed R L A k q r → D q < 1000 → D r ≤ D q + c k)
def dc_V (R L : Nat) (A : Nat → Nat → Bool) (c : Nat → Nat) (s : Nat) (D : Nat → Nat) : Prop :=
  D s = 0 ∧ (∀ r, r < R → D r ≤ 1000) ∧
  (∀ r, r < R → r ≠ s → D r < 1000 → ∃ k q, dc_Ed R L A k q r ∧ D q < 1000 ∧ D q + c k ≤ D r)
theorem dc_V0 (R L : Nat) (A : Nat → Nat → Bool) (c : Nat → Nat) (s : Nat) : dc_V R L A c s (fun r => if r = s then 0 else 1000) := by
  refine ⟨if_pos rfl, fun r _ => ?_, fun r _ hr h => ?_⟩
  · show (if r = s then 0 else 1000) ≤ 1000
    split <;> omega
  · have e : (if r = s then 0 else 1000) = 1000 := if_neg hr
    have h' : (if r = s then 0 else 1000) < 1000 := h
    omega
theorem dc_Vs {R L : Nat} {A : Nat → Nat → Bool} {c : Nat → Nat} {s : Nat} {D : Nat → Nat} (h : dc_V R L A c s D) {k q r : Nat} (e : dc_Ed R L A k q r) (hq : D q < 1000) (hr : D q + c k < D r) : dc_V R L A c s (dc_pu D r (D q + c k)) := by
  obtain ⟨h0, h1, h2⟩ := h
  have hrs : s ≠ r := fun z => by rw [← z] at hr; omega
  have hr1 := h1 r e.2.2.1
  refine ⟨by rw [dc_pu_n _ _ hrs]; exact h0, fun i hi => ?_, fun i hi his hi2 => ?_⟩
  · by_cases z : i = r
    · rw [z, dc_pu_s]; omega
    · rw [dc_pu_n _ _ z]; exact h1 i hi
  · by_cases z : i = r
    · refine ⟨k, q, by rw [z]; exact e, ?_, ?_⟩
      · rw [dc_pu_n _ _ e.2.2.2.1]; exact hq
      · rw [dc_pu_n _ _ e.2.2.2.1, z, dc_pu_s] <;> exact Nat.le_refl _
    · rw [dc_pu_n _ _ z] at hi2
      obtain ⟨k', q', e', hq', hs'⟩ := h2 i hi his hi2
      refine ⟨k', q', e', ?_, ?_⟩
      · by_cases y : q' = r
        · rw [y, dc_pu_s]; rw [y] at hq'; omega
        · rw [dc_pu_n _ _ y]; exact hq'
      · rw [dc_pu_n _ _ z]
        by_cases y : q' = r
        · rw [y, dc_pu_s]; rw [y] at hs'; omega
        · rw [dc_pu_n _ _ y]; exact hs'
theorem dc_least (P : Nat → Prop) (h : ∃ k, P k) : ∃ k, P k ∧ ∀ j, j < k → ¬ P j := by
  obtain ⟨k, hk⟩ := h
  induction k using Nat.strongRecOn with
  | ind k ih =>
    by_cases z : ∃ j, j < k ∧ P j
    · obtain ⟨j, hj, pj⟩ := z
      exact ih j hj pj
    · exact ⟨k, hk, fun j hj pj => z ⟨j, hj, pj⟩⟩
/-- there is such a table: among the sound ones that of least sum -/
theorem dc_Gex (R L : Nat) (A : Nat → Nat → Bool) (c : Nat → Nat) (s : Nat) : ∃ D, dc_G R L A c s D := by
  obtain ⟨n, ⟨D, hV, hn⟩, hmin⟩ := dc_least (fun n => ∃ D, dc_V R L A c s D ∧ dc_sm D R = n) ⟨_, _, dc_V0 R L A c s, rfl⟩
  have h3 : ∀ k q r, dc_Ed R L A k q r → D q < 1000 → D r ≤ D q + c k := by
    intro k q r e hq
    by_cases z : D r ≤ D q + c k
    · exact z
    · exfalso
      have hlt : D q + c k < D r := by omega
      refine hmin (dc_sm (dc_pu D r (D q + c k)) R) ?_ ⟨_, dc_Vs hV e hq hlt, rfl⟩
      rw [← hn]
      refine dc_sm_lt (j := r) (by rw [dc_pu_s]; exact hlt) R (fun i _ => ?_) e.2.2.1
      by_cases y : i = r
      · rw [y, dc_pu_s]; omega
      · rw [dc_pu_n _ _ y] <;> exact Nat.le_refl _
  refine ⟨D, hV.1, hV.2.1, fun r hr hrs hr2 => ?_, h3⟩
  obtain ⟨k, q, e, hq, hle⟩ := hV.2.2 r hr hrs hr2
  exact ⟨k, q, e, hq, Nat.le_antisymm hle (h3 k q r e hq)⟩
/-- how many routers lie nearer than r -/
def dc_rk (R : Nat) (D : Nat → Nat) (r : Nat) : Nat := dc_cn (fun i => decide (D i < D r)) R
theorem dc_rk_lt {R : Nat} {D : Nat → Nat} {q r : Nat} (hq : q < R) (h : D q < D r) : dc_rk R D q < dc_rk R D r :=
  dc_cn_lt (j := q) (decide_eq_false (Nat.lt_irrefl _)) (decide_eq_true h) R (fun i _ z => decide_eq_true (Nat.lt_trans (of_decide_eq_true z) h)) hq
theorem dc_rk_R {R : Nat} {D : Nat → Nat} {r : Nat} (hr : r < R) : dc_rk R D r < R :=
  dc_cn_full hr (decide_eq_false (Nat.lt_irrefl _))
/-- a finite distance is at most 15 for each nearer router -/
theorem dc_G15 {R L : Nat} {A : Nat → Nat → Bool} {c : Nat → Nat} {s : Nat} {D : Nat → Nat} (h : dc_G R L A c s D) (c1 : ∀ k, k < L → 1 ≤ c k) (c15 : ∀ k, k < L → c k ≤ 15) : ∀ n r, D r = n → r < R → D r < 1000 → D r ≤ 15 * dc_rk R D r := by
  intro n
  induction n using Nat.strongRecOn with
  | ind n ih =>
    intro r hn hr h1
    by_cases z : r = s
    · rw [z, h.1]; omega
    · obtain ⟨k, q, e, hq, hs⟩ := h.2.2.1 r hr z h1
      have a1 := c1 k e.1
      have a2 := c15 k e.1
      have hlt : D q < D r := by omega
      have b := ih (D q) (by omega) q rfl e.2.1 hq
      have b2 := dc_rk_lt e.2.1 hlt
      omega
theorem dc_G165 {R L : Nat} {A : Nat → Nat → Bool} {c : Nat → Nat} {s : Nat} {D : Nat → Nat} (h : dc_G R L A c s D) (c1 : ∀ k, k < L → 1 ≤ c k) (c15 : ∀ k, k < L → c k ≤ 15) (hR : R ≤ 12) {r : Nat} (hr : r < R) (h1 : D r < 1000) : D r ≤ 165 := by
  have a := dc_G15 h c1 c15 _ r rfl hr h1
  have b := dc_rk_R (D := D) hr
  omega
/-! a table in the making: d over the true one, I for 'no chain' (1000 or 1000000) -/
section
variable (R L : Nat) (A : Nat → Nat → Bool) (c : Nat → Nat) (s : Nat) (D : Nat → Nat) (I : Nat)
def dc_E (r : Nat) : Nat := if D r < 1000 then D r else I
def dc_P (d : Nat → Nat) : Prop := ∀ r, r < R → dc_E D I r ≤ d r ∧ d r ≤ I
def dc_Q (t : Nat) (d : Nat → Nat) : Prop := ∀ r, r < R → D r < 1000 → dc_rk R D r ≤ t → d r = D r
/-- what one link's work leaves -/
def dc_S (k : Nat) (d d' : Nat → Nat) : Prop :=
  (∀ r, r < R → dc_E D I r ≤ d' r ∧ d' r ≤ d r) ∧ (∀ q r, dc_Ed R L A k q r → D q < 1000 → d q = D q → d' r ≤ D q + c k)
/-- in the midst of round t + 1, the links below l done -/
def dc_M (t l : Nat) (d : Nat → Nat) : Prop :=
  dc_P R D I d ∧ dc_Q R D t d ∧
  (∀ r, r < R → D r < 1000 → dc_rk R D r ≤ t + 1 → (∃ k q, k < l ∧ dc_Ed R L A k q r ∧ D q < 1000 ∧ D q + c k = D r) → d r = D r)
end
section
variable {R L : Nat} {A : Nat → Nat → Bool} {c : Nat → Nat} {s : Nat} {D : Nat → Nat} {I : Nat}
theorem dc_E_lt {r : Nat} (h : D r < 1000) : dc_E D I r = D r := if_pos h
theorem dc_E_ge {r : Nat} (h : ¬ D r < 1000) : dc_E D I r = I := if_neg h
theorem dc_M0 {t : Nat} {d : Nat → Nat} (hP : dc_P R D I d) (hQ : dc_Q R D t d) : dc_M R L A c D I t 0 d :=
  ⟨hP, hQ, fun _ _ _ _ ⟨_, _, z, _⟩ => absurd z (Nat.not_lt_zero _)⟩
theorem dc_Ms (c1 : ∀ k, k < L → 1 ≤ c k) {t l : Nat} {d d' : Nat → Nat} (h : dc_M R L A c D I t l d) (hS : dc_S R L A c D I l d d') : dc_M R L A c D I t (l + 1) d' := by
  obtain ⟨hP, hQ, hM⟩ := h
  have keep : ∀ r, r < R → D r < 1000 → d r = D r → d' r = D r := by
    intro r hr h1 e
    have a := hS.1 r hr
    rw [dc_E_lt h1] at a
    omega
  refine ⟨fun r hr => ⟨(hS.1 r hr).1, Nat.le_trans (hS.1 r hr).2 (hP r hr).2⟩, fun r hr h1 h2 => keep r hr h1 (hQ r hr h1 h2), ?_⟩
  intro r hr h1 h2 ⟨k, q, hk, e, hq, hs⟩
  by_cases z : k = l
  · subst z
    have a1 := c1 k e.1
    have b := dc_rk_lt (r := r) e.2.1 (show D q < D r by omega)
    have b1 := hS.2 q r e hq (hQ q e.2.1 hq (by omega))
    have b2 := (hS.1 r hr).1
    rw [dc_E_lt h1] at b2
    omega
  · exact keep r hr h1 (hM r hr h1 h2 ⟨k, q, by omega, e, hq, hs⟩)
theorem dc_ML (h : dc_G R L A c s D) {t : Nat} {d : Nat → Nat} (hM : dc_M R L A c D I t L d) : dc_Q R D (t + 1) d := by
  intro r hr h1 h2
  by_cases z : r = s
  · have e : dc_rk R D r = 0 := by
      have e1 : dc_cn (fun i => decide (D i < D r)) R = dc_cn (fun _ => false) R := dc_cn_ext (fun i _ => decide_eq_false (by rw [z, h.1]; omega))
      exact e1.trans (dc_cn_none R)
    exact hM.2.1 r hr h1 (by omega)
  · obtain ⟨k, q, e, hq, hs⟩ := h.2.2.1 r hr z h1
    exact hM.2.2 r hr h1 h2 ⟨k, q, e.1, e, hq, hs⟩
/-- the start: 0 at the source, I elsewhere -/
theorem dc_P0 (h : dc_G R L A c s D) (hI : 1000 ≤ I) {d : Nat → Nat} (hd : ∀ r, r < R → d r = if r = s then 0 else I) : dc_P R D I d := by
  intro r hr
  rw [hd r hr]
  by_cases z : r = s
  · rw [if_pos z, z, dc_E_lt (by rw [h.1]; omega), h.1]; omega
  · rw [if_neg z]
    by_cases y : D r < 1000
    · rw [dc_E_lt y]; omega
    · rw [dc_E_ge y]; omega
theorem dc_Q0 (h : dc_G R L A c s D) (c1 : ∀ k, k < L → 1 ≤ c k) {d : Nat → Nat} (hd : ∀ r, r < R → d r = if r = s then 0 else I) : dc_Q R D 0 d := by
  intro r hr h1 h2
  by_cases z : r = s
  · rw [hd r hr, if_pos z, z, h.1]
  · exfalso
    obtain ⟨k, q, e, hq, hs⟩ := h.2.2.1 r hr z h1
    have a1 := c1 k e.1
    have b := dc_rk_lt (r := r) e.2.1 (show D q < D r by omega)
    omega
/-- the end: after R - 1 rounds or more the table is the true one -/
theorem dc_PQ {t : Nat} {d : Nat → Nat} (hP : dc_P R D I d) (hQ : dc_Q R D t d) (ht : R ≤ t + 1) {r : Nat} (hr : r < R) : d r = dc_E D I r := by
  by_cases y : D r < 1000
  · have b := dc_rk_R (D := D) hr
    rw [dc_E_lt y]
    exact hQ r hr y (by omega)
  · have a := hP r hr
    rw [dc_E_ge y] at a ⊢
    omega
theorem dc_E1000 (h : dc_G R L A c s D) {r : Nat} (hr : r < R) : dc_E D 1000 r = D r := by
  by_cases y : D r < 1000
  · exact dc_E_lt y
  · rw [dc_E_ge y]
    have := h.2.1 r hr
    omega
theorem dc_G_ext (h : dc_G R L A c s D) (hs : s < R) {D' : Nat → Nat} (e : ∀ r, r < R → D' r = D r) : dc_G R L A c s D' := by
  refine ⟨by rw [e s hs]; exact h.1, fun r hr => by rw [e r hr]; exact h.2.1 r hr, fun r hr z h1 => ?_, fun k q r ed hq => ?_⟩
  · rw [e r hr] at h1 ⊢
    obtain ⟨k, q, ed, hq, hh⟩ := h.2.2.1 r hr z h1
    exact ⟨k, q, ed, by rw [e q ed.2.1]; exact hq, by rw [e q ed.2.1]; exact hh⟩
  · rw [e q ed.2.1] at hq ⊢
    rw [e r ed.2.2.1]
    exact h.2.2.2 k q r ed hq
end
/-! the upstream routers and the reverse-path link -/
theorem dc_nm1 {q : Nat} (h : q < 2 ^ 31) : ¬ nI q = -1 := by
  intro e
  have a := nI_pos' h
  rw [e] at a
  exact absurd a (by decide)
/-- the highest cell below n that is true, or -1 -/
def dc_us (p : Nat → Bool) : Nat → Int32
  | 0 => -1
  | n + 1 => if p n = true then nI n else dc_us p n
theorem dc_us_1 {p : Nat → Bool} {n : Nat} (h : p n = true) : dc_us p (n + 1) = nI n := if_pos h
theorem dc_us_0 {p : Nat → Bool} {n : Nat} (h : ¬ p n = true) : dc_us p (n + 1) = dc_us p n := if_neg h
theorem dc_us_or (p : Nat → Bool) : ∀ n, (dc_us p n = -1 ∧ ∀ i, i < n → p i = false) ∨ ∃ q, q < n ∧ p q = true ∧ dc_us p n = nI q := by
  intro n
  induction n with
  | zero => exact Or.inl ⟨rfl, fun i hi => absurd hi (Nat.not_lt_zero i)⟩
  | succ n ih =>
    by_cases h : p n = true
    · exact Or.inr ⟨n, by omega, h, dc_us_1 h⟩
    · rw [dc_us_0 h]
      rcases ih with ⟨a, b⟩ | ⟨q, a, b, e⟩
      · refine Or.inl ⟨a, fun i hi => ?_⟩
        by_cases z : i = n
        · rw [z]; exact Bool.eq_false_iff.mpr h
        · exact b i (by omega)
      · exact Or.inr ⟨q, by omega, b, e⟩
def dc_uq (A : Nat → Nat → Bool) (c : Nat → Nat) (D : Nat → Nat) (k r : Nat) : Nat → Bool := fun q => decide (q ≠ r ∧ A k q = true ∧ D q + c k = D r)
/-- the highest upstream router of r on k, or -1 -/
def dc_U (R : Nat) (A : Nat → Nat → Bool) (c : Nat → Nat) (D : Nat → Nat) (k r : Nat) : Int32 := dc_us (dc_uq A c D k r) R
def dc_Hp (R : Nat) (A : Nat → Nat → Bool) (c : Nat → Nat) (D : Nat → Nat) (k r : Nat) : Prop := A k r = true ∧ ∃ q, q < R ∧ dc_uq A c D k r q = true
theorem dc_U_or (R : Nat) (A : Nat → Nat → Bool) (c : Nat → Nat) (D : Nat → Nat) (k r : Nat) : (dc_U R A c D k r = -1 ∧ ¬ ∃ q, q < R ∧ dc_uq A c D k r q = true) ∨ ∃ q, q < R ∧ dc_uq A c D k r q = true ∧ dc_U R A c D k r = nI q := by
  rcases dc_us_or (dc_uq A c D k r) R with ⟨a, b⟩ | h
  · refine Or.inl ⟨a, fun ⟨q, hq, e⟩ => ?_⟩
    rw [b q hq] at e
    exact nomatch e
  · exact Or.inr h
/-- v is the reverse-path link of r, or -1 -/
def dc_isR (R L : Nat) (A : Nat → Nat → Bool) (c : Nat → Nat) (D : Nat → Nat) (r : Nat) (v : Int32) : Prop :=
  (v = -1 ∧ ∀ k, k < L → ¬ dc_Hp R A c D k r) ∨ (∃ k, k < L ∧ v = nI k ∧ dc_Hp R A c D k r ∧ ∀ j, j < k → ¬ dc_Hp R A c D j r)
theorem dc_isR_u {R L : Nat} {A : Nat → Nat → Bool} {c : Nat → Nat} {D : Nat → Nat} {r : Nat} {v w : Int32} (h : dc_isR R L A c D r v) (g : dc_isR R L A c D r w) : v = w := by
  rcases h with ⟨rfl, h⟩ | ⟨k, hk, rfl, h, hm⟩
  · rcases g with ⟨rfl, _⟩ | ⟨k', hk', _, g, _⟩
    · rfl
    · exact absurd g (h k' hk')
  · rcases g with ⟨_, g⟩ | ⟨k', hk', rfl, g, gm⟩
    · exact absurd h (g k hk)
    · have : k = k' := by
        rcases Nat.lt_trichotomy k k' with z | z | z
        · exact absurd h (gm k z)
        · exact z
        · exact absurd g (hm k' z)
      rw [this]
/-- no upstream router of the source, nor of a router that no chain reaches -/
theorem dc_Hp_s {R L : Nat} {A : Nat → Nat → Bool} {c : Nat → Nat} {s : Nat} {D : Nat → Nat} (h : dc_G R L A c s D) (c1 : ∀ k, k < L → 1 ≤ c k) {k : Nat} (hk : k < L) : ¬ dc_Hp R A c D k s := by
  intro ⟨_, q, _, e⟩
  have e' := of_decide_eq_true e
  have := c1 k hk
  have := h.1
  omega
theorem dc_Hp_i {R L : Nat} {A : Nat → Nat → Bool} {c : Nat → Nat} {s : Nat} {D : Nat → Nat} (h : dc_G R L A c s D) (c1 : ∀ k, k < L → 1 ≤ c k) (c15 : ∀ k, k < L → c k ≤ 15) (hR : R ≤ 12) {k r : Nat} (hk : k < L) (hr : r < R) (hi : ¬ D r < 1000) : ¬ dc_Hp R A c D k r := by
  intro ⟨_, q, hq, e⟩
  have e' := of_decide_eq_true e
  have a1 := c1 k hk
  have a2 := c15 k hk
  have a3 := h.2.1 r hr
  have a4 := dc_G165 h c1 c15 hR hq (by omega)
  omega
/-- the same step, read off the reference's table -/
theorem dc_Eq {R L : Nat} {A : Nat → Nat → Bool} {c : Nat → Nat} {s : Nat} {D : Nat → Nat} (h : dc_G R L A c s D) (c1 : ∀ k, k < L → 1 ≤ c k) (c15 : ∀ k, k < L → c k ≤ 15) (hR : R ≤ 12) {k q r : Nat} (hk : k < L) (hq : q < R) (hr : r < R) : (dc_E D 1000000 q < 1000000 ∧ dc_E D 1000000 q + c k = dc_E D 1000000 r) ↔ D q + c k = D r := by
  have a1 := c1 k hk
  have a2 := c15 k hk
  have a3 := h.2.1 r hr
  have a4 := h.2.1 q hq
  by_cases z : D q < 1000
  · have b := dc_G165 h c1 c15 hR hq z
    rw [dc_E_lt z]
    by_cases y : D r < 1000
    · rw [dc_E_lt y]; omega
    · rw [dc_E_ge y]; omega
  · rw [dc_E_ge z]
    omega
end
section
/-! the flood, as a pure work on (received, carried, transmitters); rp: the reverse-path links toward the source; can x k: x may transmit on k -/
section
variable (R L : Nat) (rp : Nat → Int32) (can : Nat → Nat → Bool)
def dc_dl (k : Nat) (rc : Nat → Nat) : Nat → Nat := fun y => if y < R ∧ rp y = nI k then rc y + 1 else rc y
def dc_tr (x k : Nat) (z : (Nat → Nat) × (Nat → Nat) × (Nat → Nat → Bool)) : (Nat → Nat) × (Nat → Nat) × (Nat → Nat → Bool) :=
  (dc_dl R rp k z.1, (fun j => if j = k then z.2.1 j + 1 else z.2.1 j), (fun j y => if j = k ∧ y = x then true else z.2.2 j y))
def dc_fk (x k : Nat) (z : (Nat → Nat) × (Nat → Nat) × (Nat → Nat → Bool)) : (Nat → Nat) × (Nat → Nat) × (Nat → Nat → Bool) :=
  if can x k = true then dc_tr R rp x k z else z
def dc_fx (x : Nat) (z : (Nat → Nat) × (Nat → Nat) × (Nat → Nat → Bool)) : (Nat → Nat) × (Nat → Nat) × (Nat → Nat → Bool) :=
  dc_it (dc_fk R rp can x) z L
def dc_rx (fr : Nat → Bool) (x : Nat) (z : (Nat → Nat) × (Nat → Nat) × (Nat → Nat → Bool)) : (Nat → Nat) × (Nat → Nat) × (Nat → Nat → Bool) :=
  if fr x = true then dc_fx R L rp can x z else z
def dc_rd (fr : Nat → Bool) (z : (Nat → Nat) × (Nat → Nat) × (Nat → Nat → Bool)) : (Nat → Nat) × (Nat → Nat) × (Nat → Nat → Bool) :=
  dc_it (dc_rx R L rp can fr) z R
/-- one round: the work and the next frontier -/
def dc_st (w : ((Nat → Nat) × (Nat → Nat) × (Nat → Nat → Bool)) × (Nat → Bool)) : ((Nat → Nat) × (Nat → Nat) × (Nat → Nat → Bool)) × (Nat → Bool) :=
  (dc_rd R L rp can w.2 w.1, fun y => decide (y < R ∧ w.1.1 y = 0 ∧ 1 ≤ (dc_rd R L rp can w.2 w.1).1 y))
def dc_fl (w : ((Nat → Nat) × (Nat → Nat) × (Nat → Nat → Bool)) × (Nat → Bool)) (n : Nat) : ((Nat → Nat) × (Nat → Nat) × (Nat → Nat → Bool)) × (Nat → Bool) :=
  dc_it (fun _ w => dc_st R L rp can w) w n
end
/-- the start of a flood from s -/
def dc_f0 (s : Nat) : ((Nat → Nat) × (Nat → Nat) × (Nat → Nat → Bool)) × (Nat → Bool) :=
  (((fun y => if y = s then 1 else 0), (fun _ => 0), (fun _ _ => false)), fun y => decide (y = s))
section
variable {R L : Nat} {rp : Nat → Int32} {can : Nat → Nat → Bool}
theorem dc_dl_b (k : Nat) (rc : Nat → Nat) (y : Nat) : rc y ≤ dc_dl R rp k rc y ∧ dc_dl R rp k rc y ≤ rc y + 1 := by
  unfold dc_dl
  split <;> omega
theorem dc_fk_1 {x k : Nat} (h : can x k = true) (z : (Nat → Nat) × (Nat → Nat) × (Nat → Nat → Bool)) : dc_fk R rp can x k z = dc_tr R rp x k z := if_pos h
theorem dc_fk_0 {x k : Nat} (h : ¬ can x k = true) (z : (Nat → Nat) × (Nat → Nat) × (Nat → Nat → Bool)) : dc_fk R rp can x k z = z := if_neg h
theorem dc_rx_1 {fr : Nat → Bool} {x : Nat} (h : fr x = true) (z : (Nat → Nat) × (Nat → Nat) × (Nat → Nat → Bool)) : dc_rx R L rp can fr x z = dc_fx R L rp can x z := if_pos h
theorem dc_rx_0 {fr : Nat → Bool} {x : Nat} (h : ¬ fr x = true) (z : (Nat → Nat) × (Nat → Nat) × (Nat → Nat → Bool)) : dc_rx R L rp can fr x z = z := if_neg h
theorem dc_fk_b (x k : Nat) (z : (Nat → Nat) × (Nat → Nat) × (Nat → Nat → Bool)) (y : Nat) : z.1 y ≤ (dc_fk R rp can x k z).1 y ∧ (dc_fk R rp can x k z).1 y ≤ z.1 y + 1 := by
  by_cases h : can x k = true
  · have e : (dc_fk R rp can x k z).1 y = dc_dl R rp k z.1 y := by rw [dc_fk_1 h] <;> rfl
    rw [e]; exact dc_dl_b k z.1 y
  · rw [dc_fk_0 h]; omega
theorem dc_fx_b (x : Nat) (z : (Nat → Nat) × (Nat → Nat) × (Nat → Nat → Bool)) (y : Nat) : z.1 y ≤ (dc_fx R L rp can x z).1 y ∧ (dc_fx R L rp can x z).1 y ≤ z.1 y + L := by
  unfold dc_fx
  generalize L = n
  induction n with
  | zero => exact ⟨Nat.le_refl _, Nat.le_refl _⟩
  | succ n ih =>
    have h := dc_fk_b (R := R) (rp := rp) (can := can) x n (dc_it (dc_fk R rp can x) z n) y
    show z.1 y ≤ (dc_fk R rp can x n (dc_it (dc_fk R rp can x) z n)).1 y ∧ (dc_fk R rp can x n (dc_it (dc_fk R rp can x) z n)).1 y ≤ z.1 y + (n + 1)
    omega
theorem dc_rx_b (fr : Nat → Bool) (x : Nat) (z : (Nat → Nat) × (Nat → Nat) × (Nat → Nat → Bool)) (y : Nat) : z.1 y ≤ (dc_rx R L rp can fr x z).1 y ∧ (dc_rx R L rp can fr x z).1 y ≤ z.1 y + L := by
  by_cases h : fr x = true
  · rw [dc_rx_1 h]; exact dc_fx_b x z y
  · rw [dc_rx_0 h]; omega
theorem dc_rd_b (fr : Nat → Bool) (z : (Nat → Nat) × (Nat → Nat) × (Nat → Nat → Bool)) (y : Nat) : z.1 y ≤ (dc_rd R L rp can fr z).1 y ∧ (dc_rd R L rp can fr z).1 y ≤ z.1 y + R * L := by
  have H : ∀ n, z.1 y ≤ (dc_it (dc_rx R L rp can fr) z n).1 y ∧ (dc_it (dc_rx R L rp can fr) z n).1 y ≤ z.1 y + n * L := by
    intro n
    induction n with
    | zero => exact ⟨Nat.le_refl _, by rw [Nat.zero_mul] <;> exact Nat.le_refl _⟩
    | succ n ih =>
      have h := dc_rx_b (R := R) (L := L) (rp := rp) (can := can) fr n (dc_it (dc_rx R L rp can fr) z n) y
      rw [Nat.succ_mul]
      show z.1 y ≤ (dc_rx R L rp can fr n (dc_it (dc_rx R L rp can fr) z n)).1 y ∧ (dc_rx R L rp can fr n (dc_it (dc_rx R L rp can fr) z n)).1 y ≤ z.1 y + (n * L + L)
      omega
  exact H R
/-- who transmitted: an earlier one, or a router of the frontier -/
theorem dc_fx_T (x : Nat) (z : (Nat → Nat) × (Nat → Nat) × (Nat → Nat → Bool)) (j y : Nat) (h : (dc_fx R L rp can x z).2.2 j y = true) : z.2.2 j y = true ∨ y = x := by
  have H : ∀ n, (dc_it (dc_fk R rp can x) z n).2.2 j y = true → z.2.2 j y = true ∨ y = x := by
    intro n
    induction n with
    | zero => exact fun h => Or.inl h
    | succ n ih =>
      intro h
      have h' : (dc_fk R rp can x n (dc_it (dc_fk R rp can x) z n)).2.2 j y = true := h
      by_cases hc : can x n = true
      · rw [dc_fk_1 hc] at h'
        by_cases e : j = n ∧ y = x
        · exact Or.inr e.2
        · refine ih ?_
          have e2 : (dc_tr R rp x n (dc_it (dc_fk R rp can x) z n)).2.2 j y = (dc_it (dc_fk R rp can x) z n).2.2 j y := if_neg e
          rw [e2] at h'
          exact h'
      · rw [dc_fk_0 hc] at h'
        exact ih h'
  exact H L h
theorem dc_rd_T (fr : Nat → Bool) (z : (Nat → Nat) × (Nat → Nat) × (Nat → Nat → Bool)) (j y : Nat) (h : (dc_rd R L rp can fr z).2.2 j y = true) : z.2.2 j y = true ∨ (y < R ∧ fr y = true) := by
  have H : ∀ n, n ≤ R → (dc_it (dc_rx R L rp can fr) z n).2.2 j y = true → z.2.2 j y = true ∨ (y < R ∧ fr y = true) := by
    intro n
    induction n with
    | zero => exact fun _ h => Or.inl h
    | succ n ih =>
      intro hn h
      have h' : (dc_rx R L rp can fr n (dc_it (dc_rx R L rp can fr) z n)).2.2 j y = true := h
      by_cases hc : fr n = true
      · rw [dc_rx_1 hc] at h'
        rcases dc_fx_T n _ j y h' with a | a
        · exact ih (by omega) a
        · exact Or.inr ⟨by omega, by rw [a]; exact hc⟩
      · rw [dc_rx_0 hc] at h'
        exact ih (by omega) h'
  exact H R (Nat.le_refl R) h
/-- an empty frontier does nothing -/
theorem dc_rd_0 (fr : Nat → Bool) (z : (Nat → Nat) × (Nat → Nat) × (Nat → Nat → Bool)) (h : ∀ x, x < R → fr x = false) : dc_rd R L rp can fr z = z := by
  have H : ∀ n, n ≤ R → dc_it (dc_rx R L rp can fr) z n = z := by
    intro n
    induction n with
    | zero => exact fun _ => rfl
    | succ n ih =>
      intro hn
      have e : ¬ fr n = true := by rw [h n (by omega)]; decide
      show dc_rx R L rp can fr n (dc_it (dc_rx R L rp can fr) z n) = z
      rw [ih (by omega)]
      exact if_neg e
  exact H R (Nat.le_refl R)
/-- what every round keeps -/
def dc_FI (R L n : Nat) (w : ((Nat → Nat) × (Nat → Nat) × (Nat → Nat → Bool)) × (Nat → Bool)) : Prop :=
  (∀ j y, w.1.2.2 j y = true → y < R ∧ 1 ≤ w.1.1 y) ∧ (∀ y, w.2 y = true → y < R ∧ 1 ≤ w.1.1 y) ∧ (∀ y, w.1.1 y ≤ 1 + n * (R * L)) ∧
  ((∃ y, w.2 y = true) → n + 1 ≤ dc_cn (fun y => decide (1 ≤ w.1.1 y)) R)
theorem dc_FI0 {s : Nat} (hs : s < R) : dc_FI R L 0 (dc_f0 s) := by
  refine ⟨fun j y h => absurd (show false = true from h) (by decide), fun y h => ?_, fun y => ?_, fun _ => ?_⟩
  · have e : y = s := of_decide_eq_true h
    subst e
    exact ⟨hs, by show 1 ≤ (if y = y then 1 else 0); rw [if_pos rfl] <;> exact Nat.le_refl 1⟩
  · show (if y = s then 1 else 0) ≤ 1 + 0 * (R * L)
    split <;> omega
  · exact dc_cn_pos hs (decide_eq_true (Nat.le_of_eq (if_pos rfl).symm))
theorem dc_FIs {n : Nat} {w : ((Nat → Nat) × (Nat → Nat) × (Nat → Nat → Bool)) × (Nat → Bool)} (h : dc_FI R L n w) : dc_FI R L (n + 1) (dc_st R L rp can w) := by
  obtain ⟨h1, h2, h3, h4⟩ := h
  have hb := dc_rd_b (R := R) (L := L) (rp := rp) (can := can) w.2 w.1
  refine ⟨fun j y z => ?_, fun y z => ?_, fun y => ?_, fun ⟨y, z⟩ => ?_⟩
  · have z' : (dc_rd R L rp can w.2 w.1).2.2 j y = true := z
    have b := (hb y).1
    show y < R ∧ 1 ≤ (dc_rd R L rp can w.2 w.1).1 y
    rcases dc_rd_T w.2 w.1 j y z' with a | a
    · have := h1 j y a; omega
    · have := h2 y a.2; omega
  · have z' : y < R ∧ w.1.1 y = 0 ∧ 1 ≤ (dc_rd R L rp can w.2 w.1).1 y := of_decide_eq_true z
    exact ⟨z'.1, z'.2.2⟩
  · have b := (hb y).2
    have a := h3 y
    show (dc_rd R L rp can w.2 w.1).1 y ≤ 1 + (n + 1) * (R * L)
    rw [Nat.succ_mul]
    omega
  · have z' : y < R ∧ w.1.1 y = 0 ∧ 1 ≤ (dc_rd R L rp can w.2 w.1).1 y := of_decide_eq_true z
    have ne : ∃ y, w.2 y = true := by
      by_cases e : ∃ y, w.2 y = true
      · exact e
      · exfalso
        have e0 : ∀ x, x < R → w.2 x = false := by
          intro x _
          cases hx : w.2 x with
          | false => rfl
          | true => exact absurd ⟨x, hx⟩ e
        have e1 := dc_rd_0 (R := R) (L := L) (rp := rp) (can := can) w.2 w.1 e0
        rw [e1] at z'
        omega
    have a := h4 ne
    have g : dc_cn (fun y => decide (1 ≤ w.1.1 y)) R < dc_cn (fun y => decide (1 ≤ (dc_rd R L rp can w.2 w.1).1 y)) R :=
      dc_cn_lt (j := y) (decide_eq_false (by omega)) (decide_eq_true z'.2.2) R (fun i _ t => decide_eq_true (Nat.le_trans (of_decide_eq_true t) (hb i).1)) z'.1
    show n + 1 + 1 ≤ dc_cn (fun y => decide (1 ≤ (dc_rd R L rp can w.2 w.1).1 y)) R
    omega
theorem dc_FIn {s : Nat} (hs : s < R) : ∀ n, dc_FI R L n (dc_fl R L rp can (dc_f0 s) n) := by
  intro n
  induction n with
  | zero => exact dc_FI0 hs
  | succ n ih =>
    show dc_FI R L (n + 1) (dc_st R L rp can (dc_fl R L rp can (dc_f0 s) n))
    exact dc_FIs ih
/-- the frontier of round R is empty -/
theorem dc_fl_R {s : Nat} (hs : s < R) (y : Nat) : (dc_fl R L rp can (dc_f0 s) R).2 y = false := by
  cases h : (dc_fl R L rp can (dc_f0 s) R).2 y with
  | false => rfl
  | true =>
    have a := (dc_FIn (L := L) (rp := rp) (can := can) hs R).2.2.2 ⟨y, h⟩
    have b := dc_cn_le (fun y => decide (1 ≤ (dc_fl R L rp can (dc_f0 s) R).1.1 y)) R
    omega
/-- from an empty frontier on nothing changes -/
theorem dc_fl_e {w : ((Nat → Nat) × (Nat → Nat) × (Nat → Nat → Bool)) × (Nat → Bool)} {n : Nat} (h : ∀ x, x < R → (dc_fl R L rp can w n).2 x = false) : ∀ m, (dc_fl R L rp can w (n + m)).1 = (dc_fl R L rp can w n).1 ∧ ∀ x, x < R → (dc_fl R L rp can w (n + m)).2 x = false := by
  intro m
  induction m with
  | zero => exact ⟨rfl, h⟩
  | succ m ih =>
    have e := dc_rd_0 (R := R) (L := L) (rp := rp) (can := can) _ (dc_fl R L rp can w (n + m)).1 ih.2
    refine ⟨?_, fun x hx => ?_⟩
    · show dc_rd R L rp can (dc_fl R L rp can w (n + m)).2 (dc_fl R L rp can w (n + m)).1 = _
      rw [e]
      exact ih.1
    · show decide (x < R ∧ (dc_fl R L rp can w (n + m)).1.1 x = 0 ∧ 1 ≤ (dc_rd R L rp can (dc_fl R L rp can w (n + m)).2 (dc_fl R L rp can w (n + m)).1).1 x) = false
      rw [e]
      exact decide_eq_false (by omega)
/-- whoever stops at an empty frontier, at R or before or behind, has the same record -/
theorem dc_fl_u {s : Nat} (hs : s < R) {n : Nat} (h : ∀ x, x < R → (dc_fl R L rp can (dc_f0 s) n).2 x = false) : (dc_fl R L rp can (dc_f0 s) n).1 = (dc_fl R L rp can (dc_f0 s) R).1 := by
  rcases Nat.le_total n R with z | z
  · have a := (dc_fl_e h (R - n)).1
    rw [show n + (R - n) = R by omega] at a
    exact a.symm
  · have a := (dc_fl_e (fun x _ => dc_fl_R (L := L) (rp := rp) (can := can) hs x) (n - R)).1
    rw [show R + (n - R) = n by omega] at a
    exact a
end
/-- the counts stay small -/
theorem dc_FI_b {R L n : Nat} {w : ((Nat → Nat) × (Nat → Nat) × (Nat → Nat → Bool)) × (Nat → Bool)} (h : dc_FI R L n w) (hR : R ≤ 12) (hL : L ≤ 16) (hn : n ≤ 13) (y : Nat) : w.1.1 y ≤ 2497 := by
  have a := h.2.2.1 y
  have b : R * L ≤ 12 * 16 := Nat.mul_le_mul hR hL
  have d : n * (R * L) ≤ 13 * (12 * 16) := Nat.mul_le_mul hn b
  omega
end
section
/-! the election, and the least set of routers that are needed -/
def dc_oI : Option Nat → Int32
  | none => -1
  | some q => nI q
/-- the scan upward: a later one that is not worse wins -/
def dc_bs (T : Nat → Bool) (b : Nat → Nat → Bool) : Nat → Option Nat
  | 0 => none
  | n + 1 => if T n = true then (match dc_bs T b n with
      | none => some n
      | some q => if b n q = true then some n else some q) else dc_bs T b n
theorem dc_bs_eq (T : Nat → Bool) (b : Nat → Nat → Bool) (n : Nat) : dc_bs T b (n + 1) = (if T n = true then (match dc_bs T b n with
      | none => some n
      | some q => if b n q = true then some n else some q) else dc_bs T b n) := rfl
theorem dc_bs_m {T : Nat → Bool} {b : Nat → Nat → Bool} : ∀ {n q : Nat}, dc_bs T b n = some q → q < n ∧ T q = true := by
  intro n
  induction n with
  | zero => intro q h; exact nomatch h
  | succ n ih =>
    intro q h
    rw [dc_bs_eq] at h
    by_cases ht : T n = true
    · rw [if_pos ht] at h
      cases e : dc_bs T b n with
      | none =>
        rw [e] at h
        have : n = q := Option.some.inj h
        subst this
        exact ⟨by omega, ht⟩
      | some p =>
        rw [e] at h
        by_cases hb : b n p = true
        · have h' : (if b n p = true then some n else some p) = some q := h
          rw [if_pos hb] at h'
          have : n = q := Option.some.inj h'
          subst this
          exact ⟨by omega, ht⟩
        · have h' : (if b n p = true then some n else some p) = some q := h
          rw [if_neg hb] at h'
          have := ih (q := q) (by rw [e]; exact h')
          exact ⟨by omega, this.2⟩
    · rw [if_neg ht] at h
      have := ih h
      exact ⟨by omega, this.2⟩
theorem dc_bs_0 {T : Nat → Bool} {b : Nat → Nat → Bool} : ∀ {n : Nat}, dc_bs T b n = none → ∀ i, i < n → T i = false := by
  intro n
  induction n with
  | zero => intro _ i hi; omega
  | succ n ih =>
    intro h i hi
    rw [dc_bs_eq] at h
    by_cases ht : T n = true
    · rw [if_pos ht] at h
      cases e : dc_bs T b n with
      | none => rw [e] at h; exact nomatch h
      | some p =>
        rw [e] at h
        by_cases hb : b n p = true
        · have h' : (if b n p = true then some n else some p) = none := h
          rw [if_pos hb] at h'
          exact nomatch h'
        · have h' : (if b n p = true then some n else some p) = none := h
          rw [if_neg hb] at h'
          exact nomatch h'
    · rw [if_neg ht] at h
      by_cases z : i = n
      · rw [z]
        exact Bool.eq_false_iff.mpr ht
      · exact ih h i (by omega)
/-- of one alone the scan finds that one -/
theorem dc_bs_1 {T : Nat → Bool} {b : Nat → Nat → Bool} {n q : Nat} (hc : dc_cn T n < 2) (hq : q < n) (h : T q = true) : dc_bs T b n = some q := by
  cases e : dc_bs T b n with
  | none => have := dc_bs_0 e q hq; rw [h] at this; exact nomatch this
  | some p =>
    have a := dc_bs_m e
    rw [dc_cn_one hc a.1 hq a.2 h]
theorem dc_bs_n {T : Nat → Bool} {b : Nat → Nat → Bool} {n : Nat} (h : ∀ i, i < n → T i = false) : dc_bs T b n = none := by
  cases e : dc_bs T b n with
  | none => rfl
  | some p => have a := dc_bs_m e; rw [h p a.1] at a; exact nomatch a.2
section
variable (R L s : Nat) (rp f : Nat → Int32) (ok mb : Nat → Bool)
/-- link k is wanted, by the set N -/
def dc_W (N : Nat → Bool) (k : Nat) : Prop := ∃ z, z < R ∧ N z = true ∧ rp z = nI k
def dc_Ph (N : Nat → Bool) (y : Nat) : Prop := y ≠ s ∧ ok y = true ∧ (mb y = true ∨ ∃ j, j < L ∧ f j = nI y ∧ dc_W R rp N j)
def dc_Cl (N : Nat → Bool) : Prop := ∀ y, y < R → dc_Ph R L s rp f ok mb N y → N y = true
def dc_Sd (N : Nat → Bool) : Prop := ∀ C, dc_Cl R L s rp f ok mb C → ∀ y, y < R → N y = true → C y = true
/-- the component's set after i passes -/
def dc_NX (i : Nat) (N : Nat → Bool) : Prop :=
  dc_Sd R L s rp f ok mb N ∧ (∀ y, y < R → y ≠ s → ok y = true → mb y = true → N y = true) ∧ (dc_Cl R L s rp f ok mb N ∨ i ≤ dc_cn N R)
/-- the reference's set in the midst of a pass that began with N0 -/
def dc_NY (N0 : Nat → Bool) (y : Nat) (N : Nat → Bool) (ch : Bool) : Prop :=
  dc_Sd R L s rp f ok mb N ∧ (∀ i, i < R → N0 i = true → N i = true) ∧
  (ch = false → (∀ i, i < R → N i = N0 i) ∧ ∀ i, i < y → i < R → dc_Ph R L s rp f ok mb N0 i → N0 i = true) ∧
  (ch = true → ∃ i, i < R ∧ N0 i = false ∧ N i = true)
end
section
variable {R L s : Nat} {rp f : Nat → Int32} {ok mb : Nat → Bool}
theorem dc_W_mono {N C : Nat → Bool} (h : ∀ y, y < R → N y = true → C y = true) {k : Nat} (w : dc_W R rp N k) : dc_W R rp C k := by
  obtain ⟨z, hz, n, e⟩ := w
  exact ⟨z, hz, h z hz n, e⟩
theorem dc_Ph_mono {N C : Nat → Bool} (h : ∀ y, y < R → N y = true → C y = true) {y : Nat} (w : dc_Ph R L s rp f ok mb N y) : dc_Ph R L s rp f ok mb C y := by
  refine ⟨w.1, w.2.1, ?_⟩
  rcases w.2.2 with a | ⟨j, hj, e, a⟩
  · exact Or.inl a
  · exact Or.inr ⟨j, hj, e, dc_W_mono h a⟩
/-- the two least closed sets are one -/
theorem dc_N_u {N C : Nat → Bool} (n1 : dc_Sd R L s rp f ok mb N) (n2 : dc_Cl R L s rp f ok mb N) (c1 : dc_Sd R L s rp f ok mb C) (c2 : dc_Cl R L s rp f ok mb C) {y : Nat} (hy : y < R) : N y = C y := by
  have a := n1 C c2 y hy
  have b := c1 N n2 y hy
  cases hn : N y with
  | true => rw [a hn]
  | false =>
    cases hc : C y with
    | false => rfl
    | true => rw [b hc] at hn; exact nomatch hn
theorem dc_NX0 {N : Nat → Bool} (h : ∀ y, y < R → (N y = true ↔ (y ≠ s ∧ mb y = true ∧ ok y = true))) : dc_NX R L s rp f ok mb 0 N :=
  ⟨fun C hC y hy n => have a := (h y hy).mp n
    hC y hy ⟨a.1, a.2.2, Or.inl a.2.1⟩, fun y hy a b c => (h y hy).mpr ⟨a, c, b⟩, Or.inr (Nat.zero_le _)⟩
theorem dc_NXs (hf : ∀ j y, j < L → y < R → f j = nI y → ok y = true) {i : Nat} {N N' : Nat → Bool} (h : dc_NX R L s rp f ok mb i N)
    (e : ∀ y, y < R → (N' y = true ↔ (N y = true ∨ (y ≠ s ∧ ∃ j, j < L ∧ f j = nI y ∧ dc_W R rp N j)))) : dc_NX R L s rp f ok mb (i + 1) N' := by
  obtain ⟨h1, h2, h3⟩ := h
  have sub : ∀ y, y < R → N y = true → N' y = true := fun y hy n => (e y hy).mpr (Or.inl n)
  refine ⟨fun C hC y hy n => ?_, fun y hy a b c => sub y hy (h2 y hy a b c), ?_⟩
  · rcases (e y hy).mp n with a | ⟨a, j, hj, ej, w⟩
    · exact h1 C hC y hy a
    · exact hC y hy ⟨a, hf j y hj hy ej, Or.inr ⟨j, hj, ej, dc_W_mono (h1 C hC) w⟩⟩
  · by_cases z : dc_Cl R L s rp f ok mb N
    · left
      have same : ∀ y, y < R → N' y = true → N y = true := by
        intro y hy n
        rcases (e y hy).mp n with a | ⟨a, j, hj, ej, w⟩
        · exact a
        · exact z y hy ⟨a, hf j y hj hy ej, Or.inr ⟨j, hj, ej, w⟩⟩
      intro y hy p
      exact sub y hy (z y hy (dc_Ph_mono same p))
    · right
      rcases h3 with a | a
      · exact absurd a z
      · have : ∃ y, y < R ∧ dc_Ph R L s rp f ok mb N y ∧ N y = false := by
          apply Classical.byContradiction
          intro no
          apply z
          intro y hy p
          cases hn : N y with
          | true => rfl
          | false => exact absurd ⟨y, hy, p, hn⟩ no
        obtain ⟨y, hy, p, hn⟩ := this
        have n' : N' y = true := by
          rcases p.2.2 with b | b
          · have := h2 y hy p.1 p.2.1 b
            rw [hn] at this
            exact nomatch this
          · exact (e y hy).mpr (Or.inr ⟨p.1, b⟩)
        have := dc_cn_lt (j := y) hn n' R sub hy
        omega
theorem dc_NXR {N : Nat → Bool} (h : dc_NX R L s rp f ok mb R N) : dc_Cl R L s rp f ok mb N := by
  rcases h.2.2 with a | a
  · exact a
  · intro y hy _
    cases hn : N y with
    | true => rfl
    | false => have := dc_cn_full hy hn; omega
theorem dc_Sd0 {N : Nat → Bool} (h : ∀ y, y < R → N y = false) : dc_Sd R L s rp f ok mb N :=
  fun _ _ y hy n => by rw [h y hy] at n; exact nomatch n
theorem dc_NY0 {N : Nat → Bool} (h : dc_Sd R L s rp f ok mb N) : dc_NY R L s rp f ok mb N 0 N false :=
  ⟨h, fun _ _ n => n, fun _ => ⟨fun _ _ => rfl, fun _ z => absurd z (Nat.not_lt_zero _)⟩, fun z => nomatch z⟩
/-- a router that the pass leaves as it is -/
theorem dc_NYn {N0 N : Nat → Bool} {y : Nat} {ch : Bool} (h : dc_NY R L s rp f ok mb N0 y N ch) (no : dc_Ph R L s rp f ok mb N y → N y = true) : dc_NY R L s rp f ok mb N0 (y + 1) N ch := by
  obtain ⟨h1, h2, h3, h4⟩ := h
  refine ⟨h1, h2, fun z => ⟨(h3 z).1, fun i hi hR p => ?_⟩, h4⟩
  by_cases e : i = y
  · subst e
    have same := (h3 z).1
    rw [← same i hR]
    exact no (dc_Ph_mono (fun j hj n => by rw [same j hj]; exact n) p)
  · exact (h3 z).2 i (by omega) hR p
/-- a router that the pass adds -/
theorem dc_NYa {N0 N N' : Nat → Bool} {y : Nat} {ch : Bool} (h : dc_NY R L s rp f ok mb N0 y N ch) (hy : y < R) (p : dc_Ph R L s rp f ok mb N y) (n : N y = false)
    (e : ∀ i, i < R → N' i = (if i = y then true else N i)) : dc_NY R L s rp f ok mb N0 (y + 1) N' true := by
  obtain ⟨h1, h2, h3, h4⟩ := h
  have sub : ∀ i, i < R → N i = true → N' i = true := by
    intro i hi t
    rw [e i hi]
    split
    · rfl
    · exact t
  refine ⟨fun C hC i hi t => ?_, fun i hi t => sub i hi (h2 i hi t), fun z => (nomatch z), fun _ => ⟨y, hy, ?_, by rw [e y hy, if_pos rfl]⟩⟩
  · rw [e i hi] at t
    by_cases z : i = y
    · subst z
      exact hC i hi (dc_Ph_mono (h1 C hC) p)
    · rw [if_neg z] at t
      exact h1 C hC i hi t
  · cases hn : N0 y with
    | false => rfl
    | true => rw [h2 y hy hn] at n; exact nomatch n
/-- a pass that changed nothing: the set is closed -/
theorem dc_NYf {N0 N : Nat → Bool} (h : dc_NY R L s rp f ok mb N0 R N false) : dc_Cl R L s rp f ok mb N := by
  have a := h.2.2.1 rfl
  intro y hy p
  rw [a.1 y hy]
  exact a.2 y hy hy (dc_Ph_mono (fun j hj n => by rw [← a.1 j hj]; exact n) p)
/-- a pass that changed something: the set has grown -/
theorem dc_NYt {N0 N : Nat → Bool} (h : dc_NY R L s rp f ok mb N0 R N true) : dc_cn N0 R < dc_cn N R := by
  obtain ⟨i, hi, a, b⟩ := h.2.2.2 rfl
  exact dc_cn_lt (j := i) a b R h.2.1 hi
end
/-! the scan's steps -/
theorem dc_bs_s0 {T : Nat → Bool} {b : Nat → Nat → Bool} {n : Nat} (h : ¬ T n = true) : dc_bs T b (n + 1) = dc_bs T b n := by
  rw [dc_bs_eq]
  exact if_neg h
theorem dc_bs_s1 {T : Nat → Bool} {b : Nat → Nat → Bool} {n : Nat} (h : T n = true) (e : dc_bs T b n = none) : dc_bs T b (n + 1) = some n := by
  rw [dc_bs_eq]
  rw [if_pos h, e]
theorem dc_bs_s2 {T : Nat → Bool} {b : Nat → Nat → Bool} {n q : Nat} (h : T n = true) (e : dc_bs T b n = some q) (hb : b n q = true) : dc_bs T b (n + 1) = some n := by
  rw [dc_bs_eq]
  rw [if_pos h, e]
  exact if_pos hb
theorem dc_bs_s3 {T : Nat → Bool} {b : Nat → Nat → Bool} {n q : Nat} (h : T n = true) (e : dc_bs T b n = some q) (hb : ¬ b n q = true) : dc_bs T b (n + 1) = some q := by
  rw [dc_bs_eq]
  rw [if_pos h, e]
  exact if_neg hb
/-- who wins: x against an earlier q -/
def dc_be (pf : Nat → Int32) (D : Nat → Nat) (x q : Nat) : Bool := decide (pf x < pf q ∨ (pf x = pf q ∧ D x ≤ D q))
/-- wanted, as a truth value -/
def dc_wb (R : Nat) (rp : Nat → Int32) (N : Nat → Bool) (k : Nat) : Bool := decide (0 < dc_cn (fun z => N z && decide (rp z = nI k)) R)
theorem dc_wb_1 {R : Nat} {rp : Nat → Int32} {N : Nat → Bool} {k : Nat} : dc_wb R rp N k = true ↔ dc_W R rp N k := by
  constructor
  · intro h
    obtain ⟨z, hz, e⟩ := dc_cn_some (of_decide_eq_true h)
    have e' : (N z && decide (rp z = nI k)) = true := e
    rw [Bool.and_eq_true] at e'
    exact ⟨z, hz, e'.1, of_decide_eq_true e'.2⟩
  · intro ⟨z, hz, n, e⟩
    refine decide_eq_true (dc_cn_pos hz ?_)
    show (N z && decide (rp z = nI k)) = true
    rw [n, decide_eq_true e] <;> rfl
/-- the record's source row of the prune timers after the links below i -/
def dc_pr (R : Nat) (rp : Nat → Int32) (T : Nat → Nat → Bool) (N : Nat → Bool) (h : Int32) (s : Nat) (P : Nat → Nat → Int32) (i : Nat) : Nat → Nat → Int32 :=
  fun s' k => if s' = s ∧ k < i ∧ 0 < dc_cn (T k) R ∧ dc_wb R rp N k = false then h else P s' k
/-- the forwarders after the links below i -/
def dc_fo (R : Nat) (T : Nat → Nat → Bool) (b : Nat → Nat → Bool) (s : Nat) (F : Nat → Nat → Int32) (i : Nat) : Nat → Nat → Int32 :=
  fun s' k => if s' = s ∧ k < i ∧ 2 ≤ dc_cn (T k) R then dc_oI (dc_bs (T k) b R) else F s' k
end
section
/-! sets of routers as bits of an int: x holds the set p of routers below R (over the rows to paste: bt, b_ext, b_or, b_and, b_xor, b_big, b_m1, b_0, s_l, b_shl, b_sshr) -/
def dc_ms (R : Nat) (x : Int32) (p : Nat → Bool) : Prop := ∀ i, i < 32 → bt x i = (decide (i < R) && p i)
theorem dc_and1 (y : Int32) : y &&& 1 = if bt y 0 = true then 1 else 0 := by
  apply Int32.toBitVec_inj.mp
  rw [Int32.toBitVec_and]
  show y.toBitVec &&& 1#32 = _
  rw [BitVec.and_one_eq_setWidth_ofBool_getLsbD]
  unfold bt
  cases y.toBitVec.getLsbD 0 <;> rfl
theorem dc_bit {x : Int32} {r : Nat} (hr : r < 32) : (x >>> (nI r &&& 31)) &&& 1 = 1 ↔ bt x r = true := by
  rw [dc_and1, b_sshr r hr x (by omega), Nat.add_zero, if_pos hr]
  cases bt x r <;> decide
theorem dc_1sh : ∀ r, r < 32 → ∀ i, i < 32 → bt ((1 : Int32) <<< (nI r &&& 31)) i = decide (i = r) := by decide +kernel
theorem dc_ms_bit {R : Nat} {x : Int32} {p : Nat → Bool} (h : dc_ms R x p) {r : Nat} (hr : r < R) (hR : R ≤ 12) : (x >>> (nI r &&& 31)) &&& 1 = 1 ↔ p r = true := by
  rw [dc_bit (by omega), h r (by omega), decide_eq_true hr, Bool.true_and]
theorem dc_ms_or {R : Nat} {x : Int32} {p : Nat → Bool} (h : dc_ms R x p) {r : Nat} (hr : r < R) (hR : R ≤ 12) : dc_ms R (x ||| ((1 : Int32) <<< (nI r &&& 31))) (fun i => if i = r then true else p i) := by
  intro i hi
  rw [b_or, h i hi, dc_1sh r (by omega) i hi]
  by_cases z : i = r
  · subst z; simp [hr]
  · simp [z]
theorem dc_ms_rm {R : Nat} {x : Int32} {p : Nat → Bool} (h : dc_ms R x p) {r : Nat} (hr : r < R) (hR : R ≤ 12) : dc_ms R (x &&& (((1 : Int32) <<< (nI r &&& 31)) ^^^ (-1))) (fun i => if i = r then false else p i) := by
  intro i hi
  rw [b_and, b_xor, b_m1 i hi, h i hi, dc_1sh r (by omega) i hi]
  by_cases z : i = r
  · subst z; simp
  · simp [z]
theorem dc_ms_mn {R : Nat} {x y : Int32} {p q : Nat → Bool} (h : dc_ms R x p) (g : dc_ms R y q) : dc_ms R (x &&& (y ^^^ (-1))) (fun i => p i && !(q i)) := by
  intro i hi
  rw [b_and, b_xor, b_m1 i hi, h i hi, g i hi]
  show ((decide (i < R) && p i) && ((decide (i < R) && q i) ^^ true)) = (decide (i < R) && (p i && !(q i)))
  cases decide (i < R) <;> cases p i <;> cases q i <;> rfl
theorem dc_ms_0 (R : Nat) : dc_ms R 0 (fun _ => false) := by
  intro i _
  rw [b_0, Bool.and_false]
theorem dc_ms_ext {R : Nat} {x : Int32} {p q : Nat → Bool} (h : dc_ms R x p) (e : ∀ i, i < R → p i = q i) : dc_ms R x q := by
  intro i hi
  rw [h i hi]
  by_cases z : i < R
  · rw [e i z]
  · simp [z]
theorem dc_ms_eq {R : Nat} {x y : Int32} {p : Nat → Bool} (h : dc_ms R x p) (g : dc_ms R y p) : x = y := b_ext (fun i hi => by rw [h i hi, g i hi])
theorem dc_ms_z {R : Nat} {x : Int32} {p : Nat → Bool} (h : dc_ms R x p) (hR : R ≤ 12) : x = 0 ↔ ∀ i, i < R → p i = false := by
  constructor
  · intro e i hi
    have a := h i (by omega)
    rw [e, b_0, decide_eq_true hi, Bool.true_and] at a
    exact a.symm
  · intro e
    exact dc_ms_eq (dc_ms_ext h e) (dc_ms_0 R)
/-- the int as a natural number below 4096 -/
theorem dc_ms_nat {R : Nat} {x : Int32} {p : Nat → Bool} (h : dc_ms R x p) (hR : R ≤ 12) : ∃ m, m < 2 ^ R ∧ x = nI m ∧ ∀ i, i < R → m.testBit i = p i := by
  refine ⟨x.toBitVec.toNat, ?_, ?_, fun i hi => ?_⟩
  · apply Nat.lt_pow_two_of_testBit
    intro i hi
    show bt x i = false
    by_cases z : i < 32
    · rw [h i z, decide_eq_false (by omega), Bool.false_and]
    · exact b_big (by omega)
  · apply Int32.toBitVec_inj.mp
    show x.toBitVec = BitVec.ofNat 32 x.toBitVec.toNat
    simp
  · show bt x i = p i
    rw [h i (by omega), decide_eq_true hi, Bool.true_and]
theorem dc_two3 : ∀ a, a < 64 → ∀ b, b < 64 → ((nI (a * 64 + b) &&& (nI (a * 64 + b) - 1) = 0) ↔ dc_cn (fun i => (a * 64 + b).testBit i) 12 < 2) := by decide +kernel
theorem dc_two4 (m : Nat) (h : m < 4096) : (nI m &&& (nI m - 1) = 0) ↔ dc_cn (fun i => m.testBit i) 12 < 2 := by
  have a := dc_two3 (m / 64) (by omega) (m % 64) (by omega)
  rw [show m / 64 * 64 + m % 64 = m by omega] at a
  exact a
theorem dc_ms_two {R : Nat} {x : Int32} {p : Nat → Bool} (h : dc_ms R x p) (hR : R ≤ 12) : x &&& (x - 1) = 0 ↔ dc_cn p R < 2 := by
  obtain ⟨m, hm, rfl, e⟩ := dc_ms_nat h hR
  have h12 : m < 4096 := Nat.lt_of_lt_of_le hm (Nat.pow_le_pow_right (by decide) hR)
  have hc : ∀ i, (fun i => m.testBit i) i = true → i < R := by
    intro i t
    by_cases z : i < R
    · exact z
    · have w : m.testBit i = false := Nat.testBit_lt_two_pow (Nat.lt_of_lt_of_le hm (Nat.pow_le_pow_right (by decide) (by omega)))
      have t' : m.testBit i = true := t
      rw [w] at t'
      exact nomatch t'
  have c1 := dc_cn_cut hc 12 hR
  have c2 : dc_cn (fun i => m.testBit i) R = dc_cn p R := dc_cn_ext e
  rw [dc_two4 m h12, c1, c2]
/-- the sum of the ones shifted, cell by cell -/
theorem dc_sum1 {m r : Nat} (hr : r < 12) (h : m.testBit r = true) : nI (m % 2 ^ r) + ((1 : Int32) <<< (nI r &&& 31)) = nI (m % 2 ^ (r + 1)) := by
  have e : (1 : Int32) <<< (nI r &&& 31) = nI (2 ^ r) := by
    have := (by decide +kernel : ∀ r, r < 12 → (1 : Int32) <<< (nI r &&& 31) = nI (2 ^ r))
    exact this r hr
  rw [e, nI_add, Nat.mod_pow_succ]
  rw [Nat.testBit_eq_decide_div_mod_eq] at h
  rw [of_decide_eq_true h, Nat.mul_one]
theorem dc_sum0 {m r : Nat} (h : m.testBit r = false) : nI (m % 2 ^ r) = nI (m % 2 ^ (r + 1)) := by
  rw [Nat.mod_pow_succ]
  rw [Nat.testBit_eq_decide_div_mod_eq] at h
  have : m / 2 ^ r % 2 = 0 := by
    have a := of_decide_eq_false h
    have b := Nat.mod_lt (m / 2 ^ r) (show 2 > 0 by decide)
    generalize m / 2 ^ r % 2 = t at a b
    omega
  rw [this, Nat.mul_zero, Nat.add_zero]
end
section
/-! places in the rows, bounds, the topology in both states -/
theorem dc_i12 (k i : Nat) : nI k * 12 + nI i = nI (k * 12 + i) := by
  rw [show (12 : Int32) = nI 12 from rfl, pk_mul, nI_add]
theorem dc_i16 (k i : Nat) : nI k * 16 + nI i = nI (k * 16 + i) := by
  rw [show (16 : Int32) = nI 16 from rfl, pk_mul, nI_add]
theorem dc_v12 (k i : Nat) {N : Nat} (h : k * 12 + i < N) (hN : N < 2 ^ 31) : vp_in (nI k * 12 + nI i) N := by
  rw [dc_i12]; exact vp_in_nI h hN
theorem dc_c12 (k i : Nat) (h : k * 12 + i < 2 ^ 31) : (nI k * 12 + nI i).toNatClampNeg = k * 12 + i := by
  rw [dc_i12]; exact nI_clamp h
theorem dc_v16 (k i : Nat) {N : Nat} (h : k * 16 + i < N) (hN : N < 2 ^ 31) : vp_in (nI k * 16 + nI i) N := by
  rw [dc_i16]; exact vp_in_nI h hN
theorem dc_c16 (k i : Nat) (h : k * 16 + i < 2 ^ 31) : (nI k * 16 + nI i).toNatClampNeg = k * 16 + i := by
  rw [dc_i16]; exact nI_clamp h
theorem dc_cl (i : Nat) (h : i < 2 ^ 31) : (nI i).toNatClampNeg = i := nI_clamp h
/-- a loop's head: at the end, within -/
theorem dc_end {n : Nat} (h : n < 2 ^ 31) : nI n ≤ nI n := nI_le (Nat.le_refl n) h
theorem dc_in {i n : Nat} (h : i < n) (hn : n < 2 ^ 31) : ¬ nI n ≤ nI i := nI_ge h hn
/-- the bounds of a state -/
def dc_B (R L : Nat) (c : Nat → Nat) : Prop := 2 ≤ R ∧ R ≤ 12 ∧ 1 ≤ L ∧ L ≤ 16 ∧ (∀ k, k < L → 1 ≤ c k) ∧ (∀ k, k < L → c k ≤ 15)
/-- links and costs as the reference has them -/
def dc_TY (R L : Nat) (A : Nat → Nat → Bool) (c : Nat → Nat) (yco yat : Nat → Int32) : Prop :=
  (∀ k, k < L → yco k = nI (c k)) ∧ (∀ k r, k < L → r < R → (yat (k * 12 + r) = 0 ↔ A k r = false))
/-- links and costs as the component has them -/
def dc_TX (R L : Nat) (A : Nat → Nat → Bool) (c : Nat → Nat) (xas xlc : Nat → Int32) : Prop :=
  (∀ k, k < L → xlc k = nI (c k)) ∧ (∀ k, k < L → dc_ms R (xas k) (A k))
theorem dc_bf {b : Bool} (h : ¬ b = false) : b = true := by
  cases b
  · exact absurd rfl h
  · rfl
theorem dc_bt {b : Bool} (h : ¬ b = true) : b = false := Bool.eq_false_iff.mpr h
/-- a row filled cell by cell -/
theorem dc_put {f : Nat → Int32} {i : Nat} {x : Int32} (h : ∀ j, j < i → f j = x) : ∀ j, j < i + 1 → upd f i x j = x := by
  intro j hj
  by_cases e : j = i
  · rw [e]; exact pk_us
  · rw [pk_un e]; exact h j (by omega)
end
section
/-! the reference's walks over the topology -/
section
variable {R L H : Nat} {A : Nat → Nat → Bool} {c : Nat → Nat} {yco yat ypf ymb ypr yfw yrc yca ytr yd yro yfr ybe yne ycu : Nat → Int32}
theorem dy_usable {post : Int32 → Prop} {k : Nat} (B : dc_B R L c) (T : dc_TY R L A c yco yat) (hk : k < L) (h1 : 2 ≤ dc_cn (A k) R → post 1) (h0 : dc_cn (A k) R < 2 → post 0) : wpY_usable post (nI R, nI L, nI H, yco, yat, ypf, ymb, ypr, yfw, yrc, yca, ytr, yd, yro, yfr, ybe, yne, ycu) (nI k) := by
  obtain ⟨_, hR, _, hL, _, _⟩ := B
  refine loop_0 (fun n i s => wY_usable_4 post (nI k) (nI R) (nI L) (nI H) yco yat ypf ymb ypr yfw yrc yca ytr yd yro yfr ybe yne ycu n s (nI i)) (fun i s => s = nI (dc_cn (A k) i)) R 0 rfl ?_ ?_
  · intro n s hs
    subst hs
    have hc := dc_cn_le (A k) R
    refine br_t (dc_end (by omega)) ?_
    by_cases z : dc_cn (A k) R < 2
    · exact br_t (nI_lt (b := 2) z (by decide)) (h0 z)
    · exact br_f (nI_nlt (b := 2) (by omega) (by omega)) (h1 (by omega))
  · intro n i s hi hs hn
    subst hs
    refine br_f (dc_in hi (by omega)) ⟨dc_v12 k i (by omega) (by omega), ?_⟩
    rw [dc_c12 k i (by omega)]
    by_cases z : A k i = true
    · refine br_f (fun e => ?_) (nm_r (nI_1 _) (nm_r (nI_1 i) (hn _ ?_)))
      · rw [(T.2 k i hk hi).mp e] at z; exact nomatch z
      · simp only [dc_cn, if_pos z]
    · refine br_t ((T.2 k i hk hi).mpr (dc_bt z)) (nm_r (nI_1 i) (hn _ ?_))
      simp only [dc_cn, if_neg z, Nat.add_zero]
theorem dy_relax37 {post : SY → Prop} {J2 : Int32 → (Nat → Int32) → (Nat → Int32) → (Nat → Int32) → (Nat → Int32) → (Nat → Int32) → (Nat → Int32) → (Nat → Int32) → (Nat → Int32) → (Nat → Int32) → (Nat → Int32) → (Nat → Int32) → (Nat → Int32) → (Nat → Int32) → (Nat → Int32) → (Nat → Int32) → Prop}
    {k x s : Nat} {D dn : Nat → Nat} (B : dc_B R L c) (T : dc_TY R L A c yco yat) (G : dc_G R L A c s D) (hk : k < L) (hx : x < R) (ax : A k x = true) (rep : ∀ r, r < R → yd r = nI (dn r)) (P : dc_P R D 1000000 dn) (fx : dn x < 1000000)
    (h : ∀ (d' : Nat → Int32) (dn' : Nat → Nat), (∀ r, r < R → d' r = nI (dn' r)) → (∀ r, r < R → dc_E D 1000000 r ≤ dn' r ∧ dn' r ≤ dn r) → (∀ r, r < R → r ≠ x → A k r = true → dn' r ≤ dn x + c k) → J2 (nI (x + 1)) yco yat ypf ymb ypr yfw yrc yca ytr d' yro yfr ybe yne ycu) :
    ∃ n, wY_relax_37 post J2 (nI k) (nI x) (nI R) (nI L) (nI H) n 0 yco yat ypf ymb ypr yfw yrc yca ytr yd yro yfr ybe yne ycu := by
  obtain ⟨_, hR, _, hL, c1, c15⟩ := B
  have hc1 := c1 k hk
  have hc15 := c15 k hk
  refine loop_0 (fun n i d => wY_relax_37 post J2 (nI k) (nI x) (nI R) (nI L) (nI H) n (nI i) yco yat ypf ymb ypr yfw yrc yca ytr d yro yfr ybe yne ycu)
    (fun i d => ∃ dn', (∀ r, r < R → d r = nI (dn' r)) ∧ (∀ r, r < R → dc_E D 1000000 r ≤ dn' r ∧ dn' r ≤ dn r) ∧ dn' x = dn x ∧ (∀ r, r < i → r < R → r ≠ x → A k r = true → dn' r ≤ dn x + c k))
    R yd ⟨dn, rep, fun r hr => ⟨(P r hr).1, Nat.le_refl _⟩, rfl, fun r z => absurd z (Nat.not_lt_zero r)⟩ ?_ ?_
  · intro n d ⟨dn', r1, r2, _, r4⟩
    exact br_t (dc_end (by omega)) (nm_r (nI_1 x) (h d dn' r1 r2 (fun r hr => r4 r hr hr)))
  · intro n y d hy ⟨dn', r1, r2, r3, r4⟩ hn
    refine br_f (dc_in hy (by omega)) ?_
    by_cases zx : y = x
    · refine br_t (by rw [zx]) (nm_r (nI_1 y) (hn _ ⟨dn', r1, r2, r3, fun r hr hrR hrx ha => ?_⟩))
      by_cases e : r = y
      · exact absurd (e.trans zx) hrx
      · exact r4 r (by omega) hrR hrx ha
    · refine br_f (fun e => zx ((nI_eq (by omega) (by omega)).mp e)) ⟨dc_v12 k y (by omega) (by omega), ?_⟩
      rw [dc_c12 k y (by omega)]
      by_cases za : A k y = true
      · refine br_f (fun e => ?_) ⟨vp_in_nI (by omega) (by omega), vp_in_nI (by omega) (by omega), vp_in_nI (by omega) (by omega), ?_⟩
        · rw [(T.2 k y hk hy).mp e] at za; exact nomatch za
        have Px := r2 x hx
        have Py := r2 y hy
        have PPy := P y hy
        rw [dc_cl y (by omega), dc_cl x (by omega), dc_cl k (by omega), r1 y hy, r1 x hx, T.1 k hk, nI_add, r3]
        by_cases zl : dn' y ≤ dn x + c k
        · refine br_t (nI_le zl (by omega)) (nm_r (nI_1 y) (hn _ ⟨dn', r1, r2, r3, fun r hr hrR hrx ha => ?_⟩))
          by_cases e : r = y
          · rw [e]; exact zl
          · exact r4 r (by omega) hrR hrx ha
        · refine br_f (fun e => zl ((nI_leI (by omega) (by omega)).mp e)) ⟨vp_in_nI (by omega) (by omega), vp_in_nI (by omega) (by omega), vp_in_nI (by omega) (by omega), nm_e (nm_r (nI_1 y) (hn _ ⟨dc_pu dn' y (dn x + c k), fun r hr => ?_, fun r hr => ?_, ?_, fun r hr hrR hrx ha => ?_⟩))⟩
          · by_cases e : r = y
            · rw [e, dc_pu_s]; exact pk_us
            · rw [dc_pu_n _ _ e, ← r1 r hr]; exact pk_un e
          · by_cases e : r = y
            · rw [e, dc_pu_s]
              refine ⟨?_, by omega⟩
              have zD : D x < 1000 := by
                by_cases q : D x < 1000
                · exact q
                · have := Px.1; rw [dc_E_ge q] at this; omega
              have g3 := G.2.2.2 k x y ⟨hk, hx, hy, fun e => zx e.symm, ax, za⟩ zD
              have g4 := dc_G165 G c1 c15 hR hx zD
              have g5 := Px.1
              rw [dc_E_lt zD] at g5
              rw [dc_E_lt (r := y) (show D y < 1000 by omega)]
              omega
            · rw [dc_pu_n _ _ e]; exact r2 r hr
          · rw [dc_pu_n _ _ (fun e => zx e.symm)]; exact r3
          · by_cases e : r = y
            · rw [e, dc_pu_s] <;> exact Nat.le_refl _
            · rw [dc_pu_n _ _ e]; exact r4 r (by omega) hrR hrx ha
      · refine br_t ((T.2 k y hk hy).mpr (dc_bt za)) (nm_r (nI_1 y) (hn _ ⟨dn', r1, r2, r3, fun r hr hrR hrx ha => ?_⟩))
        by_cases e : r = y
        · rw [e] at ha; exact absurd ha za
        · exact r4 r (by omega) hrR hrx ha
theorem dy_relax {post : SY → Prop} {k s : Nat} {D dn : Nat → Nat} (B : dc_B R L c) (T : dc_TY R L A c yco yat) (G : dc_G R L A c s D) (hk : k < L) (rep : ∀ r, r < R → yd r = nI (dn r)) (P : dc_P R D 1000000 dn)
    (h : ∀ (d' : Nat → Int32) (dn' : Nat → Nat), (∀ r, r < R → d' r = nI (dn' r)) → dc_S R L A c D 1000000 k dn dn' → post (nI R, nI L, nI H, yco, yat, ypf, ymb, ypr, yfw, yrc, yca, ytr, d', yro, yfr, ybe, yne, ycu)) : wpY_relax post (nI R, nI L, nI H, yco, yat, ypf, ymb, ypr, yfw, yrc, yca, ytr, yd, yro, yfr, ybe, yne, ycu) (nI k) := by
  have B' := B
  obtain ⟨_, hR, _, hL, c1, c15⟩ := B'
  refine loop_0 (fun n i d => wY_relax_2 post (nI k) (nI R) (nI L) (nI H) n (nI i) yco yat ypf ymb ypr yfw yrc yca ytr d yro yfr ybe yne ycu)
    (fun i d => ∃ dn', (∀ r, r < R → d r = nI (dn' r)) ∧ (∀ r, r < R → dc_E D 1000000 r ≤ dn' r ∧ dn' r ≤ dn r) ∧ (∀ q r, q < i → dc_Ed R L A k q r → D q < 1000 → dn q = D q → dn' r ≤ D q + c k))
    R yd ⟨dn, rep, fun r hr => ⟨(P r hr).1, Nat.le_refl _⟩, fun q r z => absurd z (Nat.not_lt_zero q)⟩ ?_ ?_
  · intro n d ⟨dn', r1, r2, r3⟩
    exact br_t (dc_end (by omega)) (h d dn' r1 ⟨r2, fun q r e => r3 q r e.2.1 e⟩)
  · intro n x d hx ⟨dn', r1, r2, r3⟩ hn
    refine br_f (dc_in hx (by omega)) ⟨dc_v12 k x (by omega) (by omega), ?_⟩
    rw [dc_c12 k x (by omega)]
    by_cases za : A k x = true
    · refine br_f (fun e => ?_) ⟨vp_in_nI (by omega) (by omega), ?_⟩
      · rw [(T.2 k x hk hx).mp e] at za; exact nomatch za
      have Px := r2 x hx
      have PPx := P x hx
      rw [dc_cl x (by omega), r1 x hx]
      by_cases zl : 1000000 ≤ dn' x
      · refine br_t (nI_le (a := 1000000) zl (by omega)) (nm_r (nI_1 x) (hn _ ⟨dn', r1, r2, fun q r hq e hD hd => ?_⟩))
        by_cases z : q = x
        · subst z; omega
        · exact r3 q r (by omega) e hD hd
      · refine br_f (nI_ge (b := 1000000) (by omega) (by decide)) (dy_relax37 B T G hk hx za r1 (fun r hr => ⟨(r2 r hr).1, Nat.le_trans (r2 r hr).2 (P r hr).2⟩) (by omega) (fun d'' dn'' s1 s2 s3 => hn _ ⟨dn'', s1, fun r hr => ⟨(s2 r hr).1, Nat.le_trans (s2 r hr).2 (r2 r hr).2⟩, fun q r hq e hD hd => ?_⟩))
        by_cases z : q = x
        · subst z
          have a := s3 r e.2.2.1 (fun w => e.2.2.2.1 w.symm) e.2.2.2.2.2
          have b := (r2 q hx).1
          rw [dc_E_lt hD] at b
          omega
        · exact Nat.le_trans (s2 r e.2.2.1).2 (r3 q r (by omega) e hD hd)
    · refine br_t ((T.2 k x hk hx).mpr (dc_bt za)) (nm_r (nI_1 x) (hn _ ⟨dn', r1, r2, fun q r hq e hD hd => ?_⟩))
      by_cases z : q = x
      · subst z; exact absurd e.2.2.2.2.1 za
      · exact r3 q r (by omega) e hD hd
theorem dy_comp {post : SY → Prop} {s : Nat} {D : Nat → Nat} (B : dc_B R L c) (T : dc_TY R L A c yco yat) (G : dc_G R L A c s D) (hs : s < R)
    (h : ∀ (d' : Nat → Int32), (∀ r, r < R → d' r = nI (dc_E D 1000000 r)) → post (nI R, nI L, nI H, yco, yat, ypf, ymb, ypr, yfw, yrc, yca, ytr, d', yro, yfr, ybe, yne, ycu)) : wpY_computeDist post (nI R, nI L, nI H, yco, yat, ypf, ymb, ypr, yfw, yrc, yca, ytr, yd, yro, yfr, ybe, yne, ycu) (nI s) := by
  have B' := B
  obtain ⟨_, hR, _, hL, c1, c15⟩ := B'
  refine loop_0 (fun n i d => wY_computeDist_2 post (nI s) (nI R) (nI L) (nI H) n (nI i) yco yat ypf ymb ypr yfw yrc yca ytr d yro yfr ybe yne ycu) (fun i d => ∀ r, r < i → d r = nI 1000000) 12 yd (fun r z => absurd z (Nat.not_lt_zero r)) ?_ ?_
  · intro n d hd
    refine br_t (dc_end (n := 12) (by omega)) ⟨vp_in_nI (by omega) (by omega), nm_e ?_⟩
    rw [dc_cl s (by omega)]
    have d0 : ∀ r, r < R → upd d s 0 r = nI (if r = s then 0 else 1000000) := by
      intro r hr
      by_cases z : r = s
      · rw [z, if_pos rfl]; exact pk_us
      · rw [if_neg z, ← hd r (by omega)]; exact pk_un z
    refine loop_0 (fun n t d => wY_computeDist_31 post n (nI t) (nI R) (nI L) (nI H) yco yat ypf ymb ypr yfw yrc yca ytr d yro yfr ybe yne ycu) (fun t d => ∃ dn, (∀ r, r < R → d r = nI (dn r)) ∧ dc_P R D 1000000 dn ∧ dc_Q R D t dn) R _ ⟨_, d0, dc_P0 G (by omega) (fun r _ => rfl), dc_Q0 G c1 (fun r _ => rfl)⟩ ?_ ?_
    · intro n d ⟨dn, e1, e2, e3⟩
      exact br_t (dc_end (by omega)) (h d (fun r hr => by rw [e1 r hr, dc_PQ e2 e3 (by omega) hr]))
    · intro n t d ht ⟨dn, e1, e2, e3⟩ hn
      refine br_f (dc_in ht (by omega)) ?_
      refine loop_0 (fun m l d => wY_computeDist_41 post (wY_computeDist_31 post n) (nI t) m (nI l) (nI R) (nI L) (nI H) yco yat ypf ymb ypr yfw yrc yca ytr d yro yfr ybe yne ycu) (fun l d => ∃ dn, (∀ r, r < R → d r = nI (dn r)) ∧ dc_M R L A c D 1000000 t l dn) L d ⟨dn, e1, dc_M0 e2 e3⟩ ?_ ?_
      · intro m d ⟨dn, f1, f2⟩
        exact br_t (dc_end (by omega)) (nm_r (nI_1 t) (hn _ ⟨dn, f1, f2.1, dc_ML G f2⟩))
      · intro m l d hl ⟨dn, f1, f2⟩ hm
        refine br_f (dc_in hl (by omega)) (dy_usable B T hl (fun _ => ?_) (fun z => ?_))
        · refine br_f (by decide) (dy_relax B T G hl f1 f2.1 (fun d' dn' g1 g2 => nm_r (nI_1 l) (hm _ ⟨dn', g1, dc_Ms c1 f2 g2⟩)))
        · refine br_t rfl (nm_r (nI_1 l) (hm _ ⟨dn, f1, dc_Ms c1 f2 ⟨fun r hr => ⟨(f2.1 r hr).1, Nat.le_refl _⟩, fun q r e _ _ => ?_⟩⟩))
          have := dc_cn_two (p := A l) e.2.1 e.2.2.1 e.2.2.2.1 e.2.2.2.2.1 e.2.2.2.2.2
          omega
  · intro n i d hi hd hn
    refine br_f (dc_in (n := 12) hi (by omega)) ⟨vp_in_nI (by omega) (by omega), nm_e (nm_r (nI_1 i) (hn _ ?_))⟩
    intro r hr
    rw [dc_cl i (by omega)]
    by_cases z : r = i
    · rw [z]; exact pk_us
    · rw [← hd r (by omega)]; exact pk_un z
end
end
section
/-! the reference's reverse-path links, upstream routers, reset -/
section
variable {R L H : Nat} {A : Nat → Nat → Bool} {c : Nat → Nat} {yco yat ypf ymb ypr yfw yrc yca ytr yd yro yfr ybe yne ycu : Nat → Int32}
theorem dy_hasPred {post : Int32 → Prop} {k r s : Nat} {D : Nat → Nat} (B : dc_B R L c) (T : dc_TY R L A c yco yat) (G : dc_G R L A c s D) (hk : k < L) (hr : r < R) (rep : ∀ r, r < R → yd r = nI (dc_E D 1000000 r))
    (h1 : (∃ q, q < R ∧ dc_uq A c D k r q = true) → post 1) (h0 : (¬ ∃ q, q < R ∧ dc_uq A c D k r q = true) → post 0) : wpY_hasPred post (nI R, nI L, nI H, yco, yat, ypf, ymb, ypr, yfw, yrc, yca, ytr, yd, yro, yfr, ybe, yne, ycu) (nI k) (nI r) := by
  obtain ⟨_, hR, _, hL, c1, c15⟩ := B
  have hc15 := c15 k hk
  refine loop_0 (fun n i (_ : Unit) => wY_hasPred_2 post (nI k) (nI r) (nI R) (nI L) (nI H) yco yat ypf ymb ypr yfw yrc yca ytr yd yro yfr ybe yne ycu n (nI i)) (fun i _ => ∀ q, q < i → dc_uq A c D k r q = false) R () (fun q z => absurd z (Nat.not_lt_zero q)) ?_ ?_
  · intro n _ hs
    refine br_t (dc_end (by omega)) (h0 (fun ⟨q, hq, e⟩ => ?_))
    rw [hs q hq] at e
    exact nomatch e
  · intro n i _ hi hs hn
    have no : ∀ (z : dc_uq A c D k r i = false) q, q < i + 1 → dc_uq A c D k r q = false := by
      intro z q hq
      by_cases e : q = i
      · rw [e]; exact z
      · exact hs q (by omega)
    have El : ∀ q, q < R → dc_E D 1000000 q ≤ 1000000 := by
      intro q hq
      by_cases z : D q < 1000
      · rw [dc_E_lt z]; omega
      · rw [dc_E_ge z] <;> exact Nat.le_refl _
    have Ei := El i hi
    have Er := El r hr
    refine br_f (dc_in hi (by omega)) ?_
    by_cases zx : i = r
    · refine br_t (by rw [zx]) (nm_r (nI_1 i) (hn () (no (decide_eq_false (fun w => w.1 zx)))))
    · refine br_f (fun e => zx ((nI_eq (by omega) (by omega)).mp e)) ⟨dc_v12 k i (by omega) (by omega), ?_⟩
      rw [dc_c12 k i (by omega)]
      by_cases za : A k i = true
      · refine br_f (fun e => ?_) ⟨vp_in_nI (by omega) (by omega), ?_⟩
        · rw [(T.2 k i hk hi).mp e] at za; exact nomatch za
        rw [dc_cl i (by omega), dc_cl r (by omega), dc_cl k (by omega), rep i hi, rep r hr, T.1 k hk, nI_add]
        have q := dc_Eq G c1 c15 hR hk hi hr
        by_cases zl : dc_E D 1000000 i < 1000000
        · refine br_f (nI_ge (b := 1000000) zl (by decide)) ⟨vp_in_nI (by omega) (by omega), vp_in_nI (by omega) (by omega), vp_in_nI (by omega) (by omega), ?_⟩
          by_cases ze : dc_E D 1000000 i + c k = dc_E D 1000000 r
          · exact br_t (by rw [ze]) (h1 ⟨i, hi, decide_eq_true ⟨zx, za, q.mp ⟨zl, ze⟩⟩⟩)
          · exact br_f (fun e => ze ((nI_eq (by omega) (by omega)).mp e)) (nm_r (nI_1 i) (hn () (no (decide_eq_false (fun w => ze (q.mpr w.2.2).2)))))
        · exact br_t (nI_le (a := 1000000) (by omega) (by omega)) (nm_r (nI_1 i) (hn () (no (decide_eq_false (fun w => zl (q.mpr w.2.2).1)))))
      · exact br_t ((T.2 k i hk hi).mpr (dc_bt za)) (nm_r (nI_1 i) (hn () (no (decide_eq_false (fun w => za w.2.1)))))
theorem dy_upstream {post : Int32 → Prop} {k r s : Nat} {D : Nat → Nat} (B : dc_B R L c) (T : dc_TY R L A c yco yat) (G : dc_G R L A c s D) (hk : k < L) (hr : r < R) (rep : ∀ r, r < R → yd r = nI (dc_E D 1000000 r))
    (h : post (dc_U R A c D k r)) : wpY_upstream post (nI R, nI L, nI H, yco, yat, ypf, ymb, ypr, yfw, yrc, yca, ytr, yd, yro, yfr, ybe, yne, ycu) (nI k) (nI r) := by
  obtain ⟨_, hR, _, hL, c1, c15⟩ := B
  have hc15 := c15 k hk
  refine loop_0 (fun n i v => wY_upstream_5 post (nI k) (nI r) (nI R) (nI L) (nI H) yco yat ypf ymb ypr yfw yrc yca ytr yd yro yfr ybe yne ycu n v (nI i)) (fun i v => v = dc_us (dc_uq A c D k r) i) R (-1) rfl ?_ ?_
  · intro n v hv
    subst hv
    exact br_t (dc_end (by omega)) h
  · intro n i v hi hv hn
    subst hv
    have no : dc_uq A c D k r i = false → dc_us (dc_uq A c D k r) i = dc_us (dc_uq A c D k r) (i + 1) := by
      intro z
      exact (dc_us_0 (show ¬ dc_uq A c D k r i = true by rw [z]; decide)).symm
    have El : ∀ q, q < R → dc_E D 1000000 q ≤ 1000000 := by
      intro q hq
      by_cases z : D q < 1000
      · rw [dc_E_lt z]; omega
      · rw [dc_E_ge z] <;> exact Nat.le_refl _
    have Ei := El i hi
    have Er := El r hr
    refine br_f (dc_in hi (by omega)) ?_
    by_cases zx : i = r
    · refine br_t (by rw [zx]) (nm_r (nI_1 i) (hn _ (no (decide_eq_false (fun w => w.1 zx)))))
    · refine br_f (fun e => zx ((nI_eq (by omega) (by omega)).mp e)) ⟨dc_v12 k i (by omega) (by omega), ?_⟩
      rw [dc_c12 k i (by omega)]
      by_cases za : A k i = true
      · refine br_f (fun e => ?_) ⟨vp_in_nI (by omega) (by omega), ?_⟩
        · rw [(T.2 k i hk hi).mp e] at za; exact nomatch za
        rw [dc_cl i (by omega), dc_cl r (by omega), dc_cl k (by omega), rep i hi, rep r hr, T.1 k hk, nI_add]
        have q := dc_Eq G c1 c15 hR hk hi hr
        by_cases zl : dc_E D 1000000 i < 1000000
        · refine br_f (nI_ge (b := 1000000) zl (by decide)) ⟨vp_in_nI (by omega) (by omega), vp_in_nI (by omega) (by omega), vp_in_nI (by omega) (by omega), ?_⟩
          by_cases ze : dc_E D 1000000 i + c k = dc_E D 1000000 r
          · refine br_t (by rw [ze]) (nm_r (nI_1 i) (hn _ (dc_us_1 (decide_eq_true ⟨zx, za, q.mp ⟨zl, ze⟩⟩)).symm))
          · exact br_f (fun e => ze ((nI_eq (by omega) (by omega)).mp e)) (nm_r (nI_1 i) (hn _ (no (decide_eq_false (fun w => ze (q.mpr w.2.2).2)))))
        · exact br_t (nI_le (a := 1000000) (by omega) (by omega)) (nm_r (nI_1 i) (hn _ (no (decide_eq_false (fun w => zl (q.mpr w.2.2).1)))))
      · exact br_t ((T.2 k i hk hi).mpr (dc_bt za)) (nm_r (nI_1 i) (hn _ (no (decide_eq_false (fun w => za w.2.1)))))
/-- the scan of the links, once the distances stand -/
theorem dy_rpf25 {post : Int32 → SY → Prop} {r s : Nat} {D : Nat → Nat} (B : dc_B R L c) (T : dc_TY R L A c yco yat) (G : dc_G R L A c s D) (hr : r < R) (rep : ∀ r, r < R → yd r = nI (dc_E D 1000000 r))
    (h : ∀ (v : Int32), dc_isR R L A c D r v → post v (nI R, nI L, nI H, yco, yat, ypf, ymb, ypr, yfw, yrc, yca, ytr, yd, yro, yfr, ybe, yne, ycu)) : ∃ n, wY_rpf_25 post (nI r) (nI R) (nI L) (nI H) yco yat ypf ymb ypr yfw yrc yca ytr yd yro yfr ybe yne ycu n 0 := by
  have B' := B
  obtain ⟨_, hR, _, hL, c1, c15⟩ := B'
  refine loop_0 (fun n i (_ : Unit) => wY_rpf_25 post (nI r) (nI R) (nI L) (nI H) yco yat ypf ymb ypr yfw yrc yca ytr yd yro yfr ybe yne ycu n (nI i)) (fun i _ => ∀ k, k < i → ¬ dc_Hp R A c D k r) L () (fun q z => absurd z (Nat.not_lt_zero q)) ?_ ?_
  · intro n _ hs
    exact br_t (dc_end (by omega)) (h _ (Or.inl ⟨rfl, hs⟩))
  · intro n k _ hk hs hn
    have no : ∀ (z : ¬ dc_Hp R A c D k r) q, q < k + 1 → ¬ dc_Hp R A c D q r := by
      intro z q hq
      by_cases e : q = k
      · rw [e]; exact z
      · exact hs q (by omega)
    refine br_f (dc_in hk (by omega)) (dy_usable B T hk (fun _ => ?_) (fun z => ?_))
    · refine br_f (by decide) ⟨dc_v12 k r (by omega) (by omega), ?_⟩
      rw [dc_c12 k r (by omega)]
      by_cases za : A k r = true
      · refine br_f (fun e => ?_) (dy_hasPred B T G hk hr rep (fun z => ?_) (fun z => ?_))
        · rw [(T.2 k r hk hr).mp e] at za; exact nomatch za
        · exact br_f (by decide) (h _ (Or.inr ⟨k, hk, rfl, ⟨za, z⟩, hs⟩))
        · exact br_t rfl (nm_r (nI_1 k) (hn () (no (fun w => z w.2))))
      · exact br_t ((T.2 k r hk hr).mpr (dc_bt za)) (nm_r (nI_1 k) (hn () (no (fun w => za w.1))))
    · refine br_t rfl (nm_r (nI_1 k) (hn () (no (fun w => ?_))))
      obtain ⟨ar, q, hq, e⟩ := w
      have e' := of_decide_eq_true e
      have := dc_cn_two (p := A k) hq hr e'.1 e'.2.1 ar
      omega
theorem dy_rpf {post : Int32 → SY → Prop} {r s : Nat} {D : Nat → Nat} (B : dc_B R L c) (T : dc_TY R L A c yco yat) (G : dc_G R L A c s D) (hs : s < R) (hr : r < R)
    (h : ∀ (v : Int32) (d' : Nat → Int32), dc_isR R L A c D r v → (∀ r, r < R → d' r = nI (dc_E D 1000000 r)) → post v (nI R, nI L, nI H, yco, yat, ypf, ymb, ypr, yfw, yrc, yca, ytr, d', yro, yfr, ybe, yne, ycu)) : wpY_rpf post (nI R, nI L, nI H, yco, yat, ypf, ymb, ypr, yfw, yrc, yca, ytr, yd, yro, yfr, ybe, yne, ycu) (nI s) (nI r) := by
  have B' := B
  obtain ⟨_, hR, _, hL, c1, c15⟩ := B'
  refine dy_comp B T G hs (fun d' rep => ?_)
  by_cases zs : r = s
  · exact br_t (by rw [zs]) (h _ d' (Or.inl ⟨rfl, fun k hk => by rw [zs]; exact dc_Hp_s G c1 hk⟩) rep)
  · refine br_f (fun e => zs ((nI_eq (by omega) (by omega)).mp e)) ⟨vp_in_nI (by omega) (by omega), ?_⟩
    rw [dc_cl r (by omega), rep r hr]
    by_cases z : D r < 1000
    · rw [dc_E_lt z]
      exact br_t (nI_lt (b := 1000000) (by omega) (by decide)) (dy_rpf25 B T G hr rep (fun v hv => h v d' hv rep))
    · rw [dc_E_ge z]
      exact br_f (nI_nlt (a := 1000000) (b := 1000000) (by omega) (by decide)) (h _ d' (Or.inl ⟨rfl, fun k hk => dc_Hp_i G c1 c15 hR hk hr z⟩) rep)
theorem dy_reset {post : SY → Prop} (h : ∀ (pr fw rc ca : Nat → Int32), (∀ i, i < 192 → pr i = 0) → (∀ i, i < 192 → fw i = -1) → (∀ i, i < 12 → rc i = 0) → (∀ i, i < 16 → ca i = 0) → post (nI R, nI L, nI H, yco, yat, ypf, ymb, pr, fw, rc, ca, ytr, yd, yro, yfr, ybe, yne, ycu)) : wpY_reset post (nI R, nI L, nI H, yco, yat, ypf, ymb, ypr, yfw, yrc, yca, ytr, yd, yro, yfr, ybe, yne, ycu) := by
  refine loop_0 (fun n i (s : (Nat → Int32) × (Nat → Int32)) => wY_reset_2 post (nI R) (nI L) (nI H) n (nI i) yco yat ypf ymb s.1 s.2 yrc yca ytr yd yro yfr ybe yne ycu) (fun i s => (∀ j, j < i → s.1 j = 0) ∧ (∀ j, j < i → s.2 j = -1)) 192 (ypr, yfw) ⟨fun j z => absurd z (Nat.not_lt_zero j), fun j z => absurd z (Nat.not_lt_zero j)⟩ ?_ ?_
  · intro n s ⟨s1, s2⟩
    refine br_t (dc_end (n := 192) (by omega)) ?_
    refine loop_0 (fun n i rc => wY_reset_31 post (nI R) (nI L) (nI H) n (nI i) yco yat ypf ymb s.1 s.2 rc yca ytr yd yro yfr ybe yne ycu) (fun i rc => ∀ j, j < i → rc j = 0) 12 yrc (fun j z => absurd z (Nat.not_lt_zero j)) ?_ ?_
    · intro n rc s3
      refine br_t (dc_end (n := 12) (by omega)) ?_
      refine loop_0 (fun n i ca => wY_reset_52 post (nI R) (nI L) (nI H) n (nI i) yco yat ypf ymb s.1 s.2 rc ca ytr yd yro yfr ybe yne ycu) (fun i ca => ∀ j, j < i → ca j = 0) 16 yca (fun j z => absurd z (Nat.not_lt_zero j)) ?_ ?_
      · intro n ca s4
        exact br_t (dc_end (n := 16) (by omega)) (h _ _ _ _ s1 s2 s3 s4)
      · intro n i ca hi s4 hn
        exact br_f (dc_in (n := 16) hi (by omega)) ⟨vp_in_nI (by omega) (by omega), nm_e (nm_r (nI_1 i) (hn _ (by rw [dc_cl i (by omega)]; exact dc_put s4)))⟩
    · intro n i rc hi s3 hn
      exact br_f (dc_in (n := 12) hi (by omega)) ⟨vp_in_nI (by omega) (by omega), nm_e (nm_r (nI_1 i) (hn _ (by rw [dc_cl i (by omega)]; exact dc_put s3)))⟩
  · intro n i s hi ⟨s1, s2⟩ hn
    refine br_f (dc_in (n := 192) hi (by omega)) ⟨vp_in_nI (by omega) (by omega), nm_e ⟨vp_in_nI (by omega) (by omega), nm_e (nm_r (nI_1 i) (hn (_, _) ⟨?_, ?_⟩))⟩⟩
    · rw [dc_cl i (by omega)]; exact dc_put s1
    · rw [dc_cl i (by omega)]; exact dc_put s2
end
end
section
/-! the graft, as a pure walk over the prune timers -/
/-- a table by source and link, as a row of 16 a source -/
def dc_r2 (R L : Nat) (x : Nat → Int32) (P : Nat → Nat → Int32) : Prop := ∀ s k, s < R → k < L → x (s * 16 + k) = P s k
def dc_p2 (P : Nat → Nat → Int32) (s k : Nat) (v : Int32) : Nat → Nat → Int32 := fun s' k' => if s' = s ∧ k' = k then v else P s' k'
theorem dc_r2_u {R L : Nat} {x : Nat → Int32} {P : Nat → Nat → Int32} (h : dc_r2 R L x P) {s k : Nat} (hL : L ≤ 16) (hk : k < L) (v : Int32) : dc_r2 R L (upd x (s * 16 + k) v) (dc_p2 P s k v) := by
  intro s' k' hs' hk'
  unfold dc_p2
  by_cases e : s' = s ∧ k' = k
  · rw [if_pos e, e.1, e.2]; exact pk_us
  · rw [if_neg e, ← h s' k' hs' hk']
    exact pk_un (fun z => e (by omega))
/-- x: the place of the walk (-1: it has ended) -/
def dc_gr (rp F : Nat → Int32) (U : Nat → Nat → Int32) (s : Nat) : Nat → Int32 → (Nat → Nat → Int32) → (Nat → Nat → Int32)
  | 0, _, P => P
  | n + 1, x, P => if x = -1 ∨ rp x.toNatClampNeg = -1 then P else
      dc_gr rp F U s n (if F (rp x.toNatClampNeg).toNatClampNeg = -1 then U (rp x.toNatClampNeg).toNatClampNeg x.toNatClampNeg else F (rp x.toNatClampNeg).toNatClampNeg) (dc_p2 P s (rp x.toNatClampNeg).toNatClampNeg 0)
section
variable {rp F : Nat → Int32} {U : Nat → Nat → Int32} {s : Nat} {P : Nat → Nat → Int32}
theorem dc_gr_m1 (n : Nat) : dc_gr rp F U s n (-1) P = P := by
  cases n with
  | zero => rfl
  | succ n => exact if_pos (Or.inl rfl)
theorem dc_gr_s {n x : Nat} (hx : x < 2 ^ 31) (h : rp x = -1) : dc_gr rp F U s n (nI x) P = P := by
  cases n with
  | zero => rfl
  | succ n =>
    refine if_pos (Or.inr ?_)
    rw [nI_clamp hx]
    exact h
theorem dc_gr_u {n x k : Nat} (hx : x < 2 ^ 31) (hk : k < 2 ^ 31) (h : rp x = nI k) (e : F k = -1) : dc_gr rp F U s (n + 1) (nI x) P = dc_gr rp F U s n (U k x) (dc_p2 P s k 0) := by
  have z : ¬ (nI x = -1 ∨ rp (nI x).toNatClampNeg = -1) := by
    rw [nI_clamp hx, h]
    exact fun w => w.elim (dc_nm1 hx) (dc_nm1 hk)
  refine (if_neg z).trans ?_
  rw [nI_clamp hx, h, nI_clamp hk, if_pos e]
theorem dc_gr_f {n x k : Nat} (hx : x < 2 ^ 31) (hk : k < 2 ^ 31) (h : rp x = nI k) (e : ¬ F k = -1) : dc_gr rp F U s (n + 1) (nI x) P = dc_gr rp F U s n (F k) (dc_p2 P s k 0) := by
  have z : ¬ (nI x = -1 ∨ rp (nI x).toNatClampNeg = -1) := by
    rw [nI_clamp hx, h]
    exact fun w => w.elim (dc_nm1 hx) (dc_nm1 hk)
  refine (if_neg z).trans ?_
  rw [nI_clamp hx, h, nI_clamp hk, if_neg e]
end
/-- a forwarder's cell: none, or a router -/
def dc_fw (R L : Nat) (F : Nat → Nat → Int32) : Prop := ∀ s k, s < R → k < L → F s k = -1 ∨ ∃ q, q < R ∧ F s k = nI q
/-- all sources' distances and reverse-path links are those of the topology -/
def dc_DR (R L : Nat) (A : Nat → Nat → Bool) (c : Nat → Nat) (D : Nat → Nat → Nat) (rp : Nat → Nat → Int32) : Prop := ∀ s, s < R → dc_G R L A c s (D s) ∧ ∀ r, r < R → dc_isR R L A c (D s) r (rp s r)
/-- the grafts of router r toward all sources -/
def dc_jn (R : Nat) (A : Nat → Nat → Bool) (c : Nat → Nat) (D : Nat → Nat → Nat) (rp F : Nat → Nat → Int32) (r : Nat) (P : Nat → Nat → Int32) (n : Nat) : Nat → Nat → Int32 :=
  dc_it (fun s P => dc_gr (rp s) (F s) (fun k x => dc_U R A c (D s) k x) s R (nI r) P) P n
theorem dc_isR_c {R L : Nat} {A : Nat → Nat → Bool} {c : Nat → Nat} {D : Nat → Nat} {r : Nat} {v : Int32} (h : dc_isR R L A c D r v) : v = -1 ∨ ∃ k, k < L ∧ v = nI k ∧ A k r = true := by
  rcases h with ⟨e, _⟩ | ⟨k, hk, e, hp, _⟩
  · exact Or.inl e
  · exact Or.inr ⟨k, hk, e, hp.1⟩
/-! the reference's graft and join -/
section
variable {R L H : Nat} {A : Nat → Nat → Bool} {c : Nat → Nat} {yco yat ypf ymb ypr yfw yrc yca ytr yd yro yfr ybe yne ycu : Nat → Int32}
theorem dy_graft10 {post : SY → Prop} {s : Nat} {D : Nat → Nat → Nat} {rp F : Nat → Nat → Int32} (B : dc_B R L c) (T : dc_TY R L A c yco yat) (Q : dc_DR R L A c D rp) (hs : s < R) (hF : dc_fw R L F) (rF : dc_r2 R L yfw F) :
    ∀ (m i x : Nat) (ypr yd : Nat → Int32) (P : Nat → Nat → Int32), i + m = R → x < R → dc_r2 R L ypr P → (∀ r, r < R → yd r = nI (dc_E (D s) 1000000 r)) →
      (∀ ypr' d', dc_r2 R L ypr' (dc_gr (rp s) (F s) (fun k x => dc_U R A c (D s) k x) s m (nI x) P) → post (nI R, nI L, nI H, yco, yat, ypf, ymb, ypr', yfw, yrc, yca, ytr, d', yro, yfr, ybe, yne, ycu)) → wY_graftFrom_10 post (nI s) (m + 1) (nI x) (nI i) (nI R) (nI L) (nI H) yco yat ypf ymb ypr yfw yrc yca ytr yd yro yfr ybe yne ycu := by
  have B' := B
  obtain ⟨_, hR, _, hL, c1, c15⟩ := B'
  have G := (Q s hs).1
  have IR := (Q s hs).2
  intro m
  induction m with
  | zero =>
    intro i x ypr yd P him hx hP rep h
    have e : i = R := by omega
    subst e
    exact br_t (dc_end (by omega)) (h ypr yd hP)
  | succ m ih =>
    intro i x ypr yd P him hx hP rep h
    refine br_f (dc_in (show i < R by omega) (by omega)) ?_
    by_cases zs : x = s
    · have e : rp s x = -1 := dc_isR_u (IR x hx) (Or.inl ⟨rfl, fun k hk => by rw [zs]; exact dc_Hp_s G c1 hk⟩)
      rw [dc_gr_s (by omega) e] at h
      exact br_t (by rw [zs]) (h ypr yd hP)
    · refine br_f (fun e => zs ((nI_eq (by omega) (by omega)).mp e)) ⟨vp_in_nI (by omega) (by omega), ?_⟩
      rw [dc_cl x (by omega), rep x hx]
      by_cases z : D s x < 1000
      · rw [dc_E_lt z]
        refine br_t (nI_lt (b := 1000000) (by omega) (by decide)) (dy_rpf B T G hs hx (fun v d' hv rep' => ?_))
        have ev := dc_isR_u (IR x hx) hv
        rcases dc_isR_c hv with e | ⟨k, hk, e, ak⟩
        · subst e
          rw [dc_gr_s (by omega) ev] at h
          exact br_f (by decide) (h ypr d' hP)
        · subst e
          have P' := dc_r2_u (s := s) hP hL hk 0
          refine br_t (nI_pos' (by omega)) ⟨dc_v16 s k (by omega) (by omega), nm_e ⟨dc_v16 s k (by omega) (by omega), ?_⟩⟩
          rw [dc_c16 s k (by omega)]
          refine nm_r (rF s k hs hk) ?_
          rcases hF s k hs hk with f | ⟨q, hq, f⟩
          · have E : dc_gr (rp s) (F s) (fun k x => dc_U R A c (D s) k x) s (m + 1) (nI x) P = dc_gr (rp s) (F s) (fun k x => dc_U R A c (D s) k x) s m (dc_U R A c (D s) k x) (dc_p2 P s k 0) := dc_gr_u (by omega) (by omega) ev f
            rw [E] at h
            refine br_t f (dy_upstream B T G hk hx rep' ?_)
            rcases dc_U_or R A c (D s) k x with ⟨u, _⟩ | ⟨q, hq, _, u⟩
            · rw [u]
              rw [u, dc_gr_m1] at h
              exact br_f (by decide) (h _ d' P')
            · rw [u]
              rw [u] at h
              exact br_t (nI_pos' (by omega)) (nm_r (nI_1 i) (ih (i + 1) q _ d' _ (by omega) hq P' rep' h))
          · have f' : ¬ F s k = -1 := by rw [f]; exact dc_nm1 (by omega)
            rw [dc_gr_f (by omega) (by omega) ev f', f] at h
            rw [f]
            exact br_f (dc_nm1 (by omega)) (nm_r (nI_1 i) (ih (i + 1) q _ d' _ (by omega) hq P' rep' h))
      · have e : rp s x = -1 := dc_isR_u (IR x hx) (Or.inl ⟨rfl, fun k hk => dc_Hp_i G c1 c15 hR hk hx z⟩)
        rw [dc_gr_s (by omega) e] at h
        rw [dc_E_ge z]
        exact br_f (nI_nlt (a := 1000000) (b := 1000000) (by omega) (by decide)) (h ypr yd hP)
theorem dy_graft {post : SY → Prop} {s x : Nat} {D : Nat → Nat → Nat} {rp F P : Nat → Nat → Int32} (B : dc_B R L c) (T : dc_TY R L A c yco yat) (Q : dc_DR R L A c D rp) (hs : s < R) (hx : x < R) (hF : dc_fw R L F) (rF : dc_r2 R L yfw F) (hP : dc_r2 R L ypr P)
    (h : ∀ (ypr' d' : Nat → Int32), dc_r2 R L ypr' (dc_gr (rp s) (F s) (fun k x => dc_U R A c (D s) k x) s R (nI x) P) → post (nI R, nI L, nI H, yco, yat, ypf, ymb, ypr', yfw, yrc, yca, ytr, d', yro, yfr, ybe, yne, ycu)) : wpY_graftFrom post (nI R, nI L, nI H, yco, yat, ypf, ymb, ypr, yfw, yrc, yca, ytr, yd, yro, yfr, ybe, yne, ycu) (nI s) (nI x) :=
  dy_comp B T (Q s hs).1 hs (fun d' rep => ⟨R + 1, dy_graft10 B T Q hs hF rF R 0 x ypr d' P (by omega) hx hP rep h⟩)
theorem dy_join32 {post : Int32 → SY → Prop} {x : Nat} {D : Nat → Nat → Nat} {rp F P : Nat → Nat → Int32} (B : dc_B R L c) (T : dc_TY R L A c yco yat) (Q : dc_DR R L A c D rp) (hx : x < R) (hF : dc_fw R L F) (rF : dc_r2 R L yfw F) (hP : dc_r2 R L ypr P)
    (h : ∀ (ypr' d' : Nat → Int32), dc_r2 R L ypr' (dc_jn R A c D rp F x P R) → post 1 (nI R, nI L, nI H, yco, yat, ypf, ymb, ypr', yfw, yrc, yca, ytr, d', yro, yfr, ybe, yne, ycu)) : ∃ n, wY_join_32 post (nI x) n 0 (nI R) (nI L) (nI H) yco yat ypf ymb ypr yfw yrc yca ytr yd yro yfr ybe yne ycu := by
  have hR : R ≤ 12 := B.2.1
  refine loop_0 (fun n i (w : (Nat → Int32) × (Nat → Int32)) => wY_join_32 post (nI x) n (nI i) (nI R) (nI L) (nI H) yco yat ypf ymb w.1 yfw yrc yca ytr w.2 yro yfr ybe yne ycu) (fun i w => dc_r2 R L w.1 (dc_jn R A c D rp F x P i)) R (ypr, yd) hP ?_ ?_
  · intro n w hw
    exact br_t (dc_end (by omega)) (h w.1 w.2 hw)
  · intro n i w hi hw hn
    exact br_f (dc_in hi (by omega)) (dy_graft B T Q hi hx hF rF hw (fun ypr' d' g => nm_r (nI_1 i) (hn (ypr', d') g)))
end
end
section
/-! the reference's flood -/
theorem dc_nar1 : vp_nar .boolean 1 = 1 := by decide +kernel
theorem dc_nar0 : vp_nar .boolean 0 = 0 := by decide +kernel
/-- x may transmit on k: of the topology, the reverse-path links, the prunes and forwarders of one source -/
def dc_can (R : Nat) (A : Nat → Nat → Bool) (rp P F : Nat → Int32) (x k : Nat) : Bool :=
  decide (2 ≤ dc_cn (A k) R ∧ A k x = true ∧ ¬ rp x = nI k ∧ P k = 0 ∧ (F k = -1 ∨ F k = nI x))
/-- the record as the reference has it -/
def dc_ZY (R L : Nat) (yrc yca ytr : Nat → Int32) (z : (Nat → Nat) × (Nat → Nat) × (Nat → Nat → Bool)) : Prop :=
  (∀ y, y < R → yrc y = nI (z.1 y)) ∧ (∀ k, k < L → yca k = nI (z.2.1 k)) ∧ (∀ k x, k < L → x < R → (ytr (k * 12 + x) = 0 ↔ z.2.2 k x = false))
section
variable {R L H : Nat} {A : Nat → Nat → Bool} {c : Nat → Nat} {yco yat ypf ymb ypr yfw yrc yca ytr yd yro yfr ybe yne ycu : Nat → Int32}
theorem dy_canSend {post : Int32 → Prop} {s x k : Nat} {rp : Nat → Int32} {P F : Nat → Nat → Int32} (B : dc_B R L c) (T : dc_TY R L A c yco yat) (hs : s < R) (hx : x < R) (hk : k < L) (rR : ∀ r, r < R → yro r = rp r) (rP : dc_r2 R L ypr P) (rF : dc_r2 R L yfw F)
    (h1 : dc_can R A rp (P s) (F s) x k = true → post 1) (h0 : dc_can R A rp (P s) (F s) x k = false → post 0) : wpY_canSend post (nI R, nI L, nI H, yco, yat, ypf, ymb, ypr, yfw, yrc, yca, ytr, yd, yro, yfr, ybe, yne, ycu) (nI s) (nI x) (nI k) := by
  have B' := B
  obtain ⟨_, hR, _, hL, c1, c15⟩ := B'
  refine ⟨dc_v16 s k (by omega) (by omega), ?_⟩
  rw [dc_c16 s k (by omega)]
  refine nm_r (rF s k hs hk) (dy_usable B T hk (fun z2 => ?_) (fun z2 => ?_))
  · refine br_f (by decide) ⟨dc_v12 k x (by omega) (by omega), ?_⟩
    rw [dc_c12 k x (by omega)]
    by_cases za : A k x = true
    · refine br_f (fun e => ?_) ⟨vp_in_nI (by omega) (by omega), ?_⟩
      · rw [(T.2 k x hk hx).mp e] at za; exact nomatch za
      rw [dc_cl x (by omega), rR x hx]
      by_cases zr : rp x = nI k
      · exact br_t zr.symm (h0 (decide_eq_false (fun w => w.2.2.1 zr)))
      · refine br_f (fun e => zr e.symm) ⟨dc_v16 s k (by omega) (by omega), ?_⟩
        rw [rP s k hs hk]
        by_cases zp : P s k = 0
        · refine br_t zp ?_
          by_cases zf : F s k = -1
          · exact br_t zf (h1 (decide_eq_true ⟨z2, za, zr, zp, Or.inl zf⟩))
          · refine br_f zf ?_
            by_cases zg : F s k = nI x
            · exact br_t zg (h1 (decide_eq_true ⟨z2, za, zr, zp, Or.inr zg⟩))
            · exact br_f zg (h0 (decide_eq_false (fun w => w.2.2.2.2.elim zf zg)))
        · exact br_f zp (h0 (decide_eq_false (fun w => zp w.2.2.2.1)))
    · exact br_t ((T.2 k x hk hx).mpr (dc_bt za)) (h0 (decide_eq_false (fun w => za w.2.1)))
  · exact br_t rfl (h0 (decide_eq_false (fun w => by have := w.1; omega)))
theorem dy_transmit {post : SY → Prop} {x k : Nat} {rp : Nat → Int32} {z : (Nat → Nat) × (Nat → Nat) × (Nat → Nat → Bool)} (B : dc_B R L c) (T : dc_TY R L A c yco yat) (hx : x < R) (hk : k < L) (rR : ∀ r, r < R → yro r = rp r)
    (hA : ∀ y, y < R → rp y = nI k → A k y = true) (hX : ¬ rp x = nI k) (Z : dc_ZY R L yrc yca ytr z)
    (h : ∀ (rc' ca' tr' : Nat → Int32), dc_ZY R L rc' ca' tr' (dc_tr R rp x k z) → post (nI R, nI L, nI H, yco, yat, ypf, ymb, ypr, yfw, rc', ca', tr', yd, yro, yfr, ybe, yne, ycu)) : wpY_transmit post (nI R, nI L, nI H, yco, yat, ypf, ymb, ypr, yfw, yrc, yca, ytr, yd, yro, yfr, ybe, yne, ycu) (nI x) (nI k) := by
  have B' := B
  obtain ⟨_, hR, _, hL, c1, c15⟩ := B'
  refine ⟨vp_in_nI (by omega) (by omega), vp_in_nI (by omega) (by omega), nm_e ⟨dc_v12 k x (by omega) (by omega), nm_e ?_⟩⟩
  rw [dc_cl k (by omega), dc_c12 k x (by omega), dc_nar1]
  have Z2 : ∀ j, j < L → upd yca k (yca k + 1) j = nI (if j = k then z.2.1 j + 1 else z.2.1 j) := by
    intro j hj
    by_cases e : j = k
    · rw [if_pos e, e, pk_us, Z.2.1 k hk, nI_1]
    · rw [if_neg e, pk_un e, Z.2.1 j hj]
  have Z3 : ∀ j y, j < L → y < R → (upd ytr (k * 12 + x) 1 (j * 12 + y) = 0 ↔ (if j = k ∧ y = x then true else z.2.2 j y) = false) := by
    intro j y hj hy
    by_cases e : j = k ∧ y = x
    · rw [if_pos e, e.1, e.2, pk_us]
      exact ⟨fun w => absurd w (by decide), fun w => nomatch w⟩
    · rw [if_neg e, pk_un (show j * 12 + y ≠ k * 12 + x from fun w => e (by omega))]
      exact Z.2.2 j y hj hy
  refine loop_0 (fun n i rc => wY_transmit_24 post (nI x) (nI k) (nI R) (nI L) (nI H) n (nI i) yco yat ypf ymb ypr yfw rc (upd yca k (yca k + 1)) (upd ytr (k * 12 + x) 1) yd yro yfr ybe yne ycu)
    (fun i rc => ∀ y, y < R → rc y = nI (if y < i ∧ rp y = nI k then z.1 y + 1 else z.1 y)) R yrc (fun y hy => by rw [if_neg (show ¬ (y < 0 ∧ rp y = nI k) from fun w => absurd w.1 (Nat.not_lt_zero y))]; exact Z.1 y hy) ?_ ?_
  · intro n rc hr
    exact br_t (dc_end (by omega)) (h _ _ _ ⟨hr, Z2, Z3⟩)
  · intro n i rc hi hr hn
    have keep : ∀ (w : ¬ rp i = nI k) y, y < R → rc y = nI (if y < i + 1 ∧ rp y = nI k then z.1 y + 1 else z.1 y) := by
      intro w y hy
      rw [hr y hy]
      by_cases e : y < i ∧ rp y = nI k
      · rw [if_pos e, if_pos (show y < i + 1 ∧ rp y = nI k from ⟨by omega, e.2⟩)]
      · have g : ¬ (y < i + 1 ∧ rp y = nI k) := by
          intro t
          by_cases q : y = i
          · rw [q] at t; exact w t.2
          · exact e ⟨by omega, t.2⟩
        rw [if_neg e, if_neg g]
    refine br_f (dc_in hi (by omega)) ?_
    by_cases zx : i = x
    · exact br_t (by rw [zx]) (nm_r (nI_1 i) (hn _ (keep (by rw [zx]; exact hX))))
    · refine br_f (fun e => zx ((nI_eq (by omega) (by omega)).mp e)) ⟨dc_v12 k i (by omega) (by omega), ?_⟩
      rw [dc_c12 k i (by omega)]
      by_cases za : A k i = true
      · refine br_f (fun e => ?_) ⟨vp_in_nI (by omega) (by omega), ?_⟩
        · rw [(T.2 k i hk hi).mp e] at za; exact nomatch za
        rw [dc_cl i (by omega), rR i hi]
        by_cases zr : rp i = nI k
        · refine br_t zr ⟨vp_in_nI (by omega) (by omega), vp_in_nI (by omega) (by omega), nm_e (nm_r (nI_1 i) (hn _ ?_))⟩
          intro y hy
          by_cases e : y = i
          · rw [e, if_pos (show i < i + 1 ∧ rp i = nI k from ⟨by omega, zr⟩), pk_us, hr i hi, if_neg (show ¬ (i < i ∧ rp i = nI k) from fun t => absurd t.1 (Nat.lt_irrefl i)), nI_1]
          · rw [pk_un e, hr y hy]
            by_cases t : y < i ∧ rp y = nI k
            · rw [if_pos t, if_pos (show y < i + 1 ∧ rp y = nI k from ⟨by omega, t.2⟩)]
            · rw [if_neg t, if_neg (show ¬ (y < i + 1 ∧ rp y = nI k) from fun q => t ⟨by omega, q.2⟩)]
        · exact br_f zr (nm_r (nI_1 i) (hn _ (keep zr)))
      · exact br_t ((T.2 k i hk hi).mpr (dc_bt za)) (nm_r (nI_1 i) (hn _ (keep (fun e => za (hA i hi e)))))
theorem dy_doRound {post : SY → Prop} {s : Nat} {rp : Nat → Int32} {P F : Nat → Nat → Int32} {fr : Nat → Bool} {z : (Nat → Nat) × (Nat → Nat) × (Nat → Nat → Bool)} (B : dc_B R L c) (T : dc_TY R L A c yco yat) (hs : s < R) (rR : ∀ r, r < R → yro r = rp r)
    (rP : dc_r2 R L ypr P) (rF : dc_r2 R L yfw F) (hA : ∀ k y, k < L → y < R → rp y = nI k → A k y = true) (rf : ∀ y, y < R → (yfr y = 0 ↔ fr y = false)) (Z : dc_ZY R L yrc yca ytr z)
    (h : ∀ (rc' ca' tr' : Nat → Int32), dc_ZY R L rc' ca' tr' (dc_rd R L rp (dc_can R A rp (P s) (F s)) fr z) → post (nI R, nI L, nI H, yco, yat, ypf, ymb, ypr, yfw, rc', ca', tr', yd, yro, yfr, ybe, yne, ycu)) : wpY_doRound post (nI R, nI L, nI H, yco, yat, ypf, ymb, ypr, yfw, yrc, yca, ytr, yd, yro, yfr, ybe, yne, ycu) (nI s) := by
  have B' := B
  obtain ⟨_, hR, _, hL, c1, c15⟩ := B'
  refine loop_0 (fun n i (w : (Nat → Int32) × (Nat → Int32) × (Nat → Int32)) => wY_doRound_2 post (nI s) n (nI i) (nI R) (nI L) (nI H) yco yat ypf ymb ypr yfw w.1 w.2.1 w.2.2 yd yro yfr ybe yne ycu)
    (fun i w => dc_ZY R L w.1 w.2.1 w.2.2 (dc_it (dc_rx R L rp (dc_can R A rp (P s) (F s)) fr) z i)) R (yrc, yca, ytr) Z ?_ ?_
  · intro n w hw
    exact br_t (dc_end (by omega)) (h _ _ _ hw)
  · intro n x w hx hw hn
    refine br_f (dc_in hx (by omega)) ⟨vp_in_nI (by omega) (by omega), ?_⟩
    rw [dc_cl x (by omega)]
    by_cases zf : fr x = true
    · refine br_f (fun e => ?_) ?_
      · rw [(rf x hx).mp e] at zf; exact nomatch zf
      refine loop_0 (fun m k (w : (Nat → Int32) × (Nat → Int32) × (Nat → Int32)) => wY_doRound_21 post (wY_doRound_2 post (nI s) n) (nI s) (nI x) m (nI k) (nI R) (nI L) (nI H) yco yat ypf ymb ypr yfw w.1 w.2.1 w.2.2 yd yro yfr ybe yne ycu)
        (fun k w => dc_ZY R L w.1 w.2.1 w.2.2 (dc_it (dc_fk R rp (dc_can R A rp (P s) (F s)) x) (dc_it (dc_rx R L rp (dc_can R A rp (P s) (F s)) fr) z x) k)) L w hw ?_ ?_
      · intro m w hw
        refine br_t (dc_end (by omega)) (nm_r (nI_1 x) (hn w ?_))
        show dc_ZY R L w.1 w.2.1 w.2.2 (dc_rx R L rp (dc_can R A rp (P s) (F s)) fr x (dc_it (dc_rx R L rp (dc_can R A rp (P s) (F s)) fr) z x))
        rw [dc_rx_1 zf]
        exact hw
      · intro m k w hk hw hm
        refine br_f (dc_in hk (by omega)) (dy_canSend B T hs hx hk rR rP rF (fun zc => ?_) (fun zc => ?_))
        · refine br_f (by decide) (dy_transmit B T hx hk rR (fun y => hA k y hk) (of_decide_eq_true zc).2.2.1 hw (fun rc' ca' tr' Z' => nm_r (nI_1 k) (hm (rc', ca', tr') ?_)))
          show dc_ZY R L rc' ca' tr' (dc_fk R rp (dc_can R A rp (P s) (F s)) x k _)
          rw [dc_fk_1 zc]
          exact Z'
        · refine br_t rfl (nm_r (nI_1 k) (hm w ?_))
          show dc_ZY R L w.1 w.2.1 w.2.2 (dc_fk R rp (dc_can R A rp (P s) (F s)) x k _)
          rw [dc_fk_0 (show ¬ dc_can R A rp (P s) (F s) x k = true by rw [zc]; decide)]
          exact hw
    · refine br_t ((rf x hx).mpr (dc_bt zf)) (nm_r (nI_1 x) (hn w ?_))
      show dc_ZY R L w.1 w.2.1 w.2.2 (dc_rx R L rp (dc_can R A rp (P s) (F s)) fr x (dc_it (dc_rx R L rp (dc_can R A rp (P s) (F s)) fr) z x))
      rw [dc_rx_0 zf]
      exact hw
theorem dy_anyFront {post : Int32 → Prop} {fr : Nat → Bool} (B : dc_B R L c) (rf : ∀ y, y < R → (yfr y = 0 ↔ fr y = false)) (h1 : (∃ y, y < R ∧ fr y = true) → post 1) (h0 : (∀ y, y < R → fr y = false) → post 0) : wpY_anyFront post (nI R, nI L, nI H, yco, yat, ypf, ymb, ypr, yfw, yrc, yca, ytr, yd, yro, yfr, ybe, yne, ycu) := by
  obtain ⟨_, hR, _, hL, c1, c15⟩ := B
  refine loop_0 (fun n i (_ : Unit) => wY_anyFront_2 post (nI R) (nI L) (nI H) yco yat ypf ymb ypr yfw yrc yca ytr yd yro yfr ybe yne ycu n (nI i)) (fun i _ => ∀ y, y < i → fr y = false) R () (fun q z => absurd z (Nat.not_lt_zero q)) ?_ ?_
  · intro n _ hs
    exact br_t (dc_end (by omega)) (h0 hs)
  · intro n i _ hi hs hn
    refine br_f (dc_in hi (by omega)) ⟨vp_in_nI (by omega) (by omega), ?_⟩
    rw [dc_cl i (by omega)]
    by_cases z : fr i = true
    · refine br_f (fun e => ?_) (h1 ⟨i, hi, z⟩)
      rw [(rf i hi).mp e] at z; exact nomatch z
    · refine br_t ((rf i hi).mpr (dc_bt z)) (nm_r (nI_1 i) (hn () (fun y hy => ?_)))
      by_cases e : y = i
      · rw [e]; exact dc_bt z
      · exact hs y (by omega)
end
end
section
/-! the reference's election and the needed routers -/
theorem dc_E_le {R L : Nat} {A : Nat → Nat → Bool} {c : Nat → Nat} {s : Nat} {D : Nat → Nat} (h : dc_G R L A c s D) (c1 : ∀ k, k < L → 1 ≤ c k) (c15 : ∀ k, k < L → c k ≤ 15) (hR : R ≤ 12) {x q : Nat} (hx : x < R) (hq : q < R) : dc_E D 1000000 q < dc_E D 1000000 x ↔ ¬ D x ≤ D q := by
  have a := h.2.1 x hx
  have b := h.2.1 q hq
  by_cases y : D x < 1000
  · have a' := dc_G165 h c1 c15 hR hx y
    rw [dc_E_lt y]
    by_cases z : D q < 1000
    · rw [dc_E_lt z]; omega
    · rw [dc_E_ge z]; omega
  · rw [dc_E_ge y]
    by_cases z : D q < 1000
    · have b' := dc_G165 h c1 c15 hR hq z
      rw [dc_E_lt z]; omega
    · rw [dc_E_ge z]; omega
theorem dc_E_m {R L : Nat} {A : Nat → Nat → Bool} {c : Nat → Nat} {s : Nat} {D : Nat → Nat} (h : dc_G R L A c s D) {x : Nat} (hx : x < R) : dc_E D 1000000 x ≤ 1000000 := by
  have a := h.2.1 x hx
  by_cases y : D x < 1000
  · rw [dc_E_lt y]; omega
  · rw [dc_E_ge y] <;> exact Nat.le_refl _
section
variable {R L H : Nat} {A : Nat → Nat → Bool} {c : Nat → Nat} {yco yat ypf ymb ypr yfw yrc yca ytr yd yro yfr ybe yne ycu : Nat → Int32}
theorem dy_countT {post : Int32 → Prop} {k : Nat} {t : Nat → Nat → Bool} (B : dc_B R L c) (hk : k < L) (rT : ∀ k x, k < L → x < R → (ytr (k * 12 + x) = 0 ↔ t k x = false)) (h : post (nI (dc_cn (t k) R))) : wpY_countT post (nI R, nI L, nI H, yco, yat, ypf, ymb, ypr, yfw, yrc, yca, ytr, yd, yro, yfr, ybe, yne, ycu) (nI k) := by
  obtain ⟨_, hR, _, hL, _, _⟩ := B
  refine loop_0 (fun n i s => wY_countT_4 post (nI k) (nI R) (nI L) (nI H) yco yat ypf ymb ypr yfw yrc yca ytr yd yro yfr ybe yne ycu n s (nI i)) (fun i s => s = nI (dc_cn (t k) i)) R 0 rfl ?_ ?_
  · intro n s hs
    subst hs
    exact br_t (dc_end (by omega)) h
  · intro n i s hi hs hn
    subst hs
    refine br_f (dc_in hi (by omega)) ⟨dc_v12 k i (by omega) (by omega), ?_⟩
    rw [dc_c12 k i (by omega)]
    by_cases z : t k i = true
    · refine br_f (fun e => ?_) (nm_r (nI_1 _) (nm_r (nI_1 i) (hn _ ?_)))
      · rw [(rT k i hk hi).mp e] at z; exact nomatch z
      · simp only [dc_cn, if_pos z]
    · refine br_t ((rT k i hk hi).mpr (dc_bt z)) (nm_r (nI_1 i) (hn _ ?_))
      simp only [dc_cn, if_neg z, Nat.add_zero]
theorem dy_assert {post : SY → Prop} {s k : Nat} {t : Nat → Nat → Bool} {D : Nat → Nat} {pf : Nat → Int32} {F : Nat → Nat → Int32} (B : dc_B R L c) (G : dc_G R L A c s D) (hs : s < R) (hk : k < L) (rT : ∀ k x, k < L → x < R → (ytr (k * 12 + x) = 0 ↔ t k x = false))
    (rep : ∀ r, r < R → yd r = nI (dc_E D 1000000 r)) (rpf : ∀ r, r < R → ypf r = pf r) (rF : dc_r2 R L yfw (dc_fo R t (dc_be pf D) s F k))
    (h : ∀ (fw' : Nat → Int32), dc_r2 R L fw' (dc_fo R t (dc_be pf D) s F (k + 1)) → post (nI R, nI L, nI H, yco, yat, ypf, ymb, ypr, fw', yrc, yca, ytr, yd, yro, yfr, ybe, yne, ycu)) : wpY_assertLink post (nI R, nI L, nI H, yco, yat, ypf, ymb, ypr, yfw, yrc, yca, ytr, yd, yro, yfr, ybe, yne, ycu) (nI s) (nI k) := by
  have B' := B
  obtain ⟨_, hR, _, hL, c1, c15⟩ := B'
  have hc := dc_cn_le (t k) R
  refine dy_countT B hk rT ?_
  by_cases z2 : 2 ≤ dc_cn (t k) R
  · refine br_t (nI_le (a := 2) z2 (by omega)) ?_
    refine loop_0 (fun n i v => wY_assertLink_15 post (nI s) (nI k) (nI R) (nI L) (nI H) yco yat ypf ymb ypr yfw yrc yca ytr yd yro yfr ybe yne ycu n v (nI i)) (fun i v => v = dc_oI (dc_bs (t k) (dc_be pf D) i)) R (-1) rfl ?_ ?_
    · intro n v hv
      subst hv
      refine br_t (dc_end (by omega)) ⟨dc_v16 s k (by omega) (by omega), nm_e (h _ ?_)⟩
      rw [dc_c16 s k (by omega)]
      intro s' k' hs' hk'
      unfold dc_fo
      by_cases e : s' = s ∧ k' = k
      · rw [e.1, e.2, pk_us, if_pos (show s = s ∧ k < k + 1 ∧ 2 ≤ dc_cn (t k) R from ⟨rfl, by omega, z2⟩)]
      · rw [pk_un (show s' * 16 + k' ≠ s * 16 + k from fun w => e (by omega)), rF s' k' hs' hk']
        unfold dc_fo
        by_cases q : s' = s ∧ k' < k ∧ 2 ≤ dc_cn (t k') R
        · rw [if_pos q, if_pos (show s' = s ∧ k' < k + 1 ∧ 2 ≤ dc_cn (t k') R from ⟨q.1, by omega, q.2.2⟩)]
        · rw [if_neg q, if_neg (show ¬ (s' = s ∧ k' < k + 1 ∧ 2 ≤ dc_cn (t k') R) from fun w => q ⟨w.1, by have a1 := w.1; have a2 := w.2.1; omega, w.2.2⟩)]
    · intro n i v hi hv hn
      subst hv
      refine br_f (dc_in hi (by omega)) ⟨dc_v12 k i (by omega) (by omega), ?_⟩
      rw [dc_c12 k i (by omega)]
      by_cases z : t k i = true
      · refine br_f (fun e => ?_) ?_
        · rw [(rT k i hk hi).mp e] at z; exact nomatch z
        cases e : dc_bs (t k) (dc_be pf D) i with
        | none => exact br_t (by decide) (nm_r (nI_1 i) (hn _ (congrArg dc_oI (dc_bs_s1 z e)).symm))
        | some q =>
          have hq := (dc_bs_m e).1
          have Eqq := dc_E_m G (show q < R by omega)
          have Ei := dc_E_m G hi
          rw [show dc_oI (some q) = nI q from rfl]
          refine br_f (nI_pos (by omega)) ⟨vp_in_nI (by omega) (by omega), vp_in_nI (by omega) (by omega), ?_⟩
          rw [dc_cl i (by omega), dc_cl q (by omega), rpf i hi, rpf q (by omega)]
          by_cases p1 : pf i < pf q
          · exact br_t p1 (nm_r (nI_1 i) (hn _ (congrArg dc_oI (dc_bs_s2 z e (decide_eq_true (Or.inl p1)))).symm))
          · refine br_f p1 ⟨vp_in_nI (by omega) (by omega), vp_in_nI (by omega) (by omega), ?_⟩
            by_cases p2 : pf i = pf q
            · refine br_t p2 ⟨vp_in_nI (by omega) (by omega), vp_in_nI (by omega) (by omega), ?_⟩
              rw [rep i hi, rep q (by omega)]
              have le := dc_E_le G c1 c15 hR hi (show q < R by omega)
              by_cases p3 : D i ≤ D q
              · exact br_f (fun w => le.mp ((nI_ltI (by omega) (by omega)).mp w) p3) (nm_r (nI_1 i) (hn _ (congrArg dc_oI (dc_bs_s2 z e (decide_eq_true (Or.inr ⟨p2, p3⟩)))).symm))
              · exact br_t (nI_lt (le.mpr p3) (by omega)) (nm_r (nI_1 i) (hn _ (congrArg dc_oI (dc_bs_s3 z e (fun w => (of_decide_eq_true w).elim p1 (fun t => p3 t.2)))).symm))
            · exact br_f p2 (nm_r (nI_1 i) (hn _ (congrArg dc_oI (dc_bs_s3 z e (fun w => (of_decide_eq_true w).elim p1 (fun t => p2 t.1)))).symm))
      · exact br_t ((rT k i hk hi).mpr (dc_bt z)) (nm_r (nI_1 i) (hn _ (congrArg dc_oI (dc_bs_s0 z)).symm))
  · refine br_f (nI_ge (b := 2) (by omega) (by decide)) (h _ ?_)
    intro s' k' hs' hk'
    rw [rF s' k' hs' hk']
    unfold dc_fo
    by_cases q : s' = s ∧ k' < k ∧ 2 ≤ dc_cn (t k') R
    · rw [if_pos q, if_pos (show s' = s ∧ k' < k + 1 ∧ 2 ≤ dc_cn (t k') R from ⟨q.1, by omega, q.2.2⟩)]
    · have g : ¬ (s' = s ∧ k' < k + 1 ∧ 2 ≤ dc_cn (t k') R) := by
        intro w
        by_cases e : k' = k
        · rw [e] at w; exact z2 w.2.2
        · exact q ⟨w.1, by omega, w.2.2⟩
      rw [if_neg q, if_neg g]
theorem dy_this {post : Int32 → Prop} {s k : Nat} {t : Nat → Nat → Bool} {b : Nat → Nat → Bool} {F : Nat → Nat → Int32} (B : dc_B R L c) (hs : s < R) (hk : k < L) (rT : ∀ k x, k < L → x < R → (ytr (k * 12 + x) = 0 ↔ t k x = false)) (rF : dc_r2 R L yfw (dc_fo R t b s F L))
    (h : post (dc_oI (dc_bs (t k) b R))) : wpY_thisForwarder post (nI R, nI L, nI H, yco, yat, ypf, ymb, ypr, yfw, yrc, yca, ytr, yd, yro, yfr, ybe, yne, ycu) (nI s) (nI k) := by
  have B' := B
  obtain ⟨_, hR, _, hL, c1, c15⟩ := B'
  have hc := dc_cn_le (t k) R
  refine dy_countT B hk rT ?_
  by_cases z0 : dc_cn (t k) R = 0
  · rw [dc_bs_n (fun i hi => dc_cn_zero z0 hi)] at h
    exact br_t (by rw [z0] <;> rfl) h
  · refine br_f (nI_ne0 (by omega) (by omega)) ?_
    by_cases z2 : dc_cn (t k) R < 2
    · refine br_t (nI_lt (b := 2) z2 (by decide)) ?_
      refine loop_0 (fun n i v => wY_thisForwarder_35 post (nI k) (nI R) (nI L) (nI H) yco yat ypf ymb ypr yfw yrc yca ytr yd yro yfr ybe yne ycu n v (nI i)) (fun i v => v = dc_us (t k) i) R (-1) rfl ?_ ?_
      · intro n v hv
        subst hv
        refine br_t (dc_end (by omega)) ?_
        rcases dc_us_or (t k) R with ⟨_, a⟩ | ⟨q, hq, a, e⟩
        · exfalso
          obtain ⟨j, hj, w⟩ := dc_cn_some (p := t k) (n := R) (by omega)
          rw [a j hj] at w
          exact nomatch w
        · rw [dc_bs_1 z2 hq a] at h
          rw [e]
          exact h
      · intro n i v hi hv hn
        subst hv
        refine br_f (dc_in hi (by omega)) ⟨dc_v12 k i (by omega) (by omega), ?_⟩
        rw [dc_c12 k i (by omega)]
        by_cases z : t k i = true
        · refine br_f (fun e => ?_) (nm_r (nI_1 i) (hn _ (dc_us_1 z).symm))
          rw [(rT k i hk hi).mp e] at z; exact nomatch z
        · exact br_t ((rT k i hk hi).mpr (dc_bt z)) (nm_r (nI_1 i) (hn _ (dc_us_0 z).symm))
    · refine br_f (nI_nlt (b := 2) (by omega) (by omega)) ⟨dc_v16 s k (by omega) (by omega), ?_⟩
      rw [dc_c16 s k (by omega), rF s k hs hk]
      unfold dc_fo
      rw [if_pos (show s = s ∧ k < L ∧ 2 ≤ dc_cn (t k) R from ⟨rfl, hk, by omega⟩)]
      exact h
theorem dy_wanted {post : Int32 → Prop} {k : Nat} {rp : Nat → Int32} {N : Nat → Bool} (B : dc_B R L c) (rR : ∀ r, r < R → yro r = rp r) (rN : ∀ y, y < R → (yne y = 0 ↔ N y = false))
    (h1 : dc_wb R rp N k = true → post 1) (h0 : dc_wb R rp N k = false → post 0) : wpY_wanted post (nI R, nI L, nI H, yco, yat, ypf, ymb, ypr, yfw, yrc, yca, ytr, yd, yro, yfr, ybe, yne, ycu) (nI k) := by
  obtain ⟨_, hR, _, hL, c1, c15⟩ := B
  refine loop_0 (fun n i (_ : Unit) => wY_wanted_2 post (nI k) (nI R) (nI L) (nI H) yco yat ypf ymb ypr yfw yrc yca ytr yd yro yfr ybe yne ycu n (nI i)) (fun i _ => ∀ z, z < i → N z = true → ¬ rp z = nI k) R () (fun q z => absurd z (Nat.not_lt_zero q)) ?_ ?_
  · intro n _ hs
    refine br_t (dc_end (by omega)) (h0 (dc_bt (fun w => ?_)))
    obtain ⟨z, hz, n1, e⟩ := dc_wb_1.mp w
    exact hs z hz n1 e
  · intro n i _ hi hs hn
    have no : ∀ (w : N i = true → ¬ rp i = nI k) z, z < i + 1 → N z = true → ¬ rp z = nI k := by
      intro w z hz
      by_cases e : z = i
      · rw [e]; exact w
      · exact hs z (by omega)
    refine br_f (dc_in hi (by omega)) ⟨vp_in_nI (by omega) (by omega), ?_⟩
    rw [dc_cl i (by omega)]
    by_cases zn : N i = true
    · refine br_f (fun e => ?_) ⟨vp_in_nI (by omega) (by omega), ?_⟩
      · rw [(rN i hi).mp e] at zn; exact nomatch zn
      rw [rR i hi]
      by_cases zr : rp i = nI k
      · exact br_t zr (h1 (dc_wb_1.mpr ⟨i, hi, zn, zr⟩))
      · exact br_f zr (nm_r (nI_1 i) (hn () (no (fun _ => zr))))
    · exact br_t ((rN i hi).mpr (dc_bt zn)) (nm_r (nI_1 i) (hn () (no (fun w => absurd w zn))))
theorem dy_serves {post : Int32 → Prop} {y : Nat} {rp f : Nat → Int32} {N : Nat → Bool} (B : dc_B R L c) (rR : ∀ r, r < R → yro r = rp r) (rN : ∀ y, y < R → (yne y = 0 ↔ N y = false)) (rC : ∀ j, j < L → ycu j = f j)
    (h1 : (∃ j, j < L ∧ f j = nI y ∧ dc_W R rp N j) → post 1) (h0 : (¬ ∃ j, j < L ∧ f j = nI y ∧ dc_W R rp N j) → post 0) : wpY_servesWanted post (nI R, nI L, nI H, yco, yat, ypf, ymb, ypr, yfw, yrc, yca, ytr, yd, yro, yfr, ybe, yne, ycu) (nI y) := by
  have B' := B
  obtain ⟨_, hR, _, hL, c1, c15⟩ := B'
  refine loop_0 (fun n i (_ : Unit) => wY_servesWanted_2 post (nI y) (nI R) (nI L) (nI H) yco yat ypf ymb ypr yfw yrc yca ytr yd yro yfr ybe yne ycu n (nI i)) (fun i _ => ∀ j, j < i → f j = nI y → ¬ dc_W R rp N j) L () (fun q z => absurd z (Nat.not_lt_zero q)) ?_ ?_
  · intro n _ hs
    exact br_t (dc_end (by omega)) (h0 (fun ⟨j, hj, e, w⟩ => hs j hj e w))
  · intro n i _ hi hs hn
    have no : ∀ (w : f i = nI y → ¬ dc_W R rp N i) z, z < i + 1 → f z = nI y → ¬ dc_W R rp N z := by
      intro w z hz
      by_cases e : z = i
      · rw [e]; exact w
      · exact hs z (by omega)
    refine br_f (dc_in hi (by omega)) ⟨vp_in_nI (by omega) (by omega), ?_⟩
    rw [dc_cl i (by omega), rC i hi]
    by_cases zf : f i = nI y
    · refine br_t zf (dy_wanted (rp := rp) (N := N) B rR rN (fun w => ?_) (fun w => ?_))
      · exact br_f (by decide) (h1 ⟨i, hi, zf, dc_wb_1.mp w⟩)
      · exact br_t rfl (nm_r (nI_1 i) (hn () (no (fun _ q => by rw [dc_wb_1.mpr q] at w; exact nomatch w))))
    · exact br_f zf (nm_r (nI_1 i) (hn () (no (fun q => absurd q zf))))
end
end
section
/-! the reference's growth of the needed set, its prunes, its answer -/
section
variable {R L H : Nat} {A : Nat → Nat → Bool} {c : Nat → Nat} {yco yat ypf ymb ypr yfw yrc yca ytr yd yro yfr ybe yne ycu : Nat → Int32}
theorem dy_grow53 {post : Int32 → SY → Prop} {J4 : Int32 → Int32 → (Nat → Int32) → (Nat → Int32) → (Nat → Int32) → (Nat → Int32) → (Nat → Int32) → (Nat → Int32) → (Nat → Int32) → (Nat → Int32) → (Nat → Int32) → (Nat → Int32) → (Nat → Int32) → (Nat → Int32) → (Nat → Int32) → (Nat → Int32) → (Nat → Int32) → Prop}
    {x1 : Int32} {y : Nat} (hy : y < 12) (h : J4 1 (nI (y + 1)) yco yat ypf ymb ypr yfw yrc yca ytr yd yro yfr ybe (upd yne y 1) ycu) : wY_growNeeded_53 post J4 x1 (nI y) (nI R) (nI L) (nI H) yco yat ypf ymb ypr yfw yrc yca ytr yd yro yfr ybe yne ycu := by
  refine ⟨vp_in_nI (by omega) (by omega), nm_e (nm_r (nI_1 y) ?_)⟩
  rw [dc_cl y (by omega), dc_nar1]
  exact h
theorem dy_grow {post : Int32 → SY → Prop} {s : Nat} {rp f : Nat → Int32} {rc : Nat → Nat} {mb : Nat → Int32} {N : Nat → Bool} (B : dc_B R L c) (hs : s < R) (rR : ∀ r, r < R → yro r = rp r) (rC : ∀ j, j < L → ycu j = f j)
    (rc1 : ∀ y, y < R → yrc y = nI (rc y)) (hb : ∀ y, rc y < 2 ^ 31) (rM : ∀ y, y < R → ymb y = mb y) (rN : ∀ y, y < R → (yne y = 0 ↔ N y = false))
    (hN : dc_Sd R L s rp f (fun y => decide (1 ≤ rc y)) (fun y => decide (¬ mb y = 0)) N)
    (h : ∀ (ne' : Nat → Int32) (N' : Nat → Bool) (b : Bool), (∀ y, y < R → (ne' y = 0 ↔ N' y = false)) → dc_NY R L s rp f (fun y => decide (1 ≤ rc y)) (fun y => decide (¬ mb y = 0)) N R N' b → post (if b = true then 1 else 0) (nI R, nI L, nI H, yco, yat, ypf, ymb, ypr, yfw, yrc, yca, ytr, yd, yro, yfr, ybe, ne', ycu)) : wpY_growNeeded post (nI R, nI L, nI H, yco, yat, ypf, ymb, ypr, yfw, yrc, yca, ytr, yd, yro, yfr, ybe, yne, ycu) (nI s) := by
  have B' := B
  obtain ⟨_, hR, _, hL, c1, c15⟩ := B'
  refine loop_0 (fun n i (w : Int32 × (Nat → Int32)) => wY_growNeeded_4 post (nI s) (nI R) (nI L) (nI H) n w.1 (nI i) yco yat ypf ymb ypr yfw yrc yca ytr yd yro yfr ybe w.2 ycu)
    (fun i w => ∃ N' b, w.1 = (if b = true then 1 else 0) ∧ (∀ y, y < R → (w.2 y = 0 ↔ N' y = false)) ∧ dc_NY R L s rp f (fun y => decide (1 ≤ rc y)) (fun y => decide (¬ mb y = 0)) N i N' b) R (0, yne) ⟨N, false, rfl, rN, dc_NY0 hN⟩ ?_ ?_
  · intro n w ⟨N', b, e, r1, r2⟩
    refine br_t (dc_end (by omega)) ⟨?_, ?_⟩
    · rw [e]; cases b <;> rfl
    · rw [e]; exact h w.2 N' b r1 r2
  · intro n y w hy ⟨N', b, e, r1, r2⟩ hn
    have keep : (dc_Ph R L s rp f (fun y => decide (1 ≤ rc y)) (fun y => decide (¬ mb y = 0)) N' y → N' y = true) → wY_growNeeded_4 post (nI s) (nI R) (nI L) (nI H) n w.1 (nI (y + 1)) yco yat ypf ymb ypr yfw yrc yca ytr yd yro yfr ybe w.2 ycu :=
      fun q => hn w ⟨N', b, e, r1, dc_NYn r2 q⟩
    have add : dc_Ph R L s rp f (fun y => decide (1 ≤ rc y)) (fun y => decide (¬ mb y = 0)) N' y → N' y = false → wY_growNeeded_4 post (nI s) (nI R) (nI L) (nI H) n 1 (nI (y + 1)) yco yat ypf ymb ypr yfw yrc yca ytr yd yro yfr ybe (upd w.2 y 1) ycu := by
      intro p q
      refine hn (1, upd w.2 y 1) ⟨fun i => if i = y then true else N' i, true, rfl, fun i hi => ?_, dc_NYa r2 hy p q (fun i _ => rfl)⟩
      show upd w.2 y 1 i = 0 ↔ (if i = y then true else N' i) = false
      by_cases z : i = y
      · rw [z, pk_us, if_pos rfl]
        exact ⟨fun t => absurd t (by decide), fun t => nomatch t⟩
      · rw [pk_un z, if_neg z]
        exact r1 i hi
    refine br_f (dc_in hy (by omega)) ?_
    by_cases zs : y = s
    · exact br_t (by rw [zs]) (nm_r (nI_1 y) (keep (fun p => absurd zs p.1)))
    · refine br_f (fun e => zs ((nI_eq (by omega) (by omega)).mp e)) ⟨vp_in_nI (by omega) (by omega), ?_⟩
      rw [dc_cl y (by omega), rc1 y hy, rM y hy]
      by_cases zr : rc y < 1
      · exact br_t (nI_lt (b := 1) zr (by decide)) (nm_r (nI_1 y) (keep (fun p => by have := of_decide_eq_true p.2.1; omega)))
      · refine br_f (nI_nlt (b := 1) (by omega) (hb y)) ⟨vp_in_nI (by omega) (by omega), ?_⟩
        by_cases zn : N' y = true
        · refine br_f (fun e => ?_) (nm_r (nI_1 y) (keep (fun _ => zn)))
          rw [(r1 y hy).mp e] at zn; exact nomatch zn
        · refine br_t ((r1 y hy).mpr (dc_bt zn)) ⟨vp_in_nI (by omega) (by omega), ?_⟩
          by_cases zm : mb y = 0
          · refine br_t zm (dy_serves B rR r1 rC (fun q => ?_) (fun q => ?_))
            · exact br_f (by decide) (dy_grow53 (by omega) (add ⟨zs, decide_eq_true (by omega), Or.inr q⟩ (dc_bt zn)))
            · exact br_t rfl (nm_r (nI_1 y) (keep (fun p => p.2.2.elim (fun t => absurd zm (of_decide_eq_true t)) (fun t => absurd t q))))
          · exact br_f zm (dy_grow53 (by omega) (add ⟨zs, decide_eq_true (by omega), Or.inl (decide_eq_true zm)⟩ (dc_bt zn)))
theorem dy_s382 {post : Int32 → SY → Prop} {rc : Nat → Nat} {mb : Nat → Int32} (B : dc_B R L c) (rc1 : ∀ y, y < R → yrc y = nI (rc y)) (hb : ∀ y, rc y < 2 ^ 31) (rM : ∀ y, y < R → ymb y = mb y)
    (h : post (nI (dc_cn (fun r => decide (¬ mb r = 0 ∧ 1 ≤ rc r)) R)) (nI R, nI L, nI H, yco, yat, ypf, ymb, ypr, yfw, yrc, yca, ytr, yd, yro, yfr, ybe, yne, ycu)) : ∃ n, wY_send_382 post (nI R) (nI L) (nI H) yco yat ypf ymb ypr yfw yrc yca ytr yd yro yfr ybe yne ycu n 0 0 := by
  obtain ⟨_, hR, _, hL, c1, c15⟩ := B
  refine loop_0 (fun n i v => wY_send_382 post (nI R) (nI L) (nI H) yco yat ypf ymb ypr yfw yrc yca ytr yd yro yfr ybe yne ycu n v (nI i)) (fun i v => v = nI (dc_cn (fun r => decide (¬ mb r = 0 ∧ 1 ≤ rc r)) i)) R 0 rfl ?_ ?_
  · intro n v hv
    subst hv
    exact br_t (dc_end (by omega)) h
  · intro n i v hi hv hn
    subst hv
    have no : ¬ (¬ mb i = 0 ∧ 1 ≤ rc i) → nI (dc_cn (fun r => decide (¬ mb r = 0 ∧ 1 ≤ rc r)) i) = nI (dc_cn (fun r => decide (¬ mb r = 0 ∧ 1 ≤ rc r)) (i + 1)) := by
      intro q
      simp only [dc_cn]
      rw [if_neg (show ¬ decide (¬ mb i = 0 ∧ 1 ≤ rc i) = true from fun w => q (of_decide_eq_true w)), Nat.add_zero]
    refine br_f (dc_in hi (by omega)) ⟨vp_in_nI (by omega) (by omega), ?_⟩
    rw [dc_cl i (by omega), rc1 i hi, rM i hi]
    by_cases zm : mb i = 0
    · exact br_t zm (nm_r (nI_1 i) (hn _ (no (fun w => w.1 zm))))
    · refine br_f zm ⟨vp_in_nI (by omega) (by omega), ?_⟩
      by_cases zr : rc i < 1
      · exact br_t (nI_lt (b := 1) zr (by decide)) (nm_r (nI_1 i) (hn _ (no (fun w => by omega))))
      · refine br_f (nI_nlt (b := 1) (by omega) (hb i)) (nm_r (nI_1 _) (nm_r (nI_1 i) (hn _ ?_)))
        simp only [dc_cn]
        rw [if_pos (show decide (¬ mb i = 0 ∧ 1 ≤ rc i) = true from decide_eq_true ⟨zm, by omega⟩)]
theorem dy_s333 {post : Int32 → SY → Prop} {s : Nat} {rp : Nat → Int32} {t : Nat → Nat → Bool} {N : Nat → Bool} {P : Nat → Nat → Int32} (B : dc_B R L c) (hs : s < R) (rR : ∀ r, r < R → yro r = rp r) (rT : ∀ k x, k < L → x < R → (ytr (k * 12 + x) = 0 ↔ t k x = false))
    (rN : ∀ y, y < R → (yne y = 0 ↔ N y = false)) (rP : dc_r2 R L ypr P)
    (h : ∀ (pr' : Nat → Int32), dc_r2 R L pr' (dc_pr R rp t N (nI H) s P L) → ∃ n, wY_send_382 post (nI R) (nI L) (nI H) yco yat ypf ymb pr' yfw yrc yca ytr yd yro yfr ybe yne ycu n 0 0) : ∃ n, wY_send_333 post (nI s) (nI R) (nI L) (nI H) n 0 yco yat ypf ymb ypr yfw yrc yca ytr yd yro yfr ybe yne ycu := by
  have B' := B
  obtain ⟨_, hR, _, hL, c1, c15⟩ := B'
  refine loop_0 (fun n i pr => wY_send_333 post (nI s) (nI R) (nI L) (nI H) n (nI i) yco yat ypf ymb pr yfw yrc yca ytr yd yro yfr ybe yne ycu) (fun i pr => dc_r2 R L pr (dc_pr R rp t N (nI H) s P i)) L ypr ?_ ?_ ?_
  · intro s' k' hs' hk'
    rw [rP s' k' hs' hk']
    unfold dc_pr
    rw [if_neg (show ¬ (s' = s ∧ k' < 0 ∧ 0 < dc_cn (t k') R ∧ dc_wb R rp N k' = false) from fun w => absurd w.2.1 (Nat.not_lt_zero k'))]
  · intro n pr hp
    exact br_t (dc_end (by omega)) (h pr hp)
  · intro n k pr hk hp hn
    have hc := dc_cn_le (t k) R
    have keep : ¬ (0 < dc_cn (t k) R ∧ dc_wb R rp N k = false) → dc_r2 R L pr (dc_pr R rp t N (nI H) s P (k + 1)) := by
      intro q s' k' hs' hk'
      rw [hp s' k' hs' hk']
      unfold dc_pr
      by_cases e : s' = s ∧ k' < k ∧ 0 < dc_cn (t k') R ∧ dc_wb R rp N k' = false
      · rw [if_pos e, if_pos (show s' = s ∧ k' < k + 1 ∧ 0 < dc_cn (t k') R ∧ dc_wb R rp N k' = false from ⟨e.1, by have := e.2.1; omega, e.2.2⟩)]
      · have g : ¬ (s' = s ∧ k' < k + 1 ∧ 0 < dc_cn (t k') R ∧ dc_wb R rp N k' = false) := by
          intro w
          by_cases z : k' = k
          · rw [z] at w; exact q w.2.2
          · exact e ⟨w.1, by have := w.2.1; omega, w.2.2⟩
        rw [if_neg e, if_neg g]
    refine br_f (dc_in hk (by omega)) (dy_countT B hk rT ?_)
    by_cases z0 : dc_cn (t k) R = 0
    · exact br_t (by rw [z0]; decide) (nm_r (nI_1 k) (hn _ (keep (fun w => by omega))))
    · refine br_f (nI_nle (by omega) (by omega)) (dy_wanted B rR rN (fun w => ?_) (fun w => ?_))
      · refine br_f (by decide) (nm_r (nI_1 k) (hn _ (keep (fun q => ?_))))
        rw [q.2] at w
        exact nomatch w
      · refine br_t rfl ⟨dc_v16 s k (by omega) (by omega), nm_e (nm_r (nI_1 k) (hn _ ?_))⟩
        rw [dc_c16 s k (by omega)]
        intro s' k' hs' hk'
        unfold dc_pr
        by_cases e : s' = s ∧ k' = k
        · rw [e.1, e.2, pk_us, if_pos (show s = s ∧ k < k + 1 ∧ 0 < dc_cn (t k) R ∧ dc_wb R rp N k = false from ⟨rfl, by omega, by omega, w⟩)]
        · rw [pk_un (show s' * 16 + k' ≠ s * 16 + k from fun w => e (by omega)), hp s' k' hs' hk']
          unfold dc_pr
          by_cases q : s' = s ∧ k' < k ∧ 0 < dc_cn (t k') R ∧ dc_wb R rp N k' = false
          · rw [if_pos q, if_pos (show s' = s ∧ k' < k + 1 ∧ 0 < dc_cn (t k') R ∧ dc_wb R rp N k' = false from ⟨q.1, by have := q.2.1; omega, q.2.2⟩)]
          · rw [if_neg q, if_neg (show ¬ (s' = s ∧ k' < k + 1 ∧ 0 < dc_cn (t k') R ∧ dc_wb R rp N k' = false) from fun w => q ⟨w.1, by have a1 := w.1; have a2 := w.2.1; omega, w.2.2⟩)]
/-- the passes: they end with the least closed set -/
theorem dy_s306 {post : Int32 → SY → Prop} {s : Nat} {rp f : Nat → Int32} {rc : Nat → Nat} {mb : Nat → Int32} (B : dc_B R L c) (hs : s < R) (rR : ∀ r, r < R → yro r = rp r) (rC : ∀ j, j < L → ycu j = f j)
    (rc1 : ∀ y, y < R → yrc y = nI (rc y)) (hb : ∀ y, rc y < 2 ^ 31) (rM : ∀ y, y < R → ymb y = mb y) (r0 : ∀ y, y < R → yne y = 0)
    (h : ∀ (ne' : Nat → Int32) (N' : Nat → Bool), (∀ y, y < R → (ne' y = 0 ↔ N' y = false)) → dc_Sd R L s rp f (fun y => decide (1 ≤ rc y)) (fun y => decide (¬ mb y = 0)) N' → dc_Cl R L s rp f (fun y => decide (1 ≤ rc y)) (fun y => decide (¬ mb y = 0)) N' →
      ∃ n, wY_send_333 post (nI s) (nI R) (nI L) (nI H) n 0 yco yat ypf ymb ypr yfw yrc yca ytr yd yro yfr ybe ne' ycu) : ∃ n, wY_send_306 post (nI s) n 0 (nI R) (nI L) (nI H) yco yat ypf ymb ypr yfw yrc yca ytr yd yro yfr ybe yne ycu := by
  have B' := B
  obtain ⟨_, hR, _, hL, c1, c15⟩ := B'
  refine loop_0 (fun n i ne => wY_send_306 post (nI s) n (nI i) (nI R) (nI L) (nI H) yco yat ypf ymb ypr yfw yrc yca ytr yd yro yfr ybe ne ycu)
    (fun i ne => ∃ N, (∀ y, y < R → (ne y = 0 ↔ N y = false)) ∧ dc_Sd R L s rp f (fun y => decide (1 ≤ rc y)) (fun y => decide (¬ mb y = 0)) N ∧ i ≤ dc_cn N R) (R + 1) yne
    ⟨fun _ => false, fun y hy => ⟨fun _ => rfl, fun _ => r0 y hy⟩, dc_Sd0 (fun _ _ => rfl), Nat.zero_le _⟩ ?_ ?_
  · intro n ne ⟨N, _, _, e⟩
    have := dc_cn_le N R
    omega
  · intro n i ne hi ⟨N, r1, r2, r3⟩ hn
    refine br_f (nI_nlt (by omega) (by omega)) (dy_grow B hs rR rC rc1 hb rM r1 r2 (fun ne' N' b q1 q2 => ?_))
    cases b with
    | false => exact br_t rfl (h ne' N' q1 q2.1 (dc_NYf q2))
    | true =>
      refine br_f (by decide) (nm_r (nI_1 i) (hn _ ⟨N', q1, q2.1, ?_⟩))
      have := dc_NYt q2
      omega
end
end
section
/-! the reference's send -/
section
variable {R L H : Nat} {A : Nat → Nat → Bool} {c : Nat → Nat} {yco yat ypf ymb ypr yfw yrc yca ytr yd yro yfr ybe yne ycu : Nat → Int32}
theorem dy_s278 {post : Int32 → SY → Prop} {s : Nat} {t : Nat → Nat → Bool} {b : Nat → Nat → Bool} {F : Nat → Nat → Int32} (B : dc_B R L c) (hs : s < R) (rT : ∀ k x, k < L → x < R → (ytr (k * 12 + x) = 0 ↔ t k x = false)) (rF : dc_r2 R L yfw (dc_fo R t b s F L))
    (h : ∀ (cu' : Nat → Int32), (∀ j, j < L → cu' j = dc_oI (dc_bs (t j) b R)) → ∃ n, wY_send_306 post (nI s) n 0 (nI R) (nI L) (nI H) yco yat ypf ymb ypr yfw yrc yca ytr yd yro yfr ybe yne cu') : ∃ n, wY_send_278 post (nI s) (nI R) (nI L) (nI H) n 0 yco yat ypf ymb ypr yfw yrc yca ytr yd yro yfr ybe yne ycu := by
  have B' := B
  obtain ⟨_, hR, _, hL, c1, c15⟩ := B'
  refine loop_0 (fun n i cu => wY_send_278 post (nI s) (nI R) (nI L) (nI H) n (nI i) yco yat ypf ymb ypr yfw yrc yca ytr yd yro yfr ybe yne cu) (fun i cu => ∀ j, j < i → cu j = dc_oI (dc_bs (t j) b R)) L ycu (fun j z => absurd z (Nat.not_lt_zero j)) ?_ ?_
  · intro n cu hc
    exact br_t (dc_end (by omega)) (h cu hc)
  · intro n k cu hk hc hn
    refine br_f (dc_in hk (by omega)) (dy_this B hs hk rT rF ⟨vp_in_nI (by omega) (by omega), nm_e (nm_r (nI_1 k) (hn _ ?_))⟩)
    rw [dc_cl k (by omega)]
    intro j hj
    by_cases e : j = k
    · rw [e]; exact pk_us
    · rw [pk_un e]; exact hc j (by omega)
theorem dy_s256 {post : Int32 → SY → Prop} {s : Nat} {t : Nat → Nat → Bool} {D : Nat → Nat} {pf : Nat → Int32} {F : Nat → Nat → Int32} (B : dc_B R L c) (G : dc_G R L A c s D) (hs : s < R) (rT : ∀ k x, k < L → x < R → (ytr (k * 12 + x) = 0 ↔ t k x = false))
    (rep : ∀ r, r < R → yd r = nI (dc_E D 1000000 r)) (rpf : ∀ r, r < R → ypf r = pf r) (rF : dc_r2 R L yfw F)
    (h : ∀ (fw' : Nat → Int32), dc_r2 R L fw' (dc_fo R t (dc_be pf D) s F L) → ∃ n, wY_send_278 post (nI s) (nI R) (nI L) (nI H) n 0 yco yat ypf ymb ypr fw' yrc yca ytr yd yro yfr ybe yne ycu) : ∃ n, wY_send_256 post (nI s) n 0 (nI R) (nI L) (nI H) yco yat ypf ymb ypr yfw yrc yca ytr yd yro yfr ybe yne ycu := by
  have B' := B
  obtain ⟨_, hR, _, hL, c1, c15⟩ := B'
  refine loop_0 (fun n i fw => wY_send_256 post (nI s) n (nI i) (nI R) (nI L) (nI H) yco yat ypf ymb ypr fw yrc yca ytr yd yro yfr ybe yne ycu) (fun i fw => dc_r2 R L fw (dc_fo R t (dc_be pf D) s F i)) L yfw ?_ ?_ ?_
  · intro s' k' hs' hk'
    rw [rF s' k' hs' hk']
    unfold dc_fo
    rw [if_neg (show ¬ (s' = s ∧ k' < 0 ∧ 2 ≤ dc_cn (t k') R) from fun w => absurd w.2.1 (Nat.not_lt_zero k'))]
  · intro n fw hf
    exact br_t (dc_end (by omega)) (h fw hf)
  · intro n k fw hk hf hn
    exact br_f (dc_in hk (by omega)) (dy_assert B G hs hk rT rep rpf hf (fun fw' g => nm_r (nI_1 k) (hn _ g)))
/-- the next frontier -/
theorem dy_s204 {post : Int32 → SY → Prop} {J151 : Int32 → Int32 → Int32 → Int32 → (Nat → Int32) → (Nat → Int32) → (Nat → Int32) → (Nat → Int32) → (Nat → Int32) → (Nat → Int32) → (Nat → Int32) → (Nat → Int32) → (Nat → Int32) → (Nat → Int32) → (Nat → Int32) → (Nat → Int32) → (Nat → Int32) → (Nat → Int32) → (Nat → Int32) → Prop}
    {x1 : Int32} {t : Nat} {rc0 rc : Nat → Nat} (B : dc_B R L c) (rb : ∀ y, y < R → ybe y = nI (rc0 y)) (rc1 : ∀ y, y < R → yrc y = nI (rc y)) (h0 : ∀ y, rc0 y < 2 ^ 31) (hb : ∀ y, rc y < 2 ^ 31)
    (h : ∀ (fr' : Nat → Int32), (∀ y, y < R → (fr' y = 0 ↔ decide (y < R ∧ rc0 y = 0 ∧ 1 ≤ rc y) = false)) → J151 (nI (t + 1)) (nI R) (nI L) (nI H) yco yat ypf ymb ypr yfw yrc yca ytr yd yro fr' ybe yne ycu) : ∃ n, wY_send_204 post J151 x1 (nI t) (nI R) (nI L) (nI H) n 0 yco yat ypf ymb ypr yfw yrc yca ytr yd yro yfr ybe yne ycu := by
  obtain ⟨_, hR, _, hL, c1, c15⟩ := B
  refine loop_0 (fun n i fr => wY_send_204 post J151 x1 (nI t) (nI R) (nI L) (nI H) n (nI i) yco yat ypf ymb ypr yfw yrc yca ytr yd yro fr ybe yne ycu) (fun i fr => ∀ y, y < i → y < R → (fr y = 0 ↔ decide (y < R ∧ rc0 y = 0 ∧ 1 ≤ rc y) = false)) R yfr (fun j z => absurd z (Nat.not_lt_zero j)) ?_ ?_
  · intro n fr hf
    exact br_t (dc_end (by omega)) (nm_r (nI_1 t) (h fr (fun y hy => hf y hy hy)))
  · intro n i fr hi hf hn
    have put0 : ¬ (i < R ∧ rc0 i = 0 ∧ 1 ≤ rc i) → ∀ y, y < i + 1 → y < R → (upd fr i 0 y = 0 ↔ decide (y < R ∧ rc0 y = 0 ∧ 1 ≤ rc y) = false) := by
      intro q y hy hR'
      by_cases e : y = i
      · rw [e, pk_us]
        exact ⟨fun _ => decide_eq_false q, fun _ => rfl⟩
      · rw [pk_un e]; exact hf y (by omega) hR'
    have put1 : (i < R ∧ rc0 i = 0 ∧ 1 ≤ rc i) → ∀ y, y < i + 1 → y < R → (upd fr i 1 y = 0 ↔ decide (y < R ∧ rc0 y = 0 ∧ 1 ≤ rc y) = false) := by
      intro q y hy hR'
      by_cases e : y = i
      · rw [e, pk_us, decide_eq_true q]
        exact ⟨fun w => absurd w (by decide), fun w => nomatch w⟩
      · rw [pk_un e]; exact hf y (by omega) hR'
    refine br_f (dc_in hi (by omega)) ⟨vp_in_nI (by omega) (by omega), ?_⟩
    rw [dc_cl i (by omega), rb i hi, rc1 i hi, dc_nar0, dc_nar1]
    have a0 := h0 i
    have a1 := hb i
    by_cases z0 : rc0 i = 0
    · refine br_t (by rw [z0] <;> rfl) ⟨vp_in_nI (by omega) (by omega), ?_⟩
      by_cases z1 : rc i < 1
      · exact br_t (nI_lt (b := 1) z1 (by decide)) ⟨vp_in_nI (by omega) (by omega), nm_e (nm_r (nI_1 i) (hn _ (put0 (fun w => by omega))))⟩
      · exact br_f (nI_nlt (b := 1) (by omega) a1) ⟨vp_in_nI (by omega) (by omega), nm_e (nm_r (nI_1 i) (hn _ (put1 ⟨hi, z0, by omega⟩)))⟩
    · exact br_f (nI_ne0 (by omega) a0) ⟨vp_in_nI (by omega) (by omega), nm_e (nm_r (nI_1 i) (hn _ (put0 (fun w => z0 w.2.1))))⟩
/-- one round, and what it needs: the copy of the counts, the transmissions, the next frontier -/
theorem dy_s171 {post : Int32 → SY → Prop} {J151 : Int32 → Int32 → Int32 → Int32 → (Nat → Int32) → (Nat → Int32) → (Nat → Int32) → (Nat → Int32) → (Nat → Int32) → (Nat → Int32) → (Nat → Int32) → (Nat → Int32) → (Nat → Int32) → (Nat → Int32) → (Nat → Int32) → (Nat → Int32) → (Nat → Int32) → (Nat → Int32) → (Nat → Int32) → Prop}
    {s t : Nat} {rp : Nat → Int32} {P F : Nat → Nat → Int32} {w : ((Nat → Nat) × (Nat → Nat) × (Nat → Nat → Bool)) × (Nat → Bool)} (B : dc_B R L c) (T : dc_TY R L A c yco yat) (hs : s < R) (rR : ∀ r, r < R → yro r = rp r)
    (rP : dc_r2 R L ypr P) (rF : dc_r2 R L yfw F) (hA : ∀ k y, k < L → y < R → rp y = nI k → A k y = true) (rf : ∀ y, y < R → (yfr y = 0 ↔ w.2 y = false)) (Z : dc_ZY R L yrc yca ytr w.1)
    (hb : ∀ y, w.1.1 y ≤ 2497) (hb' : ∀ y, (dc_st R L rp (dc_can R A rp (P s) (F s)) w).1.1 y ≤ 5000)
    (h : ∀ (rc' ca' tr' fr' be' : Nat → Int32), dc_ZY R L rc' ca' tr' (dc_st R L rp (dc_can R A rp (P s) (F s)) w).1 → (∀ y, y < R → (fr' y = 0 ↔ (dc_st R L rp (dc_can R A rp (P s) (F s)) w).2 y = false)) → J151 (nI (t + 1)) (nI R) (nI L) (nI H) yco yat ypf ymb ypr yfw rc' ca' tr' yd yro fr' be' yne ycu) :
    ∃ n, wY_send_171 post J151 (nI s) (nI t) (nI R) (nI L) (nI H) n 0 yco yat ypf ymb ypr yfw yrc yca ytr yd yro yfr ybe yne ycu := by
  have B' := B
  obtain ⟨_, hR, _, hL, c1, c15⟩ := B'
  refine loop_0 (fun n i be => wY_send_171 post J151 (nI s) (nI t) (nI R) (nI L) (nI H) n (nI i) yco yat ypf ymb ypr yfw yrc yca ytr yd yro yfr be yne ycu) (fun i be => ∀ y, y < i → y < R → be y = nI (w.1.1 y)) R ybe (fun j z => absurd z (Nat.not_lt_zero j)) ?_ ?_
  · intro n be hbe
    refine br_t (dc_end (by omega)) (dy_doRound B T hs rR rP rF hA rf Z (fun rc' ca' tr' Z' => ?_))
    exact dy_s204 B (fun y hy => hbe y hy hy) Z'.1 (fun y => by have := hb y; omega) (fun y => by have := hb' y; have e : (dc_rd R L rp (dc_can R A rp (P s) (F s)) w.2 w.1).1 y ≤ 5000 := this; omega) (fun fr' g => h rc' ca' tr' fr' be Z' g)
  · intro n i be hi hbe hn
    refine br_f (dc_in hi (by omega)) ⟨vp_in_nI (by omega) (by omega), vp_in_nI (by omega) (by omega), nm_e (nm_r (nI_1 i) (hn _ ?_))⟩
    rw [dc_cl i (by omega), Z.1 i hi]
    intro y hy hy'
    by_cases e : y = i
    · rw [e]; exact pk_us
    · rw [pk_un e]; exact hbe y (by omega) hy'
/-- the rounds -/
theorem dy_s151 {post : Int32 → SY → Prop} {s : Nat} {rp : Nat → Int32} {P F : Nat → Nat → Int32} (B : dc_B R L c) (T : dc_TY R L A c yco yat) (hs : s < R) (rR : ∀ r, r < R → yro r = rp r)
    (rP : dc_r2 R L ypr P) (rF : dc_r2 R L yfw F) (hA : ∀ k y, k < L → y < R → rp y = nI k → A k y = true) (rf : ∀ y, y < R → (yfr y = 0 ↔ (dc_f0 s).2 y = false)) (Z : dc_ZY R L yrc yca ytr (dc_f0 s).1)
    (h : ∀ (rc' ca' tr' fr' be' : Nat → Int32), dc_ZY R L rc' ca' tr' (dc_fl R L rp (dc_can R A rp (P s) (F s)) (dc_f0 s) R).1 → ∃ n, wY_send_256 post (nI s) n 0 (nI R) (nI L) (nI H) yco yat ypf ymb ypr yfw rc' ca' tr' yd yro fr' be' yne ycu) :
    ∃ n, wY_send_151 post (nI s) n 0 (nI R) (nI L) (nI H) yco yat ypf ymb ypr yfw yrc yca ytr yd yro yfr ybe yne ycu := by
  have B' := B
  obtain ⟨_, hR, _, hL, c1, c15⟩ := B'
  have FI := fun n => dc_FIn (R := R) (L := L) (rp := rp) (can := dc_can R A rp (P s) (F s)) hs n
  have K : ∀ (n : Nat) (w : (Nat → Int32) × (Nat → Int32) × (Nat → Int32) × (Nat → Int32) × (Nat → Int32)), dc_ZY R L w.1 w.2.1 w.2.2.1 (dc_fl R L rp (dc_can R A rp (P s) (F s)) (dc_f0 s) n).1 → (∀ y, y < R → (dc_fl R L rp (dc_can R A rp (P s) (F s)) (dc_f0 s) n).2 y = false) →
      ∃ m, wY_send_256 post (nI s) m 0 (nI R) (nI L) (nI H) yco yat ypf ymb ypr yfw w.1 w.2.1 w.2.2.1 yd yro w.2.2.2.1 w.2.2.2.2 yne ycu := by
    intro n w z e
    rw [dc_fl_u hs e] at z
    exact h _ _ _ _ _ z
  refine loop_0 (fun n i (w : (Nat → Int32) × (Nat → Int32) × (Nat → Int32) × (Nat → Int32) × (Nat → Int32)) => wY_send_151 post (nI s) n (nI i) (nI R) (nI L) (nI H) yco yat ypf ymb ypr yfw w.1 w.2.1 w.2.2.1 yd yro w.2.2.2.1 w.2.2.2.2 yne ycu)
    (fun i w => dc_ZY R L w.1 w.2.1 w.2.2.1 (dc_fl R L rp (dc_can R A rp (P s) (F s)) (dc_f0 s) i).1 ∧ (∀ y, y < R → (w.2.2.2.1 y = 0 ↔ (dc_fl R L rp (dc_can R A rp (P s) (F s)) (dc_f0 s) i).2 y = false)))
    (R + 1) (yrc, yca, ytr, yfr, ybe) ⟨Z, rf⟩ ?_ ?_
  · intro n w ⟨z, f⟩
    refine br_t (nI_lt (by omega) (by omega)) (K (R + 1) w z ?_)
    exact (dc_fl_e (fun x _ => dc_fl_R (L := L) (rp := rp) (can := dc_can R A rp (P s) (F s)) hs x) 1).2
  · intro n i w hi ⟨z, f⟩ hn
    refine br_f (nI_nlt (by omega) (by omega)) (dy_anyFront B f (fun q => ?_) (fun q => ?_))
    · refine br_f (by decide) (dy_s171 B T hs rR rP rF hA f z (dc_FI_b (FI i) hR hL (by omega)) (fun y => ?_) (fun rc' ca' tr' fr' be' z' f' => hn (rc', ca', tr', fr', be') ⟨z', f'⟩))
      have a := dc_FI_b (FI i) hR hL (by omega) y
      have b := (dc_rd_b (R := R) (L := L) (rp := rp) (can := dc_can R A rp (P s) (F s)) (dc_fl R L rp (dc_can R A rp (P s) (F s)) (dc_f0 s) i).2 (dc_fl R L rp (dc_can R A rp (P s) (F s)) (dc_f0 s) i).1 y).2
      have d : R * L ≤ 12 * 16 := Nat.mul_le_mul hR hL
      show (dc_rd R L rp (dc_can R A rp (P s) (F s)) (dc_fl R L rp (dc_can R A rp (P s) (F s)) (dc_f0 s) i).2 (dc_fl R L rp (dc_can R A rp (P s) (F s)) (dc_f0 s) i).1).1 y ≤ 5000
      omega
    · exact br_t rfl (K i w z q)
end
end
section
/-! the reference's send, whole -/
section
variable {R L H : Nat} {A : Nat → Nat → Bool} {c : Nat → Nat} {yco yat ypf ymb ypr yfw yrc yca ytr yd yro yfr ybe yne ycu : Nat → Int32}
/-- the record cleared -/
theorem dy_s59 {post : Int32 → SY → Prop} {s : Nat} (B : dc_B R L c) (hs : s < R)
    (h : ∀ (rc' ca' tr' fr' ne' : Nat → Int32), dc_ZY R L rc' ca' tr' (dc_f0 s).1 → (∀ y, y < R → (fr' y = 0 ↔ (dc_f0 s).2 y = false)) → (∀ y, y < R → ne' y = 0) → ∃ n, wY_send_151 post (nI s) n 0 (nI R) (nI L) (nI H) yco yat ypf ymb ypr yfw rc' ca' tr' yd yro fr' ybe ne' ycu) :
    ∃ n, wY_send_59 post (nI s) (nI R) (nI L) (nI H) n 0 yco yat ypf ymb ypr yfw yrc yca ytr yd yro yfr ybe yne ycu := by
  obtain ⟨_, hR, _, hL, c1, c15⟩ := B
  refine loop_0 (fun n i (w : (Nat → Int32) × (Nat → Int32) × (Nat → Int32)) => wY_send_59 post (nI s) (nI R) (nI L) (nI H) n (nI i) yco yat ypf ymb ypr yfw w.1 yca ytr yd yro w.2.1 ybe w.2.2 ycu) (fun i w => (∀ j, j < i → w.1 j = 0) ∧ (∀ j, j < i → w.2.1 j = 0) ∧ (∀ j, j < i → w.2.2 j = 0)) 12 (yrc, yfr, yne)
    ⟨fun j z => absurd z (Nat.not_lt_zero j), fun j z => absurd z (Nat.not_lt_zero j), fun j z => absurd z (Nat.not_lt_zero j)⟩ ?_ ?_
  · intro n w ⟨w1, w2, w3⟩
    refine br_t (dc_end (n := 12) (by omega)) ?_
    refine loop_0 (fun n i ca => wY_send_94 post (nI s) (nI R) (nI L) (nI H) n (nI i) yco yat ypf ymb ypr yfw w.1 ca ytr yd yro w.2.1 ybe w.2.2 ycu) (fun i ca => ∀ j, j < i → ca j = 0) 16 yca (fun j z => absurd z (Nat.not_lt_zero j)) ?_ ?_
    · intro n ca w4
      refine br_t (dc_end (n := 16) (by omega)) ?_
      refine loop_0 (fun n i tr => wY_send_115 post (nI s) (nI R) (nI L) (nI H) n (nI i) yco yat ypf ymb ypr yfw w.1 ca tr yd yro w.2.1 ybe w.2.2 ycu) (fun i tr => ∀ j, j < i → tr j = 0) 192 ytr (fun j z => absurd z (Nat.not_lt_zero j)) ?_ ?_
      · intro n tr w5
        refine br_t (dc_end (n := 192) (by omega)) ⟨vp_in_nI (by omega) (by omega), nm_e ⟨vp_in_nI (by omega) (by omega), nm_e ?_⟩⟩
        rw [dc_cl s (by omega), dc_nar1]
        refine h _ _ _ _ _ ⟨fun y hy => ?_, fun k hk => ?_, fun k x hk hx => ?_⟩ (fun y hy => ?_) (fun y hy => w3 y (by omega))
        · show upd w.1 s 1 y = nI (if y = s then 1 else 0)
          by_cases e : y = s
          · rw [e, pk_us, if_pos rfl] <;> rfl
          · rw [pk_un e, if_neg e, w1 y (by omega)] <;> rfl
        · rw [w4 k (by omega)] <;> rfl
        · exact ⟨fun _ => rfl, fun _ => w5 _ (by omega)⟩
        · show upd w.2.1 s 1 y = 0 ↔ decide (y = s) = false
          by_cases e : y = s
          · rw [e, pk_us]
            exact ⟨fun t => absurd t (by decide), fun t => by rw [decide_eq_true rfl] at t; exact nomatch t⟩
          · rw [pk_un e]
            exact ⟨fun _ => decide_eq_false e, fun _ => w2 y (by omega)⟩
      · intro n i tr hi w5 hn
        exact br_f (dc_in (n := 192) hi (by omega)) ⟨vp_in_nI (by omega) (by omega), nm_e (nm_r (nI_1 i) (hn _ (by rw [dc_cl i (by omega), dc_nar0]; exact dc_put w5)))⟩
    · intro n i ca hi w4 hn
      exact br_f (dc_in (n := 16) hi (by omega)) ⟨vp_in_nI (by omega) (by omega), nm_e (nm_r (nI_1 i) (hn _ (by rw [dc_cl i (by omega)]; exact dc_put w4)))⟩
  · intro n i w hi ⟨w1, w2, w3⟩ hn
    refine br_f (dc_in (n := 12) hi (by omega)) ⟨vp_in_nI (by omega) (by omega), nm_e ⟨vp_in_nI (by omega) (by omega), nm_e ⟨vp_in_nI (by omega) (by omega), nm_e (nm_r (nI_1 i) (hn (_, _, _) ⟨?_, ?_, ?_⟩))⟩⟩⟩
    · rw [dc_cl i (by omega)]; exact dc_put w1
    · rw [dc_cl i (by omega), dc_nar0]; exact dc_put w2
    · rw [dc_cl i (by omega), dc_nar0]; exact dc_put w3
/-- what a send leaves, said of pure things alone; N: the needed routers -/
def dc_sz (R L : Nat) (A : Nat → Nat → Bool) (rp P F : Nat → Nat → Int32) (s : Nat) : (Nat → Nat) × (Nat → Nat) × (Nat → Nat → Bool) :=
  (dc_fl R L (rp s) (dc_can R A (rp s) (P s) (F s)) (dc_f0 s) R).1
def dc_sb (R : Nat) (pf : Nat → Int32) (D : Nat → Nat → Nat) (s : Nat) (t : Nat → Nat → Bool) : Nat → Int32 := fun j => dc_oI (dc_bs (t j) (dc_be pf (D s)) R)
theorem dy_send {post : Int32 → SY → Prop} {s : Nat} {D : Nat → Nat → Nat} {rp P F : Nat → Nat → Int32} {pf mb : Nat → Int32} (B : dc_B R L c) (T : dc_TY R L A c yco yat) (Q : dc_DR R L A c D rp) (hs : s < R)
    (rpf : ∀ r, r < R → ypf r = pf r) (rM : ∀ y, y < R → ymb y = mb y) (rP : dc_r2 R L ypr P) (rF : dc_r2 R L yfw F)
    (h : ∀ (N : Nat → Bool) (pr' fw' rc' ca' tr' d' ro' fr' be' ne' cu' : Nat → Int32),
      dc_Sd R L s (rp s) (dc_sb R pf D s (dc_sz R L A rp P F s).2.2) (fun y => decide (1 ≤ (dc_sz R L A rp P F s).1 y)) (fun y => decide (¬ mb y = 0)) N →
      dc_Cl R L s (rp s) (dc_sb R pf D s (dc_sz R L A rp P F s).2.2) (fun y => decide (1 ≤ (dc_sz R L A rp P F s).1 y)) (fun y => decide (¬ mb y = 0)) N →
      dc_r2 R L pr' (dc_pr R (rp s) (dc_sz R L A rp P F s).2.2 N (nI H) s P L) → dc_r2 R L fw' (dc_fo R (dc_sz R L A rp P F s).2.2 (dc_be pf (D s)) s F L) →
      (∀ y, y < R → rc' y = nI ((dc_sz R L A rp P F s).1 y)) → (∀ k, k < L → ca' k = nI ((dc_sz R L A rp P F s).2.1 k)) →
      post (nI (dc_cn (fun r => decide (¬ mb r = 0 ∧ 1 ≤ (dc_sz R L A rp P F s).1 r)) R)) (nI R, nI L, nI H, yco, yat, ypf, ymb, pr', fw', rc', ca', tr', d', ro', fr', be', ne', cu')) :
    wpY_send post (nI R, nI L, nI H, yco, yat, ypf, ymb, ypr, yfw, yrc, yca, ytr, yd, yro, yfr, ybe, yne, ycu) (nI s) := by
  have B' := B
  obtain ⟨_, hR, _, hL, c1, c15⟩ := B'
  have G := (Q s hs).1
  have IR := (Q s hs).2
  have hA : ∀ k y, k < L → y < R → rp s y = nI k → A k y = true := by
    intro k y hk hy e
    rcases dc_isR_c (IR y hy) with z | ⟨j, hj, z, a⟩
    · rw [z] at e; exact absurd e.symm (dc_nm1 (by omega))
    · have : j = k := (nI_eq (by omega) (by omega)).mp (z.symm.trans e)
      rw [← this]; exact a
  have hb : ∀ y, (dc_sz R L A rp P F s).1 y < 2 ^ 31 := fun y => by
    have := dc_FI_b (dc_FIn (R := R) (L := L) (rp := rp s) (can := dc_can R A (rp s) (P s) (F s)) hs R) hR hL (by omega) y
    have e : (dc_sz R L A rp P F s).1 y ≤ 2497 := this
    omega
  refine br_f (nI_pos (by omega)) (br_t (nI_lt hs (by omega)) ?_)
  refine loop_0 (fun n i (w : (Nat → Int32) × (Nat → Int32)) => wY_send_16 post (nI s) n (nI i) (nI R) (nI L) (nI H) yco yat ypf ymb ypr yfw yrc yca ytr w.2 w.1 yfr ybe yne ycu) (fun i w => ∀ y, y < i → y < R → w.1 y = rp s y) 12 (yro, yd) (fun j z => absurd z (Nat.not_lt_zero j)) ?_ ?_
  · intro n w hw
    have rR : ∀ r, r < R → w.1 r = rp s r := fun r hr => hw r (by omega) hr
    refine br_t (dc_end (n := 12) (by omega)) (dy_comp B T G hs (fun d' rep => ?_))
    refine dy_s59 B hs (fun rc' ca' tr' fr' ne' z f ne0 => ?_)
    refine dy_s151 B T hs rR rP rF hA f z (fun rc2 ca2 tr2 fr2 be2 z2 => ?_)
    refine dy_s256 B G hs z2.2.2 rep rpf rF (fun fw' g => ?_)
    refine dy_s278 B hs z2.2.2 g (fun cu' gc => ?_)
    refine dy_s306 B hs rR gc z2.1 hb rM ne0 (fun ne2 N r1 r2 r3 => ?_)
    refine dy_s333 B hs rR z2.2.2 r1 rP (fun pr' g2 => ?_)
    exact dy_s382 B z2.1 hb rM (h N pr' fw' rc2 ca2 tr2 d' w.1 fr2 be2 ne2 cu' r2 r3 g2 g z2.1 z2.2.1)
  · intro n i w hi hw hn
    refine br_f (dc_in (n := 12) hi (by omega)) ?_
    by_cases z : i < R
    · refine br_f (dc_in z (by omega)) (dy_rpf B T G hs z (fun v d' hv rep => ⟨vp_in_nI (by omega) (by omega), nm_e (nm_r (nI_1 i) (hn (_, _) ?_))⟩))
      rw [dc_cl i (by omega)]
      intro y hy hy'
      show upd w.1 i v y = rp s y
      by_cases e : y = i
      · rw [e, pk_us]; exact dc_isR_u hv (IR i z)
      · rw [pk_un e]; exact hw y (by omega) hy'
    · refine br_t (nI_le (by omega) (by omega)) ⟨vp_in_nI (by omega) (by omega), nm_e (nm_r (nI_1 i) (hn (upd w.1 (nI i).toNatClampNeg (-1), w.2) ?_))⟩
      rw [dc_cl i (by omega)]
      intro y hy hy'
      show upd w.1 i (-1) y = rp s y
      rw [pk_un (show y ≠ i by omega)]
      exact hw y (by omega) hy'
end
end
section
/-! the component's walks over the topology -/
theorem dc_sube {a b d : Nat} (ha : a < 2 ^ 30) (hb : b < 2 ^ 30) (hd : d < 2 ^ 30) : nI a = nI b - nI d ↔ a + d = b := by
  by_cases z : d ≤ b
  · rw [pk_sub z, nI_eq (by omega) (by omega)]; omega
  · constructor
    · intro e
      have n := pk_sneg hd (show b < d by omega)
      rw [← e] at n
      exact absurd n (nI_pos (by omega))
    · intro e; omega
theorem dc_m1s (x : Int32) : x + (-1) = x - 1 := by rw [Int32.sub_eq_add_neg]
/-- the rows of the other sources are as they were -/
def dc_fr (s : Nat) (x x' : Nat → Int32) : Prop := ∀ s' r, s' ≠ s → r < 12 → x' (s' * 12 + r) = x (s' * 12 + r)
theorem dc_fr_u {s y : Nat} {x x' : Nat → Int32} (h : dc_fr s x x') (hy : y < 12) (v : Int32) : dc_fr s x (upd x' (s * 12 + y) v) := by
  intro s' r hs hr
  rw [pk_un (show s' * 12 + r ≠ s * 12 + y from fun e => hs (by omega))]
  exact h s' r hs hr
theorem dc_fr_t {s : Nat} {x y z : Nat → Int32} (h : dc_fr s x y) (g : dc_fr s y z) : dc_fr s x z := fun s' r hs hr => (g s' r hs hr).trans (h s' r hs hr)
section
variable {R L H : Nat} {A : Nat → Nat → Bool} {c : Nat → Nat} {xas xlc xpf xmb xrd xrp xpt xaw xrc xcc xts xpk : Nat → Int32}
theorem dx_con {post : Int32 → Prop} {x : Int32} {p : Nat → Bool} {r : Nat} (M : dc_ms R x p) (hr : r < R) (hR : R ≤ 12) (h1 : p r = true → post 1) (h0 : p r = false → post 0) : wpX_contains post x (nI r) := by
  by_cases z : p r = true
  · exact br_t ((dc_ms_bit M hr hR).mpr z) (h1 z)
  · exact br_f (fun e => z ((dc_ms_bit M hr hR).mp e)) (h0 (dc_bt z))
theorem dx_two {post : Int32 → Prop} {x : Int32} {p : Nat → Bool} (M : dc_ms R x p) (hR : R ≤ 12) (h1 : 2 ≤ dc_cn p R → post 1) (h0 : dc_cn p R < 2 → post 0) : wpX_hasTwoOrMore post x := by
  by_cases z : dc_cn p R < 2
  · exact br_t ((dc_ms_two M hR).mpr z) (h0 z)
  · exact br_f (fun e => z ((dc_ms_two M hR).mp e)) (h1 (by omega))
theorem dx_short72 {post : SX → Prop} {s k m : Nat} {D dn : Nat → Nat} (B : dc_B R L c) (T : dc_TX R L A c xas xlc) (G : dc_G R L A c s D) (hs : s < R) (hk : k < L) (rep : ∀ r, r < R → xrd (s * 12 + r) = nI (dn r)) (P : dc_P R D 1000 dn)
    (m1 : m ≤ 1000) (m2 : ∀ r, r < R → A k r = true → m ≤ dn r) (m3 : m = 1000 ∨ ∃ x, x < R ∧ A k x = true ∧ dn x = m)
    (h : ∀ (rd' : Nat → Int32) (dn' : Nat → Nat), (∀ r, r < R → rd' (s * 12 + r) = nI (dn' r)) → dc_fr s xrd rd' → dc_S R L A c D 1000 k dn dn' → post (nI R, nI L, nI H, xas, xlc, xpf, xmb, rd', xrp, xpt, xaw, xrc, xcc, xts, xpk)) : ∃ n, wX_shortenAcross_72 post (nI s) (nI k) (nI (m + c k)) (nI R) (nI L) (nI H) n 0 xas xlc xpf xmb xrd xrp xpt xaw xrc xcc xts xpk := by
  obtain ⟨_, hR, _, hL, c1, c15⟩ := B
  have hc1 := c1 k hk
  have hc15 := c15 k hk
  refine loop_0 (fun n i rd => wX_shortenAcross_72 post (nI s) (nI k) (nI (m + c k)) (nI R) (nI L) (nI H) n (nI i) xas xlc xpf xmb rd xrp xpt xaw xrc xcc xts xpk)
    (fun i rd => ∃ dn', (∀ r, r < R → rd (s * 12 + r) = nI (dn' r)) ∧ dc_fr s xrd rd ∧ (∀ r, r < R → dc_E D 1000 r ≤ dn' r ∧ dn' r ≤ dn r) ∧ (∀ r, r < i → r < R → A k r = true → dn' r ≤ m + c k))
    R xrd ⟨dn, rep, fun _ _ _ _ => rfl, fun r hr => ⟨(P r hr).1, Nat.le_refl _⟩, fun r z => absurd z (Nat.not_lt_zero r)⟩ ?_ ?_
  · intro n rd ⟨dn', r1, r2, r3, r4⟩
    refine br_t (dc_end (by omega)) (h rd dn' r1 r2 ⟨r3, fun q r e hD hd => ?_⟩)
    have a := r4 r e.2.2.1 e.2.2.1 e.2.2.2.2.2
    have b := m2 q e.2.1 e.2.2.2.2.1
    omega
  · intro n y rd hy ⟨dn', r1, r2, r3, r4⟩ hn
    have Py := r3 y hy
    have PPy := P y hy
    refine br_f (dc_in hy (by omega)) (nm_r (dc_i12 s y) ⟨vp_in_nI (by omega) (by omega), ?_⟩)
    rw [dc_cl k (by omega), dc_cl (s * 12 + y) (by omega)]
    refine dx_con (T.2 k hk) hy hR (fun za => ?_) (fun za => ?_)
    · refine br_f (by decide) ⟨vp_in_nI (by omega) (by omega), ?_⟩
      rw [r1 y hy]
      by_cases zl : dn' y ≤ m + c k
      · refine br_t (nI_le zl (by omega)) (nm_r (nI_1 y) (hn _ ⟨dn', r1, r2, r3, fun r hr hrR ha => ?_⟩))
        by_cases e : r = y
        · rw [e]; exact zl
        · exact r4 r (by omega) hrR ha
      · refine br_f (fun e => zl ((nI_leI (by omega) (by omega)).mp e)) ⟨vp_in_nI (by omega) (by omega), nm_e (nm_r (nI_1 y) (hn _ ⟨dc_pu dn' y (m + c k), fun r hr => ?_, dc_fr_u r2 (by omega) _, fun r hr => ?_, fun r hr hrR ha => ?_⟩))⟩
        · by_cases e : r = y
          · rw [e, dc_pu_s]; exact pk_us
          · rw [dc_pu_n _ _ e, pk_un (show s * 12 + r ≠ s * 12 + y by omega)]; exact r1 r hr
        · by_cases e : r = y
          · rw [e, dc_pu_s]
            refine ⟨?_, by omega⟩
            rcases m3 with z | ⟨x, hx, ax, ex⟩
            · omega
            · have Px := (P x hx).1
              have zD : D x < 1000 := by
                by_cases q : D x < 1000
                · exact q
                · rw [dc_E_ge q] at Px; omega
              rw [dc_E_lt zD] at Px
              by_cases w : x = y
              · rw [← w, dc_E_lt zD]; omega
              · have g3 := G.2.2.2 k x y ⟨hk, hx, hy, w, ax, za⟩ zD
                rw [dc_E_lt (r := y) (show D y < 1000 by omega)]
                omega
          · rw [dc_pu_n _ _ e]; exact r3 r hr
        · by_cases e : r = y
          · rw [e, dc_pu_s] <;> exact Nat.le_refl _
          · rw [dc_pu_n _ _ e]; exact r4 r (by omega) hrR ha
    · refine br_t rfl (nm_r (nI_1 y) (hn _ ⟨dn', r1, r2, r3, fun r hr hrR ha => ?_⟩))
      by_cases e : r = y
      · rw [e, za] at ha; exact nomatch ha
      · exact r4 r (by omega) hrR ha
theorem dx_short {post : SX → Prop} {s k : Nat} {D dn : Nat → Nat} (B : dc_B R L c) (T : dc_TX R L A c xas xlc) (G : dc_G R L A c s D) (hs : s < R) (hk : k < L) (rep : ∀ r, r < R → xrd (s * 12 + r) = nI (dn r)) (P : dc_P R D 1000 dn)
    (h : ∀ (rd' : Nat → Int32) (dn' : Nat → Nat), (∀ r, r < R → rd' (s * 12 + r) = nI (dn' r)) → dc_fr s xrd rd' → dc_S R L A c D 1000 k dn dn' → post (nI R, nI L, nI H, xas, xlc, xpf, xmb, rd', xrp, xpt, xaw, xrc, xcc, xts, xpk)) : wpX_shortenAcross post (nI R, nI L, nI H, xas, xlc, xpf, xmb, xrd, xrp, xpt, xaw, xrc, xcc, xts, xpk) (nI s) (nI k) := by
  have B' := B
  obtain ⟨_, hR, _, hL, c1, c15⟩ := B'
  refine loop_0 (fun n i v => wX_shortenAcross_7 post (nI s) (nI k) (nI R) (nI L) (nI H) xas xlc xpf xmb xrd xrp xpt xaw xrc xcc xts xpk n v (nI i))
    (fun i v => ∃ m, v = nI m ∧ m ≤ 1000 ∧ (∀ r, r < i → r < R → A k r = true → m ≤ dn r) ∧ (m = 1000 ∨ ∃ x, x < R ∧ A k x = true ∧ dn x = m))
    R 1000 ⟨1000, rfl, Nat.le_refl _, fun r z => absurd z (Nat.not_lt_zero r), Or.inl rfl⟩ ?_ ?_
  · intro n v ⟨m, e, m1, m2, m3⟩
    subst e
    refine br_t (dc_end (by omega)) ⟨vp_in_nI (by omega) (by omega), ?_⟩
    rw [dc_cl k (by omega), T.1 k hk]
    exact nm_r (nI_add m (c k)) (dx_short72 B T G hs hk rep P m1 (fun r hr => m2 r hr hr) m3 h)
  · intro n y v hy ⟨m, e, m1, m2, m3⟩ hn
    subst e
    have PPy := P y hy
    refine br_f (dc_in hy (by omega)) ⟨dc_v12 s y (by omega) (by omega), ?_⟩
    rw [dc_c12 s y (by omega), rep y hy, dc_cl k (by omega)]
    refine nm_e ⟨vp_in_nI (by omega) (by omega), dx_con (T.2 k hk) hy hR (fun za => ?_) (fun za => ?_)⟩
    · refine br_f (by decide) ?_
      by_cases zl : m ≤ dn y
      · refine br_t (nI_le zl (by omega)) (nm_r (nI_1 y) (hn _ ⟨m, rfl, m1, fun r hr hrR ha => ?_, m3⟩))
        by_cases e : r = y
        · rw [e]; exact zl
        · exact m2 r (by omega) hrR ha
      · refine br_f (fun e => zl ((nI_leI (by omega) (by omega)).mp e)) (nm_r (nI_1 y) (hn _ ⟨dn y, rfl, by omega, fun r hr hrR ha => ?_, Or.inr ⟨y, hy, za, rfl⟩⟩))
        by_cases e : r = y
        · rw [e] <;> exact Nat.le_refl _
        · have := m2 r (by omega) hrR ha
          omega
    · refine br_t rfl (nm_r (nI_1 y) (hn _ ⟨m, rfl, m1, fun r hr hrR ha => ?_, m3⟩))
      by_cases e : r = y
      · rw [e, za] at ha; exact nomatch ha
      · exact m2 r (by omega) hrR ha
theorem dx_dist {post : SX → Prop} {s : Nat} {D : Nat → Nat} (B : dc_B R L c) (T : dc_TX R L A c xas xlc) (G : dc_G R L A c s D) (hs : s < R)
    (h : ∀ (rd' : Nat → Int32), (∀ r, r < R → rd' (s * 12 + r) = nI (D r)) → dc_fr s xrd rd' → post (nI R, nI L, nI H, xas, xlc, xpf, xmb, rd', xrp, xpt, xaw, xrc, xcc, xts, xpk)) : wpX_findDistances post (nI R, nI L, nI H, xas, xlc, xpf, xmb, xrd, xrp, xpt, xaw, xrc, xcc, xts, xpk) (nI s) := by
  have B' := B
  obtain ⟨hR2, hR, _, hL, c1, c15⟩ := B'
  refine loop_0 (fun n i rd => wX_findDistances_2 post (nI s) (nI R) (nI L) (nI H) n (nI i) xas xlc xpf xmb rd xrp xpt xaw xrc xcc xts xpk) (fun i rd => (∀ r, r < i → rd (s * 12 + r) = nI (if r = s then 0 else 1000)) ∧ dc_fr s xrd rd) R xrd ⟨fun r z => absurd z (Nat.not_lt_zero r), fun _ _ _ _ => rfl⟩ ?_ ?_
  · intro n rd ⟨d0, f0⟩
    refine br_t (dc_end (by omega)) ?_
    refine loop_0 (fun n t rd => wX_findDistances_41 post (nI s) n (nI (t + 1)) (nI R) (nI L) (nI H) xas xlc xpf xmb rd xrp xpt xaw xrc xcc xts xpk) (fun t rd => ∃ dn, (∀ r, r < R → rd (s * 12 + r) = nI (dn r)) ∧ dc_fr s xrd rd ∧ dc_P R D 1000 dn ∧ dc_Q R D t dn) (R - 1) rd
      ⟨fun r => if r = s then 0 else 1000, d0, f0, dc_P0 G (by omega) (fun r _ => rfl), dc_Q0 (I := 1000) G c1 (fun r _ => rfl)⟩ ?_ ?_
    · intro n rd ⟨dn, e1, e2, e3, e4⟩
      exact br_t (nI_le (by omega) (by omega)) (h rd (fun r hr => by rw [e1 r hr, dc_PQ e3 e4 (by omega) hr, dc_E1000 G hr]) e2)
    · intro n t rd ht ⟨dn, e1, e2, e3, e4⟩ hn
      refine br_f (dc_in (show t + 1 < R by omega) (by omega)) ?_
      refine loop_0 (fun m l rd => wX_findDistances_51 post (wX_findDistances_41 post (nI s) n) (nI s) (nI (t + 1)) m (nI l) (nI R) (nI L) (nI H) xas xlc xpf xmb rd xrp xpt xaw xrc xcc xts xpk) (fun l rd => ∃ dn, (∀ r, r < R → rd (s * 12 + r) = nI (dn r)) ∧ dc_fr s xrd rd ∧ dc_M R L A c D 1000 t l dn) L rd ⟨dn, e1, e2, dc_M0 e3 e4⟩ ?_ ?_
      · intro m rd ⟨dn, f1, f2, f3⟩
        exact br_t (dc_end (by omega)) (nm_r (nI_1 (t + 1)) (hn _ ⟨dn, f1, f2, f3.1, dc_ML G f3⟩))
      · intro m l rd hl ⟨dn, f1, f2, f3⟩ hm
        exact br_f (dc_in hl (by omega)) (dx_short B T G hs hl f1 f3.1 (fun rd' dn' g1 g2 g3 => nm_r (nI_1 l) (hm _ ⟨dn', g1, dc_fr_t f2 g2, dc_Ms c1 f3 g3⟩)))
  · intro n i rd hi ⟨d0, f0⟩ hn
    refine br_f (dc_in hi (by omega)) ?_
    by_cases z : i = s
    · refine br_t (by rw [z]) ⟨dc_v12 s i (by omega) (by omega), nm_e (nm_r (nI_1 i) (hn _ ?_))⟩
      rw [dc_c12 s i (by omega)]
      refine ⟨fun r hr => ?_, dc_fr_u f0 (by omega) _⟩
      by_cases e : r = i
      · rw [e, if_pos z]; exact pk_us
      · rw [pk_un (show s * 12 + r ≠ s * 12 + i by omega)]; exact d0 r (by omega)
    · refine br_f (fun e => z ((nI_eq (by omega) (by omega)).mp e)) ⟨dc_v12 s i (by omega) (by omega), nm_e (nm_r (nI_1 i) (hn _ ?_))⟩
      rw [dc_c12 s i (by omega)]
      refine ⟨fun r hr => ?_, dc_fr_u f0 (by omega) _⟩
      by_cases e : r = i
      · rw [e, if_neg z]; exact pk_us
      · rw [pk_un (show s * 12 + r ≠ s * 12 + i by omega)]; exact d0 r (by omega)
end
end
section
/-! the component's upstream routers, reverse paths, routes, reset -/
section
variable {R L H : Nat} {A : Nat → Nat → Bool} {c : Nat → Nat} {xas xlc xpf xmb xrd xrp xpt xaw xrc xcc xts xpk : Nat → Int32}
theorem dx_up {post : Int32 → Prop} {s k r : Nat} {D : Nat → Nat} (B : dc_B R L c) (T : dc_TX R L A c xas xlc) (G : dc_G R L A c s D) (hs : s < R) (hk : k < L) (hr : r < R) (rep : ∀ r, r < R → xrd (s * 12 + r) = nI (D r))
    (h : post (dc_U R A c D k r)) : wpX_upstreamRouter post (nI R, nI L, nI H, xas, xlc, xpf, xmb, xrd, xrp, xpt, xaw, xrc, xcc, xts, xpk) (nI s) (nI r) (nI k) := by
  obtain ⟨hR2, hR, _, hL, c1, c15⟩ := B
  have hc15 := c15 k hk
  have Dr := G.2.1 r hr
  refine ⟨dc_v12 s r (by omega) (by omega), vp_in_nI (by omega) (by omega), ?_⟩
  rw [dc_c12 s r (by omega), dc_cl k (by omega), rep r hr, T.1 k hk]
  refine nm_e (nm_e ⟨R + 1, ?_⟩)
  refine pk_loopD (fun n i (_ : Unit) => wX_upstreamRouter_28 post (nI s) (nI r) (nI k) (nI (D r) - nI (c k)) (nI R) (nI L) (nI H) xas xlc xpf xmb xrd xrp xpt xaw xrc xcc xts xpk n (nI i - 1)) (fun i _ => i ≤ R ∧ dc_U R A c D k r = dc_us (dc_uq A c D k r) i) ?_ ?_ R () ⟨Nat.le_refl R, rfl⟩
  · intro n _ ⟨_, e⟩
    have e' : dc_U R A c D k r = -1 := e
    rw [e'] at h
    exact br_t (by decide) h
  · intro n i _ ⟨hi, e⟩ hn
    show wX_upstreamRouter_28 post (nI s) (nI r) (nI k) (nI (D r) - nI (c k)) (nI R) (nI L) (nI H) xas xlc xpf xmb xrd xrp xpt xaw xrc xcc xts xpk (n + 1) (nI (i + 1) - 1)
    rw [nI_pred]
    have Di := G.2.1 i (show i < R by omega)
    have no : dc_uq A c D k r i = false → wX_upstreamRouter_28 post (nI s) (nI r) (nI k) (nI (D r) - nI (c k)) (nI R) (nI L) (nI H) xas xlc xpf xmb xrd xrp xpt xaw xrc xcc xts xpk n (nI i - 1) := by
      intro z
      refine hn () ⟨by omega, ?_⟩
      exact e.trans (dc_us_0 (show ¬ dc_uq A c D k r i = true by rw [z]; decide))
    refine br_f (nI_pos (by omega)) ⟨dc_v12 s i (by omega) (by omega), ?_⟩
    rw [dc_c12 s i (by omega), rep i (by omega), dc_cl k (by omega)]
    refine nm_e ?_
    by_cases zx : i = r
    · exact br_t (by rw [zx]) (nm_r (dc_m1s _) (no (decide_eq_false (fun w => w.1 zx))))
    · refine br_f (fun e => zx ((nI_eq (by omega) (by omega)).mp e)) ⟨vp_in_nI (by omega) (by omega), dx_con (T.2 k hk) (show i < R by omega) hR (fun za => ?_) (fun za => ?_)⟩
      · refine br_f (by decide) ?_
        by_cases ze : D i + c k = D r
        · refine br_t ((dc_sube (by omega) (by omega) (by omega)).mpr ze) ?_
          rw [e, dc_us_1 (decide_eq_true ⟨zx, za, ze⟩)] at h
          exact h
        · exact br_f (fun e => ze ((dc_sube (by omega) (by omega) (by omega)).mp e)) (nm_r (dc_m1s _) (no (decide_eq_false (fun w => ze w.2.2))))
      · exact br_t rfl (nm_r (dc_m1s _) (no (decide_eq_false (fun w => by rw [za] at w; exact nomatch w.2.1))))
theorem dx_rpf {post : Int32 → Prop} {s r : Nat} {D : Nat → Nat} (B : dc_B R L c) (T : dc_TX R L A c xas xlc) (G : dc_G R L A c s D) (hs : s < R) (hr : r < R) (rep : ∀ r, r < R → xrd (s * 12 + r) = nI (D r))
    (h : ∀ (v : Int32), dc_isR R L A c D r v → post v) : wpX_findReversePath post (nI R, nI L, nI H, xas, xlc, xpf, xmb, xrd, xrp, xpt, xaw, xrc, xcc, xts, xpk) (nI s) (nI r) := by
  have B' := B
  obtain ⟨_, hR, _, hL, c1, c15⟩ := B'
  refine loop_0 (fun n i (_ : Unit) => wX_findReversePath_2 post (nI s) (nI r) (nI R) (nI L) (nI H) xas xlc xpf xmb xrd xrp xpt xaw xrc xcc xts xpk n (nI i)) (fun i _ => ∀ k, k < i → ¬ dc_Hp R A c D k r) L () (fun q z => absurd z (Nat.not_lt_zero q)) ?_ ?_
  · intro n _ hq
    exact br_t (dc_end (by omega)) (h _ (Or.inl ⟨rfl, hq⟩))
  · intro n k _ hk hq hn
    have no : ∀ (z : ¬ dc_Hp R A c D k r) q, q < k + 1 → ¬ dc_Hp R A c D q r := by
      intro z q hq'
      by_cases e : q = k
      · rw [e]; exact z
      · exact hq q (by omega)
    refine br_f (dc_in hk (by omega)) ⟨vp_in_nI (by omega) (by omega), ?_⟩
    rw [dc_cl k (by omega)]
    refine dx_con (T.2 k hk) hr hR (fun za => ?_) (fun za => ?_)
    · refine br_f (by decide) (dx_up B T G hs hk hr rep ?_)
      rcases dc_U_or R A c D k r with ⟨u, z⟩ | ⟨q, hq1, z, u⟩
      · rw [u]
        exact br_t rfl (nm_r (nI_1 k) (hn () (no (fun w => z w.2))))
      · rw [u]
        exact br_f (dc_nm1 (by omega)) (h _ (Or.inr ⟨k, hk, rfl, ⟨za, q, hq1, z⟩, hq⟩))
    · exact br_t rfl (nm_r (nI_1 k) (hn () (no (fun w => by have w1 := w.1; rw [za] at w1; exact nomatch w1))))
theorem dx_routes {post : SX → Prop} (B : dc_B R L c) (T : dc_TX R L A c xas xlc)
    (h : ∀ (rd' rp' : Nat → Int32) (D : Nat → Nat → Nat), dc_DR R L A c D (fun s r => rp' (s * 12 + r)) → (∀ s r, s < R → r < R → rd' (s * 12 + r) = nI (D s r)) → post (nI R, nI L, nI H, xas, xlc, xpf, xmb, rd', rp', xpt, xaw, xrc, xcc, xts, xpk)) : wpX_findRoutes post (nI R, nI L, nI H, xas, xlc, xpf, xmb, xrd, xrp, xpt, xaw, xrc, xcc, xts, xpk) := by
  have B' := B
  obtain ⟨_, hR, _, hL, c1, c15⟩ := B'
  refine loop_0 (fun n i (w : (Nat → Int32) × (Nat → Int32)) => wX_findRoutes_2 post n (nI i) (nI R) (nI L) (nI H) xas xlc xpf xmb w.1 w.2 xpt xaw xrc xcc xts xpk)
    (fun i w => ∀ s, s < i → ∃ D, dc_G R L A c s D ∧ (∀ r, r < R → w.1 (s * 12 + r) = nI (D r)) ∧ (∀ r, r < R → dc_isR R L A c D r (w.2 (s * 12 + r)))) R (xrd, xrp) (fun s z => absurd z (Nat.not_lt_zero s)) ?_ ?_
  · intro n w hw
    have ch : ∀ s, ∃ D, s < R → dc_G R L A c s D ∧ (∀ r, r < R → w.1 (s * 12 + r) = nI (D r)) ∧ (∀ r, r < R → dc_isR R L A c D r (w.2 (s * 12 + r))) := by
      intro s
      by_cases z : s < R
      · obtain ⟨D, hD⟩ := hw s z
        exact ⟨D, fun _ => hD⟩
      · exact ⟨fun _ => 0, fun y => absurd y z⟩
    obtain ⟨D, hD⟩ := Classical.axiomOfChoice ch
    exact br_t (dc_end (by omega)) (h w.1 w.2 D (fun s hs => ⟨(hD s hs).1, (hD s hs).2.2⟩) (fun s r hs hr => (hD s hs).2.1 r hr))
  · intro n s w hs hw hn
    obtain ⟨D, G⟩ := dc_Gex R L A c s
    refine br_f (dc_in hs (by omega)) (dx_dist B T G hs (fun rd' e1 e2 => ?_))
    refine loop_0 (fun m i rp => wX_findRoutes_17 post (wX_findRoutes_2 post n) (nI s) (nI R) (nI L) (nI H) m (nI i) xas xlc xpf xmb rd' rp xpt xaw xrc xcc xts xpk) (fun i rp => (∀ r, r < i → dc_isR R L A c D r (rp (s * 12 + r))) ∧ dc_fr s w.2 rp) R w.2 ⟨fun r z => absurd z (Nat.not_lt_zero r), fun _ _ _ _ => rfl⟩ ?_ ?_
    · intro m rp ⟨f1, f2⟩
      refine br_t (dc_end (by omega)) (nm_r (nI_1 s) (hn (rd', rp) (fun s' hs' => ?_)))
      by_cases e : s' = s
      · rw [e]; exact ⟨D, G, e1, f1⟩
      · obtain ⟨D', g1, g2, g3⟩ := hw s' (by omega)
        refine ⟨D', g1, fun r hr => ?_, fun r hr => ?_⟩
        · show rd' (s' * 12 + r) = nI (D' r)
          rw [e2 s' r e (by omega)]; exact g2 r hr
        · show dc_isR R L A c D' r (rp (s' * 12 + r))
          rw [f2 s' r e (by omega)]; exact g3 r hr
    · intro m i rp hi ⟨f1, f2⟩ hm
      refine br_f (dc_in hi (by omega)) (dx_rpf B T G hs hi e1 (fun v hv => ⟨dc_v12 s i (by omega) (by omega), nm_e (nm_r (nI_1 i) (hm _ ?_))⟩))
      rw [dc_c12 s i (by omega)]
      refine ⟨fun r hr => ?_, dc_fr_u f2 (by omega) _⟩
      by_cases e : r = i
      · rw [e, pk_us]; exact hv
      · rw [pk_un (show s * 12 + r ≠ s * 12 + i by omega)]; exact f1 r (by omega)
theorem dx_clear {post : SX → Prop} (B : dc_B R L c) (h : ∀ (rc cc ts : Nat → Int32), (∀ r, r < R → rc r = 0) → (∀ k, k < L → cc k = 0) → (∀ k, k < L → ts k = 0) → post (nI R, nI L, nI H, xas, xlc, xpf, xmb, xrd, xrp, xpt, xaw, rc, cc, ts, xpk)) : wpX_clearPacketRecord post (nI R, nI L, nI H, xas, xlc, xpf, xmb, xrd, xrp, xpt, xaw, xrc, xcc, xts, xpk) := by
  obtain ⟨_, hR, _, hL, c1, c15⟩ := B
  refine loop_0 (fun n i rc => wX_clearPacketRecord_2 post (nI R) (nI L) (nI H) n (nI i) xas xlc xpf xmb xrd xrp xpt xaw rc xcc xts xpk) (fun i rc => ∀ j, j < i → rc j = 0) R xrc (fun j z => absurd z (Nat.not_lt_zero j)) ?_ ?_
  · intro n rc s1
    refine br_t (dc_end (by omega)) ?_
    refine loop_0 (fun n i (w : (Nat → Int32) × (Nat → Int32)) => wX_clearPacketRecord_25 post (nI R) (nI L) (nI H) n (nI i) xas xlc xpf xmb xrd xrp xpt xaw rc w.1 w.2 xpk) (fun i w => (∀ j, j < i → w.1 j = 0) ∧ (∀ j, j < i → w.2 j = 0)) L (xcc, xts) ⟨fun j z => absurd z (Nat.not_lt_zero j), fun j z => absurd z (Nat.not_lt_zero j)⟩ ?_ ?_
    · intro n w ⟨s2, s3⟩
      exact br_t (dc_end (by omega)) (h _ _ _ s1 s2 s3)
    · intro n i w hi ⟨s2, s3⟩ hn
      refine br_f (dc_in hi (by omega)) ⟨vp_in_nI (by omega) (by omega), nm_e ⟨vp_in_nI (by omega) (by omega), nm_e (nm_r (nI_1 i) (hn (_, _) ⟨?_, ?_⟩))⟩⟩
      · rw [dc_cl i (by omega)]; exact dc_put s2
      · rw [dc_cl i (by omega)]; exact dc_put s3
  · intro n i rc hi s1 hn
    exact br_f (dc_in hi (by omega)) ⟨vp_in_nI (by omega) (by omega), nm_e (nm_r (nI_1 i) (hn _ (by rw [dc_cl i (by omega)]; exact dc_put s1)))⟩
theorem dx_reset {post : SX → Prop} (B : dc_B R L c) (h : ∀ (pt aw rc cc ts : Nat → Int32), dc_r2 R L pt (fun _ _ => 0) → dc_r2 R L aw (fun _ _ => -1) → (∀ r, r < R → rc r = 0) → (∀ k, k < L → cc k = 0) → post (nI R, nI L, nI H, xas, xlc, xpf, xmb, xrd, xrp, pt, aw, rc, cc, ts, xpk)) : wpX_reset post (nI R, nI L, nI H, xas, xlc, xpf, xmb, xrd, xrp, xpt, xaw, xrc, xcc, xts, xpk) := by
  have B' := B
  obtain ⟨_, hR, _, hL, c1, c15⟩ := B'
  refine loop_0 (fun n i (w : (Nat → Int32) × (Nat → Int32)) => wX_reset_2 post (nI R) (nI L) (nI H) n (nI i) xas xlc xpf xmb xrd xrp w.1 w.2 xrc xcc xts xpk) (fun i w => (∀ s k, s < i → k < L → w.1 (s * 16 + k) = 0) ∧ (∀ s k, s < i → k < L → w.2 (s * 16 + k) = -1)) R (xpt, xaw) ⟨fun s k z => absurd z (Nat.not_lt_zero s), fun s k z => absurd z (Nat.not_lt_zero s)⟩ ?_ ?_
  · intro n w ⟨w1, w2⟩
    exact br_t (dc_end (by omega)) (dx_clear B (fun rc cc ts e1 e2 e3 => h w.1 w.2 rc cc ts (fun s k => w1 s k) (fun s k => w2 s k) e1 e2))
  · intro n s w hs ⟨w1, w2⟩ hn
    refine br_f (dc_in hs (by omega)) ?_
    refine loop_0 (fun m i (w : (Nat → Int32) × (Nat → Int32)) => wX_reset_12 post (wX_reset_2 post (nI R) (nI L) (nI H) n) (nI s) (nI R) (nI L) (nI H) m (nI i) xas xlc xpf xmb xrd xrp w.1 w.2 xrc xcc xts xpk)
      (fun i w => (∀ s' k, s' < s ∨ (s' = s ∧ k < i) → k < L → w.1 (s' * 16 + k) = 0) ∧ (∀ s' k, s' < s ∨ (s' = s ∧ k < i) → k < L → w.2 (s' * 16 + k) = -1)) L w ⟨fun s' k z => w1 s' k (by omega), fun s' k z => w2 s' k (by omega)⟩ ?_ ?_
    · intro m w ⟨v1, v2⟩
      exact br_t (dc_end (by omega)) (nm_r (nI_1 s) (hn w ⟨fun s' k z y => v1 s' k (by omega) y, fun s' k z y => v2 s' k (by omega) y⟩))
    · intro m i w hi ⟨v1, v2⟩ hm
      refine br_f (dc_in hi (by omega)) ⟨dc_v16 s i (by omega) (by omega), nm_e ⟨dc_v16 s i (by omega) (by omega), nm_e (nm_r (nI_1 i) (hm (_, _) ⟨?_, ?_⟩))⟩⟩
      · rw [dc_c16 s i (by omega)]
        intro s' k z y
        show upd w.1 (s * 16 + i) 0 (s' * 16 + k) = 0
        by_cases e : s' = s ∧ k = i
        · rw [e.1, e.2]; exact pk_us
        · rw [pk_un (show s' * 16 + k ≠ s * 16 + i from fun q => e (by omega))]; exact v1 s' k (by omega) y
      · rw [dc_c16 s i (by omega)]
        intro s' k z y
        show upd w.2 (s * 16 + i) (-1) (s' * 16 + k) = -1
        by_cases e : s' = s ∧ k = i
        · rw [e.1, e.2]; exact pk_us
        · rw [pk_un (show s' * 16 + k ≠ s * 16 + i from fun q => e (by omega))]; exact v2 s' k (by omega) y
end
end
section
/-! the component's graft and join -/
section
variable {R L H : Nat} {A : Nat → Nat → Bool} {c : Nat → Nat} {xas xlc xpf xmb xrd xrp xpt xaw xrc xcc xts xpk : Nat → Int32}
theorem dx_graft5 {post : SX → Prop} {s : Nat} {D : Nat → Nat → Nat} {rp F : Nat → Nat → Int32} (B : dc_B R L c) (T : dc_TX R L A c xas xlc) (Q : dc_DR R L A c D rp) (hs : s < R) (rD : ∀ s r, s < R → r < R → xrd (s * 12 + r) = nI (D s r)) (rR : ∀ s r, s < R → r < R → xrp (s * 12 + r) = rp s r) (hF : dc_fw R L F) (rF : dc_r2 R L xaw F) :
    ∀ (m i : Nat) (x : Int32) (xpt : Nat → Int32) (P : Nat → Nat → Int32), i + m = R → (x = -1 ∨ ∃ q, q < R ∧ x = nI q) → dc_r2 R L xpt P →
      (∀ pt', dc_r2 R L pt' (dc_gr (rp s) (F s) (fun k x => dc_U R A c (D s) k x) s m x P) → post (nI R, nI L, nI H, xas, xlc, xpf, xmb, xrd, xrp, pt', xaw, xrc, xcc, xts, xpk)) → wX_graftToward_5 post (nI s) (nI R) (nI L) (nI H) (m + 1) x (nI i) xas xlc xpf xmb xrd xrp xpt xaw xrc xcc xts xpk := by
  have B' := B
  obtain ⟨_, hR, _, hL, c1, c15⟩ := B'
  have G := (Q s hs).1
  have IR := (Q s hs).2
  intro m
  induction m with
  | zero =>
    intro i x xpt P him hx hP h
    have e : i = R := by omega
    subst e
    exact br_t (dc_end (by omega)) (h xpt hP)
  | succ m ih =>
    intro i x xpt P him hx hP h
    refine br_f (dc_in (show i < R by omega) (by omega)) ?_
    rcases hx with e | ⟨x, hx, e⟩
    · subst e
      rw [dc_gr_m1] at h
      exact br_t rfl (h xpt hP)
    · subst e
      refine br_f (dc_nm1 (by omega)) ⟨dc_v12 s x (by omega) (by omega), ?_⟩
      rw [dc_c12 s x (by omega)]
      refine nm_r (rR s x hs hx) ?_
      rcases dc_isR_c (IR x hx) with ev | ⟨k, hk, ev, ak⟩
      · rw [dc_gr_s (by omega) ev] at h
        exact br_t ev (h xpt hP)
      · have P' := dc_r2_u (s := s) hP hL hk 0
        rw [ev]
        refine br_f (dc_nm1 (by omega)) ⟨dc_v16 s k (by omega) (by omega), nm_e ⟨dc_v16 s k (by omega) (by omega), ?_⟩⟩
        rw [dc_c16 s k (by omega)]
        refine nm_r (rF s k hs hk) ?_
        rcases hF s k hs hk with f | ⟨q, hq, f⟩
        · have E : dc_gr (rp s) (F s) (fun k x => dc_U R A c (D s) k x) s (m + 1) (nI x) P = dc_gr (rp s) (F s) (fun k x => dc_U R A c (D s) k x) s m (dc_U R A c (D s) k x) (dc_p2 P s k 0) := dc_gr_u (by omega) (by omega) ev f
          rw [E] at h
          refine br_t f (dx_up B T G hs hk hx (fun r hr => rD s r hs hr) (nm_r (nI_1 i) (ih (i + 1) _ _ _ (by omega) ?_ P' h)))
          rcases dc_U_or R A c (D s) k x with ⟨u, _⟩ | ⟨q, hq, _, u⟩
          · exact Or.inl u
          · exact Or.inr ⟨q, hq, u⟩
        · have f' : ¬ F s k = -1 := by rw [f]; exact dc_nm1 (by omega)
          rw [dc_gr_f (by omega) (by omega) ev f'] at h
          exact br_f f' (nm_r (nI_1 i) (ih (i + 1) _ _ _ (by omega) (Or.inr ⟨q, hq, f⟩) P' h))
theorem dx_join28 {post : Int32 → SX → Prop} {x : Nat} {D : Nat → Nat → Nat} {rp F P : Nat → Nat → Int32} (B : dc_B R L c) (T : dc_TX R L A c xas xlc) (Q : dc_DR R L A c D rp) (rD : ∀ s r, s < R → r < R → xrd (s * 12 + r) = nI (D s r)) (rR : ∀ s r, s < R → r < R → xrp (s * 12 + r) = rp s r) (hx : x < R) (hF : dc_fw R L F) (rF : dc_r2 R L xaw F) (hP : dc_r2 R L xpt P)
    (h : ∀ (pt' : Nat → Int32), dc_r2 R L pt' (dc_jn R A c D rp F x P R) → post 1 (nI R, nI L, nI H, xas, xlc, xpf, xmb, xrd, xrp, pt', xaw, xrc, xcc, xts, xpk)) : ∃ n, wX_join_28 post (nI x) n 0 (nI R) (nI L) (nI H) xas xlc xpf xmb xrd xrp xpt xaw xrc xcc xts xpk := by
  have hR : R ≤ 12 := B.2.1
  refine loop_0 (fun n i pt => wX_join_28 post (nI x) n (nI i) (nI R) (nI L) (nI H) xas xlc xpf xmb xrd xrp pt xaw xrc xcc xts xpk) (fun i pt => dc_r2 R L pt (dc_jn R A c D rp F x P i)) R xpt hP ?_ ?_
  · intro n pt hw
    exact br_t (dc_end (by omega)) (h pt hw)
  · intro n i pt hi hw hn
    exact br_f (dc_in hi (by omega)) ⟨R + 1, dx_graft5 B T Q hi rD rR hF rF R 0 (nI x) pt _ (by omega) (Or.inr ⟨x, hx, rfl⟩) hw (fun pt' g => nm_r (nI_1 i) (hn pt' g))⟩
end
end
section
/-! the component's flood -/
/-- the record as the component has it -/
def dc_ZX (R L : Nat) (xrc xcc xts : Nat → Int32) (z : (Nat → Nat) × (Nat → Nat) × (Nat → Nat → Bool)) : Prop :=
  (∀ y, y < R → xrc y = nI (z.1 y)) ∧ (∀ k, k < L → xcc k = nI (z.2.1 k)) ∧ (∀ k, k < L → dc_ms R (xts k) (z.2.2 k))
section
variable {R L H : Nat} {A : Nat → Nat → Bool} {c : Nat → Nat} {xas xlc xpf xmb xrd xrp xpt xaw xrc xcc xts xpk : Nat → Int32}
theorem dx_reached {post : Int32 → Prop} {rc : Nat → Nat} (B : dc_B R L c) (rc1 : ∀ y, y < R → xrc y = nI (rc y)) (hb : ∀ y, rc y < 2 ^ 31) (h : ∀ (v : Int32), dc_ms R v (fun y => decide (1 ≤ rc y)) → post v) : wpX_reachedSet post (nI R, nI L, nI H, xas, xlc, xpf, xmb, xrd, xrp, xpt, xaw, xrc, xcc, xts, xpk) := by
  obtain ⟨_, hR, _, hL, c1, c15⟩ := B
  refine loop_0 (fun n i v => wX_reachedSet_4 post (nI R) (nI L) (nI H) xas xlc xpf xmb xrd xrp xpt xaw xrc xcc xts xpk n v (nI i)) (fun i v => dc_ms R v (fun y => decide (y < i ∧ 1 ≤ rc y))) R 0 (dc_ms_ext (dc_ms_0 R) (fun i _ => (decide_eq_false (fun w => absurd w.1 (Nat.not_lt_zero i))).symm)) ?_ ?_
  · intro n v hv
    refine br_t (dc_end (by omega)) (h v (dc_ms_ext hv (fun i hi => ?_)))
    by_cases z : 1 ≤ rc i
    · rw [decide_eq_true (show i < R ∧ 1 ≤ rc i from ⟨hi, z⟩), decide_eq_true z]
    · rw [decide_eq_false (show ¬ (i < R ∧ 1 ≤ rc i) from fun w => z w.2), decide_eq_false z]
  · intro n i v hi hv hn
    refine br_f (dc_in hi (by omega)) ⟨vp_in_nI (by omega) (by omega), ?_⟩
    rw [dc_cl i (by omega), rc1 i hi]
    by_cases z : rc i < 1
    · refine br_t (nI_lt (b := 1) z (by decide)) (nm_r (nI_1 i) (hn _ (dc_ms_ext hv (fun j hj => ?_))))
      by_cases e : j < i ∧ 1 ≤ rc j
      · rw [decide_eq_true e, decide_eq_true (show j < i + 1 ∧ 1 ≤ rc j from ⟨by omega, e.2⟩)]
      · have g : ¬ (j < i + 1 ∧ 1 ≤ rc j) := by
          intro w
          by_cases q : j = i
          · rw [q] at w; omega
          · exact e ⟨by omega, w.2⟩
        rw [decide_eq_false e, decide_eq_false g]
    · refine br_f (nI_nlt (b := 1) (by omega) (hb i)) (nm_e (nm_r (nI_1 i) (hn _ (dc_ms_ext (dc_ms_or hv hi hR) (fun j hj => ?_)))))
      show (if j = i then true else decide (j < i ∧ 1 ≤ rc j)) = decide (j < i + 1 ∧ 1 ≤ rc j)
      by_cases q : j = i
      · rw [if_pos q, decide_eq_true (show j < i + 1 ∧ 1 ≤ rc j by rw [q]; omega)]
      · rw [if_neg q]
        by_cases e : j < i ∧ 1 ≤ rc j
        · rw [decide_eq_true e, decide_eq_true (show j < i + 1 ∧ 1 ≤ rc j from ⟨by omega, e.2⟩)]
        · rw [decide_eq_false e, decide_eq_false (show ¬ (j < i + 1 ∧ 1 ≤ rc j) from fun w => e ⟨by omega, w.2⟩)]
theorem dx_may {post : Int32 → Prop} {s x k : Nat} {rp P F : Nat → Nat → Int32} (B : dc_B R L c) (T : dc_TX R L A c xas xlc) (hs : s < R) (hx : x < R) (hk : k < L) (rR : ∀ s r, s < R → r < R → xrp (s * 12 + r) = rp s r) (rP : dc_r2 R L xpt P) (rF : dc_r2 R L xaw F)
    (h1 : dc_can R A (rp s) (P s) (F s) x k = true → post 1) (h0 : dc_can R A (rp s) (P s) (F s) x k = false → post 0) : wpX_mayTransmit post (nI R, nI L, nI H, xas, xlc, xpf, xmb, xrd, xrp, xpt, xaw, xrc, xcc, xts, xpk) (nI s) (nI x) (nI k) := by
  obtain ⟨_, hR, _, hL, c1, c15⟩ := B
  refine ⟨dc_v16 s k (by omega) (by omega), ?_⟩
  rw [dc_c16 s k (by omega), dc_cl k (by omega)]
  refine nm_r (rF s k hs hk) ⟨vp_in_nI (by omega) (by omega), dx_two (T.2 k hk) hR (fun z2 => ?_) (fun z2 => ?_)⟩
  · refine br_f (by decide) ⟨vp_in_nI (by omega) (by omega), dx_con (T.2 k hk) hx hR (fun za => ?_) (fun za => ?_)⟩
    · refine br_f (by decide) ⟨dc_v12 s x (by omega) (by omega), ?_⟩
      rw [dc_c12 s x (by omega), rR s x hs hx]
      by_cases zr : rp s x = nI k
      · exact br_t zr (h0 (decide_eq_false (fun w => w.2.2.1 zr)))
      · refine br_f zr ⟨dc_v16 s k (by omega) (by omega), ?_⟩
        rw [rP s k hs hk]
        by_cases zp : P s k = 0
        · refine br_t zp ?_
          by_cases zf : F s k = -1
          · exact br_t zf (h1 (decide_eq_true ⟨z2, za, zr, zp, Or.inl zf⟩))
          · refine br_f zf ?_
            by_cases zg : F s k = nI x
            · exact br_t zg (h1 (decide_eq_true ⟨z2, za, zr, zp, Or.inr zg⟩))
            · exact br_f zg (h0 (decide_eq_false (fun w => w.2.2.2.2.elim zf zg)))
        · exact br_f zp (h0 (decide_eq_false (fun w => zp w.2.2.2.1)))
    · exact br_t rfl (h0 (decide_eq_false (fun w => by rw [za] at w; exact nomatch w.2.1)))
  · exact br_t rfl (h0 (decide_eq_false (fun w => by have := w.1; omega)))
theorem dx_deliver {post : SX → Prop} {s k : Nat} {rp : Nat → Nat → Int32} {rc : Nat → Nat} (B : dc_B R L c) (hs : s < R) (hk : k < L) (rR : ∀ s r, s < R → r < R → xrp (s * 12 + r) = rp s r) (rc1 : ∀ y, y < R → xrc y = nI (rc y))
    (h : ∀ (rc' : Nat → Int32), (∀ y, y < R → rc' y = nI (dc_dl R (rp s) k rc y)) → post (nI R, nI L, nI H, xas, xlc, xpf, xmb, xrd, xrp, xpt, xaw, rc', xcc, xts, xpk)) : wpX_deliver post (nI R, nI L, nI H, xas, xlc, xpf, xmb, xrd, xrp, xpt, xaw, xrc, xcc, xts, xpk) (nI s) (nI k) := by
  obtain ⟨_, hR, _, hL, c1, c15⟩ := B
  refine loop_0 (fun n i r' => wX_deliver_2 post (nI s) (nI k) (nI R) (nI L) (nI H) n (nI i) xas xlc xpf xmb xrd xrp xpt xaw r' xcc xts xpk)
    (fun i r' => ∀ y, y < R → r' y = nI (if y < i ∧ rp s y = nI k then rc y + 1 else rc y)) R xrc (fun y hy => by rw [if_neg (show ¬ (y < 0 ∧ rp s y = nI k) from fun w => absurd w.1 (Nat.not_lt_zero y))]; exact rc1 y hy) ?_ ?_
  · intro n r' hr
    exact br_t (dc_end (by omega)) (h r' hr)
  · intro n i r' hi hr hn
    refine br_f (dc_in hi (by omega)) ⟨dc_v12 s i (by omega) (by omega), ?_⟩
    rw [dc_c12 s i (by omega), rR s i hs hi, dc_cl i (by omega)]
    by_cases zr : rp s i = nI k
    · refine br_t zr ⟨vp_in_nI (by omega) (by omega), vp_in_nI (by omega) (by omega), nm_e (nm_r (nI_1 i) (hn _ ?_))⟩
      intro y hy
      by_cases e : y = i
      · rw [e, if_pos (show i < i + 1 ∧ rp s i = nI k from ⟨by omega, zr⟩), pk_us, hr i hi, if_neg (show ¬ (i < i ∧ rp s i = nI k) from fun t => absurd t.1 (Nat.lt_irrefl i)), nI_1]
      · rw [pk_un e, hr y hy]
        by_cases t : y < i ∧ rp s y = nI k
        · rw [if_pos t, if_pos (show y < i + 1 ∧ rp s y = nI k from ⟨by omega, t.2⟩)]
        · rw [if_neg t, if_neg (show ¬ (y < i + 1 ∧ rp s y = nI k) from fun q => t ⟨by omega, q.2⟩)]
    · refine br_f zr (nm_r (nI_1 i) (hn _ ?_))
      intro y hy
      rw [hr y hy]
      by_cases e : y < i ∧ rp s y = nI k
      · rw [if_pos e, if_pos (show y < i + 1 ∧ rp s y = nI k from ⟨by omega, e.2⟩)]
      · have g : ¬ (y < i + 1 ∧ rp s y = nI k) := by
          intro t
          by_cases q : y = i
          · rw [q] at t; exact zr t.2
          · exact e ⟨by omega, t.2⟩
        rw [if_neg e, if_neg g]
theorem dx_from {post : SX → Prop} {s x : Nat} {rp P F : Nat → Nat → Int32} {z : (Nat → Nat) × (Nat → Nat) × (Nat → Nat → Bool)} (B : dc_B R L c) (T : dc_TX R L A c xas xlc) (hs : s < R) (hx : x < R) (rR : ∀ s r, s < R → r < R → xrp (s * 12 + r) = rp s r) (rP : dc_r2 R L xpt P) (rF : dc_r2 R L xaw F)
    (Z : dc_ZX R L xrc xcc xts z) (h : ∀ (rc' cc' ts' : Nat → Int32), dc_ZX R L rc' cc' ts' (dc_fx R L (rp s) (dc_can R A (rp s) (P s) (F s)) x z) → post (nI R, nI L, nI H, xas, xlc, xpf, xmb, xrd, xrp, xpt, xaw, rc', cc', ts', xpk)) : wpX_transmitFrom post (nI R, nI L, nI H, xas, xlc, xpf, xmb, xrd, xrp, xpt, xaw, xrc, xcc, xts, xpk) (nI s) (nI x) := by
  have B' := B
  obtain ⟨_, hR, _, hL, c1, c15⟩ := B'
  refine loop_0 (fun n i (w : (Nat → Int32) × (Nat → Int32) × (Nat → Int32)) => wX_transmitFrom_2 post (nI s) (nI x) n (nI i) (nI R) (nI L) (nI H) xas xlc xpf xmb xrd xrp xpt xaw w.1 w.2.1 w.2.2 xpk)
    (fun i w => dc_ZX R L w.1 w.2.1 w.2.2 (dc_it (dc_fk R (rp s) (dc_can R A (rp s) (P s) (F s)) x) z i)) L (xrc, xcc, xts) Z ?_ ?_
  · intro n w hw
    exact br_t (dc_end (by omega)) (h _ _ _ hw)
  · intro n k w hk hw hn
    refine br_f (dc_in hk (by omega)) (dx_may B T hs hx hk rR rP rF (fun zc => ?_) (fun zc => ?_))
    · refine br_f (by decide) ⟨vp_in_nI (by omega) (by omega), vp_in_nI (by omega) (by omega), nm_e ⟨vp_in_nI (by omega) (by omega), vp_in_nI (by omega) (by omega), nm_e ?_⟩⟩
      rw [dc_cl k (by omega)]
      refine dx_deliver B hs hk rR hw.1 (fun rc' e1 => nm_r (nI_1 k) (hn (rc', _, _) ?_))
      show dc_ZX R L rc' (upd w.2.1 k (w.2.1 k + 1)) (upd w.2.2 k (w.2.2 k ||| ((1 : Int32) <<< (nI x &&& 31)))) (dc_fk R (rp s) (dc_can R A (rp s) (P s) (F s)) x k (dc_it (dc_fk R (rp s) (dc_can R A (rp s) (P s) (F s)) x) z k))
      rw [dc_fk_1 zc]
      refine ⟨e1, fun j hj => ?_, fun j hj => ?_⟩
      · show upd w.2.1 k (w.2.1 k + 1) j = nI (if j = k then (dc_it (dc_fk R (rp s) (dc_can R A (rp s) (P s) (F s)) x) z k).2.1 j + 1 else (dc_it (dc_fk R (rp s) (dc_can R A (rp s) (P s) (F s)) x) z k).2.1 j)
        by_cases e : j = k
        · rw [if_pos e, e, pk_us, hw.2.1 k hk, nI_1]
        · rw [if_neg e, pk_un e, hw.2.1 j hj]
      · show dc_ms R (upd w.2.2 k (w.2.2 k ||| ((1 : Int32) <<< (nI x &&& 31))) j) (fun y => if j = k ∧ y = x then true else (dc_it (dc_fk R (rp s) (dc_can R A (rp s) (P s) (F s)) x) z k).2.2 j y)
        by_cases e : j = k
        · rw [e, pk_us]
          refine dc_ms_ext (dc_ms_or (hw.2.2 k hk) hx hR) (fun y _ => ?_)
          by_cases q : y = x
          · rw [if_pos q, if_pos (show k = k ∧ y = x from ⟨rfl, q⟩)]
          · rw [if_neg q, if_neg (show ¬ (k = k ∧ y = x) from fun t => q t.2)]
        · rw [pk_un e]
          refine dc_ms_ext (hw.2.2 j hj) (fun y _ => ?_)
          rw [if_neg (show ¬ (j = k ∧ y = x) from fun t => e t.1)]
    · refine br_t rfl (nm_r (nI_1 k) (hn w ?_))
      show dc_ZX R L w.1 w.2.1 w.2.2 (dc_fk R (rp s) (dc_can R A (rp s) (P s) (F s)) x k _)
      rw [dc_fk_0 (show ¬ dc_can R A (rp s) (P s) (F s) x k = true by rw [zc]; decide)]
      exact hw
theorem dx_flood {post : SX → Prop} {s : Nat} {rp P F : Nat → Nat → Int32} (B : dc_B R L c) (T : dc_TX R L A c xas xlc) (hs : s < R) (rR : ∀ s r, s < R → r < R → xrp (s * 12 + r) = rp s r) (rP : dc_r2 R L xpt P) (rF : dc_r2 R L xaw F)
    (r0 : ∀ r, r < R → xrc r = 0) (k0 : ∀ k, k < L → xcc k = 0) (t0 : ∀ k, k < L → xts k = 0)
    (h : ∀ (rc' cc' ts' : Nat → Int32), dc_ZX R L rc' cc' ts' (dc_sz R L A rp P F s) → post (nI R, nI L, nI H, xas, xlc, xpf, xmb, xrd, xrp, xpt, xaw, rc', cc', ts', xpk)) : wpX_flood post (nI R, nI L, nI H, xas, xlc, xpf, xmb, xrd, xrp, xpt, xaw, xrc, xcc, xts, xpk) (nI s) := by
  have B' := B
  obtain ⟨_, hR, _, hL, c1, c15⟩ := B'
  have FI := fun n => dc_FIn (R := R) (L := L) (rp := rp s) (can := dc_can R A (rp s) (P s) (F s)) hs n
  have K : ∀ (n : Nat) (w : (Nat → Int32) × (Nat → Int32) × (Nat → Int32)), dc_ZX R L w.1 w.2.1 w.2.2 (dc_fl R L (rp s) (dc_can R A (rp s) (P s) (F s)) (dc_f0 s) n).1 → (∀ y, y < R → (dc_fl R L (rp s) (dc_can R A (rp s) (P s) (F s)) (dc_f0 s) n).2 y = false) →
      post (nI R, nI L, nI H, xas, xlc, xpf, xmb, xrd, xrp, xpt, xaw, w.1, w.2.1, w.2.2, xpk) := by
    intro n w z e
    rw [dc_fl_u hs e] at z
    exact h _ _ _ z
  refine ⟨vp_in_nI (by omega) (by omega), nm_e (nm_e ?_)⟩
  rw [dc_cl s (by omega)]
  refine loop_0 (fun n i (w : Int32 × (Nat → Int32) × (Nat → Int32) × (Nat → Int32)) => wX_flood_13 post (nI s) n w.1 (nI i) (nI R) (nI L) (nI H) xas xlc xpf xmb xrd xrp xpt xaw w.2.1 w.2.2.1 w.2.2.2 xpk)
    (fun i w => dc_ZX R L w.2.1 w.2.2.1 w.2.2.2 (dc_fl R L (rp s) (dc_can R A (rp s) (P s) (F s)) (dc_f0 s) i).1 ∧ dc_ms R w.1 (dc_fl R L (rp s) (dc_can R A (rp s) (P s) (F s)) (dc_f0 s) i).2)
    R ((1 : Int32) <<< (nI s &&& 31), upd xrc s 1, xcc, xts) ⟨⟨fun y hy => ?_, fun k hk => k0 k hk, fun k hk => ?_⟩, ?_⟩ ?_ ?_
  · show upd xrc s 1 y = nI (if y = s then 1 else 0)
    by_cases e : y = s
    · rw [e, pk_us, if_pos rfl] <;> rfl
    · rw [pk_un e, if_neg e, r0 y hy] <;> rfl
  · show dc_ms R (xts k) (fun _ => false)
    rw [t0 k hk]
    exact dc_ms_0 R
  · intro i hi
    show bt ((1 : Int32) <<< (nI s &&& 31)) i = (decide (i < R) && decide (i = s))
    rw [dc_1sh s (by omega) i hi]
    by_cases e : i = s
    · rw [decide_eq_true e, decide_eq_true (show i < R by omega)] <;> rfl
    · rw [decide_eq_false e, Bool.and_false]
  · intro n w ⟨z, f⟩
    exact br_t (dc_end (by omega)) (K R w.2 z (fun y _ => dc_fl_R hs y))
  · intro n i w hi ⟨z, f⟩ hn
    refine br_f (dc_in hi (by omega)) ?_
    by_cases z0 : w.1 = 0
    · exact br_t z0 (K i w.2 z ((dc_ms_z f hR).mp z0))
    · have b1 := dc_FI_b (FI i) hR hL (show i ≤ 13 by omega)
      refine br_f z0 (dx_reached B z.1 (fun y => by have := b1 y; omega) (fun v0 m0 => ?_))
      refine loop_0 (fun m x (w' : (Nat → Int32) × (Nat → Int32) × (Nat → Int32)) => wX_flood_34 post (wX_flood_13 post (nI s) n) (nI s) w.1 (nI i) v0 m (nI x) (nI R) (nI L) (nI H) xas xlc xpf xmb xrd xrp xpt xaw w'.1 w'.2.1 w'.2.2 xpk)
        (fun x w' => dc_ZX R L w'.1 w'.2.1 w'.2.2 (dc_it (dc_rx R L (rp s) (dc_can R A (rp s) (P s) (F s)) (dc_fl R L (rp s) (dc_can R A (rp s) (P s) (F s)) (dc_f0 s) i).2) (dc_fl R L (rp s) (dc_can R A (rp s) (P s) (F s)) (dc_f0 s) i).1 x)) R w.2 z ?_ ?_
      · intro m w' hw
        have b2 := dc_FI_b (FI (i + 1)) hR hL (show i + 1 ≤ 13 by omega)
        refine br_t (dc_end (by omega)) (dx_reached B (rc := (dc_fl R L (rp s) (dc_can R A (rp s) (P s) (F s)) (dc_f0 s) (i + 1)).1.1) hw.1 (fun y => by have := b2 y; omega) (fun v1 m1 => nm_e (nm_r (nI_1 i) (hn (_, w'.1, w'.2.1, w'.2.2) ⟨hw, ?_⟩))))
        refine dc_ms_ext (dc_ms_mn m1 m0) (fun y hy => ?_)
        show (decide (1 ≤ (dc_fl R L (rp s) (dc_can R A (rp s) (P s) (F s)) (dc_f0 s) (i + 1)).1.1 y) && !(decide (1 ≤ (dc_fl R L (rp s) (dc_can R A (rp s) (P s) (F s)) (dc_f0 s) i).1.1 y))) = decide (y < R ∧ (dc_fl R L (rp s) (dc_can R A (rp s) (P s) (F s)) (dc_f0 s) i).1.1 y = 0 ∧ 1 ≤ (dc_fl R L (rp s) (dc_can R A (rp s) (P s) (F s)) (dc_f0 s) (i + 1)).1.1 y)
        generalize (dc_fl R L (rp s) (dc_can R A (rp s) (P s) (F s)) (dc_f0 s) (i + 1)).1.1 y = a
        generalize (dc_fl R L (rp s) (dc_can R A (rp s) (P s) (F s)) (dc_f0 s) i).1.1 y = b
        by_cases q : y < R ∧ b = 0 ∧ 1 ≤ a
        · rw [decide_eq_true q, decide_eq_true q.2.2, decide_eq_false (show ¬ 1 ≤ b by omega)] <;> rfl
        · rw [decide_eq_false q]
          by_cases p : 1 ≤ a
          · rw [decide_eq_true (show 1 ≤ b by omega), Bool.not_true, Bool.and_false]
          · rw [decide_eq_false p, Bool.false_and]
      · intro m x w' hx hw hm
        refine br_f (dc_in hx (by omega)) (dx_con f hx hR (fun zf => ?_) (fun zf => ?_))
        · refine br_f (by decide) (dx_from B T hs hx rR rP rF hw (fun rc' cc' ts' Z' => nm_r (nI_1 x) (hm (rc', cc', ts') ?_)))
          show dc_ZX R L rc' cc' ts' (dc_rx R L (rp s) (dc_can R A (rp s) (P s) (F s)) (dc_fl R L (rp s) (dc_can R A (rp s) (P s) (F s)) (dc_f0 s) i).2 x _)
          rw [dc_rx_1 zf]
          exact Z'
        · refine br_t rfl (nm_r (nI_1 x) (hm w' ?_))
          show dc_ZX R L w'.1 w'.2.1 w'.2.2 (dc_rx R L (rp s) (dc_can R A (rp s) (P s) (F s)) (dc_fl R L (rp s) (dc_can R A (rp s) (P s) (F s)) (dc_f0 s) i).2 x _)
          rw [dc_rx_0 (show ¬ (dc_fl R L (rp s) (dc_can R A (rp s) (P s) (F s)) (dc_f0 s) i).2 x = true by rw [zf]; decide)]
          exact hw
end
end
section
/-! the component's election, needed set, prunes, answer; its send -/
section
variable {R L H : Nat} {A : Nat → Nat → Bool} {c : Nat → Nat} {xas xlc xpf xmb xrd xrp xpt xaw xrc xcc xts xpk : Nat → Int32}
theorem dx_beats {post : Int32 → Prop} {s x q : Nat} {D : Nat → Nat} {pf : Nat → Int32} (B : dc_B R L c) (G : dc_G R L A c s D) (hs : s < R) (hx : x < R) (hq : q < R) (rD : ∀ r, r < R → xrd (s * 12 + r) = nI (D r)) (rpf : ∀ r, r < R → xpf r = pf r)
    (h1 : dc_be pf D x q = true → post 1) (h0 : ¬ dc_be pf D x q = true → post 0) : wpX_beatsLower post (nI R, nI L, nI H, xas, xlc, xpf, xmb, xrd, xrp, xpt, xaw, xrc, xcc, xts, xpk) (nI s) (nI x) (nI q) := by
  obtain ⟨_, hR, _, hL, c1, c15⟩ := B
  have Dx := G.2.1 x hx
  have Dq := G.2.1 q hq
  refine ⟨vp_in_nI (by omega) (by omega), vp_in_nI (by omega) (by omega), ?_⟩
  rw [dc_cl x (by omega), dc_cl q (by omega), rpf x hx, rpf q hq, dc_c12 s x (by omega), dc_c12 s q (by omega), rD x hx, rD q hq]
  by_cases p2 : pf x = pf q
  · refine br_t p2 ⟨dc_v12 s x (by omega) (by omega), nm_e ⟨dc_v12 s q (by omega) (by omega), ?_⟩⟩
    by_cases z : D x ≤ D q
    · exact br_f (nI_nlt z (by omega)) (h1 (decide_eq_true (Or.inr ⟨p2, z⟩)))
    · refine br_t (nI_lt (by omega) (by omega)) (h0 (fun w => ?_))
      rcases of_decide_eq_true w with e | e
      · rw [p2] at e; exact Int32.lt_irrefl e
      · exact z e.2
  · refine br_f p2 ⟨vp_in_nI (by omega) (by omega), vp_in_nI (by omega) (by omega), ?_⟩
    by_cases z : pf q ≤ pf x
    · refine br_t z (h0 (fun w => ?_))
      rcases of_decide_eq_true w with e | e
      · exact Int32.not_lt.mpr z e
      · exact p2 e.1
    · exact br_f z (h1 (decide_eq_true (Or.inl (Int32.not_le.mp z))))
theorem dx_best {post : Int32 → Prop} {s k : Nat} {D : Nat → Nat} {pf : Nat → Int32} {t : Nat → Nat → Bool} (B : dc_B R L c) (G : dc_G R L A c s D) (hs : s < R) (hk : k < L) (rD : ∀ r, r < R → xrd (s * 12 + r) = nI (D r)) (rpf : ∀ r, r < R → xpf r = pf r) (rT : ∀ k, k < L → dc_ms R (xts k) (t k))
    (h : post (dc_oI (dc_bs (t k) (dc_be pf D) R))) : wpX_bestTransmitter post (nI R, nI L, nI H, xas, xlc, xpf, xmb, xrd, xrp, xpt, xaw, xrc, xcc, xts, xpk) (nI s) (nI k) := by
  have B' := B
  obtain ⟨_, hR, _, hL, c1, c15⟩ := B'
  refine loop_0 (fun n i v => wX_bestTransmitter_5 post (nI s) (nI k) (nI R) (nI L) (nI H) xas xlc xpf xmb xrd xrp xpt xaw xrc xcc xts xpk n v (nI i)) (fun i v => v = dc_oI (dc_bs (t k) (dc_be pf D) i)) R (-1) rfl ?_ ?_
  · intro n v hv
    subst hv
    exact br_t (dc_end (by omega)) h
  · intro n i v hi hv hn
    subst hv
    refine br_f (dc_in hi (by omega)) ⟨vp_in_nI (by omega) (by omega), ?_⟩
    rw [dc_cl k (by omega)]
    refine dx_con (rT k hk) hi hR (fun z => ?_) (fun z => ?_)
    · refine br_f (by decide) ?_
      cases e : dc_bs (t k) (dc_be pf D) i with
      | none => exact br_t rfl (nm_r (nI_1 i) (hn _ (congrArg dc_oI (dc_bs_s1 z e)).symm))
      | some q =>
        have hq := (dc_bs_m e).1
        rw [show dc_oI (some q) = nI q from rfl]
        refine br_f (dc_nm1 (by omega)) (dx_beats B G hs hi (show q < R by omega) rD rpf (fun b => ?_) (fun b => ?_))
        · exact br_f (by decide) (nm_r (nI_1 i) (hn _ (congrArg dc_oI (dc_bs_s2 z e b)).symm))
        · exact br_t rfl (nm_r (nI_1 i) (hn _ (congrArg dc_oI (dc_bs_s3 z e b)).symm))
    · exact br_t rfl (nm_r (nI_1 i) (hn _ (congrArg dc_oI (dc_bs_s0 (show ¬ t k i = true by rw [z]; decide))).symm))
theorem dx_elect {post : SX → Prop} {s : Nat} {D : Nat → Nat} {pf : Nat → Int32} {t : Nat → Nat → Bool} {F : Nat → Nat → Int32} (B : dc_B R L c) (G : dc_G R L A c s D) (hs : s < R) (rD : ∀ r, r < R → xrd (s * 12 + r) = nI (D r)) (rpf : ∀ r, r < R → xpf r = pf r) (rT : ∀ k, k < L → dc_ms R (xts k) (t k)) (rF : dc_r2 R L xaw F)
    (h : ∀ (aw' pk' : Nat → Int32), dc_r2 R L aw' (dc_fo R t (dc_be pf D) s F L) → (∀ j, j < L → pk' j = dc_oI (dc_bs (t j) (dc_be pf D) R)) → post (nI R, nI L, nI H, xas, xlc, xpf, xmb, xrd, xrp, xpt, aw', xrc, xcc, xts, pk')) : wpX_electForwarders post (nI R, nI L, nI H, xas, xlc, xpf, xmb, xrd, xrp, xpt, xaw, xrc, xcc, xts, xpk) (nI s) := by
  have B' := B
  obtain ⟨_, hR, _, hL, c1, c15⟩ := B'
  refine loop_0 (fun n i (w : (Nat → Int32) × (Nat → Int32)) => wX_electForwarders_2 post (nI s) (nI R) (nI L) (nI H) n (nI i) xas xlc xpf xmb xrd xrp xpt w.1 xrc xcc xts w.2)
    (fun i w => dc_r2 R L w.1 (dc_fo R t (dc_be pf D) s F i) ∧ (∀ j, j < i → w.2 j = dc_oI (dc_bs (t j) (dc_be pf D) R))) L (xaw, xpk) ⟨?_, fun j z => absurd z (Nat.not_lt_zero j)⟩ ?_ ?_
  · intro s' k' hs' hk'
    show xaw (s' * 16 + k') = _
    rw [rF s' k' hs' hk']
    unfold dc_fo
    rw [if_neg (show ¬ (s' = s ∧ k' < 0 ∧ 2 ≤ dc_cn (t k') R) from fun w => absurd w.2.1 (Nat.not_lt_zero k'))]
  · intro n w ⟨w1, w2⟩
    exact br_t (dc_end (by omega)) (h _ _ w1 w2)
  · intro n k w hk ⟨w1, w2⟩ hn
    have pk : ∀ j, j < k + 1 → upd w.2 k (dc_oI (dc_bs (t k) (dc_be pf D) R)) j = dc_oI (dc_bs (t j) (dc_be pf D) R) := by
      intro j hj
      by_cases e : j = k
      · rw [e]; exact pk_us
      · rw [pk_un e]; exact w2 j (by omega)
    refine br_f (dc_in hk (by omega)) (dx_best B G hs hk rD rpf rT ⟨vp_in_nI (by omega) (by omega), nm_e ⟨vp_in_nI (by omega) (by omega), ?_⟩⟩)
    rw [dc_cl k (by omega)]
    refine dx_two (rT k hk) hR (fun z2 => ?_) (fun z2 => ?_)
    · refine br_f (by decide) ⟨vp_in_nI (by omega) (by omega), dc_v16 s k (by omega) (by omega), nm_e (nm_r (nI_1 k) (hn (_, _) ⟨?_, pk⟩))⟩
      rw [dc_c16 s k (by omega), pk_us]
      intro s' k' hs' hk'
      show upd w.1 (s * 16 + k) (dc_oI (dc_bs (t k) (dc_be pf D) R)) (s' * 16 + k') = _
      unfold dc_fo
      by_cases e : s' = s ∧ k' = k
      · rw [e.1, e.2, pk_us, if_pos (show s = s ∧ k < k + 1 ∧ 2 ≤ dc_cn (t k) R from ⟨rfl, by omega, z2⟩)]
      · rw [pk_un (show s' * 16 + k' ≠ s * 16 + k from fun w => e (by omega)), w1 s' k' hs' hk']
        unfold dc_fo
        by_cases q : s' = s ∧ k' < k ∧ 2 ≤ dc_cn (t k') R
        · rw [if_pos q, if_pos (show s' = s ∧ k' < k + 1 ∧ 2 ≤ dc_cn (t k') R from ⟨q.1, by have := q.2.1; omega, q.2.2⟩)]
        · rw [if_neg q, if_neg (show ¬ (s' = s ∧ k' < k + 1 ∧ 2 ≤ dc_cn (t k') R) from fun w => q ⟨w.1, by have a1 := w.1; have a2 := w.2.1; omega, w.2.2⟩)]
    · refine br_t rfl (nm_r (nI_1 k) (hn (w.1, _) ⟨?_, pk⟩))
      intro s' k' hs' hk'
      show w.1 (s' * 16 + k') = _
      rw [w1 s' k' hs' hk']
      unfold dc_fo
      by_cases q : s' = s ∧ k' < k ∧ 2 ≤ dc_cn (t k') R
      · rw [if_pos q, if_pos (show s' = s ∧ k' < k + 1 ∧ 2 ≤ dc_cn (t k') R from ⟨q.1, by have := q.2.1; omega, q.2.2⟩)]
      · have g : ¬ (s' = s ∧ k' < k + 1 ∧ 2 ≤ dc_cn (t k') R) := by
          intro w
          by_cases e : k' = k
          · rw [e] at w; have := w.2.2; omega
          · exact q ⟨w.1, by have := w.2.1; omega, w.2.2⟩
        rw [if_neg q, if_neg g]
theorem dx_wanted {post : Int32 → Prop} {s k : Nat} {m : Int32} {rp : Nat → Nat → Int32} {N : Nat → Bool} (B : dc_B R L c) (hs : s < R) (rR : ∀ s r, s < R → r < R → xrp (s * 12 + r) = rp s r) (M : dc_ms R m N)
    (h1 : dc_wb R (rp s) N k = true → post 1) (h0 : dc_wb R (rp s) N k = false → post 0) : wpX_isWanted post (nI R, nI L, nI H, xas, xlc, xpf, xmb, xrd, xrp, xpt, xaw, xrc, xcc, xts, xpk) (nI s) (nI k) m := by
  obtain ⟨_, hR, _, hL, c1, c15⟩ := B
  refine loop_0 (fun n i (_ : Unit) => wX_isWanted_3 post (nI s) (nI k) m (nI R) (nI L) (nI H) xas xlc xpf xmb xrd xrp xpt xaw xrc xcc xts xpk n (nI i)) (fun i _ => ∀ z, z < i → N z = true → ¬ rp s z = nI k) R () (fun q z => absurd z (Nat.not_lt_zero q)) ?_ ?_
  · intro n _ hq
    refine br_t (dc_end (by omega)) (h0 (dc_bt (fun w => ?_)))
    obtain ⟨z, hz, n1, e⟩ := dc_wb_1.mp w
    exact hq z hz n1 e
  · intro n i _ hi hq hn
    have no : ∀ (w : N i = true → ¬ rp s i = nI k) z, z < i + 1 → N z = true → ¬ rp s z = nI k := by
      intro w z hz
      by_cases e : z = i
      · rw [e]; exact w
      · exact hq z (by omega)
    refine br_f (dc_in hi (by omega)) (dx_con M hi hR (fun zn => ?_) (fun zn => ?_))
    · refine br_f (by decide) ⟨dc_v12 s i (by omega) (by omega), ?_⟩
      rw [dc_c12 s i (by omega), rR s i hs hi]
      by_cases zr : rp s i = nI k
      · exact br_t zr (h1 (dc_wb_1.mpr ⟨i, hi, zn, zr⟩))
      · exact br_f zr (nm_r (nI_1 i) (hn () (no (fun _ => zr))))
    · exact br_t rfl (nm_r (nI_1 i) (hn () (no (fun w => by rw [zn] at w; exact nomatch w))))
theorem dx_with {post : Int32 → Prop} {s : Nat} {m : Int32} {rp : Nat → Nat → Int32} {f : Nat → Int32} {N : Nat → Bool} (B : dc_B R L c) (hs : s < R) (rR : ∀ s r, s < R → r < R → xrp (s * 12 + r) = rp s r) (M : dc_ms R m N) (rC : ∀ j, j < L → xpk j = f j) (hf : ∀ j, j < L → f j = -1 ∨ ∃ q, q < R ∧ f j = nI q)
    (h : ∀ (v : Int32) (N' : Nat → Bool), dc_ms R v N' → (∀ y, y < R → (N' y = true ↔ (N y = true ∨ (y ≠ s ∧ ∃ j, j < L ∧ f j = nI y ∧ dc_W R (rp s) N j)))) → post v) : wpX_withForwarders post (nI R, nI L, nI H, xas, xlc, xpf, xmb, xrd, xrp, xpt, xaw, xrc, xcc, xts, xpk) (nI s) m := by
  have B' := B
  obtain ⟨_, hR, _, hL, c1, c15⟩ := B'
  refine loop_0 (fun n i v => wX_withForwarders_5 post (nI s) m (nI R) (nI L) (nI H) xas xlc xpf xmb xrd xrp xpt xaw xrc xcc xts xpk n v (nI i)) (fun i v => ∃ N', dc_ms R v N' ∧ (∀ y, y < R → (N' y = true ↔ (N y = true ∨ (y ≠ s ∧ ∃ j, j < i ∧ f j = nI y ∧ dc_W R (rp s) N j))))) L m
    ⟨N, M, fun y _ => ⟨fun a => Or.inl a, fun a => a.elim (fun b => b) (fun ⟨_, j, z, _⟩ => absurd z (Nat.not_lt_zero j))⟩⟩ ?_ ?_
  · intro n v ⟨N', v1, v2⟩
    exact br_t (dc_end (by omega)) (h v N' v1 v2)
  · intro n i v hi ⟨N', v1, v2⟩ hn
    have keep : (∀ y, y < R → y ≠ s → f i = nI y → ¬ dc_W R (rp s) N i) → wX_withForwarders_5 post (nI s) m (nI R) (nI L) (nI H) xas xlc xpf xmb xrd xrp xpt xaw xrc xcc xts xpk n v (nI (i + 1)) := by
      intro q
      refine hn v ⟨N', v1, fun y hy => (v2 y hy).trans ⟨fun a => a.elim Or.inl (fun ⟨ys, j, hj, e, w⟩ => Or.inr ⟨ys, j, by omega, e, w⟩), fun a => a.elim Or.inl (fun ⟨ys, j, hj, e, w⟩ => ?_)⟩⟩
      by_cases z : j = i
      · subst z; exact absurd w (q y hy ys e)
      · exact Or.inr ⟨ys, j, by omega, e, w⟩
    refine br_f (dc_in hi (by omega)) ⟨vp_in_nI (by omega) (by omega), ?_⟩
    rw [dc_cl i (by omega), rC i hi]
    refine nm_e ?_
    rcases hf i hi with e | ⟨q, hq, e⟩
    · refine br_t e (nm_r (nI_1 i) (keep (fun y hy _ w => ?_)))
      rw [e] at w
      exact absurd w.symm (dc_nm1 (by omega))
    · rw [e]
      refine br_f (dc_nm1 (by omega)) ?_
      by_cases zs : q = s
      · refine br_t (by rw [zs]) (nm_r (nI_1 i) (keep (fun y hy ys w => ?_)))
        rw [e] at w
        exact absurd ((nI_eq (by omega) (by omega)).mp w) (by omega)
      · refine br_f (fun w => zs ((nI_eq (by omega) (by omega)).mp w)) (dx_wanted B hs rR M (fun w => ?_) (fun w => ?_))
        · refine br_f (by decide) (nm_e (nm_r (nI_1 i) (hn _ ⟨_, dc_ms_or v1 hq hR, fun y hy => ?_⟩)))
          show (if y = q then true else N' y) = true ↔ _
          by_cases z : y = q
          · rw [if_pos z]
            exact ⟨fun _ => Or.inr ⟨by omega, i, by omega, by rw [e, z], dc_wb_1.mp w⟩, fun _ => rfl⟩
          · rw [if_neg z]
            refine (v2 y hy).trans ⟨fun a => a.elim Or.inl (fun ⟨ys, j, hj, e1, w1⟩ => Or.inr ⟨ys, j, by omega, e1, w1⟩), fun a => a.elim Or.inl (fun ⟨ys, j, hj, e1, w1⟩ => ?_)⟩
            by_cases y1 : j = i
            · subst y1
              rw [e] at e1
              exact absurd ((nI_eq (by omega) (by omega)).mp e1) (by omega)
            · exact Or.inr ⟨ys, j, by omega, e1, w1⟩
        · refine br_t rfl (nm_r (nI_1 i) (keep (fun y hy ys w1 w2 => ?_)))
          rw [dc_wb_1.mpr w2] at w
          exact nomatch w
theorem dx_needed {post : Int32 → Prop} {s : Nat} {rp : Nat → Nat → Int32} {f mb : Nat → Int32} {rc : Nat → Nat} (B : dc_B R L c) (hs : s < R) (rR : ∀ s r, s < R → r < R → xrp (s * 12 + r) = rp s r) (rC : ∀ j, j < L → xpk j = f j) (hf : ∀ j, j < L → f j = -1 ∨ ∃ q, q < R ∧ f j = nI q ∧ 1 ≤ rc q)
    (rc1 : ∀ y, y < R → xrc y = nI (rc y)) (hb : ∀ y, rc y < 2 ^ 31) (rM : ∀ y, y < R → xmb y = mb y)
    (h : ∀ (v : Int32) (N : Nat → Bool), dc_ms R v N → dc_Sd R L s (rp s) f (fun y => decide (1 ≤ rc y)) (fun y => decide (¬ mb y = 0)) N → dc_Cl R L s (rp s) f (fun y => decide (1 ≤ rc y)) (fun y => decide (¬ mb y = 0)) N → post v) : wpX_neededSet post (nI R, nI L, nI H, xas, xlc, xpf, xmb, xrd, xrp, xpt, xaw, xrc, xcc, xts, xpk) (nI s) := by
  have B' := B
  obtain ⟨_, hR, _, hL, c1, c15⟩ := B'
  have hf1 : ∀ j, j < L → f j = -1 ∨ ∃ q, q < R ∧ f j = nI q := fun j hj => (hf j hj).elim Or.inl (fun ⟨q, hq, e, _⟩ => Or.inr ⟨q, hq, e⟩)
  have hf2 : ∀ j y, j < L → y < R → f j = nI y → (fun y => decide (1 ≤ rc y)) y = true := by
    intro j y hj hy e
    rcases hf j hj with e1 | ⟨q, hq, e1, o⟩
    · rw [e1] at e; exact absurd e.symm (dc_nm1 (by omega))
    · have : q = y := (nI_eq (by omega) (by omega)).mp (e1.symm.trans e)
      rw [← this]
      exact decide_eq_true o
  refine loop_0 (fun n i v => wX_neededSet_4 post (nI s) (nI R) (nI L) (nI H) xas xlc xpf xmb xrd xrp xpt xaw xrc xcc xts xpk n v (nI i)) (fun i v => dc_ms R v (fun y => decide (y < i ∧ y ≠ s ∧ ¬ mb y = 0 ∧ 1 ≤ rc y))) R 0 (dc_ms_ext (dc_ms_0 R) (fun i _ => (decide_eq_false (fun w => absurd w.1 (Nat.not_lt_zero i))).symm)) ?_ ?_
  · intro n v hv
    refine br_t (dc_end (by omega)) ?_
    refine loop_0 (fun n i v => wX_neededSet_50 post (nI s) (nI R) (nI L) (nI H) xas xlc xpf xmb xrd xrp xpt xaw xrc xcc xts xpk n v (nI i)) (fun i v => ∃ N, dc_ms R v N ∧ dc_NX R L s (rp s) f (fun y => decide (1 ≤ rc y)) (fun y => decide (¬ mb y = 0)) i N) R v ⟨_, hv, dc_NX0 (fun y hy => ?_)⟩ ?_ ?_
    · constructor
      · intro w
        have w' := of_decide_eq_true w
        exact ⟨w'.2.1, decide_eq_true w'.2.2.1, decide_eq_true w'.2.2.2⟩
      · intro w
        exact decide_eq_true ⟨hy, w.1, of_decide_eq_true w.2.1, of_decide_eq_true w.2.2⟩
    · intro n v ⟨N, n1, n2⟩
      exact br_t (dc_end (by omega)) (h v N n1 n2.1 (dc_NXR n2))
    · intro n i v hi ⟨N, n1, n2⟩ hn
      exact br_f (dc_in hi (by omega)) (dx_with B hs rR n1 rC hf1 (fun v' N' m1 m2 => nm_r (nI_1 i) (hn _ ⟨N', m1, dc_NXs hf2 n2 m2⟩)))
  · intro n i v hi hv hn
    have keep : ¬ (i ≠ s ∧ ¬ mb i = 0 ∧ 1 ≤ rc i) → wX_neededSet_4 post (nI s) (nI R) (nI L) (nI H) xas xlc xpf xmb xrd xrp xpt xaw xrc xcc xts xpk n v (nI (i + 1)) := by
      intro q
      refine hn v (dc_ms_ext hv (fun j hj => ?_))
      by_cases e : j < i ∧ j ≠ s ∧ ¬ mb j = 0 ∧ 1 ≤ rc j
      · rw [decide_eq_true e, decide_eq_true (show j < i + 1 ∧ j ≠ s ∧ ¬ mb j = 0 ∧ 1 ≤ rc j from ⟨by have := e.1; omega, e.2⟩)]
      · have g : ¬ (j < i + 1 ∧ j ≠ s ∧ ¬ mb j = 0 ∧ 1 ≤ rc j) := by
          intro w
          by_cases z : j = i
          · rw [z] at w; exact q w.2
          · exact e ⟨by have := w.1; omega, w.2⟩
        rw [decide_eq_false e, decide_eq_false g]
    refine br_f (dc_in hi (by omega)) ?_
    by_cases zs : i = s
    · exact br_t (by rw [zs]) (nm_r (nI_1 i) (keep (fun w => w.1 zs)))
    · refine br_f (fun e => zs ((nI_eq (by omega) (by omega)).mp e)) ⟨vp_in_nI (by omega) (by omega), ?_⟩
      rw [dc_cl i (by omega), rM i hi, rc1 i hi]
      by_cases zm : mb i = 0
      · exact br_t zm (nm_r (nI_1 i) (keep (fun w => w.2.1 zm)))
      · refine br_f zm ⟨vp_in_nI (by omega) (by omega), ?_⟩
        by_cases zr : rc i < 1
        · exact br_t (nI_lt (b := 1) zr (by decide)) (nm_r (nI_1 i) (keep (fun w => by have := w.2.2; omega)))
        · refine br_f (nI_nlt (b := 1) (by omega) (hb i)) (nm_e (nm_r (nI_1 i) (hn _ (dc_ms_ext (dc_ms_or hv hi hR) (fun j hj => ?_)))))
          show (if j = i then true else decide (j < i ∧ j ≠ s ∧ ¬ mb j = 0 ∧ 1 ≤ rc j)) = decide (j < i + 1 ∧ j ≠ s ∧ ¬ mb j = 0 ∧ 1 ≤ rc j)
          by_cases z : j = i
          · rw [if_pos z, decide_eq_true (show j < i + 1 ∧ j ≠ s ∧ ¬ mb j = 0 ∧ 1 ≤ rc j by rw [z]; exact ⟨by omega, zs, zm, by omega⟩)]
          · rw [if_neg z]
            by_cases e : j < i ∧ j ≠ s ∧ ¬ mb j = 0 ∧ 1 ≤ rc j
            · rw [decide_eq_true e, decide_eq_true (show j < i + 1 ∧ j ≠ s ∧ ¬ mb j = 0 ∧ 1 ≤ rc j from ⟨by have := e.1; omega, e.2⟩)]
            · rw [decide_eq_false e, decide_eq_false (show ¬ (j < i + 1 ∧ j ≠ s ∧ ¬ mb j = 0 ∧ 1 ≤ rc j) from fun w => e ⟨by have := w.1; omega, w.2⟩)]
theorem dx_prune {post : SX → Prop} {s : Nat} {m : Int32} {rp P : Nat → Nat → Int32} {t : Nat → Nat → Bool} {N : Nat → Bool} (B : dc_B R L c) (hs : s < R) (rR : ∀ s r, s < R → r < R → xrp (s * 12 + r) = rp s r) (M : dc_ms R m N) (rT : ∀ k, k < L → dc_ms R (xts k) (t k)) (rP : dc_r2 R L xpt P)
    (h : ∀ (pt' : Nat → Int32), dc_r2 R L pt' (dc_pr R (rp s) t N (nI H) s P L) → post (nI R, nI L, nI H, xas, xlc, xpf, xmb, xrd, xrp, pt', xaw, xrc, xcc, xts, xpk)) : wpX_pruneUnwantedLinks post (nI R, nI L, nI H, xas, xlc, xpf, xmb, xrd, xrp, xpt, xaw, xrc, xcc, xts, xpk) (nI s) m := by
  have B' := B
  obtain ⟨_, hR, _, hL, c1, c15⟩ := B'
  refine loop_0 (fun n i pt => wX_pruneUnwantedLinks_2 post (nI s) m (nI R) (nI L) (nI H) n (nI i) xas xlc xpf xmb xrd xrp pt xaw xrc xcc xts xpk) (fun i pt => dc_r2 R L pt (dc_pr R (rp s) t N (nI H) s P i)) L xpt ?_ ?_ ?_
  · intro s' k' hs' hk'
    rw [rP s' k' hs' hk']
    unfold dc_pr
    rw [if_neg (show ¬ (s' = s ∧ k' < 0 ∧ 0 < dc_cn (t k') R ∧ dc_wb R (rp s) N k' = false) from fun w => absurd w.2.1 (Nat.not_lt_zero k'))]
  · intro n pt hp
    exact br_t (dc_end (by omega)) (h pt hp)
  · intro n k pt hk hp hn
    have keep : ¬ (0 < dc_cn (t k) R ∧ dc_wb R (rp s) N k = false) → dc_r2 R L pt (dc_pr R (rp s) t N (nI H) s P (k + 1)) := by
      intro q s' k' hs' hk'
      rw [hp s' k' hs' hk']
      unfold dc_pr
      by_cases e : s' = s ∧ k' < k ∧ 0 < dc_cn (t k') R ∧ dc_wb R (rp s) N k' = false
      · rw [if_pos e, if_pos (show s' = s ∧ k' < k + 1 ∧ 0 < dc_cn (t k') R ∧ dc_wb R (rp s) N k' = false from ⟨e.1, by have := e.2.1; omega, e.2.2⟩)]
      · have g : ¬ (s' = s ∧ k' < k + 1 ∧ 0 < dc_cn (t k') R ∧ dc_wb R (rp s) N k' = false) := by
          intro w
          by_cases z : k' = k
          · rw [z] at w; exact q w.2.2
          · exact e ⟨w.1, by have := w.2.1; omega, w.2.2⟩
        rw [if_neg e, if_neg g]
    have zero := dc_ms_z (rT k hk) hR
    refine br_f (dc_in hk (by omega)) ⟨vp_in_nI (by omega) (by omega), ?_⟩
    rw [dc_cl k (by omega)]
    by_cases z0 : xts k = 0
    · refine br_t z0 (nm_r (nI_1 k) (hn _ (keep (fun w => ?_))))
      obtain ⟨j, hj, e⟩ := dc_cn_some w.1
      rw [zero.mp z0 j hj] at e
      exact nomatch e
    · refine br_f z0 (dx_wanted B hs rR M (fun w => ?_) (fun w => ?_))
      · refine br_f (by decide) (nm_r (nI_1 k) (hn _ (keep (fun q => ?_))))
        rw [q.2] at w
        exact nomatch w
      · have pos : 0 < dc_cn (t k) R := by
          apply Classical.byContradiction
          intro q
          exact z0 (zero.mpr (fun i hi => dc_cn_zero (by omega) hi))
        refine br_t rfl ⟨dc_v16 s k (by omega) (by omega), nm_e (nm_r (nI_1 k) (hn _ ?_))⟩
        rw [dc_c16 s k (by omega)]
        intro s' k' hs' hk'
        unfold dc_pr
        by_cases e : s' = s ∧ k' = k
        · rw [e.1, e.2, pk_us, if_pos (show s = s ∧ k < k + 1 ∧ 0 < dc_cn (t k) R ∧ dc_wb R (rp s) N k = false from ⟨rfl, by omega, pos, w⟩)]
        · rw [pk_un (show s' * 16 + k' ≠ s * 16 + k from fun w => e (by omega)), hp s' k' hs' hk']
          unfold dc_pr
          by_cases q : s' = s ∧ k' < k ∧ 0 < dc_cn (t k') R ∧ dc_wb R (rp s) N k' = false
          · rw [if_pos q, if_pos (show s' = s ∧ k' < k + 1 ∧ 0 < dc_cn (t k') R ∧ dc_wb R (rp s) N k' = false from ⟨q.1, by have := q.2.1; omega, q.2.2⟩)]
          · rw [if_neg q, if_neg (show ¬ (s' = s ∧ k' < k + 1 ∧ 0 < dc_cn (t k') R ∧ dc_wb R (rp s) N k' = false) from fun w => q ⟨w.1, by have a1 := w.1; have a2 := w.2.1; omega, w.2.2⟩)]
theorem dx_count {post : Int32 → Prop} {rc : Nat → Nat} {mb : Nat → Int32} (B : dc_B R L c) (rc1 : ∀ y, y < R → xrc y = nI (rc y)) (hb : ∀ y, rc y < 2 ^ 31) (rM : ∀ y, y < R → xmb y = mb y)
    (h : post (nI (dc_cn (fun r => decide (¬ mb r = 0 ∧ 1 ≤ rc r)) R))) : wpX_countReachedMembers post (nI R, nI L, nI H, xas, xlc, xpf, xmb, xrd, xrp, xpt, xaw, xrc, xcc, xts, xpk) := by
  obtain ⟨_, hR, _, hL, c1, c15⟩ := B
  refine loop_0 (fun n i v => wX_countReachedMembers_4 post (nI R) (nI L) (nI H) xas xlc xpf xmb xrd xrp xpt xaw xrc xcc xts xpk n v (nI i)) (fun i v => v = nI (dc_cn (fun r => decide (¬ mb r = 0 ∧ 1 ≤ rc r)) i)) R 0 rfl ?_ ?_
  · intro n v hv
    subst hv
    exact br_t (dc_end (by omega)) h
  · intro n i v hi hv hn
    subst hv
    have no : ¬ (¬ mb i = 0 ∧ 1 ≤ rc i) → nI (dc_cn (fun r => decide (¬ mb r = 0 ∧ 1 ≤ rc r)) i) = nI (dc_cn (fun r => decide (¬ mb r = 0 ∧ 1 ≤ rc r)) (i + 1)) := by
      intro q
      simp only [dc_cn]
      rw [if_neg (show ¬ decide (¬ mb i = 0 ∧ 1 ≤ rc i) = true from fun w => q (of_decide_eq_true w)), Nat.add_zero]
    refine br_f (dc_in hi (by omega)) ⟨vp_in_nI (by omega) (by omega), ?_⟩
    rw [dc_cl i (by omega), rc1 i hi, rM i hi]
    by_cases zm : mb i = 0
    · exact br_t zm (nm_r (nI_1 i) (hn _ (no (fun w => w.1 zm))))
    · refine br_f zm ⟨vp_in_nI (by omega) (by omega), ?_⟩
      by_cases zr : rc i < 1
      · exact br_t (nI_lt (b := 1) zr (by decide)) (nm_r (nI_1 i) (hn _ (no (fun w => by omega))))
      · refine br_f (nI_nlt (b := 1) (by omega) (hb i)) (nm_r (nI_1 _) (nm_r (nI_1 i) (hn _ ?_)))
        simp only [dc_cn]
        rw [if_pos (show decide (¬ mb i = 0 ∧ 1 ≤ rc i) = true from decide_eq_true ⟨zm, by omega⟩)]
end
end
section
/-! the component's send, whole -/
section
variable {R L H : Nat} {A : Nat → Nat → Bool} {c : Nat → Nat} {xas xlc xpf xmb xrd xrp xpt xaw xrc xcc xts xpk : Nat → Int32}
theorem dx_router1 {post : Int32 → Prop} {j : Nat} (hj : j < R) (hR : R ≤ 12) (h : post 1) : wpX_isRouter post (nI R, nI L, nI H, xas, xlc, xpf, xmb, xrd, xrp, xpt, xaw, xrc, xcc, xts, xpk) (nI j) :=
  br_f (nI_pos (by omega)) (br_f (dc_in hj (by omega)) h)
theorem dx_router0 {post : Int32 → Prop} {v : Int32} (hv : v < 0 ∨ (¬ v < 0 ∧ nI R ≤ v)) (h : post 0) : wpX_isRouter post (nI R, nI L, nI H, xas, xlc, xpf, xmb, xrd, xrp, xpt, xaw, xrc, xcc, xts, xpk) v := by
  rcases hv with a | ⟨a, b⟩
  · exact br_t a h
  · exact br_f a (br_t b h)
theorem dx_link1 {post : Int32 → Prop} {j : Nat} (hj : j < L) (hL : L ≤ 16) (h : post 1) : wpX_isLink post (nI R, nI L, nI H, xas, xlc, xpf, xmb, xrd, xrp, xpt, xaw, xrc, xcc, xts, xpk) (nI j) :=
  br_f (nI_pos (by omega)) (br_f (dc_in hj (by omega)) h)
theorem dx_link0 {post : Int32 → Prop} {v : Int32} (hv : v < 0 ∨ (¬ v < 0 ∧ nI L ≤ v)) (h : post 0) : wpX_isLink post (nI R, nI L, nI H, xas, xlc, xpf, xmb, xrd, xrp, xpt, xaw, xrc, xcc, xts, xpk) v := by
  rcases hv with a | ⟨a, b⟩
  · exact br_t a h
  · exact br_f a (br_t b h)
theorem dx_send {post : Int32 → SX → Prop} {s : Nat} {D : Nat → Nat → Nat} {rp P F : Nat → Nat → Int32} {pf mb : Nat → Int32} (B : dc_B R L c) (T : dc_TX R L A c xas xlc) (Q : dc_DR R L A c D rp) (hs : s < R)
    (rpf : ∀ r, r < R → xpf r = pf r) (rM : ∀ y, y < R → xmb y = mb y) (rD : ∀ s r, s < R → r < R → xrd (s * 12 + r) = nI (D s r)) (rR : ∀ s r, s < R → r < R → xrp (s * 12 + r) = rp s r) (rP : dc_r2 R L xpt P) (rF : dc_r2 R L xaw F)
    (h : ∀ (N : Nat → Bool) (pt' aw' rc' cc' ts' pk' : Nat → Int32),
      dc_Sd R L s (rp s) (dc_sb R pf D s (dc_sz R L A rp P F s).2.2) (fun y => decide (1 ≤ (dc_sz R L A rp P F s).1 y)) (fun y => decide (¬ mb y = 0)) N →
      dc_Cl R L s (rp s) (dc_sb R pf D s (dc_sz R L A rp P F s).2.2) (fun y => decide (1 ≤ (dc_sz R L A rp P F s).1 y)) (fun y => decide (¬ mb y = 0)) N →
      dc_r2 R L pt' (dc_pr R (rp s) (dc_sz R L A rp P F s).2.2 N (nI H) s P L) → dc_r2 R L aw' (dc_fo R (dc_sz R L A rp P F s).2.2 (dc_be pf (D s)) s F L) →
      (∀ y, y < R → rc' y = nI ((dc_sz R L A rp P F s).1 y)) → (∀ k, k < L → cc' k = nI ((dc_sz R L A rp P F s).2.1 k)) →
      post (nI (dc_cn (fun r => decide (¬ mb r = 0 ∧ 1 ≤ (dc_sz R L A rp P F s).1 r)) R)) (nI R, nI L, nI H, xas, xlc, xpf, xmb, xrd, xrp, pt', aw', rc', cc', ts', pk')) :
    wpX_send post (nI R, nI L, nI H, xas, xlc, xpf, xmb, xrd, xrp, xpt, xaw, xrc, xcc, xts, xpk) (nI s) := by
  have B' := B
  obtain ⟨_, hR, _, hL, c1, c15⟩ := B'
  have G := (Q s hs).1
  have FI := dc_FIn (R := R) (L := L) (rp := rp s) (can := dc_can R A (rp s) (P s) (F s)) hs R
  have hb : ∀ y, (dc_sz R L A rp P F s).1 y < 2 ^ 31 := fun y => by
    have := dc_FI_b FI hR hL (by omega) y
    have e : (dc_sz R L A rp P F s).1 y ≤ 2497 := this
    omega
  have hf : ∀ j, j < L → dc_sb R pf D s (dc_sz R L A rp P F s).2.2 j = -1 ∨ ∃ q, q < R ∧ dc_sb R pf D s (dc_sz R L A rp P F s).2.2 j = nI q ∧ 1 ≤ (dc_sz R L A rp P F s).1 q := by
    intro j _
    unfold dc_sb
    cases e : dc_bs ((dc_sz R L A rp P F s).2.2 j) (dc_be pf (D s)) R with
    | none => exact Or.inl rfl
    | some q =>
      have a := dc_bs_m e
      exact Or.inr ⟨q, a.1, rfl, (FI.1 j q a.2).2⟩
  unfold wpX_send
  refine dx_router1 hs hR (br_f (by decide) (dx_clear B (fun rc0 cc0 ts0 e1 e2 e3 => ?_)))
  refine dx_flood B T hs rR rP rF e1 e2 e3 (fun rc' cc' ts' Z => ?_)
  refine dx_elect B G hs (fun r hr => rD s r hs hr) rpf Z.2.2 rF (fun aw' pk' g1 g2 => ?_)
  refine dx_needed (f := dc_sb R pf D s (dc_sz R L A rp P F s).2.2) B hs rR g2 hf Z.1 hb rM (fun v N m1 m2 m3 => ?_)
  refine dx_prune B hs rR m1 Z.2.2 rP (fun pt' g3 => ?_)
  exact dx_count B Z.1 hb rM (h N pt' aw' rc' cc' ts' pk' m2 m3 g3 g1 Z.1 Z.2.1)
end
end
section
/-! the relation, and how the steps keep it -/
def dc_pm (R L : Nat) (P : Nat → Nat → Int32) : Prop := ∀ s k, s < R → k < L → ∃ p, p ≤ 16 ∧ P s k = nI p
def dc_RX (R L H : Nat) (A : Nat → Nat → Bool) (c : Nat → Nat) (pf mb : Nat → Int32) (D : Nat → Nat → Nat) (rp P F : Nat → Nat → Int32) (rc ca : Nat → Int32) (u : SX) : Prop := match u with
  | (xR, xL, xH, xas, xlc, xpf, xmb, xrd, xrp, xpt, xaw, xrc, xcc, _, _) => xR = nI R ∧ xL = nI L ∧ xH = nI H ∧ dc_TX R L A c xas xlc ∧ (∀ r, r < R → xpf r = pf r) ∧ (∀ r, r < R → xmb r = mb r) ∧
    (∀ s r, s < R → r < R → xrd (s * 12 + r) = nI (D s r)) ∧ (∀ s r, s < R → r < R → xrp (s * 12 + r) = rp s r) ∧ dc_r2 R L xpt P ∧ dc_r2 R L xaw F ∧ (∀ r, r < R → xrc r = rc r) ∧ (∀ k, k < L → xcc k = ca k)
def dc_RY (R L H : Nat) (A : Nat → Nat → Bool) (c : Nat → Nat) (pf mb : Nat → Int32) (P F : Nat → Nat → Int32) (rc ca : Nat → Int32) (v : SY) : Prop := match v with
  | (yR, yL, yH, yco, yat, ypf, ymb, ypr, yfw, yrc, yca, _, _, _, _, _, _, _) => yR = nI R ∧ yL = nI L ∧ yH = nI H ∧ dc_TY R L A c yco yat ∧ (∀ r, r < R → ypf r = pf r) ∧ (∀ r, r < R → ymb r = mb r) ∧
    dc_r2 R L ypr P ∧ dc_r2 R L yfw F ∧ (∀ r, r < R → yrc r = rc r) ∧ (∀ k, k < L → yca k = ca k)
def i_Rel (_ : Nat) (u : SX) (v : SY) : Prop := ∃ (R L H : Nat) (A : Nat → Nat → Bool) (c : Nat → Nat) (pf mb : Nat → Int32) (D : Nat → Nat → Nat) (rp P F : Nat → Nat → Int32) (rc ca : Nat → Int32),
  dc_B R L c ∧ H ≤ 16 ∧ dc_DR R L A c D rp ∧ dc_fw R L F ∧ dc_pm R L P ∧ dc_RX R L H A c pf mb D rp P F rc ca u ∧ dc_RY R L H A c pf mb P F rc ca v
theorem i_up {k : Nat} {u : SX} {v : SY} (h : i_Rel k u v) : i_Rel (k + 3) u v := h
theorem dc_ix (v : Int32) {n : Nat} (hn : n < 2 ^ 31) : (v < 0 ∨ (¬ v < 0 ∧ nI n ≤ v)) ∨ ∃ j : Nat, j < n ∧ v = nI j := by
  rcases pk_ix v hn with a | a | a
  · exact Or.inl (Or.inl a)
  · exact Or.inl (Or.inr ⟨fun h => Int32.not_le.mpr h (Int32.le_trans (nI_pos' hn) a), a⟩)
  · exact Or.inr a
theorem dc_fw0 (R L : Nat) : dc_fw R L (fun _ _ => -1) := fun _ _ _ _ => Or.inl rfl
theorem dc_pm0 (R L : Nat) : dc_pm R L (fun _ _ => 0) := fun _ _ _ _ => ⟨0, by omega, rfl⟩
/-- one router more, or less, on a link -/
def dc_Au (A : Nat → Nat → Bool) (j q : Nat) (b : Bool) : Nat → Nat → Bool := fun k r => if k = j ∧ r = q then b else A k r
theorem dc_TXo {R L : Nat} {A : Nat → Nat → Bool} {c : Nat → Nat} {xas xlc : Nat → Int32} (T : dc_TX R L A c xas xlc) {j q : Nat} (hj : j < L) (hq : q < R) (hR : R ≤ 12) : dc_TX R L (dc_Au A j q true) c (upd xas j (xas j ||| ((1 : Int32) <<< (nI q &&& 31)))) xlc := by
  refine ⟨T.1, fun k hk => ?_⟩
  by_cases e : k = j
  · rw [e, pk_us]
    refine dc_ms_ext (dc_ms_or (T.2 j hj) hq hR) (fun r _ => ?_)
    unfold dc_Au
    by_cases z : r = q
    · rw [if_pos z, if_pos (show j = j ∧ r = q from ⟨rfl, z⟩)]
    · rw [if_neg z, if_neg (show ¬ (j = j ∧ r = q) from fun w => z w.2)]
  · rw [pk_un e]
    refine dc_ms_ext (T.2 k hk) (fun r _ => ?_)
    unfold dc_Au
    rw [if_neg (show ¬ (k = j ∧ r = q) from fun w => e w.1)]
theorem dc_TXr {R L : Nat} {A : Nat → Nat → Bool} {c : Nat → Nat} {xas xlc : Nat → Int32} (T : dc_TX R L A c xas xlc) {j q : Nat} (hj : j < L) (hq : q < R) (hR : R ≤ 12) : dc_TX R L (dc_Au A j q false) c (upd xas j (xas j &&& (((1 : Int32) <<< (nI q &&& 31)) ^^^ (-1)))) xlc := by
  refine ⟨T.1, fun k hk => ?_⟩
  by_cases e : k = j
  · rw [e, pk_us]
    refine dc_ms_ext (dc_ms_rm (T.2 j hj) hq hR) (fun r _ => ?_)
    unfold dc_Au
    by_cases z : r = q
    · rw [if_pos z, if_pos (show j = j ∧ r = q from ⟨rfl, z⟩)]
    · rw [if_neg z, if_neg (show ¬ (j = j ∧ r = q) from fun w => z w.2)]
  · rw [pk_un e]
    refine dc_ms_ext (T.2 k hk) (fun r _ => ?_)
    unfold dc_Au
    rw [if_neg (show ¬ (k = j ∧ r = q) from fun w => e w.1)]
theorem dc_TYu {R L : Nat} {A : Nat → Nat → Bool} {c : Nat → Nat} {yco yat : Nat → Int32} (T : dc_TY R L A c yco yat) {j q : Nat} (hq : q < R) (hR : R ≤ 12) {b : Bool} {x : Int32} (hx : x = 0 ↔ b = false) : dc_TY R L (dc_Au A j q b) c yco (upd yat (j * 12 + q) x) := by
  refine ⟨T.1, fun k r hk hr => ?_⟩
  unfold dc_Au
  by_cases e : k = j ∧ r = q
  · rw [if_pos e, e.1, e.2, pk_us]; exact hx
  · rw [if_neg e, pk_un (show k * 12 + r ≠ j * 12 + q from fun w => e (by omega))]; exact T.2 k r hk hr
def dc_cu (c : Nat → Nat) (j d : Nat) : Nat → Nat := fun k => if k = j then d else c k
theorem dc_TXc {R L : Nat} {A : Nat → Nat → Bool} {c : Nat → Nat} {xas xlc : Nat → Int32} (T : dc_TX R L A c xas xlc) (j d : Nat) : dc_TX R L A (dc_cu c j d) xas (upd xlc j (nI d)) := by
  refine ⟨fun k hk => ?_, T.2⟩
  unfold dc_cu
  by_cases e : k = j
  · rw [if_pos e, e, pk_us]
  · rw [if_neg e, pk_un e]; exact T.1 k hk
theorem dc_TYc {R L : Nat} {A : Nat → Nat → Bool} {c : Nat → Nat} {yco yat : Nat → Int32} (T : dc_TY R L A c yco yat) (j d : Nat) : dc_TY R L A (dc_cu c j d) (upd yco j (nI d)) yat := by
  refine ⟨fun k hk => ?_, T.2⟩
  unfold dc_cu
  by_cases e : k = j
  · rw [if_pos e, e, pk_us]
  · rw [if_neg e, pk_un e]; exact T.1 k hk
theorem dc_Bc {R L : Nat} {c : Nat → Nat} (B : dc_B R L c) (j : Nat) {d : Nat} (h1 : 1 ≤ d) (h2 : d ≤ 15) : dc_B R L (dc_cu c j d) := by
  obtain ⟨b1, b2, b3, b4, b5, b6⟩ := B
  refine ⟨b1, b2, b3, b4, fun k hk => ?_, fun k hk => ?_⟩
  · unfold dc_cu
    split
    · exact h1
    · exact b5 k hk
  · unfold dc_cu
    split
    · exact h2
    · exact b6 k hk
/-- rows by router: one cell written on both sides -/
theorem dc_row {R : Nat} {x f : Nat → Int32} (h : ∀ r, r < R → x r = f r) (j : Nat) (v : Int32) : ∀ r, r < R → upd x j v r = upd f j v r := by
  intro r hr
  by_cases e : r = j
  · rw [e, pk_us, pk_us]
  · rw [pk_un e, pk_un e]; exact h r hr
/-! the grafts and a send keep the ranges -/
theorem dc_p2_pm {R L : Nat} {P : Nat → Nat → Int32} (h : dc_pm R L P) (s k : Nat) : dc_pm R L (dc_p2 P s k 0) := by
  intro s' k' hs hk
  unfold dc_p2
  split
  · exact ⟨0, by omega, rfl⟩
  · exact h s' k' hs hk
theorem dc_gr_pm {R L : Nat} {rp F : Nat → Int32} {U : Nat → Nat → Int32} {s : Nat} : ∀ (n : Nat) (x : Int32) (P : Nat → Nat → Int32), dc_pm R L P → dc_pm R L (dc_gr rp F U s n x P) := by
  intro n
  induction n with
  | zero => intro x P h; exact h
  | succ n ih =>
    intro x P h
    unfold dc_gr
    split
    · exact h
    · exact ih _ _ (dc_p2_pm h s _)
theorem dc_jn_pm {R L : Nat} {A : Nat → Nat → Bool} {c : Nat → Nat} {D : Nat → Nat → Nat} {rp F : Nat → Nat → Int32} {r : Nat} {P : Nat → Nat → Int32} (h : dc_pm R L P) : ∀ n, dc_pm R L (dc_jn R A c D rp F r P n) := by
  intro n
  induction n with
  | zero => exact h
  | succ n ih => exact dc_gr_pm R (nI r) _ ih
theorem dc_pr_pm {R L H : Nat} {rp : Nat → Int32} {t : Nat → Nat → Bool} {N : Nat → Bool} {s : Nat} {P : Nat → Nat → Int32} (h : dc_pm R L P) (hH : H ≤ 16) (i : Nat) : dc_pm R L (dc_pr R rp t N (nI H) s P i) := by
  intro s' k' hs hk
  unfold dc_pr
  split
  · exact ⟨H, hH, rfl⟩
  · exact h s' k' hs hk
theorem dc_fo_fw {R L : Nat} {t : Nat → Nat → Bool} {b : Nat → Nat → Bool} {s : Nat} {F : Nat → Nat → Int32} (h : dc_fw R L F) (i : Nat) : dc_fw R L (dc_fo R t b s F i) := by
  intro s' k' hs hk
  unfold dc_fo
  split
  · cases e : dc_bs (t k') b R with
    | none => exact Or.inl rfl
    | some q => exact Or.inr ⟨q, (dc_bs_m e).1, rfl⟩
  · exact h s' k' hs hk
/-- the needed routers being the same, the prunes are -/
theorem dc_pr_N {R L : Nat} {rp : Nat → Int32} {t : Nat → Nat → Bool} {N C : Nat → Bool} {h : Int32} {s : Nat} {P : Nat → Nat → Int32} {x : Nat → Int32} (e : ∀ y, y < R → N y = C y) (g : dc_r2 R L x (dc_pr R rp t N h s P L)) : dc_r2 R L x (dc_pr R rp t C h s P L) := by
  intro s' k' hs hk
  rw [g s' k' hs hk]
  unfold dc_pr dc_wb
  rw [dc_cn_ext (p := fun z => N z && decide (rp z = nI k')) (q := fun z => C z && decide (rp z = nI k')) (fun i hi => by show (N i && decide (rp i = nI k')) = (C i && decide (rp i = nI k')); rw [e i hi])]
end
section
/-! the constructors, and the calls that change links, costs, preferences -/
theorem dc_clm (v : Int32) {lo hi : Nat} (h : lo ≤ hi) (hh : hi < 2 ^ 31) : ∃ n, lo ≤ n ∧ n ≤ hi ∧ ∀ post : Int32 → Prop, post (nI n) → wpX_clamp post v (nI lo) (nI hi) := by
  by_cases a : nI lo ≤ v
  · obtain ⟨j, hj, e⟩ := nI_of (x := v) (fun z => Int32.not_le.mpr z (Int32.le_trans (nI_pos' (by omega)) a))
    subst e
    have lj := (nI_leI (by omega) hj).mp a
    by_cases b : nI j ≤ nI hi
    · exact ⟨j, lj, (nI_leI hj hh).mp b, fun post p => br_t a (br_t b p)⟩
    · exact ⟨hi, h, Nat.le_refl _, fun post p => br_t a (br_f b p)⟩
  · exact ⟨lo, Nat.le_refl _, h, fun post p => br_f a p⟩
theorem dx_init {post : SX → Prop} {k0 k1 k2 : Int32} {R L H : Nat} (hR1 : 2 ≤ R) (hR : R ≤ 12) (hL1 : 1 ≤ L) (hL : L ≤ 16) (fR : ∀ p : Int32 → Prop, p (nI R) → wpX_clamp p k0 (nI 2) (nI 12)) (fL : ∀ p : Int32 → Prop, p (nI L) → wpX_clamp p k1 (nI 1) (nI 16)) (fH : ∀ p : Int32 → Prop, p (nI H) → wpX_clamp p k2 (nI 1) (nI 16))
    (h : ∀ (lc rd rp pt aw rc cc ts : Nat → Int32) (D : Nat → Nat → Nat), dc_DR R L (fun _ _ => false) (fun _ => 1) D (fun s r => rp (s * 12 + r)) → (∀ s r, s < R → r < R → rd (s * 12 + r) = nI (D s r)) → dc_TX R L (fun _ _ => false) (fun _ => 1) (fun _ => 0) lc →
      dc_r2 R L pt (fun _ _ => 0) → dc_r2 R L aw (fun _ _ => -1) → (∀ r, r < R → rc r = 0) → (∀ k, k < L → cc k = 0) → post (nI R, nI L, nI H, (fun _ => 0), lc, (fun _ => 0), (fun _ => 0), rd, rp, pt, aw, rc, cc, ts, (fun _ => 0))) : wpX_init post k0 k1 k2 := by
  have B : dc_B R L (fun _ => 1) := ⟨hR1, hR, hL1, hL, fun _ _ => Nat.le_refl 1, fun _ _ => (show (1 : Nat) ≤ 15 by omega)⟩
  unfold wpX_init
  refine fR _ (fL _ (fH _ ?_))
  refine loop_0 (fun n i lc => wX_init_140 post (nI R) (nI L) (nI H) n (nI i) (fun _ => 0) lc (fun _ => 0) (fun _ => 0) (fun _ => 0) (fun _ => 0) (fun _ => 0) (fun _ => 0) (fun _ => 0) (fun _ => 0) (fun _ => 0) (fun _ => 0)) (fun i lc => ∀ j, j < i → lc j = 1) L (fun _ => 0) (fun j z => absurd z (Nat.not_lt_zero j)) ?_ ?_
  · intro n lc e
    have T : dc_TX R L (fun _ _ => false) (fun _ => 1) (fun _ => 0) lc := ⟨fun k hk => e k hk, fun k _ => dc_ms_0 R⟩
    exact br_t (dc_end (by omega)) (dx_routes B T (fun rd rp D q1 q2 => dx_reset B (fun pt aw rc cc ts e1 e2 e3 e4 => h lc rd rp pt aw rc cc ts D q1 q2 T e1 e2 e3 e4)))
  · intro n i lc hi e hn
    exact br_f (dc_in hi (by omega)) ⟨vp_in_nI (by omega) (by omega), nm_e (nm_r (nI_1 i) (hn _ (by rw [dc_cl i (by omega)]; exact dc_put e)))⟩
theorem dy_init {post : SY → Prop} {k0 k1 k2 : Int32} {R L H : Nat} (fR : ∀ p : Int32 → Prop, p (nI R) → wpX_clamp p k0 (nI 2) (nI 12)) (fL : ∀ p : Int32 → Prop, p (nI L) → wpX_clamp p k1 (nI 1) (nI 16)) (fH : ∀ p : Int32 → Prop, p (nI H) → wpX_clamp p k2 (nI 1) (nI 16))
    (h : ∀ (co pr fw rc ca : Nat → Int32), (∀ i, i < 16 → co i = 1) → (∀ i, i < 192 → pr i = 0) → (∀ i, i < 192 → fw i = -1) → (∀ i, i < 12 → rc i = 0) → (∀ i, i < 16 → ca i = 0) →
      post (nI R, nI L, nI H, co, (fun _ => 0), (fun _ => 0), (fun _ => 0), pr, fw, rc, ca, (fun _ => 0), (fun _ => 0), (fun _ => 0), (fun _ => 0), (fun _ => 0), (fun _ => 0), (fun _ => 0))) : wpY_init post k0 k1 k2 := by
  refine fR (fun r => wY_init_150 post k1 k2 r 0 0 0 (fun _ => 0) (fun _ => 0) (fun _ => 0) (fun _ => 0) (fun _ => 0) (fun _ => 0) (fun _ => 0) (fun _ => 0) (fun _ => 0) (fun _ => 0) (fun _ => 0) (fun _ => 0) (fun _ => 0) (fun _ => 0) (fun _ => 0)) ?_
  refine fL (fun l => wY_init_175 post k2 l (nI R) 0 0 (fun _ => 0) (fun _ => 0) (fun _ => 0) (fun _ => 0) (fun _ => 0) (fun _ => 0) (fun _ => 0) (fun _ => 0) (fun _ => 0) (fun _ => 0) (fun _ => 0) (fun _ => 0) (fun _ => 0) (fun _ => 0) (fun _ => 0)) ?_
  refine fH (fun h => ∃ n, wY_init_206 post (nI R) (nI L) h n 0 (fun _ => 0) (fun _ => 0) (fun _ => 0) (fun _ => 0) (fun _ => 0) (fun _ => 0) (fun _ => 0) (fun _ => 0) (fun _ => 0) (fun _ => 0) (fun _ => 0) (fun _ => 0) (fun _ => 0) (fun _ => 0) (fun _ => 0)) ?_
  refine loop_0 (fun n i co => wY_init_206 post (nI R) (nI L) (nI H) n (nI i) co (fun _ => 0) (fun _ => 0) (fun _ => 0) (fun _ => 0) (fun _ => 0) (fun _ => 0) (fun _ => 0) (fun _ => 0) (fun _ => 0) (fun _ => 0) (fun _ => 0) (fun _ => 0) (fun _ => 0) (fun _ => 0)) (fun i co => ∀ j, j < i → co j = 1) 16 (fun _ => 0) (fun j z => absurd z (Nat.not_lt_zero j)) ?_ ?_
  · intro n co e
    exact br_t (dc_end (n := 16) (by omega)) (dy_reset (fun pr fw rc ca e1 e2 e3 e4 => h co pr fw rc ca e e1 e2 e3 e4))
  · intro n i co hi e hn
    exact br_f (dc_in (n := 16) hi (by omega)) ⟨vp_in_nI (by omega) (by omega), nm_e (nm_r (nI_1 i) (hn _ (by rw [dc_cl i (by omega)]; exact dc_put e)))⟩
theorem i_vc0 (k0 : Int32) (k1 : Int32) (k2 : Int32) : wpX_init (fun u => wpY_init (fun v => i_Rel 3 u v) k0 k1 k2) k0 k1 k2 := by
  obtain ⟨R, hR1, hR, fR⟩ := dc_clm k0 (lo := 2) (hi := 12) (by omega) (by omega)
  obtain ⟨L, hL1, hL, fL⟩ := dc_clm k1 (lo := 1) (hi := 16) (by omega) (by omega)
  obtain ⟨H, hH1, hH, fH⟩ := dc_clm k2 (lo := 1) (hi := 16) (by omega) (by omega)
  refine dx_init hR1 hR hL1 hL fR fL fH (fun lc rd rp pt aw rc cc ts D q1 q2 q3 e1 e2 e3 e4 => ?_)
  refine dy_init fR fL fH (fun co pr fw rc' ca f0 f1 f2 f3 f4 => ?_)
  refine ⟨R, L, H, fun _ _ => false, fun _ => 1, fun _ => 0, fun _ => 0, D, fun s r => rp (s * 12 + r), fun _ _ => 0, fun _ _ => -1, fun _ => 0, fun _ => 0,
    ⟨hR1, hR, hL1, hL, fun _ _ => Nat.le_refl 1, fun _ _ => (show (1 : Nat) ≤ 15 by omega)⟩, hH, q1, dc_fw0 R L, dc_pm0 R L, ⟨rfl, rfl, rfl, q3, fun _ _ => rfl, fun _ _ => rfl, q2, fun _ _ _ _ => rfl, e1, e2, e3, e4⟩, ⟨rfl, rfl, rfl, ⟨fun k hk => f0 k (by omega), fun _ _ _ _ => ⟨fun _ => rfl, fun _ => rfl⟩⟩, fun _ _ => rfl, fun _ _ => rfl, fun s k hs hk => f1 _ (by omega), fun s k hs hk => f2 _ (by omega), fun r hr => f3 r (by omega), fun k hk => f4 k (by omega)⟩⟩
/-- how a change of the topology ends on both sides: routes, reset -/
theorem dc_fin {R L H k : Nat} {A : Nat → Nat → Bool} {c : Nat → Nat} {pf mb : Nat → Int32} {xas xlc xpf xmb xrd xrp xpk yco yat ypf ymb ytr yd yro yfr ybe yne ycu : Nat → Int32} {D : Nat → Nat → Nat} {pt aw rcx cc ts pr fw rcy ca : Nat → Int32}
    (B : dc_B R L c) (hH : H ≤ 16) (TX : dc_TX R L A c xas xlc) (TY : dc_TY R L A c yco yat) (Xpf : ∀ r, r < R → xpf r = pf r) (Xmb : ∀ r, r < R → xmb r = mb r) (Ypf : ∀ r, r < R → ypf r = pf r) (Ymb : ∀ r, r < R → ymb r = mb r)
    (q1 : dc_DR R L A c D (fun s r => xrp (s * 12 + r))) (q2 : ∀ s r, s < R → r < R → xrd (s * 12 + r) = nI (D s r)) (e1 : dc_r2 R L pt (fun _ _ => 0)) (e2 : dc_r2 R L aw (fun _ _ => -1)) (e3 : ∀ r, r < R → rcx r = 0) (e4 : ∀ k, k < L → cc k = 0)
    (f1 : ∀ i, i < 192 → pr i = 0) (f2 : ∀ i, i < 192 → fw i = -1) (f3 : ∀ i, i < 12 → rcy i = 0) (f4 : ∀ i, i < 16 → ca i = 0) :
    i_Rel k (nI R, nI L, nI H, xas, xlc, xpf, xmb, xrd, xrp, pt, aw, rcx, cc, ts, xpk) (nI R, nI L, nI H, yco, yat, ypf, ymb, pr, fw, rcy, ca, ytr, yd, yro, yfr, ybe, yne, ycu) := by
  have hR : R ≤ 12 := B.2.1
  have hL : L ≤ 16 := B.2.2.2.1
  exact ⟨R, L, H, A, c, pf, mb, D, fun s r => xrp (s * 12 + r), fun _ _ => 0, fun _ _ => -1, fun _ => 0, fun _ => 0, B, hH, q1, dc_fw0 R L, dc_pm0 R L, ⟨rfl, rfl, rfl, TX, Xpf, Xmb, q2, fun _ _ _ _ => rfl, e1, e2, e3, e4⟩,
    ⟨rfl, rfl, rfl, TY, Ypf, Ymb, fun s k hs hk => f1 _ (by omega), fun s k hs hk => f2 _ (by omega), fun r hr => f3 r (by omega), fun k hk => f4 k (by omega)⟩⟩
theorem i_vc_attach {k : Nat} {u : SX} {v : SY} (I : i_Rel k u v) (hk : k + 3 ≤ 1539) (v1 : Int32) (v2 : Int32) : wpX_attach (fun r u' => wpY_attach (fun r' v' => r' = r ∧ i_Rel (k + 3) u' v') v v1 v2) u v1 v2 := by
  obtain ⟨R, L, H, A, c, pf, mb, D, rp, P, F, rc, ca, B, hH, Q, hF, hP, X, Y⟩ := I
  obtain ⟨xR, xL, xH, xas, xlc, xpf, xmb, xrd, xrp, xpt, xaw, xrc, xcc, xts, xpk⟩ := u
  obtain ⟨yR, yL, yH, yco, yat, ypf, ymb, ypr, yfw, yrc, yca, ytr, yd, yro, yfr, ybe, yne, ycu⟩ := v
  obtain ⟨rfl, rfl, rfl, TX, Xpf, Xmb, XD, XR, XP, XF, Xrc, Xca⟩ := X
  obtain ⟨rfl, rfl, rfl, TY, Ypf, Ymb, YP, YF, Yrc, Yca⟩ := Y
  have hR : R ≤ 12 := B.2.1
  have hL : L ≤ 16 := B.2.2.2.1
  have same : i_Rel (k + 3) (nI R, nI L, nI H, xas, xlc, xpf, xmb, xrd, xrp, xpt, xaw, xrc, xcc, xts, xpk) (nI R, nI L, nI H, yco, yat, ypf, ymb, ypr, yfw, yrc, yca, ytr, yd, yro, yfr, ybe, yne, ycu) :=
    ⟨R, L, H, A, c, pf, mb, D, rp, P, F, rc, ca, B, hH, Q, hF, hP, ⟨rfl, rfl, rfl, TX, Xpf, Xmb, XD, XR, XP, XF, Xrc, Xca⟩, ⟨rfl, rfl, rfl, TY, Ypf, Ymb, YP, YF, Yrc, Yca⟩⟩
  unfold wpX_attach
  rcases dc_ix v1 (n := L) (by omega) with a | ⟨j, hj, e⟩
  · refine dx_link0 a (br_t rfl ?_)
    rcases a with a | ⟨a, b⟩
    · exact br_t a ⟨rfl, same⟩
    · exact br_f a (br_t b ⟨rfl, same⟩)
  · subst e
    refine dx_link1 hj hL (br_f (by decide) ?_)
    rcases dc_ix v2 (n := R) (by omega) with a | ⟨q, hq, e⟩
    · refine dx_router0 a (br_t rfl (br_f (nI_pos (by omega)) (br_f (dc_in hj (by omega)) ?_)))
      rcases a with a | ⟨a, b⟩
      · exact br_t a ⟨rfl, same⟩
      · exact br_f a (br_f (Int32.not_lt.mpr b) ⟨rfl, same⟩)
    · subst e
      refine dx_router1 hq hR (br_f (by decide) ⟨vp_in_nI (by omega) (by omega), ?_⟩)
      rw [dc_cl j (by omega)]
      refine dx_con (TX.2 j hj) hq hR (fun z => ?_) (fun z => ?_)
      · refine br_f (by decide) (br_f (nI_pos (by omega)) (br_f (dc_in hj (by omega)) (br_f (nI_pos (by omega)) (br_t (nI_lt hq (by omega)) ⟨dc_v12 j q (by omega) (by omega), ?_⟩))))
        rw [dc_c12 j q (by omega)]
        exact br_f (fun w => by rw [(TY.2 j q hj hq).mp w] at z; exact nomatch z) ⟨rfl, same⟩
      · refine br_t rfl ⟨vp_in_nI (by omega) (by omega), vp_in_nI (by omega) (by omega), nm_e (dx_routes B (dc_TXo TX hj hq hR) (fun rd rp' D' q1 q2 => dx_reset B (fun pt aw rcx cc ts e1 e2 e3 e4 => ?_)))⟩
        refine br_f (nI_pos (by omega)) (br_f (dc_in hj (by omega)) (br_f (nI_pos (by omega)) (br_t (nI_lt hq (by omega)) ⟨dc_v12 j q (by omega) (by omega), ?_⟩)))
        rw [dc_c12 j q (by omega), dc_nar1]
        exact br_t ((TY.2 j q hj hq).mpr z) ⟨dc_v12 j q (by omega) (by omega), nm_e (dy_reset (fun pr fw rcy cy f1 f2 f3 f4 => ⟨rfl, dc_fin B hH (dc_TXo TX hj hq hR) (dc_TYu TY hq hR ⟨fun w => absurd w (by decide), fun w => nomatch w⟩) Xpf Xmb Ypf Ymb q1 q2 e1 e2 e3 e4 f1 f2 f3 f4⟩))⟩
theorem i_vc_detach {k : Nat} {u : SX} {v : SY} (I : i_Rel k u v) (hk : k + 3 ≤ 1539) (v1 : Int32) (v2 : Int32) : wpX_detach (fun r u' => wpY_detach (fun r' v' => r' = r ∧ i_Rel (k + 3) u' v') v v1 v2) u v1 v2 := by
  obtain ⟨R, L, H, A, c, pf, mb, D, rp, P, F, rc, ca, B, hH, Q, hF, hP, X, Y⟩ := I
  obtain ⟨xR, xL, xH, xas, xlc, xpf, xmb, xrd, xrp, xpt, xaw, xrc, xcc, xts, xpk⟩ := u
  obtain ⟨yR, yL, yH, yco, yat, ypf, ymb, ypr, yfw, yrc, yca, ytr, yd, yro, yfr, ybe, yne, ycu⟩ := v
  obtain ⟨rfl, rfl, rfl, TX, Xpf, Xmb, XD, XR, XP, XF, Xrc, Xca⟩ := X
  obtain ⟨rfl, rfl, rfl, TY, Ypf, Ymb, YP, YF, Yrc, Yca⟩ := Y
  have hR : R ≤ 12 := B.2.1
  have hL : L ≤ 16 := B.2.2.2.1
  have same : i_Rel (k + 3) (nI R, nI L, nI H, xas, xlc, xpf, xmb, xrd, xrp, xpt, xaw, xrc, xcc, xts, xpk) (nI R, nI L, nI H, yco, yat, ypf, ymb, ypr, yfw, yrc, yca, ytr, yd, yro, yfr, ybe, yne, ycu) :=
    ⟨R, L, H, A, c, pf, mb, D, rp, P, F, rc, ca, B, hH, Q, hF, hP, ⟨rfl, rfl, rfl, TX, Xpf, Xmb, XD, XR, XP, XF, Xrc, Xca⟩, ⟨rfl, rfl, rfl, TY, Ypf, Ymb, YP, YF, Yrc, Yca⟩⟩
  unfold wpX_detach
  rcases dc_ix v1 (n := L) (by omega) with a | ⟨j, hj, e⟩
  · refine dx_link0 a (br_t rfl ?_)
    rcases a with a | ⟨a, b⟩
    · exact br_t a ⟨rfl, same⟩
    · exact br_f a (br_t b ⟨rfl, same⟩)
  · subst e
    refine dx_link1 hj hL (br_f (by decide) ?_)
    rcases dc_ix v2 (n := R) (by omega) with a | ⟨q, hq, e⟩
    · refine dx_router0 a (br_t rfl (br_f (nI_pos (by omega)) (br_f (dc_in hj (by omega)) ?_)))
      rcases a with a | ⟨a, b⟩
      · exact br_t a ⟨rfl, same⟩
      · exact br_f a (br_f (Int32.not_lt.mpr b) ⟨rfl, same⟩)
    · subst e
      refine dx_router1 hq hR (br_f (by decide) ⟨vp_in_nI (by omega) (by omega), ?_⟩)
      rw [dc_cl j (by omega)]
      refine dx_con (TX.2 j hj) hq hR (fun z => ?_) (fun z => ?_)
      · refine br_f (by decide) ⟨vp_in_nI (by omega) (by omega), vp_in_nI (by omega) (by omega), nm_e (dx_routes B (dc_TXr TX hj hq hR) (fun rd rp' D' q1 q2 => dx_reset B (fun pt aw rcx cc ts e1 e2 e3 e4 => ?_)))⟩
        refine br_f (nI_pos (by omega)) (br_f (dc_in hj (by omega)) (br_f (nI_pos (by omega)) (br_t (nI_lt hq (by omega)) ⟨dc_v12 j q (by omega) (by omega), ?_⟩)))
        rw [dc_c12 j q (by omega), dc_nar0]
        exact br_f (fun w => by rw [(TY.2 j q hj hq).mp w] at z; exact nomatch z) ⟨dc_v12 j q (by omega) (by omega), nm_e (dy_reset (fun pr fw rcy cy f1 f2 f3 f4 => ⟨rfl, dc_fin B hH (dc_TXr TX hj hq hR) (dc_TYu TY hq hR ⟨fun _ => rfl, fun _ => rfl⟩) Xpf Xmb Ypf Ymb q1 q2 e1 e2 e3 e4 f1 f2 f3 f4⟩))⟩
      · refine br_t rfl (br_f (nI_pos (by omega)) (br_f (dc_in hj (by omega)) (br_f (nI_pos (by omega)) (br_t (nI_lt hq (by omega)) ⟨dc_v12 j q (by omega) (by omega), ?_⟩))))
        rw [dc_c12 j q (by omega)]
        exact br_t ((TY.2 j q hj hq).mpr z) ⟨rfl, same⟩
theorem i_vc_setCost {k : Nat} {u : SX} {v : SY} (I : i_Rel k u v) (hk : k + 3 ≤ 1539) (v1 : Int32) (v2 : Int32) : wpX_setCost (fun r u' => wpY_setCost (fun r' v' => r' = r ∧ i_Rel (k + 3) u' v') v v1 v2) u v1 v2 := by
  obtain ⟨R, L, H, A, c, pf, mb, D, rp, P, F, rc, ca, B, hH, Q, hF, hP, X, Y⟩ := I
  obtain ⟨xR, xL, xH, xas, xlc, xpf, xmb, xrd, xrp, xpt, xaw, xrc, xcc, xts, xpk⟩ := u
  obtain ⟨yR, yL, yH, yco, yat, ypf, ymb, ypr, yfw, yrc, yca, ytr, yd, yro, yfr, ybe, yne, ycu⟩ := v
  obtain ⟨rfl, rfl, rfl, TX, Xpf, Xmb, XD, XR, XP, XF, Xrc, Xca⟩ := X
  obtain ⟨rfl, rfl, rfl, TY, Ypf, Ymb, YP, YF, Yrc, Yca⟩ := Y
  have hR : R ≤ 12 := B.2.1
  have hL : L ≤ 16 := B.2.2.2.1
  have same : i_Rel (k + 3) (nI R, nI L, nI H, xas, xlc, xpf, xmb, xrd, xrp, xpt, xaw, xrc, xcc, xts, xpk) (nI R, nI L, nI H, yco, yat, ypf, ymb, ypr, yfw, yrc, yca, ytr, yd, yro, yfr, ybe, yne, ycu) :=
    ⟨R, L, H, A, c, pf, mb, D, rp, P, F, rc, ca, B, hH, Q, hF, hP, ⟨rfl, rfl, rfl, TX, Xpf, Xmb, XD, XR, XP, XF, Xrc, Xca⟩, ⟨rfl, rfl, rfl, TY, Ypf, Ymb, YP, YF, Yrc, Yca⟩⟩
  unfold wpX_setCost
  rcases dc_ix v1 (n := L) (by omega) with a | ⟨j, hj, e⟩
  · refine dx_link0 a (br_t rfl ?_)
    rcases a with a | ⟨a, b⟩
    · exact br_t a ⟨rfl, same⟩
    · exact br_f a (br_t b ⟨rfl, same⟩)
  · subst e
    refine dx_link1 hj hL (br_f (by decide) ?_)
    by_cases l1 : v2 < 1
    · exact br_t l1 (br_f (nI_pos (by omega)) (br_f (dc_in hj (by omega)) (br_t l1 ⟨rfl, same⟩)))
    · refine br_f l1 ?_
      by_cases l2 : v2 ≤ 15
      · obtain ⟨d, hd, e⟩ := nI_of2 (x := v2) (M := 15) (n := 15) (by decide) (fun z => l1 (Int32.lt_trans z (by decide))) l2
        subst e
        have d1 : 1 ≤ d := by
          apply Classical.byContradiction
          intro z
          exact l1 (nI_lt (b := 1) (by omega) (by decide))
        refine br_t l2 ⟨vp_in_nI (by omega) (by omega), nm_e ?_⟩
        rw [dc_cl j (by omega)]
        refine dx_routes (dc_Bc B j d1 hd) (dc_TXc TX j d) (fun rd rp' D' q1 q2 => dx_reset (dc_Bc B j d1 hd) (fun pt aw rcx cc ts e1 e2 e3 e4 => ?_))
        refine br_f (nI_pos (by omega)) (br_f (dc_in hj (by omega)) (br_f l1 (br_t l2 ⟨vp_in_nI (by omega) (by omega), nm_e ?_⟩)))
        rw [dc_cl j (by omega)]
        exact dy_reset (fun pr fw rcy cy f1 f2 f3 f4 => ⟨rfl, dc_fin (dc_Bc B j d1 hd) hH (dc_TXc TX j d) (dc_TYc TY j d) Xpf Xmb Ypf Ymb q1 q2 e1 e2 e3 e4 f1 f2 f3 f4⟩)
      · exact br_f l2 (br_f (nI_pos (by omega)) (br_f (dc_in hj (by omega)) (br_f l1 (br_f l2 ⟨rfl, same⟩))))
theorem i_vc_setPreference {k : Nat} {u : SX} {v : SY} (I : i_Rel k u v) (hk : k + 3 ≤ 1539) (v1 : Int32) (v2 : Int32) : wpX_setPreference (fun r u' => wpY_setPreference (fun r' v' => r' = r ∧ i_Rel (k + 3) u' v') v v1 v2) u v1 v2 := by
  obtain ⟨R, L, H, A, c, pf, mb, D, rp, P, F, rc, ca, B, hH, Q, hF, hP, X, Y⟩ := I
  obtain ⟨xR, xL, xH, xas, xlc, xpf, xmb, xrd, xrp, xpt, xaw, xrc, xcc, xts, xpk⟩ := u
  obtain ⟨yR, yL, yH, yco, yat, ypf, ymb, ypr, yfw, yrc, yca, ytr, yd, yro, yfr, ybe, yne, ycu⟩ := v
  obtain ⟨rfl, rfl, rfl, TX, Xpf, Xmb, XD, XR, XP, XF, Xrc, Xca⟩ := X
  obtain ⟨rfl, rfl, rfl, TY, Ypf, Ymb, YP, YF, Yrc, Yca⟩ := Y
  have hR : R ≤ 12 := B.2.1
  have hL : L ≤ 16 := B.2.2.2.1
  have same : i_Rel (k + 3) (nI R, nI L, nI H, xas, xlc, xpf, xmb, xrd, xrp, xpt, xaw, xrc, xcc, xts, xpk) (nI R, nI L, nI H, yco, yat, ypf, ymb, ypr, yfw, yrc, yca, ytr, yd, yro, yfr, ybe, yne, ycu) :=
    ⟨R, L, H, A, c, pf, mb, D, rp, P, F, rc, ca, B, hH, Q, hF, hP, ⟨rfl, rfl, rfl, TX, Xpf, Xmb, XD, XR, XP, XF, Xrc, Xca⟩, ⟨rfl, rfl, rfl, TY, Ypf, Ymb, YP, YF, Yrc, Yca⟩⟩
  unfold wpX_setPreference
  rcases dc_ix v1 (n := R) (by omega) with a | ⟨j, hj, e⟩
  · refine dx_router0 a (br_t rfl ?_)
    rcases a with a | ⟨a, b⟩
    · exact br_t a ⟨rfl, same⟩
    · exact br_f a (br_t b ⟨rfl, same⟩)
  · subst e
    refine dx_router1 hj hR (br_f (by decide) ?_)
    by_cases l1 : v2 < 0
    · exact br_t l1 (br_f (nI_pos (by omega)) (br_f (dc_in hj (by omega)) (br_t l1 ⟨rfl, same⟩)))
    · refine br_f l1 ?_
      by_cases l2 : v2 ≤ 255
      · refine br_t l2 ⟨vp_in_nI (by omega) (by omega), nm_e ?_⟩
        rw [dc_cl j (by omega)]
        refine dx_reset B (fun pt aw rcx cc ts e1 e2 e3 e4 => ?_)
        refine br_f (nI_pos (by omega)) (br_f (dc_in hj (by omega)) (br_f l1 (br_t l2 ⟨vp_in_nI (by omega) (by omega), nm_e ?_⟩)))
        rw [dc_cl j (by omega)]
        refine dy_reset (fun pr fw rcy cy f1 f2 f3 f4 => ⟨rfl, ?_⟩)
        exact ⟨R, L, H, A, c, upd pf j v2, mb, D, rp, fun _ _ => 0, fun _ _ => -1, fun _ => 0, fun _ => 0, B, hH, Q, dc_fw0 R L, dc_pm0 R L, ⟨rfl, rfl, rfl, TX, dc_row Xpf j v2, Xmb, XD, XR, e1, e2, e3, e4⟩,
          ⟨rfl, rfl, rfl, TY, dc_row Ypf j v2, Ymb, fun s k hs hk => f1 _ (by omega), fun s k hs hk => f2 _ (by omega), fun r hr => f3 r (by omega), fun k hk => f4 k (by omega)⟩⟩
      · exact br_f l2 (br_f (nI_pos (by omega)) (br_f (dc_in hj (by omega)) (br_f l1 (br_f l2 ⟨rfl, same⟩))))
end
section
/-! join, leave, send, tick -/
theorem i_vc_join {k : Nat} {u : SX} {v : SY} (I : i_Rel k u v) (hk : k + 3 ≤ 1539) (v1 : Int32) : wpX_join (fun r u' => wpY_join (fun r' v' => r' = r ∧ i_Rel (k + 3) u' v') v v1) u v1 := by
  obtain ⟨R, L, H, A, c, pf, mb, D, rp, P, F, rc, ca, B, hH, Q, hF, hP, X, Y⟩ := I
  obtain ⟨xR, xL, xH, xas, xlc, xpf, xmb, xrd, xrp, xpt, xaw, xrc, xcc, xts, xpk⟩ := u
  obtain ⟨yR, yL, yH, yco, yat, ypf, ymb, ypr, yfw, yrc, yca, ytr, yd, yro, yfr, ybe, yne, ycu⟩ := v
  obtain ⟨rfl, rfl, rfl, TX, Xpf, Xmb, XD, XR, XP, XF, Xrc, Xca⟩ := X
  obtain ⟨rfl, rfl, rfl, TY, Ypf, Ymb, YP, YF, Yrc, Yca⟩ := Y
  have hR : R ≤ 12 := B.2.1
  have hL : L ≤ 16 := B.2.2.2.1
  have same : i_Rel (k + 3) (nI R, nI L, nI H, xas, xlc, xpf, xmb, xrd, xrp, xpt, xaw, xrc, xcc, xts, xpk) (nI R, nI L, nI H, yco, yat, ypf, ymb, ypr, yfw, yrc, yca, ytr, yd, yro, yfr, ybe, yne, ycu) :=
    ⟨R, L, H, A, c, pf, mb, D, rp, P, F, rc, ca, B, hH, Q, hF, hP, ⟨rfl, rfl, rfl, TX, Xpf, Xmb, XD, XR, XP, XF, Xrc, Xca⟩, ⟨rfl, rfl, rfl, TY, Ypf, Ymb, YP, YF, Yrc, Yca⟩⟩
  unfold wpX_join
  rcases dc_ix v1 (n := R) (by omega) with a | ⟨j, hj, e⟩
  · refine dx_router0 a (br_t rfl ?_)
    rcases a with a | ⟨a, b⟩
    · exact br_t a ⟨rfl, same⟩
    · exact br_f a (br_t b ⟨rfl, same⟩)
  · subst e
    refine dx_router1 hj hR (br_f (by decide) ⟨vp_in_nI (by omega) (by omega), ?_⟩)
    rw [dc_cl j (by omega), Xmb j hj]
    by_cases z : mb j = 0
    · refine br_t z ⟨vp_in_nI (by omega) (by omega), nm_e (dx_join28 B TX Q XD XR hj hF XF XP (fun pt' g => ?_))⟩
      refine br_f (nI_pos (by omega)) (br_f (dc_in hj (by omega)) ⟨vp_in_nI (by omega) (by omega), ?_⟩)
      rw [dc_cl j (by omega), Ymb j hj]
      refine br_t z ⟨vp_in_nI (by omega) (by omega), nm_e (dy_join32 B TY Q hj hF YF YP (fun pr' d' g' => ⟨rfl, ?_⟩))⟩
      exact ⟨R, L, H, A, c, pf, upd mb j (vp_nar .boolean 1), D, rp, dc_jn R A c D rp F j P R, F, rc, ca, B, hH, Q, hF, dc_jn_pm hP R, ⟨rfl, rfl, rfl, TX, Xpf, dc_row Xmb j _, XD, XR, g, XF, Xrc, Xca⟩, ⟨rfl, rfl, rfl, TY, Ypf, dc_row Ymb j _, g', YF, Yrc, Yca⟩⟩
    · refine br_f z (br_f (nI_pos (by omega)) (br_f (dc_in hj (by omega)) ⟨vp_in_nI (by omega) (by omega), ?_⟩))
      rw [dc_cl j (by omega), Ymb j hj]
      exact br_f z ⟨rfl, same⟩
theorem i_vc_leave {k : Nat} {u : SX} {v : SY} (I : i_Rel k u v) (hk : k + 3 ≤ 1539) (v1 : Int32) : wpX_leave (fun r u' => wpY_leave (fun r' v' => r' = r ∧ i_Rel (k + 3) u' v') v v1) u v1 := by
  obtain ⟨R, L, H, A, c, pf, mb, D, rp, P, F, rc, ca, B, hH, Q, hF, hP, X, Y⟩ := I
  obtain ⟨xR, xL, xH, xas, xlc, xpf, xmb, xrd, xrp, xpt, xaw, xrc, xcc, xts, xpk⟩ := u
  obtain ⟨yR, yL, yH, yco, yat, ypf, ymb, ypr, yfw, yrc, yca, ytr, yd, yro, yfr, ybe, yne, ycu⟩ := v
  obtain ⟨rfl, rfl, rfl, TX, Xpf, Xmb, XD, XR, XP, XF, Xrc, Xca⟩ := X
  obtain ⟨rfl, rfl, rfl, TY, Ypf, Ymb, YP, YF, Yrc, Yca⟩ := Y
  have hR : R ≤ 12 := B.2.1
  have hL : L ≤ 16 := B.2.2.2.1
  have same : i_Rel (k + 3) (nI R, nI L, nI H, xas, xlc, xpf, xmb, xrd, xrp, xpt, xaw, xrc, xcc, xts, xpk) (nI R, nI L, nI H, yco, yat, ypf, ymb, ypr, yfw, yrc, yca, ytr, yd, yro, yfr, ybe, yne, ycu) :=
    ⟨R, L, H, A, c, pf, mb, D, rp, P, F, rc, ca, B, hH, Q, hF, hP, ⟨rfl, rfl, rfl, TX, Xpf, Xmb, XD, XR, XP, XF, Xrc, Xca⟩, ⟨rfl, rfl, rfl, TY, Ypf, Ymb, YP, YF, Yrc, Yca⟩⟩
  unfold wpX_leave
  rcases dc_ix v1 (n := R) (by omega) with a | ⟨j, hj, e⟩
  · refine dx_router0 a (br_t rfl ?_)
    rcases a with a | ⟨a, b⟩
    · exact br_t a ⟨rfl, same⟩
    · exact br_f a (br_t b ⟨rfl, same⟩)
  · subst e
    refine dx_router1 hj hR (br_f (by decide) ⟨vp_in_nI (by omega) (by omega), ?_⟩)
    rw [dc_cl j (by omega), Xmb j hj]
    by_cases z : mb j = 0
    · refine br_t z (br_f (nI_pos (by omega)) (br_f (dc_in hj (by omega)) ⟨vp_in_nI (by omega) (by omega), ?_⟩))
      rw [dc_cl j (by omega), Ymb j hj]
      exact br_t z ⟨rfl, same⟩
    · refine br_f z ⟨vp_in_nI (by omega) (by omega), nm_e (br_f (nI_pos (by omega)) (br_f (dc_in hj (by omega)) ⟨vp_in_nI (by omega) (by omega), ?_⟩))⟩
      rw [dc_cl j (by omega), Ymb j hj]
      refine br_f z ⟨vp_in_nI (by omega) (by omega), nm_e ⟨rfl, ?_⟩⟩
      exact ⟨R, L, H, A, c, pf, upd mb j (vp_nar .boolean 0), D, rp, P, F, rc, ca, B, hH, Q, hF, hP, ⟨rfl, rfl, rfl, TX, Xpf, dc_row Xmb j _, XD, XR, XP, XF, Xrc, Xca⟩, ⟨rfl, rfl, rfl, TY, Ypf, dc_row Ymb j _, YP, YF, Yrc, Yca⟩⟩
theorem i_vc_send {k : Nat} {u : SX} {v : SY} (I : i_Rel k u v) (hk : k + 3 ≤ 1539) (v1 : Int32) : wpX_send (fun r u' => wpY_send (fun r' v' => r' = r ∧ i_Rel (k + 3) u' v') v v1) u v1 := by
  obtain ⟨R, L, H, A, c, pf, mb, D, rp, P, F, rc, ca, B, hH, Q, hF, hP, X, Y⟩ := I
  obtain ⟨xR, xL, xH, xas, xlc, xpf, xmb, xrd, xrp, xpt, xaw, xrc, xcc, xts, xpk⟩ := u
  obtain ⟨yR, yL, yH, yco, yat, ypf, ymb, ypr, yfw, yrc, yca, ytr, yd, yro, yfr, ybe, yne, ycu⟩ := v
  obtain ⟨rfl, rfl, rfl, TX, Xpf, Xmb, XD, XR, XP, XF, Xrc, Xca⟩ := X
  obtain ⟨rfl, rfl, rfl, TY, Ypf, Ymb, YP, YF, Yrc, Yca⟩ := Y
  have hR : R ≤ 12 := B.2.1
  have hL : L ≤ 16 := B.2.2.2.1
  have same : i_Rel (k + 3) (nI R, nI L, nI H, xas, xlc, xpf, xmb, xrd, xrp, xpt, xaw, xrc, xcc, xts, xpk) (nI R, nI L, nI H, yco, yat, ypf, ymb, ypr, yfw, yrc, yca, ytr, yd, yro, yfr, ybe, yne, ycu) :=
    ⟨R, L, H, A, c, pf, mb, D, rp, P, F, rc, ca, B, hH, Q, hF, hP, ⟨rfl, rfl, rfl, TX, Xpf, Xmb, XD, XR, XP, XF, Xrc, Xca⟩, ⟨rfl, rfl, rfl, TY, Ypf, Ymb, YP, YF, Yrc, Yca⟩⟩
  rcases dc_ix v1 (n := R) (by omega) with a | ⟨j, hj, e⟩
  · unfold wpX_send
    refine dx_router0 a (br_t rfl ?_)
    rcases a with a | ⟨a, b⟩
    · exact br_t a ⟨rfl, same⟩
    · exact br_f a (br_f (Int32.not_lt.mpr b) ⟨rfl, same⟩)
  · subst e
    refine dx_send B TX Q hj Xpf Xmb XD XR XP XF (fun N pt' aw' rc' cc' ts' pk' a1 a2 a3 a4 a5 a6 => ?_)
    refine dy_send B TY Q hj Ypf Ymb YP YF (fun N' pr' fw' rc2 ca2 tr' d' ro' fr' be' ne' cu' b1 b2 b3 b4 b5 b6 => ⟨rfl, ?_⟩)
    exact ⟨R, L, H, A, c, pf, mb, D, rp, dc_pr R (rp j) (dc_sz R L A rp P F j).2.2 N (nI H) j P L, dc_fo R (dc_sz R L A rp P F j).2.2 (dc_be pf (D j)) j F L, fun y => nI ((dc_sz R L A rp P F j).1 y), fun k => nI ((dc_sz R L A rp P F j).2.1 k), B, hH, Q, dc_fo_fw hF L, dc_pr_pm hP hH L,
      ⟨rfl, rfl, rfl, TX, Xpf, Xmb, XD, XR, a3, a4, a5, a6⟩, ⟨rfl, rfl, rfl, TY, Ypf, Ymb, dc_pr_N (fun y hy => dc_N_u b1 b2 a1 a2 hy) b3, b4, b5, b6⟩⟩
/-- the timers after m ticks -/
def dc_tk (P : Nat → Nat → Int32) (m : Nat) : Nat → Nat → Int32 := fun s k => nI ((P s k).toNatClampNeg - m)
theorem dc_tk_pm {R L : Nat} {P : Nat → Nat → Int32} (h : dc_pm R L P) (m : Nat) : dc_pm R L (dc_tk P m) := by
  intro s k hs hk
  obtain ⟨p, hp, e⟩ := h s k hs hk
  refine ⟨p - m, by omega, ?_⟩
  unfold dc_tk
  rw [e, nI_clamp (by omega)]
section
variable {R L H : Nat} {xas xlc xpf xmb xrd xrp xpt xaw xrc xcc xts xpk : Nat → Int32} {yco yat ypf ymb ypr yfw yrc yca ytr yd yro yfr ybe yne ycu : Nat → Int32}
theorem dx_tick21 {post : SX → Prop} {m : Nat} {P : Nat → Nat → Int32} (hR : R ≤ 12) (hL : L ≤ 16) (hm : m ≤ 64) (hP : dc_pm R L P) (XP : dc_r2 R L xpt P) (h : ∀ (pt' : Nat → Int32), dc_r2 R L pt' (dc_tk P m) → post (nI R, nI L, nI H, xas, xlc, xpf, xmb, xrd, xrp, pt', xaw, xrc, xcc, xts, xpk)) : ∃ n, wX_tick_21 post (nI m) (nI R) (nI L) (nI H) n 0 xas xlc xpf xmb xrd xrp xpt xaw xrc xcc xts xpk := by
  refine loop_0 (fun n i pt => wX_tick_21 post (nI m) (nI R) (nI L) (nI H) n (nI i) xas xlc xpf xmb xrd xrp pt xaw xrc xcc xts xpk) (fun i pt => ∀ s k, s < R → k < L → pt (s * 16 + k) = if s < i then dc_tk P m s k else P s k) R xpt ?_ ?_ ?_
  · intro s k hs hk
    rw [if_neg (Nat.not_lt_zero s)]
    exact XP s k hs hk
  · intro n pt e
    exact br_t (dc_end (by omega)) (h pt (fun s k hs hk => by rw [e s k hs hk, if_pos hs]))
  · intro n s pt hs e hn
    refine br_f (dc_in hs (by omega)) ?_
    refine loop_0 (fun n' i pt => wX_tick_32 post (wX_tick_21 post (nI m) (nI R) (nI L) (nI H) n) (nI m) (nI s) (nI R) (nI L) (nI H) n' (nI i) xas xlc xpf xmb xrd xrp pt xaw xrc xcc xts xpk) (fun i pt => ∀ s' k, s' < R → k < L → pt (s' * 16 + k) = if s' < s ∨ (s' = s ∧ k < i) then dc_tk P m s' k else P s' k) L pt ?_ ?_ ?_
    · intro s' k hs' hk
      rw [e s' k hs' hk]
      by_cases q : s' < s
      · rw [if_pos q, if_pos (show s' < s ∨ (s' = s ∧ k < 0) from Or.inl q)]
      · rw [if_neg q, if_neg (show ¬ (s' < s ∨ (s' = s ∧ k < 0)) by omega)]
    · intro n' pt e'
      refine br_t (dc_end (by omega)) (nm_r (nI_1 s) (hn _ (fun s' k hs' hk => ?_)))
      rw [e' s' k hs' hk]
      by_cases q : s' < s + 1
      · rw [if_pos q, if_pos (show s' < s ∨ (s' = s ∧ k < L) by omega)]
      · rw [if_neg q, if_neg (show ¬ (s' < s ∨ (s' = s ∧ k < L)) by omega)]
    · intro n' i pt hi e' hn'
      have put : ∀ x, x = dc_tk P m s i → ∀ s' k, s' < R → k < L → upd pt (s * 16 + i) x (s' * 16 + k) = if s' < s ∨ (s' = s ∧ k < i + 1) then dc_tk P m s' k else P s' k := by
        intro x hx s' k hs' hk
        by_cases q : s' = s ∧ k = i
        · rw [q.1, q.2, pk_us, if_pos (show s < s ∨ (s = s ∧ i < i + 1) by omega)]
          exact hx
        · rw [pk_un (show s' * 16 + k ≠ s * 16 + i from fun w => q (by omega)), e' s' k hs' hk]
          by_cases y : s' < s ∨ (s' = s ∧ k < i)
          · rw [if_pos y, if_pos (show s' < s ∨ (s' = s ∧ k < i + 1) by omega)]
          · rw [if_neg y, if_neg (show ¬ (s' < s ∨ (s' = s ∧ k < i + 1)) by omega)]
      have here : pt (s * 16 + i) = P s i := by
        rw [e' s i hs hi, if_neg (show ¬ (s < s ∨ (s = s ∧ i < i)) by omega)]
      obtain ⟨p, hp, ep⟩ := hP s i hs hi
      have tk : dc_tk P m s i = nI (p - m) := by
        unfold dc_tk
        rw [ep, nI_clamp (by omega)]
      refine br_f (dc_in hi (by omega)) (nm_r (dc_i16 s i) ⟨vp_in_nI (by omega) (by omega), ?_⟩)
      rw [dc_cl (s * 16 + i) (by omega), here, ep]
      by_cases q : p ≤ m
      · refine br_t (nI_le q (by omega)) ⟨vp_in_nI (by omega) (by omega), nm_e (nm_r (nI_1 i) (hn' _ (put _ ?_)))⟩
        rw [tk, show p - m = 0 by omega] <;> rfl
      · refine br_f (fun w => q ((nI_leI (by omega) (by omega)).mp w)) ⟨vp_in_nI (by omega) (by omega), vp_in_nI (by omega) (by omega), nm_e (nm_r (nI_1 i) (hn' _ (put _ ?_)))⟩
        rw [tk, pk_sub (by omega)]
theorem dy_tick21 {post : SY → Prop} {m : Nat} {P : Nat → Nat → Int32} (hR : R ≤ 12) (hL : L ≤ 16) (hm : m ≤ 64) (hP : dc_pm R L P) (YP : dc_r2 R L ypr P) (h : ∀ (pr' : Nat → Int32), dc_r2 R L pr' (dc_tk P m) → post (nI R, nI L, nI H, yco, yat, ypf, ymb, pr', yfw, yrc, yca, ytr, yd, yro, yfr, ybe, yne, ycu)) : ∃ n, wY_tick_21 post (nI m) (nI R) (nI L) (nI H) n 0 yco yat ypf ymb ypr yfw yrc yca ytr yd yro yfr ybe yne ycu := by
  refine loop_0 (fun n i pr => wY_tick_21 post (nI m) (nI R) (nI L) (nI H) n (nI i) yco yat ypf ymb pr yfw yrc yca ytr yd yro yfr ybe yne ycu) (fun i pr => ∀ s k, s < R → k < L → pr (s * 16 + k) = if s * 16 + k < i then dc_tk P m s k else P s k) 192 ypr ?_ ?_ ?_
  · intro s k hs hk
    rw [if_neg (Nat.not_lt_zero _)]
    exact YP s k hs hk
  · intro n pr e
    exact br_t (dc_end (n := 192) (by omega)) (h pr (fun s k hs hk => by rw [e s k hs hk, if_pos (show s * 16 + k < 192 by omega)]))
  · intro n i pr hi e hn
    have put : ∀ x, (∀ s k, s < R → k < L → i = s * 16 + k → x = dc_tk P m s k) → ∀ s k, s < R → k < L → upd pr i x (s * 16 + k) = if s * 16 + k < i + 1 then dc_tk P m s k else P s k := by
      intro x hx s k hs hk
      by_cases q : s * 16 + k = i
      · rw [q, pk_us, if_pos (show i < i + 1 by omega)]
        exact hx s k hs hk q.symm
      · rw [pk_un q, e s k hs hk]
        by_cases y : s * 16 + k < i
        · rw [if_pos y, if_pos (show s * 16 + k < i + 1 by omega)]
        · rw [if_neg y, if_neg (show ¬ s * 16 + k < i + 1 by omega)]
    have here : ∀ s k, s < R → k < L → i = s * 16 + k → ∃ p, p ≤ 16 ∧ pr i = nI p ∧ dc_tk P m s k = nI (p - m) := by
      intro s k hs hk q
      obtain ⟨p, hp, ep⟩ := hP s k hs hk
      refine ⟨p, hp, ?_, ?_⟩
      · rw [q, e s k hs hk, if_neg (show ¬ s * 16 + k < i by omega), ep]
      · unfold dc_tk
        rw [ep, nI_clamp (by omega)]
    refine br_f (dc_in (n := 192) hi (by omega)) ⟨vp_in_nI (by omega) (by omega), ?_⟩
    rw [dc_cl i (by omega)]
    by_cases z : 0 ≤ pr i - nI m
    · refine br_t z ⟨vp_in_nI (by omega) (by omega), vp_in_nI (by omega) (by omega), nm_e (nm_r (nI_1 i) (hn _ (put _ (fun s k hs hk q => ?_))))⟩
      obtain ⟨p, hp, e1, e2⟩ := here s k hs hk q
      rw [e1] at z ⊢
      rw [e2]
      by_cases y : m ≤ p
      · exact pk_sub y
      · exact absurd (pk_sneg (by omega) (show p < m by omega)) (Int32.not_lt.mpr z)
    · refine br_f z ⟨vp_in_nI (by omega) (by omega), nm_e (nm_r (nI_1 i) (hn _ (put _ (fun s k hs hk q => ?_))))⟩
      obtain ⟨p, hp, e1, e2⟩ := here s k hs hk q
      rw [e1] at z
      rw [e2]
      by_cases y : m ≤ p
      · rw [pk_sub y] at z
        exact absurd (nI_pos' (by omega)) z
      · rw [show p - m = 0 by omega] <;> rfl
end
theorem i_vc_tick {k : Nat} {u : SX} {v : SY} (I : i_Rel k u v) (hk : k + 3 ≤ 1539) (v1 : Int32) : wpX_tick (fun u' => wpY_tick (fun v' => i_Rel (k + 3) u' v') v v1) u v1 := by
  obtain ⟨R, L, H, A, c, pf, mb, D, rp, P, F, rc, ca, B, hH, Q, hF, hP, X, Y⟩ := I
  obtain ⟨xR, xL, xH, xas, xlc, xpf, xmb, xrd, xrp, xpt, xaw, xrc, xcc, xts, xpk⟩ := u
  obtain ⟨yR, yL, yH, yco, yat, ypf, ymb, ypr, yfw, yrc, yca, ytr, yd, yro, yfr, ybe, yne, ycu⟩ := v
  obtain ⟨rfl, rfl, rfl, TX, Xpf, Xmb, XD, XR, XP, XF, Xrc, Xca⟩ := X
  obtain ⟨rfl, rfl, rfl, TY, Ypf, Ymb, YP, YF, Yrc, Yca⟩ := Y
  have hR : R ≤ 12 := B.2.1
  have hL : L ≤ 16 := B.2.2.2.1
  have same : i_Rel (k + 3) (nI R, nI L, nI H, xas, xlc, xpf, xmb, xrd, xrp, xpt, xaw, xrc, xcc, xts, xpk) (nI R, nI L, nI H, yco, yat, ypf, ymb, ypr, yfw, yrc, yca, ytr, yd, yro, yfr, ybe, yne, ycu) :=
    ⟨R, L, H, A, c, pf, mb, D, rp, P, F, rc, ca, B, hH, Q, hF, hP, ⟨rfl, rfl, rfl, TX, Xpf, Xmb, XD, XR, XP, XF, Xrc, Xca⟩, ⟨rfl, rfl, rfl, TY, Ypf, Ymb, YP, YF, Yrc, Yca⟩⟩
  have fin : ∀ m pt' pr', dc_r2 R L pt' (dc_tk P m) → dc_r2 R L pr' (dc_tk P m) → i_Rel (k + 3) (nI R, nI L, nI H, xas, xlc, xpf, xmb, xrd, xrp, pt', xaw, xrc, xcc, xts, xpk) (nI R, nI L, nI H, yco, yat, ypf, ymb, pr', yfw, yrc, yca, ytr, yd, yro, yfr, ybe, yne, ycu) := fun m pt' pr' g1 g2 =>
    ⟨R, L, H, A, c, pf, mb, D, rp, dc_tk P m, F, rc, ca, B, hH, Q, hF, dc_tk_pm hP m, ⟨rfl, rfl, rfl, TX, Xpf, Xmb, XD, XR, g1, XF, Xrc, Xca⟩, ⟨rfl, rfl, rfl, TY, Ypf, Ymb, g2, YF, Yrc, Yca⟩⟩
  by_cases l1 : 1 ≤ v1
  · by_cases l2 : v1 ≤ 64
    · obtain ⟨m, hm, e⟩ := nI_of2 (x := v1) (M := 64) (n := 64) (by decide) (fun z => Int32.not_le.mpr z (Int32.le_trans (by decide) l1)) l2
      subst e
      exact br_t l1 (br_t l2 (dx_tick21 hR hL hm hP XP (fun pt' g1 => br_t l1 (br_t l2 (dy_tick21 hR hL hm hP YP (fun pr' g2 => fin m pt' pr' g1 g2))))))
    · exact br_t l1 (br_f l2 (dx_tick21 (m := 64) hR hL (by omega) hP XP (fun pt' g1 => br_t l1 (br_f l2 (dy_tick21 (m := 64) hR hL (by omega) hP YP (fun pr' g2 => fin 64 pt' pr' g1 g2))))))
  · exact br_f l1 (br_f l1 same)
end
section
/-! the calls that only look -/
theorem i_vc_distance {k : Nat} {u : SX} {v : SY} (I : i_Rel k u v) (hk : k + 3 ≤ 1539) (v1 : Int32) (v2 : Int32) : wpX_distance (fun r => wpY_distance (fun r' v' => r' = r ∧ i_Rel (k + 3) u v') v v1 v2) u v1 v2 := by
  obtain ⟨R, L, H, A, c, pf, mb, D, rp, P, F, rc, ca, B, hH, Q, hF, hP, X, Y⟩ := I
  obtain ⟨xR, xL, xH, xas, xlc, xpf, xmb, xrd, xrp, xpt, xaw, xrc, xcc, xts, xpk⟩ := u
  obtain ⟨yR, yL, yH, yco, yat, ypf, ymb, ypr, yfw, yrc, yca, ytr, yd, yro, yfr, ybe, yne, ycu⟩ := v
  obtain ⟨rfl, rfl, rfl, TX, Xpf, Xmb, XD, XR, XP, XF, Xrc, Xca⟩ := X
  obtain ⟨rfl, rfl, rfl, TY, Ypf, Ymb, YP, YF, Yrc, Yca⟩ := Y
  have hR : R ≤ 12 := B.2.1
  have hL : L ≤ 16 := B.2.2.2.1
  have same : i_Rel (k + 3) (nI R, nI L, nI H, xas, xlc, xpf, xmb, xrd, xrp, xpt, xaw, xrc, xcc, xts, xpk) (nI R, nI L, nI H, yco, yat, ypf, ymb, ypr, yfw, yrc, yca, ytr, yd, yro, yfr, ybe, yne, ycu) :=
    ⟨R, L, H, A, c, pf, mb, D, rp, P, F, rc, ca, B, hH, Q, hF, hP, ⟨rfl, rfl, rfl, TX, Xpf, Xmb, XD, XR, XP, XF, Xrc, Xca⟩, ⟨rfl, rfl, rfl, TY, Ypf, Ymb, YP, YF, Yrc, Yca⟩⟩
  unfold wpX_distance
  rcases dc_ix v1 (n := R) (by omega) with a | ⟨s, hs, e⟩
  · refine dx_router0 a (br_t rfl ?_)
    rcases a with a | ⟨a, b⟩
    · exact br_t a ⟨rfl, same⟩
    · exact br_f a (br_t b ⟨rfl, same⟩)
  · subst e
    refine dx_router1 hs hR (br_f (by decide) ?_)
    rcases dc_ix v2 (n := R) (by omega) with a | ⟨r, hr, e⟩
    · refine dx_router0 a (br_t rfl (br_f (nI_pos (by omega)) (br_f (dc_in hs (by omega)) ?_)))
      rcases a with a | ⟨a, b⟩
      · exact br_t a ⟨rfl, same⟩
      · exact br_f a (br_f (Int32.not_lt.mpr b) ⟨rfl, same⟩)
    · subst e
      have G := (Q s hs).1
      have Dr := G.2.1 r hr
      refine dx_router1 hr hR (br_f (by decide) ⟨dc_v12 s r (by omega) (by omega), ?_⟩)
      rw [dc_c12 s r (by omega), XD s r hs hr]
      refine nm_e ?_
      by_cases z : D s r < 1000
      · refine br_f (fun w => by have := (nI_eq (b := 1000) (by omega) (by decide)).mp w; omega) (br_f (nI_pos (by omega)) (br_f (dc_in hs (by omega)) (br_f (nI_pos (by omega)) (br_t (nI_lt hr (by omega)) (dy_comp B TY G hs (fun d' rep => ⟨vp_in_nI (by omega) (by omega), ?_⟩))))))
        rw [dc_cl r (by omega), rep r hr, dc_E_lt z]
        exact br_t (nI_lt (b := 1000000) (by omega) (by decide)) ⟨vp_in_nI (by omega) (by omega), rfl, ⟨R, L, H, A, c, pf, mb, D, rp, P, F, rc, ca, B, hH, Q, hF, hP, ⟨rfl, rfl, rfl, TX, Xpf, Xmb, XD, XR, XP, XF, Xrc, Xca⟩, ⟨rfl, rfl, rfl, TY, Ypf, Ymb, YP, YF, Yrc, Yca⟩⟩⟩
      · have e : D s r = 1000 := by omega
        refine br_t (by rw [e] <;> rfl) (br_f (nI_pos (by omega)) (br_f (dc_in hs (by omega)) (br_f (nI_pos (by omega)) (br_t (nI_lt hr (by omega)) (dy_comp B TY G hs (fun d' rep => ⟨vp_in_nI (by omega) (by omega), ?_⟩))))))
        rw [dc_cl r (by omega), rep r hr, dc_E_ge z]
        exact br_f (nI_nlt (a := 1000000) (b := 1000000) (by omega) (by decide)) ⟨rfl, ⟨R, L, H, A, c, pf, mb, D, rp, P, F, rc, ca, B, hH, Q, hF, hP, ⟨rfl, rfl, rfl, TX, Xpf, Xmb, XD, XR, XP, XF, Xrc, Xca⟩, ⟨rfl, rfl, rfl, TY, Ypf, Ymb, YP, YF, Yrc, Yca⟩⟩⟩
theorem i_vc_rpfLink {k : Nat} {u : SX} {v : SY} (I : i_Rel k u v) (hk : k + 3 ≤ 1539) (v1 : Int32) (v2 : Int32) : wpX_rpfLink (fun r => wpY_rpfLink (fun r' v' => r' = r ∧ i_Rel (k + 3) u v') v v1 v2) u v1 v2 := by
  obtain ⟨R, L, H, A, c, pf, mb, D, rp, P, F, rc, ca, B, hH, Q, hF, hP, X, Y⟩ := I
  obtain ⟨xR, xL, xH, xas, xlc, xpf, xmb, xrd, xrp, xpt, xaw, xrc, xcc, xts, xpk⟩ := u
  obtain ⟨yR, yL, yH, yco, yat, ypf, ymb, ypr, yfw, yrc, yca, ytr, yd, yro, yfr, ybe, yne, ycu⟩ := v
  obtain ⟨rfl, rfl, rfl, TX, Xpf, Xmb, XD, XR, XP, XF, Xrc, Xca⟩ := X
  obtain ⟨rfl, rfl, rfl, TY, Ypf, Ymb, YP, YF, Yrc, Yca⟩ := Y
  have hR : R ≤ 12 := B.2.1
  have hL : L ≤ 16 := B.2.2.2.1
  have same : i_Rel (k + 3) (nI R, nI L, nI H, xas, xlc, xpf, xmb, xrd, xrp, xpt, xaw, xrc, xcc, xts, xpk) (nI R, nI L, nI H, yco, yat, ypf, ymb, ypr, yfw, yrc, yca, ytr, yd, yro, yfr, ybe, yne, ycu) :=
    ⟨R, L, H, A, c, pf, mb, D, rp, P, F, rc, ca, B, hH, Q, hF, hP, ⟨rfl, rfl, rfl, TX, Xpf, Xmb, XD, XR, XP, XF, Xrc, Xca⟩, ⟨rfl, rfl, rfl, TY, Ypf, Ymb, YP, YF, Yrc, Yca⟩⟩
  unfold wpX_rpfLink
  rcases dc_ix v1 (n := R) (by omega) with a | ⟨s, hs, e⟩
  · refine dx_router0 a (br_t rfl ?_)
    rcases a with a | ⟨a, b⟩
    · exact br_t a ⟨rfl, same⟩
    · exact br_f a (br_t b ⟨rfl, same⟩)
  · subst e
    refine dx_router1 hs hR (br_f (by decide) ?_)
    rcases dc_ix v2 (n := R) (by omega) with a | ⟨r, hr, e⟩
    · refine dx_router0 a (br_t rfl (br_f (nI_pos (by omega)) (br_f (dc_in hs (by omega)) ?_)))
      rcases a with a | ⟨a, b⟩
      · exact br_t a ⟨rfl, same⟩
      · exact br_f a (br_f (Int32.not_lt.mpr b) ⟨rfl, same⟩)
    · subst e
      refine dx_router1 hr hR (br_f (by decide) ⟨dc_v12 s r (by omega) (by omega), ?_⟩)
      rw [dc_c12 s r (by omega), XR s r hs hr]
      refine br_f (nI_pos (by omega)) (br_f (dc_in hs (by omega)) (br_f (nI_pos (by omega)) (br_t (nI_lt hr (by omega)) (dy_rpf B TY (Q s hs).1 hs hr (fun w d' hw rep => ⟨?_, ?_⟩)))))
      · exact dc_isR_u hw ((Q s hs).2 r hr)
      · exact ⟨R, L, H, A, c, pf, mb, D, rp, P, F, rc, ca, B, hH, Q, hF, hP, ⟨rfl, rfl, rfl, TX, Xpf, Xmb, XD, XR, XP, XF, Xrc, Xca⟩, ⟨rfl, rfl, rfl, TY, Ypf, Ymb, YP, YF, Yrc, Yca⟩⟩
theorem i_vc_forwarder {k : Nat} {u : SX} {v : SY} (I : i_Rel k u v) (hk : k + 3 ≤ 1539) (v1 : Int32) (v2 : Int32) : wpX_forwarder (fun r => wpY_forwarder (fun r' => r' = r ∧ i_Rel (k + 3) u v) v v1 v2) u v1 v2 := by
  obtain ⟨R, L, H, A, c, pf, mb, D, rp, P, F, rc, ca, B, hH, Q, hF, hP, X, Y⟩ := I
  obtain ⟨xR, xL, xH, xas, xlc, xpf, xmb, xrd, xrp, xpt, xaw, xrc, xcc, xts, xpk⟩ := u
  obtain ⟨yR, yL, yH, yco, yat, ypf, ymb, ypr, yfw, yrc, yca, ytr, yd, yro, yfr, ybe, yne, ycu⟩ := v
  obtain ⟨rfl, rfl, rfl, TX, Xpf, Xmb, XD, XR, XP, XF, Xrc, Xca⟩ := X
  obtain ⟨rfl, rfl, rfl, TY, Ypf, Ymb, YP, YF, Yrc, Yca⟩ := Y
  have hR : R ≤ 12 := B.2.1
  have hL : L ≤ 16 := B.2.2.2.1
  have same : i_Rel (k + 3) (nI R, nI L, nI H, xas, xlc, xpf, xmb, xrd, xrp, xpt, xaw, xrc, xcc, xts, xpk) (nI R, nI L, nI H, yco, yat, ypf, ymb, ypr, yfw, yrc, yca, ytr, yd, yro, yfr, ybe, yne, ycu) :=
    ⟨R, L, H, A, c, pf, mb, D, rp, P, F, rc, ca, B, hH, Q, hF, hP, ⟨rfl, rfl, rfl, TX, Xpf, Xmb, XD, XR, XP, XF, Xrc, Xca⟩, ⟨rfl, rfl, rfl, TY, Ypf, Ymb, YP, YF, Yrc, Yca⟩⟩
  unfold wpX_forwarder
  rcases dc_ix v1 (n := R) (by omega) with a | ⟨s, hs, e⟩
  · refine dx_router0 a (br_t rfl ?_)
    rcases a with a | ⟨a, b⟩
    · exact br_t a ⟨rfl, same⟩
    · exact br_f a (br_t b ⟨rfl, same⟩)
  · subst e
    refine dx_router1 hs hR (br_f (by decide) ?_)
    rcases dc_ix v2 (n := L) (by omega) with a | ⟨j, hj, e⟩
    · refine dx_link0 a (br_t rfl (br_f (nI_pos (by omega)) (br_f (dc_in hs (by omega)) ?_)))
      rcases a with a | ⟨a, b⟩
      · exact br_t a ⟨rfl, same⟩
      · exact br_f a (br_f (Int32.not_lt.mpr b) ⟨rfl, same⟩)
    · subst e
      refine dx_link1 hj hL (br_f (by decide) ⟨dc_v16 s j (by omega) (by omega), ?_⟩)
      rw [dc_c16 s j (by omega), XF s j hs hj]
      refine br_f (nI_pos (by omega)) (br_f (dc_in hs (by omega)) (br_f (nI_pos (by omega)) (br_t (nI_lt hj (by omega)) ⟨dc_v16 s j (by omega) (by omega), ?_⟩)))
      rw [dc_c16 s j (by omega)]
      exact ⟨YF s j hs hj, same⟩
theorem i_vc_pruneLeft {k : Nat} {u : SX} {v : SY} (I : i_Rel k u v) (hk : k + 3 ≤ 1539) (v1 : Int32) (v2 : Int32) : wpX_pruneLeft (fun r => wpY_pruneLeft (fun r' => r' = r ∧ i_Rel (k + 3) u v) v v1 v2) u v1 v2 := by
  obtain ⟨R, L, H, A, c, pf, mb, D, rp, P, F, rc, ca, B, hH, Q, hF, hP, X, Y⟩ := I
  obtain ⟨xR, xL, xH, xas, xlc, xpf, xmb, xrd, xrp, xpt, xaw, xrc, xcc, xts, xpk⟩ := u
  obtain ⟨yR, yL, yH, yco, yat, ypf, ymb, ypr, yfw, yrc, yca, ytr, yd, yro, yfr, ybe, yne, ycu⟩ := v
  obtain ⟨rfl, rfl, rfl, TX, Xpf, Xmb, XD, XR, XP, XF, Xrc, Xca⟩ := X
  obtain ⟨rfl, rfl, rfl, TY, Ypf, Ymb, YP, YF, Yrc, Yca⟩ := Y
  have hR : R ≤ 12 := B.2.1
  have hL : L ≤ 16 := B.2.2.2.1
  have same : i_Rel (k + 3) (nI R, nI L, nI H, xas, xlc, xpf, xmb, xrd, xrp, xpt, xaw, xrc, xcc, xts, xpk) (nI R, nI L, nI H, yco, yat, ypf, ymb, ypr, yfw, yrc, yca, ytr, yd, yro, yfr, ybe, yne, ycu) :=
    ⟨R, L, H, A, c, pf, mb, D, rp, P, F, rc, ca, B, hH, Q, hF, hP, ⟨rfl, rfl, rfl, TX, Xpf, Xmb, XD, XR, XP, XF, Xrc, Xca⟩, ⟨rfl, rfl, rfl, TY, Ypf, Ymb, YP, YF, Yrc, Yca⟩⟩
  unfold wpX_pruneLeft
  rcases dc_ix v1 (n := R) (by omega) with a | ⟨s, hs, e⟩
  · refine dx_router0 a (br_t rfl ?_)
    rcases a with a | ⟨a, b⟩
    · exact br_t a ⟨rfl, same⟩
    · exact br_f a (br_t b ⟨rfl, same⟩)
  · subst e
    refine dx_router1 hs hR (br_f (by decide) ?_)
    rcases dc_ix v2 (n := L) (by omega) with a | ⟨j, hj, e⟩
    · refine dx_link0 a (br_t rfl (br_f (nI_pos (by omega)) (br_f (dc_in hs (by omega)) ?_)))
      rcases a with a | ⟨a, b⟩
      · exact br_t a ⟨rfl, same⟩
      · exact br_f a (br_f (Int32.not_lt.mpr b) ⟨rfl, same⟩)
    · subst e
      refine dx_link1 hj hL (br_f (by decide) ⟨dc_v16 s j (by omega) (by omega), ?_⟩)
      rw [dc_c16 s j (by omega), XP s j hs hj]
      refine br_f (nI_pos (by omega)) (br_f (dc_in hs (by omega)) (br_f (nI_pos (by omega)) (br_t (nI_lt hj (by omega)) ⟨dc_v16 s j (by omega) (by omega), ?_⟩)))
      rw [dc_c16 s j (by omega)]
      exact ⟨YP s j hs hj, same⟩
theorem i_vc_received {k : Nat} {u : SX} {v : SY} (I : i_Rel k u v) (hk : k + 3 ≤ 1539) (v1 : Int32) : wpX_received (fun r => wpY_received (fun r' => r' = r ∧ i_Rel (k + 3) u v) v v1) u v1 := by
  obtain ⟨R, L, H, A, c, pf, mb, D, rp, P, F, rc, ca, B, hH, Q, hF, hP, X, Y⟩ := I
  obtain ⟨xR, xL, xH, xas, xlc, xpf, xmb, xrd, xrp, xpt, xaw, xrc, xcc, xts, xpk⟩ := u
  obtain ⟨yR, yL, yH, yco, yat, ypf, ymb, ypr, yfw, yrc, yca, ytr, yd, yro, yfr, ybe, yne, ycu⟩ := v
  obtain ⟨rfl, rfl, rfl, TX, Xpf, Xmb, XD, XR, XP, XF, Xrc, Xca⟩ := X
  obtain ⟨rfl, rfl, rfl, TY, Ypf, Ymb, YP, YF, Yrc, Yca⟩ := Y
  have hR : R ≤ 12 := B.2.1
  have hL : L ≤ 16 := B.2.2.2.1
  have same : i_Rel (k + 3) (nI R, nI L, nI H, xas, xlc, xpf, xmb, xrd, xrp, xpt, xaw, xrc, xcc, xts, xpk) (nI R, nI L, nI H, yco, yat, ypf, ymb, ypr, yfw, yrc, yca, ytr, yd, yro, yfr, ybe, yne, ycu) :=
    ⟨R, L, H, A, c, pf, mb, D, rp, P, F, rc, ca, B, hH, Q, hF, hP, ⟨rfl, rfl, rfl, TX, Xpf, Xmb, XD, XR, XP, XF, Xrc, Xca⟩, ⟨rfl, rfl, rfl, TY, Ypf, Ymb, YP, YF, Yrc, Yca⟩⟩
  unfold wpX_received
  rcases dc_ix v1 (n := R) (by omega) with a | ⟨j, hj, e⟩
  · refine dx_router0 a (br_t rfl ?_)
    rcases a with a | ⟨a, b⟩
    · exact br_t a ⟨rfl, same⟩
    · exact br_f a (br_f (Int32.not_lt.mpr b) ⟨rfl, same⟩)
  · subst e
    refine dx_router1 hj hR (br_f (by decide) ⟨vp_in_nI (by omega) (by omega), br_f (nI_pos (by omega)) (br_t (nI_lt hj (by omega)) ⟨vp_in_nI (by omega) (by omega), ?_⟩)⟩)
    rw [dc_cl j (by omega)]
    exact ⟨(Yrc j hj).trans (Xrc j hj).symm, same⟩
theorem i_vc_carried {k : Nat} {u : SX} {v : SY} (I : i_Rel k u v) (hk : k + 3 ≤ 1539) (v1 : Int32) : wpX_carried (fun r => wpY_carried (fun r' => r' = r ∧ i_Rel (k + 3) u v) v v1) u v1 := by
  obtain ⟨R, L, H, A, c, pf, mb, D, rp, P, F, rc, ca, B, hH, Q, hF, hP, X, Y⟩ := I
  obtain ⟨xR, xL, xH, xas, xlc, xpf, xmb, xrd, xrp, xpt, xaw, xrc, xcc, xts, xpk⟩ := u
  obtain ⟨yR, yL, yH, yco, yat, ypf, ymb, ypr, yfw, yrc, yca, ytr, yd, yro, yfr, ybe, yne, ycu⟩ := v
  obtain ⟨rfl, rfl, rfl, TX, Xpf, Xmb, XD, XR, XP, XF, Xrc, Xca⟩ := X
  obtain ⟨rfl, rfl, rfl, TY, Ypf, Ymb, YP, YF, Yrc, Yca⟩ := Y
  have hR : R ≤ 12 := B.2.1
  have hL : L ≤ 16 := B.2.2.2.1
  have same : i_Rel (k + 3) (nI R, nI L, nI H, xas, xlc, xpf, xmb, xrd, xrp, xpt, xaw, xrc, xcc, xts, xpk) (nI R, nI L, nI H, yco, yat, ypf, ymb, ypr, yfw, yrc, yca, ytr, yd, yro, yfr, ybe, yne, ycu) :=
    ⟨R, L, H, A, c, pf, mb, D, rp, P, F, rc, ca, B, hH, Q, hF, hP, ⟨rfl, rfl, rfl, TX, Xpf, Xmb, XD, XR, XP, XF, Xrc, Xca⟩, ⟨rfl, rfl, rfl, TY, Ypf, Ymb, YP, YF, Yrc, Yca⟩⟩
  unfold wpX_carried
  rcases dc_ix v1 (n := L) (by omega) with a | ⟨j, hj, e⟩
  · refine dx_link0 a (br_t rfl ?_)
    rcases a with a | ⟨a, b⟩
    · exact br_t a ⟨rfl, same⟩
    · exact br_f a (br_f (Int32.not_lt.mpr b) ⟨rfl, same⟩)
  · subst e
    refine dx_link1 hj hL (br_f (by decide) ⟨vp_in_nI (by omega) (by omega), br_f (nI_pos (by omega)) (br_t (nI_lt hj (by omega)) ⟨vp_in_nI (by omega) (by omega), ?_⟩)⟩)
    rw [dc_cl j (by omega)]
    exact ⟨(Yca j hj).trans (Xca j hj).symm, same⟩
theorem i_vc_linkState {k : Nat} {u : SX} {v : SY} (I : i_Rel k u v) (hk : k + 3 ≤ 1539) (v1 : Int32) : wpX_linkState (fun r => wpY_linkState (fun r' => r' = r ∧ i_Rel (k + 3) u v) v v1) u v1 := by
  obtain ⟨R, L, H, A, c, pf, mb, D, rp, P, F, rc, ca, B, hH, Q, hF, hP, X, Y⟩ := I
  obtain ⟨xR, xL, xH, xas, xlc, xpf, xmb, xrd, xrp, xpt, xaw, xrc, xcc, xts, xpk⟩ := u
  obtain ⟨yR, yL, yH, yco, yat, ypf, ymb, ypr, yfw, yrc, yca, ytr, yd, yro, yfr, ybe, yne, ycu⟩ := v
  obtain ⟨rfl, rfl, rfl, TX, Xpf, Xmb, XD, XR, XP, XF, Xrc, Xca⟩ := X
  obtain ⟨rfl, rfl, rfl, TY, Ypf, Ymb, YP, YF, Yrc, Yca⟩ := Y
  have hR : R ≤ 12 := B.2.1
  have hL : L ≤ 16 := B.2.2.2.1
  have same : i_Rel (k + 3) (nI R, nI L, nI H, xas, xlc, xpf, xmb, xrd, xrp, xpt, xaw, xrc, xcc, xts, xpk) (nI R, nI L, nI H, yco, yat, ypf, ymb, ypr, yfw, yrc, yca, ytr, yd, yro, yfr, ybe, yne, ycu) :=
    ⟨R, L, H, A, c, pf, mb, D, rp, P, F, rc, ca, B, hH, Q, hF, hP, ⟨rfl, rfl, rfl, TX, Xpf, Xmb, XD, XR, XP, XF, Xrc, Xca⟩, ⟨rfl, rfl, rfl, TY, Ypf, Ymb, YP, YF, Yrc, Yca⟩⟩
  unfold wpX_linkState
  rcases dc_ix v1 (n := L) (by omega) with a | ⟨j, hj, e⟩
  · refine dx_link0 a (br_t rfl ?_)
    rcases a with a | ⟨a, b⟩
    · exact br_t a ⟨rfl, same⟩
    · exact br_f a (br_f (Int32.not_lt.mpr b) ⟨rfl, same⟩)
  · subst e
    refine dx_link1 hj hL (br_f (by decide) ⟨vp_in_nI (by omega) (by omega), vp_in_nI (by omega) (by omega), br_f (nI_pos (by omega)) (br_t (nI_lt hj (by omega)) ?_)⟩)
    obtain ⟨m, hm, em, bits⟩ := dc_ms_nat (TX.2 j hj) hR
    rw [dc_cl j (by omega), TX.1 j hj, em]
    refine loop_0 (fun n i s => wY_linkState_18 (fun r' => r' = nI (c j) + 16 * nI m ∧ i_Rel (k + 3) (nI R, nI L, nI H, xas, xlc, xpf, xmb, xrd, xrp, xpt, xaw, xrc, xcc, xts, xpk) (nI R, nI L, nI H, yco, yat, ypf, ymb, ypr, yfw, yrc, yca, ytr, yd, yro, yfr, ybe, yne, ycu)) (nI j) (nI R) (nI L) (nI H) yco yat ypf ymb ypr yfw yrc yca ytr yd yro yfr ybe yne ycu n s (nI i)) (fun i s => s = nI (m % 2 ^ i)) R 0 ?_ ?_ ?_
    · show (0 : Int32) = nI (m % 2 ^ 0)
      rw [Nat.pow_zero, Nat.mod_one] <;> rfl
    · intro n s e
      subst e
      refine br_t (dc_end (by omega)) ⟨vp_in_nI (by omega) (by omega), ?_⟩
      rw [dc_cl j (by omega), TY.1 j hj, Nat.mod_eq_of_lt hm]
      exact ⟨rfl, same⟩
    · intro n i s hi e hn
      subst e
      refine br_f (dc_in hi (by omega)) ⟨dc_v12 j i (by omega) (by omega), ?_⟩
      rw [dc_c12 j i (by omega)]
      by_cases z : A j i = true
      · refine br_f (fun w => by rw [(TY.2 j i hj hi).mp w] at z; exact nomatch z) (nm_r (dc_sum1 (by omega) (by rw [bits i hi]; exact z)) (nm_r (nI_1 i) (hn _ rfl)))
      · exact br_t ((TY.2 j i hj hi).mpr (dc_bt z)) (nm_r (nI_1 i) (hn _ (dc_sum0 (by rw [bits i hi]; exact dc_bt z))))
theorem i_vc_routerState {k : Nat} {u : SX} {v : SY} (I : i_Rel k u v) (hk : k + 3 ≤ 1539) (v1 : Int32) : wpX_routerState (fun r => wpY_routerState (fun r' => r' = r ∧ i_Rel (k + 3) u v) v v1) u v1 := by
  obtain ⟨R, L, H, A, c, pf, mb, D, rp, P, F, rc, ca, B, hH, Q, hF, hP, X, Y⟩ := I
  obtain ⟨xR, xL, xH, xas, xlc, xpf, xmb, xrd, xrp, xpt, xaw, xrc, xcc, xts, xpk⟩ := u
  obtain ⟨yR, yL, yH, yco, yat, ypf, ymb, ypr, yfw, yrc, yca, ytr, yd, yro, yfr, ybe, yne, ycu⟩ := v
  obtain ⟨rfl, rfl, rfl, TX, Xpf, Xmb, XD, XR, XP, XF, Xrc, Xca⟩ := X
  obtain ⟨rfl, rfl, rfl, TY, Ypf, Ymb, YP, YF, Yrc, Yca⟩ := Y
  have hR : R ≤ 12 := B.2.1
  have hL : L ≤ 16 := B.2.2.2.1
  have same : i_Rel (k + 3) (nI R, nI L, nI H, xas, xlc, xpf, xmb, xrd, xrp, xpt, xaw, xrc, xcc, xts, xpk) (nI R, nI L, nI H, yco, yat, ypf, ymb, ypr, yfw, yrc, yca, ytr, yd, yro, yfr, ybe, yne, ycu) :=
    ⟨R, L, H, A, c, pf, mb, D, rp, P, F, rc, ca, B, hH, Q, hF, hP, ⟨rfl, rfl, rfl, TX, Xpf, Xmb, XD, XR, XP, XF, Xrc, Xca⟩, ⟨rfl, rfl, rfl, TY, Ypf, Ymb, YP, YF, Yrc, Yca⟩⟩
  unfold wpX_routerState
  rcases dc_ix v1 (n := R) (by omega) with a | ⟨j, hj, e⟩
  · refine dx_router0 a (br_t rfl ?_)
    rcases a with a | ⟨a, b⟩
    · exact br_t a ⟨rfl, same⟩
    · exact br_f a (br_f (Int32.not_lt.mpr b) ⟨rfl, same⟩)
  · subst e
    refine dx_router1 hj hR (br_f (by decide) ⟨vp_in_nI (by omega) (by omega), vp_in_nI (by omega) (by omega), ?_⟩)
    rw [dc_cl j (by omega), Xmb j hj, Xpf j hj]
    by_cases z : mb j = 0
    · refine br_t z (br_f (nI_pos (by omega)) (br_t (nI_lt hj (by omega)) ⟨vp_in_nI (by omega) (by omega), vp_in_nI (by omega) (by omega), ?_⟩))
      rw [dc_cl j (by omega), Ymb j hj, Ypf j hj]
      exact br_t z ⟨rfl, same⟩
    · refine br_f z (br_f (nI_pos (by omega)) (br_t (nI_lt hj (by omega)) ⟨vp_in_nI (by omega) (by omega), vp_in_nI (by omega) (by omega), ?_⟩))
      rw [dc_cl j (by omega), Ymb j hj, Ypf j hj]
      exact br_f z ⟨rfl, same⟩
end
