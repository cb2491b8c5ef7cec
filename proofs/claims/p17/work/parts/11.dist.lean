/-! the distances: a table that no step shortens and whose finite values each rest on a step; 1000 stands for 'no chain' -/
/-- q and r are neighbours through link k -/
def dc_Ed (R L : Nat) (A : Nat → Nat → Bool) (k q r : Nat) : Prop := k < L ∧ q < R ∧ r < R ∧ q ≠ r ∧ A k q = true ∧ A k r = true
def dc_G (R L : Nat) (A : Nat → Nat → Bool) (c : Nat → Nat) (s : Nat) (D : Nat → Nat) : Prop :=
  D s = 0 ∧ (∀ r, r < R → D r ≤ 1000) ∧
  (∀ r, r < R → r ≠ s → D r < 1000 → ∃ k q, dc_Ed R L A k q r ∧ D q < 1000 ∧ D q + c k = D r) ∧
  (∀ k q r, dc_Ed R L A k q r → D q < 1000 → D r ≤ D q + c k)
def dc_V (R L : Nat) (A : Nat → Nat → Bool) (c : Nat → Nat) (s : Nat) (D : Nat → Nat) : Prop :=
  D s = 0 ∧ (∀ r, r < R → D r ≤ 1000) ∧
  (∀ r, r < R → r ≠ s → D r < 1000 → ∃ k q, dc_Ed R L A k q r ∧ D q < 1000 ∧ D q + c k ≤ D r)
theorem dc_V0 (R L : Nat) (A : Nat → Nat → Bool) (c : Nat → Nat) (s : Nat) : dc_V R L A c s (fun r => if r = s then 0 else 1000) := by
  refine ⟨if_pos rfl, fun r _ => ?_, fun r _ hr h => ?_⟩
  · show (if r = s then 0 else 1000) ≤ 1000
    split <;> omega
  · have e : (if r = s then 0 else 1000) = 1000 := if_neg hr
    have h' : (if r = s then 0 else 1000) < 1000 := h
    omega
theorem dc_Vs {R L : Nat} {A : Nat → Nat → Bool} {c : Nat → Nat} {s : Nat} {D : Nat → Nat} (h : dc_V R L A c s D) {k q r : Nat} (e : dc_Ed R L A k q r) (hq : D q < 1000) (hr : D q + c k < D r) : dc_V R L A c s (dc_pu D r (D q + c k)) := by
  obtain ⟨h0, h1, h2⟩ := h
  have hrs : s ≠ r := fun z => by rw [← z] at hr; omega
  have hr1 := h1 r e.2.2.1
  refine ⟨by rw [dc_pu_n _ _ hrs]; exact h0, fun i hi => ?_, fun i hi his hi2 => ?_⟩
  · by_cases z : i = r
    · rw [z, dc_pu_s]; omega
    · rw [dc_pu_n _ _ z]; exact h1 i hi
  · by_cases z : i = r
    · refine ⟨k, q, by rw [z]; exact e, ?_, ?_⟩
      · rw [dc_pu_n _ _ e.2.2.2.1]; exact hq
      · rw [dc_pu_n _ _ e.2.2.2.1, z, dc_pu_s] <;> exact Nat.le_refl _
    · rw [dc_pu_n _ _ z] at hi2
      obtain ⟨k', q', e', hq', hs'⟩ := h2 i hi his hi2
      refine ⟨k', q', e', ?_, ?_⟩
      · by_cases y : q' = r
        · rw [y, dc_pu_s]; rw [y] at hq'; omega
        · rw [dc_pu_n _ _ y]; exact hq'
      · rw [dc_pu_n _ _ z]
        by_cases y : q' = r
        · rw [y, dc_pu_s]; rw [y] at hs'; omega
        · rw [dc_pu_n _ _ y]; exact hs'
theorem dc_least (P : Nat → Prop) (h : ∃ k, P k) : ∃ k, P k ∧ ∀ j, j < k → ¬ P j := by
  obtain ⟨k, hk⟩ := h
  induction k using Nat.strongRecOn with
  | ind k ih =>
    by_cases z : ∃ j, j < k ∧ P j
    · obtain ⟨j, hj, pj⟩ := z
      exact ih j hj pj
    · exact ⟨k, hk, fun j hj pj => z ⟨j, hj, pj⟩⟩
/-- there is such a table: among the sound ones that of least sum -/
theorem dc_Gex (R L : Nat) (A : Nat → Nat → Bool) (c : Nat → Nat) (s : Nat) : ∃ D, dc_G R L A c s D := by
  obtain ⟨n, ⟨D, hV, hn⟩, hmin⟩ := dc_least (fun n => ∃ D, dc_V R L A c s D ∧ dc_sm D R = n) ⟨_, _, dc_V0 R L A c s, rfl⟩
  have h3 : ∀ k q r, dc_Ed R L A k q r → D q < 1000 → D r ≤ D q + c k := by
    intro k q r e hq
    by_cases z : D r ≤ D q + c k
    · exact z
    · exfalso
      have hlt : D q + c k < D r := by omega
      refine hmin (dc_sm (dc_pu D r (D q + c k)) R) ?_ ⟨_, dc_Vs hV e hq hlt, rfl⟩
      rw [← hn]
      refine dc_sm_lt (j := r) (by rw [dc_pu_s]; exact hlt) R (fun i _ => ?_) e.2.2.1
      by_cases y : i = r
      · rw [y, dc_pu_s]; omega
      · rw [dc_pu_n _ _ y] <;> exact Nat.le_refl _
  refine ⟨D, hV.1, hV.2.1, fun r hr hrs hr2 => ?_, h3⟩
  obtain ⟨k, q, e, hq, hle⟩ := hV.2.2 r hr hrs hr2
  exact ⟨k, q, e, hq, Nat.le_antisymm hle (h3 k q r e hq)⟩
/-- how many routers lie nearer than r -/
def dc_rk (R : Nat) (D : Nat → Nat) (r : Nat) : Nat := dc_cn (fun i => decide (D i < D r)) R
theorem dc_rk_lt {R : Nat} {D : Nat → Nat} {q r : Nat} (hq : q < R) (h : D q < D r) : dc_rk R D q < dc_rk R D r :=
  dc_cn_lt (j := q) (decide_eq_false (Nat.lt_irrefl _)) (decide_eq_true h) R (fun i _ z => decide_eq_true (Nat.lt_trans (of_decide_eq_true z) h)) hq
theorem dc_rk_R {R : Nat} {D : Nat → Nat} {r : Nat} (hr : r < R) : dc_rk R D r < R :=
  dc_cn_full hr (decide_eq_false (Nat.lt_irrefl _))
/-- a finite distance is at most 15 for each nearer router -/
theorem dc_G15 {R L : Nat} {A : Nat → Nat → Bool} {c : Nat → Nat} {s : Nat} {D : Nat → Nat} (h : dc_G R L A c s D) (c1 : ∀ k, k < L → 1 ≤ c k) (c15 : ∀ k, k < L → c k ≤ 15) : ∀ n r, D r = n → r < R → D r < 1000 → D r ≤ 15 * dc_rk R D r := by
  intro n
  induction n using Nat.strongRecOn with
  | ind n ih =>
    intro r hn hr h1
    by_cases z : r = s
    · rw [z, h.1]; omega
    · obtain ⟨k, q, e, hq, hs⟩ := h.2.2.1 r hr z h1
      have a1 := c1 k e.1
      have a2 := c15 k e.1
      have hlt : D q < D r := by omega
      have b := ih (D q) (by omega) q rfl e.2.1 hq
      have b2 := dc_rk_lt e.2.1 hlt
      omega
theorem dc_G165 {R L : Nat} {A : Nat → Nat → Bool} {c : Nat → Nat} {s : Nat} {D : Nat → Nat} (h : dc_G R L A c s D) (c1 : ∀ k, k < L → 1 ≤ c k) (c15 : ∀ k, k < L → c k ≤ 15) (hR : R ≤ 12) {r : Nat} (hr : r < R) (h1 : D r < 1000) : D r ≤ 165 := by
  have a := dc_G15 h c1 c15 _ r rfl hr h1
  have b := dc_rk_R (D := D) hr
  omega
/-! a table in the making: d over the true one, I for 'no chain' (1000 or 1000000) -/
section
variable (R L : Nat) (A : Nat → Nat → Bool) (c : Nat → Nat) (s : Nat) (D : Nat → Nat) (I : Nat)
def dc_E (r : Nat) : Nat := if D r < 1000 then D r else I
def dc_P (d : Nat → Nat) : Prop := ∀ r, r < R → dc_E D I r ≤ d r ∧ d r ≤ I
def dc_Q (t : Nat) (d : Nat → Nat) : Prop := ∀ r, r < R → D r < 1000 → dc_rk R D r ≤ t → d r = D r
/-- what one link's work leaves -/
def dc_S (k : Nat) (d d' : Nat → Nat) : Prop :=
  (∀ r, r < R → dc_E D I r ≤ d' r ∧ d' r ≤ d r) ∧ (∀ q r, dc_Ed R L A k q r → D q < 1000 → d q = D q → d' r ≤ D q + c k)
/-- in the midst of round t + 1, the links below l done -/
def dc_M (t l : Nat) (d : Nat → Nat) : Prop :=
  dc_P R D I d ∧ dc_Q R D t d ∧
  (∀ r, r < R → D r < 1000 → dc_rk R D r ≤ t + 1 → (∃ k q, k < l ∧ dc_Ed R L A k q r ∧ D q < 1000 ∧ D q + c k = D r) → d r = D r)
end
section
variable {R L : Nat} {A : Nat → Nat → Bool} {c : Nat → Nat} {s : Nat} {D : Nat → Nat} {I : Nat}
theorem dc_E_lt {r : Nat} (h : D r < 1000) : dc_E D I r = D r := if_pos h
theorem dc_E_ge {r : Nat} (h : ¬ D r < 1000) : dc_E D I r = I := if_neg h
theorem dc_M0 {t : Nat} {d : Nat → Nat} (hP : dc_P R D I d) (hQ : dc_Q R D t d) : dc_M R L A c D I t 0 d :=
  ⟨hP, hQ, fun _ _ _ _ ⟨_, _, z, _⟩ => absurd z (Nat.not_lt_zero _)⟩
theorem dc_Ms (c1 : ∀ k, k < L → 1 ≤ c k) {t l : Nat} {d d' : Nat → Nat} (h : dc_M R L A c D I t l d) (hS : dc_S R L A c D I l d d') : dc_M R L A c D I t (l + 1) d' := by
  obtain ⟨hP, hQ, hM⟩ := h
  have keep : ∀ r, r < R → D r < 1000 → d r = D r → d' r = D r := by
    intro r hr h1 e
    have a := hS.1 r hr
    rw [dc_E_lt h1] at a
    omega
  refine ⟨fun r hr => ⟨(hS.1 r hr).1, Nat.le_trans (hS.1 r hr).2 (hP r hr).2⟩, fun r hr h1 h2 => keep r hr h1 (hQ r hr h1 h2), ?_⟩
  intro r hr h1 h2 ⟨k, q, hk, e, hq, hs⟩
  by_cases z : k = l
  · subst z
    have a1 := c1 k e.1
    have b := dc_rk_lt (r := r) e.2.1 (show D q < D r by omega)
    have b1 := hS.2 q r e hq (hQ q e.2.1 hq (by omega))
    have b2 := (hS.1 r hr).1
    rw [dc_E_lt h1] at b2
    omega
  · exact keep r hr h1 (hM r hr h1 h2 ⟨k, q, by omega, e, hq, hs⟩)
theorem dc_ML (h : dc_G R L A c s D) {t : Nat} {d : Nat → Nat} (hM : dc_M R L A c D I t L d) : dc_Q R D (t + 1) d := by
  intro r hr h1 h2
  by_cases z : r = s
  · have e : dc_rk R D r = 0 := by
      have e1 : dc_cn (fun i => decide (D i < D r)) R = dc_cn (fun _ => false) R := dc_cn_ext (fun i _ => decide_eq_false (by rw [z, h.1]; omega))
      exact e1.trans (dc_cn_none R)
    exact hM.2.1 r hr h1 (by omega)
  · obtain ⟨k, q, e, hq, hs⟩ := h.2.2.1 r hr z h1
    exact hM.2.2 r hr h1 h2 ⟨k, q, e.1, e, hq, hs⟩
/-- the start: 0 at the source, I elsewhere -/
theorem dc_P0 (h : dc_G R L A c s D) (hI : 1000 ≤ I) {d : Nat → Nat} (hd : ∀ r, r < R → d r = if r = s then 0 else I) : dc_P R D I d := by
  intro r hr
  rw [hd r hr]
  by_cases z : r = s
  · rw [if_pos z, z, dc_E_lt (by rw [h.1]; omega), h.1]; omega
  · rw [if_neg z]
    by_cases y : D r < 1000
    · rw [dc_E_lt y]; omega
    · rw [dc_E_ge y]; omega
theorem dc_Q0 (h : dc_G R L A c s D) (c1 : ∀ k, k < L → 1 ≤ c k) {d : Nat → Nat} (hd : ∀ r, r < R → d r = if r = s then 0 else I) : dc_Q R D 0 d := by
  intro r hr h1 h2
  by_cases z : r = s
  · rw [hd r hr, if_pos z, z, h.1]
  · exfalso
    obtain ⟨k, q, e, hq, hs⟩ := h.2.2.1 r hr z h1
    have a1 := c1 k e.1
    have b := dc_rk_lt (r := r) e.2.1 (show D q < D r by omega)
    omega
/-- the end: after R - 1 rounds or more the table is the true one -/
theorem dc_PQ {t : Nat} {d : Nat → Nat} (hP : dc_P R D I d) (hQ : dc_Q R D t d) (ht : R ≤ t + 1) {r : Nat} (hr : r < R) : d r = dc_E D I r := by
  by_cases y : D r < 1000
  · have b := dc_rk_R (D := D) hr
    rw [dc_E_lt y]
    exact hQ r hr y (by omega)
  · have a := hP r hr
    rw [dc_E_ge y] at a ⊢
    omega
theorem dc_E1000 (h : dc_G R L A c s D) {r : Nat} (hr : r < R) : dc_E D 1000 r = D r := by
  by_cases y : D r < 1000
  · exact dc_E_lt y
  · rw [dc_E_ge y]
    have := h.2.1 r hr
    omega
theorem dc_G_ext (h : dc_G R L A c s D) (hs : s < R) {D' : Nat → Nat} (e : ∀ r, r < R → D' r = D r) : dc_G R L A c s D' := by
  refine ⟨by rw [e s hs]; exact h.1, fun r hr => by rw [e r hr]; exact h.2.1 r hr, fun r hr z h1 => ?_, fun k q r ed hq => ?_⟩
  · rw [e r hr] at h1 ⊢
    obtain ⟨k, q, ed, hq, hh⟩ := h.2.2.1 r hr z h1
    exact ⟨k, q, ed, by rw [e q ed.2.1]; exact hq, by rw [e q ed.2.1]; exact hh⟩
  · rw [e q ed.2.1] at hq ⊢
    rw [e r ed.2.2.1]
    exact h.2.2.2 k q r ed hq
end
/-! the upstream routers and the reverse-path link -/
theorem dc_nm1 {q : Nat} (h : q < 2 ^ 31) : ¬ nI q = -1 := by
  intro e
  have a := nI_pos' h
  rw [e] at a
  exact absurd a (by decide)
/-- the highest cell below n that is true, or -1 -/
def dc_us (p : Nat → Bool) : Nat → Int32
  | 0 => -1
  | n + 1 => if p n = true then nI n else dc_us p n
theorem dc_us_1 {p : Nat → Bool} {n : Nat} (h : p n = true) : dc_us p (n + 1) = nI n := if_pos h
theorem dc_us_0 {p : Nat → Bool} {n : Nat} (h : ¬ p n = true) : dc_us p (n + 1) = dc_us p n := if_neg h
theorem dc_us_or (p : Nat → Bool) : ∀ n, (dc_us p n = -1 ∧ ∀ i, i < n → p i = false) ∨ ∃ q, q < n ∧ p q = true ∧ dc_us p n = nI q := by
  intro n
  induction n with
  | zero => exact Or.inl ⟨rfl, fun i hi => absurd hi (Nat.not_lt_zero i)⟩
  | succ n ih =>
    by_cases h : p n = true
    · exact Or.inr ⟨n, by omega, h, dc_us_1 h⟩
    · rw [dc_us_0 h]
      rcases ih with ⟨a, b⟩ | ⟨q, a, b, e⟩
      · refine Or.inl ⟨a, fun i hi => ?_⟩
        by_cases z : i = n
        · rw [z]; exact Bool.eq_false_iff.mpr h
        · exact b i (by omega)
      · exact Or.inr ⟨q, by omega, b, e⟩
def dc_uq (A : Nat → Nat → Bool) (c : Nat → Nat) (D : Nat → Nat) (k r : Nat) : Nat → Bool := fun q => decide (q ≠ r ∧ A k q = true ∧ D q + c k = D r)
/-- the highest upstream router of r on k, or -1 -/
def dc_U (R : Nat) (A : Nat → Nat → Bool) (c : Nat → Nat) (D : Nat → Nat) (k r : Nat) : Int32 := dc_us (dc_uq A c D k r) R
def dc_Hp (R : Nat) (A : Nat → Nat → Bool) (c : Nat → Nat) (D : Nat → Nat) (k r : Nat) : Prop := A k r = true ∧ ∃ q, q < R ∧ dc_uq A c D k r q = true
theorem dc_U_or (R : Nat) (A : Nat → Nat → Bool) (c : Nat → Nat) (D : Nat → Nat) (k r : Nat) : (dc_U R A c D k r = -1 ∧ ¬ ∃ q, q < R ∧ dc_uq A c D k r q = true) ∨ ∃ q, q < R ∧ dc_uq A c D k r q = true ∧ dc_U R A c D k r = nI q := by
  rcases dc_us_or (dc_uq A c D k r) R with ⟨a, b⟩ | h
  · refine Or.inl ⟨a, fun ⟨q, hq, e⟩ => ?_⟩
    rw [b q hq] at e
    exact nomatch e
  · exact Or.inr h
/-- v is the reverse-path link of r, or -1 -/
def dc_isR (R L : Nat) (A : Nat → Nat → Bool) (c : Nat → Nat) (D : Nat → Nat) (r : Nat) (v : Int32) : Prop :=
  (v = -1 ∧ ∀ k, k < L → ¬ dc_Hp R A c D k r) ∨ (∃ k, k < L ∧ v = nI k ∧ dc_Hp R A c D k r ∧ ∀ j, j < k → ¬ dc_Hp R A c D j r)
theorem dc_isR_u {R L : Nat} {A : Nat → Nat → Bool} {c : Nat → Nat} {D : Nat → Nat} {r : Nat} {v w : Int32} (h : dc_isR R L A c D r v) (g : dc_isR R L A c D r w) : v = w := by
  rcases h with ⟨rfl, h⟩ | ⟨k, hk, rfl, h, hm⟩
  · rcases g with ⟨rfl, _⟩ | ⟨k', hk', _, g, _⟩
    · rfl
    · exact absurd g (h k' hk')
  · rcases g with ⟨_, g⟩ | ⟨k', hk', rfl, g, gm⟩
    · exact absurd h (g k hk)
    · have : k = k' := by
        rcases Nat.lt_trichotomy k k' with z | z | z
        · exact absurd h (gm k z)
        · exact z
        · exact absurd g (hm k' z)
      rw [this]
/-- no upstream router of the source, nor of a router that no chain reaches -/
theorem dc_Hp_s {R L : Nat} {A : Nat → Nat → Bool} {c : Nat → Nat} {s : Nat} {D : Nat → Nat} (h : dc_G R L A c s D) (c1 : ∀ k, k < L → 1 ≤ c k) {k : Nat} (hk : k < L) : ¬ dc_Hp R A c D k s := by
  intro ⟨_, q, _, e⟩
  have e' := of_decide_eq_true e
  have := c1 k hk
  have := h.1
  omega
theorem dc_Hp_i {R L : Nat} {A : Nat → Nat → Bool} {c : Nat → Nat} {s : Nat} {D : Nat → Nat} (h : dc_G R L A c s D) (c1 : ∀ k, k < L → 1 ≤ c k) (c15 : ∀ k, k < L → c k ≤ 15) (hR : R ≤ 12) {k r : Nat} (hk : k < L) (hr : r < R) (hi : ¬ D r < 1000) : ¬ dc_Hp R A c D k r := by
  intro ⟨_, q, hq, e⟩
  have e' := of_decide_eq_true e
  have a1 := c1 k hk
  have a2 := c15 k hk
  have a3 := h.2.1 r hr
  have a4 := dc_G165 h c1 c15 hR hq (by omega)
  omega
/-- the same step, read off the reference's table -/
theorem dc_Eq {R L : Nat} {A : Nat → Nat → Bool} {c : Nat → Nat} {s : Nat} {D : Nat → Nat} (h : dc_G R L A c s D) (c1 : ∀ k, k < L → 1 ≤ c k) (c15 : ∀ k, k < L → c k ≤ 15) (hR : R ≤ 12) {k q r : Nat} (hk : k < L) (hq : q < R) (hr : r < R) : (dc_E D 1000000 q < 1000000 ∧ dc_E D 1000000 q + c k = dc_E D 1000000 r) ↔ D q + c k = D r := by
  have a1 := c1 k hk
  have a2 := c15 k hk
  have a3 := h.2.1 r hr
  have a4 := h.2.1 q hq
  by_cases z : D q < 1000
  · have b := dc_G165 h c1 c15 hR hq z
    rw [dc_E_lt z]
    by_cases y : D r < 1000
    · rw [dc_E_lt y]; omega
    · rw [dc_E_ge y]; omega
  · rw [dc_E_ge z]
    omega
