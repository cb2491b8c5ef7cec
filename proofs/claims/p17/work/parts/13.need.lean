/-! the election, and the least set of routers that are needed -/
def dc_oI : Option Nat → Int32
  | none => -1
  | some q => nI q
/-- the scan upward: a later one that is not worse wins -/
def dc_bs (T : Nat → Bool) (b : Nat → Nat → Bool) : Nat → Option Nat
  | 0 => none
  | n + 1 => if T n = true then (match dc_bs T b n with
      | none => some n
      | some q => if b n q = true then some n else some q) else dc_bs T b n
theorem dc_bs_eq (T : Nat → Bool) (b : Nat → Nat → Bool) (n : Nat) : dc_bs T b (n + 1) = (if T n = true then (match dc_bs T b n with
      | none => some n
      | some q => if b n q = true then some n else some q) else dc_bs T b n) := rfl
theorem dc_bs_m {T : Nat → Bool} {b : Nat → Nat → Bool} : ∀ {n q : Nat}, dc_bs T b n = some q → q < n ∧ T q = true := by
  intro n
  induction n with
  | zero => intro q h; exact nomatch h
  | succ n ih =>
    intro q h
    rw [dc_bs_eq] at h
    by_cases ht : T n = true
    · rw [if_pos ht] at h
      cases e : dc_bs T b n with
      | none =>
        rw [e] at h
        have : n = q := Option.some.inj h
        subst this
        exact ⟨by omega, ht⟩
      | some p =>
        rw [e] at h
        by_cases hb : b n p = true
        · have h' : (if b n p = true then some n else some p) = some q := h
          rw [if_pos hb] at h'
          have : n = q := Option.some.inj h'
          subst this
          exact ⟨by omega, ht⟩
        · have h' : (if b n p = true then some n else some p) = some q := h
          rw [if_neg hb] at h'
          have := ih (q := q) (by rw [e]; exact h')
          exact ⟨by omega, this.2⟩
    · rw [if_neg ht] at h
      have := ih h
      exact ⟨by omega, this.2⟩
theorem dc_bs_0 {T : Nat → Bool} {b : Nat → Nat → Bool} : ∀ {n : Nat}, dc_bs T b n = none → ∀ i, i < n → T i = false := by
  intro n
  induction n with
  | zero => intro _ i hi; omega
  | succ n ih =>
    intro h i hi
    rw [dc_bs_eq] at h
    by_cases ht : T n = true
    · rw [if_pos ht] at h
      cases e : dc_bs T b n with
      | none => rw [e] at h; exact nomatch h
      | some p =>
        rw [e] at h
        by_cases hb : b n p = true
        · have h' : (if b n p = true then some n else some p) = none := h
          rw [if_pos hb] at h'
          exact nomatch h'
        · have h' : (if b n p = true then some n else some p) = none := h
          rw [if_neg hb] at h'
          exact nomatch h'
    · rw [if_neg ht] at h
      by_cases z : i = n
      · rw [z]
        exact Bool.eq_false_iff.mpr ht
      · exact ih h i (by omega)
/-- of one alone the scan finds that one -/
theorem dc_bs_1 {T : Nat → Bool} {b : Nat → Nat → Bool} {n q : Nat} (hc : dc_cn T n < 2) (hq : q < n) (h : T q = true) : dc_bs T b n = some q := by
  cases e : dc_bs T b n with
  | none => have := dc_bs_0 e q hq; rw [h] at this; exact nomatch this
  | some p =>
    have a := dc_bs_m e
    rw [dc_cn_one hc a.1 hq a.2 h]
theorem dc_bs_n {T : Nat → Bool} {b : Nat → Nat → Bool} {n : Nat} (h : ∀ i, i < n → T i = false) : dc_bs T b n = none := by
  cases e : dc_bs T b n with
  | none => rfl
  | some p => have a := dc_bs_m e; rw [h p a.1] at a; exact nomatch a.2
section
variable (R L s : Nat) (rp f : Nat → Int32) (ok mb : Nat → Bool)
/-- link k is wanted, by the set N -/
def dc_W (N : Nat → Bool) (k : Nat) : Prop := ∃ z, z < R ∧ N z = true ∧ rp z = nI k
def dc_Ph (N : Nat → Bool) (y : Nat) : Prop := y ≠ s ∧ ok y = true ∧ (mb y = true ∨ ∃ j, j < L ∧ f j = nI y ∧ dc_W R rp N j)
def dc_Cl (N : Nat → Bool) : Prop := ∀ y, y < R → dc_Ph R L s rp f ok mb N y → N y = true
def dc_Sd (N : Nat → Bool) : Prop := ∀ C, dc_Cl R L s rp f ok mb C → ∀ y, y < R → N y = true → C y = true
/-- the component's set after i passes -/
def dc_NX (i : Nat) (N : Nat → Bool) : Prop :=
  dc_Sd R L s rp f ok mb N ∧ (∀ y, y < R → y ≠ s → ok y = true → mb y = true → N y = true) ∧ (dc_Cl R L s rp f ok mb N ∨ i ≤ dc_cn N R)
/-- the reference's set in the midst of a pass that began with N0 -/
def dc_NY (N0 : Nat → Bool) (y : Nat) (N : Nat → Bool) (ch : Bool) : Prop :=
  dc_Sd R L s rp f ok mb N ∧ (∀ i, i < R → N0 i = true → N i = true) ∧
  (ch = false → (∀ i, i < R → N i = N0 i) ∧ ∀ i, i < y → i < R → dc_Ph R L s rp f ok mb N0 i → N0 i = true) ∧
  (ch = true → ∃ i, i < R ∧ N0 i = false ∧ N i = true)
end
section
variable {R L s : Nat} {rp f : Nat → Int32} {ok mb : Nat → Bool}
theorem dc_W_mono {N C : Nat → Bool} (h : ∀ y, y < R → N y = true → C y = true) {k : Nat} (w : dc_W R rp N k) : dc_W R rp C k := by
  obtain ⟨z, hz, n, e⟩ := w
  exact ⟨z, hz, h z hz n, e⟩
theorem dc_Ph_mono {N C : Nat → Bool} (h : ∀ y, y < R → N y = true → C y = true) {y : Nat} (w : dc_Ph R L s rp f ok mb N y) : dc_Ph R L s rp f ok mb C y := by
  refine ⟨w.1, w.2.1, ?_⟩
  rcases w.2.2 with a | ⟨j, hj, e, a⟩
  · exact Or.inl a
  · exact Or.inr ⟨j, hj, e, dc_W_mono h a⟩
/-- the two least closed sets are one -/
theorem dc_N_u {N C : Nat → Bool} (n1 : dc_Sd R L s rp f ok mb N) (n2 : dc_Cl R L s rp f ok mb N) (c1 : dc_Sd R L s rp f ok mb C) (c2 : dc_Cl R L s rp f ok mb C) {y : Nat} (hy : y < R) : N y = C y := by
  have a := n1 C c2 y hy
  have b := c1 N n2 y hy
  cases hn : N y with
  | true => rw [a hn]
  | false =>
    cases hc : C y with
    | false => rfl
    | true => rw [b hc] at hn; exact nomatch hn
theorem dc_NX0 {N : Nat → Bool} (h : ∀ y, y < R → (N y = true ↔ (y ≠ s ∧ mb y = true ∧ ok y = true))) : dc_NX R L s rp f ok mb 0 N :=
  ⟨fun C hC y hy n => have a := (h y hy).mp n
    hC y hy ⟨a.1, a.2.2, Or.inl a.2.1⟩, fun y hy a b c => (h y hy).mpr ⟨a, c, b⟩, Or.inr (Nat.zero_le _)⟩
theorem dc_NXs (hf : ∀ j y, j < L → y < R → f j = nI y → ok y = true) {i : Nat} {N N' : Nat → Bool} (h : dc_NX R L s rp f ok mb i N)
    (e : ∀ y, y < R → (N' y = true ↔ (N y = true ∨ (y ≠ s ∧ ∃ j, j < L ∧ f j = nI y ∧ dc_W R rp N j)))) : dc_NX R L s rp f ok mb (i + 1) N' := by
  obtain ⟨h1, h2, h3⟩ := h
  have sub : ∀ y, y < R → N y = true → N' y = true := fun y hy n => (e y hy).mpr (Or.inl n)
  refine ⟨fun C hC y hy n => ?_, fun y hy a b c => sub y hy (h2 y hy a b c), ?_⟩
  · rcases (e y hy).mp n with a | ⟨a, j, hj, ej, w⟩
    · exact h1 C hC y hy a
    · exact hC y hy ⟨a, hf j y hj hy ej, Or.inr ⟨j, hj, ej, dc_W_mono (h1 C hC) w⟩⟩
  · by_cases z : dc_Cl R L s rp f ok mb N
    · left
      have same : ∀ y, y < R → N' y = true → N y = true := by
        intro y hy n
        rcases (e y hy).mp n with a | ⟨a, j, hj, ej, w⟩
        · exact a
        · exact z y hy ⟨a, hf j y hj hy ej, Or.inr ⟨j, hj, ej, w⟩⟩
      intro y hy p
      exact sub y hy (z y hy (dc_Ph_mono same p))
    · right
      rcases h3 with a | a
      · exact absurd a z
      · have : ∃ y, y < R ∧ dc_Ph R L s rp f ok mb N y ∧ N y = false := by
          apply Classical.byContradiction
          intro no
          apply z
          intro y hy p
          cases hn : N y with
          | true => rfl
          | false => exact absurd ⟨y, hy, p, hn⟩ no
        obtain ⟨y, hy, p, hn⟩ := this
        have n' : N' y = true := by
          rcases p.2.2 with b | b
          · have := h2 y hy p.1 p.2.1 b
            rw [hn] at this
            exact nomatch this
          · exact (e y hy).mpr (Or.inr ⟨p.1, b⟩)
        have := dc_cn_lt (j := y) hn n' R sub hy
        omega
theorem dc_NXR {N : Nat → Bool} (h : dc_NX R L s rp f ok mb R N) : dc_Cl R L s rp f ok mb N := by
  rcases h.2.2 with a | a
  · exact a
  · intro y hy _
    cases hn : N y with
    | true => rfl
    | false => have := dc_cn_full hy hn; omega
theorem dc_Sd0 {N : Nat → Bool} (h : ∀ y, y < R → N y = false) : dc_Sd R L s rp f ok mb N :=
  fun _ _ y hy n => by rw [h y hy] at n; exact nomatch n
theorem dc_NY0 {N : Nat → Bool} (h : dc_Sd R L s rp f ok mb N) : dc_NY R L s rp f ok mb N 0 N false :=
  ⟨h, fun _ _ n => n, fun _ => ⟨fun _ _ => rfl, fun _ z => absurd z (Nat.not_lt_zero _)⟩, fun z => nomatch z⟩
/-- a router that the pass leaves as it is -/
theorem dc_NYn {N0 N : Nat → Bool} {y : Nat} {ch : Bool} (h : dc_NY R L s rp f ok mb N0 y N ch) (no : dc_Ph R L s rp f ok mb N y → N y = true) : dc_NY R L s rp f ok mb N0 (y + 1) N ch := by
  obtain ⟨h1, h2, h3, h4⟩ := h
  refine ⟨h1, h2, fun z => ⟨(h3 z).1, fun i hi hR p => ?_⟩, h4⟩
  by_cases e : i = y
  · subst e
    have same := (h3 z).1
    rw [← same i hR]
    exact no (dc_Ph_mono (fun j hj n => by rw [same j hj]; exact n) p)
  · exact (h3 z).2 i (by omega) hR p
/-- a router that the pass adds -/
theorem dc_NYa {N0 N N' : Nat → Bool} {y : Nat} {ch : Bool} (h : dc_NY R L s rp f ok mb N0 y N ch) (hy : y < R) (p : dc_Ph R L s rp f ok mb N y) (n : N y = false)
    (e : ∀ i, i < R → N' i = (if i = y then true else N i)) : dc_NY R L s rp f ok mb N0 (y + 1) N' true := by
  obtain ⟨h1, h2, h3, h4⟩ := h
  have sub : ∀ i, i < R → N i = true → N' i = true := by
    intro i hi t
    rw [e i hi]
    split
    · rfl
    · exact t
  refine ⟨fun C hC i hi t => ?_, fun i hi t => sub i hi (h2 i hi t), fun z => (nomatch z), fun _ => ⟨y, hy, ?_, by rw [e y hy, if_pos rfl]⟩⟩
  · rw [e i hi] at t
    by_cases z : i = y
    · subst z
      exact hC i hi (dc_Ph_mono (h1 C hC) p)
    · rw [if_neg z] at t
      exact h1 C hC i hi t
  · cases hn : N0 y with
    | false => rfl
    | true => rw [h2 y hy hn] at n; exact nomatch n
/-- a pass that changed nothing: the set is closed -/
theorem dc_NYf {N0 N : Nat → Bool} (h : dc_NY R L s rp f ok mb N0 R N false) : dc_Cl R L s rp f ok mb N := by
  have a := h.2.2.1 rfl
  intro y hy p
  rw [a.1 y hy]
  exact a.2 y hy hy (dc_Ph_mono (fun j hj n => by rw [← a.1 j hj]; exact n) p)
/-- a pass that changed something: the set has grown -/
theorem dc_NYt {N0 N : Nat → Bool} (h : dc_NY R L s rp f ok mb N0 R N true) : dc_cn N0 R < dc_cn N R := by
  obtain ⟨i, hi, a, b⟩ := h.2.2.2 rfl
  exact dc_cn_lt (j := i) a b R h.2.1 hi
end
/-! the scan's steps -/
theorem dc_bs_s0 {T : Nat → Bool} {b : Nat → Nat → Bool} {n : Nat} (h : ¬ T n = true) : dc_bs T b (n + 1) = dc_bs T b n := by
  rw [dc_bs_eq]
  exact if_neg h
theorem dc_bs_s1 {T : Nat → Bool} {b : Nat → Nat → Bool} {n : Nat} (h : T n = true) (e : dc_bs T b n = none) : dc_bs T b (n + 1) = some n := by
  rw [dc_bs_eq]
  rw [if_pos h, e]
theorem dc_bs_s2 {T : Nat → Bool} {b : Nat → Nat → Bool} {n q : Nat} (h : T n = true) (e : dc_bs T b n = some q) (hb : b n q = true) : dc_bs T b (n + 1) = some n := by
  rw [dc_bs_eq]
  rw [if_pos h, e]
  exact if_pos hb
theorem dc_bs_s3 {T : Nat → Bool} {b : Nat → Nat → Bool} {n q : Nat} (h : T n = true) (e : dc_bs T b n = some q) (hb : ¬ b n q = true) : dc_bs T b (n + 1) = some q := by
  rw [dc_bs_eq]
  rw [if_pos h, e]
  exact if_neg hb
/-- who wins: x against an earlier q -/
def dc_be (pf : Nat → Int32) (D : Nat → Nat) (x q : Nat) : Bool := decide (pf x < pf q ∨ (pf x = pf q ∧ D x ≤ D q))
/-- wanted, as a truth value -/
def dc_wb (R : Nat) (rp : Nat → Int32) (N : Nat → Bool) (k : Nat) : Bool := decide (0 < dc_cn (fun z => N z && decide (rp z = nI k)) R)
theorem dc_wb_1 {R : Nat} {rp : Nat → Int32} {N : Nat → Bool} {k : Nat} : dc_wb R rp N k = true ↔ dc_W R rp N k := by
  constructor
  · intro h
    obtain ⟨z, hz, e⟩ := dc_cn_some (of_decide_eq_true h)
    have e' : (N z && decide (rp z = nI k)) = true := e
    rw [Bool.and_eq_true] at e'
    exact ⟨z, hz, e'.1, of_decide_eq_true e'.2⟩
  · intro ⟨z, hz, n, e⟩
    refine decide_eq_true (dc_cn_pos hz ?_)
    show (N z && decide (rp z = nI k)) = true
    rw [n, decide_eq_true e] <;> rfl
/-- the record's source row of the prune timers after the links below i -/
def dc_pr (R : Nat) (rp : Nat → Int32) (T : Nat → Nat → Bool) (N : Nat → Bool) (h : Int32) (s : Nat) (P : Nat → Nat → Int32) (i : Nat) : Nat → Nat → Int32 :=
  fun s' k => if s' = s ∧ k < i ∧ 0 < dc_cn (T k) R ∧ dc_wb R rp N k = false then h else P s' k
/-- the forwarders after the links below i -/
def dc_fo (R : Nat) (T : Nat → Nat → Bool) (b : Nat → Nat → Bool) (s : Nat) (F : Nat → Nat → Int32) (i : Nat) : Nat → Nat → Int32 :=
  fun s' k => if s' = s ∧ k < i ∧ 2 ≤ dc_cn (T k) R then dc_oI (dc_bs (T k) b R) else F s' k
