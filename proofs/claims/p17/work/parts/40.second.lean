/-! a second send right behind the first: one copy a link at most, and no router reached that the first did not reach -/
theorem dc_cn_set {p : Nat → Bool} {x : Nat} (hp : p x = false) : ∀ n, x < n → dc_cn (fun y => if y = x then true else p y) n = dc_cn p n + 1 := by
  intro n
  induction n with
  | zero => intro h; omega
  | succ n ih =>
    intro h
    show dc_cn (fun y => if y = x then true else p y) n + (if (if n = x then true else p n) = true then 1 else 0) = dc_cn p n + (if p n = true then 1 else 0) + 1
    by_cases e : n = x
    · have e1 : dc_cn (fun y => if y = x then true else p y) n = dc_cn p n := dc_cn_ext (fun i hi => if_neg (by omega))
      have hp' : ¬ p n = true := by rw [e, hp]; decide
      rw [e1, if_pos e, if_pos rfl, if_neg hp'] <;> omega
    · rw [ih (by omega), if_neg e]
      by_cases q : p n = true
      · rw [if_pos q] <;> omega
      · rw [if_neg q] <;> omega
section
variable (R L : Nat) (rp : Nat → Int32) (s : Nat)
/-- the counts of a record are those of its transmitters -/
def dc_BC (z : (Nat → Nat) × (Nat → Nat) × (Nat → Nat → Bool)) : Prop :=
  (∀ k, k < L → z.2.1 k = dc_cn (z.2.2 k) R) ∧
  (∀ y k, y < R → k < L → rp y = nI k → z.1 y = (if y = s then 1 else 0) + dc_cn (z.2.2 k) R) ∧
  (∀ y, y < R → (∀ k, k < L → ¬ rp y = nI k) → z.1 y = if y = s then 1 else 0)
end
section
variable {R L : Nat} {rp : Nat → Int32} {can : Nat → Nat → Bool} {s : Nat}
theorem dc_BC_tr {z : (Nat → Nat) × (Nat → Nat) × (Nat → Nat → Bool)} (h : dc_BC R L rp s z) (hL : L ≤ 16) {x k : Nat} (hx : x < R) (hk : k < L) (ht : z.2.2 k x = false) : dc_BC R L rp s (dc_tr R rp x k z) := by
  obtain ⟨h1, h2, h3⟩ := h
  have T1 : ∀ j y, (dc_tr R rp x k z).2.2 j y = (if j = k ∧ y = x then true else z.2.2 j y) := fun _ _ => rfl
  have R1 : ∀ y, (dc_tr R rp x k z).1 y = (if y < R ∧ rp y = nI k then z.1 y + 1 else z.1 y) := fun _ => rfl
  have C1 : ∀ j, (dc_tr R rp x k z).2.1 j = (if j = k then z.2.1 j + 1 else z.2.1 j) := fun _ => rfl
  have c1 : dc_cn ((dc_tr R rp x k z).2.2 k) R = dc_cn (z.2.2 k) R + 1 := by
    rw [← dc_cn_set ht R hx]
    refine dc_cn_ext (fun y _ => ?_)
    rw [T1]
    by_cases e : y = x
    · rw [if_pos ⟨rfl, e⟩, if_pos e]
    · have n1 : ¬ (k = k ∧ y = x) := fun w => e w.2
      rw [if_neg n1, if_neg e]
  have c0 : ∀ j, ¬ j = k → dc_cn ((dc_tr R rp x k z).2.2 j) R = dc_cn (z.2.2 j) R := by
    intro j hj
    refine dc_cn_ext (fun y _ => ?_)
    have n1 : ¬ (j = k ∧ y = x) := fun w => hj w.1
    rw [T1, if_neg n1]
  refine ⟨fun j hj => ?_, fun y j hy hj e => ?_, fun y hy e => ?_⟩
  · rw [C1]
    by_cases q : j = k
    · rw [if_pos q, h1 j hj]
      subst q
      exact c1.symm
    · rw [if_neg q, h1 j hj, c0 j q]
  · rw [R1]
    by_cases q : j = k
    · subst q
      rw [if_pos ⟨hy, e⟩, h2 y j hy hj e, c1] <;> exact Nat.add_assoc _ _ _
    · have n1 : ¬ (y < R ∧ rp y = nI k) := fun w => q ((nI_eq (by omega) (by omega)).mp (e.symm.trans w.2))
      rw [if_neg n1, h2 y j hy hj e, c0 j q]
  · have n1 : ¬ (y < R ∧ rp y = nI k) := fun w => e k hk w.2
    rw [R1, if_neg n1]
    exact h3 y hy e
theorem dc_fxJ (hL : L ≤ 16) {x : Nat} (hx : x < R) {z : (Nat → Nat) × (Nat → Nat) × (Nat → Nat → Bool)} (h : dc_BC R L rp s z) (ht : ∀ j, z.2.2 j x = false) : ∀ l, l ≤ L → dc_BC R L rp s (dc_it (dc_fk R rp can x) z l) ∧ ∀ j y, (dc_it (dc_fk R rp can x) z l).2.2 j y = true ↔ (z.2.2 j y = true ∨ (y = x ∧ j < l ∧ can x j = true)) := by
  intro l
  induction l with
  | zero => exact fun _ => ⟨h, fun j y => ⟨fun a => Or.inl a, fun a => a.elim id (fun b => absurd b.2.1 (Nat.not_lt_zero j))⟩⟩
  | succ l ih =>
    intro hl
    obtain ⟨i1, i2⟩ := ih (by omega)
    show dc_BC R L rp s (dc_fk R rp can x l (dc_it (dc_fk R rp can x) z l)) ∧ ∀ j y, (dc_fk R rp can x l (dc_it (dc_fk R rp can x) z l)).2.2 j y = true ↔ (z.2.2 j y = true ∨ (y = x ∧ j < l + 1 ∧ can x j = true))
    generalize dc_it (dc_fk R rp can x) z l = z' at i1 i2 ⊢
    by_cases hc : can x l = true
    · rw [dc_fk_1 hc]
      have f : z'.2.2 l x = false := by
        cases e : z'.2.2 l x with
        | false => rfl
        | true =>
          rcases (i2 l x).mp e with a | a
          · rw [ht l] at a; exact nomatch a
          · exact absurd a.2.1 (Nat.lt_irrefl l)
      refine ⟨dc_BC_tr i1 hL hx (by omega) f, fun j y => ?_⟩
      have T1 : (dc_tr R rp x l z').2.2 j y = (if j = l ∧ y = x then true else z'.2.2 j y) := rfl
      rw [T1]
      by_cases q : j = l ∧ y = x
      · rw [if_pos q]
        exact ⟨fun _ => Or.inr ⟨q.2, by omega, by rw [q.1]; exact hc⟩, fun _ => rfl⟩
      · rw [if_neg q, i2 j y]
        constructor
        · intro a
          rcases a with a | a
          · exact Or.inl a
          · exact Or.inr ⟨a.1, by have := a.2.1; omega, a.2.2⟩
        · intro a
          rcases a with a | a
          · exact Or.inl a
          · refine Or.inr ⟨a.1, ?_, a.2.2⟩
            have n1 : ¬ j = l := fun w => q ⟨w, a.1⟩
            have := a.2.1
            omega
    · rw [dc_fk_0 hc]
      refine ⟨i1, fun j y => ?_⟩
      rw [i2 j y]
      constructor
      · intro a
        rcases a with a | a
        · exact Or.inl a
        · exact Or.inr ⟨a.1, by have := a.2.1; omega, a.2.2⟩
      · intro a
        rcases a with a | a
        · exact Or.inl a
        · refine Or.inr ⟨a.1, ?_, a.2.2⟩
          have n1 : ¬ j = l := fun w => hc (by rw [← w]; exact a.2.2)
          have := a.2.1
          omega
theorem dc_rdJ (hL : L ≤ 16) {fr : Nat → Bool} {z : (Nat → Nat) × (Nat → Nat) × (Nat → Nat → Bool)} (h : dc_BC R L rp s z) (ht : ∀ j y, fr y = true → z.2.2 j y = false) : ∀ n, n ≤ R → dc_BC R L rp s (dc_it (dc_rx R L rp can fr) z n) ∧ ∀ j y, (dc_it (dc_rx R L rp can fr) z n).2.2 j y = true ↔ (z.2.2 j y = true ∨ (y < n ∧ fr y = true ∧ j < L ∧ can y j = true)) := by
  intro n
  induction n with
  | zero => exact fun _ => ⟨h, fun j y => ⟨fun a => Or.inl a, fun a => a.elim id (fun b => absurd b.1 (Nat.not_lt_zero y))⟩⟩
  | succ n ih =>
    intro hn
    obtain ⟨i1, i2⟩ := ih (by omega)
    show dc_BC R L rp s (dc_rx R L rp can fr n (dc_it (dc_rx R L rp can fr) z n)) ∧ ∀ j y, (dc_rx R L rp can fr n (dc_it (dc_rx R L rp can fr) z n)).2.2 j y = true ↔ (z.2.2 j y = true ∨ (y < n + 1 ∧ fr y = true ∧ j < L ∧ can y j = true))
    generalize dc_it (dc_rx R L rp can fr) z n = z' at i1 i2 ⊢
    by_cases hc : fr n = true
    · rw [dc_rx_1 hc]
      have f : ∀ j, z'.2.2 j n = false := by
        intro j
        cases e : z'.2.2 j n with
        | false => rfl
        | true =>
          rcases (i2 j n).mp e with a | a
          · rw [ht j n hc] at a; exact nomatch a
          · exact absurd a.1 (Nat.lt_irrefl n)
      obtain ⟨g1, g2⟩ := dc_fxJ (can := can) hL (show n < R by omega) i1 f L (Nat.le_refl L)
      refine ⟨g1, fun j y => ?_⟩
      show (dc_it (dc_fk R rp can n) z' L).2.2 j y = true ↔ _
      rw [g2 j y, i2 j y]
      constructor
      · intro a
        rcases a with (a | a) | a
        · exact Or.inl a
        · exact Or.inr ⟨by have := a.1; omega, a.2⟩
        · exact Or.inr ⟨by have := a.1; omega, by rw [a.1]; exact hc, a.2.1, by rw [a.1]; exact a.2.2⟩
      · intro a
        rcases a with a | a
        · exact Or.inl (Or.inl a)
        · by_cases q : y = n
          · exact Or.inr ⟨q, a.2.2.1, by rw [← q]; exact a.2.2.2⟩
          · exact Or.inl (Or.inr ⟨by have := a.1; omega, a.2⟩)
    · rw [dc_rx_0 hc]
      refine ⟨i1, fun j y => ?_⟩
      rw [i2 j y]
      constructor
      · intro a
        rcases a with a | a
        · exact Or.inl a
        · exact Or.inr ⟨by have := a.1; omega, a.2⟩
      · intro a
        rcases a with a | a
        · exact Or.inl a
        · have q : ¬ y = n := fun w => hc (by rw [← w]; exact a.2.1)
          exact Or.inr ⟨by have := a.1; omega, a.2⟩
/-- what every round of a flood keeps: who is reached and not in the frontier has transmitted wherever it may -/
def dc_FJ (R L : Nat) (rp : Nat → Int32) (can : Nat → Nat → Bool) (s : Nat) (w : ((Nat → Nat) × (Nat → Nat) × (Nat → Nat → Bool)) × (Nat → Bool)) : Prop :=
  dc_BC R L rp s w.1 ∧ ∀ j y, w.1.2.2 j y = true ↔ (j < L ∧ y < R ∧ 1 ≤ w.1.1 y ∧ w.2 y = false ∧ can y j = true)
theorem dc_FJ0 : dc_FJ R L rp can s (dc_f0 s) := by
  have n0 : dc_cn (fun _ => false) R = 0 := dc_cn_none R
  refine ⟨⟨fun k _ => n0.symm, fun y k _ _ _ => ?_, fun y _ _ => rfl⟩, fun j y => ⟨fun a => absurd (show false = true from a) (by decide), fun a => ?_⟩⟩
  · show (if y = s then 1 else 0) = (if y = s then 1 else 0) + dc_cn (fun _ => false) R
    rw [n0, Nat.add_zero]
  · exfalso
    obtain ⟨_, _, a1, a2, _⟩ := a
    have b1 : 1 ≤ (if y = s then 1 else 0) := a1
    have b2 : decide (y = s) = false := a2
    have b3 := of_decide_eq_false b2
    rw [if_neg b3] at b1
    omega
theorem dc_FJs (hL : L ≤ 16) {n : Nat} {w : ((Nat → Nat) × (Nat → Nat) × (Nat → Nat → Bool)) × (Nat → Bool)} (hI : dc_FI R L n w) (h : dc_FJ R L rp can s w) : dc_FJ R L rp can s (dc_st R L rp can w) := by
  obtain ⟨h1, h2⟩ := h
  have ht : ∀ j y, w.2 y = true → w.1.2.2 j y = false := by
    intro j y e
    cases q : w.1.2.2 j y with
    | false => rfl
    | true =>
      have a := ((h2 j y).mp q).2.2.2.1
      rw [e] at a
      exact nomatch a
  obtain ⟨g1, g2⟩ := dc_rdJ (can := can) hL h1 ht R (Nat.le_refl R)
  have hb := dc_rd_b (R := R) (L := L) (rp := rp) (can := can) w.2 w.1
  refine ⟨g1, fun j y => ?_⟩
  show (dc_it (dc_rx R L rp can w.2) w.1 R).2.2 j y = true ↔ (j < L ∧ y < R ∧ 1 ≤ (dc_rd R L rp can w.2 w.1).1 y ∧ decide (y < R ∧ w.1.1 y = 0 ∧ 1 ≤ (dc_rd R L rp can w.2 w.1).1 y) = false ∧ can y j = true)
  rw [g2 j y, h2 j y]
  have b := hb y
  constructor
  · intro a
    have q : j < L ∧ y < R ∧ 1 ≤ w.1.1 y ∧ can y j = true := by
      rcases a with a | a
      · exact ⟨a.1, a.2.1, a.2.2.1, a.2.2.2.2⟩
      · exact ⟨a.2.2.1, a.1, (hI.2.1 y a.2.1).2, a.2.2.2⟩
    have q1 := q.2.2.1
    exact ⟨q.1, q.2.1, by omega, decide_eq_false (by omega), q.2.2.2⟩
  · intro ⟨a1, a2, a3, a4, a5⟩
    have a6 := of_decide_eq_false a4
    have q : 1 ≤ w.1.1 y := by omega
    cases e : w.2 y with
    | false => exact Or.inl ⟨a1, a2, q, rfl, a5⟩
    | true => exact Or.inr ⟨a2, rfl, a1, a5⟩
theorem dc_FJn (hL : L ≤ 16) (hs : s < R) : ∀ n, dc_FJ R L rp can s (dc_fl R L rp can (dc_f0 s) n) := by
  intro n
  induction n with
  | zero => exact dc_FJ0
  | succ n ih =>
    show dc_FJ R L rp can s (dc_st R L rp can (dc_fl R L rp can (dc_f0 s) n))
    exact dc_FJs hL (dc_FIn hs n) ih
/-- the record of a whole flood: who is reached transmits wherever it may, and nobody else does -/
theorem dc_ZT (hL : L ≤ 16) (hs : s < R) (j y : Nat) : (dc_fl R L rp can (dc_f0 s) R).1.2.2 j y = true ↔ (j < L ∧ y < R ∧ 1 ≤ (dc_fl R L rp can (dc_f0 s) R).1.1 y ∧ can y j = true) := by
  have h := (dc_FJn (R := R) (rp := rp) (can := can) hL hs R).2 j y
  have f := dc_fl_R (L := L) (rp := rp) (can := can) hs y
  constructor
  · intro a
    have b := h.mp a
    exact ⟨b.1, b.2.1, b.2.2.1, b.2.2.2.2⟩
  · intro a
    exact h.mpr ⟨a.1, a.2.1, a.2.2.1, f, a.2.2.2⟩
/-- whoever may less reaches no more -/
theorem dc_mono (hL : L ≤ 16) (hs : s < R) {c2 : Nat → Nat → Bool} (hc : ∀ x k, x < R → k < L → c2 x k = true → can x k = true) : ∀ n y, y < R → 1 ≤ (dc_fl R L rp c2 (dc_f0 s) n).1.1 y → 1 ≤ (dc_fl R L rp can (dc_f0 s) R).1.1 y := by
  have BC := (dc_FJn (R := R) (rp := rp) (can := can) hL hs R).1
  have ZT := dc_ZT (R := R) (rp := rp) (can := can) hL hs
  generalize (dc_fl R L rp can (dc_f0 s) R).1 = Z at BC ZT ⊢
  have S1 : ∀ (x k : Nat) (z : (Nat → Nat) × (Nat → Nat) × (Nat → Nat → Bool)), x < R → k < L → 1 ≤ Z.1 x → (∀ y, y < R → 1 ≤ z.1 y → 1 ≤ Z.1 y) → ∀ y, y < R → 1 ≤ (dc_fk R rp c2 x k z).1 y → 1 ≤ Z.1 y := by
    intro x k z hx hk hZ hz y hy h
    by_cases e : c2 x k = true
    · rw [dc_fk_1 e] at h
      have h' : 1 ≤ (if y < R ∧ rp y = nI k then z.1 y + 1 else z.1 y) := h
      by_cases q : y < R ∧ rp y = nI k
      · have t : Z.2.2 k x = true := (ZT k x).mpr ⟨hk, hx, hZ, hc x k hx hk e⟩
        have a := BC.2.1 y k hy hk q.2
        have b := dc_cn_pos hx t
        omega
      · rw [if_neg q] at h'
        exact hz y hy h'
    · rw [dc_fk_0 e] at h
      exact hz y hy h
  have S2 : ∀ (x : Nat) (z : (Nat → Nat) × (Nat → Nat) × (Nat → Nat → Bool)), x < R → 1 ≤ Z.1 x → (∀ y, y < R → 1 ≤ z.1 y → 1 ≤ Z.1 y) → ∀ l, l ≤ L → ∀ y, y < R → 1 ≤ (dc_it (dc_fk R rp c2 x) z l).1 y → 1 ≤ Z.1 y := by
    intro x z hx hZ hz l
    induction l with
    | zero => exact fun _ => hz
    | succ l ih => exact fun hl => S1 x l _ hx (by omega) hZ (ih (by omega))
  have S3 : ∀ (fr : Nat → Bool) (z : (Nat → Nat) × (Nat → Nat) × (Nat → Nat → Bool)), (∀ x, x < R → fr x = true → 1 ≤ Z.1 x) → (∀ y, y < R → 1 ≤ z.1 y → 1 ≤ Z.1 y) → ∀ n, n ≤ R → ∀ y, y < R → 1 ≤ (dc_it (dc_rx R L rp c2 fr) z n).1 y → 1 ≤ Z.1 y := by
    intro fr z hf hz n
    induction n with
    | zero => exact fun _ => hz
    | succ n ih =>
      intro hn y hy h
      have h' : 1 ≤ (dc_rx R L rp c2 fr n (dc_it (dc_rx R L rp c2 fr) z n)).1 y := h
      by_cases e : fr n = true
      · rw [dc_rx_1 e] at h'
        exact S2 n _ (by omega) (hf n (by omega) e) (ih (by omega)) L (Nat.le_refl L) y hy h'
      · rw [dc_rx_0 e] at h'
        exact ih (by omega) y hy h'
  have Zs : 1 ≤ Z.1 s := by
    by_cases e : ∃ k, k < L ∧ rp s = nI k
    · obtain ⟨k, hk, e⟩ := e
      have a := BC.2.1 s k hs hk e
      rw [if_pos rfl] at a
      omega
    · have a := BC.2.2 s hs (fun k hk w => e ⟨k, hk, w⟩)
      rw [if_pos rfl] at a
      omega
  intro n
  induction n with
  | zero =>
    intro y hy h
    have h' : 1 ≤ (if y = s then 1 else 0) := h
    by_cases e : y = s
    · rw [e]; exact Zs
    · rw [if_neg e] at h'
      omega
  | succ n ih =>
    intro y hy h
    have I := dc_FIn (L := L) (rp := rp) (can := c2) hs n
    exact S3 (dc_fl R L rp c2 (dc_f0 s) n).2 (dc_fl R L rp c2 (dc_f0 s) n).1 (fun x hx e => ih x hx (I.2.1 x e).2) ih R (Nat.le_refl R) y hy h
end
/-! the prunes and forwarders that a send leaves let nobody transmit who might not before; and of two transmitters one alone -/
section
variable {R L : Nat} {A : Nat → Nat → Bool} {rp P F : Nat → Nat → Int32} {s H : Nat} {b : Nat → Nat → Bool} {N : Nat → Bool}
theorem dc_win (hR : R ≤ 12) {t : Nat → Nat → Bool} {x k : Nat} (hx : x < R) (hk : k < L) (h2 : 2 ≤ dc_cn (t k) R) (h : dc_fo R t b s F L s k = -1 ∨ dc_fo R t b s F L s k = nI x) : t k x = true ∧ dc_bs (t k) b R = some x := by
  have c : s = s ∧ k < L ∧ 2 ≤ dc_cn (t k) R := ⟨rfl, hk, h2⟩
  have e : dc_fo R t b s F L s k = dc_oI (dc_bs (t k) b R) := if_pos c
  rw [e] at h
  cases w : dc_bs (t k) b R with
  | none =>
    exfalso
    obtain ⟨j, hj, t1⟩ := dc_cn_some (show 0 < dc_cn (t k) R by omega)
    have t0 := dc_bs_0 w j hj
    rw [t1] at t0
    exact nomatch t0
  | some q =>
    have m := dc_bs_m w
    rw [w] at h
    have h' : nI q = -1 ∨ nI q = nI x := h
    rcases h' with z | z
    · exact absurd z (dc_nm1 (by omega))
    · have z' : q = x := (nI_eq (by omega) (by omega)).mp z
      subst z'
      exact ⟨m.2, rfl⟩
theorem dc_can2 (hR : R ≤ 12) (hL : L ≤ 16) (hs : s < R) (h1 : 1 ≤ H) (h16 : H ≤ 16) (x k : Nat) (hx : x < R) (hk : k < L)
    (e : dc_can R A (rp s) (dc_pr R (rp s) (dc_sz R L A rp P F s).2.2 N (nI H) s P L s) (dc_fo R (dc_sz R L A rp P F s).2.2 b s F L s) x k = true) : dc_can R A (rp s) (P s) (F s) x k = true := by
  have e' := of_decide_eq_true e
  have p : P s k = 0 := by
    have q : (if s = s ∧ k < L ∧ 0 < dc_cn ((dc_sz R L A rp P F s).2.2 k) R ∧ dc_wb R (rp s) N k = false then nI H else P s k) = 0 := e'.2.2.2.1
    by_cases c : s = s ∧ k < L ∧ 0 < dc_cn ((dc_sz R L A rp P F s).2.2 k) R ∧ dc_wb R (rp s) N k = false
    · rw [if_pos c] at q
      exact absurd q (nI_ne0 (by omega) (by omega))
    · rw [if_neg c] at q
      exact q
  by_cases c : s = s ∧ k < L ∧ 2 ≤ dc_cn ((dc_sz R L A rp P F s).2.2 k) R
  · have w := dc_win hR hx hk c.2.2 e'.2.2.2.2
    exact ((dc_ZT hL hs k x).mp w.1).2.2.2
  · have q : dc_fo R (dc_sz R L A rp P F s).2.2 b s F L s k = F s k := if_neg c
    have r := e'.2.2.2.2
    rw [q] at r
    exact decide_eq_true ⟨e'.1, e'.2.1, e'.2.2.1, p, r⟩
/-- the second send's record -/
theorem dc_second (hR : R ≤ 12) (hL : L ≤ 16) (hs : s < R) (h1 : 1 ≤ H) (h16 : H ≤ 16) (h0 : rp s s = -1) {P2 F2 : Nat → Nat → Int32} (eP : P2 = dc_pr R (rp s) (dc_sz R L A rp P F s).2.2 N (nI H) s P L) (eF : F2 = dc_fo R (dc_sz R L A rp P F s).2.2 b s F L) :
    (∀ k, k < L → (dc_sz R L A rp P2 F2 s).2.1 k ≤ 1) ∧ (∀ y, y < R → (dc_sz R L A rp P2 F2 s).1 y ≤ 1) ∧ (∀ y, y < R → 1 ≤ (dc_sz R L A rp P2 F2 s).1 y → 1 ≤ (dc_sz R L A rp P F s).1 y) := by
  have hc : ∀ x k, x < R → k < L → dc_can R A (rp s) (P2 s) (F2 s) x k = true → dc_can R A (rp s) (P s) (F s) x k = true := by
    intro x k hx hk e
    rw [eP, eF] at e
    exact dc_can2 hR hL hs h1 h16 x k hx hk e
  have up : ∀ y, y < R → 1 ≤ (dc_sz R L A rp P2 F2 s).1 y → 1 ≤ (dc_sz R L A rp P F s).1 y := fun y hy h => dc_mono hL hs hc R y hy h
  have BC := (dc_FJn (R := R) (rp := rp s) (can := dc_can R A (rp s) (P2 s) (F2 s)) hL hs R).1
  have T2 : ∀ k x, (dc_sz R L A rp P2 F2 s).2.2 k x = true → (k < L ∧ x < R ∧ 1 ≤ (dc_sz R L A rp P2 F2 s).1 x ∧ dc_can R A (rp s) (P2 s) (F2 s) x k = true) := fun k x h => (dc_ZT hL hs k x).mp h
  have T1 : ∀ k x, (dc_sz R L A rp P2 F2 s).2.2 k x = true → (dc_sz R L A rp P F s).2.2 k x = true := by
    intro k x h
    have a := T2 k x h
    exact (dc_ZT hL hs k x).mpr ⟨a.1, a.2.1, up x a.2.1 a.2.2.1, hc x k a.2.1 a.1 a.2.2.2⟩
  have one : ∀ k, k < L → dc_cn ((dc_sz R L A rp P2 F2 s).2.2 k) R ≤ 1 := by
    intro k hk
    by_cases c : dc_cn ((dc_sz R L A rp P2 F2 s).2.2 k) R ≤ 1
    · exact c
    · exfalso
      obtain ⟨i, j, hij, hj, ti, tj⟩ := dc_cn_pair (show 2 ≤ dc_cn ((dc_sz R L A rp P2 F2 s).2.2 k) R by omega)
      have g : 2 ≤ dc_cn ((dc_sz R L A rp P F s).2.2 k) R := dc_cn_two (show i < R by omega) hj (by omega) (T1 k i ti) (T1 k j tj)
      have ci := (of_decide_eq_true (T2 k i ti).2.2.2).2.2.2.2
      have cj := (of_decide_eq_true (T2 k j tj).2.2.2).2.2.2.2
      rw [eF] at ci cj
      have wi := (dc_win hR (show i < R by omega) hk g ci).2
      have wj := (dc_win hR hj hk g cj).2
      rw [wi] at wj
      have := Option.some.inj wj
      omega
  refine ⟨fun k hk => ?_, fun y hy => ?_, up⟩
  · have a : (dc_sz R L A rp P2 F2 s).2.1 k = dc_cn ((dc_sz R L A rp P2 F2 s).2.2 k) R := BC.1 k hk
    rw [a]
    exact one k hk
  · by_cases ys : y = s
    · have a : (dc_sz R L A rp P2 F2 s).1 y = if y = s then 1 else 0 := BC.2.2 y hy (fun k hk w => by rw [ys, h0] at w; exact dc_nm1 (by omega) w.symm)
      rw [a, if_pos ys] <;> exact Nat.le_refl _
    · by_cases e : ∃ k, k < L ∧ rp s y = nI k
      · obtain ⟨k, hk, e⟩ := e
        have a : (dc_sz R L A rp P2 F2 s).1 y = (if y = s then 1 else 0) + dc_cn ((dc_sz R L A rp P2 F2 s).2.2 k) R := BC.2.1 y k hy hk e
        rw [a, if_neg ys, Nat.zero_add]
        exact one k hk
      · have a : (dc_sz R L A rp P2 F2 s).1 y = if y = s then 1 else 0 := BC.2.2 y hy (fun k hk w => e ⟨k, hk, w⟩)
        rw [a, if_neg ys]
        exact Nat.zero_le _
end
