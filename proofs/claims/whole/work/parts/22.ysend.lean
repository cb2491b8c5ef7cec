/-! the reference's send -/
section
variable {R L H : Nat} {A : Nat → Nat → Bool} {c : Nat → Nat} {yco yat ypf ymb ypr yfw yrc yca ytr yd yro yfr ybe yne ycu : Nat → Int32}
theorem dy_s278 {post : Int32 → SY → Prop} {s : Nat} {t : Nat → Nat → Bool} {b : Nat → Nat → Bool} {F : Nat → Nat → Int32} (B : dc_B R L c) (hs : s < R) (rT : ∀ k x, k < L → x < R → (ytr (k * 12 + x) = 0 ↔ t k x = false)) (rF : dc_r2 R L yfw (dc_fo R t b s F L))
    (h : ∀ (cu' : Nat → Int32), (∀ j, j < L → cu' j = dc_oI (dc_bs (t j) b R)) → ∃ n, wY_send_306 post (nI s) n 0 (nI R) (nI L) (nI H) yco yat ypf ymb ypr yfw yrc yca ytr yd yro yfr ybe yne cu') : ∃ n, wY_send_278 post (nI s) (nI R) (nI L) (nI H) n 0 yco yat ypf ymb ypr yfw yrc yca ytr yd yro yfr ybe yne ycu := by
  have B' := B
  obtain ⟨_, hR, _, hL, c1, c15⟩ := B'
  refine loop_0 (fun n i cu => wY_send_278 post (nI s) (nI R) (nI L) (nI H) n (nI i) yco yat ypf ymb ypr yfw yrc yca ytr yd yro yfr ybe yne cu) (fun i cu => ∀ j, j < i → cu j = dc_oI (dc_bs (t j) b R)) L ycu (fun j z => absurd z (Nat.not_lt_zero j)) ?_ ?_
  · intro n cu hc
    exact br_t (dc_end (by omega)) (h cu hc)
  · intro n k cu hk hc hn
    refine br_f (dc_in hk (by omega)) (dy_this B hs hk rT rF ⟨vp_in_nI (by omega) (by omega), nm_e (nm_r (nI_1 k) (hn _ ?_))⟩)
    rw [dc_cl k (by omega)]
    intro j hj
    by_cases e : j = k
    · rw [e]; exact pk_us
    · rw [pk_un e]; exact hc j (by omega)
theorem dy_s256 {post : Int32 → SY → Prop} {s : Nat} {t : Nat → Nat → Bool} {D : Nat → Nat} {pf : Nat → Int32} {F : Nat → Nat → Int32} (B : dc_B R L c) (G : dc_G R L A c s D) (hs : s < R) (rT : ∀ k x, k < L → x < R → (ytr (k * 12 + x) = 0 ↔ t k x = false))
    (rep : ∀ r, r < R → yd r = nI (dc_E D 1000000 r)) (rpf : ∀ r, r < R → ypf r = pf r) (rF : dc_r2 R L yfw F)
    (h : ∀ (fw' : Nat → Int32), dc_r2 R L fw' (dc_fo R t (dc_be pf D) s F L) → ∃ n, wY_send_278 post (nI s) (nI R) (nI L) (nI H) n 0 yco yat ypf ymb ypr fw' yrc yca ytr yd yro yfr ybe yne ycu) : ∃ n, wY_send_256 post (nI s) n 0 (nI R) (nI L) (nI H) yco yat ypf ymb ypr yfw yrc yca ytr yd yro yfr ybe yne ycu := by
  have B' := B
  obtain ⟨_, hR, _, hL, c1, c15⟩ := B'
  refine loop_0 (fun n i fw => wY_send_256 post (nI s) n (nI i) (nI R) (nI L) (nI H) yco yat ypf ymb ypr fw yrc yca ytr yd yro yfr ybe yne ycu) (fun i fw => dc_r2 R L fw (dc_fo R t (dc_be pf D) s F i)) L yfw ?_ ?_ ?_
  · intro s' k' hs' hk'
    rw [rF s' k' hs' hk']
    unfold dc_fo
    rw [if_neg (show ¬ (s' = s ∧ k' < 0 ∧ 2 ≤ dc_cn (t k') R) from fun w => absurd w.2.1 (Nat.not_lt_zero k'))]
  · intro n fw hf
    exact br_t (dc_end (by omega)) (h fw hf)
  · intro n k fw hk hf hn
    exact br_f (dc_in hk (by omega)) (dy_assert B G hs hk rT rep rpf hf (fun fw' g => nm_r (nI_1 k) (hn _ g)))
/-- the next frontier -/
theorem dy_s204 {post : Int32 → SY → Prop} {J151 : Int32 → Int32 → Int32 → Int32 → (Nat → Int32) → (Nat → Int32) → (Nat → Int32) → (Nat → Int32) → (Nat → Int32) → (Nat → Int32) → (Nat → Int32) → (Nat → Int32) → (Nat → Int32) → (Nat → Int32) → (Nat → Int32) → (Nat → Int32) → (Nat → Int32) → (Nat → Int32) → (Nat → Int32) → Prop}
    {x1 : Int32} {t : Nat} {rc0 rc : Nat → Nat} (B : dc_B R L c) (rb : ∀ y, y < R → ybe y = nI (rc0 y)) (rc1 : ∀ y, y < R → yrc y = nI (rc y)) (h0 : ∀ y, rc0 y < 2 ^ 31) (hb : ∀ y, rc y < 2 ^ 31)
    (h : ∀ (fr' : Nat → Int32), (∀ y, y < R → (fr' y = 0 ↔ decide (y < R ∧ rc0 y = 0 ∧ 1 ≤ rc y) = false)) → J151 (nI (t + 1)) (nI R) (nI L) (nI H) yco yat ypf ymb ypr yfw yrc yca ytr yd yro fr' ybe yne ycu) : ∃ n, wY_send_204 post J151 x1 (nI t) (nI R) (nI L) (nI H) n 0 yco yat ypf ymb ypr yfw yrc yca ytr yd yro yfr ybe yne ycu := by
  obtain ⟨_, hR, _, hL, c1, c15⟩ := B
  refine loop_0 (fun n i fr => wY_send_204 post J151 x1 (nI t) (nI R) (nI L) (nI H) n (nI i) yco yat ypf ymb ypr yfw yrc yca ytr yd yro fr ybe yne ycu) (fun i fr => ∀ y, y < i → y < R → (fr y = 0 ↔ decide (y < R ∧ rc0 y = 0 ∧ 1 ≤ rc y) = false)) R yfr (fun j z => absurd z (Nat.not_lt_zero j)) ?_ ?_
  · intro n fr hf
    exact br_t (dc_end (by omega)) (nm_r (nI_1 t) (h fr (fun y hy => hf y hy hy)))
  · intro n i fr hi hf hn
    have put0 : ¬ (i < R ∧ rc0 i = 0 ∧ 1 ≤ rc i) → ∀ y, y < i + 1 → y < R → (upd fr i 0 y = 0 ↔ decide (y < R ∧ rc0 y = 0 ∧ 1 ≤ rc y) = false) := by
      intro q y hy hR'
      by_cases e : y = i
      · rw [e, pk_us]
        exact ⟨fun _ => decide_eq_false q, fun _ => rfl⟩
      · rw [pk_un e]; exact hf y (by omega) hR'
    have put1 : (i < R ∧ rc0 i = 0 ∧ 1 ≤ rc i) → ∀ y, y < i + 1 → y < R → (upd fr i 1 y = 0 ↔ decide (y < R ∧ rc0 y = 0 ∧ 1 ≤ rc y) = false) := by
      intro q y hy hR'
      by_cases e : y = i
      · rw [e, pk_us, decide_eq_true q]
        exact ⟨fun w => absurd w (by decide), fun w => nomatch w⟩
      · rw [pk_un e]; exact hf y (by omega) hR'
    refine br_f (dc_in hi (by omega)) ⟨vp_in_nI (by omega) (by omega), ?_⟩
    rw [dc_cl i (by omega), rb i hi, rc1 i hi, dc_nar0, dc_nar1]
    have a0 := h0 i
    have a1 := hb i
    by_cases z0 : rc0 i = 0
    · refine br_t (by rw [z0] <;> rfl) ⟨vp_in_nI (by omega) (by omega), ?_⟩
      by_cases z1 : rc i < 1
      · exact br_t (nI_lt (b := 1) z1 (by decide)) ⟨vp_in_nI (by omega) (by omega), nm_e (nm_r (nI_1 i) (hn _ (put0 (fun w => by omega))))⟩
      · exact br_f (nI_nlt (b := 1) (by omega) a1) ⟨vp_in_nI (by omega) (by omega), nm_e (nm_r (nI_1 i) (hn _ (put1 ⟨hi, z0, by omega⟩)))⟩
    · exact br_f (nI_ne0 (by omega) a0) ⟨vp_in_nI (by omega) (by omega), nm_e (nm_r (nI_1 i) (hn _ (put0 (fun w => z0 w.2.1))))⟩
/-- one round, and what it needs: the copy of the counts, the transmissions, the next frontier -/
theorem dy_s171 {post : Int32 → SY → Prop} {J151 : Int32 → Int32 → Int32 → Int32 → (Nat → Int32) → (Nat → Int32) → (Nat → Int32) → (Nat → Int32) → (Nat → Int32) → (Nat → Int32) → (Nat → Int32) → (Nat → Int32) → (Nat → Int32) → (Nat → Int32) → (Nat → Int32) → (Nat → Int32) → (Nat → Int32) → (Nat → Int32) → (Nat → Int32) → Prop}
    {s t : Nat} {rp : Nat → Int32} {P F : Nat → Nat → Int32} {w : ((Nat → Nat) × (Nat → Nat) × (Nat → Nat → Bool)) × (Nat → Bool)} (B : dc_B R L c) (T : dc_TY R L A c yco yat) (hs : s < R) (rR : ∀ r, r < R → yro r = rp r)
    (rP : dc_r2 R L ypr P) (rF : dc_r2 R L yfw F) (hA : ∀ k y, k < L → y < R → rp y = nI k → A k y = true) (rf : ∀ y, y < R → (yfr y = 0 ↔ w.2 y = false)) (Z : dc_ZY R L yrc yca ytr w.1)
    (hb : ∀ y, w.1.1 y ≤ 2497) (hb' : ∀ y, (dc_st R L rp (dc_can R A rp (P s) (F s)) w).1.1 y ≤ 5000)
    (h : ∀ (rc' ca' tr' fr' be' : Nat → Int32), dc_ZY R L rc' ca' tr' (dc_st R L rp (dc_can R A rp (P s) (F s)) w).1 → (∀ y, y < R → (fr' y = 0 ↔ (dc_st R L rp (dc_can R A rp (P s) (F s)) w).2 y = false)) → J151 (nI (t + 1)) (nI R) (nI L) (nI H) yco yat ypf ymb ypr yfw rc' ca' tr' yd yro fr' be' yne ycu) :
    ∃ n, wY_send_171 post J151 (nI s) (nI t) (nI R) (nI L) (nI H) n 0 yco yat ypf ymb ypr yfw yrc yca ytr yd yro yfr ybe yne ycu := by
  have B' := B
  obtain ⟨_, hR, _, hL, c1, c15⟩ := B'
  refine loop_0 (fun n i be => wY_send_171 post J151 (nI s) (nI t) (nI R) (nI L) (nI H) n (nI i) yco yat ypf ymb ypr yfw yrc yca ytr yd yro yfr be yne ycu) (fun i be => ∀ y, y < i → y < R → be y = nI (w.1.1 y)) R ybe (fun j z => absurd z (Nat.not_lt_zero j)) ?_ ?_
  · intro n be hbe
    refine br_t (dc_end (by omega)) (dy_doRound B T hs rR rP rF hA rf Z (fun rc' ca' tr' Z' => ?_))
    exact dy_s204 B (fun y hy => hbe y hy hy) Z'.1 (fun y => by have := hb y; omega) (fun y => by have := hb' y; have e : (dc_rd R L rp (dc_can R A rp (P s) (F s)) w.2 w.1).1 y ≤ 5000 := this; omega) (fun fr' g => h rc' ca' tr' fr' be Z' g)
  · intro n i be hi hbe hn
    refine br_f (dc_in hi (by omega)) ⟨vp_in_nI (by omega) (by omega), vp_in_nI (by omega) (by omega), nm_e (nm_r (nI_1 i) (hn _ ?_))⟩
    rw [dc_cl i (by omega), Z.1 i hi]
    intro y hy hy'
    by_cases e : y = i
    · rw [e]; exact pk_us
    · rw [pk_un e]; exact hbe y (by omega) hy'
/-- the rounds -/
theorem dy_s151 {post : Int32 → SY → Prop} {s : Nat} {rp : Nat → Int32} {P F : Nat → Nat → Int32} (B : dc_B R L c) (T : dc_TY R L A c yco yat) (hs : s < R) (rR : ∀ r, r < R → yro r = rp r)
    (rP : dc_r2 R L ypr P) (rF : dc_r2 R L yfw F) (hA : ∀ k y, k < L → y < R → rp y = nI k → A k y = true) (rf : ∀ y, y < R → (yfr y = 0 ↔ (dc_f0 s).2 y = false)) (Z : dc_ZY R L yrc yca ytr (dc_f0 s).1)
    (h : ∀ (rc' ca' tr' fr' be' : Nat → Int32), dc_ZY R L rc' ca' tr' (dc_fl R L rp (dc_can R A rp (P s) (F s)) (dc_f0 s) R).1 → ∃ n, wY_send_256 post (nI s) n 0 (nI R) (nI L) (nI H) yco yat ypf ymb ypr yfw rc' ca' tr' yd yro fr' be' yne ycu) :
    ∃ n, wY_send_151 post (nI s) n 0 (nI R) (nI L) (nI H) yco yat ypf ymb ypr yfw yrc yca ytr yd yro yfr ybe yne ycu := by
  have B' := B
  obtain ⟨_, hR, _, hL, c1, c15⟩ := B'
  have FI := fun n => dc_FIn (R := R) (L := L) (rp := rp) (can := dc_can R A rp (P s) (F s)) hs n
  have K : ∀ (n : Nat) (w : (Nat → Int32) × (Nat → Int32) × (Nat → Int32) × (Nat → Int32) × (Nat → Int32)), dc_ZY R L w.1 w.2.1 w.2.2.1 (dc_fl R L rp (dc_can R A rp (P s) (F s)) (dc_f0 s) n).1 → (∀ y, y < R → (dc_fl R L rp (dc_can R A rp (P s) (F s)) (dc_f0 s) n).2 y = false) →
      ∃ m, wY_send_256 post (nI s) m 0 (nI R) (nI L) (nI H) yco yat ypf ymb ypr yfw w.1 w.2.1 w.2.2.1 yd yro w.2.2.2.1 w.2.2.2.2 yne ycu := by
    intro n w z e
    rw [dc_fl_u hs e] at z
    exact h _ _ _ _ _ z
  refine loop_0 (fun n i (w : (Nat → Int32) × (Nat → Int32) × (Nat → Int32) × (Nat → Int32) × (Nat → Int32)) => wY_send_151 post (nI s) n (nI i) (nI R) (nI L) (nI H) yco yat ypf ymb ypr yfw w.1 w.2.1 w.2.2.1 yd yro w.2.2.2.1 w.2.2.2.2 yne ycu)
    (fun i w => dc_ZY R L w.1 w.2.1 w.2.2.1 (dc_fl R L rp (dc_can R A rp (P s) (F s)) (dc_f0 s) i).1 ∧ (∀ y, y < R → (w.2.2.2.1 y = 0 ↔ (dc_fl R L rp (dc_can R A rp (P s) (F s)) (dc_f0 s) i).2 y = false)))
    (R + 1) (yrc, yca, ytr, yfr, ybe) ⟨Z, rf⟩ ?_ ?_
  · intro n w ⟨z, f⟩
    refine br_t (nI_lt (by omega) (by omega)) (K (R + 1) w z ?_)
    exact (dc_fl_e (fun x _ => dc_fl_R (L := L) (rp := rp) (can := dc_can R A rp (P s) (F s)) hs x) 1).2
  · intro n i w hi ⟨z, f⟩ hn
    refine br_f (nI_nlt (by omega) (by omega)) (dy_anyFront B f (fun q => ?_) (fun q => ?_))
    · refine br_f (by decide) (dy_s171 B T hs rR rP rF hA f z (dc_FI_b (FI i) hR hL (by omega)) (fun y => ?_) (fun rc' ca' tr' fr' be' z' f' => hn (rc', ca', tr', fr', be') ⟨z', f'⟩))
      have a := dc_FI_b (FI i) hR hL (by omega) y
      have b := (dc_rd_b (R := R) (L := L) (rp := rp) (can := dc_can R A rp (P s) (F s)) (dc_fl R L rp (dc_can R A rp (P s) (F s)) (dc_f0 s) i).2 (dc_fl R L rp (dc_can R A rp (P s) (F s)) (dc_f0 s) i).1 y).2
      have d : R * L ≤ 12 * 16 := Nat.mul_le_mul hR hL
      show (dc_rd R L rp (dc_can R A rp (P s) (F s)) (dc_fl R L rp (dc_can R A rp (P s) (F s)) (dc_f0 s) i).2 (dc_fl R L rp (dc_can R A rp (P s) (F s)) (dc_f0 s) i).1).1 y ≤ 5000
      omega
    · exact br_t rfl (K i w z q)
end
