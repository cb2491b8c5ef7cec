/-! the reference's election and the needed routers -/
theorem dc_E_le {R L : Nat} {A : Nat → Nat → Bool} {c : Nat → Nat} {s : Nat} {D : Nat → Nat} (h : dc_G R L A c s D) (c1 : ∀ k, k < L → 1 ≤ c k) (c15 : ∀ k, k < L → c k ≤ 15) (hR : R ≤ 12) {x q : Nat} (hx : x < R) (hq : q < R) : dc_E D 1000000 q < dc_E D 1000000 x ↔ ¬ D x ≤ D q := by
  have a := h.2.1 x hx
  have b := h.2.1 q hq
  by_cases y : D x < 1000
  · have a' := dc_G165 h c1 c15 hR hx y
    rw [dc_E_lt y]
    by_cases z : D q < 1000
    · rw [dc_E_lt z]; omega
    · rw [dc_E_ge z]; omega
  · rw [dc_E_ge y]
    by_cases z : D q < 1000
    · have b' := dc_G165 h c1 c15 hR hq z
      rw [dc_E_lt z]; omega
    · rw [dc_E_ge z]; omega
theorem dc_E_m {R L : Nat} {A : Nat → Nat → Bool} {c : Nat → Nat} {s : Nat} {D : Nat → Nat} (h : dc_G R L A c s D) {x : Nat} (hx : x < R) : dc_E D 1000000 x ≤ 1000000 := by
  have a := h.2.1 x hx
  by_cases y : D x < 1000
  · rw [dc_E_lt y]; omega
  · rw [dc_E_ge y] <;> exact Nat.le_refl _
section
variable {R L H : Nat} {A : Nat → Nat → Bool} {c : Nat → Nat} {yco yat ypf ymb ypr yfw yrc yca ytr yd yro yfr ybe yne ycu : Nat → Int32}
theorem dy_countT {post : Int32 → Prop} {k : Nat} {t : Nat → Nat → Bool} (B : dc_B R L c) (hk : k < L) (rT : ∀ k x, k < L → x < R → (ytr (k * 12 + x) = 0 ↔ t k x = false)) (h : post (nI (dc_cn (t k) R))) : wpY_countT post (nI R, nI L, nI H, yco, yat, ypf, ymb, ypr, yfw, yrc, yca, ytr, yd, yro, yfr, ybe, yne, ycu) (nI k) := by
  obtain ⟨_, hR, _, hL, _, _⟩ := B
  refine loop_0 (fun n i s => wY_countT_4 post (nI k) (nI R) (nI L) (nI H) yco yat ypf ymb ypr yfw yrc yca ytr yd yro yfr ybe yne ycu n s (nI i)) (fun i s => s = nI (dc_cn (t k) i)) R 0 rfl ?_ ?_
  · intro n s hs
    subst hs
    exact br_t (dc_end (by omega)) h
  · intro n i s hi hs hn
    subst hs
    refine br_f (dc_in hi (by omega)) ⟨dc_v12 k i (by omega) (by omega), ?_⟩
    rw [dc_c12 k i (by omega)]
    by_cases z : t k i = true
    · refine br_f (fun e => ?_) (nm_r (nI_1 _) (nm_r (nI_1 i) (hn _ ?_)))
      · rw [(rT k i hk hi).mp e] at z; exact nomatch z
      · simp only [dc_cn, if_pos z]
    · refine br_t ((rT k i hk hi).mpr (dc_bt z)) (nm_r (nI_1 i) (hn _ ?_))
      simp only [dc_cn, if_neg z, Nat.add_zero]
theorem dy_assert {post : SY → Prop} {s k : Nat} {t : Nat → Nat → Bool} {D : Nat → Nat} {pf : Nat → Int32} {F : Nat → Nat → Int32} (B : dc_B R L c) (G : dc_G R L A c s D) (hs : s < R) (hk : k < L) (rT : ∀ k x, k < L → x < R → (ytr (k * 12 + x) = 0 ↔ t k x = false))
    (rep : ∀ r, r < R → yd r = nI (dc_E D 1000000 r)) (rpf : ∀ r, r < R → ypf r = pf r) (rF : dc_r2 R L yfw (dc_fo R t (dc_be pf D) s F k))
    (h : ∀ (fw' : Nat → Int32), dc_r2 R L fw' (dc_fo R t (dc_be pf D) s F (k + 1)) → post (nI R, nI L, nI H, yco, yat, ypf, ymb, ypr, fw', yrc, yca, ytr, yd, yro, yfr, ybe, yne, ycu)) : wpY_assertLink post (nI R, nI L, nI H, yco, yat, ypf, ymb, ypr, yfw, yrc, yca, ytr, yd, yro, yfr, ybe, yne, ycu) (nI s) (nI k) := by
  have B' := B
  obtain ⟨_, hR, _, hL, c1, c15⟩ := B'
  have hc := dc_cn_le (t k) R
  refine dy_countT B hk rT ?_
  by_cases z2 : 2 ≤ dc_cn (t k) R
  · refine br_t (nI_le (a := 2) z2 (by omega)) ?_
    refine loop_0 (fun n i v => wY_assertLink_15 post (nI s) (nI k) (nI R) (nI L) (nI H) yco yat ypf ymb ypr yfw yrc yca ytr yd yro yfr ybe yne ycu n v (nI i)) (fun i v => v = dc_oI (dc_bs (t k) (dc_be pf D) i)) R (-1) rfl ?_ ?_
    · intro n v hv
      subst hv
      refine br_t (dc_end (by omega)) ⟨dc_v16 s k (by omega) (by omega), nm_e (h _ ?_)⟩
      rw [dc_c16 s k (by omega)]
      intro s' k' hs' hk'
      unfold dc_fo
      by_cases e : s' = s ∧ k' = k
      · rw [e.1, e.2, pk_us, if_pos (show s = s ∧ k < k + 1 ∧ 2 ≤ dc_cn (t k) R from ⟨rfl, by omega, z2⟩)]
      · rw [pk_un (show s' * 16 + k' ≠ s * 16 + k from fun w => e (by omega)), rF s' k' hs' hk']
        unfold dc_fo
        by_cases q : s' = s ∧ k' < k ∧ 2 ≤ dc_cn (t k') R
        · rw [if_pos q, if_pos (show s' = s ∧ k' < k + 1 ∧ 2 ≤ dc_cn (t k') R from ⟨q.1, by omega, q.2.2⟩)]
        · rw [if_neg q, if_neg (show ¬ (s' = s ∧ k' < k + 1 ∧ 2 ≤ dc_cn (t k') R) from fun w => q ⟨w.1, by have a1 := w.1; have a2 := w.2.1; omega, w.2.2⟩)]
    · intro n i v hi hv hn
      subst hv
      refine br_f (dc_in hi (by omega)) ⟨dc_v12 k i (by omega) (by omega), ?_⟩
      rw [dc_c12 k i (by omega)]
      by_cases z : t k i = true
      · refine br_f (fun e => ?_) ?_
        · rw [(rT k i hk hi).mp e] at z; exact nomatch z
        cases e : dc_bs (t k) (dc_be pf D) i with
        | none => exact br_t (by decide) (nm_r (nI_1 i) (hn _ (congrArg dc_oI (dc_bs_s1 z e)).symm))
        | some q =>
          have hq := (dc_bs_m e).1
          have Eqq := dc_E_m G (show q < R by omega)
          have Ei := dc_E_m G hi
          rw [show dc_oI (some q) = nI q from rfl]
          refine br_f (nI_pos (by omega)) ⟨vp_in_nI (by omega) (by omega), vp_in_nI (by omega) (by omega), ?_⟩
          rw [dc_cl i (by omega), dc_cl q (by omega), rpf i hi, rpf q (by omega)]
          by_cases p1 : pf i < pf q
          · exact br_t p1 (nm_r (nI_1 i) (hn _ (congrArg dc_oI (dc_bs_s2 z e (decide_eq_true (Or.inl p1)))).symm))
          · refine br_f p1 ⟨vp_in_nI (by omega) (by omega), vp_in_nI (by omega) (by omega), ?_⟩
            by_cases p2 : pf i = pf q
            · refine br_t p2 ⟨vp_in_nI (by omega) (by omega), vp_in_nI (by omega) (by omega), ?_⟩
              rw [rep i hi, rep q (by omega)]
              have le := dc_E_le G c1 c15 hR hi (show q < R by omega)
              by_cases p3 : D i ≤ D q
              · exact br_f (fun w => le.mp ((nI_ltI (by omega) (by omega)).mp w) p3) (nm_r (nI_1 i) (hn _ (congrArg dc_oI (dc_bs_s2 z e (decide_eq_true (Or.inr ⟨p2, p3⟩)))).symm))
              · exact br_t (nI_lt (le.mpr p3) (by omega)) (nm_r (nI_1 i) (hn _ (congrArg dc_oI (dc_bs_s3 z e (fun w => (of_decide_eq_true w).elim p1 (fun t => p3 t.2)))).symm))
            · exact br_f p2 (nm_r (nI_1 i) (hn _ (congrArg dc_oI (dc_bs_s3 z e (fun w => (of_decide_eq_true w).elim p1 (fun t => p2 t.1)))).symm))
      · exact br_t ((rT k i hk hi).mpr (dc_bt z)) (nm_r (nI_1 i) (hn _ (congrArg dc_oI (dc_bs_s0 z)).symm))
  · refine br_f (nI_ge (b := 2) (by omega) (by decide)) (h _ ?_)
    intro s' k' hs' hk'
    rw [rF s' k' hs' hk']
    unfold dc_fo
    by_cases q : s' = s ∧ k' < k ∧ 2 ≤ dc_cn (t k') R
    · rw [if_pos q, if_pos (show s' = s ∧ k' < k + 1 ∧ 2 ≤ dc_cn (t k') R from ⟨q.1, by omega, q.2.2⟩)]
    · have g : ¬ (s' = s ∧ k' < k + 1 ∧ 2 ≤ dc_cn (t k') R) := by
        intro w
        by_cases e : k' = k
        · rw [e] at w; exact z2 w.2.2
        · exact q ⟨w.1, by omega, w.2.2⟩
      rw [if_neg q, if_neg g]
theorem dy_this {post : Int32 → Prop} {s k : Nat} {t : Nat → Nat → Bool} {b : Nat → Nat → Bool} {F : Nat → Nat → Int32} (B : dc_B R L c) (hs : s < R) (hk : k < L) (rT : ∀ k x, k < L → x < R → (ytr (k * 12 + x) = 0 ↔ t k x = false)) (rF : dc_r2 R L yfw (dc_fo R t b s F L))
    (h : post (dc_oI (dc_bs (t k) b R))) : wpY_thisForwarder post (nI R, nI L, nI H, yco, yat, ypf, ymb, ypr, yfw, yrc, yca, ytr, yd, yro, yfr, ybe, yne, ycu) (nI s) (nI k) := by
  have B' := B
  obtain ⟨_, hR, _, hL, c1, c15⟩ := B'
  have hc := dc_cn_le (t k) R
  refine dy_countT B hk rT ?_
  by_cases z0 : dc_cn (t k) R = 0
  · rw [dc_bs_n (fun i hi => dc_cn_zero z0 hi)] at h
    exact br_t (by rw [z0] <;> rfl) h
  · refine br_f (nI_ne0 (by omega) (by omega)) ?_
    by_cases z2 : dc_cn (t k) R < 2
    · refine br_t (nI_lt (b := 2) z2 (by decide)) ?_
      refine loop_0 (fun n i v => wY_thisForwarder_35 post (nI k) (nI R) (nI L) (nI H) yco yat ypf ymb ypr yfw yrc yca ytr yd yro yfr ybe yne ycu n v (nI i)) (fun i v => v = dc_us (t k) i) R (-1) rfl ?_ ?_
      · intro n v hv
        subst hv
        refine br_t (dc_end (by omega)) ?_
        rcases dc_us_or (t k) R with ⟨_, a⟩ | ⟨q, hq, a, e⟩
        · exfalso
          obtain ⟨j, hj, w⟩ := dc_cn_some (p := t k) (n := R) (by omega)
          rw [a j hj] at w
          exact nomatch w
        · rw [dc_bs_1 z2 hq a] at h
          rw [e]
          exact h
      · intro n i v hi hv hn
        subst hv
        refine br_f (dc_in hi (by omega)) ⟨dc_v12 k i (by omega) (by omega), ?_⟩
        rw [dc_c12 k i (by omega)]
        by_cases z : t k i = true
        · refine br_f (fun e => ?_) (nm_r (nI_1 i) (hn _ (dc_us_1 z).symm))
          rw [(rT k i hk hi).mp e] at z; exact nomatch z
        · exact br_t ((rT k i hk hi).mpr (dc_bt z)) (nm_r (nI_1 i) (hn _ (dc_us_0 z).symm))
    · refine br_f (nI_nlt (b := 2) (by omega) (by omega)) ⟨dc_v16 s k (by omega) (by omega), ?_⟩
      rw [dc_c16 s k (by omega), rF s k hs hk]
      unfold dc_fo
      rw [if_pos (show s = s ∧ k < L ∧ 2 ≤ dc_cn (t k) R from ⟨rfl, hk, by omega⟩)]
      exact h
theorem dy_wanted {post : Int32 → Prop} {k : Nat} {rp : Nat → Int32} {N : Nat → Bool} (B : dc_B R L c) (rR : ∀ r, r < R → yro r = rp r) (rN : ∀ y, y < R → (yne y = 0 ↔ N y = false))
    (h1 : dc_wb R rp N k = true → post 1) (h0 : dc_wb R rp N k = false → post 0) : wpY_wanted post (nI R, nI L, nI H, yco, yat, ypf, ymb, ypr, yfw, yrc, yca, ytr, yd, yro, yfr, ybe, yne, ycu) (nI k) := by
  obtain ⟨_, hR, _, hL, c1, c15⟩ := B
  refine loop_0 (fun n i (_ : Unit) => wY_wanted_2 post (nI k) (nI R) (nI L) (nI H) yco yat ypf ymb ypr yfw yrc yca ytr yd yro yfr ybe yne ycu n (nI i)) (fun i _ => ∀ z, z < i → N z = true → ¬ rp z = nI k) R () (fun q z => absurd z (Nat.not_lt_zero q)) ?_ ?_
  · intro n _ hs
    refine br_t (dc_end (by omega)) (h0 (dc_bt (fun w => ?_)))
    obtain ⟨z, hz, n1, e⟩ := dc_wb_1.mp w
    exact hs z hz n1 e
  · intro n i _ hi hs hn
    have no : ∀ (w : N i = true → ¬ rp i = nI k) z, z < i + 1 → N z = true → ¬ rp z = nI k := by
      intro w z hz
      by_cases e : z = i
      · rw [e]; exact w
      · exact hs z (by omega)
    refine br_f (dc_in hi (by omega)) ⟨vp_in_nI (by omega) (by omega), ?_⟩
    rw [dc_cl i (by omega)]
    by_cases zn : N i = true
    · refine br_f (fun e => ?_) ⟨vp_in_nI (by omega) (by omega), ?_⟩
      · rw [(rN i hi).mp e] at zn; exact nomatch zn
      rw [rR i hi]
      by_cases zr : rp i = nI k
      · exact br_t zr (h1 (dc_wb_1.mpr ⟨i, hi, zn, zr⟩))
      · exact br_f zr (nm_r (nI_1 i) (hn () (no (fun _ => zr))))
    · exact br_t ((rN i hi).mpr (dc_bt zn)) (nm_r (nI_1 i) (hn () (no (fun w => absurd w zn))))
theorem dy_serves {post : Int32 → Prop} {y : Nat} {rp f : Nat → Int32} {N : Nat → Bool} (B : dc_B R L c) (rR : ∀ r, r < R → yro r = rp r) (rN : ∀ y, y < R → (yne y = 0 ↔ N y = false)) (rC : ∀ j, j < L → ycu j = f j)
    (h1 : (∃ j, j < L ∧ f j = nI y ∧ dc_W R rp N j) → post 1) (h0 : (¬ ∃ j, j < L ∧ f j = nI y ∧ dc_W R rp N j) → post 0) : wpY_servesWanted post (nI R, nI L, nI H, yco, yat, ypf, ymb, ypr, yfw, yrc, yca, ytr, yd, yro, yfr, ybe, yne, ycu) (nI y) := by
  have B' := B
  obtain ⟨_, hR, _, hL, c1, c15⟩ := B'
  refine loop_0 (fun n i (_ : Unit) => wY_servesWanted_2 post (nI y) (nI R) (nI L) (nI H) yco yat ypf ymb ypr yfw yrc yca ytr yd yro yfr ybe yne ycu n (nI i)) (fun i _ => ∀ j, j < i → f j = nI y → ¬ dc_W R rp N j) L () (fun q z => absurd z (Nat.not_lt_zero q)) ?_ ?_
  · intro n _ hs
    exact br_t (dc_end (by omega)) (h0 (fun ⟨j, hj, e, w⟩ => hs j hj e w))
  · intro n i _ hi hs hn
    have no : ∀ (w : f i = nI y → ¬ dc_W R rp N i) z, z < i + 1 → f z = nI y → ¬ dc_W R rp N z := by
      intro w z hz
      by_cases e : z = i
      · rw [e]; exact w
      · exact hs z (by omega)
    refine br_f (dc_in hi (by omega)) ⟨vp_in_nI (by omega) (by omega), ?_⟩
    rw [dc_cl i (by omega), rC i hi]
    by_cases zf : f i = nI y
    · refine br_t zf (dy_wanted (rp := rp) (N := N) B rR rN (fun w => ?_) (fun w => ?_))
      · exact br_f (by decide) (h1 ⟨i, hi, zf, dc_wb_1.mp w⟩)
      · exact br_t rfl (nm_r (nI_1 i) (hn () (no (fun _ q => by rw [dc_wb_1.mpr q] at w; exact nomatch w))))
    · exact br_f zf (nm_r (nI_1 i) (hn () (no (fun q => absurd q zf))))
end
