/-! the reference's growth of the needed set, its prunes, its answer -/
section
variable {R L H : Nat} {A : Nat → Nat → Bool} {c : Nat → Nat} {yco yat ypf ymb ypr yfw yrc yca ytr yd yro yfr ybe yne ycu : Nat → Int32}
theorem dy_grow53 {post : Int32 → SY → Prop} {J4 : Int32 → Int32 → (Nat → Int32) → (Nat → Int32) → (Nat → Int32) → (Nat → Int32) → (Nat → Int32) → (Nat → Int32) → (Nat → Int32) → (Nat → Int32) → (Nat → Int32) → (Nat → Int32) → (Nat → Int32) → (Nat → Int32) → (Nat → Int32) → (Nat → Int32) → (Nat → Int32) → Prop}
    {x1 : Int32} {y : Nat} (hy : y < 12) (h : J4 1 (nI (y + 1)) yco yat ypf ymb ypr yfw yrc yca ytr yd yro yfr ybe (upd yne y 1) ycu) : wY_growNeeded_53 post J4 x1 (nI y) (nI R) (nI L) (nI H) yco yat ypf ymb ypr yfw yrc yca ytr yd yro yfr ybe yne ycu := by
  refine ⟨vp_in_nI (by omega) (by omega), nm_e (nm_r (nI_1 y) ?_)⟩
  rw [dc_cl y (by omega), dc_nar1]
  exact h
theorem dy_grow {post : Int32 → SY → Prop} {s : Nat} {rp f : Nat → Int32} {rc : Nat → Nat} {mb : Nat → Int32} {N : Nat → Bool} (B : dc_B R L c) (hs : s < R) (rR : ∀ r, r < R → yro r = rp r) (rC : ∀ j, j < L → ycu j = f j)
    (rc1 : ∀ y, y < R → yrc y = nI (rc y)) (hb : ∀ y, rc y < 2 ^ 31) (rM : ∀ y, y < R → ymb y = mb y) (rN : ∀ y, y < R → (yne y = 0 ↔ N y = false))
    (hN : dc_Sd R L s rp f (fun y => decide (1 ≤ rc y)) (fun y => decide (¬ mb y = 0)) N)
    (h : ∀ (ne' : Nat → Int32) (N' : Nat → Bool) (b : Bool), (∀ y, y < R → (ne' y = 0 ↔ N' y = false)) → dc_NY R L s rp f (fun y => decide (1 ≤ rc y)) (fun y => decide (¬ mb y = 0)) N R N' b → post (if b = true then 1 else 0) (nI R, nI L, nI H, yco, yat, ypf, ymb, ypr, yfw, yrc, yca, ytr, yd, yro, yfr, ybe, ne', ycu)) : wpY_growNeeded post (nI R, nI L, nI H, yco, yat, ypf, ymb, ypr, yfw, yrc, yca, ytr, yd, yro, yfr, ybe, yne, ycu) (nI s) := by
  have B' := B
  obtain ⟨_, hR, _, hL, c1, c15⟩ := B'
  refine loop_0 (fun n i (w : Int32 × (Nat → Int32)) => wY_growNeeded_4 post (nI s) (nI R) (nI L) (nI H) n w.1 (nI i) yco yat ypf ymb ypr yfw yrc yca ytr yd yro yfr ybe w.2 ycu)
    (fun i w => ∃ N' b, w.1 = (if b = true then 1 else 0) ∧ (∀ y, y < R → (w.2 y = 0 ↔ N' y = false)) ∧ dc_NY R L s rp f (fun y => decide (1 ≤ rc y)) (fun y => decide (¬ mb y = 0)) N i N' b) R (0, yne) ⟨N, false, rfl, rN, dc_NY0 hN⟩ ?_ ?_
  · intro n w ⟨N', b, e, r1, r2⟩
    refine br_t (dc_end (by omega)) ⟨?_, ?_⟩
    · rw [e]; cases b <;> rfl
    · rw [e]; exact h w.2 N' b r1 r2
  · intro n y w hy ⟨N', b, e, r1, r2⟩ hn
    have keep : (dc_Ph R L s rp f (fun y => decide (1 ≤ rc y)) (fun y => decide (¬ mb y = 0)) N' y → N' y = true) → wY_growNeeded_4 post (nI s) (nI R) (nI L) (nI H) n w.1 (nI (y + 1)) yco yat ypf ymb ypr yfw yrc yca ytr yd yro yfr ybe w.2 ycu :=
      fun q => hn w ⟨N', b, e, r1, dc_NYn r2 q⟩
    have add : dc_Ph R L s rp f (fun y => decide (1 ≤ rc y)) (fun y => decide (¬ mb y = 0)) N' y → N' y = false → wY_growNeeded_4 post (nI s) (nI R) (nI L) (nI H) n 1 (nI (y + 1)) yco yat ypf ymb ypr yfw yrc yca ytr yd yro yfr ybe (upd w.2 y 1) ycu := by
      intro p q
      refine hn (1, upd w.2 y 1) ⟨fun i => if i = y then true else N' i, true, rfl, fun i hi => ?_, dc_NYa r2 hy p q (fun i _ => rfl)⟩
      show upd w.2 y 1 i = 0 ↔ (if i = y then true else N' i) = false
      by_cases z : i = y
      · rw [z, pk_us, if_pos rfl]
        exact ⟨fun t => absurd t (by decide), fun t => nomatch t⟩
      · rw [pk_un z, if_neg z]
        exact r1 i hi
    refine br_f (dc_in hy (by omega)) ?_
    by_cases zs : y = s
    · exact br_t (by rw [zs]) (nm_r (nI_1 y) (keep (fun p => absurd zs p.1)))
    · refine br_f (fun e => zs ((nI_eq (by omega) (by omega)).mp e)) ⟨vp_in_nI (by omega) (by omega), ?_⟩
      rw [dc_cl y (by omega), rc1 y hy, rM y hy]
      by_cases zr : rc y < 1
      · exact br_t (nI_lt (b := 1) zr (by decide)) (nm_r (nI_1 y) (keep (fun p => by have := of_decide_eq_true p.2.1; omega)))
      · refine br_f (nI_nlt (b := 1) (by omega) (hb y)) ⟨vp_in_nI (by omega) (by omega), ?_⟩
        by_cases zn : N' y = true
        · refine br_f (fun e => ?_) (nm_r (nI_1 y) (keep (fun _ => zn)))
          rw [(r1 y hy).mp e] at zn; exact nomatch zn
        · refine br_t ((r1 y hy).mpr (dc_bt zn)) ⟨vp_in_nI (by omega) (by omega), ?_⟩
          by_cases zm : mb y = 0
          · refine br_t zm (dy_serves B rR r1 rC (fun q => ?_) (fun q => ?_))
            · exact br_f (by decide) (dy_grow53 (by omega) (add ⟨zs, decide_eq_true (by omega), Or.inr q⟩ (dc_bt zn)))
            · exact br_t rfl (nm_r (nI_1 y) (keep (fun p => p.2.2.elim (fun t => absurd zm (of_decide_eq_true t)) (fun t => absurd t q))))
          · exact br_f zm (dy_grow53 (by omega) (add ⟨zs, decide_eq_true (by omega), Or.inl (decide_eq_true zm)⟩ (dc_bt zn)))
theorem dy_s382 {post : Int32 → SY → Prop} {rc : Nat → Nat} {mb : Nat → Int32} (B : dc_B R L c) (rc1 : ∀ y, y < R → yrc y = nI (rc y)) (hb : ∀ y, rc y < 2 ^ 31) (rM : ∀ y, y < R → ymb y = mb y)
    (h : post (nI (dc_cn (fun r => decide (¬ mb r = 0 ∧ 1 ≤ rc r)) R)) (nI R, nI L, nI H, yco, yat, ypf, ymb, ypr, yfw, yrc, yca, ytr, yd, yro, yfr, ybe, yne, ycu)) : ∃ n, wY_send_382 post (nI R) (nI L) (nI H) yco yat ypf ymb ypr yfw yrc yca ytr yd yro yfr ybe yne ycu n 0 0 := by
  obtain ⟨_, hR, _, hL, c1, c15⟩ := B
  refine loop_0 (fun n i v => wY_send_382 post (nI R) (nI L) (nI H) yco yat ypf ymb ypr yfw yrc yca ytr yd yro yfr ybe yne ycu n v (nI i)) (fun i v => v = nI (dc_cn (fun r => decide (¬ mb r = 0 ∧ 1 ≤ rc r)) i)) R 0 rfl ?_ ?_
  · intro n v hv
    subst hv
    exact br_t (dc_end (by omega)) h
  · intro n i v hi hv hn
    subst hv
    have no : ¬ (¬ mb i = 0 ∧ 1 ≤ rc i) → nI (dc_cn (fun r => decide (¬ mb r = 0 ∧ 1 ≤ rc r)) i) = nI (dc_cn (fun r => decide (¬ mb r = 0 ∧ 1 ≤ rc r)) (i + 1)) := by
      intro q
      simp only [dc_cn]
      rw [if_neg (show ¬ decide (¬ mb i = 0 ∧ 1 ≤ rc i) = true from fun w => q (of_decide_eq_true w)), Nat.add_zero]
    refine br_f (dc_in hi (by omega)) ⟨vp_in_nI (by omega) (by omega), ?_⟩
    rw [dc_cl i (by omega), rc1 i hi, rM i hi]
    by_cases zm : mb i = 0
    · exact br_t zm (nm_r (nI_1 i) (hn _ (no (fun w => w.1 zm))))
    · refine br_f zm ⟨vp_in_nI (by omega) (by omega), ?_⟩
      by_cases zr : rc i < 1
      · exact br_t (nI_lt (b := 1) zr (by decide)) (nm_r (nI_1 i) (hn _ (no (fun w => by omega))))
      · refine br_f (nI_nlt (b := 1) (by omega) (hb i)) (nm_r (nI_1 _) (nm_r (nI_1 i) (hn _ ?_)))
        simp only [dc_cn]
        rw [if_pos (show decide (¬ mb i = 0 ∧ 1 ≤ rc i) = true from decide_eq_true ⟨zm, by omega⟩)]
theorem dy_s333 {post : Int32 → SY → Prop} {s : Nat} {rp : Nat → Int32} {t : Nat → Nat → Bool} {N : Nat → Bool} {P : Nat → Nat → Int32} (B : dc_B R L c) (hs : s < R) (rR : ∀ r, r < R → yro r = rp r) (rT : ∀ k x, k < L → x < R → (ytr (k * 12 + x) = 0 ↔ t k x = false))
    (rN : ∀ y, y < R → (yne y = 0 ↔ N y = false)) (rP : dc_r2 R L ypr P)
    (h : ∀ (pr' : Nat → Int32), dc_r2 R L pr' (dc_pr R rp t N (nI H) s P L) → ∃ n, wY_send_382 post (nI R) (nI L) (nI H) yco yat ypf ymb pr' yfw yrc yca ytr yd yro yfr ybe yne ycu n 0 0) : ∃ n, wY_send_333 post (nI s) (nI R) (nI L) (nI H) n 0 yco yat ypf ymb ypr yfw yrc yca ytr yd yro yfr ybe yne ycu := by
  have B' := B
  obtain ⟨_, hR, _, hL, c1, c15⟩ := B'
  refine loop_0 (fun n i pr => wY_send_333 post (nI s) (nI R) (nI L) (nI H) n (nI i) yco yat ypf ymb pr yfw yrc yca ytr yd yro yfr ybe yne ycu) (fun i pr => dc_r2 R L pr (dc_pr R rp t N (nI H) s P i)) L ypr ?_ ?_ ?_
  · intro s' k' hs' hk'
    rw [rP s' k' hs' hk']
    unfold dc_pr
    rw [if_neg (show ¬ (s' = s ∧ k' < 0 ∧ 0 < dc_cn (t k') R ∧ dc_wb R rp N k' = false) from fun w => absurd w.2.1 (Nat.not_lt_zero k'))]
  · intro n pr hp
    exact br_t (dc_end (by omega)) (h pr hp)
  · intro n k pr hk hp hn
    have hc := dc_cn_le (t k) R
    have keep : ¬ (0 < dc_cn (t k) R ∧ dc_wb R rp N k = false) → dc_r2 R L pr (dc_pr R rp t N (nI H) s P (k + 1)) := by
      intro q s' k' hs' hk'
      rw [hp s' k' hs' hk']
      unfold dc_pr
      by_cases e : s' = s ∧ k' < k ∧ 0 < dc_cn (t k') R ∧ dc_wb R rp N k' = false
      · rw [if_pos e, if_pos (show s' = s ∧ k' < k + 1 ∧ 0 < dc_cn (t k') R ∧ dc_wb R rp N k' = false from ⟨e.1, by have := e.2.1; omega, e.2.2⟩)]
      · have g : ¬ (s' = s ∧ k' < k + 1 ∧ 0 < dc_cn (t k') R ∧ dc_wb R rp N k' = false) := by
          intro w
          by_cases z : k' = k
          · rw [z] at w; exact q w.2.2
          · exact e ⟨w.1, by have := w.2.1; omega, w.2.2⟩
        rw [if_neg e, if_neg g]
    refine br_f (dc_in hk (by omega)) (dy_countT B hk rT ?_)
    by_cases z0 : dc_cn (t k) R = 0
    · exact br_t (by rw [z0]; decide) (nm_r (nI_1 k) (hn _ (keep (fun w => by omega))))
    · refine br_f (nI_nle (by omega) (by omega)) (dy_wanted B rR rN (fun w => ?_) (fun w => ?_))
      · refine br_f (by decide) (nm_r (nI_1 k) (hn _ (keep (fun q => ?_))))
        rw [q.2] at w
        exact nomatch w
      · refine br_t rfl ⟨dc_v16 s k (by omega) (by omega), nm_e (nm_r (nI_1 k) (hn _ ?_))⟩
        rw [dc_c16 s k (by omega)]
        intro s' k' hs' hk'
        unfold dc_pr
        by_cases e : s' = s ∧ k' = k
        · rw [e.1, e.2, pk_us, if_pos (show s = s ∧ k < k + 1 ∧ 0 < dc_cn (t k) R ∧ dc_wb R rp N k = false from ⟨rfl, by omega, by omega, w⟩)]
        · rw [pk_un (show s' * 16 + k' ≠ s * 16 + k from fun w => e (by omega)), hp s' k' hs' hk']
          unfold dc_pr
          by_cases q : s' = s ∧ k' < k ∧ 0 < dc_cn (t k') R ∧ dc_wb R rp N k' = false
          · rw [if_pos q, if_pos (show s' = s ∧ k' < k + 1 ∧ 0 < dc_cn (t k') R ∧ dc_wb R rp N k' = false from ⟨q.1, by have := q.2.1; omega, q.2.2⟩)]
          · rw [if_neg q, if_neg (show ¬ (s' = s ∧ k' < k + 1 ∧ 0 < dc_cn (t k') R ∧ dc_wb R rp N k' = false) from fun w => q ⟨w.1, by have a1 := w.1; have a2 := w.2.1; omega, w.2.2⟩)]
/-- the passes: they end with the least closed set -/
theorem dy_s306 {post : Int32 → SY → Prop} {s : Nat} {rp f : Nat → Int32} {rc : Nat → Nat} {mb : Nat → Int32} (B : dc_B R L c) (hs : s < R) (rR : ∀ r, r < R → yro r = rp r) (rC : ∀ j, j < L → ycu j = f j)
    (rc1 : ∀ y, y < R → yrc y = nI (rc y)) (hb : ∀ y, rc y < 2 ^ 31) (rM : ∀ y, y < R → ymb y = mb y) (r0 : ∀ y, y < R → yne y = 0)
    (h : ∀ (ne' : Nat → Int32) (N' : Nat → Bool), (∀ y, y < R → (ne' y = 0 ↔ N' y = false)) → dc_Sd R L s rp f (fun y => decide (1 ≤ rc y)) (fun y => decide (¬ mb y = 0)) N' → dc_Cl R L s rp f (fun y => decide (1 ≤ rc y)) (fun y => decide (¬ mb y = 0)) N' →
      ∃ n, wY_send_333 post (nI s) (nI R) (nI L) (nI H) n 0 yco yat ypf ymb ypr yfw yrc yca ytr yd yro yfr ybe ne' ycu) : ∃ n, wY_send_306 post (nI s) n 0 (nI R) (nI L) (nI H) yco yat ypf ymb ypr yfw yrc yca ytr yd yro yfr ybe yne ycu := by
  have B' := B
  obtain ⟨_, hR, _, hL, c1, c15⟩ := B'
  refine loop_0 (fun n i ne => wY_send_306 post (nI s) n (nI i) (nI R) (nI L) (nI H) yco yat ypf ymb ypr yfw yrc yca ytr yd yro yfr ybe ne ycu)
    (fun i ne => ∃ N, (∀ y, y < R → (ne y = 0 ↔ N y = false)) ∧ dc_Sd R L s rp f (fun y => decide (1 ≤ rc y)) (fun y => decide (¬ mb y = 0)) N ∧ i ≤ dc_cn N R) (R + 1) yne
    ⟨fun _ => false, fun y hy => ⟨fun _ => rfl, fun _ => r0 y hy⟩, dc_Sd0 (fun _ _ => rfl), Nat.zero_le _⟩ ?_ ?_
  · intro n ne ⟨N, _, _, e⟩
    have := dc_cn_le N R
    omega
  · intro n i ne hi ⟨N, r1, r2, r3⟩ hn
    refine br_f (nI_nlt (by omega) (by omega)) (dy_grow B hs rR rC rc1 hb rM r1 r2 (fun ne' N' b q1 q2 => ?_))
    cases b with
    | false => exact br_t rfl (h ne' N' q1 q2.1 (dc_NYf q2))
    | true =>
      refine br_f (by decide) (nm_r (nI_1 i) (hn _ ⟨N', q1, q2.1, ?_⟩))
      have := dc_NYt q2
      omega
end
