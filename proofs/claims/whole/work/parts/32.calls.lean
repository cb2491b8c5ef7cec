/-! join, leave, send, tick -/
theorem i_vc_join {k : Nat} {u : SX} {v : SY} (I : i_Rel k u v) (hk : k + 3 ≤ 1539) (v1 : Int32) : wpX_join (fun r u' => wpY_join (fun r' v' => r' = r ∧ i_Rel (k + 3) u' v') v v1) u v1 := by
  obtain ⟨R, L, H, A, c, pf, mb, D, rp, P, F, rc, ca, B, hH, Q, hF, hP, X, Y⟩ := I
  obtain ⟨xR, xL, xH, xas, xlc, xpf, xmb, xrd, xrp, xpt, xaw, xrc, xcc, xts, xpk⟩ := u
  obtain ⟨yR, yL, yH, yco, yat, ypf, ymb, ypr, yfw, yrc, yca, ytr, yd, yro, yfr, ybe, yne, ycu⟩ := v
  obtain ⟨rfl, rfl, rfl, TX, Xpf, Xmb, XD, XR, XP, XF, Xrc, Xca⟩ := X
  obtain ⟨rfl, rfl, rfl, TY, Ypf, Ymb, YP, YF, Yrc, Yca⟩ := Y
  have hR : R ≤ 12 := B.2.1
  have hL : L ≤ 16 := B.2.2.2.1
  have same : i_Rel (k + 3) (nI R, nI L, nI H, xas, xlc, xpf, xmb, xrd, xrp, xpt, xaw, xrc, xcc, xts, xpk) (nI R, nI L, nI H, yco, yat, ypf, ymb, ypr, yfw, yrc, yca, ytr, yd, yro, yfr, ybe, yne, ycu) :=
    ⟨R, L, H, A, c, pf, mb, D, rp, P, F, rc, ca, B, hH, Q, hF, hP, ⟨rfl, rfl, rfl, TX, Xpf, Xmb, XD, XR, XP, XF, Xrc, Xca⟩, ⟨rfl, rfl, rfl, TY, Ypf, Ymb, YP, YF, Yrc, Yca⟩⟩
  unfold wpX_join
  rcases dc_ix v1 (n := R) (by omega) with a | ⟨j, hj, e⟩
  · refine dx_router0 a (br_t rfl ?_)
    rcases a with a | ⟨a, b⟩
    · exact br_t a ⟨rfl, same⟩
    · exact br_f a (br_t b ⟨rfl, same⟩)
  · subst e
    refine dx_router1 hj hR (br_f (by decide) ⟨vp_in_nI (by omega) (by omega), ?_⟩)
    rw [dc_cl j (by omega), Xmb j hj]
    by_cases z : mb j = 0
    · refine br_t z ⟨vp_in_nI (by omega) (by omega), nm_e (dx_join28 B TX Q XD XR hj hF XF XP (fun pt' g => ?_))⟩
      refine br_f (nI_pos (by omega)) (br_f (dc_in hj (by omega)) ⟨vp_in_nI (by omega) (by omega), ?_⟩)
      rw [dc_cl j (by omega), Ymb j hj]
      refine br_t z ⟨vp_in_nI (by omega) (by omega), nm_e (dy_join32 B TY Q hj hF YF YP (fun pr' d' g' => ⟨rfl, ?_⟩))⟩
      exact ⟨R, L, H, A, c, pf, upd mb j (vp_nar .boolean 1), D, rp, dc_jn R A c D rp F j P R, F, rc, ca, B, hH, Q, hF, dc_jn_pm hP R, ⟨rfl, rfl, rfl, TX, Xpf, dc_row Xmb j _, XD, XR, g, XF, Xrc, Xca⟩, ⟨rfl, rfl, rfl, TY, Ypf, dc_row Ymb j _, g', YF, Yrc, Yca⟩⟩
    · refine br_f z (br_f (nI_pos (by omega)) (br_f (dc_in hj (by omega)) ⟨vp_in_nI (by omega) (by omega), ?_⟩))
      rw [dc_cl j (by omega), Ymb j hj]
      exact br_f z ⟨rfl, same⟩
theorem i_vc_leave {k : Nat} {u : SX} {v : SY} (I : i_Rel k u v) (hk : k + 3 ≤ 1539) (v1 : Int32) : wpX_leave (fun r u' => wpY_leave (fun r' v' => r' = r ∧ i_Rel (k + 3) u' v') v v1) u v1 := by
  obtain ⟨R, L, H, A, c, pf, mb, D, rp, P, F, rc, ca, B, hH, Q, hF, hP, X, Y⟩ := I
  obtain ⟨xR, xL, xH, xas, xlc, xpf, xmb, xrd, xrp, xpt, xaw, xrc, xcc, xts, xpk⟩ := u
  obtain ⟨yR, yL, yH, yco, yat, ypf, ymb, ypr, yfw, yrc, yca, ytr, yd, yro, yfr, ybe, yne, ycu⟩ := v
  obtain ⟨rfl, rfl, rfl, TX, Xpf, Xmb, XD, XR, XP, XF, Xrc, Xca⟩ := X
  obtain ⟨rfl, rfl, rfl, TY, Ypf, Ymb, YP, YF, Yrc, Yca⟩ := Y
  have hR : R ≤ 12 := B.2.1
  have hL : L ≤ 16 := B.2.2.2.1
  have same : i_Rel (k + 3) (nI R, nI L, nI H, xas, xlc, xpf, xmb, xrd, xrp, xpt, xaw, xrc, xcc, xts, xpk) (nI R, nI L, nI H, yco, yat, ypf, ymb, ypr, yfw, yrc, yca, ytr, yd, yro, yfr, ybe, yne, ycu) :=
    ⟨R, L, H, A, c, pf, mb, D, rp, P, F, rc, ca, B, hH, Q, hF, hP, ⟨rfl, rfl, rfl, TX, Xpf, Xmb, XD, XR, XP, XF, Xrc, Xca⟩, ⟨rfl, rfl, rfl, TY, Ypf, Ymb, YP, YF, Yrc, Yca⟩⟩
  unfold wpX_leave
  rcases dc_ix v1 (n := R) (by omega) with a | ⟨j, hj, e⟩
  · refine dx_router0 a (br_t rfl ?_)
    rcases a with a | ⟨a, b⟩
    · exact br_t a ⟨rfl, same⟩
    · exact br_f a (br_t b ⟨rfl, same⟩)
  · subst e
    refine dx_router1 hj hR (br_f (by decide) ⟨vp_in_nI (by omega) (by omega), ?_⟩)
    rw [dc_cl j (by omega), Xmb j hj]
    by_cases z : mb j = 0
    · refine br_t z (br_f (nI_pos (by omega)) (br_f (dc_in hj (by omega)) ⟨vp_in_nI (by omega) (by omega), ?_⟩))
      rw [dc_cl j (by omega), Ymb j hj]
      exact br_t z ⟨rfl, same⟩
    · refine br_f z ⟨vp_in_nI (by omega) (by omega), nm_e (br_f (nI_pos (by omega)) (br_f (dc_in hj (by omega)) ⟨vp_in_nI (by omega) (by omega), ?_⟩))⟩
      rw [dc_cl j (by omega), Ymb j hj]
      refine br_f z ⟨vp_in_nI (by omega) (by omega), nm_e ⟨rfl, ?_⟩⟩
      exact ⟨R, L, H, A, c, pf, upd mb j (vp_nar .boolean 0), D, rp, P, F, rc, ca, B, hH, Q, hF, hP, ⟨rfl, rfl, rfl, TX, Xpf, dc_row Xmb j _, XD, XR, XP, XF, Xrc, Xca⟩, ⟨rfl, rfl, rfl, TY, Ypf, dc_row Ymb j _, YP, YF, Yrc, Yca⟩⟩
theorem i_vc_send {k : Nat} {u : SX} {v : SY} (I : i_Rel k u v) (hk : k + 3 ≤ 1539) (v1 : Int32) : wpX_send (fun r u' => wpY_send (fun r' v' => r' = r ∧ i_Rel (k + 3) u' v') v v1) u v1 := by
  obtain ⟨R, L, H, A, c, pf, mb, D, rp, P, F, rc, ca, B, hH, Q, hF, hP, X, Y⟩ := I
  obtain ⟨xR, xL, xH, xas, xlc, xpf, xmb, xrd, xrp, xpt, xaw, xrc, xcc, xts, xpk⟩ := u
  obtain ⟨yR, yL, yH, yco, yat, ypf, ymb, ypr, yfw, yrc, yca, ytr, yd, yro, yfr, ybe, yne, ycu⟩ := v
  obtain ⟨rfl, rfl, rfl, TX, Xpf, Xmb, XD, XR, XP, XF, Xrc, Xca⟩ := X
  obtain ⟨rfl, rfl, rfl, TY, Ypf, Ymb, YP, YF, Yrc, Yca⟩ := Y
  have hR : R ≤ 12 := B.2.1
  have hL : L ≤ 16 := B.2.2.2.1
  have same : i_Rel (k + 3) (nI R, nI L, nI H, xas, xlc, xpf, xmb, xrd, xrp, xpt, xaw, xrc, xcc, xts, xpk) (nI R, nI L, nI H, yco, yat, ypf, ymb, ypr, yfw, yrc, yca, ytr, yd, yro, yfr, ybe, yne, ycu) :=
    ⟨R, L, H, A, c, pf, mb, D, rp, P, F, rc, ca, B, hH, Q, hF, hP, ⟨rfl, rfl, rfl, TX, Xpf, Xmb, XD, XR, XP, XF, Xrc, Xca⟩, ⟨rfl, rfl, rfl, TY, Ypf, Ymb, YP, YF, Yrc, Yca⟩⟩
  rcases dc_ix v1 (n := R) (by omega) with a | ⟨j, hj, e⟩
  · unfold wpX_send
    refine dx_router0 a (br_t rfl ?_)
    rcases a with a | ⟨a, b⟩
    · exact br_t a ⟨rfl, same⟩
    · exact br_f a (br_f (Int32.not_lt.mpr b) ⟨rfl, same⟩)
  · subst e
    refine dx_send B TX Q hj Xpf Xmb XD XR XP XF (fun N pt' aw' rc' cc' ts' pk' a1 a2 a3 a4 a5 a6 => ?_)
    refine dy_send B TY Q hj Ypf Ymb YP YF (fun N' pr' fw' rc2 ca2 tr' d' ro' fr' be' ne' cu' b1 b2 b3 b4 b5 b6 => ⟨rfl, ?_⟩)
    exact ⟨R, L, H, A, c, pf, mb, D, rp, dc_pr R (rp j) (dc_sz R L A rp P F j).2.2 N (nI H) j P L, dc_fo R (dc_sz R L A rp P F j).2.2 (dc_be pf (D j)) j F L, fun y => nI ((dc_sz R L A rp P F j).1 y), fun k => nI ((dc_sz R L A rp P F j).2.1 k), B, hH, Q, dc_fo_fw hF L, dc_pr_pm hP hH L,
      ⟨rfl, rfl, rfl, TX, Xpf, Xmb, XD, XR, a3, a4, a5, a6⟩, ⟨rfl, rfl, rfl, TY, Ypf, Ymb, dc_pr_N (fun y hy => dc_N_u b1 b2 a1 a2 hy) b3, b4, b5, b6⟩⟩
/-- the timers after m ticks -/
def dc_tk (P : Nat → Nat → Int32) (m : Nat) : Nat → Nat → Int32 := fun s k => nI ((P s k).toNatClampNeg - m)
theorem dc_tk_pm {R L : Nat} {P : Nat → Nat → Int32} (h : dc_pm R L P) (m : Nat) : dc_pm R L (dc_tk P m) := by
  intro s k hs hk
  obtain ⟨p, hp, e⟩ := h s k hs hk
  refine ⟨p - m, by omega, ?_⟩
  unfold dc_tk
  rw [e, nI_clamp (by omega)]
section
variable {R L H : Nat} {xas xlc xpf xmb xrd xrp xpt xaw xrc xcc xts xpk : Nat → Int32} {yco yat ypf ymb ypr yfw yrc yca ytr yd yro yfr ybe yne ycu : Nat → Int32}
theorem dx_tick21 {post : SX → Prop} {m : Nat} {P : Nat → Nat → Int32} (hR : R ≤ 12) (hL : L ≤ 16) (hm : m ≤ 64) (hP : dc_pm R L P) (XP : dc_r2 R L xpt P) (h : ∀ (pt' : Nat → Int32), dc_r2 R L pt' (dc_tk P m) → post (nI R, nI L, nI H, xas, xlc, xpf, xmb, xrd, xrp, pt', xaw, xrc, xcc, xts, xpk)) : ∃ n, wX_tick_21 post (nI m) (nI R) (nI L) (nI H) n 0 xas xlc xpf xmb xrd xrp xpt xaw xrc xcc xts xpk := by
  refine loop_0 (fun n i pt => wX_tick_21 post (nI m) (nI R) (nI L) (nI H) n (nI i) xas xlc xpf xmb xrd xrp pt xaw xrc xcc xts xpk) (fun i pt => ∀ s k, s < R → k < L → pt (s * 16 + k) = if s < i then dc_tk P m s k else P s k) R xpt ?_ ?_ ?_
  · intro s k hs hk
    rw [if_neg (Nat.not_lt_zero s)]
    exact XP s k hs hk
  · intro n pt e
    exact br_t (dc_end (by omega)) (h pt (fun s k hs hk => by rw [e s k hs hk, if_pos hs]))
  · intro n s pt hs e hn
    refine br_f (dc_in hs (by omega)) ?_
    refine loop_0 (fun n' i pt => wX_tick_32 post (wX_tick_21 post (nI m) (nI R) (nI L) (nI H) n) (nI m) (nI s) (nI R) (nI L) (nI H) n' (nI i) xas xlc xpf xmb xrd xrp pt xaw xrc xcc xts xpk) (fun i pt => ∀ s' k, s' < R → k < L → pt (s' * 16 + k) = if s' < s ∨ (s' = s ∧ k < i) then dc_tk P m s' k else P s' k) L pt ?_ ?_ ?_
    · intro s' k hs' hk
      rw [e s' k hs' hk]
      by_cases q : s' < s
      · rw [if_pos q, if_pos (show s' < s ∨ (s' = s ∧ k < 0) from Or.inl q)]
      · rw [if_neg q, if_neg (show ¬ (s' < s ∨ (s' = s ∧ k < 0)) by omega)]
    · intro n' pt e'
      refine br_t (dc_end (by omega)) (nm_r (nI_1 s) (hn _ (fun s' k hs' hk => ?_)))
      rw [e' s' k hs' hk]
      by_cases q : s' < s + 1
      · rw [if_pos q, if_pos (show s' < s ∨ (s' = s ∧ k < L) by omega)]
      · rw [if_neg q, if_neg (show ¬ (s' < s ∨ (s' = s ∧ k < L)) by omega)]
    · intro n' i pt hi e' hn'
      have put : ∀ x, x = dc_tk P m s i → ∀ s' k, s' < R → k < L → upd pt (s * 16 + i) x (s' * 16 + k) = if s' < s ∨ (s' = s ∧ k < i + 1) then dc_tk P m s' k else P s' k := by
        intro x hx s' k hs' hk
        by_cases q : s' = s ∧ k = i
        · rw [q.1, q.2, pk_us, if_pos (show s < s ∨ (s = s ∧ i < i + 1) by omega)]
          exact hx
        · rw [pk_un (show s' * 16 + k ≠ s * 16 + i from fun w => q (by omega)), e' s' k hs' hk]
          by_cases y : s' < s ∨ (s' = s ∧ k < i)
          · rw [if_pos y, if_pos (show s' < s ∨ (s' = s ∧ k < i + 1) by omega)]
          · rw [if_neg y, if_neg (show ¬ (s' < s ∨ (s' = s ∧ k < i + 1)) by omega)]
      have here : pt (s * 16 + i) = P s i := by
        rw [e' s i hs hi, if_neg (show ¬ (s < s ∨ (s = s ∧ i < i)) by omega)]
      obtain ⟨p, hp, ep⟩ := hP s i hs hi
      have tk : dc_tk P m s i = nI (p - m) := by
        unfold dc_tk
        rw [ep, nI_clamp (by omega)]
      refine br_f (dc_in hi (by omega)) (nm_r (dc_i16 s i) ⟨vp_in_nI (by omega) (by omega), ?_⟩)
      rw [dc_cl (s * 16 + i) (by omega), here, ep]
      by_cases q : p ≤ m
      · refine br_t (nI_le q (by omega)) ⟨vp_in_nI (by omega) (by omega), nm_e (nm_r (nI_1 i) (hn' _ (put _ ?_)))⟩
        rw [tk, show p - m = 0 by omega] <;> rfl
      · refine br_f (fun w => q ((nI_leI (by omega) (by omega)).mp w)) ⟨vp_in_nI (by omega) (by omega), vp_in_nI (by omega) (by omega), nm_e (nm_r (nI_1 i) (hn' _ (put _ ?_)))⟩
        rw [tk, pk_sub (by omega)]
theorem dy_tick21 {post : SY → Prop} {m : Nat} {P : Nat → Nat → Int32} (hR : R ≤ 12) (hL : L ≤ 16) (hm : m ≤ 64) (hP : dc_pm R L P) (YP : dc_r2 R L ypr P) (h : ∀ (pr' : Nat → Int32), dc_r2 R L pr' (dc_tk P m) → post (nI R, nI L, nI H, yco, yat, ypf, ymb, pr', yfw, yrc, yca, ytr, yd, yro, yfr, ybe, yne, ycu)) : ∃ n, wY_tick_21 post (nI m) (nI R) (nI L) (nI H) n 0 yco yat ypf ymb ypr yfw yrc yca ytr yd yro yfr ybe yne ycu := by
  refine loop_0 (fun n i pr => wY_tick_21 post (nI m) (nI R) (nI L) (nI H) n (nI i) yco yat ypf ymb pr yfw yrc yca ytr yd yro yfr ybe yne ycu) (fun i pr => ∀ s k, s < R → k < L → pr (s * 16 + k) = if s * 16 + k < i then dc_tk P m s k else P s k) 192 ypr ?_ ?_ ?_
  · intro s k hs hk
    rw [if_neg (Nat.not_lt_zero _)]
    exact YP s k hs hk
  · intro n pr e
    exact br_t (dc_end (n := 192) (by omega)) (h pr (fun s k hs hk => by rw [e s k hs hk, if_pos (show s * 16 + k < 192 by omega)]))
  · intro n i pr hi e hn
    have put : ∀ x, (∀ s k, s < R → k < L → i = s * 16 + k → x = dc_tk P m s k) → ∀ s k, s < R → k < L → upd pr i x (s * 16 + k) = if s * 16 + k < i + 1 then dc_tk P m s k else P s k := by
      intro x hx s k hs hk
      by_cases q : s * 16 + k = i
      · rw [q, pk_us, if_pos (show i < i + 1 by omega)]
        exact hx s k hs hk q.symm
      · rw [pk_un q, e s k hs hk]
        by_cases y : s * 16 + k < i
        · rw [if_pos y, if_pos (show s * 16 + k < i + 1 by omega)]
        · rw [if_neg y, if_neg (show ¬ s * 16 + k < i + 1 by omega)]
    have here : ∀ s k, s < R → k < L → i = s * 16 + k → ∃ p, p ≤ 16 ∧ pr i = nI p ∧ dc_tk P m s k = nI (p - m) := by
      intro s k hs hk q
      obtain ⟨p, hp, ep⟩ := hP s k hs hk
      refine ⟨p, hp, ?_, ?_⟩
      · rw [q, e s k hs hk, if_neg (show ¬ s * 16 + k < i by omega), ep]
      · unfold dc_tk
        rw [ep, nI_clamp (by omega)]
    refine br_f (dc_in (n := 192) hi (by omega)) ⟨vp_in_nI (by omega) (by omega), ?_⟩
    rw [dc_cl i (by omega)]
    by_cases z : 0 ≤ pr i - nI m
    · refine br_t z ⟨vp_in_nI (by omega) (by omega), vp_in_nI (by omega) (by omega), nm_e (nm_r (nI_1 i) (hn _ (put _ (fun s k hs hk q => ?_))))⟩
      obtain ⟨p, hp, e1, e2⟩ := here s k hs hk q
      rw [e1] at z ⊢
      rw [e2]
      by_cases y : m ≤ p
      · exact pk_sub y
      · exact absurd (pk_sneg (by omega) (show p < m by omega)) (Int32.not_lt.mpr z)
    · refine br_f z ⟨vp_in_nI (by omega) (by omega), nm_e (nm_r (nI_1 i) (hn _ (put _ (fun s k hs hk q => ?_))))⟩
      obtain ⟨p, hp, e1, e2⟩ := here s k hs hk q
      rw [e1] at z
      rw [e2]
      by_cases y : m ≤ p
      · rw [pk_sub y] at z
        exact absurd (nI_pos' (by omega)) z
      · rw [show p - m = 0 by omega] <;> rfl
end
theorem i_vc_tick {k : Nat} {u : SX} {v : SY} (I : i_Rel k u v) (hk : k + 3 ≤ 1539) (v1 : Int32) : wpX_tick (fun u' => wpY_tick (fun v' => i_Rel (k + 3) u' v') v v1) u v1 := by
  obtain ⟨R, L, H, A, c, pf, mb, D, rp, P, F, rc, ca, B, hH, Q, hF, hP, X, Y⟩ := I
  obtain ⟨xR, xL, xH, xas, xlc, xpf, xmb, xrd, xrp, xpt, xaw, xrc, xcc, xts, xpk⟩ := u
  obtain ⟨yR, yL, yH, yco, yat, ypf, ymb, ypr, yfw, yrc, yca, ytr, yd, yro, yfr, ybe, yne, ycu⟩ := v
  obtain ⟨rfl, rfl, rfl, TX, Xpf, Xmb, XD, XR, XP, XF, Xrc, Xca⟩ := X
  obtain ⟨rfl, rfl, rfl, TY, Ypf, Ymb, YP, YF, Yrc, Yca⟩ := Y
  have hR : R ≤ 12 := B.2.1
  have hL : L ≤ 16 := B.2.2.2.1
  have same : i_Rel (k + 3) (nI R, nI L, nI H, xas, xlc, xpf, xmb, xrd, xrp, xpt, xaw, xrc, xcc, xts, xpk) (nI R, nI L, nI H, yco, yat, ypf, ymb, ypr, yfw, yrc, yca, ytr, yd, yro, yfr, ybe, yne, ycu) :=
    ⟨R, L, H, A, c, pf, mb, D, rp, P, F, rc, ca, B, hH, Q, hF, hP, ⟨rfl, rfl, rfl, TX, Xpf, Xmb, XD, XR, XP, XF, Xrc, Xca⟩, ⟨rfl, rfl, rfl, TY, Ypf, Ymb, YP, YF, Yrc, Yca⟩⟩
  have fin : ∀ m pt' pr', dc_r2 R L pt' (dc_tk P m) → dc_r2 R L pr' (dc_tk P m) → i_Rel (k + 3) (nI R, nI L, nI H, xas, xlc, xpf, xmb, xrd, xrp, pt', xaw, xrc, xcc, xts, xpk) (nI R, nI L, nI H, yco, yat, ypf, ymb, pr', yfw, yrc, yca, ytr, yd, yro, yfr, ybe, yne, ycu) := fun m pt' pr' g1 g2 =>
    ⟨R, L, H, A, c, pf, mb, D, rp, dc_tk P m, F, rc, ca, B, hH, Q, hF, dc_tk_pm hP m, ⟨rfl, rfl, rfl, TX, Xpf, Xmb, XD, XR, g1, XF, Xrc, Xca⟩, ⟨rfl, rfl, rfl, TY, Ypf, Ymb, g2, YF, Yrc, Yca⟩⟩
  by_cases l1 : 1 ≤ v1
  · by_cases l2 : v1 ≤ 64
    · obtain ⟨m, hm, e⟩ := nI_of2 (x := v1) (M := 64) (n := 64) (by decide) (fun z => Int32.not_le.mpr z (Int32.le_trans (by decide) l1)) l2
      subst e
      exact br_t l1 (br_t l2 (dx_tick21 hR hL hm hP XP (fun pt' g1 => br_t l1 (br_t l2 (dy_tick21 hR hL hm hP YP (fun pr' g2 => fin m pt' pr' g1 g2))))))
    · exact br_t l1 (br_f l2 (dx_tick21 (m := 64) hR hL (by omega) hP XP (fun pt' g1 => br_t l1 (br_f l2 (dy_tick21 (m := 64) hR hL (by omega) hP YP (fun pr' g2 => fin 64 pt' pr' g1 g2))))))
  · exact br_f l1 (br_f l1 same)
