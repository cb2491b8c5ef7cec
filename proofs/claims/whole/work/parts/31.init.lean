/-! the constructors, and the calls that change links, costs, preferences -/
theorem dc_clm (v : Int32) {lo hi : Nat} (h : lo ≤ hi) (hh : hi < 2 ^ 31) : ∃ n, lo ≤ n ∧ n ≤ hi ∧ ∀ post : Int32 → Prop, post (nI n) → wpX_clamp post v (nI lo) (nI hi) := by
  by_cases a : nI lo ≤ v
  · obtain ⟨j, hj, e⟩ := nI_of (x := v) (fun z => Int32.not_le.mpr z (Int32.le_trans (nI_pos' (by omega)) a))
    subst e
    have lj := (nI_leI (by omega) hj).mp a
    by_cases b : nI j ≤ nI hi
    · exact ⟨j, lj, (nI_leI hj hh).mp b, fun post p => br_t a (br_t b p)⟩
    · exact ⟨hi, h, Nat.le_refl _, fun post p => br_t a (br_f b p)⟩
  · exact ⟨lo, Nat.le_refl _, h, fun post p => br_f a p⟩
theorem dx_init {post : SX → Prop} {k0 k1 k2 : Int32} {R L H : Nat} (hR1 : 2 ≤ R) (hR : R ≤ 12) (hL1 : 1 ≤ L) (hL : L ≤ 16) (fR : ∀ p : Int32 → Prop, p (nI R) → wpX_clamp p k0 (nI 2) (nI 12)) (fL : ∀ p : Int32 → Prop, p (nI L) → wpX_clamp p k1 (nI 1) (nI 16)) (fH : ∀ p : Int32 → Prop, p (nI H) → wpX_clamp p k2 (nI 1) (nI 16))
    (h : ∀ (lc rd rp pt aw rc cc ts : Nat → Int32) (D : Nat → Nat → Nat), dc_DR R L (fun _ _ => false) (fun _ => 1) D (fun s r => rp (s * 12 + r)) → (∀ s r, s < R → r < R → rd (s * 12 + r) = nI (D s r)) → dc_TX R L (fun _ _ => false) (fun _ => 1) (fun _ => 0) lc →
      dc_r2 R L pt (fun _ _ => 0) → dc_r2 R L aw (fun _ _ => -1) → (∀ r, r < R → rc r = 0) → (∀ k, k < L → cc k = 0) → post (nI R, nI L, nI H, (fun _ => 0), lc, (fun _ => 0), (fun _ => 0), rd, rp, pt, aw, rc, cc, ts, (fun _ => 0))) : wpX_init post k0 k1 k2 := by
  have B : dc_B R L (fun _ => 1) := ⟨hR1, hR, hL1, hL, fun _ _ => Nat.le_refl 1, fun _ _ => (show (1 : Nat) ≤ 15 by omega)⟩
  unfold wpX_init
  refine fR _ (fL _ (fH _ ?_))
  refine loop_0 (fun n i lc => wX_init_140 post (nI R) (nI L) (nI H) n (nI i) (fun _ => 0) lc (fun _ => 0) (fun _ => 0) (fun _ => 0) (fun _ => 0) (fun _ => 0) (fun _ => 0) (fun _ => 0) (fun _ => 0) (fun _ => 0) (fun _ => 0)) (fun i lc => ∀ j, j < i → lc j = 1) L (fun _ => 0) (fun j z => absurd z (Nat.not_lt_zero j)) ?_ ?_
  · intro n lc e
    have T : dc_TX R L (fun _ _ => false) (fun _ => 1) (fun _ => 0) lc := ⟨fun k hk => e k hk, fun k _ => dc_ms_0 R⟩
    exact br_t (dc_end (by omega)) (dx_routes B T (fun rd rp D q1 q2 => dx_reset B (fun pt aw rc cc ts e1 e2 e3 e4 => h lc rd rp pt aw rc cc ts D q1 q2 T e1 e2 e3 e4)))
  · intro n i lc hi e hn
    exact br_f (dc_in hi (by omega)) ⟨vp_in_nI (by omega) (by omega), nm_e (nm_r (nI_1 i) (hn _ (by rw [dc_cl i (by omega)]; exact dc_put e)))⟩
theorem dy_init {post : SY → Prop} {k0 k1 k2 : Int32} {R L H : Nat} (fR : ∀ p : Int32 → Prop, p (nI R) → wpX_clamp p k0 (nI 2) (nI 12)) (fL : ∀ p : Int32 → Prop, p (nI L) → wpX_clamp p k1 (nI 1) (nI 16)) (fH : ∀ p : Int32 → Prop, p (nI H) → wpX_clamp p k2 (nI 1) (nI 16))
    (h : ∀ (co pr fw rc ca : Nat → Int32), (∀ i, i < 16 → co i = 1) → (∀ i, i < 192 → pr i = 0) → (∀ i, i < 192 → fw i = -1) → (∀ i, i < 12 → rc i = 0) → (∀ i, i < 16 → ca i = 0) →
      post (nI R, nI L, nI H, co, (fun _ => 0), (fun _ => 0), (fun _ => 0), pr, fw, rc, ca, (fun _ => 0), (fun _ => 0), (fun _ => 0), (fun _ => 0), (fun _ => 0), (fun _ => 0), (fun _ => 0))) : wpY_init post k0 k1 k2 := by
  refine fR (fun r => wY_init_150 post k1 k2 r 0 0 0 (fun _ => 0) (fun _ => 0) (fun _ => 0) (fun _ => 0) (fun _ => 0) (fun _ => 0) (fun _ => 0) (fun _ => 0) (fun _ => 0) (fun _ => 0) (fun _ => 0) (fun _ => 0) (fun _ => 0) (fun _ => 0) (fun _ => 0)) ?_
  refine fL (fun l => wY_init_175 post k2 l (nI R) 0 0 (fun _ => 0) (fun _ => 0) (fun _ => 0) (fun _ => 0) (fun _ => 0) (fun _ => 0) (fun _ => 0) (fun _ => 0) (fun _ => 0) (fun _ => 0) (fun _ => 0) (fun _ => 0) (fun _ => 0) (fun _ => 0) (fun _ => 0)) ?_
  refine fH (fun h => ∃ n, wY_init_206 post (nI R) (nI L) h n 0 (fun _ => 0) (fun _ => 0) (fun _ => 0) (fun _ => 0) (fun _ => 0) (fun _ => 0) (fun _ => 0) (fun _ => 0) (fun _ => 0) (fun _ => 0) (fun _ => 0) (fun _ => 0) (fun _ => 0) (fun _ => 0) (fun _ => 0)) ?_
  refine loop_0 (fun n i co => wY_init_206 post (nI R) (nI L) (nI H) n (nI i) co (fun _ => 0) (fun _ => 0) (fun _ => 0) (fun _ => 0) (fun _ => 0) (fun _ => 0) (fun _ => 0) (fun _ => 0) (fun _ => 0) (fun _ => 0) (fun _ => 0) (fun _ => 0) (fun _ => 0) (fun _ => 0)) (fun i co => ∀ j, j < i → co j = 1) 16 (fun _ => 0) (fun j z => absurd z (Nat.not_lt_zero j)) ?_ ?_
  · intro n co e
    exact br_t (dc_end (n := 16) (by omega)) (dy_reset (fun pr fw rc ca e1 e2 e3 e4 => h co pr fw rc ca e e1 e2 e3 e4))
  · intro n i co hi e hn
    exact br_f (dc_in (n := 16) hi (by omega)) ⟨vp_in_nI (by omega) (by omega), nm_e (nm_r (nI_1 i) (hn _ (by rw [dc_cl i (by omega)]; exact dc_put e)))⟩
theorem i_vc0 (k0 : Int32) (k1 : Int32) (k2 : Int32) : wpX_init (fun u => wpY_init (fun v => i_Rel 3 u v) k0 k1 k2) k0 k1 k2 := by
  obtain ⟨R, hR1, hR, fR⟩ := dc_clm k0 (lo := 2) (hi := 12) (by omega) (by omega)
  obtain ⟨L, hL1, hL, fL⟩ := dc_clm k1 (lo := 1) (hi := 16) (by omega) (by omega)
  obtain ⟨H, hH1, hH, fH⟩ := dc_clm k2 (lo := 1) (hi := 16) (by omega) (by omega)
  refine dx_init hR1 hR hL1 hL fR fL fH (fun lc rd rp pt aw rc cc ts D q1 q2 q3 e1 e2 e3 e4 => ?_)
  refine dy_init fR fL fH (fun co pr fw rc' ca f0 f1 f2 f3 f4 => ?_)
  refine ⟨R, L, H, fun _ _ => false, fun _ => 1, fun _ => 0, fun _ => 0, D, fun s r => rp (s * 12 + r), fun _ _ => 0, fun _ _ => -1, fun _ => 0, fun _ => 0,
    ⟨hR1, hR, hL1, hL, fun _ _ => Nat.le_refl 1, fun _ _ => (show (1 : Nat) ≤ 15 by omega)⟩, hH, q1, dc_fw0 R L, dc_pm0 R L, ⟨rfl, rfl, rfl, q3, fun _ _ => rfl, fun _ _ => rfl, q2, fun _ _ _ _ => rfl, e1, e2, e3, e4⟩, ⟨rfl, rfl, rfl, ⟨fun k hk => f0 k (by omega), fun _ _ _ _ => ⟨fun _ => rfl, fun _ => rfl⟩⟩, fun _ _ => rfl, fun _ _ => rfl, fun s k hs hk => f1 _ (by omega), fun s k hs hk => f2 _ (by omega), fun r hr => f3 r (by omega), fun k hk => f4 k (by omega)⟩⟩
/-- how a change of the topology ends on both sides: routes, reset -/
theorem dc_fin {R L H k : Nat} {A : Nat → Nat → Bool} {c : Nat → Nat} {pf mb : Nat → Int32} {xas xlc xpf xmb xrd xrp xpk yco yat ypf ymb ytr yd yro yfr ybe yne ycu : Nat → Int32} {D : Nat → Nat → Nat} {pt aw rcx cc ts pr fw rcy ca : Nat → Int32}
    (B : dc_B R L c) (hH : H ≤ 16) (TX : dc_TX R L A c xas xlc) (TY : dc_TY R L A c yco yat) (Xpf : ∀ r, r < R → xpf r = pf r) (Xmb : ∀ r, r < R → xmb r = mb r) (Ypf : ∀ r, r < R → ypf r = pf r) (Ymb : ∀ r, r < R → ymb r = mb r)
    (q1 : dc_DR R L A c D (fun s r => xrp (s * 12 + r))) (q2 : ∀ s r, s < R → r < R → xrd (s * 12 + r) = nI (D s r)) (e1 : dc_r2 R L pt (fun _ _ => 0)) (e2 : dc_r2 R L aw (fun _ _ => -1)) (e3 : ∀ r, r < R → rcx r = 0) (e4 : ∀ k, k < L → cc k = 0)
    (f1 : ∀ i, i < 192 → pr i = 0) (f2 : ∀ i, i < 192 → fw i = -1) (f3 : ∀ i, i < 12 → rcy i = 0) (f4 : ∀ i, i < 16 → ca i = 0) :
    i_Rel k (nI R, nI L, nI H, xas, xlc, xpf, xmb, xrd, xrp, pt, aw, rcx, cc, ts, xpk) (nI R, nI L, nI H, yco, yat, ypf, ymb, pr, fw, rcy, ca, ytr, yd, yro, yfr, ybe, yne, ycu) := by
  have hR : R ≤ 12 := B.2.1
  have hL : L ≤ 16 := B.2.2.2.1
  exact ⟨R, L, H, A, c, pf, mb, D, fun s r => xrp (s * 12 + r), fun _ _ => 0, fun _ _ => -1, fun _ => 0, fun _ => 0, B, hH, q1, dc_fw0 R L, dc_pm0 R L, ⟨rfl, rfl, rfl, TX, Xpf, Xmb, q2, fun _ _ _ _ => rfl, e1, e2, e3, e4⟩,
    ⟨rfl, rfl, rfl, TY, Ypf, Ymb, fun s k hs hk => f1 _ (by omega), fun s k hs hk => f2 _ (by omega), fun r hr => f3 r (by omega), fun k hk => f4 k (by omega)⟩⟩
theorem i_vc_attach {k : Nat} {u : SX} {v : SY} (I : i_Rel k u v) (hk : k + 3 ≤ 1539) (v1 : Int32) (v2 : Int32) : wpX_attach (fun r u' => wpY_attach (fun r' v' => r' = r ∧ i_Rel (k + 3) u' v') v v1 v2) u v1 v2 := by
  obtain ⟨R, L, H, A, c, pf, mb, D, rp, P, F, rc, ca, B, hH, Q, hF, hP, X, Y⟩ := I
  obtain ⟨xR, xL, xH, xas, xlc, xpf, xmb, xrd, xrp, xpt, xaw, xrc, xcc, xts, xpk⟩ := u
  obtain ⟨yR, yL, yH, yco, yat, ypf, ymb, ypr, yfw, yrc, yca, ytr, yd, yro, yfr, ybe, yne, ycu⟩ := v
  obtain ⟨rfl, rfl, rfl, TX, Xpf, Xmb, XD, XR, XP, XF, Xrc, Xca⟩ := X
  obtain ⟨rfl, rfl, rfl, TY, Ypf, Ymb, YP, YF, Yrc, Yca⟩ := Y
  have hR : R ≤ 12 := B.2.1
  have hL : L ≤ 16 := B.2.2.2.1
  have same : i_Rel (k + 3) (nI R, nI L, nI H, xas, xlc, xpf, xmb, xrd, xrp, xpt, xaw, xrc, xcc, xts, xpk) (nI R, nI L, nI H, yco, yat, ypf, ymb, ypr, yfw, yrc, yca, ytr, yd, yro, yfr, ybe, yne, ycu) :=
    ⟨R, L, H, A, c, pf, mb, D, rp, P, F, rc, ca, B, hH, Q, hF, hP, ⟨rfl, rfl, rfl, TX, Xpf, Xmb, XD, XR, XP, XF, Xrc, Xca⟩, ⟨rfl, rfl, rfl, TY, Ypf, Ymb, YP, YF, Yrc, Yca⟩⟩
  unfold wpX_attach
  rcases dc_ix v1 (n := L) (by omega) with a | ⟨j, hj, e⟩
  · refine dx_link0 a (br_t rfl ?_)
    rcases a with a | ⟨a, b⟩
    · exact br_t a ⟨rfl, same⟩
    · exact br_f a (br_t b ⟨rfl, same⟩)
  · subst e
    refine dx_link1 hj hL (br_f (by decide) ?_)
    rcases dc_ix v2 (n := R) (by omega) with a | ⟨q, hq, e⟩
    · refine dx_router0 a (br_t rfl (br_f (nI_pos (by omega)) (br_f (dc_in hj (by omega)) ?_)))
      rcases a with a | ⟨a, b⟩
      · exact br_t a ⟨rfl, same⟩
      · exact br_f a (br_f (Int32.not_lt.mpr b) ⟨rfl, same⟩)
    · subst e
      refine dx_router1 hq hR (br_f (by decide) ⟨vp_in_nI (by omega) (by omega), ?_⟩)
      rw [dc_cl j (by omega)]
      refine dx_con (TX.2 j hj) hq hR (fun z => ?_) (fun z => ?_)
      · refine br_f (by decide) (br_f (nI_pos (by omega)) (br_f (dc_in hj (by omega)) (br_f (nI_pos (by omega)) (br_t (nI_lt hq (by omega)) ⟨dc_v12 j q (by omega) (by omega), ?_⟩))))
        rw [dc_c12 j q (by omega)]
        exact br_f (fun w => by rw [(TY.2 j q hj hq).mp w] at z; exact nomatch z) ⟨rfl, same⟩
      · refine br_t rfl ⟨vp_in_nI (by omega) (by omega), vp_in_nI (by omega) (by omega), nm_e (dx_routes B (dc_TXo TX hj hq hR) (fun rd rp' D' q1 q2 => dx_reset B (fun pt aw rcx cc ts e1 e2 e3 e4 => ?_)))⟩
        refine br_f (nI_pos (by omega)) (br_f (dc_in hj (by omega)) (br_f (nI_pos (by omega)) (br_t (nI_lt hq (by omega)) ⟨dc_v12 j q (by omega) (by omega), ?_⟩)))
        rw [dc_c12 j q (by omega), dc_nar1]
        exact br_t ((TY.2 j q hj hq).mpr z) ⟨dc_v12 j q (by omega) (by omega), nm_e (dy_reset (fun pr fw rcy cy f1 f2 f3 f4 => ⟨rfl, dc_fin B hH (dc_TXo TX hj hq hR) (dc_TYu TY hq hR ⟨fun w => absurd w (by decide), fun w => nomatch w⟩) Xpf Xmb Ypf Ymb q1 q2 e1 e2 e3 e4 f1 f2 f3 f4⟩))⟩
theorem i_vc_detach {k : Nat} {u : SX} {v : SY} (I : i_Rel k u v) (hk : k + 3 ≤ 1539) (v1 : Int32) (v2 : Int32) : wpX_detach (fun r u' => wpY_detach (fun r' v' => r' = r ∧ i_Rel (k + 3) u' v') v v1 v2) u v1 v2 := by
  obtain ⟨R, L, H, A, c, pf, mb, D, rp, P, F, rc, ca, B, hH, Q, hF, hP, X, Y⟩ := I
  obtain ⟨xR, xL, xH, xas, xlc, xpf, xmb, xrd, xrp, xpt, xaw, xrc, xcc, xts, xpk⟩ := u
  obtain ⟨yR, yL, yH, yco, yat, ypf, ymb, ypr, yfw, yrc, yca, ytr, yd, yro, yfr, ybe, yne, ycu⟩ := v
  obtain ⟨rfl, rfl, rfl, TX, Xpf, Xmb, XD, XR, XP, XF, Xrc, Xca⟩ := X
  obtain ⟨rfl, rfl, rfl, TY, Ypf, Ymb, YP, YF, Yrc, Yca⟩ := Y
  have hR : R ≤ 12 := B.2.1
  have hL : L ≤ 16 := B.2.2.2.1
  have same : i_Rel (k + 3) (nI R, nI L, nI H, xas, xlc, xpf, xmb, xrd, xrp, xpt, xaw, xrc, xcc, xts, xpk) (nI R, nI L, nI H, yco, yat, ypf, ymb, ypr, yfw, yrc, yca, ytr, yd, yro, yfr, ybe, yne, ycu) :=
    ⟨R, L, H, A, c, pf, mb, D, rp, P, F, rc, ca, B, hH, Q, hF, hP, ⟨rfl, rfl, rfl, TX, Xpf, Xmb, XD, XR, XP, XF, Xrc, Xca⟩, ⟨rfl, rfl, rfl, TY, Ypf, Ymb, YP, YF, Yrc, Yca⟩⟩
  unfold wpX_detach
  rcases dc_ix v1 (n := L) (by omega) with a | ⟨j, hj, e⟩
  · refine dx_link0 a (br_t rfl ?_)
    rcases a with a | ⟨a, b⟩
    · exact br_t a ⟨rfl, same⟩
    · exact br_f a (br_t b ⟨rfl, same⟩)
  · subst e
    refine dx_link1 hj hL (br_f (by decide) ?_)
    rcases dc_ix v2 (n := R) (by omega) with a | ⟨q, hq, e⟩
    · refine dx_router0 a (br_t rfl (br_f (nI_pos (by omega)) (br_f (dc_in hj (by omega)) ?_)))
      rcases a with a | ⟨a, b⟩
      · exact br_t a ⟨rfl, same⟩
      · exact br_f a (br_f (Int32.not_lt.mpr b) ⟨rfl, same⟩)
    · subst e
      refine dx_router1 hq hR (br_f (by decide) ⟨vp_in_nI (by omega) (by omega), ?_⟩)
      rw [dc_cl j (by omega)]
      refine dx_con (TX.2 j hj) hq hR (fun z => ?_) (fun z => ?_)
      · refine br_f (by decide) ⟨vp_in_nI (by omega) (by omega), vp_in_nI (by omega) (by omega), nm_e (dx_routes B (dc_TXr TX hj hq hR) (fun rd rp' D' q1 q2 => dx_reset B (fun pt aw rcx cc ts e1 e2 e3 e4 => ?_)))⟩
        refine br_f (nI_pos (by omega)) (br_f (dc_in hj (by omega)) (br_f (nI_pos (by omega)) (br_t (nI_lt hq (by omega)) ⟨dc_v12 j q (by omega) (by omega), ?_⟩)))
        rw [dc_c12 j q (by omega), dc_nar0]
        exact br_f (fun w => by rw [(TY.2 j q hj hq).mp w] at z; exact nomatch z) ⟨dc_v12 j q (by omega) (by omega), nm_e (dy_reset (fun pr fw rcy cy f1 f2 f3 f4 => ⟨rfl, dc_fin B hH (dc_TXr TX hj hq hR) (dc_TYu TY hq hR ⟨fun _ => rfl, fun _ => rfl⟩) Xpf Xmb Ypf Ymb q1 q2 e1 e2 e3 e4 f1 f2 f3 f4⟩))⟩
      · refine br_t rfl (br_f (nI_pos (by omega)) (br_f (dc_in hj (by omega)) (br_f (nI_pos (by omega)) (br_t (nI_lt hq (by omega)) ⟨dc_v12 j q (by omega) (by omega), ?_⟩))))
        rw [dc_c12 j q (by omega)]
        exact br_t ((TY.2 j q hj hq).mpr z) ⟨rfl, same⟩
theorem i_vc_setCost {k : Nat} {u : SX} {v : SY} (I : i_Rel k u v) (hk : k + 3 ≤ 1539) (v1 : Int32) (v2 : Int32) : wpX_setCost (fun r u' => wpY_setCost (fun r' v' => r' = r ∧ i_Rel (k + 3) u' v') v v1 v2) u v1 v2 := by
  obtain ⟨R, L, H, A, c, pf, mb, D, rp, P, F, rc, ca, B, hH, Q, hF, hP, X, Y⟩ := I
  obtain ⟨xR, xL, xH, xas, xlc, xpf, xmb, xrd, xrp, xpt, xaw, xrc, xcc, xts, xpk⟩ := u
  obtain ⟨yR, yL, yH, yco, yat, ypf, ymb, ypr, yfw, yrc, yca, ytr, yd, yro, yfr, ybe, yne, ycu⟩ := v
  obtain ⟨rfl, rfl, rfl, TX, Xpf, Xmb, XD, XR, XP, XF, Xrc, Xca⟩ := X
  obtain ⟨rfl, rfl, rfl, TY, Ypf, Ymb, YP, YF, Yrc, Yca⟩ := Y
  have hR : R ≤ 12 := B.2.1
  have hL : L ≤ 16 := B.2.2.2.1
  have same : i_Rel (k + 3) (nI R, nI L, nI H, xas, xlc, xpf, xmb, xrd, xrp, xpt, xaw, xrc, xcc, xts, xpk) (nI R, nI L, nI H, yco, yat, ypf, ymb, ypr, yfw, yrc, yca, ytr, yd, yro, yfr, ybe, yne, ycu) :=
    ⟨R, L, H, A, c, pf, mb, D, rp, P, F, rc, ca, B, hH, Q, hF, hP, ⟨rfl, rfl, rfl, TX, Xpf, Xmb, XD, XR, XP, XF, Xrc, Xca⟩, ⟨rfl, rfl, rfl, TY, Ypf, Ymb, YP, YF, Yrc, Yca⟩⟩
  unfold wpX_setCost
  rcases dc_ix v1 (n := L) (by omega) with a | ⟨j, hj, e⟩
  · refine dx_link0 a (br_t rfl ?_)
    rcases a with a | ⟨a, b⟩
    · exact br_t a ⟨rfl, same⟩
    · exact br_f a (br_t b ⟨rfl, same⟩)
  · subst e
    refine dx_link1 hj hL (br_f (by decide) ?_)
    by_cases l1 : v2 < 1
    · exact br_t l1 (br_f (nI_pos (by omega)) (br_f (dc_in hj (by omega)) (br_t l1 ⟨rfl, same⟩)))
    · refine br_f l1 ?_
      by_cases l2 : v2 ≤ 15
      · obtain ⟨d, hd, e⟩ := nI_of2 (x := v2) (M := 15) (n := 15) (by decide) (fun z => l1 (Int32.lt_trans z (by decide))) l2
        subst e
        have d1 : 1 ≤ d := by
          apply Classical.byContradiction
          intro z
          exact l1 (nI_lt (b := 1) (by omega) (by decide))
        refine br_t l2 ⟨vp_in_nI (by omega) (by omega), nm_e ?_⟩
        rw [dc_cl j (by omega)]
        refine dx_routes (dc_Bc B j d1 hd) (dc_TXc TX j d) (fun rd rp' D' q1 q2 => dx_reset (dc_Bc B j d1 hd) (fun pt aw rcx cc ts e1 e2 e3 e4 => ?_))
        refine br_f (nI_pos (by omega)) (br_f (dc_in hj (by omega)) (br_f l1 (br_t l2 ⟨vp_in_nI (by omega) (by omega), nm_e ?_⟩)))
        rw [dc_cl j (by omega)]
        exact dy_reset (fun pr fw rcy cy f1 f2 f3 f4 => ⟨rfl, dc_fin (dc_Bc B j d1 hd) hH (dc_TXc TX j d) (dc_TYc TY j d) Xpf Xmb Ypf Ymb q1 q2 e1 e2 e3 e4 f1 f2 f3 f4⟩)
      · exact br_f l2 (br_f (nI_pos (by omega)) (br_f (dc_in hj (by omega)) (br_f l1 (br_f l2 ⟨rfl, same⟩))))
theorem i_vc_setPreference {k : Nat} {u : SX} {v : SY} (I : i_Rel k u v) (hk : k + 3 ≤ 1539) (v1 : Int32) (v2 : Int32) : wpX_setPreference (fun r u' => wpY_setPreference (fun r' v' => r' = r ∧ i_Rel (k + 3) u' v') v v1 v2) u v1 v2 := by
  obtain ⟨R, L, H, A, c, pf, mb, D, rp, P, F, rc, ca, B, hH, Q, hF, hP, X, Y⟩ := I
  obtain ⟨xR, xL, xH, xas, xlc, xpf, xmb, xrd, xrp, xpt, xaw, xrc, xcc, xts, xpk⟩ := u
  obtain ⟨yR, yL, yH, yco, yat, ypf, ymb, ypr, yfw, yrc, yca, ytr, yd, yro, yfr, ybe, yne, ycu⟩ := v
  obtain ⟨rfl, rfl, rfl, TX, Xpf, Xmb, XD, XR, XP, XF, Xrc, Xca⟩ := X
  obtain ⟨rfl, rfl, rfl, TY, Ypf, Ymb, YP, YF, Yrc, Yca⟩ := Y
  have hR : R ≤ 12 := B.2.1
  have hL : L ≤ 16 := B.2.2.2.1
  have same : i_Rel (k + 3) (nI R, nI L, nI H, xas, xlc, xpf, xmb, xrd, xrp, xpt, xaw, xrc, xcc, xts, xpk) (nI R, nI L, nI H, yco, yat, ypf, ymb, ypr, yfw, yrc, yca, ytr, yd, yro, yfr, ybe, yne, ycu) :=
    ⟨R, L, H, A, c, pf, mb, D, rp, P, F, rc, ca, B, hH, Q, hF, hP, ⟨rfl, rfl, rfl, TX, Xpf, Xmb, XD, XR, XP, XF, Xrc, Xca⟩, ⟨rfl, rfl, rfl, TY, Ypf, Ymb, YP, YF, Yrc, Yca⟩⟩
  unfold wpX_setPreference
  rcases dc_ix v1 (n := R) (by omega) with a | ⟨j, hj, e⟩
  · refine dx_router0 a (br_t rfl ?_)
    rcases a with a | ⟨a, b⟩
    · exact br_t a ⟨rfl, same⟩
    · exact br_f a (br_t b ⟨rfl, same⟩)
  · subst e
    refine dx_router1 hj hR (br_f (by decide) ?_)
    by_cases l1 : v2 < 0
    · exact br_t l1 (br_f (nI_pos (by omega)) (br_f (dc_in hj (by omega)) (br_t l1 ⟨rfl, same⟩)))
    · refine br_f l1 ?_
      by_cases l2 : v2 ≤ 255
      · refine br_t l2 ⟨vp_in_nI (by omega) (by omega), nm_e ?_⟩
        rw [dc_cl j (by omega)]
        refine dx_reset B (fun pt aw rcx cc ts e1 e2 e3 e4 => ?_)
        refine br_f (nI_pos (by omega)) (br_f (dc_in hj (by omega)) (br_f l1 (br_t l2 ⟨vp_in_nI (by omega) (by omega), nm_e ?_⟩)))
        rw [dc_cl j (by omega)]
        refine dy_reset (fun pr fw rcy cy f1 f2 f3 f4 => ⟨rfl, ?_⟩)
        exact ⟨R, L, H, A, c, upd pf j v2, mb, D, rp, fun _ _ => 0, fun _ _ => -1, fun _ => 0, fun _ => 0, B, hH, Q, dc_fw0 R L, dc_pm0 R L, ⟨rfl, rfl, rfl, TX, dc_row Xpf j v2, Xmb, XD, XR, e1, e2, e3, e4⟩,
          ⟨rfl, rfl, rfl, TY, dc_row Ypf j v2, Ymb, fun s k hs hk => f1 _ (by omega), fun s k hs hk => f2 _ (by omega), fun r hr => f3 r (by omega), fun k hk => f4 k (by omega)⟩⟩
      · exact br_f l2 (br_f (nI_pos (by omega)) (br_f (dc_in hj (by omega)) (br_f l1 (br_f l2 ⟨rfl, same⟩))))
