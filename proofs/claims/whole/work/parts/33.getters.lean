/-! the calls that only look -/
theorem i_vc_distance {k : Nat} {u : SX} {v : SY} (I : i_Rel k u v) (hk : k + 3 ≤ 1539) (v1 : Int32) (v2 : Int32) : wpX_distance (fun r => wpY_distance (fun r' v' => r' = r ∧ i_Rel (k + 3) u v') v v1 v2) u v1 v2 := by
  obtain ⟨R, L, H, A, c, pf, mb, D, rp, P, F, rc, ca, B, hH, Q, hF, hP, X, Y⟩ := I
  obtain ⟨xR, xL, xH, xas, xlc, xpf, xmb, xrd, xrp, xpt, xaw, xrc, xcc, xts, xpk⟩ := u
  obtain ⟨yR, yL, yH, yco, yat, ypf, ymb, ypr, yfw, yrc, yca, ytr, yd, yro, yfr, ybe, yne, ycu⟩ := v
  obtain ⟨rfl, rfl, rfl, TX, Xpf, Xmb, XD, XR, XP, XF, Xrc, Xca⟩ := X
  obtain ⟨rfl, rfl, rfl, TY, Ypf, Ymb, YP, YF, Yrc, Yca⟩ := Y
  have hR : R ≤ 12 := B.2.1
  have hL : L ≤ 16 := B.2.2.2.1
  have same : i_Rel (k + 3) (nI R, nI L, nI H, xas, xlc, xpf, xmb, xrd, xrp, xpt, xaw, xrc, xcc, xts, xpk) (nI R, nI L, nI H, yco, yat, ypf, ymb, ypr, yfw, yrc, yca, ytr, yd, yro, yfr, ybe, yne, ycu) :=
    ⟨R, L, H, A, c, pf, mb, D, rp, P, F, rc, ca, B, hH, Q, hF, hP, ⟨rfl, rfl, rfl, TX, Xpf, Xmb, XD, XR, XP, XF, Xrc, Xca⟩, ⟨rfl, rfl, rfl, TY, Ypf, Ymb, YP, YF, Yrc, Yca⟩⟩
  unfold wpX_distance
  rcases dc_ix v1 (n := R) (by omega) with a | ⟨s, hs, e⟩
  · refine dx_router0 a (br_t rfl ?_)
    rcases a with a | ⟨a, b⟩
    · exact br_t a ⟨rfl, same⟩
    · exact br_f a (br_t b ⟨rfl, same⟩)
  · subst e
    refine dx_router1 hs hR (br_f (by decide) ?_)
    rcases dc_ix v2 (n := R) (by omega) with a | ⟨r, hr, e⟩
    · refine dx_router0 a (br_t rfl (br_f (nI_pos (by omega)) (br_f (dc_in hs (by omega)) ?_)))
      rcases a with a | ⟨a, b⟩
      · exact br_t a ⟨rfl, same⟩
      · exact br_f a (br_f (Int32.not_lt.mpr b) ⟨rfl, same⟩)
    · subst e
      have G := (Q s hs).1
      have Dr := G.2.1 r hr
      refine dx_router1 hr hR (br_f (by decide) ⟨dc_v12 s r (by omega) (by omega), ?_⟩)
      rw [dc_c12 s r (by omega), XD s r hs hr]
      refine nm_e ?_
      by_cases z : D s r < 1000
      · refine br_f (fun w => by have := (nI_eq (b := 1000) (by omega) (by decide)).mp w; omega) (br_f (nI_pos (by omega)) (br_f (dc_in hs (by omega)) (br_f (nI_pos (by omega)) (br_t (nI_lt hr (by omega)) (dy_comp B TY G hs (fun d' rep => ⟨vp_in_nI (by omega) (by omega), ?_⟩))))))
        rw [dc_cl r (by omega), rep r hr, dc_E_lt z]
        exact br_t (nI_lt (b := 1000000) (by omega) (by decide)) ⟨vp_in_nI (by omega) (by omega), rfl, ⟨R, L, H, A, c, pf, mb, D, rp, P, F, rc, ca, B, hH, Q, hF, hP, ⟨rfl, rfl, rfl, TX, Xpf, Xmb, XD, XR, XP, XF, Xrc, Xca⟩, ⟨rfl, rfl, rfl, TY, Ypf, Ymb, YP, YF, Yrc, Yca⟩⟩⟩
      · have e : D s r = 1000 := by omega
        refine br_t (by rw [e] <;> rfl) (br_f (nI_pos (by omega)) (br_f (dc_in hs (by omega)) (br_f (nI_pos (by omega)) (br_t (nI_lt hr (by omega)) (dy_comp B TY G hs (fun d' rep => ⟨vp_in_nI (by omega) (by omega), ?_⟩))))))
        rw [dc_cl r (by omega), rep r hr, dc_E_ge z]
        exact br_f (nI_nlt (a := 1000000) (b := 1000000) (by omega) (by decide)) ⟨rfl, ⟨R, L, H, A, c, pf, mb, D, rp, P, F, rc, ca, B, hH, Q, hF, hP, ⟨rfl, rfl, rfl, TX, Xpf, Xmb, XD, XR, XP, XF, Xrc, Xca⟩, ⟨rfl, rfl, rfl, TY, Ypf, Ymb, YP, YF, Yrc, Yca⟩⟩⟩
theorem i_vc_rpfLink {k : Nat} {u : SX} {v : SY} (I : i_Rel k u v) (hk : k + 3 ≤ 1539) (v1 : Int32) (v2 : Int32) : wpX_rpfLink (fun r => wpY_rpfLink (fun r' v' => r' = r ∧ i_Rel (k + 3) u v') v v1 v2) u v1 v2 := by
  obtain ⟨R, L, H, A, c, pf, mb, D, rp, P, F, rc, ca, B, hH, Q, hF, hP, X, Y⟩ := I
  obtain ⟨xR, xL, xH, xas, xlc, xpf, xmb, xrd, xrp, xpt, xaw, xrc, xcc, xts, xpk⟩ := u
  obtain ⟨yR, yL, yH, yco, yat, ypf, ymb, ypr, yfw, yrc, yca, ytr, yd, yro, yfr, ybe, yne, ycu⟩ := v
  obtain ⟨rfl, rfl, rfl, TX, Xpf, Xmb, XD, XR, XP, XF, Xrc, Xca⟩ := X
  obtain ⟨rfl, rfl, rfl, TY, Ypf, Ymb, YP, YF, Yrc, Yca⟩ := Y
  have hR : R ≤ 12 := B.2.1
  have hL : L ≤ 16 := B.2.2.2.1
  have same : i_Rel (k + 3) (nI R, nI L, nI H, xas, xlc, xpf, xmb, xrd, xrp, xpt, xaw, xrc, xcc, xts, xpk) (nI R, nI L, nI H, yco, yat, ypf, ymb, ypr, yfw, yrc, yca, ytr, yd, yro, yfr, ybe, yne, ycu) :=
    ⟨R, L, H, A, c, pf, mb, D, rp, P, F, rc, ca, B, hH, Q, hF, hP, ⟨rfl, rfl, rfl, TX, Xpf, Xmb, XD, XR, XP, XF, Xrc, Xca⟩, ⟨rfl, rfl, rfl, TY, Ypf, Ymb, YP, YF, Yrc, Yca⟩⟩
  unfold wpX_rpfLink
  rcases dc_ix v1 (n := R) (by omega) with a | ⟨s, hs, e⟩
  · refine dx_router0 a (br_t rfl ?_)
    rcases a with a | ⟨a, b⟩
    · exact br_t a ⟨rfl, same⟩
    · exact br_f a (br_t b ⟨rfl, same⟩)
  · subst e
    refine dx_router1 hs hR (br_f (by decide) ?_)
    rcases dc_ix v2 (n := R) (by omega) with a | ⟨r, hr, e⟩
    · refine dx_router0 a (br_t rfl (br_f (nI_pos (by omega)) (br_f (dc_in hs (by omega)) ?_)))
      rcases a with a | ⟨a, b⟩
      · exact br_t a ⟨rfl, same⟩
      · exact br_f a (br_f (Int32.not_lt.mpr b) ⟨rfl, same⟩)
    · subst e
      refine dx_router1 hr hR (br_f (by decide) ⟨dc_v12 s r (by omega) (by omega), ?_⟩)
      rw [dc_c12 s r (by omega), XR s r hs hr]
      refine br_f (nI_pos (by omega)) (br_f (dc_in hs (by omega)) (br_f (nI_pos (by omega)) (br_t (nI_lt hr (by omega)) (dy_rpf B TY (Q s hs).1 hs hr (fun w d' hw rep => ⟨?_, ?_⟩)))))
      · exact dc_isR_u hw ((Q s hs).2 r hr)
      · exact ⟨R, L, H, A, c, pf, mb, D, rp, P, F, rc, ca, B, hH, Q, hF, hP, ⟨rfl, rfl, rfl, TX, Xpf, Xmb, XD, XR, XP, XF, Xrc, Xca⟩, ⟨rfl, rfl, rfl, TY, Ypf, Ymb, YP, YF, Yrc, Yca⟩⟩
theorem i_vc_forwarder {k : Nat} {u : SX} {v : SY} (I : i_Rel k u v) (hk : k + 3 ≤ 1539) (v1 : Int32) (v2 : Int32) : wpX_forwarder (fun r => wpY_forwarder (fun r' => r' = r ∧ i_Rel (k + 3) u v) v v1 v2) u v1 v2 := by
  obtain ⟨R, L, H, A, c, pf, mb, D, rp, P, F, rc, ca, B, hH, Q, hF, hP, X, Y⟩ := I
  obtain ⟨xR, xL, xH, xas, xlc, xpf, xmb, xrd, xrp, xpt, xaw, xrc, xcc, xts, xpk⟩ := u
  obtain ⟨yR, yL, yH, yco, yat, ypf, ymb, ypr, yfw, yrc, yca, ytr, yd, yro, yfr, ybe, yne, ycu⟩ := v
  obtain ⟨rfl, rfl, rfl, TX, Xpf, Xmb, XD, XR, XP, XF, Xrc, Xca⟩ := X
  obtain ⟨rfl, rfl, rfl, TY, Ypf, Ymb, YP, YF, Yrc, Yca⟩ := Y
  have hR : R ≤ 12 := B.2.1
  have hL : L ≤ 16 := B.2.2.2.1
  have same : i_Rel (k + 3) (nI R, nI L, nI H, xas, xlc, xpf, xmb, xrd, xrp, xpt, xaw, xrc, xcc, xts, xpk) (nI R, nI L, nI H, yco, yat, ypf, ymb, ypr, yfw, yrc, yca, ytr, yd, yro, yfr, ybe, yne, ycu) :=
    ⟨R, L, H, A, c, pf, mb, D, rp, P, F, rc, ca, B, hH, Q, hF, hP, ⟨rfl, rfl, rfl, TX, Xpf, Xmb, XD, XR, XP, XF, Xrc, Xca⟩, ⟨rfl, rfl, rfl, TY, Ypf, Ymb, YP, YF, Yrc, Yca⟩⟩
  unfold wpX_forwarder
  rcases dc_ix v1 (n := R) (by omega) with a | ⟨s, hs, e⟩
  · refine dx_router0 a (br_t rfl ?_)
    rcases a with a | ⟨a, b⟩
    · exact br_t a ⟨rfl, same⟩
    · exact br_f a (br_t b ⟨rfl, same⟩)
  · subst e
    refine dx_router1 hs hR (br_f (by decide) ?_)
    rcases dc_ix v2 (n := L) (by omega) with a | ⟨j, hj, e⟩
    · refine dx_link0 a (br_t rfl (br_f (nI_pos (by omega)) (br_f (dc_in hs (by omega)) ?_)))
      rcases a with a | ⟨a, b⟩
      · exact br_t a ⟨rfl, same⟩
      · exact br_f a (br_f (Int32.not_lt.mpr b) ⟨rfl, same⟩)
    · subst e
      refine dx_link1 hj hL (br_f (by decide) ⟨dc_v16 s j (by omega) (by omega), ?_⟩)
      rw [dc_c16 s j (by omega), XF s j hs hj]
      refine br_f (nI_pos (by omega)) (br_f (dc_in hs (by omega)) (br_f (nI_pos (by omega)) (br_t (nI_lt hj (by omega)) ⟨dc_v16 s j (by omega) (by omega), ?_⟩)))
      rw [dc_c16 s j (by omega)]
      exact ⟨YF s j hs hj, same⟩
theorem i_vc_pruneLeft {k : Nat} {u : SX} {v : SY} (I : i_Rel k u v) (hk : k + 3 ≤ 1539) (v1 : Int32) (v2 : Int32) : wpX_pruneLeft (fun r => wpY_pruneLeft (fun r' => r' = r ∧ i_Rel (k + 3) u v) v v1 v2) u v1 v2 := by
  obtain ⟨R, L, H, A, c, pf, mb, D, rp, P, F, rc, ca, B, hH, Q, hF, hP, X, Y⟩ := I
  obtain ⟨xR, xL, xH, xas, xlc, xpf, xmb, xrd, xrp, xpt, xaw, xrc, xcc, xts, xpk⟩ := u
  obtain ⟨yR, yL, yH, yco, yat, ypf, ymb, ypr, yfw, yrc, yca, ytr, yd, yro, yfr, ybe, yne, ycu⟩ := v
  obtain ⟨rfl, rfl, rfl, TX, Xpf, Xmb, XD, XR, XP, XF, Xrc, Xca⟩ := X
  obtain ⟨rfl, rfl, rfl, TY, Ypf, Ymb, YP, YF, Yrc, Yca⟩ := Y
  have hR : R ≤ 12 := B.2.1
  have hL : L ≤ 16 := B.2.2.2.1
  have same : i_Rel (k + 3) (nI R, nI L, nI H, xas, xlc, xpf, xmb, xrd, xrp, xpt, xaw, xrc, xcc, xts, xpk) (nI R, nI L, nI H, yco, yat, ypf, ymb, ypr, yfw, yrc, yca, ytr, yd, yro, yfr, ybe, yne, ycu) :=
    ⟨R, L, H, A, c, pf, mb, D, rp, P, F, rc, ca, B, hH, Q, hF, hP, ⟨rfl, rfl, rfl, TX, Xpf, Xmb, XD, XR, XP, XF, Xrc, Xca⟩, ⟨rfl, rfl, rfl, TY, Ypf, Ymb, YP, YF, Yrc, Yca⟩⟩
  unfold wpX_pruneLeft
  rcases dc_ix v1 (n := R) (by omega) with a | ⟨s, hs, e⟩
  · refine dx_router0 a (br_t rfl ?_)
    rcases a with a | ⟨a, b⟩
    · exact br_t a ⟨rfl, same⟩
    · exact br_f a (br_t b ⟨rfl, same⟩)
  · subst e
    refine dx_router1 hs hR (br_f (by decide) ?_)
    rcases dc_ix v2 (n := L) (by omega) with a | ⟨j, hj, e⟩
    · refine dx_link0 a (br_t rfl (br_f (nI_pos (by omega)) (br_f (dc_in hs (by omega)) ?_)))
      rcases a with a | ⟨a, b⟩
      · exact br_t a ⟨rfl, same⟩
      · exact br_f a (br_f (Int32.not_lt.mpr b) ⟨rfl, same⟩)
    · subst e
      refine dx_link1 hj hL (br_f (by decide) ⟨dc_v16 s j (by omega) (by omega), ?_⟩)
      rw [dc_c16 s j (by omega), XP s j hs hj]
      refine br_f (nI_pos (by omega)) (br_f (dc_in hs (by omega)) (br_f (nI_pos (by omega)) (br_t (nI_lt hj (by omega)) ⟨dc_v16 s j (by omega) (by omega), ?_⟩)))
      rw [dc_c16 s j (by omega)]
      exact ⟨YP s j hs hj, same⟩
theorem i_vc_received {k : Nat} {u : SX} {v : SY} (I : i_Rel k u v) (hk : k + 3 ≤ 1539) (v1 : Int32) : wpX_received (fun r => wpY_received (fun r' => r' = r ∧ i_Rel (k + 3) u v) v v1) u v1 := by
  obtain ⟨R, L, H, A, c, pf, mb, D, rp, P, F, rc, ca, B, hH, Q, hF, hP, X, Y⟩ := I
  obtain ⟨xR, xL, xH, xas, xlc, xpf, xmb, xrd, xrp, xpt, xaw, xrc, xcc, xts, xpk⟩ := u
  obtain ⟨yR, yL, yH, yco, yat, ypf, ymb, ypr, yfw, yrc, yca, ytr, yd, yro, yfr, ybe, yne, ycu⟩ := v
  obtain ⟨rfl, rfl, rfl, TX, Xpf, Xmb, XD, XR, XP, XF, Xrc, Xca⟩ := X
  obtain ⟨rfl, rfl, rfl, TY, Ypf, Ymb, YP, YF, Yrc, Yca⟩ := Y
  have hR : R ≤ 12 := B.2.1
  have hL : L ≤ 16 := B.2.2.2.1
  have same : i_Rel (k + 3) (nI R, nI L, nI H, xas, xlc, xpf, xmb, xrd, xrp, xpt, xaw, xrc, xcc, xts, xpk) (nI R, nI L, nI H, yco, yat, ypf, ymb, ypr, yfw, yrc, yca, ytr, yd, yro, yfr, ybe, yne, ycu) :=
    ⟨R, L, H, A, c, pf, mb, D, rp, P, F, rc, ca, B, hH, Q, hF, hP, ⟨rfl, rfl, rfl, TX, Xpf, Xmb, XD, XR, XP, XF, Xrc, Xca⟩, ⟨rfl, rfl, rfl, TY, Ypf, Ymb, YP, YF, Yrc, Yca⟩⟩
  unfold wpX_received
  rcases dc_ix v1 (n := R) (by omega) with a | ⟨j, hj, e⟩
  · refine dx_router0 a (br_t rfl ?_)
    rcases a with a | ⟨a, b⟩
    · exact br_t a ⟨rfl, same⟩
    · exact br_f a (br_f (Int32.not_lt.mpr b) ⟨rfl, same⟩)
  · subst e
    refine dx_router1 hj hR (br_f (by decide) ⟨vp_in_nI (by omega) (by omega), br_f (nI_pos (by omega)) (br_t (nI_lt hj (by omega)) ⟨vp_in_nI (by omega) (by omega), ?_⟩)⟩)
    rw [dc_cl j (by omega)]
    exact ⟨(Yrc j hj).trans (Xrc j hj).symm, same⟩
theorem i_vc_carried {k : Nat} {u : SX} {v : SY} (I : i_Rel k u v) (hk : k + 3 ≤ 1539) (v1 : Int32) : wpX_carried (fun r => wpY_carried (fun r' => r' = r ∧ i_Rel (k + 3) u v) v v1) u v1 := by
  obtain ⟨R, L, H, A, c, pf, mb, D, rp, P, F, rc, ca, B, hH, Q, hF, hP, X, Y⟩ := I
  obtain ⟨xR, xL, xH, xas, xlc, xpf, xmb, xrd, xrp, xpt, xaw, xrc, xcc, xts, xpk⟩ := u
  obtain ⟨yR, yL, yH, yco, yat, ypf, ymb, ypr, yfw, yrc, yca, ytr, yd, yro, yfr, ybe, yne, ycu⟩ := v
  obtain ⟨rfl, rfl, rfl, TX, Xpf, Xmb, XD, XR, XP, XF, Xrc, Xca⟩ := X
  obtain ⟨rfl, rfl, rfl, TY, Ypf, Ymb, YP, YF, Yrc, Yca⟩ := Y
  have hR : R ≤ 12 := B.2.1
  have hL : L ≤ 16 := B.2.2.2.1
  have same : i_Rel (k + 3) (nI R, nI L, nI H, xas, xlc, xpf, xmb, xrd, xrp, xpt, xaw, xrc, xcc, xts, xpk) (nI R, nI L, nI H, yco, yat, ypf, ymb, ypr, yfw, yrc, yca, ytr, yd, yro, yfr, ybe, yne, ycu) :=
    ⟨R, L, H, A, c, pf, mb, D, rp, P, F, rc, ca, B, hH, Q, hF, hP, ⟨rfl, rfl, rfl, TX, Xpf, Xmb, XD, XR, XP, XF, Xrc, Xca⟩, ⟨rfl, rfl, rfl, TY, Ypf, Ymb, YP, YF, Yrc, Yca⟩⟩
  unfold wpX_carried
  rcases dc_ix v1 (n := L) (by omega) with a | ⟨j, hj, e⟩
  · refine dx_link0 a (br_t rfl ?_)
    rcases a with a | ⟨a, b⟩
    · exact br_t a ⟨rfl, same⟩
    · exact br_f a (br_f (Int32.not_lt.mpr b) ⟨rfl, same⟩)
  · subst e
    refine dx_link1 hj hL (br_f (by decide) ⟨vp_in_nI (by omega) (by omega), br_f (nI_pos (by omega)) (br_t (nI_lt hj (by omega)) ⟨vp_in_nI (by omega) (by omega), ?_⟩)⟩)
    rw [dc_cl j (by omega)]
    exact ⟨(Yca j hj).trans (Xca j hj).symm, same⟩
theorem i_vc_linkState {k : Nat} {u : SX} {v : SY} (I : i_Rel k u v) (hk : k + 3 ≤ 1539) (v1 : Int32) : wpX_linkState (fun r => wpY_linkState (fun r' => r' = r ∧ i_Rel (k + 3) u v) v v1) u v1 := by
  obtain ⟨R, L, H, A, c, pf, mb, D, rp, P, F, rc, ca, B, hH, Q, hF, hP, X, Y⟩ := I
  obtain ⟨xR, xL, xH, xas, xlc, xpf, xmb, xrd, xrp, xpt, xaw, xrc, xcc, xts, xpk⟩ := u
  obtain ⟨yR, yL, yH, yco, yat, ypf, ymb, ypr, yfw, yrc, yca, ytr, yd, yro, yfr, ybe, yne, ycu⟩ := v
  obtain ⟨rfl, rfl, rfl, TX, Xpf, Xmb, XD, XR, XP, XF, Xrc, Xca⟩ := X
  obtain ⟨rfl, rfl, rfl, TY, Ypf, Ymb, YP, YF, Yrc, Yca⟩ := Y
  have hR : R ≤ 12 := B.2.1
  have hL : L ≤ 16 := B.2.2.2.1
  have same : i_Rel (k + 3) (nI R, nI L, nI H, xas, xlc, xpf, xmb, xrd, xrp, xpt, xaw, xrc, xcc, xts, xpk) (nI R, nI L, nI H, yco, yat, ypf, ymb, ypr, yfw, yrc, yca, ytr, yd, yro, yfr, ybe, yne, ycu) :=
    ⟨R, L, H, A, c, pf, mb, D, rp, P, F, rc, ca, B, hH, Q, hF, hP, ⟨rfl, rfl, rfl, TX, Xpf, Xmb, XD, XR, XP, XF, Xrc, Xca⟩, ⟨rfl, rfl, rfl, TY, Ypf, Ymb, YP, YF, Yrc, Yca⟩⟩
  unfold wpX_linkState
  rcases dc_ix v1 (n := L) (by omega) with a | ⟨j, hj, e⟩
  · refine dx_link0 a (br_t rfl ?_)
    rcases a with a | ⟨a, b⟩
    · exact br_t a ⟨rfl, same⟩
    · exact br_f a (br_f (Int32.not_lt.mpr b) ⟨rfl, same⟩)
  · subst e
    refine dx_link1 hj hL (br_f (by decide) ⟨vp_in_nI (by omega) (by omega), vp_in_nI (by omega) (by omega), br_f (nI_pos (by omega)) (br_t (nI_lt hj (by omega)) ?_)⟩)
    obtain ⟨m, hm, em, bits⟩ := dc_ms_nat (TX.2 j hj) hR
    rw [dc_cl j (by omega), TX.1 j hj, em]
    refine loop_0 (fun n i s => wY_linkState_18 (fun r' => r' = nI (c j) + 16 * nI m ∧ i_Rel (k + 3) (nI R, nI L, nI H, xas, xlc, xpf, xmb, xrd, xrp, xpt, xaw, xrc, xcc, xts, xpk) (nI R, nI L, nI H, yco, yat, ypf, ymb, ypr, yfw, yrc, yca, ytr, yd, yro, yfr, ybe, yne, ycu)) (nI j) (nI R) (nI L) (nI H) yco yat ypf ymb ypr yfw yrc yca ytr yd yro yfr ybe yne ycu n s (nI i)) (fun i s => s = nI (m % 2 ^ i)) R 0 ?_ ?_ ?_
    · show (0 : Int32) = nI (m % 2 ^ 0)
      rw [Nat.pow_zero, Nat.mod_one] <;> rfl
    · intro n s e
      subst e
      refine br_t (dc_end (by omega)) ⟨vp_in_nI (by omega) (by omega), ?_⟩
      rw [dc_cl j (by omega), TY.1 j hj, Nat.mod_eq_of_lt hm]
      exact ⟨rfl, same⟩
    · intro n i s hi e hn
      subst e
      refine br_f (dc_in hi (by omega)) ⟨dc_v12 j i (by omega) (by omega), ?_⟩
      rw [dc_c12 j i (by omega)]
      by_cases z : A j i = true
      · refine br_f (fun w => by rw [(TY.2 j i hj hi).mp w] at z; exact nomatch z) (nm_r (dc_sum1 (by omega) (by rw [bits i hi]; exact z)) (nm_r (nI_1 i) (hn _ rfl)))
      · exact br_t ((TY.2 j i hj hi).mpr (dc_bt z)) (nm_r (nI_1 i) (hn _ (dc_sum0 (by rw [bits i hi]; exact dc_bt z))))
theorem i_vc_routerState {k : Nat} {u : SX} {v : SY} (I : i_Rel k u v) (hk : k + 3 ≤ 1539) (v1 : Int32) : wpX_routerState (fun r => wpY_routerState (fun r' => r' = r ∧ i_Rel (k + 3) u v) v v1) u v1 := by
  obtain ⟨R, L, H, A, c, pf, mb, D, rp, P, F, rc, ca, B, hH, Q, hF, hP, X, Y⟩ := I
  obtain ⟨xR, xL, xH, xas, xlc, xpf, xmb, xrd, xrp, xpt, xaw, xrc, xcc, xts, xpk⟩ := u
  obtain ⟨yR, yL, yH, yco, yat, ypf, ymb, ypr, yfw, yrc, yca, ytr, yd, yro, yfr, ybe, yne, ycu⟩ := v
  obtain ⟨rfl, rfl, rfl, TX, Xpf, Xmb, XD, XR, XP, XF, Xrc, Xca⟩ := X
  obtain ⟨rfl, rfl, rfl, TY, Ypf, Ymb, YP, YF, Yrc, Yca⟩ := Y
  have hR : R ≤ 12 := B.2.1
  have hL : L ≤ 16 := B.2.2.2.1
  have same : i_Rel (k + 3) (nI R, nI L, nI H, xas, xlc, xpf, xmb, xrd, xrp, xpt, xaw, xrc, xcc, xts, xpk) (nI R, nI L, nI H, yco, yat, ypf, ymb, ypr, yfw, yrc, yca, ytr, yd, yro, yfr, ybe, yne, ycu) :=
    ⟨R, L, H, A, c, pf, mb, D, rp, P, F, rc, ca, B, hH, Q, hF, hP, ⟨rfl, rfl, rfl, TX, Xpf, Xmb, XD, XR, XP, XF, Xrc, Xca⟩, ⟨rfl, rfl, rfl, TY, Ypf, Ymb, YP, YF, Yrc, Yca⟩⟩
  unfold wpX_routerState
  rcases dc_ix v1 (n := R) (by omega) with a | ⟨j, hj, e⟩
  · refine dx_router0 a (br_t rfl ?_)
    rcases a with a | ⟨a, b⟩
    · exact br_t a ⟨rfl, same⟩
    · exact br_f a (br_f (Int32.not_lt.mpr b) ⟨rfl, same⟩)
  · subst e
    refine dx_router1 hj hR (br_f (by decide) ⟨vp_in_nI (by omega) (by omega), vp_in_nI (by omega) (by omega), ?_⟩)
    rw [dc_cl j (by omega), Xmb j hj, Xpf j hj]
    by_cases z : mb j = 0
    · refine br_t z (br_f (nI_pos (by omega)) (br_t (nI_lt hj (by omega)) ⟨vp_in_nI (by omega) (by omega), vp_in_nI (by omega) (by omega), ?_⟩))
      rw [dc_cl j (by omega), Ymb j hj, Ypf j hj]
      exact br_t z ⟨rfl, same⟩
    · refine br_f z (br_f (nI_pos (by omega)) (br_t (nI_lt hj (by omega)) ⟨vp_in_nI (by omega) (by omega), vp_in_nI (by omega) (by omega), ?_⟩))
      rw [dc_cl j (by omega), Ymb j hj, Ypf j hj]
      exact br_f z ⟨rfl, same⟩
