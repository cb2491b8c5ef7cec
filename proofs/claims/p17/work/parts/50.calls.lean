/-! what each call of the law does to the component -/
/-- the state is sound, and its record is rc, ca -/
def dp_K (R L H : Nat) (A : Nat → Nat → Bool) (rp P F : Nat → Nat → Int32) (rc ca : Nat → Int32) (u : St2) : Prop := ∃ (c : Nat → Nat) (pf mb : Nat → Int32) (D : Nat → Nat → Nat),
  dc_B R L c ∧ 1 ≤ H ∧ H ≤ 16 ∧ dc_DR R L A c D rp ∧ dc_fw R L F ∧ dc_pm R L P ∧ dc_RX R L H A c pf mb D rp P F rc ca u
def dp_I (R L H : Nat) (u : St2) : Prop := ∃ A rp P F rc ca, dp_K R L H A rp P F rc ca u
theorem dp_attach {post : Int32 → St2 → Prop} {R L H j q : Nat} {u : St2} (I : dp_I R L H u) (hj : j < L) (hq : q < R) (h : ∀ r u', dp_I R L H u' → post r u') : wpX_attach post u (nI j) (nI q) := by
  obtain ⟨A, rp, P, F, rc, ca, I⟩ := I
  obtain ⟨c, pf, mb, D, B, hH1, hH, Q, hF, hP, X⟩ := I
  obtain ⟨xR, xL, xH, xas, xlc, xpf, xmb, xrd, xrp, xpt, xaw, xrc, xcc, xts, xpk⟩ := u
  obtain ⟨rfl, rfl, rfl, TX, Xpf, Xmb, XD, XR, XP, XF, Xrc, Xca⟩ := X
  have hR : R ≤ 12 := B.2.1
  have hL : L ≤ 16 := B.2.2.2.1
  have same : dp_I R L H (nI R, nI L, nI H, xas, xlc, xpf, xmb, xrd, xrp, xpt, xaw, xrc, xcc, xts, xpk) := ⟨A, rp, P, F, rc, ca, c, pf, mb, D, B, hH1, hH, Q, hF, hP, ⟨rfl, rfl, rfl, TX, Xpf, Xmb, XD, XR, XP, XF, Xrc, Xca⟩⟩
  unfold wpX_attach
  refine dx_link1 hj hL (br_f (by decide) (dx_router1 hq hR (br_f (by decide) ⟨vp_in_nI (by omega) (by omega), ?_⟩)))
  rw [dc_cl j (by omega)]
  refine dx_con (TX.2 j hj) hq hR (fun z => ?_) (fun z => ?_)
  · exact br_f (by decide) (h _ _ same)
  · exact br_t rfl ⟨vp_in_nI (by omega) (by omega), vp_in_nI (by omega) (by omega), nm_e (dx_routes B (dc_TXo TX hj hq hR) (fun rd rp' D' q1 q2 => dx_reset B (fun pt aw rcx cc ts e1 e2 e3 e4 => h _ _ ⟨dc_Au A j q true, fun s r => rp' (s * 12 + r), fun _ _ => 0, fun _ _ => -1, fun _ => 0, fun _ => 0, c, pf, mb, D', B, hH1, hH, q1, dc_fw0 R L, dc_pm0 R L, ⟨rfl, rfl, rfl, dc_TXo TX hj hq hR, Xpf, Xmb, q2, fun _ _ _ _ => rfl, e1, e2, e3, e4⟩⟩)))⟩
theorem dp_detach {post : Int32 → St2 → Prop} {R L H j q : Nat} {u : St2} (I : dp_I R L H u) (hj : j < L) (hq : q < R) (h : ∀ r u', dp_I R L H u' → post r u') : wpX_detach post u (nI j) (nI q) := by
  obtain ⟨A, rp, P, F, rc, ca, I⟩ := I
  obtain ⟨c, pf, mb, D, B, hH1, hH, Q, hF, hP, X⟩ := I
  obtain ⟨xR, xL, xH, xas, xlc, xpf, xmb, xrd, xrp, xpt, xaw, xrc, xcc, xts, xpk⟩ := u
  obtain ⟨rfl, rfl, rfl, TX, Xpf, Xmb, XD, XR, XP, XF, Xrc, Xca⟩ := X
  have hR : R ≤ 12 := B.2.1
  have hL : L ≤ 16 := B.2.2.2.1
  have same : dp_I R L H (nI R, nI L, nI H, xas, xlc, xpf, xmb, xrd, xrp, xpt, xaw, xrc, xcc, xts, xpk) := ⟨A, rp, P, F, rc, ca, c, pf, mb, D, B, hH1, hH, Q, hF, hP, ⟨rfl, rfl, rfl, TX, Xpf, Xmb, XD, XR, XP, XF, Xrc, Xca⟩⟩
  unfold wpX_detach
  refine dx_link1 hj hL (br_f (by decide) (dx_router1 hq hR (br_f (by decide) ⟨vp_in_nI (by omega) (by omega), ?_⟩)))
  rw [dc_cl j (by omega)]
  refine dx_con (TX.2 j hj) hq hR (fun z => ?_) (fun z => ?_)
  · exact br_f (by decide) ⟨vp_in_nI (by omega) (by omega), vp_in_nI (by omega) (by omega), nm_e (dx_routes B (dc_TXr TX hj hq hR) (fun rd rp' D' q1 q2 => dx_reset B (fun pt aw rcx cc ts e1 e2 e3 e4 => h _ _ ⟨dc_Au A j q false, fun s r => rp' (s * 12 + r), fun _ _ => 0, fun _ _ => -1, fun _ => 0, fun _ => 0, c, pf, mb, D', B, hH1, hH, q1, dc_fw0 R L, dc_pm0 R L, ⟨rfl, rfl, rfl, dc_TXr TX hj hq hR, Xpf, Xmb, q2, fun _ _ _ _ => rfl, e1, e2, e3, e4⟩⟩)))⟩
  · exact br_t rfl (h _ _ same)
theorem dp_setCost {post : Int32 → St2 → Prop} {R L H j d : Nat} {u : St2} (I : dp_I R L H u) (hj : j < L) (d1 : 1 ≤ d) (hd : d ≤ 15) (h : ∀ r u', dp_I R L H u' → post r u') : wpX_setCost post u (nI j) (nI d) := by
  obtain ⟨A, rp, P, F, rc, ca, I⟩ := I
  obtain ⟨c, pf, mb, D, B, hH1, hH, Q, hF, hP, X⟩ := I
  obtain ⟨xR, xL, xH, xas, xlc, xpf, xmb, xrd, xrp, xpt, xaw, xrc, xcc, xts, xpk⟩ := u
  obtain ⟨rfl, rfl, rfl, TX, Xpf, Xmb, XD, XR, XP, XF, Xrc, Xca⟩ := X
  have hR : R ≤ 12 := B.2.1
  have hL : L ≤ 16 := B.2.2.2.1
  have same : dp_I R L H (nI R, nI L, nI H, xas, xlc, xpf, xmb, xrd, xrp, xpt, xaw, xrc, xcc, xts, xpk) := ⟨A, rp, P, F, rc, ca, c, pf, mb, D, B, hH1, hH, Q, hF, hP, ⟨rfl, rfl, rfl, TX, Xpf, Xmb, XD, XR, XP, XF, Xrc, Xca⟩⟩
  unfold wpX_setCost
  refine dx_link1 hj hL (br_f (by decide) (br_f (nI_nlt (b := 1) d1 (by omega)) (br_t (nI_le (b := 15) hd (by decide)) ⟨vp_in_nI (by omega) (by omega), nm_e ?_⟩)))
  rw [dc_cl j (by omega)]
  exact dx_routes (dc_Bc B j d1 hd) (dc_TXc TX j d) (fun rd rp' D' q1 q2 => dx_reset (dc_Bc B j d1 hd) (fun pt aw rcx cc ts e1 e2 e3 e4 => h _ _ ⟨A, fun s r => rp' (s * 12 + r), fun _ _ => 0, fun _ _ => -1, fun _ => 0, fun _ => 0, dc_cu c j d, pf, mb, D', dc_Bc B j d1 hd, hH1, hH, q1, dc_fw0 R L, dc_pm0 R L, ⟨rfl, rfl, rfl, dc_TXc TX j d, Xpf, Xmb, q2, fun _ _ _ _ => rfl, e1, e2, e3, e4⟩⟩))
theorem dp_setPreference {post : Int32 → St2 → Prop} {R L H j d : Nat} {u : St2} (I : dp_I R L H u) (hj : j < R) (hd : d ≤ 255) (h : ∀ r u', dp_I R L H u' → post r u') : wpX_setPreference post u (nI j) (nI d) := by
  obtain ⟨A, rp, P, F, rc, ca, I⟩ := I
  obtain ⟨c, pf, mb, D, B, hH1, hH, Q, hF, hP, X⟩ := I
  obtain ⟨xR, xL, xH, xas, xlc, xpf, xmb, xrd, xrp, xpt, xaw, xrc, xcc, xts, xpk⟩ := u
  obtain ⟨rfl, rfl, rfl, TX, Xpf, Xmb, XD, XR, XP, XF, Xrc, Xca⟩ := X
  have hR : R ≤ 12 := B.2.1
  have hL : L ≤ 16 := B.2.2.2.1
  have same : dp_I R L H (nI R, nI L, nI H, xas, xlc, xpf, xmb, xrd, xrp, xpt, xaw, xrc, xcc, xts, xpk) := ⟨A, rp, P, F, rc, ca, c, pf, mb, D, B, hH1, hH, Q, hF, hP, ⟨rfl, rfl, rfl, TX, Xpf, Xmb, XD, XR, XP, XF, Xrc, Xca⟩⟩
  unfold wpX_setPreference
  refine dx_router1 hj hR (br_f (by decide) (br_f (nI_pos (by omega)) (br_t (nI_le (b := 255) hd (by decide)) ⟨vp_in_nI (by omega) (by omega), nm_e ?_⟩)))
  rw [dc_cl j (by omega)]
  exact dx_reset B (fun pt aw rcx cc ts e1 e2 e3 e4 => h _ _ ⟨A, rp, fun _ _ => 0, fun _ _ => -1, fun _ => 0, fun _ => 0, c, upd pf j (nI d), mb, D, B, hH1, hH, Q, dc_fw0 R L, dc_pm0 R L, ⟨rfl, rfl, rfl, TX, dc_row Xpf j _, Xmb, XD, XR, e1, e2, e3, e4⟩⟩)
theorem dp_join {post : Int32 → St2 → Prop} {R L H j : Nat} {u : St2} (I : dp_I R L H u) (hj : j < R) (h : ∀ r u', dp_I R L H u' → post r u') : wpX_join post u (nI j) := by
  obtain ⟨A, rp, P, F, rc, ca, I⟩ := I
  obtain ⟨c, pf, mb, D, B, hH1, hH, Q, hF, hP, X⟩ := I
  obtain ⟨xR, xL, xH, xas, xlc, xpf, xmb, xrd, xrp, xpt, xaw, xrc, xcc, xts, xpk⟩ := u
  obtain ⟨rfl, rfl, rfl, TX, Xpf, Xmb, XD, XR, XP, XF, Xrc, Xca⟩ := X
  have hR : R ≤ 12 := B.2.1
  have hL : L ≤ 16 := B.2.2.2.1
  have same : dp_I R L H (nI R, nI L, nI H, xas, xlc, xpf, xmb, xrd, xrp, xpt, xaw, xrc, xcc, xts, xpk) := ⟨A, rp, P, F, rc, ca, c, pf, mb, D, B, hH1, hH, Q, hF, hP, ⟨rfl, rfl, rfl, TX, Xpf, Xmb, XD, XR, XP, XF, Xrc, Xca⟩⟩
  unfold wpX_join
  refine dx_router1 hj hR (br_f (by decide) ⟨vp_in_nI (by omega) (by omega), ?_⟩)
  rw [dc_cl j (by omega), Xmb j hj]
  by_cases z : mb j = 0
  · exact br_t z ⟨vp_in_nI (by omega) (by omega), nm_e (dx_join28 B TX Q XD XR hj hF XF XP (fun pt' g => h _ _ ⟨A, rp, dc_jn R A c D rp F j P R, F, rc, ca, c, pf, upd mb j 1, D, B, hH1, hH, Q, hF, dc_jn_pm hP R, ⟨rfl, rfl, rfl, TX, Xpf, dc_row Xmb j _, XD, XR, g, XF, Xrc, Xca⟩⟩))⟩
  · exact br_f z (h _ _ same)
theorem dp_leave {post : Int32 → St2 → Prop} {R L H j : Nat} {u : St2} (I : dp_I R L H u) (hj : j < R) (h : ∀ r u', dp_I R L H u' → post r u') : wpX_leave post u (nI j) := by
  obtain ⟨A, rp, P, F, rc, ca, I⟩ := I
  obtain ⟨c, pf, mb, D, B, hH1, hH, Q, hF, hP, X⟩ := I
  obtain ⟨xR, xL, xH, xas, xlc, xpf, xmb, xrd, xrp, xpt, xaw, xrc, xcc, xts, xpk⟩ := u
  obtain ⟨rfl, rfl, rfl, TX, Xpf, Xmb, XD, XR, XP, XF, Xrc, Xca⟩ := X
  have hR : R ≤ 12 := B.2.1
  have hL : L ≤ 16 := B.2.2.2.1
  have same : dp_I R L H (nI R, nI L, nI H, xas, xlc, xpf, xmb, xrd, xrp, xpt, xaw, xrc, xcc, xts, xpk) := ⟨A, rp, P, F, rc, ca, c, pf, mb, D, B, hH1, hH, Q, hF, hP, ⟨rfl, rfl, rfl, TX, Xpf, Xmb, XD, XR, XP, XF, Xrc, Xca⟩⟩
  unfold wpX_leave
  refine dx_router1 hj hR (br_f (by decide) ⟨vp_in_nI (by omega) (by omega), ?_⟩)
  rw [dc_cl j (by omega), Xmb j hj]
  by_cases z : mb j = 0
  · exact br_t z (h _ _ same)
  · exact br_f z ⟨vp_in_nI (by omega) (by omega), nm_e (h _ _ ⟨A, rp, P, F, rc, ca, c, pf, upd mb j 0, D, B, hH1, hH, Q, hF, hP, ⟨rfl, rfl, rfl, TX, Xpf, dc_row Xmb j _, XD, XR, XP, XF, Xrc, Xca⟩⟩)⟩
theorem dp_tick {post : St2 → Prop} {R L H m : Nat} {u : St2} (I : dp_I R L H u) (h1 : 1 ≤ m) (hm : m ≤ 64) (h : ∀ u', dp_I R L H u' → post u') : wpX_tick post u (nI m) := by
  obtain ⟨A, rp, P, F, rc, ca, I⟩ := I
  obtain ⟨c, pf, mb, D, B, hH1, hH, Q, hF, hP, X⟩ := I
  obtain ⟨xR, xL, xH, xas, xlc, xpf, xmb, xrd, xrp, xpt, xaw, xrc, xcc, xts, xpk⟩ := u
  obtain ⟨rfl, rfl, rfl, TX, Xpf, Xmb, XD, XR, XP, XF, Xrc, Xca⟩ := X
  have hR : R ≤ 12 := B.2.1
  have hL : L ≤ 16 := B.2.2.2.1
  have same : dp_I R L H (nI R, nI L, nI H, xas, xlc, xpf, xmb, xrd, xrp, xpt, xaw, xrc, xcc, xts, xpk) := ⟨A, rp, P, F, rc, ca, c, pf, mb, D, B, hH1, hH, Q, hF, hP, ⟨rfl, rfl, rfl, TX, Xpf, Xmb, XD, XR, XP, XF, Xrc, Xca⟩⟩
  exact br_t (nI_le (a := 1) h1 (by omega)) (br_t (nI_le (b := 64) hm (by decide)) (dx_tick21 hR hL hm hP XP (fun pt' g1 => h _ ⟨A, rp, dc_tk P m, F, rc, ca, c, pf, mb, D, B, hH1, hH, Q, hF, dc_tk_pm hP m, ⟨rfl, rfl, rfl, TX, Xpf, Xmb, XD, XR, g1, XF, Xrc, Xca⟩⟩)))
/-- behind a send from s: z is its record -/
def dp_J (R L H s : Nat) (z : (Nat → Nat) × (Nat → Nat) × (Nat → Nat → Bool)) (u : St2) : Prop := ∃ A rp P F N b, z = dc_sz R L A rp P F s ∧ rp s s = -1 ∧
  dp_K R L H A rp (dc_pr R (rp s) (dc_sz R L A rp P F s).2.2 N (nI H) s P L) (dc_fo R (dc_sz R L A rp P F s).2.2 b s F L) (fun y => nI (z.1 y)) (fun k => nI (z.2.1 k)) u
theorem dp_JI {R L H s : Nat} {z : (Nat → Nat) × (Nat → Nat) × (Nat → Nat → Bool)} {u : St2} (J : dp_J R L H s z u) : dp_I R L H u := by
  obtain ⟨A, rp, P, F, N, b, _, _, k⟩ := J
  exact ⟨_, _, _, _, _, _, k⟩
/-- a send from a sound state -/
theorem dp_sendK {post : Int32 → St2 → Prop} {R L H s : Nat} {A : Nat → Nat → Bool} {rp P F : Nat → Nat → Int32} {rc ca : Nat → Int32} {u : St2} (I : dp_K R L H A rp P F rc ca u) (hs : s < R)
    (h : ∀ n u' N b, n ≤ 12 → rp s s = -1 → dp_K R L H A rp (dc_pr R (rp s) (dc_sz R L A rp P F s).2.2 N (nI H) s P L) (dc_fo R (dc_sz R L A rp P F s).2.2 b s F L) (fun y => nI ((dc_sz R L A rp P F s).1 y)) (fun k => nI ((dc_sz R L A rp P F s).2.1 k)) u' → post (nI n) u') : wpX_send post u (nI s) := by
  obtain ⟨c, pf, mb, D, B, hH1, hH, Q, hF, hP, X⟩ := I
  obtain ⟨xR, xL, xH, xas, xlc, xpf, xmb, xrd, xrp, xpt, xaw, xrc, xcc, xts, xpk⟩ := u
  obtain ⟨rfl, rfl, rfl, TX, Xpf, Xmb, XD, XR, XP, XF, Xrc, Xca⟩ := X
  have hR : R ≤ 12 := B.2.1
  have hL : L ≤ 16 := B.2.2.2.1
  have c1 := B.2.2.2.2.1
  have e0 : rp s s = -1 := dc_isR_u ((Q s hs).2 s hs) (Or.inl ⟨rfl, fun k hk => dc_Hp_s (Q s hs).1 c1 hk⟩)
  refine dx_send B TX Q hs Xpf Xmb XD XR XP XF (fun N pt' aw' rc' cc' ts' pk' a1 a2 a3 a4 a5 a6 => h _ _ N (dc_be pf (D s)) ?_ e0 ⟨c, pf, mb, D, B, hH1, hH, Q, dc_fo_fw hF L, dc_pr_pm hP hH L, ⟨rfl, rfl, rfl, TX, Xpf, Xmb, XD, XR, a3, a4, a5, a6⟩⟩)
  exact Nat.le_trans (dc_cn_le _ R) hR
theorem dp_send {post : Int32 → St2 → Prop} {R L H s : Nat} {u : St2} (I : dp_I R L H u) (hs : s < R) (h : ∀ n u' z, n ≤ 12 → dp_J R L H s z u' → post (nI n) u') : wpX_send post u (nI s) := by
  obtain ⟨A, rp, P, F, rc, ca, I⟩ := I
  exact dp_sendK I hs (fun n u' N b hn e0 k => h n u' _ hn ⟨A, rp, P, F, N, b, rfl, e0, k⟩)
theorem dp_second {post : Int32 → St2 → Prop} {R L H s : Nat} {z : (Nat → Nat) × (Nat → Nat) × (Nat → Nat → Bool)} {u : St2} (J : dp_J R L H s z u) (hs : s < R)
    (h : ∀ n u' z2, n ≤ 12 → dp_J R L H s z2 u' → (∀ k, k < L → z2.2.1 k ≤ 1) → (∀ y, y < R → z2.1 y ≤ 1) → (∀ y, y < R → 1 ≤ z2.1 y → 1 ≤ z.1 y) → post (nI n) u') : wpX_send post u (nI s) := by
  obtain ⟨A, rp, P, F, N, b, ez, e0, I⟩ := J
  have I' := I
  obtain ⟨c, pf, mb, D, B, hH1, hH, _⟩ := I'
  have hR : R ≤ 12 := B.2.1
  have hL : L ≤ 16 := B.2.2.2.1
  have two := dc_second (A := A) (rp := rp) (P := P) (F := F) (b := b) (N := N) hR hL hs hH1 hH e0 rfl rfl
  exact dp_sendK I hs (fun n u' N' b' hn _ k => h n u' _ hn ⟨A, rp, _, _, N', b', rfl, e0, k⟩ two.1 two.2.1 (fun y hy o => by rw [ez]; exact two.2.2 y hy o))
/-! the calls that only look -/
theorem dp_received {post : Int32 → Prop} {R L H s y : Nat} {z : (Nat → Nat) × (Nat → Nat) × (Nat → Nat → Bool)} {u : St2} (J : dp_J R L H s z u) (hy : y < R) (h : post (nI (z.1 y))) : wpX_received post u (nI y) := by
  obtain ⟨A, rp, P, F, N, b, ez, e0, I⟩ := J
  obtain ⟨c, pf, mb, D, B, hH1, hH, Q, hF, hP, X⟩ := I
  obtain ⟨xR, xL, xH, xas, xlc, xpf, xmb, xrd, xrp, xpt, xaw, xrc, xcc, xts, xpk⟩ := u
  obtain ⟨rfl, rfl, rfl, TX, Xpf, Xmb, XD, XR, XP, XF, Xrc, Xca⟩ := X
  have hR : R ≤ 12 := B.2.1
  have hL : L ≤ 16 := B.2.2.2.1
  unfold wpX_received
  refine dx_router1 hy hR (br_f (by decide) ⟨vp_in_nI (by omega) (by omega), ?_⟩)
  rw [dc_cl y (by omega), Xrc y hy]
  exact h
theorem dp_carried {post : Int32 → Prop} {R L H s k : Nat} {z : (Nat → Nat) × (Nat → Nat) × (Nat → Nat → Bool)} {u : St2} (J : dp_J R L H s z u) (hk : k < L) (h : post (nI (z.2.1 k))) : wpX_carried post u (nI k) := by
  obtain ⟨A, rp, P, F, N, b, ez, e0, I⟩ := J
  obtain ⟨c, pf, mb, D, B, hH1, hH, Q, hF, hP, X⟩ := I
  obtain ⟨xR, xL, xH, xas, xlc, xpf, xmb, xrd, xrp, xpt, xaw, xrc, xcc, xts, xpk⟩ := u
  obtain ⟨rfl, rfl, rfl, TX, Xpf, Xmb, XD, XR, XP, XF, Xrc, Xca⟩ := X
  have hR : R ≤ 12 := B.2.1
  have hL : L ≤ 16 := B.2.2.2.1
  unfold wpX_carried
  refine dx_link1 hk hL (br_f (by decide) ⟨vp_in_nI (by omega) (by omega), ?_⟩)
  rw [dc_cl k (by omega), Xca k hk]
  exact h
theorem dp_distance {post : Int32 → Prop} {R L H s r : Nat} {u : St2} (I : dp_I R L H u) (hs : s < R) (hr : r < R) (h : ∀ v, post v) : wpX_distance post u (nI s) (nI r) := by
  obtain ⟨A, rp, P, F, rc, ca, I⟩ := I
  obtain ⟨c, pf, mb, D, B, hH1, hH, Q, hF, hP, X⟩ := I
  obtain ⟨xR, xL, xH, xas, xlc, xpf, xmb, xrd, xrp, xpt, xaw, xrc, xcc, xts, xpk⟩ := u
  obtain ⟨rfl, rfl, rfl, TX, Xpf, Xmb, XD, XR, XP, XF, Xrc, Xca⟩ := X
  have hR : R ≤ 12 := B.2.1
  have hL : L ≤ 16 := B.2.2.2.1
  have same : dp_I R L H (nI R, nI L, nI H, xas, xlc, xpf, xmb, xrd, xrp, xpt, xaw, xrc, xcc, xts, xpk) := ⟨A, rp, P, F, rc, ca, c, pf, mb, D, B, hH1, hH, Q, hF, hP, ⟨rfl, rfl, rfl, TX, Xpf, Xmb, XD, XR, XP, XF, Xrc, Xca⟩⟩
  unfold wpX_distance
  exact dx_router1 hs hR (br_f (by decide) (dx_router1 hr hR (br_f (by decide) ⟨dc_v12 s r (by omega) (by omega), nm_e (br_c (fun _ => h _) (fun _ => h _))⟩)))
theorem dp_rpfLink {post : Int32 → Prop} {R L H s r : Nat} {u : St2} (I : dp_I R L H u) (hs : s < R) (hr : r < R) (h : ∀ v, post v) : wpX_rpfLink post u (nI s) (nI r) := by
  obtain ⟨A, rp, P, F, rc, ca, I⟩ := I
  obtain ⟨c, pf, mb, D, B, hH1, hH, Q, hF, hP, X⟩ := I
  obtain ⟨xR, xL, xH, xas, xlc, xpf, xmb, xrd, xrp, xpt, xaw, xrc, xcc, xts, xpk⟩ := u
  obtain ⟨rfl, rfl, rfl, TX, Xpf, Xmb, XD, XR, XP, XF, Xrc, Xca⟩ := X
  have hR : R ≤ 12 := B.2.1
  have hL : L ≤ 16 := B.2.2.2.1
  have same : dp_I R L H (nI R, nI L, nI H, xas, xlc, xpf, xmb, xrd, xrp, xpt, xaw, xrc, xcc, xts, xpk) := ⟨A, rp, P, F, rc, ca, c, pf, mb, D, B, hH1, hH, Q, hF, hP, ⟨rfl, rfl, rfl, TX, Xpf, Xmb, XD, XR, XP, XF, Xrc, Xca⟩⟩
  unfold wpX_rpfLink
  exact dx_router1 hs hR (br_f (by decide) (dx_router1 hr hR (br_f (by decide) ⟨dc_v12 s r (by omega) (by omega), h _⟩)))
theorem dp_forwarder {post : Int32 → Prop} {R L H s k : Nat} {u : St2} (I : dp_I R L H u) (hs : s < R) (hk : k < L) (h : ∀ v, post v) : wpX_forwarder post u (nI s) (nI k) := by
  obtain ⟨A, rp, P, F, rc, ca, I⟩ := I
  obtain ⟨c, pf, mb, D, B, hH1, hH, Q, hF, hP, X⟩ := I
  obtain ⟨xR, xL, xH, xas, xlc, xpf, xmb, xrd, xrp, xpt, xaw, xrc, xcc, xts, xpk⟩ := u
  obtain ⟨rfl, rfl, rfl, TX, Xpf, Xmb, XD, XR, XP, XF, Xrc, Xca⟩ := X
  have hR : R ≤ 12 := B.2.1
  have hL : L ≤ 16 := B.2.2.2.1
  have same : dp_I R L H (nI R, nI L, nI H, xas, xlc, xpf, xmb, xrd, xrp, xpt, xaw, xrc, xcc, xts, xpk) := ⟨A, rp, P, F, rc, ca, c, pf, mb, D, B, hH1, hH, Q, hF, hP, ⟨rfl, rfl, rfl, TX, Xpf, Xmb, XD, XR, XP, XF, Xrc, Xca⟩⟩
  unfold wpX_forwarder
  exact dx_router1 hs hR (br_f (by decide) (dx_link1 hk hL (br_f (by decide) ⟨dc_v16 s k (by omega) (by omega), h _⟩)))
theorem dp_pruneLeft {post : Int32 → Prop} {R L H s k : Nat} {u : St2} (I : dp_I R L H u) (hs : s < R) (hk : k < L) (h : ∀ v, post v) : wpX_pruneLeft post u (nI s) (nI k) := by
  obtain ⟨A, rp, P, F, rc, ca, I⟩ := I
  obtain ⟨c, pf, mb, D, B, hH1, hH, Q, hF, hP, X⟩ := I
  obtain ⟨xR, xL, xH, xas, xlc, xpf, xmb, xrd, xrp, xpt, xaw, xrc, xcc, xts, xpk⟩ := u
  obtain ⟨rfl, rfl, rfl, TX, Xpf, Xmb, XD, XR, XP, XF, Xrc, Xca⟩ := X
  have hR : R ≤ 12 := B.2.1
  have hL : L ≤ 16 := B.2.2.2.1
  have same : dp_I R L H (nI R, nI L, nI H, xas, xlc, xpf, xmb, xrd, xrp, xpt, xaw, xrc, xcc, xts, xpk) := ⟨A, rp, P, F, rc, ca, c, pf, mb, D, B, hH1, hH, Q, hF, hP, ⟨rfl, rfl, rfl, TX, Xpf, Xmb, XD, XR, XP, XF, Xrc, Xca⟩⟩
  unfold wpX_pruneLeft
  exact dx_router1 hs hR (br_f (by decide) (dx_link1 hk hL (br_f (by decide) ⟨dc_v16 s k (by omega) (by omega), h _⟩)))
theorem dp_linkState {post : Int32 → Prop} {R L H k : Nat} {u : St2} (I : dp_I R L H u) (hk : k < L) (h : ∀ v, post v) : wpX_linkState post u (nI k) := by
  obtain ⟨A, rp, P, F, rc, ca, I⟩ := I
  obtain ⟨c, pf, mb, D, B, hH1, hH, Q, hF, hP, X⟩ := I
  obtain ⟨xR, xL, xH, xas, xlc, xpf, xmb, xrd, xrp, xpt, xaw, xrc, xcc, xts, xpk⟩ := u
  obtain ⟨rfl, rfl, rfl, TX, Xpf, Xmb, XD, XR, XP, XF, Xrc, Xca⟩ := X
  have hR : R ≤ 12 := B.2.1
  have hL : L ≤ 16 := B.2.2.2.1
  have same : dp_I R L H (nI R, nI L, nI H, xas, xlc, xpf, xmb, xrd, xrp, xpt, xaw, xrc, xcc, xts, xpk) := ⟨A, rp, P, F, rc, ca, c, pf, mb, D, B, hH1, hH, Q, hF, hP, ⟨rfl, rfl, rfl, TX, Xpf, Xmb, XD, XR, XP, XF, Xrc, Xca⟩⟩
  unfold wpX_linkState
  exact dx_link1 hk hL (br_f (by decide) ⟨vp_in_nI (by omega) (by omega), vp_in_nI (by omega) (by omega), h _⟩)
theorem dp_routerState {post : Int32 → Prop} {R L H r : Nat} {u : St2} (I : dp_I R L H u) (hr : r < R) (h : ∀ v, post v) : wpX_routerState post u (nI r) := by
  obtain ⟨A, rp, P, F, rc, ca, I⟩ := I
  obtain ⟨c, pf, mb, D, B, hH1, hH, Q, hF, hP, X⟩ := I
  obtain ⟨xR, xL, xH, xas, xlc, xpf, xmb, xrd, xrp, xpt, xaw, xrc, xcc, xts, xpk⟩ := u
  obtain ⟨rfl, rfl, rfl, TX, Xpf, Xmb, XD, XR, XP, XF, Xrc, Xca⟩ := X
  have hR : R ≤ 12 := B.2.1
  have hL : L ≤ 16 := B.2.2.2.1
  have same : dp_I R L H (nI R, nI L, nI H, xas, xlc, xpf, xmb, xrd, xrp, xpt, xaw, xrc, xcc, xts, xpk) := ⟨A, rp, P, F, rc, ca, c, pf, mb, D, B, hH1, hH, Q, hF, hP, ⟨rfl, rfl, rfl, TX, Xpf, Xmb, XD, XR, XP, XF, Xrc, Xca⟩⟩
  unfold wpX_routerState
  exact dx_router1 hr hR (br_f (by decide) ⟨vp_in_nI (by omega) (by omega), vp_in_nI (by omega) (by omega), br_c (fun _ => h _) (fun _ => h _)⟩)
