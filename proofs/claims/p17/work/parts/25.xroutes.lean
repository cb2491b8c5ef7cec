/-! the component's upstream routers, reverse paths, routes, reset -/
section
variable {R L H : Nat} {A : Nat → Nat → Bool} {c : Nat → Nat} {xas xlc xpf xmb xrd xrp xpt xaw xrc xcc xts xpk : Nat → Int32}
theorem dx_up {post : Int32 → Prop} {s k r : Nat} {D : Nat → Nat} (B : dc_B R L c) (T : dc_TX R L A c xas xlc) (G : dc_G R L A c s D) (hs : s < R) (hk : k < L) (hr : r < R) (rep : ∀ r, r < R → xrd (s * 12 + r) = nI (D r))
    (h : post (dc_U R A c D k r)) : wpX_upstreamRouter post (nI R, nI L, nI H, xas, xlc, xpf, xmb, xrd, xrp, xpt, xaw, xrc, xcc, xts, xpk) (nI s) (nI r) (nI k) := by
  obtain ⟨hR2, hR, _, hL, c1, c15⟩ := B
  have hc15 := c15 k hk
  have Dr := G.2.1 r hr
  refine ⟨dc_v12 s r (by omega) (by omega), vp_in_nI (by omega) (by omega), ?_⟩
  rw [dc_c12 s r (by omega), dc_cl k (by omega), rep r hr, T.1 k hk]
  refine nm_e (nm_e ⟨R + 1, ?_⟩)
  refine pk_loopD (fun n i (_ : Unit) => wX_upstreamRouter_28 post (nI s) (nI r) (nI k) (nI (D r) - nI (c k)) (nI R) (nI L) (nI H) xas xlc xpf xmb xrd xrp xpt xaw xrc xcc xts xpk n (nI i - 1)) (fun i _ => i ≤ R ∧ dc_U R A c D k r = dc_us (dc_uq A c D k r) i) ?_ ?_ R () ⟨Nat.le_refl R, rfl⟩
  · intro n _ ⟨_, e⟩
    have e' : dc_U R A c D k r = -1 := e
    rw [e'] at h
    exact br_t (by decide) h
  · intro n i _ ⟨hi, e⟩ hn
    show wX_upstreamRouter_28 post (nI s) (nI r) (nI k) (nI (D r) - nI (c k)) (nI R) (nI L) (nI H) xas xlc xpf xmb xrd xrp xpt xaw xrc xcc xts xpk (n + 1) (nI (i + 1) - 1)
    rw [nI_pred]
    have Di := G.2.1 i (show i < R by omega)
    have no : dc_uq A c D k r i = false → wX_upstreamRouter_28 post (nI s) (nI r) (nI k) (nI (D r) - nI (c k)) (nI R) (nI L) (nI H) xas xlc xpf xmb xrd xrp xpt xaw xrc xcc xts xpk n (nI i - 1) := by
      intro z
      refine hn () ⟨by omega, ?_⟩
      exact e.trans (dc_us_0 (show ¬ dc_uq A c D k r i = true by rw [z]; decide))
    refine br_f (nI_pos (by omega)) ⟨dc_v12 s i (by omega) (by omega), ?_⟩
    rw [dc_c12 s i (by omega), rep i (by omega), dc_cl k (by omega)]
    refine nm_e ?_
    by_cases zx : i = r
    · exact br_t (by rw [zx]) (nm_r (dc_m1s _) (no (decide_eq_false (fun w => w.1 zx))))
    · refine br_f (fun e => zx ((nI_eq (by omega) (by omega)).mp e)) ⟨vp_in_nI (by omega) (by omega), dx_con (T.2 k hk) (show i < R by omega) hR (fun za => ?_) (fun za => ?_)⟩
      · refine br_f (by decide) ?_
        by_cases ze : D i + c k = D r
        · refine br_t ((dc_sube (by omega) (by omega) (by omega)).mpr ze) ?_
          rw [e, dc_us_1 (decide_eq_true ⟨zx, za, ze⟩)] at h
          exact h
        · exact br_f (fun e => ze ((dc_sube (by omega) (by omega) (by omega)).mp e)) (nm_r (dc_m1s _) (no (decide_eq_false (fun w => ze w.2.2))))
      · exact br_t rfl (nm_r (dc_m1s _) (no (decide_eq_false (fun w => by rw [za] at w; exact nomatch w.2.1))))
theorem dx_rpf {post : Int32 → Prop} {s r : Nat} {D : Nat → Nat} (B : dc_B R L c) (T : dc_TX R L A c xas xlc) (G : dc_G R L A c s D) (hs : s < R) (hr : r < R) (rep : ∀ r, r < R → xrd (s * 12 + r) = nI (D r))
    (h : ∀ (v : Int32), dc_isR R L A c D r v → post v) : wpX_findReversePath post (nI R, nI L, nI H, xas, xlc, xpf, xmb, xrd, xrp, xpt, xaw, xrc, xcc, xts, xpk) (nI s) (nI r) := by
  have B' := B
  obtain ⟨_, hR, _, hL, c1, c15⟩ := B'
  refine loop_0 (fun n i (_ : Unit) => wX_findReversePath_2 post (nI s) (nI r) (nI R) (nI L) (nI H) xas xlc xpf xmb xrd xrp xpt xaw xrc xcc xts xpk n (nI i)) (fun i _ => ∀ k, k < i → ¬ dc_Hp R A c D k r) L () (fun q z => absurd z (Nat.not_lt_zero q)) ?_ ?_
  · intro n _ hq
    exact br_t (dc_end (by omega)) (h _ (Or.inl ⟨rfl, hq⟩))
  · intro n k _ hk hq hn
    have no : ∀ (z : ¬ dc_Hp R A c D k r) q, q < k + 1 → ¬ dc_Hp R A c D q r := by
      intro z q hq'
      by_cases e : q = k
      · rw [e]; exact z
      · exact hq q (by omega)
    refine br_f (dc_in hk (by omega)) ⟨vp_in_nI (by omega) (by omega), ?_⟩
    rw [dc_cl k (by omega)]
    refine dx_con (T.2 k hk) hr hR (fun za => ?_) (fun za => ?_)
    · refine br_f (by decide) (dx_up B T G hs hk hr rep ?_)
      rcases dc_U_or R A c D k r with ⟨u, z⟩ | ⟨q, hq1, z, u⟩
      · rw [u]
        exact br_t rfl (nm_r (nI_1 k) (hn () (no (fun w => z w.2))))
      · rw [u]
        exact br_f (dc_nm1 (by omega)) (h _ (Or.inr ⟨k, hk, rfl, ⟨za, q, hq1, z⟩, hq⟩))
    · exact br_t rfl (nm_r (nI_1 k) (hn () (no (fun w => by have w1 := w.1; rw [za] at w1; exact nomatch w1))))
theorem dx_routes {post : St2 → Prop} (B : dc_B R L c) (T : dc_TX R L A c xas xlc)
    (h : ∀ (rd' rp' : Nat → Int32) (D : Nat → Nat → Nat), dc_DR R L A c D (fun s r => rp' (s * 12 + r)) → (∀ s r, s < R → r < R → rd' (s * 12 + r) = nI (D s r)) → post (nI R, nI L, nI H, xas, xlc, xpf, xmb, rd', rp', xpt, xaw, xrc, xcc, xts, xpk)) : wpX_findRoutes post (nI R, nI L, nI H, xas, xlc, xpf, xmb, xrd, xrp, xpt, xaw, xrc, xcc, xts, xpk) := by
  have B' := B
  obtain ⟨_, hR, _, hL, c1, c15⟩ := B'
  refine loop_0 (fun n i (w : (Nat → Int32) × (Nat → Int32)) => wX_findRoutes_2 post n (nI i) (nI R) (nI L) (nI H) xas xlc xpf xmb w.1 w.2 xpt xaw xrc xcc xts xpk)
    (fun i w => ∀ s, s < i → ∃ D, dc_G R L A c s D ∧ (∀ r, r < R → w.1 (s * 12 + r) = nI (D r)) ∧ (∀ r, r < R → dc_isR R L A c D r (w.2 (s * 12 + r)))) R (xrd, xrp) (fun s z => absurd z (Nat.not_lt_zero s)) ?_ ?_
  · intro n w hw
    have ch : ∀ s, ∃ D, s < R → dc_G R L A c s D ∧ (∀ r, r < R → w.1 (s * 12 + r) = nI (D r)) ∧ (∀ r, r < R → dc_isR R L A c D r (w.2 (s * 12 + r))) := by
      intro s
      by_cases z : s < R
      · obtain ⟨D, hD⟩ := hw s z
        exact ⟨D, fun _ => hD⟩
      · exact ⟨fun _ => 0, fun y => absurd y z⟩
    obtain ⟨D, hD⟩ := Classical.axiomOfChoice ch
    exact br_t (dc_end (by omega)) (h w.1 w.2 D (fun s hs => ⟨(hD s hs).1, (hD s hs).2.2⟩) (fun s r hs hr => (hD s hs).2.1 r hr))
  · intro n s w hs hw hn
    obtain ⟨D, G⟩ := dc_Gex R L A c s
    refine br_f (dc_in hs (by omega)) (dx_dist B T G hs (fun rd' e1 e2 => ?_))
    refine loop_0 (fun m i rp => wX_findRoutes_17 post (wX_findRoutes_2 post n) (nI s) (nI R) (nI L) (nI H) m (nI i) xas xlc xpf xmb rd' rp xpt xaw xrc xcc xts xpk) (fun i rp => (∀ r, r < i → dc_isR R L A c D r (rp (s * 12 + r))) ∧ dc_fr s w.2 rp) R w.2 ⟨fun r z => absurd z (Nat.not_lt_zero r), fun _ _ _ _ => rfl⟩ ?_ ?_
    · intro m rp ⟨f1, f2⟩
      refine br_t (dc_end (by omega)) (nm_r (nI_1 s) (hn (rd', rp) (fun s' hs' => ?_)))
      by_cases e : s' = s
      · rw [e]; exact ⟨D, G, e1, f1⟩
      · obtain ⟨D', g1, g2, g3⟩ := hw s' (by omega)
        refine ⟨D', g1, fun r hr => ?_, fun r hr => ?_⟩
        · show rd' (s' * 12 + r) = nI (D' r)
          rw [e2 s' r e (by omega)]; exact g2 r hr
        · show dc_isR R L A c D' r (rp (s' * 12 + r))
          rw [f2 s' r e (by omega)]; exact g3 r hr
    · intro m i rp hi ⟨f1, f2⟩ hm
      refine br_f (dc_in hi (by omega)) (dx_rpf B T G hs hi e1 (fun v hv => ⟨dc_v12 s i (by omega) (by omega), nm_e (nm_r (nI_1 i) (hm _ ?_))⟩))
      rw [dc_c12 s i (by omega)]
      refine ⟨fun r hr => ?_, dc_fr_u f2 (by omega) _⟩
      by_cases e : r = i
      · rw [e, pk_us]; exact hv
      · rw [pk_un (show s * 12 + r ≠ s * 12 + i by omega)]; exact f1 r (by omega)
theorem dx_clear {post : St2 → Prop} (B : dc_B R L c) (h : ∀ (rc cc ts : Nat → Int32), (∀ r, r < R → rc r = 0) → (∀ k, k < L → cc k = 0) → (∀ k, k < L → ts k = 0) → post (nI R, nI L, nI H, xas, xlc, xpf, xmb, xrd, xrp, xpt, xaw, rc, cc, ts, xpk)) : wpX_clearPacketRecord post (nI R, nI L, nI H, xas, xlc, xpf, xmb, xrd, xrp, xpt, xaw, xrc, xcc, xts, xpk) := by
  obtain ⟨_, hR, _, hL, c1, c15⟩ := B
  refine loop_0 (fun n i rc => wX_clearPacketRecord_2 post (nI R) (nI L) (nI H) n (nI i) xas xlc xpf xmb xrd xrp xpt xaw rc xcc xts xpk) (fun i rc => ∀ j, j < i → rc j = 0) R xrc (fun j z => absurd z (Nat.not_lt_zero j)) ?_ ?_
  · intro n rc s1
    refine br_t (dc_end (by omega)) ?_
    refine loop_0 (fun n i (w : (Nat → Int32) × (Nat → Int32)) => wX_clearPacketRecord_25 post (nI R) (nI L) (nI H) n (nI i) xas xlc xpf xmb xrd xrp xpt xaw rc w.1 w.2 xpk) (fun i w => (∀ j, j < i → w.1 j = 0) ∧ (∀ j, j < i → w.2 j = 0)) L (xcc, xts) ⟨fun j z => absurd z (Nat.not_lt_zero j), fun j z => absurd z (Nat.not_lt_zero j)⟩ ?_ ?_
    · intro n w ⟨s2, s3⟩
      exact br_t (dc_end (by omega)) (h _ _ _ s1 s2 s3)
    · intro n i w hi ⟨s2, s3⟩ hn
      refine br_f (dc_in hi (by omega)) ⟨vp_in_nI (by omega) (by omega), nm_e ⟨vp_in_nI (by omega) (by omega), nm_e (nm_r (nI_1 i) (hn (_, _) ⟨?_, ?_⟩))⟩⟩
      · rw [dc_cl i (by omega)]; exact dc_put s2
      · rw [dc_cl i (by omega)]; exact dc_put s3
  · intro n i rc hi s1 hn
    exact br_f (dc_in hi (by omega)) ⟨vp_in_nI (by omega) (by omega), nm_e (nm_r (nI_1 i) (hn _ (by rw [dc_cl i (by omega)]; exact dc_put s1)))⟩
theorem dx_reset {post : St2 → Prop} (B : dc_B R L c) (h : ∀ (pt aw rc cc ts : Nat → Int32), dc_r2 R L pt (fun _ _ => 0) → dc_r2 R L aw (fun _ _ => -1) → (∀ r, r < R → rc r = 0) → (∀ k, k < L → cc k = 0) → post (nI R, nI L, nI H, xas, xlc, xpf, xmb, xrd, xrp, pt, aw, rc, cc, ts, xpk)) : wpX_reset post (nI R, nI L, nI H, xas, xlc, xpf, xmb, xrd, xrp, xpt, xaw, xrc, xcc, xts, xpk) := by
  have B' := B
  obtain ⟨_, hR, _, hL, c1, c15⟩ := B'
  refine loop_0 (fun n i (w : (Nat → Int32) × (Nat → Int32)) => wX_reset_2 post (nI R) (nI L) (nI H) n (nI i) xas xlc xpf xmb xrd xrp w.1 w.2 xrc xcc xts xpk) (fun i w => (∀ s k, s < i → k < L → w.1 (s * 16 + k) = 0) ∧ (∀ s k, s < i → k < L → w.2 (s * 16 + k) = -1)) R (xpt, xaw) ⟨fun s k z => absurd z (Nat.not_lt_zero s), fun s k z => absurd z (Nat.not_lt_zero s)⟩ ?_ ?_
  · intro n w ⟨w1, w2⟩
    exact br_t (dc_end (by omega)) (dx_clear B (fun rc cc ts e1 e2 e3 => h w.1 w.2 rc cc ts (fun s k => w1 s k) (fun s k => w2 s k) e1 e2))
  · intro n s w hs ⟨w1, w2⟩ hn
    refine br_f (dc_in hs (by omega)) ?_
    refine loop_0 (fun m i (w : (Nat → Int32) × (Nat → Int32)) => wX_reset_12 post (wX_reset_2 post (nI R) (nI L) (nI H) n) (nI s) (nI R) (nI L) (nI H) m (nI i) xas xlc xpf xmb xrd xrp w.1 w.2 xrc xcc xts xpk)
      (fun i w => (∀ s' k, s' < s ∨ (s' = s ∧ k < i) → k < L → w.1 (s' * 16 + k) = 0) ∧ (∀ s' k, s' < s ∨ (s' = s ∧ k < i) → k < L → w.2 (s' * 16 + k) = -1)) L w ⟨fun s' k z => w1 s' k (by omega), fun s' k z => w2 s' k (by omega)⟩ ?_ ?_
    · intro m w ⟨v1, v2⟩
      exact br_t (dc_end (by omega)) (nm_r (nI_1 s) (hn w ⟨fun s' k z y => v1 s' k (by omega) y, fun s' k z y => v2 s' k (by omega) y⟩))
    · intro m i w hi ⟨v1, v2⟩ hm
      refine br_f (dc_in hi (by omega)) ⟨dc_v16 s i (by omega) (by omega), nm_e ⟨dc_v16 s i (by omega) (by omega), nm_e (nm_r (nI_1 i) (hm (_, _) ⟨?_, ?_⟩))⟩⟩
      · rw [dc_c16 s i (by omega)]
        intro s' k z y
        show upd w.1 (s * 16 + i) 0 (s' * 16 + k) = 0
        by_cases e : s' = s ∧ k = i
        · rw [e.1, e.2]; exact pk_us
        · rw [pk_un (show s' * 16 + k ≠ s * 16 + i from fun q => e (by omega))]; exact v1 s' k (by omega) y
      · rw [dc_c16 s i (by omega)]
        intro s' k z y
        show upd w.2 (s * 16 + i) (-1) (s' * 16 + k) = -1
        by_cases e : s' = s ∧ k = i
        · rw [e.1, e.2]; exact pk_us
        · rw [pk_un (show s' * 16 + k ≠ s * 16 + i from fun q => e (by omega))]; exact v2 s' k (by omega) y
end
