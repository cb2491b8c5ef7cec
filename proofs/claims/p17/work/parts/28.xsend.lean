/-! the component's election, needed set, prunes, answer; its send -/
section
variable {R L H : Nat} {A : Nat → Nat → Bool} {c : Nat → Nat} {xas xlc xpf xmb xrd xrp xpt xaw xrc xcc xts xpk : Nat → Int32}
theorem dx_beats {post : Int32 → Prop} {s x q : Nat} {D : Nat → Nat} {pf : Nat → Int32} (B : dc_B R L c) (G : dc_G R L A c s D) (hs : s < R) (hx : x < R) (hq : q < R) (rD : ∀ r, r < R → xrd (s * 12 + r) = nI (D r)) (rpf : ∀ r, r < R → xpf r = pf r)
    (h1 : dc_be pf D x q = true → post 1) (h0 : ¬ dc_be pf D x q = true → post 0) : wpX_beatsLower post (nI R, nI L, nI H, xas, xlc, xpf, xmb, xrd, xrp, xpt, xaw, xrc, xcc, xts, xpk) (nI s) (nI x) (nI q) := by
  obtain ⟨_, hR, _, hL, c1, c15⟩ := B
  have Dx := G.2.1 x hx
  have Dq := G.2.1 q hq
  refine ⟨vp_in_nI (by omega) (by omega), vp_in_nI (by omega) (by omega), ?_⟩
  rw [dc_cl x (by omega), dc_cl q (by omega), rpf x hx, rpf q hq, dc_c12 s x (by omega), dc_c12 s q (by omega), rD x hx, rD q hq]
  by_cases p2 : pf x = pf q
  · refine br_t p2 ⟨dc_v12 s x (by omega) (by omega), nm_e ⟨dc_v12 s q (by omega) (by omega), ?_⟩⟩
    by_cases z : D x ≤ D q
    · exact br_f (nI_nlt z (by omega)) (h1 (decide_eq_true (Or.inr ⟨p2, z⟩)))
    · refine br_t (nI_lt (by omega) (by omega)) (h0 (fun w => ?_))
      rcases of_decide_eq_true w with e | e
      · rw [p2] at e; exact Int32.lt_irrefl e
      · exact z e.2
  · refine br_f p2 ⟨vp_in_nI (by omega) (by omega), vp_in_nI (by omega) (by omega), ?_⟩
    by_cases z : pf q ≤ pf x
    · refine br_t z (h0 (fun w => ?_))
      rcases of_decide_eq_true w with e | e
      · exact Int32.not_lt.mpr z e
      · exact p2 e.1
    · exact br_f z (h1 (decide_eq_true (Or.inl (Int32.not_le.mp z))))
theorem dx_best {post : Int32 → Prop} {s k : Nat} {D : Nat → Nat} {pf : Nat → Int32} {t : Nat → Nat → Bool} (B : dc_B R L c) (G : dc_G R L A c s D) (hs : s < R) (hk : k < L) (rD : ∀ r, r < R → xrd (s * 12 + r) = nI (D r)) (rpf : ∀ r, r < R → xpf r = pf r) (rT : ∀ k, k < L → dc_ms R (xts k) (t k))
    (h : post (dc_oI (dc_bs (t k) (dc_be pf D) R))) : wpX_bestTransmitter post (nI R, nI L, nI H, xas, xlc, xpf, xmb, xrd, xrp, xpt, xaw, xrc, xcc, xts, xpk) (nI s) (nI k) := by
  have B' := B
  obtain ⟨_, hR, _, hL, c1, c15⟩ := B'
  refine loop_0 (fun n i v => wX_bestTransmitter_5 post (nI s) (nI k) (nI R) (nI L) (nI H) xas xlc xpf xmb xrd xrp xpt xaw xrc xcc xts xpk n v (nI i)) (fun i v => v = dc_oI (dc_bs (t k) (dc_be pf D) i)) R (-1) rfl ?_ ?_
  · intro n v hv
    subst hv
    exact br_t (dc_end (by omega)) h
  · intro n i v hi hv hn
    subst hv
    refine br_f (dc_in hi (by omega)) ⟨vp_in_nI (by omega) (by omega), ?_⟩
    rw [dc_cl k (by omega)]
    refine dx_con (rT k hk) hi hR (fun z => ?_) (fun z => ?_)
    · refine br_f (by decide) ?_
      cases e : dc_bs (t k) (dc_be pf D) i with
      | none => exact br_t rfl (nm_r (nI_1 i) (hn _ (congrArg dc_oI (dc_bs_s1 z e)).symm))
      | some q =>
        have hq := (dc_bs_m e).1
        rw [show dc_oI (some q) = nI q from rfl]
        refine br_f (dc_nm1 (by omega)) (dx_beats B G hs hi (show q < R by omega) rD rpf (fun b => ?_) (fun b => ?_))
        · exact br_f (by decide) (nm_r (nI_1 i) (hn _ (congrArg dc_oI (dc_bs_s2 z e b)).symm))
        · exact br_t rfl (nm_r (nI_1 i) (hn _ (congrArg dc_oI (dc_bs_s3 z e b)).symm))
    · exact br_t rfl (nm_r (nI_1 i) (hn _ (congrArg dc_oI (dc_bs_s0 (show ¬ t k i = true by rw [z]; decide))).symm))
theorem dx_elect {post : St2 → Prop} {s : Nat} {D : Nat → Nat} {pf : Nat → Int32} {t : Nat → Nat → Bool} {F : Nat → Nat → Int32} (B : dc_B R L c) (G : dc_G R L A c s D) (hs : s < R) (rD : ∀ r, r < R → xrd (s * 12 + r) = nI (D r)) (rpf : ∀ r, r < R → xpf r = pf r) (rT : ∀ k, k < L → dc_ms R (xts k) (t k)) (rF : dc_r2 R L xaw F)
    (h : ∀ (aw' pk' : Nat → Int32), dc_r2 R L aw' (dc_fo R t (dc_be pf D) s F L) → (∀ j, j < L → pk' j = dc_oI (dc_bs (t j) (dc_be pf D) R)) → post (nI R, nI L, nI H, xas, xlc, xpf, xmb, xrd, xrp, xpt, aw', xrc, xcc, xts, pk')) : wpX_electForwarders post (nI R, nI L, nI H, xas, xlc, xpf, xmb, xrd, xrp, xpt, xaw, xrc, xcc, xts, xpk) (nI s) := by
  have B' := B
  obtain ⟨_, hR, _, hL, c1, c15⟩ := B'
  refine loop_0 (fun n i (w : (Nat → Int32) × (Nat → Int32)) => wX_electForwarders_2 post (nI s) (nI R) (nI L) (nI H) n (nI i) xas xlc xpf xmb xrd xrp xpt w.1 xrc xcc xts w.2)
    (fun i w => dc_r2 R L w.1 (dc_fo R t (dc_be pf D) s F i) ∧ (∀ j, j < i → w.2 j = dc_oI (dc_bs (t j) (dc_be pf D) R))) L (xaw, xpk) ⟨?_, fun j z => absurd z (Nat.not_lt_zero j)⟩ ?_ ?_
  · intro s' k' hs' hk'
    show xaw (s' * 16 + k') = _
    rw [rF s' k' hs' hk']
    unfold dc_fo
    rw [if_neg (show ¬ (s' = s ∧ k' < 0 ∧ 2 ≤ dc_cn (t k') R) from fun w => absurd w.2.1 (Nat.not_lt_zero k'))]
  · intro n w ⟨w1, w2⟩
    exact br_t (dc_end (by omega)) (h _ _ w1 w2)
  · intro n k w hk ⟨w1, w2⟩ hn
    have pk : ∀ j, j < k + 1 → upd w.2 k (dc_oI (dc_bs (t k) (dc_be pf D) R)) j = dc_oI (dc_bs (t j) (dc_be pf D) R) := by
      intro j hj
      by_cases e : j = k
      · rw [e]; exact pk_us
      · rw [pk_un e]; exact w2 j (by omega)
    refine br_f (dc_in hk (by omega)) (dx_best B G hs hk rD rpf rT ⟨vp_in_nI (by omega) (by omega), nm_e ⟨vp_in_nI (by omega) (by omega), ?_⟩⟩)
    rw [dc_cl k (by omega)]
    refine dx_two (rT k hk) hR (fun z2 => ?_) (fun z2 => ?_)
    · refine br_f (by decide) ⟨vp_in_nI (by omega) (by omega), dc_v16 s k (by omega) (by omega), nm_e (nm_r (nI_1 k) (hn (_, _) ⟨?_, pk⟩))⟩
      rw [dc_c16 s k (by omega), pk_us]
      intro s' k' hs' hk'
      show upd w.1 (s * 16 + k) (dc_oI (dc_bs (t k) (dc_be pf D) R)) (s' * 16 + k') = _
      unfold dc_fo
      by_cases e : s' = s ∧ k' = k
      · rw [e.1, e.2, pk_us, if_pos (show s = s ∧ k < k + 1 ∧ 2 ≤ dc_cn (t k) R from ⟨rfl, by omega, z2⟩)]
      · rw [pk_un (show s' * 16 + k' ≠ s * 16 + k from fun w => e (by omega)), w1 s' k' hs' hk']
        unfold dc_fo
        by_cases q : s' = s ∧ k' < k ∧ 2 ≤ dc_cn (t k') R
        · rw [if_pos q, if_pos (show s' = s ∧ k' < k + 1 ∧ 2 ≤ dc_cn (t k') R from ⟨q.1, by have := q.2.1; omega, q.2.2⟩)]
        · rw [if_neg q, if_neg (show ¬ (s' = s ∧ k' < k + 1 ∧ 2 ≤ dc_cn (t k') R) from fun w => q ⟨w.1, by have a1 := w.1; have a2 := w.2.1; omega, w.2.2⟩)]
    · refine br_t rfl (nm_r (nI_1 k) (hn (w.1, _) ⟨?_, pk⟩))
      intro s' k' hs' hk'
      show w.1 (s' * 16 + k') = _
      rw [w1 s' k' hs' hk']
      unfold dc_fo
      by_cases q : s' = s ∧ k' < k ∧ 2 ≤ dc_cn (t k') R
      · rw [if_pos q, if_pos (show s' = s ∧ k' < k + 1 ∧ 2 ≤ dc_cn (t k') R from ⟨q.1, by have := q.2.1; omega, q.2.2⟩)]
      · have g : ¬ (s' = s ∧ k' < k + 1 ∧ 2 ≤ dc_cn (t k') R) := by
          intro w
          by_cases e : k' = k
          · rw [e] at w; have := w.2.2; omega
          · exact q ⟨w.1, by have := w.2.1; omega, w.2.2⟩
        rw [if_neg q, if_neg g]
theorem dx_wanted {post : Int32 → Prop} {s k : Nat} {m : Int32} {rp : Nat → Nat → Int32} {N : Nat → Bool} (B : dc_B R L c) (hs : s < R) (rR : ∀ s r, s < R → r < R → xrp (s * 12 + r) = rp s r) (M : dc_ms R m N)
    (h1 : dc_wb R (rp s) N k = true → post 1) (h0 : dc_wb R (rp s) N k = false → post 0) : wpX_isWanted post (nI R, nI L, nI H, xas, xlc, xpf, xmb, xrd, xrp, xpt, xaw, xrc, xcc, xts, xpk) (nI s) (nI k) m := by
  obtain ⟨_, hR, _, hL, c1, c15⟩ := B
  refine loop_0 (fun n i (_ : Unit) => wX_isWanted_3 post (nI s) (nI k) m (nI R) (nI L) (nI H) xas xlc xpf xmb xrd xrp xpt xaw xrc xcc xts xpk n (nI i)) (fun i _ => ∀ z, z < i → N z = true → ¬ rp s z = nI k) R () (fun q z => absurd z (Nat.not_lt_zero q)) ?_ ?_
  · intro n _ hq
    refine br_t (dc_end (by omega)) (h0 (dc_bt (fun w => ?_)))
    obtain ⟨z, hz, n1, e⟩ := dc_wb_1.mp w
    exact hq z hz n1 e
  · intro n i _ hi hq hn
    have no : ∀ (w : N i = true → ¬ rp s i = nI k) z, z < i + 1 → N z = true → ¬ rp s z = nI k := by
      intro w z hz
      by_cases e : z = i
      · rw [e]; exact w
      · exact hq z (by omega)
    refine br_f (dc_in hi (by omega)) (dx_con M hi hR (fun zn => ?_) (fun zn => ?_))
    · refine br_f (by decide) ⟨dc_v12 s i (by omega) (by omega), ?_⟩
      rw [dc_c12 s i (by omega), rR s i hs hi]
      by_cases zr : rp s i = nI k
      · exact br_t zr (h1 (dc_wb_1.mpr ⟨i, hi, zn, zr⟩))
      · exact br_f zr (nm_r (nI_1 i) (hn () (no (fun _ => zr))))
    · exact br_t rfl (nm_r (nI_1 i) (hn () (no (fun w => by rw [zn] at w; exact nomatch w))))
theorem dx_with {post : Int32 → Prop} {s : Nat} {m : Int32} {rp : Nat → Nat → Int32} {f : Nat → Int32} {N : Nat → Bool} (B : dc_B R L c) (hs : s < R) (rR : ∀ s r, s < R → r < R → xrp (s * 12 + r) = rp s r) (M : dc_ms R m N) (rC : ∀ j, j < L → xpk j = f j) (hf : ∀ j, j < L → f j = -1 ∨ ∃ q, q < R ∧ f j = nI q)
    (h : ∀ (v : Int32) (N' : Nat → Bool), dc_ms R v N' → (∀ y, y < R → (N' y = true ↔ (N y = true ∨ (y ≠ s ∧ ∃ j, j < L ∧ f j = nI y ∧ dc_W R (rp s) N j)))) → post v) : wpX_withForwarders post (nI R, nI L, nI H, xas, xlc, xpf, xmb, xrd, xrp, xpt, xaw, xrc, xcc, xts, xpk) (nI s) m := by
  have B' := B
  obtain ⟨_, hR, _, hL, c1, c15⟩ := B'
  refine loop_0 (fun n i v => wX_withForwarders_5 post (nI s) m (nI R) (nI L) (nI H) xas xlc xpf xmb xrd xrp xpt xaw xrc xcc xts xpk n v (nI i)) (fun i v => ∃ N', dc_ms R v N' ∧ (∀ y, y < R → (N' y = true ↔ (N y = true ∨ (y ≠ s ∧ ∃ j, j < i ∧ f j = nI y ∧ dc_W R (rp s) N j))))) L m
    ⟨N, M, fun y _ => ⟨fun a => Or.inl a, fun a => a.elim (fun b => b) (fun ⟨_, j, z, _⟩ => absurd z (Nat.not_lt_zero j))⟩⟩ ?_ ?_
  · intro n v ⟨N', v1, v2⟩
    exact br_t (dc_end (by omega)) (h v N' v1 v2)
  · intro n i v hi ⟨N', v1, v2⟩ hn
    have keep : (∀ y, y < R → y ≠ s → f i = nI y → ¬ dc_W R (rp s) N i) → wX_withForwarders_5 post (nI s) m (nI R) (nI L) (nI H) xas xlc xpf xmb xrd xrp xpt xaw xrc xcc xts xpk n v (nI (i + 1)) := by
      intro q
      refine hn v ⟨N', v1, fun y hy => (v2 y hy).trans ⟨fun a => a.elim Or.inl (fun ⟨ys, j, hj, e, w⟩ => Or.inr ⟨ys, j, by omega, e, w⟩), fun a => a.elim Or.inl (fun ⟨ys, j, hj, e, w⟩ => ?_)⟩⟩
      by_cases z : j = i
      · subst z; exact absurd w (q y hy ys e)
      · exact Or.inr ⟨ys, j, by omega, e, w⟩
    refine br_f (dc_in hi (by omega)) ⟨vp_in_nI (by omega) (by omega), ?_⟩
    rw [dc_cl i (by omega), rC i hi]
    refine nm_e ?_
    rcases hf i hi with e | ⟨q, hq, e⟩
    · refine br_t e (nm_r (nI_1 i) (keep (fun y hy _ w => ?_)))
      rw [e] at w
      exact absurd w.symm (dc_nm1 (by omega))
    · rw [e]
      refine br_f (dc_nm1 (by omega)) ?_
      by_cases zs : q = s
      · refine br_t (by rw [zs]) (nm_r (nI_1 i) (keep (fun y hy ys w => ?_)))
        rw [e] at w
        exact absurd ((nI_eq (by omega) (by omega)).mp w) (by omega)
      · refine br_f (fun w => zs ((nI_eq (by omega) (by omega)).mp w)) (dx_wanted B hs rR M (fun w => ?_) (fun w => ?_))
        · refine br_f (by decide) (nm_e (nm_r (nI_1 i) (hn _ ⟨_, dc_ms_or v1 hq hR, fun y hy => ?_⟩)))
          show (if y = q then true else N' y) = true ↔ _
          by_cases z : y = q
          · rw [if_pos z]
            exact ⟨fun _ => Or.inr ⟨by omega, i, by omega, by rw [e, z], dc_wb_1.mp w⟩, fun _ => rfl⟩
          · rw [if_neg z]
            refine (v2 y hy).trans ⟨fun a => a.elim Or.inl (fun ⟨ys, j, hj, e1, w1⟩ => Or.inr ⟨ys, j, by omega, e1, w1⟩), fun a => a.elim Or.inl (fun ⟨ys, j, hj, e1, w1⟩ => ?_)⟩
            by_cases y1 : j = i
            · subst y1
              rw [e] at e1
              exact absurd ((nI_eq (by omega) (by omega)).mp e1) (by omega)
            · exact Or.inr ⟨ys, j, by omega, e1, w1⟩
        · refine br_t rfl (nm_r (nI_1 i) (keep (fun y hy ys w1 w2 => ?_)))
          rw [dc_wb_1.mpr w2] at w
          exact nomatch w
theorem dx_needed {post : Int32 → Prop} {s : Nat} {rp : Nat → Nat → Int32} {f mb : Nat → Int32} {rc : Nat → Nat} (B : dc_B R L c) (hs : s < R) (rR : ∀ s r, s < R → r < R → xrp (s * 12 + r) = rp s r) (rC : ∀ j, j < L → xpk j = f j) (hf : ∀ j, j < L → f j = -1 ∨ ∃ q, q < R ∧ f j = nI q ∧ 1 ≤ rc q)
    (rc1 : ∀ y, y < R → xrc y = nI (rc y)) (hb : ∀ y, rc y < 2 ^ 31) (rM : ∀ y, y < R → xmb y = mb y)
    (h : ∀ (v : Int32) (N : Nat → Bool), dc_ms R v N → dc_Sd R L s (rp s) f (fun y => decide (1 ≤ rc y)) (fun y => decide (¬ mb y = 0)) N → dc_Cl R L s (rp s) f (fun y => decide (1 ≤ rc y)) (fun y => decide (¬ mb y = 0)) N → post v) : wpX_neededSet post (nI R, nI L, nI H, xas, xlc, xpf, xmb, xrd, xrp, xpt, xaw, xrc, xcc, xts, xpk) (nI s) := by
  have B' := B
  obtain ⟨_, hR, _, hL, c1, c15⟩ := B'
  have hf1 : ∀ j, j < L → f j = -1 ∨ ∃ q, q < R ∧ f j = nI q := fun j hj => (hf j hj).elim Or.inl (fun ⟨q, hq, e, _⟩ => Or.inr ⟨q, hq, e⟩)
  have hf2 : ∀ j y, j < L → y < R → f j = nI y → (fun y => decide (1 ≤ rc y)) y = true := by
    intro j y hj hy e
    rcases hf j hj with e1 | ⟨q, hq, e1, o⟩
    · rw [e1] at e; exact absurd e.symm (dc_nm1 (by omega))
    · have : q = y := (nI_eq (by omega) (by omega)).mp (e1.symm.trans e)
      rw [← this]
      exact decide_eq_true o
  refine loop_0 (fun n i v => wX_neededSet_4 post (nI s) (nI R) (nI L) (nI H) xas xlc xpf xmb xrd xrp xpt xaw xrc xcc xts xpk n v (nI i)) (fun i v => dc_ms R v (fun y => decide (y < i ∧ y ≠ s ∧ ¬ mb y = 0 ∧ 1 ≤ rc y))) R 0 (dc_ms_ext (dc_ms_0 R) (fun i _ => (decide_eq_false (fun w => absurd w.1 (Nat.not_lt_zero i))).symm)) ?_ ?_
  · intro n v hv
    refine br_t (dc_end (by omega)) ?_
    refine loop_0 (fun n i v => wX_neededSet_50 post (nI s) (nI R) (nI L) (nI H) xas xlc xpf xmb xrd xrp xpt xaw xrc xcc xts xpk n v (nI i)) (fun i v => ∃ N, dc_ms R v N ∧ dc_NX R L s (rp s) f (fun y => decide (1 ≤ rc y)) (fun y => decide (¬ mb y = 0)) i N) R v ⟨_, hv, dc_NX0 (fun y hy => ?_)⟩ ?_ ?_
    · constructor
      · intro w
        have w' := of_decide_eq_true w
        exact ⟨w'.2.1, decide_eq_true w'.2.2.1, decide_eq_true w'.2.2.2⟩
      · intro w
        exact decide_eq_true ⟨hy, w.1, of_decide_eq_true w.2.1, of_decide_eq_true w.2.2⟩
    · intro n v ⟨N, n1, n2⟩
      exact br_t (dc_end (by omega)) (h v N n1 n2.1 (dc_NXR n2))
    · intro n i v hi ⟨N, n1, n2⟩ hn
      exact br_f (dc_in hi (by omega)) (dx_with B hs rR n1 rC hf1 (fun v' N' m1 m2 => nm_r (nI_1 i) (hn _ ⟨N', m1, dc_NXs hf2 n2 m2⟩)))
  · intro n i v hi hv hn
    have keep : ¬ (i ≠ s ∧ ¬ mb i = 0 ∧ 1 ≤ rc i) → wX_neededSet_4 post (nI s) (nI R) (nI L) (nI H) xas xlc xpf xmb xrd xrp xpt xaw xrc xcc xts xpk n v (nI (i + 1)) := by
      intro q
      refine hn v (dc_ms_ext hv (fun j hj => ?_))
      by_cases e : j < i ∧ j ≠ s ∧ ¬ mb j = 0 ∧ 1 ≤ rc j
      · rw [decide_eq_true e, decide_eq_true (show j < i + 1 ∧ j ≠ s ∧ ¬ mb j = 0 ∧ 1 ≤ rc j from ⟨by have := e.1; omega, e.2⟩)]
      · have g : ¬ (j < i + 1 ∧ j ≠ s ∧ ¬ mb j = 0 ∧ 1 ≤ rc j) := by
          intro w
          by_cases z : j = i
          · rw [z] at w; exact q w.2
          · exact e ⟨by have := w.1; omega, w.2⟩
        rw [decide_eq_false e, decide_eq_false g]
    refine br_f (dc_in hi (by omega)) ?_
    by_cases zs : i = s
    · exact br_t (by rw [zs]) (nm_r (nI_1 i) (keep (fun w => w.1 zs)))
    · refine br_f (fun e => zs ((nI_eq (by omega) (by omega)).mp e)) ⟨vp_in_nI (by omega) (by omega), ?_⟩
      rw [dc_cl i (by omega), rM i hi, rc1 i hi]
      by_cases zm : mb i = 0
      · exact br_t zm (nm_r (nI_1 i) (keep (fun w => w.2.1 zm)))
      · refine br_f zm ⟨vp_in_nI (by omega) (by omega), ?_⟩
        by_cases zr : rc i < 1
        · exact br_t (nI_lt (b := 1) zr (by decide)) (nm_r (nI_1 i) (keep (fun w => by have := w.2.2; omega)))
        · refine br_f (nI_nlt (b := 1) (by omega) (hb i)) (nm_e (nm_r (nI_1 i) (hn _ (dc_ms_ext (dc_ms_or hv hi hR) (fun j hj => ?_)))))
          show (if j = i then true else decide (j < i ∧ j ≠ s ∧ ¬ mb j = 0 ∧ 1 ≤ rc j)) = decide (j < i + 1 ∧ j ≠ s ∧ ¬ mb j = 0 ∧ 1 ≤ rc j)
          by_cases z : j = i
          · rw [if_pos z, decide_eq_true (show j < i + 1 ∧ j ≠ s ∧ ¬ mb j = 0 ∧ 1 ≤ rc j by rw [z]; exact ⟨by omega, zs, zm, by omega⟩)]
          · rw [if_neg z]
            by_cases e : j < i ∧ j ≠ s ∧ ¬ mb j = 0 ∧ 1 ≤ rc j
            · rw [decide_eq_true e, decide_eq_true (show j < i + 1 ∧ j ≠ s ∧ ¬ mb j = 0 ∧ 1 ≤ rc j from ⟨by have := e.1; omega, e.2⟩)]
            · rw [decide_eq_false e, decide_eq_false (show ¬ (j < i + 1 ∧ j ≠ s ∧ ¬ mb j = 0 ∧ 1 ≤ rc j) from fun w => e ⟨by have := w.1; omega, w.2⟩)]
theorem dx_prune {post : St2 → Prop} {s : Nat} {m : Int32} {rp P : Nat → Nat → Int32} {t : Nat → Nat → Bool} {N : Nat → Bool} (B : dc_B R L c) (hs : s < R) (rR : ∀ s r, s < R → r < R → xrp (s * 12 + r) = rp s r) (M : dc_ms R m N) (rT : ∀ k, k < L → dc_ms R (xts k) (t k)) (rP : dc_r2 R L xpt P)
    (h : ∀ (pt' : Nat → Int32), dc_r2 R L pt' (dc_pr R (rp s) t N (nI H) s P L) → post (nI R, nI L, nI H, xas, xlc, xpf, xmb, xrd, xrp, pt', xaw, xrc, xcc, xts, xpk)) : wpX_pruneUnwantedLinks post (nI R, nI L, nI H, xas, xlc, xpf, xmb, xrd, xrp, xpt, xaw, xrc, xcc, xts, xpk) (nI s) m := by
  have B' := B
  obtain ⟨_, hR, _, hL, c1, c15⟩ := B'
  refine loop_0 (fun n i pt => wX_pruneUnwantedLinks_2 post (nI s) m (nI R) (nI L) (nI H) n (nI i) xas xlc xpf xmb xrd xrp pt xaw xrc xcc xts xpk) (fun i pt => dc_r2 R L pt (dc_pr R (rp s) t N (nI H) s P i)) L xpt ?_ ?_ ?_
  · intro s' k' hs' hk'
    rw [rP s' k' hs' hk']
    unfold dc_pr
    rw [if_neg (show ¬ (s' = s ∧ k' < 0 ∧ 0 < dc_cn (t k') R ∧ dc_wb R (rp s) N k' = false) from fun w => absurd w.2.1 (Nat.not_lt_zero k'))]
  · intro n pt hp
    exact br_t (dc_end (by omega)) (h pt hp)
  · intro n k pt hk hp hn
    have keep : ¬ (0 < dc_cn (t k) R ∧ dc_wb R (rp s) N k = false) → dc_r2 R L pt (dc_pr R (rp s) t N (nI H) s P (k + 1)) := by
      intro q s' k' hs' hk'
      rw [hp s' k' hs' hk']
      unfold dc_pr
      by_cases e : s' = s ∧ k' < k ∧ 0 < dc_cn (t k') R ∧ dc_wb R (rp s) N k' = false
      · rw [if_pos e, if_pos (show s' = s ∧ k' < k + 1 ∧ 0 < dc_cn (t k') R ∧ dc_wb R (rp s) N k' = false from ⟨e.1, by have := e.2.1; omega, e.2.2⟩)]
      · have g : ¬ (s' = s ∧ k' < k + 1 ∧ 0 < dc_cn (t k') R ∧ dc_wb R (rp s) N k' = false) := by
          intro w
          by_cases z : k' = k
          · rw [z] at w; exact q w.2.2
          · exact e ⟨w.1, by have := w.2.1; omega, w.2.2⟩
        rw [if_neg e, if_neg g]
    have zero := dc_ms_z (rT k hk) hR
    refine br_f (dc_in hk (by omega)) ⟨vp_in_nI (by omega) (by omega), ?_⟩
    rw [dc_cl k (by omega)]
    by_cases z0 : xts k = 0
    · refine br_t z0 (nm_r (nI_1 k) (hn _ (keep (fun w => ?_))))
      obtain ⟨j, hj, e⟩ := dc_cn_some w.1
      rw [zero.mp z0 j hj] at e
      exact nomatch e
    · refine br_f z0 (dx_wanted B hs rR M (fun w => ?_) (fun w => ?_))
      · refine br_f (by decide) (nm_r (nI_1 k) (hn _ (keep (fun q => ?_))))
        rw [q.2] at w
        exact nomatch w
      · have pos : 0 < dc_cn (t k) R := by
          apply Classical.byContradiction
          intro q
          exact z0 (zero.mpr (fun i hi => dc_cn_zero (by omega) hi))
        refine br_t rfl ⟨dc_v16 s k (by omega) (by omega), nm_e (nm_r (nI_1 k) (hn _ ?_))⟩
        rw [dc_c16 s k (by omega)]
        intro s' k' hs' hk'
        unfold dc_pr
        by_cases e : s' = s ∧ k' = k
        · rw [e.1, e.2, pk_us, if_pos (show s = s ∧ k < k + 1 ∧ 0 < dc_cn (t k) R ∧ dc_wb R (rp s) N k = false from ⟨rfl, by omega, pos, w⟩)]
        · rw [pk_un (show s' * 16 + k' ≠ s * 16 + k from fun w => e (by omega)), hp s' k' hs' hk']
          unfold dc_pr
          by_cases q : s' = s ∧ k' < k ∧ 0 < dc_cn (t k') R ∧ dc_wb R (rp s) N k' = false
          · rw [if_pos q, if_pos (show s' = s ∧ k' < k + 1 ∧ 0 < dc_cn (t k') R ∧ dc_wb R (rp s) N k' = false from ⟨q.1, by have := q.2.1; omega, q.2.2⟩)]
          · rw [if_neg q, if_neg (show ¬ (s' = s ∧ k' < k + 1 ∧ 0 < dc_cn (t k') R ∧ dc_wb R (rp s) N k' = false) from fun w => q ⟨w.1, by have a1 := w.1; have a2 := w.2.1; omega, w.2.2⟩)]
theorem dx_count {post : Int32 → Prop} {rc : Nat → Nat} {mb : Nat → Int32} (B : dc_B R L c) (rc1 : ∀ y, y < R → xrc y = nI (rc y)) (hb : ∀ y, rc y < 2 ^ 31) (rM : ∀ y, y < R → xmb y = mb y)
    (h : post (nI (dc_cn (fun r => decide (¬ mb r = 0 ∧ 1 ≤ rc r)) R))) : wpX_countReachedMembers post (nI R, nI L, nI H, xas, xlc, xpf, xmb, xrd, xrp, xpt, xaw, xrc, xcc, xts, xpk) := by
  obtain ⟨_, hR, _, hL, c1, c15⟩ := B
  refine loop_0 (fun n i v => wX_countReachedMembers_4 post (nI R) (nI L) (nI H) xas xlc xpf xmb xrd xrp xpt xaw xrc xcc xts xpk n v (nI i)) (fun i v => v = nI (dc_cn (fun r => decide (¬ mb r = 0 ∧ 1 ≤ rc r)) i)) R 0 rfl ?_ ?_
  · intro n v hv
    subst hv
    exact br_t (dc_end (by omega)) h
  · intro n i v hi hv hn
    subst hv
    have no : ¬ (¬ mb i = 0 ∧ 1 ≤ rc i) → nI (dc_cn (fun r => decide (¬ mb r = 0 ∧ 1 ≤ rc r)) i) = nI (dc_cn (fun r => decide (¬ mb r = 0 ∧ 1 ≤ rc r)) (i + 1)) := by
      intro q
      simp only [dc_cn]
      rw [if_neg (show ¬ decide (¬ mb i = 0 ∧ 1 ≤ rc i) = true from fun w => q (of_decide_eq_true w)), Nat.add_zero]
    refine br_f (dc_in hi (by omega)) ⟨vp_in_nI (by omega) (by omega), ?_⟩
    rw [dc_cl i (by omega), rc1 i hi, rM i hi]
    by_cases zm : mb i = 0
    · exact br_t zm (nm_r (nI_1 i) (hn _ (no (fun w => w.1 zm))))
    · refine br_f zm ⟨vp_in_nI (by omega) (by omega), ?_⟩
      by_cases zr : rc i < 1
      · exact br_t (nI_lt (b := 1) zr (by decide)) (nm_r (nI_1 i) (hn _ (no (fun w => by omega))))
      · refine br_f (nI_nlt (b := 1) (by omega) (hb i)) (nm_r (nI_1 _) (nm_r (nI_1 i) (hn _ ?_)))
        simp only [dc_cn]
        rw [if_pos (show decide (¬ mb i = 0 ∧ 1 ≤ rc i) = true from decide_eq_true ⟨zm, by omega⟩)]
end
