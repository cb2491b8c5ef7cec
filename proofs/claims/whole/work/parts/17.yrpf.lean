/-! the reference's reverse-path links, upstream routers, reset -/
section
variable {R L H : Nat} {A : Nat → Nat → Bool} {c : Nat → Nat} {yco yat ypf ymb ypr yfw yrc yca ytr yd yro yfr ybe yne ycu : Nat → Int32}
theorem dy_hasPred {post : Int32 → Prop} {k r s : Nat} {D : Nat → Nat} (B : dc_B R L c) (T : dc_TY R L A c yco yat) (G : dc_G R L A c s D) (hk : k < L) (hr : r < R) (rep : ∀ r, r < R → yd r = nI (dc_E D 1000000 r))
    (h1 : (∃ q, q < R ∧ dc_uq A c D k r q = true) → post 1) (h0 : (¬ ∃ q, q < R ∧ dc_uq A c D k r q = true) → post 0) : wpY_hasPred post (nI R, nI L, nI H, yco, yat, ypf, ymb, ypr, yfw, yrc, yca, ytr, yd, yro, yfr, ybe, yne, ycu) (nI k) (nI r) := by
  obtain ⟨_, hR, _, hL, c1, c15⟩ := B
  have hc15 := c15 k hk
  refine loop_0 (fun n i (_ : Unit) => wY_hasPred_2 post (nI k) (nI r) (nI R) (nI L) (nI H) yco yat ypf ymb ypr yfw yrc yca ytr yd yro yfr ybe yne ycu n (nI i)) (fun i _ => ∀ q, q < i → dc_uq A c D k r q = false) R () (fun q z => absurd z (Nat.not_lt_zero q)) ?_ ?_
  · intro n _ hs
    refine br_t (dc_end (by omega)) (h0 (fun ⟨q, hq, e⟩ => ?_))
    rw [hs q hq] at e
    exact nomatch e
  · intro n i _ hi hs hn
    have no : ∀ (z : dc_uq A c D k r i = false) q, q < i + 1 → dc_uq A c D k r q = false := by
      intro z q hq
      by_cases e : q = i
      · rw [e]; exact z
      · exact hs q (by omega)
    have El : ∀ q, q < R → dc_E D 1000000 q ≤ 1000000 := by
      intro q hq
      by_cases z : D q < 1000
      · rw [dc_E_lt z]; omega
      · rw [dc_E_ge z] <;> exact Nat.le_refl _
    have Ei := El i hi
    have Er := El r hr
    refine br_f (dc_in hi (by omega)) ?_
    by_cases zx : i = r
    · refine br_t (by rw [zx]) (nm_r (nI_1 i) (hn () (no (decide_eq_false (fun w => w.1 zx)))))
    · refine br_f (fun e => zx ((nI_eq (by omega) (by omega)).mp e)) ⟨dc_v12 k i (by omega) (by omega), ?_⟩
      rw [dc_c12 k i (by omega)]
      by_cases za : A k i = true
      · refine br_f (fun e => ?_) ⟨vp_in_nI (by omega) (by omega), ?_⟩
        · rw [(T.2 k i hk hi).mp e] at za; exact nomatch za
        rw [dc_cl i (by omega), dc_cl r (by omega), dc_cl k (by omega), rep i hi, rep r hr, T.1 k hk, nI_add]
        have q := dc_Eq G c1 c15 hR hk hi hr
        by_cases zl : dc_E D 1000000 i < 1000000
        · refine br_f (nI_ge (b := 1000000) zl (by decide)) ⟨vp_in_nI (by omega) (by omega), vp_in_nI (by omega) (by omega), vp_in_nI (by omega) (by omega), ?_⟩
          by_cases ze : dc_E D 1000000 i + c k = dc_E D 1000000 r
          · exact br_t (by rw [ze]) (h1 ⟨i, hi, decide_eq_true ⟨zx, za, q.mp ⟨zl, ze⟩⟩⟩)
          · exact br_f (fun e => ze ((nI_eq (by omega) (by omega)).mp e)) (nm_r (nI_1 i) (hn () (no (decide_eq_false (fun w => ze (q.mpr w.2.2).2)))))
        · exact br_t (nI_le (a := 1000000) (by omega) (by omega)) (nm_r (nI_1 i) (hn () (no (decide_eq_false (fun w => zl (q.mpr w.2.2).1)))))
      · exact br_t ((T.2 k i hk hi).mpr (dc_bt za)) (nm_r (nI_1 i) (hn () (no (decide_eq_false (fun w => za w.2.1)))))
theorem dy_upstream {post : Int32 → Prop} {k r s : Nat} {D : Nat → Nat} (B : dc_B R L c) (T : dc_TY R L A c yco yat) (G : dc_G R L A c s D) (hk : k < L) (hr : r < R) (rep : ∀ r, r < R → yd r = nI (dc_E D 1000000 r))
    (h : post (dc_U R A c D k r)) : wpY_upstream post (nI R, nI L, nI H, yco, yat, ypf, ymb, ypr, yfw, yrc, yca, ytr, yd, yro, yfr, ybe, yne, ycu) (nI k) (nI r) := by
  obtain ⟨_, hR, _, hL, c1, c15⟩ := B
  have hc15 := c15 k hk
  refine loop_0 (fun n i v => wY_upstream_5 post (nI k) (nI r) (nI R) (nI L) (nI H) yco yat ypf ymb ypr yfw yrc yca ytr yd yro yfr ybe yne ycu n v (nI i)) (fun i v => v = dc_us (dc_uq A c D k r) i) R (-1) rfl ?_ ?_
  · intro n v hv
    subst hv
    exact br_t (dc_end (by omega)) h
  · intro n i v hi hv hn
    subst hv
    have no : dc_uq A c D k r i = false → dc_us (dc_uq A c D k r) i = dc_us (dc_uq A c D k r) (i + 1) := by
      intro z
      exact (dc_us_0 (show ¬ dc_uq A c D k r i = true by rw [z]; decide)).symm
    have El : ∀ q, q < R → dc_E D 1000000 q ≤ 1000000 := by
      intro q hq
      by_cases z : D q < 1000
      · rw [dc_E_lt z]; omega
      · rw [dc_E_ge z] <;> exact Nat.le_refl _
    have Ei := El i hi
    have Er := El r hr
    refine br_f (dc_in hi (by omega)) ?_
    by_cases zx : i = r
    · refine br_t (by rw [zx]) (nm_r (nI_1 i) (hn _ (no (decide_eq_false (fun w => w.1 zx)))))
    · refine br_f (fun e => zx ((nI_eq (by omega) (by omega)).mp e)) ⟨dc_v12 k i (by omega) (by omega), ?_⟩
      rw [dc_c12 k i (by omega)]
      by_cases za : A k i = true
      · refine br_f (fun e => ?_) ⟨vp_in_nI (by omega) (by omega), ?_⟩
        · rw [(T.2 k i hk hi).mp e] at za; exact nomatch za
        rw [dc_cl i (by omega), dc_cl r (by omega), dc_cl k (by omega), rep i hi, rep r hr, T.1 k hk, nI_add]
        have q := dc_Eq G c1 c15 hR hk hi hr
        by_cases zl : dc_E D 1000000 i < 1000000
        · refine br_f (nI_ge (b := 1000000) zl (by decide)) ⟨vp_in_nI (by omega) (by omega), vp_in_nI (by omega) (by omega), vp_in_nI (by omega) (by omega), ?_⟩
          by_cases ze : dc_E D 1000000 i + c k = dc_E D 1000000 r
          · refine br_t (by rw [ze]) (nm_r (nI_1 i) (hn _ (dc_us_1 (decide_eq_true ⟨zx, za, q.mp ⟨zl, ze⟩⟩)).symm))
          · exact br_f (fun e => ze ((nI_eq (by omega) (by omega)).mp e)) (nm_r (nI_1 i) (hn _ (no (decide_eq_false (fun w => ze (q.mpr w.2.2).2)))))
        · exact br_t (nI_le (a := 1000000) (by omega) (by omega)) (nm_r (nI_1 i) (hn _ (no (decide_eq_false (fun w => zl (q.mpr w.2.2).1)))))
      · exact br_t ((T.2 k i hk hi).mpr (dc_bt za)) (nm_r (nI_1 i) (hn _ (no (decide_eq_false (fun w => za w.2.1)))))
/-- the scan of the links, once the distances stand -/
theorem dy_rpf25 {post : Int32 → SY → Prop} {r s : Nat} {D : Nat → Nat} (B : dc_B R L c) (T : dc_TY R L A c yco yat) (G : dc_G R L A c s D) (hr : r < R) (rep : ∀ r, r < R → yd r = nI (dc_E D 1000000 r))
    (h : ∀ (v : Int32), dc_isR R L A c D r v → post v (nI R, nI L, nI H, yco, yat, ypf, ymb, ypr, yfw, yrc, yca, ytr, yd, yro, yfr, ybe, yne, ycu)) : ∃ n, wY_rpf_25 post (nI r) (nI R) (nI L) (nI H) yco yat ypf ymb ypr yfw yrc yca ytr yd yro yfr ybe yne ycu n 0 := by
  have B' := B
  obtain ⟨_, hR, _, hL, c1, c15⟩ := B'
  refine loop_0 (fun n i (_ : Unit) => wY_rpf_25 post (nI r) (nI R) (nI L) (nI H) yco yat ypf ymb ypr yfw yrc yca ytr yd yro yfr ybe yne ycu n (nI i)) (fun i _ => ∀ k, k < i → ¬ dc_Hp R A c D k r) L () (fun q z => absurd z (Nat.not_lt_zero q)) ?_ ?_
  · intro n _ hs
    exact br_t (dc_end (by omega)) (h _ (Or.inl ⟨rfl, hs⟩))
  · intro n k _ hk hs hn
    have no : ∀ (z : ¬ dc_Hp R A c D k r) q, q < k + 1 → ¬ dc_Hp R A c D q r := by
      intro z q hq
      by_cases e : q = k
      · rw [e]; exact z
      · exact hs q (by omega)
    refine br_f (dc_in hk (by omega)) (dy_usable B T hk (fun _ => ?_) (fun z => ?_))
    · refine br_f (by decide) ⟨dc_v12 k r (by omega) (by omega), ?_⟩
      rw [dc_c12 k r (by omega)]
      by_cases za : A k r = true
      · refine br_f (fun e => ?_) (dy_hasPred B T G hk hr rep (fun z => ?_) (fun z => ?_))
        · rw [(T.2 k r hk hr).mp e] at za; exact nomatch za
        · exact br_f (by decide) (h _ (Or.inr ⟨k, hk, rfl, ⟨za, z⟩, hs⟩))
        · exact br_t rfl (nm_r (nI_1 k) (hn () (no (fun w => z w.2))))
      · exact br_t ((T.2 k r hk hr).mpr (dc_bt za)) (nm_r (nI_1 k) (hn () (no (fun w => za w.1))))
    · refine br_t rfl (nm_r (nI_1 k) (hn () (no (fun w => ?_))))
      obtain ⟨ar, q, hq, e⟩ := w
      have e' := of_decide_eq_true e
      have := dc_cn_two (p := A k) hq hr e'.1 e'.2.1 ar
      omega
theorem dy_rpf {post : Int32 → SY → Prop} {r s : Nat} {D : Nat → Nat} (B : dc_B R L c) (T : dc_TY R L A c yco yat) (G : dc_G R L A c s D) (hs : s < R) (hr : r < R)
    (h : ∀ (v : Int32) (d' : Nat → Int32), dc_isR R L A c D r v → (∀ r, r < R → d' r = nI (dc_E D 1000000 r)) → post v (nI R, nI L, nI H, yco, yat, ypf, ymb, ypr, yfw, yrc, yca, ytr, d', yro, yfr, ybe, yne, ycu)) : wpY_rpf post (nI R, nI L, nI H, yco, yat, ypf, ymb, ypr, yfw, yrc, yca, ytr, yd, yro, yfr, ybe, yne, ycu) (nI s) (nI r) := by
  have B' := B
  obtain ⟨_, hR, _, hL, c1, c15⟩ := B'
  refine dy_comp B T G hs (fun d' rep => ?_)
  by_cases zs : r = s
  · exact br_t (by rw [zs]) (h _ d' (Or.inl ⟨rfl, fun k hk => by rw [zs]; exact dc_Hp_s G c1 hk⟩) rep)
  · refine br_f (fun e => zs ((nI_eq (by omega) (by omega)).mp e)) ⟨vp_in_nI (by omega) (by omega), ?_⟩
    rw [dc_cl r (by omega), rep r hr]
    by_cases z : D r < 1000
    · rw [dc_E_lt z]
      exact br_t (nI_lt (b := 1000000) (by omega) (by decide)) (dy_rpf25 B T G hr rep (fun v hv => h v d' hv rep))
    · rw [dc_E_ge z]
      exact br_f (nI_nlt (a := 1000000) (b := 1000000) (by omega) (by decide)) (h _ d' (Or.inl ⟨rfl, fun k hk => dc_Hp_i G c1 c15 hR hk hr z⟩) rep)
theorem dy_reset {post : SY → Prop} (h : ∀ (pr fw rc ca : Nat → Int32), (∀ i, i < 192 → pr i = 0) → (∀ i, i < 192 → fw i = -1) → (∀ i, i < 12 → rc i = 0) → (∀ i, i < 16 → ca i = 0) → post (nI R, nI L, nI H, yco, yat, ypf, ymb, pr, fw, rc, ca, ytr, yd, yro, yfr, ybe, yne, ycu)) : wpY_reset post (nI R, nI L, nI H, yco, yat, ypf, ymb, ypr, yfw, yrc, yca, ytr, yd, yro, yfr, ybe, yne, ycu) := by
  refine loop_0 (fun n i (s : (Nat → Int32) × (Nat → Int32)) => wY_reset_2 post (nI R) (nI L) (nI H) n (nI i) yco yat ypf ymb s.1 s.2 yrc yca ytr yd yro yfr ybe yne ycu) (fun i s => (∀ j, j < i → s.1 j = 0) ∧ (∀ j, j < i → s.2 j = -1)) 192 (ypr, yfw) ⟨fun j z => absurd z (Nat.not_lt_zero j), fun j z => absurd z (Nat.not_lt_zero j)⟩ ?_ ?_
  · intro n s ⟨s1, s2⟩
    refine br_t (dc_end (n := 192) (by omega)) ?_
    refine loop_0 (fun n i rc => wY_reset_31 post (nI R) (nI L) (nI H) n (nI i) yco yat ypf ymb s.1 s.2 rc yca ytr yd yro yfr ybe yne ycu) (fun i rc => ∀ j, j < i → rc j = 0) 12 yrc (fun j z => absurd z (Nat.not_lt_zero j)) ?_ ?_
    · intro n rc s3
      refine br_t (dc_end (n := 12) (by omega)) ?_
      refine loop_0 (fun n i ca => wY_reset_52 post (nI R) (nI L) (nI H) n (nI i) yco yat ypf ymb s.1 s.2 rc ca ytr yd yro yfr ybe yne ycu) (fun i ca => ∀ j, j < i → ca j = 0) 16 yca (fun j z => absurd z (Nat.not_lt_zero j)) ?_ ?_
      · intro n ca s4
        exact br_t (dc_end (n := 16) (by omega)) (h _ _ _ _ s1 s2 s3 s4)
      · intro n i ca hi s4 hn
        exact br_f (dc_in (n := 16) hi (by omega)) ⟨vp_in_nI (by omega) (by omega), nm_e (nm_r (nI_1 i) (hn _ (by rw [dc_cl i (by omega)]; exact dc_put s4)))⟩
    · intro n i rc hi s3 hn
      exact br_f (dc_in (n := 12) hi (by omega)) ⟨vp_in_nI (by omega) (by omega), nm_e (nm_r (nI_1 i) (hn _ (by rw [dc_cl i (by omega)]; exact dc_put s3)))⟩
  · intro n i s hi ⟨s1, s2⟩ hn
    refine br_f (dc_in (n := 192) hi (by omega)) ⟨vp_in_nI (by omega) (by omega), nm_e ⟨vp_in_nI (by omega) (by omega), nm_e (nm_r (nI_1 i) (hn (_, _) ⟨?_, ?_⟩))⟩⟩
    · rw [dc_cl i (by omega)]; exact dc_put s1
    · rw [dc_cl i (by omega)]; exact dc_put s2
end
