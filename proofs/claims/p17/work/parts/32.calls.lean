/-! join, leave, send, tick -/
/-- the timers after m ticks -/
def dc_tk (P : Nat → Nat → Int32) (m : Nat) : Nat → Nat → Int32 := fun s k => nI ((P s k).toNatClampNeg - m)
theorem dc_tk_pm {R L : Nat} {P : Nat → Nat → Int32} (h : dc_pm R L P) (m : Nat) : dc_pm R L (dc_tk P m) := by
  intro s k hs hk
  obtain ⟨p, hp, e⟩ := h s k hs hk
  refine ⟨p - m, by omega, ?_⟩
  unfold dc_tk
  rw [e, nI_clamp (by omega)]
section
variable {R L H : Nat} {xas xlc xpf xmb xrd xrp xpt xaw xrc xcc xts xpk : Nat → Int32}
theorem dx_tick21 {post : St2 → Prop} {m : Nat} {P : Nat → Nat → Int32} (hR : R ≤ 12) (hL : L ≤ 16) (hm : m ≤ 64) (hP : dc_pm R L P) (XP : dc_r2 R L xpt P) (h : ∀ (pt' : Nat → Int32), dc_r2 R L pt' (dc_tk P m) → post (nI R, nI L, nI H, xas, xlc, xpf, xmb, xrd, xrp, pt', xaw, xrc, xcc, xts, xpk)) : ∃ n, wX_tick_21 post (nI m) (nI R) (nI L) (nI H) n 0 xas xlc xpf xmb xrd xrp xpt xaw xrc xcc xts xpk := by
  refine loop_0 (fun n i pt => wX_tick_21 post (nI m) (nI R) (nI L) (nI H) n (nI i) xas xlc xpf xmb xrd xrp pt xaw xrc xcc xts xpk) (fun i pt => ∀ s k, s < R → k < L → pt (s * 16 + k) = if s < i then dc_tk P m s k else P s k) R xpt ?_ ?_ ?_
  · intro s k hs hk
    rw [if_neg (Nat.not_lt_zero s)]
    exact XP s k hs hk
  · intro n pt e
    exact br_t (dc_end (by omega)) (h pt (fun s k hs hk => by rw [e s k hs hk, if_pos hs]))
  · intro n s pt hs e hn
    refine br_f (dc_in hs (by omega)) ?_
    refine loop_0 (fun n' i pt => wX_tick_32 post (wX_tick_21 post (nI m) (nI R) (nI L) (nI H) n) (nI m) (nI s) (nI R) (nI L) (nI H) n' (nI i) xas xlc xpf xmb xrd xrp pt xaw xrc xcc xts xpk) (fun i pt => ∀ s' k, s' < R → k < L → pt (s' * 16 + k) = if s' < s ∨ (s' = s ∧ k < i) then dc_tk P m s' k else P s' k) L pt ?_ ?_ ?_
    · intro s' k hs' hk
      rw [e s' k hs' hk]
      by_cases q : s' < s
      · rw [if_pos q, if_pos (show s' < s ∨ (s' = s ∧ k < 0) from Or.inl q)]
      · rw [if_neg q, if_neg (show ¬ (s' < s ∨ (s' = s ∧ k < 0)) by omega)]
    · intro n' pt e'
      refine br_t (dc_end (by omega)) (nm_r (nI_1 s) (hn _ (fun s' k hs' hk => ?_)))
      rw [e' s' k hs' hk]
      by_cases q : s' < s + 1
      · rw [if_pos q, if_pos (show s' < s ∨ (s' = s ∧ k < L) by omega)]
      · rw [if_neg q, if_neg (show ¬ (s' < s ∨ (s' = s ∧ k < L)) by omega)]
    · intro n' i pt hi e' hn'
      have put : ∀ x, x = dc_tk P m s i → ∀ s' k, s' < R → k < L → upd pt (s * 16 + i) x (s' * 16 + k) = if s' < s ∨ (s' = s ∧ k < i + 1) then dc_tk P m s' k else P s' k := by
        intro x hx s' k hs' hk
        by_cases q : s' = s ∧ k = i
        · rw [q.1, q.2, pk_us, if_pos (show s < s ∨ (s = s ∧ i < i + 1) by omega)]
          exact hx
        · rw [pk_un (show s' * 16 + k ≠ s * 16 + i from fun w => q (by omega)), e' s' k hs' hk]
          by_cases y : s' < s ∨ (s' = s ∧ k < i)
          · rw [if_pos y, if_pos (show s' < s ∨ (s' = s ∧ k < i + 1) by omega)]
          · rw [if_neg y, if_neg (show ¬ (s' < s ∨ (s' = s ∧ k < i + 1)) by omega)]
      have here : pt (s * 16 + i) = P s i := by
        rw [e' s i hs hi, if_neg (show ¬ (s < s ∨ (s = s ∧ i < i)) by omega)]
      obtain ⟨p, hp, ep⟩ := hP s i hs hi
      have tk : dc_tk P m s i = nI (p - m) := by
        unfold dc_tk
        rw [ep, nI_clamp (by omega)]
      refine br_f (dc_in hi (by omega)) (nm_r (dc_i16 s i) ⟨vp_in_nI (by omega) (by omega), ?_⟩)
      rw [dc_cl (s * 16 + i) (by omega), here, ep]
      by_cases q : p ≤ m
      · refine br_t (nI_le q (by omega)) ⟨vp_in_nI (by omega) (by omega), nm_e (nm_r (nI_1 i) (hn' _ (put _ ?_)))⟩
        rw [tk, show p - m = 0 by omega] <;> rfl
      · refine br_f (fun w => q ((nI_leI (by omega) (by omega)).mp w)) ⟨vp_in_nI (by omega) (by omega), vp_in_nI (by omega) (by omega), nm_e (nm_r (nI_1 i) (hn' _ (put _ ?_)))⟩
        rw [tk, pk_sub (by omega)]
end
