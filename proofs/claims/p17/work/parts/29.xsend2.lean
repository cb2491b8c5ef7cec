/-! the component's send, whole -/
section
variable {R L H : Nat} {A : Nat → Nat → Bool} {c : Nat → Nat} {xas xlc xpf xmb xrd xrp xpt xaw xrc xcc xts xpk : Nat → Int32}
theorem dx_router1 {post : Int32 → Prop} {j : Nat} (hj : j < R) (hR : R ≤ 12) (h : post 1) : wpX_isRouter post (nI R, nI L, nI H, xas, xlc, xpf, xmb, xrd, xrp, xpt, xaw, xrc, xcc, xts, xpk) (nI j) :=
  br_f (nI_pos (by omega)) (br_f (dc_in hj (by omega)) h)
theorem dx_router0 {post : Int32 → Prop} {v : Int32} (hv : v < 0 ∨ (¬ v < 0 ∧ nI R ≤ v)) (h : post 0) : wpX_isRouter post (nI R, nI L, nI H, xas, xlc, xpf, xmb, xrd, xrp, xpt, xaw, xrc, xcc, xts, xpk) v := by
  rcases hv with a | ⟨a, b⟩
  · exact br_t a h
  · exact br_f a (br_t b h)
theorem dx_link1 {post : Int32 → Prop} {j : Nat} (hj : j < L) (hL : L ≤ 16) (h : post 1) : wpX_isLink post (nI R, nI L, nI H, xas, xlc, xpf, xmb, xrd, xrp, xpt, xaw, xrc, xcc, xts, xpk) (nI j) :=
  br_f (nI_pos (by omega)) (br_f (dc_in hj (by omega)) h)
theorem dx_link0 {post : Int32 → Prop} {v : Int32} (hv : v < 0 ∨ (¬ v < 0 ∧ nI L ≤ v)) (h : post 0) : wpX_isLink post (nI R, nI L, nI H, xas, xlc, xpf, xmb, xrd, xrp, xpt, xaw, xrc, xcc, xts, xpk) v := by
  rcases hv with a | ⟨a, b⟩
  · exact br_t a h
  · exact br_f a (br_t b h)
theorem dx_send {post : Int32 → St2 → Prop} {s : Nat} {D : Nat → Nat → Nat} {rp P F : Nat → Nat → Int32} {pf mb : Nat → Int32} (B : dc_B R L c) (T : dc_TX R L A c xas xlc) (Q : dc_DR R L A c D rp) (hs : s < R)
    (rpf : ∀ r, r < R → xpf r = pf r) (rM : ∀ y, y < R → xmb y = mb y) (rD : ∀ s r, s < R → r < R → xrd (s * 12 + r) = nI (D s r)) (rR : ∀ s r, s < R → r < R → xrp (s * 12 + r) = rp s r) (rP : dc_r2 R L xpt P) (rF : dc_r2 R L xaw F)
    (h : ∀ (N : Nat → Bool) (pt' aw' rc' cc' ts' pk' : Nat → Int32),
      dc_Sd R L s (rp s) (dc_sb R pf D s (dc_sz R L A rp P F s).2.2) (fun y => decide (1 ≤ (dc_sz R L A rp P F s).1 y)) (fun y => decide (¬ mb y = 0)) N →
      dc_Cl R L s (rp s) (dc_sb R pf D s (dc_sz R L A rp P F s).2.2) (fun y => decide (1 ≤ (dc_sz R L A rp P F s).1 y)) (fun y => decide (¬ mb y = 0)) N →
      dc_r2 R L pt' (dc_pr R (rp s) (dc_sz R L A rp P F s).2.2 N (nI H) s P L) → dc_r2 R L aw' (dc_fo R (dc_sz R L A rp P F s).2.2 (dc_be pf (D s)) s F L) →
      (∀ y, y < R → rc' y = nI ((dc_sz R L A rp P F s).1 y)) → (∀ k, k < L → cc' k = nI ((dc_sz R L A rp P F s).2.1 k)) →
      post (nI (dc_cn (fun r => decide (¬ mb r = 0 ∧ 1 ≤ (dc_sz R L A rp P F s).1 r)) R)) (nI R, nI L, nI H, xas, xlc, xpf, xmb, xrd, xrp, pt', aw', rc', cc', ts', pk')) :
    wpX_send post (nI R, nI L, nI H, xas, xlc, xpf, xmb, xrd, xrp, xpt, xaw, xrc, xcc, xts, xpk) (nI s) := by
  have B' := B
  obtain ⟨_, hR, _, hL, c1, c15⟩ := B'
  have G := (Q s hs).1
  have FI := dc_FIn (R := R) (L := L) (rp := rp s) (can := dc_can R A (rp s) (P s) (F s)) hs R
  have hb : ∀ y, (dc_sz R L A rp P F s).1 y < 2 ^ 31 := fun y => by
    have := dc_FI_b FI hR hL (by omega) y
    have e : (dc_sz R L A rp P F s).1 y ≤ 2497 := this
    omega
  have hf : ∀ j, j < L → dc_sb R pf D s (dc_sz R L A rp P F s).2.2 j = -1 ∨ ∃ q, q < R ∧ dc_sb R pf D s (dc_sz R L A rp P F s).2.2 j = nI q ∧ 1 ≤ (dc_sz R L A rp P F s).1 q := by
    intro j _
    unfold dc_sb
    cases e : dc_bs ((dc_sz R L A rp P F s).2.2 j) (dc_be pf (D s)) R with
    | none => exact Or.inl rfl
    | some q =>
      have a := dc_bs_m e
      exact Or.inr ⟨q, a.1, rfl, (FI.1 j q a.2).2⟩
  unfold wpX_send
  refine dx_router1 hs hR (br_f (by decide) (dx_clear B (fun rc0 cc0 ts0 e1 e2 e3 => ?_)))
  refine dx_flood B T hs rR rP rF e1 e2 e3 (fun rc' cc' ts' Z => ?_)
  refine dx_elect B G hs (fun r hr => rD s r hs hr) rpf Z.2.2 rF (fun aw' pk' g1 g2 => ?_)
  refine dx_needed (f := dc_sb R pf D s (dc_sz R L A rp P F s).2.2) B hs rR g2 hf Z.1 hb rM (fun v N m1 m2 m3 => ?_)
  refine dx_prune B hs rR m1 Z.2.2 rP (fun pt' g3 => ?_)
  exact dx_count B Z.1 hb rM (h N pt' aw' rc' cc' ts' pk' m2 m3 g3 g1 Z.1 Z.2.1)
end
