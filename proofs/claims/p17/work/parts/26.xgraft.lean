/-! the component's graft and join -/
section
variable {R L H : Nat} {A : Nat → Nat → Bool} {c : Nat → Nat} {xas xlc xpf xmb xrd xrp xpt xaw xrc xcc xts xpk : Nat → Int32}
theorem dx_graft5 {post : St2 → Prop} {s : Nat} {D : Nat → Nat → Nat} {rp F : Nat → Nat → Int32} (B : dc_B R L c) (T : dc_TX R L A c xas xlc) (Q : dc_DR R L A c D rp) (hs : s < R) (rD : ∀ s r, s < R → r < R → xrd (s * 12 + r) = nI (D s r)) (rR : ∀ s r, s < R → r < R → xrp (s * 12 + r) = rp s r) (hF : dc_fw R L F) (rF : dc_r2 R L xaw F) :
    ∀ (m i : Nat) (x : Int32) (xpt : Nat → Int32) (P : Nat → Nat → Int32), i + m = R → (x = -1 ∨ ∃ q, q < R ∧ x = nI q) → dc_r2 R L xpt P →
      (∀ pt', dc_r2 R L pt' (dc_gr (rp s) (F s) (fun k x => dc_U R A c (D s) k x) s m x P) → post (nI R, nI L, nI H, xas, xlc, xpf, xmb, xrd, xrp, pt', xaw, xrc, xcc, xts, xpk)) → wX_graftToward_5 post (nI s) (nI R) (nI L) (nI H) (m + 1) x (nI i) xas xlc xpf xmb xrd xrp xpt xaw xrc xcc xts xpk := by
  have B' := B
  obtain ⟨_, hR, _, hL, c1, c15⟩ := B'
  have G := (Q s hs).1
  have IR := (Q s hs).2
  intro m
  induction m with
  | zero =>
    intro i x xpt P him hx hP h
    have e : i = R := by omega
    subst e
    exact br_t (dc_end (by omega)) (h xpt hP)
  | succ m ih =>
    intro i x xpt P him hx hP h
    refine br_f (dc_in (show i < R by omega) (by omega)) ?_
    rcases hx with e | ⟨x, hx, e⟩
    · subst e
      rw [dc_gr_m1] at h
      exact br_t rfl (h xpt hP)
    · subst e
      refine br_f (dc_nm1 (by omega)) ⟨dc_v12 s x (by omega) (by omega), ?_⟩
      rw [dc_c12 s x (by omega)]
      refine nm_r (rR s x hs hx) ?_
      rcases dc_isR_c (IR x hx) with ev | ⟨k, hk, ev, ak⟩
      · rw [dc_gr_s (by omega) ev] at h
        exact br_t ev (h xpt hP)
      · have P' := dc_r2_u (s := s) hP hL hk 0
        rw [ev]
        refine br_f (dc_nm1 (by omega)) ⟨dc_v16 s k (by omega) (by omega), nm_e ⟨dc_v16 s k (by omega) (by omega), ?_⟩⟩
        rw [dc_c16 s k (by omega)]
        refine nm_r (rF s k hs hk) ?_
        rcases hF s k hs hk with f | ⟨q, hq, f⟩
        · have E : dc_gr (rp s) (F s) (fun k x => dc_U R A c (D s) k x) s (m + 1) (nI x) P = dc_gr (rp s) (F s) (fun k x => dc_U R A c (D s) k x) s m (dc_U R A c (D s) k x) (dc_p2 P s k 0) := dc_gr_u (by omega) (by omega) ev f
          rw [E] at h
          refine br_t f (dx_up B T G hs hk hx (fun r hr => rD s r hs hr) (nm_r (nI_1 i) (ih (i + 1) _ _ _ (by omega) ?_ P' h)))
          rcases dc_U_or R A c (D s) k x with ⟨u, _⟩ | ⟨q, hq, _, u⟩
          · exact Or.inl u
          · exact Or.inr ⟨q, hq, u⟩
        · have f' : ¬ F s k = -1 := by rw [f]; exact dc_nm1 (by omega)
          rw [dc_gr_f (by omega) (by omega) ev f'] at h
          exact br_f f' (nm_r (nI_1 i) (ih (i + 1) _ _ _ (by omega) (Or.inr ⟨q, hq, f⟩) P' h))
theorem dx_join28 {post : Int32 → St2 → Prop} {x : Nat} {D : Nat → Nat → Nat} {rp F P : Nat → Nat → Int32} (B : dc_B R L c) (T : dc_TX R L A c xas xlc) (Q : dc_DR R L A c D rp) (rD : ∀ s r, s < R → r < R → xrd (s * 12 + r) = nI (D s r)) (rR : ∀ s r, s < R → r < R → xrp (s * 12 + r) = rp s r) (hx : x < R) (hF : dc_fw R L F) (rF : dc_r2 R L xaw F) (hP : dc_r2 R L xpt P)
    (h : ∀ (pt' : Nat → Int32), dc_r2 R L pt' (dc_jn R A c D rp F x P R) → post 1 (nI R, nI L, nI H, xas, xlc, xpf, xmb, xrd, xrp, pt', xaw, xrc, xcc, xts, xpk)) : ∃ n, wX_join_28 post (nI x) n 0 (nI R) (nI L) (nI H) xas xlc xpf xmb xrd xrp xpt xaw xrc xcc xts xpk := by
  have hR : R ≤ 12 := B.2.1
  refine loop_0 (fun n i pt => wX_join_28 post (nI x) n (nI i) (nI R) (nI L) (nI H) xas xlc xpf xmb xrd xrp pt xaw xrc xcc xts xpk) (fun i pt => dc_r2 R L pt (dc_jn R A c D rp F x P i)) R xpt hP ?_ ?_
  · intro n pt hw
    exact br_t (dc_end (by omega)) (h pt hw)
  · intro n i pt hi hw hn
    exact br_f (dc_in hi (by omega)) ⟨R + 1, dx_graft5 B T Q hi rD rR hF rF R 0 (nI x) pt _ (by omega) (Or.inr ⟨x, hx, rfl⟩) hw (fun pt' g => nm_r (nI_1 i) (hn pt' g))⟩
end
