/-! the component's walks over the topology -/
theorem dc_sube {a b d : Nat} (ha : a < 2 ^ 30) (hb : b < 2 ^ 30) (hd : d < 2 ^ 30) : nI a = nI b - nI d ↔ a + d = b := by
  by_cases z : d ≤ b
  · rw [pk_sub z, nI_eq (by omega) (by omega)]; omega
  · constructor
    · intro e
      have n := pk_sneg hd (show b < d by omega)
      rw [← e] at n
      exact absurd n (nI_pos (by omega))
    · intro e; omega
theorem dc_m1s (x : Int32) : x + (-1) = x - 1 := by rw [Int32.sub_eq_add_neg]
/-- the rows of the other sources are as they were -/
def dc_fr (s : Nat) (x x' : Nat → Int32) : Prop := ∀ s' r, s' ≠ s → r < 12 → x' (s' * 12 + r) = x (s' * 12 + r)
theorem dc_fr_u {s y : Nat} {x x' : Nat → Int32} (h : dc_fr s x x') (hy : y < 12) (v : Int32) : dc_fr s x (upd x' (s * 12 + y) v) := by
  intro s' r hs hr
  rw [pk_un (show s' * 12 + r ≠ s * 12 + y from fun e => hs (by omega))]
  exact h s' r hs hr
theorem dc_fr_t {s : Nat} {x y z : Nat → Int32} (h : dc_fr s x y) (g : dc_fr s y z) : dc_fr s x z := fun s' r hs hr => (g s' r hs hr).trans (h s' r hs hr)
section
variable {R L H : Nat} {A : Nat → Nat → Bool} {c : Nat → Nat} {xas xlc xpf xmb xrd xrp xpt xaw xrc xcc xts xpk : Nat → Int32}
theorem dx_con {post : Int32 → Prop} {x : Int32} {p : Nat → Bool} {r : Nat} (M : dc_ms R x p) (hr : r < R) (hR : R ≤ 12) (h1 : p r = true → post 1) (h0 : p r = false → post 0) : wpX_contains post () x (nI r) := by
  by_cases z : p r = true
  · exact br_t ((dc_ms_bit M hr hR).mpr z) (h1 z)
  · exact br_f (fun e => z ((dc_ms_bit M hr hR).mp e)) (h0 (dc_bt z))
theorem dx_two {post : Int32 → Prop} {x : Int32} {p : Nat → Bool} (M : dc_ms R x p) (hR : R ≤ 12) (h1 : 2 ≤ dc_cn p R → post 1) (h0 : dc_cn p R < 2 → post 0) : wpX_hasTwoOrMore post () x := by
  by_cases z : dc_cn p R < 2
  · exact br_t ((dc_ms_two M hR).mpr z) (h0 z)
  · exact br_f (fun e => z ((dc_ms_two M hR).mp e)) (h1 (by omega))
theorem dx_short72 {post : St2 → Prop} {s k m : Nat} {D dn : Nat → Nat} (B : dc_B R L c) (T : dc_TX R L A c xas xlc) (G : dc_G R L A c s D) (hs : s < R) (hk : k < L) (rep : ∀ r, r < R → xrd (s * 12 + r) = nI (dn r)) (P : dc_P R D 1000 dn)
    (m1 : m ≤ 1000) (m2 : ∀ r, r < R → A k r = true → m ≤ dn r) (m3 : m = 1000 ∨ ∃ x, x < R ∧ A k x = true ∧ dn x = m)
    (h : ∀ (rd' : Nat → Int32) (dn' : Nat → Nat), (∀ r, r < R → rd' (s * 12 + r) = nI (dn' r)) → dc_fr s xrd rd' → dc_S R L A c D 1000 k dn dn' → post (nI R, nI L, nI H, xas, xlc, xpf, xmb, rd', xrp, xpt, xaw, xrc, xcc, xts, xpk)) : ∃ n, wX_shortenAcross_72 post (nI s) (nI k) (nI (m + c k)) (nI R) (nI L) (nI H) n 0 xas xlc xpf xmb xrd xrp xpt xaw xrc xcc xts xpk := by
  obtain ⟨_, hR, _, hL, c1, c15⟩ := B
  have hc1 := c1 k hk
  have hc15 := c15 k hk
  refine loop_0 (fun n i rd => wX_shortenAcross_72 post (nI s) (nI k) (nI (m + c k)) (nI R) (nI L) (nI H) n (nI i) xas xlc xpf xmb rd xrp xpt xaw xrc xcc xts xpk)
    (fun i rd => ∃ dn', (∀ r, r < R → rd (s * 12 + r) = nI (dn' r)) ∧ dc_fr s xrd rd ∧ (∀ r, r < R → dc_E D 1000 r ≤ dn' r ∧ dn' r ≤ dn r) ∧ (∀ r, r < i → r < R → A k r = true → dn' r ≤ m + c k))
    R xrd ⟨dn, rep, fun _ _ _ _ => rfl, fun r hr => ⟨(P r hr).1, Nat.le_refl _⟩, fun r z => absurd z (Nat.not_lt_zero r)⟩ ?_ ?_
  · intro n rd ⟨dn', r1, r2, r3, r4⟩
    refine br_t (dc_end (by omega)) (h rd dn' r1 r2 ⟨r3, fun q r e hD hd => ?_⟩)
    have a := r4 r e.2.2.1 e.2.2.1 e.2.2.2.2.2
    have b := m2 q e.2.1 e.2.2.2.2.1
    omega
  · intro n y rd hy ⟨dn', r1, r2, r3, r4⟩ hn
    have Py := r3 y hy
    have PPy := P y hy
    refine br_f (dc_in hy (by omega)) (nm_r (dc_i12 s y) ⟨vp_in_nI (by omega) (by omega), ?_⟩)
    rw [dc_cl k (by omega), dc_cl (s * 12 + y) (by omega)]
    refine dx_con (T.2 k hk) hy hR (fun za => ?_) (fun za => ?_)
    · refine br_f (by decide) ⟨vp_in_nI (by omega) (by omega), ?_⟩
      rw [r1 y hy]
      by_cases zl : dn' y ≤ m + c k
      · refine br_t (nI_le zl (by omega)) (nm_r (nI_1 y) (hn _ ⟨dn', r1, r2, r3, fun r hr hrR ha => ?_⟩))
        by_cases e : r = y
        · rw [e]; exact zl
        · exact r4 r (by omega) hrR ha
      · refine br_f (fun e => zl ((nI_leI (by omega) (by omega)).mp e)) ⟨vp_in_nI (by omega) (by omega), nm_e (nm_r (nI_1 y) (hn _ ⟨dc_pu dn' y (m + c k), fun r hr => ?_, dc_fr_u r2 (by omega) _, fun r hr => ?_, fun r hr hrR ha => ?_⟩))⟩
        · by_cases e : r = y
          · rw [e, dc_pu_s]; exact pk_us
          · rw [dc_pu_n _ _ e, pk_un (show s * 12 + r ≠ s * 12 + y by omega)]; exact r1 r hr
        · by_cases e : r = y
          · rw [e, dc_pu_s]
            refine ⟨?_, by omega⟩
            rcases m3 with z | ⟨x, hx, ax, ex⟩
            · omega
            · have Px := (P x hx).1
              have zD : D x < 1000 := by
                by_cases q : D x < 1000
                · exact q
                · rw [dc_E_ge q] at Px; omega
              rw [dc_E_lt zD] at Px
              by_cases w : x = y
              · rw [← w, dc_E_lt zD]; omega
              · have g3 := G.2.2.2 k x y ⟨hk, hx, hy, w, ax, za⟩ zD
                rw [dc_E_lt (r := y) (show D y < 1000 by omega)]
                omega
          · rw [dc_pu_n _ _ e]; exact r3 r hr
        · by_cases e : r = y
          · rw [e, dc_pu_s] <;> exact Nat.le_refl _
          · rw [dc_pu_n _ _ e]; exact r4 r (by omega) hrR ha
    · refine br_t rfl (nm_r (nI_1 y) (hn _ ⟨dn', r1, r2, r3, fun r hr hrR ha => ?_⟩))
      by_cases e : r = y
      · rw [e, za] at ha; exact nomatch ha
      · exact r4 r (by omega) hrR ha
theorem dx_short {post : St2 → Prop} {s k : Nat} {D dn : Nat → Nat} (B : dc_B R L c) (T : dc_TX R L A c xas xlc) (G : dc_G R L A c s D) (hs : s < R) (hk : k < L) (rep : ∀ r, r < R → xrd (s * 12 + r) = nI (dn r)) (P : dc_P R D 1000 dn)
    (h : ∀ (rd' : Nat → Int32) (dn' : Nat → Nat), (∀ r, r < R → rd' (s * 12 + r) = nI (dn' r)) → dc_fr s xrd rd' → dc_S R L A c D 1000 k dn dn' → post (nI R, nI L, nI H, xas, xlc, xpf, xmb, rd', xrp, xpt, xaw, xrc, xcc, xts, xpk)) : wpX_shortenAcross post (nI R, nI L, nI H, xas, xlc, xpf, xmb, xrd, xrp, xpt, xaw, xrc, xcc, xts, xpk) (nI s) (nI k) := by
  have B' := B
  obtain ⟨_, hR, _, hL, c1, c15⟩ := B'
  refine loop_0 (fun n i v => wX_shortenAcross_7 post (nI s) (nI k) (nI R) (nI L) (nI H) xas xlc xpf xmb xrd xrp xpt xaw xrc xcc xts xpk n v (nI i))
    (fun i v => ∃ m, v = nI m ∧ m ≤ 1000 ∧ (∀ r, r < i → r < R → A k r = true → m ≤ dn r) ∧ (m = 1000 ∨ ∃ x, x < R ∧ A k x = true ∧ dn x = m))
    R 1000 ⟨1000, rfl, Nat.le_refl _, fun r z => absurd z (Nat.not_lt_zero r), Or.inl rfl⟩ ?_ ?_
  · intro n v ⟨m, e, m1, m2, m3⟩
    subst e
    refine br_t (dc_end (by omega)) ⟨vp_in_nI (by omega) (by omega), ?_⟩
    rw [dc_cl k (by omega), T.1 k hk]
    exact nm_r (nI_add m (c k)) (dx_short72 B T G hs hk rep P m1 (fun r hr => m2 r hr hr) m3 h)
  · intro n y v hy ⟨m, e, m1, m2, m3⟩ hn
    subst e
    have PPy := P y hy
    refine br_f (dc_in hy (by omega)) ⟨dc_v12 s y (by omega) (by omega), ?_⟩
    rw [dc_c12 s y (by omega), rep y hy, dc_cl k (by omega)]
    refine nm_e ⟨vp_in_nI (by omega) (by omega), dx_con (T.2 k hk) hy hR (fun za => ?_) (fun za => ?_)⟩
    · refine br_f (by decide) ?_
      by_cases zl : m ≤ dn y
      · refine br_t (nI_le zl (by omega)) (nm_r (nI_1 y) (hn _ ⟨m, rfl, m1, fun r hr hrR ha => ?_, m3⟩))
        by_cases e : r = y
        · rw [e]; exact zl
        · exact m2 r (by omega) hrR ha
      · refine br_f (fun e => zl ((nI_leI (by omega) (by omega)).mp e)) (nm_r (nI_1 y) (hn _ ⟨dn y, rfl, by omega, fun r hr hrR ha => ?_, Or.inr ⟨y, hy, za, rfl⟩⟩))
        by_cases e : r = y
        · rw [e] <;> exact Nat.le_refl _
        · have := m2 r (by omega) hrR ha
          omega
    · refine br_t rfl (nm_r (nI_1 y) (hn _ ⟨m, rfl, m1, fun r hr hrR ha => ?_, m3⟩))
      by_cases e : r = y
      · rw [e, za] at ha; exact nomatch ha
      · exact m2 r (by omega) hrR ha
theorem dx_dist {post : St2 → Prop} {s : Nat} {D : Nat → Nat} (B : dc_B R L c) (T : dc_TX R L A c xas xlc) (G : dc_G R L A c s D) (hs : s < R)
    (h : ∀ (rd' : Nat → Int32), (∀ r, r < R → rd' (s * 12 + r) = nI (D r)) → dc_fr s xrd rd' → post (nI R, nI L, nI H, xas, xlc, xpf, xmb, rd', xrp, xpt, xaw, xrc, xcc, xts, xpk)) : wpX_findDistances post (nI R, nI L, nI H, xas, xlc, xpf, xmb, xrd, xrp, xpt, xaw, xrc, xcc, xts, xpk) (nI s) := by
  have B' := B
  obtain ⟨hR2, hR, _, hL, c1, c15⟩ := B'
  refine loop_0 (fun n i rd => wX_findDistances_2 post (nI s) (nI R) (nI L) (nI H) n (nI i) xas xlc xpf xmb rd xrp xpt xaw xrc xcc xts xpk) (fun i rd => (∀ r, r < i → rd (s * 12 + r) = nI (if r = s then 0 else 1000)) ∧ dc_fr s xrd rd) R xrd ⟨fun r z => absurd z (Nat.not_lt_zero r), fun _ _ _ _ => rfl⟩ ?_ ?_
  · intro n rd ⟨d0, f0⟩
    refine br_t (dc_end (by omega)) ?_
    refine loop_0 (fun n t rd => wX_findDistances_41 post (nI s) n (nI (t + 1)) (nI R) (nI L) (nI H) xas xlc xpf xmb rd xrp xpt xaw xrc xcc xts xpk) (fun t rd => ∃ dn, (∀ r, r < R → rd (s * 12 + r) = nI (dn r)) ∧ dc_fr s xrd rd ∧ dc_P R D 1000 dn ∧ dc_Q R D t dn) (R - 1) rd
      ⟨fun r => if r = s then 0 else 1000, d0, f0, dc_P0 G (by omega) (fun r _ => rfl), dc_Q0 (I := 1000) G c1 (fun r _ => rfl)⟩ ?_ ?_
    · intro n rd ⟨dn, e1, e2, e3, e4⟩
      exact br_t (nI_le (by omega) (by omega)) (h rd (fun r hr => by rw [e1 r hr, dc_PQ e3 e4 (by omega) hr, dc_E1000 G hr]) e2)
    · intro n t rd ht ⟨dn, e1, e2, e3, e4⟩ hn
      refine br_f (dc_in (show t + 1 < R by omega) (by omega)) ?_
      refine loop_0 (fun m l rd => wX_findDistances_51 post (wX_findDistances_41 post (nI s) n) (nI s) (nI (t + 1)) m (nI l) (nI R) (nI L) (nI H) xas xlc xpf xmb rd xrp xpt xaw xrc xcc xts xpk) (fun l rd => ∃ dn, (∀ r, r < R → rd (s * 12 + r) = nI (dn r)) ∧ dc_fr s xrd rd ∧ dc_M R L A c D 1000 t l dn) L rd ⟨dn, e1, e2, dc_M0 e3 e4⟩ ?_ ?_
      · intro m rd ⟨dn, f1, f2, f3⟩
        exact br_t (dc_end (by omega)) (nm_r (nI_1 (t + 1)) (hn _ ⟨dn, f1, f2, f3.1, dc_ML G f3⟩))
      · intro m l rd hl ⟨dn, f1, f2, f3⟩ hm
        exact br_f (dc_in hl (by omega)) (dx_short B T G hs hl f1 f3.1 (fun rd' dn' g1 g2 g3 => nm_r (nI_1 l) (hm _ ⟨dn', g1, dc_fr_t f2 g2, dc_Ms c1 f3 g3⟩)))
  · intro n i rd hi ⟨d0, f0⟩ hn
    refine br_f (dc_in hi (by omega)) ?_
    by_cases z : i = s
    · refine br_t (by rw [z]) ⟨dc_v12 s i (by omega) (by omega), nm_e (nm_r (nI_1 i) (hn _ ?_))⟩
      rw [dc_c12 s i (by omega)]
      refine ⟨fun r hr => ?_, dc_fr_u f0 (by omega) _⟩
      by_cases e : r = i
      · rw [e, if_pos z]; exact pk_us
      · rw [pk_un (show s * 12 + r ≠ s * 12 + i by omega)]; exact d0 r (by omega)
    · refine br_f (fun e => z ((nI_eq (by omega) (by omega)).mp e)) ⟨dc_v12 s i (by omega) (by omega), nm_e (nm_r (nI_1 i) (hn _ ?_))⟩
      rw [dc_c12 s i (by omega)]
      refine ⟨fun r hr => ?_, dc_fr_u f0 (by omega) _⟩
      by_cases e : r = i
      · rw [e, if_neg z]; exact pk_us
      · rw [pk_un (show s * 12 + r ≠ s * 12 + i by omega)]; exact d0 r (by omega)
end
