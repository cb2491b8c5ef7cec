/-! the reference's walks over the topology -/
section
variable {R L H : Nat} {A : Nat → Nat → Bool} {c : Nat → Nat} {yco yat ypf ymb ypr yfw yrc yca ytr yd yro yfr ybe yne ycu : Nat → Int32}
theorem dy_usable {post : Int32 → Prop} {k : Nat} (B : dc_B R L c) (T : dc_TY R L A c yco yat) (hk : k < L) (h1 : 2 ≤ dc_cn (A k) R → post 1) (h0 : dc_cn (A k) R < 2 → post 0) : wpY_usable post (nI R, nI L, nI H, yco, yat, ypf, ymb, ypr, yfw, yrc, yca, ytr, yd, yro, yfr, ybe, yne, ycu) (nI k) := by
  obtain ⟨_, hR, _, hL, _, _⟩ := B
  refine loop_0 (fun n i s => wY_usable_4 post (nI k) (nI R) (nI L) (nI H) yco yat ypf ymb ypr yfw yrc yca ytr yd yro yfr ybe yne ycu n s (nI i)) (fun i s => s = nI (dc_cn (A k) i)) R 0 rfl ?_ ?_
  · intro n s hs
    subst hs
    have hc := dc_cn_le (A k) R
    refine br_t (dc_end (by omega)) ?_
    by_cases z : dc_cn (A k) R < 2
    · exact br_t (nI_lt (b := 2) z (by decide)) (h0 z)
    · exact br_f (nI_nlt (b := 2) (by omega) (by omega)) (h1 (by omega))
  · intro n i s hi hs hn
    subst hs
    refine br_f (dc_in hi (by omega)) ⟨dc_v12 k i (by omega) (by omega), ?_⟩
    rw [dc_c12 k i (by omega)]
    by_cases z : A k i = true
    · refine br_f (fun e => ?_) (nm_r (nI_1 _) (nm_r (nI_1 i) (hn _ ?_)))
      · rw [(T.2 k i hk hi).mp e] at z; exact nomatch z
      · simp only [dc_cn, if_pos z]
    · refine br_t ((T.2 k i hk hi).mpr (dc_bt z)) (nm_r (nI_1 i) (hn _ ?_))
      simp only [dc_cn, if_neg z, Nat.add_zero]
theorem dy_relax37 {post : SY → Prop} {J2 : Int32 → (Nat → Int32) → (Nat → Int32) → (Nat → Int32) → (Nat → Int32) → (Nat → Int32) → (Nat → Int32) → (Nat → Int32) → (Nat → Int32) → (Nat → Int32) → (Nat → Int32) → (Nat → Int32) → (Nat → Int32) → (Nat → Int32) → (Nat → Int32) → (Nat → Int32) → Prop}
    {k x s : Nat} {D dn : Nat → Nat} (B : dc_B R L c) (T : dc_TY R L A c yco yat) (G : dc_G R L A c s D) (hk : k < L) (hx : x < R) (ax : A k x = true) (rep : ∀ r, r < R → yd r = nI (dn r)) (P : dc_P R D 1000000 dn) (fx : dn x < 1000000)
    (h : ∀ (d' : Nat → Int32) (dn' : Nat → Nat), (∀ r, r < R → d' r = nI (dn' r)) → (∀ r, r < R → dc_E D 1000000 r ≤ dn' r ∧ dn' r ≤ dn r) → (∀ r, r < R → r ≠ x → A k r = true → dn' r ≤ dn x + c k) → J2 (nI (x + 1)) yco yat ypf ymb ypr yfw yrc yca ytr d' yro yfr ybe yne ycu) :
    ∃ n, wY_relax_37 post J2 (nI k) (nI x) (nI R) (nI L) (nI H) n 0 yco yat ypf ymb ypr yfw yrc yca ytr yd yro yfr ybe yne ycu := by
  obtain ⟨_, hR, _, hL, c1, c15⟩ := B
  have hc1 := c1 k hk
  have hc15 := c15 k hk
  refine loop_0 (fun n i d => wY_relax_37 post J2 (nI k) (nI x) (nI R) (nI L) (nI H) n (nI i) yco yat ypf ymb ypr yfw yrc yca ytr d yro yfr ybe yne ycu)
    (fun i d => ∃ dn', (∀ r, r < R → d r = nI (dn' r)) ∧ (∀ r, r < R → dc_E D 1000000 r ≤ dn' r ∧ dn' r ≤ dn r) ∧ dn' x = dn x ∧ (∀ r, r < i → r < R → r ≠ x → A k r = true → dn' r ≤ dn x + c k))
    R yd ⟨dn, rep, fun r hr => ⟨(P r hr).1, Nat.le_refl _⟩, rfl, fun r z => absurd z (Nat.not_lt_zero r)⟩ ?_ ?_
  · intro n d ⟨dn', r1, r2, _, r4⟩
    exact br_t (dc_end (by omega)) (nm_r (nI_1 x) (h d dn' r1 r2 (fun r hr => r4 r hr hr)))
  · intro n y d hy ⟨dn', r1, r2, r3, r4⟩ hn
    refine br_f (dc_in hy (by omega)) ?_
    by_cases zx : y = x
    · refine br_t (by rw [zx]) (nm_r (nI_1 y) (hn _ ⟨dn', r1, r2, r3, fun r hr hrR hrx ha => ?_⟩))
      by_cases e : r = y
      · exact absurd (e.trans zx) hrx
      · exact r4 r (by omega) hrR hrx ha
    · refine br_f (fun e => zx ((nI_eq (by omega) (by omega)).mp e)) ⟨dc_v12 k y (by omega) (by omega), ?_⟩
      rw [dc_c12 k y (by omega)]
      by_cases za : A k y = true
      · refine br_f (fun e => ?_) ⟨vp_in_nI (by omega) (by omega), vp_in_nI (by omega) (by omega), vp_in_nI (by omega) (by omega), ?_⟩
        · rw [(T.2 k y hk hy).mp e] at za; exact nomatch za
        have Px := r2 x hx
        have Py := r2 y hy
        have PPy := P y hy
        rw [dc_cl y (by omega), dc_cl x (by omega), dc_cl k (by omega), r1 y hy, r1 x hx, T.1 k hk, nI_add, r3]
        by_cases zl : dn' y ≤ dn x + c k
        · refine br_t (nI_le zl (by omega)) (nm_r (nI_1 y) (hn _ ⟨dn', r1, r2, r3, fun r hr hrR hrx ha => ?_⟩))
          by_cases e : r = y
          · rw [e]; exact zl
          · exact r4 r (by omega) hrR hrx ha
        · refine br_f (fun e => zl ((nI_leI (by omega) (by omega)).mp e)) ⟨vp_in_nI (by omega) (by omega), vp_in_nI (by omega) (by omega), vp_in_nI (by omega) (by omega), nm_e (nm_r (nI_1 y) (hn _ ⟨dc_pu dn' y (dn x + c k), fun r hr => ?_, fun r hr => ?_, ?_, fun r hr hrR hrx ha => ?_⟩))⟩
          · by_cases e : r = y
            · rw [e, dc_pu_s]; exact pk_us
            · rw [dc_pu_n _ _ e, ← r1 r hr]; exact pk_un e
          · by_cases e : r = y
            · rw [e, dc_pu_s]
              refine ⟨?_, by omega⟩
              have zD : D x < 1000 := by
                by_cases q : D x < 1000
                · exact q
                · have := Px.1; rw [dc_E_ge q] at this; omega
              have g3 := G.2.2.2 k x y ⟨hk, hx, hy, fun e => zx e.symm, ax, za⟩ zD
              have g4 := dc_G165 G c1 c15 hR hx zD
              have g5 := Px.1
              rw [dc_E_lt zD] at g5
              rw [dc_E_lt (r := y) (show D y < 1000 by omega)]
              omega
            · rw [dc_pu_n _ _ e]; exact r2 r hr
          · rw [dc_pu_n _ _ (fun e => zx e.symm)]; exact r3
          · by_cases e : r = y
            · rw [e, dc_pu_s] <;> exact Nat.le_refl _
            · rw [dc_pu_n _ _ e]; exact r4 r (by omega) hrR hrx ha
      · refine br_t ((T.2 k y hk hy).mpr (dc_bt za)) (nm_r (nI_1 y) (hn _ ⟨dn', r1, r2, r3, fun r hr hrR hrx ha => ?_⟩))
        by_cases e : r = y
        · rw [e] at ha; exact absurd ha za
        · exact r4 r (by omega) hrR hrx ha
theorem dy_relax {post : SY → Prop} {k s : Nat} {D dn : Nat → Nat} (B : dc_B R L c) (T : dc_TY R L A c yco yat) (G : dc_G R L A c s D) (hk : k < L) (rep : ∀ r, r < R → yd r = nI (dn r)) (P : dc_P R D 1000000 dn)
    (h : ∀ (d' : Nat → Int32) (dn' : Nat → Nat), (∀ r, r < R → d' r = nI (dn' r)) → dc_S R L A c D 1000000 k dn dn' → post (nI R, nI L, nI H, yco, yat, ypf, ymb, ypr, yfw, yrc, yca, ytr, d', yro, yfr, ybe, yne, ycu)) : wpY_relax post (nI R, nI L, nI H, yco, yat, ypf, ymb, ypr, yfw, yrc, yca, ytr, yd, yro, yfr, ybe, yne, ycu) (nI k) := by
  have B' := B
  obtain ⟨_, hR, _, hL, c1, c15⟩ := B'
  refine loop_0 (fun n i d => wY_relax_2 post (nI k) (nI R) (nI L) (nI H) n (nI i) yco yat ypf ymb ypr yfw yrc yca ytr d yro yfr ybe yne ycu)
    (fun i d => ∃ dn', (∀ r, r < R → d r = nI (dn' r)) ∧ (∀ r, r < R → dc_E D 1000000 r ≤ dn' r ∧ dn' r ≤ dn r) ∧ (∀ q r, q < i → dc_Ed R L A k q r → D q < 1000 → dn q = D q → dn' r ≤ D q + c k))
    R yd ⟨dn, rep, fun r hr => ⟨(P r hr).1, Nat.le_refl _⟩, fun q r z => absurd z (Nat.not_lt_zero q)⟩ ?_ ?_
  · intro n d ⟨dn', r1, r2, r3⟩
    exact br_t (dc_end (by omega)) (h d dn' r1 ⟨r2, fun q r e => r3 q r e.2.1 e⟩)
  · intro n x d hx ⟨dn', r1, r2, r3⟩ hn
    refine br_f (dc_in hx (by omega)) ⟨dc_v12 k x (by omega) (by omega), ?_⟩
    rw [dc_c12 k x (by omega)]
    by_cases za : A k x = true
    · refine br_f (fun e => ?_) ⟨vp_in_nI (by omega) (by omega), ?_⟩
      · rw [(T.2 k x hk hx).mp e] at za; exact nomatch za
      have Px := r2 x hx
      have PPx := P x hx
      rw [dc_cl x (by omega), r1 x hx]
      by_cases zl : 1000000 ≤ dn' x
      · refine br_t (nI_le (a := 1000000) zl (by omega)) (nm_r (nI_1 x) (hn _ ⟨dn', r1, r2, fun q r hq e hD hd => ?_⟩))
        by_cases z : q = x
        · subst z; omega
        · exact r3 q r (by omega) e hD hd
      · refine br_f (nI_ge (b := 1000000) (by omega) (by decide)) (dy_relax37 B T G hk hx za r1 (fun r hr => ⟨(r2 r hr).1, Nat.le_trans (r2 r hr).2 (P r hr).2⟩) (by omega) (fun d'' dn'' s1 s2 s3 => hn _ ⟨dn'', s1, fun r hr => ⟨(s2 r hr).1, Nat.le_trans (s2 r hr).2 (r2 r hr).2⟩, fun q r hq e hD hd => ?_⟩))
        by_cases z : q = x
        · subst z
          have a := s3 r e.2.2.1 (fun w => e.2.2.2.1 w.symm) e.2.2.2.2.2
          have b := (r2 q hx).1
          rw [dc_E_lt hD] at b
          omega
        · exact Nat.le_trans (s2 r e.2.2.1).2 (r3 q r (by omega) e hD hd)
    · refine br_t ((T.2 k x hk hx).mpr (dc_bt za)) (nm_r (nI_1 x) (hn _ ⟨dn', r1, r2, fun q r hq e hD hd => ?_⟩))
      by_cases z : q = x
      · subst z; exact absurd e.2.2.2.2.1 za
      · exact r3 q r (by omega) e hD hd
theorem dy_comp {post : SY → Prop} {s : Nat} {D : Nat → Nat} (B : dc_B R L c) (T : dc_TY R L A c yco yat) (G : dc_G R L A c s D) (hs : s < R)
    (h : ∀ (d' : Nat → Int32), (∀ r, r < R → d' r = nI (dc_E D 1000000 r)) → post (nI R, nI L, nI H, yco, yat, ypf, ymb, ypr, yfw, yrc, yca, ytr, d', yro, yfr, ybe, yne, ycu)) : wpY_computeDist post (nI R, nI L, nI H, yco, yat, ypf, ymb, ypr, yfw, yrc, yca, ytr, yd, yro, yfr, ybe, yne, ycu) (nI s) := by
  have B' := B
  obtain ⟨_, hR, _, hL, c1, c15⟩ := B'
  refine loop_0 (fun n i d => wY_computeDist_2 post (nI s) (nI R) (nI L) (nI H) n (nI i) yco yat ypf ymb ypr yfw yrc yca ytr d yro yfr ybe yne ycu) (fun i d => ∀ r, r < i → d r = nI 1000000) 12 yd (fun r z => absurd z (Nat.not_lt_zero r)) ?_ ?_
  · intro n d hd
    refine br_t (dc_end (n := 12) (by omega)) ⟨vp_in_nI (by omega) (by omega), nm_e ?_⟩
    rw [dc_cl s (by omega)]
    have d0 : ∀ r, r < R → upd d s 0 r = nI (if r = s then 0 else 1000000) := by
      intro r hr
      by_cases z : r = s
      · rw [z, if_pos rfl]; exact pk_us
      · rw [if_neg z, ← hd r (by omega)]; exact pk_un z
    refine loop_0 (fun n t d => wY_computeDist_31 post n (nI t) (nI R) (nI L) (nI H) yco yat ypf ymb ypr yfw yrc yca ytr d yro yfr ybe yne ycu) (fun t d => ∃ dn, (∀ r, r < R → d r = nI (dn r)) ∧ dc_P R D 1000000 dn ∧ dc_Q R D t dn) R _ ⟨_, d0, dc_P0 G (by omega) (fun r _ => rfl), dc_Q0 G c1 (fun r _ => rfl)⟩ ?_ ?_
    · intro n d ⟨dn, e1, e2, e3⟩
      exact br_t (dc_end (by omega)) (h d (fun r hr => by rw [e1 r hr, dc_PQ e2 e3 (by omega) hr]))
    · intro n t d ht ⟨dn, e1, e2, e3⟩ hn
      refine br_f (dc_in ht (by omega)) ?_
      refine loop_0 (fun m l d => wY_computeDist_41 post (wY_computeDist_31 post n) (nI t) m (nI l) (nI R) (nI L) (nI H) yco yat ypf ymb ypr yfw yrc yca ytr d yro yfr ybe yne ycu) (fun l d => ∃ dn, (∀ r, r < R → d r = nI (dn r)) ∧ dc_M R L A c D 1000000 t l dn) L d ⟨dn, e1, dc_M0 e2 e3⟩ ?_ ?_
      · intro m d ⟨dn, f1, f2⟩
        exact br_t (dc_end (by omega)) (nm_r (nI_1 t) (hn _ ⟨dn, f1, f2.1, dc_ML G f2⟩))
      · intro m l d hl ⟨dn, f1, f2⟩ hm
        refine br_f (dc_in hl (by omega)) (dy_usable B T hl (fun _ => ?_) (fun z => ?_))
        · refine br_f (by decide) (dy_relax B T G hl f1 f2.1 (fun d' dn' g1 g2 => nm_r (nI_1 l) (hm _ ⟨dn', g1, dc_Ms c1 f2 g2⟩)))
        · refine br_t rfl (nm_r (nI_1 l) (hm _ ⟨dn, f1, dc_Ms c1 f2 ⟨fun r hr => ⟨(f2.1 r hr).1, Nat.le_refl _⟩, fun q r e _ _ => ?_⟩⟩))
          have := dc_cn_two (p := A l) e.2.1 e.2.2.1 e.2.2.2.1 e.2.2.2.2.1 e.2.2.2.2.2
          omega
  · intro n i d hi hd hn
    refine br_f (dc_in (n := 12) hi (by omega)) ⟨vp_in_nI (by omega) (by omega), nm_e (nm_r (nI_1 i) (hn _ ?_))⟩
    intro r hr
    rw [dc_cl i (by omega)]
    by_cases z : r = i
    · rw [z]; exact pk_us
    · rw [← hd r (by omega)]; exact pk_un z
end
