/-! the law, from its last loops to its first row -/
theorem dp_cell {post : Int32 → Prop} {N k : Nat} {xs : Nat → Int32} {x : Int32} (hN : N ≤ 260) (hk : k < 2 ^ 31) (e : x = nI k) (h : ∀ v, post v) : wpL_cell post N xs () x := by
  subst e
  by_cases z : N ≤ k
  · exact br_t (nI_le z hk) (h 0)
  · exact br_f (nI_ge (by omega) (by omega)) ⟨vp_in_nI (by omega) (by omega), h _⟩
theorem dp_lmod {post : Int32 → Prop} (v : Int32) (M : Nat) (h1 : 1 ≤ M) (hM : M ≤ 256) (h : ∀ j, j < M → post (nI j)) : wpL_mod post () v (nI M) := by
  obtain ⟨a, b⟩ := dp_mod v h1 hM
  refine ⟨nI_ne0 (by omega) (by omega), nm_e ?_⟩
  by_cases z : 0 ≤ v - v / nI M * nI M
  · obtain ⟨j, hj, e⟩ := b (Int32.not_lt.mpr z)
    refine br_t z ?_
    rw [e]
    exact h j hj
  · obtain ⟨j, hj, e⟩ := a (Int32.not_le.mp z)
    refine br_f z ?_
    rw [e]
    exact h j hj
section
variable {post : Int32 → Prop} {N : Nat} {xs : Nat → Int32} {J81 : Int32 → Int32 → Int32 → Int32 → (Nat → Int32) → (Nat → Int32) → (Nat → Int32) → (Nat → Int32) → (Nat → Int32) → (Nat → Int32) → (Nat → Int32) → (Nat → Int32) → (Nat → Int32) → (Nat → Int32) → (Nat → Int32) → (Nat → Int32) → Prop} {R L H s i kc ks : Nat} {x5 x13 : Int32} {z z2 : (Nat → Nat) × (Nat → Nat) × (Nat → Nat → Bool)} {f1 f2 f3 : Int32} {a1 a2 a3 a4 a5 a6 a7 a8 a9 a10 a11 a12 : Nat → Int32}
/-- the routers' counts behind the second send -/
theorem dp_548 (hR : R ≤ 12) (J : dp_J R L H s z2 (f1, f2, f3, a1, a2, a3, a4, a5, a6, a7, a8, a9, a10, a11, a12)) (M : dc_ms R x13 (fun y => decide (1 ≤ z.1 y))) (g2 : ∀ y, y < R → z2.1 y ≤ 1) (g3 : ∀ y, y < R → 1 ≤ z2.1 y → 1 ≤ z.1 y)
    (h : J81 (nI (i + 1)) f1 f2 f3 a1 a2 a3 a4 a5 a6 a7 a8 a9 a10 a11 a12) : ∃ n, wL_law_548 post N xs J81 (nI R) (nI L) x5 (nI i) x13 kc ks f1 f2 f3 a1 a2 a3 a4 a5 a6 a7 a8 a9 a10 a11 a12 n 0 := by
  refine loop_0 (fun n y (_ : Unit) => wL_law_548 post N xs J81 (nI R) (nI L) x5 (nI i) x13 kc ks f1 f2 f3 a1 a2 a3 a4 a5 a6 a7 a8 a9 a10 a11 a12 n (nI y)) (fun _ _ => True) R () trivial ?_ ?_
  · intro n _ _
    exact br_t (dc_end (by omega)) (nm_r (nI_1 i) h)
  · intro n y _ hy _ hn
    have nx : wL_law_548 post N xs J81 (nI R) (nI L) x5 (nI i) x13 kc ks f1 f2 f3 a1 a2 a3 a4 a5 a6 a7 a8 a9 a10 a11 a12 n (nI (y + 1)) := hn () trivial
    refine br_f (dc_in hy (by omega)) (dp_received J hy ?_)
    have o := g2 y hy
    by_cases e : z2.1 y = 0
    · rw [e]
      exact br_t rfl (br_f (by decide) (nm_r (nI_1 y) nx))
    · have e1 : z2.1 y = 1 := by omega
      have bit := (dc_ms_bit M hy hR).mpr (decide_eq_true (g3 y hy (by omega)))
      rw [e1]
      refine br_f (by decide) (br_t rfl (br_t rfl (br_f (fun w => ?_) (nm_r (nI_1 y) nx))))
      rw [w] at bit
      exact absurd bit (by decide)
/-- the links' counts behind the second send -/
theorem dp_511 (hL : L ≤ 16) (J : dp_J R L H s z2 (f1, f2, f3, a1, a2, a3, a4, a5, a6, a7, a8, a9, a10, a11, a12)) (g1 : ∀ k, k < L → z2.2.1 k ≤ 1)
    (h : ∃ n, wL_law_548 post N xs J81 (nI R) (nI L) x5 (nI i) x13 kc ks f1 f2 f3 a1 a2 a3 a4 a5 a6 a7 a8 a9 a10 a11 a12 n 0) : ∃ n, wL_law_511 post N xs J81 (nI R) (nI L) x5 (nI i) x13 kc ks f1 f2 f3 a1 a2 a3 a4 a5 a6 a7 a8 a9 a10 a11 a12 n 0 := by
  refine loop_0 (fun n y (_ : Unit) => wL_law_511 post N xs J81 (nI R) (nI L) x5 (nI i) x13 kc ks f1 f2 f3 a1 a2 a3 a4 a5 a6 a7 a8 a9 a10 a11 a12 n (nI y)) (fun _ _ => True) L () trivial ?_ ?_
  · intro n _ _
    exact br_t (dc_end (by omega)) h
  · intro n y _ hy _ hn
    have nx : wL_law_511 post N xs J81 (nI R) (nI L) x5 (nI i) x13 kc ks f1 f2 f3 a1 a2 a3 a4 a5 a6 a7 a8 a9 a10 a11 a12 n (nI (y + 1)) := hn () trivial
    refine br_f (dc_in hy (by omega)) (dp_carried J hy ?_)
    have o := g1 y hy
    by_cases e : z2.2.1 y = 0
    · rw [e]
      exact br_t rfl (nm_r (nI_1 y) nx)
    · have e1 : z2.2.1 y = 1 := by omega
      rw [e1]
      exact br_f (by decide) (br_t rfl (nm_r (nI_1 y) nx))
theorem dp_Jb (hs : s < R) {u : St2} (J : dp_J R L H s z u) (y : Nat) : z.1 y ≤ 2497 := by
  obtain ⟨A, rp, P, F, N, b, ez, e0, c, pf, mb, D, B, _⟩ := J
  have FI := dc_FIn (R := R) (L := L) (rp := rp s) (can := dc_can R A (rp s) (P s) (F s)) hs R
  rw [ez]
  exact dc_FI_b FI B.2.1 B.2.2.2.1 (by have := B.2.1; omega) y
/-- behind the first send: its reached routers as bits, the looks, the second send -/
theorem dp_380 {x10 : Int32} (hR1 : 2 ≤ R) (hR : R ≤ 12) (hL1 : 1 ≤ L) (hL : L ≤ 16) (hs : s < R) (J : dp_J R L H s z (f1, f2, f3, a1, a2, a3, a4, a5, a6, a7, a8, a9, a10, a11, a12)) (h : ∀ f1' f2' f3' a1' a2' a3' a4' a5' a6' a7' a8' a9' a10' a11' a12', dp_I R L H (f1', f2', f3', a1', a2', a3', a4', a5', a6', a7', a8', a9', a10', a11', a12') → J81 (nI (i + 1)) f1' f2' f3' a1' a2' a3' a4' a5' a6' a7' a8' a9' a10' a11' a12') :
    ∃ n, wL_law_380 post N xs J81 (nI R) (nI L) x5 (nI i) x10 (nI s) kc ks f1 f2 f3 a1 a2 a3 a4 a5 a6 a7 a8 a9 a10 a11 a12 n 0 0 := by
  have hb := dp_Jb hs J
  have I := dp_JI J
  refine loop_0 (fun n y v => wL_law_380 post N xs J81 (nI R) (nI L) x5 (nI i) x10 (nI s) kc ks f1 f2 f3 a1 a2 a3 a4 a5 a6 a7 a8 a9 a10 a11 a12 n v (nI y)) (fun y v => dc_ms R v (fun r => decide (r < y ∧ 1 ≤ z.1 r))) R 0 (dc_ms_ext (dc_ms_0 R) (fun i _ => (decide_eq_false (fun w => absurd w.1 (Nat.not_lt_zero i))).symm)) ?_ ?_
  · intro n v hv
    have hv' : dc_ms R v (fun y => decide (1 ≤ z.1 y)) := by
      refine dc_ms_ext hv (fun r hr => ?_)
      by_cases q : 1 ≤ z.1 r
      · rw [decide_eq_true (show r < R ∧ 1 ≤ z.1 r from ⟨hr, q⟩), decide_eq_true q]
      · rw [decide_eq_false (show ¬ (r < R ∧ 1 ≤ z.1 r) from fun w => q w.2), decide_eq_false q]
    refine br_t (dc_end (by omega)) (dp_lmod x10 R (by omega) (by omega) (fun rb hrb => dp_lmod x10 L (by omega) (by omega) (fun kb hkb => ?_)))
    refine dp_distance I hs hrb (fun _ => dp_rpfLink I hs hrb (fun _ => dp_forwarder I hs hkb (fun _ => dp_pruneLeft I hs hkb (fun _ => dp_linkState I hkb (fun _ => dp_routerState I hrb (fun _ => dp_carried J hkb (dp_received J hrb ?_)))))))
    refine dp_second J hs (fun n u' z2 hn J2 g1 g2 g3 => ?_)
    obtain ⟨f1', f2', f3', a1', a2', a3', a4', a5', a6', a7', a8', a9', a10', a11', a12'⟩ := u'
    exact dp_511 hL J2 g1 (dp_548 hR J2 hv' g2 g3 (h _ _ _ _ _ _ _ _ _ _ _ _ _ _ _ (dp_JI J2)))
  · intro n y v hy hv hn
    refine br_f (dc_in hy (by omega)) (dp_received J hy ?_)
    have o := hb y
    by_cases q : z.1 y < 1
    · refine br_t (nI_lt (b := 1) q (by decide)) (nm_r (nI_1 y) (hn _ (dc_ms_ext hv (fun j hj => ?_))))
      by_cases e : j < y ∧ 1 ≤ z.1 j
      · rw [decide_eq_true e, decide_eq_true (show j < y + 1 ∧ 1 ≤ z.1 j from ⟨by omega, e.2⟩)]
      · have g : ¬ (j < y + 1 ∧ 1 ≤ z.1 j) := by
          intro w
          by_cases t : j = y
          · rw [t] at w; omega
          · exact e ⟨by omega, w.2⟩
        rw [decide_eq_false e, decide_eq_false g]
    · refine br_f (nI_nlt (b := 1) (by omega) (by omega)) (nm_e (nm_r (nI_1 y) (hn _ (dc_ms_ext (dc_ms_or hv hy hR) (fun j hj => ?_)))))
      show (if j = y then true else decide (j < y ∧ 1 ≤ z.1 j)) = decide (j < y + 1 ∧ 1 ≤ z.1 j)
      by_cases t : j = y
      · rw [if_pos t, decide_eq_true (show j < y + 1 ∧ 1 ≤ z.1 j by rw [t]; omega)]
      · rw [if_neg t]
        by_cases e : j < y ∧ 1 ≤ z.1 j
        · rw [decide_eq_true e, decide_eq_true (show j < y + 1 ∧ 1 ≤ z.1 j from ⟨by omega, e.2⟩)]
        · rw [decide_eq_false e, decide_eq_false (show ¬ (j < y + 1 ∧ 1 ≤ z.1 j) from fun w => e ⟨by omega, w.2⟩)]
end
