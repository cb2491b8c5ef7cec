/-! one step of the law, its loop, the whole -/
section
variable {post : Int32 → Prop} {N : Nat} {xs : Nat → Int32} {J81 : Int32 → Int32 → Int32 → Int32 → (Nat → Int32) → (Nat → Int32) → (Nat → Int32) → (Nat → Int32) → (Nat → Int32) → (Nat → Int32) → (Nat → Int32) → (Nat → Int32) → (Nat → Int32) → (Nat → Int32) → (Nat → Int32) → (Nat → Int32) → Prop} {R L H i kc ks : Nat} {x5 : Int32} {f1 f2 f3 : Int32} {a1 a2 a3 a4 a5 a6 a7 a8 a9 a10 a11 a12 : Nat → Int32}
theorem dp_119 {p c0 : Nat} (hN : N ≤ 260) (hR1 : 2 ≤ R) (hR : R ≤ 12) (hL1 : 1 ≤ L) (hL : L ≤ 16) (hp : p ≤ 1000) (hc : c0 < 10) (I : dp_I R L H (f1, f2, f3, a1, a2, a3, a4, a5, a6, a7, a8, a9, a10, a11, a12)) (h : ∀ f1' f2' f3' a1' a2' a3' a4' a5' a6' a7' a8' a9' a10' a11' a12', dp_I R L H (f1', f2', f3', a1', a2', a3', a4', a5', a6', a7', a8', a9', a10', a11', a12') → J81 (nI (i + 1)) f1' f2' f3' a1' a2' a3' a4' a5' a6' a7' a8' a9' a10' a11' a12') :
    wL_law_119 post N xs J81 (nI R) (nI L) x5 (nI i) (nI p) (nI c0) kc ks f1 f2 f3 a1 a2 a3 a4 a5 a6 a7 a8 a9 a10 a11 a12 := by
  have h' : ∀ u', dp_I R L H u' → J81 (nI (i + 1)) u'.1 u'.2.1 u'.2.2.1 u'.2.2.2.1 u'.2.2.2.2.1 u'.2.2.2.2.2.1 u'.2.2.2.2.2.2.1 u'.2.2.2.2.2.2.2.1 u'.2.2.2.2.2.2.2.2.1 u'.2.2.2.2.2.2.2.2.2.1 u'.2.2.2.2.2.2.2.2.2.2.1 u'.2.2.2.2.2.2.2.2.2.2.2.1 u'.2.2.2.2.2.2.2.2.2.2.2.2.1 u'.2.2.2.2.2.2.2.2.2.2.2.2.2.1 u'.2.2.2.2.2.2.2.2.2.2.2.2.2.2 := fun u' I' => h _ _ _ _ _ _ _ _ _ _ _ _ _ _ _ I'
  refine dp_cell hN (by omega) (nI_1 p) (fun a => dp_cell hN (by omega) (nI_add p 2) (fun b => ?_))
  by_cases z3 : 3 < c0
  · refine br_t (nI_lt (a := 3) z3 (by omega)) ?_
    by_cases z4 : c0 = 4
    · refine br_t (by rw [z4] <;> rfl) (dp_lmod a L (by omega) (by omega) (fun j hj => dp_lmod b R (by omega) (by omega) (fun q hq => dp_detach I hj hq (fun r u' I' => ?_))))
      exact nm_r (nI_1 i) (h' u' I')
    · refine br_f (fun w => z4 ((nI_eq (b := 4) (by omega) (by decide)).mp w)) ?_
      by_cases z5 : c0 = 5
      · refine br_t (by rw [z5] <;> rfl) (dp_lmod a L (by omega) (by omega) (fun j hj => dp_lmod b 15 (by omega) (by omega) (fun q hq => ?_)))
        rw [show 1 + nI q = nI (1 + q) from nI_add 1 q]
        refine dp_setCost I hj (by omega) (by omega) (fun r u' I' => ?_)
        exact nm_r (nI_1 i) (h' u' I')
      · refine br_f (fun w => z5 ((nI_eq (b := 5) (by omega) (by decide)).mp w)) ?_
        by_cases z6 : c0 = 6
        · refine br_t (by rw [z6] <;> rfl) (dp_lmod a R (by omega) (by omega) (fun j hj => dp_lmod b 256 (by omega) (by omega) (fun q hq => dp_setPreference I hj (by omega) (fun r u' I' => ?_))))
          exact nm_r (nI_1 i) (h' u' I')
        · refine br_f (fun w => z6 ((nI_eq (b := 6) (by omega) (by decide)).mp w)) ?_
          by_cases z7 : c0 = 7
          · refine br_t (by rw [z7] <;> rfl) (dp_lmod b 2 (by omega) (by omega) (fun t ht => br_c (fun _ => ?_) (fun _ => ?_)))
            · exact dp_lmod a R (by omega) (by omega) (fun j hj => dp_join I hj (fun r u' I' => nm_r (nI_1 i) (h' u' I')))
            · exact dp_lmod a R (by omega) (by omega) (fun j hj => dp_leave I hj (fun r u' I' => nm_r (nI_1 i) (h' u' I')))
          · refine br_f (fun w => z7 ((nI_eq (b := 7) (by omega) (by decide)).mp w)) ?_
            by_cases z8 : c0 = 8
            · refine br_t (by rw [z8] <;> rfl) (dp_lmod b 2 (by omega) (by omega) (fun t ht => br_c (fun _ => ?_) (fun _ => ?_)))
              · exact dp_lmod a R (by omega) (by omega) (fun j hj => dp_send I hj (fun n u' z hn J => nm_r (nI_1 i) (h' u' (dp_JI J))))
              · refine dp_lmod b 20 (by omega) (by omega) (fun q hq => ?_)
                rw [show 1 + nI q = nI (1 + q) from nI_add 1 q]
                exact dp_tick I (by omega) (by omega) (fun u' I' => nm_r (nI_1 i) (h' u' I'))
            · refine br_f (fun w => z8 ((nI_eq (b := 8) (by omega) (by decide)).mp w)) ?_
              refine dp_lmod a R (by omega) (by omega) (fun s hs => dp_send I hs (fun n u' z hn J => ?_))
              obtain ⟨f1', f2', f3', a1', a2', a3', a4', a5', a6', a7', a8', a9', a10', a11', a12'⟩ := u'
              exact br_t (nI_pos' (by omega)) (dp_380 hR1 hR hL1 hL hs J h)
  · refine br_f (nI_nlt (a := 3) (by omega) (by decide)) (dp_lmod a L (by omega) (by omega) (fun j hj => dp_lmod b R (by omega) (by omega) (fun q hq => dp_attach I hj hq (fun r u' I' => ?_))))
    exact nm_r (nI_1 i) (h' u' I')
end
theorem dp_81 {N : Nat} {xs : Nat → Int32} {R L H n kc ks : Nat} (hN : N ≤ 260) (hR1 : 2 ≤ R) (hR : R ≤ 12) (hL1 : 1 ≤ L) (hL : L ≤ 16) (hn : n ≤ 100) {f1 f2 f3 : Int32} {a1 a2 a3 a4 a5 a6 a7 a8 a9 a10 a11 a12 : Nat → Int32} (I : dp_I R L H (f1, f2, f3, a1, a2, a3, a4, a5, a6, a7, a8, a9, a10, a11, a12)) :
    ∃ m, wL_law_81 (fun r => r = 1) N xs (nI R) (nI L) (nI n) kc ks m 0 f1 f2 f3 a1 a2 a3 a4 a5 a6 a7 a8 a9 a10 a11 a12 := by
  refine loop_0 (fun m i (u : St2) => wL_law_81 (fun r => r = 1) N xs (nI R) (nI L) (nI n) kc ks m (nI i) u.1 u.2.1 u.2.2.1 u.2.2.2.1 u.2.2.2.2.1 u.2.2.2.2.2.1 u.2.2.2.2.2.2.1 u.2.2.2.2.2.2.2.1 u.2.2.2.2.2.2.2.2.1 u.2.2.2.2.2.2.2.2.2.1 u.2.2.2.2.2.2.2.2.2.2.1 u.2.2.2.2.2.2.2.2.2.2.2.1 u.2.2.2.2.2.2.2.2.2.2.2.2.1 u.2.2.2.2.2.2.2.2.2.2.2.2.2.1 u.2.2.2.2.2.2.2.2.2.2.2.2.2.2) (fun _ u => dp_I R L H u) (n + 1) (f1, f2, f3, a1, a2, a3, a4, a5, a6, a7, a8, a9, a10, a11, a12) I ?_ ?_
  · intro m u _
    exact br_t (nI_lt (by omega) (by omega)) rfl
  · intro m i u hi I hm
    obtain ⟨f1, f2, f3, a1, a2, a3, a4, a5, a6, a7, a8, a9, a10, a11, a12⟩ := u
    have nx : ∀ f1' f2' f3' a1' a2' a3' a4' a5' a6' a7' a8' a9' a10' a11' a12', dp_I R L H (f1', f2', f3', a1', a2', a3', a4', a5', a6', a7', a8', a9', a10', a11', a12') → wL_law_81 (fun r => r = 1) N xs (nI R) (nI L) (nI n) kc ks m (nI (i + 1)) f1' f2' f3' a1' a2' a3' a4' a5' a6' a7' a8' a9' a10' a11' a12' := fun f1' f2' f3' a1' a2' a3' a4' a5' a6' a7' a8' a9' a10' a11' a12' I' => hm (f1', f2', f3', a1', a2', a3', a4', a5', a6', a7', a8', a9', a10', a11', a12') I'
    have e3 : (3 : Int32) + 3 * nI i = nI (3 + 3 * i) := by
      rw [show (3 : Int32) = nI 3 from rfl, pk_mul, nI_add]
    refine br_f (nI_nlt (by omega) (by omega)) (nm_r e3 ?_)
    by_cases e : i = n
    · exact br_t (by rw [e]) (dp_119 (c0 := 9) hN hR1 hR hL1 hL (by omega) (by omega) I nx)
    · exact br_f (fun w => e ((nI_eq (by omega) (by omega)).mp w)) (dp_cell hN (by omega) rfl (fun v => dp_lmod v 10 (by omega) (by omega) (fun c0 hc => dp_119 hN hR1 hR hL1 hL (by omega) hc I nx)))
theorem dp_init {post : St2 → Prop} {R L H : Nat} (hR1 : 2 ≤ R) (hR : R ≤ 12) (hL1 : 1 ≤ L) (hL : L ≤ 16) (hH1 : 1 ≤ H) (hH : H ≤ 16) (h : ∀ u, dp_I R L H u → post u) : wpX_init post 12 788 (0, 0, 0) (nI R) (nI L) (nI H) := by
  have B : dc_B R L (fun _ => 1) := ⟨hR1, hR, hL1, hL, fun _ _ => Nat.le_refl 1, fun _ _ => (show (1 : Nat) ≤ 15 by omega)⟩
  have cl : ∀ (p : Int32 → Prop) (v lo hi : Nat), lo ≤ v → v ≤ hi → hi ≤ 16 → p (nI v) → wpX_clamp p () (nI v) (nI lo) (nI hi) := fun p v lo hi a b d q => br_t (nI_le a (by omega)) (br_t (nI_le b (by omega)) q)
  refine ⟨by omega, by omega, by omega, by omega, by omega, by omega, by omega, by omega, by omega, by omega, by omega, by omega, by omega, by omega, by omega, by omega, by omega, by omega, by omega, by omega, by omega, by omega, by omega, by omega, ?_⟩
  refine cl _ R 2 12 hR1 hR (by omega) (cl _ L 1 16 hL1 hL (by omega) (cl _ H 1 16 hH1 hH (by omega) ?_))
  refine loop_0 (fun n i lc => wX_init_140 post 12 788 12 788 (nI R) (nI L) (nI H) n (nI i) (fun _ => 0) lc (fun _ => 0) (fun _ => 0) (fun _ => 0) (fun _ => 0) (fun _ => 0) (fun _ => 0) (fun _ => 0) (fun _ => 0) (fun _ => 0) (fun _ => 0)) (fun i lc => ∀ j, j < i → lc j = 1) L (fun _ => 0) (fun j z => absurd z (Nat.not_lt_zero j)) ?_ ?_
  · intro n lc e
    have T : dc_TX R L (fun _ _ => false) (fun _ => 1) (fun _ => 0) lc := ⟨fun k hk => e k hk, fun k _ => dc_ms_0 R⟩
    exact br_t (dc_end (by omega)) (dx_routes B T (fun rd rp D q1 q2 => dx_reset B (fun pt aw rc cc ts e1 e2 e3 e4 => h _ ⟨fun _ _ => false, fun s r => rp (s * 12 + r), fun _ _ => 0, fun _ _ => -1, fun _ => 0, fun _ => 0, fun _ => 1, fun _ => 0, fun _ => 0, D, B, hH1, hH, q1, dc_fw0 R L, dc_pm0 R L, ⟨rfl, rfl, rfl, T, fun _ _ => rfl, fun _ _ => rfl, q2, fun _ _ _ _ => rfl, e1, e2, e3, e4⟩⟩)))
  · intro n i lc hi e hn
    exact br_f (dc_in hi (by omega)) ⟨vp_in_nI (by omega) (by omega), nm_e (nm_r (nI_1 i) (hn _ (by rw [dc_cl i (by omega)]; exact dc_put e)))⟩
