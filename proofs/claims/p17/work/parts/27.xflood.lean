/-! the component's flood -/
/-- the record as the component has it -/
def dc_ZX (R L : Nat) (xrc xcc xts : Nat → Int32) (z : (Nat → Nat) × (Nat → Nat) × (Nat → Nat → Bool)) : Prop :=
  (∀ y, y < R → xrc y = nI (z.1 y)) ∧ (∀ k, k < L → xcc k = nI (z.2.1 k)) ∧ (∀ k, k < L → dc_ms R (xts k) (z.2.2 k))
section
variable {R L H : Nat} {A : Nat → Nat → Bool} {c : Nat → Nat} {xas xlc xpf xmb xrd xrp xpt xaw xrc xcc xts xpk : Nat → Int32}
theorem dx_reached {post : Int32 → Prop} {rc : Nat → Nat} (B : dc_B R L c) (rc1 : ∀ y, y < R → xrc y = nI (rc y)) (hb : ∀ y, rc y < 2 ^ 31) (h : ∀ (v : Int32), dc_ms R v (fun y => decide (1 ≤ rc y)) → post v) : wpX_reachedSet post (nI R, nI L, nI H, xas, xlc, xpf, xmb, xrd, xrp, xpt, xaw, xrc, xcc, xts, xpk) := by
  obtain ⟨_, hR, _, hL, c1, c15⟩ := B
  refine loop_0 (fun n i v => wX_reachedSet_4 post (nI R) (nI L) (nI H) xas xlc xpf xmb xrd xrp xpt xaw xrc xcc xts xpk n v (nI i)) (fun i v => dc_ms R v (fun y => decide (y < i ∧ 1 ≤ rc y))) R 0 (dc_ms_ext (dc_ms_0 R) (fun i _ => (decide_eq_false (fun w => absurd w.1 (Nat.not_lt_zero i))).symm)) ?_ ?_
  · intro n v hv
    refine br_t (dc_end (by omega)) (h v (dc_ms_ext hv (fun i hi => ?_)))
    by_cases z : 1 ≤ rc i
    · rw [decide_eq_true (show i < R ∧ 1 ≤ rc i from ⟨hi, z⟩), decide_eq_true z]
    · rw [decide_eq_false (show ¬ (i < R ∧ 1 ≤ rc i) from fun w => z w.2), decide_eq_false z]
  · intro n i v hi hv hn
    refine br_f (dc_in hi (by omega)) ⟨vp_in_nI (by omega) (by omega), ?_⟩
    rw [dc_cl i (by omega), rc1 i hi]
    by_cases z : rc i < 1
    · refine br_t (nI_lt (b := 1) z (by decide)) (nm_r (nI_1 i) (hn _ (dc_ms_ext hv (fun j hj => ?_))))
      by_cases e : j < i ∧ 1 ≤ rc j
      · rw [decide_eq_true e, decide_eq_true (show j < i + 1 ∧ 1 ≤ rc j from ⟨by omega, e.2⟩)]
      · have g : ¬ (j < i + 1 ∧ 1 ≤ rc j) := by
          intro w
          by_cases q : j = i
          · rw [q] at w; omega
          · exact e ⟨by omega, w.2⟩
        rw [decide_eq_false e, decide_eq_false g]
    · refine br_f (nI_nlt (b := 1) (by omega) (hb i)) (nm_e (nm_r (nI_1 i) (hn _ (dc_ms_ext (dc_ms_or hv hi hR) (fun j hj => ?_)))))
      show (if j = i then true else decide (j < i ∧ 1 ≤ rc j)) = decide (j < i + 1 ∧ 1 ≤ rc j)
      by_cases q : j = i
      · rw [if_pos q, decide_eq_true (show j < i + 1 ∧ 1 ≤ rc j by rw [q]; omega)]
      · rw [if_neg q]
        by_cases e : j < i ∧ 1 ≤ rc j
        · rw [decide_eq_true e, decide_eq_true (show j < i + 1 ∧ 1 ≤ rc j from ⟨by omega, e.2⟩)]
        · rw [decide_eq_false e, decide_eq_false (show ¬ (j < i + 1 ∧ 1 ≤ rc j) from fun w => e ⟨by omega, w.2⟩)]
theorem dx_may {post : Int32 → Prop} {s x k : Nat} {rp P F : Nat → Nat → Int32} (B : dc_B R L c) (T : dc_TX R L A c xas xlc) (hs : s < R) (hx : x < R) (hk : k < L) (rR : ∀ s r, s < R → r < R → xrp (s * 12 + r) = rp s r) (rP : dc_r2 R L xpt P) (rF : dc_r2 R L xaw F)
    (h1 : dc_can R A (rp s) (P s) (F s) x k = true → post 1) (h0 : dc_can R A (rp s) (P s) (F s) x k = false → post 0) : wpX_mayTransmit post (nI R, nI L, nI H, xas, xlc, xpf, xmb, xrd, xrp, xpt, xaw, xrc, xcc, xts, xpk) (nI s) (nI x) (nI k) := by
  obtain ⟨_, hR, _, hL, c1, c15⟩ := B
  refine ⟨dc_v16 s k (by omega) (by omega), ?_⟩
  rw [dc_c16 s k (by omega), dc_cl k (by omega)]
  refine nm_r (rF s k hs hk) ⟨vp_in_nI (by omega) (by omega), dx_two (T.2 k hk) hR (fun z2 => ?_) (fun z2 => ?_)⟩
  · refine br_f (by decide) ⟨vp_in_nI (by omega) (by omega), dx_con (T.2 k hk) hx hR (fun za => ?_) (fun za => ?_)⟩
    · refine br_f (by decide) ⟨dc_v12 s x (by omega) (by omega), ?_⟩
      rw [dc_c12 s x (by omega), rR s x hs hx]
      by_cases zr : rp s x = nI k
      · exact br_t zr (h0 (decide_eq_false (fun w => w.2.2.1 zr)))
      · refine br_f zr ⟨dc_v16 s k (by omega) (by omega), ?_⟩
        rw [rP s k hs hk]
        by_cases zp : P s k = 0
        · refine br_t zp ?_
          by_cases zf : F s k = -1
          · exact br_t zf (h1 (decide_eq_true ⟨z2, za, zr, zp, Or.inl zf⟩))
          · refine br_f zf ?_
            by_cases zg : F s k = nI x
            · exact br_t zg (h1 (decide_eq_true ⟨z2, za, zr, zp, Or.inr zg⟩))
            · exact br_f zg (h0 (decide_eq_false (fun w => w.2.2.2.2.elim zf zg)))
        · exact br_f zp (h0 (decide_eq_false (fun w => zp w.2.2.2.1)))
    · exact br_t rfl (h0 (decide_eq_false (fun w => by rw [za] at w; exact nomatch w.2.1)))
  · exact br_t rfl (h0 (decide_eq_false (fun w => by have := w.1; omega)))
theorem dx_deliver {post : St2 → Prop} {s k : Nat} {rp : Nat → Nat → Int32} {rc : Nat → Nat} (B : dc_B R L c) (hs : s < R) (hk : k < L) (rR : ∀ s r, s < R → r < R → xrp (s * 12 + r) = rp s r) (rc1 : ∀ y, y < R → xrc y = nI (rc y))
    (h : ∀ (rc' : Nat → Int32), (∀ y, y < R → rc' y = nI (dc_dl R (rp s) k rc y)) → post (nI R, nI L, nI H, xas, xlc, xpf, xmb, xrd, xrp, xpt, xaw, rc', xcc, xts, xpk)) : wpX_deliver post (nI R, nI L, nI H, xas, xlc, xpf, xmb, xrd, xrp, xpt, xaw, xrc, xcc, xts, xpk) (nI s) (nI k) := by
  obtain ⟨_, hR, _, hL, c1, c15⟩ := B
  refine loop_0 (fun n i r' => wX_deliver_2 post (nI s) (nI k) (nI R) (nI L) (nI H) n (nI i) xas xlc xpf xmb xrd xrp xpt xaw r' xcc xts xpk)
    (fun i r' => ∀ y, y < R → r' y = nI (if y < i ∧ rp s y = nI k then rc y + 1 else rc y)) R xrc (fun y hy => by rw [if_neg (show ¬ (y < 0 ∧ rp s y = nI k) from fun w => absurd w.1 (Nat.not_lt_zero y))]; exact rc1 y hy) ?_ ?_
  · intro n r' hr
    exact br_t (dc_end (by omega)) (h r' hr)
  · intro n i r' hi hr hn
    refine br_f (dc_in hi (by omega)) ⟨dc_v12 s i (by omega) (by omega), ?_⟩
    rw [dc_c12 s i (by omega), rR s i hs hi, dc_cl i (by omega)]
    by_cases zr : rp s i = nI k
    · refine br_t zr ⟨vp_in_nI (by omega) (by omega), vp_in_nI (by omega) (by omega), nm_e (nm_r (nI_1 i) (hn _ ?_))⟩
      intro y hy
      by_cases e : y = i
      · rw [e, if_pos (show i < i + 1 ∧ rp s i = nI k from ⟨by omega, zr⟩), pk_us, hr i hi, if_neg (show ¬ (i < i ∧ rp s i = nI k) from fun t => absurd t.1 (Nat.lt_irrefl i)), nI_1]
      · rw [pk_un e, hr y hy]
        by_cases t : y < i ∧ rp s y = nI k
        · rw [if_pos t, if_pos (show y < i + 1 ∧ rp s y = nI k from ⟨by omega, t.2⟩)]
        · rw [if_neg t, if_neg (show ¬ (y < i + 1 ∧ rp s y = nI k) from fun q => t ⟨by omega, q.2⟩)]
    · refine br_f zr (nm_r (nI_1 i) (hn _ ?_))
      intro y hy
      rw [hr y hy]
      by_cases e : y < i ∧ rp s y = nI k
      · rw [if_pos e, if_pos (show y < i + 1 ∧ rp s y = nI k from ⟨by omega, e.2⟩)]
      · have g : ¬ (y < i + 1 ∧ rp s y = nI k) := by
          intro t
          by_cases q : y = i
          · rw [q] at t; exact zr t.2
          · exact e ⟨by omega, t.2⟩
        rw [if_neg e, if_neg g]
theorem dx_from {post : St2 → Prop} {s x : Nat} {rp P F : Nat → Nat → Int32} {z : (Nat → Nat) × (Nat → Nat) × (Nat → Nat → Bool)} (B : dc_B R L c) (T : dc_TX R L A c xas xlc) (hs : s < R) (hx : x < R) (rR : ∀ s r, s < R → r < R → xrp (s * 12 + r) = rp s r) (rP : dc_r2 R L xpt P) (rF : dc_r2 R L xaw F)
    (Z : dc_ZX R L xrc xcc xts z) (h : ∀ (rc' cc' ts' : Nat → Int32), dc_ZX R L rc' cc' ts' (dc_fx R L (rp s) (dc_can R A (rp s) (P s) (F s)) x z) → post (nI R, nI L, nI H, xas, xlc, xpf, xmb, xrd, xrp, xpt, xaw, rc', cc', ts', xpk)) : wpX_transmitFrom post (nI R, nI L, nI H, xas, xlc, xpf, xmb, xrd, xrp, xpt, xaw, xrc, xcc, xts, xpk) (nI s) (nI x) := by
  have B' := B
  obtain ⟨_, hR, _, hL, c1, c15⟩ := B'
  refine loop_0 (fun n i (w : (Nat → Int32) × (Nat → Int32) × (Nat → Int32)) => wX_transmitFrom_2 post (nI s) (nI x) n (nI i) (nI R) (nI L) (nI H) xas xlc xpf xmb xrd xrp xpt xaw w.1 w.2.1 w.2.2 xpk)
    (fun i w => dc_ZX R L w.1 w.2.1 w.2.2 (dc_it (dc_fk R (rp s) (dc_can R A (rp s) (P s) (F s)) x) z i)) L (xrc, xcc, xts) Z ?_ ?_
  · intro n w hw
    exact br_t (dc_end (by omega)) (h _ _ _ hw)
  · intro n k w hk hw hn
    refine br_f (dc_in hk (by omega)) (dx_may B T hs hx hk rR rP rF (fun zc => ?_) (fun zc => ?_))
    · refine br_f (by decide) ⟨vp_in_nI (by omega) (by omega), vp_in_nI (by omega) (by omega), nm_e ⟨vp_in_nI (by omega) (by omega), vp_in_nI (by omega) (by omega), nm_e ?_⟩⟩
      rw [dc_cl k (by omega)]
      refine dx_deliver B hs hk rR hw.1 (fun rc' e1 => nm_r (nI_1 k) (hn (rc', _, _) ?_))
      show dc_ZX R L rc' (upd w.2.1 k (w.2.1 k + 1)) (upd w.2.2 k (w.2.2 k ||| ((1 : Int32) <<< (nI x &&& 31)))) (dc_fk R (rp s) (dc_can R A (rp s) (P s) (F s)) x k (dc_it (dc_fk R (rp s) (dc_can R A (rp s) (P s) (F s)) x) z k))
      rw [dc_fk_1 zc]
      refine ⟨e1, fun j hj => ?_, fun j hj => ?_⟩
      · show upd w.2.1 k (w.2.1 k + 1) j = nI (if j = k then (dc_it (dc_fk R (rp s) (dc_can R A (rp s) (P s) (F s)) x) z k).2.1 j + 1 else (dc_it (dc_fk R (rp s) (dc_can R A (rp s) (P s) (F s)) x) z k).2.1 j)
        by_cases e : j = k
        · rw [if_pos e, e, pk_us, hw.2.1 k hk, nI_1]
        · rw [if_neg e, pk_un e, hw.2.1 j hj]
      · show dc_ms R (upd w.2.2 k (w.2.2 k ||| ((1 : Int32) <<< (nI x &&& 31))) j) (fun y => if j = k ∧ y = x then true else (dc_it (dc_fk R (rp s) (dc_can R A (rp s) (P s) (F s)) x) z k).2.2 j y)
        by_cases e : j = k
        · rw [e, pk_us]
          refine dc_ms_ext (dc_ms_or (hw.2.2 k hk) hx hR) (fun y _ => ?_)
          by_cases q : y = x
          · rw [if_pos q, if_pos (show k = k ∧ y = x from ⟨rfl, q⟩)]
          · rw [if_neg q, if_neg (show ¬ (k = k ∧ y = x) from fun t => q t.2)]
        · rw [pk_un e]
          refine dc_ms_ext (hw.2.2 j hj) (fun y _ => ?_)
          rw [if_neg (show ¬ (j = k ∧ y = x) from fun t => e t.1)]
    · refine br_t rfl (nm_r (nI_1 k) (hn w ?_))
      show dc_ZX R L w.1 w.2.1 w.2.2 (dc_fk R (rp s) (dc_can R A (rp s) (P s) (F s)) x k _)
      rw [dc_fk_0 (show ¬ dc_can R A (rp s) (P s) (F s) x k = true by rw [zc]; decide)]
      exact hw
theorem dx_flood {post : St2 → Prop} {s : Nat} {rp P F : Nat → Nat → Int32} (B : dc_B R L c) (T : dc_TX R L A c xas xlc) (hs : s < R) (rR : ∀ s r, s < R → r < R → xrp (s * 12 + r) = rp s r) (rP : dc_r2 R L xpt P) (rF : dc_r2 R L xaw F)
    (r0 : ∀ r, r < R → xrc r = 0) (k0 : ∀ k, k < L → xcc k = 0) (t0 : ∀ k, k < L → xts k = 0)
    (h : ∀ (rc' cc' ts' : Nat → Int32), dc_ZX R L rc' cc' ts' (dc_sz R L A rp P F s) → post (nI R, nI L, nI H, xas, xlc, xpf, xmb, xrd, xrp, xpt, xaw, rc', cc', ts', xpk)) : wpX_flood post (nI R, nI L, nI H, xas, xlc, xpf, xmb, xrd, xrp, xpt, xaw, xrc, xcc, xts, xpk) (nI s) := by
  have B' := B
  obtain ⟨_, hR, _, hL, c1, c15⟩ := B'
  have FI := fun n => dc_FIn (R := R) (L := L) (rp := rp s) (can := dc_can R A (rp s) (P s) (F s)) hs n
  have K : ∀ (n : Nat) (w : (Nat → Int32) × (Nat → Int32) × (Nat → Int32)), dc_ZX R L w.1 w.2.1 w.2.2 (dc_fl R L (rp s) (dc_can R A (rp s) (P s) (F s)) (dc_f0 s) n).1 → (∀ y, y < R → (dc_fl R L (rp s) (dc_can R A (rp s) (P s) (F s)) (dc_f0 s) n).2 y = false) →
      post (nI R, nI L, nI H, xas, xlc, xpf, xmb, xrd, xrp, xpt, xaw, w.1, w.2.1, w.2.2, xpk) := by
    intro n w z e
    rw [dc_fl_u hs e] at z
    exact h _ _ _ z
  refine ⟨vp_in_nI (by omega) (by omega), nm_e (nm_e ?_)⟩
  rw [dc_cl s (by omega)]
  refine loop_0 (fun n i (w : Int32 × (Nat → Int32) × (Nat → Int32) × (Nat → Int32)) => wX_flood_13 post (nI s) n w.1 (nI i) (nI R) (nI L) (nI H) xas xlc xpf xmb xrd xrp xpt xaw w.2.1 w.2.2.1 w.2.2.2 xpk)
    (fun i w => dc_ZX R L w.2.1 w.2.2.1 w.2.2.2 (dc_fl R L (rp s) (dc_can R A (rp s) (P s) (F s)) (dc_f0 s) i).1 ∧ dc_ms R w.1 (dc_fl R L (rp s) (dc_can R A (rp s) (P s) (F s)) (dc_f0 s) i).2)
    R ((1 : Int32) <<< (nI s &&& 31), upd xrc s 1, xcc, xts) ⟨⟨fun y hy => ?_, fun k hk => k0 k hk, fun k hk => ?_⟩, ?_⟩ ?_ ?_
  · show upd xrc s 1 y = nI (if y = s then 1 else 0)
    by_cases e : y = s
    · rw [e, pk_us, if_pos rfl] <;> rfl
    · rw [pk_un e, if_neg e, r0 y hy] <;> rfl
  · show dc_ms R (xts k) (fun _ => false)
    rw [t0 k hk]
    exact dc_ms_0 R
  · intro i hi
    show bt ((1 : Int32) <<< (nI s &&& 31)) i = (decide (i < R) && decide (i = s))
    rw [dc_1sh s (by omega) i hi]
    by_cases e : i = s
    · rw [decide_eq_true e, decide_eq_true (show i < R by omega)] <;> rfl
    · rw [decide_eq_false e, Bool.and_false]
  · intro n w ⟨z, f⟩
    exact br_t (dc_end (by omega)) (K R w.2 z (fun y _ => dc_fl_R hs y))
  · intro n i w hi ⟨z, f⟩ hn
    refine br_f (dc_in hi (by omega)) ?_
    by_cases z0 : w.1 = 0
    · exact br_t z0 (K i w.2 z ((dc_ms_z f hR).mp z0))
    · have b1 := dc_FI_b (FI i) hR hL (show i ≤ 13 by omega)
      refine br_f z0 (dx_reached B z.1 (fun y => by have := b1 y; omega) (fun v0 m0 => ?_))
      refine loop_0 (fun m x (w' : (Nat → Int32) × (Nat → Int32) × (Nat → Int32)) => wX_flood_34 post (wX_flood_13 post (nI s) n) (nI s) w.1 (nI i) v0 m (nI x) (nI R) (nI L) (nI H) xas xlc xpf xmb xrd xrp xpt xaw w'.1 w'.2.1 w'.2.2 xpk)
        (fun x w' => dc_ZX R L w'.1 w'.2.1 w'.2.2 (dc_it (dc_rx R L (rp s) (dc_can R A (rp s) (P s) (F s)) (dc_fl R L (rp s) (dc_can R A (rp s) (P s) (F s)) (dc_f0 s) i).2) (dc_fl R L (rp s) (dc_can R A (rp s) (P s) (F s)) (dc_f0 s) i).1 x)) R w.2 z ?_ ?_
      · intro m w' hw
        have b2 := dc_FI_b (FI (i + 1)) hR hL (show i + 1 ≤ 13 by omega)
        refine br_t (dc_end (by omega)) (dx_reached B (rc := (dc_fl R L (rp s) (dc_can R A (rp s) (P s) (F s)) (dc_f0 s) (i + 1)).1.1) hw.1 (fun y => by have := b2 y; omega) (fun v1 m1 => nm_e (nm_r (nI_1 i) (hn (_, w'.1, w'.2.1, w'.2.2) ⟨hw, ?_⟩))))
        refine dc_ms_ext (dc_ms_mn m1 m0) (fun y hy => ?_)
        show (decide (1 ≤ (dc_fl R L (rp s) (dc_can R A (rp s) (P s) (F s)) (dc_f0 s) (i + 1)).1.1 y) && !(decide (1 ≤ (dc_fl R L (rp s) (dc_can R A (rp s) (P s) (F s)) (dc_f0 s) i).1.1 y))) = decide (y < R ∧ (dc_fl R L (rp s) (dc_can R A (rp s) (P s) (F s)) (dc_f0 s) i).1.1 y = 0 ∧ 1 ≤ (dc_fl R L (rp s) (dc_can R A (rp s) (P s) (F s)) (dc_f0 s) (i + 1)).1.1 y)
        generalize (dc_fl R L (rp s) (dc_can R A (rp s) (P s) (F s)) (dc_f0 s) (i + 1)).1.1 y = a
        generalize (dc_fl R L (rp s) (dc_can R A (rp s) (P s) (F s)) (dc_f0 s) i).1.1 y = b
        by_cases q : y < R ∧ b = 0 ∧ 1 ≤ a
        · rw [decide_eq_true q, decide_eq_true q.2.2, decide_eq_false (show ¬ 1 ≤ b by omega)] <;> rfl
        · rw [decide_eq_false q]
          by_cases p : 1 ≤ a
          · rw [decide_eq_true (show 1 ≤ b by omega), Bool.not_true, Bool.and_false]
          · rw [decide_eq_false p, Bool.false_and]
      · intro m x w' hx hw hm
        refine br_f (dc_in hx (by omega)) (dx_con f hx hR (fun zf => ?_) (fun zf => ?_))
        · refine br_f (by decide) (dx_from B T hs hx rR rP rF hw (fun rc' cc' ts' Z' => nm_r (nI_1 x) (hm (rc', cc', ts') ?_)))
          show dc_ZX R L rc' cc' ts' (dc_rx R L (rp s) (dc_can R A (rp s) (P s) (F s)) (dc_fl R L (rp s) (dc_can R A (rp s) (P s) (F s)) (dc_f0 s) i).2 x _)
          rw [dc_rx_1 zf]
          exact Z'
        · refine br_t rfl (nm_r (nI_1 x) (hm w' ?_))
          show dc_ZX R L w'.1 w'.2.1 w'.2.2 (dc_rx R L (rp s) (dc_can R A (rp s) (P s) (F s)) (dc_fl R L (rp s) (dc_can R A (rp s) (P s) (F s)) (dc_f0 s) i).2 x _)
          rw [dc_rx_0 (show ¬ (dc_fl R L (rp s) (dc_can R A (rp s) (P s) (F s)) (dc_f0 s) i).2 x = true by rw [zf]; decide)]
          exact hw
end
