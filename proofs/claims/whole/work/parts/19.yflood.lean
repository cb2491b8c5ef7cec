/-! the reference's flood -/
theorem dc_nar1 : vp_nar .boolean 1 = 1 := by decide +kernel
theorem dc_nar0 : vp_nar .boolean 0 = 0 := by decide +kernel
/-- x may transmit on k: of the topology, the reverse-path links, the prunes and forwarders of one source -/
def dc_can (R : Nat) (A : Nat → Nat → Bool) (rp P F : Nat → Int32) (x k : Nat) : Bool :=
  decide (2 ≤ dc_cn (A k) R ∧ A k x = true ∧ ¬ rp x = nI k ∧ P k = 0 ∧ (F k = -1 ∨ F k = nI x))
/-- the record as the reference has it -/
def dc_ZY (R L : Nat) (yrc yca ytr : Nat → Int32) (z : (Nat → Nat) × (Nat → Nat) × (Nat → Nat → Bool)) : Prop :=
  (∀ y, y < R → yrc y = nI (z.1 y)) ∧ (∀ k, k < L → yca k = nI (z.2.1 k)) ∧ (∀ k x, k < L → x < R → (ytr (k * 12 + x) = 0 ↔ z.2.2 k x = false))
section
variable {R L H : Nat} {A : Nat → Nat → Bool} {c : Nat → Nat} {yco yat ypf ymb ypr yfw yrc yca ytr yd yro yfr ybe yne ycu : Nat → Int32}
theorem dy_canSend {post : Int32 → Prop} {s x k : Nat} {rp : Nat → Int32} {P F : Nat → Nat → Int32} (B : dc_B R L c) (T : dc_TY R L A c yco yat) (hs : s < R) (hx : x < R) (hk : k < L) (rR : ∀ r, r < R → yro r = rp r) (rP : dc_r2 R L ypr P) (rF : dc_r2 R L yfw F)
    (h1 : dc_can R A rp (P s) (F s) x k = true → post 1) (h0 : dc_can R A rp (P s) (F s) x k = false → post 0) : wpY_canSend post (nI R, nI L, nI H, yco, yat, ypf, ymb, ypr, yfw, yrc, yca, ytr, yd, yro, yfr, ybe, yne, ycu) (nI s) (nI x) (nI k) := by
  have B' := B
  obtain ⟨_, hR, _, hL, c1, c15⟩ := B'
  refine ⟨dc_v16 s k (by omega) (by omega), ?_⟩
  rw [dc_c16 s k (by omega)]
  refine nm_r (rF s k hs hk) (dy_usable B T hk (fun z2 => ?_) (fun z2 => ?_))
  · refine br_f (by decide) ⟨dc_v12 k x (by omega) (by omega), ?_⟩
    rw [dc_c12 k x (by omega)]
    by_cases za : A k x = true
    · refine br_f (fun e => ?_) ⟨vp_in_nI (by omega) (by omega), ?_⟩
      · rw [(T.2 k x hk hx).mp e] at za; exact nomatch za
      rw [dc_cl x (by omega), rR x hx]
      by_cases zr : rp x = nI k
      · exact br_t zr.symm (h0 (decide_eq_false (fun w => w.2.2.1 zr)))
      · refine br_f (fun e => zr e.symm) ⟨dc_v16 s k (by omega) (by omega), ?_⟩
        rw [rP s k hs hk]
        by_cases zp : P s k = 0
        · refine br_t zp ?_
          by_cases zf : F s k = -1
          · exact br_t zf (h1 (decide_eq_true ⟨z2, za, zr, zp, Or.inl zf⟩))
          · refine br_f zf ?_
            by_cases zg : F s k = nI x
            · exact br_t zg (h1 (decide_eq_true ⟨z2, za, zr, zp, Or.inr zg⟩))
            · exact br_f zg (h0 (decide_eq_false (fun w => w.2.2.2.2.elim zf zg)))
        · exact br_f zp (h0 (decide_eq_false (fun w => zp w.2.2.2.1)))
    · exact br_t ((T.2 k x hk hx).mpr (dc_bt za)) (h0 (decide_eq_false (fun w => za w.2.1)))
  · exact br_t rfl (h0 (decide_eq_false (fun w => by have := w.1; omega)))
theorem dy_transmit {post : SY → Prop} {x k : Nat} {rp : Nat → Int32} {z : (Nat → Nat) × (Nat → Nat) × (Nat → Nat → Bool)} (B : dc_B R L c) (T : dc_TY R L A c yco yat) (hx : x < R) (hk : k < L) (rR : ∀ r, r < R → yro r = rp r)
    (hA : ∀ y, y < R → rp y = nI k → A k y = true) (hX : ¬ rp x = nI k) (Z : dc_ZY R L yrc yca ytr z)
    (h : ∀ (rc' ca' tr' : Nat → Int32), dc_ZY R L rc' ca' tr' (dc_tr R rp x k z) → post (nI R, nI L, nI H, yco, yat, ypf, ymb, ypr, yfw, rc', ca', tr', yd, yro, yfr, ybe, yne, ycu)) : wpY_transmit post (nI R, nI L, nI H, yco, yat, ypf, ymb, ypr, yfw, yrc, yca, ytr, yd, yro, yfr, ybe, yne, ycu) (nI x) (nI k) := by
  have B' := B
  obtain ⟨_, hR, _, hL, c1, c15⟩ := B'
  refine ⟨vp_in_nI (by omega) (by omega), vp_in_nI (by omega) (by omega), nm_e ⟨dc_v12 k x (by omega) (by omega), nm_e ?_⟩⟩
  rw [dc_cl k (by omega), dc_c12 k x (by omega), dc_nar1]
  have Z2 : ∀ j, j < L → upd yca k (yca k + 1) j = nI (if j = k then z.2.1 j + 1 else z.2.1 j) := by
    intro j hj
    by_cases e : j = k
    · rw [if_pos e, e, pk_us, Z.2.1 k hk, nI_1]
    · rw [if_neg e, pk_un e, Z.2.1 j hj]
  have Z3 : ∀ j y, j < L → y < R → (upd ytr (k * 12 + x) 1 (j * 12 + y) = 0 ↔ (if j = k ∧ y = x then true else z.2.2 j y) = false) := by
    intro j y hj hy
    by_cases e : j = k ∧ y = x
    · rw [if_pos e, e.1, e.2, pk_us]
      exact ⟨fun w => absurd w (by decide), fun w => nomatch w⟩
    · rw [if_neg e, pk_un (show j * 12 + y ≠ k * 12 + x from fun w => e (by omega))]
      exact Z.2.2 j y hj hy
  refine loop_0 (fun n i rc => wY_transmit_24 post (nI x) (nI k) (nI R) (nI L) (nI H) n (nI i) yco yat ypf ymb ypr yfw rc (upd yca k (yca k + 1)) (upd ytr (k * 12 + x) 1) yd yro yfr ybe yne ycu)
    (fun i rc => ∀ y, y < R → rc y = nI (if y < i ∧ rp y = nI k then z.1 y + 1 else z.1 y)) R yrc (fun y hy => by rw [if_neg (show ¬ (y < 0 ∧ rp y = nI k) from fun w => absurd w.1 (Nat.not_lt_zero y))]; exact Z.1 y hy) ?_ ?_
  · intro n rc hr
    exact br_t (dc_end (by omega)) (h _ _ _ ⟨hr, Z2, Z3⟩)
  · intro n i rc hi hr hn
    have keep : ∀ (w : ¬ rp i = nI k) y, y < R → rc y = nI (if y < i + 1 ∧ rp y = nI k then z.1 y + 1 else z.1 y) := by
      intro w y hy
      rw [hr y hy]
      by_cases e : y < i ∧ rp y = nI k
      · rw [if_pos e, if_pos (show y < i + 1 ∧ rp y = nI k from ⟨by omega, e.2⟩)]
      · have g : ¬ (y < i + 1 ∧ rp y = nI k) := by
          intro t
          by_cases q : y = i
          · rw [q] at t; exact w t.2
          · exact e ⟨by omega, t.2⟩
        rw [if_neg e, if_neg g]
    refine br_f (dc_in hi (by omega)) ?_
    by_cases zx : i = x
    · exact br_t (by rw [zx]) (nm_r (nI_1 i) (hn _ (keep (by rw [zx]; exact hX))))
    · refine br_f (fun e => zx ((nI_eq (by omega) (by omega)).mp e)) ⟨dc_v12 k i (by omega) (by omega), ?_⟩
      rw [dc_c12 k i (by omega)]
      by_cases za : A k i = true
      · refine br_f (fun e => ?_) ⟨vp_in_nI (by omega) (by omega), ?_⟩
        · rw [(T.2 k i hk hi).mp e] at za; exact nomatch za
        rw [dc_cl i (by omega), rR i hi]
        by_cases zr : rp i = nI k
        · refine br_t zr ⟨vp_in_nI (by omega) (by omega), vp_in_nI (by omega) (by omega), nm_e (nm_r (nI_1 i) (hn _ ?_))⟩
          intro y hy
          by_cases e : y = i
          · rw [e, if_pos (show i < i + 1 ∧ rp i = nI k from ⟨by omega, zr⟩), pk_us, hr i hi, if_neg (show ¬ (i < i ∧ rp i = nI k) from fun t => absurd t.1 (Nat.lt_irrefl i)), nI_1]
          · rw [pk_un e, hr y hy]
            by_cases t : y < i ∧ rp y = nI k
            · rw [if_pos t, if_pos (show y < i + 1 ∧ rp y = nI k from ⟨by omega, t.2⟩)]
            · rw [if_neg t, if_neg (show ¬ (y < i + 1 ∧ rp y = nI k) from fun q => t ⟨by omega, q.2⟩)]
        · exact br_f zr (nm_r (nI_1 i) (hn _ (keep zr)))
      · exact br_t ((T.2 k i hk hi).mpr (dc_bt za)) (nm_r (nI_1 i) (hn _ (keep (fun e => za (hA i hi e)))))
theorem dy_doRound {post : SY → Prop} {s : Nat} {rp : Nat → Int32} {P F : Nat → Nat → Int32} {fr : Nat → Bool} {z : (Nat → Nat) × (Nat → Nat) × (Nat → Nat → Bool)} (B : dc_B R L c) (T : dc_TY R L A c yco yat) (hs : s < R) (rR : ∀ r, r < R → yro r = rp r)
    (rP : dc_r2 R L ypr P) (rF : dc_r2 R L yfw F) (hA : ∀ k y, k < L → y < R → rp y = nI k → A k y = true) (rf : ∀ y, y < R → (yfr y = 0 ↔ fr y = false)) (Z : dc_ZY R L yrc yca ytr z)
    (h : ∀ (rc' ca' tr' : Nat → Int32), dc_ZY R L rc' ca' tr' (dc_rd R L rp (dc_can R A rp (P s) (F s)) fr z) → post (nI R, nI L, nI H, yco, yat, ypf, ymb, ypr, yfw, rc', ca', tr', yd, yro, yfr, ybe, yne, ycu)) : wpY_doRound post (nI R, nI L, nI H, yco, yat, ypf, ymb, ypr, yfw, yrc, yca, ytr, yd, yro, yfr, ybe, yne, ycu) (nI s) := by
  have B' := B
  obtain ⟨_, hR, _, hL, c1, c15⟩ := B'
  refine loop_0 (fun n i (w : (Nat → Int32) × (Nat → Int32) × (Nat → Int32)) => wY_doRound_2 post (nI s) n (nI i) (nI R) (nI L) (nI H) yco yat ypf ymb ypr yfw w.1 w.2.1 w.2.2 yd yro yfr ybe yne ycu)
    (fun i w => dc_ZY R L w.1 w.2.1 w.2.2 (dc_it (dc_rx R L rp (dc_can R A rp (P s) (F s)) fr) z i)) R (yrc, yca, ytr) Z ?_ ?_
  · intro n w hw
    exact br_t (dc_end (by omega)) (h _ _ _ hw)
  · intro n x w hx hw hn
    refine br_f (dc_in hx (by omega)) ⟨vp_in_nI (by omega) (by omega), ?_⟩
    rw [dc_cl x (by omega)]
    by_cases zf : fr x = true
    · refine br_f (fun e => ?_) ?_
      · rw [(rf x hx).mp e] at zf; exact nomatch zf
      refine loop_0 (fun m k (w : (Nat → Int32) × (Nat → Int32) × (Nat → Int32)) => wY_doRound_21 post (wY_doRound_2 post (nI s) n) (nI s) (nI x) m (nI k) (nI R) (nI L) (nI H) yco yat ypf ymb ypr yfw w.1 w.2.1 w.2.2 yd yro yfr ybe yne ycu)
        (fun k w => dc_ZY R L w.1 w.2.1 w.2.2 (dc_it (dc_fk R rp (dc_can R A rp (P s) (F s)) x) (dc_it (dc_rx R L rp (dc_can R A rp (P s) (F s)) fr) z x) k)) L w hw ?_ ?_
      · intro m w hw
        refine br_t (dc_end (by omega)) (nm_r (nI_1 x) (hn w ?_))
        show dc_ZY R L w.1 w.2.1 w.2.2 (dc_rx R L rp (dc_can R A rp (P s) (F s)) fr x (dc_it (dc_rx R L rp (dc_can R A rp (P s) (F s)) fr) z x))
        rw [dc_rx_1 zf]
        exact hw
      · intro m k w hk hw hm
        refine br_f (dc_in hk (by omega)) (dy_canSend B T hs hx hk rR rP rF (fun zc => ?_) (fun zc => ?_))
        · refine br_f (by decide) (dy_transmit B T hx hk rR (fun y => hA k y hk) (of_decide_eq_true zc).2.2.1 hw (fun rc' ca' tr' Z' => nm_r (nI_1 k) (hm (rc', ca', tr') ?_)))
          show dc_ZY R L rc' ca' tr' (dc_fk R rp (dc_can R A rp (P s) (F s)) x k _)
          rw [dc_fk_1 zc]
          exact Z'
        · refine br_t rfl (nm_r (nI_1 k) (hm w ?_))
          show dc_ZY R L w.1 w.2.1 w.2.2 (dc_fk R rp (dc_can R A rp (P s) (F s)) x k _)
          rw [dc_fk_0 (show ¬ dc_can R A rp (P s) (F s) x k = true by rw [zc]; decide)]
          exact hw
    · refine br_t ((rf x hx).mpr (dc_bt zf)) (nm_r (nI_1 x) (hn w ?_))
      show dc_ZY R L w.1 w.2.1 w.2.2 (dc_rx R L rp (dc_can R A rp (P s) (F s)) fr x (dc_it (dc_rx R L rp (dc_can R A rp (P s) (F s)) fr) z x))
      rw [dc_rx_0 zf]
      exact hw
theorem dy_anyFront {post : Int32 → Prop} {fr : Nat → Bool} (B : dc_B R L c) (rf : ∀ y, y < R → (yfr y = 0 ↔ fr y = false)) (h1 : (∃ y, y < R ∧ fr y = true) → post 1) (h0 : (∀ y, y < R → fr y = false) → post 0) : wpY_anyFront post (nI R, nI L, nI H, yco, yat, ypf, ymb, ypr, yfw, yrc, yca, ytr, yd, yro, yfr, ybe, yne, ycu) := by
  obtain ⟨_, hR, _, hL, c1, c15⟩ := B
  refine loop_0 (fun n i (_ : Unit) => wY_anyFront_2 post (nI R) (nI L) (nI H) yco yat ypf ymb ypr yfw yrc yca ytr yd yro yfr ybe yne ycu n (nI i)) (fun i _ => ∀ y, y < i → fr y = false) R () (fun q z => absurd z (Nat.not_lt_zero q)) ?_ ?_
  · intro n _ hs
    exact br_t (dc_end (by omega)) (h0 hs)
  · intro n i _ hi hs hn
    refine br_f (dc_in hi (by omega)) ⟨vp_in_nI (by omega) (by omega), ?_⟩
    rw [dc_cl i (by omega)]
    by_cases z : fr i = true
    · refine br_f (fun e => ?_) (h1 ⟨i, hi, z⟩)
      rw [(rf i hi).mp e] at z; exact nomatch z
    · refine br_t ((rf i hi).mpr (dc_bt z)) (nm_r (nI_1 i) (hn () (fun y hy => ?_)))
      by_cases e : y = i
      · rw [e]; exact dc_bt z
      · exact hs y (by omega)
end
