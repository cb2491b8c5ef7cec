/-! the reference's send, whole -/
section
variable {R L H : Nat} {A : Nat → Nat → Bool} {c : Nat → Nat} {yco yat ypf ymb ypr yfw yrc yca ytr yd yro yfr ybe yne ycu : Nat → Int32}
/-- the record cleared -/
theorem dy_s59 {post : Int32 → SY → Prop} {s : Nat} (B : dc_B R L c) (hs : s < R)
    (h : ∀ (rc' ca' tr' fr' ne' : Nat → Int32), dc_ZY R L rc' ca' tr' (dc_f0 s).1 → (∀ y, y < R → (fr' y = 0 ↔ (dc_f0 s).2 y = false)) → (∀ y, y < R → ne' y = 0) → ∃ n, wY_send_151 post (nI s) n 0 (nI R) (nI L) (nI H) yco yat ypf ymb ypr yfw rc' ca' tr' yd yro fr' ybe ne' ycu) :
    ∃ n, wY_send_59 post (nI s) (nI R) (nI L) (nI H) n 0 yco yat ypf ymb ypr yfw yrc yca ytr yd yro yfr ybe yne ycu := by
  obtain ⟨_, hR, _, hL, c1, c15⟩ := B
  refine loop_0 (fun n i (w : (Nat → Int32) × (Nat → Int32) × (Nat → Int32)) => wY_send_59 post (nI s) (nI R) (nI L) (nI H) n (nI i) yco yat ypf ymb ypr yfw w.1 yca ytr yd yro w.2.1 ybe w.2.2 ycu) (fun i w => (∀ j, j < i → w.1 j = 0) ∧ (∀ j, j < i → w.2.1 j = 0) ∧ (∀ j, j < i → w.2.2 j = 0)) 12 (yrc, yfr, yne)
    ⟨fun j z => absurd z (Nat.not_lt_zero j), fun j z => absurd z (Nat.not_lt_zero j), fun j z => absurd z (Nat.not_lt_zero j)⟩ ?_ ?_
  · intro n w ⟨w1, w2, w3⟩
    refine br_t (dc_end (n := 12) (by omega)) ?_
    refine loop_0 (fun n i ca => wY_send_94 post (nI s) (nI R) (nI L) (nI H) n (nI i) yco yat ypf ymb ypr yfw w.1 ca ytr yd yro w.2.1 ybe w.2.2 ycu) (fun i ca => ∀ j, j < i → ca j = 0) 16 yca (fun j z => absurd z (Nat.not_lt_zero j)) ?_ ?_
    · intro n ca w4
      refine br_t (dc_end (n := 16) (by omega)) ?_
      refine loop_0 (fun n i tr => wY_send_115 post (nI s) (nI R) (nI L) (nI H) n (nI i) yco yat ypf ymb ypr yfw w.1 ca tr yd yro w.2.1 ybe w.2.2 ycu) (fun i tr => ∀ j, j < i → tr j = 0) 192 ytr (fun j z => absurd z (Nat.not_lt_zero j)) ?_ ?_
      · intro n tr w5
        refine br_t (dc_end (n := 192) (by omega)) ⟨vp_in_nI (by omega) (by omega), nm_e ⟨vp_in_nI (by omega) (by omega), nm_e ?_⟩⟩
        rw [dc_cl s (by omega), dc_nar1]
        refine h _ _ _ _ _ ⟨fun y hy => ?_, fun k hk => ?_, fun k x hk hx => ?_⟩ (fun y hy => ?_) (fun y hy => w3 y (by omega))
        · show upd w.1 s 1 y = nI (if y = s then 1 else 0)
          by_cases e : y = s
          · rw [e, pk_us, if_pos rfl] <;> rfl
          · rw [pk_un e, if_neg e, w1 y (by omega)] <;> rfl
        · rw [w4 k (by omega)] <;> rfl
        · exact ⟨fun _ => rfl, fun _ => w5 _ (by omega)⟩
        · show upd w.2.1 s 1 y = 0 ↔ decide (y = s) = false
          by_cases e : y = s
          · rw [e, pk_us]
            exact ⟨fun t => absurd t (by decide), fun t => by rw [decide_eq_true rfl] at t; exact nomatch t⟩
          · rw [pk_un e]
            exact ⟨fun _ => decide_eq_false e, fun _ => w2 y (by omega)⟩
      · intro n i tr hi w5 hn
        exact br_f (dc_in (n := 192) hi (by omega)) ⟨vp_in_nI (by omega) (by omega), nm_e (nm_r (nI_1 i) (hn _ (by rw [dc_cl i (by omega), dc_nar0]; exact dc_put w5)))⟩
    · intro n i ca hi w4 hn
      exact br_f (dc_in (n := 16) hi (by omega)) ⟨vp_in_nI (by omega) (by omega), nm_e (nm_r (nI_1 i) (hn _ (by rw [dc_cl i (by omega)]; exact dc_put w4)))⟩
  · intro n i w hi ⟨w1, w2, w3⟩ hn
    refine br_f (dc_in (n := 12) hi (by omega)) ⟨vp_in_nI (by omega) (by omega), nm_e ⟨vp_in_nI (by omega) (by omega), nm_e ⟨vp_in_nI (by omega) (by omega), nm_e (nm_r (nI_1 i) (hn (_, _, _) ⟨?_, ?_, ?_⟩))⟩⟩⟩
    · rw [dc_cl i (by omega)]; exact dc_put w1
    · rw [dc_cl i (by omega), dc_nar0]; exact dc_put w2
    · rw [dc_cl i (by omega), dc_nar0]; exact dc_put w3
/-- what a send leaves, said of pure things alone; N: the needed routers -/
def dc_sz (R L : Nat) (A : Nat → Nat → Bool) (rp P F : Nat → Nat → Int32) (s : Nat) : (Nat → Nat) × (Nat → Nat) × (Nat → Nat → Bool) :=
  (dc_fl R L (rp s) (dc_can R A (rp s) (P s) (F s)) (dc_f0 s) R).1
def dc_sb (R : Nat) (pf : Nat → Int32) (D : Nat → Nat → Nat) (s : Nat) (t : Nat → Nat → Bool) : Nat → Int32 := fun j => dc_oI (dc_bs (t j) (dc_be pf (D s)) R)
theorem dy_send {post : Int32 → SY → Prop} {s : Nat} {D : Nat → Nat → Nat} {rp P F : Nat → Nat → Int32} {pf mb : Nat → Int32} (B : dc_B R L c) (T : dc_TY R L A c yco yat) (Q : dc_DR R L A c D rp) (hs : s < R)
    (rpf : ∀ r, r < R → ypf r = pf r) (rM : ∀ y, y < R → ymb y = mb y) (rP : dc_r2 R L ypr P) (rF : dc_r2 R L yfw F)
    (h : ∀ (N : Nat → Bool) (pr' fw' rc' ca' tr' d' ro' fr' be' ne' cu' : Nat → Int32),
      dc_Sd R L s (rp s) (dc_sb R pf D s (dc_sz R L A rp P F s).2.2) (fun y => decide (1 ≤ (dc_sz R L A rp P F s).1 y)) (fun y => decide (¬ mb y = 0)) N →
      dc_Cl R L s (rp s) (dc_sb R pf D s (dc_sz R L A rp P F s).2.2) (fun y => decide (1 ≤ (dc_sz R L A rp P F s).1 y)) (fun y => decide (¬ mb y = 0)) N →
      dc_r2 R L pr' (dc_pr R (rp s) (dc_sz R L A rp P F s).2.2 N (nI H) s P L) → dc_r2 R L fw' (dc_fo R (dc_sz R L A rp P F s).2.2 (dc_be pf (D s)) s F L) →
      (∀ y, y < R → rc' y = nI ((dc_sz R L A rp P F s).1 y)) → (∀ k, k < L → ca' k = nI ((dc_sz R L A rp P F s).2.1 k)) →
      post (nI (dc_cn (fun r => decide (¬ mb r = 0 ∧ 1 ≤ (dc_sz R L A rp P F s).1 r)) R)) (nI R, nI L, nI H, yco, yat, ypf, ymb, pr', fw', rc', ca', tr', d', ro', fr', be', ne', cu')) :
    wpY_send post (nI R, nI L, nI H, yco, yat, ypf, ymb, ypr, yfw, yrc, yca, ytr, yd, yro, yfr, ybe, yne, ycu) (nI s) := by
  have B' := B
  obtain ⟨_, hR, _, hL, c1, c15⟩ := B'
  have G := (Q s hs).1
  have IR := (Q s hs).2
  have hA : ∀ k y, k < L → y < R → rp s y = nI k → A k y = true := by
    intro k y hk hy e
    rcases dc_isR_c (IR y hy) with z | ⟨j, hj, z, a⟩
    · rw [z] at e; exact absurd e.symm (dc_nm1 (by omega))
    · have : j = k := (nI_eq (by omega) (by omega)).mp (z.symm.trans e)
      rw [← this]; exact a
  have hb : ∀ y, (dc_sz R L A rp P F s).1 y < 2 ^ 31 := fun y => by
    have := dc_FI_b (dc_FIn (R := R) (L := L) (rp := rp s) (can := dc_can R A (rp s) (P s) (F s)) hs R) hR hL (by omega) y
    have e : (dc_sz R L A rp P F s).1 y ≤ 2497 := this
    omega
  refine br_f (nI_pos (by omega)) (br_t (nI_lt hs (by omega)) ?_)
  refine loop_0 (fun n i (w : (Nat → Int32) × (Nat → Int32)) => wY_send_16 post (nI s) n (nI i) (nI R) (nI L) (nI H) yco yat ypf ymb ypr yfw yrc yca ytr w.2 w.1 yfr ybe yne ycu) (fun i w => ∀ y, y < i → y < R → w.1 y = rp s y) 12 (yro, yd) (fun j z => absurd z (Nat.not_lt_zero j)) ?_ ?_
  · intro n w hw
    have rR : ∀ r, r < R → w.1 r = rp s r := fun r hr => hw r (by omega) hr
    refine br_t (dc_end (n := 12) (by omega)) (dy_comp B T G hs (fun d' rep => ?_))
    refine dy_s59 B hs (fun rc' ca' tr' fr' ne' z f ne0 => ?_)
    refine dy_s151 B T hs rR rP rF hA f z (fun rc2 ca2 tr2 fr2 be2 z2 => ?_)
    refine dy_s256 B G hs z2.2.2 rep rpf rF (fun fw' g => ?_)
    refine dy_s278 B hs z2.2.2 g (fun cu' gc => ?_)
    refine dy_s306 B hs rR gc z2.1 hb rM ne0 (fun ne2 N r1 r2 r3 => ?_)
    refine dy_s333 B hs rR z2.2.2 r1 rP (fun pr' g2 => ?_)
    exact dy_s382 B z2.1 hb rM (h N pr' fw' rc2 ca2 tr2 d' w.1 fr2 be2 ne2 cu' r2 r3 g2 g z2.1 z2.2.1)
  · intro n i w hi hw hn
    refine br_f (dc_in (n := 12) hi (by omega)) ?_
    by_cases z : i < R
    · refine br_f (dc_in z (by omega)) (dy_rpf B T G hs z (fun v d' hv rep => ⟨vp_in_nI (by omega) (by omega), nm_e (nm_r (nI_1 i) (hn (_, _) ?_))⟩))
      rw [dc_cl i (by omega)]
      intro y hy hy'
      show upd w.1 i v y = rp s y
      by_cases e : y = i
      · rw [e, pk_us]; exact dc_isR_u hv (IR i z)
      · rw [pk_un e]; exact hw y (by omega) hy'
    · refine br_t (nI_le (by omega) (by omega)) ⟨vp_in_nI (by omega) (by omega), nm_e (nm_r (nI_1 i) (hn (upd w.1 (nI i).toNatClampNeg (-1), w.2) ?_))⟩
      rw [dc_cl i (by omega)]
      intro y hy hy'
      show upd w.1 i (-1) y = rp s y
      rw [pk_un (show y ≠ i by omega)]
      exact hw y (by omega) hy'
end
