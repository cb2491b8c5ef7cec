/-! the graft, as a pure walk over the prune timers -/
/-- a table by source and link, as a row of 16 a source -/
def dc_r2 (R L : Nat) (x : Nat → Int32) (P : Nat → Nat → Int32) : Prop := ∀ s k, s < R → k < L → x (s * 16 + k) = P s k
def dc_p2 (P : Nat → Nat → Int32) (s k : Nat) (v : Int32) : Nat → Nat → Int32 := fun s' k' => if s' = s ∧ k' = k then v else P s' k'
theorem dc_r2_u {R L : Nat} {x : Nat → Int32} {P : Nat → Nat → Int32} (h : dc_r2 R L x P) {s k : Nat} (hL : L ≤ 16) (hk : k < L) (v : Int32) : dc_r2 R L (upd x (s * 16 + k) v) (dc_p2 P s k v) := by
  intro s' k' hs' hk'
  unfold dc_p2
  by_cases e : s' = s ∧ k' = k
  · rw [if_pos e, e.1, e.2]; exact pk_us
  · rw [if_neg e, ← h s' k' hs' hk']
    exact pk_un (fun z => e (by omega))
/-- x: the place of the walk (-1: it has ended) -/
def dc_gr (rp F : Nat → Int32) (U : Nat → Nat → Int32) (s : Nat) : Nat → Int32 → (Nat → Nat → Int32) → (Nat → Nat → Int32)
  | 0, _, P => P
  | n + 1, x, P => if x = -1 ∨ rp x.toNatClampNeg = -1 then P else
      dc_gr rp F U s n (if F (rp x.toNatClampNeg).toNatClampNeg = -1 then U (rp x.toNatClampNeg).toNatClampNeg x.toNatClampNeg else F (rp x.toNatClampNeg).toNatClampNeg) (dc_p2 P s (rp x.toNatClampNeg).toNatClampNeg 0)
section
variable {rp F : Nat → Int32} {U : Nat → Nat → Int32} {s : Nat} {P : Nat → Nat → Int32}
theorem dc_gr_m1 (n : Nat) : dc_gr rp F U s n (-1) P = P := by
  cases n with
  | zero => rfl
  | succ n => exact if_pos (Or.inl rfl)
theorem dc_gr_s {n x : Nat} (hx : x < 2 ^ 31) (h : rp x = -1) : dc_gr rp F U s n (nI x) P = P := by
  cases n with
  | zero => rfl
  | succ n =>
    refine if_pos (Or.inr ?_)
    rw [nI_clamp hx]
    exact h
theorem dc_gr_u {n x k : Nat} (hx : x < 2 ^ 31) (hk : k < 2 ^ 31) (h : rp x = nI k) (e : F k = -1) : dc_gr rp F U s (n + 1) (nI x) P = dc_gr rp F U s n (U k x) (dc_p2 P s k 0) := by
  have z : ¬ (nI x = -1 ∨ rp (nI x).toNatClampNeg = -1) := by
    rw [nI_clamp hx, h]
    exact fun w => w.elim (dc_nm1 hx) (dc_nm1 hk)
  refine (if_neg z).trans ?_
  rw [nI_clamp hx, h, nI_clamp hk, if_pos e]
theorem dc_gr_f {n x k : Nat} (hx : x < 2 ^ 31) (hk : k < 2 ^ 31) (h : rp x = nI k) (e : ¬ F k = -1) : dc_gr rp F U s (n + 1) (nI x) P = dc_gr rp F U s n (F k) (dc_p2 P s k 0) := by
  have z : ¬ (nI x = -1 ∨ rp (nI x).toNatClampNeg = -1) := by
    rw [nI_clamp hx, h]
    exact fun w => w.elim (dc_nm1 hx) (dc_nm1 hk)
  refine (if_neg z).trans ?_
  rw [nI_clamp hx, h, nI_clamp hk, if_neg e]
end
/-- a forwarder's cell: none, or a router -/
def dc_fw (R L : Nat) (F : Nat → Nat → Int32) : Prop := ∀ s k, s < R → k < L → F s k = -1 ∨ ∃ q, q < R ∧ F s k = nI q
/-- all sources' distances and reverse-path links are those of the topology -/
def dc_DR (R L : Nat) (A : Nat → Nat → Bool) (c : Nat → Nat) (D : Nat → Nat → Nat) (rp : Nat → Nat → Int32) : Prop := ∀ s, s < R → dc_G R L A c s (D s) ∧ ∀ r, r < R → dc_isR R L A c (D s) r (rp s r)
/-- the grafts of router r toward all sources -/
def dc_jn (R : Nat) (A : Nat → Nat → Bool) (c : Nat → Nat) (D : Nat → Nat → Nat) (rp F : Nat → Nat → Int32) (r : Nat) (P : Nat → Nat → Int32) (n : Nat) : Nat → Nat → Int32 :=
  dc_it (fun s P => dc_gr (rp s) (F s) (fun k x => dc_U R A c (D s) k x) s R (nI r) P) P n
theorem dc_isR_c {R L : Nat} {A : Nat → Nat → Bool} {c : Nat → Nat} {D : Nat → Nat} {r : Nat} {v : Int32} (h : dc_isR R L A c D r v) : v = -1 ∨ ∃ k, k < L ∧ v = nI k ∧ A k r = true := by
  rcases h with ⟨e, _⟩ | ⟨k, hk, e, hp, _⟩
  · exact Or.inl e
  · exact Or.inr ⟨k, hk, e, hp.1⟩
/-! the reference's graft and join -/
section
variable {R L H : Nat} {A : Nat → Nat → Bool} {c : Nat → Nat} {yco yat ypf ymb ypr yfw yrc yca ytr yd yro yfr ybe yne ycu : Nat → Int32}
theorem dy_graft10 {post : SY → Prop} {s : Nat} {D : Nat → Nat → Nat} {rp F : Nat → Nat → Int32} (B : dc_B R L c) (T : dc_TY R L A c yco yat) (Q : dc_DR R L A c D rp) (hs : s < R) (hF : dc_fw R L F) (rF : dc_r2 R L yfw F) :
    ∀ (m i x : Nat) (ypr yd : Nat → Int32) (P : Nat → Nat → Int32), i + m = R → x < R → dc_r2 R L ypr P → (∀ r, r < R → yd r = nI (dc_E (D s) 1000000 r)) →
      (∀ ypr' d', dc_r2 R L ypr' (dc_gr (rp s) (F s) (fun k x => dc_U R A c (D s) k x) s m (nI x) P) → post (nI R, nI L, nI H, yco, yat, ypf, ymb, ypr', yfw, yrc, yca, ytr, d', yro, yfr, ybe, yne, ycu)) → wY_graftFrom_10 post (nI s) (m + 1) (nI x) (nI i) (nI R) (nI L) (nI H) yco yat ypf ymb ypr yfw yrc yca ytr yd yro yfr ybe yne ycu := by
  have B' := B
  obtain ⟨_, hR, _, hL, c1, c15⟩ := B'
  have G := (Q s hs).1
  have IR := (Q s hs).2
  intro m
  induction m with
  | zero =>
    intro i x ypr yd P him hx hP rep h
    have e : i = R := by omega
    subst e
    exact br_t (dc_end (by omega)) (h ypr yd hP)
  | succ m ih =>
    intro i x ypr yd P him hx hP rep h
    refine br_f (dc_in (show i < R by omega) (by omega)) ?_
    by_cases zs : x = s
    · have e : rp s x = -1 := dc_isR_u (IR x hx) (Or.inl ⟨rfl, fun k hk => by rw [zs]; exact dc_Hp_s G c1 hk⟩)
      rw [dc_gr_s (by omega) e] at h
      exact br_t (by rw [zs]) (h ypr yd hP)
    · refine br_f (fun e => zs ((nI_eq (by omega) (by omega)).mp e)) ⟨vp_in_nI (by omega) (by omega), ?_⟩
      rw [dc_cl x (by omega), rep x hx]
      by_cases z : D s x < 1000
      · rw [dc_E_lt z]
        refine br_t (nI_lt (b := 1000000) (by omega) (by decide)) (dy_rpf B T G hs hx (fun v d' hv rep' => ?_))
        have ev := dc_isR_u (IR x hx) hv
        rcases dc_isR_c hv with e | ⟨k, hk, e, ak⟩
        · subst e
          rw [dc_gr_s (by omega) ev] at h
          exact br_f (by decide) (h ypr d' hP)
        · subst e
          have P' := dc_r2_u (s := s) hP hL hk 0
          refine br_t (nI_pos' (by omega)) ⟨dc_v16 s k (by omega) (by omega), nm_e ⟨dc_v16 s k (by omega) (by omega), ?_⟩⟩
          rw [dc_c16 s k (by omega)]
          refine nm_r (rF s k hs hk) ?_
          rcases hF s k hs hk with f | ⟨q, hq, f⟩
          · have E : dc_gr (rp s) (F s) (fun k x => dc_U R A c (D s) k x) s (m + 1) (nI x) P = dc_gr (rp s) (F s) (fun k x => dc_U R A c (D s) k x) s m (dc_U R A c (D s) k x) (dc_p2 P s k 0) := dc_gr_u (by omega) (by omega) ev f
            rw [E] at h
            refine br_t f (dy_upstream B T G hk hx rep' ?_)
            rcases dc_U_or R A c (D s) k x with ⟨u, _⟩ | ⟨q, hq, _, u⟩
            · rw [u]
              rw [u, dc_gr_m1] at h
              exact br_f (by decide) (h _ d' P')
            · rw [u]
              rw [u] at h
              exact br_t (nI_pos' (by omega)) (nm_r (nI_1 i) (ih (i + 1) q _ d' _ (by omega) hq P' rep' h))
          · have f' : ¬ F s k = -1 := by rw [f]; exact dc_nm1 (by omega)
            rw [dc_gr_f (by omega) (by omega) ev f', f] at h
            rw [f]
            exact br_f (dc_nm1 (by omega)) (nm_r (nI_1 i) (ih (i + 1) q _ d' _ (by omega) hq P' rep' h))
      · have e : rp s x = -1 := dc_isR_u (IR x hx) (Or.inl ⟨rfl, fun k hk => dc_Hp_i G c1 c15 hR hk hx z⟩)
        rw [dc_gr_s (by omega) e] at h
        rw [dc_E_ge z]
        exact br_f (nI_nlt (a := 1000000) (b := 1000000) (by omega) (by decide)) (h ypr yd hP)
theorem dy_graft {post : SY → Prop} {s x : Nat} {D : Nat → Nat → Nat} {rp F P : Nat → Nat → Int32} (B : dc_B R L c) (T : dc_TY R L A c yco yat) (Q : dc_DR R L A c D rp) (hs : s < R) (hx : x < R) (hF : dc_fw R L F) (rF : dc_r2 R L yfw F) (hP : dc_r2 R L ypr P)
    (h : ∀ (ypr' d' : Nat → Int32), dc_r2 R L ypr' (dc_gr (rp s) (F s) (fun k x => dc_U R A c (D s) k x) s R (nI x) P) → post (nI R, nI L, nI H, yco, yat, ypf, ymb, ypr', yfw, yrc, yca, ytr, d', yro, yfr, ybe, yne, ycu)) : wpY_graftFrom post (nI R, nI L, nI H, yco, yat, ypf, ymb, ypr, yfw, yrc, yca, ytr, yd, yro, yfr, ybe, yne, ycu) (nI s) (nI x) :=
  dy_comp B T (Q s hs).1 hs (fun d' rep => ⟨R + 1, dy_graft10 B T Q hs hF rF R 0 x ypr d' P (by omega) hx hP rep h⟩)
theorem dy_join32 {post : Int32 → SY → Prop} {x : Nat} {D : Nat → Nat → Nat} {rp F P : Nat → Nat → Int32} (B : dc_B R L c) (T : dc_TY R L A c yco yat) (Q : dc_DR R L A c D rp) (hx : x < R) (hF : dc_fw R L F) (rF : dc_r2 R L yfw F) (hP : dc_r2 R L ypr P)
    (h : ∀ (ypr' d' : Nat → Int32), dc_r2 R L ypr' (dc_jn R A c D rp F x P R) → post 1 (nI R, nI L, nI H, yco, yat, ypf, ymb, ypr', yfw, yrc, yca, ytr, d', yro, yfr, ybe, yne, ycu)) : ∃ n, wY_join_32 post (nI x) n 0 (nI R) (nI L) (nI H) yco yat ypf ymb ypr yfw yrc yca ytr yd yro yfr ybe yne ycu := by
  have hR : R ≤ 12 := B.2.1
  refine loop_0 (fun n i (w : (Nat → Int32) × (Nat → Int32)) => wY_join_32 post (nI x) n (nI i) (nI R) (nI L) (nI H) yco yat ypf ymb w.1 yfw yrc yca ytr w.2 yro yfr ybe yne ycu) (fun i w => dc_r2 R L w.1 (dc_jn R A c D rp F x P i)) R (ypr, yd) hP ?_ ?_
  · intro n w hw
    exact br_t (dc_end (by omega)) (h w.1 w.2 hw)
  · intro n i w hi hw hn
    exact br_f (dc_in hi (by omega)) (dy_graft B T Q hi hx hF rF hw (fun ypr' d' g => nm_r (nI_1 i) (hn (ypr', d') g)))
end
