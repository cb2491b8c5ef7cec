/-! the relation, and how the steps keep it -/
def dc_pm (R L : Nat) (P : Nat → Nat → Int32) : Prop := ∀ s k, s < R → k < L → ∃ p, p ≤ 16 ∧ P s k = nI p
def dc_RX (R L H : Nat) (A : Nat → Nat → Bool) (c : Nat → Nat) (pf mb : Nat → Int32) (D : Nat → Nat → Nat) (rp P F : Nat → Nat → Int32) (rc ca : Nat → Int32) (u : St2) : Prop := match u with
  | (xR, xL, xH, xas, xlc, xpf, xmb, xrd, xrp, xpt, xaw, xrc, xcc, _, _) => xR = nI R ∧ xL = nI L ∧ xH = nI H ∧ dc_TX R L A c xas xlc ∧ (∀ r, r < R → xpf r = pf r) ∧ (∀ r, r < R → xmb r = mb r) ∧
    (∀ s r, s < R → r < R → xrd (s * 12 + r) = nI (D s r)) ∧ (∀ s r, s < R → r < R → xrp (s * 12 + r) = rp s r) ∧ dc_r2 R L xpt P ∧ dc_r2 R L xaw F ∧ (∀ r, r < R → xrc r = rc r) ∧ (∀ k, k < L → xcc k = ca k)
theorem dc_ix (v : Int32) {n : Nat} (hn : n < 2 ^ 31) : (v < 0 ∨ (¬ v < 0 ∧ nI n ≤ v)) ∨ ∃ j : Nat, j < n ∧ v = nI j := by
  rcases pk_ix v hn with a | a | a
  · exact Or.inl (Or.inl a)
  · exact Or.inl (Or.inr ⟨fun h => Int32.not_le.mpr h (Int32.le_trans (nI_pos' hn) a), a⟩)
  · exact Or.inr a
theorem dc_fw0 (R L : Nat) : dc_fw R L (fun _ _ => -1) := fun _ _ _ _ => Or.inl rfl
theorem dc_pm0 (R L : Nat) : dc_pm R L (fun _ _ => 0) := fun _ _ _ _ => ⟨0, by omega, rfl⟩
/-- one router more, or less, on a link -/
def dc_Au (A : Nat → Nat → Bool) (j q : Nat) (b : Bool) : Nat → Nat → Bool := fun k r => if k = j ∧ r = q then b else A k r
theorem dc_TXo {R L : Nat} {A : Nat → Nat → Bool} {c : Nat → Nat} {xas xlc : Nat → Int32} (T : dc_TX R L A c xas xlc) {j q : Nat} (hj : j < L) (hq : q < R) (hR : R ≤ 12) : dc_TX R L (dc_Au A j q true) c (upd xas j (xas j ||| ((1 : Int32) <<< (nI q &&& 31)))) xlc := by
  refine ⟨T.1, fun k hk => ?_⟩
  by_cases e : k = j
  · rw [e, pk_us]
    refine dc_ms_ext (dc_ms_or (T.2 j hj) hq hR) (fun r _ => ?_)
    unfold dc_Au
    by_cases z : r = q
    · rw [if_pos z, if_pos (show j = j ∧ r = q from ⟨rfl, z⟩)]
    · rw [if_neg z, if_neg (show ¬ (j = j ∧ r = q) from fun w => z w.2)]
  · rw [pk_un e]
    refine dc_ms_ext (T.2 k hk) (fun r _ => ?_)
    unfold dc_Au
    rw [if_neg (show ¬ (k = j ∧ r = q) from fun w => e w.1)]
theorem dc_TXr {R L : Nat} {A : Nat → Nat → Bool} {c : Nat → Nat} {xas xlc : Nat → Int32} (T : dc_TX R L A c xas xlc) {j q : Nat} (hj : j < L) (hq : q < R) (hR : R ≤ 12) : dc_TX R L (dc_Au A j q false) c (upd xas j (xas j &&& (((1 : Int32) <<< (nI q &&& 31)) ^^^ (-1)))) xlc := by
  refine ⟨T.1, fun k hk => ?_⟩
  by_cases e : k = j
  · rw [e, pk_us]
    refine dc_ms_ext (dc_ms_rm (T.2 j hj) hq hR) (fun r _ => ?_)
    unfold dc_Au
    by_cases z : r = q
    · rw [if_pos z, if_pos (show j = j ∧ r = q from ⟨rfl, z⟩)]
    · rw [if_neg z, if_neg (show ¬ (j = j ∧ r = q) from fun w => z w.2)]
  · rw [pk_un e]
    refine dc_ms_ext (T.2 k hk) (fun r _ => ?_)
    unfold dc_Au
    rw [if_neg (show ¬ (k = j ∧ r = q) from fun w => e w.1)]
def dc_cu (c : Nat → Nat) (j d : Nat) : Nat → Nat := fun k => if k = j then d else c k
theorem dc_TXc {R L : Nat} {A : Nat → Nat → Bool} {c : Nat → Nat} {xas xlc : Nat → Int32} (T : dc_TX R L A c xas xlc) (j d : Nat) : dc_TX R L A (dc_cu c j d) xas (upd xlc j (nI d)) := by
  refine ⟨fun k hk => ?_, T.2⟩
  unfold dc_cu
  by_cases e : k = j
  · rw [if_pos e, e, pk_us]
  · rw [if_neg e, pk_un e]; exact T.1 k hk
theorem dc_Bc {R L : Nat} {c : Nat → Nat} (B : dc_B R L c) (j : Nat) {d : Nat} (h1 : 1 ≤ d) (h2 : d ≤ 15) : dc_B R L (dc_cu c j d) := by
  obtain ⟨b1, b2, b3, b4, b5, b6⟩ := B
  refine ⟨b1, b2, b3, b4, fun k hk => ?_, fun k hk => ?_⟩
  · unfold dc_cu
    split
    · exact h1
    · exact b5 k hk
  · unfold dc_cu
    split
    · exact h2
    · exact b6 k hk
/-- rows by router: one cell written on both sides -/
theorem dc_row {R : Nat} {x f : Nat → Int32} (h : ∀ r, r < R → x r = f r) (j : Nat) (v : Int32) : ∀ r, r < R → upd x j v r = upd f j v r := by
  intro r hr
  by_cases e : r = j
  · rw [e, pk_us, pk_us]
  · rw [pk_un e, pk_un e]; exact h r hr
/-! the grafts and a send keep the ranges -/
theorem dc_p2_pm {R L : Nat} {P : Nat → Nat → Int32} (h : dc_pm R L P) (s k : Nat) : dc_pm R L (dc_p2 P s k 0) := by
  intro s' k' hs hk
  unfold dc_p2
  split
  · exact ⟨0, by omega, rfl⟩
  · exact h s' k' hs hk
theorem dc_gr_pm {R L : Nat} {rp F : Nat → Int32} {U : Nat → Nat → Int32} {s : Nat} : ∀ (n : Nat) (x : Int32) (P : Nat → Nat → Int32), dc_pm R L P → dc_pm R L (dc_gr rp F U s n x P) := by
  intro n
  induction n with
  | zero => intro x P h; exact h
  | succ n ih =>
    intro x P h
    unfold dc_gr
    split
    · exact h
    · exact ih _ _ (dc_p2_pm h s _)
theorem dc_jn_pm {R L : Nat} {A : Nat → Nat → Bool} {c : Nat → Nat} {D : Nat → Nat → Nat} {rp F : Nat → Nat → Int32} {r : Nat} {P : Nat → Nat → Int32} (h : dc_pm R L P) : ∀ n, dc_pm R L (dc_jn R A c D rp F r P n) := by
  intro n
  induction n with
  | zero => exact h
  | succ n ih => exact dc_gr_pm R (nI r) _ ih
theorem dc_pr_pm {R L H : Nat} {rp : Nat → Int32} {t : Nat → Nat → Bool} {N : Nat → Bool} {s : Nat} {P : Nat → Nat → Int32} (h : dc_pm R L P) (hH : H ≤ 16) (i : Nat) : dc_pm R L (dc_pr R rp t N (nI H) s P i) := by
  intro s' k' hs hk
  unfold dc_pr
  split
  · exact ⟨H, hH, rfl⟩
  · exact h s' k' hs hk
theorem dc_fo_fw {R L : Nat} {t : Nat → Nat → Bool} {b : Nat → Nat → Bool} {s : Nat} {F : Nat → Nat → Int32} (h : dc_fw R L F) (i : Nat) : dc_fw R L (dc_fo R t b s F i) := by
  intro s' k' hs hk
  unfold dc_fo
  split
  · cases e : dc_bs (t k') b R with
    | none => exact Or.inl rfl
    | some q => exact Or.inr ⟨q, (dc_bs_m e).1, rfl⟩
  · exact h s' k' hs hk
/-- the needed routers being the same, the prunes are -/
theorem dc_pr_N {R L : Nat} {rp : Nat → Int32} {t : Nat → Nat → Bool} {N C : Nat → Bool} {h : Int32} {s : Nat} {P : Nat → Nat → Int32} {x : Nat → Int32} (e : ∀ y, y < R → N y = C y) (g : dc_r2 R L x (dc_pr R rp t N h s P L)) : dc_r2 R L x (dc_pr R rp t C h s P L) := by
  intro s' k' hs hk
  rw [g s' k' hs hk]
  unfold dc_pr dc_wb
  rw [dc_cn_ext (p := fun z => N z && decide (rp z = nI k')) (q := fun z => C z && decide (rp z = nI k')) (fun i hi => by show (N i && decide (rp i = nI k')) = (C i && decide (rp i = nI k')); rw [e i hi])]
