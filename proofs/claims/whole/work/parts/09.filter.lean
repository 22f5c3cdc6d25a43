theorem et_ruw : nI 0 - 1 < 0 ∧ ¬ nI 1 - 1 < 0 ∧ ¬ nI 1 - 1 = 1 ∧ ¬ nI 2 - 1 < 0 ∧ nI 2 - 1 = 1 ∧ ¬ nI 1 = 0 ∧ ¬ nI 1 = 2 ∧ ¬ nI 2 = 0 := by decide
def et_pos : Nat → Int32
  | 0 => -1
  | j + 1 => nI j
theorem et_pos_s (n : Nat) : nI n - 1 = et_pos n := by
  match n with
  | 0 => decide
  | n + 1 => exact nI_pred n
theorem et_pos_m (n : Nat) : nI n + (-1) = et_pos n := by
  match n with
  | 0 => decide
  | n + 1 => exact pk_m1 n
theorem et_cl12 {i : Nat} (h : i < 12) : (nI i).toNatClampNeg = i := nI_clamp (by omega)
theorem et_in12 {i : Nat} (h : i < 12) : vp_in (nI i) 12 := vp_in_nI h (by omega)
theorem et_op_2 {kd : Nat → Int32} {j : Nat} (h : kd j = 4 ∨ kd j = 5) : et_op kd j = 2 := if_pos h
theorem et_op_1 {kd : Nat → Int32} {j : Nat} (h : kd j = 6) : et_op kd j = 1 := by
  unfold et_op
  rw [h]
  decide
theorem et_op_0 {kd : Nat → Int32} {j q : Nat} (h : kd j = nI q) (hq : q < 4) : et_op kd j = 0 := by
  have key : ∀ q, q < 4 → (if nI q = 4 ∨ nI q = 5 then 2 else if nI q = 6 then 1 else 0) = 0 := by decide
  unfold et_op
  rw [h]
  exact key q hq
theorem et_kq : ∀ q, q < 4 → ¬ nI q = 6 ∧ ¬ nI q = 4 ∧ ¬ nI q = 5 ∧ ¬ (4 : Int32) ≤ nI q := by decide
section
variable {zs zn tc fc : Int32} {t par nm al s vb rs kd xa xn st xs it tp fe : Nat → Int32}
theorem xw_may {post : Int32 → Prop} {e a g : Nat} (hT : et_Tree t par) (he : e < 48) (te : ¬ t e = 0) (ha : a < 6) (hg : g < 4)
    (k1 : et_mr par rs (g * 6 + a) 48 (nI e) → post 1) (k0 : ¬ et_mr par rs (g * 6 + a) 48 (nI e) → post 0) : wpX_mayRead post (zs, zn, tc, fc, t, par, nm, al, s, vb, rs, kd, xa, xn, st, xs, it, tp, fe) (nI e) (nI a) (nI g) := by
  have key : ∀ f x s' n, et_ok t par f x → s' + f = 48 → f < n → (et_mr par rs (g * 6 + a) f x → post 1) → (¬ et_mr par rs (g * 6 + a) f x → post 0) → wX_mayRead_6 post (nI a) (nI g) zs zn tc fc t par nm al s vb rs kd xa xn st xs it tp fe n x (nI s') := by
    intro f
    induction f with
    | zero =>
      intro x s' n hx hs hn k1 k0
      obtain ⟨n, rfl⟩ : ∃ m, n = m + 1 := ⟨n - 1, by omega⟩
      obtain rfl : s' = 48 := by omega
      exact br_t et_le48 (k1 trivial)
    | succ f ih =>
      intro x s' n hx hs hn k1 k0
      obtain ⟨n, rfl⟩ : ∃ m, n = m + 1 := ⟨n - 1, by omega⟩
      have h1 : s' < 48 := by omega
      rcases hx with hx | ⟨c, hc, tc, hx, hk⟩
      · subst hx
        exact br_f (et_ge h1) (br_t et_m1.2.1 (k1 (et_mr_n _)))
      · subst hx
        rw [et_mr_e hc] at k1 k0
        have ci : (nI (c * 24 + (g * 6 + a))).toNatClampNeg = c * 24 + (g * 6 + a) := nI_clamp (by omega)
        have vi : vp_in (nI (c * 24 + (g * 6 + a))) 1152 := vp_in_nI (by omega) (by omega)
        refine br_f (et_ge h1) (br_f (et_nn hc) ?_)
        simp only [et_i3, ci, vi, et_cl hc, et_in hc, forall_eq, nI_1, true_and, and_true, not_false_iff, not_true, true_implies, false_implies]
        by_cases z : rs (c * 24 + (g * 6 + a)) = 0
        · refine br_t z (ih _ (s' + 1) n hk (by omega) (by omega) (fun w => k1 (Or.inl ⟨z, w⟩)) (fun w => k0 (fun q => q.elim (fun v => w v.2) (fun v => ?_))))
          rw [z] at v
          exact absurd v (by decide)
        · by_cases z2 : rs (c * 24 + (g * 6 + a)) = 2
          · exact br_f z (br_t z2 (k1 (Or.inr z2)))
          · exact br_f z (br_f z2 (k0 (fun q => q.elim (fun v => z v.1) z2)))
  exact ⟨49, key 48 _ 0 49 (et_Tree_ok hT he te) rfl (by omega) k1 k0⟩
theorem xw_ops {post : Int32 → Prop} {j : Nat} (k : post (nI (et_op kd j))) : wpX_operandsOf post (zs, zn, tc, fc, t, par, nm, al, s, vb, rs, kd, xa, xn, st, xs, it, tp, fe) (kd j) := by
  by_cases a : kd j = 4
  · rw [et_op_2 (Or.inl a)] at k
    exact br_t a k
  · by_cases b : kd j = 5
    · rw [et_op_2 (Or.inr b)] at k
      exact br_f a (br_t b k)
    · by_cases c : kd j = 6
      · rw [et_op_1 c] at k
        exact br_f a (br_f b (br_t c k))
      · have e : et_op kd j = 0 := by
          unfold et_op
          rw [if_neg (fun z => z.elim a b), if_neg c]
        rw [e] at k
        exact br_f a (br_f b (br_f c k))
theorem et_op_le {kd : Nat → Int32} {j : Nat} : et_op kd j ≤ 2 := by
  unfold et_op
  split
  · omega
  · split <;> omega
theorem xw_filter {post : Int32 → Prop} {n : Nat} (hz : zn = nI n) (hn : n ≤ 12) (k1 : et_fx (et_op kd) n 0 → post 1) (k0 : ¬ et_fx (et_op kd) n 0 → post 0) : wpX_filterIsOneExpression post (zs, zn, tc, fc, t, par, nm, al, s, vb, rs, kd, xa, xn, st, xs, it, tp, fe) := by
  have key : ∀ j h m, h + j ≤ 12 → j < m → (et_fx (et_op kd) j h → post 1) → (¬ et_fx (et_op kd) j h → post 0) → wX_filterIsOneExpression_9 post zs zn tc fc t par nm al s vb rs kd xa xn st xs it tp fe m (nI h) (et_pos j) := by
    intro j
    induction j with
    | zero =>
      intro h m hh hm k1 k0
      obtain ⟨m, rfl⟩ : ∃ z, m = z + 1 := ⟨m - 1, by omega⟩
      refine br_t et_m1.2.1 ?_
      exact pk_eq h 1 (fun z => k1 z) (fun z => k0 z)
    | succ j ih =>
      intro h m hh hm k1 k0
      obtain ⟨m, rfl⟩ : ∃ z, m = z + 1 := ⟨m - 1, by omega⟩
      have hj : j < 12 := by omega
      have o2 := et_op_le (kd := kd) (j := j)
      rw [show et_pos (j + 1) = nI j from rfl]
      refine br_f (nI_pos (by omega)) ⟨et_in12 hj, ?_⟩
      simp only [et_cl12 hj]
      refine xw_ops ?_
      refine pk_le (et_op kd j) h (fun z => ?_) (fun z => k0 (fun q => absurd q.1 (by omega)))
      simp only [pk_sub z, et_pos_m, forall_eq, nI_1, true_and, and_true, not_false_iff, not_true, true_implies, false_implies]
      exact ih _ m (by omega) (by omega) (fun q => k1 ⟨z, q⟩) (fun q => k0 (fun y => q y.2))
  subst hz
  simp only [wpX_filterIsOneExpression, et_pos_s, forall_eq, nI_1, true_and, and_true, not_false_iff, not_true, true_implies, false_implies]
  exact ⟨n + 1, key n 0 (n + 1) (by omega) (by omega) k1 k0⟩
theorem xw_bits {q w : Nat} {nu : Int32} (hq : q < 4) (hw : 1 ≤ q → w < 16 ∧ nu = nI w) : ∃ m : Int32, (∀ i, i < 16 → (bt m i = true ↔ et_cond (nI q) nu i)) ∧ ∀ post : Int32 → Prop, post m → wpX_bitsThatMatch post (zs, zn, tc, fc, t, par, nm, al, s, vb, rs, kd, xa, xn, st, xs, it, tp, fe) (nI q) nu := by
  match q with
  | 0 => exact ⟨-1, et_mk0, fun post k => br_t (by decide) k⟩
  | 1 =>
    obtain ⟨hw2, rfl⟩ := hw (by omega)
    exact ⟨_, et_mk1 hw2, fun post k => br_f (by decide) (br_f (by decide) (br_t rfl k))⟩
  | 2 =>
    obtain ⟨hw2, rfl⟩ := hw (by omega)
    exact ⟨_, et_mk2 hw2, fun post k => br_f (by decide) (br_f (by decide) (br_f (by decide) (br_t rfl k)))⟩
  | 3 =>
    obtain ⟨hw2, rfl⟩ := hw (by omega)
    exact ⟨_, et_mk3 hw2, fun post k => br_f (by decide) (br_f (by decide) (br_f (by decide) (br_f (by decide) (br_t rfl k))))⟩
theorem xw_test {post : Int32 → Prop} {i e g q a w : Nat} (hT : et_Tree t par) (he : e < 48) (te : ¬ t e = 0) (hg : g < 4) (hi : i < 12) (hq : q < 4) (kq : kd i = nI q) (ha : a < 6) (ka : xa i = nI a)
    (hw : 1 ≤ q → w < 16 ∧ xn i = nI w) (hv : et_V (vb (e * 6 + a))) (k : post (et_pv par rs vb kd xa xn g e i)) : wpX_truthOfTest post (zs, zn, tc, fc, t, par, nm, al, s, vb, rs, kd, xa, xn, st, xs, it, tp, fe) (nI i) (nI e) (nI g) := by
  have ci : (nI (e * 6 + a)).toNatClampNeg = e * 6 + a := nI_clamp (by omega)
  have vi : vp_in (nI (e * 6 + a)) 288 := vp_in_nI (by omega) (by omega)
  have ca : (nI a).toNatClampNeg = a := nI_clamp (by omega)
  unfold et_pv at k
  rw [ka, ca] at k
  simp only [wpX_truthOfTest, et_cl12 hi, et_in12 hi, ka, kq, forall_eq, nI_1, true_and, and_true, not_false_iff, not_true, true_implies, false_implies]
  refine xw_may hT he te ha hg (fun m => br_f et_10 ?_) (fun m => br_t rfl ?_)
  · rw [et_if_t m] at k
    simp only [et_i6, ci, vi, forall_eq, nI_1, true_and, and_true, not_false_iff, not_true, true_implies, false_implies]
    obtain ⟨m, hm, hb⟩ := xw_bits (zs := zs) (zn := zn) (tc := tc) (fc := fc) (t := t) (par := par) (nm := nm) (al := al) (s := s) (vb := vb) (rs := rs) (kd := kd) (xa := xa) (xn := xn) (st := st) (xs := xs) (it := it) (tp := tp) (fe := fe) (q := q) (w := w) (nu := xn i) hq hw
    refine hb _ ?_
    have h := et_hm hv hm
    rw [kq] at k
    by_cases c : et_hit (vb (e * 6 + a)) (nI q) (xn i) 16
    · rw [et_if_t c] at k
      exact br_f (h.mpr c) k
    · rw [et_if_f c] at k
      exact br_t (Classical.byContradiction fun z => c (h.mp z)) k
  · rw [et_if_f m] at k
    exact k
end
