theorem et_if_01 {P : Prop} : et_if P 1 0 ||| 1 = 1 ∧ et_if P 1 0 ||| 0 = et_if P 1 0 := by
  by_cases c : P
  · rw [et_if_t c]; decide
  · rw [et_if_f c]; decide
theorem et_hit_s {x kd nu : Int32} {j : Nat} : et_hit x kd nu (j + 1) ↔ et_hit x kd nu j ∨ (bt x j = true ∧ et_cond kd nu j) := by
  constructor
  · rintro ⟨v, hv, h1, h2⟩
    by_cases c : v = j
    · subst c; exact Or.inr ⟨h1, h2⟩
    · exact Or.inl ⟨v, by omega, h1, h2⟩
  · rintro (⟨v, hv, h1, h2⟩ | ⟨h1, h2⟩)
    · exact ⟨v, by omega, h1, h2⟩
    · exact ⟨j, by omega, h1, h2⟩
theorem et_if_c {P Q : Prop} {a b : Int32} (h : P ↔ Q) : et_if P a b = et_if Q a b := by
  by_cases c : P
  · rw [et_if_t c, et_if_t (h.mp c)]
  · rw [et_if_f c, et_if_f (fun z => c (h.mpr z))]
theorem et_c1 {nu : Int32} {j : Nat} : et_cond (nI 1) nu j ↔ nI j = nu := by
  constructor
  · rintro (y | y | y | y)
    · exact absurd y (by decide)
    · exact y.2
    · exact absurd y.1 (by decide)
    · exact absurd y.1 (by decide)
  · exact fun y => Or.inr (Or.inl ⟨rfl, y⟩)
theorem et_c2 {nu : Int32} {j : Nat} : et_cond (nI 2) nu j ↔ nu ≤ nI j := by
  constructor
  · rintro (y | y | y | y)
    · exact absurd y (by decide)
    · exact absurd y.1 (by decide)
    · exact y.2
    · exact absurd y.1 (by decide)
  · exact fun y => Or.inr (Or.inr (Or.inl ⟨rfl, y⟩))
theorem et_c3 {nu : Int32} {j : Nat} : et_cond (nI 3) nu j ↔ nI j ≤ nu := by
  constructor
  · rintro (y | y | y | y)
    · exact absurd y (by decide)
    · exact absurd y.1 (by decide)
    · exact absurd y.1 (by decide)
    · exact y.2
  · exact fun y => Or.inr (Or.inr (Or.inr ⟨rfl, y⟩))
theorem et_16 {j : Nat} (h : j < 16) : ¬ (16 : Int32) ≤ nI j := nI_ge (b := 16) h (by decide)
section
variable {zn zs : Int32} {t par nm al s se ru kd ya yn st ys gn fa : Nat → Int32}
theorem yw_may {post : Int32 → Prop} {e a g : Nat} {rs : Nat → Int32} (hT : et_Tree t par) (hR : et_Ru t rs ru) (he : e < 48) (te : ¬ t e = 0) (ha : a < 6) (hg : g < 4)
    (k1 : et_mr par rs (g * 6 + a) 48 (nI e) → post 1) (k0 : ¬ et_mr par rs (g * 6 + a) 48 (nI e) → post 0) : wpY_mayRead post (zn, zs, t, par, nm, al, s, se, ru, kd, ya, yn, st, ys, gn, fa) (nI e) (nI g) (nI a) := by
  have key : ∀ f x n, et_ok t par f x → f < n → (et_mr par rs (g * 6 + a) f x → post 1) → (¬ et_mr par rs (g * 6 + a) f x → post 0) → wY_mayRead_3 post (nI g) (nI a) zn zs t par nm al s se ru kd ya yn st ys gn fa n x := by
    intro f
    induction f with
    | zero =>
      intro x n hx hn k1 k0
      obtain ⟨n, rfl⟩ : ∃ m, n = m + 1 := ⟨n - 1, by omega⟩
      obtain rfl : x = -1 := hx
      exact br_t et_m1.2.1 (k1 trivial)
    | succ f ih =>
      intro x n hx hn k1 k0
      obtain ⟨n, rfl⟩ : ∃ m, n = m + 1 := ⟨n - 1, by omega⟩
      rcases hx with hx | ⟨c, hc, tc, hx, hk⟩
      · subst hx
        exact br_t et_m1.2.1 (k1 (et_mr_n _))
      · subst hx
        rw [et_mr_e hc] at k1 k0
        have ci : (nI (c * 24 + (g * 6 + a))).toNatClampNeg = c * 24 + (g * 6 + a) := nI_clamp (by omega)
        have vi : vp_in (nI (c * 24 + (g * 6 + a))) 1152 := vp_in_nI (by omega) (by omega)
        obtain ⟨w, hw, r1, r2⟩ := hR.2 c hc tc (g * 6 + a) (by omega)
        refine br_f (et_nn hc) ?_
        simp only [et_i3', ci, vi, et_cl hc, et_in hc, r2, forall_eq, nI_1, true_and, and_true, not_false_iff, not_true, true_implies, false_implies]
        rw [r1] at k1 k0
        match w with
        | 0 => exact br_t et_ruw.1 (ih _ n hk (by omega) (fun w => k1 (Or.inl ⟨rfl, w⟩)) (fun w => k0 (fun q => q.elim (fun v => w v.2) (fun v => absurd v (by decide)))))
        | 1 => exact br_f et_ruw.2.1 (br_f et_ruw.2.2.1 (k0 (fun q => q.elim (fun v => absurd v.1 (by decide)) (fun v => absurd v (by decide)))))
        | 2 => exact br_f et_ruw.2.2.2.1 (br_t et_ruw.2.2.2.2.1 (k1 (Or.inr rfl)))
  exact ⟨49, key 48 _ 49 (et_Tree_ok hT he te) (by omega) k1 k0⟩
theorem yw_expr {post : Int32 → Prop} {n : Nat} (hz : zn = nI n) (hn : n ≤ 12) (hk : ∀ i, i < n → ∃ q, q < 7 ∧ kd i = nI q) (k1 : et_fx (et_op kd) n 0 → post 1) (k0 : ¬ et_fx (et_op kd) n 0 → post 0) : wpY_isExpression post (zn, zs, t, par, nm, al, s, se, ru, kd, ya, yn, st, ys, gn, fa) := by
  rw [et_fxy n] at k1 k0
  subst hz
  have key : ∀ r m f, r ≤ n → m + r ≤ 24 → m ≤ 1 + (n - r) → r < f → (et_fy (et_op kd) n r m → post 1) → (¬ et_fy (et_op kd) n r m → post 0) → wY_isExpression_4 post (nI n) zs t par nm al s se ru kd ya yn st ys gn fa f (nI m) (nI (n - r)) := by
    intro r
    induction r with
    | zero =>
      intro m f hr hm hm2 hf k1 k0
      obtain ⟨f, rfl⟩ : ∃ z, f = z + 1 := ⟨f - 1, by omega⟩
      refine br_t (nI_le (by omega) (by omega)) ?_
      exact pk_eq m 0 (fun z => k1 z) (fun z => k0 z)
    | succ r ih =>
      intro m f hr hm hm2 hf k1 k0
      obtain ⟨f, rfl⟩ : ∃ z, f = z + 1 := ⟨f - 1, by omega⟩
      have hi : n - (r + 1) < 12 := by omega
      have ei : n - (r + 1) + 1 = n - r := by omega
      obtain ⟨q, hq, kq⟩ := hk (n - (r + 1)) (by omega)
      refine br_f (nI_ge (by omega) (by omega)) ?_
      refine pk_eq m 0 (fun z => k0 (fun y => y.1 z)) (fun z => ⟨et_in12 hi, ?_⟩)
      simp only [et_cl12 hi, et_in12 hi, nI_1, ei, true_and, forall_eq]
      by_cases c : q < 4
      · have o := et_op_0 kq c
        refine br_f (by rw [kq]; exact (et_kq q c).2.2.2) ?_
        obtain ⟨m, rfl⟩ : ∃ y, m = y + 1 := ⟨m - 1, by omega⟩
        rw [pk_m1]
        refine ih m f (by omega) (by omega) (by omega) (by omega) (fun y => k1 ⟨z, ?_⟩) (fun y => k0 (fun x => y ?_))
        · rw [o]; exact y
        · have := x.2; rw [o] at this; exact this
      · have : q = 4 ∨ q = 5 ∨ q = 6 := by omega
        rcases this with rfl | rfl | rfl
        · have o := et_op_2 (kd := kd) (j := n - (r + 1)) (Or.inl kq)
          refine br_t (by rw [kq]; decide) (br_f (by rw [kq]; decide) ?_)
          refine ih (m + 1) f (by omega) (by omega) (by omega) (by omega) (fun y => k1 ⟨z, ?_⟩) (fun y => k0 (fun x => y ?_))
          · rw [o]; exact y
          · have := x.2; rw [o] at this; exact this
        · have o := et_op_2 (kd := kd) (j := n - (r + 1)) (Or.inr kq)
          refine br_t (by rw [kq]; decide) (br_f (by rw [kq]; decide) ?_)
          refine ih (m + 1) f (by omega) (by omega) (by omega) (by omega) (fun y => k1 ⟨z, ?_⟩) (fun y => k0 (fun x => y ?_))
          · rw [o]; exact y
          · have := x.2; rw [o] at this; exact this
        · have o := et_op_1 (kd := kd) (j := n - (r + 1)) kq
          refine br_t (by rw [kq]; decide) (br_t kq ?_)
          rw [Int32.add_zero]
          refine ih m f (by omega) (by omega) (by omega) (by omega) (fun y => k1 ⟨z, ?_⟩) (fun y => k0 (fun x => y ?_))
          · rw [o]; exact y
          · have := x.2; rw [o] at this; exact this
  have k := key n 1 (n + 1) (by omega) (by omega) (by omega) (by omega) k1 k0
  rw [Nat.sub_self] at k
  exact ⟨n + 1, k⟩
theorem yw_plain {post : Int32 → Prop} {i e g q a w : Nat} {rs vb xa xn : Nat → Int32} (hT : et_Tree t par) (hR : et_Ru t rs ru) (he : e < 48) (te : ¬ t e = 0) (hg : g < 4) (hi : i < 12) (hq : q < 4) (kq : kd i = nI q) (ha : a < 6) (kx : xa i = nI a) (ka : ya i = nI a)
    (hw : 1 ≤ q → w < 16 ∧ xn i = nI w ∧ yn i = nI w) (hv : se (e * 6 + a) = vb (e * 6 + a)) (k : post (et_pv par rs vb kd xa xn g e i)) : wpY_plain post (zn, zs, t, par, nm, al, s, se, ru, kd, ya, yn, st, ys, gn, fa) (nI i) (nI e) (nI g) := by
  have ci : (nI (e * 6 + a)).toNatClampNeg = e * 6 + a := nI_clamp (by omega)
  have vi : vp_in (nI (e * 6 + a)) 288 := vp_in_nI (by omega) (by omega)
  have ca : (nI a).toNatClampNeg = a := nI_clamp (by omega)
  have hxy : 1 ≤ q → yn i = xn i := fun z => (hw z).2.2.trans (hw z).2.1.symm
  unfold et_pv at k
  rw [kx, ca] at k
  simp only [wpY_plain, et_cl12 hi, et_in12 hi, ka, forall_eq, nI_1, true_and, and_true, not_false_iff, not_true, true_implies, false_implies]
  refine yw_may hT hR he te ha hg (fun m => br_f et_10 ?_) (fun m => br_t rfl ?_)
  · rw [et_if_t m, kq] at k
    generalize hx : vb (e * 6 + a) = x at k hv
    have key : ∀ d j n, j + d = 16 → d < n → wY_plain_23 post (nI i) (nI e) zn zs t par nm al s se ru kd ya yn st ys gn fa n (et_if (et_hit x (nI q) (xn i) j) 1 0) (nI j) := by
      intro d
      induction d with
      | zero =>
        intro j n hj hn
        obtain ⟨n, rfl⟩ : ∃ m, n = m + 1 := ⟨n - 1, by omega⟩
        obtain rfl : j = 16 := by omega
        refine br_t (by decide) ?_
        by_cases c : et_hit x (nI q) (xn i) 16
        · rw [et_if_t c] at k ⊢
          exact br_f et_10 k
        · rw [et_if_f c] at k ⊢
          exact br_t rfl k
      | succ d ih =>
        intro j n hj hn
        obtain ⟨n, rfl⟩ : ∃ m, n = m + 1 := ⟨n - 1, by omega⟩
        have h16 : j < 16 := by omega
        have nx := ih (j + 1) n (by omega) (by omega)
        rw [et_if_c et_hit_s] at nx
        simp only [wY_plain_23, wY_plain_89, wY_plain_110, et_16 h16, et_cl12 hi, et_in12 hi, ka, kq, et_i6', ci, vi, hv, et_sh1 x (v := j) (by omega), et_if_01.1, et_if_01.2, forall_eq, nI_1, true_and, and_true, not_false_iff, not_true, true_implies, false_implies]
        by_cases c : bt x j = true
        · rw [if_pos c]
          refine br_f et_10 ?_
          have yes : et_cond (nI q) (xn i) j → wY_plain_23 post (nI i) (nI e) zn zs t par nm al s se ru kd ya yn st ys gn fa n 1 (nI (j + 1)) := fun z => by
            rw [et_if_t (Or.inr ⟨c, z⟩)] at nx
            exact nx
          have no : ¬ et_cond (nI q) (xn i) j → wY_plain_23 post (nI i) (nI e) zn zs t par nm al s se ru kd ya yn st ys gn fa n (et_if (et_hit x (nI q) (xn i) j) 1 0) (nI (j + 1)) := fun z => by
            rw [et_if_c (Q := et_hit x (nI q) (xn i) j) ⟨fun y => y.elim id (fun y => absurd y.2 z), Or.inl⟩] at nx
            exact nx
          match q with
          | 0 => exact br_t rfl (yes (Or.inl rfl))
          | 1 =>
            rw [hxy (by omega)]
            exact br_f (by decide) (br_t rfl (br_c (fun z => yes (et_c1.mpr z)) (fun z => br_f (by decide) (br_f (by decide) (no (fun y => z (et_c1.mp y)))))))
          | 2 =>
            rw [hxy (by omega)]
            exact br_f (by decide) (br_f (by decide) (br_t rfl (br_c (fun z => yes (et_c2.mpr z)) (fun z => br_f (by decide) (no (fun y => z (et_c2.mp y)))))))
          | 3 =>
            rw [hxy (by omega)]
            exact br_f (by decide) (br_f (by decide) (br_f (by decide) (br_t rfl (br_c (fun z => no (fun y => Int32.not_lt.mpr (et_c3.mp y) z)) (fun z => yes (et_c3.mpr (Int32.not_lt.mp z)))))))
        · rw [if_neg c]
          refine br_t rfl ?_
          rw [et_if_c (Q := et_hit x (nI q) (xn i) j) ⟨fun z => z.elim id (fun z => absurd z.1 c), Or.inl⟩] at nx
          exact nx
    have k2 := key 16 0 17 rfl (by omega)
    rw [et_if_f (fun z => by obtain ⟨v, hv, _⟩ := z; omega)] at k2
    exact ⟨17, k2⟩
  · rw [et_if_f m] at k
    exact k
end
