theorem et_run_6 {kd pv st : Nat → Int32} {j h : Nat} (k : kd j = 6) : et_run kd pv (j + 1) st h = et_run kd pv j (upd st (h - 1) (2 - st (h - 1))) h := if_pos k
theorem et_run_4 {kd pv st : Nat → Int32} {j h : Nat} (k : kd j = 4) : et_run kd pv (j + 1) st h = et_run kd pv j (upd st (h - 2) (if st (h - 1) < st (h - 2) then st (h - 1) else st (h - 2))) (h - 1) := by
  simp only [et_run]
  rw [if_neg (by rw [k]; decide), if_pos k]
theorem et_run_5 {kd pv st : Nat → Int32} {j h : Nat} (k : kd j = 5) : et_run kd pv (j + 1) st h = et_run kd pv j (upd st (h - 2) (if st (h - 2) < st (h - 1) then st (h - 1) else st (h - 2))) (h - 1) := by
  simp only [et_run]
  rw [if_neg (by rw [k]; decide), if_neg (by rw [k]; decide), if_pos k]
theorem et_run_t {kd pv st : Nat → Int32} {j h q : Nat} (k : kd j = nI q) (hq : q < 4) : et_run kd pv (j + 1) st h = et_run kd pv j (upd st h (pv j)) (h + 1) := by
  have z := et_kq q hq
  simp only [et_run]
  rw [if_neg (by rw [k]; exact z.1), if_neg (by rw [k]; exact z.2.1), if_neg (by rw [k]; exact z.2.2.1)]
/-- what a token in place i is, on both sides -/
def et_tk (kd xa ya xn yn : Nat → Int32) (i : Nat) : Prop := ∃ q, q < 7 ∧ kd i = nI q ∧ (q < 4 → ∃ a, a < 6 ∧ xa i = nI a ∧ ya i = nI a) ∧ (1 ≤ q → q < 4 → ∃ w, w < 16 ∧ xn i = nI w ∧ yn i = nI w)
theorem et_tk_q {kd xa ya xn yn : Nat → Int32} {i : Nat} (h : et_tk kd xa ya xn yn i) : kd i = 6 ∨ kd i = 4 ∨ kd i = 5 ∨ ∃ q a w, q < 4 ∧ kd i = nI q ∧ a < 6 ∧ xa i = nI a ∧ ya i = nI a ∧ (1 ≤ q → w < 16 ∧ xn i = nI w ∧ yn i = nI w) := by
  obtain ⟨q, hq, kq, h1, h2⟩ := h
  by_cases c : q < 4
  · obtain ⟨a, ha, e1, e2⟩ := h1 c
    by_cases d : 1 ≤ q
    · obtain ⟨w, hw, e3, e4⟩ := h2 d c
      exact Or.inr (Or.inr (Or.inr ⟨q, a, w, c, kq, ha, e1, e2, fun _ => ⟨hw, e3, e4⟩⟩))
    · exact Or.inr (Or.inr (Or.inr ⟨q, a, 0, c, kq, ha, e1, e2, fun z => absurd z d⟩))
  · have : q = 4 ∨ q = 5 ∨ q = 6 := by omega
    rcases this with rfl | rfl | rfl
    · exact Or.inr (Or.inl kq)
    · exact Or.inr (Or.inr (Or.inl kq))
    · exact Or.inl kq
section
variable {zs zn tc fc : Int32} {t par nm al s vb rs kd xa xn st xs it tp fe : Nat → Int32}
theorem xw_joined4 {post : Int32 → Prop} {a b : Int32} (k : post (if a < b then a else b)) : wpX_joined post (zs, zn, tc, fc, t, par, nm, al, s, vb, rs, kd, xa, xn, st, xs, it, tp, fe) 4 a b := by
  refine br_t rfl ?_
  by_cases c : a < b
  · rw [if_pos c] at k
    exact br_f (Int32.not_le.mpr c) (br_f et_10 k)
  · rw [if_neg c] at k
    exact br_t (Int32.not_lt.mp c) (br_t rfl k)
theorem xw_joined5 {post : Int32 → Prop} {a b : Int32} (k : post (if b < a then a else b)) : wpX_joined post (zs, zn, tc, fc, t, par, nm, al, s, vb, rs, kd, xa, xn, st, xs, it, tp, fe) 5 a b := by
  refine br_f (by decide) ?_
  by_cases c : b < a
  · rw [if_pos c] at k
    exact br_f (Int32.not_le.mpr c) (br_f et_10 k)
  · rw [if_neg c] at k
    exact br_t (Int32.not_lt.mp c) (br_t rfl k)
theorem xw_truth {post : Int32 → SX → Prop} {n e g : Nat} {ya yn : Nat → Int32} (hz : zn = nI n) (hn : n ≤ 12) (hT : et_Tree t par) (he : e < 48) (te : ¬ t e = 0) (hg : g < 4)
    (hk : ∀ i, i < n → et_tk kd xa ya xn yn i) (hv : ∀ a, a < 6 → et_V (vb (e * 6 + a))) (hf : et_fx (et_op kd) n 0)
    (k : post (et_run kd (et_pv par rs vb kd xa xn g e) n st 0 0) (zs, zn, tc, fc, t, par, nm, al, s, vb, rs, kd, xa, xn, et_run kd (et_pv par rs vb kd xa xn g e) n st 0, xs, it, tp, fe)) : wpX_truthFor post (zs, zn, tc, fc, t, par, nm, al, s, vb, rs, kd, xa, xn, st, xs, it, tp, fe) (nI e) (nI g) := by
  have key : ∀ j h (st : Nat → Int32) m, h + j ≤ 12 → j ≤ n → j < m → et_fx (et_op kd) j h → post (et_run kd (et_pv par rs vb kd xa xn g e) j st h 0) (zs, zn, tc, fc, t, par, nm, al, s, vb, rs, kd, xa, xn, et_run kd (et_pv par rs vb kd xa xn g e) j st h, xs, it, tp, fe) →
      wX_truthFor_10 post (nI e) (nI g) zs zn tc fc m (nI h) (et_pos j) t par nm al s vb rs kd xa xn st xs it tp fe := by
    intro j
    induction j with
    | zero =>
      intro h st m hh hj hm hf k
      obtain ⟨m, rfl⟩ : ∃ z, m = z + 1 := ⟨m - 1, by omega⟩
      exact br_t et_m1.2.1 k
    | succ j ih =>
      intro h st m hh hj hm hf k
      obtain ⟨m, rfl⟩ : ∃ z, m = z + 1 := ⟨m - 1, by omega⟩
      have hj12 : j < 12 := by omega
      obtain ⟨f1, f2⟩ := hf
      rw [show et_pos (j + 1) = nI j from rfl]
      refine br_f (nI_pos (by omega)) ⟨et_in12 hj12, ?_⟩
      simp only [et_cl12 hj12, forall_eq]
      rcases et_tk_q (hk j (by omega)) with c | c | c | ⟨q, a, w, hq, kq, ha, e1, e2, hw⟩
      · rw [et_op_1 c] at f1 f2
        rw [et_run_6 c] at k
        obtain ⟨h, rfl⟩ : ∃ z, h = z + 1 := ⟨h - 1, by omega⟩
        have h12 : h < 12 := by omega
        refine br_t c ?_
        simp only [nI_pred, et_cl12 h12, et_in12 h12, et_pos_m, true_and, forall_eq]
        exact ih _ _ m (by omega) (by omega) (by omega) f2 k
      · rw [et_op_2 (Or.inl c)] at f1 f2
        rw [et_run_4 c] at k
        obtain ⟨h, rfl⟩ : ∃ z, h = z + 2 := ⟨h - 2, by omega⟩
        have h12 : h < 12 := by omega
        have g12 : h + 1 < 12 := by omega
        refine br_f (by rw [c]; decide) (br_t c ?_)
        simp only [wX_truthFor_64, pk_m1, nI_pred, et_cl12 h12, et_in12 h12, et_cl12 g12, et_in12 g12, et_pos_m, true_and, forall_eq, c]
        refine xw_joined4 ?_
        exact ih _ _ m (by omega) (by omega) (by omega) f2 k
      · rw [et_op_2 (Or.inr c)] at f1 f2
        rw [et_run_5 c] at k
        obtain ⟨h, rfl⟩ : ∃ z, h = z + 2 := ⟨h - 2, by omega⟩
        have h12 : h < 12 := by omega
        have g12 : h + 1 < 12 := by omega
        refine br_f (by rw [c]; decide) (br_f (by rw [c]; decide) (br_t c ?_))
        simp only [wX_truthFor_64, pk_m1, nI_pred, et_cl12 h12, et_in12 h12, et_cl12 g12, et_in12 g12, et_pos_m, true_and, forall_eq, c]
        refine xw_joined5 ?_
        exact ih _ _ m (by omega) (by omega) (by omega) f2 k
      · rw [et_op_0 kq hq] at f1 f2
        rw [et_run_t kq hq] at k
        have h12 : h < 12 := by omega
        have z := et_kq q hq
        refine br_f (by rw [kq]; exact z.1) (br_f (by rw [kq]; exact z.2.1) (br_f (by rw [kq]; exact z.2.2.1) ?_))
        refine xw_test hT he te hg hj12 hq kq ha e1 (fun z => ⟨(hw z).1, (hw z).2.1⟩) (hv a ha) ?_
        simp only [et_cl12 h12, et_in12 h12, et_pos_m, true_and, forall_eq, nI_1]
        exact ih _ _ m (by omega) (by omega) (by omega) f2 k
  subst hz
  simp only [wpX_truthFor, et_pos_s, forall_eq]
  exact ⟨n + 1, key n 0 st (n + 1) (by omega) (by omega) (by omega) hf k⟩
end
