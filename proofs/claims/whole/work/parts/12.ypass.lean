theorem et_le_lt {a b : Int32} (h : a ≤ b) : ¬ b < a := Int32.not_lt.mpr h
section
variable {zn zs : Int32} {t par nm al s se ru kd ya yn st ys gn fa : Nat → Int32}
theorem yw_pass {post : Int32 → SY → Prop} {n e g : Nat} {rs vb xa xn : Nat → Int32} (hz : zn = nI n) (hn : n ≤ 12) (hT : et_Tree t par) (hR : et_Ru t rs ru) (he : e < 48) (te : ¬ t e = 0) (hg : g < 4)
    (hk : ∀ i, i < n → et_tk kd xa ya xn yn i) (hv : ∀ a, a < 6 → se (e * 6 + a) = vb (e * 6 + a)) (hf : et_fx (et_op kd) n 0)
    (k1 : et_run kd (et_pv par rs vb kd xa xn g e) n st 0 0 = 2 → post 1 (zn, zs, t, par, nm, al, s, se, ru, kd, ya, yn, et_run kd (et_pv par rs vb kd xa xn g e) n st 0, ys, gn, fa))
    (k0 : ¬ et_run kd (et_pv par rs vb kd xa xn g e) n st 0 0 = 2 → post 0 (zn, zs, t, par, nm, al, s, se, ru, kd, ya, yn, et_run kd (et_pv par rs vb kd xa xn g e) n st 0, ys, gn, fa)) : wpY_passes post (zn, zs, t, par, nm, al, s, se, ru, kd, ya, yn, st, ys, gn, fa) (nI e) (nI g) := by
  have key : ∀ j h (st : Nat → Int32) m, h + j ≤ 12 → j ≤ n → j < m → et_fx (et_op kd) j h →
      (et_run kd (et_pv par rs vb kd xa xn g e) j st h 0 = 2 → post 1 (zn, zs, t, par, nm, al, s, se, ru, kd, ya, yn, et_run kd (et_pv par rs vb kd xa xn g e) j st h, ys, gn, fa)) → (¬ et_run kd (et_pv par rs vb kd xa xn g e) j st h 0 = 2 → post 0 (zn, zs, t, par, nm, al, s, se, ru, kd, ya, yn, et_run kd (et_pv par rs vb kd xa xn g e) j st h, ys, gn, fa)) →
      wY_passes_10 post (nI e) (nI g) zn zs m (nI h) (et_pos j) t par nm al s se ru kd ya yn st ys gn fa := by
    intro j
    induction j with
    | zero =>
      intro h st m hh hj hm hf k1 k0
      obtain ⟨m, rfl⟩ : ∃ z, m = z + 1 := ⟨m - 1, by omega⟩
      exact br_t et_m1.2.1 (br_c k1 k0)
    | succ j ih =>
      intro h st m hh hj hm hf k1 k0
      obtain ⟨m, rfl⟩ : ∃ z, m = z + 1 := ⟨m - 1, by omega⟩
      have hj12 : j < 12 := by omega
      obtain ⟨f1, f2⟩ := hf
      rw [show et_pos (j + 1) = nI j from rfl]
      refine br_f (nI_pos (by omega)) ⟨et_in12 hj12, ?_⟩
      simp only [et_cl12 hj12, et_in12 hj12, true_and]
      rcases et_tk_q (hk j (by omega)) with c | c | c | ⟨q, a, w, hq, kq, ha, e1, e2, hw⟩
      · rw [et_op_1 c] at f1 f2
        rw [et_run_6 c] at k1 k0
        obtain ⟨h, rfl⟩ : ∃ z, h = z + 1 := ⟨h - 1, by omega⟩
        have h12 : h < 12 := by omega
        refine br_t (by rw [c]; decide) (br_t c ?_)
        simp only [nI_pred, et_cl12 h12, et_in12 h12, et_pos_m, true_and, forall_eq]
        exact ih _ _ m (by omega) (by omega) (by omega) f2 k1 k0
      · rw [et_op_2 (Or.inl c)] at f1 f2
        rw [et_run_4 c] at k1 k0
        obtain ⟨h, rfl⟩ : ∃ z, h = z + 2 := ⟨h - 2, by omega⟩
        have h12 : h < 12 := by omega
        have g12 : h + 1 < 12 := by omega
        refine br_t (by rw [c]; decide) (br_f (by rw [c]; decide) ?_)
        simp only [wY_passes_104, wY_passes_124, pk_m1, nI_pred, et_cl12 h12, et_in12 h12, et_cl12 g12, et_in12 g12, et_cl12 hj12, et_in12 hj12, et_pos_m, true_and, forall_eq]
        have nx := ih _ _ m (by omega) (by omega) (by omega) f2 k1 k0
        simp only [show h + 2 - 1 = h + 1 from rfl, show h + 2 - 2 = h from rfl] at nx
        by_cases z : st (h + 1) < st h
        · rw [if_pos z] at nx
          exact br_f (Int32.not_le.mpr z) (br_t c (br_t trivial nx))
        · rw [if_neg z, et_upd_same] at nx
          exact br_t (Int32.not_lt.mp z) (br_t c (br_f (by decide) nx))
      · rw [et_op_2 (Or.inr c)] at f1 f2
        rw [et_run_5 c] at k1 k0
        obtain ⟨h, rfl⟩ : ∃ z, h = z + 2 := ⟨h - 2, by omega⟩
        have h12 : h < 12 := by omega
        have g12 : h + 1 < 12 := by omega
        refine br_t (by rw [c]; decide) (br_f (by rw [c]; decide) ?_)
        simp only [wY_passes_104, wY_passes_124, pk_m1, nI_pred, et_cl12 h12, et_in12 h12, et_cl12 g12, et_in12 g12, et_cl12 hj12, et_in12 hj12, et_pos_m, true_and, forall_eq]
        have nx := ih _ _ m (by omega) (by omega) (by omega) f2 k1 k0
        simp only [show h + 2 - 1 = h + 1 from rfl, show h + 2 - 2 = h from rfl] at nx
        have c4 : ¬ kd j = 4 := by rw [c]; decide
        by_cases z : st h < st (h + 1)
        · rw [if_pos z] at nx
          exact br_t (Int32.le_of_lt z) (br_f c4 (br_t trivial nx))
        · rw [if_neg z, et_upd_same] at nx
          by_cases y : st h ≤ st (h + 1)
          · have e : st (h + 1) = st h := Int32.le_antisymm (Int32.not_lt.mp z) y
            refine br_t y (br_f c4 (br_t trivial ?_))
            rw [e, et_upd_same]
            exact nx
          · exact br_f y (br_f c4 (br_f (by decide) nx))
      · rw [et_op_0 kq hq] at f1 f2
        rw [et_run_t kq hq] at k1 k0
        have h12 : h < 12 := by omega
        have z := et_kq q hq
        refine br_f (by rw [kq]; exact z.2.2.2) ?_
        refine yw_plain hT hR he te hg hj12 hq kq ha e1 e2 hw (hv a ha) ?_
        simp only [et_cl12 h12, et_in12 h12, et_pos_m, true_and, forall_eq, nI_1]
        exact ih _ _ m (by omega) (by omega) (by omega) f2 k1 k0
  subst hz
  simp only [wpY_passes, et_pos_s, forall_eq]
  exact ⟨n + 1, key n 0 st (n + 1) (by omega) (by omega) (by omega) hf k1 k0⟩
end
