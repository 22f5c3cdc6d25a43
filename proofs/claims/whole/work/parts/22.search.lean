theorem et_md : ∀ m, m < 4 → ((nI m &&& 1 = 0 ∧ ¬ nI m &&& 1 = 1) ∨ (¬ nI m &&& 1 = 0 ∧ nI m &&& 1 = 1)) ∧ ((nI m &&& 2 = 0 ∧ ¬ nI m &&& 2 = 2) ∨ (¬ nI m &&& 2 = 0 ∧ nI m &&& 2 = 2)) := by decide
theorem et_r2 {p : Int32} (h : ¬ et_rg 3 p) : p < 0 ∨ ¬ p ≤ 2 := by
  rcases pk_ix p (n := 3) (by omega) with h1 | h1 | ⟨j, h1, h2⟩
  · exact Or.inl h1
  · refine Or.inr (fun z => ?_)
    rw [et_le] at h1 z
    have e3 : (nI 3).toInt = 3 := by decide
    have e2 : (2 : Int32).toInt = 2 := by decide
    omega
  · exact (h ⟨j, h1, h2⟩).elim
theorem et_sc2 : ∀ sc, sc < 3 → ¬ nI sc < 0 ∧ nI sc ≤ 2 := by decide
theorem et_Fd_0 {fe fa : Nat → Int32} (h : ∀ x, x < 48 → fa x = 0) : et_Fd 0 fe fa := by
  refine ⟨?_, fun e he z => absurd (h e he) z⟩
  rw [et_cn_0 (fun x hx z => z (h x hx))]
  rfl
theorem et_Fd_c {P : Nat → Prop} {fe fa : Nat → Int32} (h1 : ∀ x, x < 48 → P x → fe (et_cn P x) = nI x) (h2 : ∀ x, x < 48 → (¬ fa x = 0 ↔ P x)) : et_Fd (nI (et_cn P 48)) fe fa := by
  refine ⟨congrArg nI (et_cn_congr (fun x hx => (h2 x hx).symm)), fun e he z => ?_⟩
  rw [et_cn_congr (P := fun e => ¬ fa e = 0) (Q := P) (fun x hx => h2 x (by omega))]
  exact h1 e he ((h2 e he).mp z)
section
variable {tc fc : Int32} {t par nm al s vb rs kd xa xn st xs it tp fe se ru ya yn ys gn fa : Nat → Int32} {sn n : Nat}
theorem et_I_fd (h : et_I t par al s vb se rs ru sn n kd xa ya xn yn fc fe fa) {fc' : Int32} {fe' fa' : Nat → Int32} (h' : et_Fd fc' fe' fa') : et_I t par al s vb se rs ru sn n kd xa ya xn yn fc' fe' fa' := by
  obtain ⟨g1, g2, g3, g4, g5, g6, g7, _⟩ := h
  exact ⟨g1, g2, g3, g4, g5, g6, g7, h'⟩
theorem xv_92 (h : et_I t par al s vb se rs ru sn n kd xa ya xn yn fc fe fa) {post : Int32 → SX → Prop} {b sc g : Nat} {i01 : Int32} {inn : Prop} (hi : (¬ i01 = 0) = inn) (hb : b < 48) (tb : ¬ t b = 0) (hsc : sc < 3) (hg : g < 4) (hf : et_fx (et_op kd) n 0)
    (K : ∀ (tc' : Int32) (xs' it' tp' fe' : Nat → Int32), (∀ x, x < 48 → et_fi (et_FF t par al sc inn b) (fun e st => et_run kd (et_pv par rs vb kd xa xn g e) n st 0) st x → fe' (et_cn (et_fi (et_FF t par al sc inn b) (fun e st => et_run kd (et_pv par rs vb kd xa xn g e) n st 0) st) x) = nI x) →
      post (nI (et_cn (et_fi (et_FF t par al sc inn b) (fun e st => et_run kd (et_pv par rs vb kd xa xn g e) n st 0) st) 48)) (nI sn, nI n, tc', nI (et_cn (et_fi (et_FF t par al sc inn b) (fun e st => et_run kd (et_pv par rs vb kd xa xn g e) n st 0) st) 48), t, par, nm, al, s, vb, rs, kd, xa, xn, et_col (et_FF t par al sc inn b) (fun e st => et_run kd (et_pv par rs vb kd xa xn g e) n st 0) st 48, xs', it', tp', fe')) :
    wX_search_92 post (nI g) i01 (nI sc) (nI b) (nI sn) (nI n) tc 0 t par nm al s vb rs kd xa xn st xs it tp fe := by
  subst hi
  unfold wX_search_92
  refine xw_marks h.1 h.2.1 hb tb hsc (fun tc' sr it' tp' hsr => ?_)
  refine xw_collect (ya := ya) (yn := yn) h.2.2.2.2.2.2.1.1 h.1 hg h.2.2.2.2.2.2.1.2 (fun e he te a ha => (h.2.2.2.1.2 e he te a ha).1) hf hsr (fun x hx => et_FF_t hx) (fun fe' hfe => ?_)
  exact K tc' sr it' tp' fe' hfe
theorem yv_98 (h : et_I t par al s vb se rs ru sn n kd xa ya xn yn fc fe fa) {post : Int32 → SY → Prop} {b sc m g : Nat} {inn : Prop} (hm : (inn = True ∧ nI m &&& 1 = 1) ∨ (inn = False ∧ ¬ nI m &&& 1 = 1)) (hb : b < 48) (tb : ¬ t b = 0) (hsc : sc < 3) (hg : g < 4) (hf : et_fx (et_op kd) n 0)
    {ys0 gn0 fa0 : Nat → Int32} (hy : ∀ x, x < 48 → ys0 x = 0) (hgn : ∀ x, x < 48 → gn0 x = 0)
    (K : ∀ (ys' gn' fa' : Nat → Int32), (∀ x, x < 48 → (¬ fa' x = 0 ↔ et_fi (et_FF t par al sc inn b) (fun e st => et_run kd (et_pv par rs vb kd xa xn g e) n st 0) st x)) →
      post (nI (et_cn (et_fi (et_FF t par al sc inn b) (fun e st => et_run kd (et_pv par rs vb kd xa xn g e) n st 0) st) 48)) (nI n, nI sn, t, par, nm, al, s, se, ru, kd, ya, yn, et_col (et_FF t par al sc inn b) (fun e st => et_run kd (et_pv par rs vb kd xa xn g e) n st 0) st 48, ys', gn', fa')) :
    wY_search_98 post (nI sc) (nI m) (nI g) (nI b) (nI n) (nI sn) t par nm al s se ru kd ya yn st ys0 gn0 fa0 := by
  have col : ∀ sr gn : Nat → Int32, et_J t par al sc inn b sr gn → et_Jc al inn b sr gn 48 → ∃ m, wY_search_240 post (nI g) m 0 0 (nI n) (nI sn) t par nm al s se ru kd ya yn st sr gn fa0 := fun sr gn J Jc =>
    yw_collect h.2.2.2.2.2.2.1.1 h.1 h.2.2.2.2.1 hg h.2.2.2.2.2.2.1.2 (fun e he te a ha => (h.2.2.2.1.2 e he te a ha).2) hf (et_J_f J Jc) (fun x hx => et_FF_t hx) (fun fa' hfa => K sr gn fa' hfa)
  refine br_t (nI_pos' (by omega)) (yw_mark h.1 hb hsc (fun sr hsr => ?_))
  have B : ∀ x, x < 48 → (¬ sr x = 0 ↔ et_mw t par sc b x) := fun x hx => (hsr x hx).trans ⟨fun z => z.elim (fun y => absurd (hy x hx) y) id, Or.inr⟩
  have J : et_J t par al sc inn b sr gn0 := ⟨fun x hx z => et_M_b hx ((B x hx).mp z), fun x hx z => (B x hx).mpr z, fun e he z => absurd (hgn e he) z, fun e he z => absurd (hgn e he) z⟩
  rcases hm with ⟨e1, e2⟩ | ⟨e1, e2⟩
  · subst e1
    exact br_t e2 ⟨50, (yw_loop h.1 h.2.1 hb hsc col 48 sr gn0 J).2 (by omega)⟩
  · refine br_f e2 ⟨1, br_t rfl (col sr gn0 J (fun e _ _ z => ?_))⟩
    rw [e1] at z
    exact z.1.elim
end
section
variable {zn zs : Int32} {t par nm al s se ru kd ya yn st ys gn fa : Nat → Int32}
theorem yw_sinit {post : Int32 → SY → Prop} {v1 v2 v3 v4 : Int32} (k : ∀ m (ys0 gn0 fa0 : Nat → Int32), (∀ x, x < 48 → ys0 x = 0) → (∀ x, x < 48 → gn0 x = 0) → (∀ x, x < 48 → fa0 x = 0) → wY_search_3 post v1 v2 v3 v4 zn zs (m + 1) (nI 48) t par nm al s se ru kd ya yn st ys0 gn0 fa0) : wpY_search post (zn, zs, t, par, nm, al, s, se, ru, kd, ya, yn, st, ys, gn, fa) v1 v2 v3 v4 := by
  have key : ∀ d e n (ys0 gn0 fa0 : Nat → Int32), e + d = 48 → d < n → (∀ x, x < e → ys0 x = 0) → (∀ x, x < e → gn0 x = 0) → (∀ x, x < e → fa0 x = 0) → wY_search_3 post v1 v2 v3 v4 zn zs n (nI e) t par nm al s se ru kd ya yn st ys0 gn0 fa0 := by
    intro d
    induction d with
    | zero =>
      intro e n ys0 gn0 fa0 he hn h1 h2 h3
      obtain ⟨n, rfl⟩ : ∃ m, n = m + 1 := ⟨n - 1, by omega⟩
      obtain rfl : e = 48 := by omega
      exact k n ys0 gn0 fa0 h1 h2 h3
    | succ d ih =>
      intro e n ys0 gn0 fa0 he hn h1 h2 h3
      obtain ⟨n, rfl⟩ : ∃ m, n = m + 1 := ⟨n - 1, by omega⟩
      have he48 : e < 48 := by omega
      have z : ∀ f : Nat → Int32, (∀ x, x < e → f x = 0) → ∀ x, x < e + 1 → upd f e 0 x = 0 := fun f hf x hx => by
        by_cases q : x = e
        · subst q; exact pk_us
        · rw [pk_un q]; exact hf x (by omega)
      refine br_f (et_ge he48) ?_
      simp only [et_cl he48, et_in he48, et_bo.2, forall_eq, nI_1, true_and, and_true, not_false_iff, not_true, true_implies, false_implies]
      exact ih (e + 1) n _ _ _ (by omega) (by omega) (z ys0 h1) (z gn0 h2) (z fa0 h3)
  exact ⟨49, key 48 0 49 ys gn fa rfl (by omega) (fun x hx => absurd hx (Nat.not_lt_zero _)) (fun x hx => absurd hx (Nat.not_lt_zero _)) (fun x hx => absurd hx (Nat.not_lt_zero _))⟩
end
section
variable {tc fc : Int32} {t par nm al s vb rs kd xa xn st xs it tp fe se ru ya yn ys gn fa : Nat → Int32} {sn n : Nat}
theorem ev_search (h : et_I t par al s vb se rs ru sn n kd xa ya xn yn fc fe fa) (k : Nat) (v1 v2 v3 v4 : Int32) : wpX_search (fun r u' => wpY_search (fun r' v' => r' = r ∧ i_Rel k u' v') (nI n, nI sn, t, par, nm, al, s, se, ru, kd, ya, yn, st, ys, gn, fa) v1 v2 v3 v4) (nI sn, nI n, tc, fc, t, par, nm, al, s, vb, rs, kd, xa, xn, st, xs, it, tp, fe) v1 v2 v3 v4 := by
  have hT := h.1
  have hA := h.2.1
  have hn12 := h.2.2.2.2.2.2.1.1
  have hkd : ∀ i, i < n → ∃ q, q < 7 ∧ kd i = nI q := fun i hi => by
    obtain ⟨q, hq, e, _⟩ := h.2.2.2.2.2.2.1.2 i hi
    exact ⟨q, hq, e⟩
  have F0 : ∀ ys0 gn0 fa0 : Nat → Int32, (∀ x, x < 48 → fa0 x = 0) → i_Rel k (nI sn, nI n, tc, 0, t, par, nm, al, s, vb, rs, kd, xa, xn, st, xs, it, tp, fe) (nI n, nI sn, t, par, nm, al, s, se, ru, kd, ya, yn, st, ys0, gn0, fa0) := fun ys0 gn0 fa0 z => et_mk (et_I_fd h (et_Fd_0 z))
  unfold wpX_search
  by_cases c1 : et_is t v1
  · obtain ⟨b0, hb0, rfl, tb0⟩ := c1
    refine xw_is_t hb0 tb0 (br_f et_10 ?_)
    by_cases c2 : et_rg 3 v2
    · obtain ⟨sc, hsc, rfl⟩ := c2
      obtain ⟨p1, p2⟩ := et_sc2 sc hsc
      refine br_f p1 (br_t p2 ?_)
      by_cases c3 : et_rg 4 v3
      · obtain ⟨m, hm, rfl⟩ := c3
        refine et_rg_t (n := 4) (by omega) hm ?_
        by_cases c4 : et_rg 4 v4
        · obtain ⟨g, hg, rfl⟩ := c4
          refine xw_gr_t hg (br_f et_10 (xw_filter rfl hn12 (fun hf => br_f et_10 ?_) (fun hf => br_t rfl ?_)))
          · obtain ⟨m1, m2⟩ := et_md m hm
            have fin : ∀ b, b < 48 → ¬ t b = 0 → (∀ post : Int32 → SY → Prop, ∀ ys0 gn0 fa0 : Nat → Int32, wY_search_98 post (nI sc) (nI m) (nI g) (nI b) (nI n) (nI sn) t par nm al s se ru kd ya yn st ys0 gn0 fa0 → ((nI m &&& 2 = 2 → wpY_leadsTo (fun r => wY_search_98 post (nI sc) (nI m) (nI g) r (nI n) (nI sn) t par nm al s se ru kd ya yn st ys0 gn0 fa0) (nI n, nI sn, t, par, nm, al, s, se, ru, kd, ya, yn, st, ys0, gn0, fa0) (nI b0)) ∧ (¬ nI m &&& 2 = 2 → wY_search_98 post (nI sc) (nI m) (nI g) (nI b0) (nI n) (nI sn) t par nm al s se ru kd ya yn st ys0 gn0 fa0))) →
                wX_search_66 (fun r u' => wpY_search (fun r' v' => r' = r ∧ i_Rel k u' v') (nI n, nI sn, t, par, nm, al, s, se, ru, kd, ya, yn, st, ys, gn, fa) (nI b0) (nI sc) (nI m) (nI g)) (nI sc) (nI m) (nI g) (nI b) (nI sn) (nI n) tc 0 t par nm al s vb rs kd xa xn st xs it tp fe := by
              intro b hb tb yl
              refine br_f (et_ne2 hb) ?_
              rcases m1 with ⟨z1, z2⟩ | ⟨z1, z2⟩
              · refine br_t z1 (xv_92 (inn := False) h (eq_false (fun z => z rfl)) hb tb hsc hg hf (fun tc' xs' it' tp' fe' hfe => ?_))
                refine yw_sinit (fun f ys0 gn0 fa0 w1 w2 w3 => br_t et_le48 (yw_is_t hb0 tb0 (br_f et_10 (yw_in_t (n := 3) (by omega) rfl hsc (br_f et_10 (yw_in_t (n := 4) (by omega) rfl hm (br_f et_10 (yw_in_t (n := 4) (by omega) rfl hg (br_f et_10 (yw_expr rfl hn12 hkd (fun _ => br_f et_10 ?_) (fun z => absurd hf z)))))))))))
                refine yl _ ys0 gn0 fa0 ?_
                refine yv_98 (inn := False) h (Or.inr ⟨rfl, z2⟩) hb tb hsc hg hf w1 w2 (fun ys' gn' fa' hfa => ⟨rfl, ?_⟩)
                exact et_mk (et_I_fd h (et_Fd_c hfe hfa))
              · refine br_f z1 (xv_92 (inn := True) h (eq_true et_10) hb tb hsc hg hf (fun tc' xs' it' tp' fe' hfe => ?_))
                refine yw_sinit (fun f ys0 gn0 fa0 w1 w2 w3 => br_t et_le48 (yw_is_t hb0 tb0 (br_f et_10 (yw_in_t (n := 3) (by omega) rfl hsc (br_f et_10 (yw_in_t (n := 4) (by omega) rfl hm (br_f et_10 (yw_in_t (n := 4) (by omega) rfl hg (br_f et_10 (yw_expr rfl hn12 hkd (fun _ => br_f et_10 ?_) (fun z => absurd hf z)))))))))))
                refine yl _ ys0 gn0 fa0 ?_
                refine yv_98 (inn := True) h (Or.inl ⟨rfl, z2⟩) hb tb hsc hg hf w1 w2 (fun ys' gn' fa' hfa => ⟨rfl, ?_⟩)
                exact et_mk (et_I_fd h (et_Fd_c hfe hfa))
            rcases m2 with ⟨z1, z2⟩ | ⟨z1, z2⟩
            · exact br_t z1 (fin b0 hb0 tb0 (fun post ys0 gn0 fa0 K => br_f z2 K))
            · refine br_f z1 (xw_leads hA hb0 tb0 ?_)
              rcases et_ld_c hA 48 (nI b0) (Or.inr ⟨b0, hb0, tb0, rfl⟩) with q | ⟨c, hc, jc, ac, q⟩
              · rw [q]
                refine br_t rfl ?_
                refine yw_sinit (fun f ys0 gn0 fa0 w1 w2 w3 => br_t et_le48 (yw_is_t hb0 tb0 (br_f et_10 (yw_in_t (n := 3) (by omega) rfl hsc (br_f et_10 (yw_in_t (n := 4) (by omega) rfl hm (br_f et_10 (yw_in_t (n := 4) (by omega) rfl hg (br_f et_10 (yw_expr rfl hn12 hkd (fun _ => br_f et_10 (br_t z2 (yw_leads hA hb0 tb0 ?_))) (fun z => absurd hf z)))))))))))
                rw [q]
                exact br_f (by decide) ⟨rfl, F0 ys0 gn0 fa0 w3⟩
              · rw [q]
                refine fin c hc jc (fun post ys0 gn0 fa0 K => br_t z2 (yw_leads hA hb0 tb0 ?_))
                rw [q]
                exact K
          · refine yw_sinit (fun f ys0 gn0 fa0 w1 w2 w3 => br_t et_le48 (yw_is_t hb0 tb0 (br_f et_10 (yw_in_t (n := 3) (by omega) rfl hsc (br_f et_10 (yw_in_t (n := 4) (by omega) rfl hm (br_f et_10 (yw_in_t (n := 4) (by omega) rfl hg (br_f et_10 (yw_expr rfl hn12 hkd (fun z => absurd z hf) (fun _ => br_t rfl ?_)))))))))))
            exact ⟨rfl, F0 ys0 gn0 fa0 w3⟩
        · refine xw_gr_f c4 (br_t rfl ?_)
          refine yw_sinit (fun f ys0 gn0 fa0 w1 w2 w3 => br_t et_le48 (yw_is_t hb0 tb0 (br_f et_10 (yw_in_t (n := 3) (by omega) rfl hsc (br_f et_10 (yw_in_t (n := 4) (by omega) rfl hm (br_f et_10 (yw_in_f (n := 4) (by omega) rfl c4 (br_t rfl ?_)))))))))
          exact ⟨rfl, F0 ys0 gn0 fa0 w3⟩
      · refine et_rg_f (n := 4) (by omega) c3 ?_
        refine yw_sinit (fun f ys0 gn0 fa0 w1 w2 w3 => br_t et_le48 (yw_is_t hb0 tb0 (br_f et_10 (yw_in_t (n := 3) (by omega) rfl hsc (br_f et_10 (yw_in_f (n := 4) (by omega) rfl c3 (br_t rfl ?_)))))))
        exact ⟨rfl, F0 ys0 gn0 fa0 w3⟩
    · have y2 : wpY_search (fun r' v' => r' = -1 ∧ i_Rel k (nI sn, nI n, tc, 0, t, par, nm, al, s, vb, rs, kd, xa, xn, st, xs, it, tp, fe) v') (nI n, nI sn, t, par, nm, al, s, se, ru, kd, ya, yn, st, ys, gn, fa) (nI b0) v2 v3 v4 := by
        refine yw_sinit (fun f ys0 gn0 fa0 w1 w2 w3 => br_t et_le48 (yw_is_t hb0 tb0 (br_f et_10 (yw_in_f (n := 3) (by omega) rfl c2 (br_t rfl ?_)))))
        exact ⟨rfl, F0 ys0 gn0 fa0 w3⟩
      rcases et_r2 c2 with z | z
      · exact br_t z y2
      · exact br_c (fun _ => y2) (fun _ => br_f z y2)
  · refine xw_is_f c1 (br_t rfl ?_)
    refine yw_sinit (fun f ys0 gn0 fa0 w1 w2 w3 => br_t et_le48 (yw_is_f c1 (br_t rfl ?_)))
    exact ⟨rfl, F0 ys0 gn0 fa0 w3⟩
end
