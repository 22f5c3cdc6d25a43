section
variable {tc fc : Int32} {t par nm al s vb rs kd xa xn st xs it tp fe se ru ya yn ys gn fa : Nat → Int32} {sn n : Nat}
theorem ev_rule (h : et_I t par al s vb se rs ru sn n kd xa ya xn yn fc fe fa) (v1 v2 v3 v4 : Int32) : ∃ r u' v', (∀ post, post r u' → wpX_rule post (nI sn, nI n, tc, fc, t, par, nm, al, s, vb, rs, kd, xa, xn, st, xs, it, tp, fe) v1 v2 v3 v4) ∧ (∀ post, post r v' → wpY_rule post (nI n, nI sn, t, par, nm, al, s, se, ru, kd, ya, yn, st, ys, gn, fa) v1 v2 v3 v4) ∧ ∀ k, i_Rel k u' v' := by
  have same : ∀ k, i_Rel k (nI sn, nI n, tc, fc, t, par, nm, al, s, vb, rs, kd, xa, xn, st, xs, it, tp, fe) (nI n, nI sn, t, par, nm, al, s, se, ru, kd, ya, yn, st, ys, gn, fa) := fun k => et_mk h
  by_cases c1 : et_is t v1
  · obtain ⟨e, he, rfl, te⟩ := c1
    by_cases c2 : et_rg 4 v2
    · obtain ⟨g, hg, rfl⟩ := c2
      by_cases c3 : et_rg 6 v3
      · obtain ⟨a, ha, rfl⟩ := c3
        by_cases c4 : et_rg 3 (v4 + 1)
        · obtain ⟨w, hw, ew⟩ := c4
          obtain ⟨z1, z2, z3⟩ := et_z1 hw ew
          have ci : (nI (e * 24 + (g * 6 + a))).toNatClampNeg = e * 24 + (g * 6 + a) := nI_clamp (by omega)
          have vi : vp_in (nI (e * 24 + (g * 6 + a))) 1152 := vp_in_nI (by omega) (by omega)
          refine ⟨1, (nI sn, nI n, tc, fc, t, par, nm, al, s, vb, upd rs (e * 24 + (g * 6 + a)) (nI w), kd, xa, xn, st, xs, it, tp, fe), (nI n, nI sn, t, par, nm, al, s, se, upd ru (e * 24 + (g * 6 + a)) v4, kd, ya, yn, st, ys, gn, fa), fun post K => ?_, fun post K => ?_, fun k => ?_⟩
          · unfold wpX_rule
            refine xw_is_t he te (br_f et_10 (xw_gr_t hg (br_f et_10 (xw_at_t ha (br_f et_10 (br_f z2 (br_t z3 ?_)))))))
            simp only [et_i3, ci, vi, ew, true_and, forall_eq]
            exact K
          · unfold wpY_rule
            refine yw_is_t he te (br_f et_10 (yw_in_t (n := 4) (by omega) rfl hg (br_f et_10 (yw_in_t (n := 6) (by omega) rfl ha (br_f et_10 ?_)))))
            rw [ew]
            refine yw_in_t (n := 3) (by omega) rfl hw (br_f et_10 ?_)
            simp only [et_i3', ci, vi, true_and, forall_eq]
            exact K
          · exact et_mk (et_I_rul h he te (by omega) hw z1)
        · refine ⟨0, _, _, fun post K => ?_, fun post K => ?_, same⟩
          · unfold wpX_rule
            refine xw_is_t he te (br_f et_10 (xw_gr_t hg (br_f et_10 (xw_at_t ha (br_f et_10 ?_)))))
            exact (et_z2 c4).elim (fun z => br_t z K) (fun z => br_c (fun _ => K) (fun _ => br_f z K))
          · unfold wpY_rule
            exact yw_is_t he te (br_f et_10 (yw_in_t (n := 4) (by omega) rfl hg (br_f et_10 (yw_in_t (n := 6) (by omega) rfl ha (br_f et_10 (yw_in_f (n := 3) (by omega) rfl c4 (br_t rfl K)))))))
      · refine ⟨0, _, _, fun post K => ?_, fun post K => ?_, same⟩
        · unfold wpX_rule
          exact xw_is_t he te (br_f et_10 (xw_gr_t hg (br_f et_10 (xw_at_f c3 (br_t rfl K)))))
        · unfold wpY_rule
          exact yw_is_t he te (br_f et_10 (yw_in_t (n := 4) (by omega) rfl hg (br_f et_10 (yw_in_f (n := 6) (by omega) rfl c3 (br_t rfl K)))))
    · refine ⟨0, _, _, fun post K => ?_, fun post K => ?_, same⟩
      · unfold wpX_rule
        exact xw_is_t he te (br_f et_10 (xw_gr_f c2 (br_t rfl K)))
      · unfold wpY_rule
        exact yw_is_t he te (br_f et_10 (yw_in_f (n := 4) (by omega) rfl c2 (br_t rfl K)))
  · refine ⟨0, _, _, fun post K => ?_, fun post K => ?_, same⟩
    · unfold wpX_rule
      exact xw_is_f c1 (br_t rfl K)
    · unfold wpY_rule
      exact yw_is_f c1 (br_t rfl K)
theorem et_I_tok (h : et_I t par al s vb se rs ru sn n kd xa ya xn yn fc fe fa) {x1 x2 x3 y2 y3 : Int32} (hn : n < 12) {q : Nat} (hq : q < 7) (e1 : x1 = nI q) (h1 : q < 4 → ∃ a, a < 6 ∧ x2 = nI a ∧ y2 = nI a) (h2 : 1 ≤ q → q < 4 → ∃ w, w < 16 ∧ x3 = nI w ∧ y3 = nI w) :
    et_I t par al s vb se rs ru sn (n + 1) (upd kd n x1) (upd xa n x2) (upd ya n y2) (upd xn n x3) (upd yn n y3) fc fe fa := by
  obtain ⟨g1, g2, g3, g4, g5, g6, g7, g8⟩ := h
  refine ⟨g1, g2, g3, g4, g5, g6, ⟨by omega, fun i hi => ?_⟩, g8⟩
  by_cases c : i = n
  · subst c
    refine ⟨q, hq, by rw [pk_us]; exact e1, ?_, ?_⟩
    · rw [pk_us, pk_us]; exact h1
    · rw [pk_us, pk_us]; exact h2
  · have z := g7.2 i (by omega)
    unfold et_tk at z ⊢
    rw [pk_un c, pk_un c, pk_un c, pk_un c, pk_un c]
    exact z
theorem et_12 {n : Nat} (h : n < 12) : ¬ (12 : Int32) ≤ nI n ∧ ¬ nI n = 12 := ⟨nI_ge (b := 12) h (by decide), fun z => by have := (nI_eq (a := n) (b := 12) (by omega) (by omega)).mp z; omega⟩
theorem et_q7 : ∀ q, q < 7 → ¬ nI q < 0 ∧ nI q ≤ 6 ∧ (q < 4 → ¬ (3 : Int32) < nI q ∧ ¬ (4 : Int32) ≤ nI q) ∧ (¬ q < 4 → (3 : Int32) < nI q ∧ (4 : Int32) ≤ nI q ∧ ¬ nI q - 1 < 0 ∧ (3 : Int32) ≤ nI q - 1) ∧ (q = 0 → nI q - 1 < 0) ∧ (1 ≤ q → nI q - 1 = nI (q - 1)) := by decide
theorem yw_tok_any {post : Int32 → SY → Prop} {v1 v2 v3 : Int32} {zn zs : Int32} (k : wY_token_42 post v1 v2 v3 zn zs t par nm al s se ru kd ya yn st ys gn fa) (b : post (-1) (zn, zs, t, par, nm, al, s, se, ru, kd, ya, yn, st, ys, gn, fa)) : wpY_token post (zn, zs, t, par, nm, al, s, se, ru, kd, ya, yn, st, ys, gn, fa) v1 v2 v3 := by
  have k23 : wY_token_23 post v1 v2 v3 zn zs t par nm al s se ru kd ya yn st ys gn fa := by
    unfold wY_token_23
    by_cases c : et_rg 3 (v1 - 1)
    · obtain ⟨a, ha, e⟩ := c
      rw [e]
      refine yw_in_t (n := 3) (by omega) rfl ha (br_f et_10 ?_)
      by_cases d : et_rg 16 v3
      · obtain ⟨w, hw, rfl⟩ := d
        exact yw_in_t (n := 16) (by omega) rfl hw (br_f et_10 k)
      · exact yw_in_f (n := 16) (by omega) rfl d (br_t rfl b)
    · exact yw_in_f (n := 3) (by omega) rfl c (br_t rfl k)
  unfold wpY_token
  by_cases c : et_rg 7 v1
  · obtain ⟨q, hq, rfl⟩ := c
    refine yw_in_t (n := 7) (by omega) rfl hq (br_f et_10 (br_c (fun _ => k23) (fun _ => ?_)))
    by_cases d : et_rg 6 v2
    · obtain ⟨w, hw, rfl⟩ := d
      exact yw_in_t (n := 6) (by omega) rfl hw (br_f et_10 k23)
    · exact yw_in_f (n := 6) (by omega) rfl d (br_t rfl b)
  · exact yw_in_f (n := 7) (by omega) rfl c (br_t rfl b)
theorem ev_token (h : et_I t par al s vb se rs ru sn n kd xa ya xn yn fc fe fa) (v1 v2 v3 : Int32) : ∃ r u' v', (∀ post, post r u' → wpX_token post (nI sn, nI n, tc, fc, t, par, nm, al, s, vb, rs, kd, xa, xn, st, xs, it, tp, fe) v1 v2 v3) ∧ (∀ post, post r v' → wpY_token post (nI n, nI sn, t, par, nm, al, s, se, ru, kd, ya, yn, st, ys, gn, fa) v1 v2 v3) ∧ ∀ k, i_Rel k u' v' := by
  have same : ∀ k, i_Rel k (nI sn, nI n, tc, fc, t, par, nm, al, s, vb, rs, kd, xa, xn, st, xs, it, tp, fe) (nI n, nI sn, t, par, nm, al, s, se, ru, kd, ya, yn, st, ys, gn, fa) := fun k => et_mk h
  have hn := h.2.2.2.2.2.2.1.1
  by_cases c0 : n = 12
  · subst c0
    refine ⟨-1, _, _, fun post K => ?_, fun post K => ?_, same⟩
    · unfold wpX_token
      exact br_t (by decide) K
    · exact yw_tok_any (br_t rfl K) K
  · have hn12 : n < 12 := by omega
    obtain ⟨n1, n2⟩ := et_12 hn12
    by_cases c1 : et_rg 7 v1
    · obtain ⟨q, hq, rfl⟩ := c1
      obtain ⟨q1, q2, q3, q4, q5, q6⟩ := et_q7 q hq
      by_cases c2 : q < 4
      · obtain ⟨q31, q32⟩ := q3 c2
        by_cases c3 : et_rg 6 v2
        · obtain ⟨a, ha, rfl⟩ := c3
          by_cases c4 : q = 0
          · subst c4
            refine ⟨nI n + 1, (nI sn, nI n + 1, tc, fc, t, par, nm, al, s, vb, rs, upd kd n (nI 0), upd xa n (nI a), upd xn n 0, st, xs, it, tp, fe), (nI n + 1, nI sn, t, par, nm, al, s, se, ru, upd kd n (nI 0), upd ya n (nI a), upd yn n v3, st, ys, gn, fa), fun post K => ?_, fun post K => ?_, fun k => ?_⟩
            · unfold wpX_token
              refine br_f n1 (br_f q1 (br_t q2 (br_f q31 (br_f et_10 (br_t rfl (br_f et_10 (xw_at_t ha (br_f et_10 (br_t rfl ?_)))))))))
              simp only [wX_token_77, wX_token_105, wX_token_124, et_cl12 hn12, et_in12 hn12, true_and, forall_eq]
              exact br_f et_10 (br_t trivial K)
            · unfold wpY_token
              refine yw_in_t (n := 7) (by omega) rfl hq (br_f et_10 (br_f q32 (yw_in_t (n := 6) (by omega) rfl ha (br_f et_10 ?_))))
              unfold wY_token_23
              refine yw_in_f (n := 3) (by omega) rfl (fun z => by obtain ⟨b, hb, e⟩ := z; have y := q5 rfl; rw [e] at y; exact nI_pos (by omega) y) (br_t rfl ?_)
              simp only [wY_token_42, et_cl12 hn12, et_in12 hn12, true_and, forall_eq]
              exact br_f n2 K
            · rw [nI_1]
              exact et_mk (et_I_tok h hn12 (q := 0) (by omega) rfl (fun _ => ⟨a, ha, rfl, rfl⟩) (fun z => absurd z (by omega)))
          · have z0 : ¬ nI q = 0 := nI_ne0 (by omega) (by omega)
            by_cases c5 : et_rg 16 v3
            · obtain ⟨w, hw, rfl⟩ := c5
              refine ⟨nI n + 1, (nI sn, nI n + 1, tc, fc, t, par, nm, al, s, vb, rs, upd kd n (nI q), upd xa n (nI a), upd xn n (nI w), st, xs, it, tp, fe), (nI n + 1, nI sn, t, par, nm, al, s, se, ru, upd kd n (nI q), upd ya n (nI a), upd yn n (nI w), st, ys, gn, fa), fun post K => ?_, fun post K => ?_, fun k => ?_⟩
              · unfold wpX_token
                refine br_f n1 (br_f q1 (br_t q2 (br_f q31 (br_f et_10 (br_f z0 (br_f et_10 (xw_at_t ha (br_f et_10 (br_f et_10 (xw_va_t hw (br_f et_10 ?_)))))))))))
                simp only [wX_token_77, wX_token_105, wX_token_124, et_cl12 hn12, et_in12 hn12, true_and, forall_eq]
                exact br_f et_10 (br_f et_10 K)
              · unfold wpY_token
                refine yw_in_t (n := 7) (by omega) rfl hq (br_f et_10 (br_f q32 (yw_in_t (n := 6) (by omega) rfl ha (br_f et_10 ?_))))
                unfold wY_token_23
                rw [q6 (by omega)]
                refine yw_in_t (n := 3) (by omega) rfl (by omega) (br_f et_10 (yw_in_t (n := 16) (by omega) rfl hw (br_f et_10 ?_)))
                simp only [wY_token_42, et_cl12 hn12, et_in12 hn12, true_and, forall_eq]
                exact br_f n2 K
              · rw [nI_1]
                exact et_mk (et_I_tok h hn12 hq rfl (fun _ => ⟨a, ha, rfl, rfl⟩) (fun _ _ => ⟨w, hw, rfl, rfl⟩))
            · refine ⟨-1, _, _, fun post K => ?_, fun post K => ?_, same⟩
              · unfold wpX_token
                exact br_f n1 (br_f q1 (br_t q2 (br_f q31 (br_f et_10 (br_f z0 (br_f et_10 (xw_at_t ha (br_f et_10 (br_f et_10 (xw_va_f c5 (br_t rfl K)))))))))))
              · unfold wpY_token
                refine yw_in_t (n := 7) (by omega) rfl hq (br_f et_10 (br_f q32 (yw_in_t (n := 6) (by omega) rfl ha (br_f et_10 ?_))))
                unfold wY_token_23
                rw [q6 (by omega)]
                exact yw_in_t (n := 3) (by omega) rfl (by omega) (br_f et_10 (yw_in_f (n := 16) (by omega) rfl c5 (br_t rfl K)))
        · refine ⟨-1, _, _, fun post K => ?_, fun post K => ?_, same⟩
          · unfold wpX_token
            refine br_f n1 (br_f q1 (br_t q2 (br_f q31 (br_f et_10 (br_c (fun _ => ?_) (fun _ => ?_))))))
            · exact br_f et_10 (xw_at_f c3 (br_t rfl K))
            · exact br_f et_10 (xw_at_f c3 (br_t rfl K))
          · unfold wpY_token
            exact yw_in_t (n := 7) (by omega) rfl hq (br_f et_10 (br_f q32 (yw_in_f (n := 6) (by omega) rfl c3 (br_t rfl K))))
      · obtain ⟨q41, q42, q43, q44⟩ := q4 c2
        refine ⟨nI n + 1, (nI sn, nI n + 1, tc, fc, t, par, nm, al, s, vb, rs, upd kd n (nI q), upd xa n 0, upd xn n 0, st, xs, it, tp, fe), (nI n + 1, nI sn, t, par, nm, al, s, se, ru, upd kd n (nI q), upd ya n v2, upd yn n v3, st, ys, gn, fa), fun post K => ?_, fun post K => ?_, fun k => ?_⟩
        · unfold wpX_token
          refine br_f n1 (br_f q1 (br_t q2 (br_t q41 (br_t rfl (br_t rfl (br_t rfl ?_))))))
          simp only [wX_token_77, wX_token_105, wX_token_124, et_cl12 hn12, et_in12 hn12, true_and, forall_eq]
          exact br_t trivial (br_t trivial K)
        · unfold wpY_token
          refine yw_in_t (n := 7) (by omega) rfl hq (br_f et_10 (br_t q42 ?_))
          unfold wY_token_23
          refine yw_in_f (n := 3) (by omega) rfl (fun z => by obtain ⟨b, hb, e⟩ := z; rw [e] at q44; exact nI_ge (b := 3) hb (by decide) q44) (br_t rfl ?_)
          simp only [wY_token_42, et_cl12 hn12, et_in12 hn12, true_and, forall_eq]
          exact br_f n2 K
        · rw [nI_1]
          exact et_mk (et_I_tok h hn12 hq rfl (fun z => absurd z c2) (fun _ z => absurd z c2))
    · refine ⟨-1, _, _, fun post K => ?_, fun post K => ?_, same⟩
      · unfold wpX_token
        refine br_f n1 ?_
        rcases pk_ix v1 (n := 7) (by omega) with h1 | h1 | ⟨j, h1, h2⟩
        · exact br_t h1 K
        · refine br_c (fun _ => K) (fun _ => br_f (fun z => ?_) K)
          rw [et_le] at h1 z
          have e7 : (nI 7).toInt = 7 := by decide
          have e6 : (6 : Int32).toInt = 6 := by decide
          omega
        · exact (c1 ⟨j, h1, h2⟩).elim
      · unfold wpY_token
        exact yw_in_f (n := 7) (by omega) rfl c1 (br_t rfl K)
theorem ev_wipe (h : et_I t par al s vb se rs ru sn n kd xa ya xn yn fc fe fa) : ∃ r u' v', (∀ post, post r u' → wpX_wipe post (nI sn, nI n, tc, fc, t, par, nm, al, s, vb, rs, kd, xa, xn, st, xs, it, tp, fe)) ∧ (∀ post, post r v' → wpY_wipe post (nI n, nI sn, t, par, nm, al, s, se, ru, kd, ya, yn, st, ys, gn, fa)) ∧ ∀ k, i_Rel k u' v' := by
  refine ⟨nI n, (nI sn, nI 0, tc, fc, t, par, nm, al, s, vb, rs, kd, xa, xn, st, xs, it, tp, fe), (nI 0, nI sn, t, par, nm, al, s, se, ru, kd, ya, yn, st, ys, gn, fa), fun post K => K, fun post K => K, fun k => ?_⟩
  obtain ⟨g1, g2, g3, g4, g5, g6, g7, g8⟩ := h
  exact et_mk ⟨g1, g2, g3, g4, g5, g6, ⟨by omega, fun i hi => absurd hi (Nat.not_lt_zero _)⟩, g8⟩
theorem ev_found (h : et_I t par al s vb se rs ru sn n kd xa ya xn yn fc fe fa) (v1 : Int32) : ∃ r, (∀ post, post r → wpX_found post (nI sn, nI n, tc, fc, t, par, nm, al, s, vb, rs, kd, xa, xn, st, xs, it, tp, fe) v1) ∧ (∀ post, post r → wpY_found post (nI n, nI sn, t, par, nm, al, s, se, ru, kd, ya, yn, st, ys, gn, fa) v1) := by
  obtain ⟨f1, f2⟩ := h.2.2.2.2.2.2.2
  have b := et_cn_le (fun e => ¬ fa e = 0) 48
  by_cases c1 : v1 < 0
  · refine ⟨-1, fun post K => br_t c1 K, fun post K => yw_found (r := -1) (fun e he fe z => ?_) (fun _ => rfl) K⟩
    rw [← z] at c1
    have := et_cn_st (P := fun e => ¬ fa e = 0) he fe
    exact (nI_pos (by omega) c1).elim
  · obtain ⟨j, hj, rfl⟩ := nI_of c1
    by_cases c2 : j < et_cn (fun e => ¬ fa e = 0) 48
    · obtain ⟨e, he, fe', ce⟩ := et_cn_ex c2
      have cj : (nI j).toNatClampNeg = j := nI_clamp hj
      refine ⟨fe j, fun post K => br_f c1 (br_f ?_ ⟨vp_in_nI (by omega) (by omega), ?_⟩), fun post K => yw_found (r := fe j) (fun x hx fx z => ?_) (fun z => ?_) K⟩
      · rw [f1]; exact nI_ge c2 (by omega)
      · rw [cj]; exact K
      · have := et_cn_st (P := fun e => ¬ fa e = 0) hx fx
        rw [nI_eq (by omega) hj] at z
        rw [← z]
        exact f2 x hx fx
      · exact (z e he fe' (by rw [ce])).elim
    · refine ⟨-1, fun post K => br_f c1 (br_t ?_ K), fun post K => yw_found (r := -1) (fun x hx fx z => ?_) (fun z => rfl) K⟩
      · rw [f1]; exact nI_le (by omega) hj
      · have := et_cn_st (P := fun e => ¬ fa e = 0) hx fx
        rw [nI_eq (by omega) hj] at z
        omega
theorem ev_child (h : et_I t par al s vb se rs ru sn n kd xa ya xn yn fc fe fa) (v1 v2 : Int32) : ∃ r, (∀ post, post r → wpX_child post (nI sn, nI n, tc, fc, t, par, nm, al, s, vb, rs, kd, xa, xn, st, xs, it, tp, fe) v1 v2) ∧ (∀ post, post r → wpY_child post (nI n, nI sn, t, par, nm, al, s, se, ru, kd, ya, yn, st, ys, gn, fa) v1 v2) := by
  by_cases c1 : et_is t v1
  · obtain ⟨p, hp, rfl, jp⟩ := c1
    refine ⟨et_fn t par nm (nI p) v2 48 0, fun post K => ?_, fun post K => yw_child h.1.2.1 hp jp K⟩
    unfold wpX_child
    exact xw_is_t hp jp (br_f et_10 (xw_named K))
  · refine ⟨-1, fun post K => ?_, fun post K => yw_child_f c1 K⟩
    unfold wpX_child
    exact xw_is_f c1 (br_t rfl K)
theorem ev_look (h : et_I t par al s vb se rs ru sn n kd xa ya xn yn fc fe fa) (v1 v2 : Int32) : ∃ r, (∀ post, post r → wpX_look post (nI sn, nI n, tc, fc, t, par, nm, al, s, vb, rs, kd, xa, xn, st, xs, it, tp, fe) v1 v2) ∧ (∀ post, post r → wpY_look post (nI n, nI sn, t, par, nm, al, s, se, ru, kd, ya, yn, st, ys, gn, fa) v1 v2) := by
  have hT := h.1
  have hA := h.2.1
  by_cases c1 : et_is t v1
  · obtain ⟨e, he, rfl, te⟩ := c1
    rcases pk_ix v2 (n := 8) (by omega) with h1 | h1 | ⟨j, h1, rfl⟩
    · refine ⟨-1, fun post K => ?_, fun post K => ?_⟩
      · unfold wpX_look
        exact xw_is_t he te (br_f et_10 (br_t h1 K))
      · unfold wpY_look
        exact yw_is_t he te (br_f et_10 (br_t h1 K))
    · have h7 : (7 : Int32) < v2 := by
        rw [et_le] at h1
        rw [et_lt]
        have e8 : (nI 8).toInt = 8 := by decide
        have e7 : (7 : Int32).toInt = 7 := by decide
        omega
      refine ⟨-1, fun post K => ?_, fun post K => ?_⟩
      · unfold wpX_look
        exact xw_is_t he te (br_f et_10 (br_c (fun _ => K) (fun _ => br_t h7 K)))
      · unfold wpY_look
        exact yw_is_t he te (br_f et_10 (br_c (fun _ => K) (fun _ => br_t h7 K)))
    · match j, h1 with
      | 0, _ =>
        refine ⟨par e, fun post K => ?_, fun post K => ?_⟩
        · unfold wpX_look
          exact xw_is_t he te (br_f et_10 (br_f (by decide) (br_f (by decide) (br_t rfl ⟨et_in he, by rw [et_cl he]; exact K⟩))))
        · unfold wpY_look
          exact yw_is_t he te (br_f et_10 (br_f (by decide) (br_f (by decide) (br_t rfl ⟨et_in he, by rw [et_cl he]; exact K⟩))))
      | 1, _ =>
        refine ⟨nm e, fun post K => ?_, fun post K => ?_⟩
        · unfold wpX_look
          exact xw_is_t he te (br_f et_10 (br_f (by decide) (br_f (by decide) (br_f (by decide) (br_t rfl ⟨et_in he, by rw [et_cl he]; exact K⟩)))))
        · unfold wpY_look
          exact yw_is_t he te (br_f et_10 (br_f (by decide) (br_f (by decide) (br_f (by decide) (br_t rfl ⟨et_in he, by rw [et_cl he]; exact K⟩)))))
      | 2, _ =>
        refine ⟨al e, fun post K => ?_, fun post K => ?_⟩
        · unfold wpX_look
          exact xw_is_t he te (br_f et_10 (br_f (by decide) (br_f (by decide) (br_f (by decide) (br_f (by decide) (br_t rfl ⟨et_in he, by rw [et_cl he]; exact K⟩))))))
        · unfold wpY_look
          exact yw_is_t he te (br_f et_10 (br_f (by decide) (br_f (by decide) (br_f (by decide) (br_f (by decide) (br_t rfl ⟨et_in he, by rw [et_cl he]; exact K⟩))))))
      | 3, _ =>
        refine ⟨nI (et_cn (fun x => ¬ t x = 0 ∧ par x = nI e) 48), fun post K => ?_, fun post K => ?_⟩
        · unfold wpX_look
          exact xw_is_t he te (br_f et_10 (br_f (by decide) (br_f (by decide) (br_f (by decide) (br_f (by decide) (br_f (by decide) (br_t rfl (xw_under K))))))))
        · unfold wpY_look
          exact yw_is_t he te (br_f et_10 (br_f (by decide) (br_f (by decide) (br_f (by decide) (br_f (by decide) (br_f (by decide) (br_t rfl (yw_under K))))))))
      | 4, _ =>
        refine ⟨nI (et_cn (fun x => ¬ t x = 0 ∧ et_wi par (nI e) 47 (par x)) 48), fun post K => ?_, fun post K => ?_⟩
        · unfold wpX_look
          exact xw_is_t he te (br_f et_10 (br_f (by decide) (br_f (by decide) (br_f (by decide) (br_f (by decide) (br_f (by decide) (br_f (by decide) (br_t rfl (xw_cbelow hT he te K)))))))))
        · unfold wpY_look
          exact yw_is_t he te (br_f et_10 (br_f (by decide) (br_f (by decide) (br_f (by decide) (br_f (by decide) (br_f (by decide) (br_f (by decide) (br_t rfl (yw_cbelow hT K)))))))))
      | 5, _ =>
        refine ⟨nI (et_dp par 47 (par e)), fun post K => ?_, fun post K => ?_⟩
        · unfold wpX_look
          exact xw_is_t he te (br_f et_10 (br_f (by decide) (br_f (by decide) (br_f (by decide) (br_f (by decide) (br_f (by decide) (br_f (by decide) (br_f (by decide) (br_t rfl (xw_depth hT he te K))))))))))
        · unfold wpY_look
          exact yw_is_t he te (br_f et_10 (br_f (by decide) (br_f (by decide) (br_f (by decide) (br_f (by decide) (br_f (by decide) (br_f (by decide) (br_f (by decide) (br_t rfl (yw_depth hT he te K))))))))))
      | 6, _ =>
        refine ⟨s e, fun post K => ?_, fun post K => ?_⟩
        · unfold wpX_look
          exact xw_is_t he te (br_f et_10 (br_f (by decide) (br_f (by decide) (br_f (by decide) (br_f (by decide) (br_f (by decide) (br_f (by decide) (br_f (by decide) (br_f (by decide) (br_t rfl ⟨et_in he, by rw [et_cl he]; exact K⟩))))))))))
        · unfold wpY_look
          exact yw_is_t he te (br_f et_10 (br_f (by decide) (br_f (by decide) (br_f (by decide) (br_f (by decide) (br_f (by decide) (br_f (by decide) (br_f (by decide) (br_f (by decide) (br_t rfl ⟨et_in he, by rw [et_cl he]; exact K⟩))))))))))
      | 7, _ =>
        refine ⟨et_ld al 48 (nI e), fun post K => ?_, fun post K => ?_⟩
        · unfold wpX_look
          exact xw_is_t he te (br_f et_10 (br_f (by decide) (br_f (by decide) (br_f (by decide) (br_f (by decide) (br_f (by decide) (br_f (by decide) (br_f (by decide) (br_f (by decide) (br_f (by decide) (br_t rfl (xw_leads hA he te K))))))))))))
        · unfold wpY_look
          exact yw_is_t he te (br_f et_10 (br_f (by decide) (br_f (by decide) (br_f (by decide) (br_f (by decide) (br_f (by decide) (br_f (by decide) (br_f (by decide) (br_f (by decide) (br_f (by decide) (br_t rfl (yw_leads hA he te K))))))))))))
  · refine ⟨-1, fun post K => ?_, fun post K => ?_⟩
    · unfold wpX_look
      exact xw_is_f c1 (br_t rfl K)
    · unfold wpY_look
      exact yw_is_f c1 (br_t rfl K)
theorem ev_values (h : et_I t par al s vb se rs ru sn n kd xa ya xn yn fc fe fa) (v1 v2 v3 : Int32) : ∃ r, (∀ post, post r → wpX_values post (nI sn, nI n, tc, fc, t, par, nm, al, s, vb, rs, kd, xa, xn, st, xs, it, tp, fe) v1 v2 v3) ∧ (∀ post, post r → wpY_values post (nI n, nI sn, t, par, nm, al, s, se, ru, kd, ya, yn, st, ys, gn, fa) v1 v2 v3) := by
  have hT := h.1
  have hV := h.2.2.2.1
  have hR := h.2.2.2.2.1
  by_cases c1 : et_is t v1
  · obtain ⟨e, he, rfl, te⟩ := c1
    by_cases c2 : et_rg 6 v2
    · obtain ⟨a, ha, rfl⟩ := c2
      by_cases c3 : et_rg 4 v3
      · obtain ⟨g, hg, rfl⟩ := c3
        have ci : (nI (e * 6 + a)).toNatClampNeg = e * 6 + a := nI_clamp (by omega)
        have vi : vp_in (nI (e * 6 + a)) 288 := vp_in_nI (by omega) (by omega)
        have q := hV.2 e he te a ha
        by_cases c4 : et_mr par rs (g * 6 + a) 48 (nI e)
        · refine ⟨vb (e * 6 + a), fun post K => ?_, fun post K => ?_⟩
          · unfold wpX_values
            refine xw_is_t he te (br_f et_10 (xw_at_t ha (br_f et_10 (xw_gr_t hg (br_f et_10 (xw_may hT he te ha hg (fun _ => br_f et_10 ?_) (fun z => absurd c4 z)))))))
            simp only [et_i6, ci, vi, true_and]
            exact K
          · unfold wpY_values
            refine yw_is_t he te (br_f et_10 (yw_in_t (n := 6) (by omega) rfl ha (br_f et_10 (yw_in_t (n := 4) (by omega) rfl hg (br_f et_10 (yw_may hT hR he te ha hg (fun _ => br_f et_10 ?_) (fun z => absurd c4 z)))))))
            simp only [et_i6', ci, vi, q.2, true_and]
            exact K
        · refine ⟨-3, fun post K => ?_, fun post K => ?_⟩
          · unfold wpX_values
            exact xw_is_t he te (br_f et_10 (xw_at_t ha (br_f et_10 (xw_gr_t hg (br_f et_10 (xw_may hT he te ha hg (fun z => absurd z c4) (fun _ => br_t rfl K)))))))
          · unfold wpY_values
            exact yw_is_t he te (br_f et_10 (yw_in_t (n := 6) (by omega) rfl ha (br_f et_10 (yw_in_t (n := 4) (by omega) rfl hg (br_f et_10 (yw_may hT hR he te ha hg (fun z => absurd z c4) (fun _ => br_t rfl K)))))))
      · refine ⟨-1, fun post K => ?_, fun post K => ?_⟩
        · unfold wpX_values
          exact xw_is_t he te (br_f et_10 (xw_at_t ha (br_f et_10 (xw_gr_f c3 (br_t rfl K)))))
        · unfold wpY_values
          exact yw_is_t he te (br_f et_10 (yw_in_t (n := 6) (by omega) rfl ha (br_f et_10 (yw_in_f (n := 4) (by omega) rfl c3 (br_t rfl K)))))
    · refine ⟨-1, fun post K => ?_, fun post K => ?_⟩
      · unfold wpX_values
        exact xw_is_t he te (br_f et_10 (xw_at_f c2 (br_t rfl K)))
      · unfold wpY_values
        exact yw_is_t he te (br_f et_10 (yw_in_f (n := 6) (by omega) rfl c2 (br_t rfl K)))
  · refine ⟨-1, fun post K => ?_, fun post K => ?_⟩
    · unfold wpX_values
      exact xw_is_f c1 (br_t rfl K)
    · unfold wpY_values
      exact yw_is_f c1 (br_t rfl K)
theorem ev_changed (h : et_I t par al s vb se rs ru sn n kd xa ya xn yn fc fe fa) (v1 v2 : Int32) : ∃ P : Int32 → Prop, (∀ post, (∀ r, P r → post r) → wpX_changed post (nI sn, nI n, tc, fc, t, par, nm, al, s, vb, rs, kd, xa, xn, st, xs, it, tp, fe) v1 v2) ∧ (∀ r, P r → ∀ post, post r → wpY_changed post (nI n, nI sn, t, par, nm, al, s, se, ru, kd, ya, yn, st, ys, gn, fa) v1 v2) := by
  have hD := h.2.2.2.2.2.1.2.1
  by_cases c1 : v2 < 0
  · exact ⟨fun r => r = -1, fun post K => br_t c1 (K _ rfl), fun r hr post K => br_f (Int32.not_le.mpr c1) (by rw [hr] at K; exact K)⟩
  · obtain ⟨k, hk, rfl⟩ := nI_of c1
    by_cases c2 : k < 48
    · exact ⟨et_R t s v1 k, fun post K => xw_changed hD c2 K, fun r hr post K => yw_changed hD hk hr K⟩
    · refine ⟨fun r => r = -1, fun post K => br_f c1 (br_f (nI_nlt (b := 48) (by omega) hk) (K _ rfl)), fun r hr post K => yw_changed hD hk (r := r) (Or.inl ⟨hr, fun x hx z => ?_⟩) K⟩
      have := et_ct_lt (t := t) (s := s) (after := v1) hx.1
      omega
theorem ev_state (h : et_I t par al s vb se rs ru sn n kd xa ya xn yn fc fe fa) (v1 : Int32) : ∃ r, (∀ post, post r → wpX_state post (nI sn, nI n, tc, fc, t, par, nm, al, s, vb, rs, kd, xa, xn, st, xs, it, tp, fe) v1) ∧ (∀ post, post r → wpY_state post (nI n, nI sn, t, par, nm, al, s, se, ru, kd, ya, yn, st, ys, gn, fa) v1) := by
  have hT := h.1
  rcases pk_ix v1 (n := 4) (by omega) with h1 | h1 | ⟨j, h1, rfl⟩
  · have a : ∀ c : Int32, ¬ c < 0 → ¬ v1 = c := fun c hc z => hc (z ▸ h1)
    exact ⟨-1, fun post K => br_t h1 K, fun post K => yw_state hT (fun z => absurd z (a 0 (by decide))) (fun z => absurd z (a 1 (by decide))) (fun z => absurd z (a 2 (by decide))) (fun z => absurd z (a 3 (by decide))) (fun _ _ _ _ => K)⟩
  · have h3 : (3 : Int32) < v1 := by
      rw [et_le] at h1
      rw [et_lt]
      have e4 : (nI 4).toInt = 4 := by decide
      have e3 : (3 : Int32).toInt = 3 := by decide
      omega
    have a : ∀ c : Int32, ¬ 3 < c → ¬ v1 = c := fun c hc z => hc (z ▸ h3)
    exact ⟨-1, fun post K => br_c (fun _ => K) (fun _ => br_t h3 K), fun post K => yw_state hT (fun z => absurd z (a 0 (by decide))) (fun z => absurd z (a 1 (by decide))) (fun z => absurd z (a 2 (by decide))) (fun z => absurd z (a 3 (by decide))) (fun _ _ _ _ => K)⟩
  · match j, h1 with
    | 0, _ => exact ⟨nI sn, fun post K => br_f (by decide) (br_f (by decide) (br_t rfl K)), fun post K => yw_state hT (fun _ => K) (fun z => absurd z (by decide)) (fun z => absurd z (by decide)) (fun z => absurd z (by decide)) (fun z => absurd rfl z)⟩
    | 1, _ => exact ⟨nI (et_cn (fun e => ¬ t e = 0) 48), fun post K => br_f (by decide) (br_f (by decide) (br_f (by decide) (br_t rfl (xw_cthere K)))), fun post K => yw_state hT (fun z => absurd z (by decide)) (fun _ => K) (fun z => absurd z (by decide)) (fun z => absurd z (by decide)) (fun _ z => absurd rfl z)⟩
    | 2, _ => exact ⟨nI (et_cn (fun e => ¬ t e = 0 ∧ al e = -2) 48), fun post K => br_f (by decide) (br_f (by decide) (br_f (by decide) (br_f (by decide) (br_t rfl (xw_clost K))))), fun post K => yw_state hT (fun z => absurd z (by decide)) (fun z => absurd z (by decide)) (fun _ => K) (fun z => absurd z (by decide)) (fun _ _ z => absurd rfl z)⟩
    | 3, _ => exact ⟨nI (et_gd t par 48), fun post K => br_f (by decide) (br_f (by decide) (br_f (by decide) (br_f (by decide) (br_f (by decide) (br_t rfl (xw_gd hT K)))))), fun post K => yw_state hT (fun z => absurd z (by decide)) (fun z => absurd z (by decide)) (fun z => absurd z (by decide)) (fun _ => K) (fun _ _ _ z => absurd rfl z)⟩
end
