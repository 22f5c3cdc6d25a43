theorem et_z1 {w : Nat} (hw : w < 3) {z : Int32} (h : z + 1 = nI w) : z = nI w - 1 ∧ ¬ z < -1 ∧ z ≤ 1 := by
  have e : z = nI w - 1 := by rw [← h, Int32.add_sub_cancel]
  have key : ∀ w, w < 3 → ¬ nI w - 1 < -1 ∧ nI w - 1 ≤ 1 := by decide
  rw [e]
  exact ⟨rfl, key w hw⟩
theorem et_z2 {z : Int32} (h : ¬ et_rg 3 (z + 1)) : z < -1 ∨ ¬ z ≤ 1 := by
  apply Classical.byContradiction
  intro hn
  have a : ¬ z < -1 := fun y => hn (Or.inl y)
  have b : z ≤ 1 := Classical.byContradiction fun y => hn (Or.inr y)
  rw [et_lt] at a
  rw [et_le] at b
  have m1 : (-1 : Int32).toInt = -1 := by decide
  have p1 : (1 : Int32).toInt = 1 := by decide
  rw [m1] at a
  rw [p1] at b
  have c : z.toInt = -1 ∨ z.toInt = 0 ∨ z.toInt = 1 := by omega
  rcases c with c | c | c
  · have e : z = -1 := Int32.toInt_inj.mp (c.trans m1.symm)
    exact h ⟨0, by omega, by rw [e]; decide⟩
  · have e : z = 0 := Int32.toInt_inj.mp (c.trans (by decide))
    exact h ⟨1, by omega, by rw [e]; decide⟩
  · have e : z = 1 := Int32.toInt_inj.mp (c.trans p1.symm)
    exact h ⟨2, by omega, by rw [e]; decide⟩
section
variable {tc fc : Int32} {t par nm al s vb rs kd xa xn st xs it tp fe se ru ya yn ys gn fa : Nat → Int32} {sn n : Nat}
theorem ev_move (h : et_I t par al s vb se rs ru sn n kd xa ya xn yn fc fe fa) (v1 v2 v3 : Int32) : ∃ r u' v', (∀ post, post r u' → wpX_move post (nI sn, nI n, tc, fc, t, par, nm, al, s, vb, rs, kd, xa, xn, st, xs, it, tp, fe) v1 v2 v3) ∧ (∀ post, post r v' → wpY_move post (nI n, nI sn, t, par, nm, al, s, se, ru, kd, ya, yn, st, ys, gn, fa) v1 v2 v3) ∧ ∀ k, i_Rel k u' v' := by
  have same : ∀ k, i_Rel k (nI sn, nI n, tc, fc, t, par, nm, al, s, vb, rs, kd, xa, xn, st, xs, it, tp, fe) (nI n, nI sn, t, par, nm, al, s, se, ru, kd, ya, yn, st, ys, gn, fa) := fun k => et_mk h
  have hT := h.1
  have hSe := h.2.2.2.2.2.1
  by_cases hs : sn < 1000000000
  · obtain ⟨s1, s2⟩ := et_sp_lt hs
    by_cases c1 : et_is t v1
    · obtain ⟨e, he, rfl, te⟩ := c1
      by_cases c2 : et_is t v2
      · obtain ⟨p, hp, rfl, jp⟩ := c2
        by_cases c3 : nI e = 0
        · refine ⟨0, _, _, fun post K => ?_, fun post K => ?_, same⟩
          · unfold wpX_move
            exact xw_sp_t s1 (br_t rfl (xw_is_t he te (br_f et_10 (br_t c3 K))))
          · unfold wpY_move
            exact br_f s2 (yw_is_t he te (br_f et_10 (yw_is_t hp jp (br_f et_10 (br_t c3 K)))))
        · have e0 : ¬ e = 0 := fun z => c3 (by rw [z]; rfl)
          by_cases c4 : al p = -1
          · by_cases c5 : nI p = nI e ∨ et_wi par (nI e) 47 (par p)
            · refine ⟨0, _, _, fun post K => ?_, fun post K => ?_, same⟩
              · unfold wpX_move
                exact xw_sp_t s1 (br_t rfl (xw_is_t he te (br_f et_10 (br_f c3 (xw_can_any hp jp c4 (br_f et_10 (xw_within hT hp jp (fun _ => br_f et_10 K) (fun z => absurd c5 z))) (br_t rfl K))))))
              · unfold wpY_move
                refine br_f s2 (yw_is_t he te (br_f et_10 (yw_is_t hp jp (br_f et_10 (br_f c3 (yw_al_f hp c4 (br_t rfl ?_)))))))
                by_cases c6 : nI p = nI e
                · exact br_t c6 K
                · exact br_f c6 (yw_below hT hp jp (fun _ => br_f et_10 K) (fun z => absurd (c5.elim (fun y => absurd y c6) id) z))
            · have c51 : ¬ nI p = nI e := fun z => c5 (Or.inl z)
              have c52 : ¬ et_wi par (nI e) 47 (par p) := fun z => c5 (Or.inr z)
              by_cases c6 : et_rg 100 v3
              · obtain ⟨q, hq, rfl⟩ := c6
                have fcc := et_fn_c (t := t) (par := par) (nm := nm) (p := nI p) (q := nI q) 48 0 (by omega)
                by_cases c7 : et_fn t par nm (nI p) (nI q) 48 0 = -1 ∨ et_fn t par nm (nI p) (nI q) 48 0 = nI e
                · refine ⟨1, (nI sn + 1, nI n, tc, fc, t, upd par e (nI p), upd nm e (nI q), al, upd s e (nI sn + 1), vb, rs, kd, xa, xn, st, xs, it, tp, fe), (nI n, nI sn + 1, t, upd par e (nI p), upd nm e (nI q), al, upd s e (nI sn + 1), se, ru, kd, ya, yn, st, ys, gn, fa), fun post K => ?_, fun post K => ?_, fun k => ?_⟩
                  · unfold wpX_move
                    refine xw_sp_t s1 (br_t rfl (xw_is_t he te (br_f et_10 (br_f c3 (xw_can_v hp jp c4 hq (fun _ => br_f et_10 (xw_within hT hp jp (fun z => absurd z c5) (fun _ => br_t rfl ?_))) (fun z y => absurd (c7.elim z y) id))))))
                    simp only [et_cl he, et_in he, true_and, forall_eq]
                    exact xw_stamp he K
                  · have fin : wY_move_83 post (nI e) (nI p) (nI q) (nI n) (nI sn) t par nm al s se ru kd ya yn st ys gn fa := by
                      simp only [wY_move_83, et_cl he, et_in he, true_and, forall_eq]
                      exact yw_stamp he K
                    unfold wpY_move
                    refine br_f s2 (yw_is_t he te (br_f et_10 (yw_is_t hp jp (br_f et_10 (br_f c3 (yw_al_f hp c4 (br_t rfl (br_f c51 (yw_below hT hp jp (fun z => absurd z c52) (fun _ => br_t rfl (yw_in_t (n := 100) (by omega) et_100 hq (br_f et_10 (yw_child hT.2.1 hp jp ?_)))))))))))))
                    rcases c7 with c7 | c7
                    · exact br_t (by rw [c7]; exact et_m1.2.1) fin
                    · exact br_f (by rw [c7]; exact et_nn he) (br_t c7 fin)
                  · rw [nI_1]
                    exact et_mk (et_I_mov h hs he e0 hp jp c51 c52)
                · have c71 : ¬ et_fn t par nm (nI p) (nI q) 48 0 = -1 := fun z => c7 (Or.inl z)
                  have c72 : ¬ et_fn t par nm (nI p) (nI q) 48 0 = nI e := fun z => c7 (Or.inr z)
                  have c73 : ¬ et_fn t par nm (nI p) (nI q) 48 0 < 0 := by
                    obtain ⟨a, ha, e⟩ := fcc.elim (fun z => absurd z c71) id
                    rw [e]
                    exact et_nn ha
                  refine ⟨0, _, _, fun post K => ?_, fun post K => ?_, same⟩
                  · unfold wpX_move
                    exact xw_sp_t s1 (br_t rfl (xw_is_t he te (br_f et_10 (br_f c3 (xw_can_v hp jp c4 hq (fun z => absurd z c7) (fun _ _ => br_t rfl K))))))
                  · unfold wpY_move
                    exact br_f s2 (yw_is_t he te (br_f et_10 (yw_is_t hp jp (br_f et_10 (br_f c3 (yw_al_f hp c4 (br_t rfl (br_f c51 (yw_below hT hp jp (fun z => absurd z c52) (fun _ => br_t rfl (yw_in_t (n := 100) (by omega) et_100 hq (br_f et_10 (yw_child hT.2.1 hp jp (br_f c73 (br_f c72 K)))))))))))))))
              · refine ⟨0, _, _, fun post K => ?_, fun post K => ?_, same⟩
                · unfold wpX_move
                  exact xw_sp_t s1 (br_t rfl (xw_is_t he te (br_f et_10 (br_f c3 (xw_can_f3 hp jp c4 c6 (br_t rfl K))))))
                · unfold wpY_move
                  exact br_f s2 (yw_is_t he te (br_f et_10 (yw_is_t hp jp (br_f et_10 (br_f c3 (yw_al_f hp c4 (br_t rfl (br_f c51 (yw_below hT hp jp (fun z => absurd z c52) (fun _ => br_t rfl (yw_in_f (n := 100) (by omega) et_100 c6 (br_t rfl K))))))))))))
          · refine ⟨0, _, _, fun post K => ?_, fun post K => ?_, same⟩
            · unfold wpX_move
              exact xw_sp_t s1 (br_t rfl (xw_is_t he te (br_f et_10 (br_f c3 (xw_can_f2 hp jp c4 (br_t rfl K))))))
            · unfold wpY_move
              exact br_f s2 (yw_is_t he te (br_f et_10 (yw_is_t hp jp (br_f et_10 (br_f c3 (yw_al_t hp c4 (br_f et_10 K)))))))
      · refine ⟨0, _, _, fun post K => ?_, fun post K => ?_, same⟩
        · unfold wpX_move
          refine xw_sp_t s1 (br_t rfl (xw_is_t he te (br_f et_10 ?_)))
          by_cases c3 : nI e = 0
          · exact br_t c3 K
          · exact br_f c3 (xw_can_f1 c2 (br_t rfl K))
        · unfold wpY_move
          exact br_f s2 (yw_is_t he te (br_f et_10 (yw_is_f c2 (br_t rfl K))))
    · refine ⟨0, _, _, fun post K => ?_, fun post K => ?_, same⟩
      · unfold wpX_move
        exact xw_sp_t s1 (br_t rfl (xw_is_f c1 (br_t rfl K)))
      · unfold wpY_move
        exact br_f s2 (yw_is_f c1 (br_t rfl K))
  · obtain ⟨s1, s2⟩ := et_sp_ge hs hSe.1
    refine ⟨0, _, _, fun post K => ?_, fun post K => ?_, same⟩
    · unfold wpX_move
      exact xw_sp_f s1 (br_f et_10 K)
    · unfold wpY_move
      exact br_t s2 K
theorem ev_point (h : et_I t par al s vb se rs ru sn n kd xa ya xn yn fc fe fa) (v1 v2 : Int32) : ∃ r u' v', (∀ post, post r u' → wpX_point post (nI sn, nI n, tc, fc, t, par, nm, al, s, vb, rs, kd, xa, xn, st, xs, it, tp, fe) v1 v2) ∧ (∀ post, post r v' → wpY_point post (nI n, nI sn, t, par, nm, al, s, se, ru, kd, ya, yn, st, ys, gn, fa) v1 v2) ∧ ∀ k, i_Rel k u' v' := by
  have same : ∀ k, i_Rel k (nI sn, nI n, tc, fc, t, par, nm, al, s, vb, rs, kd, xa, xn, st, xs, it, tp, fe) (nI n, nI sn, t, par, nm, al, s, se, ru, kd, ya, yn, st, ys, gn, fa) := fun k => et_mk h
  have hSe := h.2.2.2.2.2.1
  by_cases hs : sn < 1000000000
  · obtain ⟨s1, s2⟩ := et_sp_lt hs
    by_cases c1 : et_is t v1
    · obtain ⟨e, he, rfl, te⟩ := c1
      by_cases c2 : et_is t v2
      · obtain ⟨c, hc, rfl, jc⟩ := c2
        by_cases c3 : al e = -1
        · refine ⟨0, _, _, fun post K => ?_, fun post K => ?_, same⟩
          · unfold wpX_point
            exact xw_sp_t s1 (br_t rfl (xw_is_t he te (br_f et_10 (xw_is_t hc jc (br_f et_10 (xw_al_f he c3 (br_t rfl K)))))))
          · unfold wpY_point
            exact br_f s2 (yw_is_t he te (br_f et_10 (yw_is_t hc jc (br_f et_10 (yw_al_f he c3 (br_t rfl K))))))
        · refine ⟨1, (nI sn + 1, nI n, tc, fc, t, par, nm, upd al e (nI c), upd s e (nI sn + 1), vb, rs, kd, xa, xn, st, xs, it, tp, fe), (nI n, nI sn + 1, t, par, nm, upd al e (nI c), upd s e (nI sn + 1), se, ru, kd, ya, yn, st, ys, gn, fa), fun post K => ?_, fun post K => ?_, fun k => ?_⟩
          · unfold wpX_point
            refine xw_sp_t s1 (br_t rfl (xw_is_t he te (br_f et_10 (xw_is_t hc jc (br_f et_10 (xw_al_t he c3 (br_f et_10 ?_)))))))
            simp only [et_cl he, et_in he, true_and, forall_eq]
            exact xw_stamp he K
          · unfold wpY_point
            refine br_f s2 (yw_is_t he te (br_f et_10 (yw_is_t hc jc (br_f et_10 (yw_al_t he c3 (br_f et_10 ?_))))))
            simp only [et_cl he, et_in he, true_and, forall_eq]
            exact yw_stamp he K
          · rw [nI_1]
            exact et_mk (et_I_pnt h hs c3 hc jc)
      · refine ⟨0, _, _, fun post K => ?_, fun post K => ?_, same⟩
        · unfold wpX_point
          exact xw_sp_t s1 (br_t rfl (xw_is_t he te (br_f et_10 (xw_is_f c2 (br_t rfl K)))))
        · unfold wpY_point
          exact br_f s2 (yw_is_t he te (br_f et_10 (yw_is_f c2 (br_t rfl K))))
    · refine ⟨0, _, _, fun post K => ?_, fun post K => ?_, same⟩
      · unfold wpX_point
        exact xw_sp_t s1 (br_t rfl (xw_is_f c1 (br_t rfl K)))
      · unfold wpY_point
        exact br_f s2 (yw_is_f c1 (br_t rfl K))
  · obtain ⟨s1, s2⟩ := et_sp_ge hs hSe.1
    refine ⟨0, _, _, fun post K => ?_, fun post K => ?_, same⟩
    · unfold wpX_point
      exact xw_sp_f s1 (br_f et_10 K)
    · unfold wpY_point
      exact br_t s2 K
theorem ev_put (h : et_I t par al s vb se rs ru sn n kd xa ya xn yn fc fe fa) (v1 v2 v3 v4 : Int32) (hb : v4 = 0 ∨ v4 = 1) : ∃ r u' v', (∀ post, post r u' → wpX_put post (nI sn, nI n, tc, fc, t, par, nm, al, s, vb, rs, kd, xa, xn, st, xs, it, tp, fe) v1 v2 v3 v4) ∧ (∀ post, post r v' → wpY_put post (nI n, nI sn, t, par, nm, al, s, se, ru, kd, ya, yn, st, ys, gn, fa) v1 v2 v3 v4) ∧ ∀ k, i_Rel k u' v' := by
  have same : ∀ k, i_Rel k (nI sn, nI n, tc, fc, t, par, nm, al, s, vb, rs, kd, xa, xn, st, xs, it, tp, fe) (nI n, nI sn, t, par, nm, al, s, se, ru, kd, ya, yn, st, ys, gn, fa) := fun k => et_mk h
  have hSe := h.2.2.2.2.2.1
  have hVa := h.2.2.2.1
  by_cases hs : sn < 1000000000
  · obtain ⟨s1, s2⟩ := et_sp_lt hs
    by_cases c1 : et_is t v1
    · obtain ⟨e, he, rfl, te⟩ := c1
      by_cases c2 : al e = -1
      · by_cases c3 : et_rg 6 v2
        · obtain ⟨a, ha, rfl⟩ := c3
          by_cases c4 : et_rg 16 v3
          · obtain ⟨v, hv, rfl⟩ := c4
            have ci : (nI (e * 6 + a)).toNatClampNeg = e * 6 + a := nI_clamp (by omega)
            have vi : vp_in (nI (e * 6 + a)) 288 := vp_in_nI (by omega) (by omega)
            have q := hVa.2 e he te a ha
            have x4 : ∀ post : Int32 → SX → Prop, wX_put_72 post (nI e) v4 (nI (e * 6 + a)) ((1 : Int32) <<< (nI v &&& 31)) (if bt (vb (e * 6 + a)) v = true then 1 else 0) (nI sn) (nI n) tc fc t par nm al s vb rs kd xa xn st xs it tp fe → wpX_put post (nI sn, nI n, tc, fc, t, par, nm, al, s, vb, rs, kd, xa, xn, st, xs, it, tp, fe) (nI e) (nI a) (nI v) v4 := by
              intro post K
              unfold wpX_put
              refine xw_sp_t s1 (br_t rfl (xw_is_t he te (br_f et_10 (xw_al_f he c2 (br_t rfl (xw_at_t ha (br_f et_10 (xw_va_t hv (br_f et_10 ?_)))))))))
              simp only [et_i6, ci, vi, true_and, forall_eq]
              by_cases d : bt (vb (e * 6 + a)) v = true
              · rw [if_pos d] at K
                exact br_f (fun z => (et_bit (by omega)).mp z d) K
              · rw [if_neg d] at K
                exact br_t ((et_bit (by omega)).mpr d) K
            have y4 : ∀ post : Int32 → SY → Prop, wY_put_67 post (nI e) (nI a) (nI v) v4 (if bt (vb (e * 6 + a)) v = true then 1 else 0) (nI n) (nI sn) t par nm al s se ru kd ya yn st ys gn fa → wpY_put post (nI n, nI sn, t, par, nm, al, s, se, ru, kd, ya, yn, st, ys, gn, fa) (nI e) (nI a) (nI v) v4 := by
              intro post K
              unfold wpY_put
              refine br_f s2 (yw_is_t he te (br_f et_10 (yw_al_f he c2 (br_t rfl (yw_in_t (n := 6) (by omega) rfl ha (br_f et_10 (yw_in_t (n := 16) (by omega) rfl hv (br_f et_10 ?_))))))))
              simp only [et_i6', ci, vi, q.2, et_sh1 _ (v := v) (by omega), true_and]
              by_cases d : bt (vb (e * 6 + a)) v = true
              · rw [if_pos d] at K ⊢
                exact br_t rfl K
              · rw [if_neg d] at K ⊢
                exact br_f (by decide) K
            by_cases c5 : (if bt (vb (e * 6 + a)) v = true then (1 : Int32) else 0) = v4
            · refine ⟨0, _, _, fun post K => x4 post ?_, fun post K => y4 post ?_, same⟩
              · exact br_t c5 K
              · exact br_t c5 K
            · refine ⟨1, (nI sn + 1, nI n, tc, fc, t, par, nm, al, upd s e (nI sn + 1), upd vb (e * 6 + a) (vb (e * 6 + a) ^^^ ((1 : Int32) <<< (nI v &&& 31))), rs, kd, xa, xn, st, xs, it, tp, fe), (nI n, nI sn + 1, t, par, nm, al, upd s e (nI sn + 1), upd se (e * 6 + a) (se (e * 6 + a) ^^^ ((1 : Int32) <<< (nI v &&& 31))), ru, kd, ya, yn, st, ys, gn, fa), fun post K => x4 post ?_, fun post K => y4 post ?_, fun k => ?_⟩
              · simp only [wX_put_72, ci, vi, true_and, forall_eq]
                refine br_f c5 ?_
                exact xw_stamp he K
              · simp only [wY_put_67, et_i6', ci, vi, true_and, forall_eq]
                refine br_f c5 ?_
                exact yw_stamp he K
              · rw [nI_1]
                exact et_mk (et_I_put h hs he te ha hv)
          · refine ⟨0, _, _, fun post K => ?_, fun post K => ?_, same⟩
            · unfold wpX_put
              exact xw_sp_t s1 (br_t rfl (xw_is_t he te (br_f et_10 (xw_al_f he c2 (br_t rfl (xw_at_t ha (br_f et_10 (xw_va_f c4 (br_t rfl K)))))))))
            · unfold wpY_put
              exact br_f s2 (yw_is_t he te (br_f et_10 (yw_al_f he c2 (br_t rfl (yw_in_t (n := 6) (by omega) rfl ha (br_f et_10 (yw_in_f (n := 16) (by omega) rfl c4 (br_t rfl K))))))))
        · refine ⟨0, _, _, fun post K => ?_, fun post K => ?_, same⟩
          · unfold wpX_put
            exact xw_sp_t s1 (br_t rfl (xw_is_t he te (br_f et_10 (xw_al_f he c2 (br_t rfl (xw_at_f c3 (br_t rfl K)))))))
          · unfold wpY_put
            exact br_f s2 (yw_is_t he te (br_f et_10 (yw_al_f he c2 (br_t rfl (yw_in_f (n := 6) (by omega) rfl c3 (br_t rfl K))))))
      · refine ⟨0, _, _, fun post K => ?_, fun post K => ?_, same⟩
        · unfold wpX_put
          exact xw_sp_t s1 (br_t rfl (xw_is_t he te (br_f et_10 (xw_al_t he c2 (br_f et_10 K)))))
        · unfold wpY_put
          exact br_f s2 (yw_is_t he te (br_f et_10 (yw_al_t he c2 (br_f et_10 K))))
    · refine ⟨0, _, _, fun post K => ?_, fun post K => ?_, same⟩
      · unfold wpX_put
        exact xw_sp_t s1 (br_t rfl (xw_is_f c1 (br_t rfl K)))
      · unfold wpY_put
        exact br_f s2 (yw_is_f c1 (br_t rfl K))
  · obtain ⟨s1, s2⟩ := et_sp_ge hs hSe.1
    refine ⟨0, _, _, fun post K => ?_, fun post K => ?_, same⟩
    · unfold wpX_put
      exact xw_sp_f s1 (br_f et_10 K)
    · unfold wpY_put
      exact br_t s2 K
end
