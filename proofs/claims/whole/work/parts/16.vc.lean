theorem et_sp_lt {sn : Nat} (hs : sn < 1000000000) : nI sn < 1000000000 ∧ ¬ nI sn = 1000000000 := by
  have e : (1000000000 : Int32) = nI 1000000000 := by decide
  rw [e]
  exact ⟨nI_lt hs (by omega), fun z => by rw [nI_eq (by omega) (by omega)] at z; omega⟩
theorem et_sp_ge {sn : Nat} (hs : ¬ sn < 1000000000) (h : sn ≤ 1000000000) : ¬ nI sn < 1000000000 ∧ nI sn = 1000000000 := by
  obtain rfl : sn = 1000000000 := by omega
  decide
theorem et_100 : (100 : Int32) = nI 100 := by decide
section
variable {zs zn tc fc : Int32} {t par nm al s vb rs kd xa xn st xs it tp fe : Nat → Int32}
theorem xw_can_f1 {post : Int32 → Prop} {p q m : Int32} (hp : ¬ et_is t p) (k : post 0) : wpX_canBeUnder post (zs, zn, tc, fc, t, par, nm, al, s, vb, rs, kd, xa, xn, st, xs, it, tp, fe) p q m := by
  unfold wpX_canBeUnder
  exact xw_is_f hp (br_t rfl k)
theorem xw_can_f2 {post : Int32 → Prop} {p : Nat} {q m : Int32} (hp : p < 48) (jp : ¬ t p = 0) (ha : ¬ al p = -1) (k : post 0) : wpX_canBeUnder post (zs, zn, tc, fc, t, par, nm, al, s, vb, rs, kd, xa, xn, st, xs, it, tp, fe) (nI p) q m := by
  unfold wpX_canBeUnder
  exact xw_is_t hp jp (br_f et_10 (xw_al_t hp ha (br_f et_10 k)))
theorem xw_can_f3 {post : Int32 → Prop} {p : Nat} {q m : Int32} (hp : p < 48) (jp : ¬ t p = 0) (ha : al p = -1) (hq : ¬ et_rg 100 q) (k : post 0) : wpX_canBeUnder post (zs, zn, tc, fc, t, par, nm, al, s, vb, rs, kd, xa, xn, st, xs, it, tp, fe) (nI p) q m := by
  unfold wpX_canBeUnder
  refine xw_is_t hp jp (br_f et_10 (xw_al_f hp ha (br_t rfl ?_)))
  rcases pk_ix q (n := 100) (by omega) with h1 | h1 | ⟨j, h1, h2⟩
  · exact br_t h1 k
  · exact br_c (fun _ => k) (fun _ => br_f (Int32.not_lt.mpr h1) k)
  · exact (hq ⟨j, h1, h2⟩).elim
theorem xw_can_v {post : Int32 → Prop} {p q : Nat} {m : Int32} (hp : p < 48) (jp : ¬ t p = 0) (ha : al p = -1) (hq : q < 100)
    (k1 : et_fn t par nm (nI p) (nI q) 48 0 = -1 ∨ et_fn t par nm (nI p) (nI q) 48 0 = m → post 1) (k0 : ¬ et_fn t par nm (nI p) (nI q) 48 0 = -1 → ¬ et_fn t par nm (nI p) (nI q) 48 0 = m → post 0) : wpX_canBeUnder post (zs, zn, tc, fc, t, par, nm, al, s, vb, rs, kd, xa, xn, st, xs, it, tp, fe) (nI p) (nI q) m := by
  unfold wpX_canBeUnder
  refine xw_is_t hp jp (br_f et_10 (xw_al_f hp ha (br_t rfl (br_f (nI_pos (by omega)) (br_t (nI_lt (b := 100) hq (by decide)) (xw_named ?_))))))
  exact br_c (fun z => k1 (Or.inl z)) (fun z => br_c (fun y => k1 (Or.inr y)) (fun y => k0 z y))
theorem xw_can_any {post : Int32 → Prop} {p : Nat} {q m : Int32} (hp : p < 48) (jp : ¬ t p = 0) (ha : al p = -1) (k1 : post 1) (k0 : post 0) : wpX_canBeUnder post (zs, zn, tc, fc, t, par, nm, al, s, vb, rs, kd, xa, xn, st, xs, it, tp, fe) (nI p) q m := by
  by_cases hq : et_rg 100 q
  · obtain ⟨j, hj, rfl⟩ := hq
    exact xw_can_v hp jp ha hj (fun _ => k1) (fun _ _ => k0)
  · exact xw_can_f3 hp jp ha hq k0
end
section
variable {tc fc : Int32} {t par nm al s vb rs kd xa xn st xs it tp fe se ru ya yn ys gn fa : Nat → Int32} {sn n : Nat}
theorem ev_add (h : et_I t par al s vb se rs ru sn n kd xa ya xn yn fc fe fa) (v1 v2 v3 : Int32) : ∃ r u' v', (∀ post, post r u' → wpX_add post (nI sn, nI n, tc, fc, t, par, nm, al, s, vb, rs, kd, xa, xn, st, xs, it, tp, fe) v1 v2 v3) ∧ (∀ post, post r v' → wpY_add post (nI n, nI sn, t, par, nm, al, s, se, ru, kd, ya, yn, st, ys, gn, fa) v1 v2 v3) ∧ ∀ k, i_Rel k u' v' := by
  have same : ∀ k, i_Rel k (nI sn, nI n, tc, fc, t, par, nm, al, s, vb, rs, kd, xa, xn, st, xs, it, tp, fe) (nI n, nI sn, t, par, nm, al, s, se, ru, kd, ya, yn, st, ys, gn, fa) := fun k => et_mk h
  have hT := h.1
  have hSe := h.2.2.2.2.2.1
  by_cases hs : sn < 1000000000
  · obtain ⟨s1, s2⟩ := et_sp_lt hs
    by_cases c1 : et_is t v1
    · obtain ⟨p, hp, rfl, jp⟩ := c1
      by_cases c2 : al p = -1
      · by_cases c3 : et_rg 100 v2
        · obtain ⟨q, hq, rfl⟩ := c3
          have fcc := et_fn_c (t := t) (par := par) (nm := nm) (p := nI p) (q := nI q) 48 0 (by omega)
          by_cases c4 : et_fn t par nm (nI p) (nI q) 48 0 = -1
          · have y4 : ¬ (0 : Int32) ≤ et_fn t par nm (nI p) (nI q) 48 0 := by rw [c4]; decide
            by_cases c5 : v3 = -1 ∨ et_is t v3
            · have x5 : ∀ post : Int32 → SX → Prop, wX_add_34 post (nI p) (nI q) v3 (nI sn) (nI n) tc fc t par nm al s vb rs kd xa xn st xs it tp fe → wpX_add post (nI sn, nI n, tc, fc, t, par, nm, al, s, vb, rs, kd, xa, xn, st, xs, it, tp, fe) (nI p) (nI q) v3 := by
                intro post K
                unfold wpX_add
                refine xw_sp_t s1 (br_t rfl (xw_can_v hp jp c2 hq (fun _ => br_f et_10 ?_) (fun z => absurd c4 z)))
                by_cases d : v3 = -1
                · exact br_t d K
                · obtain ⟨a, ha, rfl, ta⟩ := c5.elim (fun z => absurd z d) id
                  exact br_f d (xw_is_t ha ta (br_f et_10 K))
              have y5 : ∀ post : Int32 → SY → Prop, (∃ m, wY_add_61 post (nI p) (nI q) v3 (nI n) (nI sn) t par nm al s se ru kd ya yn st ys gn fa m 0) → wpY_add post (nI n, nI sn, t, par, nm, al, s, se, ru, kd, ya, yn, st, ys, gn, fa) (nI p) (nI q) v3 := by
                intro post K
                unfold wpY_add
                refine br_f s2 (yw_is_t hp jp (br_f et_10 (yw_al_f hp c2 (br_t rfl (yw_in_t (n := 100) (by omega) et_100 hq (br_f et_10 (yw_child hT.2.1 hp jp (br_f y4 ?_))))))))
                by_cases d : v3 = -1
                · exact br_t d K
                · obtain ⟨a, ha, rfl, ta⟩ := c5.elim (fun z => absurd z d) id
                  exact br_f d (yw_is_t ha ta (br_f et_10 K))
              by_cases c6 : ∃ f, f < 48 ∧ t f = 0
              · obtain ⟨f, ⟨hf, tf⟩, hmin⟩ := et_least (fun f => f < 48 ∧ t f = 0) c6
                have hm : ∀ j, j < f → ¬ t j = 0 := fun j hj z => hmin j hj ⟨by omega, z⟩
                refine ⟨nI f, (nI sn + 1, nI n, tc, fc, upd t f 1, upd par f (nI p), upd nm f (nI q), upd al f v3, upd s f (nI sn + 1), vb, rs, kd, xa, xn, st, xs, it, tp, fe), _, fun post K => x5 post ?_, fun post K => y5 post (yw_afree_t hf tf hm K), fun k => ?_⟩
                · unfold wX_add_34
                  refine xw_free_t hf tf hm (br_f (et_ne1 hf) ?_)
                  simp only [et_cl hf, et_in hf, et_bo.1, true_and, forall_eq]
                  exact xw_stamp hf K
                · rw [nI_1]
                  exact et_mk (et_I_add h hs hf tf hp jp c5)
              · have hm : ∀ j, j < 48 → ¬ t j = 0 := fun j hj z => c6 ⟨j, hj, z⟩
                refine ⟨-1, _, _, fun post K => x5 post ?_, fun post K => y5 post (yw_afree_f hm K), same⟩
                unfold wX_add_34
                exact xw_free_f hm (br_t rfl K)
            · have d : ¬ v3 = -1 := fun z => c5 (Or.inl z)
              have d2 : ¬ et_is t v3 := fun z => c5 (Or.inr z)
              refine ⟨-1, _, _, fun post K => ?_, fun post K => ?_, same⟩
              · unfold wpX_add
                exact xw_sp_t s1 (br_t rfl (xw_can_v hp jp c2 hq (fun _ => br_f et_10 (br_f d (xw_is_f d2 (br_t rfl K)))) (fun z => absurd c4 z)))
              · unfold wpY_add
                exact br_f s2 (yw_is_t hp jp (br_f et_10 (yw_al_f hp c2 (br_t rfl (yw_in_t (n := 100) (by omega) et_100 hq (br_f et_10 (yw_child hT.2.1 hp jp (br_f y4 (br_f d (yw_is_f d2 (br_t rfl K)))))))))))
          · have y4 : (0 : Int32) ≤ et_fn t par nm (nI p) (nI q) 48 0 := by
              obtain ⟨a, ha, e⟩ := fcc.elim (fun z => absurd z c4) id
              rw [e]
              exact nI_pos' (by omega)
            refine ⟨-1, _, _, fun post K => ?_, fun post K => ?_, same⟩
            · unfold wpX_add
              exact xw_sp_t s1 (br_t rfl (xw_can_v hp jp c2 hq (fun z => absurd (z.elim id id) c4) (fun _ _ => br_t rfl K)))
            · unfold wpY_add
              exact br_f s2 (yw_is_t hp jp (br_f et_10 (yw_al_f hp c2 (br_t rfl (yw_in_t (n := 100) (by omega) et_100 hq (br_f et_10 (yw_child hT.2.1 hp jp (br_t y4 K))))))))
        · refine ⟨-1, _, _, fun post K => ?_, fun post K => ?_, same⟩
          · unfold wpX_add
            exact xw_sp_t s1 (br_t rfl (xw_can_f3 hp jp c2 c3 (br_t rfl K)))
          · unfold wpY_add
            exact br_f s2 (yw_is_t hp jp (br_f et_10 (yw_al_f hp c2 (br_t rfl (yw_in_f (n := 100) (by omega) et_100 c3 (br_t rfl K))))))
      · refine ⟨-1, _, _, fun post K => ?_, fun post K => ?_, same⟩
        · unfold wpX_add
          exact xw_sp_t s1 (br_t rfl (xw_can_f2 hp jp c2 (br_t rfl K)))
        · unfold wpY_add
          exact br_f s2 (yw_is_t hp jp (br_f et_10 (yw_al_t hp c2 (br_f et_10 K))))
    · refine ⟨-1, _, _, fun post K => ?_, fun post K => ?_, same⟩
      · unfold wpX_add
        exact xw_sp_t s1 (br_t rfl (xw_can_f1 c1 (br_t rfl K)))
      · unfold wpY_add
        exact br_f s2 (yw_is_f c1 (br_t rfl K))
  · obtain ⟨s1, s2⟩ := et_sp_ge hs hSe.1
    refine ⟨-1, _, _, fun post K => ?_, fun post K => ?_, same⟩
    · unfold wpX_add
      exact xw_sp_f s1 (br_f et_10 K)
    · unfold wpY_add
      exact br_t s2 K
theorem ev_remove (h : et_I t par al s vb se rs ru sn n kd xa ya xn yn fc fe fa) (v1 : Int32) : ∃ r u' v', (∀ post, post r u' → wpX_remove post (nI sn, nI n, tc, fc, t, par, nm, al, s, vb, rs, kd, xa, xn, st, xs, it, tp, fe) v1) ∧ (∀ post, post r v' → wpY_remove post (nI n, nI sn, t, par, nm, al, s, se, ru, kd, ya, yn, st, ys, gn, fa) v1) ∧ ∀ k, i_Rel k u' v' := by
  have same : ∀ k, i_Rel k (nI sn, nI n, tc, fc, t, par, nm, al, s, vb, rs, kd, xa, xn, st, xs, it, tp, fe) (nI n, nI sn, t, par, nm, al, s, se, ru, kd, ya, yn, st, ys, gn, fa) := fun k => et_mk h
  have hSe := h.2.2.2.2.2.1
  by_cases hs : sn < 1000000000
  · obtain ⟨s1, s2⟩ := et_sp_lt hs
    by_cases c1 : et_is t v1
    · obtain ⟨e, he, rfl, te⟩ := c1
      by_cases c2 : nI e = 0
      · refine ⟨0, _, _, fun post K => ?_, fun post K => ?_, same⟩
        · unfold wpX_remove
          exact xw_sp_t s1 (br_t rfl (xw_is_t he te (br_f et_10 (br_t c2 K))))
        · unfold wpY_remove
          exact br_f s2 (yw_is_t he te (br_f et_10 (br_t c2 K)))
      · have e0 : ¬ e = 0 := fun z => c2 (by rw [z]; rfl)
        have b := et_cn_le (fun x => ¬ t x = 0 ∧ par x = nI e) 48
        by_cases c3 : et_cn (fun x => ¬ t x = 0 ∧ par x = nI e) 48 = 0
        · have z3 : nI (et_cn (fun x => ¬ t x = 0 ∧ par x = nI e) 48) ≤ 0 := by rw [c3]; decide
          refine ⟨1, (nI sn + 1, nI n, tc, fc, upd t e 0, par, nm, et_un (upd t e 0) al (nI e) 48, s, et_fill vb (e * 6) 0 6, et_fill rs (e * 24) 0 24, kd, xa, xn, st, xs, it, tp, fe), (nI n, nI sn + 1, upd t e 0, par, nm, et_un (upd t e 0) al (nI e) 48, s, se, ru, kd, ya, yn, st, ys, gn, fa), fun post K => ?_, fun post K => ?_, fun k => ?_⟩
          · unfold wpX_remove
            refine xw_sp_t s1 (br_t rfl (xw_is_t he te (br_f et_10 (br_f c2 (xw_under (br_t z3 ?_))))))
            simp only [et_cl he, et_in he, et_bo.2, true_and, forall_eq]
            refine xw_unpoint ?_
            refine xw_fval he ?_
            refine xw_frul he ?_
            exact K
          · unfold wpY_remove
            refine br_f s2 (yw_is_t he te (br_f et_10 (br_f c2 (yw_under (br_t z3 ?_)))))
            simp only [et_cl he, et_in he, et_bo.2, true_and, forall_eq]
            exact yw_rem K
          · rw [nI_1]
            exact et_mk (et_I_rem h hs he e0 c3)
        · have z3 : ¬ nI (et_cn (fun x => ¬ t x = 0 ∧ par x = nI e) 48) ≤ 0 := nI_nle (by omega) (by omega)
          refine ⟨0, _, _, fun post K => ?_, fun post K => ?_, same⟩
          · unfold wpX_remove
            exact xw_sp_t s1 (br_t rfl (xw_is_t he te (br_f et_10 (br_f c2 (xw_under (br_f z3 K))))))
          · unfold wpY_remove
            exact br_f s2 (yw_is_t he te (br_f et_10 (br_f c2 (yw_under (br_f z3 K)))))
    · refine ⟨0, _, _, fun post K => ?_, fun post K => ?_, same⟩
      · unfold wpX_remove
        exact xw_sp_t s1 (br_t rfl (xw_is_f c1 (br_t rfl K)))
      · unfold wpY_remove
        exact br_f s2 (yw_is_f c1 (br_t rfl K))
  · obtain ⟨s1, s2⟩ := et_sp_ge hs hSe.1
    refine ⟨0, _, _, fun post K => ?_, fun post K => ?_, same⟩
    · unfold wpX_remove
      exact xw_sp_f s1 (br_f et_10 K)
    · unfold wpY_remove
      exact br_t s2 K
end
