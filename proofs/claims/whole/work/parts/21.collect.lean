section
variable {F : Nat → Prop} {n g : Nat} {vb rs xa xn : Nat → Int32}
section
variable {zs tc fc : Int32} {t par nm al s kd st xs it tp fe : Nat → Int32} {ya yn : Nat → Int32}
theorem xw_collect {post : SX → Prop} (hn : n ≤ 12) (hT : et_Tree t par) (hg : g < 4) (hk : ∀ i, i < n → et_tk kd xa ya xn yn i) (hv : ∀ e, e < 48 → ¬ t e = 0 → ∀ a, a < 6 → et_V (vb (e * 6 + a))) (hf : et_fx (et_op kd) n 0)
    (hF : ∀ x, x < 48 → (¬ xs x = 0 ↔ F x)) (hFt : ∀ x, F x → ¬ t x = 0)
    (k : ∀ fe' : Nat → Int32, (∀ x, x < 48 → et_fi F (fun e st => et_run kd (et_pv par rs vb kd xa xn g e) n st 0) st x → fe' (et_cn (et_fi F (fun e st => et_run kd (et_pv par rs vb kd xa xn g e) n st 0) st) x) = nI x) →
      post (zs, nI n, tc, nI (et_cn (et_fi F (fun e st => et_run kd (et_pv par rs vb kd xa xn g e) n st 0) st) 48), t, par, nm, al, s, vb, rs, kd, xa, xn, et_col F (fun e st => et_run kd (et_pv par rs vb kd xa xn g e) n st 0) st 48, xs, it, tp, fe')) :
    wpX_collectFound post (zs, nI n, tc, 0, t, par, nm, al, s, vb, rs, kd, xa, xn, st, xs, it, tp, fe) (nI g) := by
  generalize hR : (fun e st => et_run kd (et_pv par rs vb kd xa xn g e) n st 0) = R at k
  have hR' : ∀ e st, et_run kd (et_pv par rs vb kd xa xn g e) n st 0 = R e st := fun e st => congrFun (congrFun hR e) st
  have key : ∀ d e m (fe' : Nat → Int32), e + d = 48 → d < m → (∀ x, x < e → et_fi F R st x → fe' (et_cn (et_fi F R st) x) = nI x) →
      wX_collectFound_2 post (nI g) m (nI e) zs (nI n) tc (nI (et_cn (et_fi F R st) e)) t par nm al s vb rs kd xa xn (et_col F R st e) xs it tp fe' := by
    intro d
    induction d with
    | zero =>
      intro e m fe' he hm hx
      obtain ⟨m, rfl⟩ : ∃ y, m = y + 1 := ⟨m - 1, by omega⟩
      obtain rfl : e = 48 := by omega
      exact br_t et_le48 (k fe' hx)
    | succ d ih =>
      intro e m fe' he hm hx
      obtain ⟨m, rfl⟩ : ∃ y, m = y + 1 := ⟨m - 1, by omega⟩
      have h1 : e < 48 := by omega
      have cb := et_cn_le (et_fi F R st) e
      have c48 : et_cn (et_fi F R st) e < 48 := by omega
      have ext : ∀ fe2 : Nat → Int32, (∀ x, x < e → et_fi F R st x → fe2 (et_cn (et_fi F R st) x) = nI x) → (et_fi F R st e → fe2 (et_cn (et_fi F R st) e) = nI e) → ∀ x, x < e + 1 → et_fi F R st x → fe2 (et_cn (et_fi F R st) x) = nI x := fun fe2 a b x hx fx => by
        by_cases q : x = e
        · subst q; exact b fx
        · exact a x (by omega) fx
      simp only [wX_collectFound_2, et_cl h1, et_ge h1, et_in h1, forall_eq, nI_1, true_and, and_true, not_false_iff, not_true, true_implies, false_implies]
      by_cases a : xs e = 0
      · have nF : ¬ F e := fun z => (hF e h1).mpr z a
        have nx := ih (e + 1) m fe' (by omega) (by omega) (ext fe' hx (fun z => absurd z.1 nF))
        rw [et_col_f nF] at nx
        simp only [et_cn] at nx
        rw [et_b_f (fun z => nF z.1)] at nx
        exact br_t a nx
      · have yF : F e := (hF e h1).mp a
        have te := hFt e yF
        refine br_f a (xw_truth (ya := ya) (yn := yn) (n := n) rfl hn hT h1 te hg hk (hv e h1 te) hf ?_)
        rw [hR']
        by_cases r : R e (et_col F R st e) 0 = 2
        · have fe1 : et_fi F R st e := ⟨yF, r⟩
          have nx := ih (e + 1) m (upd fe' (et_cn (et_fi F R st) e) (nI e)) (by omega) (by omega) (ext _ (fun x hx' fx => by
            have l := et_cn_st (P := et_fi F R st) hx' fx
            rw [pk_un (by omega)]
            exact hx x hx' fx) (fun _ => pk_us))
          rw [et_col_t yF] at nx
          simp only [et_cn] at nx
          rw [et_b_t fe1] at nx
          refine br_t r ?_
          simp only [et_cl c48, et_in c48, forall_eq, nI_1, true_and, and_true, not_false_iff, not_true, true_implies, false_implies]
          exact nx
        · have nx := ih (e + 1) m fe' (by omega) (by omega) (ext fe' hx (fun z => absurd z.2 r))
          rw [et_col_t yF] at nx
          simp only [et_cn] at nx
          rw [et_b_f (fun z => r z.2)] at nx
          exact br_f r nx
  exact ⟨49, key 48 0 49 fe rfl (by omega) (fun x hx => absurd hx (Nat.not_lt_zero _))⟩
end
section
variable {zs : Int32} {t par nm al s se ru kd ya yn st ys gn fa : Nat → Int32}
theorem yw_collect {post : Int32 → SY → Prop} (hn : n ≤ 12) (hT : et_Tree t par) (hRu : et_Ru t rs ru) (hg : g < 4) (hk : ∀ i, i < n → et_tk kd xa ya xn yn i) (hv : ∀ e, e < 48 → ¬ t e = 0 → ∀ a, a < 6 → se (e * 6 + a) = vb (e * 6 + a)) (hf : et_fx (et_op kd) n 0)
    (hF : ∀ x, x < 48 → ((¬ ys x = 0 ∧ gn x = 0) ↔ F x)) (hFt : ∀ x, F x → ¬ t x = 0)
    (k : ∀ fa' : Nat → Int32, (∀ x, x < 48 → (¬ fa' x = 0 ↔ et_fi F (fun e st => et_run kd (et_pv par rs vb kd xa xn g e) n st 0) st x)) →
      post (nI (et_cn (et_fi F (fun e st => et_run kd (et_pv par rs vb kd xa xn g e) n st 0) st) 48)) (nI n, zs, t, par, nm, al, s, se, ru, kd, ya, yn, et_col F (fun e st => et_run kd (et_pv par rs vb kd xa xn g e) n st 0) st 48, ys, gn, fa')) :
    ∃ m, wY_search_240 post (nI g) m 0 0 (nI n) zs t par nm al s se ru kd ya yn st ys gn fa := by
  generalize hR : (fun e st => et_run kd (et_pv par rs vb kd xa xn g e) n st 0) = R at k
  have hR' : ∀ e st, et_run kd (et_pv par rs vb kd xa xn g e) n st 0 = R e st := fun e st => congrFun (congrFun hR e) st
  have key : ∀ d e m (fa' : Nat → Int32), e + d = 48 → d < m → (∀ x, x < e → (¬ fa' x = 0 ↔ et_fi F R st x)) →
      wY_search_240 post (nI g) m (nI (et_cn (et_fi F R st) e)) (nI e) (nI n) zs t par nm al s se ru kd ya yn (et_col F R st e) ys gn fa' := by
    intro d
    induction d with
    | zero =>
      intro e m fa' he hm hx
      obtain ⟨m, rfl⟩ : ∃ y, m = y + 1 := ⟨m - 1, by omega⟩
      obtain rfl : e = 48 := by omega
      exact br_t et_le48 (k fa' hx)
    | succ d ih =>
      intro e m fa' he hm hx
      obtain ⟨m, rfl⟩ : ∃ y, m = y + 1 := ⟨m - 1, by omega⟩
      have h1 : e < 48 := by omega
      have no : ¬ et_fi F R st e → wY_search_240 post (nI g) m (nI (et_cn (et_fi F R st) e)) (nI (e + 1)) (nI n) zs t par nm al s se ru kd ya yn (et_col F R st (e + 1)) ys gn (upd fa' e 0) := fun z => by
        have nx := ih (e + 1) m (upd fa' e 0) (by omega) (by omega) (fun x hx' => by
          by_cases q : x = e
          · subst q; rw [pk_us]; exact ⟨fun y => absurd rfl y, fun y => absurd y z⟩
          · rw [pk_un q]; exact hx x (by omega))
        rw [show et_cn (et_fi F R st) (e + 1) = et_cn (et_fi F R st) e + et_b (et_fi F R st e) from rfl, et_b_f z] at nx
        exact nx
      have yes : et_fi F R st e → wY_search_240 post (nI g) m (nI (et_cn (et_fi F R st) e + 1)) (nI (e + 1)) (nI n) zs t par nm al s se ru kd ya yn (et_col F R st (e + 1)) ys gn (upd fa' e 1) := fun z => by
        have nx := ih (e + 1) m (upd fa' e 1) (by omega) (by omega) (fun x hx' => by
          by_cases q : x = e
          · subst q; exact ⟨fun _ => z, fun _ => et_u1k⟩
          · rw [pk_un q]; exact hx x (by omega))
        rw [show et_cn (et_fi F R st) (e + 1) = et_cn (et_fi F R st) e + et_b (et_fi F R st e) from rfl, et_b_t z] at nx
        exact nx
      have u0 : upd fa' e 0 e = 0 := pk_us
      simp only [wY_search_240, wY_search_288, wY_search_289, et_cl h1, et_ge h1, et_in h1, et_bo.1, et_bo.2, forall_eq, nI_1, true_and, and_true, not_false_iff, not_true, true_implies, false_implies]
      by_cases a : ys e = 0
      · have nF : ¬ F e := fun z => ((hF e h1).mpr z).1 a
        rw [et_col_f nF] at no
        exact br_t a (br_t u0 (no (fun z => nF z.1)))
      · refine br_f a ?_
        by_cases b : gn e = 0
        · have yF : F e := (hF e h1).mp ⟨a, b⟩
          have te := hFt e yF
          rw [et_col_t yF] at no yes
          refine br_t b (yw_pass (n := n) rfl hn hT hRu h1 te hg hk (hv e h1 te) hf (fun r => ?_) (fun r => ?_))
          · rw [hR'] at r ⊢
            exact br_f et_10 (br_f et_u1k (yes ⟨yF, r⟩))
          · rw [hR'] at r ⊢
            exact br_t rfl (br_t u0 (no (fun z => r z.2)))
        · have nF : ¬ F e := fun z => b ((hF e h1).mpr z).2
          rw [et_col_f nF] at no
          exact br_f b (br_t u0 (no (fun z => nF z.1)))
  exact ⟨49, key 48 0 49 fa rfl (by omega) (fun x hx => absurd hx (Nat.not_lt_zero _))⟩
end
end
