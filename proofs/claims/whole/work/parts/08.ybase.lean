section
variable {zn zs : Int32} {t par nm al s se ru kd ya yn st ys gn fa : Nat → Int32}
theorem yw_in_t {post : Int32 → Prop} {a n : Nat} {N : Int32} (hn : n < 2 ^ 31) (hN : N = nI n) (h : a < n) (k : post 1) : wpY_in post (nI a) N := by
  subst hN
  exact et_rg_t hn h k
theorem yw_in_f {post : Int32 → Prop} {n : Nat} {N p : Int32} (hn : n < 2 ^ 31) (hN : N = nI n) (h : ¬ et_rg n p) (k : post 0) : wpY_in post p N := by
  subst hN
  exact et_rg_f hn h k
theorem yw_is_t {post : Int32 → Prop} {e : Nat} (he : e < 48) (te : ¬ t e = 0) (k : post 1) : wpY_isThere post (zn, zs, t, par, nm, al, s, se, ru, kd, ya, yn, st, ys, gn, fa) (nI e) := by
  unfold wpY_isThere
  refine yw_in_t (n := 48) (by omega) rfl he ?_
  exact br_f et_10 ⟨et_in he, br_f (by rw [et_cl he]; exact te) k⟩
theorem yw_is_f {post : Int32 → Prop} {p : Int32} (h : ¬ et_is t p) (k : post 0) : wpY_isThere post (zn, zs, t, par, nm, al, s, se, ru, kd, ya, yn, st, ys, gn, fa) p := by
  unfold wpY_isThere
  by_cases r : et_rg 48 p
  · obtain ⟨j, h1, rfl⟩ := r
    have tj : t j = 0 := Classical.byContradiction fun z => h ⟨j, h1, rfl, z⟩
    refine yw_in_t (n := 48) (by omega) rfl h1 ?_
    exact br_f et_10 ⟨et_in h1, br_t (by rw [et_cl h1]; exact tj) k⟩
  · refine yw_in_f (n := 48) (by omega) rfl r ?_
    exact br_t rfl k
theorem yw_al_t {post : Int32 → Prop} {e : Nat} (he : e < 48) (ha : ¬ al e = -1) (k : post 1) : wpY_isAlias post (zn, zs, t, par, nm, al, s, se, ru, kd, ya, yn, st, ys, gn, fa) (nI e) :=
  ⟨et_in he, br_f (by rw [et_cl he]; exact ha) k⟩
theorem yw_al_f {post : Int32 → Prop} {e : Nat} (he : e < 48) (ha : al e = -1) (k : post 0) : wpY_isAlias post (zn, zs, t, par, nm, al, s, se, ru, kd, ya, yn, st, ys, gn, fa) (nI e) :=
  ⟨et_in he, br_t (by rw [et_cl he]; exact ha) k⟩
theorem yw_named_l {p q : Int32} : ∀ d e n, e + d = 48 → d < n → ∀ post : Int32 → Prop, post (et_fn t par nm p q d e) → wY_child_12 post p q zn zs t par nm al s se ru kd ya yn st ys gn fa n (nI e) := by
  intro d
  induction d with
  | zero =>
    intro e n he hn post hp
    obtain ⟨n, rfl⟩ : ∃ m, n = m + 1 := ⟨n - 1, by omega⟩
    obtain rfl : e = 48 := by omega
    exact br_t et_le48 hp
  | succ d ih =>
    intro e n he hn post hp
    obtain ⟨n, rfl⟩ : ∃ m, n = m + 1 := ⟨n - 1, by omega⟩
    have h : e < 48 := by omega
    have nx := ih (e + 1) n (by omega) (by omega) post
    simp only [et_fn] at hp
    simp only [wY_child_12, et_cl h, et_ge h, et_in h, forall_eq, nI_1, true_and, and_true, not_false_iff, not_true, true_implies, false_implies]
    by_cases a : t e = 0
    · rw [if_neg (fun z => z.1 a)] at hp
      exact br_t a (nx hp)
    · by_cases b : par e = p
      · by_cases c : nm e = q
        · rw [if_pos ⟨a, b, c⟩] at hp
          exact br_f a (br_t b (br_t c hp))
        · rw [if_neg (fun z => c z.2.2)] at hp
          exact br_f a (br_t b (br_f c (nx hp)))
      · rw [if_neg (fun z => b z.2.1)] at hp
        exact br_f a (br_f b (nx hp))
theorem yw_child {post : Int32 → Prop} {p : Nat} {q : Int32} (h0 : par 0 = -1) (hp : p < 48) (tp : ¬ t p = 0) (k : post (et_fn t par nm (nI p) q 48 0)) : wpY_child post (zn, zs, t, par, nm, al, s, se, ru, kd, ya, yn, st, ys, gn, fa) (nI p) q := by
  have e := et_fn_0 (t := t) (par := par) (nm := nm) (p := nI p) (q := q) (by rw [h0]; exact fun z => et_ne1 hp z.symm)
  rw [e] at k
  unfold wpY_child
  refine yw_is_t hp tp ?_
  exact br_f et_10 ⟨48, yw_named_l 47 1 48 rfl (by omega) post k⟩
theorem yw_child_f {post : Int32 → Prop} {p q : Int32} (h : ¬ et_is t p) (k : post (-1)) : wpY_child post (zn, zs, t, par, nm, al, s, se, ru, kd, ya, yn, st, ys, gn, fa) p q := by
  unfold wpY_child
  refine yw_is_f h ?_
  exact br_t rfl k
theorem yw_stamp {post : SY → Prop} {e : Nat} (he : e < 48) (k : post (zn, zs + 1, t, par, nm, al, upd s e (zs + 1), se, ru, kd, ya, yn, st, ys, gn, fa)) : wpY_stamp post (zn, zs, t, par, nm, al, s, se, ru, kd, ya, yn, st, ys, gn, fa) (nI e) := by
  simp only [wpY_stamp, et_cl he, et_in he, forall_eq, nI_1, true_and, and_true, not_false_iff, not_true, true_implies, false_implies]
  exact k
theorem yw_under {post : Int32 → Prop} {p : Int32} (k : post (nI (et_cn (fun e => ¬ t e = 0 ∧ par e = p) 48))) : wpY_under post (zn, zs, t, par, nm, al, s, se, ru, kd, ya, yn, st, ys, gn, fa) p := by
  have key : ∀ d e n, e + d = 48 → d < n → wY_under_4 post p zn zs t par nm al s se ru kd ya yn st ys gn fa n (nI (et_cn (fun e => ¬ t e = 0 ∧ par e = p) e)) (nI e) := by
    intro d
    induction d with
    | zero =>
      intro e n he hn
      obtain ⟨n, rfl⟩ : ∃ m, n = m + 1 := ⟨n - 1, by omega⟩
      obtain rfl : e = 48 := by omega
      exact br_t et_le48 k
    | succ d ih =>
      intro e n he hn
      obtain ⟨n, rfl⟩ : ∃ m, n = m + 1 := ⟨n - 1, by omega⟩
      have h1 : e < 48 := by omega
      have nx := ih (e + 1) n (by omega) (by omega)
      simp only [et_cn] at nx
      simp only [wY_under_4, et_cl h1, et_ge h1, et_in h1, forall_eq, nI_1, true_and, and_true, not_false_iff, not_true, true_implies, false_implies]
      by_cases a : t e = 0
      · rw [et_b_f (fun z => z.1 a)] at nx
        exact br_t a nx
      · by_cases b : par e = p
        · rw [et_b_t ⟨a, b⟩] at nx
          exact br_f a (br_t b nx)
        · rw [et_b_f (fun z => b z.2)] at nx
          exact br_f a (br_f b nx)
  exact ⟨49, key 48 0 49 rfl (by omega)⟩
theorem yw_below {post : Int32 → Prop} {e : Nat} {top : Int32} (hT : et_Tree t par) (he : e < 48) (te : ¬ t e = 0)
    (k1 : et_wi par top 47 (par e) → post 1) (k0 : ¬ et_wi par top 47 (par e) → post 0) : wpY_isBelow post (zn, zs, t, par, nm, al, s, se, ru, kd, ya, yn, st, ys, gn, fa) (nI e) top := by
  have key : ∀ f x n, et_ok t par f x → f < n → (et_wi par top f x → post 1) → (¬ et_wi par top f x → post 0) → wY_isBelow_7 post top zn zs t par nm al s se ru kd ya yn st ys gn fa n x := by
    intro f
    induction f with
    | zero =>
      intro x n hx hn k1 k0
      obtain ⟨n, rfl⟩ : ∃ m, n = m + 1 := ⟨n - 1, by omega⟩
      obtain rfl : x = -1 := hx
      exact br_t et_m1.2.1 (br_t et_m1.2.1 (k0 id))
    | succ f ih =>
      intro x n hx hn k1 k0
      obtain ⟨n, rfl⟩ : ∃ m, n = m + 1 := ⟨n - 1, by omega⟩
      rcases hx with hx | ⟨a, ha, ta, hx, hk⟩
      · subst hx
        exact br_t et_m1.2.1 (br_t et_m1.2.1 (k0 (et_wi_m1 _)))
      · subst hx
        rw [et_wi_e ha] at k1 k0
        refine br_f (et_nn ha) ?_
        by_cases c : nI a = top
        · exact br_t c (br_f (et_nn ha) (k1 (Or.inl c)))
        · refine br_f c ⟨et_in ha, ?_⟩
          simp only [et_cl ha, forall_eq, nI_1, true_and, and_true, not_false_iff, not_true, true_implies, false_implies]
          exact ih _ n hk (by omega) (fun z => k1 (Or.inr z)) (fun z => k0 (fun q => q.elim c z))
  refine ⟨et_in he, ?_⟩
  simp only [et_cl he, forall_eq, nI_1, true_and, and_true, not_false_iff, not_true, true_implies, false_implies]
  exact ⟨48, key 47 _ 48 (et_Tree_par hT he te) (by omega) k1 k0⟩
theorem yw_depth {post : Int32 → Prop} {e : Nat} (hT : et_Tree t par) (he : e < 48) (te : ¬ t e = 0) (k : post (nI (et_dp par 47 (par e)))) : wpY_depth post (zn, zs, t, par, nm, al, s, se, ru, kd, ya, yn, st, ys, gn, fa) (nI e) := by
  have key : ∀ f x m n, et_ok t par f x → f < n → post (nI (m + et_dp par f x)) → wY_depth_9 post zn zs t par nm al s se ru kd ya yn st ys gn fa n (nI m) x := by
    intro f
    induction f with
    | zero =>
      intro x m n hx hn k
      obtain ⟨n, rfl⟩ : ∃ m, n = m + 1 := ⟨n - 1, by omega⟩
      obtain rfl : x = -1 := hx
      exact br_t et_m1.2.1 k
    | succ f ih =>
      intro x m n hx hn k
      obtain ⟨n, rfl⟩ : ∃ m, n = m + 1 := ⟨n - 1, by omega⟩
      rcases hx with hx | ⟨a, ha, ta, hx, hk⟩
      · subst hx
        rw [et_dp_n] at k
        exact br_t et_m1.2.1 k
      · subst hx
        rw [et_dp_e ha] at k
        refine br_f (et_nn ha) ?_
        simp only [et_cl ha, et_in ha, forall_eq, nI_1, true_and, and_true, not_false_iff, not_true, true_implies, false_implies]
        exact ih _ (m + 1) n hk (by omega) (by rw [show m + 1 + et_dp par f (par a) = m + (et_dp par f (par a) + 1) from by omega]; exact k)
  refine ⟨et_in he, ?_⟩
  simp only [et_cl he, forall_eq, nI_1, true_and, and_true, not_false_iff, not_true, true_implies, false_implies]
  exact ⟨48, key 47 _ 0 48 (et_Tree_par hT he te) (by omega) (by rw [Nat.zero_add]; exact k)⟩
theorem et_48lt {s : Nat} (h : s ≤ 48) : ¬ (48 : Int32) < nI s := nI_nlt (a := 48) h (by decide)
theorem yw_leads {post : Int32 → Prop} {e : Nat} (hA : et_Al t al) (he : e < 48) (te : ¬ t e = 0) (k : post (et_ld al 48 (nI e))) : wpY_leadsTo post (zn, zs, t, par, nm, al, s, se, ru, kd, ya, yn, st, ys, gn, fa) (nI e) := by
  have fin : ∀ x, et_vx t x → post (et_ld al 1 x) → wY_leadsTo_35 post x zn zs t par nm al s se ru kd ya yn st ys gn fa := by
    intro x hx k
    rcases hx with hx | ⟨a, ha, ta, hx⟩
    · subst hx
      rw [et_ld_n _ _ et_m1.2.2.1] at k
      exact br_t et_m1.2.2.1 k
    · subst hx
      refine br_f (et_nn ha) ?_
      by_cases c : al a = -1
      · rw [et_ld_e ha c] at k
        exact yw_al_f ha c (br_t rfl k)
      · rw [et_ld_s ha c] at k
        exact yw_al_t ha c (br_f et_10 k)
  have key : ∀ f x s' n, et_vx t x → s' + f = 49 → f < n → post (et_ld al (f + 1) x) → wY_leadsTo_4 post zn zs t par nm al s se ru kd ya yn st ys gn fa n x (nI s') := by
    intro f
    induction f with
    | zero =>
      intro x s' n hx hs hn k
      obtain ⟨n, rfl⟩ : ∃ m, n = m + 1 := ⟨n - 1, by omega⟩
      obtain rfl : s' = 49 := by omega
      exact br_t (by decide) (fin x hx k)
    | succ f ih =>
      intro x s' n hx hs hn k
      obtain ⟨n, rfl⟩ : ∃ m, n = m + 1 := ⟨n - 1, by omega⟩
      have h1 := et_48lt (s := s') (by omega)
      rcases hx with hx | ⟨a, ha, ta, hx⟩
      · subst hx
        rw [et_ld_n _ _ et_m1.2.2.1] at k
        exact br_f h1 (br_t et_m1.2.2.1 (br_t et_m1.2.2.1 k))
      · subst hx
        refine br_f h1 (br_f (et_nn ha) ?_)
        by_cases c : al a = -1
        · rw [et_ld_e ha c] at k
          exact yw_al_f ha c (br_t rfl (fin _ (Or.inr ⟨a, ha, ta, rfl⟩) (by rw [et_ld_e ha c]; exact k)))
        · rw [et_ld_s ha c] at k
          refine yw_al_t ha c (br_f et_10 ⟨et_in ha, ?_⟩)
          simp only [et_cl ha, forall_eq, nI_1, true_and, and_true, not_false_iff, not_true, true_implies, false_implies]
          exact ih _ (s' + 1) n (et_vx_s hA ha ta c) (by omega) (by omega) k
  have hx : et_vx t (nI e) := Or.inr ⟨e, he, te, rfl⟩
  rw [← et_ld_50 hA hx] at k
  exact ⟨50, key 49 _ 0 50 hx rfl (by omega) k⟩
end
