theorem et_ge {e : Nat} (h : e < 48) : ¬ (48 : Int32) ≤ nI e := nI_ge (b := 48) h (by decide)
theorem et_le48 : (48 : Int32) ≤ nI 48 := by decide
theorem et_in {e : Nat} (h : e < 48) : vp_in (nI e) 48 := vp_in_nI h (by omega)
theorem et_bo : vp_nar .boolean 1 = 1 ∧ vp_nar .boolean 0 = 0 := by decide
theorem et_10 : ¬ (1 : Int32) = 0 := by decide
theorem et_i6 (e j : Nat) : nI e * 6 + nI j = nI (e * 6 + j) := by
  rw [show (6 : Int32) = nI 6 from rfl, pk_mul, nI_add]
theorem et_i6' (e j : Nat) : 6 * nI e + nI j = nI (e * 6 + j) := by
  rw [show (6 : Int32) = nI 6 from rfl, pk_mul, nI_add, Nat.mul_comm 6 e]
theorem et_i24 (e j : Nat) : nI e * 24 + nI j = nI (e * 24 + j) := by
  rw [show (24 : Int32) = nI 24 from rfl, pk_mul, nI_add]
theorem et_i24' (e j : Nat) : 24 * nI e + nI j = nI (e * 24 + j) := by
  rw [show (24 : Int32) = nI 24 from rfl, pk_mul, nI_add, Nat.mul_comm 24 e]
theorem et_i3 (e g a : Nat) : nI e * 24 + nI g * 6 + nI a = nI (e * 24 + (g * 6 + a)) := by
  rw [show (24 : Int32) = nI 24 from rfl, show (6 : Int32) = nI 6 from rfl, pk_mul, pk_mul, nI_add, nI_add, Nat.add_assoc]
theorem et_i3' (e g a : Nat) : 24 * nI e + 6 * nI g + nI a = nI (e * 24 + (g * 6 + a)) := by
  rw [show (24 : Int32) = nI 24 from rfl, show (6 : Int32) = nI 6 from rfl, pk_mul, pk_mul, nI_add, nI_add, Nat.add_assoc, Nat.mul_comm 24 e, Nat.mul_comm 6 g]
def et_is (t : Nat → Int32) (p : Int32) : Prop := ∃ e, e < 48 ∧ p = nI e ∧ ¬ t e = 0
def et_rg (n : Nat) (p : Int32) : Prop := ∃ a, a < n ∧ p = nI a
theorem et_rg_f {n : Nat} (hn : n < 2 ^ 31) {p : Int32} (h : ¬ et_rg n p) {A B : Prop} (k : A) : (p < 0 → A) ∧ (¬ p < 0 → (nI n ≤ p → A) ∧ (¬ nI n ≤ p → B)) := by
  rcases pk_ix p hn with h1 | h1 | ⟨j, h1, h2⟩
  · exact br_t h1 k
  · exact br_c (fun _ => k) (fun _ => br_t h1 k)
  · exact (h ⟨j, h1, h2⟩).elim
theorem et_rg_t {n a : Nat} (hn : n < 2 ^ 31) (h : a < n) {A B : Prop} (k : B) : (nI a < 0 → A) ∧ (¬ nI a < 0 → (nI n ≤ nI a → A) ∧ (¬ nI n ≤ nI a → B)) :=
  br_f (nI_pos (by omega)) (br_f (nI_ge h hn) k)
/-! the first that bears a name -/
def et_fn (t par nm : Nat → Int32) (p q : Int32) : Nat → Nat → Int32
  | 0, _ => -1
  | d + 1, e => if ¬ t e = 0 ∧ par e = p ∧ nm e = q then nI e else et_fn t par nm p q d (e + 1)
theorem et_fn_c {t par nm : Nat → Int32} {p q : Int32} : ∀ d e, e + d ≤ 48 → et_fn t par nm p q d e = -1 ∨ ∃ a, a < 48 ∧ et_fn t par nm p q d e = nI a
  | 0, _, _ => Or.inl rfl
  | d + 1, e, h => by
    simp only [et_fn]
    by_cases c : ¬ t e = 0 ∧ par e = p ∧ nm e = q
    · rw [if_pos c]; exact Or.inr ⟨e, by omega, rfl⟩
    · rw [if_neg c]; exact et_fn_c d (e + 1) (by omega)
theorem et_fn_0 {t par nm : Nat → Int32} {p q : Int32} (h : ¬ par 0 = p) : et_fn t par nm p q 48 0 = et_fn t par nm p q 47 1 := if_neg (fun z => h z.2.1)
section
variable {zs zn tc fc : Int32} {t par nm al s vb rs kd xa xn st xs it tp fe : Nat → Int32}
theorem xw_sp_t {post : Int32 → Prop} (h : zs < 1000000000) (k : post 0) : wpX_serialIsSpent post (zs, zn, tc, fc, t, par, nm, al, s, vb, rs, kd, xa, xn, st, xs, it, tp, fe) := br_t h k
theorem xw_sp_f {post : Int32 → Prop} (h : ¬ zs < 1000000000) (k : post 1) : wpX_serialIsSpent post (zs, zn, tc, fc, t, par, nm, al, s, vb, rs, kd, xa, xn, st, xs, it, tp, fe) := br_f h k
theorem xw_is_t {post : Int32 → Prop} {e : Nat} (he : e < 48) (te : ¬ t e = 0) (k : post 1) : wpX_isThere post (zs, zn, tc, fc, t, par, nm, al, s, vb, rs, kd, xa, xn, st, xs, it, tp, fe) (nI e) :=
  br_f (et_nn he) (br_f (et_ge he) ⟨et_in he, br_f (by rw [et_cl he]; exact te) k⟩)
theorem xw_is_f {post : Int32 → Prop} {p : Int32} (h : ¬ et_is t p) (k : post 0) : wpX_isThere post (zs, zn, tc, fc, t, par, nm, al, s, vb, rs, kd, xa, xn, st, xs, it, tp, fe) p := by
  rcases pk_ix p (n := 48) (by omega) with h1 | h1 | ⟨j, h1, rfl⟩
  · exact br_t h1 k
  · exact br_c (fun _ => k) (fun _ => br_t h1 k)
  · have tj : t j = 0 := Classical.byContradiction fun z => h ⟨j, h1, rfl, z⟩
    exact br_f (et_nn h1) (br_f (et_ge h1) ⟨et_in h1, br_t (by rw [et_cl h1]; exact tj) k⟩)
theorem xw_al_t {post : Int32 → Prop} {e : Nat} (he : e < 48) (ha : ¬ al e = -1) (k : post 1) : wpX_isAlias post (zs, zn, tc, fc, t, par, nm, al, s, vb, rs, kd, xa, xn, st, xs, it, tp, fe) (nI e) :=
  ⟨et_in he, br_f (by rw [et_cl he]; exact ha) k⟩
theorem xw_al_f {post : Int32 → Prop} {e : Nat} (he : e < 48) (ha : al e = -1) (k : post 0) : wpX_isAlias post (zs, zn, tc, fc, t, par, nm, al, s, vb, rs, kd, xa, xn, st, xs, it, tp, fe) (nI e) :=
  ⟨et_in he, br_t (by rw [et_cl he]; exact ha) k⟩
theorem xw_at_t {post : Int32 → Prop} {a : Nat} (h : a < 6) (k : post 1) : wpX_isAttribute post (zs, zn, tc, fc, t, par, nm, al, s, vb, rs, kd, xa, xn, st, xs, it, tp, fe) (nI a) := et_rg_t (n := 6) (by omega) h k
theorem xw_at_f {post : Int32 → Prop} {p : Int32} (h : ¬ et_rg 6 p) (k : post 0) : wpX_isAttribute post (zs, zn, tc, fc, t, par, nm, al, s, vb, rs, kd, xa, xn, st, xs, it, tp, fe) p := et_rg_f (n := 6) (by omega) h k
theorem xw_va_t {post : Int32 → Prop} {a : Nat} (h : a < 16) (k : post 1) : wpX_isValue post (zs, zn, tc, fc, t, par, nm, al, s, vb, rs, kd, xa, xn, st, xs, it, tp, fe) (nI a) := et_rg_t (n := 16) (by omega) h k
theorem xw_va_f {post : Int32 → Prop} {p : Int32} (h : ¬ et_rg 16 p) (k : post 0) : wpX_isValue post (zs, zn, tc, fc, t, par, nm, al, s, vb, rs, kd, xa, xn, st, xs, it, tp, fe) p := et_rg_f (n := 16) (by omega) h k
theorem xw_gr_t {post : Int32 → Prop} {a : Nat} (h : a < 4) (k : post 1) : wpX_isGroup post (zs, zn, tc, fc, t, par, nm, al, s, vb, rs, kd, xa, xn, st, xs, it, tp, fe) (nI a) := et_rg_t (n := 4) (by omega) h k
theorem xw_gr_f {post : Int32 → Prop} {p : Int32} (h : ¬ et_rg 4 p) (k : post 0) : wpX_isGroup post (zs, zn, tc, fc, t, par, nm, al, s, vb, rs, kd, xa, xn, st, xs, it, tp, fe) p := et_rg_f (n := 4) (by omega) h k
theorem xw_named_l {p q : Int32} : ∀ d e n, e + d = 48 → d < n → ∀ post : Int32 → Prop, post (et_fn t par nm p q d e) → wX_entryNamed_2 post p q zs zn tc fc t par nm al s vb rs kd xa xn st xs it tp fe n (nI e) := by
  intro d
  induction d with
  | zero =>
    intro e n he hn post hp
    obtain ⟨n, rfl⟩ : ∃ m, n = m + 1 := ⟨n - 1, by omega⟩
    obtain rfl : e = 48 := by omega
    exact br_t et_le48 hp
  | succ d ih =>
    intro e n he hn post hp
    obtain ⟨n, rfl⟩ : ∃ m, n = m + 1 := ⟨n - 1, by omega⟩
    have h : e < 48 := by omega
    have nx := ih (e + 1) n (by omega) (by omega) post
    simp only [et_fn] at hp
    simp only [wX_entryNamed_2, et_cl h, et_ge h, et_in h, forall_eq, nI_1, true_and, and_true, not_false_iff, not_true, true_implies, false_implies]
    by_cases a : t e = 0
    · rw [if_neg (fun z => z.1 a)] at hp
      exact br_t a (nx hp)
    · by_cases b : par e = p
      · by_cases c : nm e = q
        · rw [if_pos ⟨a, b, c⟩] at hp
          exact br_f a (br_t b (br_t c hp))
        · rw [if_neg (fun z => c z.2.2)] at hp
          exact br_f a (br_t b (br_f c (nx hp)))
      · rw [if_neg (fun z => b z.2.1)] at hp
        exact br_f a (br_f b (nx hp))
theorem xw_named {post : Int32 → Prop} {p q : Int32} (k : post (et_fn t par nm p q 48 0)) : wpX_entryNamed post (zs, zn, tc, fc, t, par, nm, al, s, vb, rs, kd, xa, xn, st, xs, it, tp, fe) p q := ⟨49, xw_named_l 48 0 49 rfl (by omega) post k⟩
theorem xw_free_f {post : Int32 → Prop} (h : ∀ j, j < 48 → ¬ t j = 0) (k : post (-1)) : wpX_leastFree post (zs, zn, tc, fc, t, par, nm, al, s, vb, rs, kd, xa, xn, st, xs, it, tp, fe) := by
  have key : ∀ d e n, e + d = 48 → d < n → wX_leastFree_2 post zs zn tc fc t par nm al s vb rs kd xa xn st xs it tp fe n (nI e) := by
    intro d
    induction d with
    | zero =>
      intro e n he hn
      obtain ⟨n, rfl⟩ : ∃ m, n = m + 1 := ⟨n - 1, by omega⟩
      obtain rfl : e = 48 := by omega
      exact br_t et_le48 k
    | succ d ih =>
      intro e n he hn
      obtain ⟨n, rfl⟩ : ∃ m, n = m + 1 := ⟨n - 1, by omega⟩
      have h1 : e < 48 := by omega
      simp only [wX_leastFree_2, et_cl h1, et_ge h1, et_in h1, forall_eq, nI_1, true_and, and_true, not_false_iff, not_true, true_implies, false_implies]
      exact br_f (h e h1) (ih (e + 1) n (by omega) (by omega))
  exact ⟨49, key 48 0 49 rfl (by omega)⟩
theorem xw_free_t {post : Int32 → Prop} {f : Nat} (hf : f < 48) (tf : t f = 0) (h : ∀ j, j < f → ¬ t j = 0) (k : post (nI f)) : wpX_leastFree post (zs, zn, tc, fc, t, par, nm, al, s, vb, rs, kd, xa, xn, st, xs, it, tp, fe) := by
  have key : ∀ d e n, e + d = f → d < n → wX_leastFree_2 post zs zn tc fc t par nm al s vb rs kd xa xn st xs it tp fe n (nI e) := by
    intro d
    induction d with
    | zero =>
      intro e n he hn
      obtain ⟨n, rfl⟩ : ∃ m, n = m + 1 := ⟨n - 1, by omega⟩
      obtain rfl : e = f := by omega
      simp only [wX_leastFree_2, et_cl hf, et_ge hf, et_in hf, forall_eq, nI_1, true_and, and_true, not_false_iff, not_true, true_implies, false_implies]
      exact br_t tf k
    | succ d ih =>
      intro e n he hn
      obtain ⟨n, rfl⟩ : ∃ m, n = m + 1 := ⟨n - 1, by omega⟩
      have h1 : e < 48 := by omega
      simp only [wX_leastFree_2, et_cl h1, et_ge h1, et_in h1, forall_eq, nI_1, true_and, and_true, not_false_iff, not_true, true_implies, false_implies]
      exact br_f (h e (by omega)) (ih (e + 1) n (by omega) (by omega))
  exact ⟨f + 1, key f 0 (f + 1) (by omega) (by omega)⟩
theorem xw_stamp {post : SX → Prop} {e : Nat} (he : e < 48) (k : post (zs + 1, zn, tc, fc, t, par, nm, al, upd s e (zs + 1), vb, rs, kd, xa, xn, st, xs, it, tp, fe)) : wpX_stamp post (zs, zn, tc, fc, t, par, nm, al, s, vb, rs, kd, xa, xn, st, xs, it, tp, fe) (nI e) := by
  simp only [wpX_stamp, et_cl he, et_in he, forall_eq, nI_1, true_and, and_true, not_false_iff, not_true, true_implies, false_implies]
  exact k
theorem xw_under {post : Int32 → Prop} {p : Int32} (k : post (nI (et_cn (fun e => ¬ t e = 0 ∧ par e = p) 48))) : wpX_countUnder post (zs, zn, tc, fc, t, par, nm, al, s, vb, rs, kd, xa, xn, st, xs, it, tp, fe) p := by
  have key : ∀ d e n, e + d = 48 → d < n → wX_countUnder_4 post p zs zn tc fc t par nm al s vb rs kd xa xn st xs it tp fe n (nI (et_cn (fun e => ¬ t e = 0 ∧ par e = p) e)) (nI e) := by
    intro d
    induction d with
    | zero =>
      intro e n he hn
      obtain ⟨n, rfl⟩ : ∃ m, n = m + 1 := ⟨n - 1, by omega⟩
      obtain rfl : e = 48 := by omega
      exact br_t et_le48 k
    | succ d ih =>
      intro e n he hn
      obtain ⟨n, rfl⟩ : ∃ m, n = m + 1 := ⟨n - 1, by omega⟩
      have h1 : e < 48 := by omega
      have nx := ih (e + 1) n (by omega) (by omega)
      simp only [et_cn] at nx
      simp only [wX_countUnder_4, et_cl h1, et_ge h1, et_in h1, forall_eq, nI_1, true_and, and_true, not_false_iff, not_true, true_implies, false_implies]
      by_cases a : t e = 0
      · rw [et_b_f (fun z => z.1 a)] at nx
        exact br_t a nx
      · by_cases b : par e = p
        · rw [et_b_t ⟨a, b⟩] at nx
          exact br_f a (br_t b nx)
        · rw [et_b_f (fun z => b z.2)] at nx
          exact br_f a (br_f b nx)
  exact ⟨49, key 48 0 49 rfl (by omega)⟩
theorem xw_within {post : Int32 → Prop} {e : Nat} {top : Int32} (hT : et_Tree t par) (he : e < 48) (te : ¬ t e = 0)
    (k1 : nI e = top ∨ et_wi par top 47 (par e) → post 1) (k0 : ¬ (nI e = top ∨ et_wi par top 47 (par e)) → post 0) : wpX_isWithin post (zs, zn, tc, fc, t, par, nm, al, s, vb, rs, kd, xa, xn, st, xs, it, tp, fe) (nI e) top := by
  have key : ∀ f x s' n, et_ok t par f x → s' + f = 48 → f < n → (et_wi par top f x → post 1) → (¬ et_wi par top f x → post 0) → wX_isWithin_5 post top zs zn tc fc t par nm al s vb rs kd xa xn st xs it tp fe n x (nI s') := by
    intro f
    induction f with
    | zero =>
      intro x s' n hx hs hn k1 k0
      obtain ⟨n, rfl⟩ : ∃ m, n = m + 1 := ⟨n - 1, by omega⟩
      obtain rfl : s' = 48 := by omega
      exact br_t et_le48 (k0 id)
    | succ f ih =>
      intro x s' n hx hs hn k1 k0
      obtain ⟨n, rfl⟩ : ∃ m, n = m + 1 := ⟨n - 1, by omega⟩
      have h1 : s' < 48 := by omega
      rcases hx with hx | ⟨a, ha, ta, hx, hk⟩
      · subst hx
        exact br_f (et_ge h1) (br_t et_m1.2.1 (k0 (et_wi_m1 _)))
      · subst hx
        rw [et_wi_e ha] at k1 k0
        refine br_f (et_ge h1) (br_f (et_nn ha) ?_)
        by_cases c : nI a = top
        · exact br_t c (k1 (Or.inl c))
        · refine br_f c ⟨et_in ha, ?_⟩
          simp only [et_cl ha, forall_eq, nI_1, true_and, and_true, not_false_iff, not_true, true_implies, false_implies]
          exact ih _ (s' + 1) n hk (by omega) (by omega) (fun z => k1 (Or.inr z)) (fun z => k0 (fun q => q.elim c z))
  exact ⟨49, key 48 _ 0 49 (et_Tree_ok hT he te) rfl (by omega) (fun z => k1 ((et_wi_e he).mp z)) (fun z => k0 (fun q => z ((et_wi_e he).mpr q)))⟩
theorem xw_depth {post : Int32 → Prop} {e : Nat} (hT : et_Tree t par) (he : e < 48) (te : ¬ t e = 0) (k : post (nI (et_dp par 47 (par e)))) : wpX_depthOf post (zs, zn, tc, fc, t, par, nm, al, s, vb, rs, kd, xa, xn, st, xs, it, tp, fe) (nI e) := by
  have key : ∀ f x m s' n, et_ok t par f x → s' + f ≤ 48 → f < n → post (nI (m + et_dp par f x)) → wX_depthOf_12 post zs zn tc fc t par nm al s vb rs kd xa xn st xs it tp fe n (nI m) x (nI s') := by
    intro f
    induction f with
    | zero =>
      intro x m s' n hx hs hn k
      obtain ⟨n, rfl⟩ : ∃ m, n = m + 1 := ⟨n - 1, by omega⟩
      obtain rfl : x = -1 := hx
      exact br_c (fun _ => k) (fun _ => br_t et_m1.2.1 k)
    | succ f ih =>
      intro x m s' n hx hs hn k
      obtain ⟨n, rfl⟩ : ∃ m, n = m + 1 := ⟨n - 1, by omega⟩
      have h1 : s' < 48 := by omega
      rcases hx with hx | ⟨a, ha, ta, hx, hk⟩
      · subst hx
        rw [et_dp_n] at k
        exact br_f (et_ge h1) (br_t et_m1.2.1 k)
      · subst hx
        rw [et_dp_e ha] at k
        refine br_f (et_ge h1) (br_f (et_nn ha) ?_)
        simp only [et_cl ha, et_in ha, forall_eq, nI_1, true_and, and_true, not_false_iff, not_true, true_implies, false_implies]
        exact ih _ (m + 1) (s' + 1) n hk (by omega) (by omega) (by rw [show m + 1 + et_dp par f (par a) = m + (et_dp par f (par a) + 1) from by omega]; exact k)
  refine ⟨et_in he, ?_⟩
  simp only [et_cl he, forall_eq, nI_1, true_and, and_true, not_false_iff, not_true, true_implies, false_implies]
  exact ⟨48, key 47 _ 0 0 48 (et_Tree_par hT he te) (by omega) (by omega) (by rw [Nat.zero_add]; exact k)⟩
theorem xw_leads {post : Int32 → Prop} {e : Nat} (hA : et_Al t al) (he : e < 48) (te : ¬ t e = 0) (k : post (et_ld al 48 (nI e))) : wpX_leadsTo post (zs, zn, tc, fc, t, par, nm, al, s, vb, rs, kd, xa, xn, st, xs, it, tp, fe) (nI e) := by
  have key : ∀ f x s' n, et_vx t x → s' + f = 48 → f < n → post (et_ld al f x) → wX_leadsTo_4 post zs zn tc fc t par nm al s vb rs kd xa xn st xs it tp fe n x (nI s') := by
    intro f
    induction f with
    | zero =>
      intro x s' n hx hs hn k
      obtain ⟨n, rfl⟩ : ∃ m, n = m + 1 := ⟨n - 1, by omega⟩
      obtain rfl : s' = 48 := by omega
      exact br_t et_le48 k
    | succ f ih =>
      intro x s' n hx hs hn k
      obtain ⟨n, rfl⟩ : ∃ m, n = m + 1 := ⟨n - 1, by omega⟩
      have h1 : s' < 48 := by omega
      rcases hx with hx | ⟨a, ha, ta, hx⟩
      · subst hx
        rw [et_ld_n _ _ et_m1.2.2.1] at k
        exact br_f (et_ge h1) (br_t et_m1.2.2.1 k)
      · subst hx
        refine br_f (et_ge h1) (br_f (et_nn ha) ?_)
        by_cases c : al a = -1
        · rw [et_ld_e ha c] at k
          exact xw_al_f ha c (br_t rfl k)
        · rw [et_ld_s ha c] at k
          refine xw_al_t ha c (br_f et_10 ⟨et_in ha, ?_⟩)
          simp only [et_cl ha, forall_eq, nI_1, true_and, and_true, not_false_iff, not_true, true_implies, false_implies]
          exact ih _ (s' + 1) n (et_vx_s hA ha ta c) (by omega) (by omega) k
  exact ⟨49, key 48 _ 0 49 (Or.inr ⟨e, he, te, rfl⟩) rfl (by omega) k⟩
end
