theorem et_cn_ex {P : Nat → Prop} : ∀ {n k : Nat}, k < et_cn P n → ∃ e, e < n ∧ P e ∧ et_cn P e = k
  | 0, _, h => absurd h (Nat.not_lt_zero _)
  | n + 1, k, h => by
    simp only [et_cn] at h
    by_cases c : k < et_cn P n
    · obtain ⟨e, h1, h2, h3⟩ := et_cn_ex c
      exact ⟨e, by omega, h2, h3⟩
    · by_cases p : P n
      · rw [et_b_t p] at h
        exact ⟨n, by omega, p, by omega⟩
      · rw [et_b_f p] at h
        omega
theorem et_cn_st {P : Nat → Prop} {e n : Nat} (h : e < n) (p : P e) : et_cn P e < et_cn P n := by
  have a : et_cn P (e + 1) ≤ et_cn P n := et_cn_m h
  simp only [et_cn] at a
  rw [et_b_t p] at a
  omega
def et_gd (t par : Nat → Int32) : Nat → Nat
  | 0 => 0
  | e + 1 => if t e = 0 then et_gd t par e else if et_dp par 47 (par e) ≤ et_gd t par e then et_gd t par e else et_dp par 47 (par e)
theorem et_gd_le {t par : Nat → Int32} : ∀ n, et_gd t par n ≤ 47
  | 0 => Nat.zero_le _
  | n + 1 => by
    have a := et_gd_le (t := t) (par := par) n
    have b := et_dp_le (par := par) 47 (par n)
    simp only [et_gd]
    split
    · exact a
    · split <;> omega
theorem et_nx_k {t s : Nat → Int32} {after r : Int32} {e : Nat} (h : et_Nx t s after e r) (z : t e = 0 ∨ ¬ after < s e) : et_Nx t s after (e + 1) r := by
  have q : ∀ x, x < e + 1 → ¬ t x = 0 → after < s x → x < e := by
    intro x hx tx ax
    by_cases c : x = e
    · subst c; exact (z.elim tx (fun w => w ax)).elim
    · omega
  rcases h with ⟨h1, h2⟩ | ⟨m, h1, h2, h3, h4, h5⟩
  · exact Or.inl ⟨h1, fun x hx tx ax => h2 x (q x hx tx ax) tx ax⟩
  · exact Or.inr ⟨m, by omega, h2, h3, h4, fun x hx tx ax => h5 x (q x hx tx ax) tx ax⟩
theorem et_nx_n {t s : Nat → Int32} {after : Int32} {e : Nat} (he : e < 48) (h : et_Nx t s after e (-1)) (te : ¬ t e = 0) (ae : after < s e) : et_Nx t s after (e + 1) (nI e) := by
  rcases h with ⟨_, h2⟩ | ⟨m, h1, h2, _⟩
  · refine Or.inr ⟨e, by omega, rfl, te, ae, fun x hx tx ax => ?_⟩
    by_cases c : x = e
    · subst c; exact Int32.le_refl _
    · exact absurd ax (h2 x (by omega) tx)
  · exact (et_ne1 (e := m) (by omega) h2.symm).elim
theorem et_nx_c {t s : Nat → Int32} {after : Int32} {e m : Nat} (he : e < 48) (hm : m < 48) (h : et_Nx t s after e (nI m)) (te : ¬ t e = 0) (ae : after < s e) :
    (s m ≤ s e → et_Nx t s after (e + 1) (nI m)) ∧ (¬ s m ≤ s e → et_Nx t s after (e + 1) (nI e)) := by
  rcases h with ⟨h1, _⟩ | ⟨m', h1, h2, h3, h4, h5⟩
  · exact (et_ne1 hm h1).elim
  · obtain rfl : m = m' := et_inj hm (by omega) h2
    refine ⟨fun c => Or.inr ⟨m, by omega, rfl, h3, h4, fun x hx tx ax => ?_⟩, fun c => Or.inr ⟨e, by omega, rfl, te, ae, fun x hx tx ax => ?_⟩⟩
    · by_cases q : x = e
      · subst q; exact c
      · exact h5 x (by omega) tx ax
    · by_cases q : x = e
      · subst q; exact Int32.le_refl _
      · have a := h5 x (by omega) tx ax
        rw [et_le] at *
        omega
def et_R (t s : Nat → Int32) (after : Int32) (k : Nat) (r : Int32) : Prop :=
  (r = -1 ∧ ∀ x, et_S t s after x → ¬ et_ct t s after x = k) ∨ ∃ m, et_S t s after m ∧ r = nI m ∧ et_ct t s after m = k
section
variable {zs zn tc fc : Int32} {t par nm al s vb rs kd xa xn st xs it tp fe : Nat → Int32}
theorem xw_cbelow {post : Int32 → Prop} {b : Nat} (hT : et_Tree t par) (hb : b < 48) (tb : ¬ t b = 0) (k : post (nI (et_cn (fun e => ¬ t e = 0 ∧ et_wi par (nI b) 47 (par e)) 48))) : wpX_countBelow post (zs, zn, tc, fc, t, par, nm, al, s, vb, rs, kd, xa, xn, st, xs, it, tp, fe) (nI b) := by
  have key : ∀ d e n, e + d = 48 → d < n → wX_countBelow_4 post (nI b) zs zn tc fc t par nm al s vb rs kd xa xn st xs it tp fe n (nI (et_cn (fun e => ¬ t e = 0 ∧ et_wi par (nI b) 47 (par e)) e)) (nI e) := by
    intro d
    induction d with
    | zero =>
      intro e n he hn
      obtain ⟨n, rfl⟩ : ∃ m, n = m + 1 := ⟨n - 1, by omega⟩
      obtain rfl : e = 48 := by omega
      exact br_t et_le48 k
    | succ d ih =>
      intro e n he hn
      obtain ⟨n, rfl⟩ : ∃ m, n = m + 1 := ⟨n - 1, by omega⟩
      have h1 : e < 48 := by omega
      have nx := ih (e + 1) n (by omega) (by omega)
      simp only [et_cn] at nx
      simp only [wX_countBelow_4, et_cl h1, et_ge h1, et_in h1, forall_eq, nI_1, true_and, and_true, not_false_iff, not_true, true_implies, false_implies]
      by_cases a : t e = 0
      · rw [et_b_f (fun z => z.1 a)] at nx
        exact br_t a nx
      · refine br_f a ?_
        by_cases c : nI e = nI b
        · obtain rfl := et_inj h1 hb c
          rw [et_b_f (fun z => et_below_self hT hb tb z.2)] at nx
          exact br_t rfl nx
        · refine br_f c (xw_within hT h1 a (fun w => br_f et_10 ?_) (fun w => br_t rfl ?_))
          · rw [et_b_t ⟨a, w.elim (fun z => absurd z c) id⟩] at nx
            exact nx
          · rw [et_b_f (fun z => w (Or.inr z.2))] at nx
            exact nx
  exact ⟨49, key 48 0 49 rfl (by omega)⟩
theorem xw_cthere {post : Int32 → Prop} (k : post (nI (et_cn (fun e => ¬ t e = 0) 48))) : wpX_countThere post (zs, zn, tc, fc, t, par, nm, al, s, vb, rs, kd, xa, xn, st, xs, it, tp, fe) := by
  have key : ∀ d e n, e + d = 48 → d < n → wX_countThere_4 post zs zn tc fc t par nm al s vb rs kd xa xn st xs it tp fe n (nI (et_cn (fun e => ¬ t e = 0) e)) (nI e) := by
    intro d
    induction d with
    | zero =>
      intro e n he hn
      obtain ⟨n, rfl⟩ : ∃ m, n = m + 1 := ⟨n - 1, by omega⟩
      obtain rfl : e = 48 := by omega
      exact br_t et_le48 k
    | succ d ih =>
      intro e n he hn
      obtain ⟨n, rfl⟩ : ∃ m, n = m + 1 := ⟨n - 1, by omega⟩
      have h1 : e < 48 := by omega
      have nx := ih (e + 1) n (by omega) (by omega)
      simp only [et_cn] at nx
      simp only [wX_countThere_4, et_cl h1, et_ge h1, et_in h1, forall_eq, nI_1, true_and, and_true, not_false_iff, not_true, true_implies, false_implies]
      by_cases a : t e = 0
      · rw [et_b_f (fun z => z a)] at nx
        exact br_t a nx
      · rw [et_b_t a] at nx
        exact br_f a nx
  exact ⟨49, key 48 0 49 rfl (by omega)⟩
theorem xw_clost {post : Int32 → Prop} (k : post (nI (et_cn (fun e => ¬ t e = 0 ∧ al e = -2) 48))) : wpX_countAliasesOfNothing post (zs, zn, tc, fc, t, par, nm, al, s, vb, rs, kd, xa, xn, st, xs, it, tp, fe) := by
  have key : ∀ d e n, e + d = 48 → d < n → wX_countAliasesOfNothing_4 post zs zn tc fc t par nm al s vb rs kd xa xn st xs it tp fe n (nI (et_cn (fun e => ¬ t e = 0 ∧ al e = -2) e)) (nI e) := by
    intro d
    induction d with
    | zero =>
      intro e n he hn
      obtain ⟨n, rfl⟩ : ∃ m, n = m + 1 := ⟨n - 1, by omega⟩
      obtain rfl : e = 48 := by omega
      exact br_t et_le48 k
    | succ d ih =>
      intro e n he hn
      obtain ⟨n, rfl⟩ : ∃ m, n = m + 1 := ⟨n - 1, by omega⟩
      have h1 : e < 48 := by omega
      have nx := ih (e + 1) n (by omega) (by omega)
      simp only [et_cn] at nx
      simp only [wX_countAliasesOfNothing_4, et_cl h1, et_ge h1, et_in h1, forall_eq, nI_1, true_and, and_true, not_false_iff, not_true, true_implies, false_implies]
      by_cases a : t e = 0
      · rw [et_b_f (fun z => z.1 a)] at nx
        exact br_t a nx
      · by_cases b : al e = -2
        · rw [et_b_t ⟨a, b⟩] at nx
          exact br_f a (br_t b nx)
        · rw [et_b_f (fun z => b z.2)] at nx
          exact br_f a (br_f b nx)
  exact ⟨49, key 48 0 49 rfl (by omega)⟩
theorem xw_gd {post : Int32 → Prop} (hT : et_Tree t par) (k : post (nI (et_gd t par 48))) : wpX_greatestDepth post (zs, zn, tc, fc, t, par, nm, al, s, vb, rs, kd, xa, xn, st, xs, it, tp, fe) := by
  have key : ∀ d e n, e + d = 48 → d < n → wX_greatestDepth_4 post zs zn tc fc t par nm al s vb rs kd xa xn st xs it tp fe n (nI (et_gd t par e)) (nI e) := by
    intro d
    induction d with
    | zero =>
      intro e n he hn
      obtain ⟨n, rfl⟩ : ∃ m, n = m + 1 := ⟨n - 1, by omega⟩
      obtain rfl : e = 48 := by omega
      exact br_t et_le48 k
    | succ d ih =>
      intro e n he hn
      obtain ⟨n, rfl⟩ : ∃ m, n = m + 1 := ⟨n - 1, by omega⟩
      have h1 : e < 48 := by omega
      have g1 := et_gd_le (t := t) (par := par) e
      have g2 := et_dp_le (par := par) 47 (par e)
      have nx := ih (e + 1) n (by omega) (by omega)
      simp only [et_gd] at nx
      simp only [wX_greatestDepth_4, wX_greatestDepth_28, et_cl h1, et_ge h1, et_in h1, forall_eq, nI_1, true_and, and_true, not_false_iff, not_true, true_implies, false_implies]
      by_cases a : t e = 0
      · rw [if_pos a] at nx
        exact br_t a (br_t (nI_pos' (by omega)) nx)
      · rw [if_neg a] at nx
        refine br_f a (xw_depth hT h1 a ?_)
        refine pk_le (et_dp par 47 (par e)) (et_gd t par e) (fun z => ?_) (fun z => ?_)
        · rw [if_pos z] at nx
          exact nx
        · rw [if_neg (by omega)] at nx
          exact nx
  exact ⟨49, key 48 0 49 rfl (by omega)⟩
theorem xw_next {post : Int32 → Prop} {after : Int32} (k : ∀ r, et_Nx t s after 48 r → post r) : wpX_nextChanged post (zs, zn, tc, fc, t, par, nm, al, s, vb, rs, kd, xa, xn, st, xs, it, tp, fe) after := by
  have key : ∀ d e n r, e + d = 48 → d < n → et_Nx t s after e r → wX_nextChanged_4 post after zs zn tc fc t par nm al s vb rs kd xa xn st xs it tp fe n r (nI e) := by
    intro d
    induction d with
    | zero =>
      intro e n r he hn hr
      obtain ⟨n, rfl⟩ : ∃ m, n = m + 1 := ⟨n - 1, by omega⟩
      obtain rfl : e = 48 := by omega
      exact br_t et_le48 (k r hr)
    | succ d ih =>
      intro e n r he hn hr
      obtain ⟨n, rfl⟩ : ∃ m, n = m + 1 := ⟨n - 1, by omega⟩
      have h1 : e < 48 := by omega
      have nx := fun r => ih (e + 1) n r (by omega) (by omega)
      simp only [wX_nextChanged_4, et_cl h1, et_ge h1, et_in h1, forall_eq, nI_1, true_and, and_true, not_false_iff, not_true, true_implies, false_implies]
      by_cases a : t e = 0
      · exact br_t a (nx r (et_nx_k hr (Or.inl a)))
      · refine br_f a ?_
        by_cases b : s e ≤ after
        · exact br_t b (nx r (et_nx_k hr (Or.inr (Int32.not_lt.mpr b))))
        · have ae : after < s e := Int32.not_le.mp b
          refine br_f b ?_
          by_cases c : r = -1
          · subst c
            exact br_t rfl (nx _ (et_nx_n h1 hr a ae))
          · obtain ⟨m, hm, rfl⟩ : ∃ m, m < 48 ∧ r = nI m := by
              rcases hr with ⟨h, _⟩ | ⟨m, h1', h2, _⟩
              · exact absurd h c
              · exact ⟨m, by omega, h2⟩
            have q := et_nx_c h1 hm hr a ae
            simp only [et_cl hm, et_in hm, true_and]
            exact br_f c (br_c (fun z => nx _ (q.1 z)) (fun z => nx _ (q.2 z)))
  exact ⟨49, key 48 0 49 (-1) rfl (by omega) (Or.inl ⟨rfl, fun x hx => absurd hx (Nat.not_lt_zero _)⟩)⟩
theorem xw_changed {post : Int32 → Prop} {after : Int32} {k : Nat} (hD : et_Dis t s) (hk : k < 48) (h : ∀ r, et_R t s after k r → post r) : wpX_changed post (zs, zn, tc, fc, t, par, nm, al, s, vb, rs, kd, xa, xn, st, xs, it, tp, fe) after (nI k) := by
  refine br_f (et_nn hk) (br_t (nI_lt (b := 48) hk (by decide)) (xw_next (fun r hr => ?_)))
  have key : ∀ d p n r, p + d = k → d < n → et_Ch t s after p r → wX_changed_21 post (nI k) zs zn tc fc t par nm al s vb rs kd xa xn st xs it tp fe n r (nI p) := by
    intro d
    induction d with
    | zero =>
      intro p n r hp hn hr
      obtain ⟨n, rfl⟩ : ∃ m, n = m + 1 := ⟨n - 1, by omega⟩
      obtain rfl : p = k := by omega
      refine br_t (Int32.le_refl _) (h r ?_)
      rcases hr with ⟨h1, h2⟩ | h1
      · exact Or.inl ⟨h1, fun x hx z => by have := h2 x hx; omega⟩
      · exact Or.inr h1
    | succ d ih =>
      intro p n r hp hn hr
      obtain ⟨n, rfl⟩ : ∃ m, n = m + 1 := ⟨n - 1, by omega⟩
      refine br_f (nI_ge (by omega) (by omega)) ?_
      rcases hr with ⟨h1, h2⟩ | ⟨m, hm, h1, h2⟩
      · exact br_t h1 (h r (Or.inl ⟨h1, fun x hx z => by have := h2 x hx; omega⟩))
      · subst h1
        refine br_f (et_ne1 hm.1) ⟨et_in hm.1, ?_⟩
        simp only [et_cl hm.1]
        refine xw_next (fun r' hr' => ?_)
        simp only [forall_eq, nI_1, true_and, and_true, not_false_iff, not_true, true_implies, false_implies]
        exact ih (p + 1) n r' (by omega) (by omega) (et_ch_s hD hm h2 hr')
  exact ⟨k + 1, key k 0 (k + 1) r (by omega) (by omega) (et_ch0 hr)⟩
end
section
variable {zn zs : Int32} {t par nm al s se ru kd ya yn st ys gn fa : Nat → Int32}
theorem yw_cbelow {post : Int32 → Prop} {b : Nat} (hT : et_Tree t par) (k : post (nI (et_cn (fun e => ¬ t e = 0 ∧ et_wi par (nI b) 47 (par e)) 48))) : wpY_below post (zn, zs, t, par, nm, al, s, se, ru, kd, ya, yn, st, ys, gn, fa) (nI b) := by
  have key : ∀ d e n, e + d = 48 → d < n → wY_below_4 post (nI b) zn zs t par nm al s se ru kd ya yn st ys gn fa n (nI (et_cn (fun e => ¬ t e = 0 ∧ et_wi par (nI b) 47 (par e)) e)) (nI e) := by
    intro d
    induction d with
    | zero =>
      intro e n he hn
      obtain ⟨n, rfl⟩ : ∃ m, n = m + 1 := ⟨n - 1, by omega⟩
      obtain rfl : e = 48 := by omega
      exact br_t et_le48 k
    | succ d ih =>
      intro e n he hn
      obtain ⟨n, rfl⟩ : ∃ m, n = m + 1 := ⟨n - 1, by omega⟩
      have h1 : e < 48 := by omega
      have nx := ih (e + 1) n (by omega) (by omega)
      simp only [et_cn] at nx
      simp only [wY_below_4, et_cl h1, et_ge h1, et_in h1, forall_eq, nI_1, true_and, and_true, not_false_iff, not_true, true_implies, false_implies]
      by_cases a : t e = 0
      · rw [et_b_f (fun z => z.1 a)] at nx
        exact br_t a nx
      · refine br_f a (yw_below hT h1 a (fun w => br_f et_10 ?_) (fun w => br_t rfl ?_))
        · rw [et_b_t ⟨a, w⟩] at nx
          exact nx
        · rw [et_b_f (fun z => w z.2)] at nx
          exact nx
  exact ⟨49, key 48 0 49 rfl (by omega)⟩
theorem yw_state {post : Int32 → Prop} {w : Int32} (hT : et_Tree t par) (k0 : w = 0 → post zs) (k1 : w = 1 → post (nI (et_cn (fun e => ¬ t e = 0) 48))) (k2 : w = 2 → post (nI (et_cn (fun e => ¬ t e = 0 ∧ al e = -2) 48))) (k3 : w = 3 → post (nI (et_gd t par 48)))
    (k4 : ¬ w = 0 → ¬ w = 1 → ¬ w = 2 → ¬ w = 3 → post (-1)) : wpY_state post (zn, zs, t, par, nm, al, s, se, ru, kd, ya, yn, st, ys, gn, fa) w := by
  have key : ∀ d e n, e + d = 48 → d < n → wY_state_10 post w zn zs t par nm al s se ru kd ya yn st ys gn fa n (nI (et_cn (fun e => ¬ t e = 0) e)) (nI (et_cn (fun e => ¬ t e = 0 ∧ al e = -2) e)) (nI (et_gd t par e)) (nI e) := by
    intro d
    induction d with
    | zero =>
      intro e n he hn
      obtain ⟨n, rfl⟩ : ∃ m, n = m + 1 := ⟨n - 1, by omega⟩
      obtain rfl : e = 48 := by omega
      exact br_t et_le48 (br_c k0 (fun z0 => br_c k1 (fun z1 => br_c k2 (fun z2 => br_c k3 (fun z3 => k4 z0 z1 z2 z3)))))
    | succ d ih =>
      intro e n he hn
      obtain ⟨n, rfl⟩ : ∃ m, n = m + 1 := ⟨n - 1, by omega⟩
      have h1 : e < 48 := by omega
      have g1 := et_gd_le (t := t) (par := par) e
      have g2 := et_dp_le (par := par) 47 (par e)
      have nx := ih (e + 1) n (by omega) (by omega)
      simp only [et_cn, et_gd] at nx
      simp only [wY_state_10, wY_state_48, et_cl h1, et_ge h1, et_in h1, forall_eq, nI_1, true_and, and_true, not_false_iff, not_true, true_implies, false_implies]
      by_cases a : t e = 0
      · rw [et_b_f (fun z => z a), et_b_f (fun z => z.1 a), if_pos a] at nx
        exact br_t a nx
      · rw [et_b_t a, if_neg a] at nx
        by_cases b : al e = -2
        · rw [et_b_t ⟨a, b⟩] at nx
          refine br_f a (br_t b (yw_depth hT h1 a ?_))
          refine pk_le (et_dp par 47 (par e)) (et_gd t par e) (fun z => ?_) (fun z => ?_)
          · rw [if_pos z] at nx
            exact nx
          · rw [if_neg (by omega)] at nx
            exact yw_depth hT h1 a nx
        · rw [et_b_f (fun z => b z.2)] at nx
          refine br_f a (br_f b (yw_depth hT h1 a ?_))
          refine pk_le (et_dp par 47 (par e)) (et_gd t par e) (fun z => ?_) (fun z => ?_)
          · rw [if_pos z] at nx
            exact nx
          · rw [if_neg (by omega)] at nx
            exact yw_depth hT h1 a nx
  exact ⟨49, key 48 0 49 rfl (by omega)⟩
theorem yw_changed {post : Int32 → Prop} {after r : Int32} {k : Nat} (hD : et_Dis t s) (hk : k < 2 ^ 31) (hr : et_R t s after k r) (h : post r) : wpY_changed post (zn, zs, t, par, nm, al, s, se, ru, kd, ya, yn, st, ys, gn, fa) after (nI k) := by
  refine br_t (nI_pos' hk) ?_
  have key : ∀ d e n, e + d = 48 → d < n → (∀ x, x < e → et_S t s after x → ¬ et_ct t s after x = k) → wY_changed_8 post after (nI k) zn zs t par nm al s se ru kd ya yn st ys gn fa n (nI e) := by
    intro d
    induction d with
    | zero =>
      intro e n he hn hb
      obtain ⟨n, rfl⟩ : ∃ m, n = m + 1 := ⟨n - 1, by omega⟩
      obtain rfl : e = 48 := by omega
      refine br_t et_le48 ?_
      rcases hr with ⟨h1, _⟩ | ⟨m, hm, h1, h2⟩
      · rw [← h1]; exact h
      · exact (hb m hm.1 hm h2).elim
    | succ d ih =>
      intro e n he hn hb
      obtain ⟨n, rfl⟩ : ∃ m, n = m + 1 := ⟨n - 1, by omega⟩
      have h1 : e < 48 := by omega
      have nx : ¬ (et_S t s after e ∧ et_ct t s after e = k) → wY_changed_8 post after (nI k) zn zs t par nm al s se ru kd ya yn st ys gn fa n (nI (e + 1)) := fun z => ih (e + 1) n (by omega) (by omega) (fun x hx hS hc => by
        by_cases q : x = e
        · subst q; exact z ⟨hS, hc⟩
        · exact hb x (by omega) hS hc)
      simp only [wY_changed_8, et_cl h1, et_ge h1, et_in h1, forall_eq, nI_1, true_and, and_true, not_false_iff, not_true, true_implies, false_implies]
      by_cases a : t e = 0
      · exact br_t a (nx (fun z => z.1.2.1 a))
      · refine br_f a ?_
        by_cases b : after < s e
        · refine br_t b ?_
          have hS : et_S t s after e := ⟨h1, a, b⟩
          have inner : ∀ d o m, o + d = 48 → d < m → wY_changed_42 post (wY_changed_8 post after (nI k) zn zs t par nm al s se ru kd ya yn st ys gn fa n) after (nI k) (nI e) zn zs t par nm al s se ru kd ya yn st ys gn fa m (nI (et_cn (fun o => ¬ t o = 0 ∧ after < s o ∧ s o < s e) o)) (nI o) := by
            intro d
            induction d with
            | zero =>
              intro o m ho hm
              obtain ⟨m, rfl⟩ : ∃ z, m = z + 1 := ⟨m - 1, by omega⟩
              obtain rfl : o = 48 := by omega
              refine br_t et_le48 ?_
              have cl := et_ct_lt (t := t) (s := s) (after := after) h1
              refine pk_eq (et_ct t s after e) k (fun z => ?_) (fun z => ?_) rfl rfl (by omega) hk
              · rcases hr with ⟨h1', h2⟩ | ⟨m', hm', h1', h2⟩
                · exact (h2 e hS z).elim
                · rw [et_ct_i hD hS hm' (z.trans h2.symm), ← h1']
                  exact h
              · simp only [forall_eq, nI_1, true_and, and_true, not_false_iff, not_true, true_implies, false_implies]
                exact nx (fun y => z y.2)
            | succ d ih2 =>
              intro o m ho hm
              obtain ⟨m, rfl⟩ : ∃ z, m = z + 1 := ⟨m - 1, by omega⟩
              have h2 : o < 48 := by omega
              have n2 := ih2 (o + 1) m (by omega) (by omega)
              simp only [et_cn] at n2
              simp only [wY_changed_42, et_cl h2, et_ge h2, et_in h2, et_cl h1, et_in h1, forall_eq, nI_1, true_and, and_true, not_false_iff, not_true, true_implies, false_implies]
              by_cases a2 : t o = 0
              · rw [et_b_f (fun z => z.1 a2)] at n2
                exact br_t a2 n2
              · refine br_f a2 ?_
                by_cases b2 : s o ≤ after
                · rw [et_b_f (fun z => Int32.not_lt.mpr b2 z.2.1)] at n2
                  exact br_t b2 n2
                · refine br_f b2 ?_
                  by_cases c2 : s e ≤ s o
                  · rw [et_b_f (fun z => Int32.not_lt.mpr c2 z.2.2)] at n2
                    exact br_t c2 n2
                  · rw [et_b_t ⟨a2, Int32.not_le.mp b2, Int32.not_le.mp c2⟩] at n2
                    exact br_f c2 n2
          exact ⟨49, inner 48 0 49 rfl (by omega)⟩
        · exact br_f b (nx (fun z => b z.1.2.2))
  exact ⟨49, key 48 0 49 rfl (by omega) (fun x hx => absurd hx (Nat.not_lt_zero _))⟩
theorem yw_found {post : Int32 → Prop} {p r : Int32} (h1 : ∀ e, e < 48 → ¬ fa e = 0 → nI (et_cn (fun e => ¬ fa e = 0) e) = p → r = nI e) (h2 : (∀ e, e < 48 → ¬ fa e = 0 → ¬ nI (et_cn (fun e => ¬ fa e = 0) e) = p) → r = -1) (h : post r) : wpY_found post (zn, zs, t, par, nm, al, s, se, ru, kd, ya, yn, st, ys, gn, fa) p := by
  have key : ∀ d e n, e + d = 48 → d < n → (∀ x, x < e → ¬ fa x = 0 → ¬ nI (et_cn (fun e => ¬ fa e = 0) x) = p) → wY_found_4 post p zn zs t par nm al s se ru kd ya yn st ys gn fa n (nI (et_cn (fun e => ¬ fa e = 0) e)) (nI e) := by
    intro d
    induction d with
    | zero =>
      intro e n he hn hb
      obtain ⟨n, rfl⟩ : ∃ m, n = m + 1 := ⟨n - 1, by omega⟩
      obtain rfl : e = 48 := by omega
      refine br_t et_le48 ?_
      rw [← h2 hb]
      exact h
    | succ d ih =>
      intro e n he hn hb
      obtain ⟨n, rfl⟩ : ∃ m, n = m + 1 := ⟨n - 1, by omega⟩
      have h1' : e < 48 := by omega
      have nx := fun z => ih (e + 1) n (by omega) (by omega) z
      simp only [et_cn] at nx
      simp only [wY_found_4, et_cl h1', et_ge h1', et_in h1', forall_eq, nI_1, true_and, and_true, not_false_iff, not_true, true_implies, false_implies]
      by_cases a : fa e = 0
      · rw [et_b_f (fun z => z a)] at nx
        refine br_t a (nx (fun x hx fx => ?_))
        exact hb x (by have : x ≠ e := fun z => fx (z ▸ a)
                       omega) fx
      · rw [et_b_t a] at nx
        refine br_f a ?_
        by_cases b : nI (et_cn (fun e => ¬ fa e = 0) e) = p
        · refine br_t b ?_
          rw [← h1 e h1' a b]
          exact h
        · refine br_f b (nx (fun x hx fx => ?_))
          by_cases c : x = e
          · subst c; exact b
          · exact hb x (by omega) fx
  exact ⟨49, key 48 0 49 rfl (by omega) (fun x hx => absurd hx (Nat.not_lt_zero _))⟩
end
