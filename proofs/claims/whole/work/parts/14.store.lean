def et_un (t al : Nat → Int32) (g : Int32) : Nat → (Nat → Int32)
  | 0 => al
  | e + 1 => if ¬ t e = 0 ∧ et_un t al g e e = g then upd (et_un t al g e) e (-2) else et_un t al g e
theorem et_un_v {t al : Nat → Int32} {g : Int32} : ∀ n x, et_un t al g n x = if x < n ∧ ¬ t x = 0 ∧ al x = g then -2 else al x
  | 0, x => by
    rw [if_neg (fun z => absurd z.1 (Nat.not_lt_zero _))]
    rfl
  | n + 1, x => by
    have h := et_un_v (t := t) (al := al) (g := g) n
    have hn : et_un t al g n n = al n := by rw [h n, if_neg (fun z => absurd z.1 (Nat.lt_irrefl _))]
    simp only [et_un]
    by_cases c : ¬ t n = 0 ∧ et_un t al g n n = g
    · rw [if_pos c]
      by_cases e : x = n
      · subst e
        rw [pk_us, if_pos ⟨by omega, c.1, by rw [← hn]; exact c.2⟩]
      · rw [pk_un e, h x]
        by_cases d : x < n ∧ ¬ t x = 0 ∧ al x = g
        · rw [if_pos d, if_pos ⟨by omega, d.2⟩]
        · rw [if_neg d, if_neg (fun z => d ⟨by omega, z.2⟩)]
    · rw [if_neg c, h x]
      by_cases e : x = n
      · subst e
        rw [if_neg (fun z => absurd z.1 (Nat.lt_irrefl _)), if_neg (fun z => c ⟨z.2.1, by rw [hn]; exact z.2.2⟩)]
      · by_cases d : x < n ∧ ¬ t x = 0 ∧ al x = g
        · rw [if_pos d, if_pos ⟨by omega, d.2⟩]
        · rw [if_neg d, if_neg (fun z => d ⟨by omega, z.2⟩)]
def et_fill (f : Nat → Int32) (b : Nat) (v : Int32) : Nat → (Nat → Int32)
  | 0 => f
  | j + 1 => upd (et_fill f b v j) (b + j) v
theorem et_fill_i {f : Nat → Int32} {b : Nat} {v : Int32} : ∀ n j, j < n → et_fill f b v n (b + j) = v
  | 0, _, h => absurd h (Nat.not_lt_zero _)
  | n + 1, j, h => by
    simp only [et_fill]
    by_cases c : j = n
    · subst c; exact pk_us
    · rw [pk_un (by omega)]
      exact et_fill_i n j (by omega)
theorem et_fill_o {f : Nat → Int32} {b : Nat} {v : Int32} : ∀ n x, x < b ∨ b + n ≤ x → et_fill f b v n x = f x
  | 0, _, _ => rfl
  | n + 1, x, h => by
    simp only [et_fill]
    rw [pk_un (by omega)]
    exact et_fill_o n x (by omega)
theorem et_6 {j : Nat} (h : j < 6) : ¬ (6 : Int32) ≤ nI j := nI_ge (b := 6) h (by decide)
theorem et_24 {j : Nat} (h : j < 24) : ¬ (24 : Int32) ≤ nI j := nI_ge (b := 24) h (by decide)
section
variable {zs zn tc fc : Int32} {t par nm al s vb rs kd xa xn st xs it tp fe : Nat → Int32}
theorem xw_unpoint {post : SX → Prop} {g : Int32} (k : post (zs, zn, tc, fc, t, par, nm, et_un t al g 48, s, vb, rs, kd, xa, xn, st, xs, it, tp, fe)) : wpX_unpointAliasesOf post (zs, zn, tc, fc, t, par, nm, al, s, vb, rs, kd, xa, xn, st, xs, it, tp, fe) g := by
  have key : ∀ d e n, e + d = 48 → d < n → wX_unpointAliasesOf_2 post g zs zn tc fc n (nI e) t par nm (et_un t al g e) s vb rs kd xa xn st xs it tp fe := by
    intro d
    induction d with
    | zero =>
      intro e n he hn
      obtain ⟨n, rfl⟩ : ∃ m, n = m + 1 := ⟨n - 1, by omega⟩
      obtain rfl : e = 48 := by omega
      exact br_t et_le48 k
    | succ d ih =>
      intro e n he hn
      obtain ⟨n, rfl⟩ : ∃ m, n = m + 1 := ⟨n - 1, by omega⟩
      have h1 : e < 48 := by omega
      have nx := ih (e + 1) n (by omega) (by omega)
      simp only [et_un] at nx
      simp only [wX_unpointAliasesOf_2, et_cl h1, et_ge h1, et_in h1, forall_eq, nI_1, true_and, and_true, not_false_iff, not_true, true_implies, false_implies]
      by_cases a : t e = 0
      · rw [if_neg (fun z => z.1 a)] at nx
        exact br_t a nx
      · by_cases b : et_un t al g e e = g
        · rw [if_pos ⟨a, b⟩] at nx
          exact br_f a (br_t b nx)
        · rw [if_neg (fun z => b z.2)] at nx
          exact br_f a (br_f b nx)
  exact ⟨49, key 48 0 49 rfl (by omega)⟩
theorem xw_fval {post : SX → Prop} {e : Nat} (he : e < 48) (k : post (zs, zn, tc, fc, t, par, nm, al, s, et_fill vb (e * 6) 0 6, rs, kd, xa, xn, st, xs, it, tp, fe)) : wpX_forgetValues post (zs, zn, tc, fc, t, par, nm, al, s, vb, rs, kd, xa, xn, st, xs, it, tp, fe) (nI e) := by
  have key : ∀ d j n, j + d = 6 → d < n → wX_forgetValues_2 post (nI e) zs zn tc fc n (nI j) t par nm al s (et_fill vb (e * 6) 0 j) rs kd xa xn st xs it tp fe := by
    intro d
    induction d with
    | zero =>
      intro j n hj hn
      obtain ⟨n, rfl⟩ : ∃ m, n = m + 1 := ⟨n - 1, by omega⟩
      obtain rfl : j = 6 := by omega
      exact br_t (by decide) k
    | succ d ih =>
      intro j n hj hn
      obtain ⟨n, rfl⟩ : ∃ m, n = m + 1 := ⟨n - 1, by omega⟩
      have h1 : j < 6 := by omega
      have ci : (nI (e * 6 + j)).toNatClampNeg = e * 6 + j := nI_clamp (by omega)
      have vi : vp_in (nI (e * 6 + j)) 288 := vp_in_nI (by omega) (by omega)
      have nx := ih (j + 1) n (by omega) (by omega)
      simp only [et_fill] at nx
      simp only [wX_forgetValues_2, et_6 h1, et_i6, ci, vi, forall_eq, nI_1, true_and, and_true, not_false_iff, not_true, true_implies, false_implies]
      exact nx
  exact ⟨7, key 6 0 7 rfl (by omega)⟩
theorem xw_frul {post : SX → Prop} {e : Nat} (he : e < 48) (k : post (zs, zn, tc, fc, t, par, nm, al, s, vb, et_fill rs (e * 24) 0 24, kd, xa, xn, st, xs, it, tp, fe)) : wpX_forgetRules post (zs, zn, tc, fc, t, par, nm, al, s, vb, rs, kd, xa, xn, st, xs, it, tp, fe) (nI e) := by
  have key : ∀ d j n, j + d = 24 → d < n → wX_forgetRules_2 post (nI e) zs zn tc fc n (nI j) t par nm al s vb (et_fill rs (e * 24) 0 j) kd xa xn st xs it tp fe := by
    intro d
    induction d with
    | zero =>
      intro j n hj hn
      obtain ⟨n, rfl⟩ : ∃ m, n = m + 1 := ⟨n - 1, by omega⟩
      obtain rfl : j = 24 := by omega
      exact br_t (by decide) k
    | succ d ih =>
      intro j n hj hn
      obtain ⟨n, rfl⟩ : ∃ m, n = m + 1 := ⟨n - 1, by omega⟩
      have h1 : j < 24 := by omega
      have ci : (nI (e * 24 + j)).toNatClampNeg = e * 24 + j := nI_clamp (by omega)
      have vi : vp_in (nI (e * 24 + j)) 1152 := vp_in_nI (by omega) (by omega)
      have nx := ih (j + 1) n (by omega) (by omega)
      simp only [et_fill] at nx
      simp only [wX_forgetRules_2, et_24 h1, et_i24, ci, vi, forall_eq, nI_1, true_and, and_true, not_false_iff, not_true, true_implies, false_implies]
      exact nx
  exact ⟨25, key 24 0 25 rfl (by omega)⟩
end
section
variable {zn zs : Int32} {t par nm al s se ru kd ya yn st ys gn fa : Nat → Int32}
theorem yw_make {post : SY → Prop} {e : Nat} {p q a : Int32} (he : e < 48) (k : post (zn, zs, upd t e 1, upd par e p, upd nm e q, upd al e a, s, et_fill se (e * 6) 0 6, et_fill ru (e * 24) (-1) 24, kd, ya, yn, st, ys, gn, fa)) : wpY_make post (zn, zs, t, par, nm, al, s, se, ru, kd, ya, yn, st, ys, gn, fa) (nI e) p q a := by
  have key2 : ∀ (t par nm al se : Nat → Int32), (post (zn, zs, t, par, nm, al, s, se, et_fill ru (e * 24) (-1) 24, kd, ya, yn, st, ys, gn, fa)) → ∀ d j n, j + d = 24 → d < n → wY_make_61 post (nI e) zn zs n (nI j) t par nm al s se (et_fill ru (e * 24) (-1) j) kd ya yn st ys gn fa := by
    intro t par nm al se k d
    induction d with
    | zero =>
      intro j n hj hn
      obtain ⟨n, rfl⟩ : ∃ m, n = m + 1 := ⟨n - 1, by omega⟩
      obtain rfl : j = 24 := by omega
      exact br_t (by decide) k
    | succ d ih =>
      intro j n hj hn
      obtain ⟨n, rfl⟩ : ∃ m, n = m + 1 := ⟨n - 1, by omega⟩
      have h1 : j < 24 := by omega
      have ci : (nI (e * 24 + j)).toNatClampNeg = e * 24 + j := nI_clamp (by omega)
      have vi : vp_in (nI (e * 24 + j)) 1152 := vp_in_nI (by omega) (by omega)
      have nx := ih (j + 1) n (by omega) (by omega)
      simp only [et_fill] at nx
      simp only [wY_make_61, et_24 h1, et_i24', ci, vi, forall_eq, nI_1, true_and, and_true, not_false_iff, not_true, true_implies, false_implies]
      exact nx
  have key : ∀ (t par nm al : Nat → Int32), (post (zn, zs, t, par, nm, al, s, et_fill se (e * 6) 0 6, et_fill ru (e * 24) (-1) 24, kd, ya, yn, st, ys, gn, fa)) → ∀ d j n, j + d = 6 → d < n → wY_make_32 post (nI e) zn zs n (nI j) t par nm al s (et_fill se (e * 6) 0 j) ru kd ya yn st ys gn fa := by
    intro t par nm al k d
    induction d with
    | zero =>
      intro j n hj hn
      obtain ⟨n, rfl⟩ : ∃ m, n = m + 1 := ⟨n - 1, by omega⟩
      obtain rfl : j = 6 := by omega
      exact br_t (by decide) ⟨25, key2 t par nm al _ k 24 0 25 rfl (by omega)⟩
    | succ d ih =>
      intro j n hj hn
      obtain ⟨n, rfl⟩ : ∃ m, n = m + 1 := ⟨n - 1, by omega⟩
      have h1 : j < 6 := by omega
      have ci : (nI (e * 6 + j)).toNatClampNeg = e * 6 + j := nI_clamp (by omega)
      have vi : vp_in (nI (e * 6 + j)) 288 := vp_in_nI (by omega) (by omega)
      have nx := ih (j + 1) n (by omega) (by omega)
      simp only [et_fill] at nx
      simp only [wY_make_32, et_6 h1, et_i6', ci, vi, forall_eq, nI_1, true_and, and_true, not_false_iff, not_true, true_implies, false_implies]
      exact nx
  simp only [wpY_make, et_cl he, et_in he, et_bo.1, forall_eq, nI_1, true_and, and_true, not_false_iff, not_true, true_implies, false_implies]
  exact ⟨7, key _ _ _ _ k 6 0 7 rfl (by omega)⟩
theorem yw_rem {post : Int32 → SY → Prop} {g : Int32} (k : post 1 (zn, zs + 1, t, par, nm, et_un t al g 48, s, se, ru, kd, ya, yn, st, ys, gn, fa)) : ∃ n, wY_remove_40 post g zn zs n 0 t par nm al s se ru kd ya yn st ys gn fa := by
  have key : ∀ d e n, e + d = 48 → d < n → wY_remove_40 post g zn zs n (nI e) t par nm (et_un t al g e) s se ru kd ya yn st ys gn fa := by
    intro d
    induction d with
    | zero =>
      intro e n he hn
      obtain ⟨n, rfl⟩ : ∃ m, n = m + 1 := ⟨n - 1, by omega⟩
      obtain rfl : e = 48 := by omega
      exact br_t et_le48 (nm_e k)
    | succ d ih =>
      intro e n he hn
      obtain ⟨n, rfl⟩ : ∃ m, n = m + 1 := ⟨n - 1, by omega⟩
      have h1 : e < 48 := by omega
      have nx := ih (e + 1) n (by omega) (by omega)
      simp only [et_un] at nx
      simp only [wY_remove_40, et_cl h1, et_ge h1, et_in h1, forall_eq, nI_1, true_and, and_true, not_false_iff, not_true, true_implies, false_implies]
      by_cases a : t e = 0
      · rw [if_neg (fun z => z.1 a)] at nx
        exact br_t a nx
      · by_cases b : et_un t al g e e = g
        · rw [if_pos ⟨a, b⟩] at nx
          exact br_f a (br_t b nx)
        · rw [if_neg (fun z => b z.2)] at nx
          exact br_f a (br_f b nx)
  exact ⟨49, key 48 0 49 rfl (by omega)⟩
theorem yw_afree_f {post : Int32 → SY → Prop} {p q a : Int32} (h : ∀ j, j < 48 → ¬ t j = 0) (k : post (-1) (zn, zs, t, par, nm, al, s, se, ru, kd, ya, yn, st, ys, gn, fa)) : ∃ n, wY_add_61 post p q a zn zs t par nm al s se ru kd ya yn st ys gn fa n 0 := by
  have key : ∀ d e n, e + d = 48 → d < n → wY_add_61 post p q a zn zs t par nm al s se ru kd ya yn st ys gn fa n (nI e) := by
    intro d
    induction d with
    | zero =>
      intro e n he hn
      obtain ⟨n, rfl⟩ : ∃ m, n = m + 1 := ⟨n - 1, by omega⟩
      obtain rfl : e = 48 := by omega
      exact br_t et_le48 (br_t rfl k)
    | succ d ih =>
      intro e n he hn
      obtain ⟨n, rfl⟩ : ∃ m, n = m + 1 := ⟨n - 1, by omega⟩
      have h1 : e < 48 := by omega
      simp only [wY_add_61, et_cl h1, et_ge h1, et_in h1, forall_eq, nI_1, true_and, and_true, not_false_iff, not_true, true_implies, false_implies]
      exact br_f (h e h1) (ih (e + 1) n (by omega) (by omega))
  exact ⟨49, key 48 0 49 rfl (by omega)⟩
theorem yw_afree_t {post : Int32 → SY → Prop} {p q a : Int32} {f : Nat} (hf : f < 48) (tf : t f = 0) (h : ∀ j, j < f → ¬ t j = 0)
    (k : post (nI f) (zn, zs + 1, upd t f 1, upd par f p, upd nm f q, upd al f a, upd s f (zs + 1), et_fill se (f * 6) 0 6, et_fill ru (f * 24) (-1) 24, kd, ya, yn, st, ys, gn, fa)) : ∃ n, wY_add_61 post p q a zn zs t par nm al s se ru kd ya yn st ys gn fa n 0 := by
  have key : ∀ d e n, e + d = f → d < n → wY_add_61 post p q a zn zs t par nm al s se ru kd ya yn st ys gn fa n (nI e) := by
    intro d
    induction d with
    | zero =>
      intro e n he hn
      obtain ⟨n, rfl⟩ : ∃ m, n = m + 1 := ⟨n - 1, by omega⟩
      obtain rfl : e = f := by omega
      simp only [wY_add_61, et_cl hf, et_ge hf, et_in hf, forall_eq, nI_1, true_and, and_true, not_false_iff, not_true, true_implies, false_implies]
      refine br_t tf (br_f (fun z => et_ge hf (by rw [z]; decide)) ?_)
      refine yw_make hf ?_
      refine yw_stamp hf ?_
      exact k
    | succ d ih =>
      intro e n he hn
      obtain ⟨n, rfl⟩ : ∃ m, n = m + 1 := ⟨n - 1, by omega⟩
      have h1 : e < 48 := by omega
      simp only [wY_add_61, et_cl h1, et_ge h1, et_in h1, forall_eq, nI_1, true_and, and_true, not_false_iff, not_true, true_implies, false_implies]
      exact br_f (h e (by omega)) (ih (e + 1) n (by omega) (by omega))
  exact ⟨f + 1, key f 0 (f + 1) (by omega) (by omega)⟩
end
