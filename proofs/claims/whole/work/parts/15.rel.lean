def et_I (t par al s vb se rs ru : Nat → Int32) (sn n : Nat) (kd xa ya xn yn : Nat → Int32) (fc : Int32) (fe fa : Nat → Int32) : Prop :=
  et_Tree t par ∧ et_Al t al ∧ al 0 = -1 ∧ et_Va t vb se ∧ et_Ru t rs ru ∧ et_Se t s sn ∧ (n ≤ 12 ∧ ∀ i, i < n → et_tk kd xa ya xn yn i) ∧ et_Fd fc fe fa
def i_Rel (_ : Nat) (u : SX) (v : SY) : Prop :=
  ∃ (sn n : Nat) (tc fc : Int32) (t par nm al s vb rs kd xa xn st xs it tp fe se ru ya yn ys gn fa : Nat → Int32), u = (nI sn, nI n, tc, fc, t, par, nm, al, s, vb, rs, kd, xa, xn, st, xs, it, tp, fe) ∧ v = (nI n, nI sn, t, par, nm, al, s, se, ru, kd, ya, yn, st, ys, gn, fa) ∧ et_I t par al s vb se rs ru sn n kd xa ya xn yn fc fe fa
theorem et_mk {k sn n : Nat} {tc fc : Int32} {t par nm al s vb rs kd xa xn st xs it tp fe se ru ya yn ys gn fa : Nat → Int32} (h : et_I t par al s vb se rs ru sn n kd xa ya xn yn fc fe fa) : i_Rel k (nI sn, nI n, tc, fc, t, par, nm, al, s, vb, rs, kd, xa, xn, st, xs, it, tp, fe) (nI n, nI sn, t, par, nm, al, s, se, ru, kd, ya, yn, st, ys, gn, fa) :=
  ⟨sn, n, tc, fc, t, par, nm, al, s, vb, rs, kd, xa, xn, st, xs, it, tp, fe, se, ru, ya, yn, ys, gn, fa, rfl, rfl, h⟩
theorem i_up {k : Nat} {u : SX} {v : SY} (h : i_Rel k u v) : i_Rel (k + 5) u v := h
theorem et_cn_z {P : Nat → Prop} {n : Nat} (h : et_cn P n = 0) : ∀ k, k < n → ¬ P k := fun k hk p => by
  have := et_cn_st hk p
  omega
theorem et_Se_st {t t' s : Nat → Int32} {sn e : Nat} (h : et_Se t s sn) (hs : sn < 1000000000) (ht : ∀ x, x < 48 → ¬ t' x = 0 → x = e ∨ ¬ t x = 0) : et_Se t' (upd s e (nI (sn + 1))) (sn + 1) := by
  obtain ⟨h1, h2, h3⟩ := h
  have ne : ∀ x, x < 48 → ¬ t x = 0 → ¬ s x = nI (sn + 1) := by
    intro x hx tx z
    obtain ⟨m, hm, e⟩ := h3 x hx tx
    rw [e, nI_eq (by omega) (by omega)] at z
    omega
  refine ⟨by omega, fun a b ha hb ta tb hab => ?_, fun x hx tx => ?_⟩
  · by_cases ca : a = e
    · by_cases cb : b = e
      · exact ca.trans cb.symm
      · rw [ca, pk_us, pk_un cb] at hab
        exact (ne b hb ((ht b hb tb).elim (fun z => absurd z cb) id) hab.symm).elim
    · by_cases cb : b = e
      · rw [cb, pk_us, pk_un ca] at hab
        exact (ne a ha ((ht a ha ta).elim (fun z => absurd z ca) id) hab).elim
      · rw [pk_un ca, pk_un cb] at hab
        exact h2 a b ha hb ((ht a ha ta).elim (fun z => absurd z ca) id) ((ht b hb tb).elim (fun z => absurd z cb) id) hab
  · by_cases c : x = e
    · subst c; exact ⟨sn + 1, Nat.le_refl _, pk_us⟩
    · obtain ⟨m, hm, q⟩ := h3 x hx ((ht x hx tx).elim (fun z => absurd z c) id)
      exact ⟨m, by omega, by rw [pk_un c]; exact q⟩
theorem et_Se_up {t t' s : Nat → Int32} {sn : Nat} (h : et_Se t s sn) (hs : sn < 1000000000) (ht : ∀ x, x < 48 → ¬ t' x = 0 → ¬ t x = 0) : et_Se t' s (sn + 1) := by
  obtain ⟨h1, h2, h3⟩ := h
  refine ⟨by omega, fun a b ha hb ta tb => h2 a b ha hb (ht a ha ta) (ht b hb tb), fun x hx tx => ?_⟩
  obtain ⟨m, hm, q⟩ := h3 x hx (ht x hx tx)
  exact ⟨m, by omega, q⟩
section
variable {t par nm al s vb rs kd xa xn st xs it tp fe se ru ya yn ys gn fa : Nat → Int32} {sn n : Nat} {fc : Int32}
theorem et_I_add (h : et_I t par al s vb se rs ru sn n kd xa ya xn yn fc fe fa) {f p : Nat} {a : Int32} (hs : sn < 1000000000) (hf : f < 48) (tf : t f = 0) (hp : p < 48) (tp : ¬ t p = 0) (ha : a = -1 ∨ et_is t a) :
    et_I (upd t f 1) (upd par f (nI p)) (upd al f a) (upd s f (nI (sn + 1))) vb (et_fill se (f * 6) 0 6) rs (et_fill ru (f * 24) (-1) 24) (sn + 1) n kd xa ya xn yn fc fe fa := by
  obtain ⟨h1, h2, h3, h4, h5, h6, h7, h8⟩ := h
  have f0 : (0 : Nat) ≠ f := fun z => h1.1 (z ▸ tf)
  have old : ∀ x, ¬ x = f → ¬ upd t f 1 x = 0 → ¬ t x = 0 := fun x c z => by rw [pk_un c] at z; exact z
  refine ⟨et_Tree_add h1 tf hp tp, ?_, by rw [pk_un f0]; exact h3, ⟨?_, ?_⟩, ⟨?_, ?_⟩, ?_, h7, h8⟩
  · intro e he te
    by_cases c : e = f
    · subst c
      rw [pk_us]
      rcases ha with ha | ⟨d, hd, ed, td⟩
      · exact Or.inl ha
      · exact Or.inr (Or.inr ⟨d, hd, et_u1 td, ed⟩)
    · rw [pk_un c]
      rcases h2 e he (old e c te) with q | q | ⟨d, hd, td, ed⟩
      · exact Or.inl q
      · exact Or.inr (Or.inl q)
      · exact Or.inr (Or.inr ⟨d, hd, et_u1 td, ed⟩)
  · intro e he te j hj
    have c : ¬ e = f := fun z => et_u1k (z ▸ te)
    rw [pk_un c] at te
    exact h4.1 e he te j hj
  · intro e he te j hj
    by_cases c : e = f
    · subst c
      have z := h4.1 e he tf j hj
      rw [z, et_fill_i 6 j hj]
      exact ⟨et_V0, rfl⟩
    · rw [et_fill_o 6 _ (by omega)]
      exact h4.2 e he (old e c te) j hj
  · intro e he te j hj
    have c : ¬ e = f := fun z => et_u1k (z ▸ te)
    rw [pk_un c] at te
    exact h5.1 e he te j hj
  · intro e he te j hj
    by_cases c : e = f
    · subst c
      have z := h5.1 e he tf j hj
      rw [z, et_fill_i 24 j hj]
      exact ⟨0, by omega, rfl, by decide⟩
    · rw [et_fill_o 24 _ (by omega)]
      exact h5.2 e he (old e c te) j hj
  · refine et_Se_st h6 hs (fun x hx tx => ?_)
    by_cases c : x = f
    · exact Or.inl c
    · exact Or.inr (old x c tx)
theorem et_I_rem (h : et_I t par al s vb se rs ru sn n kd xa ya xn yn fc fe fa) {f : Nat} (hs : sn < 1000000000) (hf : f < 48) (f0 : ¬ f = 0) (hc : et_cn (fun e => ¬ t e = 0 ∧ par e = nI f) 48 = 0) :
    et_I (upd t f 0) par (et_un (upd t f 0) al (nI f) 48) s (et_fill vb (f * 6) 0 6) se (et_fill rs (f * 24) 0 24) ru (sn + 1) n kd xa ya xn yn fc fe fa := by
  obtain ⟨h1, h2, h3, h4, h5, h6, h7, h8⟩ := h
  have old : ∀ x, ¬ upd t f 0 x = 0 → ¬ x = f ∧ ¬ t x = 0 := fun x z => by
    by_cases c : x = f
    · subst c; exact (z pk_us).elim
    · rw [pk_un c] at z; exact ⟨c, z⟩
  have off : ∀ x, upd t f 0 x = 0 → x = f ∨ t x = 0 := fun x z => by
    by_cases c : x = f
    · exact Or.inl c
    · rw [pk_un c] at z; exact Or.inr z
  refine ⟨et_Tree_rem h1 f0 (fun x hx tx px => et_cn_z hc x hx ⟨tx, px⟩), ?_, ?_, ⟨?_, ?_⟩, ⟨?_, ?_⟩, et_Se_up h6 hs (fun x _ tx => (old x tx).2), h7, h8⟩
  · intro e he te
    rw [et_un_v]
    by_cases c : e < 48 ∧ ¬ upd t f 0 e = 0 ∧ al e = nI f
    · rw [if_pos c]
      exact Or.inr (Or.inl rfl)
    · rw [if_neg c]
      rcases h2 e he (old e te).2 with q | q | ⟨d, hd, td, ed⟩
      · exact Or.inl q
      · exact Or.inr (Or.inl q)
      · have df : d ≠ f := fun z => c ⟨he, te, z ▸ ed⟩
        exact Or.inr (Or.inr ⟨d, hd, by rw [pk_un df]; exact td, ed⟩)
  · rw [et_un_v, if_neg (fun z => et_ne1 hf (z.2.2.symm.trans h3))]
    exact h3
  · intro e he te j hj
    by_cases c : e = f
    · subst c; exact et_fill_i 6 j hj
    · rw [et_fill_o 6 _ (by omega)]
      exact h4.1 e he ((off e te).elim (fun z => absurd z c) id) j hj
  · intro e he te j hj
    have o := old e te
    have oc := o.1
    rw [et_fill_o 6 _ (by omega)]
    exact h4.2 e he o.2 j hj
  · intro e he te j hj
    by_cases c : e = f
    · subst c; exact et_fill_i 24 j hj
    · rw [et_fill_o 24 _ (by omega)]
      exact h5.1 e he ((off e te).elim (fun z => absurd z c) id) j hj
  · intro e he te j hj
    have o := old e te
    have oc := o.1
    rw [et_fill_o 24 _ (by omega)]
    exact h5.2 e he o.2 j hj
theorem et_I_mov (h : et_I t par al s vb se rs ru sn n kd xa ya xn yn fc fe fa) {f p : Nat} (hs : sn < 1000000000) (hf : f < 48) (f0 : ¬ f = 0) (hp : p < 48) (tp : ¬ t p = 0) (hpf : ¬ nI p = nI f) (hw : ¬ et_wi par (nI f) 47 (par p)) :
    et_I t (upd par f (nI p)) al (upd s f (nI (sn + 1))) vb se rs ru (sn + 1) n kd xa ya xn yn fc fe fa := by
  obtain ⟨h1, h2, h3, h4, h5, h6, h7, h8⟩ := h
  exact ⟨et_Tree_mov h1 hf f0 hp tp hpf hw, h2, h3, h4, h5, et_Se_st h6 hs (fun x _ tx => Or.inr tx), h7, h8⟩
theorem et_I_pnt (h : et_I t par al s vb se rs ru sn n kd xa ya xn yn fc fe fa) {f c : Nat} (hs : sn < 1000000000) (ha : ¬ al f = -1) (hc : c < 48) (tc : ¬ t c = 0) :
    et_I t par (upd al f (nI c)) (upd s f (nI (sn + 1))) vb se rs ru (sn + 1) n kd xa ya xn yn fc fe fa := by
  obtain ⟨h1, h2, h3, h4, h5, h6, h7, h8⟩ := h
  have f0 : (0 : Nat) ≠ f := fun z => ha (z ▸ h3)
  refine ⟨h1, fun e he te => ?_, by rw [pk_un f0]; exact h3, h4, h5, et_Se_st h6 hs (fun x _ tx => Or.inr tx), h7, h8⟩
  by_cases d : e = f
  · subst d; rw [pk_us]; exact Or.inr (Or.inr ⟨c, hc, tc, rfl⟩)
  · rw [pk_un d]; exact h2 e he te
theorem et_I_put (h : et_I t par al s vb se rs ru sn n kd xa ya xn yn fc fe fa) {e a v : Nat} (hs : sn < 1000000000) (he : e < 48) (te : ¬ t e = 0) (ha : a < 6) (hv : v < 16) :
    et_I t par al (upd s e (nI (sn + 1))) (upd vb (e * 6 + a) (vb (e * 6 + a) ^^^ ((1 : Int32) <<< (nI v &&& 31)))) (upd se (e * 6 + a) (se (e * 6 + a) ^^^ ((1 : Int32) <<< (nI v &&& 31)))) rs ru (sn + 1) n kd xa ya xn yn fc fe fa := by
  obtain ⟨h1, h2, h3, h4, h5, h6, h7, h8⟩ := h
  refine ⟨h1, h2, h3, ⟨fun x hx tx j hj => ?_, fun x hx tx j hj => ?_⟩, h5, et_Se_st h6 hs (fun x _ tx => Or.inr tx), h7, h8⟩
  · have c : ¬ x = e := fun z => te (z ▸ tx)
    rw [pk_un (by omega)]
    exact h4.1 x hx tx j hj
  · by_cases c : x * 6 + j = e * 6 + a
    · rw [c, pk_us, pk_us]
      have q := h4.2 e he te a ha
      rw [q.2]
      exact ⟨et_Vx q.1 hv, rfl⟩
    · rw [pk_un c, pk_un c]
      exact h4.2 x hx tx j hj
theorem et_I_rul (h : et_I t par al s vb se rs ru sn n kd xa ya xn yn fc fe fa) {e o w : Nat} (he : e < 48) (te : ¬ t e = 0) (ho : o < 24) (hw : w < 3) {z : Int32} (hz : z = nI w - 1) :
    et_I t par al s vb se (upd rs (e * 24 + o) (nI w)) (upd ru (e * 24 + o) z) sn n kd xa ya xn yn fc fe fa := by
  obtain ⟨h1, h2, h3, h4, h5, h6, h7, h8⟩ := h
  refine ⟨h1, h2, h3, h4, ⟨fun x hx tx j hj => ?_, fun x hx tx j hj => ?_⟩, h6, h7, h8⟩
  · have c : ¬ x = e := fun z => te (z ▸ tx)
    rw [pk_un (by omega)]
    exact h5.1 x hx tx j hj
  · by_cases c : x * 24 + j = e * 24 + o
    · rw [c, pk_us, pk_us]
      exact ⟨w, hw, rfl, hz⟩
    · rw [pk_un c, pk_un c]
      exact h5.2 x hx tx j hj
end
