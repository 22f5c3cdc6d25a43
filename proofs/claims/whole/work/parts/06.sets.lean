section
variable {B : Nat → Prop} {W : Nat → Nat → Prop} {A : Nat → Prop} {L : Nat → Nat → Prop} {b : Nat}
theorem et_yF {sr gn : Nat → Int32} (h1 : ∀ x, x < 48 → ¬ sr x = 0 → et_M B W A L b x) (h2 : ∀ x, x < 48 → B x → ¬ sr x = 0)
    (h3 : ∀ e, e < 48 → ¬ gn e = 0 → A e ∧ ¬ e = b) (h4 : ∀ e, e < 48 → ¬ gn e = 0 → ∀ t, L e t → ∀ x, x < 48 → W x t → ¬ sr x = 0)
    (h5 : ∀ e, e < 48 → ¬ sr e = 0 → A e → ¬ e = b → ¬ gn e = 0) : ∀ x, x < 48 → ((¬ sr x = 0 ∧ gn x = 0) ↔ et_F B W A L b x) := by
  intro x hx
  have cl : et_Cl B W A L b (fun x => ¬ sr x = 0) := ⟨h2, fun e t he hs hA hb hL x hx hw => h4 e he (h5 e he hs hA hb) t hL x hx hw⟩
  constructor
  · rintro ⟨p, q⟩
    exact ⟨h1 x hx p, fun z => h5 x hx p z.1 z.2 q⟩
  · rintro ⟨p, q⟩
    refine ⟨p _ cl, ?_⟩
    apply Classical.byContradiction
    intro z
    exact q (h3 x hx z)
def et_PX (W : Nat → Nat → Prop) (A : Nat → Prop) (L : Nat → Nat → Prop) (b : Nat) (sr it : Nat → Int32) (t N : Nat) : Prop :=
  ∀ x, x < N → W x t → (A x → ¬ x = b → ∀ s, L x s → ¬ it s = 0) ∧ (¬ (A x ∧ ¬ x = b) → ¬ sr x = 0)
def et_QX (B : Nat → Prop) (W : Nat → Nat → Prop) (A : Nat → Prop) (L : Nat → Nat → Prop) (b c : Nat) (sr it tp : Nat → Int32) : Prop :=
  c = et_cn (fun e => ¬ it e = 0) 48 ∧ (∀ k, k < c → ∃ t, t < 48 ∧ tp k = nI t ∧ ¬ it t = 0) ∧ (∀ t, t < 48 → ¬ it t = 0 → ∃ k, k < c ∧ tp k = nI t) ∧
  (∀ t, t < 48 → ¬ it t = 0 → ∀ x, x < 48 → W x t → et_M B W A L b x) ∧ (∀ x, x < 48 → ¬ sr x = 0 → et_F B W A L b x)
theorem et_xF {sr it : Nat → Int32} (hB : ∀ x, x < 48 → B x → W x b) (hb : b < 48) (hL : ∀ e s, L e s → s < 48) (h1 : ∀ x, x < 48 → ¬ sr x = 0 → et_F B W A L b x) (h2 : ¬ it b = 0)
    (h3 : ∀ t, t < 48 → ¬ it t = 0 → et_PX W A L b sr it t 48) : ∀ x, x < 48 → (¬ sr x = 0 ↔ et_F B W A L b x) := by
  intro x hx
  have cl : et_Cl B W A L b (fun x => ∃ t, t < 48 ∧ ¬ it t = 0 ∧ W x t) := by
    refine ⟨fun x hx hb' => ⟨b, hb, h2, hB x hx hb'⟩, ?_⟩
    rintro e t he ⟨t', ht', it', wt'⟩ hA hne hLe x hx hw
    exact ⟨t, hL _ _ hLe, (h3 t' ht' it' e he wt').1 hA hne t hLe, hw⟩
  constructor
  · exact h1 x hx
  · rintro ⟨p, q⟩
    obtain ⟨t, ht, itt, wt⟩ := p _ cl
    exact (h3 t ht itt x hx wt).2 q
theorem et_PX_m {sr it sr' it' : Nat → Int32} {t N : Nat} (h : et_PX W A L b sr it t N) (h1 : ∀ x, ¬ sr x = 0 → ¬ sr' x = 0) (h2 : ∀ x, ¬ it x = 0 → ¬ it' x = 0) : et_PX W A L b sr' it' t N :=
  fun x hx hw => ⟨fun a c s l => h2 _ ((h x hx hw).1 a c s l), fun z => h1 _ ((h x hx hw).2 z)⟩
theorem et_PX_s {sr it : Nat → Int32} {t N : Nat} (h : et_PX W A L b sr it t N) (hn : W N t → (A N → ¬ N = b → ∀ s, L N s → ¬ it s = 0) ∧ (¬ (A N ∧ ¬ N = b) → ¬ sr N = 0)) : et_PX W A L b sr it t (N + 1) := by
  intro x hx hw
  by_cases e : x = N
  · subst e; exact hn hw
  · exact h x (by omega) hw
theorem et_u1 {f : Nat → Int32} {k x : Nat} (h : ¬ f x = 0) : ¬ upd f k 1 x = 0 := by
  by_cases e : x = k
  · subst e; rw [pk_us]; decide
  · rw [pk_un e]; exact h
theorem et_u1k {f : Nat → Int32} {k : Nat} : ¬ upd f k 1 k = 0 := by rw [pk_us]; decide
theorem et_u1i {f : Nat → Int32} {k x : Nat} : ¬ upd f k 1 x = 0 ↔ x = k ∨ ¬ f x = 0 := by
  by_cases e : x = k
  · subst e; exact ⟨fun _ => Or.inl rfl, fun _ => et_u1k⟩
  · rw [pk_un e]; exact ⟨Or.inr, fun z => z.elim (fun q => absurd q e) id⟩
theorem et_QX_q {c : Nat} {sr it tp : Nat → Int32} (h : et_QX B W A L b c sr it tp) {t : Nat} (ht : t < 48) (h0 : it t = 0) (hG : ∀ x, x < 48 → W x t → et_M B W A L b x) :
    c < 48 ∧ et_QX B W A L b (c + 1) sr (upd it t 1) (upd tp c (nI t)) := by
  obtain ⟨h1, h2, h3, h4, h5⟩ := h
  have hc : c < 48 := by rw [h1]; exact et_cn_ltn t ht (fun z => z h0)
  refine ⟨hc, ?_, fun k hk => ?_, fun s hs is => ?_, fun s hs is x hx hw => ?_, h5⟩
  · rw [h1, ← et_cn_ins (P := fun e => ¬ it e = 0) t ht (fun z => z h0)]
    exact et_cn_congr fun k _ => et_u1i.symm
  · by_cases e : k = c
    · subst e; exact ⟨t, ht, pk_us, et_u1k⟩
    · obtain ⟨s, hs, es, is⟩ := h2 k (by omega)
      exact ⟨s, hs, by rw [pk_un e]; exact es, et_u1 is⟩
  · rcases et_u1i.mp is with e | e
    · subst e; exact ⟨c, by omega, pk_us⟩
    · obtain ⟨k, hk, ek⟩ := h3 s hs e
      exact ⟨k, by omega, by rw [pk_un (by omega)]; exact ek⟩
  · rcases et_u1i.mp is with e | e
    · subst e; exact hG x hx hw
    · exact h4 s hs e x hx hw
theorem et_QX_r {c : Nat} {sr it tp : Nat → Int32} (h : et_QX B W A L b c sr it tp) {e : Nat} (hF : et_F B W A L b e) : et_QX B W A L b c (upd sr e 1) it tp := by
  obtain ⟨h1, h2, h3, h4, h5⟩ := h
  refine ⟨h1, h2, h3, h4, fun x hx hs => ?_⟩
  rcases et_u1i.mp hs with q | q
  · subst q; exact hF
  · exact h5 x hx q
end
