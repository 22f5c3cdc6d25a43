theorem et_par_self {t par : Nat → Int32} (h : et_Tree t par) {e : Nat} (he : e < 48) (te : ¬ t e = 0) : ¬ par e = nI e := by
  intro z
  apply et_below_self h he te
  rw [z]
  exact (et_wi_e (f := 46) he).mpr (Or.inl rfl)
theorem et_mw2 {t par : Nat → Int32} {c x : Nat} (hx : x < 48) (hc : c < 48) : et_mw t par 2 c x ↔ ¬ t x = 0 ∧ (nI x = nI c ∨ et_wi par (nI c) 47 (par x)) := by
  constructor
  · rintro ⟨a, q | q | q⟩
    · exact ⟨a, Or.inl (by rw [q.2])⟩
    · exact absurd q.1 (by omega)
    · exact ⟨a, Or.inr q.2⟩
  · rintro ⟨a, q | q⟩
    · exact ⟨a, Or.inl ⟨by omega, et_inj hx hc q⟩⟩
    · exact ⟨a, Or.inr (Or.inr ⟨rfl, q⟩)⟩
theorem et_FF_0 {t par al : Nat → Int32} {inn : Prop} {b x : Nat} (hx : x < 48) (tb : ¬ t b = 0) : et_FF t par al 0 inn b x ↔ x = b := by
  constructor
  · intro h
    refine h.1 (fun x => x = b) ⟨?_, fun e c he hs hA hb => absurd hs hb⟩
    rintro x hx ⟨_, q | q | q⟩
    · exact q.2
    · exact absurd q.1 (by omega)
    · exact absurd q.1 (by omega)
  · intro h
    subst h
    exact ⟨et_M_b hx ⟨tb, Or.inl ⟨by omega, rfl⟩⟩, fun z => z.2 rfl⟩
theorem et_FF_1 {t par al : Nat → Int32} {inn : Prop} {b x : Nat} (hT : et_Tree t par) (hA : et_Al t al) (hb : b < 48) (tb : ¬ t b = 0) (hx : x < 48) :
    et_FF t par al 1 inn b x ↔ ∃ e, e < 48 ∧ ¬ t e = 0 ∧ par e = nI b ∧ ((inn ∧ et_LL al e x) ∨ (¬ inn ∧ x = e)) := by
  have B : ∀ e, et_mw t par 1 b e ↔ ¬ t e = 0 ∧ par e = nI b := by
    intro e
    constructor
    · rintro ⟨a, q | q | q⟩
      · exact absurd rfl q.1
      · exact ⟨a, q.2⟩
      · exact absurd q.1 (by omega)
    · rintro ⟨a, q⟩
      exact ⟨a, Or.inr (Or.inl ⟨rfl, q⟩)⟩
  have W : ∀ c y, et_mw t par (et_sc 1) c y ↔ ¬ t y = 0 ∧ y = c := by
    intro c y
    constructor
    · rintro ⟨a, q | q | q⟩
      · exact ⟨a, q.2⟩
      · exact absurd q.1 (by decide)
      · exact absurd q.1 (by decide)
    · rintro ⟨a, q⟩
      exact ⟨a, Or.inl ⟨by decide, q⟩⟩
  have ldt : ∀ e y, e < 48 → ¬ t e = 0 → et_LL al e y → ¬ t y = 0 ∧ al y = -1 := by
    intro e y he te hl
    rcases et_ld_c hA 48 (nI e) (Or.inr ⟨e, he, te, rfl⟩) with q | ⟨c, hc, tc, ac, q⟩
    · exact (et_ne2 hl.1 (hl.2.symm.trans q)).elim
    · obtain rfl := et_inj hl.1 hc (hl.2.symm.trans q)
      exact ⟨tc, ac⟩
  have ne : ∀ e, e < 48 → ¬ t e = 0 → par e = nI b → ¬ e = b := fun e he te pe z => by
    subst z
    exact et_par_self hT he te pe
  constructor
  · rintro ⟨hM, hF⟩
    by_cases hi : inn
    · have cl : et_Cl (et_mw t par 1 b) (fun x c => et_mw t par (et_sc 1) c x) (et_AA al inn) (et_LL al) b (fun x => et_mw t par 1 b x ∨ ∃ e, e < 48 ∧ ¬ t e = 0 ∧ par e = nI b ∧ et_LL al e x) := by
        refine ⟨fun x _ q => Or.inl q, fun e c he hs hAe hne hl y hy wy => ?_⟩
        obtain ⟨ty, rfl⟩ := (W c y).mp wy
        rcases hs with hs | ⟨e', he', te', pe', hl'⟩
        · have hs := (B e).mp hs
          exact Or.inr ⟨e, he, hs.1, hs.2, hl⟩
        · exact absurd (ldt e' e he' te' hl').2 hAe.2
      rcases hM _ cl with q | ⟨e, he, te, pe, hl⟩
      · have q := (B x).mp q
        by_cases ha : al x = -1
        · exact ⟨x, hx, q.1, q.2, Or.inl ⟨hi, hx, et_ld_e hx ha⟩⟩
        · exact (hF ⟨⟨hi, ha⟩, ne x hx q.1 q.2⟩).elim
      · exact ⟨e, he, te, pe, Or.inl ⟨hi, hl⟩⟩
    · have cl : et_Cl (et_mw t par 1 b) (fun x c => et_mw t par (et_sc 1) c x) (et_AA al inn) (et_LL al) b (fun x => et_mw t par 1 b x) := ⟨fun x _ q => q, fun e c he hs hAe => absurd hAe.1 hi⟩
      have q := (B x).mp (hM _ cl)
      exact ⟨x, hx, q.1, q.2, Or.inr ⟨hi, rfl⟩⟩
  · rintro ⟨e, he, te, pe, ⟨hi, hl⟩ | ⟨hi, rfl⟩⟩
    · have l := ldt e x he te hl
      refine ⟨?_, fun z => z.1.2 l.2⟩
      by_cases ha : al e = -1
      · have q : nI x = nI e := hl.2.symm.trans (et_ld_e he ha)
        obtain rfl := et_inj hx he q
        exact et_M_b hx ((B _).mpr ⟨te, pe⟩)
      · exact et_M_s he (et_M_b he ((B e).mpr ⟨te, pe⟩)) ⟨hi, ha⟩ (ne e he te pe) hl hx ((W x x).mpr ⟨l.1, rfl⟩)
    · exact ⟨et_M_b hx ((B _).mpr ⟨te, pe⟩), fun z => hi z.1.1⟩
section
variable {zs zn tc fc : Int32} {t par nm al s vb rs kd xa xn st xs it tp fe : Nat → Int32}
theorem xw_munder {post : SX → Prop} {b : Nat} {i01 : Int32} (hT : et_Tree t par) (hA : et_Al t al) (hb : b < 48) (tb : ¬ t b = 0) (h0 : ∀ x, x < 48 → xs x = 0)
    (k : ∀ sr : Nat → Int32, (∀ x, x < 48 → (¬ sr x = 0 ↔ et_FF t par al 1 (¬ i01 = 0) b x)) → post (zs, zn, tc, fc, t, par, nm, al, s, vb, rs, kd, xa, xn, st, sr, it, tp, fe)) : wpX_markUnder post (zs, zn, tc, fc, t, par, nm, al, s, vb, rs, kd, xa, xn, st, xs, it, tp, fe) (nI b) i01 := by
  have key : ∀ d e n (sr : Nat → Int32), e + d = 48 → d < n → (∀ x, x < 48 → (¬ sr x = 0 ↔ ∃ e', e' < e ∧ ¬ t e' = 0 ∧ par e' = nI b ∧ ((¬ i01 = 0 ∧ et_LL al e' x) ∨ (¬ ¬ i01 = 0 ∧ x = e')))) → wX_markUnder_2 post (nI b) i01 zs zn tc fc n (nI e) t par nm al s vb rs kd xa xn st sr it tp fe := by
    intro d
    induction d with
    | zero =>
      intro e n sr he hn hr
      obtain ⟨n, rfl⟩ : ∃ m, n = m + 1 := ⟨n - 1, by omega⟩
      obtain rfl : e = 48 := by omega
      exact br_t et_le48 (k sr (fun x hx => (hr x hx).trans (et_FF_1 hT hA hb tb hx).symm))
    | succ d ih =>
      intro e n sr he hn hr
      obtain ⟨n, rfl⟩ : ∃ m, n = m + 1 := ⟨n - 1, by omega⟩
      have h1 : e < 48 := by omega
      have no : (∀ x, x < 48 → ¬ (¬ t e = 0 ∧ par e = nI b ∧ ((¬ i01 = 0 ∧ et_LL al e x) ∨ (¬ ¬ i01 = 0 ∧ x = e)))) → wX_markUnder_2 post (nI b) i01 zs zn tc fc n (nI (e + 1)) t par nm al s vb rs kd xa xn st sr it tp fe := fun z => ih (e + 1) n sr (by omega) (by omega) (fun x hx => (hr x hx).trans ⟨fun ⟨e', h', q⟩ => ⟨e', by omega, q⟩, fun ⟨e', h', q⟩ => by
        by_cases w : e' = e
        · subst w; exact (z x hx q).elim
        · exact ⟨e', by omega, q⟩⟩)
      have yes : ∀ c, c < 48 → (∀ x, x < 48 → ((¬ t e = 0 ∧ par e = nI b ∧ ((¬ i01 = 0 ∧ et_LL al e x) ∨ (¬ ¬ i01 = 0 ∧ x = e))) ↔ x = c)) → wX_markUnder_2 post (nI b) i01 zs zn tc fc n (nI (e + 1)) t par nm al s vb rs kd xa xn st (upd sr c 1) it tp fe := fun c hc z => ih (e + 1) n _ (by omega) (by omega) (fun x hx => by
        rw [et_u1i, hr x hx, ← z x hx]
        constructor
        · rintro (q | ⟨e', h', q⟩)
          · exact ⟨e, by omega, q⟩
          · exact ⟨e', by omega, q⟩
        · rintro ⟨e', h', q⟩
          by_cases w : e' = e
          · subst w; exact Or.inl q
          · exact Or.inr ⟨e', by omega, q⟩)
      simp only [wX_markUnder_2, wX_markUnder_40, et_cl h1, et_ge h1, et_in h1, et_bo.1, forall_eq, nI_1, true_and, and_true, not_false_iff, not_true, true_implies, false_implies]
      by_cases a : t e = 0
      · exact br_t a (no (fun x _ z => z.1 a))
      · refine br_f a ?_
        by_cases p : par e = nI b
        · refine br_t p ?_
          by_cases i : i01 = 0
          · exact br_t i (br_f (et_ne2 h1) (yes e h1 (fun x hx => ⟨fun z => z.2.2.elim (fun q => absurd i q.1) (fun q => q.2), fun z => ⟨a, p, Or.inr ⟨fun q => q i, z⟩⟩⟩)))
          · refine br_f i (xw_leads hA h1 a ?_)
            rcases et_ld_c hA 48 (nI e) (Or.inr ⟨e, h1, a, rfl⟩) with q | ⟨c, hc, tc, ac, q⟩
            · refine br_t q (no (fun x hx z => z.2.2.elim (fun y => et_ne2 hx (y.2.2.symm.trans q)) (fun y => y.1 i)))
            · rw [q]
              simp only [et_cl hc, et_in hc, true_and]
              exact br_f (et_ne2 hc) (yes c hc (fun x hx => ⟨fun z => z.2.2.elim (fun y => et_inj hx hc (y.2.2.symm.trans q)) (fun y => absurd i y.1), fun z => ⟨a, p, Or.inl ⟨i, hx, by rw [z]; exact q⟩⟩⟩))
        · exact br_f p (no (fun x _ z => p z.2.1))
  exact ⟨49, key 48 0 49 xs rfl (by omega) (fun x hx => ⟨fun z => absurd (h0 x hx) z, fun ⟨e', h', _⟩ => absurd h' (Nat.not_lt_zero _)⟩)⟩
theorem xw_queue_a {post : SX → Prop} {c m : Nat} (hc : c < 48) (hm : m < 48) (h0 : it c = 0) (k : post (zs, zn, nI (m + 1), fc, t, par, nm, al, s, vb, rs, kd, xa, xn, st, xs, upd it c 1, upd tp m (nI c), fe)) : wpX_queueTop post (zs, zn, nI m, fc, t, par, nm, al, s, vb, rs, kd, xa, xn, st, xs, it, tp, fe) (nI c) := by
  simp only [wpX_queueTop, et_cl hc, et_in hc, et_cl hm, et_in hm, et_bo.1, forall_eq, nI_1, true_and, and_true, not_false_iff, not_true, true_implies, false_implies]
  exact br_f (et_ne2 hc) (br_t h0 k)
theorem xw_queue_o {post : SX → Prop} {c : Nat} (hc : c < 48) (h0 : ¬ it c = 0) (k : post (zs, zn, tc, fc, t, par, nm, al, s, vb, rs, kd, xa, xn, st, xs, it, tp, fe)) : wpX_queueTop post (zs, zn, tc, fc, t, par, nm, al, s, vb, rs, kd, xa, xn, st, xs, it, tp, fe) (nI c) := by
  simp only [wpX_queueTop, et_cl hc, et_in hc, true_and]
  exact br_f (et_ne2 hc) (br_f h0 k)
theorem xw_sub {post : SX → Prop} {b p m : Nat} {i01 : Int32} (hT : et_Tree t par) (hA : et_Al t al) (hb : b < 48) (hp : p < 48) (ip : ¬ it p = 0)
    (Q : et_QX (et_mw t par 2 b) (fun x c => et_mw t par 2 c x) (et_AA al (¬ i01 = 0)) (et_LL al) b m xs it tp)
    (k : ∀ m' (xs' it' tp' : Nat → Int32), et_QX (et_mw t par 2 b) (fun x c => et_mw t par 2 c x) (et_AA al (¬ i01 = 0)) (et_LL al) b m' xs' it' tp' → (∀ x, ¬ xs x = 0 → ¬ xs' x = 0) → (∀ x, ¬ it x = 0 → ¬ it' x = 0) → m ≤ m' → (∀ j, j < m → tp' j = tp j) →
      et_PX (fun x c => et_mw t par 2 c x) (et_AA al (¬ i01 = 0)) (et_LL al) b xs' it' p 48 → post (zs, zn, nI m', fc, t, par, nm, al, s, vb, rs, kd, xa, xn, st, xs', it', tp', fe)) : wpX_markSubtree post (zs, zn, nI m, fc, t, par, nm, al, s, vb, rs, kd, xa, xn, st, xs, it, tp, fe) (nI p) (nI b) i01 := by
  have key : ∀ d e n m' (xs' it' tp' : Nat → Int32), e + d = 48 → d < n → et_QX (et_mw t par 2 b) (fun x c => et_mw t par 2 c x) (et_AA al (¬ i01 = 0)) (et_LL al) b m' xs' it' tp' → (∀ x, ¬ xs x = 0 → ¬ xs' x = 0) → (∀ x, ¬ it x = 0 → ¬ it' x = 0) → m ≤ m' → (∀ j, j < m → tp' j = tp j) →
      et_PX (fun x c => et_mw t par 2 c x) (et_AA al (¬ i01 = 0)) (et_LL al) b xs' it' p e → wX_markSubtree_3 post (nI p) (nI b) i01 n (nI e) zs zn (nI m') fc t par nm al s vb rs kd xa xn st xs' it' tp' fe := by
    intro d
    induction d with
    | zero =>
      intro e n m' xs' it' tp' he hn Q' g1 g2 g3 g4 P'
      obtain ⟨n, rfl⟩ : ∃ m, n = m + 1 := ⟨n - 1, by omega⟩
      obtain rfl : e = 48 := by omega
      exact br_t et_le48 (k m' xs' it' tp' Q' g1 g2 g3 g4 P')
    | succ d ih =>
      intro e n m' xs' it' tp' he hn Q' g1 g2 g3 g4 P'
      obtain ⟨n, rfl⟩ : ∃ m, n = m + 1 := ⟨n - 1, by omega⟩
      have h1 : e < 48 := by omega
      have no : (et_mw t par 2 p e → (et_AA al (¬ i01 = 0) e → ¬ e = b → ∀ s, et_LL al e s → ¬ it' s = 0) ∧ (¬ (et_AA al (¬ i01 = 0) e ∧ ¬ e = b) → ¬ xs' e = 0)) → wX_markSubtree_3 post (nI p) (nI b) i01 n (nI (e + 1)) zs zn (nI m') fc t par nm al s vb rs kd xa xn st xs' it' tp' fe := fun z => ih (e + 1) n m' xs' it' tp' (by omega) (by omega) Q' g1 g2 g3 g4 (et_PX_s P' z)
      have mk : et_mw t par 2 p e → ¬ (et_AA al (¬ i01 = 0) e ∧ ¬ e = b) → wX_markSubtree_3 post (nI p) (nI b) i01 n (nI (e + 1)) zs zn (nI m') fc t par nm al s vb rs kd xa xn st (upd xs' e 1) it' tp' fe := fun z y =>
        ih (e + 1) n m' (upd xs' e 1) it' tp' (by omega) (by omega) (et_QX_r Q' ⟨Q'.2.2.2.1 p hp (g2 p ip) e h1 z, y⟩) (fun x hx => et_u1 (g1 x hx)) g2 g3 g4
          (et_PX_s (et_PX_m P' (fun x hx => et_u1 hx) (fun x hx => hx)) (fun _ => ⟨fun a c => absurd ⟨a, c⟩ y, fun _ => et_u1k⟩))
      simp only [wX_markSubtree_3, et_cl h1, et_ge h1, et_in h1, et_bo.1, forall_eq, nI_1, true_and, and_true, not_false_iff, not_true, true_implies, false_implies]
      by_cases a : t e = 0
      · exact br_t a (no (fun z => absurd a z.1))
      · refine br_f a (xw_within hT h1 a (fun w => br_f et_10 ?_) (fun w => br_t rfl ?_))
        · have wm : et_mw t par 2 p e := (et_mw2 h1 hp).mpr ⟨a, w⟩
          by_cases i : i01 = 0
          · exact br_t i (mk wm (fun z => z.1.1 i))
          · refine br_f i ?_
            by_cases eb : nI e = nI b
            · exact br_t eb (mk wm (fun z => z.2 (et_inj h1 hb eb)))
            · have eb' : ¬ e = b := fun z => eb (by rw [z])
              refine br_f eb ?_
              by_cases ea : al e = -1
              · exact xw_al_f h1 ea (br_t rfl (mk wm (fun z => z.1.2 ea)))
              · refine xw_al_t h1 ea (br_f et_10 (xw_leads hA h1 a ?_))
                have aa : et_AA al (¬ i01 = 0) e := ⟨i, ea⟩
                rcases et_ld_c hA 48 (nI e) (Or.inr ⟨e, h1, a, rfl⟩) with q | ⟨c, hc, tc', ac, q⟩
                · rw [q]
                  refine br_t rfl ?_
                  exact no (fun _ => ⟨fun _ _ s' hl => (et_ne2 hl.1 (hl.2.symm.trans q)).elim, fun z => absurd ⟨aa, eb'⟩ z⟩)
                · rw [q]
                  by_cases ic : it' c = 0
                  · have G : ∀ x, x < 48 → et_mw t par 2 c x → et_M (et_mw t par 2 b) (fun x c => et_mw t par 2 c x) (et_AA al (¬ i01 = 0)) (et_LL al) b x := fun x hx wx =>
                      et_M_s h1 (Q'.2.2.2.1 p hp (g2 p ip) e h1 wm) aa eb' ⟨hc, q⟩ hx wx
                    obtain ⟨hm, Q2⟩ := et_QX_q Q' hc ic G
                    refine xw_queue_a hc hm ic ?_
                    refine ih (e + 1) n (m' + 1) xs' (upd it' c 1) (upd tp' m' (nI c)) (by omega) (by omega) Q2 g1 (fun x hx => et_u1 (g2 x hx)) (by omega) (fun j hj => by rw [pk_un (by omega)]; exact g4 j hj)
                      (et_PX_s (et_PX_m P' (fun x hx => hx) (fun x hx => et_u1 hx)) (fun _ => ⟨fun _ _ s' hl => ?_, fun z => absurd ⟨aa, eb'⟩ z⟩))
                    obtain rfl := et_inj hl.1 hc (hl.2.symm.trans q)
                    exact et_u1k
                  · refine xw_queue_o hc ic ?_
                    refine no (fun _ => ⟨fun _ _ s' hl => ?_, fun z => absurd ⟨aa, eb'⟩ z⟩)
                    obtain rfl := et_inj hl.1 hc (hl.2.symm.trans q)
                    exact ic
        · exact no (fun z => absurd ((et_mw2 h1 hp).mp z).2 w)
  exact ⟨49, key 48 0 49 m xs it tp rfl (by omega) Q (fun _ z => z) (fun _ z => z) (Nat.le_refl _) (fun _ _ => rfl) (fun x hx => absurd hx (Nat.not_lt_zero _))⟩
theorem xw_all {post : SX → Prop} {b : Nat} {i01 : Int32} (hT : et_Tree t par) (hA : et_Al t al) (hb : b < 48) (h0 : ∀ x, x < 48 → xs x = 0) (hi : ∀ x, x < 48 → it x = 0)
    (k : ∀ (tc' : Int32) (sr it' tp' : Nat → Int32), (∀ x, x < 48 → (¬ sr x = 0 ↔ et_FF t par al 2 (¬ i01 = 0) b x)) → post (zs, zn, tc', fc, t, par, nm, al, s, vb, rs, kd, xa, xn, st, sr, it', tp', fe)) : wpX_markAllBelow post (zs, zn, 0, fc, t, par, nm, al, s, vb, rs, kd, xa, xn, st, xs, it, tp, fe) (nI b) i01 := by
  have G0 : ∀ x, x < 48 → et_mw t par 2 b x → et_M (et_mw t par 2 b) (fun x c => et_mw t par 2 c x) (et_AA al (¬ i01 = 0)) (et_LL al) b x := fun x hx wx => et_M_b hx wx
  have Q0 : et_QX (et_mw t par 2 b) (fun x c => et_mw t par 2 c x) (et_AA al (¬ i01 = 0)) (et_LL al) b 0 xs it tp :=
    ⟨(et_cn_0 (fun x hx z => z (hi x hx))).symm, fun j hj => absurd hj (Nat.not_lt_zero _), fun c hc z => absurd (hi c hc) z, fun c hc z => absurd (hi c hc) z, fun x hx z => absurd (h0 x hx) z⟩
  obtain ⟨_, Q1⟩ := et_QX_q Q0 hb (hi b hb) G0
  have key : ∀ d i n m (xs' it' tp' : Nat → Int32), i + d = 48 → d < n → i ≤ m → et_QX (et_mw t par 2 b) (fun x c => et_mw t par 2 c x) (et_AA al (¬ i01 = 0)) (et_LL al) b m xs' it' tp' → ¬ it' b = 0 →
      (∀ j, j < i → ∀ p, p < 48 → tp' j = nI p → et_PX (fun x c => et_mw t par 2 c x) (et_AA al (¬ i01 = 0)) (et_LL al) b xs' it' p 48) → wX_markAllBelow_7 post (nI b) i01 n (nI i) zs zn (nI m) fc t par nm al s vb rs kd xa xn st xs' it' tp' fe := by
    intro d
    have fin : ∀ i m (xs' it' tp' : Nat → Int32), m ≤ i → et_QX (et_mw t par 2 b) (fun x c => et_mw t par 2 c x) (et_AA al (¬ i01 = 0)) (et_LL al) b m xs' it' tp' → ¬ it' b = 0 →
      (∀ j, j < i → ∀ p, p < 48 → tp' j = nI p → et_PX (fun x c => et_mw t par 2 c x) (et_AA al (¬ i01 = 0)) (et_LL al) b xs' it' p 48) → post (zs, zn, nI m, fc, t, par, nm, al, s, vb, rs, kd, xa, xn, st, xs', it', tp', fe) := by
      intro i m xs' it' tp' hm Q' ib P'
      refine k (nI m) xs' it' tp' ?_
      refine et_xF (fun x _ z => z) hb (fun e s' z => z.1) Q'.2.2.2.2 ib (fun p hp ip => ?_)
      obtain ⟨j, hj, ej⟩ := Q'.2.2.1 p hp ip
      exact P' j (by omega) p hp ej
    induction d with
    | zero =>
      intro i n m xs' it' tp' hi hn him Q' ib P'
      obtain ⟨n, rfl⟩ : ∃ m, n = m + 1 := ⟨n - 1, by omega⟩
      obtain rfl : i = 48 := by omega
      have m48 : m ≤ 48 := by rw [Q'.1]; exact et_cn_le _ _
      exact br_t et_le48 (fin 48 m xs' it' tp' m48 Q' ib P')
    | succ d ih =>
      intro i n m xs' it' tp' hi hn him Q' ib P'
      obtain ⟨n, rfl⟩ : ∃ m, n = m + 1 := ⟨n - 1, by omega⟩
      have h1 : i < 48 := by omega
      have m48 : m ≤ 48 := by rw [Q'.1]; exact et_cn_le _ _
      refine br_f (et_ge h1) (pk_le m i (fun z => fin i m xs' it' tp' z Q' ib P') (fun z => ⟨et_in h1, ?_⟩))
      obtain ⟨p, hp, ep, ip⟩ := Q'.2.1 i z
      rw [et_cl h1, ep]
      refine xw_sub hT hA hb hp ip Q' (fun m2 xs2 it2 tp2 Q2 g1 g2 g3 g4 P2 => ?_)
      simp only [forall_eq, nI_1, true_and, and_true, not_false_iff, not_true, true_implies, false_implies]
      refine ih (i + 1) n m2 xs2 it2 tp2 (by omega) (by omega) (by omega) Q2 (g2 b ib) (fun j hj p' hp' e' => ?_)
      rw [g4 j (by omega)] at e'
      by_cases q : j = i
      · subst q
        obtain rfl := et_inj hp hp' (ep.symm.trans e')
        exact P2
      · exact et_PX_m (P' j (by omega) p' hp' e') g1 g2
  unfold wpX_markAllBelow
  refine xw_queue_a (m := 0) hb (by omega) (hi b hb) ?_
  exact ⟨49, key 48 0 49 1 xs _ _ rfl (by omega) (by omega) Q1 et_u1k (fun j hj => absurd hj (Nat.not_lt_zero _))⟩
theorem xw_marks {post : SX → Prop} {b sc : Nat} {i01 : Int32} (hT : et_Tree t par) (hA : et_Al t al) (hb : b < 48) (tb : ¬ t b = 0) (hsc : sc < 3)
    (k : ∀ (tc' : Int32) (sr it' tp' : Nat → Int32), (∀ x, x < 48 → (¬ sr x = 0 ↔ et_FF t par al sc (¬ i01 = 0) b x)) → post (zs, zn, tc', fc, t, par, nm, al, s, vb, rs, kd, xa, xn, st, sr, it', tp', fe)) : wpX_markSearched post (zs, zn, tc, fc, t, par, nm, al, s, vb, rs, kd, xa, xn, st, xs, it, tp, fe) (nI b) (nI sc) i01 := by
  have key : ∀ d e n (xs' it' : Nat → Int32), e + d = 48 → d < n → (∀ x, x < e → xs' x = 0) → (∀ x, x < e → it' x = 0) → wX_markSearched_3 post (nI b) (nI sc) i01 zs zn tc fc n (nI e) t par nm al s vb rs kd xa xn st xs' it' tp fe := by
    intro d
    induction d with
    | zero =>
      intro e n xs' it' he hn hx hi
      obtain ⟨n, rfl⟩ : ∃ m, n = m + 1 := ⟨n - 1, by omega⟩
      obtain rfl : e = 48 := by omega
      refine br_t et_le48 ?_
      match sc, hsc with
      | 0, _ =>
        refine br_t rfl ?_
        simp only [et_cl hb, et_in hb, et_bo.1, true_and, forall_eq]
        refine k 0 (upd xs' b 1) it' tp (fun x hx' => ?_)
        rw [et_u1i, et_FF_0 hx' tb]
        exact ⟨fun z => z.elim id (fun y => absurd (hx x hx') y), Or.inl⟩
      | 1, _ =>
        refine br_f (by decide) (br_t rfl ?_)
        exact xw_munder hT hA hb tb hx (fun sr hsr => k 0 sr it' tp hsr)
      | 2, _ =>
        refine br_f (by decide) (br_f (by decide) ?_)
        exact xw_all hT hA hb hx hi (fun tc' sr it2 tp2 hsr => k tc' sr it2 tp2 hsr)
    | succ d ih =>
      intro e n xs' it' he hn hx hi
      obtain ⟨n, rfl⟩ : ∃ m, n = m + 1 := ⟨n - 1, by omega⟩
      have h1 : e < 48 := by omega
      simp only [wX_markSearched_3, et_cl h1, et_ge h1, et_in h1, et_bo.2, forall_eq, nI_1, true_and, and_true, not_false_iff, not_true, true_implies, false_implies]
      refine ih (e + 1) n (upd xs' e 0) (upd it' e 0) (by omega) (by omega) (fun x hx' => ?_) (fun x hx' => ?_)
      · by_cases q : x = e
        · subst q; exact pk_us
        · rw [pk_un q]; exact hx x (by omega)
      · by_cases q : x = e
        · subst q; exact pk_us
        · rw [pk_un q]; exact hi x (by omega)
  exact ⟨49, key 48 0 49 xs it rfl (by omega) (fun x hx => absurd hx (Nat.not_lt_zero _)) (fun x hx => absurd hx (Nat.not_lt_zero _))⟩
end
