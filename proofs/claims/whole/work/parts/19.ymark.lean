def et_mw (t par : Nat → Int32) (sc c x : Nat) : Prop := ¬ t x = 0 ∧ ((¬ sc = 1 ∧ x = c) ∨ (sc = 1 ∧ par x = nI c) ∨ (sc = 2 ∧ et_wi par (nI c) 47 (par x)))
def et_sc (sc : Nat) : Nat := if sc = 2 then 2 else 0
def et_LL (al : Nat → Int32) (e c : Nat) : Prop := c < 48 ∧ et_ld al 48 (nI e) = nI c
def et_AA (al : Nat → Int32) (inn : Prop) (e : Nat) : Prop := inn ∧ ¬ al e = -1
def et_MM (t par al : Nat → Int32) (sc : Nat) (inn : Prop) (b x : Nat) : Prop := et_M (et_mw t par sc b) (fun x c => et_mw t par (et_sc sc) c x) (et_AA al inn) (et_LL al) b x
def et_FF (t par al : Nat → Int32) (sc : Nat) (inn : Prop) (b x : Nat) : Prop := et_F (et_mw t par sc b) (fun x c => et_mw t par (et_sc sc) c x) (et_AA al inn) (et_LL al) b x
theorem et_MM_t {t par al : Nat → Int32} {sc : Nat} {inn : Prop} {b x : Nat} (h : et_MM t par al sc inn b x) : ¬ t x = 0 :=
  h (fun x => ¬ t x = 0) ⟨fun _ _ z => z.1, fun _ _ _ _ _ _ _ _ _ z => z.1⟩
theorem et_FF_t {t par al : Nat → Int32} {sc : Nat} {inn : Prop} {b x : Nat} (h : et_FF t par al sc inn b x) : ¬ t x = 0 := et_MM_t h.1
/-- what the loop over the aliases keeps -/
def et_J (t par al : Nat → Int32) (sc : Nat) (inn : Prop) (b : Nat) (sr gn : Nat → Int32) : Prop :=
  (∀ x, x < 48 → ¬ sr x = 0 → et_MM t par al sc inn b x) ∧ (∀ x, x < 48 → et_mw t par sc b x → ¬ sr x = 0) ∧ (∀ e, e < 48 → ¬ gn e = 0 → et_AA al inn e ∧ ¬ e = b) ∧
  (∀ e, e < 48 → ¬ gn e = 0 → ∀ c, et_LL al e c → ∀ x, x < 48 → et_mw t par (et_sc sc) c x → ¬ sr x = 0)
def et_Jc (al : Nat → Int32) (inn : Prop) (b : Nat) (sr gn : Nat → Int32) (N : Nat) : Prop := ∀ e, e < N → ¬ sr e = 0 → et_AA al inn e → ¬ e = b → ¬ gn e = 0
theorem et_J_f {t par al : Nat → Int32} {sc : Nat} {inn : Prop} {b : Nat} {sr gn : Nat → Int32} (h : et_J t par al sc inn b sr gn) (hc : et_Jc al inn b sr gn 48) : ∀ x, x < 48 → ((¬ sr x = 0 ∧ gn x = 0) ↔ et_FF t par al sc inn b x) :=
  et_yF h.1 h.2.1 h.2.2.1 h.2.2.2 hc
theorem et_J_s {t par al : Nat → Int32} {sc : Nat} {inn : Prop} {b : Nat} {sr gn sr' : Nat → Int32} (h : et_J t par al sc inn b sr gn) {i : Nat} (hi : i < 48) (si : ¬ sr i = 0) (hA : et_AA al inn i) (hb : ¬ i = b)
    (h' : ∀ x, x < 48 → (¬ sr' x = 0 ↔ ¬ sr x = 0 ∨ ∃ c, et_LL al i c ∧ et_mw t par (et_sc sc) c x)) : et_J t par al sc inn b sr' (upd gn i 1) := by
  obtain ⟨h1, h2, h3, h4⟩ := h
  refine ⟨fun x hx sx => ?_, fun x hx bx => (h' x hx).mpr (Or.inl (h2 x hx bx)), fun e he ge => ?_, fun e he ge c hc x hx wx => ?_⟩
  · rcases (h' x hx).mp sx with q | ⟨c, hc, wc⟩
    · exact h1 x hx q
    · exact et_M_s hi (h1 i hi si) hA hb hc hx wc
  · rcases et_u1i.mp ge with q | q
    · subst q; exact ⟨hA, hb⟩
    · exact h3 e he q
  · rcases et_u1i.mp ge with q | q
    · subst q; exact (h' x hx).mpr (Or.inr ⟨c, hc, wx⟩)
    · exact (h' x hx).mpr (Or.inl (h4 e he q c hc x hx wx))
theorem et_cn_u {f : Nat → Int32} {i : Nat} (hi : i < 48) (h0 : f i = 0) : et_cn (fun e => ¬ upd f i 1 e = 0) 48 = et_cn (fun e => ¬ f e = 0) 48 + 1 := by
  rw [← et_cn_ins (P := fun e => ¬ f e = 0) i hi (fun z => z h0)]
  exact et_cn_congr fun k _ => et_u1i
section
variable {zn zs : Int32} {t par nm al s se ru kd ya yn st ys gn fa : Nat → Int32}
theorem yw_mark {post : SY → Prop} {c sc : Nat} (hT : et_Tree t par) (hc : c < 48) (hsc : sc < 3) (k : ∀ sr : Nat → Int32, (∀ x, x < 48 → (¬ sr x = 0 ↔ ¬ ys x = 0 ∨ et_mw t par sc c x)) → post (zn, zs, t, par, nm, al, s, se, ru, kd, ya, yn, st, sr, gn, fa)) : wpY_mark post (zn, zs, t, par, nm, al, s, se, ru, kd, ya, yn, st, ys, gn, fa) (nI c) (nI sc) := by
  have key : ∀ d e n (sr : Nat → Int32), e + d = 48 → d < n → (∀ x, x < 48 → (¬ sr x = 0 ↔ ¬ ys x = 0 ∨ (x < e ∧ et_mw t par sc c x))) → wY_mark_2 post (nI c) (nI sc) zn zs n (nI e) t par nm al s se ru kd ya yn st sr gn fa := by
    intro d
    induction d with
    | zero =>
      intro e n sr he hn hr
      obtain ⟨n, rfl⟩ : ∃ m, n = m + 1 := ⟨n - 1, by omega⟩
      obtain rfl : e = 48 := by omega
      exact br_t et_le48 (k sr (fun x hx => (hr x hx).trans ⟨fun z => z.elim Or.inl (fun y => Or.inr y.2), fun z => z.elim Or.inl (fun y => Or.inr ⟨hx, y⟩)⟩))
    | succ d ih =>
      intro e n sr he hn hr
      obtain ⟨n, rfl⟩ : ∃ m, n = m + 1 := ⟨n - 1, by omega⟩
      have h1 : e < 48 := by omega
      have no : ¬ et_mw t par sc c e → wY_mark_2 post (nI c) (nI sc) zn zs n (nI (e + 1)) t par nm al s se ru kd ya yn st sr gn fa := fun z => ih (e + 1) n sr (by omega) (by omega) (fun x hx => (hr x hx).trans ⟨fun y => y.elim Or.inl (fun w => Or.inr ⟨by omega, w.2⟩), fun y => y.elim Or.inl (fun w => by
        by_cases q : x = e
        · subst q; exact (z w.2).elim
        · exact Or.inr ⟨by omega, w.2⟩)⟩)
      have yes : et_mw t par sc c e → wY_mark_2 post (nI c) (nI sc) zn zs n (nI (e + 1)) t par nm al s se ru kd ya yn st (upd sr e 1) gn fa := fun z => ih (e + 1) n _ (by omega) (by omega) (fun x hx => by
        rw [et_u1i, hr x hx]
        constructor
        · rintro (q | q | q)
          · subst q; exact Or.inr ⟨by omega, z⟩
          · exact Or.inl q
          · exact Or.inr ⟨by omega, q.2⟩
        · rintro (q | q)
          · exact Or.inr (Or.inl q)
          · by_cases w : x = e
            · exact Or.inl w
            · exact Or.inr (Or.inr ⟨by omega, q.2⟩))
      simp only [wY_mark_2, wY_mark_27, wY_mark_42, et_cl h1, et_ge h1, et_in h1, et_bo.1, forall_eq, nI_1, true_and, and_true, not_false_iff, not_true, true_implies, false_implies]
      by_cases a : t e = 0
      · exact br_t a (no (fun z => z.1 a))
      · refine br_f a ?_
        match sc, hsc with
        | 0, _ =>
          refine br_f (by decide) ?_
          by_cases b : nI e = nI c
          · exact br_t b (yes ⟨a, Or.inl ⟨by omega, et_inj h1 hc b⟩⟩)
          · refine br_f b (br_f (by decide) (br_f (by decide) (no ?_)))
            rintro ⟨_, q | q | q⟩
            · exact b (by rw [q.2])
            · exact absurd q.1 (by omega)
            · exact absurd q.1 (by omega)
        | 1, _ =>
          refine br_t rfl (br_t rfl ?_)
          by_cases b : par e = nI c
          · exact br_t b (yes ⟨a, Or.inr (Or.inl ⟨rfl, b⟩)⟩)
          · refine br_f b (br_f (by decide) (no ?_))
            rintro ⟨_, q | q | q⟩
            · exact q.1 rfl
            · exact b q.2
            · exact absurd q.1 (by omega)
        | 2, _ =>
          refine br_f (by decide) ?_
          by_cases b : nI e = nI c
          · exact br_t b (yes ⟨a, Or.inl ⟨by omega, et_inj h1 hc b⟩⟩)
          · refine br_f b (br_f (by decide) (br_t rfl (yw_below hT h1 a (fun w => br_f et_10 ?_) (fun w => br_t rfl ?_))))
            · exact yes ⟨a, Or.inr (Or.inr ⟨rfl, w⟩)⟩
            · refine no ?_
              rintro ⟨_, q | q | q⟩
              · exact b (by rw [q.2])
              · exact absurd q.1 (by omega)
              · exact w q.2
  exact ⟨49, key 48 0 49 ys rfl (by omega) (fun x hx => ⟨Or.inl, fun z => z.elim id (fun y => absurd y.1 (Nat.not_lt_zero _))⟩)⟩
theorem yw_loop {post : Int32 → SY → Prop} {b sc : Nat} {g : Int32} (hT : et_Tree t par) (hA : et_Al t al) (hb : b < 48) (hsc : sc < 3)
    (K : ∀ sr gn : Nat → Int32, et_J t par al sc True b sr gn → et_Jc al True b sr gn 48 → ∃ m, wY_search_240 post g m 0 0 zn zs t par nm al s se ru kd ya yn st sr gn fa) :
    ∀ f (sr gn : Nat → Int32), et_J t par al sc True b sr gn → (et_Jc al True b sr gn 48 → wY_search_128 post (nI sc) g (nI b) (f + 1) 0 zn zs t par nm al s se ru kd ya yn st sr gn fa) ∧ (48 - et_cn (fun e => ¬ gn e = 0) 48 ≤ f → wY_search_128 post (nI sc) g (nI b) (f + 2) 1 zn zs t par nm al s se ru kd ya yn st sr gn fa) := by
  intro f
  induction f with
  | zero =>
    intro sr gn J
    refine ⟨fun c => br_t rfl (K sr gn J c), fun z => ?_⟩
    exfalso
    have := et_cn_ltn (P := fun e => ¬ gn e = 0) b hb (fun y => (J.2.2.1 b hb y).2 rfl)
    omega
  | succ f IH =>
    intro sr gn J
    refine ⟨fun c => br_t rfl (K sr gn J c), fun z => br_f et_10 ?_⟩
    have key : ∀ d i m (x6 : Int32) (sr' gn' : Nat → Int32), i + d = 48 → d < m → et_J t par al sc True b sr' gn' →
        (x6 = 0 ∧ et_Jc al True b sr' gn' i ∧ et_cn (fun e => ¬ gn e = 0) 48 ≤ et_cn (fun e => ¬ gn' e = 0) 48 ∨ x6 = 1 ∧ et_cn (fun e => ¬ gn e = 0) 48 < et_cn (fun e => ¬ gn' e = 0) 48) →
        wY_search_139 post (wY_search_128 post (nI sc) g (nI b) (f + 2)) (nI sc) g (nI b) m x6 (nI i) zn zs t par nm al s se ru kd ya yn st sr' gn' fa := by
      intro d
      induction d with
      | zero =>
        intro i m x6 sr' gn' hi hm J' hx
        obtain ⟨m, rfl⟩ : ∃ y, m = y + 1 := ⟨m - 1, by omega⟩
        obtain rfl : i = 48 := by omega
        refine br_t et_le48 ?_
        rcases hx with ⟨rfl, hc, _⟩ | ⟨rfl, hc⟩
        · exact br_t rfl (K sr' gn' J' hc)
        · exact (IH sr' gn' J').2 (by omega)
      | succ d ih =>
        intro i m x6 sr' gn' hi hm J' hx
        obtain ⟨m, rfl⟩ : ∃ y, m = y + 1 := ⟨m - 1, by omega⟩
        have h1 : i < 48 := by omega
        have skip : (¬ sr' i = 0 → et_AA al True i → ¬ i = b → ¬ gn' i = 0) → wY_search_139 post (wY_search_128 post (nI sc) g (nI b) (f + 2)) (nI sc) g (nI b) m x6 (nI (i + 1)) zn zs t par nm al s se ru kd ya yn st sr' gn' fa := fun w => ih (i + 1) m x6 sr' gn' (by omega) (by omega) J' (hx.elim (fun y => Or.inl ⟨y.1, fun e he => by
          by_cases q : e = i
          · subst q; exact w
          · exact y.2.1 e (by omega), y.2.2⟩) Or.inr)
        simp only [wY_search_139, wY_search_222, et_cl h1, et_ge h1, et_in h1, et_bo.1, forall_eq, nI_1, true_and, and_true, not_false_iff, not_true, true_implies, false_implies]
        by_cases a1 : sr' i = 0
        · exact br_t a1 (skip (fun w => absurd a1 w))
        · refine br_f a1 ?_
          by_cases a2 : gn' i = 0
          · refine br_t a2 ?_
            by_cases a3 : al i = -1
            · exact yw_al_f h1 a3 (br_t rfl (skip (fun _ w => absurd a3 w.2)))
            · refine yw_al_t h1 a3 (br_f et_10 ?_)
              by_cases a4 : nI i = nI b
              · exact br_t a4 (skip (fun _ _ w => absurd (et_inj h1 hb a4) w))
              · have a5 : ¬ i = b := fun w => a4 (by rw [w])
                have ti : ¬ t i = 0 := et_MM_t (J'.1 i h1 a1)
                have cnt := et_cn_u h1 a2
                have go : ∀ sr2 : Nat → Int32, (∀ x, x < 48 → (¬ sr2 x = 0 ↔ ¬ sr' x = 0 ∨ ∃ c, et_LL al i c ∧ et_mw t par (et_sc sc) c x)) → wY_search_139 post (wY_search_128 post (nI sc) g (nI b) (f + 2)) (nI sc) g (nI b) m 1 (nI (i + 1)) zn zs t par nm al s se ru kd ya yn st sr2 (upd gn' i 1) fa := fun sr2 h2 =>
                  ih (i + 1) m 1 sr2 (upd gn' i 1) (by omega) (by omega) (et_J_s J' h1 a1 ⟨trivial, a3⟩ a5 h2) (Or.inr ⟨rfl, by
                    have l : et_cn (fun e => ¬ gn e = 0) 48 ≤ et_cn (fun e => ¬ gn' e = 0) 48 := hx.elim (fun y => y.2.2) (fun y => Nat.le_of_lt y.2)
                    omega⟩)
                refine br_f a4 (yw_leads hA h1 ti ?_)
                rcases et_ld_c hA 48 (nI i) (Or.inr ⟨i, h1, ti, rfl⟩) with q | ⟨c, hc, tc, ac, q⟩
                · refine br_t (by rw [q]; exact et_m1.2.2.1) (go sr' (fun x hx => ⟨Or.inl, fun w => w.elim id (fun ⟨c, hc, _⟩ => ?_)⟩))
                  exact (et_ne2 hc.1 (hc.2.symm.trans q)).elim
                · have uq : ∀ x, (∃ c', et_LL al i c' ∧ et_mw t par (et_sc sc) c' x) ↔ et_mw t par (et_sc sc) c x := fun x =>
                    ⟨fun ⟨c', h1', h2'⟩ => by rw [et_inj h1'.1 hc (h1'.2.symm.trans q)] at h2'; exact h2', fun w => ⟨c, ⟨hc, q⟩, w⟩⟩
                  rw [q]
                  refine br_f (et_nn hc) (br_c (fun w => ?_) (fun w => ?_))
                  · have s2 : sc = 2 := (nI_eq (a := sc) (b := 2) (by omega) (by omega)).mp w
                    have e2 : et_sc sc = 2 := if_pos s2
                    rw [e2] at go uq
                    refine yw_mark (sc := 2) hT hc (by omega) (fun sr2 h2 => ?_)
                    exact go sr2 (fun x hx => by rw [uq x]; exact h2 x hx)
                  · have s2 : ¬ sc = 2 := fun y => w (by rw [y]; rfl)
                    have e2 : et_sc sc = 0 := if_neg s2
                    rw [e2] at go uq
                    refine yw_mark (sc := 0) hT hc (by omega) (fun sr2 h2 => ?_)
                    exact go sr2 (fun x hx => by rw [uq x]; exact h2 x hx)
          · exact br_f a2 (skip (fun _ _ _ => a2))
    exact ⟨49, key 48 0 49 0 sr gn rfl (by omega) J (Or.inl ⟨rfl, fun e he => absurd he (Nat.not_lt_zero _), Nat.le_refl _⟩)⟩
end
