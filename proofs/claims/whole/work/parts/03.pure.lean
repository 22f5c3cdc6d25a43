/-! where an alias leads -/
def et_ld (al : Nat → Int32) : Nat → Int32 → Int32
  | 0, _ => -2
  | f + 1, x => if x < 0 then -2 else if al x.toNatClampNeg = -1 then x else et_ld al f (al x.toNatClampNeg)
def et_Al (t al : Nat → Int32) : Prop := ∀ e, e < 48 → ¬ t e = 0 → al e = -1 ∨ al e = -2 ∨ ∃ a, a < 48 ∧ ¬ t a = 0 ∧ al e = nI a
def et_vx (t : Nat → Int32) (x : Int32) : Prop := x = -2 ∨ ∃ a, a < 48 ∧ ¬ t a = 0 ∧ x = nI a
theorem et_vx_s {t al : Nat → Int32} (h : et_Al t al) {e : Nat} (he : e < 48) (te : ¬ t e = 0) (ha : ¬ al e = -1) : et_vx t (al e) :=
  (h e he te).elim (fun z => absurd z ha) id
theorem et_ld_n {al : Nat → Int32} : ∀ f x, x < 0 → et_ld al f x = -2
  | 0, _, _ => rfl
  | _ + 1, _, h => if_pos h
theorem et_ld_e {al : Nat → Int32} {f e : Nat} (he : e < 48) (ha : al e = -1) : et_ld al (f + 1) (nI e) = nI e := by
  simp only [et_ld]
  rw [if_neg (et_nn he), et_cl he, if_pos ha]
theorem et_ld_s {al : Nat → Int32} {f e : Nat} (he : e < 48) (ha : ¬ al e = -1) : et_ld al (f + 1) (nI e) = et_ld al f (al e) := by
  simp only [et_ld]
  rw [if_neg (et_nn he), et_cl he, if_neg ha]
theorem et_ld_c {t al : Nat → Int32} (h : et_Al t al) : ∀ f x, et_vx t x → et_ld al f x = -2 ∨ ∃ a, a < 48 ∧ ¬ t a = 0 ∧ al a = -1 ∧ et_ld al f x = nI a
  | 0, _, _ => Or.inl rfl
  | f + 1, x, hx => by
    rcases hx with hx | ⟨e, he, te, hx⟩
    · exact Or.inl (et_ld_n _ _ (by rw [hx]; exact et_m1.2.2.1))
    · subst hx
      by_cases ha : al e = -1
      · exact Or.inr ⟨e, he, te, ha, et_ld_e he ha⟩
      · rw [et_ld_s he ha]
        exact et_ld_c h f _ (et_vx_s h he te ha)
def et_q (al : Nat → Int32) (x : Int32) : Nat → Int32
  | 0 => x
  | i + 1 => al (et_q al x i).toNatClampNeg
theorem et_q_sh {al : Nat → Int32} {x : Int32} : ∀ i, et_q al (al x.toNatClampNeg) i = et_q al x (i + 1)
  | 0 => rfl
  | i + 1 => by
    show al (et_q al (al x.toNatClampNeg) i).toNatClampNeg = _
    rw [et_q_sh i]
    rfl
theorem et_q_p {al : Nat → Int32} {x : Int32} {i j : Nat} (h : et_q al x i = et_q al x j) : ∀ m, et_q al x (i + m) = et_q al x (j + m)
  | 0 => h
  | m + 1 => by
    show al (et_q al x (i + m)).toNatClampNeg = al (et_q al x (j + m)).toNatClampNeg
    rw [et_q_p h m]
theorem et_ld_d {t al : Nat → Int32} (h : et_Al t al) : ∀ f x, et_vx t x → ¬ et_ld al (f + 1) x = et_ld al f x →
    (∀ i, i ≤ f → ∃ a, a < 48 ∧ et_q al x i = nI a) ∧ (∀ i, i < f → ¬ al (et_q al x i).toNatClampNeg = -1) ∧ al (et_q al x f).toNatClampNeg = -1
  | f, x, hx, hd => by
    rcases hx with hx | ⟨e, he, te, hx⟩
    · have hn : x < 0 := by rw [hx]; exact et_m1.2.2.1
      rw [et_ld_n _ _ hn, et_ld_n _ _ hn] at hd
      exact (hd rfl).elim
    · subst hx
      match f with
      | 0 =>
        by_cases ha : al e = -1
        · refine ⟨fun i hi => ⟨e, he, ?_⟩, fun i hi => absurd hi (Nat.not_lt_zero _), ?_⟩
          · have : i = 0 := by omega
            subst this
            rfl
          · show al (nI e).toNatClampNeg = -1
            rw [et_cl he]
            exact ha
        · rw [et_ld_s he ha] at hd
          exact (hd rfl).elim
      | f + 1 =>
        by_cases ha : al e = -1
        · rw [et_ld_e he ha, et_ld_e he ha] at hd
          exact (hd rfl).elim
        · rw [et_ld_s he ha, et_ld_s he ha] at hd
          obtain ⟨h1, h2, h3⟩ := et_ld_d h f _ (et_vx_s h he te ha) hd
          have hs : ∀ i, et_q al (al e) i = et_q al (nI e) (i + 1) := by
            intro i
            rw [← et_q_sh i, et_cl he]
          refine ⟨fun i hi => ?_, fun i hi => ?_, ?_⟩
          · match i with
            | 0 => exact ⟨e, he, rfl⟩
            | i + 1 => rw [← hs]; exact h1 i (by omega)
          · match i with
            | 0 =>
              show ¬ al (nI e).toNatClampNeg = -1
              rw [et_cl he]
              exact ha
            | i + 1 => rw [← hs]; exact h2 i (by omega)
          · rw [← hs]; exact h3
theorem et_ld_up {t al : Nat → Int32} (h : et_Al t al) {f : Nat} (hf : 48 ≤ f) {x : Int32} (hx : et_vx t x) : et_ld al (f + 1) x = et_ld al f x := by
  apply Classical.byContradiction
  intro hd
  obtain ⟨h1, h2, h3⟩ := et_ld_d h f x hx hd
  obtain ⟨i, j, hij, hj, he⟩ := et_pig (fun i => (et_q al x i).toNatClampNeg) 48 (fun i hi => by
    obtain ⟨a, ha, e⟩ := h1 i (by omega)
    show (et_q al x i).toNatClampNeg < 48
    rw [e, et_cl ha]
    exact ha)
  have e2 : et_q al x i = et_q al x j := by
    obtain ⟨a, ha, ea⟩ := h1 i (by omega)
    obtain ⟨b, hb, eb⟩ := h1 j (by omega)
    have e3 : (et_q al x i).toNatClampNeg = (et_q al x j).toNatClampNeg := he
    rw [ea, eb, et_cl ha, et_cl hb] at e3
    rw [ea, eb, e3]
  have e4 := et_q_p e2 (f - j)
  rw [show j + (f - j) = f from by omega] at e4
  have := h2 (i + (f - j)) (by omega)
  rw [e4] at this
  exact this h3
theorem et_ld_50 {t al : Nat → Int32} (h : et_Al t al) {x : Int32} (hx : et_vx t x) : et_ld al 50 x = et_ld al 48 x :=
  (et_ld_up h (f := 49) (by omega) hx).trans (et_ld_up h (f := 48) (by omega) hx)
/-! one expression: from the end, and from the front -/
def et_fx (op : Nat → Nat) : Nat → Nat → Prop
  | 0, h => h = 1
  | j + 1, h => op j ≤ h ∧ et_fx op j (h - op j + 1)
def et_fy (op : Nat → Nat) (n : Nat) : Nat → Nat → Prop
  | 0, m => m = 0
  | r + 1, m => ¬ m = 0 ∧ et_fy op n r (m + op (n - (r + 1)) - 1)
def et_su (op : Nat → Nat) : Nat → Int
  | 0 => 0
  | k + 1 => et_su op k + (op k : Int) - 1
theorem et_fx_s {op : Nat → Nat} : ∀ j h, et_fx op j h ↔ ((∀ i, i < j → (h : Int) - (et_su op j - et_su op i) ≥ 1) ∧ (h : Int) - et_su op j = 1)
  | 0, h => by
    simp only [et_fx, et_su]
    exact ⟨fun z => ⟨fun i hi => absurd hi (Nat.not_lt_zero _), by omega⟩, fun z => by omega⟩
  | j + 1, h => by
    simp only [et_fx]
    rw [et_fx_s j]
    simp only [et_su]
    constructor
    · rintro ⟨a, b, c⟩
      refine ⟨fun i hi => ?_, by omega⟩
      by_cases e : i = j
      · subst e; omega
      · have := b i (by omega)
        omega
    · rintro ⟨b, c⟩
      have a := b j (by omega)
      have a' : op j ≤ h := by omega
      refine ⟨a', fun i hi => ?_, by omega⟩
      have := b i (by omega)
      omega
theorem et_fy_s {op : Nat → Nat} {n : Nat} : ∀ r m, r ≤ n → (et_fy op n r m ↔ ((∀ i, n - r ≤ i → i < n → (m : Int) + (et_su op i - et_su op (n - r)) ≥ 1) ∧ (m : Int) + et_su op n - et_su op (n - r) = 0))
  | 0, m, _ => by
    simp only [et_fy]
    rw [Nat.sub_zero]
    exact ⟨fun z => ⟨fun i h1 h2 => absurd h2 (by omega), by omega⟩, fun z => by omega⟩
  | r + 1, m, hr => by
    simp only [et_fy]
    rw [et_fy_s r _ (by omega)]
    have e1 : n - r = (n - (r + 1)) + 1 := by omega
    rw [e1]
    simp only [et_su]
    generalize hk : n - (r + 1) = k
    constructor
    · rintro ⟨a, b, c⟩
      refine ⟨fun i h1 h2 => ?_, by omega⟩
      by_cases e : i = k
      · subst e; omega
      · have := b i (by omega) h2
        omega
    · rintro ⟨b, c⟩
      have a := b k (by omega) (by omega)
      have a' : ¬ m = 0 := by omega
      refine ⟨a', fun i h1 h2 => ?_, by omega⟩
      have := b i (by omega) h2
      omega
theorem et_fxy {op : Nat → Nat} (n : Nat) : et_fx op n 0 ↔ et_fy op n n 1 := by
  rw [et_fx_s, et_fy_s n 1 (Nat.le_refl _), Nat.sub_self]
  simp only [et_su]
  constructor
  · rintro ⟨a, b⟩
    refine ⟨fun i _ h2 => ?_, by omega⟩
    have := a i h2
    omega
  · rintro ⟨a, b⟩
    refine ⟨fun i h2 => ?_, by omega⟩
    have := a i (Nat.zero_le _) h2
    omega
/-! what changed since when -/
def et_S (t s : Nat → Int32) (after : Int32) (e : Nat) : Prop := e < 48 ∧ ¬ t e = 0 ∧ after < s e
noncomputable def et_ct (t s : Nat → Int32) (after : Int32) (e : Nat) : Nat := et_cn (fun o => ¬ t o = 0 ∧ after < s o ∧ s o < s e) 48
def et_Dis (t s : Nat → Int32) : Prop := ∀ a b, a < 48 → b < 48 → ¬ t a = 0 → ¬ t b = 0 → s a = s b → a = b
def et_Nx (t s : Nat → Int32) (after : Int32) (N : Nat) (r : Int32) : Prop :=
  (r = -1 ∧ ∀ e, e < N → ¬ t e = 0 → ¬ after < s e) ∨ ∃ m, m < N ∧ r = nI m ∧ ¬ t m = 0 ∧ after < s m ∧ ∀ e, e < N → ¬ t e = 0 → after < s e → s m ≤ s e
def et_Ch (t s : Nat → Int32) (after : Int32) (p : Nat) (r : Int32) : Prop :=
  (r = -1 ∧ ∀ x, et_S t s after x → et_ct t s after x < p) ∨ ∃ m, et_S t s after m ∧ r = nI m ∧ et_ct t s after m = p
theorem et_lt {x y : Int32} : x < y ↔ x.toInt < y.toInt := Int32.lt_iff_toInt_lt
theorem et_le {x y : Int32} : x ≤ y ↔ x.toInt ≤ y.toInt := Int32.le_iff_toInt_le
theorem et_ct_lt {t s : Nat → Int32} {after : Int32} {e : Nat} (he : e < 48) : et_ct t s after e < 48 :=
  et_cn_ltn e he (fun z => Int32.lt_irrefl z.2.2)
theorem et_ct_m {t s : Nat → Int32} {after : Int32} {a b : Nat} (h : s a ≤ s b) : et_ct t s after a ≤ et_ct t s after b :=
  et_cn_mono fun k _ z => ⟨z.1, z.2.1, by have := z.2.2; rw [et_lt] at *; rw [et_le] at h; omega⟩
theorem et_ct_s {t s : Nat → Int32} {after : Int32} {a b : Nat} (ha : et_S t s after a) (h : s a < s b) : et_ct t s after a < et_ct t s after b :=
  et_cn_lt (fun k _ z => ⟨z.1, z.2.1, by have := z.2.2; rw [et_lt] at *; omega⟩) a ha.1 (fun z => Int32.lt_irrefl z.2.2) ⟨ha.2.1, ha.2.2, h⟩
theorem et_ct_i {t s : Nat → Int32} {after : Int32} (hD : et_Dis t s) {a b : Nat} (ha : et_S t s after a) (hb : et_S t s after b) (h : et_ct t s after a = et_ct t s after b) : a = b := by
  apply hD a b ha.1 hb.1 ha.2.1 hb.2.1
  apply Int32.toInt_inj.mp
  rcases Int.lt_trichotomy (s a).toInt (s b).toInt with q | q | q
  · have := et_ct_s ha (et_lt.mpr q); omega
  · exact q
  · have := et_ct_s hb (et_lt.mpr q); omega
theorem et_ch0 {t s : Nat → Int32} {after r : Int32} (h : et_Nx t s after 48 r) : et_Ch t s after 0 r := by
  rcases h with ⟨h1, h2⟩ | ⟨m, h1, h2, h3, h4, h5⟩
  · exact Or.inl ⟨h1, fun x hx => absurd hx.2.2 (h2 x hx.1 hx.2.1)⟩
  · refine Or.inr ⟨m, ⟨h1, h3, h4⟩, h2, et_cn_0 fun k hk z => ?_⟩
    have a := h5 k hk z.1 z.2.1
    have b := z.2.2
    rw [et_le] at a
    rw [et_lt] at b
    omega
theorem et_ch_s {t s : Nat → Int32} {after r : Int32} (hD : et_Dis t s) {m p : Nat} (hm : et_S t s after m) (hp : et_ct t s after m = p) (h : et_Nx t s (s m) 48 r) : et_Ch t s after (p + 1) r := by
  rcases h with ⟨h1, h2⟩ | ⟨q, h1, h2, h3, h4, h5⟩
  · refine Or.inl ⟨h1, fun x hx => ?_⟩
    have a := h2 x hx.1 hx.2.1
    have b : s x ≤ s m := by rw [et_lt] at a; rw [et_le]; omega
    have := et_ct_m (t := t) (after := after) b
    omega
  · have hq : after < s q := by have := hm.2.2; rw [et_lt] at *; omega
    refine Or.inr ⟨q, ⟨h1, h3, hq⟩, h2, ?_⟩
    have e : et_ct t s after q = et_cn (fun i => i = m ∨ (¬ t i = 0 ∧ after < s i ∧ s i < s m)) 48 := by
      apply et_cn_congr
      intro k hk
      constructor
      · rintro ⟨z1, z2, z3⟩
        by_cases c : s m < s k
        · have := h5 k hk z1 c
          rw [et_le] at this
          rw [et_lt] at z3
          omega
        · by_cases c2 : s k = s m
          · exact Or.inl (hD k m hk hm.1 z1 hm.2.1 c2)
          · refine Or.inr ⟨z1, z2, ?_⟩
            have c3 : ¬ (s k).toInt = (s m).toInt := fun z => c2 (Int32.toInt_inj.mp z)
            rw [et_lt] at *
            omega
      · rintro (z | ⟨z1, z2, z3⟩)
        · subst z
          exact ⟨hm.2.1, hm.2.2, h4⟩
        · exact ⟨z1, z2, by rw [et_lt] at *; omega⟩
    rw [e, et_cn_ins m hm.1 (fun z => Int32.lt_irrefl z.2.2)]
    exact congrArg (· + 1) hp
/-! what a search goes through: the least set -/
def et_Cl (B : Nat → Prop) (W : Nat → Nat → Prop) (A : Nat → Prop) (L : Nat → Nat → Prop) (b : Nat) (S : Nat → Prop) : Prop :=
  (∀ x, x < 48 → B x → S x) ∧ ∀ e t, e < 48 → S e → A e → ¬ e = b → L e t → ∀ x, x < 48 → W x t → S x
def et_M (B : Nat → Prop) (W : Nat → Nat → Prop) (A : Nat → Prop) (L : Nat → Nat → Prop) (b x : Nat) : Prop := ∀ S, et_Cl B W A L b S → S x
theorem et_M_b {B : Nat → Prop} {W : Nat → Nat → Prop} {A : Nat → Prop} {L : Nat → Nat → Prop} {b x : Nat} (hx : x < 48) (h : B x) : et_M B W A L b x := fun _ hS => hS.1 x hx h
theorem et_M_s {B : Nat → Prop} {W : Nat → Nat → Prop} {A : Nat → Prop} {L : Nat → Nat → Prop} {b x e t : Nat} (he : e < 48) (hM : et_M B W A L b e) (hA : A e) (hb : ¬ e = b) (hL : L e t) (hx : x < 48) (h : W x t) : et_M B W A L b x :=
  fun S hS => hS.2 e t he (hM S hS) hA hb hL x hx h
def et_F (B : Nat → Prop) (W : Nat → Nat → Prop) (A : Nat → Prop) (L : Nat → Nat → Prop) (b x : Nat) : Prop := et_M B W A L b x ∧ ¬ (A x ∧ ¬ x = b)
