/-! counting -/
noncomputable def et_b (P : Prop) : Nat := @ite Nat P (Classical.propDecidable P) 1 0
theorem et_b_t {P : Prop} (h : P) : et_b P = 1 := by unfold et_b; rw [if_pos h]
theorem et_b_f {P : Prop} (h : ¬ P) : et_b P = 0 := by unfold et_b; rw [if_neg h]
theorem et_b_le (P : Prop) : et_b P ≤ 1 := by
  rcases Classical.em P with h | h
  · rw [et_b_t h]; omega
  · rw [et_b_f h]; omega
theorem et_b_mono {P Q : Prop} (h : P → Q) : et_b P ≤ et_b Q := by
  rcases Classical.em P with hp | hp
  · rw [et_b_t hp, et_b_t (h hp)]; omega
  · rw [et_b_f hp]; omega
theorem et_b_iff {P Q : Prop} (h : P ↔ Q) : et_b P = et_b Q := Nat.le_antisymm (et_b_mono h.mp) (et_b_mono h.mpr)
noncomputable def et_cn (P : Nat → Prop) : Nat → Nat
  | 0 => 0
  | k + 1 => et_cn P k + et_b (P k)
theorem et_cn_le (P : Nat → Prop) : ∀ n, et_cn P n ≤ n
  | 0 => Nat.le_refl _
  | n + 1 => Nat.add_le_add (et_cn_le P n) (et_b_le _)
theorem et_cn_mono {P Q : Nat → Prop} : ∀ {n : Nat}, (∀ k, k < n → P k → Q k) → et_cn P n ≤ et_cn Q n
  | 0, _ => Nat.le_refl _
  | n + 1, h => Nat.add_le_add (et_cn_mono fun k hk => h k (Nat.lt_succ_of_lt hk)) (et_b_mono (h n (Nat.lt_succ_self n)))
theorem et_cn_congr {P Q : Nat → Prop} {n : Nat} (h : ∀ k, k < n → (P k ↔ Q k)) : et_cn P n = et_cn Q n :=
  Nat.le_antisymm (et_cn_mono fun k hk => (h k hk).mp) (et_cn_mono fun k hk => (h k hk).mpr)
theorem et_cn_lt {P Q : Nat → Prop} : ∀ {n : Nat}, (∀ k, k < n → P k → Q k) → ∀ j, j < n → ¬ P j → Q j → et_cn P n < et_cn Q n
  | 0, _, _, hj, _, _ => absurd hj (Nat.not_lt_zero _)
  | n + 1, h, j, hj, hp, hq => by
    have m := et_b_mono (h n (Nat.lt_succ_self n))
    simp only [et_cn]
    by_cases e : j = n
    · subst e
      have a : et_cn P j ≤ et_cn Q j := et_cn_mono fun k hk => h k (Nat.lt_succ_of_lt hk)
      rw [et_b_f hp, et_b_t hq]
      omega
    · have a := et_cn_lt (n := n) (fun k hk => h k (Nat.lt_succ_of_lt hk)) j (by omega) hp hq
      omega
theorem et_cn_ltn {P : Nat → Prop} {n : Nat} (j : Nat) (hj : j < n) (h : ¬ P j) : et_cn P n < n :=
  Nat.lt_of_lt_of_le (et_cn_lt (Q := fun _ => True) (fun _ _ _ => trivial) j hj h trivial) (et_cn_le _ _)
theorem et_cn_ins {P : Nat → Prop} : ∀ {n : Nat} (j : Nat), j < n → ¬ P j → et_cn (fun i => i = j ∨ P i) n = et_cn P n + 1
  | 0, _, hj, _ => absurd hj (Nat.not_lt_zero _)
  | n + 1, j, hj, h => by
    simp only [et_cn]
    by_cases e : j = n
    · subst e
      have a : et_cn (fun i => i = j ∨ P i) j = et_cn P j :=
        et_cn_congr fun k hk => ⟨fun z => z.elim (fun q => absurd q (by omega)) id, Or.inr⟩
      rw [a, et_b_t (Or.inl rfl), et_b_f h]
    · have a := et_cn_ins (P := P) (n := n) j (by omega) h
      have b : et_b (n = j ∨ P n) = et_b (P n) := et_b_iff ⟨fun z => z.elim (fun q => absurd q.symm e) id, Or.inr⟩
      rw [a, b]
      omega
theorem et_cn_0 {P : Nat → Prop} : ∀ {n : Nat}, (∀ k, k < n → ¬ P k) → et_cn P n = 0
  | 0, _ => rfl
  | n + 1, h => by
    simp only [et_cn]
    rw [et_cn_0 (n := n) (fun k hk => h k (Nat.lt_succ_of_lt hk)), et_b_f (h n (Nat.lt_succ_self n))]
theorem et_cn_m {P : Nat → Prop} : ∀ {a b : Nat}, a ≤ b → et_cn P a ≤ et_cn P b
  | a, 0, h => by
    have : a = 0 := by omega
    subst this
    exact Nat.le_refl _
  | a, b + 1, h => by
    by_cases e : a = b + 1
    · subst e; exact Nat.le_refl _
    · exact Nat.le_trans (et_cn_m (a := a) (b := b) (by omega)) (Nat.le_add_right _ _)
theorem et_pig (f : Nat → Nat) (N : Nat) (h : ∀ i, i ≤ N → f i < N) : ∃ i j, i < j ∧ j ≤ N ∧ f i = f j := by
  apply Classical.byContradiction
  intro hn
  have key : ∀ k, k ≤ N + 1 → ∃ P : Nat → Prop, et_cn P N = k ∧ ∀ v, P v → ∃ i, i < k ∧ f i = v := by
    intro k
    induction k with
    | zero => exact fun _ => ⟨fun _ => False, et_cn_0 (fun _ _ => id), fun _ z => z.elim⟩
    | succ k ih =>
      intro hk
      obtain ⟨P, h1, h2⟩ := ih (by omega)
      have hf : ¬ P (f k) := by
        intro hp
        obtain ⟨i, hi, he⟩ := h2 _ hp
        exact hn ⟨i, k, hi, by omega, he⟩
      refine ⟨fun i => i = f k ∨ P i, by rw [et_cn_ins (f k) (h k (by omega)) hf, h1], fun v hv => ?_⟩
      rcases hv with hv | hv
      · exact ⟨k, by omega, hv.symm⟩
      · obtain ⟨i, hi, he⟩ := h2 v hv
        exact ⟨i, by omega, he⟩
  obtain ⟨P, h1, _⟩ := key (N + 1) (Nat.le_refl _)
  have := et_cn_le P N
  omega
/-! numbers -/
theorem et_m1 : ¬ ((-1 : Int32) = 0) ∧ (-1 : Int32) < 0 ∧ (-2 : Int32) < 0 ∧ ¬ ((-1 : Int32) = -2) := by decide
theorem et_nn {e : Nat} (h : e < 48) : ¬ nI e < 0 := nI_pos (by omega)
theorem et_ne1 {e : Nat} (h : e < 48) : ¬ nI e = -1 := fun z => et_nn h (by rw [z]; exact et_m1.2.1)
theorem et_ne2 {e : Nat} (h : e < 48) : ¬ nI e = -2 := fun z => et_nn h (by rw [z]; exact et_m1.2.2.1)
theorem et_cl {e : Nat} (h : e < 48) : (nI e).toNatClampNeg = e := nI_clamp (by omega)
theorem et_inj {a b : Nat} (ha : a < 48) (hb : b < 48) (h : nI a = nI b) : a = b := (nI_eq (by omega) (by omega)).mp h
/-! the tree -/
def et_ok (t par : Nat → Int32) : Nat → Int32 → Prop
  | 0, x => x = -1
  | f + 1, x => x = -1 ∨ ∃ e, e < 48 ∧ ¬ t e = 0 ∧ x = nI e ∧ et_ok t par f (par e)
theorem et_ok_m1 {t par : Nat → Int32} : ∀ f, et_ok t par f (-1)
  | 0 => rfl
  | _ + 1 => Or.inl rfl
theorem et_ok_up {t par : Nat → Int32} : ∀ f x, et_ok t par f x → et_ok t par (f + 1) x
  | 0, _, h => Or.inl h
  | f + 1, _, h => h.elim Or.inl (fun ⟨e, h1, h2, h3, h4⟩ => Or.inr ⟨e, h1, h2, h3, et_ok_up f _ h4⟩)
def et_Rk (t par : Nat → Int32) (d : Nat → Nat) : Prop := ∀ e, e < 48 → ¬ t e = 0 → ¬ e = 0 → ∃ p, p < 48 ∧ ¬ t p = 0 ∧ par e = nI p ∧ d p < d e
def et_Tree (t par : Nat → Int32) : Prop := ¬ t 0 = 0 ∧ par 0 = -1 ∧ ∃ d : Nat → Nat, et_Rk t par d
theorem et_Tree_rk {t par : Nat → Int32} (h : et_Tree t par) : ∃ d : Nat → Nat, et_Rk t par d ∧ ∀ e, e < 48 → ¬ t e = 0 → d e < 48 := by
  obtain ⟨h0, h1, d, hd⟩ := h
  refine ⟨fun e => et_cn (fun x => ¬ t x = 0 ∧ d x < d e) 48, fun e he te e0 => ?_, fun e he te => ?_⟩
  · obtain ⟨p, hp, tp, pe, dp⟩ := hd e he te e0
    exact ⟨p, hp, tp, pe, et_cn_lt (fun k _ hk => ⟨hk.1, Nat.lt_trans hk.2 dp⟩) p hp (fun z => Nat.lt_irrefl _ z.2) ⟨tp, dp⟩⟩
  · exact et_cn_ltn e he (fun z => Nat.lt_irrefl _ z.2)
theorem et_rk_ok {t par : Nat → Int32} {d : Nat → Nat} (h1 : par 0 = -1) (hd : et_Rk t par d) : ∀ f e, e < 48 → ¬ t e = 0 → d e < f → et_ok t par f (nI e)
  | 0, _, _, _, h => absurd h (Nat.not_lt_zero _)
  | f + 1, e, he, te, h => by
    refine Or.inr ⟨e, he, te, rfl, ?_⟩
    by_cases e0 : e = 0
    · subst e0; rw [h1]; exact et_ok_m1 f
    · obtain ⟨p, hp, tp, pe, dp⟩ := hd e he te e0
      rw [pe]
      exact et_rk_ok h1 hd f p hp tp (by omega)
theorem et_Tree_par {t par : Nat → Int32} (h : et_Tree t par) {e : Nat} (he : e < 48) (te : ¬ t e = 0) : et_ok t par 47 (par e) := by
  obtain ⟨d, hd, hb⟩ := et_Tree_rk h
  by_cases e0 : e = 0
  · subst e0; rw [h.2.1]; exact et_ok_m1 _
  · obtain ⟨p, hp, tp, pe, dp⟩ := hd e he te e0
    rw [pe]
    have := hb e he te
    exact et_rk_ok h.2.1 hd 47 p hp tp (by omega)
theorem et_Tree_ok {t par : Nat → Int32} (h : et_Tree t par) {e : Nat} (he : e < 48) (te : ¬ t e = 0) : et_ok t par 48 (nI e) :=
  Or.inr ⟨e, he, te, rfl, et_Tree_par h he te⟩
def et_wi (par : Nat → Int32) (top : Int32) : Nat → Int32 → Prop
  | 0, _ => False
  | f + 1, x => ¬ x < 0 ∧ (x = top ∨ et_wi par top f (par x.toNatClampNeg))
theorem et_wi_m1 {par : Nat → Int32} {top : Int32} : ∀ f, ¬ et_wi par top f (-1)
  | 0 => id
  | _ + 1 => fun z => z.1 et_m1.2.1
theorem et_wi_e {par : Nat → Int32} {top : Int32} {f e : Nat} (he : e < 48) : et_wi par top (f + 1) (nI e) ↔ nI e = top ∨ et_wi par top f (par e) := by
  simp only [et_wi]
  rw [et_cl he]
  exact ⟨fun z => z.2, fun z => ⟨et_nn he, z⟩⟩
theorem et_wi_up {t par : Nat → Int32} {top : Int32} : ∀ f x, et_ok t par f x → (et_wi par top (f + 1) x ↔ et_wi par top f x)
  | 0, x, h => by
    have hx : x = -1 := h
    subst hx
    exact ⟨fun z => (et_wi_m1 _ z).elim, fun z => (et_wi_m1 _ z).elim⟩
  | f + 1, x, h => by
    rcases h with h | ⟨e, he, te, hx, hk⟩
    · subst h
      exact ⟨fun z => (et_wi_m1 _ z).elim, fun z => (et_wi_m1 _ z).elim⟩
    · subst hx
      rw [et_wi_e he, et_wi_e he, et_wi_up f _ hk]
theorem et_wi_rank {t par : Nat → Int32} {top : Int32} {d : Nat → Nat} (h1 : par 0 = -1) (hd : et_Rk t par d) : ∀ f e, e < 48 → ¬ t e = 0 → et_wi par top f (nI e) → ∃ b, b < 48 ∧ ¬ t b = 0 ∧ top = nI b ∧ d b ≤ d e
  | 0, _, _, _, h => h.elim
  | f + 1, e, he, te, h => by
    rcases (et_wi_e he).mp h with h | h
    · exact ⟨e, he, te, h.symm, Nat.le_refl _⟩
    · by_cases e0 : e = 0
      · subst e0; rw [h1] at h; exact (et_wi_m1 _ h).elim
      · obtain ⟨p, hp, tp, pe, dp⟩ := hd e he te e0
        rw [pe] at h
        obtain ⟨b, hb, tb, eb, db⟩ := et_wi_rank h1 hd f p hp tp h
        exact ⟨b, hb, tb, eb, by omega⟩
theorem et_below_self {t par : Nat → Int32} (h : et_Tree t par) {e : Nat} (he : e < 48) (te : ¬ t e = 0) : ¬ et_wi par (nI e) 47 (par e) := by
  intro hw
  obtain ⟨_, h1, d, hd⟩ := h
  by_cases e0 : e = 0
  · subst e0; rw [h1] at hw; exact et_wi_m1 _ hw
  · obtain ⟨p, hp, tp, pe, dp⟩ := hd e he te e0
    rw [pe] at hw
    obtain ⟨b, hb, tb, eb, db⟩ := et_wi_rank h1 hd 47 p hp tp hw
    have := et_inj he hb eb
    subst this
    omega
theorem et_Tree_add {t par : Nat → Int32} (h : et_Tree t par) {e p : Nat} (hf : t e = 0) (hp : p < 48) (tp : ¬ t p = 0) : et_Tree (upd t e 1) (upd par e (nI p)) := by
  obtain ⟨h0, h1, d, hd⟩ := h
  have e0 : 0 ≠ e := fun z => h0 (z ▸ hf)
  refine ⟨by rw [pk_un e0]; exact h0, by rw [pk_un e0]; exact h1, fun x => if x = e then d p + 1 else d x, fun x hx tx x0 => ?_⟩
  by_cases hxe : x = e
  · subst hxe
    have hpe : p ≠ x := fun z => tp (z ▸ hf)
    refine ⟨p, hp, by rw [pk_un hpe]; exact tp, pk_us, ?_⟩
    simp only [if_neg hpe, if_true]
    omega
  · rw [pk_un hxe] at tx
    obtain ⟨q, hq, tq, pq, dq⟩ := hd x hx tx x0
    have hqe : q ≠ e := fun z => tq (z ▸ hf)
    refine ⟨q, hq, by rw [pk_un hqe]; exact tq, by rw [pk_un hxe]; exact pq, ?_⟩
    simp only [if_neg hqe, if_neg hxe]
    exact dq
theorem et_Tree_rem {t par : Nat → Int32} (h : et_Tree t par) {e : Nat} (he : ¬ e = 0) (hn : ∀ x, x < 48 → ¬ t x = 0 → ¬ par x = nI e) : et_Tree (upd t e 0) par := by
  obtain ⟨h0, h1, d, hd⟩ := h
  refine ⟨by rw [pk_un (fun z => he z.symm)]; exact h0, h1, d, fun x hx tx x0 => ?_⟩
  by_cases hxe : x = e
  · subst hxe; exact (tx pk_us).elim
  · rw [pk_un hxe] at tx
    obtain ⟨q, hq, tq, pq, dq⟩ := hd x hx tx x0
    have hqe : q ≠ e := fun z => hn x hx tx (z ▸ pq)
    exact ⟨q, hq, by rw [pk_un hqe]; exact tq, pq, dq⟩
theorem et_Tree_mov {t par : Nat → Int32} (h : et_Tree t par) {e p : Nat} (he : e < 48) (e0 : ¬ e = 0) (hp : p < 48) (tp : ¬ t p = 0)
    (hpe : ¬ nI p = nI e) (hw : ¬ et_wi par (nI e) 47 (par p)) : et_Tree t (upd par e (nI p)) := by
  have hT := h
  obtain ⟨h0, h1, d, hd⟩ := h
  have P : ∀ x, x < 48 → ¬ t x = 0 → ¬ x = e → ∀ y, y < 48 → ¬ t y = 0 → par x = nI y → (et_wi par (nI e) 48 (nI x) ↔ et_wi par (nI e) 48 (nI y)) := by
    intro x hx tx xe y hy ty pxy
    rw [et_wi_e hx, pxy]
    have hy47 : et_ok t par 47 (nI y) := pxy ▸ et_Tree_par hT hx tx
    rw [et_wi_up 47 _ hy47]
    exact ⟨fun z => z.elim (fun q => absurd (et_inj hx he q) xe) id, Or.inr⟩
  have wp : ¬ et_wi par (nI e) 48 (nI p) := fun z => ((et_wi_e hp).mp z).elim hpe hw
  have we : et_wi par (nI e) 48 (nI e) := (et_wi_e he).mpr (Or.inl rfl)
  have ne : (0 : Nat) ≠ e := fun z => e0 z.symm
  refine ⟨h0, by rw [pk_un ne]; exact h1, fun x => d x + (d p + 1) * et_b (et_wi par (nI e) 48 (nI x)), fun x hx tx x0 => ?_⟩
  by_cases xe : x = e
  · subst xe
    refine ⟨p, hp, tp, pk_us, ?_⟩
    show d p + (d p + 1) * et_b (et_wi par (nI x) 48 (nI p)) < d x + (d p + 1) * et_b (et_wi par (nI x) 48 (nI x))
    rw [et_b_f wp, et_b_t we]
    omega
  · obtain ⟨q, hq, tq, pq, dq⟩ := hd x hx tx x0
    refine ⟨q, hq, tq, by rw [pk_un xe]; exact pq, ?_⟩
    show d q + (d p + 1) * et_b (et_wi par (nI e) 48 (nI q)) < d x + (d p + 1) * et_b (et_wi par (nI e) 48 (nI x))
    rw [et_b_iff (P x hx tx xe q hq tq pq)]
    omega
theorem et_least (P : Nat → Prop) (h : ∃ k, P k) : ∃ k, P k ∧ ∀ j, j < k → ¬ P j := by
  obtain ⟨k, hk⟩ := h
  induction k using Nat.strongRecOn with
  | ind k ih =>
    by_cases e : ∃ j, j < k ∧ P j
    · obtain ⟨j, hj, pj⟩ := e
      exact ih j hj pj
    · exact ⟨k, hk, fun j hj pj => e ⟨j, hj, pj⟩⟩
