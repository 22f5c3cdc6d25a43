section
theorem pk_us {f : Nat → Int32} {k : Nat} {x : Int32} : upd f k x k = x := if_pos rfl
theorem pk_un {f : Nat → Int32} {k j : Nat} {x : Int32} (h : j ≠ k) : upd f k x j = f j := if_neg h
theorem pk_sub {a b : Nat} (h : b ≤ a) : nI a - nI b = nI (a - b) := by
  obtain ⟨c, rfl⟩ : ∃ c, a = c + b := ⟨a - b, by omega⟩
  rw [← nI_add, Int32.add_sub_cancel, Nat.add_sub_cancel]
theorem pk_m1 (n : Nat) : nI (n + 1) + (-1) = nI n := by
  rw [← nI_1, Int32.add_assoc, show (1 : Int32) + (-1) = 0 from rfl, Int32.add_zero]
theorem pk_mul (a b : Nat) : nI a * nI b = nI (a * b) := (Int32.ofNat_mul a b).symm
theorem pk_div {a d : Nat} (ha : a < 2 ^ 31) (h0 : 0 < d) (hd : d < 2 ^ 31) : nI a / nI d = nI (a / d) := by
  apply Int32.toInt_inj.mp
  rw [lg_idiv_nonneg (by rw [nI_toInt ha]; omega) (by rw [nI_toInt hd]; omega), nI_toInt ha, nI_toInt hd, nI_toInt (Nat.lt_of_le_of_lt (Nat.div_le_self a d) ha)]
  first | rfl | exact (Int.natCast_ediv _ _).symm
theorem pk_rem {a d : Nat} (ha : a < 2 ^ 31) (h0 : 0 < d) (hd : d < 2 ^ 31) : nI a - nI a / nI d * nI d = nI (a % d) := by
  rw [pk_div ha h0 hd, pk_mul, pk_sub (Nat.div_mul_le_self a d)]
  exact congrArg nI (by have := Nat.div_add_mod' a d; omega)
theorem pk_ix (x : Int32) {n : Nat} (hn : n < 2 ^ 31) : x < 0 ∨ nI n ≤ x ∨ ∃ j : Nat, j < n ∧ x = nI j := by
  by_cases h : x < 0
  · exact Or.inl h
  · obtain ⟨j, hj, rfl⟩ := nI_of h
    by_cases h2 : j < n
    · exact Or.inr (Or.inr ⟨j, h2, rfl⟩)
    · exact Or.inr (Or.inl (nI_le (by omega) hj))
theorem pk_le {x y : Int32} {A B : Prop} (a b : Nat) (f : a ≤ b → A) (g : b < a → B) (hx : x = nI a := by rfl) (hy : y = nI b := by rfl) (ha : a < 2 ^ 31 := by omega) (hb : b < 2 ^ 31 := by omega) : (x ≤ y → A) ∧ (¬ x ≤ y → B) := by
  subst hx hy
  rw [nI_leI ha hb]
  exact ⟨f, fun z => g (by omega)⟩
theorem pk_lt {x y : Int32} {A B : Prop} (a b : Nat) (f : a < b → A) (g : b ≤ a → B) (hx : x = nI a := by rfl) (hy : y = nI b := by rfl) (ha : a < 2 ^ 31 := by omega) (hb : b < 2 ^ 31 := by omega) : (x < y → A) ∧ (¬ x < y → B) := by
  subst hx hy
  rw [nI_ltI ha hb]
  exact ⟨f, fun z => g (by omega)⟩
theorem pk_eq {x y : Int32} {A B : Prop} (a b : Nat) (f : a = b → A) (g : a ≠ b → B) (hx : x = nI a := by rfl) (hy : y = nI b := by rfl) (ha : a < 2 ^ 31 := by omega) (hb : b < 2 ^ 31 := by omega) : (x = y → A) ∧ (¬ x = y → B) := by
  subst hx hy
  rw [nI_eq ha hb]
  exact ⟨f, g⟩
theorem pk_in {x : Int32} (n N : Nat) (h : n < N) (hx : x = nI n := by rfl) (hN : N < 2 ^ 31 := by omega) : vp_in x N := by
  subst hx
  exact vp_in_nI h hN
theorem pk_cl {x : Int32} (n : Nat) (hx : x = nI n := by rfl) (h : n < 2 ^ 31 := by omega) : x.toNatClampNeg = n := by
  subst hx
  exact nI_clamp h
theorem pk_tn {n : Nat} (h : n < 2 ^ 32) : (nI n).toBitVec.toNat = n := Nat.mod_eq_of_lt h
def bt (x : Int32) (i : Nat) : Bool := x.toBitVec.getLsbD i
theorem b_ext {x y : Int32} (h : ∀ i, i < 32 → bt x i = bt y i) : x = y := Int32.toBitVec_inj.mp (BitVec.eq_of_getLsbD_eq (fun i hi => h i hi))
theorem b_or (x y : Int32) (i : Nat) : bt (x ||| y) i = (bt x i || bt y i) := by unfold bt; rw [Int32.toBitVec_or, BitVec.getLsbD_or]
theorem b_and (x y : Int32) (i : Nat) : bt (x &&& y) i = (bt x i && bt y i) := by unfold bt; rw [Int32.toBitVec_and, BitVec.getLsbD_and]
theorem b_xor (x y : Int32) (i : Nat) : bt (x ^^^ y) i = (bt x i ^^ bt y i) := by unfold bt; rw [Int32.toBitVec_xor, BitVec.getLsbD_xor]
theorem b_big {x : Int32} {i : Nat} (h : 32 ≤ i) : bt x i = false := BitVec.getLsbD_of_ge _ _ h
theorem b_m1 : ∀ i, i < 32 → bt (-1) i = true := by decide +kernel
theorem b_0 (i : Nat) : bt 0 i = false := BitVec.getLsbD_zero
theorem s_l : ∀ n, n < 32 → ((nI n &&& 31).toBitVec.smod 32).toNat = n := by decide +kernel
theorem s_u : ∀ n, n < 32 → (((nI n).toUInt32 &&& Int32.toUInt32 31).toBitVec % 32).toNat = n := by decide +kernel
theorem b_shl (n : Nat) (hn : n < 32) (x : Int32) {i : Nat} (hi : i < 32) : bt (x <<< (nI n &&& 31)) i = (decide (n ≤ i) && bt x (i - n)) := by
  unfold bt
  rw [Int32.toBitVec_shiftLeft]
  show (x.toBitVec <<< ((nI n &&& 31).toBitVec.smod 32).toNat).getLsbD i = _
  rw [s_l n hn, BitVec.getLsbD_shiftLeft]
  rcases Nat.lt_or_ge i n with h | h
  · simp [h, Nat.not_le.mpr h]
  · simp [hi, h, Nat.not_lt.mpr h]
theorem b_ushr (n : Nat) (hn : n < 32) (x : Int32) (i : Nat) : bt ((x.toUInt32 >>> ((nI n).toUInt32 &&& Int32.toUInt32 31)).toInt32) i = bt x (n + i) := by
  show (x.toUInt32 >>> ((nI n).toUInt32 &&& Int32.toUInt32 31)).toBitVec.getLsbD i = x.toUInt32.toBitVec.getLsbD (n + i)
  rw [UInt32.toBitVec_shiftRight]
  show (x.toUInt32.toBitVec >>> (((nI n).toUInt32 &&& Int32.toUInt32 31).toBitVec % 32).toNat).getLsbD i = _
  rw [s_u n hn, BitVec.getLsbD_ushiftRight]
theorem b_sshr (n : Nat) (hn : n < 32) (x : Int32) {i : Nat} (hi : i < 32) : bt (x >>> (nI n &&& 31)) i = if n + i < 32 then bt x (n + i) else bt x 31 := by
  unfold bt
  rw [Int32.toBitVec_shiftRight]
  show (x.toBitVec.sshiftRight ((nI n &&& 31).toBitVec.smod 32).toNat).getLsbD i = _
  rw [s_l n hn, BitVec.getLsbD_sshiftRight, BitVec.msb_eq_getLsbD_last]
  simp [hi]
theorem b_shl8 (x : Int32) {i : Nat} (hi : i < 32) : bt (x <<< ((8 : Int32) &&& 31)) i = (decide (8 ≤ i) && bt x (i - 8)) := b_shl 8 (by omega) x hi
end
section
/-! counting -/
noncomputable def et_b (P : Prop) : Nat := @ite Nat P (Classical.propDecidable P) 1 0
theorem et_b_t {P : Prop} (h : P) : et_b P = 1 := by unfold et_b; rw [if_pos h]
theorem et_b_f {P : Prop} (h : ¬ P) : et_b P = 0 := by unfold et_b; rw [if_neg h]
theorem et_b_le (P : Prop) : et_b P ≤ 1 := by
  rcases Classical.em P with h | h
  · rw [et_b_t h]; omega
  · rw [et_b_f h]; omega
theorem et_b_mono {P Q : Prop} (h : P → Q) : et_b P ≤ et_b Q := by
  rcases Classical.em P with hp | hp
  · rw [et_b_t hp, et_b_t (h hp)]; omega
  · rw [et_b_f hp]; omega
theorem et_b_iff {P Q : Prop} (h : P ↔ Q) : et_b P = et_b Q := Nat.le_antisymm (et_b_mono h.mp) (et_b_mono h.mpr)
noncomputable def et_cn (P : Nat → Prop) : Nat → Nat
  | 0 => 0
  | k + 1 => et_cn P k + et_b (P k)
theorem et_cn_le (P : Nat → Prop) : ∀ n, et_cn P n ≤ n
  | 0 => Nat.le_refl _
  | n + 1 => Nat.add_le_add (et_cn_le P n) (et_b_le _)
theorem et_cn_mono {P Q : Nat → Prop} : ∀ {n : Nat}, (∀ k, k < n → P k → Q k) → et_cn P n ≤ et_cn Q n
  | 0, _ => Nat.le_refl _
  | n + 1, h => Nat.add_le_add (et_cn_mono fun k hk => h k (Nat.lt_succ_of_lt hk)) (et_b_mono (h n (Nat.lt_succ_self n)))
theorem et_cn_congr {P Q : Nat → Prop} {n : Nat} (h : ∀ k, k < n → (P k ↔ Q k)) : et_cn P n = et_cn Q n :=
  Nat.le_antisymm (et_cn_mono fun k hk => (h k hk).mp) (et_cn_mono fun k hk => (h k hk).mpr)
theorem et_cn_lt {P Q : Nat → Prop} : ∀ {n : Nat}, (∀ k, k < n → P k → Q k) → ∀ j, j < n → ¬ P j → Q j → et_cn P n < et_cn Q n
  | 0, _, _, hj, _, _ => absurd hj (Nat.not_lt_zero _)
  | n + 1, h, j, hj, hp, hq => by
    have m := et_b_mono (h n (Nat.lt_succ_self n))
    simp only [et_cn]
    by_cases e : j = n
    · subst e
      have a : et_cn P j ≤ et_cn Q j := et_cn_mono fun k hk => h k (Nat.lt_succ_of_lt hk)
      rw [et_b_f hp, et_b_t hq]
      omega
    · have a := et_cn_lt (n := n) (fun k hk => h k (Nat.lt_succ_of_lt hk)) j (by omega) hp hq
      omega
theorem et_cn_ltn {P : Nat → Prop} {n : Nat} (j : Nat) (hj : j < n) (h : ¬ P j) : et_cn P n < n :=
  Nat.lt_of_lt_of_le (et_cn_lt (Q := fun _ => True) (fun _ _ _ => trivial) j hj h trivial) (et_cn_le _ _)
theorem et_cn_ins {P : Nat → Prop} : ∀ {n : Nat} (j : Nat), j < n → ¬ P j → et_cn (fun i => i = j ∨ P i) n = et_cn P n + 1
  | 0, _, hj, _ => absurd hj (Nat.not_lt_zero _)
  | n + 1, j, hj, h => by
    simp only [et_cn]
    by_cases e : j = n
    · subst e
      have a : et_cn (fun i => i = j ∨ P i) j = et_cn P j :=
        et_cn_congr fun k hk => ⟨fun z => z.elim (fun q => absurd q (by omega)) id, Or.inr⟩
      rw [a, et_b_t (Or.inl rfl), et_b_f h]
    · have a := et_cn_ins (P := P) (n := n) j (by omega) h
      have b : et_b (n = j ∨ P n) = et_b (P n) := et_b_iff ⟨fun z => z.elim (fun q => absurd q.symm e) id, Or.inr⟩
      rw [a, b]
      omega
theorem et_cn_0 {P : Nat → Prop} : ∀ {n : Nat}, (∀ k, k < n → ¬ P k) → et_cn P n = 0
  | 0, _ => rfl
  | n + 1, h => by
    simp only [et_cn]
    rw [et_cn_0 (n := n) (fun k hk => h k (Nat.lt_succ_of_lt hk)), et_b_f (h n (Nat.lt_succ_self n))]
theorem et_cn_m {P : Nat → Prop} : ∀ {a b : Nat}, a ≤ b → et_cn P a ≤ et_cn P b
  | a, 0, h => by
    have : a = 0 := by omega
    subst this
    exact Nat.le_refl _
  | a, b + 1, h => by
    by_cases e : a = b + 1
    · subst e; exact Nat.le_refl _
    · exact Nat.le_trans (et_cn_m (a := a) (b := b) (by omega)) (Nat.le_add_right _ _)
theorem et_pig (f : Nat → Nat) (N : Nat) (h : ∀ i, i ≤ N → f i < N) : ∃ i j, i < j ∧ j ≤ N ∧ f i = f j := by
  apply Classical.byContradiction
  intro hn
  have key : ∀ k, k ≤ N + 1 → ∃ P : Nat → Prop, et_cn P N = k ∧ ∀ v, P v → ∃ i, i < k ∧ f i = v := by
    intro k
    induction k with
    | zero => exact fun _ => ⟨fun _ => False, et_cn_0 (fun _ _ => id), fun _ z => z.elim⟩
    | succ k ih =>
      intro hk
      obtain ⟨P, h1, h2⟩ := ih (by omega)
      have hf : ¬ P (f k) := by
        intro hp
        obtain ⟨i, hi, he⟩ := h2 _ hp
        exact hn ⟨i, k, hi, by omega, he⟩
      refine ⟨fun i => i = f k ∨ P i, by rw [et_cn_ins (f k) (h k (by omega)) hf, h1], fun v hv => ?_⟩
      rcases hv with hv | hv
      · exact ⟨k, by omega, hv.symm⟩
      · obtain ⟨i, hi, he⟩ := h2 v hv
        exact ⟨i, by omega, he⟩
  obtain ⟨P, h1, _⟩ := key (N + 1) (Nat.le_refl _)
  have := et_cn_le P N
  omega
/-! numbers -/
theorem et_m1 : ¬ ((-1 : Int32) = 0) ∧ (-1 : Int32) < 0 ∧ (-2 : Int32) < 0 ∧ ¬ ((-1 : Int32) = -2) := by decide
theorem et_nn {e : Nat} (h : e < 48) : ¬ nI e < 0 := nI_pos (by omega)
theorem et_ne1 {e : Nat} (h : e < 48) : ¬ nI e = -1 := fun z => et_nn h (by rw [z]; exact et_m1.2.1)
theorem et_ne2 {e : Nat} (h : e < 48) : ¬ nI e = -2 := fun z => et_nn h (by rw [z]; exact et_m1.2.2.1)
theorem et_cl {e : Nat} (h : e < 48) : (nI e).toNatClampNeg = e := nI_clamp (by omega)
theorem et_inj {a b : Nat} (ha : a < 48) (hb : b < 48) (h : nI a = nI b) : a = b := (nI_eq (by omega) (by omega)).mp h
/-! the tree -/
def et_ok (t par : Nat → Int32) : Nat → Int32 → Prop
  | 0, x => x = -1
  | f + 1, x => x = -1 ∨ ∃ e, e < 48 ∧ ¬ t e = 0 ∧ x = nI e ∧ et_ok t par f (par e)
theorem et_ok_m1 {t par : Nat → Int32} : ∀ f, et_ok t par f (-1)
  | 0 => rfl
  | _ + 1 => Or.inl rfl
theorem et_ok_up {t par : Nat → Int32} : ∀ f x, et_ok t par f x → et_ok t par (f + 1) x
  | 0, _, h => Or.inl h
  | f + 1, _, h => h.elim Or.inl (fun ⟨e, h1, h2, h3, h4⟩ => Or.inr ⟨e, h1, h2, h3, et_ok_up f _ h4⟩)
def et_Rk (t par : Nat → Int32) (d : Nat → Nat) : Prop := ∀ e, e < 48 → ¬ t e = 0 → ¬ e = 0 → ∃ p, p < 48 ∧ ¬ t p = 0 ∧ par e = nI p ∧ d p < d e
def et_Tree (t par : Nat → Int32) : Prop := ¬ t 0 = 0 ∧ par 0 = -1 ∧ ∃ d : Nat → Nat, et_Rk t par d
theorem et_Tree_rk {t par : Nat → Int32} (h : et_Tree t par) : ∃ d : Nat → Nat, et_Rk t par d ∧ ∀ e, e < 48 → ¬ t e = 0 → d e < 48 := by
  obtain ⟨h0, h1, d, hd⟩ := h
  refine ⟨fun e => et_cn (fun x => ¬ t x = 0 ∧ d x < d e) 48, fun e he te e0 => ?_, fun e he te => ?_⟩
  · obtain ⟨p, hp, tp, pe, dp⟩ := hd e he te e0
    exact ⟨p, hp, tp, pe, et_cn_lt (fun k _ hk => ⟨hk.1, Nat.lt_trans hk.2 dp⟩) p hp (fun z => Nat.lt_irrefl _ z.2) ⟨tp, dp⟩⟩
  · exact et_cn_ltn e he (fun z => Nat.lt_irrefl _ z.2)
theorem et_rk_ok {t par : Nat → Int32} {d : Nat → Nat} (h1 : par 0 = -1) (hd : et_Rk t par d) : ∀ f e, e < 48 → ¬ t e = 0 → d e < f → et_ok t par f (nI e)
  | 0, _, _, _, h => absurd h (Nat.not_lt_zero _)
  | f + 1, e, he, te, h => by
    refine Or.inr ⟨e, he, te, rfl, ?_⟩
    by_cases e0 : e = 0
    · subst e0; rw [h1]; exact et_ok_m1 f
    · obtain ⟨p, hp, tp, pe, dp⟩ := hd e he te e0
      rw [pe]
      exact et_rk_ok h1 hd f p hp tp (by omega)
theorem et_Tree_par {t par : Nat → Int32} (h : et_Tree t par) {e : Nat} (he : e < 48) (te : ¬ t e = 0) : et_ok t par 47 (par e) := by
  obtain ⟨d, hd, hb⟩ := et_Tree_rk h
  by_cases e0 : e = 0
  · subst e0; rw [h.2.1]; exact et_ok_m1 _
  · obtain ⟨p, hp, tp, pe, dp⟩ := hd e he te e0
    rw [pe]
    have := hb e he te
    exact et_rk_ok h.2.1 hd 47 p hp tp (by omega)
theorem et_Tree_ok {t par : Nat → Int32} (h : et_Tree t par) {e : Nat} (he : e < 48) (te : ¬ t e = 0) : et_ok t par 48 (nI e) :=
  Or.inr ⟨e, he, te, rfl, et_Tree_par h he te⟩
def et_wi (par : Nat → Int32) (top : Int32) : Nat → Int32 → Prop
  | 0, _ => False
  | f + 1, x => ¬ x < 0 ∧ (x = top ∨ et_wi par top f (par x.toNatClampNeg))
theorem et_wi_m1 {par : Nat → Int32} {top : Int32} : ∀ f, ¬ et_wi par top f (-1)
  | 0 => id
  | _ + 1 => fun z => z.1 et_m1.2.1
theorem et_wi_e {par : Nat → Int32} {top : Int32} {f e : Nat} (he : e < 48) : et_wi par top (f + 1) (nI e) ↔ nI e = top ∨ et_wi par top f (par e) := by
  simp only [et_wi]
  rw [et_cl he]
  exact ⟨fun z => z.2, fun z => ⟨et_nn he, z⟩⟩
theorem et_wi_up {t par : Nat → Int32} {top : Int32} : ∀ f x, et_ok t par f x → (et_wi par top (f + 1) x ↔ et_wi par top f x)
  | 0, x, h => by
    have hx : x = -1 := h
    subst hx
    exact ⟨fun z => (et_wi_m1 _ z).elim, fun z => (et_wi_m1 _ z).elim⟩
  | f + 1, x, h => by
    rcases h with h | ⟨e, he, te, hx, hk⟩
    · subst h
      exact ⟨fun z => (et_wi_m1 _ z).elim, fun z => (et_wi_m1 _ z).elim⟩
    · subst hx
      rw [et_wi_e he, et_wi_e he, et_wi_up f _ hk]
theorem et_wi_rank {t par : Nat → Int32} {top : Int32} {d : Nat → Nat} (h1 : par 0 = -1) (hd : et_Rk t par d) : ∀ f e, e < 48 → ¬ t e = 0 → et_wi par top f (nI e) → ∃ b, b < 48 ∧ ¬ t b = 0 ∧ top = nI b ∧ d b ≤ d e
  | 0, _, _, _, h => h.elim
  | f + 1, e, he, te, h => by
    rcases (et_wi_e he).mp h with h | h
    · exact ⟨e, he, te, h.symm, Nat.le_refl _⟩
    · by_cases e0 : e = 0
      · subst e0; rw [h1] at h; exact (et_wi_m1 _ h).elim
      · obtain ⟨p, hp, tp, pe, dp⟩ := hd e he te e0
        rw [pe] at h
        obtain ⟨b, hb, tb, eb, db⟩ := et_wi_rank h1 hd f p hp tp h
        exact ⟨b, hb, tb, eb, by omega⟩
theorem et_below_self {t par : Nat → Int32} (h : et_Tree t par) {e : Nat} (he : e < 48) (te : ¬ t e = 0) : ¬ et_wi par (nI e) 47 (par e) := by
  intro hw
  obtain ⟨_, h1, d, hd⟩ := h
  by_cases e0 : e = 0
  · subst e0; rw [h1] at hw; exact et_wi_m1 _ hw
  · obtain ⟨p, hp, tp, pe, dp⟩ := hd e he te e0
    rw [pe] at hw
    obtain ⟨b, hb, tb, eb, db⟩ := et_wi_rank h1 hd 47 p hp tp hw
    have := et_inj he hb eb
    subst this
    omega
theorem et_Tree_add {t par : Nat → Int32} (h : et_Tree t par) {e p : Nat} (hf : t e = 0) (hp : p < 48) (tp : ¬ t p = 0) : et_Tree (upd t e 1) (upd par e (nI p)) := by
  obtain ⟨h0, h1, d, hd⟩ := h
  have e0 : 0 ≠ e := fun z => h0 (z ▸ hf)
  refine ⟨by rw [pk_un e0]; exact h0, by rw [pk_un e0]; exact h1, fun x => if x = e then d p + 1 else d x, fun x hx tx x0 => ?_⟩
  by_cases hxe : x = e
  · subst hxe
    have hpe : p ≠ x := fun z => tp (z ▸ hf)
    refine ⟨p, hp, by rw [pk_un hpe]; exact tp, pk_us, ?_⟩
    simp only [if_neg hpe, if_true]
    omega
  · rw [pk_un hxe] at tx
    obtain ⟨q, hq, tq, pq, dq⟩ := hd x hx tx x0
    have hqe : q ≠ e := fun z => tq (z ▸ hf)
    refine ⟨q, hq, by rw [pk_un hqe]; exact tq, by rw [pk_un hxe]; exact pq, ?_⟩
    simp only [if_neg hqe, if_neg hxe]
    exact dq
theorem et_Tree_rem {t par : Nat → Int32} (h : et_Tree t par) {e : Nat} (he : ¬ e = 0) (hn : ∀ x, x < 48 → ¬ t x = 0 → ¬ par x = nI e) : et_Tree (upd t e 0) par := by
  obtain ⟨h0, h1, d, hd⟩ := h
  refine ⟨by rw [pk_un (fun z => he z.symm)]; exact h0, h1, d, fun x hx tx x0 => ?_⟩
  by_cases hxe : x = e
  · subst hxe; exact (tx pk_us).elim
  · rw [pk_un hxe] at tx
    obtain ⟨q, hq, tq, pq, dq⟩ := hd x hx tx x0
    have hqe : q ≠ e := fun z => hn x hx tx (z ▸ pq)
    exact ⟨q, hq, by rw [pk_un hqe]; exact tq, pq, dq⟩
theorem et_Tree_mov {t par : Nat → Int32} (h : et_Tree t par) {e p : Nat} (he : e < 48) (e0 : ¬ e = 0) (hp : p < 48) (tp : ¬ t p = 0)
    (hpe : ¬ nI p = nI e) (hw : ¬ et_wi par (nI e) 47 (par p)) : et_Tree t (upd par e (nI p)) := by
  have hT := h
  obtain ⟨h0, h1, d, hd⟩ := h
  have P : ∀ x, x < 48 → ¬ t x = 0 → ¬ x = e → ∀ y, y < 48 → ¬ t y = 0 → par x = nI y → (et_wi par (nI e) 48 (nI x) ↔ et_wi par (nI e) 48 (nI y)) := by
    intro x hx tx xe y hy ty pxy
    rw [et_wi_e hx, pxy]
    have hy47 : et_ok t par 47 (nI y) := pxy ▸ et_Tree_par hT hx tx
    rw [et_wi_up 47 _ hy47]
    exact ⟨fun z => z.elim (fun q => absurd (et_inj hx he q) xe) id, Or.inr⟩
  have wp : ¬ et_wi par (nI e) 48 (nI p) := fun z => ((et_wi_e hp).mp z).elim hpe hw
  have we : et_wi par (nI e) 48 (nI e) := (et_wi_e he).mpr (Or.inl rfl)
  have ne : (0 : Nat) ≠ e := fun z => e0 z.symm
  refine ⟨h0, by rw [pk_un ne]; exact h1, fun x => d x + (d p + 1) * et_b (et_wi par (nI e) 48 (nI x)), fun x hx tx x0 => ?_⟩
  by_cases xe : x = e
  · subst xe
    refine ⟨p, hp, tp, pk_us, ?_⟩
    show d p + (d p + 1) * et_b (et_wi par (nI x) 48 (nI p)) < d x + (d p + 1) * et_b (et_wi par (nI x) 48 (nI x))
    rw [et_b_f wp, et_b_t we]
    omega
  · obtain ⟨q, hq, tq, pq, dq⟩ := hd x hx tx x0
    refine ⟨q, hq, tq, by rw [pk_un xe]; exact pq, ?_⟩
    show d q + (d p + 1) * et_b (et_wi par (nI e) 48 (nI q)) < d x + (d p + 1) * et_b (et_wi par (nI e) 48 (nI x))
    rw [et_b_iff (P x hx tx xe q hq tq pq)]
    omega
theorem et_least (P : Nat → Prop) (h : ∃ k, P k) : ∃ k, P k ∧ ∀ j, j < k → ¬ P j := by
  obtain ⟨k, hk⟩ := h
  induction k using Nat.strongRecOn with
  | ind k ih =>
    by_cases e : ∃ j, j < k ∧ P j
    · obtain ⟨j, hj, pj⟩ := e
      exact ih j hj pj
    · exact ⟨k, hk, fun j hj pj => e ⟨j, hj, pj⟩⟩
end
section
/-! where an alias leads -/
def et_ld (al : Nat → Int32) : Nat → Int32 → Int32
  | 0, _ => -2
  | f + 1, x => if x < 0 then -2 else if al x.toNatClampNeg = -1 then x else et_ld al f (al x.toNatClampNeg)
def et_Al (t al : Nat → Int32) : Prop := ∀ e, e < 48 → ¬ t e = 0 → al e = -1 ∨ al e = -2 ∨ ∃ a, a < 48 ∧ ¬ t a = 0 ∧ al e = nI a
def et_vx (t : Nat → Int32) (x : Int32) : Prop := x = -2 ∨ ∃ a, a < 48 ∧ ¬ t a = 0 ∧ x = nI a
theorem et_vx_s {t al : Nat → Int32} (h : et_Al t al) {e : Nat} (he : e < 48) (te : ¬ t e = 0) (ha : ¬ al e = -1) : et_vx t (al e) :=
  (h e he te).elim (fun z => absurd z ha) id
theorem et_ld_n {al : Nat → Int32} : ∀ f x, x < 0 → et_ld al f x = -2
  | 0, _, _ => rfl
  | _ + 1, _, h => if_pos h
theorem et_ld_e {al : Nat → Int32} {f e : Nat} (he : e < 48) (ha : al e = -1) : et_ld al (f + 1) (nI e) = nI e := by
  simp only [et_ld]
  rw [if_neg (et_nn he), et_cl he, if_pos ha]
theorem et_ld_s {al : Nat → Int32} {f e : Nat} (he : e < 48) (ha : ¬ al e = -1) : et_ld al (f + 1) (nI e) = et_ld al f (al e) := by
  simp only [et_ld]
  rw [if_neg (et_nn he), et_cl he, if_neg ha]
theorem et_ld_c {t al : Nat → Int32} (h : et_Al t al) : ∀ f x, et_vx t x → et_ld al f x = -2 ∨ ∃ a, a < 48 ∧ ¬ t a = 0 ∧ al a = -1 ∧ et_ld al f x = nI a
  | 0, _, _ => Or.inl rfl
  | f + 1, x, hx => by
    rcases hx with hx | ⟨e, he, te, hx⟩
    · exact Or.inl (et_ld_n _ _ (by rw [hx]; exact et_m1.2.2.1))
    · subst hx
      by_cases ha : al e = -1
      · exact Or.inr ⟨e, he, te, ha, et_ld_e he ha⟩
      · rw [et_ld_s he ha]
        exact et_ld_c h f _ (et_vx_s h he te ha)
def et_q (al : Nat → Int32) (x : Int32) : Nat → Int32
  | 0 => x
  | i + 1 => al (et_q al x i).toNatClampNeg
theorem et_q_sh {al : Nat → Int32} {x : Int32} : ∀ i, et_q al (al x.toNatClampNeg) i = et_q al x (i + 1)
  | 0 => rfl
  | i + 1 => by
    show al (et_q al (al x.toNatClampNeg) i).toNatClampNeg = _
    rw [et_q_sh i]
    rfl
theorem et_q_p {al : Nat → Int32} {x : Int32} {i j : Nat} (h : et_q al x i = et_q al x j) : ∀ m, et_q al x (i + m) = et_q al x (j + m)
  | 0 => h
  | m + 1 => by
    show al (et_q al x (i + m)).toNatClampNeg = al (et_q al x (j + m)).toNatClampNeg
    rw [et_q_p h m]
theorem et_ld_d {t al : Nat → Int32} (h : et_Al t al) : ∀ f x, et_vx t x → ¬ et_ld al (f + 1) x = et_ld al f x →
    (∀ i, i ≤ f → ∃ a, a < 48 ∧ et_q al x i = nI a) ∧ (∀ i, i < f → ¬ al (et_q al x i).toNatClampNeg = -1) ∧ al (et_q al x f).toNatClampNeg = -1
  | f, x, hx, hd => by
    rcases hx with hx | ⟨e, he, te, hx⟩
    · have hn : x < 0 := by rw [hx]; exact et_m1.2.2.1
      rw [et_ld_n _ _ hn, et_ld_n _ _ hn] at hd
      exact (hd rfl).elim
    · subst hx
      match f with
      | 0 =>
        by_cases ha : al e = -1
        · refine ⟨fun i hi => ⟨e, he, ?_⟩, fun i hi => absurd hi (Nat.not_lt_zero _), ?_⟩
          · have : i = 0 := by omega
            subst this
            rfl
          · show al (nI e).toNatClampNeg = -1
            rw [et_cl he]
            exact ha
        · rw [et_ld_s he ha] at hd
          exact (hd rfl).elim
      | f + 1 =>
        by_cases ha : al e = -1
        · rw [et_ld_e he ha, et_ld_e he ha] at hd
          exact (hd rfl).elim
        · rw [et_ld_s he ha, et_ld_s he ha] at hd
          obtain ⟨h1, h2, h3⟩ := et_ld_d h f _ (et_vx_s h he te ha) hd
          have hs : ∀ i, et_q al (al e) i = et_q al (nI e) (i + 1) := by
            intro i
            rw [← et_q_sh i, et_cl he]
          refine ⟨fun i hi => ?_, fun i hi => ?_, ?_⟩
          · match i with
            | 0 => exact ⟨e, he, rfl⟩
            | i + 1 => rw [← hs]; exact h1 i (by omega)
          · match i with
            | 0 =>
              show ¬ al (nI e).toNatClampNeg = -1
              rw [et_cl he]
              exact ha
            | i + 1 => rw [← hs]; exact h2 i (by omega)
          · rw [← hs]; exact h3
theorem et_ld_up {t al : Nat → Int32} (h : et_Al t al) {f : Nat} (hf : 48 ≤ f) {x : Int32} (hx : et_vx t x) : et_ld al (f + 1) x = et_ld al f x := by
  apply Classical.byContradiction
  intro hd
  obtain ⟨h1, h2, h3⟩ := et_ld_d h f x hx hd
  obtain ⟨i, j, hij, hj, he⟩ := et_pig (fun i => (et_q al x i).toNatClampNeg) 48 (fun i hi => by
    obtain ⟨a, ha, e⟩ := h1 i (by omega)
    show (et_q al x i).toNatClampNeg < 48
    rw [e, et_cl ha]
    exact ha)
  have e2 : et_q al x i = et_q al x j := by
    obtain ⟨a, ha, ea⟩ := h1 i (by omega)
    obtain ⟨b, hb, eb⟩ := h1 j (by omega)
    have e3 : (et_q al x i).toNatClampNeg = (et_q al x j).toNatClampNeg := he
    rw [ea, eb, et_cl ha, et_cl hb] at e3
    rw [ea, eb, e3]
  have e4 := et_q_p e2 (f - j)
  rw [show j + (f - j) = f from by omega] at e4
  have := h2 (i + (f - j)) (by omega)
  rw [e4] at this
  exact this h3
theorem et_ld_50 {t al : Nat → Int32} (h : et_Al t al) {x : Int32} (hx : et_vx t x) : et_ld al 50 x = et_ld al 48 x :=
  (et_ld_up h (f := 49) (by omega) hx).trans (et_ld_up h (f := 48) (by omega) hx)
/-! one expression: from the end, and from the front -/
def et_fx (op : Nat → Nat) : Nat → Nat → Prop
  | 0, h => h = 1
  | j + 1, h => op j ≤ h ∧ et_fx op j (h - op j + 1)
def et_fy (op : Nat → Nat) (n : Nat) : Nat → Nat → Prop
  | 0, m => m = 0
  | r + 1, m => ¬ m = 0 ∧ et_fy op n r (m + op (n - (r + 1)) - 1)
def et_su (op : Nat → Nat) : Nat → Int
  | 0 => 0
  | k + 1 => et_su op k + (op k : Int) - 1
theorem et_fx_s {op : Nat → Nat} : ∀ j h, et_fx op j h ↔ ((∀ i, i < j → (h : Int) - (et_su op j - et_su op i) ≥ 1) ∧ (h : Int) - et_su op j = 1)
  | 0, h => by
    simp only [et_fx, et_su]
    exact ⟨fun z => ⟨fun i hi => absurd hi (Nat.not_lt_zero _), by omega⟩, fun z => by omega⟩
  | j + 1, h => by
    simp only [et_fx]
    rw [et_fx_s j]
    simp only [et_su]
    constructor
    · rintro ⟨a, b, c⟩
      refine ⟨fun i hi => ?_, by omega⟩
      by_cases e : i = j
      · subst e; omega
      · have := b i (by omega)
        omega
    · rintro ⟨b, c⟩
      have a := b j (by omega)
      have a' : op j ≤ h := by omega
      refine ⟨a', fun i hi => ?_, by omega⟩
      have := b i (by omega)
      omega
theorem et_fy_s {op : Nat → Nat} {n : Nat} : ∀ r m, r ≤ n → (et_fy op n r m ↔ ((∀ i, n - r ≤ i → i < n → (m : Int) + (et_su op i - et_su op (n - r)) ≥ 1) ∧ (m : Int) + et_su op n - et_su op (n - r) = 0))
  | 0, m, _ => by
    simp only [et_fy]
    rw [Nat.sub_zero]
    exact ⟨fun z => ⟨fun i h1 h2 => absurd h2 (by omega), by omega⟩, fun z => by omega⟩
  | r + 1, m, hr => by
    simp only [et_fy]
    rw [et_fy_s r _ (by omega)]
    have e1 : n - r = (n - (r + 1)) + 1 := by omega
    rw [e1]
    simp only [et_su]
    generalize hk : n - (r + 1) = k
    constructor
    · rintro ⟨a, b, c⟩
      refine ⟨fun i h1 h2 => ?_, by omega⟩
      by_cases e : i = k
      · subst e; omega
      · have := b i (by omega) h2
        omega
    · rintro ⟨b, c⟩
      have a := b k (by omega) (by omega)
      have a' : ¬ m = 0 := by omega
      refine ⟨a', fun i h1 h2 => ?_, by omega⟩
      have := b i (by omega) h2
      omega
theorem et_fxy {op : Nat → Nat} (n : Nat) : et_fx op n 0 ↔ et_fy op n n 1 := by
  rw [et_fx_s, et_fy_s n 1 (Nat.le_refl _), Nat.sub_self]
  simp only [et_su]
  constructor
  · rintro ⟨a, b⟩
    refine ⟨fun i _ h2 => ?_, by omega⟩
    have := a i h2
    omega
  · rintro ⟨a, b⟩
    refine ⟨fun i h2 => ?_, by omega⟩
    have := a i (Nat.zero_le _) h2
    omega
/-! what changed since when -/
def et_S (t s : Nat → Int32) (after : Int32) (e : Nat) : Prop := e < 48 ∧ ¬ t e = 0 ∧ after < s e
noncomputable def et_ct (t s : Nat → Int32) (after : Int32) (e : Nat) : Nat := et_cn (fun o => ¬ t o = 0 ∧ after < s o ∧ s o < s e) 48
def et_Dis (t s : Nat → Int32) : Prop := ∀ a b, a < 48 → b < 48 → ¬ t a = 0 → ¬ t b = 0 → s a = s b → a = b
def et_Nx (t s : Nat → Int32) (after : Int32) (N : Nat) (r : Int32) : Prop :=
  (r = -1 ∧ ∀ e, e < N → ¬ t e = 0 → ¬ after < s e) ∨ ∃ m, m < N ∧ r = nI m ∧ ¬ t m = 0 ∧ after < s m ∧ ∀ e, e < N → ¬ t e = 0 → after < s e → s m ≤ s e
def et_Ch (t s : Nat → Int32) (after : Int32) (p : Nat) (r : Int32) : Prop :=
  (r = -1 ∧ ∀ x, et_S t s after x → et_ct t s after x < p) ∨ ∃ m, et_S t s after m ∧ r = nI m ∧ et_ct t s after m = p
theorem et_lt {x y : Int32} : x < y ↔ x.toInt < y.toInt := Int32.lt_iff_toInt_lt
theorem et_le {x y : Int32} : x ≤ y ↔ x.toInt ≤ y.toInt := Int32.le_iff_toInt_le
theorem et_ct_lt {t s : Nat → Int32} {after : Int32} {e : Nat} (he : e < 48) : et_ct t s after e < 48 :=
  et_cn_ltn e he (fun z => Int32.lt_irrefl z.2.2)
theorem et_ct_m {t s : Nat → Int32} {after : Int32} {a b : Nat} (h : s a ≤ s b) : et_ct t s after a ≤ et_ct t s after b :=
  et_cn_mono fun k _ z => ⟨z.1, z.2.1, by have := z.2.2; rw [et_lt] at *; rw [et_le] at h; omega⟩
theorem et_ct_s {t s : Nat → Int32} {after : Int32} {a b : Nat} (ha : et_S t s after a) (h : s a < s b) : et_ct t s after a < et_ct t s after b :=
  et_cn_lt (fun k _ z => ⟨z.1, z.2.1, by have := z.2.2; rw [et_lt] at *; omega⟩) a ha.1 (fun z => Int32.lt_irrefl z.2.2) ⟨ha.2.1, ha.2.2, h⟩
theorem et_ct_i {t s : Nat → Int32} {after : Int32} (hD : et_Dis t s) {a b : Nat} (ha : et_S t s after a) (hb : et_S t s after b) (h : et_ct t s after a = et_ct t s after b) : a = b := by
  apply hD a b ha.1 hb.1 ha.2.1 hb.2.1
  apply Int32.toInt_inj.mp
  rcases Int.lt_trichotomy (s a).toInt (s b).toInt with q | q | q
  · have := et_ct_s ha (et_lt.mpr q); omega
  · exact q
  · have := et_ct_s hb (et_lt.mpr q); omega
theorem et_ch0 {t s : Nat → Int32} {after r : Int32} (h : et_Nx t s after 48 r) : et_Ch t s after 0 r := by
  rcases h with ⟨h1, h2⟩ | ⟨m, h1, h2, h3, h4, h5⟩
  · exact Or.inl ⟨h1, fun x hx => absurd hx.2.2 (h2 x hx.1 hx.2.1)⟩
  · refine Or.inr ⟨m, ⟨h1, h3, h4⟩, h2, et_cn_0 fun k hk z => ?_⟩
    have a := h5 k hk z.1 z.2.1
    have b := z.2.2
    rw [et_le] at a
    rw [et_lt] at b
    omega
theorem et_ch_s {t s : Nat → Int32} {after r : Int32} (hD : et_Dis t s) {m p : Nat} (hm : et_S t s after m) (hp : et_ct t s after m = p) (h : et_Nx t s (s m) 48 r) : et_Ch t s after (p + 1) r := by
  rcases h with ⟨h1, h2⟩ | ⟨q, h1, h2, h3, h4, h5⟩
  · refine Or.inl ⟨h1, fun x hx => ?_⟩
    have a := h2 x hx.1 hx.2.1
    have b : s x ≤ s m := by rw [et_lt] at a; rw [et_le]; omega
    have := et_ct_m (t := t) (after := after) b
    omega
  · have hq : after < s q := by have := hm.2.2; rw [et_lt] at *; omega
    refine Or.inr ⟨q, ⟨h1, h3, hq⟩, h2, ?_⟩
    have e : et_ct t s after q = et_cn (fun i => i = m ∨ (¬ t i = 0 ∧ after < s i ∧ s i < s m)) 48 := by
      apply et_cn_congr
      intro k hk
      constructor
      · rintro ⟨z1, z2, z3⟩
        by_cases c : s m < s k
        · have := h5 k hk z1 c
          rw [et_le] at this
          rw [et_lt] at z3
          omega
        · by_cases c2 : s k = s m
          · exact Or.inl (hD k m hk hm.1 z1 hm.2.1 c2)
          · refine Or.inr ⟨z1, z2, ?_⟩
            have c3 : ¬ (s k).toInt = (s m).toInt := fun z => c2 (Int32.toInt_inj.mp z)
            rw [et_lt] at *
            omega
      · rintro (z | ⟨z1, z2, z3⟩)
        · subst z
          exact ⟨hm.2.1, hm.2.2, h4⟩
        · exact ⟨z1, z2, by rw [et_lt] at *; omega⟩
    rw [e, et_cn_ins m hm.1 (fun z => Int32.lt_irrefl z.2.2)]
    exact congrArg (· + 1) hp
/-! what a search goes through: the least set -/
def et_Cl (B : Nat → Prop) (W : Nat → Nat → Prop) (A : Nat → Prop) (L : Nat → Nat → Prop) (b : Nat) (S : Nat → Prop) : Prop :=
  (∀ x, x < 48 → B x → S x) ∧ ∀ e t, e < 48 → S e → A e → ¬ e = b → L e t → ∀ x, x < 48 → W x t → S x
def et_M (B : Nat → Prop) (W : Nat → Nat → Prop) (A : Nat → Prop) (L : Nat → Nat → Prop) (b x : Nat) : Prop := ∀ S, et_Cl B W A L b S → S x
theorem et_M_b {B : Nat → Prop} {W : Nat → Nat → Prop} {A : Nat → Prop} {L : Nat → Nat → Prop} {b x : Nat} (hx : x < 48) (h : B x) : et_M B W A L b x := fun _ hS => hS.1 x hx h
theorem et_M_s {B : Nat → Prop} {W : Nat → Nat → Prop} {A : Nat → Prop} {L : Nat → Nat → Prop} {b x e t : Nat} (he : e < 48) (hM : et_M B W A L b e) (hA : A e) (hb : ¬ e = b) (hL : L e t) (hx : x < 48) (h : W x t) : et_M B W A L b x :=
  fun S hS => hS.2 e t he (hM S hS) hA hb hL x hx h
def et_F (B : Nat → Prop) (W : Nat → Nat → Prop) (A : Nat → Prop) (L : Nat → Nat → Prop) (b x : Nat) : Prop := et_M B W A L b x ∧ ¬ (A x ∧ ¬ x = b)
end
section
theorem et_nz {x : Int32} : ¬ x = 0 ↔ ∃ i, i < 32 ∧ bt x i = true := by
  constructor
  · intro h
    apply Classical.byContradiction
    intro hn
    apply h
    apply b_ext
    intro i hi
    rw [b_0]
    cases hb : bt x i with
    | false => rfl
    | true => exact (hn ⟨i, hi, hb⟩).elim
  · rintro ⟨i, _, hb⟩ h
    rw [h, b_0] at hb
    exact absurd hb (by decide)
theorem et_b1 : ∀ i, i < 32 → bt 1 i = decide (i = 0) := by decide +kernel
theorem et_sh1 (x : Int32) {v : Nat} (hv : v < 32) : (x >>> (nI v &&& 31)) &&& 1 = if bt x v = true then 1 else 0 := by
  apply b_ext
  intro i hi
  rw [b_and, et_b1 i hi, b_sshr v hv x hi]
  by_cases h0 : i = 0
  · subst h0
    rw [if_pos (by omega)]
    cases hb : bt x v with
    | false => simp [hb, b_0]
    | true => simp [hb]; rfl
  · cases hb : bt x v with
    | false => simp [h0, b_0]
    | true => simp [h0, et_b1 i hi]
theorem et_1s {v i : Nat} (hv : v < 32) (hi : i < 32) : bt ((1 : Int32) <<< (nI v &&& 31)) i = decide (i = v) := by
  rw [b_shl v hv 1 hi, et_b1 _ (by omega)]
  rw [Bool.eq_iff_iff]
  simp only [Bool.and_eq_true, decide_eq_true_eq]
  omega
theorem et_bit {x : Int32} {v : Nat} (hv : v < 32) : x &&& ((1 : Int32) <<< (nI v &&& 31)) = 0 ↔ ¬ bt x v = true := by
  constructor
  · intro h hb
    have : bt (x &&& ((1 : Int32) <<< (nI v &&& 31))) v = true := by rw [b_and, et_1s hv hv, hb]; simp
    rw [h, b_0] at this
    exact absurd this (by decide)
  · intro hb
    apply Classical.byContradiction
    intro hn
    obtain ⟨i, hi, h⟩ := et_nz.mp hn
    rw [b_and, et_1s hv hi, Bool.and_eq_true, decide_eq_true_eq] at h
    exact hb (h.2 ▸ h.1)
def et_V (x : Int32) : Prop := ∀ i, 16 ≤ i → bt x i = false
theorem et_V0 : et_V 0 := fun i _ => b_0 i
theorem et_Vx {x : Int32} {v : Nat} (h : et_V x) (hv : v < 16) : et_V (x ^^^ ((1 : Int32) <<< (nI v &&& 31))) := by
  intro i hi
  by_cases h2 : i < 32
  · rw [b_xor, h i hi, et_1s (by omega) h2, decide_eq_false (by omega)]
    rfl
  · exact b_big (by omega)
def et_cond (kd nu : Int32) (v : Nat) : Prop := kd = 0 ∨ (kd = 1 ∧ nI v = nu) ∨ (kd = 2 ∧ nu ≤ nI v) ∨ (kd = 3 ∧ nI v ≤ nu)
def et_hit (x kd nu : Int32) (j : Nat) : Prop := ∃ v, v < j ∧ bt x v = true ∧ et_cond kd nu v
theorem et_hm {x m kd nu : Int32} (hx : et_V x) (hm : ∀ i, i < 16 → (bt m i = true ↔ et_cond kd nu i)) : ¬ x &&& m = 0 ↔ et_hit x kd nu 16 := by
  rw [et_nz]
  constructor
  · rintro ⟨i, hi, h⟩
    rw [b_and, Bool.and_eq_true] at h
    have h16 : i < 16 := by
      apply Classical.byContradiction
      intro hn
      rw [hx i (by omega)] at h
      exact absurd h.1 (by decide)
    exact ⟨i, h16, h.1, (hm i h16).mp h.2⟩
  · rintro ⟨i, hi, h1, h2⟩
    exact ⟨i, by omega, by rw [b_and, h1, (hm i hi).mpr h2]; rfl⟩
theorem et_ki : ¬ (0 : Int32) = 1 ∧ ¬ (0 : Int32) = 2 ∧ ¬ (0 : Int32) = 3 ∧ ¬ (1 : Int32) = 0 ∧ ¬ (1 : Int32) = 2 ∧ ¬ (1 : Int32) = 3 ∧ ¬ (2 : Int32) = 0 ∧ ¬ (2 : Int32) = 1 ∧ ¬ (2 : Int32) = 3 ∧ ¬ (3 : Int32) = 0 ∧ ¬ (3 : Int32) = 1 ∧ ¬ (3 : Int32) = 2 := by decide
theorem et_mk0 {nu : Int32} : ∀ i, i < 16 → (bt (-1) i = true ↔ et_cond 0 nu i) := fun i hi => ⟨fun _ => Or.inl rfl, fun _ => b_m1 i (by omega)⟩
theorem et_mk1 {w : Nat} (hw : w < 16) : ∀ i, i < 16 → (bt ((1 : Int32) <<< (nI w &&& 31)) i = true ↔ et_cond 1 (nI w) i) := by
  intro i hi
  rw [et_1s (by omega) (by omega), decide_eq_true_eq]
  constructor
  · intro h
    exact Or.inr (Or.inl ⟨rfl, by rw [h]⟩)
  · intro h
    rcases h with h | h | h | h
    · exact absurd h (by decide)
    · exact (nI_eq (by omega) (by omega)).mp h.2
    · exact absurd h.1 (by decide)
    · exact absurd h.1 (by decide)
theorem et_mk2 {w : Nat} (hw : w < 16) : ∀ i, i < 16 → (bt ((-1 : Int32) <<< (nI w &&& 31)) i = true ↔ et_cond 2 (nI w) i) := by
  intro i hi
  rw [b_shl w (by omega) _ (by omega), b_m1 _ (by omega), Bool.and_true, decide_eq_true_eq]
  constructor
  · intro h
    exact Or.inr (Or.inr (Or.inl ⟨rfl, (nI_leI (by omega) (by omega)).mpr h⟩))
  · intro h
    rcases h with h | h | h | h
    · exact absurd h (by decide)
    · exact absurd h.1 (by decide)
    · exact (nI_leI (by omega) (by omega)).mp h.2
    · exact absurd h.1 (by decide)
theorem et_m3 : ∀ w, w < 16 → ∀ i, i < 16 → bt (((2 : Int32) <<< (nI w &&& 31)) - 1) i = decide (i ≤ w) := by decide +kernel
theorem et_mk3 {w : Nat} (hw : w < 16) : ∀ i, i < 16 → (bt (((2 : Int32) <<< (nI w &&& 31)) - 1) i = true ↔ et_cond 3 (nI w) i) := by
  intro i hi
  rw [et_m3 w hw i hi, decide_eq_true_eq]
  constructor
  · intro h
    exact Or.inr (Or.inr (Or.inr ⟨rfl, (nI_leI (by omega) (by omega)).mpr h⟩))
  · intro h
    rcases h with h | h | h | h
    · exact absurd h (by decide)
    · exact absurd h.1 (by decide)
    · exact absurd h.1 (by decide)
    · exact (nI_leI (by omega) (by omega)).mp h.2
end
section
noncomputable def et_if (P : Prop) (a b : Int32) : Int32 := @ite Int32 P (Classical.propDecidable P) a b
theorem et_if_t {P : Prop} {a b : Int32} (h : P) : et_if P a b = a := by unfold et_if; rw [if_pos h]
theorem et_if_f {P : Prop} {a b : Int32} (h : ¬ P) : et_if P a b = b := by unfold et_if; rw [if_neg h]
/-! who may read -/
def et_mr (par rs : Nat → Int32) (o : Nat) : Nat → Int32 → Prop
  | 0, _ => True
  | f + 1, x => x < 0 ∨ (rs (x.toNatClampNeg * 24 + o) = 0 ∧ et_mr par rs o f (par x.toNatClampNeg)) ∨ rs (x.toNatClampNeg * 24 + o) = 2
theorem et_mr_n {par rs : Nat → Int32} {o : Nat} : ∀ f, et_mr par rs o f (-1)
  | 0 => trivial
  | _ + 1 => Or.inl et_m1.2.1
theorem et_mr_e {par rs : Nat → Int32} {o f e : Nat} (he : e < 48) : et_mr par rs o (f + 1) (nI e) ↔ (rs (e * 24 + o) = 0 ∧ et_mr par rs o f (par e)) ∨ rs (e * 24 + o) = 2 := by
  simp only [et_mr]
  rw [et_cl he]
  exact ⟨fun z => z.elim (fun q => absurd q (et_nn he)) id, Or.inr⟩
/-! how deep -/
def et_dp (par : Nat → Int32) : Nat → Int32 → Nat
  | 0, _ => 0
  | f + 1, x => if x < 0 then 0 else et_dp par f (par x.toNatClampNeg) + 1
theorem et_dp_n {par : Nat → Int32} : ∀ f, et_dp par f (-1) = 0
  | 0 => rfl
  | _ + 1 => if_pos et_m1.2.1
theorem et_dp_e {par : Nat → Int32} {f e : Nat} (he : e < 48) : et_dp par (f + 1) (nI e) = et_dp par f (par e) + 1 := by
  simp only [et_dp]
  rw [if_neg (et_nn he), et_cl he]
theorem et_dp_le {par : Nat → Int32} : ∀ f x, et_dp par f x ≤ f
  | 0, _ => Nat.le_refl _
  | f + 1, x => by
    simp only [et_dp]
    split
    · omega
    · have := et_dp_le (par := par) f (par x.toNatClampNeg)
      omega
/-! the stack of truths -/
def et_op (kd : Nat → Int32) (j : Nat) : Nat := if kd j = 4 ∨ kd j = 5 then 2 else if kd j = 6 then 1 else 0
def et_run (kd pv : Nat → Int32) : Nat → (Nat → Int32) → Nat → (Nat → Int32)
  | 0, st, _ => st
  | j + 1, st, h =>
    if kd j = 6 then et_run kd pv j (upd st (h - 1) (2 - st (h - 1))) h
    else if kd j = 4 then et_run kd pv j (upd st (h - 2) (if st (h - 1) < st (h - 2) then st (h - 1) else st (h - 2))) (h - 1)
    else if kd j = 5 then et_run kd pv j (upd st (h - 2) (if st (h - 2) < st (h - 1) then st (h - 1) else st (h - 2))) (h - 1)
    else et_run kd pv j (upd st h (pv j)) (h + 1)
theorem et_upd_same {st : Nat → Int32} {k : Nat} : upd st k (st k) = st := by
  funext j
  by_cases h : j = k
  · subst h; exact pk_us
  · exact pk_un h
noncomputable def et_pv (par rs vb kd xa xn : Nat → Int32) (g e i : Nat) : Int32 :=
  et_if (et_mr par rs (g * 6 + (xa i).toNatClampNeg) 48 (nI e)) (et_if (et_hit (vb (e * 6 + (xa i).toNatClampNeg)) (kd i) (xn i) 16) 2 0) 1
noncomputable def et_col (F : Nat → Prop) (rn : Nat → (Nat → Int32) → (Nat → Int32)) (st : Nat → Int32) : Nat → (Nat → Int32)
  | 0 => st
  | e + 1 => @ite (Nat → Int32) (F e) (Classical.propDecidable (F e)) (rn e (et_col F rn st e)) (et_col F rn st e)
theorem et_col_t {F : Nat → Prop} {rn : Nat → (Nat → Int32) → (Nat → Int32)} {st : Nat → Int32} {e : Nat} (h : F e) : et_col F rn st (e + 1) = rn e (et_col F rn st e) := by
  simp only [et_col]; rw [if_pos h]
theorem et_col_f {F : Nat → Prop} {rn : Nat → (Nat → Int32) → (Nat → Int32)} {st : Nat → Int32} {e : Nat} (h : ¬ F e) : et_col F rn st (e + 1) = et_col F rn st e := by
  simp only [et_col]; rw [if_neg h]
def et_fi (F : Nat → Prop) (rn : Nat → (Nat → Int32) → (Nat → Int32)) (st : Nat → Int32) (e : Nat) : Prop := F e ∧ rn e (et_col F rn st e) 0 = 2
/-! what both sides keep -/
def et_Tk (n : Nat) (kd xa ya xn yn : Nat → Int32) : Prop := n ≤ 12 ∧ ∀ i, i < n → ∃ q, q < 7 ∧ kd i = nI q ∧ (q < 4 → ∃ a, a < 6 ∧ xa i = nI a ∧ ya i = nI a) ∧ (1 ≤ q → q < 4 → ∃ w, w < 16 ∧ xn i = nI w ∧ yn i = nI w)
def et_Ru (t rs ru : Nat → Int32) : Prop := (∀ e, e < 48 → t e = 0 → ∀ j, j < 24 → rs (e * 24 + j) = 0) ∧ ∀ e, e < 48 → ¬ t e = 0 → ∀ j, j < 24 → ∃ w, w < 3 ∧ rs (e * 24 + j) = nI w ∧ ru (e * 24 + j) = nI w - 1
def et_Va (t vb se : Nat → Int32) : Prop := (∀ e, e < 48 → t e = 0 → ∀ j, j < 6 → vb (e * 6 + j) = 0) ∧ ∀ e, e < 48 → ¬ t e = 0 → ∀ j, j < 6 → et_V (vb (e * 6 + j)) ∧ se (e * 6 + j) = vb (e * 6 + j)
def et_Fd (fc : Int32) (fe fa : Nat → Int32) : Prop := fc = nI (et_cn (fun e => ¬ fa e = 0) 48) ∧ ∀ e, e < 48 → ¬ fa e = 0 → fe (et_cn (fun e => ¬ fa e = 0) e) = nI e
def et_Se (t s : Nat → Int32) (n : Nat) : Prop := n ≤ 1000000000 ∧ et_Dis t s ∧ ∀ e, e < 48 → ¬ t e = 0 → ∃ m, m ≤ n ∧ s e = nI m
end
section
section
variable {B : Nat → Prop} {W : Nat → Nat → Prop} {A : Nat → Prop} {L : Nat → Nat → Prop} {b : Nat}
theorem et_yF {sr gn : Nat → Int32} (h1 : ∀ x, x < 48 → ¬ sr x = 0 → et_M B W A L b x) (h2 : ∀ x, x < 48 → B x → ¬ sr x = 0)
    (h3 : ∀ e, e < 48 → ¬ gn e = 0 → A e ∧ ¬ e = b) (h4 : ∀ e, e < 48 → ¬ gn e = 0 → ∀ t, L e t → ∀ x, x < 48 → W x t → ¬ sr x = 0)
    (h5 : ∀ e, e < 48 → ¬ sr e = 0 → A e → ¬ e = b → ¬ gn e = 0) : ∀ x, x < 48 → ((¬ sr x = 0 ∧ gn x = 0) ↔ et_F B W A L b x) := by
  intro x hx
  have cl : et_Cl B W A L b (fun x => ¬ sr x = 0) := ⟨h2, fun e t he hs hA hb hL x hx hw => h4 e he (h5 e he hs hA hb) t hL x hx hw⟩
  constructor
  · rintro ⟨p, q⟩
    exact ⟨h1 x hx p, fun z => h5 x hx p z.1 z.2 q⟩
  · rintro ⟨p, q⟩
    refine ⟨p _ cl, ?_⟩
    apply Classical.byContradiction
    intro z
    exact q (h3 x hx z)
def et_PX (W : Nat → Nat → Prop) (A : Nat → Prop) (L : Nat → Nat → Prop) (b : Nat) (sr it : Nat → Int32) (t N : Nat) : Prop :=
  ∀ x, x < N → W x t → (A x → ¬ x = b → ∀ s, L x s → ¬ it s = 0) ∧ (¬ (A x ∧ ¬ x = b) → ¬ sr x = 0)
def et_QX (B : Nat → Prop) (W : Nat → Nat → Prop) (A : Nat → Prop) (L : Nat → Nat → Prop) (b c : Nat) (sr it tp : Nat → Int32) : Prop :=
  c = et_cn (fun e => ¬ it e = 0) 48 ∧ (∀ k, k < c → ∃ t, t < 48 ∧ tp k = nI t ∧ ¬ it t = 0) ∧ (∀ t, t < 48 → ¬ it t = 0 → ∃ k, k < c ∧ tp k = nI t) ∧
  (∀ t, t < 48 → ¬ it t = 0 → ∀ x, x < 48 → W x t → et_M B W A L b x) ∧ (∀ x, x < 48 → ¬ sr x = 0 → et_F B W A L b x)
theorem et_xF {sr it : Nat → Int32} (hB : ∀ x, x < 48 → B x → W x b) (hb : b < 48) (hL : ∀ e s, L e s → s < 48) (h1 : ∀ x, x < 48 → ¬ sr x = 0 → et_F B W A L b x) (h2 : ¬ it b = 0)
    (h3 : ∀ t, t < 48 → ¬ it t = 0 → et_PX W A L b sr it t 48) : ∀ x, x < 48 → (¬ sr x = 0 ↔ et_F B W A L b x) := by
  intro x hx
  have cl : et_Cl B W A L b (fun x => ∃ t, t < 48 ∧ ¬ it t = 0 ∧ W x t) := by
    refine ⟨fun x hx hb' => ⟨b, hb, h2, hB x hx hb'⟩, ?_⟩
    rintro e t he ⟨t', ht', it', wt'⟩ hA hne hLe x hx hw
    exact ⟨t, hL _ _ hLe, (h3 t' ht' it' e he wt').1 hA hne t hLe, hw⟩
  constructor
  · exact h1 x hx
  · rintro ⟨p, q⟩
    obtain ⟨t, ht, itt, wt⟩ := p _ cl
    exact (h3 t ht itt x hx wt).2 q
theorem et_PX_m {sr it sr' it' : Nat → Int32} {t N : Nat} (h : et_PX W A L b sr it t N) (h1 : ∀ x, ¬ sr x = 0 → ¬ sr' x = 0) (h2 : ∀ x, ¬ it x = 0 → ¬ it' x = 0) : et_PX W A L b sr' it' t N :=
  fun x hx hw => ⟨fun a c s l => h2 _ ((h x hx hw).1 a c s l), fun z => h1 _ ((h x hx hw).2 z)⟩
theorem et_PX_s {sr it : Nat → Int32} {t N : Nat} (h : et_PX W A L b sr it t N) (hn : W N t → (A N → ¬ N = b → ∀ s, L N s → ¬ it s = 0) ∧ (¬ (A N ∧ ¬ N = b) → ¬ sr N = 0)) : et_PX W A L b sr it t (N + 1) := by
  intro x hx hw
  by_cases e : x = N
  · subst e; exact hn hw
  · exact h x (by omega) hw
theorem et_u1 {f : Nat → Int32} {k x : Nat} (h : ¬ f x = 0) : ¬ upd f k 1 x = 0 := by
  by_cases e : x = k
  · subst e; rw [pk_us]; decide
  · rw [pk_un e]; exact h
theorem et_u1k {f : Nat → Int32} {k : Nat} : ¬ upd f k 1 k = 0 := by rw [pk_us]; decide
theorem et_u1i {f : Nat → Int32} {k x : Nat} : ¬ upd f k 1 x = 0 ↔ x = k ∨ ¬ f x = 0 := by
  by_cases e : x = k
  · subst e; exact ⟨fun _ => Or.inl rfl, fun _ => et_u1k⟩
  · rw [pk_un e]; exact ⟨Or.inr, fun z => z.elim (fun q => absurd q e) id⟩
theorem et_QX_q {c : Nat} {sr it tp : Nat → Int32} (h : et_QX B W A L b c sr it tp) {t : Nat} (ht : t < 48) (h0 : it t = 0) (hG : ∀ x, x < 48 → W x t → et_M B W A L b x) :
    c < 48 ∧ et_QX B W A L b (c + 1) sr (upd it t 1) (upd tp c (nI t)) := by
  obtain ⟨h1, h2, h3, h4, h5⟩ := h
  have hc : c < 48 := by rw [h1]; exact et_cn_ltn t ht (fun z => z h0)
  refine ⟨hc, ?_, fun k hk => ?_, fun s hs is => ?_, fun s hs is x hx hw => ?_, h5⟩
  · rw [h1, ← et_cn_ins (P := fun e => ¬ it e = 0) t ht (fun z => z h0)]
    exact et_cn_congr fun k _ => et_u1i.symm
  · by_cases e : k = c
    · subst e; exact ⟨t, ht, pk_us, et_u1k⟩
    · obtain ⟨s, hs, es, is⟩ := h2 k (by omega)
      exact ⟨s, hs, by rw [pk_un e]; exact es, et_u1 is⟩
  · rcases et_u1i.mp is with e | e
    · subst e; exact ⟨c, by omega, pk_us⟩
    · obtain ⟨k, hk, ek⟩ := h3 s hs e
      exact ⟨k, by omega, by rw [pk_un (by omega)]; exact ek⟩
  · rcases et_u1i.mp is with e | e
    · subst e; exact hG x hx hw
    · exact h4 s hs e x hx hw
theorem et_QX_r {c : Nat} {sr it tp : Nat → Int32} (h : et_QX B W A L b c sr it tp) {e : Nat} (hF : et_F B W A L b e) : et_QX B W A L b c (upd sr e 1) it tp := by
  obtain ⟨h1, h2, h3, h4, h5⟩ := h
  refine ⟨h1, h2, h3, h4, fun x hx hs => ?_⟩
  rcases et_u1i.mp hs with q | q
  · subst q; exact hF
  · exact h5 x hx q
end
end
section
theorem et_ge {e : Nat} (h : e < 48) : ¬ (48 : Int32) ≤ nI e := nI_ge (b := 48) h (by decide)
theorem et_le48 : (48 : Int32) ≤ nI 48 := by decide
theorem et_in {e : Nat} (h : e < 48) : vp_in (nI e) 48 := vp_in_nI h (by omega)
theorem et_bo : vp_nar .boolean 1 = 1 ∧ vp_nar .boolean 0 = 0 := by decide
theorem et_10 : ¬ (1 : Int32) = 0 := by decide
theorem et_i6 (e j : Nat) : nI e * 6 + nI j = nI (e * 6 + j) := by
  rw [show (6 : Int32) = nI 6 from rfl, pk_mul, nI_add]
theorem et_i6' (e j : Nat) : 6 * nI e + nI j = nI (e * 6 + j) := by
  rw [show (6 : Int32) = nI 6 from rfl, pk_mul, nI_add, Nat.mul_comm 6 e]
theorem et_i24 (e j : Nat) : nI e * 24 + nI j = nI (e * 24 + j) := by
  rw [show (24 : Int32) = nI 24 from rfl, pk_mul, nI_add]
theorem et_i24' (e j : Nat) : 24 * nI e + nI j = nI (e * 24 + j) := by
  rw [show (24 : Int32) = nI 24 from rfl, pk_mul, nI_add, Nat.mul_comm 24 e]
theorem et_i3 (e g a : Nat) : nI e * 24 + nI g * 6 + nI a = nI (e * 24 + (g * 6 + a)) := by
  rw [show (24 : Int32) = nI 24 from rfl, show (6 : Int32) = nI 6 from rfl, pk_mul, pk_mul, nI_add, nI_add, Nat.add_assoc]
theorem et_i3' (e g a : Nat) : 24 * nI e + 6 * nI g + nI a = nI (e * 24 + (g * 6 + a)) := by
  rw [show (24 : Int32) = nI 24 from rfl, show (6 : Int32) = nI 6 from rfl, pk_mul, pk_mul, nI_add, nI_add, Nat.add_assoc, Nat.mul_comm 24 e, Nat.mul_comm 6 g]
def et_is (t : Nat → Int32) (p : Int32) : Prop := ∃ e, e < 48 ∧ p = nI e ∧ ¬ t e = 0
def et_rg (n : Nat) (p : Int32) : Prop := ∃ a, a < n ∧ p = nI a
theorem et_rg_f {n : Nat} (hn : n < 2 ^ 31) {p : Int32} (h : ¬ et_rg n p) {A B : Prop} (k : A) : (p < 0 → A) ∧ (¬ p < 0 → (nI n ≤ p → A) ∧ (¬ nI n ≤ p → B)) := by
  rcases pk_ix p hn with h1 | h1 | ⟨j, h1, h2⟩
  · exact br_t h1 k
  · exact br_c (fun _ => k) (fun _ => br_t h1 k)
  · exact (h ⟨j, h1, h2⟩).elim
theorem et_rg_t {n a : Nat} (hn : n < 2 ^ 31) (h : a < n) {A B : Prop} (k : B) : (nI a < 0 → A) ∧ (¬ nI a < 0 → (nI n ≤ nI a → A) ∧ (¬ nI n ≤ nI a → B)) :=
  br_f (nI_pos (by omega)) (br_f (nI_ge h hn) k)
/-! the first that bears a name -/
def et_fn (t par nm : Nat → Int32) (p q : Int32) : Nat → Nat → Int32
  | 0, _ => -1
  | d + 1, e => if ¬ t e = 0 ∧ par e = p ∧ nm e = q then nI e else et_fn t par nm p q d (e + 1)
theorem et_fn_c {t par nm : Nat → Int32} {p q : Int32} : ∀ d e, e + d ≤ 48 → et_fn t par nm p q d e = -1 ∨ ∃ a, a < 48 ∧ et_fn t par nm p q d e = nI a
  | 0, _, _ => Or.inl rfl
  | d + 1, e, h => by
    simp only [et_fn]
    by_cases c : ¬ t e = 0 ∧ par e = p ∧ nm e = q
    · rw [if_pos c]; exact Or.inr ⟨e, by omega, rfl⟩
    · rw [if_neg c]; exact et_fn_c d (e + 1) (by omega)
theorem et_fn_0 {t par nm : Nat → Int32} {p q : Int32} (h : ¬ par 0 = p) : et_fn t par nm p q 48 0 = et_fn t par nm p q 47 1 := if_neg (fun z => h z.2.1)
section
variable {zs zn tc fc : Int32} {t par nm al s vb rs kd xa xn st xs it tp fe : Nat → Int32}
theorem xw_sp_t {post : Int32 → Prop} (h : zs < 1000000000) (k : post 0) : wpX_serialIsSpent post (zs, zn, tc, fc, t, par, nm, al, s, vb, rs, kd, xa, xn, st, xs, it, tp, fe) := br_t h k
theorem xw_sp_f {post : Int32 → Prop} (h : ¬ zs < 1000000000) (k : post 1) : wpX_serialIsSpent post (zs, zn, tc, fc, t, par, nm, al, s, vb, rs, kd, xa, xn, st, xs, it, tp, fe) := br_f h k
theorem xw_is_t {post : Int32 → Prop} {e : Nat} (he : e < 48) (te : ¬ t e = 0) (k : post 1) : wpX_isThere post (zs, zn, tc, fc, t, par, nm, al, s, vb, rs, kd, xa, xn, st, xs, it, tp, fe) (nI e) :=
  br_f (et_nn he) (br_f (et_ge he) ⟨et_in he, br_f (by rw [et_cl he]; exact te) k⟩)
theorem xw_is_f {post : Int32 → Prop} {p : Int32} (h : ¬ et_is t p) (k : post 0) : wpX_isThere post (zs, zn, tc, fc, t, par, nm, al, s, vb, rs, kd, xa, xn, st, xs, it, tp, fe) p := by
  rcases pk_ix p (n := 48) (by omega) with h1 | h1 | ⟨j, h1, rfl⟩
  · exact br_t h1 k
  · exact br_c (fun _ => k) (fun _ => br_t h1 k)
  · have tj : t j = 0 := Classical.byContradiction fun z => h ⟨j, h1, rfl, z⟩
    exact br_f (et_nn h1) (br_f (et_ge h1) ⟨et_in h1, br_t (by rw [et_cl h1]; exact tj) k⟩)
theorem xw_al_t {post : Int32 → Prop} {e : Nat} (he : e < 48) (ha : ¬ al e = -1) (k : post 1) : wpX_isAlias post (zs, zn, tc, fc, t, par, nm, al, s, vb, rs, kd, xa, xn, st, xs, it, tp, fe) (nI e) :=
  ⟨et_in he, br_f (by rw [et_cl he]; exact ha) k⟩
theorem xw_al_f {post : Int32 → Prop} {e : Nat} (he : e < 48) (ha : al e = -1) (k : post 0) : wpX_isAlias post (zs, zn, tc, fc, t, par, nm, al, s, vb, rs, kd, xa, xn, st, xs, it, tp, fe) (nI e) :=
  ⟨et_in he, br_t (by rw [et_cl he]; exact ha) k⟩
theorem xw_at_t {post : Int32 → Prop} {a : Nat} (h : a < 6) (k : post 1) : wpX_isAttribute post (zs, zn, tc, fc, t, par, nm, al, s, vb, rs, kd, xa, xn, st, xs, it, tp, fe) (nI a) := et_rg_t (n := 6) (by omega) h k
theorem xw_at_f {post : Int32 → Prop} {p : Int32} (h : ¬ et_rg 6 p) (k : post 0) : wpX_isAttribute post (zs, zn, tc, fc, t, par, nm, al, s, vb, rs, kd, xa, xn, st, xs, it, tp, fe) p := et_rg_f (n := 6) (by omega) h k
theorem xw_va_t {post : Int32 → Prop} {a : Nat} (h : a < 16) (k : post 1) : wpX_isValue post (zs, zn, tc, fc, t, par, nm, al, s, vb, rs, kd, xa, xn, st, xs, it, tp, fe) (nI a) := et_rg_t (n := 16) (by omega) h k
theorem xw_va_f {post : Int32 → Prop} {p : Int32} (h : ¬ et_rg 16 p) (k : post 0) : wpX_isValue post (zs, zn, tc, fc, t, par, nm, al, s, vb, rs, kd, xa, xn, st, xs, it, tp, fe) p := et_rg_f (n := 16) (by omega) h k
theorem xw_gr_t {post : Int32 → Prop} {a : Nat} (h : a < 4) (k : post 1) : wpX_isGroup post (zs, zn, tc, fc, t, par, nm, al, s, vb, rs, kd, xa, xn, st, xs, it, tp, fe) (nI a) := et_rg_t (n := 4) (by omega) h k
theorem xw_gr_f {post : Int32 → Prop} {p : Int32} (h : ¬ et_rg 4 p) (k : post 0) : wpX_isGroup post (zs, zn, tc, fc, t, par, nm, al, s, vb, rs, kd, xa, xn, st, xs, it, tp, fe) p := et_rg_f (n := 4) (by omega) h k
theorem xw_named_l {p q : Int32} : ∀ d e n, e + d = 48 → d < n → ∀ post : Int32 → Prop, post (et_fn t par nm p q d e) → wX_entryNamed_2 post p q zs zn tc fc t par nm al s vb rs kd xa xn st xs it tp fe n (nI e) := by
  intro d
  induction d with
  | zero =>
    intro e n he hn post hp
    obtain ⟨n, rfl⟩ : ∃ m, n = m + 1 := ⟨n - 1, by omega⟩
    obtain rfl : e = 48 := by omega
    exact br_t et_le48 hp
  | succ d ih =>
    intro e n he hn post hp
    obtain ⟨n, rfl⟩ : ∃ m, n = m + 1 := ⟨n - 1, by omega⟩
    have h : e < 48 := by omega
    have nx := ih (e + 1) n (by omega) (by omega) post
    simp only [et_fn] at hp
    simp only [wX_entryNamed_2, et_cl h, et_ge h, et_in h, forall_eq, nI_1, true_and, and_true, not_false_iff, not_true, true_implies, false_implies]
    by_cases a : t e = 0
    · rw [if_neg (fun z => z.1 a)] at hp
      exact br_t a (nx hp)
    · by_cases b : par e = p
      · by_cases c : nm e = q
        · rw [if_pos ⟨a, b, c⟩] at hp
          exact br_f a (br_t b (br_t c hp))
        · rw [if_neg (fun z => c z.2.2)] at hp
          exact br_f a (br_t b (br_f c (nx hp)))
      · rw [if_neg (fun z => b z.2.1)] at hp
        exact br_f a (br_f b (nx hp))
theorem xw_named {post : Int32 → Prop} {p q : Int32} (k : post (et_fn t par nm p q 48 0)) : wpX_entryNamed post (zs, zn, tc, fc, t, par, nm, al, s, vb, rs, kd, xa, xn, st, xs, it, tp, fe) p q := ⟨49, xw_named_l 48 0 49 rfl (by omega) post k⟩
theorem xw_free_f {post : Int32 → Prop} (h : ∀ j, j < 48 → ¬ t j = 0) (k : post (-1)) : wpX_leastFree post (zs, zn, tc, fc, t, par, nm, al, s, vb, rs, kd, xa, xn, st, xs, it, tp, fe) := by
  have key : ∀ d e n, e + d = 48 → d < n → wX_leastFree_2 post zs zn tc fc t par nm al s vb rs kd xa xn st xs it tp fe n (nI e) := by
    intro d
    induction d with
    | zero =>
      intro e n he hn
      obtain ⟨n, rfl⟩ : ∃ m, n = m + 1 := ⟨n - 1, by omega⟩
      obtain rfl : e = 48 := by omega
      exact br_t et_le48 k
    | succ d ih =>
      intro e n he hn
      obtain ⟨n, rfl⟩ : ∃ m, n = m + 1 := ⟨n - 1, by omega⟩
      have h1 : e < 48 := by omega
      simp only [wX_leastFree_2, et_cl h1, et_ge h1, et_in h1, forall_eq, nI_1, true_and, and_true, not_false_iff, not_true, true_implies, false_implies]
      exact br_f (h e h1) (ih (e + 1) n (by omega) (by omega))
  exact ⟨49, key 48 0 49 rfl (by omega)⟩
theorem xw_free_t {post : Int32 → Prop} {f : Nat} (hf : f < 48) (tf : t f = 0) (h : ∀ j, j < f → ¬ t j = 0) (k : post (nI f)) : wpX_leastFree post (zs, zn, tc, fc, t, par, nm, al, s, vb, rs, kd, xa, xn, st, xs, it, tp, fe) := by
  have key : ∀ d e n, e + d = f → d < n → wX_leastFree_2 post zs zn tc fc t par nm al s vb rs kd xa xn st xs it tp fe n (nI e) := by
    intro d
    induction d with
    | zero =>
      intro e n he hn
      obtain ⟨n, rfl⟩ : ∃ m, n = m + 1 := ⟨n - 1, by omega⟩
      obtain rfl : e = f := by omega
      simp only [wX_leastFree_2, et_cl hf, et_ge hf, et_in hf, forall_eq, nI_1, true_and, and_true, not_false_iff, not_true, true_implies, false_implies]
      exact br_t tf k
    | succ d ih =>
      intro e n he hn
      obtain ⟨n, rfl⟩ : ∃ m, n = m + 1 := ⟨n - 1, by omega⟩
      have h1 : e < 48 := by omega
      simp only [wX_leastFree_2, et_cl h1, et_ge h1, et_in h1, forall_eq, nI_1, true_and, and_true, not_false_iff, not_true, true_implies, false_implies]
      exact br_f (h e (by omega)) (ih (e + 1) n (by omega) (by omega))
  exact ⟨f + 1, key f 0 (f + 1) (by omega) (by omega)⟩
theorem xw_stamp {post : SX → Prop} {e : Nat} (he : e < 48) (k : post (zs + 1, zn, tc, fc, t, par, nm, al, upd s e (zs + 1), vb, rs, kd, xa, xn, st, xs, it, tp, fe)) : wpX_stamp post (zs, zn, tc, fc, t, par, nm, al, s, vb, rs, kd, xa, xn, st, xs, it, tp, fe) (nI e) := by
  simp only [wpX_stamp, et_cl he, et_in he, forall_eq, nI_1, true_and, and_true, not_false_iff, not_true, true_implies, false_implies]
  exact k
theorem xw_under {post : Int32 → Prop} {p : Int32} (k : post (nI (et_cn (fun e => ¬ t e = 0 ∧ par e = p) 48))) : wpX_countUnder post (zs, zn, tc, fc, t, par, nm, al, s, vb, rs, kd, xa, xn, st, xs, it, tp, fe) p := by
  have key : ∀ d e n, e + d = 48 → d < n → wX_countUnder_4 post p zs zn tc fc t par nm al s vb rs kd xa xn st xs it tp fe n (nI (et_cn (fun e => ¬ t e = 0 ∧ par e = p) e)) (nI e) := by
    intro d
    induction d with
    | zero =>
      intro e n he hn
      obtain ⟨n, rfl⟩ : ∃ m, n = m + 1 := ⟨n - 1, by omega⟩
      obtain rfl : e = 48 := by omega
      exact br_t et_le48 k
    | succ d ih =>
      intro e n he hn
      obtain ⟨n, rfl⟩ : ∃ m, n = m + 1 := ⟨n - 1, by omega⟩
      have h1 : e < 48 := by omega
      have nx := ih (e + 1) n (by omega) (by omega)
      simp only [et_cn] at nx
      simp only [wX_countUnder_4, et_cl h1, et_ge h1, et_in h1, forall_eq, nI_1, true_and, and_true, not_false_iff, not_true, true_implies, false_implies]
      by_cases a : t e = 0
      · rw [et_b_f (fun z => z.1 a)] at nx
        exact br_t a nx
      · by_cases b : par e = p
        · rw [et_b_t ⟨a, b⟩] at nx
          exact br_f a (br_t b nx)
        · rw [et_b_f (fun z => b z.2)] at nx
          exact br_f a (br_f b nx)
  exact ⟨49, key 48 0 49 rfl (by omega)⟩
theorem xw_within {post : Int32 → Prop} {e : Nat} {top : Int32} (hT : et_Tree t par) (he : e < 48) (te : ¬ t e = 0)
    (k1 : nI e = top ∨ et_wi par top 47 (par e) → post 1) (k0 : ¬ (nI e = top ∨ et_wi par top 47 (par e)) → post 0) : wpX_isWithin post (zs, zn, tc, fc, t, par, nm, al, s, vb, rs, kd, xa, xn, st, xs, it, tp, fe) (nI e) top := by
  have key : ∀ f x s' n, et_ok t par f x → s' + f = 48 → f < n → (et_wi par top f x → post 1) → (¬ et_wi par top f x → post 0) → wX_isWithin_5 post top zs zn tc fc t par nm al s vb rs kd xa xn st xs it tp fe n x (nI s') := by
    intro f
    induction f with
    | zero =>
      intro x s' n hx hs hn k1 k0
      obtain ⟨n, rfl⟩ : ∃ m, n = m + 1 := ⟨n - 1, by omega⟩
      obtain rfl : s' = 48 := by omega
      exact br_t et_le48 (k0 id)
    | succ f ih =>
      intro x s' n hx hs hn k1 k0
      obtain ⟨n, rfl⟩ : ∃ m, n = m + 1 := ⟨n - 1, by omega⟩
      have h1 : s' < 48 := by omega
      rcases hx with hx | ⟨a, ha, ta, hx, hk⟩
      · subst hx
        exact br_f (et_ge h1) (br_t et_m1.2.1 (k0 (et_wi_m1 _)))
      · subst hx
        rw [et_wi_e ha] at k1 k0
        refine br_f (et_ge h1) (br_f (et_nn ha) ?_)
        by_cases c : nI a = top
        · exact br_t c (k1 (Or.inl c))
        · refine br_f c ⟨et_in ha, ?_⟩
          simp only [et_cl ha, forall_eq, nI_1, true_and, and_true, not_false_iff, not_true, true_implies, false_implies]
          exact ih _ (s' + 1) n hk (by omega) (by omega) (fun z => k1 (Or.inr z)) (fun z => k0 (fun q => q.elim c z))
  exact ⟨49, key 48 _ 0 49 (et_Tree_ok hT he te) rfl (by omega) (fun z => k1 ((et_wi_e he).mp z)) (fun z => k0 (fun q => z ((et_wi_e he).mpr q)))⟩
theorem xw_depth {post : Int32 → Prop} {e : Nat} (hT : et_Tree t par) (he : e < 48) (te : ¬ t e = 0) (k : post (nI (et_dp par 47 (par e)))) : wpX_depthOf post (zs, zn, tc, fc, t, par, nm, al, s, vb, rs, kd, xa, xn, st, xs, it, tp, fe) (nI e) := by
  have key : ∀ f x m s' n, et_ok t par f x → s' + f ≤ 48 → f < n → post (nI (m + et_dp par f x)) → wX_depthOf_12 post zs zn tc fc t par nm al s vb rs kd xa xn st xs it tp fe n (nI m) x (nI s') := by
    intro f
    induction f with
    | zero =>
      intro x m s' n hx hs hn k
      obtain ⟨n, rfl⟩ : ∃ m, n = m + 1 := ⟨n - 1, by omega⟩
      obtain rfl : x = -1 := hx
      exact br_c (fun _ => k) (fun _ => br_t et_m1.2.1 k)
    | succ f ih =>
      intro x m s' n hx hs hn k
      obtain ⟨n, rfl⟩ : ∃ m, n = m + 1 := ⟨n - 1, by omega⟩
      have h1 : s' < 48 := by omega
      rcases hx with hx | ⟨a, ha, ta, hx, hk⟩
      · subst hx
        rw [et_dp_n] at k
        exact br_f (et_ge h1) (br_t et_m1.2.1 k)
      · subst hx
        rw [et_dp_e ha] at k
        refine br_f (et_ge h1) (br_f (et_nn ha) ?_)
        simp only [et_cl ha, et_in ha, forall_eq, nI_1, true_and, and_true, not_false_iff, not_true, true_implies, false_implies]
        exact ih _ (m + 1) (s' + 1) n hk (by omega) (by omega) (by rw [show m + 1 + et_dp par f (par a) = m + (et_dp par f (par a) + 1) from by omega]; exact k)
  refine ⟨et_in he, ?_⟩
  simp only [et_cl he, forall_eq, nI_1, true_and, and_true, not_false_iff, not_true, true_implies, false_implies]
  exact ⟨48, key 47 _ 0 0 48 (et_Tree_par hT he te) (by omega) (by omega) (by rw [Nat.zero_add]; exact k)⟩
theorem xw_leads {post : Int32 → Prop} {e : Nat} (hA : et_Al t al) (he : e < 48) (te : ¬ t e = 0) (k : post (et_ld al 48 (nI e))) : wpX_leadsTo post (zs, zn, tc, fc, t, par, nm, al, s, vb, rs, kd, xa, xn, st, xs, it, tp, fe) (nI e) := by
  have key : ∀ f x s' n, et_vx t x → s' + f = 48 → f < n → post (et_ld al f x) → wX_leadsTo_4 post zs zn tc fc t par nm al s vb rs kd xa xn st xs it tp fe n x (nI s') := by
    intro f
    induction f with
    | zero =>
      intro x s' n hx hs hn k
      obtain ⟨n, rfl⟩ : ∃ m, n = m + 1 := ⟨n - 1, by omega⟩
      obtain rfl : s' = 48 := by omega
      exact br_t et_le48 k
    | succ f ih =>
      intro x s' n hx hs hn k
      obtain ⟨n, rfl⟩ : ∃ m, n = m + 1 := ⟨n - 1, by omega⟩
      have h1 : s' < 48 := by omega
      rcases hx with hx | ⟨a, ha, ta, hx⟩
      · subst hx
        rw [et_ld_n _ _ et_m1.2.2.1] at k
        exact br_f (et_ge h1) (br_t et_m1.2.2.1 k)
      · subst hx
        refine br_f (et_ge h1) (br_f (et_nn ha) ?_)
        by_cases c : al a = -1
        · rw [et_ld_e ha c] at k
          exact xw_al_f ha c (br_t rfl k)
        · rw [et_ld_s ha c] at k
          refine xw_al_t ha c (br_f et_10 ⟨et_in ha, ?_⟩)
          simp only [et_cl ha, forall_eq, nI_1, true_and, and_true, not_false_iff, not_true, true_implies, false_implies]
          exact ih _ (s' + 1) n (et_vx_s hA ha ta c) (by omega) (by omega) k
  exact ⟨49, key 48 _ 0 49 (Or.inr ⟨e, he, te, rfl⟩) rfl (by omega) k⟩
end
end
section
section
variable {zn zs : Int32} {t par nm al s se ru kd ya yn st ys gn fa : Nat → Int32}
theorem yw_in_t {post : Int32 → Prop} {a n : Nat} {N : Int32} (hn : n < 2 ^ 31) (hN : N = nI n) (h : a < n) (k : post 1) : wpY_in post (nI a) N := by
  subst hN
  exact et_rg_t hn h k
theorem yw_in_f {post : Int32 → Prop} {n : Nat} {N p : Int32} (hn : n < 2 ^ 31) (hN : N = nI n) (h : ¬ et_rg n p) (k : post 0) : wpY_in post p N := by
  subst hN
  exact et_rg_f hn h k
theorem yw_is_t {post : Int32 → Prop} {e : Nat} (he : e < 48) (te : ¬ t e = 0) (k : post 1) : wpY_isThere post (zn, zs, t, par, nm, al, s, se, ru, kd, ya, yn, st, ys, gn, fa) (nI e) := by
  unfold wpY_isThere
  refine yw_in_t (n := 48) (by omega) rfl he ?_
  exact br_f et_10 ⟨et_in he, br_f (by rw [et_cl he]; exact te) k⟩
theorem yw_is_f {post : Int32 → Prop} {p : Int32} (h : ¬ et_is t p) (k : post 0) : wpY_isThere post (zn, zs, t, par, nm, al, s, se, ru, kd, ya, yn, st, ys, gn, fa) p := by
  unfold wpY_isThere
  by_cases r : et_rg 48 p
  · obtain ⟨j, h1, rfl⟩ := r
    have tj : t j = 0 := Classical.byContradiction fun z => h ⟨j, h1, rfl, z⟩
    refine yw_in_t (n := 48) (by omega) rfl h1 ?_
    exact br_f et_10 ⟨et_in h1, br_t (by rw [et_cl h1]; exact tj) k⟩
  · refine yw_in_f (n := 48) (by omega) rfl r ?_
    exact br_t rfl k
theorem yw_al_t {post : Int32 → Prop} {e : Nat} (he : e < 48) (ha : ¬ al e = -1) (k : post 1) : wpY_isAlias post (zn, zs, t, par, nm, al, s, se, ru, kd, ya, yn, st, ys, gn, fa) (nI e) :=
  ⟨et_in he, br_f (by rw [et_cl he]; exact ha) k⟩
theorem yw_al_f {post : Int32 → Prop} {e : Nat} (he : e < 48) (ha : al e = -1) (k : post 0) : wpY_isAlias post (zn, zs, t, par, nm, al, s, se, ru, kd, ya, yn, st, ys, gn, fa) (nI e) :=
  ⟨et_in he, br_t (by rw [et_cl he]; exact ha) k⟩
theorem yw_named_l {p q : Int32} : ∀ d e n, e + d = 48 → d < n → ∀ post : Int32 → Prop, post (et_fn t par nm p q d e) → wY_child_12 post p q zn zs t par nm al s se ru kd ya yn st ys gn fa n (nI e) := by
  intro d
  induction d with
  | zero =>
    intro e n he hn post hp
    obtain ⟨n, rfl⟩ : ∃ m, n = m + 1 := ⟨n - 1, by omega⟩
    obtain rfl : e = 48 := by omega
    exact br_t et_le48 hp
  | succ d ih =>
    intro e n he hn post hp
    obtain ⟨n, rfl⟩ : ∃ m, n = m + 1 := ⟨n - 1, by omega⟩
    have h : e < 48 := by omega
    have nx := ih (e + 1) n (by omega) (by omega) post
    simp only [et_fn] at hp
    simp only [wY_child_12, et_cl h, et_ge h, et_in h, forall_eq, nI_1, true_and, and_true, not_false_iff, not_true, true_implies, false_implies]
    by_cases a : t e = 0
    · rw [if_neg (fun z => z.1 a)] at hp
      exact br_t a (nx hp)
    · by_cases b : par e = p
      · by_cases c : nm e = q
        · rw [if_pos ⟨a, b, c⟩] at hp
          exact br_f a (br_t b (br_t c hp))
        · rw [if_neg (fun z => c z.2.2)] at hp
          exact br_f a (br_t b (br_f c (nx hp)))
      · rw [if_neg (fun z => b z.2.1)] at hp
        exact br_f a (br_f b (nx hp))
theorem yw_child {post : Int32 → Prop} {p : Nat} {q : Int32} (h0 : par 0 = -1) (hp : p < 48) (tp : ¬ t p = 0) (k : post (et_fn t par nm (nI p) q 48 0)) : wpY_child post (zn, zs, t, par, nm, al, s, se, ru, kd, ya, yn, st, ys, gn, fa) (nI p) q := by
  have e := et_fn_0 (t := t) (par := par) (nm := nm) (p := nI p) (q := q) (by rw [h0]; exact fun z => et_ne1 hp z.symm)
  rw [e] at k
  unfold wpY_child
  refine yw_is_t hp tp ?_
  exact br_f et_10 ⟨48, yw_named_l 47 1 48 rfl (by omega) post k⟩
theorem yw_child_f {post : Int32 → Prop} {p q : Int32} (h : ¬ et_is t p) (k : post (-1)) : wpY_child post (zn, zs, t, par, nm, al, s, se, ru, kd, ya, yn, st, ys, gn, fa) p q := by
  unfold wpY_child
  refine yw_is_f h ?_
  exact br_t rfl k
theorem yw_stamp {post : SY → Prop} {e : Nat} (he : e < 48) (k : post (zn, zs + 1, t, par, nm, al, upd s e (zs + 1), se, ru, kd, ya, yn, st, ys, gn, fa)) : wpY_stamp post (zn, zs, t, par, nm, al, s, se, ru, kd, ya, yn, st, ys, gn, fa) (nI e) := by
  simp only [wpY_stamp, et_cl he, et_in he, forall_eq, nI_1, true_and, and_true, not_false_iff, not_true, true_implies, false_implies]
  exact k
theorem yw_under {post : Int32 → Prop} {p : Int32} (k : post (nI (et_cn (fun e => ¬ t e = 0 ∧ par e = p) 48))) : wpY_under post (zn, zs, t, par, nm, al, s, se, ru, kd, ya, yn, st, ys, gn, fa) p := by
  have key : ∀ d e n, e + d = 48 → d < n → wY_under_4 post p zn zs t par nm al s se ru kd ya yn st ys gn fa n (nI (et_cn (fun e => ¬ t e = 0 ∧ par e = p) e)) (nI e) := by
    intro d
    induction d with
    | zero =>
      intro e n he hn
      obtain ⟨n, rfl⟩ : ∃ m, n = m + 1 := ⟨n - 1, by omega⟩
      obtain rfl : e = 48 := by omega
      exact br_t et_le48 k
    | succ d ih =>
      intro e n he hn
      obtain ⟨n, rfl⟩ : ∃ m, n = m + 1 := ⟨n - 1, by omega⟩
      have h1 : e < 48 := by omega
      have nx := ih (e + 1) n (by omega) (by omega)
      simp only [et_cn] at nx
      simp only [wY_under_4, et_cl h1, et_ge h1, et_in h1, forall_eq, nI_1, true_and, and_true, not_false_iff, not_true, true_implies, false_implies]
      by_cases a : t e = 0
      · rw [et_b_f (fun z => z.1 a)] at nx
        exact br_t a nx
      · by_cases b : par e = p
        · rw [et_b_t ⟨a, b⟩] at nx
          exact br_f a (br_t b nx)
        · rw [et_b_f (fun z => b z.2)] at nx
          exact br_f a (br_f b nx)
  exact ⟨49, key 48 0 49 rfl (by omega)⟩
theorem yw_below {post : Int32 → Prop} {e : Nat} {top : Int32} (hT : et_Tree t par) (he : e < 48) (te : ¬ t e = 0)
    (k1 : et_wi par top 47 (par e) → post 1) (k0 : ¬ et_wi par top 47 (par e) → post 0) : wpY_isBelow post (zn, zs, t, par, nm, al, s, se, ru, kd, ya, yn, st, ys, gn, fa) (nI e) top := by
  have key : ∀ f x n, et_ok t par f x → f < n → (et_wi par top f x → post 1) → (¬ et_wi par top f x → post 0) → wY_isBelow_7 post top zn zs t par nm al s se ru kd ya yn st ys gn fa n x := by
    intro f
    induction f with
    | zero =>
      intro x n hx hn k1 k0
      obtain ⟨n, rfl⟩ : ∃ m, n = m + 1 := ⟨n - 1, by omega⟩
      obtain rfl : x = -1 := hx
      exact br_t et_m1.2.1 (br_t et_m1.2.1 (k0 id))
    | succ f ih =>
      intro x n hx hn k1 k0
      obtain ⟨n, rfl⟩ : ∃ m, n = m + 1 := ⟨n - 1, by omega⟩
      rcases hx with hx | ⟨a, ha, ta, hx, hk⟩
      · subst hx
        exact br_t et_m1.2.1 (br_t et_m1.2.1 (k0 (et_wi_m1 _)))
      · subst hx
        rw [et_wi_e ha] at k1 k0
        refine br_f (et_nn ha) ?_
        by_cases c : nI a = top
        · exact br_t c (br_f (et_nn ha) (k1 (Or.inl c)))
        · refine br_f c ⟨et_in ha, ?_⟩
          simp only [et_cl ha, forall_eq, nI_1, true_and, and_true, not_false_iff, not_true, true_implies, false_implies]
          exact ih _ n hk (by omega) (fun z => k1 (Or.inr z)) (fun z => k0 (fun q => q.elim c z))
  refine ⟨et_in he, ?_⟩
  simp only [et_cl he, forall_eq, nI_1, true_and, and_true, not_false_iff, not_true, true_implies, false_implies]
  exact ⟨48, key 47 _ 48 (et_Tree_par hT he te) (by omega) k1 k0⟩
theorem yw_depth {post : Int32 → Prop} {e : Nat} (hT : et_Tree t par) (he : e < 48) (te : ¬ t e = 0) (k : post (nI (et_dp par 47 (par e)))) : wpY_depth post (zn, zs, t, par, nm, al, s, se, ru, kd, ya, yn, st, ys, gn, fa) (nI e) := by
  have key : ∀ f x m n, et_ok t par f x → f < n → post (nI (m + et_dp par f x)) → wY_depth_9 post zn zs t par nm al s se ru kd ya yn st ys gn fa n (nI m) x := by
    intro f
    induction f with
    | zero =>
      intro x m n hx hn k
      obtain ⟨n, rfl⟩ : ∃ m, n = m + 1 := ⟨n - 1, by omega⟩
      obtain rfl : x = -1 := hx
      exact br_t et_m1.2.1 k
    | succ f ih =>
      intro x m n hx hn k
      obtain ⟨n, rfl⟩ : ∃ m, n = m + 1 := ⟨n - 1, by omega⟩
      rcases hx with hx | ⟨a, ha, ta, hx, hk⟩
      · subst hx
        rw [et_dp_n] at k
        exact br_t et_m1.2.1 k
      · subst hx
        rw [et_dp_e ha] at k
        refine br_f (et_nn ha) ?_
        simp only [et_cl ha, et_in ha, forall_eq, nI_1, true_and, and_true, not_false_iff, not_true, true_implies, false_implies]
        exact ih _ (m + 1) n hk (by omega) (by rw [show m + 1 + et_dp par f (par a) = m + (et_dp par f (par a) + 1) from by omega]; exact k)
  refine ⟨et_in he, ?_⟩
  simp only [et_cl he, forall_eq, nI_1, true_and, and_true, not_false_iff, not_true, true_implies, false_implies]
  exact ⟨48, key 47 _ 0 48 (et_Tree_par hT he te) (by omega) (by rw [Nat.zero_add]; exact k)⟩
theorem et_48lt {s : Nat} (h : s ≤ 48) : ¬ (48 : Int32) < nI s := nI_nlt (a := 48) h (by decide)
theorem yw_leads {post : Int32 → Prop} {e : Nat} (hA : et_Al t al) (he : e < 48) (te : ¬ t e = 0) (k : post (et_ld al 48 (nI e))) : wpY_leadsTo post (zn, zs, t, par, nm, al, s, se, ru, kd, ya, yn, st, ys, gn, fa) (nI e) := by
  have fin : ∀ x, et_vx t x → post (et_ld al 1 x) → wY_leadsTo_35 post x zn zs t par nm al s se ru kd ya yn st ys gn fa := by
    intro x hx k
    rcases hx with hx | ⟨a, ha, ta, hx⟩
    · subst hx
      rw [et_ld_n _ _ et_m1.2.2.1] at k
      exact br_t et_m1.2.2.1 k
    · subst hx
      refine br_f (et_nn ha) ?_
      by_cases c : al a = -1
      · rw [et_ld_e ha c] at k
        exact yw_al_f ha c (br_t rfl k)
      · rw [et_ld_s ha c] at k
        exact yw_al_t ha c (br_f et_10 k)
  have key : ∀ f x s' n, et_vx t x → s' + f = 49 → f < n → post (et_ld al (f + 1) x) → wY_leadsTo_4 post zn zs t par nm al s se ru kd ya yn st ys gn fa n x (nI s') := by
    intro f
    induction f with
    | zero =>
      intro x s' n hx hs hn k
      obtain ⟨n, rfl⟩ : ∃ m, n = m + 1 := ⟨n - 1, by omega⟩
      obtain rfl : s' = 49 := by omega
      exact br_t (by decide) (fin x hx k)
    | succ f ih =>
      intro x s' n hx hs hn k
      obtain ⟨n, rfl⟩ : ∃ m, n = m + 1 := ⟨n - 1, by omega⟩
      have h1 := et_48lt (s := s') (by omega)
      rcases hx with hx | ⟨a, ha, ta, hx⟩
      · subst hx
        rw [et_ld_n _ _ et_m1.2.2.1] at k
        exact br_f h1 (br_t et_m1.2.2.1 (br_t et_m1.2.2.1 k))
      · subst hx
        refine br_f h1 (br_f (et_nn ha) ?_)
        by_cases c : al a = -1
        · rw [et_ld_e ha c] at k
          exact yw_al_f ha c (br_t rfl (fin _ (Or.inr ⟨a, ha, ta, rfl⟩) (by rw [et_ld_e ha c]; exact k)))
        · rw [et_ld_s ha c] at k
          refine yw_al_t ha c (br_f et_10 ⟨et_in ha, ?_⟩)
          simp only [et_cl ha, forall_eq, nI_1, true_and, and_true, not_false_iff, not_true, true_implies, false_implies]
          exact ih _ (s' + 1) n (et_vx_s hA ha ta c) (by omega) (by omega) k
  have hx : et_vx t (nI e) := Or.inr ⟨e, he, te, rfl⟩
  rw [← et_ld_50 hA hx] at k
  exact ⟨50, key 49 _ 0 50 hx rfl (by omega) k⟩
end
end
section
theorem et_ruw : nI 0 - 1 < 0 ∧ ¬ nI 1 - 1 < 0 ∧ ¬ nI 1 - 1 = 1 ∧ ¬ nI 2 - 1 < 0 ∧ nI 2 - 1 = 1 ∧ ¬ nI 1 = 0 ∧ ¬ nI 1 = 2 ∧ ¬ nI 2 = 0 := by decide
def et_pos : Nat → Int32
  | 0 => -1
  | j + 1 => nI j
theorem et_pos_s (n : Nat) : nI n - 1 = et_pos n := by
  match n with
  | 0 => decide
  | n + 1 => exact nI_pred n
theorem et_pos_m (n : Nat) : nI n + (-1) = et_pos n := by
  match n with
  | 0 => decide
  | n + 1 => exact pk_m1 n
theorem et_cl12 {i : Nat} (h : i < 12) : (nI i).toNatClampNeg = i := nI_clamp (by omega)
theorem et_in12 {i : Nat} (h : i < 12) : vp_in (nI i) 12 := vp_in_nI h (by omega)
theorem et_op_2 {kd : Nat → Int32} {j : Nat} (h : kd j = 4 ∨ kd j = 5) : et_op kd j = 2 := if_pos h
theorem et_op_1 {kd : Nat → Int32} {j : Nat} (h : kd j = 6) : et_op kd j = 1 := by
  unfold et_op
  rw [h]
  decide
theorem et_op_0 {kd : Nat → Int32} {j q : Nat} (h : kd j = nI q) (hq : q < 4) : et_op kd j = 0 := by
  have key : ∀ q, q < 4 → (if nI q = 4 ∨ nI q = 5 then 2 else if nI q = 6 then 1 else 0) = 0 := by decide
  unfold et_op
  rw [h]
  exact key q hq
theorem et_kq : ∀ q, q < 4 → ¬ nI q = 6 ∧ ¬ nI q = 4 ∧ ¬ nI q = 5 ∧ ¬ (4 : Int32) ≤ nI q := by decide
section
variable {zs zn tc fc : Int32} {t par nm al s vb rs kd xa xn st xs it tp fe : Nat → Int32}
theorem xw_may {post : Int32 → Prop} {e a g : Nat} (hT : et_Tree t par) (he : e < 48) (te : ¬ t e = 0) (ha : a < 6) (hg : g < 4)
    (k1 : et_mr par rs (g * 6 + a) 48 (nI e) → post 1) (k0 : ¬ et_mr par rs (g * 6 + a) 48 (nI e) → post 0) : wpX_mayRead post (zs, zn, tc, fc, t, par, nm, al, s, vb, rs, kd, xa, xn, st, xs, it, tp, fe) (nI e) (nI a) (nI g) := by
  have key : ∀ f x s' n, et_ok t par f x → s' + f = 48 → f < n → (et_mr par rs (g * 6 + a) f x → post 1) → (¬ et_mr par rs (g * 6 + a) f x → post 0) → wX_mayRead_6 post (nI a) (nI g) zs zn tc fc t par nm al s vb rs kd xa xn st xs it tp fe n x (nI s') := by
    intro f
    induction f with
    | zero =>
      intro x s' n hx hs hn k1 k0
      obtain ⟨n, rfl⟩ : ∃ m, n = m + 1 := ⟨n - 1, by omega⟩
      obtain rfl : s' = 48 := by omega
      exact br_t et_le48 (k1 trivial)
    | succ f ih =>
      intro x s' n hx hs hn k1 k0
      obtain ⟨n, rfl⟩ : ∃ m, n = m + 1 := ⟨n - 1, by omega⟩
      have h1 : s' < 48 := by omega
      rcases hx with hx | ⟨c, hc, tc, hx, hk⟩
      · subst hx
        exact br_f (et_ge h1) (br_t et_m1.2.1 (k1 (et_mr_n _)))
      · subst hx
        rw [et_mr_e hc] at k1 k0
        have ci : (nI (c * 24 + (g * 6 + a))).toNatClampNeg = c * 24 + (g * 6 + a) := nI_clamp (by omega)
        have vi : vp_in (nI (c * 24 + (g * 6 + a))) 1152 := vp_in_nI (by omega) (by omega)
        refine br_f (et_ge h1) (br_f (et_nn hc) ?_)
        simp only [et_i3, ci, vi, et_cl hc, et_in hc, forall_eq, nI_1, true_and, and_true, not_false_iff, not_true, true_implies, false_implies]
        by_cases z : rs (c * 24 + (g * 6 + a)) = 0
        · refine br_t z (ih _ (s' + 1) n hk (by omega) (by omega) (fun w => k1 (Or.inl ⟨z, w⟩)) (fun w => k0 (fun q => q.elim (fun v => w v.2) (fun v => ?_))))
          rw [z] at v
          exact absurd v (by decide)
        · by_cases z2 : rs (c * 24 + (g * 6 + a)) = 2
          · exact br_f z (br_t z2 (k1 (Or.inr z2)))
          · exact br_f z (br_f z2 (k0 (fun q => q.elim (fun v => z v.1) z2)))
  exact ⟨49, key 48 _ 0 49 (et_Tree_ok hT he te) rfl (by omega) k1 k0⟩
theorem xw_ops {post : Int32 → Prop} {j : Nat} (k : post (nI (et_op kd j))) : wpX_operandsOf post (zs, zn, tc, fc, t, par, nm, al, s, vb, rs, kd, xa, xn, st, xs, it, tp, fe) (kd j) := by
  by_cases a : kd j = 4
  · rw [et_op_2 (Or.inl a)] at k
    exact br_t a k
  · by_cases b : kd j = 5
    · rw [et_op_2 (Or.inr b)] at k
      exact br_f a (br_t b k)
    · by_cases c : kd j = 6
      · rw [et_op_1 c] at k
        exact br_f a (br_f b (br_t c k))
      · have e : et_op kd j = 0 := by
          unfold et_op
          rw [if_neg (fun z => z.elim a b), if_neg c]
        rw [e] at k
        exact br_f a (br_f b (br_f c k))
theorem et_op_le {kd : Nat → Int32} {j : Nat} : et_op kd j ≤ 2 := by
  unfold et_op
  split
  · omega
  · split <;> omega
theorem xw_filter {post : Int32 → Prop} {n : Nat} (hz : zn = nI n) (hn : n ≤ 12) (k1 : et_fx (et_op kd) n 0 → post 1) (k0 : ¬ et_fx (et_op kd) n 0 → post 0) : wpX_filterIsOneExpression post (zs, zn, tc, fc, t, par, nm, al, s, vb, rs, kd, xa, xn, st, xs, it, tp, fe) := by
  have key : ∀ j h m, h + j ≤ 12 → j < m → (et_fx (et_op kd) j h → post 1) → (¬ et_fx (et_op kd) j h → post 0) → wX_filterIsOneExpression_9 post zs zn tc fc t par nm al s vb rs kd xa xn st xs it tp fe m (nI h) (et_pos j) := by
    intro j
    induction j with
    | zero =>
      intro h m hh hm k1 k0
      obtain ⟨m, rfl⟩ : ∃ z, m = z + 1 := ⟨m - 1, by omega⟩
      refine br_t et_m1.2.1 ?_
      exact pk_eq h 1 (fun z => k1 z) (fun z => k0 z)
    | succ j ih =>
      intro h m hh hm k1 k0
      obtain ⟨m, rfl⟩ : ∃ z, m = z + 1 := ⟨m - 1, by omega⟩
      have hj : j < 12 := by omega
      have o2 := et_op_le (kd := kd) (j := j)
      rw [show et_pos (j + 1) = nI j from rfl]
      refine br_f (nI_pos (by omega)) ⟨et_in12 hj, ?_⟩
      simp only [et_cl12 hj]
      refine xw_ops ?_
      refine pk_le (et_op kd j) h (fun z => ?_) (fun z => k0 (fun q => absurd q.1 (by omega)))
      simp only [pk_sub z, et_pos_m, forall_eq, nI_1, true_and, and_true, not_false_iff, not_true, true_implies, false_implies]
      exact ih _ m (by omega) (by omega) (fun q => k1 ⟨z, q⟩) (fun q => k0 (fun y => q y.2))
  subst hz
  simp only [wpX_filterIsOneExpression, et_pos_s, forall_eq, nI_1, true_and, and_true, not_false_iff, not_true, true_implies, false_implies]
  exact ⟨n + 1, key n 0 (n + 1) (by omega) (by omega) k1 k0⟩
theorem xw_bits {q w : Nat} {nu : Int32} (hq : q < 4) (hw : 1 ≤ q → w < 16 ∧ nu = nI w) : ∃ m : Int32, (∀ i, i < 16 → (bt m i = true ↔ et_cond (nI q) nu i)) ∧ ∀ post : Int32 → Prop, post m → wpX_bitsThatMatch post (zs, zn, tc, fc, t, par, nm, al, s, vb, rs, kd, xa, xn, st, xs, it, tp, fe) (nI q) nu := by
  match q with
  | 0 => exact ⟨-1, et_mk0, fun post k => br_t (by decide) k⟩
  | 1 =>
    obtain ⟨hw2, rfl⟩ := hw (by omega)
    exact ⟨_, et_mk1 hw2, fun post k => br_f (by decide) (br_f (by decide) (br_t rfl k))⟩
  | 2 =>
    obtain ⟨hw2, rfl⟩ := hw (by omega)
    exact ⟨_, et_mk2 hw2, fun post k => br_f (by decide) (br_f (by decide) (br_f (by decide) (br_t rfl k)))⟩
  | 3 =>
    obtain ⟨hw2, rfl⟩ := hw (by omega)
    exact ⟨_, et_mk3 hw2, fun post k => br_f (by decide) (br_f (by decide) (br_f (by decide) (br_f (by decide) (br_t rfl k))))⟩
theorem xw_test {post : Int32 → Prop} {i e g q a w : Nat} (hT : et_Tree t par) (he : e < 48) (te : ¬ t e = 0) (hg : g < 4) (hi : i < 12) (hq : q < 4) (kq : kd i = nI q) (ha : a < 6) (ka : xa i = nI a)
    (hw : 1 ≤ q → w < 16 ∧ xn i = nI w) (hv : et_V (vb (e * 6 + a))) (k : post (et_pv par rs vb kd xa xn g e i)) : wpX_truthOfTest post (zs, zn, tc, fc, t, par, nm, al, s, vb, rs, kd, xa, xn, st, xs, it, tp, fe) (nI i) (nI e) (nI g) := by
  have ci : (nI (e * 6 + a)).toNatClampNeg = e * 6 + a := nI_clamp (by omega)
  have vi : vp_in (nI (e * 6 + a)) 288 := vp_in_nI (by omega) (by omega)
  have ca : (nI a).toNatClampNeg = a := nI_clamp (by omega)
  unfold et_pv at k
  rw [ka, ca] at k
  simp only [wpX_truthOfTest, et_cl12 hi, et_in12 hi, ka, kq, forall_eq, nI_1, true_and, and_true, not_false_iff, not_true, true_implies, false_implies]
  refine xw_may hT he te ha hg (fun m => br_f et_10 ?_) (fun m => br_t rfl ?_)
  · rw [et_if_t m] at k
    simp only [et_i6, ci, vi, forall_eq, nI_1, true_and, and_true, not_false_iff, not_true, true_implies, false_implies]
    obtain ⟨m, hm, hb⟩ := xw_bits (zs := zs) (zn := zn) (tc := tc) (fc := fc) (t := t) (par := par) (nm := nm) (al := al) (s := s) (vb := vb) (rs := rs) (kd := kd) (xa := xa) (xn := xn) (st := st) (xs := xs) (it := it) (tp := tp) (fe := fe) (q := q) (w := w) (nu := xn i) hq hw
    refine hb _ ?_
    have h := et_hm hv hm
    rw [kq] at k
    by_cases c : et_hit (vb (e * 6 + a)) (nI q) (xn i) 16
    · rw [et_if_t c] at k
      exact br_f (h.mpr c) k
    · rw [et_if_f c] at k
      exact br_t (Classical.byContradiction fun z => c (h.mp z)) k
  · rw [et_if_f m] at k
    exact k
end
end
section
theorem et_run_6 {kd pv st : Nat → Int32} {j h : Nat} (k : kd j = 6) : et_run kd pv (j + 1) st h = et_run kd pv j (upd st (h - 1) (2 - st (h - 1))) h := if_pos k
theorem et_run_4 {kd pv st : Nat → Int32} {j h : Nat} (k : kd j = 4) : et_run kd pv (j + 1) st h = et_run kd pv j (upd st (h - 2) (if st (h - 1) < st (h - 2) then st (h - 1) else st (h - 2))) (h - 1) := by
  simp only [et_run]
  rw [if_neg (by rw [k]; decide), if_pos k]
theorem et_run_5 {kd pv st : Nat → Int32} {j h : Nat} (k : kd j = 5) : et_run kd pv (j + 1) st h = et_run kd pv j (upd st (h - 2) (if st (h - 2) < st (h - 1) then st (h - 1) else st (h - 2))) (h - 1) := by
  simp only [et_run]
  rw [if_neg (by rw [k]; decide), if_neg (by rw [k]; decide), if_pos k]
theorem et_run_t {kd pv st : Nat → Int32} {j h q : Nat} (k : kd j = nI q) (hq : q < 4) : et_run kd pv (j + 1) st h = et_run kd pv j (upd st h (pv j)) (h + 1) := by
  have z := et_kq q hq
  simp only [et_run]
  rw [if_neg (by rw [k]; exact z.1), if_neg (by rw [k]; exact z.2.1), if_neg (by rw [k]; exact z.2.2.1)]
/-- what a token in place i is, on both sides -/
def et_tk (kd xa ya xn yn : Nat → Int32) (i : Nat) : Prop := ∃ q, q < 7 ∧ kd i = nI q ∧ (q < 4 → ∃ a, a < 6 ∧ xa i = nI a ∧ ya i = nI a) ∧ (1 ≤ q → q < 4 → ∃ w, w < 16 ∧ xn i = nI w ∧ yn i = nI w)
theorem et_tk_q {kd xa ya xn yn : Nat → Int32} {i : Nat} (h : et_tk kd xa ya xn yn i) : kd i = 6 ∨ kd i = 4 ∨ kd i = 5 ∨ ∃ q a w, q < 4 ∧ kd i = nI q ∧ a < 6 ∧ xa i = nI a ∧ ya i = nI a ∧ (1 ≤ q → w < 16 ∧ xn i = nI w ∧ yn i = nI w) := by
  obtain ⟨q, hq, kq, h1, h2⟩ := h
  by_cases c : q < 4
  · obtain ⟨a, ha, e1, e2⟩ := h1 c
    by_cases d : 1 ≤ q
    · obtain ⟨w, hw, e3, e4⟩ := h2 d c
      exact Or.inr (Or.inr (Or.inr ⟨q, a, w, c, kq, ha, e1, e2, fun _ => ⟨hw, e3, e4⟩⟩))
    · exact Or.inr (Or.inr (Or.inr ⟨q, a, 0, c, kq, ha, e1, e2, fun z => absurd z d⟩))
  · have : q = 4 ∨ q = 5 ∨ q = 6 := by omega
    rcases this with rfl | rfl | rfl
    · exact Or.inr (Or.inl kq)
    · exact Or.inr (Or.inr (Or.inl kq))
    · exact Or.inl kq
section
variable {zs zn tc fc : Int32} {t par nm al s vb rs kd xa xn st xs it tp fe : Nat → Int32}
theorem xw_joined4 {post : Int32 → Prop} {a b : Int32} (k : post (if a < b then a else b)) : wpX_joined post (zs, zn, tc, fc, t, par, nm, al, s, vb, rs, kd, xa, xn, st, xs, it, tp, fe) 4 a b := by
  refine br_t rfl ?_
  by_cases c : a < b
  · rw [if_pos c] at k
    exact br_f (Int32.not_le.mpr c) (br_f et_10 k)
  · rw [if_neg c] at k
    exact br_t (Int32.not_lt.mp c) (br_t rfl k)
theorem xw_joined5 {post : Int32 → Prop} {a b : Int32} (k : post (if b < a then a else b)) : wpX_joined post (zs, zn, tc, fc, t, par, nm, al, s, vb, rs, kd, xa, xn, st, xs, it, tp, fe) 5 a b := by
  refine br_f (by decide) ?_
  by_cases c : b < a
  · rw [if_pos c] at k
    exact br_f (Int32.not_le.mpr c) (br_f et_10 k)
  · rw [if_neg c] at k
    exact br_t (Int32.not_lt.mp c) (br_t rfl k)
theorem xw_truth {post : Int32 → SX → Prop} {n e g : Nat} {ya yn : Nat → Int32} (hz : zn = nI n) (hn : n ≤ 12) (hT : et_Tree t par) (he : e < 48) (te : ¬ t e = 0) (hg : g < 4)
    (hk : ∀ i, i < n → et_tk kd xa ya xn yn i) (hv : ∀ a, a < 6 → et_V (vb (e * 6 + a))) (hf : et_fx (et_op kd) n 0)
    (k : post (et_run kd (et_pv par rs vb kd xa xn g e) n st 0 0) (zs, zn, tc, fc, t, par, nm, al, s, vb, rs, kd, xa, xn, et_run kd (et_pv par rs vb kd xa xn g e) n st 0, xs, it, tp, fe)) : wpX_truthFor post (zs, zn, tc, fc, t, par, nm, al, s, vb, rs, kd, xa, xn, st, xs, it, tp, fe) (nI e) (nI g) := by
  have key : ∀ j h (st : Nat → Int32) m, h + j ≤ 12 → j ≤ n → j < m → et_fx (et_op kd) j h → post (et_run kd (et_pv par rs vb kd xa xn g e) j st h 0) (zs, zn, tc, fc, t, par, nm, al, s, vb, rs, kd, xa, xn, et_run kd (et_pv par rs vb kd xa xn g e) j st h, xs, it, tp, fe) →
      wX_truthFor_10 post (nI e) (nI g) zs zn tc fc m (nI h) (et_pos j) t par nm al s vb rs kd xa xn st xs it tp fe := by
    intro j
    induction j with
    | zero =>
      intro h st m hh hj hm hf k
      obtain ⟨m, rfl⟩ : ∃ z, m = z + 1 := ⟨m - 1, by omega⟩
      exact br_t et_m1.2.1 k
    | succ j ih =>
      intro h st m hh hj hm hf k
      obtain ⟨m, rfl⟩ : ∃ z, m = z + 1 := ⟨m - 1, by omega⟩
      have hj12 : j < 12 := by omega
      obtain ⟨f1, f2⟩ := hf
      rw [show et_pos (j + 1) = nI j from rfl]
      refine br_f (nI_pos (by omega)) ⟨et_in12 hj12, ?_⟩
      simp only [et_cl12 hj12, forall_eq]
      rcases et_tk_q (hk j (by omega)) with c | c | c | ⟨q, a, w, hq, kq, ha, e1, e2, hw⟩
      · rw [et_op_1 c] at f1 f2
        rw [et_run_6 c] at k
        obtain ⟨h, rfl⟩ : ∃ z, h = z + 1 := ⟨h - 1, by omega⟩
        have h12 : h < 12 := by omega
        refine br_t c ?_
        simp only [nI_pred, et_cl12 h12, et_in12 h12, et_pos_m, true_and, forall_eq]
        exact ih _ _ m (by omega) (by omega) (by omega) f2 k
      · rw [et_op_2 (Or.inl c)] at f1 f2
        rw [et_run_4 c] at k
        obtain ⟨h, rfl⟩ : ∃ z, h = z + 2 := ⟨h - 2, by omega⟩
        have h12 : h < 12 := by omega
        have g12 : h + 1 < 12 := by omega
        refine br_f (by rw [c]; decide) (br_t c ?_)
        simp only [wX_truthFor_64, pk_m1, nI_pred, et_cl12 h12, et_in12 h12, et_cl12 g12, et_in12 g12, et_pos_m, true_and, forall_eq, c]
        refine xw_joined4 ?_
        exact ih _ _ m (by omega) (by omega) (by omega) f2 k
      · rw [et_op_2 (Or.inr c)] at f1 f2
        rw [et_run_5 c] at k
        obtain ⟨h, rfl⟩ : ∃ z, h = z + 2 := ⟨h - 2, by omega⟩
        have h12 : h < 12 := by omega
        have g12 : h + 1 < 12 := by omega
        refine br_f (by rw [c]; decide) (br_f (by rw [c]; decide) (br_t c ?_))
        simp only [wX_truthFor_64, pk_m1, nI_pred, et_cl12 h12, et_in12 h12, et_cl12 g12, et_in12 g12, et_pos_m, true_and, forall_eq, c]
        refine xw_joined5 ?_
        exact ih _ _ m (by omega) (by omega) (by omega) f2 k
      · rw [et_op_0 kq hq] at f1 f2
        rw [et_run_t kq hq] at k
        have h12 : h < 12 := by omega
        have z := et_kq q hq
        refine br_f (by rw [kq]; exact z.1) (br_f (by rw [kq]; exact z.2.1) (br_f (by rw [kq]; exact z.2.2.1) ?_))
        refine xw_test hT he te hg hj12 hq kq ha e1 (fun z => ⟨(hw z).1, (hw z).2.1⟩) (hv a ha) ?_
        simp only [et_cl12 h12, et_in12 h12, et_pos_m, true_and, forall_eq, nI_1]
        exact ih _ _ m (by omega) (by omega) (by omega) f2 k
  subst hz
  simp only [wpX_truthFor, et_pos_s, forall_eq]
  exact ⟨n + 1, key n 0 st (n + 1) (by omega) (by omega) (by omega) hf k⟩
end
end
section
theorem et_if_01 {P : Prop} : et_if P 1 0 ||| 1 = 1 ∧ et_if P 1 0 ||| 0 = et_if P 1 0 := by
  by_cases c : P
  · rw [et_if_t c]; decide
  · rw [et_if_f c]; decide
theorem et_hit_s {x kd nu : Int32} {j : Nat} : et_hit x kd nu (j + 1) ↔ et_hit x kd nu j ∨ (bt x j = true ∧ et_cond kd nu j) := by
  constructor
  · rintro ⟨v, hv, h1, h2⟩
    by_cases c : v = j
    · subst c; exact Or.inr ⟨h1, h2⟩
    · exact Or.inl ⟨v, by omega, h1, h2⟩
  · rintro (⟨v, hv, h1, h2⟩ | ⟨h1, h2⟩)
    · exact ⟨v, by omega, h1, h2⟩
    · exact ⟨j, by omega, h1, h2⟩
theorem et_if_c {P Q : Prop} {a b : Int32} (h : P ↔ Q) : et_if P a b = et_if Q a b := by
  by_cases c : P
  · rw [et_if_t c, et_if_t (h.mp c)]
  · rw [et_if_f c, et_if_f (fun z => c (h.mpr z))]
theorem et_c1 {nu : Int32} {j : Nat} : et_cond (nI 1) nu j ↔ nI j = nu := by
  constructor
  · rintro (y | y | y | y)
    · exact absurd y (by decide)
    · exact y.2
    · exact absurd y.1 (by decide)
    · exact absurd y.1 (by decide)
  · exact fun y => Or.inr (Or.inl ⟨rfl, y⟩)
theorem et_c2 {nu : Int32} {j : Nat} : et_cond (nI 2) nu j ↔ nu ≤ nI j := by
  constructor
  · rintro (y | y | y | y)
    · exact absurd y (by decide)
    · exact absurd y.1 (by decide)
    · exact y.2
    · exact absurd y.1 (by decide)
  · exact fun y => Or.inr (Or.inr (Or.inl ⟨rfl, y⟩))
theorem et_c3 {nu : Int32} {j : Nat} : et_cond (nI 3) nu j ↔ nI j ≤ nu := by
  constructor
  · rintro (y | y | y | y)
    · exact absurd y (by decide)
    · exact absurd y.1 (by decide)
    · exact absurd y.1 (by decide)
    · exact y.2
  · exact fun y => Or.inr (Or.inr (Or.inr ⟨rfl, y⟩))
theorem et_16 {j : Nat} (h : j < 16) : ¬ (16 : Int32) ≤ nI j := nI_ge (b := 16) h (by decide)
section
variable {zn zs : Int32} {t par nm al s se ru kd ya yn st ys gn fa : Nat → Int32}
theorem yw_may {post : Int32 → Prop} {e a g : Nat} {rs : Nat → Int32} (hT : et_Tree t par) (hR : et_Ru t rs ru) (he : e < 48) (te : ¬ t e = 0) (ha : a < 6) (hg : g < 4)
    (k1 : et_mr par rs (g * 6 + a) 48 (nI e) → post 1) (k0 : ¬ et_mr par rs (g * 6 + a) 48 (nI e) → post 0) : wpY_mayRead post (zn, zs, t, par, nm, al, s, se, ru, kd, ya, yn, st, ys, gn, fa) (nI e) (nI g) (nI a) := by
  have key : ∀ f x n, et_ok t par f x → f < n → (et_mr par rs (g * 6 + a) f x → post 1) → (¬ et_mr par rs (g * 6 + a) f x → post 0) → wY_mayRead_3 post (nI g) (nI a) zn zs t par nm al s se ru kd ya yn st ys gn fa n x := by
    intro f
    induction f with
    | zero =>
      intro x n hx hn k1 k0
      obtain ⟨n, rfl⟩ : ∃ m, n = m + 1 := ⟨n - 1, by omega⟩
      obtain rfl : x = -1 := hx
      exact br_t et_m1.2.1 (k1 trivial)
    | succ f ih =>
      intro x n hx hn k1 k0
      obtain ⟨n, rfl⟩ : ∃ m, n = m + 1 := ⟨n - 1, by omega⟩
      rcases hx with hx | ⟨c, hc, tc, hx, hk⟩
      · subst hx
        exact br_t et_m1.2.1 (k1 (et_mr_n _))
      · subst hx
        rw [et_mr_e hc] at k1 k0
        have ci : (nI (c * 24 + (g * 6 + a))).toNatClampNeg = c * 24 + (g * 6 + a) := nI_clamp (by omega)
        have vi : vp_in (nI (c * 24 + (g * 6 + a))) 1152 := vp_in_nI (by omega) (by omega)
        obtain ⟨w, hw, r1, r2⟩ := hR.2 c hc tc (g * 6 + a) (by omega)
        refine br_f (et_nn hc) ?_
        simp only [et_i3', ci, vi, et_cl hc, et_in hc, r2, forall_eq, nI_1, true_and, and_true, not_false_iff, not_true, true_implies, false_implies]
        rw [r1] at k1 k0
        match w with
        | 0 => exact br_t et_ruw.1 (ih _ n hk (by omega) (fun w => k1 (Or.inl ⟨rfl, w⟩)) (fun w => k0 (fun q => q.elim (fun v => w v.2) (fun v => absurd v (by decide)))))
        | 1 => exact br_f et_ruw.2.1 (br_f et_ruw.2.2.1 (k0 (fun q => q.elim (fun v => absurd v.1 (by decide)) (fun v => absurd v (by decide)))))
        | 2 => exact br_f et_ruw.2.2.2.1 (br_t et_ruw.2.2.2.2.1 (k1 (Or.inr rfl)))
  exact ⟨49, key 48 _ 49 (et_Tree_ok hT he te) (by omega) k1 k0⟩
theorem yw_expr {post : Int32 → Prop} {n : Nat} (hz : zn = nI n) (hn : n ≤ 12) (hk : ∀ i, i < n → ∃ q, q < 7 ∧ kd i = nI q) (k1 : et_fx (et_op kd) n 0 → post 1) (k0 : ¬ et_fx (et_op kd) n 0 → post 0) : wpY_isExpression post (zn, zs, t, par, nm, al, s, se, ru, kd, ya, yn, st, ys, gn, fa) := by
  rw [et_fxy n] at k1 k0
  subst hz
  have key : ∀ r m f, r ≤ n → m + r ≤ 24 → m ≤ 1 + (n - r) → r < f → (et_fy (et_op kd) n r m → post 1) → (¬ et_fy (et_op kd) n r m → post 0) → wY_isExpression_4 post (nI n) zs t par nm al s se ru kd ya yn st ys gn fa f (nI m) (nI (n - r)) := by
    intro r
    induction r with
    | zero =>
      intro m f hr hm hm2 hf k1 k0
      obtain ⟨f, rfl⟩ : ∃ z, f = z + 1 := ⟨f - 1, by omega⟩
      refine br_t (nI_le (by omega) (by omega)) ?_
      exact pk_eq m 0 (fun z => k1 z) (fun z => k0 z)
    | succ r ih =>
      intro m f hr hm hm2 hf k1 k0
      obtain ⟨f, rfl⟩ : ∃ z, f = z + 1 := ⟨f - 1, by omega⟩
      have hi : n - (r + 1) < 12 := by omega
      have ei : n - (r + 1) + 1 = n - r := by omega
      obtain ⟨q, hq, kq⟩ := hk (n - (r + 1)) (by omega)
      refine br_f (nI_ge (by omega) (by omega)) ?_
      refine pk_eq m 0 (fun z => k0 (fun y => y.1 z)) (fun z => ⟨et_in12 hi, ?_⟩)
      simp only [et_cl12 hi, et_in12 hi, nI_1, ei, true_and, forall_eq]
      by_cases c : q < 4
      · have o := et_op_0 kq c
        refine br_f (by rw [kq]; exact (et_kq q c).2.2.2) ?_
        obtain ⟨m, rfl⟩ : ∃ y, m = y + 1 := ⟨m - 1, by omega⟩
        rw [pk_m1]
        refine ih m f (by omega) (by omega) (by omega) (by omega) (fun y => k1 ⟨z, ?_⟩) (fun y => k0 (fun x => y ?_))
        · rw [o]; exact y
        · have := x.2; rw [o] at this; exact this
      · have : q = 4 ∨ q = 5 ∨ q = 6 := by omega
        rcases this with rfl | rfl | rfl
        · have o := et_op_2 (kd := kd) (j := n - (r + 1)) (Or.inl kq)
          refine br_t (by rw [kq]; decide) (br_f (by rw [kq]; decide) ?_)
          refine ih (m + 1) f (by omega) (by omega) (by omega) (by omega) (fun y => k1 ⟨z, ?_⟩) (fun y => k0 (fun x => y ?_))
          · rw [o]; exact y
          · have := x.2; rw [o] at this; exact this
        · have o := et_op_2 (kd := kd) (j := n - (r + 1)) (Or.inr kq)
          refine br_t (by rw [kq]; decide) (br_f (by rw [kq]; decide) ?_)
          refine ih (m + 1) f (by omega) (by omega) (by omega) (by omega) (fun y => k1 ⟨z, ?_⟩) (fun y => k0 (fun x => y ?_))
          · rw [o]; exact y
          · have := x.2; rw [o] at this; exact this
        · have o := et_op_1 (kd := kd) (j := n - (r + 1)) kq
          refine br_t (by rw [kq]; decide) (br_t kq ?_)
          rw [Int32.add_zero]
          refine ih m f (by omega) (by omega) (by omega) (by omega) (fun y => k1 ⟨z, ?_⟩) (fun y => k0 (fun x => y ?_))
          · rw [o]; exact y
          · have := x.2; rw [o] at this; exact this
  have k := key n 1 (n + 1) (by omega) (by omega) (by omega) (by omega) k1 k0
  rw [Nat.sub_self] at k
  exact ⟨n + 1, k⟩
theorem yw_plain {post : Int32 → Prop} {i e g q a w : Nat} {rs vb xa xn : Nat → Int32} (hT : et_Tree t par) (hR : et_Ru t rs ru) (he : e < 48) (te : ¬ t e = 0) (hg : g < 4) (hi : i < 12) (hq : q < 4) (kq : kd i = nI q) (ha : a < 6) (kx : xa i = nI a) (ka : ya i = nI a)
    (hw : 1 ≤ q → w < 16 ∧ xn i = nI w ∧ yn i = nI w) (hv : se (e * 6 + a) = vb (e * 6 + a)) (k : post (et_pv par rs vb kd xa xn g e i)) : wpY_plain post (zn, zs, t, par, nm, al, s, se, ru, kd, ya, yn, st, ys, gn, fa) (nI i) (nI e) (nI g) := by
  have ci : (nI (e * 6 + a)).toNatClampNeg = e * 6 + a := nI_clamp (by omega)
  have vi : vp_in (nI (e * 6 + a)) 288 := vp_in_nI (by omega) (by omega)
  have ca : (nI a).toNatClampNeg = a := nI_clamp (by omega)
  have hxy : 1 ≤ q → yn i = xn i := fun z => (hw z).2.2.trans (hw z).2.1.symm
  unfold et_pv at k
  rw [kx, ca] at k
  simp only [wpY_plain, et_cl12 hi, et_in12 hi, ka, forall_eq, nI_1, true_and, and_true, not_false_iff, not_true, true_implies, false_implies]
  refine yw_may hT hR he te ha hg (fun m => br_f et_10 ?_) (fun m => br_t rfl ?_)
  · rw [et_if_t m, kq] at k
    generalize hx : vb (e * 6 + a) = x at k hv
    have key : ∀ d j n, j + d = 16 → d < n → wY_plain_23 post (nI i) (nI e) zn zs t par nm al s se ru kd ya yn st ys gn fa n (et_if (et_hit x (nI q) (xn i) j) 1 0) (nI j) := by
      intro d
      induction d with
      | zero =>
        intro j n hj hn
        obtain ⟨n, rfl⟩ : ∃ m, n = m + 1 := ⟨n - 1, by omega⟩
        obtain rfl : j = 16 := by omega
        refine br_t (by decide) ?_
        by_cases c : et_hit x (nI q) (xn i) 16
        · rw [et_if_t c] at k ⊢
          exact br_f et_10 k
        · rw [et_if_f c] at k ⊢
          exact br_t rfl k
      | succ d ih =>
        intro j n hj hn
        obtain ⟨n, rfl⟩ : ∃ m, n = m + 1 := ⟨n - 1, by omega⟩
        have h16 : j < 16 := by omega
        have nx := ih (j + 1) n (by omega) (by omega)
        rw [et_if_c et_hit_s] at nx
        simp only [wY_plain_23, wY_plain_89, wY_plain_110, et_16 h16, et_cl12 hi, et_in12 hi, ka, kq, et_i6', ci, vi, hv, et_sh1 x (v := j) (by omega), et_if_01.1, et_if_01.2, forall_eq, nI_1, true_and, and_true, not_false_iff, not_true, true_implies, false_implies]
        by_cases c : bt x j = true
        · rw [if_pos c]
          refine br_f et_10 ?_
          have yes : et_cond (nI q) (xn i) j → wY_plain_23 post (nI i) (nI e) zn zs t par nm al s se ru kd ya yn st ys gn fa n 1 (nI (j + 1)) := fun z => by
            rw [et_if_t (Or.inr ⟨c, z⟩)] at nx
            exact nx
          have no : ¬ et_cond (nI q) (xn i) j → wY_plain_23 post (nI i) (nI e) zn zs t par nm al s se ru kd ya yn st ys gn fa n (et_if (et_hit x (nI q) (xn i) j) 1 0) (nI (j + 1)) := fun z => by
            rw [et_if_c (Q := et_hit x (nI q) (xn i) j) ⟨fun y => y.elim id (fun y => absurd y.2 z), Or.inl⟩] at nx
            exact nx
          match q with
          | 0 => exact br_t rfl (yes (Or.inl rfl))
          | 1 =>
            rw [hxy (by omega)]
            exact br_f (by decide) (br_t rfl (br_c (fun z => yes (et_c1.mpr z)) (fun z => br_f (by decide) (br_f (by decide) (no (fun y => z (et_c1.mp y)))))))
          | 2 =>
            rw [hxy (by omega)]
            exact br_f (by decide) (br_f (by decide) (br_t rfl (br_c (fun z => yes (et_c2.mpr z)) (fun z => br_f (by decide) (no (fun y => z (et_c2.mp y)))))))
          | 3 =>
            rw [hxy (by omega)]
            exact br_f (by decide) (br_f (by decide) (br_f (by decide) (br_t rfl (br_c (fun z => no (fun y => Int32.not_lt.mpr (et_c3.mp y) z)) (fun z => yes (et_c3.mpr (Int32.not_lt.mp z)))))))
        · rw [if_neg c]
          refine br_t rfl ?_
          rw [et_if_c (Q := et_hit x (nI q) (xn i) j) ⟨fun z => z.elim id (fun z => absurd z.1 c), Or.inl⟩] at nx
          exact nx
    have k2 := key 16 0 17 rfl (by omega)
    rw [et_if_f (fun z => by obtain ⟨v, hv, _⟩ := z; omega)] at k2
    exact ⟨17, k2⟩
  · rw [et_if_f m] at k
    exact k
end
end
section
theorem et_le_lt {a b : Int32} (h : a ≤ b) : ¬ b < a := Int32.not_lt.mpr h
section
variable {zn zs : Int32} {t par nm al s se ru kd ya yn st ys gn fa : Nat → Int32}
theorem yw_pass {post : Int32 → SY → Prop} {n e g : Nat} {rs vb xa xn : Nat → Int32} (hz : zn = nI n) (hn : n ≤ 12) (hT : et_Tree t par) (hR : et_Ru t rs ru) (he : e < 48) (te : ¬ t e = 0) (hg : g < 4)
    (hk : ∀ i, i < n → et_tk kd xa ya xn yn i) (hv : ∀ a, a < 6 → se (e * 6 + a) = vb (e * 6 + a)) (hf : et_fx (et_op kd) n 0)
    (k1 : et_run kd (et_pv par rs vb kd xa xn g e) n st 0 0 = 2 → post 1 (zn, zs, t, par, nm, al, s, se, ru, kd, ya, yn, et_run kd (et_pv par rs vb kd xa xn g e) n st 0, ys, gn, fa))
    (k0 : ¬ et_run kd (et_pv par rs vb kd xa xn g e) n st 0 0 = 2 → post 0 (zn, zs, t, par, nm, al, s, se, ru, kd, ya, yn, et_run kd (et_pv par rs vb kd xa xn g e) n st 0, ys, gn, fa)) : wpY_passes post (zn, zs, t, par, nm, al, s, se, ru, kd, ya, yn, st, ys, gn, fa) (nI e) (nI g) := by
  have key : ∀ j h (st : Nat → Int32) m, h + j ≤ 12 → j ≤ n → j < m → et_fx (et_op kd) j h →
      (et_run kd (et_pv par rs vb kd xa xn g e) j st h 0 = 2 → post 1 (zn, zs, t, par, nm, al, s, se, ru, kd, ya, yn, et_run kd (et_pv par rs vb kd xa xn g e) j st h, ys, gn, fa)) → (¬ et_run kd (et_pv par rs vb kd xa xn g e) j st h 0 = 2 → post 0 (zn, zs, t, par, nm, al, s, se, ru, kd, ya, yn, et_run kd (et_pv par rs vb kd xa xn g e) j st h, ys, gn, fa)) →
      wY_passes_10 post (nI e) (nI g) zn zs m (nI h) (et_pos j) t par nm al s se ru kd ya yn st ys gn fa := by
    intro j
    induction j with
    | zero =>
      intro h st m hh hj hm hf k1 k0
      obtain ⟨m, rfl⟩ : ∃ z, m = z + 1 := ⟨m - 1, by omega⟩
      exact br_t et_m1.2.1 (br_c k1 k0)
    | succ j ih =>
      intro h st m hh hj hm hf k1 k0
      obtain ⟨m, rfl⟩ : ∃ z, m = z + 1 := ⟨m - 1, by omega⟩
      have hj12 : j < 12 := by omega
      obtain ⟨f1, f2⟩ := hf
      rw [show et_pos (j + 1) = nI j from rfl]
      refine br_f (nI_pos (by omega)) ⟨et_in12 hj12, ?_⟩
      simp only [et_cl12 hj12, et_in12 hj12, true_and]
      rcases et_tk_q (hk j (by omega)) with c | c | c | ⟨q, a, w, hq, kq, ha, e1, e2, hw⟩
      · rw [et_op_1 c] at f1 f2
        rw [et_run_6 c] at k1 k0
        obtain ⟨h, rfl⟩ : ∃ z, h = z + 1 := ⟨h - 1, by omega⟩
        have h12 : h < 12 := by omega
        refine br_t (by rw [c]; decide) (br_t c ?_)
        simp only [nI_pred, et_cl12 h12, et_in12 h12, et_pos_m, true_and, forall_eq]
        exact ih _ _ m (by omega) (by omega) (by omega) f2 k1 k0
      · rw [et_op_2 (Or.inl c)] at f1 f2
        rw [et_run_4 c] at k1 k0
        obtain ⟨h, rfl⟩ : ∃ z, h = z + 2 := ⟨h - 2, by omega⟩
        have h12 : h < 12 := by omega
        have g12 : h + 1 < 12 := by omega
        refine br_t (by rw [c]; decide) (br_f (by rw [c]; decide) ?_)
        simp only [wY_passes_104, wY_passes_124, pk_m1, nI_pred, et_cl12 h12, et_in12 h12, et_cl12 g12, et_in12 g12, et_cl12 hj12, et_in12 hj12, et_pos_m, true_and, forall_eq]
        have nx := ih _ _ m (by omega) (by omega) (by omega) f2 k1 k0
        simp only [show h + 2 - 1 = h + 1 from rfl, show h + 2 - 2 = h from rfl] at nx
        by_cases z : st (h + 1) < st h
        · rw [if_pos z] at nx
          exact br_f (Int32.not_le.mpr z) (br_t c (br_t trivial nx))
        · rw [if_neg z, et_upd_same] at nx
          exact br_t (Int32.not_lt.mp z) (br_t c (br_f (by decide) nx))
      · rw [et_op_2 (Or.inr c)] at f1 f2
        rw [et_run_5 c] at k1 k0
        obtain ⟨h, rfl⟩ : ∃ z, h = z + 2 := ⟨h - 2, by omega⟩
        have h12 : h < 12 := by omega
        have g12 : h + 1 < 12 := by omega
        refine br_t (by rw [c]; decide) (br_f (by rw [c]; decide) ?_)
        simp only [wY_passes_104, wY_passes_124, pk_m1, nI_pred, et_cl12 h12, et_in12 h12, et_cl12 g12, et_in12 g12, et_cl12 hj12, et_in12 hj12, et_pos_m, true_and, forall_eq]
        have nx := ih _ _ m (by omega) (by omega) (by omega) f2 k1 k0
        simp only [show h + 2 - 1 = h + 1 from rfl, show h + 2 - 2 = h from rfl] at nx
        have c4 : ¬ kd j = 4 := by rw [c]; decide
        by_cases z : st h < st (h + 1)
        · rw [if_pos z] at nx
          exact br_t (Int32.le_of_lt z) (br_f c4 (br_t trivial nx))
        · rw [if_neg z, et_upd_same] at nx
          by_cases y : st h ≤ st (h + 1)
          · have e : st (h + 1) = st h := Int32.le_antisymm (Int32.not_lt.mp z) y
            refine br_t y (br_f c4 (br_t trivial ?_))
            rw [e, et_upd_same]
            exact nx
          · exact br_f y (br_f c4 (br_f (by decide) nx))
      · rw [et_op_0 kq hq] at f1 f2
        rw [et_run_t kq hq] at k1 k0
        have h12 : h < 12 := by omega
        have z := et_kq q hq
        refine br_f (by rw [kq]; exact z.2.2.2) ?_
        refine yw_plain hT hR he te hg hj12 hq kq ha e1 e2 hw (hv a ha) ?_
        simp only [et_cl12 h12, et_in12 h12, et_pos_m, true_and, forall_eq, nI_1]
        exact ih _ _ m (by omega) (by omega) (by omega) f2 k1 k0
  subst hz
  simp only [wpY_passes, et_pos_s, forall_eq]
  exact ⟨n + 1, key n 0 st (n + 1) (by omega) (by omega) (by omega) hf k1 k0⟩
end
end
section
theorem et_cn_ex {P : Nat → Prop} : ∀ {n k : Nat}, k < et_cn P n → ∃ e, e < n ∧ P e ∧ et_cn P e = k
  | 0, _, h => absurd h (Nat.not_lt_zero _)
  | n + 1, k, h => by
    simp only [et_cn] at h
    by_cases c : k < et_cn P n
    · obtain ⟨e, h1, h2, h3⟩ := et_cn_ex c
      exact ⟨e, by omega, h2, h3⟩
    · by_cases p : P n
      · rw [et_b_t p] at h
        exact ⟨n, by omega, p, by omega⟩
      · rw [et_b_f p] at h
        omega
theorem et_cn_st {P : Nat → Prop} {e n : Nat} (h : e < n) (p : P e) : et_cn P e < et_cn P n := by
  have a : et_cn P (e + 1) ≤ et_cn P n := et_cn_m h
  simp only [et_cn] at a
  rw [et_b_t p] at a
  omega
def et_gd (t par : Nat → Int32) : Nat → Nat
  | 0 => 0
  | e + 1 => if t e = 0 then et_gd t par e else if et_dp par 47 (par e) ≤ et_gd t par e then et_gd t par e else et_dp par 47 (par e)
theorem et_gd_le {t par : Nat → Int32} : ∀ n, et_gd t par n ≤ 47
  | 0 => Nat.zero_le _
  | n + 1 => by
    have a := et_gd_le (t := t) (par := par) n
    have b := et_dp_le (par := par) 47 (par n)
    simp only [et_gd]
    split
    · exact a
    · split <;> omega
theorem et_nx_k {t s : Nat → Int32} {after r : Int32} {e : Nat} (h : et_Nx t s after e r) (z : t e = 0 ∨ ¬ after < s e) : et_Nx t s after (e + 1) r := by
  have q : ∀ x, x < e + 1 → ¬ t x = 0 → after < s x → x < e := by
    intro x hx tx ax
    by_cases c : x = e
    · subst c; exact (z.elim tx (fun w => w ax)).elim
    · omega
  rcases h with ⟨h1, h2⟩ | ⟨m, h1, h2, h3, h4, h5⟩
  · exact Or.inl ⟨h1, fun x hx tx ax => h2 x (q x hx tx ax) tx ax⟩
  · exact Or.inr ⟨m, by omega, h2, h3, h4, fun x hx tx ax => h5 x (q x hx tx ax) tx ax⟩
theorem et_nx_n {t s : Nat → Int32} {after : Int32} {e : Nat} (he : e < 48) (h : et_Nx t s after e (-1)) (te : ¬ t e = 0) (ae : after < s e) : et_Nx t s after (e + 1) (nI e) := by
  rcases h with ⟨_, h2⟩ | ⟨m, h1, h2, _⟩
  · refine Or.inr ⟨e, by omega, rfl, te, ae, fun x hx tx ax => ?_⟩
    by_cases c : x = e
    · subst c; exact Int32.le_refl _
    · exact absurd ax (h2 x (by omega) tx)
  · exact (et_ne1 (e := m) (by omega) h2.symm).elim
theorem et_nx_c {t s : Nat → Int32} {after : Int32} {e m : Nat} (he : e < 48) (hm : m < 48) (h : et_Nx t s after e (nI m)) (te : ¬ t e = 0) (ae : after < s e) :
    (s m ≤ s e → et_Nx t s after (e + 1) (nI m)) ∧ (¬ s m ≤ s e → et_Nx t s after (e + 1) (nI e)) := by
  rcases h with ⟨h1, _⟩ | ⟨m', h1, h2, h3, h4, h5⟩
  · exact (et_ne1 hm h1).elim
  · obtain rfl : m = m' := et_inj hm (by omega) h2
    refine ⟨fun c => Or.inr ⟨m, by omega, rfl, h3, h4, fun x hx tx ax => ?_⟩, fun c => Or.inr ⟨e, by omega, rfl, te, ae, fun x hx tx ax => ?_⟩⟩
    · by_cases q : x = e
      · subst q; exact c
      · exact h5 x (by omega) tx ax
    · by_cases q : x = e
      · subst q; exact Int32.le_refl _
      · have a := h5 x (by omega) tx ax
        rw [et_le] at *
        omega
def et_R (t s : Nat → Int32) (after : Int32) (k : Nat) (r : Int32) : Prop :=
  (r = -1 ∧ ∀ x, et_S t s after x → ¬ et_ct t s after x = k) ∨ ∃ m, et_S t s after m ∧ r = nI m ∧ et_ct t s after m = k
section
variable {zs zn tc fc : Int32} {t par nm al s vb rs kd xa xn st xs it tp fe : Nat → Int32}
theorem xw_cbelow {post : Int32 → Prop} {b : Nat} (hT : et_Tree t par) (hb : b < 48) (tb : ¬ t b = 0) (k : post (nI (et_cn (fun e => ¬ t e = 0 ∧ et_wi par (nI b) 47 (par e)) 48))) : wpX_countBelow post (zs, zn, tc, fc, t, par, nm, al, s, vb, rs, kd, xa, xn, st, xs, it, tp, fe) (nI b) := by
  have key : ∀ d e n, e + d = 48 → d < n → wX_countBelow_4 post (nI b) zs zn tc fc t par nm al s vb rs kd xa xn st xs it tp fe n (nI (et_cn (fun e => ¬ t e = 0 ∧ et_wi par (nI b) 47 (par e)) e)) (nI e) := by
    intro d
    induction d with
    | zero =>
      intro e n he hn
      obtain ⟨n, rfl⟩ : ∃ m, n = m + 1 := ⟨n - 1, by omega⟩
      obtain rfl : e = 48 := by omega
      exact br_t et_le48 k
    | succ d ih =>
      intro e n he hn
      obtain ⟨n, rfl⟩ : ∃ m, n = m + 1 := ⟨n - 1, by omega⟩
      have h1 : e < 48 := by omega
      have nx := ih (e + 1) n (by omega) (by omega)
      simp only [et_cn] at nx
      simp only [wX_countBelow_4, et_cl h1, et_ge h1, et_in h1, forall_eq, nI_1, true_and, and_true, not_false_iff, not_true, true_implies, false_implies]
      by_cases a : t e = 0
      · rw [et_b_f (fun z => z.1 a)] at nx
        exact br_t a nx
      · refine br_f a ?_
        by_cases c : nI e = nI b
        · obtain rfl := et_inj h1 hb c
          rw [et_b_f (fun z => et_below_self hT hb tb z.2)] at nx
          exact br_t rfl nx
        · refine br_f c (xw_within hT h1 a (fun w => br_f et_10 ?_) (fun w => br_t rfl ?_))
          · rw [et_b_t ⟨a, w.elim (fun z => absurd z c) id⟩] at nx
            exact nx
          · rw [et_b_f (fun z => w (Or.inr z.2))] at nx
            exact nx
  exact ⟨49, key 48 0 49 rfl (by omega)⟩
theorem xw_cthere {post : Int32 → Prop} (k : post (nI (et_cn (fun e => ¬ t e = 0) 48))) : wpX_countThere post (zs, zn, tc, fc, t, par, nm, al, s, vb, rs, kd, xa, xn, st, xs, it, tp, fe) := by
  have key : ∀ d e n, e + d = 48 → d < n → wX_countThere_4 post zs zn tc fc t par nm al s vb rs kd xa xn st xs it tp fe n (nI (et_cn (fun e => ¬ t e = 0) e)) (nI e) := by
    intro d
    induction d with
    | zero =>
      intro e n he hn
      obtain ⟨n, rfl⟩ : ∃ m, n = m + 1 := ⟨n - 1, by omega⟩
      obtain rfl : e = 48 := by omega
      exact br_t et_le48 k
    | succ d ih =>
      intro e n he hn
      obtain ⟨n, rfl⟩ : ∃ m, n = m + 1 := ⟨n - 1, by omega⟩
      have h1 : e < 48 := by omega
      have nx := ih (e + 1) n (by omega) (by omega)
      simp only [et_cn] at nx
      simp only [wX_countThere_4, et_cl h1, et_ge h1, et_in h1, forall_eq, nI_1, true_and, and_true, not_false_iff, not_true, true_implies, false_implies]
      by_cases a : t e = 0
      · rw [et_b_f (fun z => z a)] at nx
        exact br_t a nx
      · rw [et_b_t a] at nx
        exact br_f a nx
  exact ⟨49, key 48 0 49 rfl (by omega)⟩
theorem xw_clost {post : Int32 → Prop} (k : post (nI (et_cn (fun e => ¬ t e = 0 ∧ al e = -2) 48))) : wpX_countAliasesOfNothing post (zs, zn, tc, fc, t, par, nm, al, s, vb, rs, kd, xa, xn, st, xs, it, tp, fe) := by
  have key : ∀ d e n, e + d = 48 → d < n → wX_countAliasesOfNothing_4 post zs zn tc fc t par nm al s vb rs kd xa xn st xs it tp fe n (nI (et_cn (fun e => ¬ t e = 0 ∧ al e = -2) e)) (nI e) := by
    intro d
    induction d with
    | zero =>
      intro e n he hn
      obtain ⟨n, rfl⟩ : ∃ m, n = m + 1 := ⟨n - 1, by omega⟩
      obtain rfl : e = 48 := by omega
      exact br_t et_le48 k
    | succ d ih =>
      intro e n he hn
      obtain ⟨n, rfl⟩ : ∃ m, n = m + 1 := ⟨n - 1, by omega⟩
      have h1 : e < 48 := by omega
      have nx := ih (e + 1) n (by omega) (by omega)
      simp only [et_cn] at nx
      simp only [wX_countAliasesOfNothing_4, et_cl h1, et_ge h1, et_in h1, forall_eq, nI_1, true_and, and_true, not_false_iff, not_true, true_implies, false_implies]
      by_cases a : t e = 0
      · rw [et_b_f (fun z => z.1 a)] at nx
        exact br_t a nx
      · by_cases b : al e = -2
        · rw [et_b_t ⟨a, b⟩] at nx
          exact br_f a (br_t b nx)
        · rw [et_b_f (fun z => b z.2)] at nx
          exact br_f a (br_f b nx)
  exact ⟨49, key 48 0 49 rfl (by omega)⟩
theorem xw_gd {post : Int32 → Prop} (hT : et_Tree t par) (k : post (nI (et_gd t par 48))) : wpX_greatestDepth post (zs, zn, tc, fc, t, par, nm, al, s, vb, rs, kd, xa, xn, st, xs, it, tp, fe) := by
  have key : ∀ d e n, e + d = 48 → d < n → wX_greatestDepth_4 post zs zn tc fc t par nm al s vb rs kd xa xn st xs it tp fe n (nI (et_gd t par e)) (nI e) := by
    intro d
    induction d with
    | zero =>
      intro e n he hn
      obtain ⟨n, rfl⟩ : ∃ m, n = m + 1 := ⟨n - 1, by omega⟩
      obtain rfl : e = 48 := by omega
      exact br_t et_le48 k
    | succ d ih =>
      intro e n he hn
      obtain ⟨n, rfl⟩ : ∃ m, n = m + 1 := ⟨n - 1, by omega⟩
      have h1 : e < 48 := by omega
      have g1 := et_gd_le (t := t) (par := par) e
      have g2 := et_dp_le (par := par) 47 (par e)
      have nx := ih (e + 1) n (by omega) (by omega)
      simp only [et_gd] at nx
      simp only [wX_greatestDepth_4, wX_greatestDepth_28, et_cl h1, et_ge h1, et_in h1, forall_eq, nI_1, true_and, and_true, not_false_iff, not_true, true_implies, false_implies]
      by_cases a : t e = 0
      · rw [if_pos a] at nx
        exact br_t a (br_t (nI_pos' (by omega)) nx)
      · rw [if_neg a] at nx
        refine br_f a (xw_depth hT h1 a ?_)
        refine pk_le (et_dp par 47 (par e)) (et_gd t par e) (fun z => ?_) (fun z => ?_)
        · rw [if_pos z] at nx
          exact nx
        · rw [if_neg (by omega)] at nx
          exact nx
  exact ⟨49, key 48 0 49 rfl (by omega)⟩
theorem xw_next {post : Int32 → Prop} {after : Int32} (k : ∀ r, et_Nx t s after 48 r → post r) : wpX_nextChanged post (zs, zn, tc, fc, t, par, nm, al, s, vb, rs, kd, xa, xn, st, xs, it, tp, fe) after := by
  have key : ∀ d e n r, e + d = 48 → d < n → et_Nx t s after e r → wX_nextChanged_4 post after zs zn tc fc t par nm al s vb rs kd xa xn st xs it tp fe n r (nI e) := by
    intro d
    induction d with
    | zero =>
      intro e n r he hn hr
      obtain ⟨n, rfl⟩ : ∃ m, n = m + 1 := ⟨n - 1, by omega⟩
      obtain rfl : e = 48 := by omega
      exact br_t et_le48 (k r hr)
    | succ d ih =>
      intro e n r he hn hr
      obtain ⟨n, rfl⟩ : ∃ m, n = m + 1 := ⟨n - 1, by omega⟩
      have h1 : e < 48 := by omega
      have nx := fun r => ih (e + 1) n r (by omega) (by omega)
      simp only [wX_nextChanged_4, et_cl h1, et_ge h1, et_in h1, forall_eq, nI_1, true_and, and_true, not_false_iff, not_true, true_implies, false_implies]
      by_cases a : t e = 0
      · exact br_t a (nx r (et_nx_k hr (Or.inl a)))
      · refine br_f a ?_
        by_cases b : s e ≤ after
        · exact br_t b (nx r (et_nx_k hr (Or.inr (Int32.not_lt.mpr b))))
        · have ae : after < s e := Int32.not_le.mp b
          refine br_f b ?_
          by_cases c : r = -1
          · subst c
            exact br_t rfl (nx _ (et_nx_n h1 hr a ae))
          · obtain ⟨m, hm, rfl⟩ : ∃ m, m < 48 ∧ r = nI m := by
              rcases hr with ⟨h, _⟩ | ⟨m, h1', h2, _⟩
              · exact absurd h c
              · exact ⟨m, by omega, h2⟩
            have q := et_nx_c h1 hm hr a ae
            simp only [et_cl hm, et_in hm, true_and]
            exact br_f c (br_c (fun z => nx _ (q.1 z)) (fun z => nx _ (q.2 z)))
  exact ⟨49, key 48 0 49 (-1) rfl (by omega) (Or.inl ⟨rfl, fun x hx => absurd hx (Nat.not_lt_zero _)⟩)⟩
theorem xw_changed {post : Int32 → Prop} {after : Int32} {k : Nat} (hD : et_Dis t s) (hk : k < 48) (h : ∀ r, et_R t s after k r → post r) : wpX_changed post (zs, zn, tc, fc, t, par, nm, al, s, vb, rs, kd, xa, xn, st, xs, it, tp, fe) after (nI k) := by
  refine br_f (et_nn hk) (br_t (nI_lt (b := 48) hk (by decide)) (xw_next (fun r hr => ?_)))
  have key : ∀ d p n r, p + d = k → d < n → et_Ch t s after p r → wX_changed_21 post (nI k) zs zn tc fc t par nm al s vb rs kd xa xn st xs it tp fe n r (nI p) := by
    intro d
    induction d with
    | zero =>
      intro p n r hp hn hr
      obtain ⟨n, rfl⟩ : ∃ m, n = m + 1 := ⟨n - 1, by omega⟩
      obtain rfl : p = k := by omega
      refine br_t (Int32.le_refl _) (h r ?_)
      rcases hr with ⟨h1, h2⟩ | h1
      · exact Or.inl ⟨h1, fun x hx z => by have := h2 x hx; omega⟩
      · exact Or.inr h1
    | succ d ih =>
      intro p n r hp hn hr
      obtain ⟨n, rfl⟩ : ∃ m, n = m + 1 := ⟨n - 1, by omega⟩
      refine br_f (nI_ge (by omega) (by omega)) ?_
      rcases hr with ⟨h1, h2⟩ | ⟨m, hm, h1, h2⟩
      · exact br_t h1 (h r (Or.inl ⟨h1, fun x hx z => by have := h2 x hx; omega⟩))
      · subst h1
        refine br_f (et_ne1 hm.1) ⟨et_in hm.1, ?_⟩
        simp only [et_cl hm.1]
        refine xw_next (fun r' hr' => ?_)
        simp only [forall_eq, nI_1, true_and, and_true, not_false_iff, not_true, true_implies, false_implies]
        exact ih (p + 1) n r' (by omega) (by omega) (et_ch_s hD hm h2 hr')
  exact ⟨k + 1, key k 0 (k + 1) r (by omega) (by omega) (et_ch0 hr)⟩
end
section
variable {zn zs : Int32} {t par nm al s se ru kd ya yn st ys gn fa : Nat → Int32}
theorem yw_cbelow {post : Int32 → Prop} {b : Nat} (hT : et_Tree t par) (k : post (nI (et_cn (fun e => ¬ t e = 0 ∧ et_wi par (nI b) 47 (par e)) 48))) : wpY_below post (zn, zs, t, par, nm, al, s, se, ru, kd, ya, yn, st, ys, gn, fa) (nI b) := by
  have key : ∀ d e n, e + d = 48 → d < n → wY_below_4 post (nI b) zn zs t par nm al s se ru kd ya yn st ys gn fa n (nI (et_cn (fun e => ¬ t e = 0 ∧ et_wi par (nI b) 47 (par e)) e)) (nI e) := by
    intro d
    induction d with
    | zero =>
      intro e n he hn
      obtain ⟨n, rfl⟩ : ∃ m, n = m + 1 := ⟨n - 1, by omega⟩
      obtain rfl : e = 48 := by omega
      exact br_t et_le48 k
    | succ d ih =>
      intro e n he hn
      obtain ⟨n, rfl⟩ : ∃ m, n = m + 1 := ⟨n - 1, by omega⟩
      have h1 : e < 48 := by omega
      have nx := ih (e + 1) n (by omega) (by omega)
      simp only [et_cn] at nx
      simp only [wY_below_4, et_cl h1, et_ge h1, et_in h1, forall_eq, nI_1, true_and, and_true, not_false_iff, not_true, true_implies, false_implies]
      by_cases a : t e = 0
      · rw [et_b_f (fun z => z.1 a)] at nx
        exact br_t a nx
      · refine br_f a (yw_below hT h1 a (fun w => br_f et_10 ?_) (fun w => br_t rfl ?_))
        · rw [et_b_t ⟨a, w⟩] at nx
          exact nx
        · rw [et_b_f (fun z => w z.2)] at nx
          exact nx
  exact ⟨49, key 48 0 49 rfl (by omega)⟩
theorem yw_state {post : Int32 → Prop} {w : Int32} (hT : et_Tree t par) (k0 : w = 0 → post zs) (k1 : w = 1 → post (nI (et_cn (fun e => ¬ t e = 0) 48))) (k2 : w = 2 → post (nI (et_cn (fun e => ¬ t e = 0 ∧ al e = -2) 48))) (k3 : w = 3 → post (nI (et_gd t par 48)))
    (k4 : ¬ w = 0 → ¬ w = 1 → ¬ w = 2 → ¬ w = 3 → post (-1)) : wpY_state post (zn, zs, t, par, nm, al, s, se, ru, kd, ya, yn, st, ys, gn, fa) w := by
  have key : ∀ d e n, e + d = 48 → d < n → wY_state_10 post w zn zs t par nm al s se ru kd ya yn st ys gn fa n (nI (et_cn (fun e => ¬ t e = 0) e)) (nI (et_cn (fun e => ¬ t e = 0 ∧ al e = -2) e)) (nI (et_gd t par e)) (nI e) := by
    intro d
    induction d with
    | zero =>
      intro e n he hn
      obtain ⟨n, rfl⟩ : ∃ m, n = m + 1 := ⟨n - 1, by omega⟩
      obtain rfl : e = 48 := by omega
      exact br_t et_le48 (br_c k0 (fun z0 => br_c k1 (fun z1 => br_c k2 (fun z2 => br_c k3 (fun z3 => k4 z0 z1 z2 z3)))))
    | succ d ih =>
      intro e n he hn
      obtain ⟨n, rfl⟩ : ∃ m, n = m + 1 := ⟨n - 1, by omega⟩
      have h1 : e < 48 := by omega
      have g1 := et_gd_le (t := t) (par := par) e
      have g2 := et_dp_le (par := par) 47 (par e)
      have nx := ih (e + 1) n (by omega) (by omega)
      simp only [et_cn, et_gd] at nx
      simp only [wY_state_10, wY_state_48, et_cl h1, et_ge h1, et_in h1, forall_eq, nI_1, true_and, and_true, not_false_iff, not_true, true_implies, false_implies]
      by_cases a : t e = 0
      · rw [et_b_f (fun z => z a), et_b_f (fun z => z.1 a), if_pos a] at nx
        exact br_t a nx
      · rw [et_b_t a, if_neg a] at nx
        by_cases b : al e = -2
        · rw [et_b_t ⟨a, b⟩] at nx
          refine br_f a (br_t b (yw_depth hT h1 a ?_))
          refine pk_le (et_dp par 47 (par e)) (et_gd t par e) (fun z => ?_) (fun z => ?_)
          · rw [if_pos z] at nx
            exact nx
          · rw [if_neg (by omega)] at nx
            exact yw_depth hT h1 a nx
        · rw [et_b_f (fun z => b z.2)] at nx
          refine br_f a (br_f b (yw_depth hT h1 a ?_))
          refine pk_le (et_dp par 47 (par e)) (et_gd t par e) (fun z => ?_) (fun z => ?_)
          · rw [if_pos z] at nx
            exact nx
          · rw [if_neg (by omega)] at nx
            exact yw_depth hT h1 a nx
  exact ⟨49, key 48 0 49 rfl (by omega)⟩
theorem yw_changed {post : Int32 → Prop} {after r : Int32} {k : Nat} (hD : et_Dis t s) (hk : k < 2 ^ 31) (hr : et_R t s after k r) (h : post r) : wpY_changed post (zn, zs, t, par, nm, al, s, se, ru, kd, ya, yn, st, ys, gn, fa) after (nI k) := by
  refine br_t (nI_pos' hk) ?_
  have key : ∀ d e n, e + d = 48 → d < n → (∀ x, x < e → et_S t s after x → ¬ et_ct t s after x = k) → wY_changed_8 post after (nI k) zn zs t par nm al s se ru kd ya yn st ys gn fa n (nI e) := by
    intro d
    induction d with
    | zero =>
      intro e n he hn hb
      obtain ⟨n, rfl⟩ : ∃ m, n = m + 1 := ⟨n - 1, by omega⟩
      obtain rfl : e = 48 := by omega
      refine br_t et_le48 ?_
      rcases hr with ⟨h1, _⟩ | ⟨m, hm, h1, h2⟩
      · rw [← h1]; exact h
      · exact (hb m hm.1 hm h2).elim
    | succ d ih =>
      intro e n he hn hb
      obtain ⟨n, rfl⟩ : ∃ m, n = m + 1 := ⟨n - 1, by omega⟩
      have h1 : e < 48 := by omega
      have nx : ¬ (et_S t s after e ∧ et_ct t s after e = k) → wY_changed_8 post after (nI k) zn zs t par nm al s se ru kd ya yn st ys gn fa n (nI (e + 1)) := fun z => ih (e + 1) n (by omega) (by omega) (fun x hx hS hc => by
        by_cases q : x = e
        · subst q; exact z ⟨hS, hc⟩
        · exact hb x (by omega) hS hc)
      simp only [wY_changed_8, et_cl h1, et_ge h1, et_in h1, forall_eq, nI_1, true_and, and_true, not_false_iff, not_true, true_implies, false_implies]
      by_cases a : t e = 0
      · exact br_t a (nx (fun z => z.1.2.1 a))
      · refine br_f a ?_
        by_cases b : after < s e
        · refine br_t b ?_
          have hS : et_S t s after e := ⟨h1, a, b⟩
          have inner : ∀ d o m, o + d = 48 → d < m → wY_changed_42 post (wY_changed_8 post after (nI k) zn zs t par nm al s se ru kd ya yn st ys gn fa n) after (nI k) (nI e) zn zs t par nm al s se ru kd ya yn st ys gn fa m (nI (et_cn (fun o => ¬ t o = 0 ∧ after < s o ∧ s o < s e) o)) (nI o) := by
            intro d
            induction d with
            | zero =>
              intro o m ho hm
              obtain ⟨m, rfl⟩ : ∃ z, m = z + 1 := ⟨m - 1, by omega⟩
              obtain rfl : o = 48 := by omega
              refine br_t et_le48 ?_
              have cl := et_ct_lt (t := t) (s := s) (after := after) h1
              refine pk_eq (et_ct t s after e) k (fun z => ?_) (fun z => ?_) rfl rfl (by omega) hk
              · rcases hr with ⟨h1', h2⟩ | ⟨m', hm', h1', h2⟩
                · exact (h2 e hS z).elim
                · rw [et_ct_i hD hS hm' (z.trans h2.symm), ← h1']
                  exact h
              · simp only [forall_eq, nI_1, true_and, and_true, not_false_iff, not_true, true_implies, false_implies]
                exact nx (fun y => z y.2)
            | succ d ih2 =>
              intro o m ho hm
              obtain ⟨m, rfl⟩ : ∃ z, m = z + 1 := ⟨m - 1, by omega⟩
              have h2 : o < 48 := by omega
              have n2 := ih2 (o + 1) m (by omega) (by omega)
              simp only [et_cn] at n2
              simp only [wY_changed_42, et_cl h2, et_ge h2, et_in h2, et_cl h1, et_in h1, forall_eq, nI_1, true_and, and_true, not_false_iff, not_true, true_implies, false_implies]
              by_cases a2 : t o = 0
              · rw [et_b_f (fun z => z.1 a2)] at n2
                exact br_t a2 n2
              · refine br_f a2 ?_
                by_cases b2 : s o ≤ after
                · rw [et_b_f (fun z => Int32.not_lt.mpr b2 z.2.1)] at n2
                  exact br_t b2 n2
                · refine br_f b2 ?_
                  by_cases c2 : s e ≤ s o
                  · rw [et_b_f (fun z => Int32.not_lt.mpr c2 z.2.2)] at n2
                    exact br_t c2 n2
                  · rw [et_b_t ⟨a2, Int32.not_le.mp b2, Int32.not_le.mp c2⟩] at n2
                    exact br_f c2 n2
          exact ⟨49, inner 48 0 49 rfl (by omega)⟩
        · exact br_f b (nx (fun z => b z.1.2.2))
  exact ⟨49, key 48 0 49 rfl (by omega) (fun x hx => absurd hx (Nat.not_lt_zero _))⟩
theorem yw_found {post : Int32 → Prop} {p r : Int32} (h1 : ∀ e, e < 48 → ¬ fa e = 0 → nI (et_cn (fun e => ¬ fa e = 0) e) = p → r = nI e) (h2 : (∀ e, e < 48 → ¬ fa e = 0 → ¬ nI (et_cn (fun e => ¬ fa e = 0) e) = p) → r = -1) (h : post r) : wpY_found post (zn, zs, t, par, nm, al, s, se, ru, kd, ya, yn, st, ys, gn, fa) p := by
  have key : ∀ d e n, e + d = 48 → d < n → (∀ x, x < e → ¬ fa x = 0 → ¬ nI (et_cn (fun e => ¬ fa e = 0) x) = p) → wY_found_4 post p zn zs t par nm al s se ru kd ya yn st ys gn fa n (nI (et_cn (fun e => ¬ fa e = 0) e)) (nI e) := by
    intro d
    induction d with
    | zero =>
      intro e n he hn hb
      obtain ⟨n, rfl⟩ : ∃ m, n = m + 1 := ⟨n - 1, by omega⟩
      obtain rfl : e = 48 := by omega
      refine br_t et_le48 ?_
      rw [← h2 hb]
      exact h
    | succ d ih =>
      intro e n he hn hb
      obtain ⟨n, rfl⟩ : ∃ m, n = m + 1 := ⟨n - 1, by omega⟩
      have h1' : e < 48 := by omega
      have nx := fun z => ih (e + 1) n (by omega) (by omega) z
      simp only [et_cn] at nx
      simp only [wY_found_4, et_cl h1', et_ge h1', et_in h1', forall_eq, nI_1, true_and, and_true, not_false_iff, not_true, true_implies, false_implies]
      by_cases a : fa e = 0
      · rw [et_b_f (fun z => z a)] at nx
        refine br_t a (nx (fun x hx fx => ?_))
        exact hb x (by have : x ≠ e := fun z => fx (z ▸ a)
                       omega) fx
      · rw [et_b_t a] at nx
        refine br_f a ?_
        by_cases b : nI (et_cn (fun e => ¬ fa e = 0) e) = p
        · refine br_t b ?_
          rw [← h1 e h1' a b]
          exact h
        · refine br_f b (nx (fun x hx fx => ?_))
          by_cases c : x = e
          · subst c; exact b
          · exact hb x (by omega) fx
  exact ⟨49, key 48 0 49 rfl (by omega) (fun x hx => absurd hx (Nat.not_lt_zero _))⟩
end
end
section
def et_un (t al : Nat → Int32) (g : Int32) : Nat → (Nat → Int32)
  | 0 => al
  | e + 1 => if ¬ t e = 0 ∧ et_un t al g e e = g then upd (et_un t al g e) e (-2) else et_un t al g e
theorem et_un_v {t al : Nat → Int32} {g : Int32} : ∀ n x, et_un t al g n x = if x < n ∧ ¬ t x = 0 ∧ al x = g then -2 else al x
  | 0, x => by
    rw [if_neg (fun z => absurd z.1 (Nat.not_lt_zero _))]
    rfl
  | n + 1, x => by
    have h := et_un_v (t := t) (al := al) (g := g) n
    have hn : et_un t al g n n = al n := by rw [h n, if_neg (fun z => absurd z.1 (Nat.lt_irrefl _))]
    simp only [et_un]
    by_cases c : ¬ t n = 0 ∧ et_un t al g n n = g
    · rw [if_pos c]
      by_cases e : x = n
      · subst e
        rw [pk_us, if_pos ⟨by omega, c.1, by rw [← hn]; exact c.2⟩]
      · rw [pk_un e, h x]
        by_cases d : x < n ∧ ¬ t x = 0 ∧ al x = g
        · rw [if_pos d, if_pos ⟨by omega, d.2⟩]
        · rw [if_neg d, if_neg (fun z => d ⟨by omega, z.2⟩)]
    · rw [if_neg c, h x]
      by_cases e : x = n
      · subst e
        rw [if_neg (fun z => absurd z.1 (Nat.lt_irrefl _)), if_neg (fun z => c ⟨z.2.1, by rw [hn]; exact z.2.2⟩)]
      · by_cases d : x < n ∧ ¬ t x = 0 ∧ al x = g
        · rw [if_pos d, if_pos ⟨by omega, d.2⟩]
        · rw [if_neg d, if_neg (fun z => d ⟨by omega, z.2⟩)]
def et_fill (f : Nat → Int32) (b : Nat) (v : Int32) : Nat → (Nat → Int32)
  | 0 => f
  | j + 1 => upd (et_fill f b v j) (b + j) v
theorem et_fill_i {f : Nat → Int32} {b : Nat} {v : Int32} : ∀ n j, j < n → et_fill f b v n (b + j) = v
  | 0, _, h => absurd h (Nat.not_lt_zero _)
  | n + 1, j, h => by
    simp only [et_fill]
    by_cases c : j = n
    · subst c; exact pk_us
    · rw [pk_un (by omega)]
      exact et_fill_i n j (by omega)
theorem et_fill_o {f : Nat → Int32} {b : Nat} {v : Int32} : ∀ n x, x < b ∨ b + n ≤ x → et_fill f b v n x = f x
  | 0, _, _ => rfl
  | n + 1, x, h => by
    simp only [et_fill]
    rw [pk_un (by omega)]
    exact et_fill_o n x (by omega)
theorem et_6 {j : Nat} (h : j < 6) : ¬ (6 : Int32) ≤ nI j := nI_ge (b := 6) h (by decide)
theorem et_24 {j : Nat} (h : j < 24) : ¬ (24 : Int32) ≤ nI j := nI_ge (b := 24) h (by decide)
section
variable {zs zn tc fc : Int32} {t par nm al s vb rs kd xa xn st xs it tp fe : Nat → Int32}
theorem xw_unpoint {post : SX → Prop} {g : Int32} (k : post (zs, zn, tc, fc, t, par, nm, et_un t al g 48, s, vb, rs, kd, xa, xn, st, xs, it, tp, fe)) : wpX_unpointAliasesOf post (zs, zn, tc, fc, t, par, nm, al, s, vb, rs, kd, xa, xn, st, xs, it, tp, fe) g := by
  have key : ∀ d e n, e + d = 48 → d < n → wX_unpointAliasesOf_2 post g zs zn tc fc n (nI e) t par nm (et_un t al g e) s vb rs kd xa xn st xs it tp fe := by
    intro d
    induction d with
    | zero =>
      intro e n he hn
      obtain ⟨n, rfl⟩ : ∃ m, n = m + 1 := ⟨n - 1, by omega⟩
      obtain rfl : e = 48 := by omega
      exact br_t et_le48 k
    | succ d ih =>
      intro e n he hn
      obtain ⟨n, rfl⟩ : ∃ m, n = m + 1 := ⟨n - 1, by omega⟩
      have h1 : e < 48 := by omega
      have nx := ih (e + 1) n (by omega) (by omega)
      simp only [et_un] at nx
      simp only [wX_unpointAliasesOf_2, et_cl h1, et_ge h1, et_in h1, forall_eq, nI_1, true_and, and_true, not_false_iff, not_true, true_implies, false_implies]
      by_cases a : t e = 0
      · rw [if_neg (fun z => z.1 a)] at nx
        exact br_t a nx
      · by_cases b : et_un t al g e e = g
        · rw [if_pos ⟨a, b⟩] at nx
          exact br_f a (br_t b nx)
        · rw [if_neg (fun z => b z.2)] at nx
          exact br_f a (br_f b nx)
  exact ⟨49, key 48 0 49 rfl (by omega)⟩
theorem xw_fval {post : SX → Prop} {e : Nat} (he : e < 48) (k : post (zs, zn, tc, fc, t, par, nm, al, s, et_fill vb (e * 6) 0 6, rs, kd, xa, xn, st, xs, it, tp, fe)) : wpX_forgetValues post (zs, zn, tc, fc, t, par, nm, al, s, vb, rs, kd, xa, xn, st, xs, it, tp, fe) (nI e) := by
  have key : ∀ d j n, j + d = 6 → d < n → wX_forgetValues_2 post (nI e) zs zn tc fc n (nI j) t par nm al s (et_fill vb (e * 6) 0 j) rs kd xa xn st xs it tp fe := by
    intro d
    induction d with
    | zero =>
      intro j n hj hn
      obtain ⟨n, rfl⟩ : ∃ m, n = m + 1 := ⟨n - 1, by omega⟩
      obtain rfl : j = 6 := by omega
      exact br_t (by decide) k
    | succ d ih =>
      intro j n hj hn
      obtain ⟨n, rfl⟩ : ∃ m, n = m + 1 := ⟨n - 1, by omega⟩
      have h1 : j < 6 := by omega
      have ci : (nI (e * 6 + j)).toNatClampNeg = e * 6 + j := nI_clamp (by omega)
      have vi : vp_in (nI (e * 6 + j)) 288 := vp_in_nI (by omega) (by omega)
      have nx := ih (j + 1) n (by omega) (by omega)
      simp only [et_fill] at nx
      simp only [wX_forgetValues_2, et_6 h1, et_i6, ci, vi, forall_eq, nI_1, true_and, and_true, not_false_iff, not_true, true_implies, false_implies]
      exact nx
  exact ⟨7, key 6 0 7 rfl (by omega)⟩
theorem xw_frul {post : SX → Prop} {e : Nat} (he : e < 48) (k : post (zs, zn, tc, fc, t, par, nm, al, s, vb, et_fill rs (e * 24) 0 24, kd, xa, xn, st, xs, it, tp, fe)) : wpX_forgetRules post (zs, zn, tc, fc, t, par, nm, al, s, vb, rs, kd, xa, xn, st, xs, it, tp, fe) (nI e) := by
  have key : ∀ d j n, j + d = 24 → d < n → wX_forgetRules_2 post (nI e) zs zn tc fc n (nI j) t par nm al s vb (et_fill rs (e * 24) 0 j) kd xa xn st xs it tp fe := by
    intro d
    induction d with
    | zero =>
      intro j n hj hn
      obtain ⟨n, rfl⟩ : ∃ m, n = m + 1 := ⟨n - 1, by omega⟩
      obtain rfl : j = 24 := by omega
      exact br_t (by decide) k
    | succ d ih =>
      intro j n hj hn
      obtain ⟨n, rfl⟩ : ∃ m, n = m + 1 := ⟨n - 1, by omega⟩
      have h1 : j < 24 := by omega
      have ci : (nI (e * 24 + j)).toNatClampNeg = e * 24 + j := nI_clamp (by omega)
      have vi : vp_in (nI (e * 24 + j)) 1152 := vp_in_nI (by omega) (by omega)
      have nx := ih (j + 1) n (by omega) (by omega)
      simp only [et_fill] at nx
      simp only [wX_forgetRules_2, et_24 h1, et_i24, ci, vi, forall_eq, nI_1, true_and, and_true, not_false_iff, not_true, true_implies, false_implies]
      exact nx
  exact ⟨25, key 24 0 25 rfl (by omega)⟩
end
section
variable {zn zs : Int32} {t par nm al s se ru kd ya yn st ys gn fa : Nat → Int32}
theorem yw_make {post : SY → Prop} {e : Nat} {p q a : Int32} (he : e < 48) (k : post (zn, zs, upd t e 1, upd par e p, upd nm e q, upd al e a, s, et_fill se (e * 6) 0 6, et_fill ru (e * 24) (-1) 24, kd, ya, yn, st, ys, gn, fa)) : wpY_make post (zn, zs, t, par, nm, al, s, se, ru, kd, ya, yn, st, ys, gn, fa) (nI e) p q a := by
  have key2 : ∀ (t par nm al se : Nat → Int32), (post (zn, zs, t, par, nm, al, s, se, et_fill ru (e * 24) (-1) 24, kd, ya, yn, st, ys, gn, fa)) → ∀ d j n, j + d = 24 → d < n → wY_make_61 post (nI e) zn zs n (nI j) t par nm al s se (et_fill ru (e * 24) (-1) j) kd ya yn st ys gn fa := by
    intro t par nm al se k d
    induction d with
    | zero =>
      intro j n hj hn
      obtain ⟨n, rfl⟩ : ∃ m, n = m + 1 := ⟨n - 1, by omega⟩
      obtain rfl : j = 24 := by omega
      exact br_t (by decide) k
    | succ d ih =>
      intro j n hj hn
      obtain ⟨n, rfl⟩ : ∃ m, n = m + 1 := ⟨n - 1, by omega⟩
      have h1 : j < 24 := by omega
      have ci : (nI (e * 24 + j)).toNatClampNeg = e * 24 + j := nI_clamp (by omega)
      have vi : vp_in (nI (e * 24 + j)) 1152 := vp_in_nI (by omega) (by omega)
      have nx := ih (j + 1) n (by omega) (by omega)
      simp only [et_fill] at nx
      simp only [wY_make_61, et_24 h1, et_i24', ci, vi, forall_eq, nI_1, true_and, and_true, not_false_iff, not_true, true_implies, false_implies]
      exact nx
  have key : ∀ (t par nm al : Nat → Int32), (post (zn, zs, t, par, nm, al, s, et_fill se (e * 6) 0 6, et_fill ru (e * 24) (-1) 24, kd, ya, yn, st, ys, gn, fa)) → ∀ d j n, j + d = 6 → d < n → wY_make_32 post (nI e) zn zs n (nI j) t par nm al s (et_fill se (e * 6) 0 j) ru kd ya yn st ys gn fa := by
    intro t par nm al k d
    induction d with
    | zero =>
      intro j n hj hn
      obtain ⟨n, rfl⟩ : ∃ m, n = m + 1 := ⟨n - 1, by omega⟩
      obtain rfl : j = 6 := by omega
      exact br_t (by decide) ⟨25, key2 t par nm al _ k 24 0 25 rfl (by omega)⟩
    | succ d ih =>
      intro j n hj hn
      obtain ⟨n, rfl⟩ : ∃ m, n = m + 1 := ⟨n - 1, by omega⟩
      have h1 : j < 6 := by omega
      have ci : (nI (e * 6 + j)).toNatClampNeg = e * 6 + j := nI_clamp (by omega)
      have vi : vp_in (nI (e * 6 + j)) 288 := vp_in_nI (by omega) (by omega)
      have nx := ih (j + 1) n (by omega) (by omega)
      simp only [et_fill] at nx
      simp only [wY_make_32, et_6 h1, et_i6', ci, vi, forall_eq, nI_1, true_and, and_true, not_false_iff, not_true, true_implies, false_implies]
      exact nx
  simp only [wpY_make, et_cl he, et_in he, et_bo.1, forall_eq, nI_1, true_and, and_true, not_false_iff, not_true, true_implies, false_implies]
  exact ⟨7, key _ _ _ _ k 6 0 7 rfl (by omega)⟩
theorem yw_rem {post : Int32 → SY → Prop} {g : Int32} (k : post 1 (zn, zs + 1, t, par, nm, et_un t al g 48, s, se, ru, kd, ya, yn, st, ys, gn, fa)) : ∃ n, wY_remove_40 post g zn zs n 0 t par nm al s se ru kd ya yn st ys gn fa := by
  have key : ∀ d e n, e + d = 48 → d < n → wY_remove_40 post g zn zs n (nI e) t par nm (et_un t al g e) s se ru kd ya yn st ys gn fa := by
    intro d
    induction d with
    | zero =>
      intro e n he hn
      obtain ⟨n, rfl⟩ : ∃ m, n = m + 1 := ⟨n - 1, by omega⟩
      obtain rfl : e = 48 := by omega
      exact br_t et_le48 (nm_e k)
    | succ d ih =>
      intro e n he hn
      obtain ⟨n, rfl⟩ : ∃ m, n = m + 1 := ⟨n - 1, by omega⟩
      have h1 : e < 48 := by omega
      have nx := ih (e + 1) n (by omega) (by omega)
      simp only [et_un] at nx
      simp only [wY_remove_40, et_cl h1, et_ge h1, et_in h1, forall_eq, nI_1, true_and, and_true, not_false_iff, not_true, true_implies, false_implies]
      by_cases a : t e = 0
      · rw [if_neg (fun z => z.1 a)] at nx
        exact br_t a nx
      · by_cases b : et_un t al g e e = g
        · rw [if_pos ⟨a, b⟩] at nx
          exact br_f a (br_t b nx)
        · rw [if_neg (fun z => b z.2)] at nx
          exact br_f a (br_f b nx)
  exact ⟨49, key 48 0 49 rfl (by omega)⟩
theorem yw_afree_f {post : Int32 → SY → Prop} {p q a : Int32} (h : ∀ j, j < 48 → ¬ t j = 0) (k : post (-1) (zn, zs, t, par, nm, al, s, se, ru, kd, ya, yn, st, ys, gn, fa)) : ∃ n, wY_add_61 post p q a zn zs t par nm al s se ru kd ya yn st ys gn fa n 0 := by
  have key : ∀ d e n, e + d = 48 → d < n → wY_add_61 post p q a zn zs t par nm al s se ru kd ya yn st ys gn fa n (nI e) := by
    intro d
    induction d with
    | zero =>
      intro e n he hn
      obtain ⟨n, rfl⟩ : ∃ m, n = m + 1 := ⟨n - 1, by omega⟩
      obtain rfl : e = 48 := by omega
      exact br_t et_le48 (br_t rfl k)
    | succ d ih =>
      intro e n he hn
      obtain ⟨n, rfl⟩ : ∃ m, n = m + 1 := ⟨n - 1, by omega⟩
      have h1 : e < 48 := by omega
      simp only [wY_add_61, et_cl h1, et_ge h1, et_in h1, forall_eq, nI_1, true_and, and_true, not_false_iff, not_true, true_implies, false_implies]
      exact br_f (h e h1) (ih (e + 1) n (by omega) (by omega))
  exact ⟨49, key 48 0 49 rfl (by omega)⟩
theorem yw_afree_t {post : Int32 → SY → Prop} {p q a : Int32} {f : Nat} (hf : f < 48) (tf : t f = 0) (h : ∀ j, j < f → ¬ t j = 0)
    (k : post (nI f) (zn, zs + 1, upd t f 1, upd par f p, upd nm f q, upd al f a, upd s f (zs + 1), et_fill se (f * 6) 0 6, et_fill ru (f * 24) (-1) 24, kd, ya, yn, st, ys, gn, fa)) : ∃ n, wY_add_61 post p q a zn zs t par nm al s se ru kd ya yn st ys gn fa n 0 := by
  have key : ∀ d e n, e + d = f → d < n → wY_add_61 post p q a zn zs t par nm al s se ru kd ya yn st ys gn fa n (nI e) := by
    intro d
    induction d with
    | zero =>
      intro e n he hn
      obtain ⟨n, rfl⟩ : ∃ m, n = m + 1 := ⟨n - 1, by omega⟩
      obtain rfl : e = f := by omega
      simp only [wY_add_61, et_cl hf, et_ge hf, et_in hf, forall_eq, nI_1, true_and, and_true, not_false_iff, not_true, true_implies, false_implies]
      refine br_t tf (br_f (fun z => et_ge hf (by rw [z]; decide)) ?_)
      refine yw_make hf ?_
      refine yw_stamp hf ?_
      exact k
    | succ d ih =>
      intro e n he hn
      obtain ⟨n, rfl⟩ : ∃ m, n = m + 1 := ⟨n - 1, by omega⟩
      have h1 : e < 48 := by omega
      simp only [wY_add_61, et_cl h1, et_ge h1, et_in h1, forall_eq, nI_1, true_and, and_true, not_false_iff, not_true, true_implies, false_implies]
      exact br_f (h e (by omega)) (ih (e + 1) n (by omega) (by omega))
  exact ⟨f + 1, key f 0 (f + 1) (by omega) (by omega)⟩
end
end
section
def et_I (t par al s vb se rs ru : Nat → Int32) (sn n : Nat) (kd xa ya xn yn : Nat → Int32) (fc : Int32) (fe fa : Nat → Int32) : Prop :=
  et_Tree t par ∧ et_Al t al ∧ al 0 = -1 ∧ et_Va t vb se ∧ et_Ru t rs ru ∧ et_Se t s sn ∧ (n ≤ 12 ∧ ∀ i, i < n → et_tk kd xa ya xn yn i) ∧ et_Fd fc fe fa
def i_Rel (_ : Nat) (u : SX) (v : SY) : Prop :=
  ∃ (sn n : Nat) (tc fc : Int32) (t par nm al s vb rs kd xa xn st xs it tp fe se ru ya yn ys gn fa : Nat → Int32), u = (nI sn, nI n, tc, fc, t, par, nm, al, s, vb, rs, kd, xa, xn, st, xs, it, tp, fe) ∧ v = (nI n, nI sn, t, par, nm, al, s, se, ru, kd, ya, yn, st, ys, gn, fa) ∧ et_I t par al s vb se rs ru sn n kd xa ya xn yn fc fe fa
theorem et_mk {k sn n : Nat} {tc fc : Int32} {t par nm al s vb rs kd xa xn st xs it tp fe se ru ya yn ys gn fa : Nat → Int32} (h : et_I t par al s vb se rs ru sn n kd xa ya xn yn fc fe fa) : i_Rel k (nI sn, nI n, tc, fc, t, par, nm, al, s, vb, rs, kd, xa, xn, st, xs, it, tp, fe) (nI n, nI sn, t, par, nm, al, s, se, ru, kd, ya, yn, st, ys, gn, fa) :=
  ⟨sn, n, tc, fc, t, par, nm, al, s, vb, rs, kd, xa, xn, st, xs, it, tp, fe, se, ru, ya, yn, ys, gn, fa, rfl, rfl, h⟩
theorem i_up {k : Nat} {u : SX} {v : SY} (h : i_Rel k u v) : i_Rel (k + 5) u v := h
theorem et_cn_z {P : Nat → Prop} {n : Nat} (h : et_cn P n = 0) : ∀ k, k < n → ¬ P k := fun k hk p => by
  have := et_cn_st hk p
  omega
theorem et_Se_st {t t' s : Nat → Int32} {sn e : Nat} (h : et_Se t s sn) (hs : sn < 1000000000) (ht : ∀ x, x < 48 → ¬ t' x = 0 → x = e ∨ ¬ t x = 0) : et_Se t' (upd s e (nI (sn + 1))) (sn + 1) := by
  obtain ⟨h1, h2, h3⟩ := h
  have ne : ∀ x, x < 48 → ¬ t x = 0 → ¬ s x = nI (sn + 1) := by
    intro x hx tx z
    obtain ⟨m, hm, e⟩ := h3 x hx tx
    rw [e, nI_eq (by omega) (by omega)] at z
    omega
  refine ⟨by omega, fun a b ha hb ta tb hab => ?_, fun x hx tx => ?_⟩
  · by_cases ca : a = e
    · by_cases cb : b = e
      · exact ca.trans cb.symm
      · rw [ca, pk_us, pk_un cb] at hab
        exact (ne b hb ((ht b hb tb).elim (fun z => absurd z cb) id) hab.symm).elim
    · by_cases cb : b = e
      · rw [cb, pk_us, pk_un ca] at hab
        exact (ne a ha ((ht a ha ta).elim (fun z => absurd z ca) id) hab).elim
      · rw [pk_un ca, pk_un cb] at hab
        exact h2 a b ha hb ((ht a ha ta).elim (fun z => absurd z ca) id) ((ht b hb tb).elim (fun z => absurd z cb) id) hab
  · by_cases c : x = e
    · subst c; exact ⟨sn + 1, Nat.le_refl _, pk_us⟩
    · obtain ⟨m, hm, q⟩ := h3 x hx ((ht x hx tx).elim (fun z => absurd z c) id)
      exact ⟨m, by omega, by rw [pk_un c]; exact q⟩
theorem et_Se_up {t t' s : Nat → Int32} {sn : Nat} (h : et_Se t s sn) (hs : sn < 1000000000) (ht : ∀ x, x < 48 → ¬ t' x = 0 → ¬ t x = 0) : et_Se t' s (sn + 1) := by
  obtain ⟨h1, h2, h3⟩ := h
  refine ⟨by omega, fun a b ha hb ta tb => h2 a b ha hb (ht a ha ta) (ht b hb tb), fun x hx tx => ?_⟩
  obtain ⟨m, hm, q⟩ := h3 x hx (ht x hx tx)
  exact ⟨m, by omega, q⟩
section
variable {t par nm al s vb rs kd xa xn st xs it tp fe se ru ya yn ys gn fa : Nat → Int32} {sn n : Nat} {fc : Int32}
theorem et_I_add (h : et_I t par al s vb se rs ru sn n kd xa ya xn yn fc fe fa) {f p : Nat} {a : Int32} (hs : sn < 1000000000) (hf : f < 48) (tf : t f = 0) (hp : p < 48) (tp : ¬ t p = 0) (ha : a = -1 ∨ et_is t a) :
    et_I (upd t f 1) (upd par f (nI p)) (upd al f a) (upd s f (nI (sn + 1))) vb (et_fill se (f * 6) 0 6) rs (et_fill ru (f * 24) (-1) 24) (sn + 1) n kd xa ya xn yn fc fe fa := by
  obtain ⟨h1, h2, h3, h4, h5, h6, h7, h8⟩ := h
  have f0 : (0 : Nat) ≠ f := fun z => h1.1 (z ▸ tf)
  have old : ∀ x, ¬ x = f → ¬ upd t f 1 x = 0 → ¬ t x = 0 := fun x c z => by rw [pk_un c] at z; exact z
  refine ⟨et_Tree_add h1 tf hp tp, ?_, by rw [pk_un f0]; exact h3, ⟨?_, ?_⟩, ⟨?_, ?_⟩, ?_, h7, h8⟩
  · intro e he te
    by_cases c : e = f
    · subst c
      rw [pk_us]
      rcases ha with ha | ⟨d, hd, ed, td⟩
      · exact Or.inl ha
      · exact Or.inr (Or.inr ⟨d, hd, et_u1 td, ed⟩)
    · rw [pk_un c]
      rcases h2 e he (old e c te) with q | q | ⟨d, hd, td, ed⟩
      · exact Or.inl q
      · exact Or.inr (Or.inl q)
      · exact Or.inr (Or.inr ⟨d, hd, et_u1 td, ed⟩)
  · intro e he te j hj
    have c : ¬ e = f := fun z => et_u1k (z ▸ te)
    rw [pk_un c] at te
    exact h4.1 e he te j hj
  · intro e he te j hj
    by_cases c : e = f
    · subst c
      have z := h4.1 e he tf j hj
      rw [z, et_fill_i 6 j hj]
      exact ⟨et_V0, rfl⟩
    · rw [et_fill_o 6 _ (by omega)]
      exact h4.2 e he (old e c te) j hj
  · intro e he te j hj
    have c : ¬ e = f := fun z => et_u1k (z ▸ te)
    rw [pk_un c] at te
    exact h5.1 e he te j hj
  · intro e he te j hj
    by_cases c : e = f
    · subst c
      have z := h5.1 e he tf j hj
      rw [z, et_fill_i 24 j hj]
      exact ⟨0, by omega, rfl, by decide⟩
    · rw [et_fill_o 24 _ (by omega)]
      exact h5.2 e he (old e c te) j hj
  · refine et_Se_st h6 hs (fun x hx tx => ?_)
    by_cases c : x = f
    · exact Or.inl c
    · exact Or.inr (old x c tx)
theorem et_I_rem (h : et_I t par al s vb se rs ru sn n kd xa ya xn yn fc fe fa) {f : Nat} (hs : sn < 1000000000) (hf : f < 48) (f0 : ¬ f = 0) (hc : et_cn (fun e => ¬ t e = 0 ∧ par e = nI f) 48 = 0) :
    et_I (upd t f 0) par (et_un (upd t f 0) al (nI f) 48) s (et_fill vb (f * 6) 0 6) se (et_fill rs (f * 24) 0 24) ru (sn + 1) n kd xa ya xn yn fc fe fa := by
  obtain ⟨h1, h2, h3, h4, h5, h6, h7, h8⟩ := h
  have old : ∀ x, ¬ upd t f 0 x = 0 → ¬ x = f ∧ ¬ t x = 0 := fun x z => by
    by_cases c : x = f
    · subst c; exact (z pk_us).elim
    · rw [pk_un c] at z; exact ⟨c, z⟩
  have off : ∀ x, upd t f 0 x = 0 → x = f ∨ t x = 0 := fun x z => by
    by_cases c : x = f
    · exact Or.inl c
    · rw [pk_un c] at z; exact Or.inr z
  refine ⟨et_Tree_rem h1 f0 (fun x hx tx px => et_cn_z hc x hx ⟨tx, px⟩), ?_, ?_, ⟨?_, ?_⟩, ⟨?_, ?_⟩, et_Se_up h6 hs (fun x _ tx => (old x tx).2), h7, h8⟩
  · intro e he te
    rw [et_un_v]
    by_cases c : e < 48 ∧ ¬ upd t f 0 e = 0 ∧ al e = nI f
    · rw [if_pos c]
      exact Or.inr (Or.inl rfl)
    · rw [if_neg c]
      rcases h2 e he (old e te).2 with q | q | ⟨d, hd, td, ed⟩
      · exact Or.inl q
      · exact Or.inr (Or.inl q)
      · have df : d ≠ f := fun z => c ⟨he, te, z ▸ ed⟩
        exact Or.inr (Or.inr ⟨d, hd, by rw [pk_un df]; exact td, ed⟩)
  · rw [et_un_v, if_neg (fun z => et_ne1 hf (z.2.2.symm.trans h3))]
    exact h3
  · intro e he te j hj
    by_cases c : e = f
    · subst c; exact et_fill_i 6 j hj
    · rw [et_fill_o 6 _ (by omega)]
      exact h4.1 e he ((off e te).elim (fun z => absurd z c) id) j hj
  · intro e he te j hj
    have o := old e te
    have oc := o.1
    rw [et_fill_o 6 _ (by omega)]
    exact h4.2 e he o.2 j hj
  · intro e he te j hj
    by_cases c : e = f
    · subst c; exact et_fill_i 24 j hj
    · rw [et_fill_o 24 _ (by omega)]
      exact h5.1 e he ((off e te).elim (fun z => absurd z c) id) j hj
  · intro e he te j hj
    have o := old e te
    have oc := o.1
    rw [et_fill_o 24 _ (by omega)]
    exact h5.2 e he o.2 j hj
theorem et_I_mov (h : et_I t par al s vb se rs ru sn n kd xa ya xn yn fc fe fa) {f p : Nat} (hs : sn < 1000000000) (hf : f < 48) (f0 : ¬ f = 0) (hp : p < 48) (tp : ¬ t p = 0) (hpf : ¬ nI p = nI f) (hw : ¬ et_wi par (nI f) 47 (par p)) :
    et_I t (upd par f (nI p)) al (upd s f (nI (sn + 1))) vb se rs ru (sn + 1) n kd xa ya xn yn fc fe fa := by
  obtain ⟨h1, h2, h3, h4, h5, h6, h7, h8⟩ := h
  exact ⟨et_Tree_mov h1 hf f0 hp tp hpf hw, h2, h3, h4, h5, et_Se_st h6 hs (fun x _ tx => Or.inr tx), h7, h8⟩
theorem et_I_pnt (h : et_I t par al s vb se rs ru sn n kd xa ya xn yn fc fe fa) {f c : Nat} (hs : sn < 1000000000) (ha : ¬ al f = -1) (hc : c < 48) (tc : ¬ t c = 0) :
    et_I t par (upd al f (nI c)) (upd s f (nI (sn + 1))) vb se rs ru (sn + 1) n kd xa ya xn yn fc fe fa := by
  obtain ⟨h1, h2, h3, h4, h5, h6, h7, h8⟩ := h
  have f0 : (0 : Nat) ≠ f := fun z => ha (z ▸ h3)
  refine ⟨h1, fun e he te => ?_, by rw [pk_un f0]; exact h3, h4, h5, et_Se_st h6 hs (fun x _ tx => Or.inr tx), h7, h8⟩
  by_cases d : e = f
  · subst d; rw [pk_us]; exact Or.inr (Or.inr ⟨c, hc, tc, rfl⟩)
  · rw [pk_un d]; exact h2 e he te
theorem et_I_put (h : et_I t par al s vb se rs ru sn n kd xa ya xn yn fc fe fa) {e a v : Nat} (hs : sn < 1000000000) (he : e < 48) (te : ¬ t e = 0) (ha : a < 6) (hv : v < 16) :
    et_I t par al (upd s e (nI (sn + 1))) (upd vb (e * 6 + a) (vb (e * 6 + a) ^^^ ((1 : Int32) <<< (nI v &&& 31)))) (upd se (e * 6 + a) (se (e * 6 + a) ^^^ ((1 : Int32) <<< (nI v &&& 31)))) rs ru (sn + 1) n kd xa ya xn yn fc fe fa := by
  obtain ⟨h1, h2, h3, h4, h5, h6, h7, h8⟩ := h
  refine ⟨h1, h2, h3, ⟨fun x hx tx j hj => ?_, fun x hx tx j hj => ?_⟩, h5, et_Se_st h6 hs (fun x _ tx => Or.inr tx), h7, h8⟩
  · have c : ¬ x = e := fun z => te (z ▸ tx)
    rw [pk_un (by omega)]
    exact h4.1 x hx tx j hj
  · by_cases c : x * 6 + j = e * 6 + a
    · rw [c, pk_us, pk_us]
      have q := h4.2 e he te a ha
      rw [q.2]
      exact ⟨et_Vx q.1 hv, rfl⟩
    · rw [pk_un c, pk_un c]
      exact h4.2 x hx tx j hj
theorem et_I_rul (h : et_I t par al s vb se rs ru sn n kd xa ya xn yn fc fe fa) {e o w : Nat} (he : e < 48) (te : ¬ t e = 0) (ho : o < 24) (hw : w < 3) {z : Int32} (hz : z = nI w - 1) :
    et_I t par al s vb se (upd rs (e * 24 + o) (nI w)) (upd ru (e * 24 + o) z) sn n kd xa ya xn yn fc fe fa := by
  obtain ⟨h1, h2, h3, h4, h5, h6, h7, h8⟩ := h
  refine ⟨h1, h2, h3, h4, ⟨fun x hx tx j hj => ?_, fun x hx tx j hj => ?_⟩, h6, h7, h8⟩
  · have c : ¬ x = e := fun z => te (z ▸ tx)
    rw [pk_un (by omega)]
    exact h5.1 x hx tx j hj
  · by_cases c : x * 24 + j = e * 24 + o
    · rw [c, pk_us, pk_us]
      exact ⟨w, hw, rfl, hz⟩
    · rw [pk_un c, pk_un c]
      exact h5.2 x hx tx j hj
end
end
section
theorem et_sp_lt {sn : Nat} (hs : sn < 1000000000) : nI sn < 1000000000 ∧ ¬ nI sn = 1000000000 := by
  have e : (1000000000 : Int32) = nI 1000000000 := by decide
  rw [e]
  exact ⟨nI_lt hs (by omega), fun z => by rw [nI_eq (by omega) (by omega)] at z; omega⟩
theorem et_sp_ge {sn : Nat} (hs : ¬ sn < 1000000000) (h : sn ≤ 1000000000) : ¬ nI sn < 1000000000 ∧ nI sn = 1000000000 := by
  obtain rfl : sn = 1000000000 := by omega
  decide
theorem et_100 : (100 : Int32) = nI 100 := by decide
section
variable {zs zn tc fc : Int32} {t par nm al s vb rs kd xa xn st xs it tp fe : Nat → Int32}
theorem xw_can_f1 {post : Int32 → Prop} {p q m : Int32} (hp : ¬ et_is t p) (k : post 0) : wpX_canBeUnder post (zs, zn, tc, fc, t, par, nm, al, s, vb, rs, kd, xa, xn, st, xs, it, tp, fe) p q m := by
  unfold wpX_canBeUnder
  exact xw_is_f hp (br_t rfl k)
theorem xw_can_f2 {post : Int32 → Prop} {p : Nat} {q m : Int32} (hp : p < 48) (jp : ¬ t p = 0) (ha : ¬ al p = -1) (k : post 0) : wpX_canBeUnder post (zs, zn, tc, fc, t, par, nm, al, s, vb, rs, kd, xa, xn, st, xs, it, tp, fe) (nI p) q m := by
  unfold wpX_canBeUnder
  exact xw_is_t hp jp (br_f et_10 (xw_al_t hp ha (br_f et_10 k)))
theorem xw_can_f3 {post : Int32 → Prop} {p : Nat} {q m : Int32} (hp : p < 48) (jp : ¬ t p = 0) (ha : al p = -1) (hq : ¬ et_rg 100 q) (k : post 0) : wpX_canBeUnder post (zs, zn, tc, fc, t, par, nm, al, s, vb, rs, kd, xa, xn, st, xs, it, tp, fe) (nI p) q m := by
  unfold wpX_canBeUnder
  refine xw_is_t hp jp (br_f et_10 (xw_al_f hp ha (br_t rfl ?_)))
  rcases pk_ix q (n := 100) (by omega) with h1 | h1 | ⟨j, h1, h2⟩
  · exact br_t h1 k
  · exact br_c (fun _ => k) (fun _ => br_f (Int32.not_lt.mpr h1) k)
  · exact (hq ⟨j, h1, h2⟩).elim
theorem xw_can_v {post : Int32 → Prop} {p q : Nat} {m : Int32} (hp : p < 48) (jp : ¬ t p = 0) (ha : al p = -1) (hq : q < 100)
    (k1 : et_fn t par nm (nI p) (nI q) 48 0 = -1 ∨ et_fn t par nm (nI p) (nI q) 48 0 = m → post 1) (k0 : ¬ et_fn t par nm (nI p) (nI q) 48 0 = -1 → ¬ et_fn t par nm (nI p) (nI q) 48 0 = m → post 0) : wpX_canBeUnder post (zs, zn, tc, fc, t, par, nm, al, s, vb, rs, kd, xa, xn, st, xs, it, tp, fe) (nI p) (nI q) m := by
  unfold wpX_canBeUnder
  refine xw_is_t hp jp (br_f et_10 (xw_al_f hp ha (br_t rfl (br_f (nI_pos (by omega)) (br_t (nI_lt (b := 100) hq (by decide)) (xw_named ?_))))))
  exact br_c (fun z => k1 (Or.inl z)) (fun z => br_c (fun y => k1 (Or.inr y)) (fun y => k0 z y))
theorem xw_can_any {post : Int32 → Prop} {p : Nat} {q m : Int32} (hp : p < 48) (jp : ¬ t p = 0) (ha : al p = -1) (k1 : post 1) (k0 : post 0) : wpX_canBeUnder post (zs, zn, tc, fc, t, par, nm, al, s, vb, rs, kd, xa, xn, st, xs, it, tp, fe) (nI p) q m := by
  by_cases hq : et_rg 100 q
  · obtain ⟨j, hj, rfl⟩ := hq
    exact xw_can_v hp jp ha hj (fun _ => k1) (fun _ _ => k0)
  · exact xw_can_f3 hp jp ha hq k0
end
section
variable {tc fc : Int32} {t par nm al s vb rs kd xa xn st xs it tp fe se ru ya yn ys gn fa : Nat → Int32} {sn n : Nat}
theorem ev_add (h : et_I t par al s vb se rs ru sn n kd xa ya xn yn fc fe fa) (v1 v2 v3 : Int32) : ∃ r u' v', (∀ post, post r u' → wpX_add post (nI sn, nI n, tc, fc, t, par, nm, al, s, vb, rs, kd, xa, xn, st, xs, it, tp, fe) v1 v2 v3) ∧ (∀ post, post r v' → wpY_add post (nI n, nI sn, t, par, nm, al, s, se, ru, kd, ya, yn, st, ys, gn, fa) v1 v2 v3) ∧ ∀ k, i_Rel k u' v' := by
  have same : ∀ k, i_Rel k (nI sn, nI n, tc, fc, t, par, nm, al, s, vb, rs, kd, xa, xn, st, xs, it, tp, fe) (nI n, nI sn, t, par, nm, al, s, se, ru, kd, ya, yn, st, ys, gn, fa) := fun k => et_mk h
  have hT := h.1
  have hSe := h.2.2.2.2.2.1
  by_cases hs : sn < 1000000000
  · obtain ⟨s1, s2⟩ := et_sp_lt hs
    by_cases c1 : et_is t v1
    · obtain ⟨p, hp, rfl, jp⟩ := c1
      by_cases c2 : al p = -1
      · by_cases c3 : et_rg 100 v2
        · obtain ⟨q, hq, rfl⟩ := c3
          have fcc := et_fn_c (t := t) (par := par) (nm := nm) (p := nI p) (q := nI q) 48 0 (by omega)
          by_cases c4 : et_fn t par nm (nI p) (nI q) 48 0 = -1
          · have y4 : ¬ (0 : Int32) ≤ et_fn t par nm (nI p) (nI q) 48 0 := by rw [c4]; decide
            by_cases c5 : v3 = -1 ∨ et_is t v3
            · have x5 : ∀ post : Int32 → SX → Prop, wX_add_34 post (nI p) (nI q) v3 (nI sn) (nI n) tc fc t par nm al s vb rs kd xa xn st xs it tp fe → wpX_add post (nI sn, nI n, tc, fc, t, par, nm, al, s, vb, rs, kd, xa, xn, st, xs, it, tp, fe) (nI p) (nI q) v3 := by
                intro post K
                unfold wpX_add
                refine xw_sp_t s1 (br_t rfl (xw_can_v hp jp c2 hq (fun _ => br_f et_10 ?_) (fun z => absurd c4 z)))
                by_cases d : v3 = -1
                · exact br_t d K
                · obtain ⟨a, ha, rfl, ta⟩ := c5.elim (fun z => absurd z d) id
                  exact br_f d (xw_is_t ha ta (br_f et_10 K))
              have y5 : ∀ post : Int32 → SY → Prop, (∃ m, wY_add_61 post (nI p) (nI q) v3 (nI n) (nI sn) t par nm al s se ru kd ya yn st ys gn fa m 0) → wpY_add post (nI n, nI sn, t, par, nm, al, s, se, ru, kd, ya, yn, st, ys, gn, fa) (nI p) (nI q) v3 := by
                intro post K
                unfold wpY_add
                refine br_f s2 (yw_is_t hp jp (br_f et_10 (yw_al_f hp c2 (br_t rfl (yw_in_t (n := 100) (by omega) et_100 hq (br_f et_10 (yw_child hT.2.1 hp jp (br_f y4 ?_))))))))
                by_cases d : v3 = -1
                · exact br_t d K
                · obtain ⟨a, ha, rfl, ta⟩ := c5.elim (fun z => absurd z d) id
                  exact br_f d (yw_is_t ha ta (br_f et_10 K))
              by_cases c6 : ∃ f, f < 48 ∧ t f = 0
              · obtain ⟨f, ⟨hf, tf⟩, hmin⟩ := et_least (fun f => f < 48 ∧ t f = 0) c6
                have hm : ∀ j, j < f → ¬ t j = 0 := fun j hj z => hmin j hj ⟨by omega, z⟩
                refine ⟨nI f, (nI sn + 1, nI n, tc, fc, upd t f 1, upd par f (nI p), upd nm f (nI q), upd al f v3, upd s f (nI sn + 1), vb, rs, kd, xa, xn, st, xs, it, tp, fe), _, fun post K => x5 post ?_, fun post K => y5 post (yw_afree_t hf tf hm K), fun k => ?_⟩
                · unfold wX_add_34
                  refine xw_free_t hf tf hm (br_f (et_ne1 hf) ?_)
                  simp only [et_cl hf, et_in hf, et_bo.1, true_and, forall_eq]
                  exact xw_stamp hf K
                · rw [nI_1]
                  exact et_mk (et_I_add h hs hf tf hp jp c5)
              · have hm : ∀ j, j < 48 → ¬ t j = 0 := fun j hj z => c6 ⟨j, hj, z⟩
                refine ⟨-1, _, _, fun post K => x5 post ?_, fun post K => y5 post (yw_afree_f hm K), same⟩
                unfold wX_add_34
                exact xw_free_f hm (br_t rfl K)
            · have d : ¬ v3 = -1 := fun z => c5 (Or.inl z)
              have d2 : ¬ et_is t v3 := fun z => c5 (Or.inr z)
              refine ⟨-1, _, _, fun post K => ?_, fun post K => ?_, same⟩
              · unfold wpX_add
                exact xw_sp_t s1 (br_t rfl (xw_can_v hp jp c2 hq (fun _ => br_f et_10 (br_f d (xw_is_f d2 (br_t rfl K)))) (fun z => absurd c4 z)))
              · unfold wpY_add
                exact br_f s2 (yw_is_t hp jp (br_f et_10 (yw_al_f hp c2 (br_t rfl (yw_in_t (n := 100) (by omega) et_100 hq (br_f et_10 (yw_child hT.2.1 hp jp (br_f y4 (br_f d (yw_is_f d2 (br_t rfl K)))))))))))
          · have y4 : (0 : Int32) ≤ et_fn t par nm (nI p) (nI q) 48 0 := by
              obtain ⟨a, ha, e⟩ := fcc.elim (fun z => absurd z c4) id
              rw [e]
              exact nI_pos' (by omega)
            refine ⟨-1, _, _, fun post K => ?_, fun post K => ?_, same⟩
            · unfold wpX_add
              exact xw_sp_t s1 (br_t rfl (xw_can_v hp jp c2 hq (fun z => absurd (z.elim id id) c4) (fun _ _ => br_t rfl K)))
            · unfold wpY_add
              exact br_f s2 (yw_is_t hp jp (br_f et_10 (yw_al_f hp c2 (br_t rfl (yw_in_t (n := 100) (by omega) et_100 hq (br_f et_10 (yw_child hT.2.1 hp jp (br_t y4 K))))))))
        · refine ⟨-1, _, _, fun post K => ?_, fun post K => ?_, same⟩
          · unfold wpX_add
            exact xw_sp_t s1 (br_t rfl (xw_can_f3 hp jp c2 c3 (br_t rfl K)))
          · unfold wpY_add
            exact br_f s2 (yw_is_t hp jp (br_f et_10 (yw_al_f hp c2 (br_t rfl (yw_in_f (n := 100) (by omega) et_100 c3 (br_t rfl K))))))
      · refine ⟨-1, _, _, fun post K => ?_, fun post K => ?_, same⟩
        · unfold wpX_add
          exact xw_sp_t s1 (br_t rfl (xw_can_f2 hp jp c2 (br_t rfl K)))
        · unfold wpY_add
          exact br_f s2 (yw_is_t hp jp (br_f et_10 (yw_al_t hp c2 (br_f et_10 K))))
    · refine ⟨-1, _, _, fun post K => ?_, fun post K => ?_, same⟩
      · unfold wpX_add
        exact xw_sp_t s1 (br_t rfl (xw_can_f1 c1 (br_t rfl K)))
      · unfold wpY_add
        exact br_f s2 (yw_is_f c1 (br_t rfl K))
  · obtain ⟨s1, s2⟩ := et_sp_ge hs hSe.1
    refine ⟨-1, _, _, fun post K => ?_, fun post K => ?_, same⟩
    · unfold wpX_add
      exact xw_sp_f s1 (br_f et_10 K)
    · unfold wpY_add
      exact br_t s2 K
theorem ev_remove (h : et_I t par al s vb se rs ru sn n kd xa ya xn yn fc fe fa) (v1 : Int32) : ∃ r u' v', (∀ post, post r u' → wpX_remove post (nI sn, nI n, tc, fc, t, par, nm, al, s, vb, rs, kd, xa, xn, st, xs, it, tp, fe) v1) ∧ (∀ post, post r v' → wpY_remove post (nI n, nI sn, t, par, nm, al, s, se, ru, kd, ya, yn, st, ys, gn, fa) v1) ∧ ∀ k, i_Rel k u' v' := by
  have same : ∀ k, i_Rel k (nI sn, nI n, tc, fc, t, par, nm, al, s, vb, rs, kd, xa, xn, st, xs, it, tp, fe) (nI n, nI sn, t, par, nm, al, s, se, ru, kd, ya, yn, st, ys, gn, fa) := fun k => et_mk h
  have hSe := h.2.2.2.2.2.1
  by_cases hs : sn < 1000000000
  · obtain ⟨s1, s2⟩ := et_sp_lt hs
    by_cases c1 : et_is t v1
    · obtain ⟨e, he, rfl, te⟩ := c1
      by_cases c2 : nI e = 0
      · refine ⟨0, _, _, fun post K => ?_, fun post K => ?_, same⟩
        · unfold wpX_remove
          exact xw_sp_t s1 (br_t rfl (xw_is_t he te (br_f et_10 (br_t c2 K))))
        · unfold wpY_remove
          exact br_f s2 (yw_is_t he te (br_f et_10 (br_t c2 K)))
      · have e0 : ¬ e = 0 := fun z => c2 (by rw [z]; rfl)
        have b := et_cn_le (fun x => ¬ t x = 0 ∧ par x = nI e) 48
        by_cases c3 : et_cn (fun x => ¬ t x = 0 ∧ par x = nI e) 48 = 0
        · have z3 : nI (et_cn (fun x => ¬ t x = 0 ∧ par x = nI e) 48) ≤ 0 := by rw [c3]; decide
          refine ⟨1, (nI sn + 1, nI n, tc, fc, upd t e 0, par, nm, et_un (upd t e 0) al (nI e) 48, s, et_fill vb (e * 6) 0 6, et_fill rs (e * 24) 0 24, kd, xa, xn, st, xs, it, tp, fe), (nI n, nI sn + 1, upd t e 0, par, nm, et_un (upd t e 0) al (nI e) 48, s, se, ru, kd, ya, yn, st, ys, gn, fa), fun post K => ?_, fun post K => ?_, fun k => ?_⟩
          · unfold wpX_remove
            refine xw_sp_t s1 (br_t rfl (xw_is_t he te (br_f et_10 (br_f c2 (xw_under (br_t z3 ?_))))))
            simp only [et_cl he, et_in he, et_bo.2, true_and, forall_eq]
            refine xw_unpoint ?_
            refine xw_fval he ?_
            refine xw_frul he ?_
            exact K
          · unfold wpY_remove
            refine br_f s2 (yw_is_t he te (br_f et_10 (br_f c2 (yw_under (br_t z3 ?_)))))
            simp only [et_cl he, et_in he, et_bo.2, true_and, forall_eq]
            exact yw_rem K
          · rw [nI_1]
            exact et_mk (et_I_rem h hs he e0 c3)
        · have z3 : ¬ nI (et_cn (fun x => ¬ t x = 0 ∧ par x = nI e) 48) ≤ 0 := nI_nle (by omega) (by omega)
          refine ⟨0, _, _, fun post K => ?_, fun post K => ?_, same⟩
          · unfold wpX_remove
            exact xw_sp_t s1 (br_t rfl (xw_is_t he te (br_f et_10 (br_f c2 (xw_under (br_f z3 K))))))
          · unfold wpY_remove
            exact br_f s2 (yw_is_t he te (br_f et_10 (br_f c2 (yw_under (br_f z3 K)))))
    · refine ⟨0, _, _, fun post K => ?_, fun post K => ?_, same⟩
      · unfold wpX_remove
        exact xw_sp_t s1 (br_t rfl (xw_is_f c1 (br_t rfl K)))
      · unfold wpY_remove
        exact br_f s2 (yw_is_f c1 (br_t rfl K))
  · obtain ⟨s1, s2⟩ := et_sp_ge hs hSe.1
    refine ⟨0, _, _, fun post K => ?_, fun post K => ?_, same⟩
    · unfold wpX_remove
      exact xw_sp_f s1 (br_f et_10 K)
    · unfold wpY_remove
      exact br_t s2 K
end
end
section
theorem et_z1 {w : Nat} (hw : w < 3) {z : Int32} (h : z + 1 = nI w) : z = nI w - 1 ∧ ¬ z < -1 ∧ z ≤ 1 := by
  have e : z = nI w - 1 := by rw [← h, Int32.add_sub_cancel]
  have key : ∀ w, w < 3 → ¬ nI w - 1 < -1 ∧ nI w - 1 ≤ 1 := by decide
  rw [e]
  exact ⟨rfl, key w hw⟩
theorem et_z2 {z : Int32} (h : ¬ et_rg 3 (z + 1)) : z < -1 ∨ ¬ z ≤ 1 := by
  apply Classical.byContradiction
  intro hn
  have a : ¬ z < -1 := fun y => hn (Or.inl y)
  have b : z ≤ 1 := Classical.byContradiction fun y => hn (Or.inr y)
  rw [et_lt] at a
  rw [et_le] at b
  have m1 : (-1 : Int32).toInt = -1 := by decide
  have p1 : (1 : Int32).toInt = 1 := by decide
  rw [m1] at a
  rw [p1] at b
  have c : z.toInt = -1 ∨ z.toInt = 0 ∨ z.toInt = 1 := by omega
  rcases c with c | c | c
  · have e : z = -1 := Int32.toInt_inj.mp (c.trans m1.symm)
    exact h ⟨0, by omega, by rw [e]; decide⟩
  · have e : z = 0 := Int32.toInt_inj.mp (c.trans (by decide))
    exact h ⟨1, by omega, by rw [e]; decide⟩
  · have e : z = 1 := Int32.toInt_inj.mp (c.trans p1.symm)
    exact h ⟨2, by omega, by rw [e]; decide⟩
section
variable {tc fc : Int32} {t par nm al s vb rs kd xa xn st xs it tp fe se ru ya yn ys gn fa : Nat → Int32} {sn n : Nat}
theorem ev_move (h : et_I t par al s vb se rs ru sn n kd xa ya xn yn fc fe fa) (v1 v2 v3 : Int32) : ∃ r u' v', (∀ post, post r u' → wpX_move post (nI sn, nI n, tc, fc, t, par, nm, al, s, vb, rs, kd, xa, xn, st, xs, it, tp, fe) v1 v2 v3) ∧ (∀ post, post r v' → wpY_move post (nI n, nI sn, t, par, nm, al, s, se, ru, kd, ya, yn, st, ys, gn, fa) v1 v2 v3) ∧ ∀ k, i_Rel k u' v' := by
  have same : ∀ k, i_Rel k (nI sn, nI n, tc, fc, t, par, nm, al, s, vb, rs, kd, xa, xn, st, xs, it, tp, fe) (nI n, nI sn, t, par, nm, al, s, se, ru, kd, ya, yn, st, ys, gn, fa) := fun k => et_mk h
  have hT := h.1
  have hSe := h.2.2.2.2.2.1
  by_cases hs : sn < 1000000000
  · obtain ⟨s1, s2⟩ := et_sp_lt hs
    by_cases c1 : et_is t v1
    · obtain ⟨e, he, rfl, te⟩ := c1
      by_cases c2 : et_is t v2
      · obtain ⟨p, hp, rfl, jp⟩ := c2
        by_cases c3 : nI e = 0
        · refine ⟨0, _, _, fun post K => ?_, fun post K => ?_, same⟩
          · unfold wpX_move
            exact xw_sp_t s1 (br_t rfl (xw_is_t he te (br_f et_10 (br_t c3 K))))
          · unfold wpY_move
            exact br_f s2 (yw_is_t he te (br_f et_10 (yw_is_t hp jp (br_f et_10 (br_t c3 K)))))
        · have e0 : ¬ e = 0 := fun z => c3 (by rw [z]; rfl)
          by_cases c4 : al p = -1
          · by_cases c5 : nI p = nI e ∨ et_wi par (nI e) 47 (par p)
            · refine ⟨0, _, _, fun post K => ?_, fun post K => ?_, same⟩
              · unfold wpX_move
                exact xw_sp_t s1 (br_t rfl (xw_is_t he te (br_f et_10 (br_f c3 (xw_can_any hp jp c4 (br_f et_10 (xw_within hT hp jp (fun _ => br_f et_10 K) (fun z => absurd c5 z))) (br_t rfl K))))))
              · unfold wpY_move
                refine br_f s2 (yw_is_t he te (br_f et_10 (yw_is_t hp jp (br_f et_10 (br_f c3 (yw_al_f hp c4 (br_t rfl ?_)))))))
                by_cases c6 : nI p = nI e
                · exact br_t c6 K
                · exact br_f c6 (yw_below hT hp jp (fun _ => br_f et_10 K) (fun z => absurd (c5.elim (fun y => absurd y c6) id) z))
            · have c51 : ¬ nI p = nI e := fun z => c5 (Or.inl z)
              have c52 : ¬ et_wi par (nI e) 47 (par p) := fun z => c5 (Or.inr z)
              by_cases c6 : et_rg 100 v3
              · obtain ⟨q, hq, rfl⟩ := c6
                have fcc := et_fn_c (t := t) (par := par) (nm := nm) (p := nI p) (q := nI q) 48 0 (by omega)
                by_cases c7 : et_fn t par nm (nI p) (nI q) 48 0 = -1 ∨ et_fn t par nm (nI p) (nI q) 48 0 = nI e
                · refine ⟨1, (nI sn + 1, nI n, tc, fc, t, upd par e (nI p), upd nm e (nI q), al, upd s e (nI sn + 1), vb, rs, kd, xa, xn, st, xs, it, tp, fe), (nI n, nI sn + 1, t, upd par e (nI p), upd nm e (nI q), al, upd s e (nI sn + 1), se, ru, kd, ya, yn, st, ys, gn, fa), fun post K => ?_, fun post K => ?_, fun k => ?_⟩
                  · unfold wpX_move
                    refine xw_sp_t s1 (br_t rfl (xw_is_t he te (br_f et_10 (br_f c3 (xw_can_v hp jp c4 hq (fun _ => br_f et_10 (xw_within hT hp jp (fun z => absurd z c5) (fun _ => br_t rfl ?_))) (fun z y => absurd (c7.elim z y) id))))))
                    simp only [et_cl he, et_in he, true_and, forall_eq]
                    exact xw_stamp he K
                  · have fin : wY_move_83 post (nI e) (nI p) (nI q) (nI n) (nI sn) t par nm al s se ru kd ya yn st ys gn fa := by
                      simp only [wY_move_83, et_cl he, et_in he, true_and, forall_eq]
                      exact yw_stamp he K
                    unfold wpY_move
                    refine br_f s2 (yw_is_t he te (br_f et_10 (yw_is_t hp jp (br_f et_10 (br_f c3 (yw_al_f hp c4 (br_t rfl (br_f c51 (yw_below hT hp jp (fun z => absurd z c52) (fun _ => br_t rfl (yw_in_t (n := 100) (by omega) et_100 hq (br_f et_10 (yw_child hT.2.1 hp jp ?_)))))))))))))
                    rcases c7 with c7 | c7
                    · exact br_t (by rw [c7]; exact et_m1.2.1) fin
                    · exact br_f (by rw [c7]; exact et_nn he) (br_t c7 fin)
                  · rw [nI_1]
                    exact et_mk (et_I_mov h hs he e0 hp jp c51 c52)
                · have c71 : ¬ et_fn t par nm (nI p) (nI q) 48 0 = -1 := fun z => c7 (Or.inl z)
                  have c72 : ¬ et_fn t par nm (nI p) (nI q) 48 0 = nI e := fun z => c7 (Or.inr z)
                  have c73 : ¬ et_fn t par nm (nI p) (nI q) 48 0 < 0 := by
                    obtain ⟨a, ha, e⟩ := fcc.elim (fun z => absurd z c71) id
                    rw [e]
                    exact et_nn ha
                  refine ⟨0, _, _, fun post K => ?_, fun post K => ?_, same⟩
                  · unfold wpX_move
                    exact xw_sp_t s1 (br_t rfl (xw_is_t he te (br_f et_10 (br_f c3 (xw_can_v hp jp c4 hq (fun z => absurd z c7) (fun _ _ => br_t rfl K))))))
                  · unfold wpY_move
                    exact br_f s2 (yw_is_t he te (br_f et_10 (yw_is_t hp jp (br_f et_10 (br_f c3 (yw_al_f hp c4 (br_t rfl (br_f c51 (yw_below hT hp jp (fun z => absurd z c52) (fun _ => br_t rfl (yw_in_t (n := 100) (by omega) et_100 hq (br_f et_10 (yw_child hT.2.1 hp jp (br_f c73 (br_f c72 K)))))))))))))))
              · refine ⟨0, _, _, fun post K => ?_, fun post K => ?_, same⟩
                · unfold wpX_move
                  exact xw_sp_t s1 (br_t rfl (xw_is_t he te (br_f et_10 (br_f c3 (xw_can_f3 hp jp c4 c6 (br_t rfl K))))))
                · unfold wpY_move
                  exact br_f s2 (yw_is_t he te (br_f et_10 (yw_is_t hp jp (br_f et_10 (br_f c3 (yw_al_f hp c4 (br_t rfl (br_f c51 (yw_below hT hp jp (fun z => absurd z c52) (fun _ => br_t rfl (yw_in_f (n := 100) (by omega) et_100 c6 (br_t rfl K))))))))))))
          · refine ⟨0, _, _, fun post K => ?_, fun post K => ?_, same⟩
            · unfold wpX_move
              exact xw_sp_t s1 (br_t rfl (xw_is_t he te (br_f et_10 (br_f c3 (xw_can_f2 hp jp c4 (br_t rfl K))))))
            · unfold wpY_move
              exact br_f s2 (yw_is_t he te (br_f et_10 (yw_is_t hp jp (br_f et_10 (br_f c3 (yw_al_t hp c4 (br_f et_10 K)))))))
      · refine ⟨0, _, _, fun post K => ?_, fun post K => ?_, same⟩
        · unfold wpX_move
          refine xw_sp_t s1 (br_t rfl (xw_is_t he te (br_f et_10 ?_)))
          by_cases c3 : nI e = 0
          · exact br_t c3 K
          · exact br_f c3 (xw_can_f1 c2 (br_t rfl K))
        · unfold wpY_move
          exact br_f s2 (yw_is_t he te (br_f et_10 (yw_is_f c2 (br_t rfl K))))
    · refine ⟨0, _, _, fun post K => ?_, fun post K => ?_, same⟩
      · unfold wpX_move
        exact xw_sp_t s1 (br_t rfl (xw_is_f c1 (br_t rfl K)))
      · unfold wpY_move
        exact br_f s2 (yw_is_f c1 (br_t rfl K))
  · obtain ⟨s1, s2⟩ := et_sp_ge hs hSe.1
    refine ⟨0, _, _, fun post K => ?_, fun post K => ?_, same⟩
    · unfold wpX_move
      exact xw_sp_f s1 (br_f et_10 K)
    · unfold wpY_move
      exact br_t s2 K
theorem ev_point (h : et_I t par al s vb se rs ru sn n kd xa ya xn yn fc fe fa) (v1 v2 : Int32) : ∃ r u' v', (∀ post, post r u' → wpX_point post (nI sn, nI n, tc, fc, t, par, nm, al, s, vb, rs, kd, xa, xn, st, xs, it, tp, fe) v1 v2) ∧ (∀ post, post r v' → wpY_point post (nI n, nI sn, t, par, nm, al, s, se, ru, kd, ya, yn, st, ys, gn, fa) v1 v2) ∧ ∀ k, i_Rel k u' v' := by
  have same : ∀ k, i_Rel k (nI sn, nI n, tc, fc, t, par, nm, al, s, vb, rs, kd, xa, xn, st, xs, it, tp, fe) (nI n, nI sn, t, par, nm, al, s, se, ru, kd, ya, yn, st, ys, gn, fa) := fun k => et_mk h
  have hSe := h.2.2.2.2.2.1
  by_cases hs : sn < 1000000000
  · obtain ⟨s1, s2⟩ := et_sp_lt hs
    by_cases c1 : et_is t v1
    · obtain ⟨e, he, rfl, te⟩ := c1
      by_cases c2 : et_is t v2
      · obtain ⟨c, hc, rfl, jc⟩ := c2
        by_cases c3 : al e = -1
        · refine ⟨0, _, _, fun post K => ?_, fun post K => ?_, same⟩
          · unfold wpX_point
            exact xw_sp_t s1 (br_t rfl (xw_is_t he te (br_f et_10 (xw_is_t hc jc (br_f et_10 (xw_al_f he c3 (br_t rfl K)))))))
          · unfold wpY_point
            exact br_f s2 (yw_is_t he te (br_f et_10 (yw_is_t hc jc (br_f et_10 (yw_al_f he c3 (br_t rfl K))))))
        · refine ⟨1, (nI sn + 1, nI n, tc, fc, t, par, nm, upd al e (nI c), upd s e (nI sn + 1), vb, rs, kd, xa, xn, st, xs, it, tp, fe), (nI n, nI sn + 1, t, par, nm, upd al e (nI c), upd s e (nI sn + 1), se, ru, kd, ya, yn, st, ys, gn, fa), fun post K => ?_, fun post K => ?_, fun k => ?_⟩
          · unfold wpX_point
            refine xw_sp_t s1 (br_t rfl (xw_is_t he te (br_f et_10 (xw_is_t hc jc (br_f et_10 (xw_al_t he c3 (br_f et_10 ?_)))))))
            simp only [et_cl he, et_in he, true_and, forall_eq]
            exact xw_stamp he K
          · unfold wpY_point
            refine br_f s2 (yw_is_t he te (br_f et_10 (yw_is_t hc jc (br_f et_10 (yw_al_t he c3 (br_f et_10 ?_))))))
            simp only [et_cl he, et_in he, true_and, forall_eq]
            exact yw_stamp he K
          · rw [nI_1]
            exact et_mk (et_I_pnt h hs c3 hc jc)
      · refine ⟨0, _, _, fun post K => ?_, fun post K => ?_, same⟩
        · unfold wpX_point
          exact xw_sp_t s1 (br_t rfl (xw_is_t he te (br_f et_10 (xw_is_f c2 (br_t rfl K)))))
        · unfold wpY_point
          exact br_f s2 (yw_is_t he te (br_f et_10 (yw_is_f c2 (br_t rfl K))))
    · refine ⟨0, _, _, fun post K => ?_, fun post K => ?_, same⟩
      · unfold wpX_point
        exact xw_sp_t s1 (br_t rfl (xw_is_f c1 (br_t rfl K)))
      · unfold wpY_point
        exact br_f s2 (yw_is_f c1 (br_t rfl K))
  · obtain ⟨s1, s2⟩ := et_sp_ge hs hSe.1
    refine ⟨0, _, _, fun post K => ?_, fun post K => ?_, same⟩
    · unfold wpX_point
      exact xw_sp_f s1 (br_f et_10 K)
    · unfold wpY_point
      exact br_t s2 K
theorem ev_put (h : et_I t par al s vb se rs ru sn n kd xa ya xn yn fc fe fa) (v1 v2 v3 v4 : Int32) (hb : v4 = 0 ∨ v4 = 1) : ∃ r u' v', (∀ post, post r u' → wpX_put post (nI sn, nI n, tc, fc, t, par, nm, al, s, vb, rs, kd, xa, xn, st, xs, it, tp, fe) v1 v2 v3 v4) ∧ (∀ post, post r v' → wpY_put post (nI n, nI sn, t, par, nm, al, s, se, ru, kd, ya, yn, st, ys, gn, fa) v1 v2 v3 v4) ∧ ∀ k, i_Rel k u' v' := by
  have same : ∀ k, i_Rel k (nI sn, nI n, tc, fc, t, par, nm, al, s, vb, rs, kd, xa, xn, st, xs, it, tp, fe) (nI n, nI sn, t, par, nm, al, s, se, ru, kd, ya, yn, st, ys, gn, fa) := fun k => et_mk h
  have hSe := h.2.2.2.2.2.1
  have hVa := h.2.2.2.1
  by_cases hs : sn < 1000000000
  · obtain ⟨s1, s2⟩ := et_sp_lt hs
    by_cases c1 : et_is t v1
    · obtain ⟨e, he, rfl, te⟩ := c1
      by_cases c2 : al e = -1
      · by_cases c3 : et_rg 6 v2
        · obtain ⟨a, ha, rfl⟩ := c3
          by_cases c4 : et_rg 16 v3
          · obtain ⟨v, hv, rfl⟩ := c4
            have ci : (nI (e * 6 + a)).toNatClampNeg = e * 6 + a := nI_clamp (by omega)
            have vi : vp_in (nI (e * 6 + a)) 288 := vp_in_nI (by omega) (by omega)
            have q := hVa.2 e he te a ha
            have x4 : ∀ post : Int32 → SX → Prop, wX_put_72 post (nI e) v4 (nI (e * 6 + a)) ((1 : Int32) <<< (nI v &&& 31)) (if bt (vb (e * 6 + a)) v = true then 1 else 0) (nI sn) (nI n) tc fc t par nm al s vb rs kd xa xn st xs it tp fe → wpX_put post (nI sn, nI n, tc, fc, t, par, nm, al, s, vb, rs, kd, xa, xn, st, xs, it, tp, fe) (nI e) (nI a) (nI v) v4 := by
              intro post K
              unfold wpX_put
              refine xw_sp_t s1 (br_t rfl (xw_is_t he te (br_f et_10 (xw_al_f he c2 (br_t rfl (xw_at_t ha (br_f et_10 (xw_va_t hv (br_f et_10 ?_)))))))))
              simp only [et_i6, ci, vi, true_and, forall_eq]
              by_cases d : bt (vb (e * 6 + a)) v = true
              · rw [if_pos d] at K
                exact br_f (fun z => (et_bit (by omega)).mp z d) K
              · rw [if_neg d] at K
                exact br_t ((et_bit (by omega)).mpr d) K
            have y4 : ∀ post : Int32 → SY → Prop, wY_put_67 post (nI e) (nI a) (nI v) v4 (if bt (vb (e * 6 + a)) v = true then 1 else 0) (nI n) (nI sn) t par nm al s se ru kd ya yn st ys gn fa → wpY_put post (nI n, nI sn, t, par, nm, al, s, se, ru, kd, ya, yn, st, ys, gn, fa) (nI e) (nI a) (nI v) v4 := by
              intro post K
              unfold wpY_put
              refine br_f s2 (yw_is_t he te (br_f et_10 (yw_al_f he c2 (br_t rfl (yw_in_t (n := 6) (by omega) rfl ha (br_f et_10 (yw_in_t (n := 16) (by omega) rfl hv (br_f et_10 ?_))))))))
              simp only [et_i6', ci, vi, q.2, et_sh1 _ (v := v) (by omega), true_and]
              by_cases d : bt (vb (e * 6 + a)) v = true
              · rw [if_pos d] at K ⊢
                exact br_t rfl K
              · rw [if_neg d] at K ⊢
                exact br_f (by decide) K
            by_cases c5 : (if bt (vb (e * 6 + a)) v = true then (1 : Int32) else 0) = v4
            · refine ⟨0, _, _, fun post K => x4 post ?_, fun post K => y4 post ?_, same⟩
              · exact br_t c5 K
              · exact br_t c5 K
            · refine ⟨1, (nI sn + 1, nI n, tc, fc, t, par, nm, al, upd s e (nI sn + 1), upd vb (e * 6 + a) (vb (e * 6 + a) ^^^ ((1 : Int32) <<< (nI v &&& 31))), rs, kd, xa, xn, st, xs, it, tp, fe), (nI n, nI sn + 1, t, par, nm, al, upd s e (nI sn + 1), upd se (e * 6 + a) (se (e * 6 + a) ^^^ ((1 : Int32) <<< (nI v &&& 31))), ru, kd, ya, yn, st, ys, gn, fa), fun post K => x4 post ?_, fun post K => y4 post ?_, fun k => ?_⟩
              · simp only [wX_put_72, ci, vi, true_and, forall_eq]
                refine br_f c5 ?_
                exact xw_stamp he K
              · simp only [wY_put_67, et_i6', ci, vi, true_and, forall_eq]
                refine br_f c5 ?_
                exact yw_stamp he K
              · rw [nI_1]
                exact et_mk (et_I_put h hs he te ha hv)
          · refine ⟨0, _, _, fun post K => ?_, fun post K => ?_, same⟩
            · unfold wpX_put
              exact xw_sp_t s1 (br_t rfl (xw_is_t he te (br_f et_10 (xw_al_f he c2 (br_t rfl (xw_at_t ha (br_f et_10 (xw_va_f c4 (br_t rfl K)))))))))
            · unfold wpY_put
              exact br_f s2 (yw_is_t he te (br_f et_10 (yw_al_f he c2 (br_t rfl (yw_in_t (n := 6) (by omega) rfl ha (br_f et_10 (yw_in_f (n := 16) (by omega) rfl c4 (br_t rfl K))))))))
        · refine ⟨0, _, _, fun post K => ?_, fun post K => ?_, same⟩
          · unfold wpX_put
            exact xw_sp_t s1 (br_t rfl (xw_is_t he te (br_f et_10 (xw_al_f he c2 (br_t rfl (xw_at_f c3 (br_t rfl K)))))))
          · unfold wpY_put
            exact br_f s2 (yw_is_t he te (br_f et_10 (yw_al_f he c2 (br_t rfl (yw_in_f (n := 6) (by omega) rfl c3 (br_t rfl K))))))
      · refine ⟨0, _, _, fun post K => ?_, fun post K => ?_, same⟩
        · unfold wpX_put
          exact xw_sp_t s1 (br_t rfl (xw_is_t he te (br_f et_10 (xw_al_t he c2 (br_f et_10 K)))))
        · unfold wpY_put
          exact br_f s2 (yw_is_t he te (br_f et_10 (yw_al_t he c2 (br_f et_10 K))))
    · refine ⟨0, _, _, fun post K => ?_, fun post K => ?_, same⟩
      · unfold wpX_put
        exact xw_sp_t s1 (br_t rfl (xw_is_f c1 (br_t rfl K)))
      · unfold wpY_put
        exact br_f s2 (yw_is_f c1 (br_t rfl K))
  · obtain ⟨s1, s2⟩ := et_sp_ge hs hSe.1
    refine ⟨0, _, _, fun post K => ?_, fun post K => ?_, same⟩
    · unfold wpX_put
      exact xw_sp_f s1 (br_f et_10 K)
    · unfold wpY_put
      exact br_t s2 K
end
end
section
section
variable {tc fc : Int32} {t par nm al s vb rs kd xa xn st xs it tp fe se ru ya yn ys gn fa : Nat → Int32} {sn n : Nat}
theorem ev_rule (h : et_I t par al s vb se rs ru sn n kd xa ya xn yn fc fe fa) (v1 v2 v3 v4 : Int32) : ∃ r u' v', (∀ post, post r u' → wpX_rule post (nI sn, nI n, tc, fc, t, par, nm, al, s, vb, rs, kd, xa, xn, st, xs, it, tp, fe) v1 v2 v3 v4) ∧ (∀ post, post r v' → wpY_rule post (nI n, nI sn, t, par, nm, al, s, se, ru, kd, ya, yn, st, ys, gn, fa) v1 v2 v3 v4) ∧ ∀ k, i_Rel k u' v' := by
  have same : ∀ k, i_Rel k (nI sn, nI n, tc, fc, t, par, nm, al, s, vb, rs, kd, xa, xn, st, xs, it, tp, fe) (nI n, nI sn, t, par, nm, al, s, se, ru, kd, ya, yn, st, ys, gn, fa) := fun k => et_mk h
  by_cases c1 : et_is t v1
  · obtain ⟨e, he, rfl, te⟩ := c1
    by_cases c2 : et_rg 4 v2
    · obtain ⟨g, hg, rfl⟩ := c2
      by_cases c3 : et_rg 6 v3
      · obtain ⟨a, ha, rfl⟩ := c3
        by_cases c4 : et_rg 3 (v4 + 1)
        · obtain ⟨w, hw, ew⟩ := c4
          obtain ⟨z1, z2, z3⟩ := et_z1 hw ew
          have ci : (nI (e * 24 + (g * 6 + a))).toNatClampNeg = e * 24 + (g * 6 + a) := nI_clamp (by omega)
          have vi : vp_in (nI (e * 24 + (g * 6 + a))) 1152 := vp_in_nI (by omega) (by omega)
          refine ⟨1, (nI sn, nI n, tc, fc, t, par, nm, al, s, vb, upd rs (e * 24 + (g * 6 + a)) (nI w), kd, xa, xn, st, xs, it, tp, fe), (nI n, nI sn, t, par, nm, al, s, se, upd ru (e * 24 + (g * 6 + a)) v4, kd, ya, yn, st, ys, gn, fa), fun post K => ?_, fun post K => ?_, fun k => ?_⟩
          · unfold wpX_rule
            refine xw_is_t he te (br_f et_10 (xw_gr_t hg (br_f et_10 (xw_at_t ha (br_f et_10 (br_f z2 (br_t z3 ?_)))))))
            simp only [et_i3, ci, vi, ew, true_and, forall_eq]
            exact K
          · unfold wpY_rule
            refine yw_is_t he te (br_f et_10 (yw_in_t (n := 4) (by omega) rfl hg (br_f et_10 (yw_in_t (n := 6) (by omega) rfl ha (br_f et_10 ?_)))))
            rw [ew]
            refine yw_in_t (n := 3) (by omega) rfl hw (br_f et_10 ?_)
            simp only [et_i3', ci, vi, true_and, forall_eq]
            exact K
          · exact et_mk (et_I_rul h he te (by omega) hw z1)
        · refine ⟨0, _, _, fun post K => ?_, fun post K => ?_, same⟩
          · unfold wpX_rule
            refine xw_is_t he te (br_f et_10 (xw_gr_t hg (br_f et_10 (xw_at_t ha (br_f et_10 ?_)))))
            exact (et_z2 c4).elim (fun z => br_t z K) (fun z => br_c (fun _ => K) (fun _ => br_f z K))
          · unfold wpY_rule
            exact yw_is_t he te (br_f et_10 (yw_in_t (n := 4) (by omega) rfl hg (br_f et_10 (yw_in_t (n := 6) (by omega) rfl ha (br_f et_10 (yw_in_f (n := 3) (by omega) rfl c4 (br_t rfl K)))))))
      · refine ⟨0, _, _, fun post K => ?_, fun post K => ?_, same⟩
        · unfold wpX_rule
          exact xw_is_t he te (br_f et_10 (xw_gr_t hg (br_f et_10 (xw_at_f c3 (br_t rfl K)))))
        · unfold wpY_rule
          exact yw_is_t he te (br_f et_10 (yw_in_t (n := 4) (by omega) rfl hg (br_f et_10 (yw_in_f (n := 6) (by omega) rfl c3 (br_t rfl K)))))
    · refine ⟨0, _, _, fun post K => ?_, fun post K => ?_, same⟩
      · unfold wpX_rule
        exact xw_is_t he te (br_f et_10 (xw_gr_f c2 (br_t rfl K)))
      · unfold wpY_rule
        exact yw_is_t he te (br_f et_10 (yw_in_f (n := 4) (by omega) rfl c2 (br_t rfl K)))
  · refine ⟨0, _, _, fun post K => ?_, fun post K => ?_, same⟩
    · unfold wpX_rule
      exact xw_is_f c1 (br_t rfl K)
    · unfold wpY_rule
      exact yw_is_f c1 (br_t rfl K)
theorem et_I_tok (h : et_I t par al s vb se rs ru sn n kd xa ya xn yn fc fe fa) {x1 x2 x3 y2 y3 : Int32} (hn : n < 12) {q : Nat} (hq : q < 7) (e1 : x1 = nI q) (h1 : q < 4 → ∃ a, a < 6 ∧ x2 = nI a ∧ y2 = nI a) (h2 : 1 ≤ q → q < 4 → ∃ w, w < 16 ∧ x3 = nI w ∧ y3 = nI w) :
    et_I t par al s vb se rs ru sn (n + 1) (upd kd n x1) (upd xa n x2) (upd ya n y2) (upd xn n x3) (upd yn n y3) fc fe fa := by
  obtain ⟨g1, g2, g3, g4, g5, g6, g7, g8⟩ := h
  refine ⟨g1, g2, g3, g4, g5, g6, ⟨by omega, fun i hi => ?_⟩, g8⟩
  by_cases c : i = n
  · subst c
    refine ⟨q, hq, by rw [pk_us]; exact e1, ?_, ?_⟩
    · rw [pk_us, pk_us]; exact h1
    · rw [pk_us, pk_us]; exact h2
  · have z := g7.2 i (by omega)
    unfold et_tk at z ⊢
    rw [pk_un c, pk_un c, pk_un c, pk_un c, pk_un c]
    exact z
theorem et_12 {n : Nat} (h : n < 12) : ¬ (12 : Int32) ≤ nI n ∧ ¬ nI n = 12 := ⟨nI_ge (b := 12) h (by decide), fun z => by have := (nI_eq (a := n) (b := 12) (by omega) (by omega)).mp z; omega⟩
theorem et_q7 : ∀ q, q < 7 → ¬ nI q < 0 ∧ nI q ≤ 6 ∧ (q < 4 → ¬ (3 : Int32) < nI q ∧ ¬ (4 : Int32) ≤ nI q) ∧ (¬ q < 4 → (3 : Int32) < nI q ∧ (4 : Int32) ≤ nI q ∧ ¬ nI q - 1 < 0 ∧ (3 : Int32) ≤ nI q - 1) ∧ (q = 0 → nI q - 1 < 0) ∧ (1 ≤ q → nI q - 1 = nI (q - 1)) := by decide
theorem yw_tok_any {post : Int32 → SY → Prop} {v1 v2 v3 : Int32} {zn zs : Int32} (k : wY_token_42 post v1 v2 v3 zn zs t par nm al s se ru kd ya yn st ys gn fa) (b : post (-1) (zn, zs, t, par, nm, al, s, se, ru, kd, ya, yn, st, ys, gn, fa)) : wpY_token post (zn, zs, t, par, nm, al, s, se, ru, kd, ya, yn, st, ys, gn, fa) v1 v2 v3 := by
  have k23 : wY_token_23 post v1 v2 v3 zn zs t par nm al s se ru kd ya yn st ys gn fa := by
    unfold wY_token_23
    by_cases c : et_rg 3 (v1 - 1)
    · obtain ⟨a, ha, e⟩ := c
      rw [e]
      refine yw_in_t (n := 3) (by omega) rfl ha (br_f et_10 ?_)
      by_cases d : et_rg 16 v3
      · obtain ⟨w, hw, rfl⟩ := d
        exact yw_in_t (n := 16) (by omega) rfl hw (br_f et_10 k)
      · exact yw_in_f (n := 16) (by omega) rfl d (br_t rfl b)
    · exact yw_in_f (n := 3) (by omega) rfl c (br_t rfl k)
  unfold wpY_token
  by_cases c : et_rg 7 v1
  · obtain ⟨q, hq, rfl⟩ := c
    refine yw_in_t (n := 7) (by omega) rfl hq (br_f et_10 (br_c (fun _ => k23) (fun _ => ?_)))
    by_cases d : et_rg 6 v2
    · obtain ⟨w, hw, rfl⟩ := d
      exact yw_in_t (n := 6) (by omega) rfl hw (br_f et_10 k23)
    · exact yw_in_f (n := 6) (by omega) rfl d (br_t rfl b)
  · exact yw_in_f (n := 7) (by omega) rfl c (br_t rfl b)
theorem ev_token (h : et_I t par al s vb se rs ru sn n kd xa ya xn yn fc fe fa) (v1 v2 v3 : Int32) : ∃ r u' v', (∀ post, post r u' → wpX_token post (nI sn, nI n, tc, fc, t, par, nm, al, s, vb, rs, kd, xa, xn, st, xs, it, tp, fe) v1 v2 v3) ∧ (∀ post, post r v' → wpY_token post (nI n, nI sn, t, par, nm, al, s, se, ru, kd, ya, yn, st, ys, gn, fa) v1 v2 v3) ∧ ∀ k, i_Rel k u' v' := by
  have same : ∀ k, i_Rel k (nI sn, nI n, tc, fc, t, par, nm, al, s, vb, rs, kd, xa, xn, st, xs, it, tp, fe) (nI n, nI sn, t, par, nm, al, s, se, ru, kd, ya, yn, st, ys, gn, fa) := fun k => et_mk h
  have hn := h.2.2.2.2.2.2.1.1
  by_cases c0 : n = 12
  · subst c0
    refine ⟨-1, _, _, fun post K => ?_, fun post K => ?_, same⟩
    · unfold wpX_token
      exact br_t (by decide) K
    · exact yw_tok_any (br_t rfl K) K
  · have hn12 : n < 12 := by omega
    obtain ⟨n1, n2⟩ := et_12 hn12
    by_cases c1 : et_rg 7 v1
    · obtain ⟨q, hq, rfl⟩ := c1
      obtain ⟨q1, q2, q3, q4, q5, q6⟩ := et_q7 q hq
      by_cases c2 : q < 4
      · obtain ⟨q31, q32⟩ := q3 c2
        by_cases c3 : et_rg 6 v2
        · obtain ⟨a, ha, rfl⟩ := c3
          by_cases c4 : q = 0
          · subst c4
            refine ⟨nI n + 1, (nI sn, nI n + 1, tc, fc, t, par, nm, al, s, vb, rs, upd kd n (nI 0), upd xa n (nI a), upd xn n 0, st, xs, it, tp, fe), (nI n + 1, nI sn, t, par, nm, al, s, se, ru, upd kd n (nI 0), upd ya n (nI a), upd yn n v3, st, ys, gn, fa), fun post K => ?_, fun post K => ?_, fun k => ?_⟩
            · unfold wpX_token
              refine br_f n1 (br_f q1 (br_t q2 (br_f q31 (br_f et_10 (br_t rfl (br_f et_10 (xw_at_t ha (br_f et_10 (br_t rfl ?_)))))))))
              simp only [wX_token_77, wX_token_105, wX_token_124, et_cl12 hn12, et_in12 hn12, true_and, forall_eq]
              exact br_f et_10 (br_t trivial K)
            · unfold wpY_token
              refine yw_in_t (n := 7) (by omega) rfl hq (br_f et_10 (br_f q32 (yw_in_t (n := 6) (by omega) rfl ha (br_f et_10 ?_))))
              unfold wY_token_23
              refine yw_in_f (n := 3) (by omega) rfl (fun z => by obtain ⟨b, hb, e⟩ := z; have y := q5 rfl; rw [e] at y; exact nI_pos (by omega) y) (br_t rfl ?_)
              simp only [wY_token_42, et_cl12 hn12, et_in12 hn12, true_and, forall_eq]
              exact br_f n2 K
            · rw [nI_1]
              exact et_mk (et_I_tok h hn12 (q := 0) (by omega) rfl (fun _ => ⟨a, ha, rfl, rfl⟩) (fun z => absurd z (by omega)))
          · have z0 : ¬ nI q = 0 := nI_ne0 (by omega) (by omega)
            by_cases c5 : et_rg 16 v3
            · obtain ⟨w, hw, rfl⟩ := c5
              refine ⟨nI n + 1, (nI sn, nI n + 1, tc, fc, t, par, nm, al, s, vb, rs, upd kd n (nI q), upd xa n (nI a), upd xn n (nI w), st, xs, it, tp, fe), (nI n + 1, nI sn, t, par, nm, al, s, se, ru, upd kd n (nI q), upd ya n (nI a), upd yn n (nI w), st, ys, gn, fa), fun post K => ?_, fun post K => ?_, fun k => ?_⟩
              · unfold wpX_token
                refine br_f n1 (br_f q1 (br_t q2 (br_f q31 (br_f et_10 (br_f z0 (br_f et_10 (xw_at_t ha (br_f et_10 (br_f et_10 (xw_va_t hw (br_f et_10 ?_)))))))))))
                simp only [wX_token_77, wX_token_105, wX_token_124, et_cl12 hn12, et_in12 hn12, true_and, forall_eq]
                exact br_f et_10 (br_f et_10 K)
              · unfold wpY_token
                refine yw_in_t (n := 7) (by omega) rfl hq (br_f et_10 (br_f q32 (yw_in_t (n := 6) (by omega) rfl ha (br_f et_10 ?_))))
                unfold wY_token_23
                rw [q6 (by omega)]
                refine yw_in_t (n := 3) (by omega) rfl (by omega) (br_f et_10 (yw_in_t (n := 16) (by omega) rfl hw (br_f et_10 ?_)))
                simp only [wY_token_42, et_cl12 hn12, et_in12 hn12, true_and, forall_eq]
                exact br_f n2 K
              · rw [nI_1]
                exact et_mk (et_I_tok h hn12 hq rfl (fun _ => ⟨a, ha, rfl, rfl⟩) (fun _ _ => ⟨w, hw, rfl, rfl⟩))
            · refine ⟨-1, _, _, fun post K => ?_, fun post K => ?_, same⟩
              · unfold wpX_token
                exact br_f n1 (br_f q1 (br_t q2 (br_f q31 (br_f et_10 (br_f z0 (br_f et_10 (xw_at_t ha (br_f et_10 (br_f et_10 (xw_va_f c5 (br_t rfl K)))))))))))
              · unfold wpY_token
                refine yw_in_t (n := 7) (by omega) rfl hq (br_f et_10 (br_f q32 (yw_in_t (n := 6) (by omega) rfl ha (br_f et_10 ?_))))
                unfold wY_token_23
                rw [q6 (by omega)]
                exact yw_in_t (n := 3) (by omega) rfl (by omega) (br_f et_10 (yw_in_f (n := 16) (by omega) rfl c5 (br_t rfl K)))
        · refine ⟨-1, _, _, fun post K => ?_, fun post K => ?_, same⟩
          · unfold wpX_token
            refine br_f n1 (br_f q1 (br_t q2 (br_f q31 (br_f et_10 (br_c (fun _ => ?_) (fun _ => ?_))))))
            · exact br_f et_10 (xw_at_f c3 (br_t rfl K))
            · exact br_f et_10 (xw_at_f c3 (br_t rfl K))
          · unfold wpY_token
            exact yw_in_t (n := 7) (by omega) rfl hq (br_f et_10 (br_f q32 (yw_in_f (n := 6) (by omega) rfl c3 (br_t rfl K))))
      · obtain ⟨q41, q42, q43, q44⟩ := q4 c2
        refine ⟨nI n + 1, (nI sn, nI n + 1, tc, fc, t, par, nm, al, s, vb, rs, upd kd n (nI q), upd xa n 0, upd xn n 0, st, xs, it, tp, fe), (nI n + 1, nI sn, t, par, nm, al, s, se, ru, upd kd n (nI q), upd ya n v2, upd yn n v3, st, ys, gn, fa), fun post K => ?_, fun post K => ?_, fun k => ?_⟩
        · unfold wpX_token
          refine br_f n1 (br_f q1 (br_t q2 (br_t q41 (br_t rfl (br_t rfl (br_t rfl ?_))))))
          simp only [wX_token_77, wX_token_105, wX_token_124, et_cl12 hn12, et_in12 hn12, true_and, forall_eq]
          exact br_t trivial (br_t trivial K)
        · unfold wpY_token
          refine yw_in_t (n := 7) (by omega) rfl hq (br_f et_10 (br_t q42 ?_))
          unfold wY_token_23
          refine yw_in_f (n := 3) (by omega) rfl (fun z => by obtain ⟨b, hb, e⟩ := z; rw [e] at q44; exact nI_ge (b := 3) hb (by decide) q44) (br_t rfl ?_)
          simp only [wY_token_42, et_cl12 hn12, et_in12 hn12, true_and, forall_eq]
          exact br_f n2 K
        · rw [nI_1]
          exact et_mk (et_I_tok h hn12 hq rfl (fun z => absurd z c2) (fun _ z => absurd z c2))
    · refine ⟨-1, _, _, fun post K => ?_, fun post K => ?_, same⟩
      · unfold wpX_token
        refine br_f n1 ?_
        rcases pk_ix v1 (n := 7) (by omega) with h1 | h1 | ⟨j, h1, h2⟩
        · exact br_t h1 K
        · refine br_c (fun _ => K) (fun _ => br_f (fun z => ?_) K)
          rw [et_le] at h1 z
          have e7 : (nI 7).toInt = 7 := by decide
          have e6 : (6 : Int32).toInt = 6 := by decide
          omega
        · exact (c1 ⟨j, h1, h2⟩).elim
      · unfold wpY_token
        exact yw_in_f (n := 7) (by omega) rfl c1 (br_t rfl K)
theorem ev_wipe (h : et_I t par al s vb se rs ru sn n kd xa ya xn yn fc fe fa) : ∃ r u' v', (∀ post, post r u' → wpX_wipe post (nI sn, nI n, tc, fc, t, par, nm, al, s, vb, rs, kd, xa, xn, st, xs, it, tp, fe)) ∧ (∀ post, post r v' → wpY_wipe post (nI n, nI sn, t, par, nm, al, s, se, ru, kd, ya, yn, st, ys, gn, fa)) ∧ ∀ k, i_Rel k u' v' := by
  refine ⟨nI n, (nI sn, nI 0, tc, fc, t, par, nm, al, s, vb, rs, kd, xa, xn, st, xs, it, tp, fe), (nI 0, nI sn, t, par, nm, al, s, se, ru, kd, ya, yn, st, ys, gn, fa), fun post K => K, fun post K => K, fun k => ?_⟩
  obtain ⟨g1, g2, g3, g4, g5, g6, g7, g8⟩ := h
  exact et_mk ⟨g1, g2, g3, g4, g5, g6, ⟨by omega, fun i hi => absurd hi (Nat.not_lt_zero _)⟩, g8⟩
theorem ev_found (h : et_I t par al s vb se rs ru sn n kd xa ya xn yn fc fe fa) (v1 : Int32) : ∃ r, (∀ post, post r → wpX_found post (nI sn, nI n, tc, fc, t, par, nm, al, s, vb, rs, kd, xa, xn, st, xs, it, tp, fe) v1) ∧ (∀ post, post r → wpY_found post (nI n, nI sn, t, par, nm, al, s, se, ru, kd, ya, yn, st, ys, gn, fa) v1) := by
  obtain ⟨f1, f2⟩ := h.2.2.2.2.2.2.2
  have b := et_cn_le (fun e => ¬ fa e = 0) 48
  by_cases c1 : v1 < 0
  · refine ⟨-1, fun post K => br_t c1 K, fun post K => yw_found (r := -1) (fun e he fe z => ?_) (fun _ => rfl) K⟩
    rw [← z] at c1
    have := et_cn_st (P := fun e => ¬ fa e = 0) he fe
    exact (nI_pos (by omega) c1).elim
  · obtain ⟨j, hj, rfl⟩ := nI_of c1
    by_cases c2 : j < et_cn (fun e => ¬ fa e = 0) 48
    · obtain ⟨e, he, fe', ce⟩ := et_cn_ex c2
      have cj : (nI j).toNatClampNeg = j := nI_clamp hj
      refine ⟨fe j, fun post K => br_f c1 (br_f ?_ ⟨vp_in_nI (by omega) (by omega), ?_⟩), fun post K => yw_found (r := fe j) (fun x hx fx z => ?_) (fun z => ?_) K⟩
      · rw [f1]; exact nI_ge c2 (by omega)
      · rw [cj]; exact K
      · have := et_cn_st (P := fun e => ¬ fa e = 0) hx fx
        rw [nI_eq (by omega) hj] at z
        rw [← z]
        exact f2 x hx fx
      · exact (z e he fe' (by rw [ce])).elim
    · refine ⟨-1, fun post K => br_f c1 (br_t ?_ K), fun post K => yw_found (r := -1) (fun x hx fx z => ?_) (fun z => rfl) K⟩
      · rw [f1]; exact nI_le (by omega) hj
      · have := et_cn_st (P := fun e => ¬ fa e = 0) hx fx
        rw [nI_eq (by omega) hj] at z
        omega
theorem ev_child (h : et_I t par al s vb se rs ru sn n kd xa ya xn yn fc fe fa) (v1 v2 : Int32) : ∃ r, (∀ post, post r → wpX_child post (nI sn, nI n, tc, fc, t, par, nm, al, s, vb, rs, kd, xa, xn, st, xs, it, tp, fe) v1 v2) ∧ (∀ post, post r → wpY_child post (nI n, nI sn, t, par, nm, al, s, se, ru, kd, ya, yn, st, ys, gn, fa) v1 v2) := by
  by_cases c1 : et_is t v1
  · obtain ⟨p, hp, rfl, jp⟩ := c1
    refine ⟨et_fn t par nm (nI p) v2 48 0, fun post K => ?_, fun post K => yw_child h.1.2.1 hp jp K⟩
    unfold wpX_child
    exact xw_is_t hp jp (br_f et_10 (xw_named K))
  · refine ⟨-1, fun post K => ?_, fun post K => yw_child_f c1 K⟩
    unfold wpX_child
    exact xw_is_f c1 (br_t rfl K)
theorem ev_look (h : et_I t par al s vb se rs ru sn n kd xa ya xn yn fc fe fa) (v1 v2 : Int32) : ∃ r, (∀ post, post r → wpX_look post (nI sn, nI n, tc, fc, t, par, nm, al, s, vb, rs, kd, xa, xn, st, xs, it, tp, fe) v1 v2) ∧ (∀ post, post r → wpY_look post (nI n, nI sn, t, par, nm, al, s, se, ru, kd, ya, yn, st, ys, gn, fa) v1 v2) := by
  have hT := h.1
  have hA := h.2.1
  by_cases c1 : et_is t v1
  · obtain ⟨e, he, rfl, te⟩ := c1
    rcases pk_ix v2 (n := 8) (by omega) with h1 | h1 | ⟨j, h1, rfl⟩
    · refine ⟨-1, fun post K => ?_, fun post K => ?_⟩
      · unfold wpX_look
        exact xw_is_t he te (br_f et_10 (br_t h1 K))
      · unfold wpY_look
        exact yw_is_t he te (br_f et_10 (br_t h1 K))
    · have h7 : (7 : Int32) < v2 := by
        rw [et_le] at h1
        rw [et_lt]
        have e8 : (nI 8).toInt = 8 := by decide
        have e7 : (7 : Int32).toInt = 7 := by decide
        omega
      refine ⟨-1, fun post K => ?_, fun post K => ?_⟩
      · unfold wpX_look
        exact xw_is_t he te (br_f et_10 (br_c (fun _ => K) (fun _ => br_t h7 K)))
      · unfold wpY_look
        exact yw_is_t he te (br_f et_10 (br_c (fun _ => K) (fun _ => br_t h7 K)))
    · match j, h1 with
      | 0, _ =>
        refine ⟨par e, fun post K => ?_, fun post K => ?_⟩
        · unfold wpX_look
          exact xw_is_t he te (br_f et_10 (br_f (by decide) (br_f (by decide) (br_t rfl ⟨et_in he, by rw [et_cl he]; exact K⟩))))
        · unfold wpY_look
          exact yw_is_t he te (br_f et_10 (br_f (by decide) (br_f (by decide) (br_t rfl ⟨et_in he, by rw [et_cl he]; exact K⟩))))
      | 1, _ =>
        refine ⟨nm e, fun post K => ?_, fun post K => ?_⟩
        · unfold wpX_look
          exact xw_is_t he te (br_f et_10 (br_f (by decide) (br_f (by decide) (br_f (by decide) (br_t rfl ⟨et_in he, by rw [et_cl he]; exact K⟩)))))
        · unfold wpY_look
          exact yw_is_t he te (br_f et_10 (br_f (by decide) (br_f (by decide) (br_f (by decide) (br_t rfl ⟨et_in he, by rw [et_cl he]; exact K⟩)))))
      | 2, _ =>
        refine ⟨al e, fun post K => ?_, fun post K => ?_⟩
        · unfold wpX_look
          exact xw_is_t he te (br_f et_10 (br_f (by decide) (br_f (by decide) (br_f (by decide) (br_f (by decide) (br_t rfl ⟨et_in he, by rw [et_cl he]; exact K⟩))))))
        · unfold wpY_look
          exact yw_is_t he te (br_f et_10 (br_f (by decide) (br_f (by decide) (br_f (by decide) (br_f (by decide) (br_t rfl ⟨et_in he, by rw [et_cl he]; exact K⟩))))))
      | 3, _ =>
        refine ⟨nI (et_cn (fun x => ¬ t x = 0 ∧ par x = nI e) 48), fun post K => ?_, fun post K => ?_⟩
        · unfold wpX_look
          exact xw_is_t he te (br_f et_10 (br_f (by decide) (br_f (by decide) (br_f (by decide) (br_f (by decide) (br_f (by decide) (br_t rfl (xw_under K))))))))
        · unfold wpY_look
          exact yw_is_t he te (br_f et_10 (br_f (by decide) (br_f (by decide) (br_f (by decide) (br_f (by decide) (br_f (by decide) (br_t rfl (yw_under K))))))))
      | 4, _ =>
        refine ⟨nI (et_cn (fun x => ¬ t x = 0 ∧ et_wi par (nI e) 47 (par x)) 48), fun post K => ?_, fun post K => ?_⟩
        · unfold wpX_look
          exact xw_is_t he te (br_f et_10 (br_f (by decide) (br_f (by decide) (br_f (by decide) (br_f (by decide) (br_f (by decide) (br_f (by decide) (br_t rfl (xw_cbelow hT he te K)))))))))
        · unfold wpY_look
          exact yw_is_t he te (br_f et_10 (br_f (by decide) (br_f (by decide) (br_f (by decide) (br_f (by decide) (br_f (by decide) (br_f (by decide) (br_t rfl (yw_cbelow hT K)))))))))
      | 5, _ =>
        refine ⟨nI (et_dp par 47 (par e)), fun post K => ?_, fun post K => ?_⟩
        · unfold wpX_look
          exact xw_is_t he te (br_f et_10 (br_f (by decide) (br_f (by decide) (br_f (by decide) (br_f (by decide) (br_f (by decide) (br_f (by decide) (br_f (by decide) (br_t rfl (xw_depth hT he te K))))))))))
        · unfold wpY_look
          exact yw_is_t he te (br_f et_10 (br_f (by decide) (br_f (by decide) (br_f (by decide) (br_f (by decide) (br_f (by decide) (br_f (by decide) (br_f (by decide) (br_t rfl (yw_depth hT he te K))))))))))
      | 6, _ =>
        refine ⟨s e, fun post K => ?_, fun post K => ?_⟩
        · unfold wpX_look
          exact xw_is_t he te (br_f et_10 (br_f (by decide) (br_f (by decide) (br_f (by decide) (br_f (by decide) (br_f (by decide) (br_f (by decide) (br_f (by decide) (br_f (by decide) (br_t rfl ⟨et_in he, by rw [et_cl he]; exact K⟩))))))))))
        · unfold wpY_look
          exact yw_is_t he te (br_f et_10 (br_f (by decide) (br_f (by decide) (br_f (by decide) (br_f (by decide) (br_f (by decide) (br_f (by decide) (br_f (by decide) (br_f (by decide) (br_t rfl ⟨et_in he, by rw [et_cl he]; exact K⟩))))))))))
      | 7, _ =>
        refine ⟨et_ld al 48 (nI e), fun post K => ?_, fun post K => ?_⟩
        · unfold wpX_look
          exact xw_is_t he te (br_f et_10 (br_f (by decide) (br_f (by decide) (br_f (by decide) (br_f (by decide) (br_f (by decide) (br_f (by decide) (br_f (by decide) (br_f (by decide) (br_f (by decide) (br_t rfl (xw_leads hA he te K))))))))))))
        · unfold wpY_look
          exact yw_is_t he te (br_f et_10 (br_f (by decide) (br_f (by decide) (br_f (by decide) (br_f (by decide) (br_f (by decide) (br_f (by decide) (br_f (by decide) (br_f (by decide) (br_f (by decide) (br_t rfl (yw_leads hA he te K))))))))))))
  · refine ⟨-1, fun post K => ?_, fun post K => ?_⟩
    · unfold wpX_look
      exact xw_is_f c1 (br_t rfl K)
    · unfold wpY_look
      exact yw_is_f c1 (br_t rfl K)
theorem ev_values (h : et_I t par al s vb se rs ru sn n kd xa ya xn yn fc fe fa) (v1 v2 v3 : Int32) : ∃ r, (∀ post, post r → wpX_values post (nI sn, nI n, tc, fc, t, par, nm, al, s, vb, rs, kd, xa, xn, st, xs, it, tp, fe) v1 v2 v3) ∧ (∀ post, post r → wpY_values post (nI n, nI sn, t, par, nm, al, s, se, ru, kd, ya, yn, st, ys, gn, fa) v1 v2 v3) := by
  have hT := h.1
  have hV := h.2.2.2.1
  have hR := h.2.2.2.2.1
  by_cases c1 : et_is t v1
  · obtain ⟨e, he, rfl, te⟩ := c1
    by_cases c2 : et_rg 6 v2
    · obtain ⟨a, ha, rfl⟩ := c2
      by_cases c3 : et_rg 4 v3
      · obtain ⟨g, hg, rfl⟩ := c3
        have ci : (nI (e * 6 + a)).toNatClampNeg = e * 6 + a := nI_clamp (by omega)
        have vi : vp_in (nI (e * 6 + a)) 288 := vp_in_nI (by omega) (by omega)
        have q := hV.2 e he te a ha
        by_cases c4 : et_mr par rs (g * 6 + a) 48 (nI e)
        · refine ⟨vb (e * 6 + a), fun post K => ?_, fun post K => ?_⟩
          · unfold wpX_values
            refine xw_is_t he te (br_f et_10 (xw_at_t ha (br_f et_10 (xw_gr_t hg (br_f et_10 (xw_may hT he te ha hg (fun _ => br_f et_10 ?_) (fun z => absurd c4 z)))))))
            simp only [et_i6, ci, vi, true_and]
            exact K
          · unfold wpY_values
            refine yw_is_t he te (br_f et_10 (yw_in_t (n := 6) (by omega) rfl ha (br_f et_10 (yw_in_t (n := 4) (by omega) rfl hg (br_f et_10 (yw_may hT hR he te ha hg (fun _ => br_f et_10 ?_) (fun z => absurd c4 z)))))))
            simp only [et_i6', ci, vi, q.2, true_and]
            exact K
        · refine ⟨-3, fun post K => ?_, fun post K => ?_⟩
          · unfold wpX_values
            exact xw_is_t he te (br_f et_10 (xw_at_t ha (br_f et_10 (xw_gr_t hg (br_f et_10 (xw_may hT he te ha hg (fun z => absurd z c4) (fun _ => br_t rfl K)))))))
          · unfold wpY_values
            exact yw_is_t he te (br_f et_10 (yw_in_t (n := 6) (by omega) rfl ha (br_f et_10 (yw_in_t (n := 4) (by omega) rfl hg (br_f et_10 (yw_may hT hR he te ha hg (fun z => absurd z c4) (fun _ => br_t rfl K)))))))
      · refine ⟨-1, fun post K => ?_, fun post K => ?_⟩
        · unfold wpX_values
          exact xw_is_t he te (br_f et_10 (xw_at_t ha (br_f et_10 (xw_gr_f c3 (br_t rfl K)))))
        · unfold wpY_values
          exact yw_is_t he te (br_f et_10 (yw_in_t (n := 6) (by omega) rfl ha (br_f et_10 (yw_in_f (n := 4) (by omega) rfl c3 (br_t rfl K)))))
    · refine ⟨-1, fun post K => ?_, fun post K => ?_⟩
      · unfold wpX_values
        exact xw_is_t he te (br_f et_10 (xw_at_f c2 (br_t rfl K)))
      · unfold wpY_values
        exact yw_is_t he te (br_f et_10 (yw_in_f (n := 6) (by omega) rfl c2 (br_t rfl K)))
  · refine ⟨-1, fun post K => ?_, fun post K => ?_⟩
    · unfold wpX_values
      exact xw_is_f c1 (br_t rfl K)
    · unfold wpY_values
      exact yw_is_f c1 (br_t rfl K)
theorem ev_changed (h : et_I t par al s vb se rs ru sn n kd xa ya xn yn fc fe fa) (v1 v2 : Int32) : ∃ P : Int32 → Prop, (∀ post, (∀ r, P r → post r) → wpX_changed post (nI sn, nI n, tc, fc, t, par, nm, al, s, vb, rs, kd, xa, xn, st, xs, it, tp, fe) v1 v2) ∧ (∀ r, P r → ∀ post, post r → wpY_changed post (nI n, nI sn, t, par, nm, al, s, se, ru, kd, ya, yn, st, ys, gn, fa) v1 v2) := by
  have hD := h.2.2.2.2.2.1.2.1
  by_cases c1 : v2 < 0
  · exact ⟨fun r => r = -1, fun post K => br_t c1 (K _ rfl), fun r hr post K => br_f (Int32.not_le.mpr c1) (by rw [hr] at K; exact K)⟩
  · obtain ⟨k, hk, rfl⟩ := nI_of c1
    by_cases c2 : k < 48
    · exact ⟨et_R t s v1 k, fun post K => xw_changed hD c2 K, fun r hr post K => yw_changed hD hk hr K⟩
    · refine ⟨fun r => r = -1, fun post K => br_f c1 (br_f (nI_nlt (b := 48) (by omega) hk) (K _ rfl)), fun r hr post K => yw_changed hD hk (r := r) (Or.inl ⟨hr, fun x hx z => ?_⟩) K⟩
      have := et_ct_lt (t := t) (s := s) (after := v1) hx.1
      omega
theorem ev_state (h : et_I t par al s vb se rs ru sn n kd xa ya xn yn fc fe fa) (v1 : Int32) : ∃ r, (∀ post, post r → wpX_state post (nI sn, nI n, tc, fc, t, par, nm, al, s, vb, rs, kd, xa, xn, st, xs, it, tp, fe) v1) ∧ (∀ post, post r → wpY_state post (nI n, nI sn, t, par, nm, al, s, se, ru, kd, ya, yn, st, ys, gn, fa) v1) := by
  have hT := h.1
  rcases pk_ix v1 (n := 4) (by omega) with h1 | h1 | ⟨j, h1, rfl⟩
  · have a : ∀ c : Int32, ¬ c < 0 → ¬ v1 = c := fun c hc z => hc (z ▸ h1)
    exact ⟨-1, fun post K => br_t h1 K, fun post K => yw_state hT (fun z => absurd z (a 0 (by decide))) (fun z => absurd z (a 1 (by decide))) (fun z => absurd z (a 2 (by decide))) (fun z => absurd z (a 3 (by decide))) (fun _ _ _ _ => K)⟩
  · have h3 : (3 : Int32) < v1 := by
      rw [et_le] at h1
      rw [et_lt]
      have e4 : (nI 4).toInt = 4 := by decide
      have e3 : (3 : Int32).toInt = 3 := by decide
      omega
    have a : ∀ c : Int32, ¬ 3 < c → ¬ v1 = c := fun c hc z => hc (z ▸ h3)
    exact ⟨-1, fun post K => br_c (fun _ => K) (fun _ => br_t h3 K), fun post K => yw_state hT (fun z => absurd z (a 0 (by decide))) (fun z => absurd z (a 1 (by decide))) (fun z => absurd z (a 2 (by decide))) (fun z => absurd z (a 3 (by decide))) (fun _ _ _ _ => K)⟩
  · match j, h1 with
    | 0, _ => exact ⟨nI sn, fun post K => br_f (by decide) (br_f (by decide) (br_t rfl K)), fun post K => yw_state hT (fun _ => K) (fun z => absurd z (by decide)) (fun z => absurd z (by decide)) (fun z => absurd z (by decide)) (fun z => absurd rfl z)⟩
    | 1, _ => exact ⟨nI (et_cn (fun e => ¬ t e = 0) 48), fun post K => br_f (by decide) (br_f (by decide) (br_f (by decide) (br_t rfl (xw_cthere K)))), fun post K => yw_state hT (fun z => absurd z (by decide)) (fun _ => K) (fun z => absurd z (by decide)) (fun z => absurd z (by decide)) (fun _ z => absurd rfl z)⟩
    | 2, _ => exact ⟨nI (et_cn (fun e => ¬ t e = 0 ∧ al e = -2) 48), fun post K => br_f (by decide) (br_f (by decide) (br_f (by decide) (br_f (by decide) (br_t rfl (xw_clost K))))), fun post K => yw_state hT (fun z => absurd z (by decide)) (fun z => absurd z (by decide)) (fun _ => K) (fun z => absurd z (by decide)) (fun _ _ z => absurd rfl z)⟩
    | 3, _ => exact ⟨nI (et_gd t par 48), fun post K => br_f (by decide) (br_f (by decide) (br_f (by decide) (br_f (by decide) (br_f (by decide) (br_t rfl (xw_gd hT K)))))), fun post K => yw_state hT (fun z => absurd z (by decide)) (fun z => absurd z (by decide)) (fun z => absurd z (by decide)) (fun _ => K) (fun _ _ _ z => absurd rfl z)⟩
end
end
section
def et_mw (t par : Nat → Int32) (sc c x : Nat) : Prop := ¬ t x = 0 ∧ ((¬ sc = 1 ∧ x = c) ∨ (sc = 1 ∧ par x = nI c) ∨ (sc = 2 ∧ et_wi par (nI c) 47 (par x)))
def et_sc (sc : Nat) : Nat := if sc = 2 then 2 else 0
def et_LL (al : Nat → Int32) (e c : Nat) : Prop := c < 48 ∧ et_ld al 48 (nI e) = nI c
def et_AA (al : Nat → Int32) (inn : Prop) (e : Nat) : Prop := inn ∧ ¬ al e = -1
def et_MM (t par al : Nat → Int32) (sc : Nat) (inn : Prop) (b x : Nat) : Prop := et_M (et_mw t par sc b) (fun x c => et_mw t par (et_sc sc) c x) (et_AA al inn) (et_LL al) b x
def et_FF (t par al : Nat → Int32) (sc : Nat) (inn : Prop) (b x : Nat) : Prop := et_F (et_mw t par sc b) (fun x c => et_mw t par (et_sc sc) c x) (et_AA al inn) (et_LL al) b x
theorem et_MM_t {t par al : Nat → Int32} {sc : Nat} {inn : Prop} {b x : Nat} (h : et_MM t par al sc inn b x) : ¬ t x = 0 :=
  h (fun x => ¬ t x = 0) ⟨fun _ _ z => z.1, fun _ _ _ _ _ _ _ _ _ z => z.1⟩
theorem et_FF_t {t par al : Nat → Int32} {sc : Nat} {inn : Prop} {b x : Nat} (h : et_FF t par al sc inn b x) : ¬ t x = 0 := et_MM_t h.1
/-- what the loop over the aliases keeps -/
def et_J (t par al : Nat → Int32) (sc : Nat) (inn : Prop) (b : Nat) (sr gn : Nat → Int32) : Prop :=
  (∀ x, x < 48 → ¬ sr x = 0 → et_MM t par al sc inn b x) ∧ (∀ x, x < 48 → et_mw t par sc b x → ¬ sr x = 0) ∧ (∀ e, e < 48 → ¬ gn e = 0 → et_AA al inn e ∧ ¬ e = b) ∧
  (∀ e, e < 48 → ¬ gn e = 0 → ∀ c, et_LL al e c → ∀ x, x < 48 → et_mw t par (et_sc sc) c x → ¬ sr x = 0)
def et_Jc (al : Nat → Int32) (inn : Prop) (b : Nat) (sr gn : Nat → Int32) (N : Nat) : Prop := ∀ e, e < N → ¬ sr e = 0 → et_AA al inn e → ¬ e = b → ¬ gn e = 0
theorem et_J_f {t par al : Nat → Int32} {sc : Nat} {inn : Prop} {b : Nat} {sr gn : Nat → Int32} (h : et_J t par al sc inn b sr gn) (hc : et_Jc al inn b sr gn 48) : ∀ x, x < 48 → ((¬ sr x = 0 ∧ gn x = 0) ↔ et_FF t par al sc inn b x) :=
  et_yF h.1 h.2.1 h.2.2.1 h.2.2.2 hc
theorem et_J_s {t par al : Nat → Int32} {sc : Nat} {inn : Prop} {b : Nat} {sr gn sr' : Nat → Int32} (h : et_J t par al sc inn b sr gn) {i : Nat} (hi : i < 48) (si : ¬ sr i = 0) (hA : et_AA al inn i) (hb : ¬ i = b)
    (h' : ∀ x, x < 48 → (¬ sr' x = 0 ↔ ¬ sr x = 0 ∨ ∃ c, et_LL al i c ∧ et_mw t par (et_sc sc) c x)) : et_J t par al sc inn b sr' (upd gn i 1) := by
  obtain ⟨h1, h2, h3, h4⟩ := h
  refine ⟨fun x hx sx => ?_, fun x hx bx => (h' x hx).mpr (Or.inl (h2 x hx bx)), fun e he ge => ?_, fun e he ge c hc x hx wx => ?_⟩
  · rcases (h' x hx).mp sx with q | ⟨c, hc, wc⟩
    · exact h1 x hx q
    · exact et_M_s hi (h1 i hi si) hA hb hc hx wc
  · rcases et_u1i.mp ge with q | q
    · subst q; exact ⟨hA, hb⟩
    · exact h3 e he q
  · rcases et_u1i.mp ge with q | q
    · subst q; exact (h' x hx).mpr (Or.inr ⟨c, hc, wx⟩)
    · exact (h' x hx).mpr (Or.inl (h4 e he q c hc x hx wx))
theorem et_cn_u {f : Nat → Int32} {i : Nat} (hi : i < 48) (h0 : f i = 0) : et_cn (fun e => ¬ upd f i 1 e = 0) 48 = et_cn (fun e => ¬ f e = 0) 48 + 1 := by
  rw [← et_cn_ins (P := fun e => ¬ f e = 0) i hi (fun z => z h0)]
  exact et_cn_congr fun k _ => et_u1i
section
variable {zn zs : Int32} {t par nm al s se ru kd ya yn st ys gn fa : Nat → Int32}
theorem yw_mark {post : SY → Prop} {c sc : Nat} (hT : et_Tree t par) (hc : c < 48) (hsc : sc < 3) (k : ∀ sr : Nat → Int32, (∀ x, x < 48 → (¬ sr x = 0 ↔ ¬ ys x = 0 ∨ et_mw t par sc c x)) → post (zn, zs, t, par, nm, al, s, se, ru, kd, ya, yn, st, sr, gn, fa)) : wpY_mark post (zn, zs, t, par, nm, al, s, se, ru, kd, ya, yn, st, ys, gn, fa) (nI c) (nI sc) := by
  have key : ∀ d e n (sr : Nat → Int32), e + d = 48 → d < n → (∀ x, x < 48 → (¬ sr x = 0 ↔ ¬ ys x = 0 ∨ (x < e ∧ et_mw t par sc c x))) → wY_mark_2 post (nI c) (nI sc) zn zs n (nI e) t par nm al s se ru kd ya yn st sr gn fa := by
    intro d
    induction d with
    | zero =>
      intro e n sr he hn hr
      obtain ⟨n, rfl⟩ : ∃ m, n = m + 1 := ⟨n - 1, by omega⟩
      obtain rfl : e = 48 := by omega
      exact br_t et_le48 (k sr (fun x hx => (hr x hx).trans ⟨fun z => z.elim Or.inl (fun y => Or.inr y.2), fun z => z.elim Or.inl (fun y => Or.inr ⟨hx, y⟩)⟩))
    | succ d ih =>
      intro e n sr he hn hr
      obtain ⟨n, rfl⟩ : ∃ m, n = m + 1 := ⟨n - 1, by omega⟩
      have h1 : e < 48 := by omega
      have no : ¬ et_mw t par sc c e → wY_mark_2 post (nI c) (nI sc) zn zs n (nI (e + 1)) t par nm al s se ru kd ya yn st sr gn fa := fun z => ih (e + 1) n sr (by omega) (by omega) (fun x hx => (hr x hx).trans ⟨fun y => y.elim Or.inl (fun w => Or.inr ⟨by omega, w.2⟩), fun y => y.elim Or.inl (fun w => by
        by_cases q : x = e
        · subst q; exact (z w.2).elim
        · exact Or.inr ⟨by omega, w.2⟩)⟩)
      have yes : et_mw t par sc c e → wY_mark_2 post (nI c) (nI sc) zn zs n (nI (e + 1)) t par nm al s se ru kd ya yn st (upd sr e 1) gn fa := fun z => ih (e + 1) n _ (by omega) (by omega) (fun x hx => by
        rw [et_u1i, hr x hx]
        constructor
        · rintro (q | q | q)
          · subst q; exact Or.inr ⟨by omega, z⟩
          · exact Or.inl q
          · exact Or.inr ⟨by omega, q.2⟩
        · rintro (q | q)
          · exact Or.inr (Or.inl q)
          · by_cases w : x = e
            · exact Or.inl w
            · exact Or.inr (Or.inr ⟨by omega, q.2⟩))
      simp only [wY_mark_2, wY_mark_27, wY_mark_42, et_cl h1, et_ge h1, et_in h1, et_bo.1, forall_eq, nI_1, true_and, and_true, not_false_iff, not_true, true_implies, false_implies]
      by_cases a : t e = 0
      · exact br_t a (no (fun z => z.1 a))
      · refine br_f a ?_
        match sc, hsc with
        | 0, _ =>
          refine br_f (by decide) ?_
          by_cases b : nI e = nI c
          · exact br_t b (yes ⟨a, Or.inl ⟨by omega, et_inj h1 hc b⟩⟩)
          · refine br_f b (br_f (by decide) (br_f (by decide) (no ?_)))
            rintro ⟨_, q | q | q⟩
            · exact b (by rw [q.2])
            · exact absurd q.1 (by omega)
            · exact absurd q.1 (by omega)
        | 1, _ =>
          refine br_t rfl (br_t rfl ?_)
          by_cases b : par e = nI c
          · exact br_t b (yes ⟨a, Or.inr (Or.inl ⟨rfl, b⟩)⟩)
          · refine br_f b (br_f (by decide) (no ?_))
            rintro ⟨_, q | q | q⟩
            · exact q.1 rfl
            · exact b q.2
            · exact absurd q.1 (by omega)
        | 2, _ =>
          refine br_f (by decide) ?_
          by_cases b : nI e = nI c
          · exact br_t b (yes ⟨a, Or.inl ⟨by omega, et_inj h1 hc b⟩⟩)
          · refine br_f b (br_f (by decide) (br_t rfl (yw_below hT h1 a (fun w => br_f et_10 ?_) (fun w => br_t rfl ?_))))
            · exact yes ⟨a, Or.inr (Or.inr ⟨rfl, w⟩)⟩
            · refine no ?_
              rintro ⟨_, q | q | q⟩
              · exact b (by rw [q.2])
              · exact absurd q.1 (by omega)
              · exact w q.2
  exact ⟨49, key 48 0 49 ys rfl (by omega) (fun x hx => ⟨Or.inl, fun z => z.elim id (fun y => absurd y.1 (Nat.not_lt_zero _))⟩)⟩
theorem yw_loop {post : Int32 → SY → Prop} {b sc : Nat} {g : Int32} (hT : et_Tree t par) (hA : et_Al t al) (hb : b < 48) (hsc : sc < 3)
    (K : ∀ sr gn : Nat → Int32, et_J t par al sc True b sr gn → et_Jc al True b sr gn 48 → ∃ m, wY_search_240 post g m 0 0 zn zs t par nm al s se ru kd ya yn st sr gn fa) :
    ∀ f (sr gn : Nat → Int32), et_J t par al sc True b sr gn → (et_Jc al True b sr gn 48 → wY_search_128 post (nI sc) g (nI b) (f + 1) 0 zn zs t par nm al s se ru kd ya yn st sr gn fa) ∧ (48 - et_cn (fun e => ¬ gn e = 0) 48 ≤ f → wY_search_128 post (nI sc) g (nI b) (f + 2) 1 zn zs t par nm al s se ru kd ya yn st sr gn fa) := by
  intro f
  induction f with
  | zero =>
    intro sr gn J
    refine ⟨fun c => br_t rfl (K sr gn J c), fun z => ?_⟩
    exfalso
    have := et_cn_ltn (P := fun e => ¬ gn e = 0) b hb (fun y => (J.2.2.1 b hb y).2 rfl)
    omega
  | succ f IH =>
    intro sr gn J
    refine ⟨fun c => br_t rfl (K sr gn J c), fun z => br_f et_10 ?_⟩
    have key : ∀ d i m (x6 : Int32) (sr' gn' : Nat → Int32), i + d = 48 → d < m → et_J t par al sc True b sr' gn' →
        (x6 = 0 ∧ et_Jc al True b sr' gn' i ∧ et_cn (fun e => ¬ gn e = 0) 48 ≤ et_cn (fun e => ¬ gn' e = 0) 48 ∨ x6 = 1 ∧ et_cn (fun e => ¬ gn e = 0) 48 < et_cn (fun e => ¬ gn' e = 0) 48) →
        wY_search_139 post (wY_search_128 post (nI sc) g (nI b) (f + 2)) (nI sc) g (nI b) m x6 (nI i) zn zs t par nm al s se ru kd ya yn st sr' gn' fa := by
      intro d
      induction d with
      | zero =>
        intro i m x6 sr' gn' hi hm J' hx
        obtain ⟨m, rfl⟩ : ∃ y, m = y + 1 := ⟨m - 1, by omega⟩
        obtain rfl : i = 48 := by omega
        refine br_t et_le48 ?_
        rcases hx with ⟨rfl, hc, _⟩ | ⟨rfl, hc⟩
        · exact br_t rfl (K sr' gn' J' hc)
        · exact (IH sr' gn' J').2 (by omega)
      | succ d ih =>
        intro i m x6 sr' gn' hi hm J' hx
        obtain ⟨m, rfl⟩ : ∃ y, m = y + 1 := ⟨m - 1, by omega⟩
        have h1 : i < 48 := by omega
        have skip : (¬ sr' i = 0 → et_AA al True i → ¬ i = b → ¬ gn' i = 0) → wY_search_139 post (wY_search_128 post (nI sc) g (nI b) (f + 2)) (nI sc) g (nI b) m x6 (nI (i + 1)) zn zs t par nm al s se ru kd ya yn st sr' gn' fa := fun w => ih (i + 1) m x6 sr' gn' (by omega) (by omega) J' (hx.elim (fun y => Or.inl ⟨y.1, fun e he => by
          by_cases q : e = i
          · subst q; exact w
          · exact y.2.1 e (by omega), y.2.2⟩) Or.inr)
        simp only [wY_search_139, wY_search_222, et_cl h1, et_ge h1, et_in h1, et_bo.1, forall_eq, nI_1, true_and, and_true, not_false_iff, not_true, true_implies, false_implies]
        by_cases a1 : sr' i = 0
        · exact br_t a1 (skip (fun w => absurd a1 w))
        · refine br_f a1 ?_
          by_cases a2 : gn' i = 0
          · refine br_t a2 ?_
            by_cases a3 : al i = -1
            · exact yw_al_f h1 a3 (br_t rfl (skip (fun _ w => absurd a3 w.2)))
            · refine yw_al_t h1 a3 (br_f et_10 ?_)
              by_cases a4 : nI i = nI b
              · exact br_t a4 (skip (fun _ _ w => absurd (et_inj h1 hb a4) w))
              · have a5 : ¬ i = b := fun w => a4 (by rw [w])
                have ti : ¬ t i = 0 := et_MM_t (J'.1 i h1 a1)
                have cnt := et_cn_u h1 a2
                have go : ∀ sr2 : Nat → Int32, (∀ x, x < 48 → (¬ sr2 x = 0 ↔ ¬ sr' x = 0 ∨ ∃ c, et_LL al i c ∧ et_mw t par (et_sc sc) c x)) → wY_search_139 post (wY_search_128 post (nI sc) g (nI b) (f + 2)) (nI sc) g (nI b) m 1 (nI (i + 1)) zn zs t par nm al s se ru kd ya yn st sr2 (upd gn' i 1) fa := fun sr2 h2 =>
                  ih (i + 1) m 1 sr2 (upd gn' i 1) (by omega) (by omega) (et_J_s J' h1 a1 ⟨trivial, a3⟩ a5 h2) (Or.inr ⟨rfl, by
                    have l : et_cn (fun e => ¬ gn e = 0) 48 ≤ et_cn (fun e => ¬ gn' e = 0) 48 := hx.elim (fun y => y.2.2) (fun y => Nat.le_of_lt y.2)
                    omega⟩)
                refine br_f a4 (yw_leads hA h1 ti ?_)
                rcases et_ld_c hA 48 (nI i) (Or.inr ⟨i, h1, ti, rfl⟩) with q | ⟨c, hc, tc, ac, q⟩
                · refine br_t (by rw [q]; exact et_m1.2.2.1) (go sr' (fun x hx => ⟨Or.inl, fun w => w.elim id (fun ⟨c, hc, _⟩ => ?_)⟩))
                  exact (et_ne2 hc.1 (hc.2.symm.trans q)).elim
                · have uq : ∀ x, (∃ c', et_LL al i c' ∧ et_mw t par (et_sc sc) c' x) ↔ et_mw t par (et_sc sc) c x := fun x =>
                    ⟨fun ⟨c', h1', h2'⟩ => by rw [et_inj h1'.1 hc (h1'.2.symm.trans q)] at h2'; exact h2', fun w => ⟨c, ⟨hc, q⟩, w⟩⟩
                  rw [q]
                  refine br_f (et_nn hc) (br_c (fun w => ?_) (fun w => ?_))
                  · have s2 : sc = 2 := (nI_eq (a := sc) (b := 2) (by omega) (by omega)).mp w
                    have e2 : et_sc sc = 2 := if_pos s2
                    rw [e2] at go uq
                    refine yw_mark (sc := 2) hT hc (by omega) (fun sr2 h2 => ?_)
                    exact go sr2 (fun x hx => by rw [uq x]; exact h2 x hx)
                  · have s2 : ¬ sc = 2 := fun y => w (by rw [y]; rfl)
                    have e2 : et_sc sc = 0 := if_neg s2
                    rw [e2] at go uq
                    refine yw_mark (sc := 0) hT hc (by omega) (fun sr2 h2 => ?_)
                    exact go sr2 (fun x hx => by rw [uq x]; exact h2 x hx)
          · exact br_f a2 (skip (fun _ _ _ => a2))
    exact ⟨49, key 48 0 49 0 sr gn rfl (by omega) J (Or.inl ⟨rfl, fun e he => absurd he (Nat.not_lt_zero _), Nat.le_refl _⟩)⟩
end
end
section
theorem et_par_self {t par : Nat → Int32} (h : et_Tree t par) {e : Nat} (he : e < 48) (te : ¬ t e = 0) : ¬ par e = nI e := by
  intro z
  apply et_below_self h he te
  rw [z]
  exact (et_wi_e (f := 46) he).mpr (Or.inl rfl)
theorem et_mw2 {t par : Nat → Int32} {c x : Nat} (hx : x < 48) (hc : c < 48) : et_mw t par 2 c x ↔ ¬ t x = 0 ∧ (nI x = nI c ∨ et_wi par (nI c) 47 (par x)) := by
  constructor
  · rintro ⟨a, q | q | q⟩
    · exact ⟨a, Or.inl (by rw [q.2])⟩
    · exact absurd q.1 (by omega)
    · exact ⟨a, Or.inr q.2⟩
  · rintro ⟨a, q | q⟩
    · exact ⟨a, Or.inl ⟨by omega, et_inj hx hc q⟩⟩
    · exact ⟨a, Or.inr (Or.inr ⟨rfl, q⟩)⟩
theorem et_FF_0 {t par al : Nat → Int32} {inn : Prop} {b x : Nat} (hx : x < 48) (tb : ¬ t b = 0) : et_FF t par al 0 inn b x ↔ x = b := by
  constructor
  · intro h
    refine h.1 (fun x => x = b) ⟨?_, fun e c he hs hA hb => absurd hs hb⟩
    rintro x hx ⟨_, q | q | q⟩
    · exact q.2
    · exact absurd q.1 (by omega)
    · exact absurd q.1 (by omega)
  · intro h
    subst h
    exact ⟨et_M_b hx ⟨tb, Or.inl ⟨by omega, rfl⟩⟩, fun z => z.2 rfl⟩
theorem et_FF_1 {t par al : Nat → Int32} {inn : Prop} {b x : Nat} (hT : et_Tree t par) (hA : et_Al t al) (hb : b < 48) (tb : ¬ t b = 0) (hx : x < 48) :
    et_FF t par al 1 inn b x ↔ ∃ e, e < 48 ∧ ¬ t e = 0 ∧ par e = nI b ∧ ((inn ∧ et_LL al e x) ∨ (¬ inn ∧ x = e)) := by
  have B : ∀ e, et_mw t par 1 b e ↔ ¬ t e = 0 ∧ par e = nI b := by
    intro e
    constructor
    · rintro ⟨a, q | q | q⟩
      · exact absurd rfl q.1
      · exact ⟨a, q.2⟩
      · exact absurd q.1 (by omega)
    · rintro ⟨a, q⟩
      exact ⟨a, Or.inr (Or.inl ⟨rfl, q⟩)⟩
  have W : ∀ c y, et_mw t par (et_sc 1) c y ↔ ¬ t y = 0 ∧ y = c := by
    intro c y
    constructor
    · rintro ⟨a, q | q | q⟩
      · exact ⟨a, q.2⟩
      · exact absurd q.1 (by decide)
      · exact absurd q.1 (by decide)
    · rintro ⟨a, q⟩
      exact ⟨a, Or.inl ⟨by decide, q⟩⟩
  have ldt : ∀ e y, e < 48 → ¬ t e = 0 → et_LL al e y → ¬ t y = 0 ∧ al y = -1 := by
    intro e y he te hl
    rcases et_ld_c hA 48 (nI e) (Or.inr ⟨e, he, te, rfl⟩) with q | ⟨c, hc, tc, ac, q⟩
    · exact (et_ne2 hl.1 (hl.2.symm.trans q)).elim
    · obtain rfl := et_inj hl.1 hc (hl.2.symm.trans q)
      exact ⟨tc, ac⟩
  have ne : ∀ e, e < 48 → ¬ t e = 0 → par e = nI b → ¬ e = b := fun e he te pe z => by
    subst z
    exact et_par_self hT he te pe
  constructor
  · rintro ⟨hM, hF⟩
    by_cases hi : inn
    · have cl : et_Cl (et_mw t par 1 b) (fun x c => et_mw t par (et_sc 1) c x) (et_AA al inn) (et_LL al) b (fun x => et_mw t par 1 b x ∨ ∃ e, e < 48 ∧ ¬ t e = 0 ∧ par e = nI b ∧ et_LL al e x) := by
        refine ⟨fun x _ q => Or.inl q, fun e c he hs hAe hne hl y hy wy => ?_⟩
        obtain ⟨ty, rfl⟩ := (W c y).mp wy
        rcases hs with hs | ⟨e', he', te', pe', hl'⟩
        · have hs := (B e).mp hs
          exact Or.inr ⟨e, he, hs.1, hs.2, hl⟩
        · exact absurd (ldt e' e he' te' hl').2 hAe.2
      rcases hM _ cl with q | ⟨e, he, te, pe, hl⟩
      · have q := (B x).mp q
        by_cases ha : al x = -1
        · exact ⟨x, hx, q.1, q.2, Or.inl ⟨hi, hx, et_ld_e hx ha⟩⟩
        · exact (hF ⟨⟨hi, ha⟩, ne x hx q.1 q.2⟩).elim
      · exact ⟨e, he, te, pe, Or.inl ⟨hi, hl⟩⟩
    · have cl : et_Cl (et_mw t par 1 b) (fun x c => et_mw t par (et_sc 1) c x) (et_AA al inn) (et_LL al) b (fun x => et_mw t par 1 b x) := ⟨fun x _ q => q, fun e c he hs hAe => absurd hAe.1 hi⟩
      have q := (B x).mp (hM _ cl)
      exact ⟨x, hx, q.1, q.2, Or.inr ⟨hi, rfl⟩⟩
  · rintro ⟨e, he, te, pe, ⟨hi, hl⟩ | ⟨hi, rfl⟩⟩
    · have l := ldt e x he te hl
      refine ⟨?_, fun z => z.1.2 l.2⟩
      by_cases ha : al e = -1
      · have q : nI x = nI e := hl.2.symm.trans (et_ld_e he ha)
        obtain rfl := et_inj hx he q
        exact et_M_b hx ((B _).mpr ⟨te, pe⟩)
      · exact et_M_s he (et_M_b he ((B e).mpr ⟨te, pe⟩)) ⟨hi, ha⟩ (ne e he te pe) hl hx ((W x x).mpr ⟨l.1, rfl⟩)
    · exact ⟨et_M_b hx ((B _).mpr ⟨te, pe⟩), fun z => hi z.1.1⟩
section
variable {zs zn tc fc : Int32} {t par nm al s vb rs kd xa xn st xs it tp fe : Nat → Int32}
theorem xw_munder {post : SX → Prop} {b : Nat} {i01 : Int32} (hT : et_Tree t par) (hA : et_Al t al) (hb : b < 48) (tb : ¬ t b = 0) (h0 : ∀ x, x < 48 → xs x = 0)
    (k : ∀ sr : Nat → Int32, (∀ x, x < 48 → (¬ sr x = 0 ↔ et_FF t par al 1 (¬ i01 = 0) b x)) → post (zs, zn, tc, fc, t, par, nm, al, s, vb, rs, kd, xa, xn, st, sr, it, tp, fe)) : wpX_markUnder post (zs, zn, tc, fc, t, par, nm, al, s, vb, rs, kd, xa, xn, st, xs, it, tp, fe) (nI b) i01 := by
  have key : ∀ d e n (sr : Nat → Int32), e + d = 48 → d < n → (∀ x, x < 48 → (¬ sr x = 0 ↔ ∃ e', e' < e ∧ ¬ t e' = 0 ∧ par e' = nI b ∧ ((¬ i01 = 0 ∧ et_LL al e' x) ∨ (¬ ¬ i01 = 0 ∧ x = e')))) → wX_markUnder_2 post (nI b) i01 zs zn tc fc n (nI e) t par nm al s vb rs kd xa xn st sr it tp fe := by
    intro d
    induction d with
    | zero =>
      intro e n sr he hn hr
      obtain ⟨n, rfl⟩ : ∃ m, n = m + 1 := ⟨n - 1, by omega⟩
      obtain rfl : e = 48 := by omega
      exact br_t et_le48 (k sr (fun x hx => (hr x hx).trans (et_FF_1 hT hA hb tb hx).symm))
    | succ d ih =>
      intro e n sr he hn hr
      obtain ⟨n, rfl⟩ : ∃ m, n = m + 1 := ⟨n - 1, by omega⟩
      have h1 : e < 48 := by omega
      have no : (∀ x, x < 48 → ¬ (¬ t e = 0 ∧ par e = nI b ∧ ((¬ i01 = 0 ∧ et_LL al e x) ∨ (¬ ¬ i01 = 0 ∧ x = e)))) → wX_markUnder_2 post (nI b) i01 zs zn tc fc n (nI (e + 1)) t par nm al s vb rs kd xa xn st sr it tp fe := fun z => ih (e + 1) n sr (by omega) (by omega) (fun x hx => (hr x hx).trans ⟨fun ⟨e', h', q⟩ => ⟨e', by omega, q⟩, fun ⟨e', h', q⟩ => by
        by_cases w : e' = e
        · subst w; exact (z x hx q).elim
        · exact ⟨e', by omega, q⟩⟩)
      have yes : ∀ c, c < 48 → (∀ x, x < 48 → ((¬ t e = 0 ∧ par e = nI b ∧ ((¬ i01 = 0 ∧ et_LL al e x) ∨ (¬ ¬ i01 = 0 ∧ x = e))) ↔ x = c)) → wX_markUnder_2 post (nI b) i01 zs zn tc fc n (nI (e + 1)) t par nm al s vb rs kd xa xn st (upd sr c 1) it tp fe := fun c hc z => ih (e + 1) n _ (by omega) (by omega) (fun x hx => by
        rw [et_u1i, hr x hx, ← z x hx]
        constructor
        · rintro (q | ⟨e', h', q⟩)
          · exact ⟨e, by omega, q⟩
          · exact ⟨e', by omega, q⟩
        · rintro ⟨e', h', q⟩
          by_cases w : e' = e
          · subst w; exact Or.inl q
          · exact Or.inr ⟨e', by omega, q⟩)
      simp only [wX_markUnder_2, wX_markUnder_40, et_cl h1, et_ge h1, et_in h1, et_bo.1, forall_eq, nI_1, true_and, and_true, not_false_iff, not_true, true_implies, false_implies]
      by_cases a : t e = 0
      · exact br_t a (no (fun x _ z => z.1 a))
      · refine br_f a ?_
        by_cases p : par e = nI b
        · refine br_t p ?_
          by_cases i : i01 = 0
          · exact br_t i (br_f (et_ne2 h1) (yes e h1 (fun x hx => ⟨fun z => z.2.2.elim (fun q => absurd i q.1) (fun q => q.2), fun z => ⟨a, p, Or.inr ⟨fun q => q i, z⟩⟩⟩)))
          · refine br_f i (xw_leads hA h1 a ?_)
            rcases et_ld_c hA 48 (nI e) (Or.inr ⟨e, h1, a, rfl⟩) with q | ⟨c, hc, tc, ac, q⟩
            · refine br_t q (no (fun x hx z => z.2.2.elim (fun y => et_ne2 hx (y.2.2.symm.trans q)) (fun y => y.1 i)))
            · rw [q]
              simp only [et_cl hc, et_in hc, true_and]
              exact br_f (et_ne2 hc) (yes c hc (fun x hx => ⟨fun z => z.2.2.elim (fun y => et_inj hx hc (y.2.2.symm.trans q)) (fun y => absurd i y.1), fun z => ⟨a, p, Or.inl ⟨i, hx, by rw [z]; exact q⟩⟩⟩))
        · exact br_f p (no (fun x _ z => p z.2.1))
  exact ⟨49, key 48 0 49 xs rfl (by omega) (fun x hx => ⟨fun z => absurd (h0 x hx) z, fun ⟨e', h', _⟩ => absurd h' (Nat.not_lt_zero _)⟩)⟩
theorem xw_queue_a {post : SX → Prop} {c m : Nat} (hc : c < 48) (hm : m < 48) (h0 : it c = 0) (k : post (zs, zn, nI (m + 1), fc, t, par, nm, al, s, vb, rs, kd, xa, xn, st, xs, upd it c 1, upd tp m (nI c), fe)) : wpX_queueTop post (zs, zn, nI m, fc, t, par, nm, al, s, vb, rs, kd, xa, xn, st, xs, it, tp, fe) (nI c) := by
  simp only [wpX_queueTop, et_cl hc, et_in hc, et_cl hm, et_in hm, et_bo.1, forall_eq, nI_1, true_and, and_true, not_false_iff, not_true, true_implies, false_implies]
  exact br_f (et_ne2 hc) (br_t h0 k)
theorem xw_queue_o {post : SX → Prop} {c : Nat} (hc : c < 48) (h0 : ¬ it c = 0) (k : post (zs, zn, tc, fc, t, par, nm, al, s, vb, rs, kd, xa, xn, st, xs, it, tp, fe)) : wpX_queueTop post (zs, zn, tc, fc, t, par, nm, al, s, vb, rs, kd, xa, xn, st, xs, it, tp, fe) (nI c) := by
  simp only [wpX_queueTop, et_cl hc, et_in hc, true_and]
  exact br_f (et_ne2 hc) (br_f h0 k)
theorem xw_sub {post : SX → Prop} {b p m : Nat} {i01 : Int32} (hT : et_Tree t par) (hA : et_Al t al) (hb : b < 48) (hp : p < 48) (ip : ¬ it p = 0)
    (Q : et_QX (et_mw t par 2 b) (fun x c => et_mw t par 2 c x) (et_AA al (¬ i01 = 0)) (et_LL al) b m xs it tp)
    (k : ∀ m' (xs' it' tp' : Nat → Int32), et_QX (et_mw t par 2 b) (fun x c => et_mw t par 2 c x) (et_AA al (¬ i01 = 0)) (et_LL al) b m' xs' it' tp' → (∀ x, ¬ xs x = 0 → ¬ xs' x = 0) → (∀ x, ¬ it x = 0 → ¬ it' x = 0) → m ≤ m' → (∀ j, j < m → tp' j = tp j) →
      et_PX (fun x c => et_mw t par 2 c x) (et_AA al (¬ i01 = 0)) (et_LL al) b xs' it' p 48 → post (zs, zn, nI m', fc, t, par, nm, al, s, vb, rs, kd, xa, xn, st, xs', it', tp', fe)) : wpX_markSubtree post (zs, zn, nI m, fc, t, par, nm, al, s, vb, rs, kd, xa, xn, st, xs, it, tp, fe) (nI p) (nI b) i01 := by
  have key : ∀ d e n m' (xs' it' tp' : Nat → Int32), e + d = 48 → d < n → et_QX (et_mw t par 2 b) (fun x c => et_mw t par 2 c x) (et_AA al (¬ i01 = 0)) (et_LL al) b m' xs' it' tp' → (∀ x, ¬ xs x = 0 → ¬ xs' x = 0) → (∀ x, ¬ it x = 0 → ¬ it' x = 0) → m ≤ m' → (∀ j, j < m → tp' j = tp j) →
      et_PX (fun x c => et_mw t par 2 c x) (et_AA al (¬ i01 = 0)) (et_LL al) b xs' it' p e → wX_markSubtree_3 post (nI p) (nI b) i01 n (nI e) zs zn (nI m') fc t par nm al s vb rs kd xa xn st xs' it' tp' fe := by
    intro d
    induction d with
    | zero =>
      intro e n m' xs' it' tp' he hn Q' g1 g2 g3 g4 P'
      obtain ⟨n, rfl⟩ : ∃ m, n = m + 1 := ⟨n - 1, by omega⟩
      obtain rfl : e = 48 := by omega
      exact br_t et_le48 (k m' xs' it' tp' Q' g1 g2 g3 g4 P')
    | succ d ih =>
      intro e n m' xs' it' tp' he hn Q' g1 g2 g3 g4 P'
      obtain ⟨n, rfl⟩ : ∃ m, n = m + 1 := ⟨n - 1, by omega⟩
      have h1 : e < 48 := by omega
      have no : (et_mw t par 2 p e → (et_AA al (¬ i01 = 0) e → ¬ e = b → ∀ s, et_LL al e s → ¬ it' s = 0) ∧ (¬ (et_AA al (¬ i01 = 0) e ∧ ¬ e = b) → ¬ xs' e = 0)) → wX_markSubtree_3 post (nI p) (nI b) i01 n (nI (e + 1)) zs zn (nI m') fc t par nm al s vb rs kd xa xn st xs' it' tp' fe := fun z => ih (e + 1) n m' xs' it' tp' (by omega) (by omega) Q' g1 g2 g3 g4 (et_PX_s P' z)
      have mk : et_mw t par 2 p e → ¬ (et_AA al (¬ i01 = 0) e ∧ ¬ e = b) → wX_markSubtree_3 post (nI p) (nI b) i01 n (nI (e + 1)) zs zn (nI m') fc t par nm al s vb rs kd xa xn st (upd xs' e 1) it' tp' fe := fun z y =>
        ih (e + 1) n m' (upd xs' e 1) it' tp' (by omega) (by omega) (et_QX_r Q' ⟨Q'.2.2.2.1 p hp (g2 p ip) e h1 z, y⟩) (fun x hx => et_u1 (g1 x hx)) g2 g3 g4
          (et_PX_s (et_PX_m P' (fun x hx => et_u1 hx) (fun x hx => hx)) (fun _ => ⟨fun a c => absurd ⟨a, c⟩ y, fun _ => et_u1k⟩))
      simp only [wX_markSubtree_3, et_cl h1, et_ge h1, et_in h1, et_bo.1, forall_eq, nI_1, true_and, and_true, not_false_iff, not_true, true_implies, false_implies]
      by_cases a : t e = 0
      · exact br_t a (no (fun z => absurd a z.1))
      · refine br_f a (xw_within hT h1 a (fun w => br_f et_10 ?_) (fun w => br_t rfl ?_))
        · have wm : et_mw t par 2 p e := (et_mw2 h1 hp).mpr ⟨a, w⟩
          by_cases i : i01 = 0
          · exact br_t i (mk wm (fun z => z.1.1 i))
          · refine br_f i ?_
            by_cases eb : nI e = nI b
            · exact br_t eb (mk wm (fun z => z.2 (et_inj h1 hb eb)))
            · have eb' : ¬ e = b := fun z => eb (by rw [z])
              refine br_f eb ?_
              by_cases ea : al e = -1
              · exact xw_al_f h1 ea (br_t rfl (mk wm (fun z => z.1.2 ea)))
              · refine xw_al_t h1 ea (br_f et_10 (xw_leads hA h1 a ?_))
                have aa : et_AA al (¬ i01 = 0) e := ⟨i, ea⟩
                rcases et_ld_c hA 48 (nI e) (Or.inr ⟨e, h1, a, rfl⟩) with q | ⟨c, hc, tc', ac, q⟩
                · rw [q]
                  refine br_t rfl ?_
                  exact no (fun _ => ⟨fun _ _ s' hl => (et_ne2 hl.1 (hl.2.symm.trans q)).elim, fun z => absurd ⟨aa, eb'⟩ z⟩)
                · rw [q]
                  by_cases ic : it' c = 0
                  · have G : ∀ x, x < 48 → et_mw t par 2 c x → et_M (et_mw t par 2 b) (fun x c => et_mw t par 2 c x) (et_AA al (¬ i01 = 0)) (et_LL al) b x := fun x hx wx =>
                      et_M_s h1 (Q'.2.2.2.1 p hp (g2 p ip) e h1 wm) aa eb' ⟨hc, q⟩ hx wx
                    obtain ⟨hm, Q2⟩ := et_QX_q Q' hc ic G
                    refine xw_queue_a hc hm ic ?_
                    refine ih (e + 1) n (m' + 1) xs' (upd it' c 1) (upd tp' m' (nI c)) (by omega) (by omega) Q2 g1 (fun x hx => et_u1 (g2 x hx)) (by omega) (fun j hj => by rw [pk_un (by omega)]; exact g4 j hj)
                      (et_PX_s (et_PX_m P' (fun x hx => hx) (fun x hx => et_u1 hx)) (fun _ => ⟨fun _ _ s' hl => ?_, fun z => absurd ⟨aa, eb'⟩ z⟩))
                    obtain rfl := et_inj hl.1 hc (hl.2.symm.trans q)
                    exact et_u1k
                  · refine xw_queue_o hc ic ?_
                    refine no (fun _ => ⟨fun _ _ s' hl => ?_, fun z => absurd ⟨aa, eb'⟩ z⟩)
                    obtain rfl := et_inj hl.1 hc (hl.2.symm.trans q)
                    exact ic
        · exact no (fun z => absurd ((et_mw2 h1 hp).mp z).2 w)
  exact ⟨49, key 48 0 49 m xs it tp rfl (by omega) Q (fun _ z => z) (fun _ z => z) (Nat.le_refl _) (fun _ _ => rfl) (fun x hx => absurd hx (Nat.not_lt_zero _))⟩
theorem xw_all {post : SX → Prop} {b : Nat} {i01 : Int32} (hT : et_Tree t par) (hA : et_Al t al) (hb : b < 48) (h0 : ∀ x, x < 48 → xs x = 0) (hi : ∀ x, x < 48 → it x = 0)
    (k : ∀ (tc' : Int32) (sr it' tp' : Nat → Int32), (∀ x, x < 48 → (¬ sr x = 0 ↔ et_FF t par al 2 (¬ i01 = 0) b x)) → post (zs, zn, tc', fc, t, par, nm, al, s, vb, rs, kd, xa, xn, st, sr, it', tp', fe)) : wpX_markAllBelow post (zs, zn, 0, fc, t, par, nm, al, s, vb, rs, kd, xa, xn, st, xs, it, tp, fe) (nI b) i01 := by
  have G0 : ∀ x, x < 48 → et_mw t par 2 b x → et_M (et_mw t par 2 b) (fun x c => et_mw t par 2 c x) (et_AA al (¬ i01 = 0)) (et_LL al) b x := fun x hx wx => et_M_b hx wx
  have Q0 : et_QX (et_mw t par 2 b) (fun x c => et_mw t par 2 c x) (et_AA al (¬ i01 = 0)) (et_LL al) b 0 xs it tp :=
    ⟨(et_cn_0 (fun x hx z => z (hi x hx))).symm, fun j hj => absurd hj (Nat.not_lt_zero _), fun c hc z => absurd (hi c hc) z, fun c hc z => absurd (hi c hc) z, fun x hx z => absurd (h0 x hx) z⟩
  obtain ⟨_, Q1⟩ := et_QX_q Q0 hb (hi b hb) G0
  have key : ∀ d i n m (xs' it' tp' : Nat → Int32), i + d = 48 → d < n → i ≤ m → et_QX (et_mw t par 2 b) (fun x c => et_mw t par 2 c x) (et_AA al (¬ i01 = 0)) (et_LL al) b m xs' it' tp' → ¬ it' b = 0 →
      (∀ j, j < i → ∀ p, p < 48 → tp' j = nI p → et_PX (fun x c => et_mw t par 2 c x) (et_AA al (¬ i01 = 0)) (et_LL al) b xs' it' p 48) → wX_markAllBelow_7 post (nI b) i01 n (nI i) zs zn (nI m) fc t par nm al s vb rs kd xa xn st xs' it' tp' fe := by
    intro d
    have fin : ∀ i m (xs' it' tp' : Nat → Int32), m ≤ i → et_QX (et_mw t par 2 b) (fun x c => et_mw t par 2 c x) (et_AA al (¬ i01 = 0)) (et_LL al) b m xs' it' tp' → ¬ it' b = 0 →
      (∀ j, j < i → ∀ p, p < 48 → tp' j = nI p → et_PX (fun x c => et_mw t par 2 c x) (et_AA al (¬ i01 = 0)) (et_LL al) b xs' it' p 48) → post (zs, zn, nI m, fc, t, par, nm, al, s, vb, rs, kd, xa, xn, st, xs', it', tp', fe) := by
      intro i m xs' it' tp' hm Q' ib P'
      refine k (nI m) xs' it' tp' ?_
      refine et_xF (fun x _ z => z) hb (fun e s' z => z.1) Q'.2.2.2.2 ib (fun p hp ip => ?_)
      obtain ⟨j, hj, ej⟩ := Q'.2.2.1 p hp ip
      exact P' j (by omega) p hp ej
    induction d with
    | zero =>
      intro i n m xs' it' tp' hi hn him Q' ib P'
      obtain ⟨n, rfl⟩ : ∃ m, n = m + 1 := ⟨n - 1, by omega⟩
      obtain rfl : i = 48 := by omega
      have m48 : m ≤ 48 := by rw [Q'.1]; exact et_cn_le _ _
      exact br_t et_le48 (fin 48 m xs' it' tp' m48 Q' ib P')
    | succ d ih =>
      intro i n m xs' it' tp' hi hn him Q' ib P'
      obtain ⟨n, rfl⟩ : ∃ m, n = m + 1 := ⟨n - 1, by omega⟩
      have h1 : i < 48 := by omega
      have m48 : m ≤ 48 := by rw [Q'.1]; exact et_cn_le _ _
      refine br_f (et_ge h1) (pk_le m i (fun z => fin i m xs' it' tp' z Q' ib P') (fun z => ⟨et_in h1, ?_⟩))
      obtain ⟨p, hp, ep, ip⟩ := Q'.2.1 i z
      rw [et_cl h1, ep]
      refine xw_sub hT hA hb hp ip Q' (fun m2 xs2 it2 tp2 Q2 g1 g2 g3 g4 P2 => ?_)
      simp only [forall_eq, nI_1, true_and, and_true, not_false_iff, not_true, true_implies, false_implies]
      refine ih (i + 1) n m2 xs2 it2 tp2 (by omega) (by omega) (by omega) Q2 (g2 b ib) (fun j hj p' hp' e' => ?_)
      rw [g4 j (by omega)] at e'
      by_cases q : j = i
      · subst q
        obtain rfl := et_inj hp hp' (ep.symm.trans e')
        exact P2
      · exact et_PX_m (P' j (by omega) p' hp' e') g1 g2
  unfold wpX_markAllBelow
  refine xw_queue_a (m := 0) hb (by omega) (hi b hb) ?_
  exact ⟨49, key 48 0 49 1 xs _ _ rfl (by omega) (by omega) Q1 et_u1k (fun j hj => absurd hj (Nat.not_lt_zero _))⟩
theorem xw_marks {post : SX → Prop} {b sc : Nat} {i01 : Int32} (hT : et_Tree t par) (hA : et_Al t al) (hb : b < 48) (tb : ¬ t b = 0) (hsc : sc < 3)
    (k : ∀ (tc' : Int32) (sr it' tp' : Nat → Int32), (∀ x, x < 48 → (¬ sr x = 0 ↔ et_FF t par al sc (¬ i01 = 0) b x)) → post (zs, zn, tc', fc, t, par, nm, al, s, vb, rs, kd, xa, xn, st, sr, it', tp', fe)) : wpX_markSearched post (zs, zn, tc, fc, t, par, nm, al, s, vb, rs, kd, xa, xn, st, xs, it, tp, fe) (nI b) (nI sc) i01 := by
  have key : ∀ d e n (xs' it' : Nat → Int32), e + d = 48 → d < n → (∀ x, x < e → xs' x = 0) → (∀ x, x < e → it' x = 0) → wX_markSearched_3 post (nI b) (nI sc) i01 zs zn tc fc n (nI e) t par nm al s vb rs kd xa xn st xs' it' tp fe := by
    intro d
    induction d with
    | zero =>
      intro e n xs' it' he hn hx hi
      obtain ⟨n, rfl⟩ : ∃ m, n = m + 1 := ⟨n - 1, by omega⟩
      obtain rfl : e = 48 := by omega
      refine br_t et_le48 ?_
      match sc, hsc with
      | 0, _ =>
        refine br_t rfl ?_
        simp only [et_cl hb, et_in hb, et_bo.1, true_and, forall_eq]
        refine k 0 (upd xs' b 1) it' tp (fun x hx' => ?_)
        rw [et_u1i, et_FF_0 hx' tb]
        exact ⟨fun z => z.elim id (fun y => absurd (hx x hx') y), Or.inl⟩
      | 1, _ =>
        refine br_f (by decide) (br_t rfl ?_)
        exact xw_munder hT hA hb tb hx (fun sr hsr => k 0 sr it' tp hsr)
      | 2, _ =>
        refine br_f (by decide) (br_f (by decide) ?_)
        exact xw_all hT hA hb hx hi (fun tc' sr it2 tp2 hsr => k tc' sr it2 tp2 hsr)
    | succ d ih =>
      intro e n xs' it' he hn hx hi
      obtain ⟨n, rfl⟩ : ∃ m, n = m + 1 := ⟨n - 1, by omega⟩
      have h1 : e < 48 := by omega
      simp only [wX_markSearched_3, et_cl h1, et_ge h1, et_in h1, et_bo.2, forall_eq, nI_1, true_and, and_true, not_false_iff, not_true, true_implies, false_implies]
      refine ih (e + 1) n (upd xs' e 0) (upd it' e 0) (by omega) (by omega) (fun x hx' => ?_) (fun x hx' => ?_)
      · by_cases q : x = e
        · subst q; exact pk_us
        · rw [pk_un q]; exact hx x (by omega)
      · by_cases q : x = e
        · subst q; exact pk_us
        · rw [pk_un q]; exact hi x (by omega)
  exact ⟨49, key 48 0 49 xs it rfl (by omega) (fun x hx => absurd hx (Nat.not_lt_zero _)) (fun x hx => absurd hx (Nat.not_lt_zero _))⟩
end
end
section
section
variable {F : Nat → Prop} {n g : Nat} {vb rs xa xn : Nat → Int32}
section
variable {zs tc fc : Int32} {t par nm al s kd st xs it tp fe : Nat → Int32} {ya yn : Nat → Int32}
theorem xw_collect {post : SX → Prop} (hn : n ≤ 12) (hT : et_Tree t par) (hg : g < 4) (hk : ∀ i, i < n → et_tk kd xa ya xn yn i) (hv : ∀ e, e < 48 → ¬ t e = 0 → ∀ a, a < 6 → et_V (vb (e * 6 + a))) (hf : et_fx (et_op kd) n 0)
    (hF : ∀ x, x < 48 → (¬ xs x = 0 ↔ F x)) (hFt : ∀ x, F x → ¬ t x = 0)
    (k : ∀ fe' : Nat → Int32, (∀ x, x < 48 → et_fi F (fun e st => et_run kd (et_pv par rs vb kd xa xn g e) n st 0) st x → fe' (et_cn (et_fi F (fun e st => et_run kd (et_pv par rs vb kd xa xn g e) n st 0) st) x) = nI x) →
      post (zs, nI n, tc, nI (et_cn (et_fi F (fun e st => et_run kd (et_pv par rs vb kd xa xn g e) n st 0) st) 48), t, par, nm, al, s, vb, rs, kd, xa, xn, et_col F (fun e st => et_run kd (et_pv par rs vb kd xa xn g e) n st 0) st 48, xs, it, tp, fe')) :
    wpX_collectFound post (zs, nI n, tc, 0, t, par, nm, al, s, vb, rs, kd, xa, xn, st, xs, it, tp, fe) (nI g) := by
  generalize hR : (fun e st => et_run kd (et_pv par rs vb kd xa xn g e) n st 0) = R at k
  have hR' : ∀ e st, et_run kd (et_pv par rs vb kd xa xn g e) n st 0 = R e st := fun e st => congrFun (congrFun hR e) st
  have key : ∀ d e m (fe' : Nat → Int32), e + d = 48 → d < m → (∀ x, x < e → et_fi F R st x → fe' (et_cn (et_fi F R st) x) = nI x) →
      wX_collectFound_2 post (nI g) m (nI e) zs (nI n) tc (nI (et_cn (et_fi F R st) e)) t par nm al s vb rs kd xa xn (et_col F R st e) xs it tp fe' := by
    intro d
    induction d with
    | zero =>
      intro e m fe' he hm hx
      obtain ⟨m, rfl⟩ : ∃ y, m = y + 1 := ⟨m - 1, by omega⟩
      obtain rfl : e = 48 := by omega
      exact br_t et_le48 (k fe' hx)
    | succ d ih =>
      intro e m fe' he hm hx
      obtain ⟨m, rfl⟩ : ∃ y, m = y + 1 := ⟨m - 1, by omega⟩
      have h1 : e < 48 := by omega
      have cb := et_cn_le (et_fi F R st) e
      have c48 : et_cn (et_fi F R st) e < 48 := by omega
      have ext : ∀ fe2 : Nat → Int32, (∀ x, x < e → et_fi F R st x → fe2 (et_cn (et_fi F R st) x) = nI x) → (et_fi F R st e → fe2 (et_cn (et_fi F R st) e) = nI e) → ∀ x, x < e + 1 → et_fi F R st x → fe2 (et_cn (et_fi F R st) x) = nI x := fun fe2 a b x hx fx => by
        by_cases q : x = e
        · subst q; exact b fx
        · exact a x (by omega) fx
      simp only [wX_collectFound_2, et_cl h1, et_ge h1, et_in h1, forall_eq, nI_1, true_and, and_true, not_false_iff, not_true, true_implies, false_implies]
      by_cases a : xs e = 0
      · have nF : ¬ F e := fun z => (hF e h1).mpr z a
        have nx := ih (e + 1) m fe' (by omega) (by omega) (ext fe' hx (fun z => absurd z.1 nF))
        rw [et_col_f nF] at nx
        simp only [et_cn] at nx
        rw [et_b_f (fun z => nF z.1)] at nx
        exact br_t a nx
      · have yF : F e := (hF e h1).mp a
        have te := hFt e yF
        refine br_f a (xw_truth (ya := ya) (yn := yn) (n := n) rfl hn hT h1 te hg hk (hv e h1 te) hf ?_)
        rw [hR']
        by_cases r : R e (et_col F R st e) 0 = 2
        · have fe1 : et_fi F R st e := ⟨yF, r⟩
          have nx := ih (e + 1) m (upd fe' (et_cn (et_fi F R st) e) (nI e)) (by omega) (by omega) (ext _ (fun x hx' fx => by
            have l := et_cn_st (P := et_fi F R st) hx' fx
            rw [pk_un (by omega)]
            exact hx x hx' fx) (fun _ => pk_us))
          rw [et_col_t yF] at nx
          simp only [et_cn] at nx
          rw [et_b_t fe1] at nx
          refine br_t r ?_
          simp only [et_cl c48, et_in c48, forall_eq, nI_1, true_and, and_true, not_false_iff, not_true, true_implies, false_implies]
          exact nx
        · have nx := ih (e + 1) m fe' (by omega) (by omega) (ext fe' hx (fun z => absurd z.2 r))
          rw [et_col_t yF] at nx
          simp only [et_cn] at nx
          rw [et_b_f (fun z => r z.2)] at nx
          exact br_f r nx
  exact ⟨49, key 48 0 49 fe rfl (by omega) (fun x hx => absurd hx (Nat.not_lt_zero _))⟩
end
section
variable {zs : Int32} {t par nm al s se ru kd ya yn st ys gn fa : Nat → Int32}
theorem yw_collect {post : Int32 → SY → Prop} (hn : n ≤ 12) (hT : et_Tree t par) (hRu : et_Ru t rs ru) (hg : g < 4) (hk : ∀ i, i < n → et_tk kd xa ya xn yn i) (hv : ∀ e, e < 48 → ¬ t e = 0 → ∀ a, a < 6 → se (e * 6 + a) = vb (e * 6 + a)) (hf : et_fx (et_op kd) n 0)
    (hF : ∀ x, x < 48 → ((¬ ys x = 0 ∧ gn x = 0) ↔ F x)) (hFt : ∀ x, F x → ¬ t x = 0)
    (k : ∀ fa' : Nat → Int32, (∀ x, x < 48 → (¬ fa' x = 0 ↔ et_fi F (fun e st => et_run kd (et_pv par rs vb kd xa xn g e) n st 0) st x)) →
      post (nI (et_cn (et_fi F (fun e st => et_run kd (et_pv par rs vb kd xa xn g e) n st 0) st) 48)) (nI n, zs, t, par, nm, al, s, se, ru, kd, ya, yn, et_col F (fun e st => et_run kd (et_pv par rs vb kd xa xn g e) n st 0) st 48, ys, gn, fa')) :
    ∃ m, wY_search_240 post (nI g) m 0 0 (nI n) zs t par nm al s se ru kd ya yn st ys gn fa := by
  generalize hR : (fun e st => et_run kd (et_pv par rs vb kd xa xn g e) n st 0) = R at k
  have hR' : ∀ e st, et_run kd (et_pv par rs vb kd xa xn g e) n st 0 = R e st := fun e st => congrFun (congrFun hR e) st
  have key : ∀ d e m (fa' : Nat → Int32), e + d = 48 → d < m → (∀ x, x < e → (¬ fa' x = 0 ↔ et_fi F R st x)) →
      wY_search_240 post (nI g) m (nI (et_cn (et_fi F R st) e)) (nI e) (nI n) zs t par nm al s se ru kd ya yn (et_col F R st e) ys gn fa' := by
    intro d
    induction d with
    | zero =>
      intro e m fa' he hm hx
      obtain ⟨m, rfl⟩ : ∃ y, m = y + 1 := ⟨m - 1, by omega⟩
      obtain rfl : e = 48 := by omega
      exact br_t et_le48 (k fa' hx)
    | succ d ih =>
      intro e m fa' he hm hx
      obtain ⟨m, rfl⟩ : ∃ y, m = y + 1 := ⟨m - 1, by omega⟩
      have h1 : e < 48 := by omega
      have no : ¬ et_fi F R st e → wY_search_240 post (nI g) m (nI (et_cn (et_fi F R st) e)) (nI (e + 1)) (nI n) zs t par nm al s se ru kd ya yn (et_col F R st (e + 1)) ys gn (upd fa' e 0) := fun z => by
        have nx := ih (e + 1) m (upd fa' e 0) (by omega) (by omega) (fun x hx' => by
          by_cases q : x = e
          · subst q; rw [pk_us]; exact ⟨fun y => absurd rfl y, fun y => absurd y z⟩
          · rw [pk_un q]; exact hx x (by omega))
        rw [show et_cn (et_fi F R st) (e + 1) = et_cn (et_fi F R st) e + et_b (et_fi F R st e) from rfl, et_b_f z] at nx
        exact nx
      have yes : et_fi F R st e → wY_search_240 post (nI g) m (nI (et_cn (et_fi F R st) e + 1)) (nI (e + 1)) (nI n) zs t par nm al s se ru kd ya yn (et_col F R st (e + 1)) ys gn (upd fa' e 1) := fun z => by
        have nx := ih (e + 1) m (upd fa' e 1) (by omega) (by omega) (fun x hx' => by
          by_cases q : x = e
          · subst q; exact ⟨fun _ => z, fun _ => et_u1k⟩
          · rw [pk_un q]; exact hx x (by omega))
        rw [show et_cn (et_fi F R st) (e + 1) = et_cn (et_fi F R st) e + et_b (et_fi F R st e) from rfl, et_b_t z] at nx
        exact nx
      have u0 : upd fa' e 0 e = 0 := pk_us
      simp only [wY_search_240, wY_search_288, wY_search_289, et_cl h1, et_ge h1, et_in h1, et_bo.1, et_bo.2, forall_eq, nI_1, true_and, and_true, not_false_iff, not_true, true_implies, false_implies]
      by_cases a : ys e = 0
      · have nF : ¬ F e := fun z => ((hF e h1).mpr z).1 a
        rw [et_col_f nF] at no
        exact br_t a (br_t u0 (no (fun z => nF z.1)))
      · refine br_f a ?_
        by_cases b : gn e = 0
        · have yF : F e := (hF e h1).mp ⟨a, b⟩
          have te := hFt e yF
          rw [et_col_t yF] at no yes
          refine br_t b (yw_pass (n := n) rfl hn hT hRu h1 te hg hk (hv e h1 te) hf (fun r => ?_) (fun r => ?_))
          · rw [hR'] at r ⊢
            exact br_f et_10 (br_f et_u1k (yes ⟨yF, r⟩))
          · rw [hR'] at r ⊢
            exact br_t rfl (br_t u0 (no (fun z => r z.2)))
        · have nF : ¬ F e := fun z => b ((hF e h1).mpr z).2
          rw [et_col_f nF] at no
          exact br_f b (br_t u0 (no (fun z => nF z.1)))
  exact ⟨49, key 48 0 49 fa rfl (by omega) (fun x hx => absurd hx (Nat.not_lt_zero _))⟩
end
end
end
section
theorem et_md : ∀ m, m < 4 → ((nI m &&& 1 = 0 ∧ ¬ nI m &&& 1 = 1) ∨ (¬ nI m &&& 1 = 0 ∧ nI m &&& 1 = 1)) ∧ ((nI m &&& 2 = 0 ∧ ¬ nI m &&& 2 = 2) ∨ (¬ nI m &&& 2 = 0 ∧ nI m &&& 2 = 2)) := by decide
theorem et_r2 {p : Int32} (h : ¬ et_rg 3 p) : p < 0 ∨ ¬ p ≤ 2 := by
  rcases pk_ix p (n := 3) (by omega) with h1 | h1 | ⟨j, h1, h2⟩
  · exact Or.inl h1
  · refine Or.inr (fun z => ?_)
    rw [et_le] at h1 z
    have e3 : (nI 3).toInt = 3 := by decide
    have e2 : (2 : Int32).toInt = 2 := by decide
    omega
  · exact (h ⟨j, h1, h2⟩).elim
theorem et_sc2 : ∀ sc, sc < 3 → ¬ nI sc < 0 ∧ nI sc ≤ 2 := by decide
theorem et_Fd_0 {fe fa : Nat → Int32} (h : ∀ x, x < 48 → fa x = 0) : et_Fd 0 fe fa := by
  refine ⟨?_, fun e he z => absurd (h e he) z⟩
  rw [et_cn_0 (fun x hx z => z (h x hx))]
  rfl
theorem et_Fd_c {P : Nat → Prop} {fe fa : Nat → Int32} (h1 : ∀ x, x < 48 → P x → fe (et_cn P x) = nI x) (h2 : ∀ x, x < 48 → (¬ fa x = 0 ↔ P x)) : et_Fd (nI (et_cn P 48)) fe fa := by
  refine ⟨congrArg nI (et_cn_congr (fun x hx => (h2 x hx).symm)), fun e he z => ?_⟩
  rw [et_cn_congr (P := fun e => ¬ fa e = 0) (Q := P) (fun x hx => h2 x (by omega))]
  exact h1 e he ((h2 e he).mp z)
section
variable {tc fc : Int32} {t par nm al s vb rs kd xa xn st xs it tp fe se ru ya yn ys gn fa : Nat → Int32} {sn n : Nat}
theorem et_I_fd (h : et_I t par al s vb se rs ru sn n kd xa ya xn yn fc fe fa) {fc' : Int32} {fe' fa' : Nat → Int32} (h' : et_Fd fc' fe' fa') : et_I t par al s vb se rs ru sn n kd xa ya xn yn fc' fe' fa' := by
  obtain ⟨g1, g2, g3, g4, g5, g6, g7, _⟩ := h
  exact ⟨g1, g2, g3, g4, g5, g6, g7, h'⟩
theorem xv_92 (h : et_I t par al s vb se rs ru sn n kd xa ya xn yn fc fe fa) {post : Int32 → SX → Prop} {b sc g : Nat} {i01 : Int32} {inn : Prop} (hi : (¬ i01 = 0) = inn) (hb : b < 48) (tb : ¬ t b = 0) (hsc : sc < 3) (hg : g < 4) (hf : et_fx (et_op kd) n 0)
    (K : ∀ (tc' : Int32) (xs' it' tp' fe' : Nat → Int32), (∀ x, x < 48 → et_fi (et_FF t par al sc inn b) (fun e st => et_run kd (et_pv par rs vb kd xa xn g e) n st 0) st x → fe' (et_cn (et_fi (et_FF t par al sc inn b) (fun e st => et_run kd (et_pv par rs vb kd xa xn g e) n st 0) st) x) = nI x) →
      post (nI (et_cn (et_fi (et_FF t par al sc inn b) (fun e st => et_run kd (et_pv par rs vb kd xa xn g e) n st 0) st) 48)) (nI sn, nI n, tc', nI (et_cn (et_fi (et_FF t par al sc inn b) (fun e st => et_run kd (et_pv par rs vb kd xa xn g e) n st 0) st) 48), t, par, nm, al, s, vb, rs, kd, xa, xn, et_col (et_FF t par al sc inn b) (fun e st => et_run kd (et_pv par rs vb kd xa xn g e) n st 0) st 48, xs', it', tp', fe')) :
    wX_search_92 post (nI g) i01 (nI sc) (nI b) (nI sn) (nI n) tc 0 t par nm al s vb rs kd xa xn st xs it tp fe := by
  subst hi
  unfold wX_search_92
  refine xw_marks h.1 h.2.1 hb tb hsc (fun tc' sr it' tp' hsr => ?_)
  refine xw_collect (ya := ya) (yn := yn) h.2.2.2.2.2.2.1.1 h.1 hg h.2.2.2.2.2.2.1.2 (fun e he te a ha => (h.2.2.2.1.2 e he te a ha).1) hf hsr (fun x hx => et_FF_t hx) (fun fe' hfe => ?_)
  exact K tc' sr it' tp' fe' hfe
theorem yv_98 (h : et_I t par al s vb se rs ru sn n kd xa ya xn yn fc fe fa) {post : Int32 → SY → Prop} {b sc m g : Nat} {inn : Prop} (hm : (inn = True ∧ nI m &&& 1 = 1) ∨ (inn = False ∧ ¬ nI m &&& 1 = 1)) (hb : b < 48) (tb : ¬ t b = 0) (hsc : sc < 3) (hg : g < 4) (hf : et_fx (et_op kd) n 0)
    {ys0 gn0 fa0 : Nat → Int32} (hy : ∀ x, x < 48 → ys0 x = 0) (hgn : ∀ x, x < 48 → gn0 x = 0)
    (K : ∀ (ys' gn' fa' : Nat → Int32), (∀ x, x < 48 → (¬ fa' x = 0 ↔ et_fi (et_FF t par al sc inn b) (fun e st => et_run kd (et_pv par rs vb kd xa xn g e) n st 0) st x)) →
      post (nI (et_cn (et_fi (et_FF t par al sc inn b) (fun e st => et_run kd (et_pv par rs vb kd xa xn g e) n st 0) st) 48)) (nI n, nI sn, t, par, nm, al, s, se, ru, kd, ya, yn, et_col (et_FF t par al sc inn b) (fun e st => et_run kd (et_pv par rs vb kd xa xn g e) n st 0) st 48, ys', gn', fa')) :
    wY_search_98 post (nI sc) (nI m) (nI g) (nI b) (nI n) (nI sn) t par nm al s se ru kd ya yn st ys0 gn0 fa0 := by
  have col : ∀ sr gn : Nat → Int32, et_J t par al sc inn b sr gn → et_Jc al inn b sr gn 48 → ∃ m, wY_search_240 post (nI g) m 0 0 (nI n) (nI sn) t par nm al s se ru kd ya yn st sr gn fa0 := fun sr gn J Jc =>
    yw_collect h.2.2.2.2.2.2.1.1 h.1 h.2.2.2.2.1 hg h.2.2.2.2.2.2.1.2 (fun e he te a ha => (h.2.2.2.1.2 e he te a ha).2) hf (et_J_f J Jc) (fun x hx => et_FF_t hx) (fun fa' hfa => K sr gn fa' hfa)
  refine br_t (nI_pos' (by omega)) (yw_mark h.1 hb hsc (fun sr hsr => ?_))
  have B : ∀ x, x < 48 → (¬ sr x = 0 ↔ et_mw t par sc b x) := fun x hx => (hsr x hx).trans ⟨fun z => z.elim (fun y => absurd (hy x hx) y) id, Or.inr⟩
  have J : et_J t par al sc inn b sr gn0 := ⟨fun x hx z => et_M_b hx ((B x hx).mp z), fun x hx z => (B x hx).mpr z, fun e he z => absurd (hgn e he) z, fun e he z => absurd (hgn e he) z⟩
  rcases hm with ⟨e1, e2⟩ | ⟨e1, e2⟩
  · subst e1
    exact br_t e2 ⟨50, (yw_loop h.1 h.2.1 hb hsc col 48 sr gn0 J).2 (by omega)⟩
  · refine br_f e2 ⟨1, br_t rfl (col sr gn0 J (fun e _ _ z => ?_))⟩
    rw [e1] at z
    exact z.1.elim
end
section
variable {zn zs : Int32} {t par nm al s se ru kd ya yn st ys gn fa : Nat → Int32}
theorem yw_sinit {post : Int32 → SY → Prop} {v1 v2 v3 v4 : Int32} (k : ∀ m (ys0 gn0 fa0 : Nat → Int32), (∀ x, x < 48 → ys0 x = 0) → (∀ x, x < 48 → gn0 x = 0) → (∀ x, x < 48 → fa0 x = 0) → wY_search_3 post v1 v2 v3 v4 zn zs (m + 1) (nI 48) t par nm al s se ru kd ya yn st ys0 gn0 fa0) : wpY_search post (zn, zs, t, par, nm, al, s, se, ru, kd, ya, yn, st, ys, gn, fa) v1 v2 v3 v4 := by
  have key : ∀ d e n (ys0 gn0 fa0 : Nat → Int32), e + d = 48 → d < n → (∀ x, x < e → ys0 x = 0) → (∀ x, x < e → gn0 x = 0) → (∀ x, x < e → fa0 x = 0) → wY_search_3 post v1 v2 v3 v4 zn zs n (nI e) t par nm al s se ru kd ya yn st ys0 gn0 fa0 := by
    intro d
    induction d with
    | zero =>
      intro e n ys0 gn0 fa0 he hn h1 h2 h3
      obtain ⟨n, rfl⟩ : ∃ m, n = m + 1 := ⟨n - 1, by omega⟩
      obtain rfl : e = 48 := by omega
      exact k n ys0 gn0 fa0 h1 h2 h3
    | succ d ih =>
      intro e n ys0 gn0 fa0 he hn h1 h2 h3
      obtain ⟨n, rfl⟩ : ∃ m, n = m + 1 := ⟨n - 1, by omega⟩
      have he48 : e < 48 := by omega
      have z : ∀ f : Nat → Int32, (∀ x, x < e → f x = 0) → ∀ x, x < e + 1 → upd f e 0 x = 0 := fun f hf x hx => by
        by_cases q : x = e
        · subst q; exact pk_us
        · rw [pk_un q]; exact hf x (by omega)
      refine br_f (et_ge he48) ?_
      simp only [et_cl he48, et_in he48, et_bo.2, forall_eq, nI_1, true_and, and_true, not_false_iff, not_true, true_implies, false_implies]
      exact ih (e + 1) n _ _ _ (by omega) (by omega) (z ys0 h1) (z gn0 h2) (z fa0 h3)
  exact ⟨49, key 48 0 49 ys gn fa rfl (by omega) (fun x hx => absurd hx (Nat.not_lt_zero _)) (fun x hx => absurd hx (Nat.not_lt_zero _)) (fun x hx => absurd hx (Nat.not_lt_zero _))⟩
end
section
variable {tc fc : Int32} {t par nm al s vb rs kd xa xn st xs it tp fe se ru ya yn ys gn fa : Nat → Int32} {sn n : Nat}
theorem ev_search (h : et_I t par al s vb se rs ru sn n kd xa ya xn yn fc fe fa) (k : Nat) (v1 v2 v3 v4 : Int32) : wpX_search (fun r u' => wpY_search (fun r' v' => r' = r ∧ i_Rel k u' v') (nI n, nI sn, t, par, nm, al, s, se, ru, kd, ya, yn, st, ys, gn, fa) v1 v2 v3 v4) (nI sn, nI n, tc, fc, t, par, nm, al, s, vb, rs, kd, xa, xn, st, xs, it, tp, fe) v1 v2 v3 v4 := by
  have hT := h.1
  have hA := h.2.1
  have hn12 := h.2.2.2.2.2.2.1.1
  have hkd : ∀ i, i < n → ∃ q, q < 7 ∧ kd i = nI q := fun i hi => by
    obtain ⟨q, hq, e, _⟩ := h.2.2.2.2.2.2.1.2 i hi
    exact ⟨q, hq, e⟩
  have F0 : ∀ ys0 gn0 fa0 : Nat → Int32, (∀ x, x < 48 → fa0 x = 0) → i_Rel k (nI sn, nI n, tc, 0, t, par, nm, al, s, vb, rs, kd, xa, xn, st, xs, it, tp, fe) (nI n, nI sn, t, par, nm, al, s, se, ru, kd, ya, yn, st, ys0, gn0, fa0) := fun ys0 gn0 fa0 z => et_mk (et_I_fd h (et_Fd_0 z))
  unfold wpX_search
  by_cases c1 : et_is t v1
  · obtain ⟨b0, hb0, rfl, tb0⟩ := c1
    refine xw_is_t hb0 tb0 (br_f et_10 ?_)
    by_cases c2 : et_rg 3 v2
    · obtain ⟨sc, hsc, rfl⟩ := c2
      obtain ⟨p1, p2⟩ := et_sc2 sc hsc
      refine br_f p1 (br_t p2 ?_)
      by_cases c3 : et_rg 4 v3
      · obtain ⟨m, hm, rfl⟩ := c3
        refine et_rg_t (n := 4) (by omega) hm ?_
        by_cases c4 : et_rg 4 v4
        · obtain ⟨g, hg, rfl⟩ := c4
          refine xw_gr_t hg (br_f et_10 (xw_filter rfl hn12 (fun hf => br_f et_10 ?_) (fun hf => br_t rfl ?_)))
          · obtain ⟨m1, m2⟩ := et_md m hm
            have fin : ∀ b, b < 48 → ¬ t b = 0 → (∀ post : Int32 → SY → Prop, ∀ ys0 gn0 fa0 : Nat → Int32, wY_search_98 post (nI sc) (nI m) (nI g) (nI b) (nI n) (nI sn) t par nm al s se ru kd ya yn st ys0 gn0 fa0 → ((nI m &&& 2 = 2 → wpY_leadsTo (fun r => wY_search_98 post (nI sc) (nI m) (nI g) r (nI n) (nI sn) t par nm al s se ru kd ya yn st ys0 gn0 fa0) (nI n, nI sn, t, par, nm, al, s, se, ru, kd, ya, yn, st, ys0, gn0, fa0) (nI b0)) ∧ (¬ nI m &&& 2 = 2 → wY_search_98 post (nI sc) (nI m) (nI g) (nI b0) (nI n) (nI sn) t par nm al s se ru kd ya yn st ys0 gn0 fa0))) →
                wX_search_66 (fun r u' => wpY_search (fun r' v' => r' = r ∧ i_Rel k u' v') (nI n, nI sn, t, par, nm, al, s, se, ru, kd, ya, yn, st, ys, gn, fa) (nI b0) (nI sc) (nI m) (nI g)) (nI sc) (nI m) (nI g) (nI b) (nI sn) (nI n) tc 0 t par nm al s vb rs kd xa xn st xs it tp fe := by
              intro b hb tb yl
              refine br_f (et_ne2 hb) ?_
              rcases m1 with ⟨z1, z2⟩ | ⟨z1, z2⟩
              · refine br_t z1 (xv_92 (inn := False) h (eq_false (fun z => z rfl)) hb tb hsc hg hf (fun tc' xs' it' tp' fe' hfe => ?_))
                refine yw_sinit (fun f ys0 gn0 fa0 w1 w2 w3 => br_t et_le48 (yw_is_t hb0 tb0 (br_f et_10 (yw_in_t (n := 3) (by omega) rfl hsc (br_f et_10 (yw_in_t (n := 4) (by omega) rfl hm (br_f et_10 (yw_in_t (n := 4) (by omega) rfl hg (br_f et_10 (yw_expr rfl hn12 hkd (fun _ => br_f et_10 ?_) (fun z => absurd hf z)))))))))))
                refine yl _ ys0 gn0 fa0 ?_
                refine yv_98 (inn := False) h (Or.inr ⟨rfl, z2⟩) hb tb hsc hg hf w1 w2 (fun ys' gn' fa' hfa => ⟨rfl, ?_⟩)
                exact et_mk (et_I_fd h (et_Fd_c hfe hfa))
              · refine br_f z1 (xv_92 (inn := True) h (eq_true et_10) hb tb hsc hg hf (fun tc' xs' it' tp' fe' hfe => ?_))
                refine yw_sinit (fun f ys0 gn0 fa0 w1 w2 w3 => br_t et_le48 (yw_is_t hb0 tb0 (br_f et_10 (yw_in_t (n := 3) (by omega) rfl hsc (br_f et_10 (yw_in_t (n := 4) (by omega) rfl hm (br_f et_10 (yw_in_t (n := 4) (by omega) rfl hg (br_f et_10 (yw_expr rfl hn12 hkd (fun _ => br_f et_10 ?_) (fun z => absurd hf z)))))))))))
                refine yl _ ys0 gn0 fa0 ?_
                refine yv_98 (inn := True) h (Or.inl ⟨rfl, z2⟩) hb tb hsc hg hf w1 w2 (fun ys' gn' fa' hfa => ⟨rfl, ?_⟩)
                exact et_mk (et_I_fd h (et_Fd_c hfe hfa))
            rcases m2 with ⟨z1, z2⟩ | ⟨z1, z2⟩
            · exact br_t z1 (fin b0 hb0 tb0 (fun post ys0 gn0 fa0 K => br_f z2 K))
            · refine br_f z1 (xw_leads hA hb0 tb0 ?_)
              rcases et_ld_c hA 48 (nI b0) (Or.inr ⟨b0, hb0, tb0, rfl⟩) with q | ⟨c, hc, jc, ac, q⟩
              · rw [q]
                refine br_t rfl ?_
                refine yw_sinit (fun f ys0 gn0 fa0 w1 w2 w3 => br_t et_le48 (yw_is_t hb0 tb0 (br_f et_10 (yw_in_t (n := 3) (by omega) rfl hsc (br_f et_10 (yw_in_t (n := 4) (by omega) rfl hm (br_f et_10 (yw_in_t (n := 4) (by omega) rfl hg (br_f et_10 (yw_expr rfl hn12 hkd (fun _ => br_f et_10 (br_t z2 (yw_leads hA hb0 tb0 ?_))) (fun z => absurd hf z)))))))))))
                rw [q]
                exact br_f (by decide) ⟨rfl, F0 ys0 gn0 fa0 w3⟩
              · rw [q]
                refine fin c hc jc (fun post ys0 gn0 fa0 K => br_t z2 (yw_leads hA hb0 tb0 ?_))
                rw [q]
                exact K
          · refine yw_sinit (fun f ys0 gn0 fa0 w1 w2 w3 => br_t et_le48 (yw_is_t hb0 tb0 (br_f et_10 (yw_in_t (n := 3) (by omega) rfl hsc (br_f et_10 (yw_in_t (n := 4) (by omega) rfl hm (br_f et_10 (yw_in_t (n := 4) (by omega) rfl hg (br_f et_10 (yw_expr rfl hn12 hkd (fun z => absurd z hf) (fun _ => br_t rfl ?_)))))))))))
            exact ⟨rfl, F0 ys0 gn0 fa0 w3⟩
        · refine xw_gr_f c4 (br_t rfl ?_)
          refine yw_sinit (fun f ys0 gn0 fa0 w1 w2 w3 => br_t et_le48 (yw_is_t hb0 tb0 (br_f et_10 (yw_in_t (n := 3) (by omega) rfl hsc (br_f et_10 (yw_in_t (n := 4) (by omega) rfl hm (br_f et_10 (yw_in_f (n := 4) (by omega) rfl c4 (br_t rfl ?_)))))))))
          exact ⟨rfl, F0 ys0 gn0 fa0 w3⟩
      · refine et_rg_f (n := 4) (by omega) c3 ?_
        refine yw_sinit (fun f ys0 gn0 fa0 w1 w2 w3 => br_t et_le48 (yw_is_t hb0 tb0 (br_f et_10 (yw_in_t (n := 3) (by omega) rfl hsc (br_f et_10 (yw_in_f (n := 4) (by omega) rfl c3 (br_t rfl ?_)))))))
        exact ⟨rfl, F0 ys0 gn0 fa0 w3⟩
    · have y2 : wpY_search (fun r' v' => r' = -1 ∧ i_Rel k (nI sn, nI n, tc, 0, t, par, nm, al, s, vb, rs, kd, xa, xn, st, xs, it, tp, fe) v') (nI n, nI sn, t, par, nm, al, s, se, ru, kd, ya, yn, st, ys, gn, fa) (nI b0) v2 v3 v4 := by
        refine yw_sinit (fun f ys0 gn0 fa0 w1 w2 w3 => br_t et_le48 (yw_is_t hb0 tb0 (br_f et_10 (yw_in_f (n := 3) (by omega) rfl c2 (br_t rfl ?_)))))
        exact ⟨rfl, F0 ys0 gn0 fa0 w3⟩
      rcases et_r2 c2 with z | z
      · exact br_t z y2
      · exact br_c (fun _ => y2) (fun _ => br_f z y2)
  · refine xw_is_f c1 (br_t rfl ?_)
    refine yw_sinit (fun f ys0 gn0 fa0 w1 w2 w3 => br_t et_le48 (yw_is_f c1 (br_t rfl ?_)))
    exact ⟨rfl, F0 ys0 gn0 fa0 w3⟩
end
end
section
theorem et_init : et_I (upd (fun _ => 0) 0 1) (upd (fun _ => 0) 0 (-1)) (upd (fun _ => 0) 0 (-1)) (fun _ => 0) (fun _ => 0) (et_fill (fun _ => 0) (0 * 6) 0 6) (fun _ => 0) (et_fill (fun _ => 0) (0 * 24) (-1) 24) 0 0 (fun _ => 0) (fun _ => 0) (fun _ => 0) (fun _ => 0) (fun _ => 0) 0 (fun _ => 0) (fun _ => 0) := by
  have th : ∀ e, ¬ upd (fun _ => (0 : Int32)) 0 1 e = 0 → e = 0 := fun e z => (et_u1i.mp z).elim id (fun y => absurd rfl y)
  refine ⟨⟨et_u1k, pk_us, fun _ => 0, fun e he te e0 => absurd (th e te) e0⟩, fun e he te => ?_, pk_us, ⟨fun e he te j hj => rfl, fun e he te j hj => ?_⟩, ⟨fun e he te j hj => rfl, fun e he te j hj => ?_⟩, ⟨by omega, fun a b ha hb ta tb _ => (th a ta).trans (th b tb).symm, fun e he te => ⟨0, by omega, rfl⟩⟩, ⟨by omega, fun i hi => absurd hi (Nat.not_lt_zero _)⟩, et_Fd_0 (fun _ _ => rfl)⟩
  · obtain rfl := th e te
    exact Or.inl pk_us
  · obtain rfl := th e te
    exact ⟨et_V0, et_fill_i 6 j hj⟩
  · obtain rfl := th e te
    exact ⟨0, by omega, rfl, by rw [et_fill_i 24 j hj]; decide⟩
theorem i_vc0 : wpX_init (fun u => wpY_init (fun v => i_Rel 0 u v)) := by
  simp only [wpX_init, et_bo.1, forall_eq]
  unfold wpY_init
  refine yw_make (e := 0) (by omega) ?_
  exact et_mk (sn := 0) (n := 0) et_init
theorem i_vc_add {k : Nat} {u : SX} {v : SY} (I : i_Rel k u v) (hk : k + 5 ≤ 2560) (v1 : Int32) (v2 : Int32) (v3 : Int32) : wpX_add (fun r u' => wpY_add (fun r' v' => r' = r ∧ i_Rel (k + 5) u' v') v v1 v2 v3) u v1 v2 v3 := by
  obtain ⟨sn, n, tc, fc, t, par, nm, al, s, vb, rs, kd, xa, xn, st, xs, it, tp, fe, se, ru, ya, yn, ys, gn, fa, rfl, rfl, h⟩ := I
  obtain ⟨r, u', v', hx, hy, R⟩ := ev_add (tc := tc) (nm := nm) (st := st) (xs := xs) (it := it) (tp := tp) (ys := ys) (gn := gn) h v1 v2 v3
  exact hx _ (hy _ ⟨rfl, R _⟩)
theorem i_vc_remove {k : Nat} {u : SX} {v : SY} (I : i_Rel k u v) (hk : k + 5 ≤ 2560) (v1 : Int32) : wpX_remove (fun r u' => wpY_remove (fun r' v' => r' = r ∧ i_Rel (k + 5) u' v') v v1) u v1 := by
  obtain ⟨sn, n, tc, fc, t, par, nm, al, s, vb, rs, kd, xa, xn, st, xs, it, tp, fe, se, ru, ya, yn, ys, gn, fa, rfl, rfl, h⟩ := I
  obtain ⟨r, u', v', hx, hy, R⟩ := ev_remove (tc := tc) (nm := nm) (st := st) (xs := xs) (it := it) (tp := tp) (ys := ys) (gn := gn) h v1
  exact hx _ (hy _ ⟨rfl, R _⟩)
theorem i_vc_move {k : Nat} {u : SX} {v : SY} (I : i_Rel k u v) (hk : k + 5 ≤ 2560) (v1 : Int32) (v2 : Int32) (v3 : Int32) : wpX_move (fun r u' => wpY_move (fun r' v' => r' = r ∧ i_Rel (k + 5) u' v') v v1 v2 v3) u v1 v2 v3 := by
  obtain ⟨sn, n, tc, fc, t, par, nm, al, s, vb, rs, kd, xa, xn, st, xs, it, tp, fe, se, ru, ya, yn, ys, gn, fa, rfl, rfl, h⟩ := I
  obtain ⟨r, u', v', hx, hy, R⟩ := ev_move (tc := tc) (nm := nm) (st := st) (xs := xs) (it := it) (tp := tp) (ys := ys) (gn := gn) h v1 v2 v3
  exact hx _ (hy _ ⟨rfl, R _⟩)
theorem i_vc_point {k : Nat} {u : SX} {v : SY} (I : i_Rel k u v) (hk : k + 5 ≤ 2560) (v1 : Int32) (v2 : Int32) : wpX_point (fun r u' => wpY_point (fun r' v' => r' = r ∧ i_Rel (k + 5) u' v') v v1 v2) u v1 v2 := by
  obtain ⟨sn, n, tc, fc, t, par, nm, al, s, vb, rs, kd, xa, xn, st, xs, it, tp, fe, se, ru, ya, yn, ys, gn, fa, rfl, rfl, h⟩ := I
  obtain ⟨r, u', v', hx, hy, R⟩ := ev_point (tc := tc) (nm := nm) (st := st) (xs := xs) (it := it) (tp := tp) (ys := ys) (gn := gn) h v1 v2
  exact hx _ (hy _ ⟨rfl, R _⟩)
theorem i_vc_put {k : Nat} {u : SX} {v : SY} (I : i_Rel k u v) (hk : k + 5 ≤ 2560) (v1 : Int32) (v2 : Int32) (v3 : Int32) (v4 : Int32) : wpX_put (fun r u' => wpY_put (fun r' v' => r' = r ∧ i_Rel (k + 5) u' v') v v1 v2 v3 (lw_bz v4)) u v1 v2 v3 (lw_bz v4) := by
  obtain ⟨sn, n, tc, fc, t, par, nm, al, s, vb, rs, kd, xa, xn, st, xs, it, tp, fe, se, ru, ya, yn, ys, gn, fa, rfl, rfl, h⟩ := I
  obtain ⟨r, u', v', hx, hy, R⟩ := ev_put (tc := tc) (nm := nm) (st := st) (xs := xs) (it := it) (tp := tp) (ys := ys) (gn := gn) h v1 v2 v3 (lw_bz v4) (lw_bz_01 v4)
  exact hx _ (hy _ ⟨rfl, R _⟩)
theorem i_vc_rule {k : Nat} {u : SX} {v : SY} (I : i_Rel k u v) (hk : k + 5 ≤ 2560) (v1 : Int32) (v2 : Int32) (v3 : Int32) (v4 : Int32) : wpX_rule (fun r u' => wpY_rule (fun r' v' => r' = r ∧ i_Rel (k + 5) u' v') v v1 v2 v3 v4) u v1 v2 v3 v4 := by
  obtain ⟨sn, n, tc, fc, t, par, nm, al, s, vb, rs, kd, xa, xn, st, xs, it, tp, fe, se, ru, ya, yn, ys, gn, fa, rfl, rfl, h⟩ := I
  obtain ⟨r, u', v', hx, hy, R⟩ := ev_rule (tc := tc) (nm := nm) (st := st) (xs := xs) (it := it) (tp := tp) (ys := ys) (gn := gn) h v1 v2 v3 v4
  exact hx _ (hy _ ⟨rfl, R _⟩)
theorem i_vc_token {k : Nat} {u : SX} {v : SY} (I : i_Rel k u v) (hk : k + 5 ≤ 2560) (v1 : Int32) (v2 : Int32) (v3 : Int32) : wpX_token (fun r u' => wpY_token (fun r' v' => r' = r ∧ i_Rel (k + 5) u' v') v v1 v2 v3) u v1 v2 v3 := by
  obtain ⟨sn, n, tc, fc, t, par, nm, al, s, vb, rs, kd, xa, xn, st, xs, it, tp, fe, se, ru, ya, yn, ys, gn, fa, rfl, rfl, h⟩ := I
  obtain ⟨r, u', v', hx, hy, R⟩ := ev_token (tc := tc) (nm := nm) (st := st) (xs := xs) (it := it) (tp := tp) (ys := ys) (gn := gn) h v1 v2 v3
  exact hx _ (hy _ ⟨rfl, R _⟩)
theorem i_vc_wipe {k : Nat} {u : SX} {v : SY} (I : i_Rel k u v) (hk : k + 5 ≤ 2560) : wpX_wipe (fun r u' => wpY_wipe (fun r' v' => r' = r ∧ i_Rel (k + 5) u' v') v) u := by
  obtain ⟨sn, n, tc, fc, t, par, nm, al, s, vb, rs, kd, xa, xn, st, xs, it, tp, fe, se, ru, ya, yn, ys, gn, fa, rfl, rfl, h⟩ := I
  obtain ⟨r, u', v', hx, hy, R⟩ := ev_wipe (tc := tc) (nm := nm) (st := st) (xs := xs) (it := it) (tp := tp) (ys := ys) (gn := gn) h
  exact hx _ (hy _ ⟨rfl, R _⟩)
theorem i_vc_search {k : Nat} {u : SX} {v : SY} (I : i_Rel k u v) (hk : k + 5 ≤ 2560) (v1 : Int32) (v2 : Int32) (v3 : Int32) (v4 : Int32) : wpX_search (fun r u' => wpY_search (fun r' v' => r' = r ∧ i_Rel (k + 5) u' v') v v1 v2 v3 v4) u v1 v2 v3 v4 := by
  obtain ⟨sn, n, tc, fc, t, par, nm, al, s, vb, rs, kd, xa, xn, st, xs, it, tp, fe, se, ru, ya, yn, ys, gn, fa, rfl, rfl, h⟩ := I
  exact ev_search h (k + 5) v1 v2 v3 v4
theorem i_vc_found {k : Nat} {u : SX} {v : SY} (I : i_Rel k u v) (hk : k + 5 ≤ 2560) (v1 : Int32) : wpX_found (fun r => wpY_found (fun r' => r' = r ∧ i_Rel (k + 5) u v) v v1) u v1 := by
  have J := I
  obtain ⟨sn, n, tc, fc, t, par, nm, al, s, vb, rs, kd, xa, xn, st, xs, it, tp, fe, se, ru, ya, yn, ys, gn, fa, rfl, rfl, h⟩ := I
  obtain ⟨r, hx, hy⟩ := ev_found (tc := tc) (nm := nm) (st := st) (xs := xs) (it := it) (tp := tp) (ys := ys) (gn := gn) h v1
  exact hx _ (hy _ ⟨rfl, J⟩)
theorem i_vc_child {k : Nat} {u : SX} {v : SY} (I : i_Rel k u v) (hk : k + 5 ≤ 2560) (v1 : Int32) (v2 : Int32) : wpX_child (fun r => wpY_child (fun r' => r' = r ∧ i_Rel (k + 5) u v) v v1 v2) u v1 v2 := by
  have J := I
  obtain ⟨sn, n, tc, fc, t, par, nm, al, s, vb, rs, kd, xa, xn, st, xs, it, tp, fe, se, ru, ya, yn, ys, gn, fa, rfl, rfl, h⟩ := I
  obtain ⟨r, hx, hy⟩ := ev_child (tc := tc) (nm := nm) (st := st) (xs := xs) (it := it) (tp := tp) (ys := ys) (gn := gn) h v1 v2
  exact hx _ (hy _ ⟨rfl, J⟩)
theorem i_vc_look {k : Nat} {u : SX} {v : SY} (I : i_Rel k u v) (hk : k + 5 ≤ 2560) (v1 : Int32) (v2 : Int32) : wpX_look (fun r => wpY_look (fun r' => r' = r ∧ i_Rel (k + 5) u v) v v1 v2) u v1 v2 := by
  have J := I
  obtain ⟨sn, n, tc, fc, t, par, nm, al, s, vb, rs, kd, xa, xn, st, xs, it, tp, fe, se, ru, ya, yn, ys, gn, fa, rfl, rfl, h⟩ := I
  obtain ⟨r, hx, hy⟩ := ev_look (tc := tc) (nm := nm) (st := st) (xs := xs) (it := it) (tp := tp) (ys := ys) (gn := gn) h v1 v2
  exact hx _ (hy _ ⟨rfl, J⟩)
theorem i_vc_values {k : Nat} {u : SX} {v : SY} (I : i_Rel k u v) (hk : k + 5 ≤ 2560) (v1 : Int32) (v2 : Int32) (v3 : Int32) : wpX_values (fun r => wpY_values (fun r' => r' = r ∧ i_Rel (k + 5) u v) v v1 v2 v3) u v1 v2 v3 := by
  have J := I
  obtain ⟨sn, n, tc, fc, t, par, nm, al, s, vb, rs, kd, xa, xn, st, xs, it, tp, fe, se, ru, ya, yn, ys, gn, fa, rfl, rfl, h⟩ := I
  obtain ⟨r, hx, hy⟩ := ev_values (tc := tc) (nm := nm) (st := st) (xs := xs) (it := it) (tp := tp) (ys := ys) (gn := gn) h v1 v2 v3
  exact hx _ (hy _ ⟨rfl, J⟩)
theorem i_vc_changed {k : Nat} {u : SX} {v : SY} (I : i_Rel k u v) (hk : k + 5 ≤ 2560) (v1 : Int32) (v2 : Int32) : wpX_changed (fun r => wpY_changed (fun r' => r' = r ∧ i_Rel (k + 5) u v) v v1 v2) u v1 v2 := by
  have J := I
  obtain ⟨sn, n, tc, fc, t, par, nm, al, s, vb, rs, kd, xa, xn, st, xs, it, tp, fe, se, ru, ya, yn, ys, gn, fa, rfl, rfl, h⟩ := I
  obtain ⟨P, hx, hy⟩ := ev_changed (tc := tc) (nm := nm) (st := st) (xs := xs) (it := it) (tp := tp) (ys := ys) (gn := gn) h v1 v2
  exact hx _ (fun r hr => hy r hr _ ⟨rfl, J⟩)
theorem i_vc_state {k : Nat} {u : SX} {v : SY} (I : i_Rel k u v) (hk : k + 5 ≤ 2560) (v1 : Int32) : wpX_state (fun r => wpY_state (fun r' => r' = r ∧ i_Rel (k + 5) u v) v v1) u v1 := by
  have J := I
  obtain ⟨sn, n, tc, fc, t, par, nm, al, s, vb, rs, kd, xa, xn, st, xs, it, tp, fe, se, ru, ya, yn, ys, gn, fa, rfl, rfl, h⟩ := I
  obtain ⟨r, hx, hy⟩ := ev_state (tc := tc) (nm := nm) (st := st) (xs := xs) (it := it) (tp := tp) (ys := ys) (gn := gn) h v1
  exact hx _ (hy _ ⟨rfl, J⟩)
end
