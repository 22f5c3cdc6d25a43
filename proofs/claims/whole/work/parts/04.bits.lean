theorem et_nz {x : Int32} : ¬ x = 0 ↔ ∃ i, i < 32 ∧ bt x i = true := by
  constructor
  · intro h
    apply Classical.byContradiction
    intro hn
    apply h
    apply b_ext
    intro i hi
    rw [b_0]
    cases hb : bt x i with
    | false => rfl
    | true => exact (hn ⟨i, hi, hb⟩).elim
  · rintro ⟨i, _, hb⟩ h
    rw [h, b_0] at hb
    exact absurd hb (by decide)
theorem et_b1 : ∀ i, i < 32 → bt 1 i = decide (i = 0) := by decide +kernel
theorem et_sh1 (x : Int32) {v : Nat} (hv : v < 32) : (x >>> (nI v &&& 31)) &&& 1 = if bt x v = true then 1 else 0 := by
  apply b_ext
  intro i hi
  rw [b_and, et_b1 i hi, b_sshr v hv x hi]
  by_cases h0 : i = 0
  · subst h0
    rw [if_pos (by omega)]
    cases hb : bt x v with
    | false => simp [hb, b_0]
    | true => simp [hb]; rfl
  · cases hb : bt x v with
    | false => simp [h0, b_0]
    | true => simp [h0, et_b1 i hi]
theorem et_1s {v i : Nat} (hv : v < 32) (hi : i < 32) : bt ((1 : Int32) <<< (nI v &&& 31)) i = decide (i = v) := by
  rw [b_shl v hv 1 hi, et_b1 _ (by omega)]
  rw [Bool.eq_iff_iff]
  simp only [Bool.and_eq_true, decide_eq_true_eq]
  omega
theorem et_bit {x : Int32} {v : Nat} (hv : v < 32) : x &&& ((1 : Int32) <<< (nI v &&& 31)) = 0 ↔ ¬ bt x v = true := by
  constructor
  · intro h hb
    have : bt (x &&& ((1 : Int32) <<< (nI v &&& 31))) v = true := by rw [b_and, et_1s hv hv, hb]; simp
    rw [h, b_0] at this
    exact absurd this (by decide)
  · intro hb
    apply Classical.byContradiction
    intro hn
    obtain ⟨i, hi, h⟩ := et_nz.mp hn
    rw [b_and, et_1s hv hi, Bool.and_eq_true, decide_eq_true_eq] at h
    exact hb (h.2 ▸ h.1)
def et_V (x : Int32) : Prop := ∀ i, 16 ≤ i → bt x i = false
theorem et_V0 : et_V 0 := fun i _ => b_0 i
theorem et_Vx {x : Int32} {v : Nat} (h : et_V x) (hv : v < 16) : et_V (x ^^^ ((1 : Int32) <<< (nI v &&& 31))) := by
  intro i hi
  by_cases h2 : i < 32
  · rw [b_xor, h i hi, et_1s (by omega) h2, decide_eq_false (by omega)]
    rfl
  · exact b_big (by omega)
def et_cond (kd nu : Int32) (v : Nat) : Prop := kd = 0 ∨ (kd = 1 ∧ nI v = nu) ∨ (kd = 2 ∧ nu ≤ nI v) ∨ (kd = 3 ∧ nI v ≤ nu)
def et_hit (x kd nu : Int32) (j : Nat) : Prop := ∃ v, v < j ∧ bt x v = true ∧ et_cond kd nu v
theorem et_hm {x m kd nu : Int32} (hx : et_V x) (hm : ∀ i, i < 16 → (bt m i = true ↔ et_cond kd nu i)) : ¬ x &&& m = 0 ↔ et_hit x kd nu 16 := by
  rw [et_nz]
  constructor
  · rintro ⟨i, hi, h⟩
    rw [b_and, Bool.and_eq_true] at h
    have h16 : i < 16 := by
      apply Classical.byContradiction
      intro hn
      rw [hx i (by omega)] at h
      exact absurd h.1 (by decide)
    exact ⟨i, h16, h.1, (hm i h16).mp h.2⟩
  · rintro ⟨i, hi, h1, h2⟩
    exact ⟨i, by omega, by rw [b_and, h1, (hm i hi).mpr h2]; rfl⟩
theorem et_ki : ¬ (0 : Int32) = 1 ∧ ¬ (0 : Int32) = 2 ∧ ¬ (0 : Int32) = 3 ∧ ¬ (1 : Int32) = 0 ∧ ¬ (1 : Int32) = 2 ∧ ¬ (1 : Int32) = 3 ∧ ¬ (2 : Int32) = 0 ∧ ¬ (2 : Int32) = 1 ∧ ¬ (2 : Int32) = 3 ∧ ¬ (3 : Int32) = 0 ∧ ¬ (3 : Int32) = 1 ∧ ¬ (3 : Int32) = 2 := by decide
theorem et_mk0 {nu : Int32} : ∀ i, i < 16 → (bt (-1) i = true ↔ et_cond 0 nu i) := fun i hi => ⟨fun _ => Or.inl rfl, fun _ => b_m1 i (by omega)⟩
theorem et_mk1 {w : Nat} (hw : w < 16) : ∀ i, i < 16 → (bt ((1 : Int32) <<< (nI w &&& 31)) i = true ↔ et_cond 1 (nI w) i) := by
  intro i hi
  rw [et_1s (by omega) (by omega), decide_eq_true_eq]
  constructor
  · intro h
    exact Or.inr (Or.inl ⟨rfl, by rw [h]⟩)
  · intro h
    rcases h with h | h | h | h
    · exact absurd h (by decide)
    · exact (nI_eq (by omega) (by omega)).mp h.2
    · exact absurd h.1 (by decide)
    · exact absurd h.1 (by decide)
theorem et_mk2 {w : Nat} (hw : w < 16) : ∀ i, i < 16 → (bt ((-1 : Int32) <<< (nI w &&& 31)) i = true ↔ et_cond 2 (nI w) i) := by
  intro i hi
  rw [b_shl w (by omega) _ (by omega), b_m1 _ (by omega), Bool.and_true, decide_eq_true_eq]
  constructor
  · intro h
    exact Or.inr (Or.inr (Or.inl ⟨rfl, (nI_leI (by omega) (by omega)).mpr h⟩))
  · intro h
    rcases h with h | h | h | h
    · exact absurd h (by decide)
    · exact absurd h.1 (by decide)
    · exact (nI_leI (by omega) (by omega)).mp h.2
    · exact absurd h.1 (by decide)
theorem et_m3 : ∀ w, w < 16 → ∀ i, i < 16 → bt (((2 : Int32) <<< (nI w &&& 31)) - 1) i = decide (i ≤ w) := by decide +kernel
theorem et_mk3 {w : Nat} (hw : w < 16) : ∀ i, i < 16 → (bt (((2 : Int32) <<< (nI w &&& 31)) - 1) i = true ↔ et_cond 3 (nI w) i) := by
  intro i hi
  rw [et_m3 w hw i hi, decide_eq_true_eq]
  constructor
  · intro h
    exact Or.inr (Or.inr (Or.inr ⟨rfl, (nI_leI (by omega) (by omega)).mpr h⟩))
  · intro h
    rcases h with h | h | h | h
    · exact absurd h (by decide)
    · exact absurd h.1 (by decide)
    · exact absurd h.1 (by decide)
    · exact (nI_leI (by omega) (by omega)).mp h.2
