noncomputable def et_if (P : Prop) (a b : Int32) : Int32 := @ite Int32 P (Classical.propDecidable P) a b
theorem et_if_t {P : Prop} {a b : Int32} (h : P) : et_if P a b = a := by unfold et_if; rw [if_pos h]
theorem et_if_f {P : Prop} {a b : Int32} (h : ¬ P) : et_if P a b = b := by unfold et_if; rw [if_neg h]
/-! who may read -/
def et_mr (par rs : Nat → Int32) (o : Nat) : Nat → Int32 → Prop
  | 0, _ => True
  | f + 1, x => x < 0 ∨ (rs (x.toNatClampNeg * 24 + o) = 0 ∧ et_mr par rs o f (par x.toNatClampNeg)) ∨ rs (x.toNatClampNeg * 24 + o) = 2
theorem et_mr_n {par rs : Nat → Int32} {o : Nat} : ∀ f, et_mr par rs o f (-1)
  | 0 => trivial
  | _ + 1 => Or.inl et_m1.2.1
theorem et_mr_e {par rs : Nat → Int32} {o f e : Nat} (he : e < 48) : et_mr par rs o (f + 1) (nI e) ↔ (rs (e * 24 + o) = 0 ∧ et_mr par rs o f (par e)) ∨ rs (e * 24 + o) = 2 := by
  simp only [et_mr]
  rw [et_cl he]
  exact ⟨fun z => z.elim (fun q => absurd q (et_nn he)) id, Or.inr⟩
/-! how deep -/
def et_dp (par : Nat → Int32) : Nat → Int32 → Nat
  | 0, _ => 0
  | f + 1, x => if x < 0 then 0 else et_dp par f (par x.toNatClampNeg) + 1
theorem et_dp_n {par : Nat → Int32} : ∀ f, et_dp par f (-1) = 0
  | 0 => rfl
  | _ + 1 => if_pos et_m1.2.1
theorem et_dp_e {par : Nat → Int32} {f e : Nat} (he : e < 48) : et_dp par (f + 1) (nI e) = et_dp par f (par e) + 1 := by
  simp only [et_dp]
  rw [if_neg (et_nn he), et_cl he]
theorem et_dp_le {par : Nat → Int32} : ∀ f x, et_dp par f x ≤ f
  | 0, _ => Nat.le_refl _
  | f + 1, x => by
    simp only [et_dp]
    split
    · omega
    · have := et_dp_le (par := par) f (par x.toNatClampNeg)
      omega
/-! the stack of truths -/
def et_op (kd : Nat → Int32) (j : Nat) : Nat := if kd j = 4 ∨ kd j = 5 then 2 else if kd j = 6 then 1 else 0
def et_run (kd pv : Nat → Int32) : Nat → (Nat → Int32) → Nat → (Nat → Int32)
  | 0, st, _ => st
  | j + 1, st, h =>
    if kd j = 6 then et_run kd pv j (upd st (h - 1) (2 - st (h - 1))) h
    else if kd j = 4 then et_run kd pv j (upd st (h - 2) (if st (h - 1) < st (h - 2) then st (h - 1) else st (h - 2))) (h - 1)
    else if kd j = 5 then et_run kd pv j (upd st (h - 2) (if st (h - 2) < st (h - 1) then st (h - 1) else st (h - 2))) (h - 1)
    else et_run kd pv j (upd st h (pv j)) (h + 1)
theorem et_upd_same {st : Nat → Int32} {k : Nat} : upd st k (st k) = st := by
  funext j
  by_cases h : j = k
  · subst h; exact pk_us
  · exact pk_un h
noncomputable def et_pv (par rs vb kd xa xn : Nat → Int32) (g e i : Nat) : Int32 :=
  et_if (et_mr par rs (g * 6 + (xa i).toNatClampNeg) 48 (nI e)) (et_if (et_hit (vb (e * 6 + (xa i).toNatClampNeg)) (kd i) (xn i) 16) 2 0) 1
noncomputable def et_col (F : Nat → Prop) (rn : Nat → (Nat → Int32) → (Nat → Int32)) (st : Nat → Int32) : Nat → (Nat → Int32)
  | 0 => st
  | e + 1 => @ite (Nat → Int32) (F e) (Classical.propDecidable (F e)) (rn e (et_col F rn st e)) (et_col F rn st e)
theorem et_col_t {F : Nat → Prop} {rn : Nat → (Nat → Int32) → (Nat → Int32)} {st : Nat → Int32} {e : Nat} (h : F e) : et_col F rn st (e + 1) = rn e (et_col F rn st e) := by
  simp only [et_col]; rw [if_pos h]
theorem et_col_f {F : Nat → Prop} {rn : Nat → (Nat → Int32) → (Nat → Int32)} {st : Nat → Int32} {e : Nat} (h : ¬ F e) : et_col F rn st (e + 1) = et_col F rn st e := by
  simp only [et_col]; rw [if_neg h]
def et_fi (F : Nat → Prop) (rn : Nat → (Nat → Int32) → (Nat → Int32)) (st : Nat → Int32) (e : Nat) : Prop := F e ∧ rn e (et_col F rn st e) 0 = 2
/-! what both sides keep -/
def et_Tk (n : Nat) (kd xa ya xn yn : Nat → Int32) : Prop := n ≤ 12 ∧ ∀ i, i < n → ∃ q, q < 7 ∧ kd i = nI q ∧ (q < 4 → ∃ a, a < 6 ∧ xa i = nI a ∧ ya i = nI a) ∧ (1 ≤ q → q < 4 → ∃ w, w < 16 ∧ xn i = nI w ∧ yn i = nI w)
def et_Ru (t rs ru : Nat → Int32) : Prop := (∀ e, e < 48 → t e = 0 → ∀ j, j < 24 → rs (e * 24 + j) = 0) ∧ ∀ e, e < 48 → ¬ t e = 0 → ∀ j, j < 24 → ∃ w, w < 3 ∧ rs (e * 24 + j) = nI w ∧ ru (e * 24 + j) = nI w - 1
def et_Va (t vb se : Nat → Int32) : Prop := (∀ e, e < 48 → t e = 0 → ∀ j, j < 6 → vb (e * 6 + j) = 0) ∧ ∀ e, e < 48 → ¬ t e = 0 → ∀ j, j < 6 → et_V (vb (e * 6 + j)) ∧ se (e * 6 + j) = vb (e * 6 + j)
def et_Fd (fc : Int32) (fe fa : Nat → Int32) : Prop := fc = nI (et_cn (fun e => ¬ fa e = 0) 48) ∧ ∀ e, e < 48 → ¬ fa e = 0 → fe (et_cn (fun e => ¬ fa e = 0) e) = nI e
def et_Se (t s : Nat → Int32) (n : Nat) : Prop := n ≤ 1000000000 ∧ et_Dis t s ∧ ∀ e, e < 48 → ¬ t e = 0 → ∃ m, m ≤ n ∧ s e = nI m
