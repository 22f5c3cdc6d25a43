theorem et_init : et_I (upd (fun _ => 0) 0 1) (upd (fun _ => 0) 0 (-1)) (upd (fun _ => 0) 0 (-1)) (fun _ => 0) (fun _ => 0) (et_fill (fun _ => 0) (0 * 6) 0 6) (fun _ => 0) (et_fill (fun _ => 0) (0 * 24) (-1) 24) 0 0 (fun _ => 0) (fun _ => 0) (fun _ => 0) (fun _ => 0) (fun _ => 0) 0 (fun _ => 0) (fun _ => 0) := by
  have th : ∀ e, ¬ upd (fun _ => (0 : Int32)) 0 1 e = 0 → e = 0 := fun e z => (et_u1i.mp z).elim id (fun y => absurd rfl y)
  refine ⟨⟨et_u1k, pk_us, fun _ => 0, fun e he te e0 => absurd (th e te) e0⟩, fun e he te => ?_, pk_us, ⟨fun e he te j hj => rfl, fun e he te j hj => ?_⟩, ⟨fun e he te j hj => rfl, fun e he te j hj => ?_⟩, ⟨by omega, fun a b ha hb ta tb _ => (th a ta).trans (th b tb).symm, fun e he te => ⟨0, by omega, rfl⟩⟩, ⟨by omega, fun i hi => absurd hi (Nat.not_lt_zero _)⟩, et_Fd_0 (fun _ _ => rfl)⟩
  · obtain rfl := th e te
    exact Or.inl pk_us
  · obtain rfl := th e te
    exact ⟨et_V0, et_fill_i 6 j hj⟩
  · obtain rfl := th e te
    exact ⟨0, by omega, rfl, by rw [et_fill_i 24 j hj]; decide⟩
theorem i_vc0 : wpX_init (fun u => wpY_init (fun v => i_Rel 0 u v)) := by
  simp only [wpX_init, et_bo.1, forall_eq]
  unfold wpY_init
  refine yw_make (e := 0) (by omega) ?_
  exact et_mk (sn := 0) (n := 0) et_init
theorem i_vc_add {k : Nat} {u : SX} {v : SY} (I : i_Rel k u v) (hk : k + 5 ≤ 2560) (v1 : Int32) (v2 : Int32) (v3 : Int32) : wpX_add (fun r u' => wpY_add (fun r' v' => r' = r ∧ i_Rel (k + 5) u' v') v v1 v2 v3) u v1 v2 v3 := by
  obtain ⟨sn, n, tc, fc, t, par, nm, al, s, vb, rs, kd, xa, xn, st, xs, it, tp, fe, se, ru, ya, yn, ys, gn, fa, rfl, rfl, h⟩ := I
  obtain ⟨r, u', v', hx, hy, R⟩ := ev_add (tc := tc) (nm := nm) (st := st) (xs := xs) (it := it) (tp := tp) (ys := ys) (gn := gn) h v1 v2 v3
  exact hx _ (hy _ ⟨rfl, R _⟩)
theorem i_vc_remove {k : Nat} {u : SX} {v : SY} (I : i_Rel k u v) (hk : k + 5 ≤ 2560) (v1 : Int32) : wpX_remove (fun r u' => wpY_remove (fun r' v' => r' = r ∧ i_Rel (k + 5) u' v') v v1) u v1 := by
  obtain ⟨sn, n, tc, fc, t, par, nm, al, s, vb, rs, kd, xa, xn, st, xs, it, tp, fe, se, ru, ya, yn, ys, gn, fa, rfl, rfl, h⟩ := I
  obtain ⟨r, u', v', hx, hy, R⟩ := ev_remove (tc := tc) (nm := nm) (st := st) (xs := xs) (it := it) (tp := tp) (ys := ys) (gn := gn) h v1
  exact hx _ (hy _ ⟨rfl, R _⟩)
theorem i_vc_move {k : Nat} {u : SX} {v : SY} (I : i_Rel k u v) (hk : k + 5 ≤ 2560) (v1 : Int32) (v2 : Int32) (v3 : Int32) : wpX_move (fun r u' => wpY_move (fun r' v' => r' = r ∧ i_Rel (k + 5) u' v') v v1 v2 v3) u v1 v2 v3 := by
  obtain ⟨sn, n, tc, fc, t, par, nm, al, s, vb, rs, kd, xa, xn, st, xs, it, tp, fe, se, ru, ya, yn, ys, gn, fa, rfl, rfl, h⟩ := I
  obtain ⟨r, u', v', hx, hy, R⟩ := ev_move (tc := tc) (nm := nm) (st := st) (xs := xs) (it := it) (tp := tp) (ys := ys) (gn := gn) h v1 v2 v3
  exact hx _ (hy _ ⟨rfl, R _⟩)
theorem i_vc_point {k : Nat} {u : SX} {v : SY} (I : i_Rel k u v) (hk : k + 5 ≤ 2560) (v1 : Int32) (v2 : Int32) : wpX_point (fun r u' => wpY_point (fun r' v' => r' = r ∧ i_Rel (k + 5) u' v') v v1 v2) u v1 v2 := by
  obtain ⟨sn, n, tc, fc, t, par, nm, al, s, vb, rs, kd, xa, xn, st, xs, it, tp, fe, se, ru, ya, yn, ys, gn, fa, rfl, rfl, h⟩ := I
  obtain ⟨r, u', v', hx, hy, R⟩ := ev_point (tc := tc) (nm := nm) (st := st) (xs := xs) (it := it) (tp := tp) (ys := ys) (gn := gn) h v1 v2
  exact hx _ (hy _ ⟨rfl, R _⟩)
theorem i_vc_put {k : Nat} {u : SX} {v : SY} (I : i_Rel k u v) (hk : k + 5 ≤ 2560) (v1 : Int32) (v2 : Int32) (v3 : Int32) (v4 : Int32) : wpX_put (fun r u' => wpY_put (fun r' v' => r' = r ∧ i_Rel (k + 5) u' v') v v1 v2 v3 (lw_bz v4)) u v1 v2 v3 (lw_bz v4) := by
  obtain ⟨sn, n, tc, fc, t, par, nm, al, s, vb, rs, kd, xa, xn, st, xs, it, tp, fe, se, ru, ya, yn, ys, gn, fa, rfl, rfl, h⟩ := I
  obtain ⟨r, u', v', hx, hy, R⟩ := ev_put (tc := tc) (nm := nm) (st := st) (xs := xs) (it := it) (tp := tp) (ys := ys) (gn := gn) h v1 v2 v3 (lw_bz v4) (lw_bz_01 v4)
  exact hx _ (hy _ ⟨rfl, R _⟩)
theorem i_vc_rule {k : Nat} {u : SX} {v : SY} (I : i_Rel k u v) (hk : k + 5 ≤ 2560) (v1 : Int32) (v2 : Int32) (v3 : Int32) (v4 : Int32) : wpX_rule (fun r u' => wpY_rule (fun r' v' => r' = r ∧ i_Rel (k + 5) u' v') v v1 v2 v3 v4) u v1 v2 v3 v4 := by
  obtain ⟨sn, n, tc, fc, t, par, nm, al, s, vb, rs, kd, xa, xn, st, xs, it, tp, fe, se, ru, ya, yn, ys, gn, fa, rfl, rfl, h⟩ := I
  obtain ⟨r, u', v', hx, hy, R⟩ := ev_rule (tc := tc) (nm := nm) (st := st) (xs := xs) (it := it) (tp := tp) (ys := ys) (gn := gn) h v1 v2 v3 v4
  exact hx _ (hy _ ⟨rfl, R _⟩)
theorem i_vc_token {k : Nat} {u : SX} {v : SY} (I : i_Rel k u v) (hk : k + 5 ≤ 2560) (v1 : Int32) (v2 : Int32) (v3 : Int32) : wpX_token (fun r u' => wpY_token (fun r' v' => r' = r ∧ i_Rel (k + 5) u' v') v v1 v2 v3) u v1 v2 v3 := by
  obtain ⟨sn, n, tc, fc, t, par, nm, al, s, vb, rs, kd, xa, xn, st, xs, it, tp, fe, se, ru, ya, yn, ys, gn, fa, rfl, rfl, h⟩ := I
  obtain ⟨r, u', v', hx, hy, R⟩ := ev_token (tc := tc) (nm := nm) (st := st) (xs := xs) (it := it) (tp := tp) (ys := ys) (gn := gn) h v1 v2 v3
  exact hx _ (hy _ ⟨rfl, R _⟩)
theorem i_vc_wipe {k : Nat} {u : SX} {v : SY} (I : i_Rel k u v) (hk : k + 5 ≤ 2560) : wpX_wipe (fun r u' => wpY_wipe (fun r' v' => r' = r ∧ i_Rel (k + 5) u' v') v) u := by
  obtain ⟨sn, n, tc, fc, t, par, nm, al, s, vb, rs, kd, xa, xn, st, xs, it, tp, fe, se, ru, ya, yn, ys, gn, fa, rfl, rfl, h⟩ := I
  obtain ⟨r, u', v', hx, hy, R⟩ := ev_wipe (tc := tc) (nm := nm) (st := st) (xs := xs) (it := it) (tp := tp) (ys := ys) (gn := gn) h
  exact hx _ (hy _ ⟨rfl, R _⟩)
theorem i_vc_search {k : Nat} {u : SX} {v : SY} (I : i_Rel k u v) (hk : k + 5 ≤ 2560) (v1 : Int32) (v2 : Int32) (v3 : Int32) (v4 : Int32) : wpX_search (fun r u' => wpY_search (fun r' v' => r' = r ∧ i_Rel (k + 5) u' v') v v1 v2 v3 v4) u v1 v2 v3 v4 := by
  obtain ⟨sn, n, tc, fc, t, par, nm, al, s, vb, rs, kd, xa, xn, st, xs, it, tp, fe, se, ru, ya, yn, ys, gn, fa, rfl, rfl, h⟩ := I
  exact ev_search h (k + 5) v1 v2 v3 v4
theorem i_vc_found {k : Nat} {u : SX} {v : SY} (I : i_Rel k u v) (hk : k + 5 ≤ 2560) (v1 : Int32) : wpX_found (fun r => wpY_found (fun r' => r' = r ∧ i_Rel (k + 5) u v) v v1) u v1 := by
  have J := I
  obtain ⟨sn, n, tc, fc, t, par, nm, al, s, vb, rs, kd, xa, xn, st, xs, it, tp, fe, se, ru, ya, yn, ys, gn, fa, rfl, rfl, h⟩ := I
  obtain ⟨r, hx, hy⟩ := ev_found (tc := tc) (nm := nm) (st := st) (xs := xs) (it := it) (tp := tp) (ys := ys) (gn := gn) h v1
  exact hx _ (hy _ ⟨rfl, J⟩)
theorem i_vc_child {k : Nat} {u : SX} {v : SY} (I : i_Rel k u v) (hk : k + 5 ≤ 2560) (v1 : Int32) (v2 : Int32) : wpX_child (fun r => wpY_child (fun r' => r' = r ∧ i_Rel (k + 5) u v) v v1 v2) u v1 v2 := by
  have J := I
  obtain ⟨sn, n, tc, fc, t, par, nm, al, s, vb, rs, kd, xa, xn, st, xs, it, tp, fe, se, ru, ya, yn, ys, gn, fa, rfl, rfl, h⟩ := I
  obtain ⟨r, hx, hy⟩ := ev_child (tc := tc) (nm := nm) (st := st) (xs := xs) (it := it) (tp := tp) (ys := ys) (gn := gn) h v1 v2
  exact hx _ (hy _ ⟨rfl, J⟩)
theorem i_vc_look {k : Nat} {u : SX} {v : SY} (I : i_Rel k u v) (hk : k + 5 ≤ 2560) (v1 : Int32) (v2 : Int32) : wpX_look (fun r => wpY_look (fun r' => r' = r ∧ i_Rel (k + 5) u v) v v1 v2) u v1 v2 := by
  have J := I
  obtain ⟨sn, n, tc, fc, t, par, nm, al, s, vb, rs, kd, xa, xn, st, xs, it, tp, fe, se, ru, ya, yn, ys, gn, fa, rfl, rfl, h⟩ := I
  obtain ⟨r, hx, hy⟩ := ev_look (tc := tc) (nm := nm) (st := st) (xs := xs) (it := it) (tp := tp) (ys := ys) (gn := gn) h v1 v2
  exact hx _ (hy _ ⟨rfl, J⟩)
theorem i_vc_values {k : Nat} {u : SX} {v : SY} (I : i_Rel k u v) (hk : k + 5 ≤ 2560) (v1 : Int32) (v2 : Int32) (v3 : Int32) : wpX_values (fun r => wpY_values (fun r' => r' = r ∧ i_Rel (k + 5) u v) v v1 v2 v3) u v1 v2 v3 := by
  have J := I
  obtain ⟨sn, n, tc, fc, t, par, nm, al, s, vb, rs, kd, xa, xn, st, xs, it, tp, fe, se, ru, ya, yn, ys, gn, fa, rfl, rfl, h⟩ := I
  obtain ⟨r, hx, hy⟩ := ev_values (tc := tc) (nm := nm) (st := st) (xs := xs) (it := it) (tp := tp) (ys := ys) (gn := gn) h v1 v2 v3
  exact hx _ (hy _ ⟨rfl, J⟩)
theorem i_vc_changed {k : Nat} {u : SX} {v : SY} (I : i_Rel k u v) (hk : k + 5 ≤ 2560) (v1 : Int32) (v2 : Int32) : wpX_changed (fun r => wpY_changed (fun r' => r' = r ∧ i_Rel (k + 5) u v) v v1 v2) u v1 v2 := by
  have J := I
  obtain ⟨sn, n, tc, fc, t, par, nm, al, s, vb, rs, kd, xa, xn, st, xs, it, tp, fe, se, ru, ya, yn, ys, gn, fa, rfl, rfl, h⟩ := I
  obtain ⟨P, hx, hy⟩ := ev_changed (tc := tc) (nm := nm) (st := st) (xs := xs) (it := it) (tp := tp) (ys := ys) (gn := gn) h v1 v2
  exact hx _ (fun r hr => hy r hr _ ⟨rfl, J⟩)
theorem i_vc_state {k : Nat} {u : SX} {v : SY} (I : i_Rel k u v) (hk : k + 5 ≤ 2560) (v1 : Int32) : wpX_state (fun r => wpY_state (fun r' => r' = r ∧ i_Rel (k + 5) u v) v v1) u v1 := by
  have J := I
  obtain ⟨sn, n, tc, fc, t, par, nm, al, s, vb, rs, kd, xa, xn, st, xs, it, tp, fe, se, ru, ya, yn, ys, gn, fa, rfl, rfl, h⟩ := I
  obtain ⟨r, hx, hy⟩ := ev_state (tc := tc) (nm := nm) (st := st) (xs := xs) (it := it) (tp := tp) (ys := ys) (gn := gn) h v1
  exact hx _ (hy _ ⟨rfl, J⟩)
