/-! move, both sides -/
theorem zv_in {y x : Nat} (g : Nat → Bool) (dx dy : Int) (hx : x < 24) : ym_S g dx dy 576 (y * 24 + x) = (decide (0 ≤ (x : Int) - dx ∧ (x : Int) - dx < 24 ∧ 0 ≤ (y : Int) - dy ∧ (y : Int) - dy < 24) && g (((y : Int) - dy).toNat * 24 + ((x : Int) - dx).toNat)) := by
  unfold ym_S
  rw [show (y * 24 + x) % 24 = x by omega, show (y * 24 + x) / 24 = y by omega]
  by_cases h : 0 ≤ (x : Int) - dx ∧ (x : Int) - dx < 24 ∧ 0 ≤ (y : Int) - dy ∧ (y : Int) - dy < 24
  · rw [decide_eq_true h, decide_eq_true (by omega), Bool.true_and, Bool.true_and]
    exact congrArg g (by omega)
  · rw [decide_eq_false h, decide_eq_false (by omega), Bool.false_and, Bool.false_and]
theorem zv_far {u c w : Nat → Int32} {r k : Nat} (hr : r < 3) (H : zz_H u) (C : zz_C u c) (dx dy : Int32) (h : ∀ y x : Nat, y < 24 → x < 24 → ¬ (0 ≤ (x : Int) - dx.toInt ∧ (x : Int) - dx.toInt < 24 ∧ 0 ≤ (y : Int) - dy.toInt ∧ (y : Int) - dy.toInt < 24)) : wX_move_23 (fun r' u' => wpY_move (fun r'' v' => r'' = r' ∧ i_Rel (k + 5) u' v') (c, w) (nI r) dx dy) (nI r) u := by
  have R := zz_upd hr H C (fun _ => 0) (fun q => zb_I (ym_S (zz_g u r) dx.toInt dy.toInt 576 q)) (fun y hy i hi h32 => b_0 i) (by
    intro y x hy hx
    rw [zv_in _ _ _ hx, decide_eq_false (h y x hy hx), Bool.false_and, b_0])
  refine xl_clear hr (yl_mv hr dx dy (zz_gc C hr) rfl (fun w' => ⟨?_, R⟩))
  rw [ya_xc hr R.2]
  have e : xc_cc (zr_u u (r * 24) (fun _ => 0) 24) r = 0 := by
    unfold xc_cc
    refine (zs_zero 24).mpr (fun y hy => (zs_zero 24).mpr (fun x hx => ?_))
    rw [zr_in hy, b_0]
    rfl
  rw [e]
  exact nI_0
theorem zv_near {u c w : Nat → Int32} {r k : Nat} (hr : r < 3) (H : zz_H u) (C : zz_C u c) (dx dy : Int32) (hx : (∃ d, d < 24 ∧ dx = nI d ∧ dx.toInt = (d : Int)) ∨ (∃ d, 0 < d ∧ d < 24 ∧ dx = -nI d ∧ dx.toInt = -(d : Int))) (hy : (∃ d, d < 24 ∧ dy = nI d ∧ dy.toInt = (d : Int)) ∨ (∃ d, 0 < d ∧ d < 24 ∧ dy = -nI d ∧ dy.toInt = -(d : Int))) : wpX_shiftAcross (fun a_rows_10 => (wpX_shiftDown (fun a_rows_12 => (wpX_cellCount (fun r_13 => ((fun r' u' => wpY_move (fun r'' v' => r'' = r' ∧ i_Rel (k + 5) u' v') (c, w) (nI r) dx dy) r_13 a_rows_12)) a_rows_12 (nI r))) a_rows_10 (nI r) dy)) u (nI r) dx := by
  have e : ∀ y, xs_d (zr_u u (r * 24) (fun y => xs_a dx (u (r * 24 + y))) 24) (r * 24) dy.toInt y = if 0 ≤ (y : Int) - dy.toInt ∧ (y : Int) - dy.toInt < 24 then xs_a dx (u (r * 24 + ((y : Int) - dy.toInt).toNat)) else 0 := by
    intro y
    unfold xs_d
    by_cases h : 0 ≤ (y : Int) - dy.toInt ∧ (y : Int) - dy.toInt < 24
    · rw [if_pos h, if_pos h, zr_in (by omega)]
    · rw [if_neg h, if_neg h]
  have R := zz_upd hr H C (xs_d (zr_u u (r * 24) (fun y => xs_a dx (u (r * 24 + y))) 24) (r * 24) dy.toInt) (fun q => zb_I (ym_S (zz_g u r) dx.toInt dy.toInt 576 q)) (by
    intro y hy1 i hi h32
    rw [e y]
    by_cases h : 0 ≤ (y : Int) - dy.toInt ∧ (y : Int) - dy.toInt < 24
    · rw [if_pos h, xs_abt hx (H _ (by omega)) h32, decide_eq_false (by omega), Bool.false_and]
    · rw [if_neg h, b_0]) (by
    intro y x hy1 hx1
    rw [zv_in _ _ _ hx1, e y]
    by_cases h : 0 ≤ (y : Int) - dy.toInt ∧ (y : Int) - dy.toInt < 24
    · rw [if_pos h, xs_abt hx (H _ (by omega)) (by omega)]
      by_cases h2 : 0 ≤ (x : Int) - dx.toInt ∧ (x : Int) - dx.toInt < 24
      · rw [decide_eq_true (by omega), decide_eq_true (by omega), zz_ga u r (by omega)]
      · rw [decide_eq_false (by omega), decide_eq_false (by omega), Bool.false_and, Bool.false_and]
    · rw [if_neg h, b_0, decide_eq_false (by omega), Bool.false_and])
  refine xl_sa hr dx rfl (xl_sd hr hy ?_)
  rw [zr_zr]
  refine xl_cc _ hr (yl_mv hr dx dy (zz_gc C hr) rfl (fun w' => ⟨?_, R⟩))
  rw [ya_xc hr R.2]
theorem i_vc_move {k : Nat} {u : SX} {v : SY} (I : i_Rel k u v) (hk : k + 5 ≤ 2560) (v1 : Int32) (v2 : Int32) (v3 : Int32) : wpX_move (fun r u' => wpY_move (fun r' v' => r' = r ∧ i_Rel (k + 5) u' v') v v1 v2 v3) u v1 v2 v3 := by
  obtain ⟨c, w⟩ := v
  obtain ⟨H, C⟩ := I
  have C : zz_C u c := C
  have bad1 : (v1 < 0 ∨ nI 3 ≤ v1) → wpX_move (fun r u' => wpY_move (fun r' v' => r' = r ∧ i_Rel (k + 5) u' v') (c, w) v1 v2 v3) u v1 v2 v3 := fun h => by
    unfold wpX_move wpY_move
    dsimp only
    exact xl_regN h (br_t rfl (yl_badN h (br_f (by decide) ⟨rfl, H, C⟩)))
  rcases pk_ix v1 (n := 3) (by decide) with h | h | ⟨r, hr, rfl⟩
  · exact bad1 (Or.inl h)
  · exact bad1 (Or.inr h)
  have far2 : (24 : Int32) ≤ v2 ∨ ¬ (-24 : Int32) < v2 → v2.toInt ≤ -24 ∨ 24 ≤ v2.toInt := fun h => by
    rw [Int32.le_iff_toInt_le, Int32.lt_iff_toInt_lt, show (24 : Int32).toInt = 24 from by decide, show (-24 : Int32).toInt = -24 from by decide] at h
    omega
  have far3 : (24 : Int32) ≤ v3 ∨ ¬ (-24 : Int32) < v3 → v3.toInt ≤ -24 ∨ 24 ≤ v3.toInt := fun h => by
    rw [Int32.le_iff_toInt_le, Int32.lt_iff_toInt_lt, show (24 : Int32).toInt = 24 from by decide, show (-24 : Int32).toInt = -24 from by decide] at h
    omega
  unfold wpX_move
  refine xl_reg hr (br_f (by decide) ?_)
  have F2 : ((24 : Int32) ≤ v2 ∨ ¬ (-24 : Int32) < v2) → wX_move_23 (fun r' u' => wpY_move (fun r'' v' => r'' = r' ∧ i_Rel (k + 5) u' v') (c, w) (nI r) v2 v3) (nI r) u := fun h => zv_far hr H C v2 v3 (fun y x hy hx => by
    have := far2 h
    omega)
  have F3 : ((24 : Int32) ≤ v3 ∨ ¬ (-24 : Int32) < v3) → wX_move_23 (fun r' u' => wpY_move (fun r'' v' => r'' = r' ∧ i_Rel (k + 5) u' v') (c, w) (nI r) v2 v3) (nI r) u := fun h => zv_far hr H C v2 v3 (fun y x hy hx => by
    have := far3 h
    omega)
  rcases zn_near v2 with h | h | ⟨n1, n2, hx⟩
  · exact xl_far (Or.inl h) (br_f (by decide) (F2 (Or.inl h)))
  · exact xl_far (Or.inr h) (br_f (by decide) (F2 (Or.inr h)))
  refine xl_nfar n1 n2 (br_t rfl ?_)
  rcases zn_near v3 with h | h | ⟨m1, m2, hy⟩
  · exact xl_far (Or.inl h) (br_f (by decide) (F3 (Or.inl h)))
  · exact xl_far (Or.inr h) (br_f (by decide) (F3 (Or.inr h)))
  exact xl_nfar m1 m2 (br_t rfl (zv_near hr H C v2 v3 hx hy))
