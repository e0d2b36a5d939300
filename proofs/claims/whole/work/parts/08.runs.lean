/-! rectangles: where runs begin -/
def xr_st (row : Int32) : Int32 := row &&& ((row <<< ((1 : Int32) &&& 31)) ^^^ (-1))
def xr_en (row : Int32) : Int32 := row &&& ((row >>> ((1 : Int32) &&& 31)) ^^^ (-1))
def xr_rs (u : Nat → Int32) (r y : Nat) : Int32 := if 0 < y ∧ u (r * 24 + (y - 1)) = u (r * 24 + y) then 0 else xr_st (u (r * 24 + y))
def xr_n (u : Nat → Int32) (r y : Nat) : Nat := zs_sm (fun x => (bt (xr_rs u r y) x).toNat) 24
theorem xr_stb (row : Int32) {x : Nat} (hx : x < 32) : bt (xr_st row) x = (bt row x && !(decide (1 ≤ x) && bt row (x - 1))) := by
  unfold xr_st
  rw [b_and, b_xor, b_m1 x hx, Bool.xor_true, show (1 : Int32) = nI 1 from rfl, b_shl 1 (by omega) row hx]
theorem xr_enb (row : Int32) {x : Nat} (hx : x < 31) : bt (xr_en row) x = (bt row x && !bt row (x + 1)) := by
  unfold xr_en
  rw [b_and, b_xor, b_m1 x (by omega), Bool.xor_true, show (1 : Int32) = nI 1 from rfl, b_sshr 1 (by omega) row (by omega), if_pos (by omega), Nat.add_comm 1 x]
theorem xr_rsb (u : Nat → Int32) (r y : Nat) {x : Nat} (hx : x < 32) : bt (xr_rs u r y) x = ((bt (u (r * 24 + y)) x && !(decide (1 ≤ x) && bt (u (r * 24 + y)) (x - 1))) && !decide (0 < y ∧ u (r * 24 + (y - 1)) = u (r * 24 + y))) := by
  unfold xr_rs
  by_cases h : 0 < y ∧ u (r * 24 + (y - 1)) = u (r * 24 + y)
  · rw [if_pos h, decide_eq_true h, b_0, Bool.not_true, Bool.and_false]
  · rw [if_neg h, decide_eq_false h, xr_stb _ hx, Bool.not_false, Bool.and_true]
theorem xl_35 {post : Int32 → Prop} (row : Int32) (a : Nat → Int32) (h : post (nI (zs_sm (fun x => (bt (xr_st row) x).toNat) 24))) : wX_runsStartedAt_35 post row a := xl_bc (xr_st row) h
theorem xl_runs {post : Int32 → Prop} (u : Nat → Int32) {r y : Nat} (hr : r < 3) (hy : y < 24) (h : post (nI (xr_n u r y))) : wpX_runsStartedAt post u (nI r) (nI y) := by
  unfold wpX_runsStartedAt
  rw [zn_24, nI_add, nI_clamp (by omega)]
  refine ⟨vp_in_nI (by omega) (by decide), nm_e ?_⟩
  unfold xr_n xr_rs at h
  cases y with
  | zero =>
    rw [if_neg (by omega)] at h
    exact br_t (nI_le (a := 0) (b := 0) (by omega) (by decide)) (xl_35 _ _ h)
  | succ y =>
    rw [show r * 24 + (y + 1) = (r * 24 + y) + 1 from rfl, nI_pred, nI_clamp (by omega)]
    refine br_f (nI_ge (b := y + 1) (a := 0) (by omega) (by omega)) ⟨vp_in_nI (by omega) (by decide), br_c (fun z => ?_) (fun z => xl_35 _ _ ?_)⟩
    · rw [if_pos ⟨by omega, z⟩] at h
      have e : zs_sm (fun x => (bt 0 x).toNat) 24 = 0 := (zs_zero 24).mpr (fun x hx => by rw [b_0]; rfl)
      rw [e] at h
      exact h
    · rw [if_neg (fun q => z q.2)] at h
      exact h
theorem xl_rects_l {post : Int32 → Prop} (u : Nat → Int32) {r : Nat} (hr : r < 3) (h : post (nI (zs_sm (xr_n u r) 24))) : ∀ d y, y + d = 24 → wX_rectangles_13 post (nI r) u (d + 1) (nI (zs_sm (xr_n u r) y)) (nI y) := by
  intro d
  induction d with
  | zero =>
    intro y hy
    obtain rfl : y = 24 := by omega
    exact br_t (nI_le (a := 24) (b := 24) (by omega) (by decide)) h
  | succ d ih =>
    intro y hy
    exact br_f (nI_ge (b := 24) (by omega) (by decide)) (xl_runs u hr (by omega) (nm_r (nI_add _ _) (nm_r (nI_1 y) (ih (y + 1) (by omega)))))
/-! the reference's equal rows and beginnings -/
theorem yl_eq_l {post : Int32 → Prop} {u c w : Nat → Int32} (C : zz_C u c) {r y z : Nat} (hr : r < 3) (hy : y < 24) (hz : z < 24) : ∀ d i, i + d = 24 → ((∀ x, i ≤ x → x < 24 → bt (u (r * 24 + y)) x = bt (u (r * 24 + z)) x) → post 1) → ((¬ ∀ x, i ≤ x → x < 24 → bt (u (r * 24 + y)) x = bt (u (r * 24 + z)) x) → post 0) → wY_equalRows_25 post (nI r) (nI y) (nI z) c w (d + 1) (nI i) := by
  intro d
  induction d with
  | zero =>
    intro i hi h1 h0
    obtain rfl : i = 24 := by omega
    exact br_t (nI_le (a := 24) (b := 24) (by omega) (by decide)) (h1 fun y hy hy2 => by omega)
  | succ d ih =>
    intro i hi h1 h0
    refine br_f (nI_ge (b := 24) (by omega) (by decide)) ?_
    rw [zn_y r y i, zn_y r z i, nI_clamp (by omega), nI_clamp (by omega), zz_c C hr hy (by omega), zz_c C hr hz (by omega)]
    refine ⟨vp_in_nI (by omega) (by decide), vp_in_nI (by omega) (by decide), br_c (fun q => nm_r (nI_1 i) (ih (i + 1) (by omega) (fun g => h1 ?_) (fun g => h0 ?_))) (fun q => h0 ?_)⟩
    · intro x hx hx2
      by_cases e : x = i
      · rw [e]; exact zb_inj.mp q
      · exact g x (by omega) hx2
    · exact fun p => g fun x hx hx2 => p x (by omega) hx2
    · exact fun p => q (zb_inj.mpr (p i (Nat.le_refl i) (by omega)))
theorem yl_eq {post : Int32 → Prop} {u c w : Nat → Int32} (H : zz_H u) (C : zz_C u c) {r y z : Nat} (hr : r < 3) (hy : y < 24) (hz : z < 24) (h1 : u (r * 24 + y) = u (r * 24 + z) → post 1) (h0 : ¬ u (r * 24 + y) = u (r * 24 + z) → post 0) : wpY_equalRows post (c, w) (nI r) (nI y) (nI z) := by
  unfold wpY_equalRows
  dsimp only
  refine br_f (nI_pos (by omega)) (br_f (nI_pos (by omega)) (br_f (nI_nlt (a := 23) (b := y) (by omega) (by decide)) (br_t (nI_le (b := 23) (by omega) (by decide)) ⟨25, yl_eq_l C hr hy hz 24 0 rfl (fun g => h1 ?_) (fun g => h0 ?_)⟩)))
  · exact zz_row H (by omega) (by omega) (fun x hx => g x (Nat.zero_le x) hx)
  · exact fun e => g fun x _ _ => by rw [e]
theorem yl_eqN {post : Int32 → Prop} {c w : Nat → Int32} {r z : Nat} {y : Int32} (hz : z < 24) (hy : y < 0 ∨ nI 24 ≤ y) (h : post 0) : wpY_equalRows post (c, w) (nI r) y (nI z) := by
  unfold wpY_equalRows
  dsimp only
  exact br_c (fun _ => h) (fun n => br_f (nI_pos (by omega)) (br_t (zn_lt (n := 23) (by decide) (hy.resolve_left n)) h))
theorem yl_begins {post : Int32 → Prop} {u c w : Nat → Int32} (H : zz_H u) (C : zz_C u c) {r y x : Nat} (hr : r < 3) (hy : y < 24) (hx : x < 24) (h : post (zb_I (bt (xr_rs u r y) x))) : wpY_begins post (c, w) (nI r) (nI x) (nI y) := by
  rw [xr_rsb u r y (by omega)] at h
  have p0 : ((bt (u (r * 24 + y)) x && !(decide (1 ≤ x) && bt (u (r * 24 + y)) (x - 1))) && !decide (0 < y ∧ u (r * 24 + (y - 1)) = u (r * 24 + y))) = false → post 0 := fun e => by
    rw [e] at h
    exact h
  have p1 : ((bt (u (r * 24 + y)) x && !(decide (1 ≤ x) && bt (u (r * 24 + y)) (x - 1))) && !decide (0 < y ∧ u (r * 24 + (y - 1)) = u (r * 24 + y))) = true → post 1 := fun e => by
    rw [e] at h
    exact h
  unfold wpY_begins
  dsimp only
  refine yl_has C hr hx hy (br_c (fun z => p0 ?_) (fun z => ?_))
  · rw [zb_eq0.mp z, Bool.false_and, Bool.false_and]
  rw [zb_eq0, Bool.not_eq_false] at z
  have Q : (decide (1 ≤ x) && bt (u (r * 24 + y)) (x - 1)) = false → wpY_equalRows (fun r_9 => (((r_9 = 0 → (post 1)) ∧ (¬ r_9 = 0 → (post 0))))) (c, w) (nI r) (nI y - 1) (nI y) := fun e => by
    rw [z, e, Bool.not_false, Bool.true_and, Bool.true_and] at p0 p1
    cases y with
    | zero => exact yl_eqN hy (Or.inl (by decide)) (br_t rfl (p1 (by rw [decide_eq_false (fun k => absurd k.1 (Nat.lt_irrefl 0))]; rfl)))
    | succ y =>
      rw [nI_pred]
      refine yl_eq H C hr (by omega) hy (fun q => br_f (by decide) (p0 ?_)) (fun q => br_t rfl (p1 ?_))
      · rw [decide_eq_true ⟨by omega, q⟩]
        rfl
      · rw [decide_eq_false (fun k => q k.2)]
        rfl
  cases x with
  | zero => exact yl_hasX hr (Or.inl (by decide)) (br_t rfl (Q (by rw [decide_eq_false (by omega), Bool.false_and])))
  | succ x =>
    rw [nI_pred]
    refine yl_has C hr (by omega) hy (br_c (fun z2 => Q ?_) (fun z2 => p0 ?_))
    · rw [Nat.add_sub_cancel, zb_eq0.mp z2, Bool.and_false]
    · rw [zb_eq0, Bool.not_eq_false] at z2
      rw [Nat.add_sub_cancel, z2, decide_eq_true (by omega), Bool.true_and, Bool.not_true, Bool.and_false, Bool.false_and]
theorem yl_rects_i {post : Int32 → Prop} {J : Int32 → Int32 → Prop} {u c w : Nat → Int32} (H : zz_H u) (C : zz_C u c) {r y A : Nat} (hr : r < 3) (hy : y < 24) (h : J (nI (A + xr_n u r y)) (nI (y + 1))) : ∀ d x, x + d = 24 → wY_rectangles_23 post J (nI r) (nI y) c w (d + 1) (nI (A + zs_sm (fun x => (bt (xr_rs u r y) x).toNat) x)) (nI x) := by
  intro d
  induction d with
  | zero =>
    intro x hx
    obtain rfl : x = 24 := by omega
    exact br_t (nI_le (a := 24) (b := 24) (by omega) (by decide)) (nm_r (nI_1 y) h)
  | succ d ih =>
    intro x hx
    have g := ih (x + 1) (by omega)
    rw [zs_s] at g
    refine br_f (nI_ge (b := 24) (by omega) (by decide)) (yl_begins H C hr hy (by omega) (br_c (fun z => nm_r (nI_1 x) ?_) (fun z => nm_r (nI_1 _) (nm_r (nI_1 x) ?_))))
    · rw [zb_eq0.mp z] at g
      exact g
    · rw [zb_eq0, Bool.not_eq_false] at z
      rw [z] at g
      exact g
theorem yl_rects_l {post : Int32 → Prop} {u c w : Nat → Int32} (H : zz_H u) (C : zz_C u c) {r : Nat} (hr : r < 3) (h : post (nI (zs_sm (xr_n u r) 24))) : ∀ d y, y + d = 24 → wY_rectangles_14 post (nI r) c w (d + 1) (nI (zs_sm (xr_n u r) y)) (nI y) := by
  intro d
  induction d with
  | zero =>
    intro y hy
    obtain rfl : y = 24 := by omega
    exact br_t (nI_le (a := 24) (b := 24) (by omega) (by decide)) h
  | succ d ih =>
    intro y hy
    exact br_f (nI_ge (b := 24) (by omega) (by decide)) ⟨25, yl_rects_i H C hr (by omega) (ih (y + 1) (by omega)) 24 0 rfl⟩
theorem i_vc_rectangles {k : Nat} {u : SX} {v : SY} (I : i_Rel k u v) (hk : k + 5 ≤ 2560) (v1 : Int32) : wpX_rectangles (fun r => wpY_rectangles (fun r' => r' = r ∧ i_Rel (k + 5) u v) v v1) u v1 := by
  obtain ⟨c, w⟩ := v
  obtain ⟨H, C⟩ := I
  have C : zz_C u c := C
  unfold wpX_rectangles wpY_rectangles
  dsimp only
  rcases pk_ix v1 (n := 3) (by decide) with h | h | ⟨r, hr, rfl⟩
  · exact xl_regN (Or.inl h) (br_t rfl (yl_badN (Or.inl h) (br_f (by decide) ⟨rfl, H, C⟩)))
  · exact xl_regN (Or.inr h) (br_t rfl (yl_badN (Or.inr h) (br_f (by decide) ⟨rfl, H, C⟩)))
  refine xl_reg hr (br_f (by decide) ⟨25, xl_rects_l u hr ?_ 24 0 rfl⟩)
  refine yl_bad hr (br_t rfl ⟨25, yl_rects_l H C hr ?_ 24 0 rfl⟩)
  exact ⟨rfl, H, C⟩
