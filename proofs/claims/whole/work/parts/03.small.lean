/-! counts, mixes, the box's row: the small methods of both sides -/
theorem xl_bc_l {post : Int32 → Prop} (x : Int32) (h : post (nI (zs_sm (fun i => (bt x i).toNat) 24))) : ∀ d i, i + d = 24 → wX_bitCount_4 post x (d + 1) (nI (zs_sm (fun i => (bt x i).toNat) i)) (nI i) := by
  intro d
  induction d with
  | zero =>
    intro i hi
    obtain rfl : i = 24 := by omega
    exact br_t (nI_le (a := 24) (b := 24) (by omega) (by decide)) h
  | succ d ih =>
    intro i hi
    refine br_f (nI_ge (b := 24) (by omega) (by decide)) (nm_r ?_ (nm_r (nI_1 i) (ih (i + 1) (by omega))))
    rw [zb_bit x (by omega), zb_n, nI_add, zs_s]
theorem xl_bc {post : Int32 → Prop} (x : Int32) (h : post (nI (zs_sm (fun i => (bt x i).toNat) 24))) : wpX_bitCount post x := ⟨25, xl_bc_l x h 24 0 rfl⟩
def xc_cc (u : Nat → Int32) (r : Nat) : Nat := zs_sm (fun y => zs_sm (fun x => (bt (u (r * 24 + y)) x).toNat) 24) 24
theorem xl_cc_l {post : Int32 → Prop} (u : Nat → Int32) {r : Nat} (hr : r < 3) (h : post (nI (xc_cc u r))) : ∀ d i, i + d = 24 → wX_cellCount_4 post (nI r) u (d + 1) (nI (zs_sm (fun y => zs_sm (fun x => (bt (u (r * 24 + y)) x).toNat) 24) i)) (nI i) := by
  intro d
  induction d with
  | zero =>
    intro i hi
    obtain rfl : i = 24 := by omega
    exact br_t (nI_le (a := 24) (b := 24) (by omega) (by decide)) h
  | succ d ih =>
    intro i hi
    refine br_f (nI_ge (b := 24) (by omega) (by decide)) ?_
    rw [zn_24, zn_cl (by omega)]
    refine ⟨zn_in (by omega) (by decide), xl_bc _ (nm_r ?_ (nm_r (nI_1 i) (ih (i + 1) (by omega))))⟩
    rw [nI_add]
    exact congrArg nI (zs_s _ i).symm
theorem xl_cc {post : Int32 → Prop} (u : Nat → Int32) {r : Nat} (hr : r < 3) (h : post (nI (xc_cc u r))) : wpX_cellCount post u (nI r) := ⟨25, xl_cc_l u hr h 24 0 rfl⟩
def ya_ar (c : Nat → Int32) (r : Nat) : Nat := zs_sm (fun i => if c (r * 576 + i) = 0 then 0 else 1) 576
theorem yl_ar_l {post : Int32 → Prop} (c w : Nat → Int32) {r : Nat} (hr : r < 3) (h : post (nI (ya_ar c r))) : ∀ d i, i + d = 576 → wY_area_14 post (nI r) c w (d + 1) (nI (zs_sm (fun i => if c (r * 576 + i) = 0 then 0 else 1) i)) (nI i) := by
  intro d
  induction d with
  | zero =>
    intro i hi
    obtain rfl : i = 576 := by omega
    exact br_t (nI_le (a := 576) (b := 576) (by omega) (by decide)) h
  | succ d ih =>
    intro i hi
    have g := ih (i + 1) (by omega)
    rw [zs_s] at g
    refine br_f (nI_ge (b := 576) (by omega) (by decide)) ?_
    rw [zn_576, zn_cl (by omega)]
    refine ⟨zn_in (by omega) (by decide), br_c (fun z => nm_r (nI_1 i) ?_) (fun z => nm_r (nI_1 _) (nm_r (nI_1 i) ?_))⟩
    · rw [if_pos z] at g
      exact g
    · rw [if_neg z] at g
      exact g
theorem yl_ar {post : Int32 → Prop} (c w : Nat → Int32) {r : Nat} (hr : r < 3) (h : post (nI (ya_ar c r))) : wpY_area post (c, w) (nI r) := by
  unfold wpY_area
  dsimp only
  exact yl_bad hr (br_t rfl ⟨577, yl_ar_l c w hr h 576 0 rfl⟩)
theorem ya_xc {u c : Nat → Int32} {r : Nat} (hr : r < 3) (C : zz_C u c) : ya_ar c r = xc_cc u r := by
  unfold ya_ar xc_cc
  rw [← zs_grid _ 24]
  refine zs_ext 24 (fun y hy => zs_ext 24 (fun x hx => ?_))
  rw [zz_c C hr hy hx]
  cases bt (u (r * 24 + y)) x <;> rfl
/-! mixing -/
def xm_mix (k : Nat) (a b : Int32) : Int32 := match k with
  | 0 => a ||| b
  | 1 => a &&& b
  | 2 => a &&& (b ^^^ (-1))
  | _ => a ^^^ b
def ym_mix (k : Nat) (a b : Bool) : Bool := match k with
  | 0 => a || b
  | 1 => a && b
  | 2 => a && !b
  | _ => a ^^ b
theorem xm_bt (k : Nat) (a b : Int32) {i : Nat} (hi : i < 32) : bt (xm_mix k a b) i = ym_mix k (bt a i) (bt b i) := by
  match k with
  | 0 => exact b_or a b i
  | 1 => exact b_and a b i
  | 2 =>
    show bt (a &&& (b ^^^ (-1))) i = (bt a i && !bt b i)
    rw [b_and, b_xor, b_m1 i hi, Bool.xor_true]
  | _ + 3 => exact b_xor a b i
theorem xl_mix {post : Int32 → Prop} (a b : Int32) {k : Nat} (hk : k ≤ 3) (h : post (xm_mix k a b)) : wpX_mixRows post a b (nI k) := by
  have hk' : k = 0 ∨ k = 1 ∨ k = 2 ∨ k = 3 := by omega
  rcases hk' with rfl | rfl | rfl | rfl
  · exact br_f (by decide) (br_f (by decide) (br_t (by decide) h))
  · exact br_f (by decide) (br_f (by decide) (br_f (by decide) (br_t (by decide) h)))
  · exact br_f (by decide) (br_f (by decide) (br_f (by decide) (br_f (by decide) (br_t (by decide) h))))
  · exact br_f (by decide) (br_t (by decide) h)
theorem yl_mix {post : Int32 → Prop} {v : SY} (a b : Bool) {k : Nat} (hk : k ≤ 3) (h : post (zb_I (ym_mix k a b))) : wpY_mixed post v (zb_I a) (zb_I b) (nI k) := by
  obtain ⟨c, w⟩ := v
  have hk' : k = 0 ∨ k = 1 ∨ k = 2 ∨ k = 3 := by omega
  rcases hk' with rfl | rfl | rfl | rfl
  · refine br_t (by decide) (br_c (fun z => br_c (fun z2 => ?_) (fun z2 => ?_)) (fun z => ?_)) <;> revert z <;> cases a <;> intro z
    all_goals first | exact absurd z (by decide) | exact absurd rfl z | skip
    all_goals first | exact h | (revert z2; cases b <;> intro z2 <;> first | exact absurd z2 (by decide) | exact absurd rfl z2 | exact h)
  · refine br_f (by decide) (br_t (by decide) (br_c (fun z => ?_) (fun z => br_c (fun z2 => ?_) (fun z2 => ?_)))) <;> revert z <;> cases a <;> intro z
    all_goals first | exact absurd z (by decide) | exact absurd rfl z | skip
    all_goals first | exact h | (revert z2; cases b <;> intro z2 <;> first | exact absurd z2 (by decide) | exact absurd rfl z2 | exact h)
  · refine br_f (by decide) (br_f (by decide) (br_t (by decide) (br_c (fun z => ?_) (fun z => br_c (fun z2 => ?_) (fun z2 => ?_))))) <;> revert z <;> cases a <;> intro z
    all_goals first | exact absurd z (by decide) | exact absurd rfl z | skip
    all_goals first | exact h | (revert z2; cases b <;> intro z2 <;> first | exact absurd z2 (by decide) | exact absurd rfl z2 | exact h)
  · refine br_f (by decide) (br_f (by decide) (br_f (by decide) (br_c (fun z => ?_) (fun z => ?_)))) <;> revert z <;> cases a <;> cases b <;> intro z
    all_goals first | exact absurd z (by decide) | exact absurd rfl z | exact h
/-! the box -/
def xb_5 (x : Int32) : Nat := x.toBitVec.toNat % 32
def xb_t (x : Int32) : Nat := xb_5 (x >>> ((5 : Int32) &&& 31))
theorem xb_5e (x : Int32) : x &&& 31 = nI (xb_5 x) := pk_and x 5 (by decide)
theorem xb_te (x : Int32) : (x >>> ((5 : Int32) &&& 31)) &&& 31 = nI (xb_t x) := xb_5e _
theorem xb_5l (x : Int32) : xb_5 x < 32 := Nat.mod_lt _ (by decide)
theorem xb_tl (x : Int32) : xb_t x < 32 := xb_5l _
def xb_in (c s : Int32) (x y : Nat) : Bool := decide (xb_5 c ≤ x ∧ x < xb_5 c + xb_5 s ∧ xb_t c ≤ y ∧ y < xb_t c + xb_t s)
def xb_row (c s : Int32) (y : Nat) : Int32 := if xb_t c ≤ y ∧ y < xb_t c + xb_t s then (((((1 : Int32) <<< (nI (xb_5 s) &&& 31)) - 1) <<< (nI (xb_5 c) &&& 31)) &&& 16777215) else 0
theorem xb_msk : ∀ w, w < 32 → ∀ i, i < 32 → bt (((1 : Int32) <<< (nI w &&& 31)) - 1) i = decide (i < w) := by decide +kernel
theorem xb_bt (c s : Int32) {y x : Nat} (hx : x < 32) : bt (xb_row c s y) x = (xb_in c s x y && decide (x < 24)) := by
  unfold xb_row xb_in
  by_cases h : xb_t c ≤ y ∧ y < xb_t c + xb_t s
  · rw [if_pos h, b_and, b_shl _ (xb_5l c) _ hx, zb_ff x hx, xb_msk _ (xb_5l s) _ (by omega), ← Bool.decide_and]
    refine congrArg (fun b => b && decide (x < 24)) (decide_eq_decide.mpr ?_)
    omega
  · rw [if_neg h, b_0, decide_eq_false (by omega), Bool.false_and]
theorem xl_boxRow {post : Int32 → Prop} (c s : Int32) {y : Nat} (hy : y < 24) (h : post (xb_row c s y)) : wpX_boxRow post c s (nI y) := by
  have h1 := xb_tl c
  have h2 := xb_tl s
  unfold xb_row at h
  refine nm_r (xb_te c) (nm_r (xb_te s) (pk_lt y (xb_t c) (fun z => ?_) (fun z => pk_lt y (xb_t c + xb_t s) (fun z2 => nm_r (xb_5e c) (nm_r (xb_5e s) ?_)) (fun z2 => ?_) rfl (nI_add _ _) (by omega) (by omega)) rfl rfl (by omega) (by omega)))
  · rw [if_neg (by omega)] at h
    exact h
  · rw [if_pos (by omega)] at h
    exact h
  · rw [if_neg (by omega)] at h
    exact h
theorem yl_inBox {post : Int32 → Prop} {v : SY} (c s : Int32) {x y : Nat} (hx : x < 24) (hy : y < 24) (h : post (zb_I (xb_in c s x y))) : wpY_inBox post v (nI x) (nI y) c s := by
  obtain ⟨cc, w⟩ := v
  have h1 := xb_tl c
  have h2 := xb_tl s
  have h3 := xb_5l c
  have h4 := xb_5l s
  have f : ¬ (xb_5 c ≤ x ∧ x < xb_5 c + xb_5 s ∧ xb_t c ≤ y ∧ y < xb_t c + xb_t s) → post 0 := fun z => by
    unfold xb_in at h
    rw [decide_eq_false z] at h
    exact h
  have t : (xb_5 c ≤ x ∧ x < xb_5 c + xb_5 s ∧ xb_t c ≤ y ∧ y < xb_t c + xb_t s) → post 1 := fun z => by
    unfold xb_in at h
    rw [decide_eq_true z] at h
    exact h
  refine nm_r (xb_5e c) (nm_r (xb_te c) (nm_r (xb_5e s) (nm_r (xb_te s) ?_)))
  refine pk_lt x (xb_5 c) (fun z => f (by omega)) (fun z1 => ?_) rfl rfl (by omega) (by omega)
  refine pk_le (xb_5 c + xb_5 s) x (fun z => f (by omega)) (fun z2 => ?_) (nI_add _ _) rfl (by omega) (by omega)
  refine pk_lt y (xb_t c) (fun z => f (by omega)) (fun z3 => ?_) rfl rfl (by omega) (by omega)
  exact pk_le (xb_t c + xb_t s) y (fun z => f (by omega)) (fun z4 => t (by omega)) (nI_add _ _) rfl (by omega) (by omega)
