/-! covers -/
def zo_any (f : Nat → Bool) : Nat → Bool
  | 0 => false
  | n + 1 => zo_any f n || f n
theorem zo_s (f : Nat → Bool) (n : Nat) : zo_any f (n + 1) = (zo_any f n || f n) := rfl
theorem zo_no {f : Nat → Bool} : ∀ n, zo_any f n = false ↔ ∀ i, i < n → f i = false := by
  intro n
  induction n with
  | zero => exact ⟨fun _ i h => absurd h (Nat.not_lt_zero i), fun _ => rfl⟩
  | succ n ih =>
    rw [zo_s, Bool.or_eq_false_iff, ih]
    constructor
    · intro ⟨a, b⟩ i hi
      by_cases q : i = n
      · rw [q]; exact b
      · exact a i (by omega)
    · intro h
      exact ⟨fun i hi => h i (by omega), h n (by omega)⟩
theorem zb_or (a b : Bool) : zb_I a ||| zb_I b = zb_I (a || b) := by cases a <;> cases b <;> decide
def xv_i (u : Nat → Int32) (r : Nat) (c s : Int32) (y : Nat) : Bool := !decide (xb_row c s y &&& u (r * 24 + y) = 0)
def xv_o (u : Nat → Int32) (r : Nat) (c s : Int32) (y : Nat) : Bool := !decide (xb_row c s y &&& (u (r * 24 + y) ^^^ (-1)) = 0)
theorem xl_63 {post : Int32 → Prop} {J : Int32 → Int32 → Int32 → Prop} {X1 X2 X3 : Int32} {a : Nat → Int32} {y : Nat} (row bx : Int32) (p q z : Bool) (h : J (zb_I (p || z)) (zb_I (q || !decide (bx &&& (row ^^^ (-1)) = 0))) (nI (y + 1))) : wX_covers_63 post J X1 X2 X3 (zb_I q) (nI y) row bx (zb_I z) (zb_I p) a := by
  refine nm_r (zb_or p z) (br_c (fun k => ?_) (fun k => ?_))
  · rw [decide_eq_true k] at h
    exact nm_r (zb_or q false) (nm_r (nI_1 y) h)
  · rw [decide_eq_false k] at h
    exact nm_r (zb_or q true) (nm_r (nI_1 y) h)
theorem xl_cov_l {post : Int32 → Prop} (u : Nat → Int32) {r : Nat} (hr : r < 3) (c s : Int32) (h : (((zb_I (zo_any (xv_i u r c s) 24) = 0 → (post 0)) ∧ (¬ zb_I (zo_any (xv_i u r c s) 24) = 0 → (((zb_I (zo_any (xv_o u r c s) 24) = 0 → (post 2)) ∧ (¬ zb_I (zo_any (xv_o u r c s) 24) = 0 → (post 1)))))))) : ∀ d y, y + d = 24 → wX_covers_18 post (nI r) c s u (d + 1) (zb_I (zo_any (xv_i u r c s) y)) (zb_I (zo_any (xv_o u r c s) y)) (nI y) := by
  intro d
  induction d with
  | zero =>
    intro y hy
    obtain rfl : y = 24 := by omega
    exact br_t (nI_le (a := 24) (b := 24) (by omega) (by decide)) h
  | succ d ih =>
    intro y hy
    have g := ih (y + 1) (by omega)
    rw [zo_s, zo_s] at g
    refine br_f (nI_ge (b := 24) (by omega) (by decide)) ?_
    rw [zn_24, zn_cl (by omega)]
    refine ⟨zn_in (by omega) (by decide), nm_e (xl_boxRow c s (by omega) (br_c (fun z => ?_) (fun z => ?_)))⟩
    · refine xl_63 (z := false) _ _ _ _ ?_
      unfold xv_i at g
      rw [decide_eq_true z] at g
      exact g
    · refine xl_63 (z := true) _ _ _ _ ?_
      unfold xv_i at g
      rw [decide_eq_false z] at g
      exact g
def yv_i (u : Nat → Int32) (r : Nat) (c s : Int32) (y x : Nat) : Bool := xb_in c s x y && bt (u (r * 24 + y)) x
def yv_o (u : Nat → Int32) (r : Nat) (c s : Int32) (y x : Nat) : Bool := xb_in c s x y && !bt (u (r * 24 + y)) x
theorem yl_cov_i {post : Int32 → Prop} {J : Int32 → Int32 → Int32 → Prop} {u cs w : Nat → Int32} (C : zz_C u cs) {r y A B : Nat} (hr : r < 3) (hy : y < 24) (c s : Int32) (h : J (nI (A + zs_sm (fun x => (yv_i u r c s y x).toNat) 24)) (nI (B + zs_sm (fun x => (yv_o u r c s y x).toNat) 24)) (nI (y + 1))) : ∀ d x, x + d = 24 → wY_covers_29 post J (nI r) c s (nI y) cs w (d + 1) (nI (A + zs_sm (fun x => (yv_i u r c s y x).toNat) x)) (nI (B + zs_sm (fun x => (yv_o u r c s y x).toNat) x)) (nI x) := by
  intro d
  induction d with
  | zero =>
    intro x hx
    obtain rfl : x = 24 := by omega
    exact br_t (nI_le (a := 24) (b := 24) (by omega) (by decide)) (nm_r (nI_1 y) h)
  | succ d ih =>
    intro x hx
    have g := ih (x + 1) (by omega)
    rw [zs_s, zs_s] at g
    unfold yv_i yv_o at g
    refine br_f (nI_ge (b := 24) (by omega) (by decide)) (yl_inBox c s (by omega) hy ?_)
    cases eb : xb_in c s x y with
    | false =>
      rw [eb] at g
      exact br_t rfl (br_t rfl (nm_r (nI_1 x) g))
    | true =>
      rw [eb] at g
      refine br_f (by decide) (yl_has C hr (by omega) hy ?_)
      cases eh : bt (u (r * 24 + y)) x with
      | false =>
        rw [eh] at g
        refine br_t rfl (br_f (by decide) (yl_has C hr (by omega) hy ?_))
        rw [eh]
        exact br_t rfl (nm_r (nI_1 _) (nm_r (nI_1 x) g))
      | true =>
        rw [eh] at g
        refine br_f (by decide) (nm_r (nI_1 _) (br_f (by decide) (yl_has C hr (by omega) hy ?_)))
        rw [eh]
        exact br_f (by decide) (nm_r (nI_1 x) g)
def yv_I (u : Nat → Int32) (r : Nat) (c s : Int32) (y : Nat) : Nat := zs_sm (fun y => zs_sm (fun x => (yv_i u r c s y x).toNat) 24) y
def yv_O (u : Nat → Int32) (r : Nat) (c s : Int32) (y : Nat) : Nat := zs_sm (fun y => zs_sm (fun x => (yv_o u r c s y x).toNat) 24) y
theorem yl_cov_l {post : Int32 → Prop} {u cs w : Nat → Int32} (C : zz_C u cs) {r : Nat} (hr : r < 3) (c s : Int32) (h : (((nI (yv_I u r c s 24) = 0 → (post 0)) ∧ (¬ nI (yv_I u r c s 24) = 0 → (((nI (yv_O u r c s 24) = 0 → (post 2)) ∧ (¬ nI (yv_O u r c s 24) = 0 → (post 1)))))))) : ∀ d y, y + d = 24 → wY_covers_19 post (nI r) c s cs w (d + 1) (nI (yv_I u r c s y)) (nI (yv_O u r c s y)) (nI y) := by
  intro d
  induction d with
  | zero =>
    intro y hy
    obtain rfl : y = 24 := by omega
    exact br_t (nI_le (a := 24) (b := 24) (by omega) (by decide)) h
  | succ d ih =>
    intro y hy
    exact br_f (nI_ge (b := 24) (by omega) (by decide)) ⟨25, yl_cov_i C hr (by omega) c s (ih (y + 1) (by omega)) 24 0 rfl⟩
theorem zs_le24 {f : Nat → Nat} (h : ∀ i, f i ≤ 24) : ∀ n, zs_sm f n ≤ n * 24 := by
  intro n
  induction n with
  | zero => exact Nat.le_refl 0
  | succ n ih =>
    rw [zs_s]
    have := h n
    omega
theorem zv_z {F : Nat → Bool} {g : Nat → Nat → Bool} (h : ∀ y, y < 24 → (F y = false ↔ ∀ x, x < 24 → g y x = false)) : nI (zs_sm (fun y => zs_sm (fun x => (g y x).toNat) 24) 24) = 0 ↔ zo_any F 24 = false := by
  have l : zs_sm (fun y => zs_sm (fun x => (g y x).toNat) 24) 24 ≤ 24 * 24 := zs_le24 (fun i => zs_le (fun j => by cases g i j <;> decide) 24) 24
  rw [← nI_0, nI_eq (by omega) (by omega), zs_zero, zo_no]
  constructor
  · intro q y hy
    refine (h y hy).mpr (fun x hx => ?_)
    have := (zs_zero 24).mp (q y hy) x hx
    cases e : g y x with
    | false => rfl
    | true => rw [e] at this; exact absurd this (by decide)
  · intro q y hy
    refine (zs_zero 24).mpr (fun x hx => ?_)
    rw [(h y hy).mp (q y hy) x hx]
    rfl
theorem xv_ib {u : Nat → Int32} {r : Nat} (c s : Int32) : ∀ y, y < 24 → (xv_i u r c s y = false ↔ ∀ x, x < 24 → yv_i u r c s y x = false) := by
  intro y hy
  unfold xv_i yv_i
  rw [Bool.not_eq_false', decide_eq_true_eq, zb_0]
  constructor
  · intro h x hx
    have q := h x (by omega)
    rw [b_and, xb_bt c s (by omega), decide_eq_true hx, Bool.and_true] at q
    exact q
  · intro h i hi
    rw [b_and, xb_bt c s hi]
    by_cases z : i < 24
    · rw [decide_eq_true z, Bool.and_true]
      exact h i z
    · rw [decide_eq_false z, Bool.and_false, Bool.false_and]
theorem xv_ob {u : Nat → Int32} {r : Nat} (c s : Int32) : ∀ y, y < 24 → (xv_o u r c s y = false ↔ ∀ x, x < 24 → yv_o u r c s y x = false) := by
  intro y hy
  unfold xv_o yv_o
  rw [Bool.not_eq_false', decide_eq_true_eq, zb_0]
  constructor
  · intro h x hx
    have q := h x (by omega)
    rw [b_and, b_xor, b_m1 x (by omega), Bool.xor_true, xb_bt c s (by omega), decide_eq_true hx, Bool.and_true] at q
    exact q
  · intro h i hi
    rw [b_and, b_xor, b_m1 i hi, Bool.xor_true, xb_bt c s hi]
    by_cases z : i < 24
    · rw [decide_eq_true z, Bool.and_true]
      exact h i z
    · rw [decide_eq_false z, Bool.and_false, Bool.false_and]
theorem i_vc_covers {k : Nat} {u : SX} {v : SY} (I : i_Rel k u v) (hk : k + 5 ≤ 2560) (v1 : Int32) (v2 : Int32) (v3 : Int32) : wpX_covers (fun r => wpY_covers (fun r' => r' = r ∧ i_Rel (k + 5) u v) v v1 v2 v3) u v1 v2 v3 := by
  obtain ⟨c, w⟩ := v
  obtain ⟨H, C⟩ := I
  have C : zz_C u c := C
  unfold wpX_covers wpY_covers
  dsimp only
  rcases pk_ix v1 (n := 3) (by decide) with h | h | ⟨r, hr, rfl⟩
  · exact xl_regN (Or.inl h) (br_t rfl (yl_badN (Or.inl h) (br_f (by decide) ⟨rfl, H, C⟩)))
  · exact xl_regN (Or.inr h) (br_t rfl (yl_badN (Or.inr h) (br_f (by decide) ⟨rfl, H, C⟩)))
  have EI : nI (yv_I u r v2 v3 24) = 0 ↔ zo_any (xv_i u r v2 v3) 24 = false := zv_z (xv_ib v2 v3)
  have EO : nI (yv_O u r v2 v3 24) = 0 ↔ zo_any (xv_o u r v2 v3) 24 = false := zv_z (xv_ob v2 v3)
  refine xl_reg hr (br_f (by decide) ⟨25, xl_cov_l u hr v2 v3 ?_ 24 0 rfl⟩)
  refine br_c (fun z => ?_) (fun z => br_c (fun z2 => ?_) (fun z2 => ?_))
  · rw [zb_eq0] at z
    refine yl_bad hr (br_t rfl ⟨25, yl_cov_l C hr v2 v3 ?_ 24 0 rfl⟩)
    exact br_t (EI.mpr z) ⟨rfl, H, C⟩
  · rw [zb_eq0] at z z2
    refine yl_bad hr (br_t rfl ⟨25, yl_cov_l C hr v2 v3 ?_ 24 0 rfl⟩)
    exact br_f (fun q => z (EI.mp q)) (br_t (EO.mpr z2) ⟨rfl, H, C⟩)
  · rw [zb_eq0] at z z2
    refine yl_bad hr (br_t rfl ⟨25, yl_cov_l C hr v2 v3 ?_ 24 0 rfl⟩)
    exact br_f (fun q => z (EI.mp q)) (br_f (fun q => z2 (EO.mp q)) ⟨rfl, H, C⟩)
