/-! invert, area, has, same -/
theorem xl_inv_l {post : Int32 → SX → Prop} {u : Nat → Int32} {r : Nat} (hr : r < 3) {F : Nat → Int32} (hF : F = fun y => u (r * 24 + y) ^^^ 16777215) (h : post (nI (xc_cc (zr_u u (r * 24) F 24) r)) (zr_u u (r * 24) F 24)) : ∀ d y, y + d = 24 → wX_invert_16 post (nI r) (nI (r * 24)) (d + 1) (nI y) (zr_u u (r * 24) F y) := by
  intro d
  induction d with
  | zero =>
    intro y hy
    obtain rfl : y = 24 := by omega
    exact br_t (nI_le (a := 24) (b := 24) (by omega) (by decide)) (xl_cc _ hr h)
  | succ d ih =>
    intro y hy
    refine br_f (nI_ge (b := 24) (by omega) (by decide)) ?_
    rw [zn_cl (by omega), zr_out (by omega)]
    refine ⟨zn_in (by omega) (by decide), zn_in (by omega) (by decide), nm_r ?_ (nm_r (nI_1 y) (ih (y + 1) (by omega)))⟩
    rw [← zr_s, hF]
theorem xl_inv {post : Int32 → SX → Prop} {u : Nat → Int32} {r : Nat} (hr : r < 3) {F : Nat → Int32} (hF : F = fun y => u (r * 24 + y) ^^^ 16777215) (h : post (nI (xc_cc (zr_u u (r * 24) F 24) r)) (zr_u u (r * 24) F 24)) : wpX_invert post u (nI r) := by
  unfold wpX_invert
  refine xl_reg hr (br_f (by decide) (nm_r (zn_24 r) ⟨25, ?_⟩))
  have g := xl_inv_l hr hF h 24 0 rfl
  rw [zr_0] at g
  exact g
theorem yl_inv_l {post : Int32 → SY → Prop} {c w : Nat → Int32} {r : Nat} (hr : r < 3) {g : Nat → Bool} (hg : ∀ i, i < 576 → c (r * 576 + i) = zb_I (g i)) {G : Nat → Int32} (hG : G = fun i => zb_I (!g i)) (h : post (nI (ya_ar (zr_u c (r * 576) G 576) r)) (zr_u c (r * 576) G 576, w)) : ∀ d i, i + d = 576 → wY_invert_12 post (nI r) (d + 1) (nI i) (zr_u c (r * 576) G i) w := by
  intro d
  induction d with
  | zero =>
    intro i hi
    obtain rfl : i = 576 := by omega
    exact br_t (nI_le (a := 576) (b := 576) (by omega) (by decide)) (yl_ar _ _ hr h)
  | succ d ih =>
    intro i hi
    refine br_f (nI_ge (b := 576) (by omega) (by decide)) ?_
    rw [zn_576, zn_cl (by omega), zr_out (by omega), hg i (by omega)]
    refine ⟨zn_in (by omega) (by decide), br_c (fun z => ⟨zn_in (by omega) (by decide), nm_r ?_ (nm_r (nI_1 i) (ih (i + 1) (by omega)))⟩) (fun z => ⟨zn_in (by omega) (by decide), nm_r ?_ (nm_r (nI_1 i) (ih (i + 1) (by omega)))⟩)⟩
    · rw [zb_eq0] at z
      rw [← zr_s, hG]
      dsimp only
      rw [z]
      exact congrArg _ (zb_nar true)
    · rw [zb_eq0, Bool.not_eq_false] at z
      rw [← zr_s, hG]
      dsimp only
      rw [z]
      exact congrArg _ (zb_nar false)
theorem yl_inv {post : Int32 → SY → Prop} {c w : Nat → Int32} {r : Nat} (hr : r < 3) {g : Nat → Bool} (hg : ∀ i, i < 576 → c (r * 576 + i) = zb_I (g i)) {G : Nat → Int32} (hG : G = fun i => zb_I (!g i)) (h : post (nI (ya_ar (zr_u c (r * 576) G 576) r)) (zr_u c (r * 576) G 576, w)) : wpY_invert post (c, w) (nI r) := by
  unfold wpY_invert
  dsimp only
  refine yl_bad hr (br_t rfl ⟨577, ?_⟩)
  have g1 := yl_inv_l hr hg hG h 576 0 rfl
  rw [zr_0] at g1
  exact g1
theorem i_vc_invert {k : Nat} {u : SX} {v : SY} (I : i_Rel k u v) (hk : k + 5 ≤ 2560) (v1 : Int32) : wpX_invert (fun r u' => wpY_invert (fun r' v' => r' = r ∧ i_Rel (k + 5) u' v') v v1) u v1 := by
  obtain ⟨c, w⟩ := v
  obtain ⟨H, C⟩ := I
  have C : zz_C u c := C
  have bad1 : (v1 < 0 ∨ nI 3 ≤ v1) → wpX_invert (fun r u' => wpY_invert (fun r' v' => r' = r ∧ i_Rel (k + 5) u' v') (c, w) v1) u v1 := fun h => by
    unfold wpX_invert wpY_invert
    dsimp only
    exact xl_regN h (br_t rfl (yl_badN h (br_f (by decide) ⟨rfl, H, C⟩)))
  rcases pk_ix v1 (n := 3) (by decide) with h | h | ⟨r, hr, rfl⟩
  · exact bad1 (Or.inl h)
  · exact bad1 (Or.inr h)
  have R := zz_upd hr H C (fun y => u (r * 24 + y) ^^^ 16777215) (fun i => zb_I (!zz_g u r i)) (by
      intro y hy i hi h32
      show bt (_ ^^^ _) i = false
      rw [b_xor, H _ (by omega) i hi, zb_ff i h32, decide_eq_false (by omega : ¬ i < 24)]
      rfl) (by
      intro y x hy hx
      show zb_I (!zz_g u r (y * 24 + x)) = zb_I (bt (_ ^^^ _) x)
      rw [b_xor, zb_ff x (by omega), decide_eq_true hx, zz_ga u r hx, Bool.xor_true])
  refine xl_inv hr rfl (yl_inv hr (zz_gc C hr) rfl ⟨?_, R⟩)
  rw [ya_xc hr R.2]
theorem i_vc_area {k : Nat} {u : SX} {v : SY} (I : i_Rel k u v) (hk : k + 5 ≤ 2560) (v1 : Int32) : wpX_area (fun r => wpY_area (fun r' => r' = r ∧ i_Rel (k + 5) u v) v v1) u v1 := by
  obtain ⟨c, w⟩ := v
  obtain ⟨H, C⟩ := I
  have C : zz_C u c := C
  have bad1 : (v1 < 0 ∨ nI 3 ≤ v1) → wpX_area (fun r => wpY_area (fun r' => r' = r ∧ i_Rel (k + 5) u (c, w)) (c, w) v1) u v1 := fun h => by
    unfold wpX_area wpY_area
    dsimp only
    exact xl_regN h (br_t rfl (yl_badN h (br_f (by decide) ⟨rfl, H, C⟩)))
  rcases pk_ix v1 (n := 3) (by decide) with h | h | ⟨r, hr, rfl⟩
  · exact bad1 (Or.inl h)
  · exact bad1 (Or.inr h)
  unfold wpX_area
  refine xl_reg hr (br_f (by decide) (xl_cc _ hr (yl_ar _ _ hr ⟨?_, H, C⟩)))
  rw [ya_xc hr C]
/-! has -/
theorem xl_scr {post : Int32 → Prop} {k : Nat} (hk : k < 24) (h : post 1) : wpX_isOnScreen post (nI k) := br_f (nI_pos (by omega)) (br_f (nI_ge (b := 24) hk (by decide)) h)
theorem xl_scrN {post : Int32 → Prop} {r : Int32} (hr : r < 0 ∨ nI 24 ≤ r) (h : post 0) : wpX_isOnScreen post r := br_c (fun _ => h) (fun n => br_t (hr.resolve_left n) h)
theorem zn_lt {r : Int32} {n : Nat} (hn : n + 1 < 2 ^ 31) (h : nI (n + 1) ≤ r) : nI n < r := by
  rw [Int32.le_iff_toInt_le, nI_toInt hn] at h
  rw [Int32.lt_iff_toInt_lt, nI_toInt (by omega)]
  omega
theorem yl_has {post : Int32 → Prop} {u c w : Nat → Int32} (C : zz_C u c) {r x y : Nat} (hr : r < 3) (hx : x < 24) (hy : y < 24) (h : post (zb_I (bt (u (r * 24 + y)) x))) : wpY_has post (c, w) (nI r) (nI x) (nI y) := by
  unfold wpY_has
  dsimp only
  refine yl_bad hr (br_t rfl (br_f (nI_pos (by omega)) (br_f (nI_nlt (a := 23) (b := x) (by omega) (by decide)) (br_f (nI_pos (by omega)) (br_t (nI_le (b := 23) (by omega) (by decide)) ?_)))))
  rw [zn_y, nI_clamp (by omega), zz_c C hr hy hx]
  exact ⟨vp_in_nI (by omega) (by decide), zb_nr _, h⟩
theorem yl_hasX {post : Int32 → Prop} {c w : Nat → Int32} {r : Nat} (hr : r < 3) {x y : Int32} (hx : x < 0 ∨ nI 24 ≤ x) (h : post 0) : wpY_has post (c, w) (nI r) x y := by
  unfold wpY_has
  dsimp only
  exact yl_bad hr (br_t rfl (br_c (fun _ => h) (fun n => br_t (zn_lt (n := 23) (by decide) (hx.resolve_left n)) h)))
theorem yl_hasY {post : Int32 → Prop} {c w : Nat → Int32} {r x : Nat} (hr : r < 3) (hx : x < 24) {y : Int32} (hy : y < 0 ∨ nI 24 ≤ y) (h : post 0) : wpY_has post (c, w) (nI r) (nI x) y := by
  unfold wpY_has
  dsimp only
  exact yl_bad hr (br_t rfl (br_f (nI_pos (by omega)) (br_f (nI_nlt (a := 23) (b := x) (by omega) (by decide)) (br_c (fun _ => h) (fun n => br_f (zn_nle (n := 23) (by decide) (hy.resolve_left n)) h)))))
theorem i_vc_has {k : Nat} {u : SX} {v : SY} (I : i_Rel k u v) (hk : k + 5 ≤ 2560) (v1 : Int32) (v2 : Int32) (v3 : Int32) : wpX_has (fun r => wpY_has (fun r' => r' = r ∧ i_Rel (k + 5) u v) v v1 v2 v3) u v1 v2 v3 := by
  obtain ⟨c, w⟩ := v
  obtain ⟨H, C⟩ := I
  have C : zz_C u c := C
  have bad1 : (v1 < 0 ∨ nI 3 ≤ v1) → wpX_has (fun r => wpY_has (fun r' => r' = r ∧ i_Rel (k + 5) u (c, w)) (c, w) v1 v2 v3) u v1 v2 v3 := fun h => by
    unfold wpX_has wpY_has
    dsimp only
    exact xl_regN h (br_t rfl (yl_badN h (br_f (by decide) ⟨rfl, H, C⟩)))
  rcases pk_ix v1 (n := 3) (by decide) with h | h | ⟨r, hr, rfl⟩
  · exact bad1 (Or.inl h)
  · exact bad1 (Or.inr h)
  unfold wpX_has
  refine xl_reg hr (br_f (by decide) ?_)
  have bad2 : (v2 < 0 ∨ nI 24 ≤ v2) → wpY_has (fun r' => r' = 0 ∧ i_Rel (k + 5) u (c, w)) (c, w) (nI r) v2 v3 := fun h => yl_hasX hr h ⟨rfl, H, C⟩
  rcases pk_ix v2 (n := 24) (by decide) with h | h | ⟨x, hx, rfl⟩
  · exact xl_scrN (Or.inl h) (br_t rfl (bad2 (Or.inl h)))
  · exact xl_scrN (Or.inr h) (br_t rfl (bad2 (Or.inr h)))
  refine xl_scr hx (br_f (by decide) ?_)
  have bad3 : (v3 < 0 ∨ nI 24 ≤ v3) → wpY_has (fun r' => r' = 0 ∧ i_Rel (k + 5) u (c, w)) (c, w) (nI r) (nI x) v3 := fun h => yl_hasY hr hx h ⟨rfl, H, C⟩
  rcases pk_ix v3 (n := 24) (by decide) with h | h | ⟨y, hy, rfl⟩
  · exact xl_scrN (Or.inl h) (br_t rfl (bad3 (Or.inl h)))
  · exact xl_scrN (Or.inr h) (br_t rfl (bad3 (Or.inr h)))
  refine xl_scr hy (br_f (by decide) ?_)
  rw [zn_24, zn_cl (by omega), zb_bit _ (by omega)]
  refine ⟨zn_in (by omega) (by decide), br_c (fun z => yl_has C hr hx hy ⟨z, H, C⟩) (fun z => yl_has C hr hx hy ⟨?_, H, C⟩)⟩
  revert z
  cases bt (u (r * 24 + y)) x
  · exact fun _ => rfl
  · exact fun z => absurd rfl z
/-! same -/
theorem xl_same_l {post : Int32 → Prop} {u : Nat → Int32} {a b : Nat} (ha : a < 3) (hb : b < 3) : ∀ d i, i + d = 24 → ((∀ y, i ≤ y → y < 24 → u (a * 24 + y) = u (b * 24 + y)) → post 1) → ((¬ ∀ y, i ≤ y → y < 24 → u (a * 24 + y) = u (b * 24 + y)) → post 0) → wX_same_18 post (nI a) (nI b) u (d + 1) (nI i) := by
  intro d
  induction d with
  | zero =>
    intro i hi h1 h0
    obtain rfl : i = 24 := by omega
    exact br_t (nI_le (a := 24) (b := 24) (by omega) (by decide)) (h1 fun y hy hy2 => by omega)
  | succ d ih =>
    intro i hi h1 h0
    refine br_f (nI_ge (b := 24) (by omega) (by decide)) ?_
    rw [zn_24, zn_24, zn_cl (by omega), zn_cl (by omega)]
    refine ⟨zn_in (by omega) (by decide), zn_in (by omega) (by decide), br_c (fun z => nm_r (nI_1 i) (ih (i + 1) (by omega) (fun g => h1 ?_) (fun g => h0 ?_))) (fun z => h0 ?_)⟩
    · intro y hy hy2
      by_cases e : y = i
      · rw [e]; exact z
      · exact g y (by omega) hy2
    · exact fun q => g fun y hy hy2 => q y (by omega) hy2
    · exact fun q => z (q i (Nat.le_refl i) (by omega))
theorem yl_same_l {post : Int32 → Prop} {c w : Nat → Int32} {a b : Nat} (ha : a < 3) (hb : b < 3) : ∀ d i, i + d = 576 → ((∀ y, i ≤ y → y < 576 → c (a * 576 + y) = c (b * 576 + y)) → post 1) → ((¬ ∀ y, i ≤ y → y < 576 → c (a * 576 + y) = c (b * 576 + y)) → post 0) → wY_same_20 post (nI a) (nI b) c w (d + 1) (nI i) := by
  intro d
  induction d with
  | zero =>
    intro i hi h1 h0
    obtain rfl : i = 576 := by omega
    exact br_t (nI_le (a := 576) (b := 576) (by omega) (by decide)) (h1 fun y hy hy2 => by omega)
  | succ d ih =>
    intro i hi h1 h0
    refine br_f (nI_ge (b := 576) (by omega) (by decide)) ?_
    rw [zn_576, zn_576, zn_cl (by omega), zn_cl (by omega)]
    refine ⟨zn_in (by omega) (by decide), zn_in (by omega) (by decide), br_c (fun z => nm_r (nI_1 i) (ih (i + 1) (by omega) (fun g => h1 ?_) (fun g => h0 ?_))) (fun z => h0 ?_)⟩
    · intro y hy hy2
      by_cases e : y = i
      · rw [e]; exact z
      · exact g y (by omega) hy2
    · exact fun q => g fun y hy hy2 => q y (by omega) hy2
    · exact fun q => z (q i (Nat.le_refl i) (by omega))
/-- two rows are one when their 24 cells are -/
theorem zz_row {u : Nat → Int32} (H : zz_H u) {i j : Nat} (hi : i < 72) (hj : j < 72) (h : ∀ x, x < 24 → bt (u i) x = bt (u j) x) : u i = u j := b_ext fun x _ => by
  by_cases e : x < 24
  · exact h x e
  · rw [H i hi x (by omega), H j hj x (by omega)]
theorem i_vc_same {k : Nat} {u : SX} {v : SY} (I : i_Rel k u v) (hk : k + 5 ≤ 2560) (v1 : Int32) (v2 : Int32) : wpX_same (fun r => wpY_same (fun r' => r' = r ∧ i_Rel (k + 5) u v) v v1 v2) u v1 v2 := by
  obtain ⟨c, w⟩ := v
  obtain ⟨H, C⟩ := I
  have C : zz_C u c := C
  unfold wpX_same wpY_same
  dsimp only
  have bad1 : (v1 < 0 ∨ nI 3 ≤ v1) → wpX_same (fun r => wpY_same (fun r' => r' = r ∧ i_Rel (k + 5) u (c, w)) (c, w) v1 v2) u v1 v2 := fun h => by
    unfold wpX_same wpY_same
    dsimp only
    exact xl_regN h (br_t rfl (yl_badN h (br_f (by decide) ⟨rfl, H, C⟩)))
  rcases pk_ix v1 (n := 3) (by decide) with h | h | ⟨a, ha, rfl⟩
  · exact bad1 (Or.inl h)
  · exact bad1 (Or.inr h)
  refine xl_reg ha (br_f (by decide) ?_)
  rcases pk_ix v2 (n := 3) (by decide) with h | h | ⟨b, hb, rfl⟩
  · exact xl_regN (Or.inl h) (br_t rfl (yl_bad ha (br_t rfl (yl_badN (Or.inl h) (br_f (by decide) ⟨rfl, H, C⟩)))))
  · exact xl_regN (Or.inr h) (br_t rfl (yl_bad ha (br_t rfl (yl_badN (Or.inr h) (br_f (by decide) ⟨rfl, H, C⟩)))))
  have e : (∀ y, 0 ≤ y → y < 24 → u (a * 24 + y) = u (b * 24 + y)) ↔ (∀ y, 0 ≤ y → y < 576 → c (a * 576 + y) = c (b * 576 + y)) := by
    constructor
    · intro g i _ hi
      rw [zz_gc C ha i hi, zz_gc C hb i hi]
      unfold zz_g
      rw [g (i / 24) (Nat.zero_le _) (by omega)]
    · intro g y _ hy
      refine zz_row H (by omega) (by omega) (fun x hx => ?_)
      have q := g (y * 24 + x) (Nat.zero_le _) (by omega)
      rw [zz_c C ha hy hx, zz_c C hb hy hx, zb_inj] at q
      exact q
  refine xl_reg hb (br_f (by decide) ⟨25, xl_same_l ha hb 24 0 rfl (fun g => ?_) (fun g => ?_)⟩)
  · exact yl_bad ha (br_t rfl (yl_bad hb (br_t rfl ⟨577, yl_same_l ha hb 576 0 rfl (fun _ => ⟨rfl, H, C⟩) (fun q => absurd (e.mp g) q)⟩)))
  · exact yl_bad ha (br_t rfl (yl_bad hb (br_t rfl ⟨577, yl_same_l ha hb 576 0 rfl (fun q => absurd (e.mpr q) g) (fun _ => ⟨rfl, H, C⟩)⟩)))
