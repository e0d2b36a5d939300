/-! box, combine, invert, area, has, same -/
theorem xl_box_l {post : Int32 → SX → Prop} {u : Nat → Int32} {r k : Nat} (hr : r < 3) (hk : k ≤ 3) (c s : Int32) {F : Nat → Int32} (hF : F = fun y => xm_mix k (u (r * 24 + y)) (xb_row c s y)) (h : post (nI (xc_cc (zr_u u (r * 24) F 24) r)) (zr_u u (r * 24) F 24)) : ∀ d y, y + d = 24 → wX_box_28 post (nI r) (nI k) c s (nI (r * 24)) (d + 1) (nI y) (zr_u u (r * 24) F y) := by
  intro d
  induction d with
  | zero =>
    intro y hy
    obtain rfl : y = 24 := by omega
    exact br_t (nI_le (a := 24) (b := 24) (by omega) (by decide)) (xl_cc _ hr h)
  | succ d ih =>
    intro y hy
    refine br_f (nI_ge (b := 24) (by omega) (by decide)) (xl_boxRow c s (by omega) ?_)
    rw [zn_cl (by omega), zr_out (by omega)]
    refine ⟨zn_in (by omega) (by decide), xl_mix _ _ hk ⟨zn_in (by omega) (by decide), nm_r ?_ (nm_r (nI_1 y) (ih (y + 1) (by omega)))⟩⟩
    rw [← zr_s, hF]
theorem xl_box {post : Int32 → SX → Prop} {u : Nat → Int32} {r k : Nat} (hr : r < 3) (hk : k ≤ 3) (c s : Int32) {F : Nat → Int32} (hF : F = fun y => xm_mix k (u (r * 24 + y)) (xb_row c s y)) (h : post (nI (xc_cc (zr_u u (r * 24) F 24) r)) (zr_u u (r * 24) F 24)) : wpX_box post u (nI r) (nI k) c s := by
  unfold wpX_box
  refine xl_reg hr (br_f (by decide) (xl_kind hk (br_f (by decide) (nm_r (zn_24 r) ⟨25, ?_⟩))))
  have g := xl_box_l hr hk c s hF h 24 0 rfl
  rw [zr_0] at g
  exact g
theorem yl_box_i {post : Int32 → SY → Prop} {J : Int32 → (Nat → Int32) → (Nat → Int32) → Prop} {c0 w : Nat → Int32} {r k : Nat} (hr : r < 3) (hk : k ≤ 3) (c s : Int32) {g : Nat → Bool} (hg : ∀ i, i < 576 → c0 (r * 576 + i) = zb_I (g i)) {G : Nat → Int32} (hG : G = fun i => zb_I (ym_mix k (g i) (xb_in c s (i % 24) (i / 24)))) {y : Nat} (hy : y < 24) (h : J (nI (y + 1)) (zr_u c0 (r * 576) G (y * 24 + 24)) w) : ∀ d x, x + d = 24 → wY_box_35 post J (nI r) (nI k) c s (nI y) (d + 1) (nI x) (zr_u c0 (r * 576) G (y * 24 + x)) w := by
  intro d
  induction d with
  | zero =>
    intro x hx
    obtain rfl : x = 24 := by omega
    exact br_t (nI_le (a := 24) (b := 24) (by omega) (by decide)) (nm_r (nI_1 y) h)
  | succ d ih =>
    intro x hx
    refine br_f (nI_ge (b := 24) (by omega) (by decide)) (nm_r (zn_y r y x) (yl_inBox c s (by omega) hy ⟨vp_in_nI (by omega) (by decide), ?_⟩))
    rw [nI_clamp (by omega), zr_out (by omega), hg _ (by omega)]
    refine yl_mix _ _ hk ⟨vp_in_nI (by omega) (by decide), nm_r ?_ (nm_r (nI_1 x) (ih (x + 1) (by omega)))⟩
    rw [zb_nar, ← Nat.add_assoc (y * 24) x 1, ← zr_s, hG]
    dsimp only
    rw [show (y * 24 + x) % 24 = x by omega, show (y * 24 + x) / 24 = y by omega]
theorem yl_box_l {post : Int32 → SY → Prop} {c0 w : Nat → Int32} {r k : Nat} (hr : r < 3) (hk : k ≤ 3) (c s : Int32) {g : Nat → Bool} (hg : ∀ i, i < 576 → c0 (r * 576 + i) = zb_I (g i)) {G : Nat → Int32} (hG : G = fun i => zb_I (ym_mix k (g i) (xb_in c s (i % 24) (i / 24)))) (h : post (nI (ya_ar (zr_u c0 (r * 576) G 576) r)) (zr_u c0 (r * 576) G 576, w)) : ∀ d y, y + d = 24 → wY_box_25 post (nI r) (nI k) c s (d + 1) (nI y) (zr_u c0 (r * 576) G (y * 24)) w := by
  intro d
  induction d with
  | zero =>
    intro y hy
    obtain rfl : y = 24 := by omega
    exact br_t (nI_le (a := 24) (b := 24) (by omega) (by decide)) (yl_ar _ _ hr h)
  | succ d ih =>
    intro y hy
    have g1 := ih (y + 1) (by omega)
    rw [Nat.succ_mul] at g1
    exact br_f (nI_ge (b := 24) (by omega) (by decide)) ⟨25, yl_box_i hr hk c s hg hG (by omega) g1 24 0 rfl⟩
theorem yl_box {post : Int32 → SY → Prop} {c0 w : Nat → Int32} {r k : Nat} (hr : r < 3) (hk : k ≤ 3) (c s : Int32) {g : Nat → Bool} (hg : ∀ i, i < 576 → c0 (r * 576 + i) = zb_I (g i)) {G : Nat → Int32} (hG : G = fun i => zb_I (ym_mix k (g i) (xb_in c s (i % 24) (i / 24)))) (h : post (nI (ya_ar (zr_u c0 (r * 576) G 576) r)) (zr_u c0 (r * 576) G 576, w)) : wpY_box post (c0, w) (nI r) (nI k) c s := by
  unfold wpY_box
  dsimp only
  refine yl_bad hr (br_t rfl (br_f (nI_pos (by omega)) (br_t (nI_le (b := 3) hk (by decide)) ⟨25, ?_⟩)))
  have g1 := yl_box_l hr hk c s hg hG h 24 0 rfl
  rw [Nat.zero_mul, zr_0] at g1
  exact g1
/-- the picture of region r -/
def zz_g (u : Nat → Int32) (r : Nat) (i : Nat) : Bool := bt (u (r * 24 + i / 24)) (i % 24)
theorem zz_gc {u c : Nat → Int32} (C : zz_C u c) {r : Nat} (hr : r < 3) : ∀ i, i < 576 → c (r * 576 + i) = zb_I (zz_g u r i) := fun i hi => by
  have h := zz_c C hr (y := i / 24) (x := i % 24) (by omega) (by omega)
  rw [show i / 24 * 24 + i % 24 = i by omega] at h
  exact h
theorem zz_ga (u : Nat → Int32) (r : Nat) {y x : Nat} (hx : x < 24) : zz_g u r (y * 24 + x) = bt (u (r * 24 + y)) x := by
  unfold zz_g
  rw [show (y * 24 + x) % 24 = x by omega, show (y * 24 + x) / 24 = y by omega]
theorem i_vc_box {k : Nat} {u : SX} {v : SY} (I : i_Rel k u v) (hk : k + 5 ≤ 2560) (v1 : Int32) (v2 : Int32) (v3 : Int32) (v4 : Int32) : wpX_box (fun r u' => wpY_box (fun r' v' => r' = r ∧ i_Rel (k + 5) u' v') v v1 v2 v3 v4) u v1 v2 v3 v4 := by
  obtain ⟨c, w⟩ := v
  obtain ⟨H, C⟩ := I
  have C : zz_C u c := C
  rcases pk_ix v1 (n := 3) (by decide) with h | h | ⟨r, hr, rfl⟩
  · unfold wpX_box wpY_box
    dsimp only
    exact xl_regN (Or.inl h) (br_t rfl (yl_badN (Or.inl h) (br_f (by decide) ⟨rfl, H, C⟩)))
  · unfold wpX_box wpY_box
    dsimp only
    exact xl_regN (Or.inr h) (br_t rfl (yl_badN (Or.inr h) (br_f (by decide) ⟨rfl, H, C⟩)))
  · rcases pk_ix v2 (n := 4) (by decide) with h | h | ⟨q, hq, rfl⟩
    · unfold wpX_box wpY_box
      dsimp only
      exact xl_reg hr (br_f (by decide) (xl_kindN (Or.inl h) (br_t rfl (yl_bad hr (br_t rfl (br_t h ⟨rfl, H, C⟩))))))
    · unfold wpX_box wpY_box
      dsimp only
      exact xl_reg hr (br_f (by decide) (xl_kindN (Or.inr h) (br_t rfl (yl_bad hr (br_t rfl (br_c (fun _ => ⟨rfl, H, C⟩) (fun _ => br_f (zn_nle (n := 3) (by decide) h) ⟨rfl, H, C⟩)))))))
    · have R := zz_upd hr H C (fun y => xm_mix q (u (r * 24 + y)) (xb_row v3 v4 y)) (fun i => zb_I (ym_mix q (zz_g u r i) (xb_in v3 v4 (i % 24) (i / 24)))) (by
        intro y hy i hi h32
        show bt (xm_mix _ _ _) i = false
        rw [xm_bt _ _ _ h32, H _ (by omega) i hi, xb_bt _ _ h32, decide_eq_false (by omega : ¬ i < 24), Bool.and_false]
        match q with
        | 0 => rfl
        | 1 => rfl
        | 2 => rfl
        | _ + 3 => rfl) (by
        intro y x hy hx
        show zb_I (ym_mix _ _ _) = zb_I (bt (xm_mix _ _ _) x)
        rw [xm_bt _ _ _ (by omega), xb_bt _ _ (by omega), decide_eq_true hx, Bool.and_true, zz_ga u r hx, show (y * 24 + x) % 24 = x by omega, show (y * 24 + x) / 24 = y by omega])
      refine xl_box hr (by omega) v3 v4 rfl (yl_box hr (by omega) v3 v4 (zz_gc C hr) rfl ⟨?_, R⟩)
      rw [ya_xc hr R.2]
/-! combine -/
theorem xl_comb_l {post : Int32 → SX → Prop} {u : Nat → Int32} {r a b k : Nat} (hr : r < 3) (ha : a < 3) (hb : b < 3) (hk : k ≤ 3) {F : Nat → Int32} (hF : F = fun y => xm_mix k (u (a * 24 + y)) (u (b * 24 + y))) (h : post (nI (xc_cc (zr_u u (r * 24) F 24) r)) (zr_u u (r * 24) F 24)) : ∀ d y, y + d = 24 → wX_combine_37 post (nI r) (nI a) (nI b) (nI k) (d + 1) (nI y) (zr_u u (r * 24) F y) := by
  intro d
  induction d with
  | zero =>
    intro y hy
    obtain rfl : y = 24 := by omega
    exact br_t (nI_le (a := 24) (b := 24) (by omega) (by decide)) (xl_cc _ hr h)
  | succ d ih =>
    intro y hy
    refine br_f (nI_ge (b := 24) (by omega) (by decide)) ?_
    rw [zn_24, zn_24, zn_24, zn_cl (by omega), zn_cl (by omega), zn_cl (by omega), zr_out (by omega), zr_out (by omega)]
    refine ⟨zn_in (by omega) (by decide), zn_in (by omega) (by decide), xl_mix _ _ hk ⟨zn_in (by omega) (by decide), nm_r ?_ (nm_r (nI_1 y) (ih (y + 1) (by omega)))⟩⟩
    rw [← zr_s, hF]
theorem xl_comb {post : Int32 → SX → Prop} {u : Nat → Int32} {r a b k : Nat} (hr : r < 3) (ha : a < 3) (hb : b < 3) (hk : k ≤ 3) {F : Nat → Int32} (hF : F = fun y => xm_mix k (u (a * 24 + y)) (u (b * 24 + y))) (h : post (nI (xc_cc (zr_u u (r * 24) F 24) r)) (zr_u u (r * 24) F 24)) : wpX_combine post u (nI r) (nI a) (nI b) (nI k) := by
  unfold wpX_combine
  refine xl_reg hr (br_f (by decide) (xl_reg ha (br_f (by decide) (xl_reg hb (br_f (by decide) (xl_kind hk (br_f (by decide) ⟨25, ?_⟩)))))))
  have g := xl_comb_l hr ha hb hk hF h 24 0 rfl
  rw [zr_0] at g
  exact g
theorem yl_comb_2 {post : Int32 → SY → Prop} {c w : Nat → Int32} {r : Nat} (hr : r < 3) {G : Nat → Int32} (hw : ∀ i, i < 576 → vp_nar .boolean (w i) = G i) (h : post (nI (ya_ar (zr_u c (r * 576) G 576) r)) (zr_u c (r * 576) G 576, w)) : ∀ d i, i + d = 576 → wY_combine_99 post (nI r) (d + 1) (nI i) (zr_u c (r * 576) G i) w := by
  intro d
  induction d with
  | zero =>
    intro i hi
    obtain rfl : i = 576 := by omega
    exact br_t (nI_le (a := 576) (b := 576) (by omega) (by decide)) (yl_ar _ _ hr h)
  | succ d ih =>
    intro i hi
    refine br_f (nI_ge (b := 576) (by omega) (by decide)) ?_
    rw [zn_576, zn_cl (by omega), nI_clamp (by omega), hw i (by omega)]
    exact ⟨vp_in_nI (by omega) (by decide), zn_in (by omega) (by decide), nm_r (zr_s _ _ _ _) (nm_r (nI_1 i) (ih (i + 1) (by omega)))⟩
theorem yl_comb_1 {post : Int32 → SY → Prop} {c w : Nat → Int32} {r a b k : Nat} (hr : r < 3) (ha : a < 3) (hb : b < 3) (hk : k ≤ 3) {ga gb : Nat → Bool} (hga : ∀ i, i < 576 → c (a * 576 + i) = zb_I (ga i)) (hgb : ∀ i, i < 576 → c (b * 576 + i) = zb_I (gb i)) {G : Nat → Int32} (hG : G = fun i => zb_I (ym_mix k (ga i) (gb i))) (h : post (nI (ya_ar (zr_u c (r * 576) G 576) r)) (zr_u c (r * 576) G 576, zr_u w 0 G 576)) : ∀ d i, i + d = 576 → wY_combine_43 post (nI r) (nI a) (nI b) (nI k) (d + 1) (nI i) c (zr_u w 0 G i) := by
  intro d
  induction d with
  | zero =>
    intro i hi
    obtain rfl : i = 576 := by omega
    refine br_t (nI_le (a := 576) (b := 576) (by omega) (by decide)) ⟨577, ?_⟩
    have g := yl_comb_2 (c := c) (w := zr_u w 0 G 576) hr (G := G) (fun i hi => by rw [zr_in0 hi, hG]; exact zb_nar _) h 576 0 rfl
    rw [zr_0] at g
    exact g
  | succ d ih =>
    intro i hi
    refine br_f (nI_ge (b := 576) (by omega) (by decide)) ?_
    rw [zn_576, zn_576, zn_cl (by omega), zn_cl (by omega), nI_clamp (by omega), hga i (by omega), hgb i (by omega)]
    refine ⟨zn_in (by omega) (by decide), zn_in (by omega) (by decide), yl_mix _ _ hk ⟨vp_in_nI (by omega) (by decide), nm_r ?_ (nm_r (nI_1 i) (ih (i + 1) (by omega)))⟩⟩
    rw [zb_nar, ← zr_s0, hG]
theorem yl_comb {post : Int32 → SY → Prop} {c w : Nat → Int32} {r a b k : Nat} (hr : r < 3) (ha : a < 3) (hb : b < 3) (hk : k ≤ 3) {ga gb : Nat → Bool} (hga : ∀ i, i < 576 → c (a * 576 + i) = zb_I (ga i)) (hgb : ∀ i, i < 576 → c (b * 576 + i) = zb_I (gb i)) {G : Nat → Int32} (hG : G = fun i => zb_I (ym_mix k (ga i) (gb i))) (h : post (nI (ya_ar (zr_u c (r * 576) G 576) r)) (zr_u c (r * 576) G 576, zr_u w 0 G 576)) : wpY_combine post (c, w) (nI r) (nI a) (nI b) (nI k) := by
  unfold wpY_combine
  dsimp only
  refine yl_bad hr (br_t rfl (yl_bad ha (br_t rfl (yl_bad hb (br_t rfl (br_f (nI_pos (by omega)) (br_t (nI_le (b := 3) hk (by decide)) ⟨577, ?_⟩)))))))
  have g := yl_comb_1 (w := w) hr ha hb hk hga hgb hG h 576 0 rfl
  rw [zr_0] at g
  exact g
theorem i_vc_combine {k : Nat} {u : SX} {v : SY} (I : i_Rel k u v) (hk : k + 5 ≤ 2560) (v1 : Int32) (v2 : Int32) (v3 : Int32) (v4 : Int32) : wpX_combine (fun r u' => wpY_combine (fun r' v' => r' = r ∧ i_Rel (k + 5) u' v') v v1 v2 v3 v4) u v1 v2 v3 v4 := by
  obtain ⟨c, w⟩ := v
  obtain ⟨H, C⟩ := I
  have C : zz_C u c := C
  have bad1 : (v1 < 0 ∨ nI 3 ≤ v1) → wpX_combine (fun o u' => wpY_combine (fun r' v' => r' = o ∧ i_Rel (k + 5) u' v') (c, w) v1 v2 v3 v4) u v1 v2 v3 v4 := fun h => by
    unfold wpX_combine wpY_combine
    dsimp only
    exact xl_regN h (br_t rfl (yl_badN h (br_f (by decide) ⟨rfl, H, C⟩)))
  rcases pk_ix v1 (n := 3) (by decide) with h | h | ⟨r, hr, rfl⟩
  · exact bad1 (Or.inl h)
  · exact bad1 (Or.inr h)
  have bad2 : (v2 < 0 ∨ nI 3 ≤ v2) → wpX_combine (fun o u' => wpY_combine (fun r' v' => r' = o ∧ i_Rel (k + 5) u' v') (c, w) (nI r) v2 v3 v4) u (nI r) v2 v3 v4 := fun h => by
    unfold wpX_combine wpY_combine
    dsimp only
    exact xl_reg hr (br_f (by decide) (xl_regN h (br_t rfl (yl_bad hr (br_t rfl (yl_badN h (br_f (by decide) ⟨rfl, H, C⟩)))))))
  rcases pk_ix v2 (n := 3) (by decide) with h | h | ⟨a, ha, rfl⟩
  · exact bad2 (Or.inl h)
  · exact bad2 (Or.inr h)
  have bad3 : (v3 < 0 ∨ nI 3 ≤ v3) → wpX_combine (fun o u' => wpY_combine (fun r' v' => r' = o ∧ i_Rel (k + 5) u' v') (c, w) (nI r) (nI a) v3 v4) u (nI r) (nI a) v3 v4 := fun h => by
    unfold wpX_combine wpY_combine
    dsimp only
    exact xl_reg hr (br_f (by decide) (xl_reg ha (br_f (by decide) (xl_regN h (br_t rfl (yl_bad hr (br_t rfl (yl_bad ha (br_t rfl (yl_badN h (br_f (by decide) ⟨rfl, H, C⟩)))))))))))
  rcases pk_ix v3 (n := 3) (by decide) with h | h | ⟨b, hb, rfl⟩
  · exact bad3 (Or.inl h)
  · exact bad3 (Or.inr h)
  rcases pk_ix v4 (n := 4) (by decide) with h | h | ⟨q, hq, rfl⟩
  · unfold wpX_combine wpY_combine
    dsimp only
    exact xl_reg hr (br_f (by decide) (xl_reg ha (br_f (by decide) (xl_reg hb (br_f (by decide) (xl_kindN (Or.inl h) (br_t rfl (yl_bad hr (br_t rfl (yl_bad ha (br_t rfl (yl_bad hb (br_t rfl (br_t h ⟨rfl, H, C⟩))))))))))))))
  · unfold wpX_combine wpY_combine
    dsimp only
    exact xl_reg hr (br_f (by decide) (xl_reg ha (br_f (by decide) (xl_reg hb (br_f (by decide) (xl_kindN (Or.inr h) (br_t rfl (yl_bad hr (br_t rfl (yl_bad ha (br_t rfl (yl_bad hb (br_t rfl (br_c (fun _ => ⟨rfl, H, C⟩) (fun _ => br_f (zn_nle (n := 3) (by decide) h) ⟨rfl, H, C⟩)))))))))))))))
  · have R := zz_upd hr H C (fun y => xm_mix q (u (a * 24 + y)) (u (b * 24 + y))) (fun i => zb_I (ym_mix q (zz_g u a i) (zz_g u b i))) (by
      intro y hy i hi h32
      show bt (xm_mix _ _ _) i = false
      rw [xm_bt _ _ _ h32, H _ (by omega) i hi, H _ (by omega) i hi]
      match q with
      | 0 => rfl
      | 1 => rfl
      | 2 => rfl
      | _ + 3 => rfl) (by
      intro y x hy hx
      show zb_I (ym_mix _ _ _) = zb_I (bt (xm_mix _ _ _) x)
      rw [xm_bt _ _ _ (by omega), zz_ga u a hx, zz_ga u b hx])
    refine xl_comb hr ha hb (by omega) rfl (yl_comb hr ha hb (by omega) (zz_gc C ha) (zz_gc C hb) rfl ⟨?_, R⟩)
    rw [ya_xc hr R.2]
