/-! rectangle: the i-th run -/
theorem zs_find {f : Nat → Nat} (h1 : ∀ i, f i ≤ 1) (k : Nat) : ∀ n, k < zs_sm f n → ∃ x, x < n ∧ f x = 1 ∧ zs_sm f x = k := by
  intro n
  induction n with
  | zero => intro h; exact absurd h (Nat.not_lt_zero k)
  | succ n ih =>
    intro h
    rw [zs_s] at h
    by_cases z : k < zs_sm f n
    · obtain ⟨x, a, b, c⟩ := ih z
      exact ⟨x, by omega, b, c⟩
    · have := h1 n
      exact ⟨n, by omega, by omega, by omega⟩
theorem zs_const {f : Nat → Nat} {a b : Nat} (hab : a ≤ b) (h : ∀ j, a ≤ j → j < b → f j = 0) : zs_sm f b = zs_sm f a := by
  obtain ⟨c, rfl⟩ : ∃ c, b = a + c := ⟨b - a, by omega⟩
  rw [zs_add, (zs_zero c).mpr (fun i hi => h (a + i) (by omega) (by omega)), Nat.add_zero]
theorem zs_b1 (x : Int32) : ∀ i, (bt x i).toNat ≤ 1 := fun i => by cases bt x i <;> decide
theorem xl_bn_l {post : Int32 → Prop} (row : Int32) {x0 : Nat} (h0 : x0 < 24) (hb : bt row x0 = true) (h : post (nI x0)) : ∀ d x, x + d = x0 → wX_bitNumbered_4 post row (nI (zs_sm (fun i => (bt row i).toNat) x0)) (d + 1) (nI (zs_sm (fun i => (bt row i).toNat) x)) (nI x) := by
  have hle := zs_le (zs_b1 row)
  intro d
  induction d with
  | zero =>
    intro x hx
    obtain rfl : x = x0 := by omega
    refine br_f (nI_ge (b := 24) (by omega) (by decide)) ?_
    rw [zb_bit _ (by omega), hb]
    exact br_t rfl (br_t rfl h)
  | succ d ih =>
    intro x hx
    have g := ih (x + 1) (by omega)
    rw [zs_s] at g
    refine br_f (nI_ge (b := 24) (by omega) (by decide)) ?_
    rw [zb_bit _ (by omega)]
    cases e : bt row x with
    | false =>
      rw [e] at g
      exact br_f (by decide) (nm_r (nI_1 x) g)
    | true =>
      have m := zs_mono (fun i => (bt row i).toNat) (show x + 1 ≤ x0 by omega)
      rw [zs_s, e] at m
      have m' : zs_sm (fun i => (bt row i).toNat) x + 1 ≤ zs_sm (fun i => (bt row i).toNat) x0 := m
      have l1 := hle x0
      rw [e] at g
      refine br_t rfl (br_f (fun q => ?_) (nm_r (nI_1 _) (nm_r (nI_1 x) g)))
      rw [nI_eq (by omega) (by omega)] at q
      omega
theorem xl_bn {post : Int32 → Prop} (row : Int32) {x0 k : Nat} (h0 : x0 < 24) (hb : bt row x0 = true) (hk : zs_sm (fun i => (bt row i).toNat) x0 = k) (h : post (nI x0)) : wpX_bitNumbered post row (nI k) := by
  subst hk
  exact ⟨x0 + 1, xl_bn_l row h0 hb h x0 0 (Nat.zero_add x0)⟩
theorem xl_bb_l {post : Int32 → Prop} (u : Nat → Int32) {r y b : Nat} (hr : r < 3) (hb : b < 24) (he : ∀ j, y < j → j ≤ b → u (r * 24 + j) = u (r * 24 + y)) (hn : b + 1 = 24 ∨ ¬ u (r * 24 + (b + 1)) = u (r * 24 + y)) (h : post (nI b)) : ∀ d j, j + d = b → y ≤ j → wX_bandBottom_20 post (nI r) (u (r * 24 + y)) u (d + 1) (nI j) (nI (j + 1)) := by
  intro d
  induction d with
  | zero =>
    intro j hj hy
    obtain rfl : j = b := by omega
    by_cases z : j + 1 = 24
    · rw [z]
      exact br_t (nI_le (a := 24) (b := 24) (by omega) (by decide)) h
    · refine br_f (nI_ge (b := 24) (by omega) (by decide)) ?_
      rw [zn_24, zn_cl (by omega)]
      exact ⟨zn_in (by omega) (by decide), br_f (hn.resolve_left z) h⟩
  | succ d ih =>
    intro j hj hy
    refine br_f (nI_ge (b := 24) (by omega) (by decide)) ?_
    rw [zn_24, zn_cl (by omega)]
    exact ⟨zn_in (by omega) (by decide), br_t (he (j + 1) (by omega) (by omega)) (nm_r (nI_1 (j + 1)) (ih (j + 1) (by omega) (by omega)))⟩
theorem xl_bb {post : Int32 → Prop} (u : Nat → Int32) {r y b : Nat} (hr : r < 3) (hy : y ≤ b) (hb : b < 24) (he : ∀ j, y < j → j ≤ b → u (r * 24 + j) = u (r * 24 + y)) (hn : b + 1 = 24 ∨ ¬ u (r * 24 + (b + 1)) = u (r * 24 + y)) (h : post (nI b)) : wpX_bandBottom post u (nI r) (nI y) := by
  unfold wpX_bandBottom
  rw [zn_24, zn_cl (by omega)]
  exact ⟨zn_in (by omega) (by decide), nm_e (nm_r (nI_1 y) ⟨b - y + 1, xl_bb_l u hr hb he hn h (b - y) y (by omega) (Nat.le_refl y)⟩)⟩
theorem xl_pr {post : Int32 → Prop} (u : Nat → Int32) {r y k x0 x1 b : Nat} (hr : r < 3) (hy : y ≤ b) (hb : b < 24) (he : ∀ j, y < j → j ≤ b → u (r * 24 + j) = u (r * 24 + y)) (hn : b + 1 = 24 ∨ ¬ u (r * 24 + (b + 1)) = u (r * 24 + y)) (h0 : x0 < 24) (hs : bt (xr_st (u (r * 24 + y))) x0 = true) (hsk : zs_sm (fun i => (bt (xr_st (u (r * 24 + y))) i).toNat) x0 = k) (h1 : x1 < 24) (hes : bt (xr_en (u (r * 24 + y))) x1 = true) (hek : zs_sm (fun i => (bt (xr_en (u (r * 24 + y))) i).toNat) x1 = k) (h : post (((nI x0 + (32 * nI y)) + (1024 * nI x1)) + (32768 * nI b))) : wpX_packRun post u (nI r) (nI y) (nI k) := by
  unfold wpX_packRun
  rw [zn_24, zn_cl (by omega)]
  refine ⟨zn_in (by omega) (by decide), nm_e ?_⟩
  unfold wpX_runStarts
  refine nm_e ?_
  exact xl_bn (xr_st (u (r * 24 + y))) h0 hs hsk (xl_bn (xr_en (u (r * 24 + y))) h1 hes hek (xl_bb u hr hy hb he hn h))
/-! how far a run or a band goes -/
def yf_l (f : Nat → Bool) : Nat → Nat → Nat
  | 0, a => a
  | n + 1, a => yf_l f n (cond (f (a + 1)) (a + 1) a)
theorem yf_ls (f : Nat → Bool) (n a : Nat) : yf_l f (n + 1) a = yf_l f n (cond (f (a + 1)) (a + 1) a) := rfl
theorem yf_stay {f : Nat → Bool} : ∀ n a, f (a + 1) = false → yf_l f n a = a := by
  intro n
  induction n with
  | zero => intro a _; rfl
  | succ n ih =>
    intro a h
    rw [yf_ls, h]
    exact ih a h
theorem yf_spec {f : Nat → Bool} : ∀ n a, a ≤ yf_l f n a ∧ (∀ j, a < j → j ≤ yf_l f n a → f j = true) ∧ (f (yf_l f n a + 1) = false ∨ yf_l f n a = a + n) := by
  intro n
  induction n with
  | zero => intro a; exact ⟨Nat.le_refl a, fun j h1 h2 => absurd h1 (Nat.not_lt.mpr h2), Or.inr rfl⟩
  | succ n ih =>
    intro a
    cases e : f (a + 1) with
    | false =>
      rw [yf_stay (n + 1) a e]
      exact ⟨Nat.le_refl a, fun j h1 h2 => absurd h1 (Nat.not_lt.mpr h2), Or.inl e⟩
    | true =>
      rw [yf_ls, e]
      obtain ⟨p, q, s⟩ := ih (a + 1)
      refine ⟨by dsimp only [cond_true]; omega, fun j h1 h2 => ?_, ?_⟩
      · by_cases z : j = a + 1
        · rw [z]; exact e
        · exact q j (by omega) h2
      · rcases s with s | s
        · exact Or.inl s
        · exact Or.inr (by dsimp only [cond_true]; omega)
/-- within 24 -/
theorem yf_24 {f : Nat → Bool} (hf : ∀ j, 24 ≤ j → f j = false) {a : Nat} (ha : a < 24) : a ≤ yf_l f 24 a ∧ yf_l f 24 a < 24 ∧ (∀ j, a < j → j ≤ yf_l f 24 a → f j = true) ∧ f (yf_l f 24 a + 1) = false := by
  obtain ⟨p, q, s⟩ := yf_spec (f := f) 24 a
  have lt : yf_l f 24 a < 24 := by
    rcases Nat.lt_or_ge (yf_l f 24 a) 24 with z | z
    · exact z
    · have h := q (yf_l f 24 a) (by omega) (Nat.le_refl _)
      rw [hf _ z] at h
      exact absurd h (by decide)
  refine ⟨p, lt, q, ?_⟩
  rcases s with s | s
  · exact s
  · omega
def yf_e (u : Nat → Int32) (r y j : Nat) : Bool := decide (j < 24 ∧ u (r * 24 + j) = u (r * 24 + y))
theorem yl_hasS {post : Int32 → Prop} {u c w : Nat → Int32} (H : zz_H u) (C : zz_C u c) {r x y : Nat} (hr : r < 3) (hx : x < 24) (hy : y < 24) (h : post (zb_I (bt (u (r * 24 + y)) (x + 1)))) : wpY_has post (c, w) (nI r) (nI x + 1) (nI y) := by
  rw [nI_1]
  by_cases z : x + 1 < 24
  · exact yl_has C hr z hy h
  · rw [H _ (by omega) _ (by omega)] at h
    exact yl_hasX hr (Or.inr (nI_le (by omega) (by omega))) h
theorem yl_eqS {post : Int32 → Prop} {u c w : Nat → Int32} (H : zz_H u) (C : zz_C u c) {r y b : Nat} (hr : r < 3) (hb : b < 24) (hy : y < 24) (h : post (zb_I (yf_e u r y (b + 1)))) : wpY_equalRows post (c, w) (nI r) (nI b + 1) (nI y) := by
  rw [nI_1]
  unfold yf_e at h
  by_cases z : b + 1 < 24
  · refine yl_eq H C hr z hy (fun q => ?_) (fun q => ?_)
    · rw [decide_eq_true ⟨z, q⟩] at h
      exact h
    · rw [decide_eq_false (fun k => q k.2)] at h
      exact h
  · rw [decide_eq_false (fun k => z k.1)] at h
    exact yl_eqN hy (Or.inr (nI_le (by omega) (by omega))) h
theorem yl_from_l {post : Int32 → Prop} {u c w : Nat → Int32} (H : zz_H u) (C : zz_C u c) {r x y : Nat} (hr : r < 3) (hy : y < 24) : ∀ d k a b, k + d = 24 → a < 24 → b < 24 → post (((nI x + (32 * nI y)) + (1024 * nI (yf_l (bt (u (r * 24 + y))) d a))) + (32768 * nI (yf_l (yf_e u r y) d b))) → wY_from_9 post (nI r) (nI x) (nI y) c w (d + 1) (nI a) (nI b) (nI k) := by
  intro d
  induction d with
  | zero =>
    intro k a b hk ha hb h
    obtain rfl : k = 24 := by omega
    exact br_t (nI_le (a := 24) (b := 24) (by omega) (by decide)) h
  | succ d ih =>
    intro k a b hk ha hb h
    rw [yf_ls, yf_ls] at h
    have step : ∀ a', a' < 24 → post (((nI x + (32 * nI y)) + (1024 * nI (yf_l (bt (u (r * 24 + y))) d a'))) + (32768 * nI (yf_l (yf_e u r y) d (cond (yf_e u r y (b + 1)) (b + 1) b)))) → wY_from_32 post (wY_from_9 post (nI r) (nI x) (nI y) c w (d + 1)) (nI r) (nI x) (nI y) (nI a') (nI b) (nI k) c w := fun a' ha' h' => by
      unfold wY_from_32
      refine yl_eqS H C hr hb hy ?_
      cases e : yf_e u r y (b + 1) with
      | false =>
        rw [e] at h'
        exact br_t rfl (nm_r (nI_1 k) (ih (k + 1) a' b (by omega) ha' hb h'))
      | true =>
        rw [e] at h'
        have lt : b + 1 < 24 := by
          unfold yf_e at e
          exact (of_decide_eq_true e).1
        exact br_f (by decide) (nm_r (nI_1 b) (nm_r (nI_1 k) (ih (k + 1) a' (b + 1) (by omega) ha' lt h')))
    refine br_f (nI_ge (b := 24) (by omega) (by decide)) (yl_hasS H C hr ha hy ?_)
    cases e : bt (u (r * 24 + y)) (a + 1) with
    | false =>
      rw [e] at h
      exact br_t rfl (step a ha h)
    | true =>
      rw [e] at h
      have lt : a + 1 < 24 := by
        rcases Nat.lt_or_ge (a + 1) 24 with z | z
        · exact z
        · rw [H _ (by omega) _ z] at e
          exact absurd e (by decide)
      exact br_f (by decide) (nm_r (nI_1 a) (step (a + 1) lt h))
theorem yl_from {post : Int32 → Prop} {u c w : Nat → Int32} (H : zz_H u) (C : zz_C u c) {r x y : Nat} (hr : r < 3) (hx : x < 24) (hy : y < 24) (h : post (((nI x + (32 * nI y)) + (1024 * nI (yf_l (bt (u (r * 24 + y))) 24 x))) + (32768 * nI (yf_l (yf_e u r y) 24 y)))) : wpY_from post (c, w) (nI r) (nI x) (nI y) := by
  unfold wpY_from
  exact ⟨25, yl_from_l H C hr hy 24 0 x y rfl hx hy h⟩
/-- as many runs have begun below x + 1 as have ended below x, and one more where x is set -/
theorem zq_se (row : Int32) : ∀ x, x < 24 → zs_sm (fun i => (bt (xr_st row) i).toNat) (x + 1) = zs_sm (fun i => (bt (xr_en row) i).toNat) x + (bt row x).toNat := by
  intro x
  induction x with
  | zero =>
    intro _
    show 0 + (bt (xr_st row) 0).toNat = 0 + (bt row 0).toNat
    rw [xr_stb row (by omega), decide_eq_false (by omega), Bool.false_and, Bool.not_false, Bool.and_true]
  | succ x ih =>
    intro hx
    rw [zs_s, ih (by omega), zs_s, xr_stb row (by omega), xr_enb row (by omega), Nat.add_sub_cancel, decide_eq_true (by omega)]
    cases bt row x <;> cases bt row (x + 1) <;> simp <;> omega
theorem zq_end {row : Int32} {x0 l k : Nat} (h0 : x0 < 24) (hs : bt (xr_st row) x0 = true) (hk : zs_sm (fun i => (bt (xr_st row) i).toNat) x0 = k) (hl : x0 ≤ l) (hl2 : l < 24) (hr : ∀ j, x0 < j → j ≤ l → bt row j = true) (he : bt row (l + 1) = false) : bt (xr_en row) l = true ∧ zs_sm (fun i => (bt (xr_en row) i).toNat) l = k := by
  have hb : bt row x0 = true := by
    rw [xr_stb row (by omega), Bool.and_eq_true] at hs
    exact hs.1
  have hbl : bt row l = true := by
    by_cases z : l = x0
    · rw [z]; exact hb
    · exact hr l (by omega) (Nat.le_refl l)
  constructor
  · rw [xr_enb row (by omega), hbl, he]
    rfl
  · have q := zq_se row x0 h0
    rw [zs_s, hs, hb, hk] at q
    have q : k + 1 = zs_sm (fun i => (bt (xr_en row) i).toNat) x0 + 1 := q
    rw [zs_const hl (fun j h1 h2 => by
      rw [xr_enb row (by omega), hr (j + 1) (by omega) (by omega), Bool.not_true, Bool.and_false]
      rfl)]
    omega
/-! the two loops -/
theorem yl_rect_m {post : Int32 → Prop} {J : Int32 → Int32 → Prop} {u c w : Nat → Int32} (H : zz_H u) (C : zz_C u c) {r y A : Nat} (hr : r < 3) (hy : y < 24) {v2 : Int32} (hm : ∀ x, x < 24 → bt (xr_rs u r y) x = true → ¬ nI (A + zs_sm (fun x => (bt (xr_rs u r y) x).toNat) x) = v2) (h : J (nI (A + xr_n u r y)) (nI (y + 1))) : ∀ d x, x + d = 24 → wY_rectangle_25 post J (nI r) v2 (nI y) c w (d + 1) (nI (A + zs_sm (fun x => (bt (xr_rs u r y) x).toNat) x)) (nI x) := by
  intro d
  induction d with
  | zero =>
    intro x hx
    obtain rfl : x = 24 := by omega
    exact br_t (nI_le (a := 24) (b := 24) (by omega) (by decide)) (nm_r (nI_1 y) h)
  | succ d ih =>
    intro x hx
    have g := ih (x + 1) (by omega)
    rw [zs_s] at g
    refine br_f (nI_ge (b := 24) (by omega) (by decide)) (yl_begins H C hr hy (by omega) (br_c (fun z => nm_r (nI_1 x) ?_) (fun z => br_f (hm x (by omega) ?_) (nm_r (nI_1 _) (nm_r (nI_1 x) ?_)))))
    · rw [zb_eq0.mp z] at g
      exact g
    · rw [zb_eq0, Bool.not_eq_false] at z
      exact z
    · rw [zb_eq0, Bool.not_eq_false] at z
      rw [z] at g
      exact g
theorem yl_rect_h {post : Int32 → Prop} {J : Int32 → Int32 → Prop} {u c w : Nat → Int32} (H : zz_H u) (C : zz_C u c) {r y A x0 : Nat} (hr : r < 3) (hy : y < 24) (hA : A ≤ 576) (h0 : x0 < 24) (hb : bt (xr_rs u r y) x0 = true) {v2 : Int32} (hv : v2 = nI (A + zs_sm (fun x => (bt (xr_rs u r y) x).toNat) x0)) (h : wpY_from post (c, w) (nI r) (nI x0) (nI y)) : ∀ d x, x + d = x0 → wY_rectangle_25 post J (nI r) v2 (nI y) c w (d + 1) (nI (A + zs_sm (fun x => (bt (xr_rs u r y) x).toNat) x)) (nI x) := by
  have hle := zs_le (zs_b1 (xr_rs u r y))
  intro d
  induction d with
  | zero =>
    intro x hx
    obtain rfl : x = x0 := by omega
    refine br_f (nI_ge (b := 24) (by omega) (by decide)) (yl_begins H C hr hy (by omega) ?_)
    rw [hb]
    exact br_f (by decide) (br_t hv.symm h)
  | succ d ih =>
    intro x hx
    have g := ih (x + 1) (by omega)
    rw [zs_s] at g
    refine br_f (nI_ge (b := 24) (by omega) (by decide)) (yl_begins H C hr hy (by omega) ?_)
    cases e : bt (xr_rs u r y) x with
    | false =>
      rw [e] at g
      exact br_t rfl (nm_r (nI_1 x) g)
    | true =>
      have m := zs_mono (fun x => (bt (xr_rs u r y) x).toNat) (show x + 1 ≤ x0 by omega)
      rw [zs_s, e] at m
      have m' : zs_sm (fun x => (bt (xr_rs u r y) x).toNat) x + 1 ≤ zs_sm (fun x => (bt (xr_rs u r y) x).toNat) x0 := m
      have l1 := hle x0
      rw [e] at g
      refine br_f (by decide) (br_f (fun q => ?_) (nm_r (nI_1 _) (nm_r (nI_1 x) g)))
      rw [hv, nI_eq (by omega) (by omega)] at q
      omega
theorem zq_neg {post : Int32 → Prop} {u c w : Nat → Int32} (H : zz_H u) (C : zz_C u c) {r : Nat} (hr : r < 3) {v2 : Int32} (hv : v2 < 0) (h : post (-3)) : ∀ d y A, y + d = 24 → A ≤ y * 24 → wY_rectangle_15 post (nI r) v2 c w (d + 1) (nI A) (nI y) := by
  intro d
  induction d with
  | zero =>
    intro y A hy hA
    obtain rfl : y = 24 := by omega
    exact br_t (nI_le (a := 24) (b := 24) (by omega) (by decide)) h
  | succ d ih =>
    intro y A hy hA
    have hle := zs_le (zs_b1 (xr_rs u r y))
    have hN : xr_n u r y ≤ 24 := hle 24
    exact br_f (nI_ge (b := 24) (by omega) (by decide)) ⟨25, yl_rect_m (A := A) H C hr (by omega) (fun x hx _ q => by
      rw [← q] at hv
      have := hle x
      exact nI_pos (by omega) hv) (ih (y + 1) (A + xr_n u r y) (by omega) (by omega)) 24 0 rfl⟩
theorem zq_main {u c w : Nat → Int32} (H : zz_H u) (C : zz_C u c) {r i : Nat} (hr : r < 3) (hi : i < 2 ^ 31) : ∀ d y A, y + d = 24 → A ≤ i → A ≤ y * 24 → ∃ ans : Int32, (∀ post : Int32 → Prop, post ans → wX_rectangle_21 post (nI r) u (d + 1) (nI (i - A)) (nI y)) ∧ (∀ post : Int32 → Prop, post ans → wY_rectangle_15 post (nI r) (nI i) c w (d + 1) (nI A) (nI y)) := by
  intro d
  induction d with
  | zero =>
    intro y A hy hA hA2
    obtain rfl : y = 24 := by omega
    exact ⟨-3, fun post h => br_t (nI_le (a := 24) (b := 24) (by omega) (by decide)) h, fun post h => br_t (nI_le (a := 24) (b := 24) (by omega) (by decide)) h⟩
  | succ d ih =>
    intro y A hy hA hA2
    have ge : ¬ (24 : Int32) ≤ nI y := nI_ge (b := 24) (by omega) (by decide)
    have hle := zs_le (zs_b1 (xr_rs u r y))
    have hN : xr_n u r y ≤ 24 := hle 24
    by_cases z : i - A < xr_n u r y
    · obtain ⟨x0, h0, hb, hk⟩ := zs_find (zs_b1 (xr_rs u r y)) (i - A) 24 z
      have hb : bt (xr_rs u r y) x0 = true := by
        cases e : bt (xr_rs u r y) x0 with
        | true => rfl
        | false => rw [e] at hb; exact absurd hb (by decide)
      have hst : xr_rs u r y = xr_st (u (r * 24 + y)) := by
        unfold xr_rs
        by_cases q : 0 < y ∧ u (r * 24 + (y - 1)) = u (r * 24 + y)
        · unfold xr_rs at hb
          rw [if_pos q, b_0] at hb
          exact absurd hb (by decide)
        · rw [if_neg q]
      obtain ⟨p1, p2, p3, p4⟩ := yf_24 (f := bt (u (r * 24 + y))) (fun j hj => H _ (by omega) j hj) h0
      obtain ⟨q1, q2, q3, q4⟩ := yf_24 (f := yf_e u r y) (fun j hj => decide_eq_false (fun k => absurd k.1 (by omega))) (a := y) (by omega)
      have hs := hb
      have hsk := hk
      rw [hst] at hs hsk
      obtain ⟨e1, e2⟩ := zq_end h0 hs hsk p1 p2 p3 p4
      refine ⟨((nI x0 + (32 * nI y)) + (1024 * nI (yf_l (bt (u (r * 24 + y))) 24 x0))) + (32768 * nI (yf_l (yf_e u r y) 24 y)), fun post h => ?_, fun post h => ?_⟩
      · refine br_f ge (xl_runs u hr (by omega) (br_f (nI_ge z (by omega)) ?_))
        refine xl_pr u hr q1 q2 (fun j j1 j2 => ?_) ?_ h0 hs hsk p2 e1 e2 h
        · exact (of_decide_eq_true (q3 j j1 j2)).2
        · by_cases t : yf_l (yf_e u r y) 24 y + 1 = 24
          · exact Or.inl t
          · refine Or.inr (fun k => ?_)
            have := of_decide_eq_false q4
            exact this ⟨by omega, k⟩
      · exact br_f ge ⟨x0 + 1, yl_rect_h (A := A) H C hr (by omega) (by omega) h0 hb (by rw [hk]; exact congrArg nI (by omega)) (yl_from H C hr h0 (by omega) h) x0 0 (Nat.zero_add x0)⟩
    · obtain ⟨ans, hX, hY⟩ := ih (y + 1) (A + xr_n u r y) (by omega) (by omega) (by omega)
      refine ⟨ans, fun post h => br_f ge (xl_runs u hr (by omega) (br_t (nI_le (by omega) (by omega)) (nm_r (pk_sub (by omega)) (nm_r (nI_1 y) ?_)))), fun post h => br_f ge ⟨25, yl_rect_m (A := A) H C hr (by omega) (fun x hx hb q => ?_) (hY post h) 24 0 rfl⟩⟩
      · have g := hX post h
        rw [← Nat.sub_sub] at g
        exact g
      · have m := zs_mono (fun x => (bt (xr_rs u r y) x).toNat) (show x + 1 ≤ 24 by omega)
        rw [zs_s, hb] at m
        have m' : zs_sm (fun x => (bt (xr_rs u r y) x).toNat) x + 1 ≤ xr_n u r y := m
        rw [nI_eq (by omega) hi] at q
        omega
theorem i_vc_rectangle {k : Nat} {u : SX} {v : SY} (I : i_Rel k u v) (hk : k + 5 ≤ 2560) (v1 : Int32) (v2 : Int32) : wpX_rectangle (fun r => wpY_rectangle (fun r' => r' = r ∧ i_Rel (k + 5) u v) v v1 v2) u v1 v2 := by
  obtain ⟨c, w⟩ := v
  obtain ⟨H, C⟩ := I
  have C : zz_C u c := C
  unfold wpX_rectangle wpY_rectangle
  dsimp only
  rcases pk_ix v1 (n := 3) (by decide) with h | h | ⟨r, hr, rfl⟩
  · exact xl_regN (Or.inl h) (br_t rfl (yl_badN (Or.inl h) (br_f (by decide) ⟨rfl, H, C⟩)))
  · exact xl_regN (Or.inr h) (br_t rfl (yl_badN (Or.inr h) (br_f (by decide) ⟨rfl, H, C⟩)))
  refine xl_reg hr (br_f (by decide) ?_)
  by_cases h0 : v2 < 0
  · refine br_f (Int32.not_le.mpr h0) ?_
    refine yl_bad hr (br_t rfl ⟨25, zq_neg H C hr h0 ?_ 24 0 0 rfl (Nat.le_refl 0)⟩)
    exact ⟨rfl, H, C⟩
  · obtain ⟨i, hi, rfl⟩ := nI_of h0
    obtain ⟨ans, hX, hY⟩ := zq_main (w := w) H C hr hi 24 0 0 rfl (Nat.zero_le i) (Nat.le_refl 0)
    refine br_t (nI_pos' hi) ⟨25, hX _ ?_⟩
    refine yl_bad hr (br_t rfl ⟨25, hY _ ?_⟩)
    exact ⟨rfl, H, C⟩
