/-! move -/
theorem zn_sum {x : Nat} (hx : x < 24) (d : Int32) : (0 ≤ (x : Int) + d.toInt ∧ (x : Int) + d.toInt < 24 ∧ nI x + d = nI ((x : Int) + d.toInt).toNat) ∨ (¬ (0 ≤ (x : Int) + d.toInt ∧ (x : Int) + d.toInt < 24) ∧ (nI x + d < 0 ∨ (24 : Int32) ≤ nI x + d)) := by
  have h1 := Int32.le_toInt d
  have h2 := Int32.toInt_lt d
  have e : (nI x + d).toInt = ((x : Int) + d.toInt).bmod (2 ^ 32) := by rw [Int32.toInt_add, nI_toInt (by omega)]
  rw [Int.bmod_def] at e
  have z0 : (0 : Int32).toInt = 0 := by decide
  have z24 : (24 : Int32).toInt = 24 := by decide
  by_cases h : 0 ≤ (x : Int) + d.toInt ∧ (x : Int) + d.toInt < 24
  · refine Or.inl ⟨h.1, h.2, ?_⟩
    apply Int32.toInt_inj.mp
    rw [e, nI_toInt (by omega)]
    split <;> omega
  · refine Or.inr ⟨h, ?_⟩
    rw [Int32.lt_iff_toInt_lt, Int32.le_iff_toInt_le, z0, z24]
    split at e <;> omega
theorem zn_near (x : Int32) : (24 : Int32) ≤ x ∨ ¬ (-24 : Int32) < x ∨ (¬ (24 : Int32) ≤ x ∧ (-24 : Int32) < x ∧ ((∃ d, d < 24 ∧ x = nI d ∧ x.toInt = (d : Int)) ∨ (∃ d, 0 < d ∧ d < 24 ∧ x = -nI d ∧ x.toInt = -(d : Int)))) := by
  by_cases h1 : (24 : Int32) ≤ x
  · exact Or.inl h1
  by_cases h2 : (-24 : Int32) < x
  · refine Or.inr (Or.inr ⟨h1, h2, ?_⟩)
    rw [Int32.le_iff_toInt_le] at h1
    rw [Int32.lt_iff_toInt_lt] at h2
    have z24 : (24 : Int32).toInt = 24 := by decide
    have y24 : (-24 : Int32).toInt = -24 := by decide
    by_cases h0 : 0 ≤ x.toInt
    · refine Or.inl ⟨x.toInt.toNat, by omega, ?_, by omega⟩
      apply Int32.toInt_inj.mp
      rw [nI_toInt (by omega)]
      omega
    · refine Or.inr ⟨(-x.toInt).toNat, by omega, by omega, ?_, by omega⟩
      apply Int32.toInt_inj.mp
      rw [Int32.toInt_neg, nI_toInt (by omega), Int.bmod_eq_of_le (by omega) (by omega)]
      omega
  · exact Or.inr (Or.inl h2)
theorem xl_far {post : Int32 → Prop} {x : Int32} (h : (24 : Int32) ≤ x ∨ ¬ (-24 : Int32) < x) (p : post 1) : wpX_isFar post x := br_c (fun _ => p) (fun n => br_f (h.resolve_left n) p)
theorem xl_nfar {post : Int32 → Prop} {x : Int32} (h1 : ¬ (24 : Int32) ≤ x) (h2 : (-24 : Int32) < x) (p : post 0) : wpX_isFar post x := br_f h1 (br_t h2 p)
theorem xl_clear_l {post : SX → Prop} {u : Nat → Int32} {r : Nat} (hr : r < 3) (h : post (zr_u u (r * 24) (fun _ => 0) 24)) : ∀ d y, y + d = 24 → wX_clear_2 post (nI r) (d + 1) (nI y) (zr_u u (r * 24) (fun _ => 0) y) := by
  intro d
  induction d with
  | zero =>
    intro y hy
    obtain rfl : y = 24 := by omega
    exact br_t (nI_le (a := 24) (b := 24) (by omega) (by decide)) h
  | succ d ih =>
    intro y hy
    refine br_f (nI_ge (b := 24) (by omega) (by decide)) ?_
    rw [zn_24, zn_cl (by omega)]
    exact ⟨zn_in (by omega) (by decide), nm_r (zr_s _ _ (fun _ => 0) _) (nm_r (nI_1 y) (ih (y + 1) (by omega)))⟩
theorem xl_clear {post : SX → Prop} {u : Nat → Int32} {r : Nat} (hr : r < 3) (h : post (zr_u u (r * 24) (fun _ => 0) 24)) : wpX_clear post u (nI r) := by
  have g := xl_clear_l hr h 24 0 rfl
  rw [zr_0] at g
  exact ⟨25, g⟩
def xs_a (dx row : Int32) : Int32 := if dx < 0 then row >>> ((-dx) &&& 31) else (row <<< (dx &&& 31)) &&& 16777215
theorem xl_sa_l {post : SX → Prop} {u : Nat → Int32} {r : Nat} (hr : r < 3) (dx : Int32) {F : Nat → Int32} (hF : F = fun y => xs_a dx (u (r * 24 + y))) (h : post (zr_u u (r * 24) F 24)) : ∀ d y, y + d = 24 → wX_shiftAcross_8 post dx (nI (r * 24)) (d + 1) (nI y) (zr_u u (r * 24) F y) := by
  intro d
  induction d with
  | zero =>
    intro y hy
    obtain rfl : y = 24 := by omega
    exact br_t (nI_le (a := 24) (b := 24) (by omega) (by decide)) h
  | succ d ih =>
    intro y hy
    refine br_f (nI_ge (b := 24) (by omega) (by decide)) ?_
    rw [zn_cl (by omega), zr_out (by omega)]
    refine ⟨zn_in (by omega) (by decide), nm_e (br_c (fun z => ⟨zn_in (by omega) (by decide), nm_r ?_ (nm_r (nI_1 y) (ih (y + 1) (by omega)))⟩) (fun z => ⟨zn_in (by omega) (by decide), nm_r ?_ (nm_r (nI_1 y) (ih (y + 1) (by omega)))⟩))⟩
    · rw [← zr_s, hF]
      dsimp only
      unfold xs_a
      rw [if_pos z]
    · rw [← zr_s, hF]
      dsimp only
      unfold xs_a
      rw [if_neg z]
theorem xl_sa {post : SX → Prop} {u : Nat → Int32} {r : Nat} (hr : r < 3) (dx : Int32) {F : Nat → Int32} (hF : F = fun y => xs_a dx (u (r * 24 + y))) (h : post (zr_u u (r * 24) F 24)) : wpX_shiftAcross post u (nI r) dx := by
  have g := xl_sa_l hr dx hF h 24 0 rfl
  rw [zr_0] at g
  exact nm_r (zn_24 r) ⟨25, g⟩
theorem xl_sd29 {post : SX → Prop} {J : Int32 → (Nat → Int32) → Prop} {a : Nat → Int32} {b y s : Nat} {x2 v : Int32} (hb : b + 24 ≤ 72) (hy : y < 24) (e : (∃ f, f < 24 ∧ nI y - x2 = nI f ∧ v = a (b + f)) ∨ ((nI y - x2 < 0 ∨ nI 24 ≤ nI y - x2) ∧ v = 0)) (h : J (nI (s + 1)) (upd a (b + y) v)) : wX_shiftDown_29 post J x2 (nI b) (nI s) (nI y) a := by
  rcases e with ⟨f, hf, e, rfl⟩ | ⟨e, rfl⟩
  · refine nm_r e (xl_scr hf (br_f (by decide) ?_))
    rw [zn_cl (by omega), zn_cl (by omega)]
    exact ⟨zn_in (by omega) (by decide), zn_in (by omega) (by decide), nm_e (nm_r (nI_1 s) h)⟩
  · refine nm_e (xl_scrN e (br_t rfl ?_))
    rw [zn_cl (by omega)]
    exact ⟨zn_in (by omega) (by decide), nm_e (nm_r (nI_1 s) h)⟩
/-- row y of the region at b, dl rows further up -/
def xs_d (u : Nat → Int32) (b : Nat) (dl : Int) (y : Nat) : Int32 := if 0 ≤ (y : Int) - dl ∧ (y : Int) - dl < 24 then u (b + ((y : Int) - dl).toNat) else 0
theorem xl_sdN_l {post : SX → Prop} {u : Nat → Int32} {b e : Nat} (hb : b + 24 ≤ 72) (he0 : 0 < e) (he : e < 24) {F : Nat → Int32} (hF : F = xs_d u b (-(e : Int))) (h : post (zr_u u b F 24)) : ∀ d y, y + d = 24 → wX_shiftDown_8 post (-nI e) (nI b) (d + 1) (nI y) (zr_u u b F y) := by
  have hn : -nI e < 0 := by
    rw [Int32.lt_iff_toInt_lt, Int32.toInt_neg, nI_toInt (by omega), Int.bmod_eq_of_le (by omega) (by omega), show (0 : Int32).toInt = 0 from by decide]
    omega
  intro d
  induction d with
  | zero =>
    intro y hy
    obtain rfl : y = 24 := by omega
    exact br_t (nI_le (a := 24) (b := 24) (by omega) (by decide)) h
  | succ d ih =>
    intro y hy
    have g := ih (y + 1) (by omega)
    rw [← zr_s] at g
    refine br_f (nI_ge (b := 24) (by omega) (by decide)) (br_t hn (xl_sd29 (v := F y) hb (by omega) ?_ g))
    have e6 : nI y - -nI e = nI (y + e) := by
      rw [← nI_add]
      grind
    rw [e6]
    by_cases z : y + e < 24
    · refine Or.inl ⟨y + e, z, rfl, ?_⟩
      rw [zr_out (by omega), hF]
      unfold xs_d
      rw [if_pos (by omega)]
      exact congrArg u (by omega)
    · refine Or.inr ⟨Or.inr (nI_le (by omega) (by omega)), ?_⟩
      rw [hF]
      exact if_neg (by omega)
/-- the rows of F from the last one on, s of them -/
def xs_r (u : Nat → Int32) (b : Nat) (F : Nat → Int32) (s : Nat) : Nat → Int32 := fun j => if b + 24 - s ≤ j ∧ j < b + 24 then F (j - b) else u j
theorem xs_r0 (u : Nat → Int32) (b : Nat) (F : Nat → Int32) : xs_r u b F 0 = u := funext fun j => if_neg (by omega)
theorem xs_r24 (u : Nat → Int32) (b : Nat) (F : Nat → Int32) : xs_r u b F 24 = zr_u u b F 24 := funext fun j => by
  unfold xs_r zr_u
  by_cases h : b ≤ j ∧ j < b + 24
  · rw [if_pos h, if_pos (by omega)]
  · rw [if_neg h, if_neg (by omega)]
theorem xs_rs (u : Nat → Int32) (b : Nat) (F : Nat → Int32) {s : Nat} (hs : s < 24) : upd (xs_r u b F s) (b + (23 - s)) (F (23 - s)) = xs_r u b F (s + 1) := by
  funext j
  by_cases h : j = b + (23 - s)
  · subst h
    rw [pk_us]
    unfold xs_r
    rw [if_pos (by omega)]
    exact congrArg F (by omega)
  · rw [pk_un h]
    unfold xs_r
    by_cases h2 : b + 24 - s ≤ j ∧ j < b + 24
    · rw [if_pos h2, if_pos (by omega)]
    · rw [if_neg h2, if_neg (by omega)]
theorem xl_sdP_l {post : SX → Prop} {u : Nat → Int32} {b e : Nat} (hb : b + 24 ≤ 72) (he : e < 24) {F : Nat → Int32} (hF : F = xs_d u b (e : Int)) (h : post (xs_r u b F 24)) : ∀ d y, y + d = 24 → wX_shiftDown_8 post (nI e) (nI b) (d + 1) (nI y) (xs_r u b F y) := by
  intro d
  induction d with
  | zero =>
    intro y hy
    obtain rfl : y = 24 := by omega
    exact br_t (nI_le (a := 24) (b := 24) (by omega) (by decide)) h
  | succ d ih =>
    intro y hy
    have g := ih (y + 1) (by omega)
    rw [← xs_rs u b F (by omega)] at g
    refine br_f (nI_ge (b := 24) (by omega) (by decide)) (br_f (nI_pos (by omega)) ?_)
    rw [show (23 : Int32) - nI y = nI (23 - y) from pk_sub (a := 23) (by omega)]
    refine xl_sd29 (v := F (23 - y)) hb (by omega) ?_ g
    by_cases z : e ≤ 23 - y
    · refine Or.inl ⟨23 - y - e, by omega, pk_sub z, ?_⟩
      unfold xs_r
      rw [if_neg (by omega), hF]
      unfold xs_d
      rw [if_pos (by omega)]
      exact congrArg u (by omega)
    · refine Or.inr ⟨Or.inl (pk_sneg (by omega) (by omega)), ?_⟩
      rw [hF]
      exact if_neg (by omega)
theorem xl_sd {post : SX → Prop} {u : Nat → Int32} {r : Nat} (hr : r < 3) {dy : Int32} (hd : (∃ d, d < 24 ∧ dy = nI d ∧ dy.toInt = (d : Int)) ∨ (∃ d, 0 < d ∧ d < 24 ∧ dy = -nI d ∧ dy.toInt = -(d : Int))) (h : post (zr_u u (r * 24) (xs_d u (r * 24) dy.toInt) 24)) : wpX_shiftDown post u (nI r) dy := by
  rcases hd with ⟨e, he, e1, e2⟩ | ⟨e, he0, he, e1, e2⟩
  · rw [e2, ← xs_r24] at h
    have g := xl_sdP_l (by omega) he rfl h 24 0 rfl
    rw [xs_r0, ← e1] at g
    exact nm_r (zn_24 r) ⟨25, g⟩
  · rw [e2] at h
    have g := xl_sdN_l (by omega) he0 he rfl h 24 0 rfl
    rw [zr_0, ← e1] at g
    exact nm_r (zn_24 r) ⟨25, g⟩
theorem zr_zr (u : Nat → Int32) (b : Nat) (F G : Nat → Int32) (i : Nat) : zr_u (zr_u u b F i) b G i = zr_u u b G i := by
  funext j
  by_cases h : b ≤ j ∧ j < b + i
  · rw [zr_at h, zr_at h]
  · rw [zr_out (by omega), zr_out (by omega), zr_out (by omega)]
/-- the bits of a row that was shifted across -/
theorem xs_abt {dx row : Int32} (hd : (∃ d, d < 24 ∧ dx = nI d ∧ dx.toInt = (d : Int)) ∨ (∃ d, 0 < d ∧ d < 24 ∧ dx = -nI d ∧ dx.toInt = -(d : Int))) (hrow : ∀ i, 24 ≤ i → bt row i = false) {x : Nat} (hx : x < 32) : bt (xs_a dx row) x = (decide (x < 24 ∧ 0 ≤ (x : Int) - dx.toInt ∧ (x : Int) - dx.toInt < 24) && bt row ((x : Int) - dx.toInt).toNat) := by
  unfold xs_a
  rcases hd with ⟨e, he, e1, e2⟩ | ⟨e, he0, he, e1, e2⟩
  · rw [e2, e1, if_neg (nI_pos (by omega)), b_and, b_shl e (by omega) _ hx, zb_ff x hx]
    by_cases z : x < 24 ∧ e ≤ x
    · rw [decide_eq_true z.1, decide_eq_true z.2, decide_eq_true (by omega), show ((x : Int) - (e : Int)).toNat = x - e by omega, Bool.and_true]
    · rw [decide_eq_false (by omega : ¬ (x < 24 ∧ 0 ≤ (x : Int) - (e : Int) ∧ (x : Int) - (e : Int) < 24)), Bool.false_and]
      by_cases z1 : x < 24
      · rw [decide_eq_false (by omega : ¬ e ≤ x), Bool.false_and, Bool.false_and]
      · rw [decide_eq_false z1, Bool.and_false]
  · have hn : -nI e < 0 := by
      rw [Int32.lt_iff_toInt_lt, Int32.toInt_neg, nI_toInt (by omega), Int.bmod_eq_of_le (by omega) (by omega), show (0 : Int32).toInt = 0 from by decide]
      omega
    have hnn : - -nI e = nI e := by grind
    rw [e2, e1, if_pos hn, hnn, b_sshr e (by omega) _ hx]
    by_cases z : x < 24 ∧ e + x < 24
    · rw [if_pos (by omega), decide_eq_true (by omega), show ((x : Int) - -(e : Int)).toNat = e + x by omega, Bool.true_and]
    · rw [decide_eq_false (by omega), Bool.false_and]
      by_cases z1 : e + x < 32
      · rw [if_pos z1]
        exact hrow _ (by omega)
      · rw [if_neg z1]
        exact hrow _ (by omega)
/-! the reference's move: what stands at q once the cells below p were carried over -/
def ym_S (g : Nat → Bool) (dx dy : Int) (p : Nat) (q : Nat) : Bool := decide (0 ≤ ((q % 24 : Nat) : Int) - dx ∧ ((q % 24 : Nat) : Int) - dx < 24 ∧ 0 ≤ ((q / 24 : Nat) : Int) - dy ∧ ((q / 24 : Nat) : Int) - dy < 24 ∧ (((q / 24 : Nat) : Int) - dy) * 24 + (((q % 24 : Nat) : Int) - dx) < (p : Int)) && g ((((q / 24 : Nat) : Int) - dy) * 24 + (((q % 24 : Nat) : Int) - dx)).toNat
theorem ym_S0 (g : Nat → Bool) (dx dy : Int) (q : Nat) : ym_S g dx dy 0 q = false := by
  unfold ym_S
  rw [decide_eq_false (by omega), Bool.false_and]
theorem ym_Sn {g : Nat → Bool} {dx dy : Int} {y x q : Nat} (hx : x < 24) (h : ¬ ((0 ≤ (x : Int) + dx ∧ (x : Int) + dx < 24) ∧ (0 ≤ (y : Int) + dy ∧ (y : Int) + dy < 24)) ∨ (q : Int) ≠ ((y : Int) + dy) * 24 + ((x : Int) + dx)) (hq : q < 576) : ym_S g dx dy (y * 24 + x + 1) q = ym_S g dx dy (y * 24 + x) q := by
  unfold ym_S
  refine congrArg (fun b => b && g _) (decide_eq_decide.mpr ?_)
  omega
theorem ym_Ss {g : Nat → Bool} {dx dy : Int} {y x q : Nat} (hx : x < 24) (hy : y < 24) (hX : 0 ≤ (x : Int) + dx ∧ (x : Int) + dx < 24) (hY : 0 ≤ (y : Int) + dy ∧ (y : Int) + dy < 24) (hq : (q : Int) = ((y : Int) + dy) * 24 + ((x : Int) + dx)) : ym_S g dx dy (y * 24 + x + 1) q = g (y * 24 + x) := by
  unfold ym_S
  have e1 : ((q % 24 : Nat) : Int) - dx = x := by omega
  have e2 : ((q / 24 : Nat) : Int) - dy = y := by omega
  rw [e1, e2, decide_eq_true (by omega), Bool.true_and]
  exact congrArg g (by omega)
theorem yl_mv_3 {post : Int32 → SY → Prop} {c w : Nat → Int32} {r : Nat} (hr : r < 3) {G : Nat → Int32} (hw : ∀ i, i < 576 → vp_nar .boolean (w i) = G i) (h : post (nI (ya_ar (zr_u c (r * 576) G 576) r)) (zr_u c (r * 576) G 576, w)) : ∀ d i, i + d = 576 → wY_move_138 post (nI r) (d + 1) (nI i) (zr_u c (r * 576) G i) w := by
  intro d
  induction d with
  | zero =>
    intro i hi
    obtain rfl : i = 576 := by omega
    exact br_t (nI_le (a := 576) (b := 576) (by omega) (by decide)) (yl_ar _ _ hr h)
  | succ d ih =>
    intro i hi
    refine br_f (nI_ge (b := 576) (by omega) (by decide)) ?_
    rw [zn_576, zn_cl (by omega), nI_clamp (by omega), hw i (by omega)]
    exact ⟨vp_in_nI (by omega) (by decide), zn_in (by omega) (by decide), nm_r (zr_s _ _ _ _) (nm_r (nI_1 i) (ih (i + 1) (by omega)))⟩
theorem yl_mv_2i {post : Int32 → SY → Prop} {J : Int32 → (Nat → Int32) → (Nat → Int32) → Prop} {c : Nat → Int32} {r : Nat} (hr : r < 3) (dx dy : Int32) {g : Nat → Bool} (hg : ∀ i, i < 576 → c (r * 576 + i) = zb_I (g i)) {y : Nat} (hy : y < 24) (hJ : ∀ w, (∀ q, q < 576 → w q = zb_I (ym_S g dx.toInt dy.toInt (y * 24 + 24) q)) → J (nI (y + 1)) c w) : ∀ d x w, x + d = 24 → (∀ q, q < 576 → w q = zb_I (ym_S g dx.toInt dy.toInt (y * 24 + x) q)) → wY_move_48 post J (nI r) dx dy (nI y) (d + 1) (nI x) c w := by
  intro d
  induction d with
  | zero =>
    intro x w hx hw
    obtain rfl : x = 24 := by omega
    exact br_t (nI_le (a := 24) (b := 24) (by omega) (by decide)) (nm_r (nI_1 y) (hJ w hw))
  | succ d ih =>
    intro x w hx hw
    refine br_f (nI_ge (b := 24) (by omega) (by decide)) ?_
    have skip : ¬ ((0 ≤ (x : Int) + dx.toInt ∧ (x : Int) + dx.toInt < 24) ∧ (0 ≤ (y : Int) + dy.toInt ∧ (y : Int) + dy.toInt < 24)) → ∀ x5 : Int32, x5 = nI x + 1 → wY_move_48 post J (nI r) dx dy (nI y) (d + 1) x5 c w := fun z => nm_r (nI_1 x) (ih (x + 1) w (by omega) (fun q hq => by
      rw [← Nat.add_assoc, ym_Sn (by omega) (Or.inl z) hq]
      exact hw q hq))
    rcases zn_sum (x := x) (by omega) dx with ⟨u1, u2, eU⟩ | ⟨un, hu⟩
    · rcases zn_sum (x := y) (by omega) dy with ⟨v1, v2, eV⟩ | ⟨vn, hv⟩
      · refine nm_r eU (nm_r eV (br_f (nI_pos (by omega)) (br_f (nI_ge (b := 24) (by omega) (by decide)) (br_f (nI_pos (by omega)) (br_f (nI_ge (b := 24) (by omega) (by decide)) ?_)))))
        rw [zn_y, nI_clamp (by omega), hg _ (by omega), zb_nar, zn_24, zn_cl (by omega)]
        refine ⟨vp_in_nI (by omega) (by decide), zn_in (by omega) (by decide), nm_e (nm_r (nI_1 x) (ih (x + 1) _ (by omega) ?_))⟩
        intro q hq
        rw [← Nat.add_assoc]
        by_cases z : q = ((y : Int) + dy.toInt).toNat * 24 + ((x : Int) + dx.toInt).toNat
        · rw [← z, pk_us, ym_Ss (by omega) hy ⟨u1, u2⟩ ⟨v1, v2⟩ (by omega)]
        · rw [pk_un z, ym_Sn (by omega) (Or.inr (by omega)) hq]
          exact hw q hq
      · have N := skip (fun z => vn z.2)
        exact nm_r eU (nm_e (br_f (nI_pos (by omega)) (br_f (nI_ge (b := 24) (by omega) (by decide)) (br_c (fun _ => N) (fun z => br_t (hv.resolve_left z) N)))))
    · have N := skip (fun z => un z.1)
      exact nm_e (nm_e (br_c (fun _ => N) (fun z => br_t (hu.resolve_left z) N)))
theorem yl_mv_2 {post : Int32 → SY → Prop} {c : Nat → Int32} {r : Nat} (hr : r < 3) (dx dy : Int32) {g : Nat → Bool} (hg : ∀ i, i < 576 → c (r * 576 + i) = zb_I (g i)) {G : Nat → Int32} (hG : G = fun q => zb_I (ym_S g dx.toInt dy.toInt 576 q)) (h : ∀ w, post (nI (ya_ar (zr_u c (r * 576) G 576) r)) (zr_u c (r * 576) G 576, w)) : ∀ d y w, y + d = 24 → (∀ q, q < 576 → w q = zb_I (ym_S g dx.toInt dy.toInt (y * 24) q)) → wY_move_38 post (nI r) dx dy (d + 1) (nI y) c w := by
  intro d
  induction d with
  | zero =>
    intro y w hy hw
    obtain rfl : y = 24 := by omega
    refine br_t (nI_le (a := 24) (b := 24) (by omega) (by decide)) ⟨577, ?_⟩
    have g1 := yl_mv_3 (c := c) (w := w) hr (G := G) (fun i hi => by rw [hw i hi, zb_nar, hG]) (h w) 576 0 rfl
    rw [zr_0] at g1
    exact g1
  | succ d ih =>
    intro y w hy hw
    exact br_f (nI_ge (b := 24) (by omega) (by decide)) ⟨25, yl_mv_2i hr dx dy hg (by omega) (fun w' hw' => ih (y + 1) w' (by omega) (by rw [Nat.succ_mul]; exact hw')) 24 0 w rfl hw⟩
theorem yl_mv_1 {post : Int32 → SY → Prop} {c : Nat → Int32} {r : Nat} (hr : r < 3) (dx dy : Int32) {g : Nat → Bool} (hg : ∀ i, i < 576 → c (r * 576 + i) = zb_I (g i)) {G : Nat → Int32} (hG : G = fun q => zb_I (ym_S g dx.toInt dy.toInt 576 q)) (h : ∀ w, post (nI (ya_ar (zr_u c (r * 576) G 576) r)) (zr_u c (r * 576) G 576, w)) : ∀ d i w, i + d = 576 → (∀ q, q < i → w q = 0) → wY_move_13 post (nI r) dx dy (d + 1) (nI i) c w := by
  intro d
  induction d with
  | zero =>
    intro i w hi hw
    obtain rfl : i = 576 := by omega
    refine br_t (nI_le (a := 576) (b := 576) (by omega) (by decide)) ⟨25, yl_mv_2 hr dx dy hg hG h 24 0 w rfl (fun q hq => ?_)⟩
    rw [Nat.zero_mul, ym_S0, hw q hq]
    rfl
  | succ d ih =>
    intro i w hi hw
    refine br_f (nI_ge (b := 576) (by omega) (by decide)) ?_
    rw [nI_clamp (by omega)]
    refine ⟨vp_in_nI (by omega) (by decide), nm_e (nm_r (nI_1 i) (ih (i + 1) _ (by omega) (fun q hq => ?_)))⟩
    by_cases z : q = i
    · rw [z, pk_us]
      exact zb_nar false
    · rw [pk_un z]
      exact hw q (by omega)
theorem yl_mv {post : Int32 → SY → Prop} {c w : Nat → Int32} {r : Nat} (hr : r < 3) (dx dy : Int32) {g : Nat → Bool} (hg : ∀ i, i < 576 → c (r * 576 + i) = zb_I (g i)) {G : Nat → Int32} (hG : G = fun q => zb_I (ym_S g dx.toInt dy.toInt 576 q)) (h : ∀ w, post (nI (ya_ar (zr_u c (r * 576) G 576) r)) (zr_u c (r * 576) G 576, w)) : wpY_move post (c, w) (nI r) dx dy := by
  unfold wpY_move
  dsimp only
  exact yl_bad hr (br_t rfl ⟨577, yl_mv_1 hr dx dy hg hG h 576 0 w rfl (fun q hq => absurd hq (Nat.not_lt_zero q))⟩)
