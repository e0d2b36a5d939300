/-! booleans as ints, sums, arrays written from a base on, the relation -/
def zb_I (b : Bool) : Int32 := cond b 1 0
theorem zb_eq0 {b : Bool} : zb_I b = 0 ↔ b = false := by cases b <;> decide
theorem zb_inj {a b : Bool} : zb_I a = zb_I b ↔ a = b := by cases a <;> cases b <;> decide
theorem zb_n (b : Bool) : zb_I b = nI b.toNat := by cases b <;> rfl
theorem zb_nr (b : Bool) : narrow .boolean (.int (zb_I b)) = .int (zb_I b) := by cases b <;> rfl
theorem zb_nar (b : Bool) : vp_nar .boolean (zb_I b) = zb_I b := by
  unfold vp_nar
  rw [zb_nr]
theorem zb_1 : ∀ j, j < 32 → bt 1 j = decide (j = 0) := by decide +kernel
theorem zb_ff : ∀ j, j < 32 → bt 16777215 j = decide (j < 24) := by decide +kernel
theorem zb_bit (x : Int32) {i : Nat} (hi : i < 32) : (x >>> (nI i &&& 31)) &&& 1 = zb_I (bt x i) := by
  apply b_ext
  intro j hj
  rw [b_and, b_sshr i hi x hj, zb_1 j hj]
  by_cases h : j = 0
  · subst h
    rw [Nat.add_zero, if_pos hi]
    cases bt x i <;> decide
  · rw [decide_eq_false h, Bool.and_false]
    cases bt x i
    · exact (b_0 j).symm
    · show false = bt 1 j
      rw [zb_1 j hj, decide_eq_false h]
theorem zb_0 {x : Int32} : x = 0 ↔ ∀ i, i < 32 → bt x i = false :=
  ⟨fun h i _ => by rw [h]; exact b_0 i, fun h => b_ext fun i hi => by rw [h i hi, b_0]⟩
/-- the sum of f over 0 .. n - 1 -/
def zs_sm (f : Nat → Nat) : Nat → Nat
  | 0 => 0
  | n + 1 => zs_sm f n + f n
theorem zs_s (f : Nat → Nat) (n : Nat) : zs_sm f (n + 1) = zs_sm f n + f n := rfl
theorem zs_add (f : Nat → Nat) (a b : Nat) : zs_sm f (a + b) = zs_sm f a + zs_sm (fun i => f (a + i)) b := by
  induction b with
  | zero => rfl
  | succ b ih =>
    rw [← Nat.add_assoc, zs_s, ih, zs_s, Nat.add_assoc]
theorem zs_ext {f g : Nat → Nat} : ∀ n, (∀ i, i < n → f i = g i) → zs_sm f n = zs_sm g n := by
  intro n
  induction n with
  | zero => intro _; rfl
  | succ n ih =>
    intro h
    rw [zs_s, zs_s, ih (fun i hi => h i (by omega)), h n (by omega)]
theorem zs_grid (f : Nat → Nat) (n : Nat) : zs_sm (fun y => zs_sm (fun x => f (y * 24 + x)) 24) n = zs_sm f (n * 24) := by
  induction n with
  | zero => rfl
  | succ n ih => rw [zs_s, ih, Nat.succ_mul, zs_add]
theorem zs_zero {f : Nat → Nat} : ∀ n, zs_sm f n = 0 ↔ ∀ i, i < n → f i = 0 := by
  intro n
  induction n with
  | zero => exact ⟨fun _ i hi => by omega, fun _ => rfl⟩
  | succ n ih =>
    rw [zs_s]
    constructor
    · intro h i hi
      by_cases e : i = n
      · subst e; omega
      · exact ih.mp (by omega) i (by omega)
    · intro h
      rw [ih.mpr (fun i hi => h i (by omega)), h n (by omega)]
theorem zs_mono (f : Nat → Nat) {a b : Nat} (h : a ≤ b) : zs_sm f a ≤ zs_sm f b := by
  obtain ⟨c, rfl⟩ : ∃ c, b = a + c := ⟨b - a, by omega⟩
  rw [zs_add]
  omega
theorem zs_le {f : Nat → Nat} (h : ∀ i, f i ≤ 1) : ∀ n, zs_sm f n ≤ n := by
  intro n
  induction n with
  | zero => exact Nat.le_refl 0
  | succ n ih =>
    rw [zs_s]
    have := h n
    omega
/-- f with F written at b .. b + i - 1 -/
def zr_u (f : Nat → Int32) (b : Nat) (F : Nat → Int32) (i : Nat) : Nat → Int32 := fun j => if b ≤ j ∧ j < b + i then F (j - b) else f j
theorem zr_0 (f : Nat → Int32) (b : Nat) (F : Nat → Int32) : zr_u f b F 0 = f := funext fun j => if_neg (by omega)
theorem zr_out {f : Nat → Int32} {b : Nat} {F : Nat → Int32} {i j : Nat} (h : j < b ∨ b + i ≤ j) : zr_u f b F i j = f j := if_neg (by omega)
theorem zr_at {f : Nat → Int32} {b : Nat} {F : Nat → Int32} {i j : Nat} (h : b ≤ j ∧ j < b + i) : zr_u f b F i j = F (j - b) := if_pos h
theorem zr_in {f : Nat → Int32} {b : Nat} {F : Nat → Int32} {i j : Nat} (h : j < i) : zr_u f b F i (b + j) = F j := by
  rw [zr_at (by omega)]
  exact congrArg F (by omega)
theorem zr_s (f : Nat → Int32) (b : Nat) (F : Nat → Int32) (i : Nat) : upd (zr_u f b F i) (b + i) (F i) = zr_u f b F (i + 1) := by
  funext j
  by_cases h : j = b + i
  · subst h
    rw [pk_us, zr_in (by omega)]
  · rw [pk_un h]
    by_cases h2 : b ≤ j ∧ j < b + i
    · rw [zr_at h2, zr_at (by omega)]
    · rw [zr_out (by omega), zr_out (by omega)]
theorem zr_s0 (f : Nat → Int32) (F : Nat → Int32) (i : Nat) : upd (zr_u f 0 F i) i (F i) = zr_u f 0 F (i + 1) := by
  have h := zr_s f 0 F i
  rw [Nat.zero_add] at h
  exact h
theorem zr_in0 {f : Nat → Int32} {F : Nat → Int32} {i j : Nat} (h : j < i) : zr_u f 0 F i j = F j := by
  have h := zr_in (f := f) (b := 0) (F := F) h
  rw [Nat.zero_add] at h
  exact h
/-! numbers -/
theorem zn_24 (r : Nat) : nI r * 24 = nI (r * 24) := pk_mul r 24
theorem zn_576 (r : Nat) : nI r * 576 = nI (r * 576) := pk_mul r 576
theorem zn_cl {a b : Nat} (h : a + b < 2 ^ 31) : (nI a + nI b).toNatClampNeg = a + b := by rw [nI_add, nI_clamp h]
theorem zn_in {a b N : Nat} (h : a + b < N) (hN : N < 2 ^ 31) : vp_in (nI a + nI b) N := by
  rw [nI_add]
  exact vp_in_nI h hN
theorem zn_y (r y x : Nat) : nI r * 576 + nI y * 24 + nI x = nI (r * 576 + (y * 24 + x)) := by
  rw [zn_576, zn_24, nI_add, nI_add, Nat.add_assoc]
/-! the relation: no bit of a row beyond the 24th, and a cell of the reference is its row's bit -/
def zz_H (u : Nat → Int32) : Prop := ∀ j, j < 72 → ∀ i, 24 ≤ i → bt (u j) i = false
def zz_C (u c : Nat → Int32) : Prop := ∀ j, j < 72 → ∀ i, i < 24 → c (j * 24 + i) = zb_I (bt (u j) i)
def i_Rel (_ : Nat) (u : SX) (v : SY) : Prop := zz_H u ∧ zz_C u v.1
theorem i_up {k : Nat} {u : SX} {v : SY} (h : i_Rel k u v) : i_Rel (k + 5) u v := h
theorem i_vc0 : wpX_init (fun u => wpY_init (fun v => i_Rel 0 u v)) := ⟨fun _ _ i _ => b_0 i, fun _ _ i _ => by rw [b_0]; rfl⟩
/-- a cell of region r by its place in the region -/
theorem zz_c {u c : Nat → Int32} (C : zz_C u c) {r y x : Nat} (hr : r < 3) (hy : y < 24) (hx : x < 24) : c (r * 576 + (y * 24 + x)) = zb_I (bt (u (r * 24 + y)) x) := by
  rw [← C (r * 24 + y) (by omega) x hx]
  exact congrArg c (by omega)
theorem zz_upd {u c : Nat → Int32} {r : Nat} (hr : r < 3) (H : zz_H u) (C : zz_C u c) (F G : Nat → Int32) (hF : ∀ y, y < 24 → ∀ i, 24 ≤ i → i < 32 → bt (F y) i = false) (hG : ∀ y x, y < 24 → x < 24 → G (y * 24 + x) = zb_I (bt (F y) x)) : zz_H (zr_u u (r * 24) F 24) ∧ zz_C (zr_u u (r * 24) F 24) (zr_u c (r * 576) G 576) := by
  constructor
  · intro j hj i hi
    by_cases h : r * 24 ≤ j ∧ j < r * 24 + 24
    · rw [zr_at h]
      by_cases h2 : i < 32
      · exact hF _ (by omega) i hi h2
      · exact b_big (by omega)
    · rw [zr_out (by omega)]
      exact H j hj i hi
  · intro j hj i hi
    by_cases h : r * 24 ≤ j ∧ j < r * 24 + 24
    · rw [zr_at h, zr_at (by omega), ← hG (j - r * 24) i (by omega) hi]
      exact congrArg G (by omega)
    · rw [zr_out (by omega), zr_out (by omega)]
      exact C j hj i hi
/-! bad and good region numbers, kinds -/
theorem xl_reg {post : Int32 → Prop} {k : Nat} (hk : k < 3) (h : post 1) : wpX_isRegion post (nI k) := br_f (nI_pos (by omega)) (br_f (nI_ge (b := 3) hk (by decide)) h)
theorem xl_regN {post : Int32 → Prop} {r : Int32} (hr : r < 0 ∨ nI 3 ≤ r) (h : post 0) : wpX_isRegion post r := br_c (fun _ => h) (fun n => br_t (hr.resolve_left n) h)
theorem xl_kind {post : Int32 → Prop} {k : Nat} (hk : k ≤ 3) (h : post 1) : wpX_isKind post (nI k) := br_f (nI_pos (by omega)) (br_f (nI_nlt (a := 3) (b := k) hk (by decide)) h)
theorem xl_kindN {post : Int32 → Prop} {r : Int32} (hr : r < 0 ∨ nI 4 ≤ r) (h : post 0) : wpX_isKind post r := br_c (fun _ => h) (fun n => br_t (by
  have h4 := hr.resolve_left n
  rw [Int32.le_iff_toInt_le] at h4
  rw [Int32.lt_iff_toInt_lt]
  have e4 : (nI 4).toInt = 4 := by decide
  have e3 : (3 : Int32).toInt = 3 := by decide
  omega) h)
theorem yl_bad {post : Int32 → Prop} {v : SY} {k : Nat} (hk : k < 3) (h : post 0) : wpY_bad post v (nI k) := by
  obtain ⟨c, w⟩ := v
  exact br_f (nI_pos (by omega)) (br_t (nI_le (b := 2) (by omega) (by decide)) h)
theorem zn_nle {r : Int32} {n : Nat} (hn : n + 1 < 2 ^ 31) (h : nI (n + 1) ≤ r) : ¬ r ≤ nI n := by
  rw [Int32.le_iff_toInt_le, nI_toInt hn] at h
  rw [Int32.le_iff_toInt_le, nI_toInt (by omega)]
  omega
theorem yl_badN {post : Int32 → Prop} {v : SY} {r : Int32} (hr : r < 0 ∨ nI 3 ≤ r) (h : post 1) : wpY_bad post v r := by
  obtain ⟨c, w⟩ := v
  exact br_c (fun _ => h) (fun n => br_f (zn_nle (n := 2) (by decide) (hr.resolve_left n)) h)
