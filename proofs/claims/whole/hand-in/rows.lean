section
/-! rows pasted from the kit's rows to paste (pure rows, bits) -/
theorem pk_us {f : Nat → Int32} {k : Nat} {x : Int32} : upd f k x k = x := if_pos rfl
theorem pk_un {f : Nat → Int32} {k j : Nat} {x : Int32} (h : j ≠ k) : upd f k x j = f j := if_neg h
theorem pk_sub {a b : Nat} (h : b ≤ a) : nI a - nI b = nI (a - b) := by
  obtain ⟨c, rfl⟩ : ∃ c, a = c + b := ⟨a - b, by omega⟩
  rw [← nI_add, Int32.add_sub_cancel, Nat.add_sub_cancel]
theorem pk_m1 (n : Nat) : nI (n + 1) + (-1) = nI n := by
  rw [← nI_1, Int32.add_assoc, show (1 : Int32) + (-1) = 0 from rfl, Int32.add_zero]
theorem pk_mul (a b : Nat) : nI a * nI b = nI (a * b) := (Int32.ofNat_mul a b).symm
theorem pk_sub_toInt {a b : Nat} (ha : a < 2 ^ 30) (hb : b < 2 ^ 30) : (nI a - nI b).toInt = (a : Int) - b := by
  rw [Int32.toInt_sub, nI_toInt (by omega), nI_toInt (by omega)]
  exact Int.bmod_eq_of_le (by omega) (by omega)
theorem pk_sneg {a b : Nat} (hb : b < 2 ^ 30) (h : a < b) : nI a - nI b < 0 := by
  rw [Int32.lt_iff_toInt_lt, pk_sub_toInt (by omega) hb, show (0 : Int32).toInt = 0 from by decide]
  omega
theorem pk_ix (x : Int32) {n : Nat} (hn : n < 2 ^ 31) : x < 0 ∨ nI n ≤ x ∨ ∃ j : Nat, j < n ∧ x = nI j := by
  by_cases h : x < 0
  · exact Or.inl h
  · obtain ⟨j, hj, rfl⟩ := nI_of h
    by_cases h2 : j < n
    · exact Or.inr (Or.inr ⟨j, h2, rfl⟩)
    · exact Or.inr (Or.inl (nI_le (by omega) hj))
theorem pk_le {x y : Int32} {A B : Prop} (a b : Nat) (f : a ≤ b → A) (g : b < a → B) (hx : x = nI a := by rfl) (hy : y = nI b := by rfl) (ha : a < 2 ^ 31 := by omega) (hb : b < 2 ^ 31 := by omega) : (x ≤ y → A) ∧ (¬ x ≤ y → B) := by
  subst hx hy
  rw [nI_leI ha hb]
  exact ⟨f, fun z => g (by omega)⟩
theorem pk_lt {x y : Int32} {A B : Prop} (a b : Nat) (f : a < b → A) (g : b ≤ a → B) (hx : x = nI a := by rfl) (hy : y = nI b := by rfl) (ha : a < 2 ^ 31 := by omega) (hb : b < 2 ^ 31 := by omega) : (x < y → A) ∧ (¬ x < y → B) := by
  subst hx hy
  rw [nI_ltI ha hb]
  exact ⟨f, fun z => g (by omega)⟩
theorem pk_eq {x y : Int32} {A B : Prop} (a b : Nat) (f : a = b → A) (g : a ≠ b → B) (hx : x = nI a := by rfl) (hy : y = nI b := by rfl) (ha : a < 2 ^ 31 := by omega) (hb : b < 2 ^ 31 := by omega) : (x = y → A) ∧ (¬ x = y → B) := by
  subst hx hy
  rw [nI_eq ha hb]
  exact ⟨f, g⟩
theorem pk_in {x : Int32} (n N : Nat) (h : n < N) (hx : x = nI n := by rfl) (hN : N < 2 ^ 31 := by omega) : vp_in x N := by
  subst hx
  exact vp_in_nI h hN
theorem pk_cl {x : Int32} (n : Nat) (hx : x = nI n := by rfl) (h : n < 2 ^ 31 := by omega) : x.toNatClampNeg = n := by
  subst hx
  exact nI_clamp h
theorem pk_tn {n : Nat} (h : n < 2 ^ 32) : (nI n).toBitVec.toNat = n := Nat.mod_eq_of_lt h
theorem pk_and (x : Int32) {m : Int32} (k : Nat) (hm : m.toBitVec.toNat = 2 ^ k - 1) : x &&& m = nI (x.toBitVec.toNat % 2 ^ k) := by
  apply Int32.toBitVec_inj.mp
  apply BitVec.eq_of_toNat_eq
  rw [Int32.toBitVec_and, BitVec.toNat_and, hm, Nat.and_two_pow_sub_one_eq_mod]
  show _ = (BitVec.ofNat 32 _).toNat
  rw [BitVec.toNat_ofNat]
  exact (Nat.mod_eq_of_lt (Nat.lt_of_le_of_lt (Nat.mod_le _ _) x.toBitVec.isLt)).symm
theorem pk_andE (x : Int32) {m : Int32} (k : Nat) (hm : m.toBitVec.toNat = 2 ^ k - 1) : ∃ j : Nat, j < 2 ^ k ∧ x &&& m = nI j := ⟨_, Nat.mod_lt _ (Nat.two_pow_pos k), pk_and x k hm⟩
def bt (x : Int32) (i : Nat) : Bool := x.toBitVec.getLsbD i
theorem b_ext {x y : Int32} (h : ∀ i, i < 32 → bt x i = bt y i) : x = y := Int32.toBitVec_inj.mp (BitVec.eq_of_getLsbD_eq (fun i hi => h i hi))
theorem b_or (x y : Int32) (i : Nat) : bt (x ||| y) i = (bt x i || bt y i) := by unfold bt; rw [Int32.toBitVec_or, BitVec.getLsbD_or]
theorem b_and (x y : Int32) (i : Nat) : bt (x &&& y) i = (bt x i && bt y i) := by unfold bt; rw [Int32.toBitVec_and, BitVec.getLsbD_and]
theorem b_xor (x y : Int32) (i : Nat) : bt (x ^^^ y) i = (bt x i ^^ bt y i) := by unfold bt; rw [Int32.toBitVec_xor, BitVec.getLsbD_xor]
theorem b_big {x : Int32} {i : Nat} (h : 32 ≤ i) : bt x i = false := BitVec.getLsbD_of_ge _ _ h
theorem b_m1 : ∀ i, i < 32 → bt (-1) i = true := by decide +kernel
theorem b_0 (i : Nat) : bt 0 i = false := BitVec.getLsbD_zero
theorem s_l : ∀ n, n < 32 → ((nI n &&& 31).toBitVec.smod 32).toNat = n := by decide +kernel
theorem b_shl (n : Nat) (hn : n < 32) (x : Int32) {i : Nat} (hi : i < 32) : bt (x <<< (nI n &&& 31)) i = (decide (n ≤ i) && bt x (i - n)) := by
  unfold bt
  rw [Int32.toBitVec_shiftLeft]
  show (x.toBitVec <<< ((nI n &&& 31).toBitVec.smod 32).toNat).getLsbD i = _
  rw [s_l n hn, BitVec.getLsbD_shiftLeft]
  rcases Nat.lt_or_ge i n with h | h
  · simp [h, Nat.not_le.mpr h]
  · simp [hi, h, Nat.not_lt.mpr h]
theorem b_sshr (n : Nat) (hn : n < 32) (x : Int32) {i : Nat} (hi : i < 32) : bt (x >>> (nI n &&& 31)) i = if n + i < 32 then bt x (n + i) else bt x 31 := by
  unfold bt
  rw [Int32.toBitVec_shiftRight]
  show (x.toBitVec.sshiftRight ((nI n &&& 31).toBitVec.smod 32).toNat).getLsbD i = _
  rw [s_l n hn, BitVec.getLsbD_sshiftRight, BitVec.msb_eq_getLsbD_last]
  simp [hi]
end
section
/-! booleans as ints, sums, arrays written from a base on, the relation -/
def zb_I (b : Bool) : Int32 := cond b 1 0
theorem zb_eq0 {b : Bool} : zb_I b = 0 ↔ b = false := by cases b <;> decide
theorem zb_inj {a b : Bool} : zb_I a = zb_I b ↔ a = b := by cases a <;> cases b <;> decide
theorem zb_n (b : Bool) : zb_I b = nI b.toNat := by cases b <;> rfl
theorem zb_nr (b : Bool) : narrow .boolean (.int (zb_I b)) = .int (zb_I b) := by cases b <;> rfl
theorem zb_nar (b : Bool) : vp_nar .boolean (zb_I b) = zb_I b := by
  unfold vp_nar
  rw [zb_nr]
theorem zb_1 : ∀ j, j < 32 → bt 1 j = decide (j = 0) := by decide +kernel
theorem zb_ff : ∀ j, j < 32 → bt 16777215 j = decide (j < 24) := by decide +kernel
theorem zb_bit (x : Int32) {i : Nat} (hi : i < 32) : (x >>> (nI i &&& 31)) &&& 1 = zb_I (bt x i) := by
  apply b_ext
  intro j hj
  rw [b_and, b_sshr i hi x hj, zb_1 j hj]
  by_cases h : j = 0
  · subst h
    rw [Nat.add_zero, if_pos hi]
    cases bt x i <;> decide
  · rw [decide_eq_false h, Bool.and_false]
    cases bt x i
    · exact (b_0 j).symm
    · show false = bt 1 j
      rw [zb_1 j hj, decide_eq_false h]
theorem zb_0 {x : Int32} : x = 0 ↔ ∀ i, i < 32 → bt x i = false :=
  ⟨fun h i _ => by rw [h]; exact b_0 i, fun h => b_ext fun i hi => by rw [h i hi, b_0]⟩
/-- the sum of f over 0 .. n - 1 -/
def zs_sm (f : Nat → Nat) : Nat → Nat
  | 0 => 0
  | n + 1 => zs_sm f n + f n
theorem zs_s (f : Nat → Nat) (n : Nat) : zs_sm f (n + 1) = zs_sm f n + f n := rfl
theorem zs_add (f : Nat → Nat) (a b : Nat) : zs_sm f (a + b) = zs_sm f a + zs_sm (fun i => f (a + i)) b := by
  induction b with
  | zero => rfl
  | succ b ih =>
    rw [← Nat.add_assoc, zs_s, ih, zs_s, Nat.add_assoc]
theorem zs_ext {f g : Nat → Nat} : ∀ n, (∀ i, i < n → f i = g i) → zs_sm f n = zs_sm g n := by
  intro n
  induction n with
  | zero => intro _; rfl
  | succ n ih =>
    intro h
    rw [zs_s, zs_s, ih (fun i hi => h i (by omega)), h n (by omega)]
theorem zs_grid (f : Nat → Nat) (n : Nat) : zs_sm (fun y => zs_sm (fun x => f (y * 24 + x)) 24) n = zs_sm f (n * 24) := by
  induction n with
  | zero => rfl
  | succ n ih => rw [zs_s, ih, Nat.succ_mul, zs_add]
theorem zs_zero {f : Nat → Nat} : ∀ n, zs_sm f n = 0 ↔ ∀ i, i < n → f i = 0 := by
  intro n
  induction n with
  | zero => exact ⟨fun _ i hi => by omega, fun _ => rfl⟩
  | succ n ih =>
    rw [zs_s]
    constructor
    · intro h i hi
      by_cases e : i = n
      · subst e; omega
      · exact ih.mp (by omega) i (by omega)
    · intro h
      rw [ih.mpr (fun i hi => h i (by omega)), h n (by omega)]
theorem zs_mono (f : Nat → Nat) {a b : Nat} (h : a ≤ b) : zs_sm f a ≤ zs_sm f b := by
  obtain ⟨c, rfl⟩ : ∃ c, b = a + c := ⟨b - a, by omega⟩
  rw [zs_add]
  omega
theorem zs_le {f : Nat → Nat} (h : ∀ i, f i ≤ 1) : ∀ n, zs_sm f n ≤ n := by
  intro n
  induction n with
  | zero => exact Nat.le_refl 0
  | succ n ih =>
    rw [zs_s]
    have := h n
    omega
/-- f with F written at b .. b + i - 1 -/
def zr_u (f : Nat → Int32) (b : Nat) (F : Nat → Int32) (i : Nat) : Nat → Int32 := fun j => if b ≤ j ∧ j < b + i then F (j - b) else f j
theorem zr_0 (f : Nat → Int32) (b : Nat) (F : Nat → Int32) : zr_u f b F 0 = f := funext fun j => if_neg (by omega)
theorem zr_out {f : Nat → Int32} {b : Nat} {F : Nat → Int32} {i j : Nat} (h : j < b ∨ b + i ≤ j) : zr_u f b F i j = f j := if_neg (by omega)
theorem zr_at {f : Nat → Int32} {b : Nat} {F : Nat → Int32} {i j : Nat} (h : b ≤ j ∧ j < b + i) : zr_u f b F i j = F (j - b) := if_pos h
theorem zr_in {f : Nat → Int32} {b : Nat} {F : Nat → Int32} {i j : Nat} (h : j < i) : zr_u f b F i (b + j) = F j := by
  rw [zr_at (by omega)]
  exact congrArg F (by omega)
theorem zr_s (f : Nat → Int32) (b : Nat) (F : Nat → Int32) (i : Nat) : upd (zr_u f b F i) (b + i) (F i) = zr_u f b F (i + 1) := by
  funext j
  by_cases h : j = b + i
  · subst h
    rw [pk_us, zr_in (by omega)]
  · rw [pk_un h]
    by_cases h2 : b ≤ j ∧ j < b + i
    · rw [zr_at h2, zr_at (by omega)]
    · rw [zr_out (by omega), zr_out (by omega)]
theorem zr_s0 (f : Nat → Int32) (F : Nat → Int32) (i : Nat) : upd (zr_u f 0 F i) i (F i) = zr_u f 0 F (i + 1) := by
  have h := zr_s f 0 F i
  rw [Nat.zero_add] at h
  exact h
theorem zr_in0 {f : Nat → Int32} {F : Nat → Int32} {i j : Nat} (h : j < i) : zr_u f 0 F i j = F j := by
  have h := zr_in (f := f) (b := 0) (F := F) h
  rw [Nat.zero_add] at h
  exact h
/-! numbers -/
theorem zn_24 (r : Nat) : nI r * 24 = nI (r * 24) := pk_mul r 24
theorem zn_576 (r : Nat) : nI r * 576 = nI (r * 576) := pk_mul r 576
theorem zn_cl {a b : Nat} (h : a + b < 2 ^ 31) : (nI a + nI b).toNatClampNeg = a + b := by rw [nI_add, nI_clamp h]
theorem zn_in {a b N : Nat} (h : a + b < N) (hN : N < 2 ^ 31) : vp_in (nI a + nI b) N := by
  rw [nI_add]
  exact vp_in_nI h hN
theorem zn_y (r y x : Nat) : nI r * 576 + nI y * 24 + nI x = nI (r * 576 + (y * 24 + x)) := by
  rw [zn_576, zn_24, nI_add, nI_add, Nat.add_assoc]
/-! the relation: no bit of a row beyond the 24th, and a cell of the reference is its row's bit -/
def zz_H (u : Nat → Int32) : Prop := ∀ j, j < 72 → ∀ i, 24 ≤ i → bt (u j) i = false
def zz_C (u c : Nat → Int32) : Prop := ∀ j, j < 72 → ∀ i, i < 24 → c (j * 24 + i) = zb_I (bt (u j) i)
def i_Rel (_ : Nat) (u : SX) (v : SY) : Prop := zz_H u ∧ zz_C u v.1
theorem i_up {k : Nat} {u : SX} {v : SY} (h : i_Rel k u v) : i_Rel (k + 5) u v := h
theorem i_vc0 : wpX_init (fun u => wpY_init (fun v => i_Rel 0 u v)) := ⟨fun _ _ i _ => b_0 i, fun _ _ i _ => by rw [b_0]; rfl⟩
/-- a cell of region r by its place in the region -/
theorem zz_c {u c : Nat → Int32} (C : zz_C u c) {r y x : Nat} (hr : r < 3) (hy : y < 24) (hx : x < 24) : c (r * 576 + (y * 24 + x)) = zb_I (bt (u (r * 24 + y)) x) := by
  rw [← C (r * 24 + y) (by omega) x hx]
  exact congrArg c (by omega)
theorem zz_upd {u c : Nat → Int32} {r : Nat} (hr : r < 3) (H : zz_H u) (C : zz_C u c) (F G : Nat → Int32) (hF : ∀ y, y < 24 → ∀ i, 24 ≤ i → i < 32 → bt (F y) i = false) (hG : ∀ y x, y < 24 → x < 24 → G (y * 24 + x) = zb_I (bt (F y) x)) : zz_H (zr_u u (r * 24) F 24) ∧ zz_C (zr_u u (r * 24) F 24) (zr_u c (r * 576) G 576) := by
  constructor
  · intro j hj i hi
    by_cases h : r * 24 ≤ j ∧ j < r * 24 + 24
    · rw [zr_at h]
      by_cases h2 : i < 32
      · exact hF _ (by omega) i hi h2
      · exact b_big (by omega)
    · rw [zr_out (by omega)]
      exact H j hj i hi
  · intro j hj i hi
    by_cases h : r * 24 ≤ j ∧ j < r * 24 + 24
    · rw [zr_at h, zr_at (by omega), ← hG (j - r * 24) i (by omega) hi]
      exact congrArg G (by omega)
    · rw [zr_out (by omega), zr_out (by omega)]
      exact C j hj i hi
/-! bad and good region numbers, kinds -/
theorem xl_reg {post : Int32 → Prop} {k : Nat} (hk : k < 3) (h : post 1) : wpX_isRegion post (nI k) := br_f (nI_pos (by omega)) (br_f (nI_ge (b := 3) hk (by decide)) h)
theorem xl_regN {post : Int32 → Prop} {r : Int32} (hr : r < 0 ∨ nI 3 ≤ r) (h : post 0) : wpX_isRegion post r := br_c (fun _ => h) (fun n => br_t (hr.resolve_left n) h)
theorem xl_kind {post : Int32 → Prop} {k : Nat} (hk : k ≤ 3) (h : post 1) : wpX_isKind post (nI k) := br_f (nI_pos (by omega)) (br_f (nI_nlt (a := 3) (b := k) hk (by decide)) h)
theorem xl_kindN {post : Int32 → Prop} {r : Int32} (hr : r < 0 ∨ nI 4 ≤ r) (h : post 0) : wpX_isKind post r := br_c (fun _ => h) (fun n => br_t (by
  have h4 := hr.resolve_left n
  rw [Int32.le_iff_toInt_le] at h4
  rw [Int32.lt_iff_toInt_lt]
  have e4 : (nI 4).toInt = 4 := by decide
  have e3 : (3 : Int32).toInt = 3 := by decide
  omega) h)
theorem yl_bad {post : Int32 → Prop} {v : SY} {k : Nat} (hk : k < 3) (h : post 0) : wpY_bad post v (nI k) := by
  obtain ⟨c, w⟩ := v
  exact br_f (nI_pos (by omega)) (br_t (nI_le (b := 2) (by omega) (by decide)) h)
theorem zn_nle {r : Int32} {n : Nat} (hn : n + 1 < 2 ^ 31) (h : nI (n + 1) ≤ r) : ¬ r ≤ nI n := by
  rw [Int32.le_iff_toInt_le, nI_toInt hn] at h
  rw [Int32.le_iff_toInt_le, nI_toInt (by omega)]
  omega
theorem yl_badN {post : Int32 → Prop} {v : SY} {r : Int32} (hr : r < 0 ∨ nI 3 ≤ r) (h : post 1) : wpY_bad post v r := by
  obtain ⟨c, w⟩ := v
  exact br_c (fun _ => h) (fun n => br_f (zn_nle (n := 2) (by decide) (hr.resolve_left n)) h)
end
section
/-! counts, mixes, the box's row: the small methods of both sides -/
theorem xl_bc_l {post : Int32 → Prop} (x : Int32) (h : post (nI (zs_sm (fun i => (bt x i).toNat) 24))) : ∀ d i, i + d = 24 → wX_bitCount_4 post x (d + 1) (nI (zs_sm (fun i => (bt x i).toNat) i)) (nI i) := by
  intro d
  induction d with
  | zero =>
    intro i hi
    obtain rfl : i = 24 := by omega
    exact br_t (nI_le (a := 24) (b := 24) (by omega) (by decide)) h
  | succ d ih =>
    intro i hi
    refine br_f (nI_ge (b := 24) (by omega) (by decide)) (nm_r ?_ (nm_r (nI_1 i) (ih (i + 1) (by omega))))
    rw [zb_bit x (by omega), zb_n, nI_add, zs_s]
theorem xl_bc {post : Int32 → Prop} (x : Int32) (h : post (nI (zs_sm (fun i => (bt x i).toNat) 24))) : wpX_bitCount post x := ⟨25, xl_bc_l x h 24 0 rfl⟩
def xc_cc (u : Nat → Int32) (r : Nat) : Nat := zs_sm (fun y => zs_sm (fun x => (bt (u (r * 24 + y)) x).toNat) 24) 24
theorem xl_cc_l {post : Int32 → Prop} (u : Nat → Int32) {r : Nat} (hr : r < 3) (h : post (nI (xc_cc u r))) : ∀ d i, i + d = 24 → wX_cellCount_4 post (nI r) u (d + 1) (nI (zs_sm (fun y => zs_sm (fun x => (bt (u (r * 24 + y)) x).toNat) 24) i)) (nI i) := by
  intro d
  induction d with
  | zero =>
    intro i hi
    obtain rfl : i = 24 := by omega
    exact br_t (nI_le (a := 24) (b := 24) (by omega) (by decide)) h
  | succ d ih =>
    intro i hi
    refine br_f (nI_ge (b := 24) (by omega) (by decide)) ?_
    rw [zn_24, zn_cl (by omega)]
    refine ⟨zn_in (by omega) (by decide), xl_bc _ (nm_r ?_ (nm_r (nI_1 i) (ih (i + 1) (by omega))))⟩
    rw [nI_add]
    exact congrArg nI (zs_s _ i).symm
theorem xl_cc {post : Int32 → Prop} (u : Nat → Int32) {r : Nat} (hr : r < 3) (h : post (nI (xc_cc u r))) : wpX_cellCount post u (nI r) := ⟨25, xl_cc_l u hr h 24 0 rfl⟩
def ya_ar (c : Nat → Int32) (r : Nat) : Nat := zs_sm (fun i => if c (r * 576 + i) = 0 then 0 else 1) 576
theorem yl_ar_l {post : Int32 → Prop} (c w : Nat → Int32) {r : Nat} (hr : r < 3) (h : post (nI (ya_ar c r))) : ∀ d i, i + d = 576 → wY_area_14 post (nI r) c w (d + 1) (nI (zs_sm (fun i => if c (r * 576 + i) = 0 then 0 else 1) i)) (nI i) := by
  intro d
  induction d with
  | zero =>
    intro i hi
    obtain rfl : i = 576 := by omega
    exact br_t (nI_le (a := 576) (b := 576) (by omega) (by decide)) h
  | succ d ih =>
    intro i hi
    have g := ih (i + 1) (by omega)
    rw [zs_s] at g
    refine br_f (nI_ge (b := 576) (by omega) (by decide)) ?_
    rw [zn_576, zn_cl (by omega)]
    refine ⟨zn_in (by omega) (by decide), br_c (fun z => nm_r (nI_1 i) ?_) (fun z => nm_r (nI_1 _) (nm_r (nI_1 i) ?_))⟩
    · rw [if_pos z] at g
      exact g
    · rw [if_neg z] at g
      exact g
theorem yl_ar {post : Int32 → Prop} (c w : Nat → Int32) {r : Nat} (hr : r < 3) (h : post (nI (ya_ar c r))) : wpY_area post (c, w) (nI r) := by
  unfold wpY_area
  dsimp only
  exact yl_bad hr (br_t rfl ⟨577, yl_ar_l c w hr h 576 0 rfl⟩)
theorem ya_xc {u c : Nat → Int32} {r : Nat} (hr : r < 3) (C : zz_C u c) : ya_ar c r = xc_cc u r := by
  unfold ya_ar xc_cc
  rw [← zs_grid _ 24]
  refine zs_ext 24 (fun y hy => zs_ext 24 (fun x hx => ?_))
  rw [zz_c C hr hy hx]
  cases bt (u (r * 24 + y)) x <;> rfl
/-! mixing -/
def xm_mix (k : Nat) (a b : Int32) : Int32 := match k with
  | 0 => a ||| b
  | 1 => a &&& b
  | 2 => a &&& (b ^^^ (-1))
  | _ => a ^^^ b
def ym_mix (k : Nat) (a b : Bool) : Bool := match k with
  | 0 => a || b
  | 1 => a && b
  | 2 => a && !b
  | _ => a ^^ b
theorem xm_bt (k : Nat) (a b : Int32) {i : Nat} (hi : i < 32) : bt (xm_mix k a b) i = ym_mix k (bt a i) (bt b i) := by
  match k with
  | 0 => exact b_or a b i
  | 1 => exact b_and a b i
  | 2 =>
    show bt (a &&& (b ^^^ (-1))) i = (bt a i && !bt b i)
    rw [b_and, b_xor, b_m1 i hi, Bool.xor_true]
  | _ + 3 => exact b_xor a b i
theorem xl_mix {post : Int32 → Prop} (a b : Int32) {k : Nat} (hk : k ≤ 3) (h : post (xm_mix k a b)) : wpX_mixRows post a b (nI k) := by
  have hk' : k = 0 ∨ k = 1 ∨ k = 2 ∨ k = 3 := by omega
  rcases hk' with rfl | rfl | rfl | rfl
  · exact br_f (by decide) (br_f (by decide) (br_t (by decide) h))
  · exact br_f (by decide) (br_f (by decide) (br_f (by decide) (br_t (by decide) h)))
  · exact br_f (by decide) (br_f (by decide) (br_f (by decide) (br_f (by decide) (br_t (by decide) h))))
  · exact br_f (by decide) (br_t (by decide) h)
theorem yl_mix {post : Int32 → Prop} {v : SY} (a b : Bool) {k : Nat} (hk : k ≤ 3) (h : post (zb_I (ym_mix k a b))) : wpY_mixed post v (zb_I a) (zb_I b) (nI k) := by
  obtain ⟨c, w⟩ := v
  have hk' : k = 0 ∨ k = 1 ∨ k = 2 ∨ k = 3 := by omega
  rcases hk' with rfl | rfl | rfl | rfl
  · refine br_t (by decide) (br_c (fun z => br_c (fun z2 => ?_) (fun z2 => ?_)) (fun z => ?_)) <;> revert z <;> cases a <;> intro z
    all_goals first | exact absurd z (by decide) | exact absurd rfl z | skip
    all_goals first | exact h | (revert z2; cases b <;> intro z2 <;> first | exact absurd z2 (by decide) | exact absurd rfl z2 | exact h)
  · refine br_f (by decide) (br_t (by decide) (br_c (fun z => ?_) (fun z => br_c (fun z2 => ?_) (fun z2 => ?_)))) <;> revert z <;> cases a <;> intro z
    all_goals first | exact absurd z (by decide) | exact absurd rfl z | skip
    all_goals first | exact h | (revert z2; cases b <;> intro z2 <;> first | exact absurd z2 (by decide) | exact absurd rfl z2 | exact h)
  · refine br_f (by decide) (br_f (by decide) (br_t (by decide) (br_c (fun z => ?_) (fun z => br_c (fun z2 => ?_) (fun z2 => ?_))))) <;> revert z <;> cases a <;> intro z
    all_goals first | exact absurd z (by decide) | exact absurd rfl z | skip
    all_goals first | exact h | (revert z2; cases b <;> intro z2 <;> first | exact absurd z2 (by decide) | exact absurd rfl z2 | exact h)
  · refine br_f (by decide) (br_f (by decide) (br_f (by decide) (br_c (fun z => ?_) (fun z => ?_)))) <;> revert z <;> cases a <;> cases b <;> intro z
    all_goals first | exact absurd z (by decide) | exact absurd rfl z | exact h
/-! the box -/
def xb_5 (x : Int32) : Nat := x.toBitVec.toNat % 32
def xb_t (x : Int32) : Nat := xb_5 (x >>> ((5 : Int32) &&& 31))
theorem xb_5e (x : Int32) : x &&& 31 = nI (xb_5 x) := pk_and x 5 (by decide)
theorem xb_te (x : Int32) : (x >>> ((5 : Int32) &&& 31)) &&& 31 = nI (xb_t x) := xb_5e _
theorem xb_5l (x : Int32) : xb_5 x < 32 := Nat.mod_lt _ (by decide)
theorem xb_tl (x : Int32) : xb_t x < 32 := xb_5l _
def xb_in (c s : Int32) (x y : Nat) : Bool := decide (xb_5 c ≤ x ∧ x < xb_5 c + xb_5 s ∧ xb_t c ≤ y ∧ y < xb_t c + xb_t s)
def xb_row (c s : Int32) (y : Nat) : Int32 := if xb_t c ≤ y ∧ y < xb_t c + xb_t s then (((((1 : Int32) <<< (nI (xb_5 s) &&& 31)) - 1) <<< (nI (xb_5 c) &&& 31)) &&& 16777215) else 0
theorem xb_msk : ∀ w, w < 32 → ∀ i, i < 32 → bt (((1 : Int32) <<< (nI w &&& 31)) - 1) i = decide (i < w) := by decide +kernel
theorem xb_bt (c s : Int32) {y x : Nat} (hx : x < 32) : bt (xb_row c s y) x = (xb_in c s x y && decide (x < 24)) := by
  unfold xb_row xb_in
  by_cases h : xb_t c ≤ y ∧ y < xb_t c + xb_t s
  · rw [if_pos h, b_and, b_shl _ (xb_5l c) _ hx, zb_ff x hx, xb_msk _ (xb_5l s) _ (by omega), ← Bool.decide_and]
    refine congrArg (fun b => b && decide (x < 24)) (decide_eq_decide.mpr ?_)
    omega
  · rw [if_neg h, b_0, decide_eq_false (by omega), Bool.false_and]
theorem xl_boxRow {post : Int32 → Prop} (c s : Int32) {y : Nat} (hy : y < 24) (h : post (xb_row c s y)) : wpX_boxRow post c s (nI y) := by
  have h1 := xb_tl c
  have h2 := xb_tl s
  unfold xb_row at h
  refine nm_r (xb_te c) (nm_r (xb_te s) (pk_lt y (xb_t c) (fun z => ?_) (fun z => pk_lt y (xb_t c + xb_t s) (fun z2 => nm_r (xb_5e c) (nm_r (xb_5e s) ?_)) (fun z2 => ?_) rfl (nI_add _ _) (by omega) (by omega)) rfl rfl (by omega) (by omega)))
  · rw [if_neg (by omega)] at h
    exact h
  · rw [if_pos (by omega)] at h
    exact h
  · rw [if_neg (by omega)] at h
    exact h
theorem yl_inBox {post : Int32 → Prop} {v : SY} (c s : Int32) {x y : Nat} (hx : x < 24) (hy : y < 24) (h : post (zb_I (xb_in c s x y))) : wpY_inBox post v (nI x) (nI y) c s := by
  obtain ⟨cc, w⟩ := v
  have h1 := xb_tl c
  have h2 := xb_tl s
  have h3 := xb_5l c
  have h4 := xb_5l s
  have f : ¬ (xb_5 c ≤ x ∧ x < xb_5 c + xb_5 s ∧ xb_t c ≤ y ∧ y < xb_t c + xb_t s) → post 0 := fun z => by
    unfold xb_in at h
    rw [decide_eq_false z] at h
    exact h
  have t : (xb_5 c ≤ x ∧ x < xb_5 c + xb_5 s ∧ xb_t c ≤ y ∧ y < xb_t c + xb_t s) → post 1 := fun z => by
    unfold xb_in at h
    rw [decide_eq_true z] at h
    exact h
  refine nm_r (xb_5e c) (nm_r (xb_te c) (nm_r (xb_5e s) (nm_r (xb_te s) ?_)))
  refine pk_lt x (xb_5 c) (fun z => f (by omega)) (fun z1 => ?_) rfl rfl (by omega) (by omega)
  refine pk_le (xb_5 c + xb_5 s) x (fun z => f (by omega)) (fun z2 => ?_) (nI_add _ _) rfl (by omega) (by omega)
  refine pk_lt y (xb_t c) (fun z => f (by omega)) (fun z3 => ?_) rfl rfl (by omega) (by omega)
  exact pk_le (xb_t c + xb_t s) y (fun z => f (by omega)) (fun z4 => t (by omega)) (nI_add _ _) rfl (by omega) (by omega)
end
section
/-! box, combine, invert, area, has, same -/
theorem xl_box_l {post : Int32 → SX → Prop} {u : Nat → Int32} {r k : Nat} (hr : r < 3) (hk : k ≤ 3) (c s : Int32) {F : Nat → Int32} (hF : F = fun y => xm_mix k (u (r * 24 + y)) (xb_row c s y)) (h : post (nI (xc_cc (zr_u u (r * 24) F 24) r)) (zr_u u (r * 24) F 24)) : ∀ d y, y + d = 24 → wX_box_28 post (nI r) (nI k) c s (nI (r * 24)) (d + 1) (nI y) (zr_u u (r * 24) F y) := by
  intro d
  induction d with
  | zero =>
    intro y hy
    obtain rfl : y = 24 := by omega
    exact br_t (nI_le (a := 24) (b := 24) (by omega) (by decide)) (xl_cc _ hr h)
  | succ d ih =>
    intro y hy
    refine br_f (nI_ge (b := 24) (by omega) (by decide)) (xl_boxRow c s (by omega) ?_)
    rw [zn_cl (by omega), zr_out (by omega)]
    refine ⟨zn_in (by omega) (by decide), xl_mix _ _ hk ⟨zn_in (by omega) (by decide), nm_r ?_ (nm_r (nI_1 y) (ih (y + 1) (by omega)))⟩⟩
    rw [← zr_s, hF]
theorem xl_box {post : Int32 → SX → Prop} {u : Nat → Int32} {r k : Nat} (hr : r < 3) (hk : k ≤ 3) (c s : Int32) {F : Nat → Int32} (hF : F = fun y => xm_mix k (u (r * 24 + y)) (xb_row c s y)) (h : post (nI (xc_cc (zr_u u (r * 24) F 24) r)) (zr_u u (r * 24) F 24)) : wpX_box post u (nI r) (nI k) c s := by
  unfold wpX_box
  refine xl_reg hr (br_f (by decide) (xl_kind hk (br_f (by decide) (nm_r (zn_24 r) ⟨25, ?_⟩))))
  have g := xl_box_l hr hk c s hF h 24 0 rfl
  rw [zr_0] at g
  exact g
theorem yl_box_i {post : Int32 → SY → Prop} {J : Int32 → (Nat → Int32) → (Nat → Int32) → Prop} {c0 w : Nat → Int32} {r k : Nat} (hr : r < 3) (hk : k ≤ 3) (c s : Int32) {g : Nat → Bool} (hg : ∀ i, i < 576 → c0 (r * 576 + i) = zb_I (g i)) {G : Nat → Int32} (hG : G = fun i => zb_I (ym_mix k (g i) (xb_in c s (i % 24) (i / 24)))) {y : Nat} (hy : y < 24) (h : J (nI (y + 1)) (zr_u c0 (r * 576) G (y * 24 + 24)) w) : ∀ d x, x + d = 24 → wY_box_35 post J (nI r) (nI k) c s (nI y) (d + 1) (nI x) (zr_u c0 (r * 576) G (y * 24 + x)) w := by
  intro d
  induction d with
  | zero =>
    intro x hx
    obtain rfl : x = 24 := by omega
    exact br_t (nI_le (a := 24) (b := 24) (by omega) (by decide)) (nm_r (nI_1 y) h)
  | succ d ih =>
    intro x hx
    refine br_f (nI_ge (b := 24) (by omega) (by decide)) (nm_r (zn_y r y x) (yl_inBox c s (by omega) hy ⟨vp_in_nI (by omega) (by decide), ?_⟩))
    rw [nI_clamp (by omega), zr_out (by omega), hg _ (by omega)]
    refine yl_mix _ _ hk ⟨vp_in_nI (by omega) (by decide), nm_r ?_ (nm_r (nI_1 x) (ih (x + 1) (by omega)))⟩
    rw [zb_nar, ← Nat.add_assoc (y * 24) x 1, ← zr_s, hG]
    dsimp only
    rw [show (y * 24 + x) % 24 = x by omega, show (y * 24 + x) / 24 = y by omega]
theorem yl_box_l {post : Int32 → SY → Prop} {c0 w : Nat → Int32} {r k : Nat} (hr : r < 3) (hk : k ≤ 3) (c s : Int32) {g : Nat → Bool} (hg : ∀ i, i < 576 → c0 (r * 576 + i) = zb_I (g i)) {G : Nat → Int32} (hG : G = fun i => zb_I (ym_mix k (g i) (xb_in c s (i % 24) (i / 24)))) (h : post (nI (ya_ar (zr_u c0 (r * 576) G 576) r)) (zr_u c0 (r * 576) G 576, w)) : ∀ d y, y + d = 24 → wY_box_25 post (nI r) (nI k) c s (d + 1) (nI y) (zr_u c0 (r * 576) G (y * 24)) w := by
  intro d
  induction d with
  | zero =>
    intro y hy
    obtain rfl : y = 24 := by omega
    exact br_t (nI_le (a := 24) (b := 24) (by omega) (by decide)) (yl_ar _ _ hr h)
  | succ d ih =>
    intro y hy
    have g1 := ih (y + 1) (by omega)
    rw [Nat.succ_mul] at g1
    exact br_f (nI_ge (b := 24) (by omega) (by decide)) ⟨25, yl_box_i hr hk c s hg hG (by omega) g1 24 0 rfl⟩
theorem yl_box {post : Int32 → SY → Prop} {c0 w : Nat → Int32} {r k : Nat} (hr : r < 3) (hk : k ≤ 3) (c s : Int32) {g : Nat → Bool} (hg : ∀ i, i < 576 → c0 (r * 576 + i) = zb_I (g i)) {G : Nat → Int32} (hG : G = fun i => zb_I (ym_mix k (g i) (xb_in c s (i % 24) (i / 24)))) (h : post (nI (ya_ar (zr_u c0 (r * 576) G 576) r)) (zr_u c0 (r * 576) G 576, w)) : wpY_box post (c0, w) (nI r) (nI k) c s := by
  unfold wpY_box
  dsimp only
  refine yl_bad hr (br_t rfl (br_f (nI_pos (by omega)) (br_t (nI_le (b := 3) hk (by decide)) ⟨25, ?_⟩)))
  have g1 := yl_box_l hr hk c s hg hG h 24 0 rfl
  rw [Nat.zero_mul, zr_0] at g1
  exact g1
/-- the picture of region r -/
def zz_g (u : Nat → Int32) (r : Nat) (i : Nat) : Bool := bt (u (r * 24 + i / 24)) (i % 24)
theorem zz_gc {u c : Nat → Int32} (C : zz_C u c) {r : Nat} (hr : r < 3) : ∀ i, i < 576 → c (r * 576 + i) = zb_I (zz_g u r i) := fun i hi => by
  have h := zz_c C hr (y := i / 24) (x := i % 24) (by omega) (by omega)
  rw [show i / 24 * 24 + i % 24 = i by omega] at h
  exact h
theorem zz_ga (u : Nat → Int32) (r : Nat) {y x : Nat} (hx : x < 24) : zz_g u r (y * 24 + x) = bt (u (r * 24 + y)) x := by
  unfold zz_g
  rw [show (y * 24 + x) % 24 = x by omega, show (y * 24 + x) / 24 = y by omega]
theorem i_vc_box {k : Nat} {u : SX} {v : SY} (I : i_Rel k u v) (hk : k + 5 ≤ 2560) (v1 : Int32) (v2 : Int32) (v3 : Int32) (v4 : Int32) : wpX_box (fun r u' => wpY_box (fun r' v' => r' = r ∧ i_Rel (k + 5) u' v') v v1 v2 v3 v4) u v1 v2 v3 v4 := by
  obtain ⟨c, w⟩ := v
  obtain ⟨H, C⟩ := I
  have C : zz_C u c := C
  rcases pk_ix v1 (n := 3) (by decide) with h | h | ⟨r, hr, rfl⟩
  · unfold wpX_box wpY_box
    dsimp only
    exact xl_regN (Or.inl h) (br_t rfl (yl_badN (Or.inl h) (br_f (by decide) ⟨rfl, H, C⟩)))
  · unfold wpX_box wpY_box
    dsimp only
    exact xl_regN (Or.inr h) (br_t rfl (yl_badN (Or.inr h) (br_f (by decide) ⟨rfl, H, C⟩)))
  · rcases pk_ix v2 (n := 4) (by decide) with h | h | ⟨q, hq, rfl⟩
    · unfold wpX_box wpY_box
      dsimp only
      exact xl_reg hr (br_f (by decide) (xl_kindN (Or.inl h) (br_t rfl (yl_bad hr (br_t rfl (br_t h ⟨rfl, H, C⟩))))))
    · unfold wpX_box wpY_box
      dsimp only
      exact xl_reg hr (br_f (by decide) (xl_kindN (Or.inr h) (br_t rfl (yl_bad hr (br_t rfl (br_c (fun _ => ⟨rfl, H, C⟩) (fun _ => br_f (zn_nle (n := 3) (by decide) h) ⟨rfl, H, C⟩)))))))
    · have R := zz_upd hr H C (fun y => xm_mix q (u (r * 24 + y)) (xb_row v3 v4 y)) (fun i => zb_I (ym_mix q (zz_g u r i) (xb_in v3 v4 (i % 24) (i / 24)))) (by
        intro y hy i hi h32
        show bt (xm_mix _ _ _) i = false
        rw [xm_bt _ _ _ h32, H _ (by omega) i hi, xb_bt _ _ h32, decide_eq_false (by omega : ¬ i < 24), Bool.and_false]
        match q with
        | 0 => rfl
        | 1 => rfl
        | 2 => rfl
        | _ + 3 => rfl) (by
        intro y x hy hx
        show zb_I (ym_mix _ _ _) = zb_I (bt (xm_mix _ _ _) x)
        rw [xm_bt _ _ _ (by omega), xb_bt _ _ (by omega), decide_eq_true hx, Bool.and_true, zz_ga u r hx, show (y * 24 + x) % 24 = x by omega, show (y * 24 + x) / 24 = y by omega])
      refine xl_box hr (by omega) v3 v4 rfl (yl_box hr (by omega) v3 v4 (zz_gc C hr) rfl ⟨?_, R⟩)
      rw [ya_xc hr R.2]
/-! combine -/
theorem xl_comb_l {post : Int32 → SX → Prop} {u : Nat → Int32} {r a b k : Nat} (hr : r < 3) (ha : a < 3) (hb : b < 3) (hk : k ≤ 3) {F : Nat → Int32} (hF : F = fun y => xm_mix k (u (a * 24 + y)) (u (b * 24 + y))) (h : post (nI (xc_cc (zr_u u (r * 24) F 24) r)) (zr_u u (r * 24) F 24)) : ∀ d y, y + d = 24 → wX_combine_37 post (nI r) (nI a) (nI b) (nI k) (d + 1) (nI y) (zr_u u (r * 24) F y) := by
  intro d
  induction d with
  | zero =>
    intro y hy
    obtain rfl : y = 24 := by omega
    exact br_t (nI_le (a := 24) (b := 24) (by omega) (by decide)) (xl_cc _ hr h)
  | succ d ih =>
    intro y hy
    refine br_f (nI_ge (b := 24) (by omega) (by decide)) ?_
    rw [zn_24, zn_24, zn_24, zn_cl (by omega), zn_cl (by omega), zn_cl (by omega), zr_out (by omega), zr_out (by omega)]
    refine ⟨zn_in (by omega) (by decide), zn_in (by omega) (by decide), xl_mix _ _ hk ⟨zn_in (by omega) (by decide), nm_r ?_ (nm_r (nI_1 y) (ih (y + 1) (by omega)))⟩⟩
    rw [← zr_s, hF]
theorem xl_comb {post : Int32 → SX → Prop} {u : Nat → Int32} {r a b k : Nat} (hr : r < 3) (ha : a < 3) (hb : b < 3) (hk : k ≤ 3) {F : Nat → Int32} (hF : F = fun y => xm_mix k (u (a * 24 + y)) (u (b * 24 + y))) (h : post (nI (xc_cc (zr_u u (r * 24) F 24) r)) (zr_u u (r * 24) F 24)) : wpX_combine post u (nI r) (nI a) (nI b) (nI k) := by
  unfold wpX_combine
  refine xl_reg hr (br_f (by decide) (xl_reg ha (br_f (by decide) (xl_reg hb (br_f (by decide) (xl_kind hk (br_f (by decide) ⟨25, ?_⟩)))))))
  have g := xl_comb_l hr ha hb hk hF h 24 0 rfl
  rw [zr_0] at g
  exact g
theorem yl_comb_2 {post : Int32 → SY → Prop} {c w : Nat → Int32} {r : Nat} (hr : r < 3) {G : Nat → Int32} (hw : ∀ i, i < 576 → vp_nar .boolean (w i) = G i) (h : post (nI (ya_ar (zr_u c (r * 576) G 576) r)) (zr_u c (r * 576) G 576, w)) : ∀ d i, i + d = 576 → wY_combine_99 post (nI r) (d + 1) (nI i) (zr_u c (r * 576) G i) w := by
  intro d
  induction d with
  | zero =>
    intro i hi
    obtain rfl : i = 576 := by omega
    exact br_t (nI_le (a := 576) (b := 576) (by omega) (by decide)) (yl_ar _ _ hr h)
  | succ d ih =>
    intro i hi
    refine br_f (nI_ge (b := 576) (by omega) (by decide)) ?_
    rw [zn_576, zn_cl (by omega), nI_clamp (by omega), hw i (by omega)]
    exact ⟨vp_in_nI (by omega) (by decide), zn_in (by omega) (by decide), nm_r (zr_s _ _ _ _) (nm_r (nI_1 i) (ih (i + 1) (by omega)))⟩
theorem yl_comb_1 {post : Int32 → SY → Prop} {c w : Nat → Int32} {r a b k : Nat} (hr : r < 3) (ha : a < 3) (hb : b < 3) (hk : k ≤ 3) {ga gb : Nat → Bool} (hga : ∀ i, i < 576 → c (a * 576 + i) = zb_I (ga i)) (hgb : ∀ i, i < 576 → c (b * 576 + i) = zb_I (gb i)) {G : Nat → Int32} (hG : G = fun i => zb_I (ym_mix k (ga i) (gb i))) (h : post (nI (ya_ar (zr_u c (r * 576) G 576) r)) (zr_u c (r * 576) G 576, zr_u w 0 G 576)) : ∀ d i, i + d = 576 → wY_combine_43 post (nI r) (nI a) (nI b) (nI k) (d + 1) (nI i) c (zr_u w 0 G i) := by
  intro d
  induction d with
  | zero =>
    intro i hi
    obtain rfl : i = 576 := by omega
    refine br_t (nI_le (a := 576) (b := 576) (by omega) (by decide)) ⟨577, ?_⟩
    have g := yl_comb_2 (c := c) (w := zr_u w 0 G 576) hr (G := G) (fun i hi => by rw [zr_in0 hi, hG]; exact zb_nar _) h 576 0 rfl
    rw [zr_0] at g
    exact g
  | succ d ih =>
    intro i hi
    refine br_f (nI_ge (b := 576) (by omega) (by decide)) ?_
    rw [zn_576, zn_576, zn_cl (by omega), zn_cl (by omega), nI_clamp (by omega), hga i (by omega), hgb i (by omega)]
    refine ⟨zn_in (by omega) (by decide), zn_in (by omega) (by decide), yl_mix _ _ hk ⟨vp_in_nI (by omega) (by decide), nm_r ?_ (nm_r (nI_1 i) (ih (i + 1) (by omega)))⟩⟩
    rw [zb_nar, ← zr_s0, hG]
theorem yl_comb {post : Int32 → SY → Prop} {c w : Nat → Int32} {r a b k : Nat} (hr : r < 3) (ha : a < 3) (hb : b < 3) (hk : k ≤ 3) {ga gb : Nat → Bool} (hga : ∀ i, i < 576 → c (a * 576 + i) = zb_I (ga i)) (hgb : ∀ i, i < 576 → c (b * 576 + i) = zb_I (gb i)) {G : Nat → Int32} (hG : G = fun i => zb_I (ym_mix k (ga i) (gb i))) (h : post (nI (ya_ar (zr_u c (r * 576) G 576) r)) (zr_u c (r * 576) G 576, zr_u w 0 G 576)) : wpY_combine post (c, w) (nI r) (nI a) (nI b) (nI k) := by
  unfold wpY_combine
  dsimp only
  refine yl_bad hr (br_t rfl (yl_bad ha (br_t rfl (yl_bad hb (br_t rfl (br_f (nI_pos (by omega)) (br_t (nI_le (b := 3) hk (by decide)) ⟨577, ?_⟩)))))))
  have g := yl_comb_1 (w := w) hr ha hb hk hga hgb hG h 576 0 rfl
  rw [zr_0] at g
  exact g
theorem i_vc_combine {k : Nat} {u : SX} {v : SY} (I : i_Rel k u v) (hk : k + 5 ≤ 2560) (v1 : Int32) (v2 : Int32) (v3 : Int32) (v4 : Int32) : wpX_combine (fun r u' => wpY_combine (fun r' v' => r' = r ∧ i_Rel (k + 5) u' v') v v1 v2 v3 v4) u v1 v2 v3 v4 := by
  obtain ⟨c, w⟩ := v
  obtain ⟨H, C⟩ := I
  have C : zz_C u c := C
  have bad1 : (v1 < 0 ∨ nI 3 ≤ v1) → wpX_combine (fun o u' => wpY_combine (fun r' v' => r' = o ∧ i_Rel (k + 5) u' v') (c, w) v1 v2 v3 v4) u v1 v2 v3 v4 := fun h => by
    unfold wpX_combine wpY_combine
    dsimp only
    exact xl_regN h (br_t rfl (yl_badN h (br_f (by decide) ⟨rfl, H, C⟩)))
  rcases pk_ix v1 (n := 3) (by decide) with h | h | ⟨r, hr, rfl⟩
  · exact bad1 (Or.inl h)
  · exact bad1 (Or.inr h)
  have bad2 : (v2 < 0 ∨ nI 3 ≤ v2) → wpX_combine (fun o u' => wpY_combine (fun r' v' => r' = o ∧ i_Rel (k + 5) u' v') (c, w) (nI r) v2 v3 v4) u (nI r) v2 v3 v4 := fun h => by
    unfold wpX_combine wpY_combine
    dsimp only
    exact xl_reg hr (br_f (by decide) (xl_regN h (br_t rfl (yl_bad hr (br_t rfl (yl_badN h (br_f (by decide) ⟨rfl, H, C⟩)))))))
  rcases pk_ix v2 (n := 3) (by decide) with h | h | ⟨a, ha, rfl⟩
  · exact bad2 (Or.inl h)
  · exact bad2 (Or.inr h)
  have bad3 : (v3 < 0 ∨ nI 3 ≤ v3) → wpX_combine (fun o u' => wpY_combine (fun r' v' => r' = o ∧ i_Rel (k + 5) u' v') (c, w) (nI r) (nI a) v3 v4) u (nI r) (nI a) v3 v4 := fun h => by
    unfold wpX_combine wpY_combine
    dsimp only
    exact xl_reg hr (br_f (by decide) (xl_reg ha (br_f (by decide) (xl_regN h (br_t rfl (yl_bad hr (br_t rfl (yl_bad ha (br_t rfl (yl_badN h (br_f (by decide) ⟨rfl, H, C⟩)))))))))))
  rcases pk_ix v3 (n := 3) (by decide) with h | h | ⟨b, hb, rfl⟩
  · exact bad3 (Or.inl h)
  · exact bad3 (Or.inr h)
  rcases pk_ix v4 (n := 4) (by decide) with h | h | ⟨q, hq, rfl⟩
  · unfold wpX_combine wpY_combine
    dsimp only
    exact xl_reg hr (br_f (by decide) (xl_reg ha (br_f (by decide) (xl_reg hb (br_f (by decide) (xl_kindN (Or.inl h) (br_t rfl (yl_bad hr (br_t rfl (yl_bad ha (br_t rfl (yl_bad hb (br_t rfl (br_t h ⟨rfl, H, C⟩))))))))))))))
  · unfold wpX_combine wpY_combine
    dsimp only
    exact xl_reg hr (br_f (by decide) (xl_reg ha (br_f (by decide) (xl_reg hb (br_f (by decide) (xl_kindN (Or.inr h) (br_t rfl (yl_bad hr (br_t rfl (yl_bad ha (br_t rfl (yl_bad hb (br_t rfl (br_c (fun _ => ⟨rfl, H, C⟩) (fun _ => br_f (zn_nle (n := 3) (by decide) h) ⟨rfl, H, C⟩)))))))))))))))
  · have R := zz_upd hr H C (fun y => xm_mix q (u (a * 24 + y)) (u (b * 24 + y))) (fun i => zb_I (ym_mix q (zz_g u a i) (zz_g u b i))) (by
      intro y hy i hi h32
      show bt (xm_mix _ _ _) i = false
      rw [xm_bt _ _ _ h32, H _ (by omega) i hi, H _ (by omega) i hi]
      match q with
      | 0 => rfl
      | 1 => rfl
      | 2 => rfl
      | _ + 3 => rfl) (by
      intro y x hy hx
      show zb_I (ym_mix _ _ _) = zb_I (bt (xm_mix _ _ _) x)
      rw [xm_bt _ _ _ (by omega), zz_ga u a hx, zz_ga u b hx])
    refine xl_comb hr ha hb (by omega) rfl (yl_comb hr ha hb (by omega) (zz_gc C ha) (zz_gc C hb) rfl ⟨?_, R⟩)
    rw [ya_xc hr R.2]
end
section
/-! invert, area, has, same -/
theorem xl_inv_l {post : Int32 → SX → Prop} {u : Nat → Int32} {r : Nat} (hr : r < 3) {F : Nat → Int32} (hF : F = fun y => u (r * 24 + y) ^^^ 16777215) (h : post (nI (xc_cc (zr_u u (r * 24) F 24) r)) (zr_u u (r * 24) F 24)) : ∀ d y, y + d = 24 → wX_invert_16 post (nI r) (nI (r * 24)) (d + 1) (nI y) (zr_u u (r * 24) F y) := by
  intro d
  induction d with
  | zero =>
    intro y hy
    obtain rfl : y = 24 := by omega
    exact br_t (nI_le (a := 24) (b := 24) (by omega) (by decide)) (xl_cc _ hr h)
  | succ d ih =>
    intro y hy
    refine br_f (nI_ge (b := 24) (by omega) (by decide)) ?_
    rw [zn_cl (by omega), zr_out (by omega)]
    refine ⟨zn_in (by omega) (by decide), zn_in (by omega) (by decide), nm_r ?_ (nm_r (nI_1 y) (ih (y + 1) (by omega)))⟩
    rw [← zr_s, hF]
theorem xl_inv {post : Int32 → SX → Prop} {u : Nat → Int32} {r : Nat} (hr : r < 3) {F : Nat → Int32} (hF : F = fun y => u (r * 24 + y) ^^^ 16777215) (h : post (nI (xc_cc (zr_u u (r * 24) F 24) r)) (zr_u u (r * 24) F 24)) : wpX_invert post u (nI r) := by
  unfold wpX_invert
  refine xl_reg hr (br_f (by decide) (nm_r (zn_24 r) ⟨25, ?_⟩))
  have g := xl_inv_l hr hF h 24 0 rfl
  rw [zr_0] at g
  exact g
theorem yl_inv_l {post : Int32 → SY → Prop} {c w : Nat → Int32} {r : Nat} (hr : r < 3) {g : Nat → Bool} (hg : ∀ i, i < 576 → c (r * 576 + i) = zb_I (g i)) {G : Nat → Int32} (hG : G = fun i => zb_I (!g i)) (h : post (nI (ya_ar (zr_u c (r * 576) G 576) r)) (zr_u c (r * 576) G 576, w)) : ∀ d i, i + d = 576 → wY_invert_12 post (nI r) (d + 1) (nI i) (zr_u c (r * 576) G i) w := by
  intro d
  induction d with
  | zero =>
    intro i hi
    obtain rfl : i = 576 := by omega
    exact br_t (nI_le (a := 576) (b := 576) (by omega) (by decide)) (yl_ar _ _ hr h)
  | succ d ih =>
    intro i hi
    refine br_f (nI_ge (b := 576) (by omega) (by decide)) ?_
    rw [zn_576, zn_cl (by omega), zr_out (by omega), hg i (by omega)]
    refine ⟨zn_in (by omega) (by decide), br_c (fun z => ⟨zn_in (by omega) (by decide), nm_r ?_ (nm_r (nI_1 i) (ih (i + 1) (by omega)))⟩) (fun z => ⟨zn_in (by omega) (by decide), nm_r ?_ (nm_r (nI_1 i) (ih (i + 1) (by omega)))⟩)⟩
    · rw [zb_eq0] at z
      rw [← zr_s, hG]
      dsimp only
      rw [z]
      exact congrArg _ (zb_nar true)
    · rw [zb_eq0, Bool.not_eq_false] at z
      rw [← zr_s, hG]
      dsimp only
      rw [z]
      exact congrArg _ (zb_nar false)
theorem yl_inv {post : Int32 → SY → Prop} {c w : Nat → Int32} {r : Nat} (hr : r < 3) {g : Nat → Bool} (hg : ∀ i, i < 576 → c (r * 576 + i) = zb_I (g i)) {G : Nat → Int32} (hG : G = fun i => zb_I (!g i)) (h : post (nI (ya_ar (zr_u c (r * 576) G 576) r)) (zr_u c (r * 576) G 576, w)) : wpY_invert post (c, w) (nI r) := by
  unfold wpY_invert
  dsimp only
  refine yl_bad hr (br_t rfl ⟨577, ?_⟩)
  have g1 := yl_inv_l hr hg hG h 576 0 rfl
  rw [zr_0] at g1
  exact g1
theorem i_vc_invert {k : Nat} {u : SX} {v : SY} (I : i_Rel k u v) (hk : k + 5 ≤ 2560) (v1 : Int32) : wpX_invert (fun r u' => wpY_invert (fun r' v' => r' = r ∧ i_Rel (k + 5) u' v') v v1) u v1 := by
  obtain ⟨c, w⟩ := v
  obtain ⟨H, C⟩ := I
  have C : zz_C u c := C
  have bad1 : (v1 < 0 ∨ nI 3 ≤ v1) → wpX_invert (fun r u' => wpY_invert (fun r' v' => r' = r ∧ i_Rel (k + 5) u' v') (c, w) v1) u v1 := fun h => by
    unfold wpX_invert wpY_invert
    dsimp only
    exact xl_regN h (br_t rfl (yl_badN h (br_f (by decide) ⟨rfl, H, C⟩)))
  rcases pk_ix v1 (n := 3) (by decide) with h | h | ⟨r, hr, rfl⟩
  · exact bad1 (Or.inl h)
  · exact bad1 (Or.inr h)
  have R := zz_upd hr H C (fun y => u (r * 24 + y) ^^^ 16777215) (fun i => zb_I (!zz_g u r i)) (by
      intro y hy i hi h32
      show bt (_ ^^^ _) i = false
      rw [b_xor, H _ (by omega) i hi, zb_ff i h32, decide_eq_false (by omega : ¬ i < 24)]
      rfl) (by
      intro y x hy hx
      show zb_I (!zz_g u r (y * 24 + x)) = zb_I (bt (_ ^^^ _) x)
      rw [b_xor, zb_ff x (by omega), decide_eq_true hx, zz_ga u r hx, Bool.xor_true])
  refine xl_inv hr rfl (yl_inv hr (zz_gc C hr) rfl ⟨?_, R⟩)
  rw [ya_xc hr R.2]
theorem i_vc_area {k : Nat} {u : SX} {v : SY} (I : i_Rel k u v) (hk : k + 5 ≤ 2560) (v1 : Int32) : wpX_area (fun r => wpY_area (fun r' => r' = r ∧ i_Rel (k + 5) u v) v v1) u v1 := by
  obtain ⟨c, w⟩ := v
  obtain ⟨H, C⟩ := I
  have C : zz_C u c := C
  have bad1 : (v1 < 0 ∨ nI 3 ≤ v1) → wpX_area (fun r => wpY_area (fun r' => r' = r ∧ i_Rel (k + 5) u (c, w)) (c, w) v1) u v1 := fun h => by
    unfold wpX_area wpY_area
    dsimp only
    exact xl_regN h (br_t rfl (yl_badN h (br_f (by decide) ⟨rfl, H, C⟩)))
  rcases pk_ix v1 (n := 3) (by decide) with h | h | ⟨r, hr, rfl⟩
  · exact bad1 (Or.inl h)
  · exact bad1 (Or.inr h)
  unfold wpX_area
  refine xl_reg hr (br_f (by decide) (xl_cc _ hr (yl_ar _ _ hr ⟨?_, H, C⟩)))
  rw [ya_xc hr C]
/-! has -/
theorem xl_scr {post : Int32 → Prop} {k : Nat} (hk : k < 24) (h : post 1) : wpX_isOnScreen post (nI k) := br_f (nI_pos (by omega)) (br_f (nI_ge (b := 24) hk (by decide)) h)
theorem xl_scrN {post : Int32 → Prop} {r : Int32} (hr : r < 0 ∨ nI 24 ≤ r) (h : post 0) : wpX_isOnScreen post r := br_c (fun _ => h) (fun n => br_t (hr.resolve_left n) h)
theorem zn_lt {r : Int32} {n : Nat} (hn : n + 1 < 2 ^ 31) (h : nI (n + 1) ≤ r) : nI n < r := by
  rw [Int32.le_iff_toInt_le, nI_toInt hn] at h
  rw [Int32.lt_iff_toInt_lt, nI_toInt (by omega)]
  omega
theorem yl_has {post : Int32 → Prop} {u c w : Nat → Int32} (C : zz_C u c) {r x y : Nat} (hr : r < 3) (hx : x < 24) (hy : y < 24) (h : post (zb_I (bt (u (r * 24 + y)) x))) : wpY_has post (c, w) (nI r) (nI x) (nI y) := by
  unfold wpY_has
  dsimp only
  refine yl_bad hr (br_t rfl (br_f (nI_pos (by omega)) (br_f (nI_nlt (a := 23) (b := x) (by omega) (by decide)) (br_f (nI_pos (by omega)) (br_t (nI_le (b := 23) (by omega) (by decide)) ?_)))))
  rw [zn_y, nI_clamp (by omega), zz_c C hr hy hx]
  exact ⟨vp_in_nI (by omega) (by decide), zb_nr _, h⟩
theorem yl_hasX {post : Int32 → Prop} {c w : Nat → Int32} {r : Nat} (hr : r < 3) {x y : Int32} (hx : x < 0 ∨ nI 24 ≤ x) (h : post 0) : wpY_has post (c, w) (nI r) x y := by
  unfold wpY_has
  dsimp only
  exact yl_bad hr (br_t rfl (br_c (fun _ => h) (fun n => br_t (zn_lt (n := 23) (by decide) (hx.resolve_left n)) h)))
theorem yl_hasY {post : Int32 → Prop} {c w : Nat → Int32} {r x : Nat} (hr : r < 3) (hx : x < 24) {y : Int32} (hy : y < 0 ∨ nI 24 ≤ y) (h : post 0) : wpY_has post (c, w) (nI r) (nI x) y := by
  unfold wpY_has
  dsimp only
  exact yl_bad hr (br_t rfl (br_f (nI_pos (by omega)) (br_f (nI_nlt (a := 23) (b := x) (by omega) (by decide)) (br_c (fun _ => h) (fun n => br_f (zn_nle (n := 23) (by decide) (hy.resolve_left n)) h)))))
theorem i_vc_has {k : Nat} {u : SX} {v : SY} (I : i_Rel k u v) (hk : k + 5 ≤ 2560) (v1 : Int32) (v2 : Int32) (v3 : Int32) : wpX_has (fun r => wpY_has (fun r' => r' = r ∧ i_Rel (k + 5) u v) v v1 v2 v3) u v1 v2 v3 := by
  obtain ⟨c, w⟩ := v
  obtain ⟨H, C⟩ := I
  have C : zz_C u c := C
  have bad1 : (v1 < 0 ∨ nI 3 ≤ v1) → wpX_has (fun r => wpY_has (fun r' => r' = r ∧ i_Rel (k + 5) u (c, w)) (c, w) v1 v2 v3) u v1 v2 v3 := fun h => by
    unfold wpX_has wpY_has
    dsimp only
    exact xl_regN h (br_t rfl (yl_badN h (br_f (by decide) ⟨rfl, H, C⟩)))
  rcases pk_ix v1 (n := 3) (by decide) with h | h | ⟨r, hr, rfl⟩
  · exact bad1 (Or.inl h)
  · exact bad1 (Or.inr h)
  unfold wpX_has
  refine xl_reg hr (br_f (by decide) ?_)
  have bad2 : (v2 < 0 ∨ nI 24 ≤ v2) → wpY_has (fun r' => r' = 0 ∧ i_Rel (k + 5) u (c, w)) (c, w) (nI r) v2 v3 := fun h => yl_hasX hr h ⟨rfl, H, C⟩
  rcases pk_ix v2 (n := 24) (by decide) with h | h | ⟨x, hx, rfl⟩
  · exact xl_scrN (Or.inl h) (br_t rfl (bad2 (Or.inl h)))
  · exact xl_scrN (Or.inr h) (br_t rfl (bad2 (Or.inr h)))
  refine xl_scr hx (br_f (by decide) ?_)
  have bad3 : (v3 < 0 ∨ nI 24 ≤ v3) → wpY_has (fun r' => r' = 0 ∧ i_Rel (k + 5) u (c, w)) (c, w) (nI r) (nI x) v3 := fun h => yl_hasY hr hx h ⟨rfl, H, C⟩
  rcases pk_ix v3 (n := 24) (by decide) with h | h | ⟨y, hy, rfl⟩
  · exact xl_scrN (Or.inl h) (br_t rfl (bad3 (Or.inl h)))
  · exact xl_scrN (Or.inr h) (br_t rfl (bad3 (Or.inr h)))
  refine xl_scr hy (br_f (by decide) ?_)
  rw [zn_24, zn_cl (by omega), zb_bit _ (by omega)]
  refine ⟨zn_in (by omega) (by decide), br_c (fun z => yl_has C hr hx hy ⟨z, H, C⟩) (fun z => yl_has C hr hx hy ⟨?_, H, C⟩)⟩
  revert z
  cases bt (u (r * 24 + y)) x
  · exact fun _ => rfl
  · exact fun z => absurd rfl z
/-! same -/
theorem xl_same_l {post : Int32 → Prop} {u : Nat → Int32} {a b : Nat} (ha : a < 3) (hb : b < 3) : ∀ d i, i + d = 24 → ((∀ y, i ≤ y → y < 24 → u (a * 24 + y) = u (b * 24 + y)) → post 1) → ((¬ ∀ y, i ≤ y → y < 24 → u (a * 24 + y) = u (b * 24 + y)) → post 0) → wX_same_18 post (nI a) (nI b) u (d + 1) (nI i) := by
  intro d
  induction d with
  | zero =>
    intro i hi h1 h0
    obtain rfl : i = 24 := by omega
    exact br_t (nI_le (a := 24) (b := 24) (by omega) (by decide)) (h1 fun y hy hy2 => by omega)
  | succ d ih =>
    intro i hi h1 h0
    refine br_f (nI_ge (b := 24) (by omega) (by decide)) ?_
    rw [zn_24, zn_24, zn_cl (by omega), zn_cl (by omega)]
    refine ⟨zn_in (by omega) (by decide), zn_in (by omega) (by decide), br_c (fun z => nm_r (nI_1 i) (ih (i + 1) (by omega) (fun g => h1 ?_) (fun g => h0 ?_))) (fun z => h0 ?_)⟩
    · intro y hy hy2
      by_cases e : y = i
      · rw [e]; exact z
      · exact g y (by omega) hy2
    · exact fun q => g fun y hy hy2 => q y (by omega) hy2
    · exact fun q => z (q i (Nat.le_refl i) (by omega))
theorem yl_same_l {post : Int32 → Prop} {c w : Nat → Int32} {a b : Nat} (ha : a < 3) (hb : b < 3) : ∀ d i, i + d = 576 → ((∀ y, i ≤ y → y < 576 → c (a * 576 + y) = c (b * 576 + y)) → post 1) → ((¬ ∀ y, i ≤ y → y < 576 → c (a * 576 + y) = c (b * 576 + y)) → post 0) → wY_same_20 post (nI a) (nI b) c w (d + 1) (nI i) := by
  intro d
  induction d with
  | zero =>
    intro i hi h1 h0
    obtain rfl : i = 576 := by omega
    exact br_t (nI_le (a := 576) (b := 576) (by omega) (by decide)) (h1 fun y hy hy2 => by omega)
  | succ d ih =>
    intro i hi h1 h0
    refine br_f (nI_ge (b := 576) (by omega) (by decide)) ?_
    rw [zn_576, zn_576, zn_cl (by omega), zn_cl (by omega)]
    refine ⟨zn_in (by omega) (by decide), zn_in (by omega) (by decide), br_c (fun z => nm_r (nI_1 i) (ih (i + 1) (by omega) (fun g => h1 ?_) (fun g => h0 ?_))) (fun z => h0 ?_)⟩
    · intro y hy hy2
      by_cases e : y = i
      · rw [e]; exact z
      · exact g y (by omega) hy2
    · exact fun q => g fun y hy hy2 => q y (by omega) hy2
    · exact fun q => z (q i (Nat.le_refl i) (by omega))
/-- two rows are one when their 24 cells are -/
theorem zz_row {u : Nat → Int32} (H : zz_H u) {i j : Nat} (hi : i < 72) (hj : j < 72) (h : ∀ x, x < 24 → bt (u i) x = bt (u j) x) : u i = u j := b_ext fun x _ => by
  by_cases e : x < 24
  · exact h x e
  · rw [H i hi x (by omega), H j hj x (by omega)]
theorem i_vc_same {k : Nat} {u : SX} {v : SY} (I : i_Rel k u v) (hk : k + 5 ≤ 2560) (v1 : Int32) (v2 : Int32) : wpX_same (fun r => wpY_same (fun r' => r' = r ∧ i_Rel (k + 5) u v) v v1 v2) u v1 v2 := by
  obtain ⟨c, w⟩ := v
  obtain ⟨H, C⟩ := I
  have C : zz_C u c := C
  unfold wpX_same wpY_same
  dsimp only
  have bad1 : (v1 < 0 ∨ nI 3 ≤ v1) → wpX_same (fun r => wpY_same (fun r' => r' = r ∧ i_Rel (k + 5) u (c, w)) (c, w) v1 v2) u v1 v2 := fun h => by
    unfold wpX_same wpY_same
    dsimp only
    exact xl_regN h (br_t rfl (yl_badN h (br_f (by decide) ⟨rfl, H, C⟩)))
  rcases pk_ix v1 (n := 3) (by decide) with h | h | ⟨a, ha, rfl⟩
  · exact bad1 (Or.inl h)
  · exact bad1 (Or.inr h)
  refine xl_reg ha (br_f (by decide) ?_)
  rcases pk_ix v2 (n := 3) (by decide) with h | h | ⟨b, hb, rfl⟩
  · exact xl_regN (Or.inl h) (br_t rfl (yl_bad ha (br_t rfl (yl_badN (Or.inl h) (br_f (by decide) ⟨rfl, H, C⟩)))))
  · exact xl_regN (Or.inr h) (br_t rfl (yl_bad ha (br_t rfl (yl_badN (Or.inr h) (br_f (by decide) ⟨rfl, H, C⟩)))))
  have e : (∀ y, 0 ≤ y → y < 24 → u (a * 24 + y) = u (b * 24 + y)) ↔ (∀ y, 0 ≤ y → y < 576 → c (a * 576 + y) = c (b * 576 + y)) := by
    constructor
    · intro g i _ hi
      rw [zz_gc C ha i hi, zz_gc C hb i hi]
      unfold zz_g
      rw [g (i / 24) (Nat.zero_le _) (by omega)]
    · intro g y _ hy
      refine zz_row H (by omega) (by omega) (fun x hx => ?_)
      have q := g (y * 24 + x) (Nat.zero_le _) (by omega)
      rw [zz_c C ha hy hx, zz_c C hb hy hx, zb_inj] at q
      exact q
  refine xl_reg hb (br_f (by decide) ⟨25, xl_same_l ha hb 24 0 rfl (fun g => ?_) (fun g => ?_)⟩)
  · exact yl_bad ha (br_t rfl (yl_bad hb (br_t rfl ⟨577, yl_same_l ha hb 576 0 rfl (fun _ => ⟨rfl, H, C⟩) (fun q => absurd (e.mp g) q)⟩)))
  · exact yl_bad ha (br_t rfl (yl_bad hb (br_t rfl ⟨577, yl_same_l ha hb 576 0 rfl (fun q => absurd (e.mpr q) g) (fun _ => ⟨rfl, H, C⟩)⟩)))
end
section
/-! move -/
theorem zn_sum {x : Nat} (hx : x < 24) (d : Int32) : (0 ≤ (x : Int) + d.toInt ∧ (x : Int) + d.toInt < 24 ∧ nI x + d = nI ((x : Int) + d.toInt).toNat) ∨ (¬ (0 ≤ (x : Int) + d.toInt ∧ (x : Int) + d.toInt < 24) ∧ (nI x + d < 0 ∨ (24 : Int32) ≤ nI x + d)) := by
  have h1 := Int32.le_toInt d
  have h2 := Int32.toInt_lt d
  have e : (nI x + d).toInt = ((x : Int) + d.toInt).bmod (2 ^ 32) := by rw [Int32.toInt_add, nI_toInt (by omega)]
  rw [Int.bmod_def] at e
  have z0 : (0 : Int32).toInt = 0 := by decide
  have z24 : (24 : Int32).toInt = 24 := by decide
  by_cases h : 0 ≤ (x : Int) + d.toInt ∧ (x : Int) + d.toInt < 24
  · refine Or.inl ⟨h.1, h.2, ?_⟩
    apply Int32.toInt_inj.mp
    rw [e, nI_toInt (by omega)]
    split <;> omega
  · refine Or.inr ⟨h, ?_⟩
    rw [Int32.lt_iff_toInt_lt, Int32.le_iff_toInt_le, z0, z24]
    split at e <;> omega
theorem zn_near (x : Int32) : (24 : Int32) ≤ x ∨ ¬ (-24 : Int32) < x ∨ (¬ (24 : Int32) ≤ x ∧ (-24 : Int32) < x ∧ ((∃ d, d < 24 ∧ x = nI d ∧ x.toInt = (d : Int)) ∨ (∃ d, 0 < d ∧ d < 24 ∧ x = -nI d ∧ x.toInt = -(d : Int)))) := by
  by_cases h1 : (24 : Int32) ≤ x
  · exact Or.inl h1
  by_cases h2 : (-24 : Int32) < x
  · refine Or.inr (Or.inr ⟨h1, h2, ?_⟩)
    rw [Int32.le_iff_toInt_le] at h1
    rw [Int32.lt_iff_toInt_lt] at h2
    have z24 : (24 : Int32).toInt = 24 := by decide
    have y24 : (-24 : Int32).toInt = -24 := by decide
    by_cases h0 : 0 ≤ x.toInt
    · refine Or.inl ⟨x.toInt.toNat, by omega, ?_, by omega⟩
      apply Int32.toInt_inj.mp
      rw [nI_toInt (by omega)]
      omega
    · refine Or.inr ⟨(-x.toInt).toNat, by omega, by omega, ?_, by omega⟩
      apply Int32.toInt_inj.mp
      rw [Int32.toInt_neg, nI_toInt (by omega), Int.bmod_eq_of_le (by omega) (by omega)]
      omega
  · exact Or.inr (Or.inl h2)
theorem xl_far {post : Int32 → Prop} {x : Int32} (h : (24 : Int32) ≤ x ∨ ¬ (-24 : Int32) < x) (p : post 1) : wpX_isFar post x := br_c (fun _ => p) (fun n => br_f (h.resolve_left n) p)
theorem xl_nfar {post : Int32 → Prop} {x : Int32} (h1 : ¬ (24 : Int32) ≤ x) (h2 : (-24 : Int32) < x) (p : post 0) : wpX_isFar post x := br_f h1 (br_t h2 p)
theorem xl_clear_l {post : SX → Prop} {u : Nat → Int32} {r : Nat} (hr : r < 3) (h : post (zr_u u (r * 24) (fun _ => 0) 24)) : ∀ d y, y + d = 24 → wX_clear_2 post (nI r) (d + 1) (nI y) (zr_u u (r * 24) (fun _ => 0) y) := by
  intro d
  induction d with
  | zero =>
    intro y hy
    obtain rfl : y = 24 := by omega
    exact br_t (nI_le (a := 24) (b := 24) (by omega) (by decide)) h
  | succ d ih =>
    intro y hy
    refine br_f (nI_ge (b := 24) (by omega) (by decide)) ?_
    rw [zn_24, zn_cl (by omega)]
    exact ⟨zn_in (by omega) (by decide), nm_r (zr_s _ _ (fun _ => 0) _) (nm_r (nI_1 y) (ih (y + 1) (by omega)))⟩
theorem xl_clear {post : SX → Prop} {u : Nat → Int32} {r : Nat} (hr : r < 3) (h : post (zr_u u (r * 24) (fun _ => 0) 24)) : wpX_clear post u (nI r) := by
  have g := xl_clear_l hr h 24 0 rfl
  rw [zr_0] at g
  exact ⟨25, g⟩
def xs_a (dx row : Int32) : Int32 := if dx < 0 then row >>> ((-dx) &&& 31) else (row <<< (dx &&& 31)) &&& 16777215
theorem xl_sa_l {post : SX → Prop} {u : Nat → Int32} {r : Nat} (hr : r < 3) (dx : Int32) {F : Nat → Int32} (hF : F = fun y => xs_a dx (u (r * 24 + y))) (h : post (zr_u u (r * 24) F 24)) : ∀ d y, y + d = 24 → wX_shiftAcross_8 post dx (nI (r * 24)) (d + 1) (nI y) (zr_u u (r * 24) F y) := by
  intro d
  induction d with
  | zero =>
    intro y hy
    obtain rfl : y = 24 := by omega
    exact br_t (nI_le (a := 24) (b := 24) (by omega) (by decide)) h
  | succ d ih =>
    intro y hy
    refine br_f (nI_ge (b := 24) (by omega) (by decide)) ?_
    rw [zn_cl (by omega), zr_out (by omega)]
    refine ⟨zn_in (by omega) (by decide), nm_e (br_c (fun z => ⟨zn_in (by omega) (by decide), nm_r ?_ (nm_r (nI_1 y) (ih (y + 1) (by omega)))⟩) (fun z => ⟨zn_in (by omega) (by decide), nm_r ?_ (nm_r (nI_1 y) (ih (y + 1) (by omega)))⟩))⟩
    · rw [← zr_s, hF]
      dsimp only
      unfold xs_a
      rw [if_pos z]
    · rw [← zr_s, hF]
      dsimp only
      unfold xs_a
      rw [if_neg z]
theorem xl_sa {post : SX → Prop} {u : Nat → Int32} {r : Nat} (hr : r < 3) (dx : Int32) {F : Nat → Int32} (hF : F = fun y => xs_a dx (u (r * 24 + y))) (h : post (zr_u u (r * 24) F 24)) : wpX_shiftAcross post u (nI r) dx := by
  have g := xl_sa_l hr dx hF h 24 0 rfl
  rw [zr_0] at g
  exact nm_r (zn_24 r) ⟨25, g⟩
theorem xl_sd29 {post : SX → Prop} {J : Int32 → (Nat → Int32) → Prop} {a : Nat → Int32} {b y s : Nat} {x2 v : Int32} (hb : b + 24 ≤ 72) (hy : y < 24) (e : (∃ f, f < 24 ∧ nI y - x2 = nI f ∧ v = a (b + f)) ∨ ((nI y - x2 < 0 ∨ nI 24 ≤ nI y - x2) ∧ v = 0)) (h : J (nI (s + 1)) (upd a (b + y) v)) : wX_shiftDown_29 post J x2 (nI b) (nI s) (nI y) a := by
  rcases e with ⟨f, hf, e, rfl⟩ | ⟨e, rfl⟩
  · refine nm_r e (xl_scr hf (br_f (by decide) ?_))
    rw [zn_cl (by omega), zn_cl (by omega)]
    exact ⟨zn_in (by omega) (by decide), zn_in (by omega) (by decide), nm_e (nm_r (nI_1 s) h)⟩
  · refine nm_e (xl_scrN e (br_t rfl ?_))
    rw [zn_cl (by omega)]
    exact ⟨zn_in (by omega) (by decide), nm_e (nm_r (nI_1 s) h)⟩
/-- row y of the region at b, dl rows further up -/
def xs_d (u : Nat → Int32) (b : Nat) (dl : Int) (y : Nat) : Int32 := if 0 ≤ (y : Int) - dl ∧ (y : Int) - dl < 24 then u (b + ((y : Int) - dl).toNat) else 0
theorem xl_sdN_l {post : SX → Prop} {u : Nat → Int32} {b e : Nat} (hb : b + 24 ≤ 72) (he0 : 0 < e) (he : e < 24) {F : Nat → Int32} (hF : F = xs_d u b (-(e : Int))) (h : post (zr_u u b F 24)) : ∀ d y, y + d = 24 → wX_shiftDown_8 post (-nI e) (nI b) (d + 1) (nI y) (zr_u u b F y) := by
  have hn : -nI e < 0 := by
    rw [Int32.lt_iff_toInt_lt, Int32.toInt_neg, nI_toInt (by omega), Int.bmod_eq_of_le (by omega) (by omega), show (0 : Int32).toInt = 0 from by decide]
    omega
  intro d
  induction d with
  | zero =>
    intro y hy
    obtain rfl : y = 24 := by omega
    exact br_t (nI_le (a := 24) (b := 24) (by omega) (by decide)) h
  | succ d ih =>
    intro y hy
    have g := ih (y + 1) (by omega)
    rw [← zr_s] at g
    refine br_f (nI_ge (b := 24) (by omega) (by decide)) (br_t hn (xl_sd29 (v := F y) hb (by omega) ?_ g))
    have e6 : nI y - -nI e = nI (y + e) := by
      rw [← nI_add]
      grind
    rw [e6]
    by_cases z : y + e < 24
    · refine Or.inl ⟨y + e, z, rfl, ?_⟩
      rw [zr_out (by omega), hF]
      unfold xs_d
      rw [if_pos (by omega)]
      exact congrArg u (by omega)
    · refine Or.inr ⟨Or.inr (nI_le (by omega) (by omega)), ?_⟩
      rw [hF]
      exact if_neg (by omega)
/-- the rows of F from the last one on, s of them -/
def xs_r (u : Nat → Int32) (b : Nat) (F : Nat → Int32) (s : Nat) : Nat → Int32 := fun j => if b + 24 - s ≤ j ∧ j < b + 24 then F (j - b) else u j
theorem xs_r0 (u : Nat → Int32) (b : Nat) (F : Nat → Int32) : xs_r u b F 0 = u := funext fun j => if_neg (by omega)
theorem xs_r24 (u : Nat → Int32) (b : Nat) (F : Nat → Int32) : xs_r u b F 24 = zr_u u b F 24 := funext fun j => by
  unfold xs_r zr_u
  by_cases h : b ≤ j ∧ j < b + 24
  · rw [if_pos h, if_pos (by omega)]
  · rw [if_neg h, if_neg (by omega)]
theorem xs_rs (u : Nat → Int32) (b : Nat) (F : Nat → Int32) {s : Nat} (hs : s < 24) : upd (xs_r u b F s) (b + (23 - s)) (F (23 - s)) = xs_r u b F (s + 1) := by
  funext j
  by_cases h : j = b + (23 - s)
  · subst h
    rw [pk_us]
    unfold xs_r
    rw [if_pos (by omega)]
    exact congrArg F (by omega)
  · rw [pk_un h]
    unfold xs_r
    by_cases h2 : b + 24 - s ≤ j ∧ j < b + 24
    · rw [if_pos h2, if_pos (by omega)]
    · rw [if_neg h2, if_neg (by omega)]
theorem xl_sdP_l {post : SX → Prop} {u : Nat → Int32} {b e : Nat} (hb : b + 24 ≤ 72) (he : e < 24) {F : Nat → Int32} (hF : F = xs_d u b (e : Int)) (h : post (xs_r u b F 24)) : ∀ d y, y + d = 24 → wX_shiftDown_8 post (nI e) (nI b) (d + 1) (nI y) (xs_r u b F y) := by
  intro d
  induction d with
  | zero =>
    intro y hy
    obtain rfl : y = 24 := by omega
    exact br_t (nI_le (a := 24) (b := 24) (by omega) (by decide)) h
  | succ d ih =>
    intro y hy
    have g := ih (y + 1) (by omega)
    rw [← xs_rs u b F (by omega)] at g
    refine br_f (nI_ge (b := 24) (by omega) (by decide)) (br_f (nI_pos (by omega)) ?_)
    rw [show (23 : Int32) - nI y = nI (23 - y) from pk_sub (a := 23) (by omega)]
    refine xl_sd29 (v := F (23 - y)) hb (by omega) ?_ g
    by_cases z : e ≤ 23 - y
    · refine Or.inl ⟨23 - y - e, by omega, pk_sub z, ?_⟩
      unfold xs_r
      rw [if_neg (by omega), hF]
      unfold xs_d
      rw [if_pos (by omega)]
      exact congrArg u (by omega)
    · refine Or.inr ⟨Or.inl (pk_sneg (by omega) (by omega)), ?_⟩
      rw [hF]
      exact if_neg (by omega)
theorem xl_sd {post : SX → Prop} {u : Nat → Int32} {r : Nat} (hr : r < 3) {dy : Int32} (hd : (∃ d, d < 24 ∧ dy = nI d ∧ dy.toInt = (d : Int)) ∨ (∃ d, 0 < d ∧ d < 24 ∧ dy = -nI d ∧ dy.toInt = -(d : Int))) (h : post (zr_u u (r * 24) (xs_d u (r * 24) dy.toInt) 24)) : wpX_shiftDown post u (nI r) dy := by
  rcases hd with ⟨e, he, e1, e2⟩ | ⟨e, he0, he, e1, e2⟩
  · rw [e2, ← xs_r24] at h
    have g := xl_sdP_l (by omega) he rfl h 24 0 rfl
    rw [xs_r0, ← e1] at g
    exact nm_r (zn_24 r) ⟨25, g⟩
  · rw [e2] at h
    have g := xl_sdN_l (by omega) he0 he rfl h 24 0 rfl
    rw [zr_0, ← e1] at g
    exact nm_r (zn_24 r) ⟨25, g⟩
theorem zr_zr (u : Nat → Int32) (b : Nat) (F G : Nat → Int32) (i : Nat) : zr_u (zr_u u b F i) b G i = zr_u u b G i := by
  funext j
  by_cases h : b ≤ j ∧ j < b + i
  · rw [zr_at h, zr_at h]
  · rw [zr_out (by omega), zr_out (by omega), zr_out (by omega)]
/-- the bits of a row that was shifted across -/
theorem xs_abt {dx row : Int32} (hd : (∃ d, d < 24 ∧ dx = nI d ∧ dx.toInt = (d : Int)) ∨ (∃ d, 0 < d ∧ d < 24 ∧ dx = -nI d ∧ dx.toInt = -(d : Int))) (hrow : ∀ i, 24 ≤ i → bt row i = false) {x : Nat} (hx : x < 32) : bt (xs_a dx row) x = (decide (x < 24 ∧ 0 ≤ (x : Int) - dx.toInt ∧ (x : Int) - dx.toInt < 24) && bt row ((x : Int) - dx.toInt).toNat) := by
  unfold xs_a
  rcases hd with ⟨e, he, e1, e2⟩ | ⟨e, he0, he, e1, e2⟩
  · rw [e2, e1, if_neg (nI_pos (by omega)), b_and, b_shl e (by omega) _ hx, zb_ff x hx]
    by_cases z : x < 24 ∧ e ≤ x
    · rw [decide_eq_true z.1, decide_eq_true z.2, decide_eq_true (by omega), show ((x : Int) - (e : Int)).toNat = x - e by omega, Bool.and_true]
    · rw [decide_eq_false (by omega : ¬ (x < 24 ∧ 0 ≤ (x : Int) - (e : Int) ∧ (x : Int) - (e : Int) < 24)), Bool.false_and]
      by_cases z1 : x < 24
      · rw [decide_eq_false (by omega : ¬ e ≤ x), Bool.false_and, Bool.false_and]
      · rw [decide_eq_false z1, Bool.and_false]
  · have hn : -nI e < 0 := by
      rw [Int32.lt_iff_toInt_lt, Int32.toInt_neg, nI_toInt (by omega), Int.bmod_eq_of_le (by omega) (by omega), show (0 : Int32).toInt = 0 from by decide]
      omega
    have hnn : - -nI e = nI e := by grind
    rw [e2, e1, if_pos hn, hnn, b_sshr e (by omega) _ hx]
    by_cases z : x < 24 ∧ e + x < 24
    · rw [if_pos (by omega), decide_eq_true (by omega), show ((x : Int) - -(e : Int)).toNat = e + x by omega, Bool.true_and]
    · rw [decide_eq_false (by omega), Bool.false_and]
      by_cases z1 : e + x < 32
      · rw [if_pos z1]
        exact hrow _ (by omega)
      · rw [if_neg z1]
        exact hrow _ (by omega)
/-! the reference's move: what stands at q once the cells below p were carried over -/
def ym_S (g : Nat → Bool) (dx dy : Int) (p : Nat) (q : Nat) : Bool := decide (0 ≤ ((q % 24 : Nat) : Int) - dx ∧ ((q % 24 : Nat) : Int) - dx < 24 ∧ 0 ≤ ((q / 24 : Nat) : Int) - dy ∧ ((q / 24 : Nat) : Int) - dy < 24 ∧ (((q / 24 : Nat) : Int) - dy) * 24 + (((q % 24 : Nat) : Int) - dx) < (p : Int)) && g ((((q / 24 : Nat) : Int) - dy) * 24 + (((q % 24 : Nat) : Int) - dx)).toNat
theorem ym_S0 (g : Nat → Bool) (dx dy : Int) (q : Nat) : ym_S g dx dy 0 q = false := by
  unfold ym_S
  rw [decide_eq_false (by omega), Bool.false_and]
theorem ym_Sn {g : Nat → Bool} {dx dy : Int} {y x q : Nat} (hx : x < 24) (h : ¬ ((0 ≤ (x : Int) + dx ∧ (x : Int) + dx < 24) ∧ (0 ≤ (y : Int) + dy ∧ (y : Int) + dy < 24)) ∨ (q : Int) ≠ ((y : Int) + dy) * 24 + ((x : Int) + dx)) (hq : q < 576) : ym_S g dx dy (y * 24 + x + 1) q = ym_S g dx dy (y * 24 + x) q := by
  unfold ym_S
  refine congrArg (fun b => b && g _) (decide_eq_decide.mpr ?_)
  omega
theorem ym_Ss {g : Nat → Bool} {dx dy : Int} {y x q : Nat} (hx : x < 24) (hy : y < 24) (hX : 0 ≤ (x : Int) + dx ∧ (x : Int) + dx < 24) (hY : 0 ≤ (y : Int) + dy ∧ (y : Int) + dy < 24) (hq : (q : Int) = ((y : Int) + dy) * 24 + ((x : Int) + dx)) : ym_S g dx dy (y * 24 + x + 1) q = g (y * 24 + x) := by
  unfold ym_S
  have e1 : ((q % 24 : Nat) : Int) - dx = x := by omega
  have e2 : ((q / 24 : Nat) : Int) - dy = y := by omega
  rw [e1, e2, decide_eq_true (by omega), Bool.true_and]
  exact congrArg g (by omega)
theorem yl_mv_3 {post : Int32 → SY → Prop} {c w : Nat → Int32} {r : Nat} (hr : r < 3) {G : Nat → Int32} (hw : ∀ i, i < 576 → vp_nar .boolean (w i) = G i) (h : post (nI (ya_ar (zr_u c (r * 576) G 576) r)) (zr_u c (r * 576) G 576, w)) : ∀ d i, i + d = 576 → wY_move_138 post (nI r) (d + 1) (nI i) (zr_u c (r * 576) G i) w := by
  intro d
  induction d with
  | zero =>
    intro i hi
    obtain rfl : i = 576 := by omega
    exact br_t (nI_le (a := 576) (b := 576) (by omega) (by decide)) (yl_ar _ _ hr h)
  | succ d ih =>
    intro i hi
    refine br_f (nI_ge (b := 576) (by omega) (by decide)) ?_
    rw [zn_576, zn_cl (by omega), nI_clamp (by omega), hw i (by omega)]
    exact ⟨vp_in_nI (by omega) (by decide), zn_in (by omega) (by decide), nm_r (zr_s _ _ _ _) (nm_r (nI_1 i) (ih (i + 1) (by omega)))⟩
theorem yl_mv_2i {post : Int32 → SY → Prop} {J : Int32 → (Nat → Int32) → (Nat → Int32) → Prop} {c : Nat → Int32} {r : Nat} (hr : r < 3) (dx dy : Int32) {g : Nat → Bool} (hg : ∀ i, i < 576 → c (r * 576 + i) = zb_I (g i)) {y : Nat} (hy : y < 24) (hJ : ∀ w, (∀ q, q < 576 → w q = zb_I (ym_S g dx.toInt dy.toInt (y * 24 + 24) q)) → J (nI (y + 1)) c w) : ∀ d x w, x + d = 24 → (∀ q, q < 576 → w q = zb_I (ym_S g dx.toInt dy.toInt (y * 24 + x) q)) → wY_move_48 post J (nI r) dx dy (nI y) (d + 1) (nI x) c w := by
  intro d
  induction d with
  | zero =>
    intro x w hx hw
    obtain rfl : x = 24 := by omega
    exact br_t (nI_le (a := 24) (b := 24) (by omega) (by decide)) (nm_r (nI_1 y) (hJ w hw))
  | succ d ih =>
    intro x w hx hw
    refine br_f (nI_ge (b := 24) (by omega) (by decide)) ?_
    have skip : ¬ ((0 ≤ (x : Int) + dx.toInt ∧ (x : Int) + dx.toInt < 24) ∧ (0 ≤ (y : Int) + dy.toInt ∧ (y : Int) + dy.toInt < 24)) → ∀ x5 : Int32, x5 = nI x + 1 → wY_move_48 post J (nI r) dx dy (nI y) (d + 1) x5 c w := fun z => nm_r (nI_1 x) (ih (x + 1) w (by omega) (fun q hq => by
      rw [← Nat.add_assoc, ym_Sn (by omega) (Or.inl z) hq]
      exact hw q hq))
    rcases zn_sum (x := x) (by omega) dx with ⟨u1, u2, eU⟩ | ⟨un, hu⟩
    · rcases zn_sum (x := y) (by omega) dy with ⟨v1, v2, eV⟩ | ⟨vn, hv⟩
      · refine nm_r eU (nm_r eV (br_f (nI_pos (by omega)) (br_f (nI_ge (b := 24) (by omega) (by decide)) (br_f (nI_pos (by omega)) (br_f (nI_ge (b := 24) (by omega) (by decide)) ?_)))))
        rw [zn_y, nI_clamp (by omega), hg _ (by omega), zb_nar, zn_24, zn_cl (by omega)]
        refine ⟨vp_in_nI (by omega) (by decide), zn_in (by omega) (by decide), nm_e (nm_r (nI_1 x) (ih (x + 1) _ (by omega) ?_))⟩
        intro q hq
        rw [← Nat.add_assoc]
        by_cases z : q = ((y : Int) + dy.toInt).toNat * 24 + ((x : Int) + dx.toInt).toNat
        · rw [← z, pk_us, ym_Ss (by omega) hy ⟨u1, u2⟩ ⟨v1, v2⟩ (by omega)]
        · rw [pk_un z, ym_Sn (by omega) (Or.inr (by omega)) hq]
          exact hw q hq
      · have N := skip (fun z => vn z.2)
        exact nm_r eU (nm_e (br_f (nI_pos (by omega)) (br_f (nI_ge (b := 24) (by omega) (by decide)) (br_c (fun _ => N) (fun z => br_t (hv.resolve_left z) N)))))
    · have N := skip (fun z => un z.1)
      exact nm_e (nm_e (br_c (fun _ => N) (fun z => br_t (hu.resolve_left z) N)))
theorem yl_mv_2 {post : Int32 → SY → Prop} {c : Nat → Int32} {r : Nat} (hr : r < 3) (dx dy : Int32) {g : Nat → Bool} (hg : ∀ i, i < 576 → c (r * 576 + i) = zb_I (g i)) {G : Nat → Int32} (hG : G = fun q => zb_I (ym_S g dx.toInt dy.toInt 576 q)) (h : ∀ w, post (nI (ya_ar (zr_u c (r * 576) G 576) r)) (zr_u c (r * 576) G 576, w)) : ∀ d y w, y + d = 24 → (∀ q, q < 576 → w q = zb_I (ym_S g dx.toInt dy.toInt (y * 24) q)) → wY_move_38 post (nI r) dx dy (d + 1) (nI y) c w := by
  intro d
  induction d with
  | zero =>
    intro y w hy hw
    obtain rfl : y = 24 := by omega
    refine br_t (nI_le (a := 24) (b := 24) (by omega) (by decide)) ⟨577, ?_⟩
    have g1 := yl_mv_3 (c := c) (w := w) hr (G := G) (fun i hi => by rw [hw i hi, zb_nar, hG]) (h w) 576 0 rfl
    rw [zr_0] at g1
    exact g1
  | succ d ih =>
    intro y w hy hw
    exact br_f (nI_ge (b := 24) (by omega) (by decide)) ⟨25, yl_mv_2i hr dx dy hg (by omega) (fun w' hw' => ih (y + 1) w' (by omega) (by rw [Nat.succ_mul]; exact hw')) 24 0 w rfl hw⟩
theorem yl_mv_1 {post : Int32 → SY → Prop} {c : Nat → Int32} {r : Nat} (hr : r < 3) (dx dy : Int32) {g : Nat → Bool} (hg : ∀ i, i < 576 → c (r * 576 + i) = zb_I (g i)) {G : Nat → Int32} (hG : G = fun q => zb_I (ym_S g dx.toInt dy.toInt 576 q)) (h : ∀ w, post (nI (ya_ar (zr_u c (r * 576) G 576) r)) (zr_u c (r * 576) G 576, w)) : ∀ d i w, i + d = 576 → (∀ q, q < i → w q = 0) → wY_move_13 post (nI r) dx dy (d + 1) (nI i) c w := by
  intro d
  induction d with
  | zero =>
    intro i w hi hw
    obtain rfl : i = 576 := by omega
    refine br_t (nI_le (a := 576) (b := 576) (by omega) (by decide)) ⟨25, yl_mv_2 hr dx dy hg hG h 24 0 w rfl (fun q hq => ?_)⟩
    rw [Nat.zero_mul, ym_S0, hw q hq]
    rfl
  | succ d ih =>
    intro i w hi hw
    refine br_f (nI_ge (b := 576) (by omega) (by decide)) ?_
    rw [nI_clamp (by omega)]
    refine ⟨vp_in_nI (by omega) (by decide), nm_e (nm_r (nI_1 i) (ih (i + 1) _ (by omega) (fun q hq => ?_)))⟩
    by_cases z : q = i
    · rw [z, pk_us]
      exact zb_nar false
    · rw [pk_un z]
      exact hw q (by omega)
theorem yl_mv {post : Int32 → SY → Prop} {c w : Nat → Int32} {r : Nat} (hr : r < 3) (dx dy : Int32) {g : Nat → Bool} (hg : ∀ i, i < 576 → c (r * 576 + i) = zb_I (g i)) {G : Nat → Int32} (hG : G = fun q => zb_I (ym_S g dx.toInt dy.toInt 576 q)) (h : ∀ w, post (nI (ya_ar (zr_u c (r * 576) G 576) r)) (zr_u c (r * 576) G 576, w)) : wpY_move post (c, w) (nI r) dx dy := by
  unfold wpY_move
  dsimp only
  exact yl_bad hr (br_t rfl ⟨577, yl_mv_1 hr dx dy hg hG h 576 0 w rfl (fun q hq => absurd hq (Nat.not_lt_zero q))⟩)
end
section
/-! move, both sides -/
theorem zv_in {y x : Nat} (g : Nat → Bool) (dx dy : Int) (hx : x < 24) : ym_S g dx dy 576 (y * 24 + x) = (decide (0 ≤ (x : Int) - dx ∧ (x : Int) - dx < 24 ∧ 0 ≤ (y : Int) - dy ∧ (y : Int) - dy < 24) && g (((y : Int) - dy).toNat * 24 + ((x : Int) - dx).toNat)) := by
  unfold ym_S
  rw [show (y * 24 + x) % 24 = x by omega, show (y * 24 + x) / 24 = y by omega]
  by_cases h : 0 ≤ (x : Int) - dx ∧ (x : Int) - dx < 24 ∧ 0 ≤ (y : Int) - dy ∧ (y : Int) - dy < 24
  · rw [decide_eq_true h, decide_eq_true (by omega), Bool.true_and, Bool.true_and]
    exact congrArg g (by omega)
  · rw [decide_eq_false h, decide_eq_false (by omega), Bool.false_and, Bool.false_and]
theorem zv_far {u c w : Nat → Int32} {r k : Nat} (hr : r < 3) (H : zz_H u) (C : zz_C u c) (dx dy : Int32) (h : ∀ y x : Nat, y < 24 → x < 24 → ¬ (0 ≤ (x : Int) - dx.toInt ∧ (x : Int) - dx.toInt < 24 ∧ 0 ≤ (y : Int) - dy.toInt ∧ (y : Int) - dy.toInt < 24)) : wX_move_23 (fun r' u' => wpY_move (fun r'' v' => r'' = r' ∧ i_Rel (k + 5) u' v') (c, w) (nI r) dx dy) (nI r) u := by
  have R := zz_upd hr H C (fun _ => 0) (fun q => zb_I (ym_S (zz_g u r) dx.toInt dy.toInt 576 q)) (fun y hy i hi h32 => b_0 i) (by
    intro y x hy hx
    rw [zv_in _ _ _ hx, decide_eq_false (h y x hy hx), Bool.false_and, b_0])
  refine xl_clear hr (yl_mv hr dx dy (zz_gc C hr) rfl (fun w' => ⟨?_, R⟩))
  rw [ya_xc hr R.2]
  have e : xc_cc (zr_u u (r * 24) (fun _ => 0) 24) r = 0 := by
    unfold xc_cc
    refine (zs_zero 24).mpr (fun y hy => (zs_zero 24).mpr (fun x hx => ?_))
    rw [zr_in hy, b_0]
    rfl
  rw [e]
  exact nI_0
theorem zv_near {u c w : Nat → Int32} {r k : Nat} (hr : r < 3) (H : zz_H u) (C : zz_C u c) (dx dy : Int32) (hx : (∃ d, d < 24 ∧ dx = nI d ∧ dx.toInt = (d : Int)) ∨ (∃ d, 0 < d ∧ d < 24 ∧ dx = -nI d ∧ dx.toInt = -(d : Int))) (hy : (∃ d, d < 24 ∧ dy = nI d ∧ dy.toInt = (d : Int)) ∨ (∃ d, 0 < d ∧ d < 24 ∧ dy = -nI d ∧ dy.toInt = -(d : Int))) : wpX_shiftAcross (fun a_rows_10 => (wpX_shiftDown (fun a_rows_12 => (wpX_cellCount (fun r_13 => ((fun r' u' => wpY_move (fun r'' v' => r'' = r' ∧ i_Rel (k + 5) u' v') (c, w) (nI r) dx dy) r_13 a_rows_12)) a_rows_12 (nI r))) a_rows_10 (nI r) dy)) u (nI r) dx := by
  have e : ∀ y, xs_d (zr_u u (r * 24) (fun y => xs_a dx (u (r * 24 + y))) 24) (r * 24) dy.toInt y = if 0 ≤ (y : Int) - dy.toInt ∧ (y : Int) - dy.toInt < 24 then xs_a dx (u (r * 24 + ((y : Int) - dy.toInt).toNat)) else 0 := by
    intro y
    unfold xs_d
    by_cases h : 0 ≤ (y : Int) - dy.toInt ∧ (y : Int) - dy.toInt < 24
    · rw [if_pos h, if_pos h, zr_in (by omega)]
    · rw [if_neg h, if_neg h]
  have R := zz_upd hr H C (xs_d (zr_u u (r * 24) (fun y => xs_a dx (u (r * 24 + y))) 24) (r * 24) dy.toInt) (fun q => zb_I (ym_S (zz_g u r) dx.toInt dy.toInt 576 q)) (by
    intro y hy1 i hi h32
    rw [e y]
    by_cases h : 0 ≤ (y : Int) - dy.toInt ∧ (y : Int) - dy.toInt < 24
    · rw [if_pos h, xs_abt hx (H _ (by omega)) h32, decide_eq_false (by omega), Bool.false_and]
    · rw [if_neg h, b_0]) (by
    intro y x hy1 hx1
    rw [zv_in _ _ _ hx1, e y]
    by_cases h : 0 ≤ (y : Int) - dy.toInt ∧ (y : Int) - dy.toInt < 24
    · rw [if_pos h, xs_abt hx (H _ (by omega)) (by omega)]
      by_cases h2 : 0 ≤ (x : Int) - dx.toInt ∧ (x : Int) - dx.toInt < 24
      · rw [decide_eq_true (by omega), decide_eq_true (by omega), zz_ga u r (by omega)]
      · rw [decide_eq_false (by omega), decide_eq_false (by omega), Bool.false_and, Bool.false_and]
    · rw [if_neg h, b_0, decide_eq_false (by omega), Bool.false_and])
  refine xl_sa hr dx rfl (xl_sd hr hy ?_)
  rw [zr_zr]
  refine xl_cc _ hr (yl_mv hr dx dy (zz_gc C hr) rfl (fun w' => ⟨?_, R⟩))
  rw [ya_xc hr R.2]
theorem i_vc_move {k : Nat} {u : SX} {v : SY} (I : i_Rel k u v) (hk : k + 5 ≤ 2560) (v1 : Int32) (v2 : Int32) (v3 : Int32) : wpX_move (fun r u' => wpY_move (fun r' v' => r' = r ∧ i_Rel (k + 5) u' v') v v1 v2 v3) u v1 v2 v3 := by
  obtain ⟨c, w⟩ := v
  obtain ⟨H, C⟩ := I
  have C : zz_C u c := C
  have bad1 : (v1 < 0 ∨ nI 3 ≤ v1) → wpX_move (fun r u' => wpY_move (fun r' v' => r' = r ∧ i_Rel (k + 5) u' v') (c, w) v1 v2 v3) u v1 v2 v3 := fun h => by
    unfold wpX_move wpY_move
    dsimp only
    exact xl_regN h (br_t rfl (yl_badN h (br_f (by decide) ⟨rfl, H, C⟩)))
  rcases pk_ix v1 (n := 3) (by decide) with h | h | ⟨r, hr, rfl⟩
  · exact bad1 (Or.inl h)
  · exact bad1 (Or.inr h)
  have far2 : (24 : Int32) ≤ v2 ∨ ¬ (-24 : Int32) < v2 → v2.toInt ≤ -24 ∨ 24 ≤ v2.toInt := fun h => by
    rw [Int32.le_iff_toInt_le, Int32.lt_iff_toInt_lt, show (24 : Int32).toInt = 24 from by decide, show (-24 : Int32).toInt = -24 from by decide] at h
    omega
  have far3 : (24 : Int32) ≤ v3 ∨ ¬ (-24 : Int32) < v3 → v3.toInt ≤ -24 ∨ 24 ≤ v3.toInt := fun h => by
    rw [Int32.le_iff_toInt_le, Int32.lt_iff_toInt_lt, show (24 : Int32).toInt = 24 from by decide, show (-24 : Int32).toInt = -24 from by decide] at h
    omega
  unfold wpX_move
  refine xl_reg hr (br_f (by decide) ?_)
  have F2 : ((24 : Int32) ≤ v2 ∨ ¬ (-24 : Int32) < v2) → wX_move_23 (fun r' u' => wpY_move (fun r'' v' => r'' = r' ∧ i_Rel (k + 5) u' v') (c, w) (nI r) v2 v3) (nI r) u := fun h => zv_far hr H C v2 v3 (fun y x hy hx => by
    have := far2 h
    omega)
  have F3 : ((24 : Int32) ≤ v3 ∨ ¬ (-24 : Int32) < v3) → wX_move_23 (fun r' u' => wpY_move (fun r'' v' => r'' = r' ∧ i_Rel (k + 5) u' v') (c, w) (nI r) v2 v3) (nI r) u := fun h => zv_far hr H C v2 v3 (fun y x hy hx => by
    have := far3 h
    omega)
  rcases zn_near v2 with h | h | ⟨n1, n2, hx⟩
  · exact xl_far (Or.inl h) (br_f (by decide) (F2 (Or.inl h)))
  · exact xl_far (Or.inr h) (br_f (by decide) (F2 (Or.inr h)))
  refine xl_nfar n1 n2 (br_t rfl ?_)
  rcases zn_near v3 with h | h | ⟨m1, m2, hy⟩
  · exact xl_far (Or.inl h) (br_f (by decide) (F3 (Or.inl h)))
  · exact xl_far (Or.inr h) (br_f (by decide) (F3 (Or.inr h)))
  exact xl_nfar m1 m2 (br_t rfl (zv_near hr H C v2 v3 hx hy))
end
section
/-! rectangles: where runs begin -/
def xr_st (row : Int32) : Int32 := row &&& ((row <<< ((1 : Int32) &&& 31)) ^^^ (-1))
def xr_en (row : Int32) : Int32 := row &&& ((row >>> ((1 : Int32) &&& 31)) ^^^ (-1))
def xr_rs (u : Nat → Int32) (r y : Nat) : Int32 := if 0 < y ∧ u (r * 24 + (y - 1)) = u (r * 24 + y) then 0 else xr_st (u (r * 24 + y))
def xr_n (u : Nat → Int32) (r y : Nat) : Nat := zs_sm (fun x => (bt (xr_rs u r y) x).toNat) 24
theorem xr_stb (row : Int32) {x : Nat} (hx : x < 32) : bt (xr_st row) x = (bt row x && !(decide (1 ≤ x) && bt row (x - 1))) := by
  unfold xr_st
  rw [b_and, b_xor, b_m1 x hx, Bool.xor_true, show (1 : Int32) = nI 1 from rfl, b_shl 1 (by omega) row hx]
theorem xr_enb (row : Int32) {x : Nat} (hx : x < 31) : bt (xr_en row) x = (bt row x && !bt row (x + 1)) := by
  unfold xr_en
  rw [b_and, b_xor, b_m1 x (by omega), Bool.xor_true, show (1 : Int32) = nI 1 from rfl, b_sshr 1 (by omega) row (by omega), if_pos (by omega), Nat.add_comm 1 x]
theorem xr_rsb (u : Nat → Int32) (r y : Nat) {x : Nat} (hx : x < 32) : bt (xr_rs u r y) x = ((bt (u (r * 24 + y)) x && !(decide (1 ≤ x) && bt (u (r * 24 + y)) (x - 1))) && !decide (0 < y ∧ u (r * 24 + (y - 1)) = u (r * 24 + y))) := by
  unfold xr_rs
  by_cases h : 0 < y ∧ u (r * 24 + (y - 1)) = u (r * 24 + y)
  · rw [if_pos h, decide_eq_true h, b_0, Bool.not_true, Bool.and_false]
  · rw [if_neg h, decide_eq_false h, xr_stb _ hx, Bool.not_false, Bool.and_true]
theorem xl_35 {post : Int32 → Prop} (row : Int32) (a : Nat → Int32) (h : post (nI (zs_sm (fun x => (bt (xr_st row) x).toNat) 24))) : wX_runsStartedAt_35 post row a := xl_bc (xr_st row) h
theorem xl_runs {post : Int32 → Prop} (u : Nat → Int32) {r y : Nat} (hr : r < 3) (hy : y < 24) (h : post (nI (xr_n u r y))) : wpX_runsStartedAt post u (nI r) (nI y) := by
  unfold wpX_runsStartedAt
  rw [zn_24, nI_add, nI_clamp (by omega)]
  refine ⟨vp_in_nI (by omega) (by decide), nm_e ?_⟩
  unfold xr_n xr_rs at h
  cases y with
  | zero =>
    rw [if_neg (by omega)] at h
    exact br_t (nI_le (a := 0) (b := 0) (by omega) (by decide)) (xl_35 _ _ h)
  | succ y =>
    rw [show r * 24 + (y + 1) = (r * 24 + y) + 1 from rfl, nI_pred, nI_clamp (by omega)]
    refine br_f (nI_ge (b := y + 1) (a := 0) (by omega) (by omega)) ⟨vp_in_nI (by omega) (by decide), br_c (fun z => ?_) (fun z => xl_35 _ _ ?_)⟩
    · rw [if_pos ⟨by omega, z⟩] at h
      have e : zs_sm (fun x => (bt 0 x).toNat) 24 = 0 := (zs_zero 24).mpr (fun x hx => by rw [b_0]; rfl)
      rw [e] at h
      exact h
    · rw [if_neg (fun q => z q.2)] at h
      exact h
theorem xl_rects_l {post : Int32 → Prop} (u : Nat → Int32) {r : Nat} (hr : r < 3) (h : post (nI (zs_sm (xr_n u r) 24))) : ∀ d y, y + d = 24 → wX_rectangles_13 post (nI r) u (d + 1) (nI (zs_sm (xr_n u r) y)) (nI y) := by
  intro d
  induction d with
  | zero =>
    intro y hy
    obtain rfl : y = 24 := by omega
    exact br_t (nI_le (a := 24) (b := 24) (by omega) (by decide)) h
  | succ d ih =>
    intro y hy
    exact br_f (nI_ge (b := 24) (by omega) (by decide)) (xl_runs u hr (by omega) (nm_r (nI_add _ _) (nm_r (nI_1 y) (ih (y + 1) (by omega)))))
/-! the reference's equal rows and beginnings -/
theorem yl_eq_l {post : Int32 → Prop} {u c w : Nat → Int32} (C : zz_C u c) {r y z : Nat} (hr : r < 3) (hy : y < 24) (hz : z < 24) : ∀ d i, i + d = 24 → ((∀ x, i ≤ x → x < 24 → bt (u (r * 24 + y)) x = bt (u (r * 24 + z)) x) → post 1) → ((¬ ∀ x, i ≤ x → x < 24 → bt (u (r * 24 + y)) x = bt (u (r * 24 + z)) x) → post 0) → wY_equalRows_25 post (nI r) (nI y) (nI z) c w (d + 1) (nI i) := by
  intro d
  induction d with
  | zero =>
    intro i hi h1 h0
    obtain rfl : i = 24 := by omega
    exact br_t (nI_le (a := 24) (b := 24) (by omega) (by decide)) (h1 fun y hy hy2 => by omega)
  | succ d ih =>
    intro i hi h1 h0
    refine br_f (nI_ge (b := 24) (by omega) (by decide)) ?_
    rw [zn_y r y i, zn_y r z i, nI_clamp (by omega), nI_clamp (by omega), zz_c C hr hy (by omega), zz_c C hr hz (by omega)]
    refine ⟨vp_in_nI (by omega) (by decide), vp_in_nI (by omega) (by decide), br_c (fun q => nm_r (nI_1 i) (ih (i + 1) (by omega) (fun g => h1 ?_) (fun g => h0 ?_))) (fun q => h0 ?_)⟩
    · intro x hx hx2
      by_cases e : x = i
      · rw [e]; exact zb_inj.mp q
      · exact g x (by omega) hx2
    · exact fun p => g fun x hx hx2 => p x (by omega) hx2
    · exact fun p => q (zb_inj.mpr (p i (Nat.le_refl i) (by omega)))
theorem yl_eq {post : Int32 → Prop} {u c w : Nat → Int32} (H : zz_H u) (C : zz_C u c) {r y z : Nat} (hr : r < 3) (hy : y < 24) (hz : z < 24) (h1 : u (r * 24 + y) = u (r * 24 + z) → post 1) (h0 : ¬ u (r * 24 + y) = u (r * 24 + z) → post 0) : wpY_equalRows post (c, w) (nI r) (nI y) (nI z) := by
  unfold wpY_equalRows
  dsimp only
  refine br_f (nI_pos (by omega)) (br_f (nI_pos (by omega)) (br_f (nI_nlt (a := 23) (b := y) (by omega) (by decide)) (br_t (nI_le (b := 23) (by omega) (by decide)) ⟨25, yl_eq_l C hr hy hz 24 0 rfl (fun g => h1 ?_) (fun g => h0 ?_)⟩)))
  · exact zz_row H (by omega) (by omega) (fun x hx => g x (Nat.zero_le x) hx)
  · exact fun e => g fun x _ _ => by rw [e]
theorem yl_eqN {post : Int32 → Prop} {c w : Nat → Int32} {r z : Nat} {y : Int32} (hz : z < 24) (hy : y < 0 ∨ nI 24 ≤ y) (h : post 0) : wpY_equalRows post (c, w) (nI r) y (nI z) := by
  unfold wpY_equalRows
  dsimp only
  exact br_c (fun _ => h) (fun n => br_f (nI_pos (by omega)) (br_t (zn_lt (n := 23) (by decide) (hy.resolve_left n)) h))
theorem yl_begins {post : Int32 → Prop} {u c w : Nat → Int32} (H : zz_H u) (C : zz_C u c) {r y x : Nat} (hr : r < 3) (hy : y < 24) (hx : x < 24) (h : post (zb_I (bt (xr_rs u r y) x))) : wpY_begins post (c, w) (nI r) (nI x) (nI y) := by
  rw [xr_rsb u r y (by omega)] at h
  have p0 : ((bt (u (r * 24 + y)) x && !(decide (1 ≤ x) && bt (u (r * 24 + y)) (x - 1))) && !decide (0 < y ∧ u (r * 24 + (y - 1)) = u (r * 24 + y))) = false → post 0 := fun e => by
    rw [e] at h
    exact h
  have p1 : ((bt (u (r * 24 + y)) x && !(decide (1 ≤ x) && bt (u (r * 24 + y)) (x - 1))) && !decide (0 < y ∧ u (r * 24 + (y - 1)) = u (r * 24 + y))) = true → post 1 := fun e => by
    rw [e] at h
    exact h
  unfold wpY_begins
  dsimp only
  refine yl_has C hr hx hy (br_c (fun z => p0 ?_) (fun z => ?_))
  · rw [zb_eq0.mp z, Bool.false_and, Bool.false_and]
  rw [zb_eq0, Bool.not_eq_false] at z
  have Q : (decide (1 ≤ x) && bt (u (r * 24 + y)) (x - 1)) = false → wpY_equalRows (fun r_9 => (((r_9 = 0 → (post 1)) ∧ (¬ r_9 = 0 → (post 0))))) (c, w) (nI r) (nI y - 1) (nI y) := fun e => by
    rw [z, e, Bool.not_false, Bool.true_and, Bool.true_and] at p0 p1
    cases y with
    | zero => exact yl_eqN hy (Or.inl (by decide)) (br_t rfl (p1 (by rw [decide_eq_false (fun k => absurd k.1 (Nat.lt_irrefl 0))]; rfl)))
    | succ y =>
      rw [nI_pred]
      refine yl_eq H C hr (by omega) hy (fun q => br_f (by decide) (p0 ?_)) (fun q => br_t rfl (p1 ?_))
      · rw [decide_eq_true ⟨by omega, q⟩]
        rfl
      · rw [decide_eq_false (fun k => q k.2)]
        rfl
  cases x with
  | zero => exact yl_hasX hr (Or.inl (by decide)) (br_t rfl (Q (by rw [decide_eq_false (by omega), Bool.false_and])))
  | succ x =>
    rw [nI_pred]
    refine yl_has C hr (by omega) hy (br_c (fun z2 => Q ?_) (fun z2 => p0 ?_))
    · rw [Nat.add_sub_cancel, zb_eq0.mp z2, Bool.and_false]
    · rw [zb_eq0, Bool.not_eq_false] at z2
      rw [Nat.add_sub_cancel, z2, decide_eq_true (by omega), Bool.true_and, Bool.not_true, Bool.and_false, Bool.false_and]
theorem yl_rects_i {post : Int32 → Prop} {J : Int32 → Int32 → Prop} {u c w : Nat → Int32} (H : zz_H u) (C : zz_C u c) {r y A : Nat} (hr : r < 3) (hy : y < 24) (h : J (nI (A + xr_n u r y)) (nI (y + 1))) : ∀ d x, x + d = 24 → wY_rectangles_23 post J (nI r) (nI y) c w (d + 1) (nI (A + zs_sm (fun x => (bt (xr_rs u r y) x).toNat) x)) (nI x) := by
  intro d
  induction d with
  | zero =>
    intro x hx
    obtain rfl : x = 24 := by omega
    exact br_t (nI_le (a := 24) (b := 24) (by omega) (by decide)) (nm_r (nI_1 y) h)
  | succ d ih =>
    intro x hx
    have g := ih (x + 1) (by omega)
    rw [zs_s] at g
    refine br_f (nI_ge (b := 24) (by omega) (by decide)) (yl_begins H C hr hy (by omega) (br_c (fun z => nm_r (nI_1 x) ?_) (fun z => nm_r (nI_1 _) (nm_r (nI_1 x) ?_))))
    · rw [zb_eq0.mp z] at g
      exact g
    · rw [zb_eq0, Bool.not_eq_false] at z
      rw [z] at g
      exact g
theorem yl_rects_l {post : Int32 → Prop} {u c w : Nat → Int32} (H : zz_H u) (C : zz_C u c) {r : Nat} (hr : r < 3) (h : post (nI (zs_sm (xr_n u r) 24))) : ∀ d y, y + d = 24 → wY_rectangles_14 post (nI r) c w (d + 1) (nI (zs_sm (xr_n u r) y)) (nI y) := by
  intro d
  induction d with
  | zero =>
    intro y hy
    obtain rfl : y = 24 := by omega
    exact br_t (nI_le (a := 24) (b := 24) (by omega) (by decide)) h
  | succ d ih =>
    intro y hy
    exact br_f (nI_ge (b := 24) (by omega) (by decide)) ⟨25, yl_rects_i H C hr (by omega) (ih (y + 1) (by omega)) 24 0 rfl⟩
theorem i_vc_rectangles {k : Nat} {u : SX} {v : SY} (I : i_Rel k u v) (hk : k + 5 ≤ 2560) (v1 : Int32) : wpX_rectangles (fun r => wpY_rectangles (fun r' => r' = r ∧ i_Rel (k + 5) u v) v v1) u v1 := by
  obtain ⟨c, w⟩ := v
  obtain ⟨H, C⟩ := I
  have C : zz_C u c := C
  unfold wpX_rectangles wpY_rectangles
  dsimp only
  rcases pk_ix v1 (n := 3) (by decide) with h | h | ⟨r, hr, rfl⟩
  · exact xl_regN (Or.inl h) (br_t rfl (yl_badN (Or.inl h) (br_f (by decide) ⟨rfl, H, C⟩)))
  · exact xl_regN (Or.inr h) (br_t rfl (yl_badN (Or.inr h) (br_f (by decide) ⟨rfl, H, C⟩)))
  refine xl_reg hr (br_f (by decide) ⟨25, xl_rects_l u hr ?_ 24 0 rfl⟩)
  refine yl_bad hr (br_t rfl ⟨25, yl_rects_l H C hr ?_ 24 0 rfl⟩)
  exact ⟨rfl, H, C⟩
end
section
/-! rectangle: the i-th run -/
theorem zs_find {f : Nat → Nat} (h1 : ∀ i, f i ≤ 1) (k : Nat) : ∀ n, k < zs_sm f n → ∃ x, x < n ∧ f x = 1 ∧ zs_sm f x = k := by
  intro n
  induction n with
  | zero => intro h; exact absurd h (Nat.not_lt_zero k)
  | succ n ih =>
    intro h
    rw [zs_s] at h
    by_cases z : k < zs_sm f n
    · obtain ⟨x, a, b, c⟩ := ih z
      exact ⟨x, by omega, b, c⟩
    · have := h1 n
      exact ⟨n, by omega, by omega, by omega⟩
theorem zs_const {f : Nat → Nat} {a b : Nat} (hab : a ≤ b) (h : ∀ j, a ≤ j → j < b → f j = 0) : zs_sm f b = zs_sm f a := by
  obtain ⟨c, rfl⟩ : ∃ c, b = a + c := ⟨b - a, by omega⟩
  rw [zs_add, (zs_zero c).mpr (fun i hi => h (a + i) (by omega) (by omega)), Nat.add_zero]
theorem zs_b1 (x : Int32) : ∀ i, (bt x i).toNat ≤ 1 := fun i => by cases bt x i <;> decide
theorem xl_bn_l {post : Int32 → Prop} (row : Int32) {x0 : Nat} (h0 : x0 < 24) (hb : bt row x0 = true) (h : post (nI x0)) : ∀ d x, x + d = x0 → wX_bitNumbered_4 post row (nI (zs_sm (fun i => (bt row i).toNat) x0)) (d + 1) (nI (zs_sm (fun i => (bt row i).toNat) x)) (nI x) := by
  have hle := zs_le (zs_b1 row)
  intro d
  induction d with
  | zero =>
    intro x hx
    obtain rfl : x = x0 := by omega
    refine br_f (nI_ge (b := 24) (by omega) (by decide)) ?_
    rw [zb_bit _ (by omega), hb]
    exact br_t rfl (br_t rfl h)
  | succ d ih =>
    intro x hx
    have g := ih (x + 1) (by omega)
    rw [zs_s] at g
    refine br_f (nI_ge (b := 24) (by omega) (by decide)) ?_
    rw [zb_bit _ (by omega)]
    cases e : bt row x with
    | false =>
      rw [e] at g
      exact br_f (by decide) (nm_r (nI_1 x) g)
    | true =>
      have m := zs_mono (fun i => (bt row i).toNat) (show x + 1 ≤ x0 by omega)
      rw [zs_s, e] at m
      have m' : zs_sm (fun i => (bt row i).toNat) x + 1 ≤ zs_sm (fun i => (bt row i).toNat) x0 := m
      have l1 := hle x0
      rw [e] at g
      refine br_t rfl (br_f (fun q => ?_) (nm_r (nI_1 _) (nm_r (nI_1 x) g)))
      rw [nI_eq (by omega) (by omega)] at q
      omega
theorem xl_bn {post : Int32 → Prop} (row : Int32) {x0 k : Nat} (h0 : x0 < 24) (hb : bt row x0 = true) (hk : zs_sm (fun i => (bt row i).toNat) x0 = k) (h : post (nI x0)) : wpX_bitNumbered post row (nI k) := by
  subst hk
  exact ⟨x0 + 1, xl_bn_l row h0 hb h x0 0 (Nat.zero_add x0)⟩
theorem xl_bb_l {post : Int32 → Prop} (u : Nat → Int32) {r y b : Nat} (hr : r < 3) (hb : b < 24) (he : ∀ j, y < j → j ≤ b → u (r * 24 + j) = u (r * 24 + y)) (hn : b + 1 = 24 ∨ ¬ u (r * 24 + (b + 1)) = u (r * 24 + y)) (h : post (nI b)) : ∀ d j, j + d = b → y ≤ j → wX_bandBottom_20 post (nI r) (u (r * 24 + y)) u (d + 1) (nI j) (nI (j + 1)) := by
  intro d
  induction d with
  | zero =>
    intro j hj hy
    obtain rfl : j = b := by omega
    by_cases z : j + 1 = 24
    · rw [z]
      exact br_t (nI_le (a := 24) (b := 24) (by omega) (by decide)) h
    · refine br_f (nI_ge (b := 24) (by omega) (by decide)) ?_
      rw [zn_24, zn_cl (by omega)]
      exact ⟨zn_in (by omega) (by decide), br_f (hn.resolve_left z) h⟩
  | succ d ih =>
    intro j hj hy
    refine br_f (nI_ge (b := 24) (by omega) (by decide)) ?_
    rw [zn_24, zn_cl (by omega)]
    exact ⟨zn_in (by omega) (by decide), br_t (he (j + 1) (by omega) (by omega)) (nm_r (nI_1 (j + 1)) (ih (j + 1) (by omega) (by omega)))⟩
theorem xl_bb {post : Int32 → Prop} (u : Nat → Int32) {r y b : Nat} (hr : r < 3) (hy : y ≤ b) (hb : b < 24) (he : ∀ j, y < j → j ≤ b → u (r * 24 + j) = u (r * 24 + y)) (hn : b + 1 = 24 ∨ ¬ u (r * 24 + (b + 1)) = u (r * 24 + y)) (h : post (nI b)) : wpX_bandBottom post u (nI r) (nI y) := by
  unfold wpX_bandBottom
  rw [zn_24, zn_cl (by omega)]
  exact ⟨zn_in (by omega) (by decide), nm_e (nm_r (nI_1 y) ⟨b - y + 1, xl_bb_l u hr hb he hn h (b - y) y (by omega) (Nat.le_refl y)⟩)⟩
theorem xl_pr {post : Int32 → Prop} (u : Nat → Int32) {r y k x0 x1 b : Nat} (hr : r < 3) (hy : y ≤ b) (hb : b < 24) (he : ∀ j, y < j → j ≤ b → u (r * 24 + j) = u (r * 24 + y)) (hn : b + 1 = 24 ∨ ¬ u (r * 24 + (b + 1)) = u (r * 24 + y)) (h0 : x0 < 24) (hs : bt (xr_st (u (r * 24 + y))) x0 = true) (hsk : zs_sm (fun i => (bt (xr_st (u (r * 24 + y))) i).toNat) x0 = k) (h1 : x1 < 24) (hes : bt (xr_en (u (r * 24 + y))) x1 = true) (hek : zs_sm (fun i => (bt (xr_en (u (r * 24 + y))) i).toNat) x1 = k) (h : post (((nI x0 + (32 * nI y)) + (1024 * nI x1)) + (32768 * nI b))) : wpX_packRun post u (nI r) (nI y) (nI k) := by
  unfold wpX_packRun
  rw [zn_24, zn_cl (by omega)]
  refine ⟨zn_in (by omega) (by decide), nm_e ?_⟩
  unfold wpX_runStarts
  refine nm_e ?_
  exact xl_bn (xr_st (u (r * 24 + y))) h0 hs hsk (xl_bn (xr_en (u (r * 24 + y))) h1 hes hek (xl_bb u hr hy hb he hn h))
/-! how far a run or a band goes -/
def yf_l (f : Nat → Bool) : Nat → Nat → Nat
  | 0, a => a
  | n + 1, a => yf_l f n (cond (f (a + 1)) (a + 1) a)
theorem yf_ls (f : Nat → Bool) (n a : Nat) : yf_l f (n + 1) a = yf_l f n (cond (f (a + 1)) (a + 1) a) := rfl
theorem yf_stay {f : Nat → Bool} : ∀ n a, f (a + 1) = false → yf_l f n a = a := by
  intro n
  induction n with
  | zero => intro a _; rfl
  | succ n ih =>
    intro a h
    rw [yf_ls, h]
    exact ih a h
theorem yf_spec {f : Nat → Bool} : ∀ n a, a ≤ yf_l f n a ∧ (∀ j, a < j → j ≤ yf_l f n a → f j = true) ∧ (f (yf_l f n a + 1) = false ∨ yf_l f n a = a + n) := by
  intro n
  induction n with
  | zero => intro a; exact ⟨Nat.le_refl a, fun j h1 h2 => absurd h1 (Nat.not_lt.mpr h2), Or.inr rfl⟩
  | succ n ih =>
    intro a
    cases e : f (a + 1) with
    | false =>
      rw [yf_stay (n + 1) a e]
      exact ⟨Nat.le_refl a, fun j h1 h2 => absurd h1 (Nat.not_lt.mpr h2), Or.inl e⟩
    | true =>
      rw [yf_ls, e]
      obtain ⟨p, q, s⟩ := ih (a + 1)
      refine ⟨by dsimp only [cond_true]; omega, fun j h1 h2 => ?_, ?_⟩
      · by_cases z : j = a + 1
        · rw [z]; exact e
        · exact q j (by omega) h2
      · rcases s with s | s
        · exact Or.inl s
        · exact Or.inr (by dsimp only [cond_true]; omega)
/-- within 24 -/
theorem yf_24 {f : Nat → Bool} (hf : ∀ j, 24 ≤ j → f j = false) {a : Nat} (ha : a < 24) : a ≤ yf_l f 24 a ∧ yf_l f 24 a < 24 ∧ (∀ j, a < j → j ≤ yf_l f 24 a → f j = true) ∧ f (yf_l f 24 a + 1) = false := by
  obtain ⟨p, q, s⟩ := yf_spec (f := f) 24 a
  have lt : yf_l f 24 a < 24 := by
    rcases Nat.lt_or_ge (yf_l f 24 a) 24 with z | z
    · exact z
    · have h := q (yf_l f 24 a) (by omega) (Nat.le_refl _)
      rw [hf _ z] at h
      exact absurd h (by decide)
  refine ⟨p, lt, q, ?_⟩
  rcases s with s | s
  · exact s
  · omega
def yf_e (u : Nat → Int32) (r y j : Nat) : Bool := decide (j < 24 ∧ u (r * 24 + j) = u (r * 24 + y))
theorem yl_hasS {post : Int32 → Prop} {u c w : Nat → Int32} (H : zz_H u) (C : zz_C u c) {r x y : Nat} (hr : r < 3) (hx : x < 24) (hy : y < 24) (h : post (zb_I (bt (u (r * 24 + y)) (x + 1)))) : wpY_has post (c, w) (nI r) (nI x + 1) (nI y) := by
  rw [nI_1]
  by_cases z : x + 1 < 24
  · exact yl_has C hr z hy h
  · rw [H _ (by omega) _ (by omega)] at h
    exact yl_hasX hr (Or.inr (nI_le (by omega) (by omega))) h
theorem yl_eqS {post : Int32 → Prop} {u c w : Nat → Int32} (H : zz_H u) (C : zz_C u c) {r y b : Nat} (hr : r < 3) (hb : b < 24) (hy : y < 24) (h : post (zb_I (yf_e u r y (b + 1)))) : wpY_equalRows post (c, w) (nI r) (nI b + 1) (nI y) := by
  rw [nI_1]
  unfold yf_e at h
  by_cases z : b + 1 < 24
  · refine yl_eq H C hr z hy (fun q => ?_) (fun q => ?_)
    · rw [decide_eq_true ⟨z, q⟩] at h
      exact h
    · rw [decide_eq_false (fun k => q k.2)] at h
      exact h
  · rw [decide_eq_false (fun k => z k.1)] at h
    exact yl_eqN hy (Or.inr (nI_le (by omega) (by omega))) h
theorem yl_from_l {post : Int32 → Prop} {u c w : Nat → Int32} (H : zz_H u) (C : zz_C u c) {r x y : Nat} (hr : r < 3) (hy : y < 24) : ∀ d k a b, k + d = 24 → a < 24 → b < 24 → post (((nI x + (32 * nI y)) + (1024 * nI (yf_l (bt (u (r * 24 + y))) d a))) + (32768 * nI (yf_l (yf_e u r y) d b))) → wY_from_9 post (nI r) (nI x) (nI y) c w (d + 1) (nI a) (nI b) (nI k) := by
  intro d
  induction d with
  | zero =>
    intro k a b hk ha hb h
    obtain rfl : k = 24 := by omega
    exact br_t (nI_le (a := 24) (b := 24) (by omega) (by decide)) h
  | succ d ih =>
    intro k a b hk ha hb h
    rw [yf_ls, yf_ls] at h
    have step : ∀ a', a' < 24 → post (((nI x + (32 * nI y)) + (1024 * nI (yf_l (bt (u (r * 24 + y))) d a'))) + (32768 * nI (yf_l (yf_e u r y) d (cond (yf_e u r y (b + 1)) (b + 1) b)))) → wY_from_32 post (wY_from_9 post (nI r) (nI x) (nI y) c w (d + 1)) (nI r) (nI x) (nI y) (nI a') (nI b) (nI k) c w := fun a' ha' h' => by
      unfold wY_from_32
      refine yl_eqS H C hr hb hy ?_
      cases e : yf_e u r y (b + 1) with
      | false =>
        rw [e] at h'
        exact br_t rfl (nm_r (nI_1 k) (ih (k + 1) a' b (by omega) ha' hb h'))
      | true =>
        rw [e] at h'
        have lt : b + 1 < 24 := by
          unfold yf_e at e
          exact (of_decide_eq_true e).1
        exact br_f (by decide) (nm_r (nI_1 b) (nm_r (nI_1 k) (ih (k + 1) a' (b + 1) (by omega) ha' lt h')))
    refine br_f (nI_ge (b := 24) (by omega) (by decide)) (yl_hasS H C hr ha hy ?_)
    cases e : bt (u (r * 24 + y)) (a + 1) with
    | false =>
      rw [e] at h
      exact br_t rfl (step a ha h)
    | true =>
      rw [e] at h
      have lt : a + 1 < 24 := by
        rcases Nat.lt_or_ge (a + 1) 24 with z | z
        · exact z
        · rw [H _ (by omega) _ z] at e
          exact absurd e (by decide)
      exact br_f (by decide) (nm_r (nI_1 a) (step (a + 1) lt h))
theorem yl_from {post : Int32 → Prop} {u c w : Nat → Int32} (H : zz_H u) (C : zz_C u c) {r x y : Nat} (hr : r < 3) (hx : x < 24) (hy : y < 24) (h : post (((nI x + (32 * nI y)) + (1024 * nI (yf_l (bt (u (r * 24 + y))) 24 x))) + (32768 * nI (yf_l (yf_e u r y) 24 y)))) : wpY_from post (c, w) (nI r) (nI x) (nI y) := by
  unfold wpY_from
  exact ⟨25, yl_from_l H C hr hy 24 0 x y rfl hx hy h⟩
/-- as many runs have begun below x + 1 as have ended below x, and one more where x is set -/
theorem zq_se (row : Int32) : ∀ x, x < 24 → zs_sm (fun i => (bt (xr_st row) i).toNat) (x + 1) = zs_sm (fun i => (bt (xr_en row) i).toNat) x + (bt row x).toNat := by
  intro x
  induction x with
  | zero =>
    intro _
    show 0 + (bt (xr_st row) 0).toNat = 0 + (bt row 0).toNat
    rw [xr_stb row (by omega), decide_eq_false (by omega), Bool.false_and, Bool.not_false, Bool.and_true]
  | succ x ih =>
    intro hx
    rw [zs_s, ih (by omega), zs_s, xr_stb row (by omega), xr_enb row (by omega), Nat.add_sub_cancel, decide_eq_true (by omega)]
    cases bt row x <;> cases bt row (x + 1) <;> simp <;> omega
theorem zq_end {row : Int32} {x0 l k : Nat} (h0 : x0 < 24) (hs : bt (xr_st row) x0 = true) (hk : zs_sm (fun i => (bt (xr_st row) i).toNat) x0 = k) (hl : x0 ≤ l) (hl2 : l < 24) (hr : ∀ j, x0 < j → j ≤ l → bt row j = true) (he : bt row (l + 1) = false) : bt (xr_en row) l = true ∧ zs_sm (fun i => (bt (xr_en row) i).toNat) l = k := by
  have hb : bt row x0 = true := by
    rw [xr_stb row (by omega), Bool.and_eq_true] at hs
    exact hs.1
  have hbl : bt row l = true := by
    by_cases z : l = x0
    · rw [z]; exact hb
    · exact hr l (by omega) (Nat.le_refl l)
  constructor
  · rw [xr_enb row (by omega), hbl, he]
    rfl
  · have q := zq_se row x0 h0
    rw [zs_s, hs, hb, hk] at q
    have q : k + 1 = zs_sm (fun i => (bt (xr_en row) i).toNat) x0 + 1 := q
    rw [zs_const hl (fun j h1 h2 => by
      rw [xr_enb row (by omega), hr (j + 1) (by omega) (by omega), Bool.not_true, Bool.and_false]
      rfl)]
    omega
/-! the two loops -/
theorem yl_rect_m {post : Int32 → Prop} {J : Int32 → Int32 → Prop} {u c w : Nat → Int32} (H : zz_H u) (C : zz_C u c) {r y A : Nat} (hr : r < 3) (hy : y < 24) {v2 : Int32} (hm : ∀ x, x < 24 → bt (xr_rs u r y) x = true → ¬ nI (A + zs_sm (fun x => (bt (xr_rs u r y) x).toNat) x) = v2) (h : J (nI (A + xr_n u r y)) (nI (y + 1))) : ∀ d x, x + d = 24 → wY_rectangle_25 post J (nI r) v2 (nI y) c w (d + 1) (nI (A + zs_sm (fun x => (bt (xr_rs u r y) x).toNat) x)) (nI x) := by
  intro d
  induction d with
  | zero =>
    intro x hx
    obtain rfl : x = 24 := by omega
    exact br_t (nI_le (a := 24) (b := 24) (by omega) (by decide)) (nm_r (nI_1 y) h)
  | succ d ih =>
    intro x hx
    have g := ih (x + 1) (by omega)
    rw [zs_s] at g
    refine br_f (nI_ge (b := 24) (by omega) (by decide)) (yl_begins H C hr hy (by omega) (br_c (fun z => nm_r (nI_1 x) ?_) (fun z => br_f (hm x (by omega) ?_) (nm_r (nI_1 _) (nm_r (nI_1 x) ?_)))))
    · rw [zb_eq0.mp z] at g
      exact g
    · rw [zb_eq0, Bool.not_eq_false] at z
      exact z
    · rw [zb_eq0, Bool.not_eq_false] at z
      rw [z] at g
      exact g
theorem yl_rect_h {post : Int32 → Prop} {J : Int32 → Int32 → Prop} {u c w : Nat → Int32} (H : zz_H u) (C : zz_C u c) {r y A x0 : Nat} (hr : r < 3) (hy : y < 24) (hA : A ≤ 576) (h0 : x0 < 24) (hb : bt (xr_rs u r y) x0 = true) {v2 : Int32} (hv : v2 = nI (A + zs_sm (fun x => (bt (xr_rs u r y) x).toNat) x0)) (h : wpY_from post (c, w) (nI r) (nI x0) (nI y)) : ∀ d x, x + d = x0 → wY_rectangle_25 post J (nI r) v2 (nI y) c w (d + 1) (nI (A + zs_sm (fun x => (bt (xr_rs u r y) x).toNat) x)) (nI x) := by
  have hle := zs_le (zs_b1 (xr_rs u r y))
  intro d
  induction d with
  | zero =>
    intro x hx
    obtain rfl : x = x0 := by omega
    refine br_f (nI_ge (b := 24) (by omega) (by decide)) (yl_begins H C hr hy (by omega) ?_)
    rw [hb]
    exact br_f (by decide) (br_t hv.symm h)
  | succ d ih =>
    intro x hx
    have g := ih (x + 1) (by omega)
    rw [zs_s] at g
    refine br_f (nI_ge (b := 24) (by omega) (by decide)) (yl_begins H C hr hy (by omega) ?_)
    cases e : bt (xr_rs u r y) x with
    | false =>
      rw [e] at g
      exact br_t rfl (nm_r (nI_1 x) g)
    | true =>
      have m := zs_mono (fun x => (bt (xr_rs u r y) x).toNat) (show x + 1 ≤ x0 by omega)
      rw [zs_s, e] at m
      have m' : zs_sm (fun x => (bt (xr_rs u r y) x).toNat) x + 1 ≤ zs_sm (fun x => (bt (xr_rs u r y) x).toNat) x0 := m
      have l1 := hle x0
      rw [e] at g
      refine br_f (by decide) (br_f (fun q => ?_) (nm_r (nI_1 _) (nm_r (nI_1 x) g)))
      rw [hv, nI_eq (by omega) (by omega)] at q
      omega
theorem zq_neg {post : Int32 → Prop} {u c w : Nat → Int32} (H : zz_H u) (C : zz_C u c) {r : Nat} (hr : r < 3) {v2 : Int32} (hv : v2 < 0) (h : post (-3)) : ∀ d y A, y + d = 24 → A ≤ y * 24 → wY_rectangle_15 post (nI r) v2 c w (d + 1) (nI A) (nI y) := by
  intro d
  induction d with
  | zero =>
    intro y A hy hA
    obtain rfl : y = 24 := by omega
    exact br_t (nI_le (a := 24) (b := 24) (by omega) (by decide)) h
  | succ d ih =>
    intro y A hy hA
    have hle := zs_le (zs_b1 (xr_rs u r y))
    have hN : xr_n u r y ≤ 24 := hle 24
    exact br_f (nI_ge (b := 24) (by omega) (by decide)) ⟨25, yl_rect_m (A := A) H C hr (by omega) (fun x hx _ q => by
      rw [← q] at hv
      have := hle x
      exact nI_pos (by omega) hv) (ih (y + 1) (A + xr_n u r y) (by omega) (by omega)) 24 0 rfl⟩
theorem zq_main {u c w : Nat → Int32} (H : zz_H u) (C : zz_C u c) {r i : Nat} (hr : r < 3) (hi : i < 2 ^ 31) : ∀ d y A, y + d = 24 → A ≤ i → A ≤ y * 24 → ∃ ans : Int32, (∀ post : Int32 → Prop, post ans → wX_rectangle_21 post (nI r) u (d + 1) (nI (i - A)) (nI y)) ∧ (∀ post : Int32 → Prop, post ans → wY_rectangle_15 post (nI r) (nI i) c w (d + 1) (nI A) (nI y)) := by
  intro d
  induction d with
  | zero =>
    intro y A hy hA hA2
    obtain rfl : y = 24 := by omega
    exact ⟨-3, fun post h => br_t (nI_le (a := 24) (b := 24) (by omega) (by decide)) h, fun post h => br_t (nI_le (a := 24) (b := 24) (by omega) (by decide)) h⟩
  | succ d ih =>
    intro y A hy hA hA2
    have ge : ¬ (24 : Int32) ≤ nI y := nI_ge (b := 24) (by omega) (by decide)
    have hle := zs_le (zs_b1 (xr_rs u r y))
    have hN : xr_n u r y ≤ 24 := hle 24
    by_cases z : i - A < xr_n u r y
    · obtain ⟨x0, h0, hb, hk⟩ := zs_find (zs_b1 (xr_rs u r y)) (i - A) 24 z
      have hb : bt (xr_rs u r y) x0 = true := by
        cases e : bt (xr_rs u r y) x0 with
        | true => rfl
        | false => rw [e] at hb; exact absurd hb (by decide)
      have hst : xr_rs u r y = xr_st (u (r * 24 + y)) := by
        unfold xr_rs
        by_cases q : 0 < y ∧ u (r * 24 + (y - 1)) = u (r * 24 + y)
        · unfold xr_rs at hb
          rw [if_pos q, b_0] at hb
          exact absurd hb (by decide)
        · rw [if_neg q]
      obtain ⟨p1, p2, p3, p4⟩ := yf_24 (f := bt (u (r * 24 + y))) (fun j hj => H _ (by omega) j hj) h0
      obtain ⟨q1, q2, q3, q4⟩ := yf_24 (f := yf_e u r y) (fun j hj => decide_eq_false (fun k => absurd k.1 (by omega))) (a := y) (by omega)
      have hs := hb
      have hsk := hk
      rw [hst] at hs hsk
      obtain ⟨e1, e2⟩ := zq_end h0 hs hsk p1 p2 p3 p4
      refine ⟨((nI x0 + (32 * nI y)) + (1024 * nI (yf_l (bt (u (r * 24 + y))) 24 x0))) + (32768 * nI (yf_l (yf_e u r y) 24 y)), fun post h => ?_, fun post h => ?_⟩
      · refine br_f ge (xl_runs u hr (by omega) (br_f (nI_ge z (by omega)) ?_))
        refine xl_pr u hr q1 q2 (fun j j1 j2 => ?_) ?_ h0 hs hsk p2 e1 e2 h
        · exact (of_decide_eq_true (q3 j j1 j2)).2
        · by_cases t : yf_l (yf_e u r y) 24 y + 1 = 24
          · exact Or.inl t
          · refine Or.inr (fun k => ?_)
            have := of_decide_eq_false q4
            exact this ⟨by omega, k⟩
      · exact br_f ge ⟨x0 + 1, yl_rect_h (A := A) H C hr (by omega) (by omega) h0 hb (by rw [hk]; exact congrArg nI (by omega)) (yl_from H C hr h0 (by omega) h) x0 0 (Nat.zero_add x0)⟩
    · obtain ⟨ans, hX, hY⟩ := ih (y + 1) (A + xr_n u r y) (by omega) (by omega) (by omega)
      refine ⟨ans, fun post h => br_f ge (xl_runs u hr (by omega) (br_t (nI_le (by omega) (by omega)) (nm_r (pk_sub (by omega)) (nm_r (nI_1 y) ?_)))), fun post h => br_f ge ⟨25, yl_rect_m (A := A) H C hr (by omega) (fun x hx hb q => ?_) (hY post h) 24 0 rfl⟩⟩
      · have g := hX post h
        rw [← Nat.sub_sub] at g
        exact g
      · have m := zs_mono (fun x => (bt (xr_rs u r y) x).toNat) (show x + 1 ≤ 24 by omega)
        rw [zs_s, hb] at m
        have m' : zs_sm (fun x => (bt (xr_rs u r y) x).toNat) x + 1 ≤ xr_n u r y := m
        rw [nI_eq (by omega) hi] at q
        omega
theorem i_vc_rectangle {k : Nat} {u : SX} {v : SY} (I : i_Rel k u v) (hk : k + 5 ≤ 2560) (v1 : Int32) (v2 : Int32) : wpX_rectangle (fun r => wpY_rectangle (fun r' => r' = r ∧ i_Rel (k + 5) u v) v v1 v2) u v1 v2 := by
  obtain ⟨c, w⟩ := v
  obtain ⟨H, C⟩ := I
  have C : zz_C u c := C
  unfold wpX_rectangle wpY_rectangle
  dsimp only
  rcases pk_ix v1 (n := 3) (by decide) with h | h | ⟨r, hr, rfl⟩
  · exact xl_regN (Or.inl h) (br_t rfl (yl_badN (Or.inl h) (br_f (by decide) ⟨rfl, H, C⟩)))
  · exact xl_regN (Or.inr h) (br_t rfl (yl_badN (Or.inr h) (br_f (by decide) ⟨rfl, H, C⟩)))
  refine xl_reg hr (br_f (by decide) ?_)
  by_cases h0 : v2 < 0
  · refine br_f (Int32.not_le.mpr h0) ?_
    refine yl_bad hr (br_t rfl ⟨25, zq_neg H C hr h0 ?_ 24 0 0 rfl (Nat.le_refl 0)⟩)
    exact ⟨rfl, H, C⟩
  · obtain ⟨i, hi, rfl⟩ := nI_of h0
    obtain ⟨ans, hX, hY⟩ := zq_main (w := w) H C hr hi 24 0 0 rfl (Nat.zero_le i) (Nat.le_refl 0)
    refine br_t (nI_pos' hi) ⟨25, hX _ ?_⟩
    refine yl_bad hr (br_t rfl ⟨25, hY _ ?_⟩)
    exact ⟨rfl, H, C⟩
end
section
/-! around -/
theorem zn_le1 {x e : Nat} (hx : x < 100) (he : e < 100) : nI x ≤ nI e - 1 ↔ x < e := by
  rw [Int32.le_iff_toInt_le, show (1 : Int32) = nI 1 from rfl, pk_sub_toInt (by omega) (by omega), nI_toInt (by omega)]
  omega
theorem xl_hb_l {post : Int32 → Prop} (row : Int32) {m : Nat} (hm : m < 24) (hb : bt row m = true) (ha : ∀ i, m < i → i < 24 → bt row i = false) (h : post (nI m)) : ∀ d x v, x + d = 24 → (m < x → v = nI m) → wX_highestBit_4 post row (d + 1) v (nI x) := by
  intro d
  induction d with
  | zero =>
    intro x v hx hv
    obtain rfl : x = 24 := by omega
    rw [hv hm]
    exact br_t (nI_le (a := 24) (b := 24) (by omega) (by decide)) h
  | succ d ih =>
    intro x v hx hv
    refine br_f (nI_ge (b := 24) (by omega) (by decide)) ?_
    rw [zb_bit _ (by omega)]
    cases e : bt row x with
    | false =>
      refine br_f (by decide) (nm_r (nI_1 x) (ih (x + 1) v (by omega) (fun q => hv ?_)))
      rcases Nat.lt_or_ge m x with z | z
      · exact z
      · obtain rfl : m = x := by omega
        rw [hb] at e
        exact absurd e (by decide)
    | true =>
      refine br_t rfl (nm_r (nI_1 x) (ih (x + 1) (nI x) (by omega) (fun q => ?_)))
      by_cases z : m = x
      · rw [z]
      · rw [ha x (by omega) (by omega)] at e
        exact absurd e (by decide)
theorem xl_hb {post : Int32 → Prop} (row : Int32) {m : Nat} (hm : m < 24) (hb : bt row m = true) (ha : ∀ i, m < i → i < 24 → bt row i = false) (h : post (nI m)) : wpX_highestBit post row := ⟨25, xl_hb_l row hm hb ha h 24 0 0 rfl (fun q => absurd q (Nat.not_lt_zero m))⟩
def xa_I (u : Nat → Int32) (r y : Nat) (col : Int32) (t e : Nat) : Prop := (∀ x, x < 32 → (bt col x = true ↔ ∃ y', y' < y ∧ bt (u (r * 24 + y')) x = true)) ∧ (∀ y', y' < y → ¬ u (r * 24 + y') = 0 → t ≤ y' ∧ y' < e) ∧ ((t = 24 ∧ e = 0) ∨ (t < 24 ∧ 0 < e ∧ e ≤ 24 ∧ ¬ u (r * 24 + t) = 0 ∧ ¬ u (r * 24 + (e - 1)) = 0))
theorem xl_ar_l {post : Int32 → Prop} (u : Nat → Int32) {r : Nat} (hr : r < 3) (h : ∀ col t e, xa_I u r 24 col t e → (((col = 0 → (post (-3))) ∧ (¬ col = 0 → (wpX_lowestBit (fun r_5 => (wpX_highestBit (fun r_6 => (wpX_pack (fun r_7 => (post r_7)) r_5 (nI t) r_6 (nI e - 1))) col)) col))))) : ∀ d y col t e, y + d = 24 → xa_I u r y col t e → wX_around_20 post (nI r) u (d + 1) col (nI t) (nI e - 1) (nI y) := by
  intro d
  induction d with
  | zero =>
    intro y col t e hy I
    obtain rfl : y = 24 := by omega
    exact br_t (nI_le (a := 24) (b := 24) (by omega) (by decide)) (h col t e I)
  | succ d ih =>
    intro y col t e hy I
    obtain ⟨I1, I2, I3⟩ := I
    refine br_f (nI_ge (b := 24) (by omega) (by decide)) ?_
    rw [zn_24, zn_cl (by omega)]
    refine ⟨zn_in (by omega) (by decide), nm_e (br_c (fun z => nm_r (nI_1 y) (ih (y + 1) col t e (by omega) ⟨fun x hx => ?_, fun y' hy' hn => ?_, I3⟩)) (fun z => nm_e ?_))⟩
    · rw [I1 x hx]
      constructor
      · intro ⟨y', a, b⟩
        exact ⟨y', by omega, b⟩
      · intro ⟨y', a, b⟩
        by_cases q : y' = y
        · rw [q, z, b_0] at b
          exact absurd b (by decide)
        · exact ⟨y', by omega, b⟩
    · by_cases q : y' = y
      · rw [q] at hn
        exact absurd z hn
      · exact I2 y' (by omega) hn
    · have B : ∀ x, x < 32 → (bt (col ||| u (r * 24 + y)) x = true ↔ ∃ y', y' < y + 1 ∧ bt (u (r * 24 + y')) x = true) := by
        intro x hx
        rw [b_or, Bool.or_eq_true, I1 x hx]
        constructor
        · intro q
          rcases q with ⟨y', a, b⟩ | q
          · exact ⟨y', by omega, b⟩
          · exact ⟨y, by omega, q⟩
        · intro ⟨y', a, b⟩
          by_cases q : y' = y
          · rw [q] at b
            exact Or.inr b
          · exact Or.inl ⟨y', by omega, b⟩
      have ht : t ≤ 24 := by omega
      refine pk_le y t (fun q => nm_r (nI_1 y) ?_) (fun q => nm_r (nI_1 y) ?_) rfl rfl (by omega) (by omega)
      · have g := ih (y + 1) (col ||| u (r * 24 + y)) y (y + 1) (by omega) ⟨B, fun y' hy' hn => by
          by_cases k : y' = y
          · omega
          · have := I2 y' (by omega) hn
            omega, Or.inr ⟨by omega, by omega, by omega, z, z⟩⟩
        rw [nI_pred y] at g
        exact g
      · have g := ih (y + 1) (col ||| u (r * 24 + y)) t (y + 1) (by omega) ⟨B, fun y' hy' hn => by
          by_cases k : y' = y
          · omega
          · have := I2 y' (by omega) hn
            omega, Or.inr ⟨by omega, by omega, by omega, by
              rcases I3 with k | k
              · omega
              · exact k.2.2.2.1, z⟩⟩
        rw [nI_pred y] at g
        exact g
/-! the reference's around -/
def ya_I (u : Nat → Int32) (r p a b cc e : Nat) : Prop := (∀ y' x', x' < 24 → y' * 24 + x' < p → bt (u (r * 24 + y')) x' = true → a ≤ x' ∧ b ≤ y' ∧ x' < cc ∧ y' < e) ∧ ((a = 24 ∧ b = 24 ∧ cc = 0 ∧ e = 0) ∨ (a < 24 ∧ b < 24 ∧ 0 < cc ∧ cc ≤ 24 ∧ 0 < e ∧ e ≤ 24 ∧ (∃ y', y' < 24 ∧ bt (u (r * 24 + y')) a = true) ∧ (∃ x', x' < 24 ∧ bt (u (r * 24 + b)) x' = true) ∧ (∃ y', y' < 24 ∧ bt (u (r * 24 + y')) (cc - 1) = true) ∧ (∃ x', x' < 24 ∧ bt (u (r * 24 + (e - 1))) x' = true)))
theorem yl_hit {post : Int32 → Prop} {J25 J35 : Int32 → Int32 → Int32 → Int32 → Int32 → Prop} {c w : Nat → Int32} {r a b cc e x y : Nat} (ha : a ≤ 24) (hb : b ≤ 24) (hc : cc ≤ 24) (he : e ≤ 24) (hx : x < 24) (hy : y < 24) (h : ∀ a' b' c' e', ((a' = a ∧ a ≤ x) ∨ (a' = x ∧ x < a)) → ((b' = b ∧ b ≤ y) ∨ (b' = y ∧ y < b)) → ((c' = cc ∧ x < cc) ∨ (c' = x + 1 ∧ cc ≤ x)) → ((e' = e ∧ y < e) ∨ (e' = y + 1 ∧ e ≤ y)) → J35 (nI a') (nI b') (nI c' - 1) (nI e' - 1) (nI (x + 1))) : (((nI a ≤ nI x → (wY_around_66 post J25 J35 (nI r) (nI b) (nI cc - 1) (nI e - 1) (nI y) (nI x) (nI a) c w)) ∧ (¬ nI a ≤ nI x → (wY_around_66 post J25 J35 (nI r) (nI b) (nI cc - 1) (nI e - 1) (nI y) (nI x) (nI x) c w)))) := by
  have s95 : ∀ a' b' c', ((a' = a ∧ a ≤ x) ∨ (a' = x ∧ x < a)) → ((b' = b ∧ b ≤ y) ∨ (b' = y ∧ y < b)) → ((c' = cc ∧ x < cc) ∨ (c' = x + 1 ∧ cc ≤ x)) → wY_around_95 post J25 J35 (nI r) (nI a') (nI c' - 1) (nI e - 1) (nI y) (nI x) (nI b') c w := fun a' b' c' h1 h2 h3 => by
    refine br_c (fun z => nm_r (nI_1 x) ?_) (fun z => nm_r (nI_1 x) ?_)
    · exact h a' b' c' e h1 h2 h3 (Or.inl ⟨rfl, (zn_le1 (by omega) (by omega)).mp z⟩)
    · rw [zn_le1 (by omega) (by omega)] at z
      have g := h a' b' c' (y + 1) h1 h2 h3 (Or.inr ⟨rfl, by omega⟩)
      rw [nI_pred y] at g
      exact g
  have s81 : ∀ a' c', ((a' = a ∧ a ≤ x) ∨ (a' = x ∧ x < a)) → ((c' = cc ∧ x < cc) ∨ (c' = x + 1 ∧ cc ≤ x)) → wY_around_81 post J25 J35 (nI r) (nI a') (nI b) (nI e - 1) (nI y) (nI x) (nI c' - 1) c w := fun a' c' h1 h3 => pk_le b y (fun z => s95 a' b c' h1 (Or.inl ⟨rfl, z⟩) h3) (fun z => s95 a' y c' h1 (Or.inr ⟨rfl, z⟩) h3) rfl rfl (by omega) (by omega)
  have s66 : ∀ a', ((a' = a ∧ a ≤ x) ∨ (a' = x ∧ x < a)) → wY_around_66 post J25 J35 (nI r) (nI b) (nI cc - 1) (nI e - 1) (nI y) (nI x) (nI a') c w := fun a' h1 => by
    refine br_c (fun z => ?_) (fun z => ?_)
    · exact s81 a' cc h1 (Or.inl ⟨rfl, (zn_le1 (by omega) (by omega)).mp z⟩)
    · rw [zn_le1 (by omega) (by omega)] at z
      have g := s81 a' (x + 1) h1 (Or.inr ⟨rfl, by omega⟩)
      rw [nI_pred x] at g
      exact g
  exact pk_le a x (fun z => s66 a (Or.inl ⟨rfl, z⟩)) (fun z => s66 x (Or.inr ⟨rfl, z⟩)) rfl rfl (by omega) (by omega)
theorem yl_ar_i {post : Int32 → Prop} {J : Int32 → Int32 → Int32 → Int32 → Int32 → Prop} {u c w : Nat → Int32} (C : zz_C u c) {r y : Nat} (hr : r < 3) (hy : y < 24) (hJ : ∀ a b cc e, ya_I u r (y * 24 + 24) a b cc e → J (nI a) (nI b) (nI cc - 1) (nI e - 1) (nI (y + 1))) : ∀ d x a b cc e, x + d = 24 → ya_I u r (y * 24 + x) a b cc e → wY_around_35 post J (nI r) (nI y) c w (d + 1) (nI a) (nI b) (nI cc - 1) (nI e - 1) (nI x) := by
  intro d
  induction d with
  | zero =>
    intro x a b cc e hx I
    obtain rfl : x = 24 := by omega
    exact br_t (nI_le (a := 24) (b := 24) (by omega) (by decide)) (nm_r (nI_1 y) (hJ a b cc e I))
  | succ d ih =>
    intro x a b cc e hx I
    have I0 := I
    obtain ⟨I1, I2⟩ := I
    refine br_f (nI_ge (b := 24) (by omega) (by decide)) (yl_has C hr (by omega) hy (br_c (fun z => nm_r (nI_1 x) (ih (x + 1) a b cc e (by omega) ⟨fun y' x' h1 h2 h3 => ?_, I2⟩)) (fun z => ?_)))
    · by_cases q : y' * 24 + x' < y * 24 + x
      · exact I1 y' x' h1 q h3
      · have e1 : y' = y := by omega
        have e2 : x' = x := by omega
        rw [e1, e2, zb_eq0.mp z] at h3
        exact absurd h3 (by decide)
    · rw [zb_eq0, Bool.not_eq_false] at z
      refine yl_hit (by omega) (by omega) (by omega) (by omega) (by omega) hy (fun a' b' c' e' h1 h2 h3 h4 => ih (x + 1) a' b' c' e' (by omega) ⟨fun y' x' k1 k2 k3 => ?_, Or.inr ⟨by omega, by omega, by omega, by omega, by omega, by omega, ?_, ?_, ?_, ?_⟩⟩)
      · by_cases q : y' * 24 + x' < y * 24 + x
        · have := I1 y' x' k1 q k3
          omega
        · have e1 : y' = y := by omega
          have e2 : x' = x := by omega
          omega
      · rcases h1 with ⟨rfl, k⟩ | ⟨rfl, k⟩
        · rcases I2 with q | q
          · omega
          · exact q.2.2.2.2.2.2.1
        · exact ⟨y, hy, z⟩
      · rcases h2 with ⟨rfl, k⟩ | ⟨rfl, k⟩
        · rcases I2 with q | q
          · omega
          · exact q.2.2.2.2.2.2.2.1
        · exact ⟨x, by omega, z⟩
      · rcases h3 with ⟨rfl, k⟩ | ⟨rfl, k⟩
        · rcases I2 with q | q
          · omega
          · exact q.2.2.2.2.2.2.2.2.1
        · exact ⟨y, hy, z⟩
      · rcases h4 with ⟨rfl, k⟩ | ⟨rfl, k⟩
        · rcases I2 with q | q
          · omega
          · exact q.2.2.2.2.2.2.2.2.2
        · exact ⟨x, by omega, z⟩
theorem yl_ar_o {post : Int32 → Prop} {u c w : Nat → Int32} (C : zz_C u c) {r : Nat} (hr : r < 3) (h : ∀ a b cc e, ya_I u r 576 a b cc e → (((0 ≤ nI cc - 1 → (post (((nI a + (32 * nI b)) + (1024 * (nI cc - 1))) + (32768 * (nI e - 1))))) ∧ (¬ 0 ≤ nI cc - 1 → (post (-3)))))) : ∀ d y a b cc e, y + d = 24 → ya_I u r (y * 24) a b cc e → wY_around_25 post (nI r) c w (d + 1) (nI a) (nI b) (nI cc - 1) (nI e - 1) (nI y) := by
  intro d
  induction d with
  | zero =>
    intro y a b cc e hy I
    obtain rfl : y = 24 := by omega
    exact br_t (nI_le (a := 24) (b := 24) (by omega) (by decide)) (h a b cc e I)
  | succ d ih =>
    intro y a b cc e hy I
    refine br_f (nI_ge (b := 24) (by omega) (by decide)) ⟨25, yl_ar_i C hr (by omega) (fun a b cc e I => ih (y + 1) a b cc e (by omega) (by rw [Nat.succ_mul]; exact I)) 24 0 a b cc e rfl I⟩
/-- a row that isn't 0 has a cell -/
theorem zz_ne {u : Nat → Int32} (H : zz_H u) {j : Nat} (hj : j < 72) (h : ¬ u j = 0) : ∃ x, x < 24 ∧ bt (u j) x = true := by
  refine Classical.byContradiction (fun n => h (zb_0.mpr (fun i hi => ?_)))
  by_cases z : i < 24
  · cases e : bt (u j) i with
    | false => rfl
    | true => exact absurd ⟨i, z, e⟩ n
  · exact H j hj i (by omega)
theorem zz_nz {x : Int32} {i : Nat} (h : bt x i = true) : ¬ x = 0 := fun e => by
  rw [e, b_0] at h
  exact absurd h (by decide)
theorem zo_max {f : Nat → Bool} : ∀ n, (∃ i, i < n ∧ f i = true) → ∃ m, m < n ∧ f m = true ∧ ∀ i, m < i → i < n → f i = false := by
  intro n
  induction n with
  | zero => intro ⟨i, h, _⟩; exact absurd h (Nat.not_lt_zero i)
  | succ n ih =>
    intro ⟨i, h, hf⟩
    cases e : f n with
    | true => exact ⟨n, by omega, e, fun j h1 h2 => by omega⟩
    | false =>
      have : i ≠ n := fun q => by
        rw [q, e] at hf
        exact absurd hf (by decide)
      obtain ⟨m, m1, m2, m3⟩ := ih ⟨i, by omega, hf⟩
      refine ⟨m, by omega, m2, fun j h1 h2 => ?_⟩
      by_cases q : j = n
      · rw [q]; exact e
      · exact m3 j h1 (by omega)
theorem i_vc_around {k : Nat} {u : SX} {v : SY} (I : i_Rel k u v) (hk : k + 5 ≤ 2560) (v1 : Int32) : wpX_around (fun r => wpY_around (fun r' => r' = r ∧ i_Rel (k + 5) u v) v v1) u v1 := by
  obtain ⟨c, w⟩ := v
  obtain ⟨H, C⟩ := I
  have C : zz_C u c := C
  unfold wpX_around wpY_around
  dsimp only
  rcases pk_ix v1 (n := 3) (by decide) with h | h | ⟨r, hr, rfl⟩
  · exact xl_regN (Or.inl h) (br_t rfl (yl_badN (Or.inl h) (br_f (by decide) ⟨rfl, H, C⟩)))
  · exact xl_regN (Or.inr h) (br_t rfl (yl_badN (Or.inr h) (br_f (by decide) ⟨rfl, H, C⟩)))
  have x0 : xa_I u r 0 0 24 0 := ⟨fun x hx => by
    rw [b_0]
    exact ⟨fun q => absurd q (by decide), fun ⟨y', q, _⟩ => absurd q (Nat.not_lt_zero y')⟩, fun y' q => absurd q (Nat.not_lt_zero y'), Or.inl ⟨rfl, rfl⟩⟩
  have y0 : ya_I u r (0 * 24) 24 24 0 0 := ⟨fun y' x' _ q => absurd q (by omega), Or.inl ⟨rfl, rfl, rfl, rfl⟩⟩
  refine xl_reg hr (br_f (by decide) ⟨25, xl_ar_l u hr ?_ 24 0 0 24 0 rfl x0⟩)
  intro col t e ⟨X1, X2, X3⟩
  refine br_c (fun z => ?_) (fun z => ?_)
  · refine yl_bad hr (br_t rfl ⟨25, yl_ar_o C hr ?_ 24 0 24 24 0 0 rfl y0⟩)
    intro a b cc e' ⟨Y1, Y2⟩
    have hc : cc = 0 := by
      rcases Y2 with q | q
      · exact q.2.2.1
      · obtain ⟨y', p1, p2⟩ := q.2.2.2.2.2.2.2.2.1
        have := (X1 (cc - 1) (by omega)).mpr ⟨y', p1, p2⟩
        rw [z, b_0] at this
        exact absurd this (by decide)
    subst hc
    exact br_f (by decide) ⟨rfl, H, C⟩
  · obtain ⟨x1, hx1, y1, hy1, hb1⟩ : ∃ x, x < 24 ∧ ∃ y, y < 24 ∧ bt (u (r * 24 + y)) x = true := by
      refine Classical.byContradiction (fun n => z (zb_0.mpr (fun i hi => ?_)))
      cases q : bt col i with
      | false => rfl
      | true =>
        obtain ⟨y', p1, p2⟩ := (X1 i hi).mp q
        by_cases i24 : i < 24
        · exact absurd ⟨i, i24, y', p1, p2⟩ n
        · rw [H _ (by omega) i (by omega)] at p2
          exact absurd p2 (by decide)
    have X4 := X2 y1 hy1 (zz_nz hb1)
    have X5 : t < 24 ∧ 0 < e ∧ e ≤ 24 ∧ ¬ u (r * 24 + t) = 0 ∧ ¬ u (r * 24 + (e - 1)) = 0 := X3.resolve_left (by omega)
    obtain ⟨t1, t2, t3, t4, t5⟩ := X5
    have bc1 : bt col x1 = true := (X1 x1 (by omega)).mpr ⟨y1, hy1, hb1⟩
    have ne : ¬ zs_sm (fun i => (bt col i).toNat) 24 = 0 := fun q => by
      have := (zs_zero 24).mp q x1 hx1
      rw [bc1] at this
      exact absurd this (by decide)
    obtain ⟨lo, hlo, blo, slo⟩ := zs_find (zs_b1 col) 0 24 (by omega)
    have blo : bt col lo = true := by
      cases q : bt col lo with
      | true => rfl
      | false => rw [q] at blo; exact absurd blo (by decide)
    have alo := (zs_zero lo).mp slo
    obtain ⟨hi, hhi, bhi, ahi⟩ := zo_max 24 ⟨x1, hx1, bc1⟩
    have ylo := (X1 lo (by omega)).mp blo
    have yhi := (X1 hi (by omega)).mp bhi
    refine xl_bn (k := 0) col hlo blo slo (xl_hb col hhi bhi ahi ?_)
    dsimp only [wpX_pack]
    refine yl_bad hr (br_t rfl ⟨25, yl_ar_o C hr ?_ 24 0 24 24 0 0 rfl y0⟩)
    intro a b cc e' ⟨Y1, Y2⟩
    have Y4 := Y1 y1 x1 hx1 (by omega) hb1
    obtain ⟨a1, b1, c1, c2, e1, e2, ⟨ya, ya1, ya2⟩, ⟨xb, xb1, xb2⟩, ⟨yc, yc1, yc2⟩, ⟨xe, xe1, xe2⟩⟩ := Y2.resolve_left (by omega)
    have ea : a = lo := by
      obtain ⟨y', p1, p2⟩ := ylo
      have q1 := Y1 y' lo hlo (by omega) p2
      rcases Nat.lt_or_ge a lo with q | q
      · have q2 := alo a q
        rw [(X1 a (by omega)).mpr ⟨ya, ya1, ya2⟩] at q2
        exact absurd q2 (by decide)
      · omega
    have ec : cc = hi + 1 := by
      obtain ⟨y', p1, p2⟩ := yhi
      have q1 := Y1 y' hi hhi (by omega) p2
      rcases Nat.lt_or_ge hi (cc - 1) with q | q
      · have q2 := ahi (cc - 1) q (by omega)
        rw [(X1 (cc - 1) (by omega)).mpr ⟨yc, yc1, yc2⟩] at q2
        exact absurd q2 (by decide)
      · omega
    have eb : b = t := by
      obtain ⟨x', p1, p2⟩ := zz_ne H (by omega) t4
      have q1 := Y1 t x' p1 (by omega) p2
      have q2 := X2 b b1 (zz_nz xb2)
      omega
    have ee : e' = e := by
      obtain ⟨x', p1, p2⟩ := zz_ne H (by omega) t5
      have q1 := Y1 (e - 1) x' p1 (by omega) p2
      have q2 := X2 (e' - 1) (by omega) (zz_nz xe2)
      omega
    subst ea ec eb ee
    rw [nI_pred]
    exact br_t (nI_pos' (by omega)) ⟨rfl, H, C⟩
end
section
/-! covers -/
def zo_any (f : Nat → Bool) : Nat → Bool
  | 0 => false
  | n + 1 => zo_any f n || f n
theorem zo_s (f : Nat → Bool) (n : Nat) : zo_any f (n + 1) = (zo_any f n || f n) := rfl
theorem zo_no {f : Nat → Bool} : ∀ n, zo_any f n = false ↔ ∀ i, i < n → f i = false := by
  intro n
  induction n with
  | zero => exact ⟨fun _ i h => absurd h (Nat.not_lt_zero i), fun _ => rfl⟩
  | succ n ih =>
    rw [zo_s, Bool.or_eq_false_iff, ih]
    constructor
    · intro ⟨a, b⟩ i hi
      by_cases q : i = n
      · rw [q]; exact b
      · exact a i (by omega)
    · intro h
      exact ⟨fun i hi => h i (by omega), h n (by omega)⟩
theorem zb_or (a b : Bool) : zb_I a ||| zb_I b = zb_I (a || b) := by cases a <;> cases b <;> decide
def xv_i (u : Nat → Int32) (r : Nat) (c s : Int32) (y : Nat) : Bool := !decide (xb_row c s y &&& u (r * 24 + y) = 0)
def xv_o (u : Nat → Int32) (r : Nat) (c s : Int32) (y : Nat) : Bool := !decide (xb_row c s y &&& (u (r * 24 + y) ^^^ (-1)) = 0)
theorem xl_63 {post : Int32 → Prop} {J : Int32 → Int32 → Int32 → Prop} {X1 X2 X3 : Int32} {a : Nat → Int32} {y : Nat} (row bx : Int32) (p q z : Bool) (h : J (zb_I (p || z)) (zb_I (q || !decide (bx &&& (row ^^^ (-1)) = 0))) (nI (y + 1))) : wX_covers_63 post J X1 X2 X3 (zb_I q) (nI y) row bx (zb_I z) (zb_I p) a := by
  refine nm_r (zb_or p z) (br_c (fun k => ?_) (fun k => ?_))
  · rw [decide_eq_true k] at h
    exact nm_r (zb_or q false) (nm_r (nI_1 y) h)
  · rw [decide_eq_false k] at h
    exact nm_r (zb_or q true) (nm_r (nI_1 y) h)
theorem xl_cov_l {post : Int32 → Prop} (u : Nat → Int32) {r : Nat} (hr : r < 3) (c s : Int32) (h : (((zb_I (zo_any (xv_i u r c s) 24) = 0 → (post 0)) ∧ (¬ zb_I (zo_any (xv_i u r c s) 24) = 0 → (((zb_I (zo_any (xv_o u r c s) 24) = 0 → (post 2)) ∧ (¬ zb_I (zo_any (xv_o u r c s) 24) = 0 → (post 1)))))))) : ∀ d y, y + d = 24 → wX_covers_18 post (nI r) c s u (d + 1) (zb_I (zo_any (xv_i u r c s) y)) (zb_I (zo_any (xv_o u r c s) y)) (nI y) := by
  intro d
  induction d with
  | zero =>
    intro y hy
    obtain rfl : y = 24 := by omega
    exact br_t (nI_le (a := 24) (b := 24) (by omega) (by decide)) h
  | succ d ih =>
    intro y hy
    have g := ih (y + 1) (by omega)
    rw [zo_s, zo_s] at g
    refine br_f (nI_ge (b := 24) (by omega) (by decide)) ?_
    rw [zn_24, zn_cl (by omega)]
    refine ⟨zn_in (by omega) (by decide), nm_e (xl_boxRow c s (by omega) (br_c (fun z => ?_) (fun z => ?_)))⟩
    · refine xl_63 (z := false) _ _ _ _ ?_
      unfold xv_i at g
      rw [decide_eq_true z] at g
      exact g
    · refine xl_63 (z := true) _ _ _ _ ?_
      unfold xv_i at g
      rw [decide_eq_false z] at g
      exact g
def yv_i (u : Nat → Int32) (r : Nat) (c s : Int32) (y x : Nat) : Bool := xb_in c s x y && bt (u (r * 24 + y)) x
def yv_o (u : Nat → Int32) (r : Nat) (c s : Int32) (y x : Nat) : Bool := xb_in c s x y && !bt (u (r * 24 + y)) x
theorem yl_cov_i {post : Int32 → Prop} {J : Int32 → Int32 → Int32 → Prop} {u cs w : Nat → Int32} (C : zz_C u cs) {r y A B : Nat} (hr : r < 3) (hy : y < 24) (c s : Int32) (h : J (nI (A + zs_sm (fun x => (yv_i u r c s y x).toNat) 24)) (nI (B + zs_sm (fun x => (yv_o u r c s y x).toNat) 24)) (nI (y + 1))) : ∀ d x, x + d = 24 → wY_covers_29 post J (nI r) c s (nI y) cs w (d + 1) (nI (A + zs_sm (fun x => (yv_i u r c s y x).toNat) x)) (nI (B + zs_sm (fun x => (yv_o u r c s y x).toNat) x)) (nI x) := by
  intro d
  induction d with
  | zero =>
    intro x hx
    obtain rfl : x = 24 := by omega
    exact br_t (nI_le (a := 24) (b := 24) (by omega) (by decide)) (nm_r (nI_1 y) h)
  | succ d ih =>
    intro x hx
    have g := ih (x + 1) (by omega)
    rw [zs_s, zs_s] at g
    unfold yv_i yv_o at g
    refine br_f (nI_ge (b := 24) (by omega) (by decide)) (yl_inBox c s (by omega) hy ?_)
    cases eb : xb_in c s x y with
    | false =>
      rw [eb] at g
      exact br_t rfl (br_t rfl (nm_r (nI_1 x) g))
    | true =>
      rw [eb] at g
      refine br_f (by decide) (yl_has C hr (by omega) hy ?_)
      cases eh : bt (u (r * 24 + y)) x with
      | false =>
        rw [eh] at g
        refine br_t rfl (br_f (by decide) (yl_has C hr (by omega) hy ?_))
        rw [eh]
        exact br_t rfl (nm_r (nI_1 _) (nm_r (nI_1 x) g))
      | true =>
        rw [eh] at g
        refine br_f (by decide) (nm_r (nI_1 _) (br_f (by decide) (yl_has C hr (by omega) hy ?_)))
        rw [eh]
        exact br_f (by decide) (nm_r (nI_1 x) g)
def yv_I (u : Nat → Int32) (r : Nat) (c s : Int32) (y : Nat) : Nat := zs_sm (fun y => zs_sm (fun x => (yv_i u r c s y x).toNat) 24) y
def yv_O (u : Nat → Int32) (r : Nat) (c s : Int32) (y : Nat) : Nat := zs_sm (fun y => zs_sm (fun x => (yv_o u r c s y x).toNat) 24) y
theorem yl_cov_l {post : Int32 → Prop} {u cs w : Nat → Int32} (C : zz_C u cs) {r : Nat} (hr : r < 3) (c s : Int32) (h : (((nI (yv_I u r c s 24) = 0 → (post 0)) ∧ (¬ nI (yv_I u r c s 24) = 0 → (((nI (yv_O u r c s 24) = 0 → (post 2)) ∧ (¬ nI (yv_O u r c s 24) = 0 → (post 1)))))))) : ∀ d y, y + d = 24 → wY_covers_19 post (nI r) c s cs w (d + 1) (nI (yv_I u r c s y)) (nI (yv_O u r c s y)) (nI y) := by
  intro d
  induction d with
  | zero =>
    intro y hy
    obtain rfl : y = 24 := by omega
    exact br_t (nI_le (a := 24) (b := 24) (by omega) (by decide)) h
  | succ d ih =>
    intro y hy
    exact br_f (nI_ge (b := 24) (by omega) (by decide)) ⟨25, yl_cov_i C hr (by omega) c s (ih (y + 1) (by omega)) 24 0 rfl⟩
theorem zs_le24 {f : Nat → Nat} (h : ∀ i, f i ≤ 24) : ∀ n, zs_sm f n ≤ n * 24 := by
  intro n
  induction n with
  | zero => exact Nat.le_refl 0
  | succ n ih =>
    rw [zs_s]
    have := h n
    omega
theorem zv_z {F : Nat → Bool} {g : Nat → Nat → Bool} (h : ∀ y, y < 24 → (F y = false ↔ ∀ x, x < 24 → g y x = false)) : nI (zs_sm (fun y => zs_sm (fun x => (g y x).toNat) 24) 24) = 0 ↔ zo_any F 24 = false := by
  have l : zs_sm (fun y => zs_sm (fun x => (g y x).toNat) 24) 24 ≤ 24 * 24 := zs_le24 (fun i => zs_le (fun j => by cases g i j <;> decide) 24) 24
  rw [← nI_0, nI_eq (by omega) (by omega), zs_zero, zo_no]
  constructor
  · intro q y hy
    refine (h y hy).mpr (fun x hx => ?_)
    have := (zs_zero 24).mp (q y hy) x hx
    cases e : g y x with
    | false => rfl
    | true => rw [e] at this; exact absurd this (by decide)
  · intro q y hy
    refine (zs_zero 24).mpr (fun x hx => ?_)
    rw [(h y hy).mp (q y hy) x hx]
    rfl
theorem xv_ib {u : Nat → Int32} {r : Nat} (c s : Int32) : ∀ y, y < 24 → (xv_i u r c s y = false ↔ ∀ x, x < 24 → yv_i u r c s y x = false) := by
  intro y hy
  unfold xv_i yv_i
  rw [Bool.not_eq_false', decide_eq_true_eq, zb_0]
  constructor
  · intro h x hx
    have q := h x (by omega)
    rw [b_and, xb_bt c s (by omega), decide_eq_true hx, Bool.and_true] at q
    exact q
  · intro h i hi
    rw [b_and, xb_bt c s hi]
    by_cases z : i < 24
    · rw [decide_eq_true z, Bool.and_true]
      exact h i z
    · rw [decide_eq_false z, Bool.and_false, Bool.false_and]
theorem xv_ob {u : Nat → Int32} {r : Nat} (c s : Int32) : ∀ y, y < 24 → (xv_o u r c s y = false ↔ ∀ x, x < 24 → yv_o u r c s y x = false) := by
  intro y hy
  unfold xv_o yv_o
  rw [Bool.not_eq_false', decide_eq_true_eq, zb_0]
  constructor
  · intro h x hx
    have q := h x (by omega)
    rw [b_and, b_xor, b_m1 x (by omega), Bool.xor_true, xb_bt c s (by omega), decide_eq_true hx, Bool.and_true] at q
    exact q
  · intro h i hi
    rw [b_and, b_xor, b_m1 i hi, Bool.xor_true, xb_bt c s hi]
    by_cases z : i < 24
    · rw [decide_eq_true z, Bool.and_true]
      exact h i z
    · rw [decide_eq_false z, Bool.and_false, Bool.false_and]
theorem i_vc_covers {k : Nat} {u : SX} {v : SY} (I : i_Rel k u v) (hk : k + 5 ≤ 2560) (v1 : Int32) (v2 : Int32) (v3 : Int32) : wpX_covers (fun r => wpY_covers (fun r' => r' = r ∧ i_Rel (k + 5) u v) v v1 v2 v3) u v1 v2 v3 := by
  obtain ⟨c, w⟩ := v
  obtain ⟨H, C⟩ := I
  have C : zz_C u c := C
  unfold wpX_covers wpY_covers
  dsimp only
  rcases pk_ix v1 (n := 3) (by decide) with h | h | ⟨r, hr, rfl⟩
  · exact xl_regN (Or.inl h) (br_t rfl (yl_badN (Or.inl h) (br_f (by decide) ⟨rfl, H, C⟩)))
  · exact xl_regN (Or.inr h) (br_t rfl (yl_badN (Or.inr h) (br_f (by decide) ⟨rfl, H, C⟩)))
  have EI : nI (yv_I u r v2 v3 24) = 0 ↔ zo_any (xv_i u r v2 v3) 24 = false := zv_z (xv_ib v2 v3)
  have EO : nI (yv_O u r v2 v3 24) = 0 ↔ zo_any (xv_o u r v2 v3) 24 = false := zv_z (xv_ob v2 v3)
  refine xl_reg hr (br_f (by decide) ⟨25, xl_cov_l u hr v2 v3 ?_ 24 0 rfl⟩)
  refine br_c (fun z => ?_) (fun z => br_c (fun z2 => ?_) (fun z2 => ?_))
  · rw [zb_eq0] at z
    refine yl_bad hr (br_t rfl ⟨25, yl_cov_l C hr v2 v3 ?_ 24 0 rfl⟩)
    exact br_t (EI.mpr z) ⟨rfl, H, C⟩
  · rw [zb_eq0] at z z2
    refine yl_bad hr (br_t rfl ⟨25, yl_cov_l C hr v2 v3 ?_ 24 0 rfl⟩)
    exact br_f (fun q => z (EI.mp q)) (br_t (EO.mpr z2) ⟨rfl, H, C⟩)
  · rw [zb_eq0] at z z2
    refine yl_bad hr (br_t rfl ⟨25, yl_cov_l C hr v2 v3 ?_ 24 0 rfl⟩)
    exact br_f (fun q => z (EI.mp q)) (br_f (fun q => z2 (EO.mp q)) ⟨rfl, H, C⟩)
end
