section
/-! rows pasted from the kit's rows to paste (pure rows, bits) -/
theorem pk_us {f : Nat → Int32} {k : Nat} {x : Int32} : upd f k x k = x := if_pos rfl
theorem pk_un {f : Nat → Int32} {k j : Nat} {x : Int32} (h : j ≠ k) : upd f k x j = f j := if_neg h
theorem pk_sub {a b : Nat} (h : b ≤ a) : nI a - nI b = nI (a - b) := by
  obtain ⟨c, rfl⟩ : ∃ c, a = c + b := ⟨a - b, by omega⟩
  rw [← nI_add, Int32.add_sub_cancel, Nat.add_sub_cancel]
theorem pk_m1 (n : Nat) : nI (n + 1) + (-1) = nI n := by
  rw [← nI_1, Int32.add_assoc, show (1 : Int32) + (-1) = 0 from rfl, Int32.add_zero]
theorem pk_mul (a b : Nat) : nI a * nI b = nI (a * b) := (Int32.ofNat_mul a b).symm
theorem pk_sub_toInt {a b : Nat} (ha : a < 2 ^ 30) (hb : b < 2 ^ 30) : (nI a - nI b).toInt = (a : Int) - b := by
  rw [Int32.toInt_sub, nI_toInt (by omega), nI_toInt (by omega)]
  exact Int.bmod_eq_of_le (by omega) (by omega)
theorem pk_sneg {a b : Nat} (hb : b < 2 ^ 30) (h : a < b) : nI a - nI b < 0 := by
  rw [Int32.lt_iff_toInt_lt, pk_sub_toInt (by omega) hb, show (0 : Int32).toInt = 0 from by decide]
  omega
theorem pk_ix (x : Int32) {n : Nat} (hn : n < 2 ^ 31) : x < 0 ∨ nI n ≤ x ∨ ∃ j : Nat, j < n ∧ x = nI j := by
  by_cases h : x < 0
  · exact Or.inl h
  · obtain ⟨j, hj, rfl⟩ := nI_of h
    by_cases h2 : j < n
    · exact Or.inr (Or.inr ⟨j, h2, rfl⟩)
    · exact Or.inr (Or.inl (nI_le (by omega) hj))
theorem pk_le {x y : Int32} {A B : Prop} (a b : Nat) (f : a ≤ b → A) (g : b < a → B) (hx : x = nI a := by rfl) (hy : y = nI b := by rfl) (ha : a < 2 ^ 31 := by omega) (hb : b < 2 ^ 31 := by omega) : (x ≤ y → A) ∧ (¬ x ≤ y → B) := by
  subst hx hy
  rw [nI_leI ha hb]
  exact ⟨f, fun z => g (by omega)⟩
theorem pk_lt {x y : Int32} {A B : Prop} (a b : Nat) (f : a < b → A) (g : b ≤ a → B) (hx : x = nI a := by rfl) (hy : y = nI b := by rfl) (ha : a < 2 ^ 31 := by omega) (hb : b < 2 ^ 31 := by omega) : (x < y → A) ∧ (¬ x < y → B) := by
  subst hx hy
  rw [nI_ltI ha hb]
  exact ⟨f, fun z => g (by omega)⟩
theorem pk_eq {x y : Int32} {A B : Prop} (a b : Nat) (f : a = b → A) (g : a ≠ b → B) (hx : x = nI a := by rfl) (hy : y = nI b := by rfl) (ha : a < 2 ^ 31 := by omega) (hb : b < 2 ^ 31 := by omega) : (x = y → A) ∧ (¬ x = y → B) := by
  subst hx hy
  rw [nI_eq ha hb]
  exact ⟨f, g⟩
theorem pk_in {x : Int32} (n N : Nat) (h : n < N) (hx : x = nI n := by rfl) (hN : N < 2 ^ 31 := by omega) : vp_in x N := by
  subst hx
  exact vp_in_nI h hN
theorem pk_cl {x : Int32} (n : Nat) (hx : x = nI n := by rfl) (h : n < 2 ^ 31 := by omega) : x.toNatClampNeg = n := by
  subst hx
  exact nI_clamp h
theorem pk_tn {n : Nat} (h : n < 2 ^ 32) : (nI n).toBitVec.toNat = n := Nat.mod_eq_of_lt h
theorem pk_and (x : Int32) {m : Int32} (k : Nat) (hm : m.toBitVec.toNat = 2 ^ k - 1) : x &&& m = nI (x.toBitVec.toNat % 2 ^ k) := by
  apply Int32.toBitVec_inj.mp
  apply BitVec.eq_of_toNat_eq
  rw [Int32.toBitVec_and, BitVec.toNat_and, hm, Nat.and_two_pow_sub_one_eq_mod]
  show _ = (BitVec.ofNat 32 _).toNat
  rw [BitVec.toNat_ofNat]
  exact (Nat.mod_eq_of_lt (Nat.lt_of_le_of_lt (Nat.mod_le _ _) x.toBitVec.isLt)).symm
theorem pk_andE (x : Int32) {m : Int32} (k : Nat) (hm : m.toBitVec.toNat = 2 ^ k - 1) : ∃ j : Nat, j < 2 ^ k ∧ x &&& m = nI j := ⟨_, Nat.mod_lt _ (Nat.two_pow_pos k), pk_and x k hm⟩
def bt (x : Int32) (i : Nat) : Bool := x.toBitVec.getLsbD i
theorem b_ext {x y : Int32} (h : ∀ i, i < 32 → bt x i = bt y i) : x = y := Int32.toBitVec_inj.mp (BitVec.eq_of_getLsbD_eq (fun i hi => h i hi))
theorem b_or (x y : Int32) (i : Nat) : bt (x ||| y) i = (bt x i || bt y i) := by unfold bt; rw [Int32.toBitVec_or, BitVec.getLsbD_or]
theorem b_and (x y : Int32) (i : Nat) : bt (x &&& y) i = (bt x i && bt y i) := by unfold bt; rw [Int32.toBitVec_and, BitVec.getLsbD_and]
theorem b_xor (x y : Int32) (i : Nat) : bt (x ^^^ y) i = (bt x i ^^ bt y i) := by unfold bt; rw [Int32.toBitVec_xor, BitVec.getLsbD_xor]
theorem b_big {x : Int32} {i : Nat} (h : 32 ≤ i) : bt x i = false := BitVec.getLsbD_of_ge _ _ h
theorem b_m1 : ∀ i, i < 32 → bt (-1) i = true := by decide +kernel
theorem b_0 (i : Nat) : bt 0 i = false := BitVec.getLsbD_zero
theorem s_l : ∀ n, n < 32 → ((nI n &&& 31).toBitVec.smod 32).toNat = n := by decide +kernel
theorem b_shl (n : Nat) (hn : n < 32) (x : Int32) {i : Nat} (hi : i < 32) : bt (x <<< (nI n &&& 31)) i = (decide (n ≤ i) && bt x (i - n)) := by
  unfold bt
  rw [Int32.toBitVec_shiftLeft]
  show (x.toBitVec <<< ((nI n &&& 31).toBitVec.smod 32).toNat).getLsbD i = _
  rw [s_l n hn, BitVec.getLsbD_shiftLeft]
  rcases Nat.lt_or_ge i n with h | h
  · simp [h, Nat.not_le.mpr h]
  · simp [hi, h, Nat.not_lt.mpr h]
theorem b_sshr (n : Nat) (hn : n < 32) (x : Int32) {i : Nat} (hi : i < 32) : bt (x >>> (nI n &&& 31)) i = if n + i < 32 then bt x (n + i) else bt x 31 := by
  unfold bt
  rw [Int32.toBitVec_shiftRight]
  show (x.toBitVec.sshiftRight ((nI n &&& 31).toBitVec.smod 32).toNat).getLsbD i = _
  rw [s_l n hn, BitVec.getLsbD_sshiftRight, BitVec.msb_eq_getLsbD_last]
  simp [hi]
end
section
/-! booleans as ints, sums, arrays written from a base on, the relation -/
def zb_I (b : Bool) : Int32 := cond b 1 0
theorem zb_eq0 {b : Bool} : zb_I b = 0 ↔ b = false := by cases b <;> decide
theorem zb_inj {a b : Bool} : zb_I a = zb_I b ↔ a = b := by cases a <;> cases b <;> decide
theorem zb_n (b : Bool) : zb_I b = nI b.toNat := by cases b <;> rfl
theorem zb_nr (b : Bool) : narrow .boolean (.int (zb_I b)) = .int (zb_I b) := by cases b <;> rfl
theorem zb_nar (b : Bool) : vp_nar .boolean (zb_I b) = zb_I b := by
  unfold vp_nar
  rw [zb_nr]
theorem zb_1 : ∀ j, j < 32 → bt 1 j = decide (j = 0) := by decide +kernel
theorem zb_ff : ∀ j, j < 32 → bt 16777215 j = decide (j < 24) := by decide +kernel
theorem zb_bit (x : Int32) {i : Nat} (hi : i < 32) : (x >>> (nI i &&& 31)) &&& 1 = zb_I (bt x i) := by
  apply b_ext
  intro j hj
  rw [b_and, b_sshr i hi x hj, zb_1 j hj]
  by_cases h : j = 0
  · subst h
    rw [Nat.add_zero, if_pos hi]
    cases bt x i <;> decide
  · rw [decide_eq_false h, Bool.and_false]
    cases bt x i
    · exact (b_0 j).symm
    · show false = bt 1 j
      rw [zb_1 j hj, decide_eq_false h]
theorem zb_0 {x : Int32} : x = 0 ↔ ∀ i, i < 32 → bt x i = false :=
  ⟨fun h i _ => by rw [h]; exact b_0 i, fun h => b_ext fun i hi => by rw [h i hi, b_0]⟩
/-- the sum of f over 0 .. n - 1 -/
def zs_sm (f : Nat → Nat) : Nat → Nat
  | 0 => 0
  | n + 1 => zs_sm f n + f n
theorem zs_s (f : Nat → Nat) (n : Nat) : zs_sm f (n + 1) = zs_sm f n + f n := rfl
theorem zs_add (f : Nat → Nat) (a b : Nat) : zs_sm f (a + b) = zs_sm f a + zs_sm (fun i => f (a + i)) b := by
  induction b with
  | zero => rfl
  | succ b ih =>
    rw [← Nat.add_assoc, zs_s, ih, zs_s, Nat.add_assoc]
theorem zs_ext {f g : Nat → Nat} : ∀ n, (∀ i, i < n → f i = g i) → zs_sm f n = zs_sm g n := by
  intro n
  induction n with
  | zero => intro _; rfl
  | succ n ih =>
    intro h
    rw [zs_s, zs_s, ih (fun i hi => h i (by omega)), h n (by omega)]
theorem zs_grid (f : Nat → Nat) (n : Nat) : zs_sm (fun y => zs_sm (fun x => f (y * 24 + x)) 24) n = zs_sm f (n * 24) := by
  induction n with
  | zero => rfl
  | succ n ih => rw [zs_s, ih, Nat.succ_mul, zs_add]
theorem zs_zero {f : Nat → Nat} : ∀ n, zs_sm f n = 0 ↔ ∀ i, i < n → f i = 0 := by
  intro n
  induction n with
  | zero => exact ⟨fun _ i hi => by omega, fun _ => rfl⟩
  | succ n ih =>
    rw [zs_s]
    constructor
    · intro h i hi
      by_cases e : i = n
      · subst e; omega
      · exact ih.mp (by omega) i (by omega)
    · intro h
      rw [ih.mpr (fun i hi => h i (by omega)), h n (by omega)]
theorem zs_mono (f : Nat → Nat) {a b : Nat} (h : a ≤ b) : zs_sm f a ≤ zs_sm f b := by
  obtain ⟨c, rfl⟩ : ∃ c, b = a + c := ⟨b - a, by omega⟩
  rw [zs_add]
  omega
theorem zs_le {f : Nat → Nat} (h : ∀ i, f i ≤ 1) : ∀ n, zs_sm f n ≤ n := by
  intro n
  induction n with
  | zero => exact Nat.le_refl 0
  | succ n ih =>
    rw [zs_s]
    have := h n
    omega
/-- f with F written at b .. b + i - 1 -/
def zr_u (f : Nat → Int32) (b : Nat) (F : Nat → Int32) (i : Nat) : Nat → Int32 := fun j => if b ≤ j ∧ j < b + i then F (j - b) else f j
theorem zr_0 (f : Nat → Int32) (b : Nat) (F : Nat → Int32) : zr_u f b F 0 = f := funext fun j => if_neg (by omega)
theorem zr_out {f : Nat → Int32} {b : Nat} {F : Nat → Int32} {i j : Nat} (h : j < b ∨ b + i ≤ j) : zr_u f b F i j = f j := if_neg (by omega)
theorem zr_at {f : Nat → Int32} {b : Nat} {F : Nat → Int32} {i j : Nat} (h : b ≤ j ∧ j < b + i) : zr_u f b F i j = F (j - b) := if_pos h
theorem zr_in {f : Nat → Int32} {b : Nat} {F : Nat → Int32} {i j : Nat} (h : j < i) : zr_u f b F i (b + j) = F j := by
  rw [zr_at (by omega)]
  exact congrArg F (by omega)
theorem zr_s (f : Nat → Int32) (b : Nat) (F : Nat → Int32) (i : Nat) : upd (zr_u f b F i) (b + i) (F i) = zr_u f b F (i + 1) := by
  funext j
  by_cases h : j = b + i
  · subst h
    rw [pk_us, zr_in (by omega)]
  · rw [pk_un h]
    by_cases h2 : b ≤ j ∧ j < b + i
    · rw [zr_at h2, zr_at (by omega)]
    · rw [zr_out (by omega), zr_out (by omega)]
theorem zr_s0 (f : Nat → Int32) (F : Nat → Int32) (i : Nat) : upd (zr_u f 0 F i) i (F i) = zr_u f 0 F (i + 1) := by
  have h := zr_s f 0 F i
  rw [Nat.zero_add] at h
  exact h
theorem zr_in0 {f : Nat → Int32} {F : Nat → Int32} {i j : Nat} (h : j < i) : zr_u f 0 F i j = F j := by
  have h := zr_in (f := f) (b := 0) (F := F) h
  rw [Nat.zero_add] at h
  exact h
/-! numbers -/
theorem zn_24 (r : Nat) : nI r * 24 = nI (r * 24) := pk_mul r 24
theorem zn_576 (r : Nat) : nI r * 576 = nI (r * 576) := pk_mul r 576
theorem zn_cl {a b : Nat} (h : a + b < 2 ^ 31) : (nI a + nI b).toNatClampNeg = a + b := by rw [nI_add, nI_clamp h]
theorem zn_in {a b N : Nat} (h : a + b < N) (hN : N < 2 ^ 31) : vp_in (nI a + nI b) N := by
  rw [nI_add]
  exact vp_in_nI h hN
theorem zn_y (r y x : Nat) : nI r * 576 + nI y * 24 + nI x = nI (r * 576 + (y * 24 + x)) := by
  rw [zn_576, zn_24, nI_add, nI_add, Nat.add_assoc]
/-! the relation: no bit of a row beyond the 24th, and a cell of the reference is its row's bit -/
def zz_H (u : Nat → Int32) : Prop := ∀ j, j < 72 → ∀ i, 24 ≤ i → bt (u j) i = false
def zz_C (u c : Nat → Int32) : Prop := ∀ j, j < 72 → ∀ i, i < 24 → c (j * 24 + i) = zb_I (bt (u j) i)
def i_Rel (_ : Nat) (u : SX) (v : SY) : Prop := zz_H u ∧ zz_C u v.1
theorem i_up {k : Nat} {u : SX} {v : SY} (h : i_Rel k u v) : i_Rel (k + 5) u v := h
theorem i_vc0 : wpX_init (fun u => wpY_init (fun v => i_Rel 0 u v)) := ⟨fun _ _ i _ => b_0 i, fun _ _ i _ => by rw [b_0]; rfl⟩
/-- a cell of region r by its place in the region -/
theorem zz_c {u c : Nat → Int32} (C : zz_C u c) {r y x : Nat} (hr : r < 3) (hy : y < 24) (hx : x < 24) : c (r * 576 + (y * 24 + x)) = zb_I (bt (u (r * 24 + y)) x) := by
  rw [← C (r * 24 + y) (by omega) x hx]
  exact congrArg c (by omega)
theorem zz_upd {u c : Nat → Int32} {r : Nat} (hr : r < 3) (H : zz_H u) (C : zz_C u c) (F G : Nat → Int32) (hF : ∀ y, y < 24 → ∀ i, 24 ≤ i → i < 32 → bt (F y) i = false) (hG : ∀ y x, y < 24 → x < 24 → G (y * 24 + x) = zb_I (bt (F y) x)) : zz_H (zr_u u (r * 24) F 24) ∧ zz_C (zr_u u (r * 24) F 24) (zr_u c (r * 576) G 576) := by
  constructor
  · intro j hj i hi
    by_cases h : r * 24 ≤ j ∧ j < r * 24 + 24
    · rw [zr_at h]
      by_cases h2 : i < 32
      · exact hF _ (by omega) i hi h2
      · exact b_big (by omega)
    · rw [zr_out (by omega)]
      exact H j hj i hi
  · intro j hj i hi
    by_cases h : r * 24 ≤ j ∧ j < r * 24 + 24
    · rw [zr_at h, zr_at (by omega), ← hG (j - r * 24) i (by omega) hi]
      exact congrArg G (by omega)
    · rw [zr_out (by omega), zr_out (by omega)]
      exact C j hj i hi
/-! bad and good region numbers, kinds -/
theorem xl_reg {post : Int32 → Prop} {k : Nat} (hk : k < 3) (h : post 1) : wpX_isRegion post (nI k) := br_f (nI_pos (by omega)) (br_f (nI_ge (b := 3) hk (by decide)) h)
theorem xl_regN {post : Int32 → Prop} {r : Int32} (hr : r < 0 ∨ nI 3 ≤ r) (h : post 0) : wpX_isRegion post r := br_c (fun _ => h) (fun n => br_t (hr.resolve_left n) h)
theorem xl_kind {post : Int32 → Prop} {k : Nat} (hk : k ≤ 3) (h : post 1) : wpX_isKind post (nI k) := br_f (nI_pos (by omega)) (br_f (nI_nlt (a := 3) (b := k) hk (by decide)) h)
theorem xl_kindN {post : Int32 → Prop} {r : Int32} (hr : r < 0 ∨ nI 4 ≤ r) (h : post 0) : wpX_isKind post r := br_c (fun _ => h) (fun n => br_t (by
  have h4 := hr.resolve_left n
  rw [Int32.le_iff_toInt_le] at h4
  rw [Int32.lt_iff_toInt_lt]
  have e4 : (nI 4).toInt = 4 := by decide
  have e3 : (3 : Int32).toInt = 3 := by decide
  omega) h)
theorem yl_bad {post : Int32 → Prop} {v : SY} {k : Nat} (hk : k < 3) (h : post 0) : wpY_bad post v (nI k) := by
  obtain ⟨c, w⟩ := v
  exact br_f (nI_pos (by omega)) (br_t (nI_le (b := 2) (by omega) (by decide)) h)
theorem zn_nle {r : Int32} {n : Nat} (hn : n + 1 < 2 ^ 31) (h : nI (n + 1) ≤ r) : ¬ r ≤ nI n := by
  rw [Int32.le_iff_toInt_le, nI_toInt hn] at h
  rw [Int32.le_iff_toInt_le, nI_toInt (by omega)]
  omega
theorem yl_badN {post : Int32 → Prop} {v : SY} {r : Int32} (hr : r < 0 ∨ nI 3 ≤ r) (h : post 1) : wpY_bad post v r := by
  obtain ⟨c, w⟩ := v
  exact br_c (fun _ => h) (fun n => br_f (zn_nle (n := 2) (by decide) (hr.resolve_left n)) h)
end
section
/-! counts, mixes, the box's row: the small methods of both sides -/
theorem xl_bc_l {post : Int32 → Prop} (x : Int32) (h : post (nI (zs_sm (fun i => (bt x i).toNat) 24))) : ∀ d i, i + d = 24 → wX_bitCount_4 post x (d + 1) (nI (zs_sm (fun i => (bt x i).toNat) i)) (nI i) := by
  intro d
  induction d with
  | zero =>
    intro i hi
    obtain rfl : i = 24 := by omega
    exact br_t (nI_le (a := 24) (b := 24) (by omega) (by decide)) h
  | succ d ih =>
    intro i hi
    refine br_f (nI_ge (b := 24) (by omega) (by decide)) (nm_r ?_ (nm_r (nI_1 i) (ih (i + 1) (by omega))))
    rw [zb_bit x (by omega), zb_n, nI_add, zs_s]
theorem xl_bc {post : Int32 → Prop} (x : Int32) (h : post (nI (zs_sm (fun i => (bt x i).toNat) 24))) : wpX_bitCount post x := ⟨25, xl_bc_l x h 24 0 rfl⟩
def xc_cc (u : Nat → Int32) (r : Nat) : Nat := zs_sm (fun y => zs_sm (fun x => (bt (u (r * 24 + y)) x).toNat) 24) 24
theorem xl_cc_l {post : Int32 → Prop} (u : Nat → Int32) {r : Nat} (hr : r < 3) (h : post (nI (xc_cc u r))) : ∀ d i, i + d = 24 → wX_cellCount_4 post (nI r) u (d + 1) (nI (zs_sm (fun y => zs_sm (fun x => (bt (u (r * 24 + y)) x).toNat) 24) i)) (nI i) := by
  intro d
  induction d with
  | zero =>
    intro i hi
    obtain rfl : i = 24 := by omega
    exact br_t (nI_le (a := 24) (b := 24) (by omega) (by decide)) h
  | succ d ih =>
    intro i hi
    refine br_f (nI_ge (b := 24) (by omega) (by decide)) ?_
    rw [zn_24, zn_cl (by omega)]
    refine ⟨zn_in (by omega) (by decide), xl_bc _ (nm_r ?_ (nm_r (nI_1 i) (ih (i + 1) (by omega))))⟩
    rw [nI_add]
    exact congrArg nI (zs_s _ i).symm
theorem xl_cc {post : Int32 → Prop} (u : Nat → Int32) {r : Nat} (hr : r < 3) (h : post (nI (xc_cc u r))) : wpX_cellCount post u (nI r) := ⟨25, xl_cc_l u hr h 24 0 rfl⟩
def ya_ar (c : Nat → Int32) (r : Nat) : Nat := zs_sm (fun i => if c (r * 576 + i) = 0 then 0 else 1) 576
theorem yl_ar_l {post : Int32 → Prop} (c w : Nat → Int32) {r : Nat} (hr : r < 3) (h : post (nI (ya_ar c r))) : ∀ d i, i + d = 576 → wY_area_14 post (nI r) c w (d + 1) (nI (zs_sm (fun i => if c (r * 576 + i) = 0 then 0 else 1) i)) (nI i) := by
  intro d
  induction d with
  | zero =>
    intro i hi
    obtain rfl : i = 576 := by omega
    exact br_t (nI_le (a := 576) (b := 576) (by omega) (by decide)) h
  | succ d ih =>
    intro i hi
    have g := ih (i + 1) (by omega)
    rw [zs_s] at g
    refine br_f (nI_ge (b := 576) (by omega) (by decide)) ?_
    rw [zn_576, zn_cl (by omega)]
    refine ⟨zn_in (by omega) (by decide), br_c (fun z => nm_r (nI_1 i) ?_) (fun z => nm_r (nI_1 _) (nm_r (nI_1 i) ?_))⟩
    · rw [if_pos z] at g
      exact g
    · rw [if_neg z] at g
      exact g
theorem yl_ar {post : Int32 → Prop} (c w : Nat → Int32) {r : Nat} (hr : r < 3) (h : post (nI (ya_ar c r))) : wpY_area post (c, w) (nI r) := by
  unfold wpY_area
  dsimp only
  exact yl_bad hr (br_t rfl ⟨577, yl_ar_l c w hr h 576 0 rfl⟩)
theorem ya_xc {u c : Nat → Int32} {r : Nat} (hr : r < 3) (C : zz_C u c) : ya_ar c r = xc_cc u r := by
  unfold ya_ar xc_cc
  rw [← zs_grid _ 24]
  refine zs_ext 24 (fun y hy => zs_ext 24 (fun x hx => ?_))
  rw [zz_c C hr hy hx]
  cases bt (u (r * 24 + y)) x <;> rfl
/-! mixing -/
def xm_mix (k : Nat) (a b : Int32) : Int32 := match k with
  | 0 => a ||| b
  | 1 => a &&& b
  | 2 => a &&& (b ^^^ (-1))
  | _ => a ^^^ b
def ym_mix (k : Nat) (a b : Bool) : Bool := match k with
  | 0 => a || b
  | 1 => a && b
  | 2 => a && !b
  | _ => a ^^ b
theorem xm_bt (k : Nat) (a b : Int32) {i : Nat} (hi : i < 32) : bt (xm_mix k a b) i = ym_mix k (bt a i) (bt b i) := by
  match k with
  | 0 => exact b_or a b i
  | 1 => exact b_and a b i
  | 2 =>
    show bt (a &&& (b ^^^ (-1))) i = (bt a i && !bt b i)
    rw [b_and, b_xor, b_m1 i hi, Bool.xor_true]
  | _ + 3 => exact b_xor a b i
theorem xl_mix {post : Int32 → Prop} (a b : Int32) {k : Nat} (hk : k ≤ 3) (h : post (xm_mix k a b)) : wpX_mixRows post a b (nI k) := by
  have hk' : k = 0 ∨ k = 1 ∨ k = 2 ∨ k = 3 := by omega
  rcases hk' with rfl | rfl | rfl | rfl
  · exact br_f (by decide) (br_f (by decide) (br_t (by decide) h))
  · exact br_f (by decide) (br_f (by decide) (br_f (by decide) (br_t (by decide) h)))
  · exact br_f (by decide) (br_f (by decide) (br_f (by decide) (br_f (by decide) (br_t (by decide) h))))
  · exact br_f (by decide) (br_t (by decide) h)
theorem yl_mix {post : Int32 → Prop} {v : SY} (a b : Bool) {k : Nat} (hk : k ≤ 3) (h : post (zb_I (ym_mix k a b))) : wpY_mixed post v (zb_I a) (zb_I b) (nI k) := by
  obtain ⟨c, w⟩ := v
  have hk' : k = 0 ∨ k = 1 ∨ k = 2 ∨ k = 3 := by omega
  rcases hk' with rfl | rfl | rfl | rfl
  · refine br_t (by decide) (br_c (fun z => br_c (fun z2 => ?_) (fun z2 => ?_)) (fun z => ?_)) <;> revert z <;> cases a <;> intro z
    all_goals first | exact absurd z (by decide) | exact absurd rfl z | skip
    all_goals first | exact h | (revert z2; cases b <;> intro z2 <;> first | exact absurd z2 (by decide) | exact absurd rfl z2 | exact h)
  · refine br_f (by decide) (br_t (by decide) (br_c (fun z => ?_) (fun z => br_c (fun z2 => ?_) (fun z2 => ?_)))) <;> revert z <;> cases a <;> intro z
    all_goals first | exact absurd z (by decide) | exact absurd rfl z | skip
    all_goals first | exact h | (revert z2; cases b <;> intro z2 <;> first | exact absurd z2 (by decide) | exact absurd rfl z2 | exact h)
  · refine br_f (by decide) (br_f (by decide) (br_t (by decide) (br_c (fun z => ?_) (fun z => br_c (fun z2 => ?_) (fun z2 => ?_))))) <;> revert z <;> cases a <;> intro z
    all_goals first | exact absurd z (by decide) | exact absurd rfl z | skip
    all_goals first | exact h | (revert z2; cases b <;> intro z2 <;> first | exact absurd z2 (by decide) | exact absurd rfl z2 | exact h)
  · refine br_f (by decide) (br_f (by decide) (br_f (by decide) (br_c (fun z => ?_) (fun z => ?_)))) <;> revert z <;> cases a <;> cases b <;> intro z
    all_goals first | exact absurd z (by decide) | exact absurd rfl z | exact h
/-! the box -/
def xb_5 (x : Int32) : Nat := x.toBitVec.toNat % 32
def xb_t (x : Int32) : Nat := xb_5 (x >>> ((5 : Int32) &&& 31))
theorem xb_5e (x : Int32) : x &&& 31 = nI (xb_5 x) := pk_and x 5 (by decide)
theorem xb_te (x : Int32) : (x >>> ((5 : Int32) &&& 31)) &&& 31 = nI (xb_t x) := xb_5e _
theorem xb_5l (x : Int32) : xb_5 x < 32 := Nat.mod_lt _ (by decide)
theorem xb_tl (x : Int32) : xb_t x < 32 := xb_5l _
def xb_in (c s : Int32) (x y : Nat) : Bool := decide (xb_5 c ≤ x ∧ x < xb_5 c + xb_5 s ∧ xb_t c ≤ y ∧ y < xb_t c + xb_t s)
def xb_row (c s : Int32) (y : Nat) : Int32 := if xb_t c ≤ y ∧ y < xb_t c + xb_t s then (((((1 : Int32) <<< (nI (xb_5 s) &&& 31)) - 1) <<< (nI (xb_5 c) &&& 31)) &&& 16777215) else 0
theorem xb_msk : ∀ w, w < 32 → ∀ i, i < 32 → bt (((1 : Int32) <<< (nI w &&& 31)) - 1) i = decide (i < w) := by decide +kernel
theorem xb_bt (c s : Int32) {y x : Nat} (hx : x < 32) : bt (xb_row c s y) x = (xb_in c s x y && decide (x < 24)) := by
  unfold xb_row xb_in
  by_cases h : xb_t c ≤ y ∧ y < xb_t c + xb_t s
  · rw [if_pos h, b_and, b_shl _ (xb_5l c) _ hx, zb_ff x hx, xb_msk _ (xb_5l s) _ (by omega), ← Bool.decide_and]
    refine congrArg (fun b => b && decide (x < 24)) (decide_eq_decide.mpr ?_)
    omega
  · rw [if_neg h, b_0, decide_eq_false (by omega), Bool.false_and]
theorem xl_boxRow {post : Int32 → Prop} (c s : Int32) {y : Nat} (hy : y < 24) (h : post (xb_row c s y)) : wpX_boxRow post c s (nI y) := by
  have h1 := xb_tl c
  have h2 := xb_tl s
  unfold xb_row at h
  refine nm_r (xb_te c) (nm_r (xb_te s) (pk_lt y (xb_t c) (fun z => ?_) (fun z => pk_lt y (xb_t c + xb_t s) (fun z2 => nm_r (xb_5e c) (nm_r (xb_5e s) ?_)) (fun z2 => ?_) rfl (nI_add _ _) (by omega) (by omega)) rfl rfl (by omega) (by omega)))
  · rw [if_neg (by omega)] at h
    exact h
  · rw [if_pos (by omega)] at h
    exact h
  · rw [if_neg (by omega)] at h
    exact h
theorem yl_inBox {post : Int32 → Prop} {v : SY} (c s : Int32) {x y : Nat} (hx : x < 24) (hy : y < 24) (h : post (zb_I (xb_in c s x y))) : wpY_inBox post v (nI x) (nI y) c s := by
  obtain ⟨cc, w⟩ := v
  have h1 := xb_tl c
  have h2 := xb_tl s
  have h3 := xb_5l c
  have h4 := xb_5l s
  have f : ¬ (xb_5 c ≤ x ∧ x < xb_5 c + xb_5 s ∧ xb_t c ≤ y ∧ y < xb_t c + xb_t s) → post 0 := fun z => by
    unfold xb_in at h
    rw [decide_eq_false z] at h
    exact h
  have t : (xb_5 c ≤ x ∧ x < xb_5 c + xb_5 s ∧ xb_t c ≤ y ∧ y < xb_t c + xb_t s) → post 1 := fun z => by
    unfold xb_in at h
    rw [decide_eq_true z] at h
    exact h
  refine nm_r (xb_5e c) (nm_r (xb_te c) (nm_r (xb_5e s) (nm_r (xb_te s) ?_)))
  refine pk_lt x (xb_5 c) (fun z => f (by omega)) (fun z1 => ?_) rfl rfl (by omega) (by omega)
  refine pk_le (xb_5 c + xb_5 s) x (fun z => f (by omega)) (fun z2 => ?_) (nI_add _ _) rfl (by omega) (by omega)
  refine pk_lt y (xb_t c) (fun z => f (by omega)) (fun z3 => ?_) rfl rfl (by omega) (by omega)
  exact pk_le (xb_t c + xb_t s) y (fun z => f (by omega)) (fun z4 => t (by omega)) (nI_add _ _) rfl (by omega) (by omega)
end
section
/-! box, combine, invert, area, has, same -/
theorem xl_box_l {post : Int32 → SX → Prop} {u : Nat → Int32} {r k : Nat} (hr : r < 3) (hk : k ≤ 3) (c s : Int32) {F : Nat → Int32} (hF : F = fun y => xm_mix k (u (r * 24 + y)) (xb_row c s y)) (h : post (nI (xc_cc (zr_u u (r * 24) F 24) r)) (zr_u u (r * 24) F 24)) : ∀ d y, y + d = 24 → wX_box_28 post (nI r) (nI k) c s (nI (r * 24)) (d + 1) (nI y) (zr_u u (r * 24) F y) := by
  intro d
  induction d with
  | zero =>
    intro y hy
    obtain rfl : y = 24 := by omega
    exact br_t (nI_le (a := 24) (b := 24) (by omega) (by decide)) (xl_cc _ hr h)
  | succ d ih =>
    intro y hy
    refine br_f (nI_ge (b := 24) (by omega) (by decide)) (xl_boxRow c s (by omega) ?_)
    rw [zn_cl (by omega), zr_out (by omega)]
    refine ⟨zn_in (by omega) (by decide), xl_mix _ _ hk ⟨zn_in (by omega) (by decide), nm_r ?_ (nm_r (nI_1 y) (ih (y + 1) (by omega)))⟩⟩
    rw [← zr_s, hF]
theorem xl_box {post : Int32 → SX → Prop} {u : Nat → Int32} {r k : Nat} (hr : r < 3) (hk : k ≤ 3) (c s : Int32) {F : Nat → Int32} (hF : F = fun y => xm_mix k (u (r * 24 + y)) (xb_row c s y)) (h : post (nI (xc_cc (zr_u u (r * 24) F 24) r)) (zr_u u (r * 24) F 24)) : wpX_box post u (nI r) (nI k) c s := by
  unfold wpX_box
  refine xl_reg hr (br_f (by decide) (xl_kind hk (br_f (by decide) (nm_r (zn_24 r) ⟨25, ?_⟩))))
  have g := xl_box_l hr hk c s hF h 24 0 rfl
  rw [zr_0] at g
  exact g
theorem yl_box_i {post : Int32 → SY → Prop} {J : Int32 → (Nat → Int32) → (Nat → Int32) → Prop} {c0 w : Nat → Int32} {r k : Nat} (hr : r < 3) (hk : k ≤ 3) (c s : Int32) {g : Nat → Bool} (hg : ∀ i, i < 576 → c0 (r * 576 + i) = zb_I (g i)) {G : Nat → Int32} (hG : G = fun i => zb_I (ym_mix k (g i) (xb_in c s (i % 24) (i / 24)))) {y : Nat} (hy : y < 24) (h : J (nI (y + 1)) (zr_u c0 (r * 576) G (y * 24 + 24)) w) : ∀ d x, x + d = 24 → wY_box_35 post J (nI r) (nI k) c s (nI y) (d + 1) (nI x) (zr_u c0 (r * 576) G (y * 24 + x)) w := by
  intro d
  induction d with
  | zero =>
    intro x hx
    obtain rfl : x = 24 := by omega
    exact br_t (nI_le (a := 24) (b := 24) (by omega) (by decide)) (nm_r (nI_1 y) h)
  | succ d ih =>
    intro x hx
    refine br_f (nI_ge (b := 24) (by omega) (by decide)) (nm_r (zn_y r y x) (yl_inBox c s (by omega) hy ⟨vp_in_nI (by omega) (by decide), ?_⟩))
    rw [nI_clamp (by omega), zr_out (by omega), hg _ (by omega)]
    refine yl_mix _ _ hk ⟨vp_in_nI (by omega) (by decide), nm_r ?_ (nm_r (nI_1 x) (ih (x + 1) (by omega)))⟩
    rw [zb_nar, ← Nat.add_assoc (y * 24) x 1, ← zr_s, hG]
    dsimp only
    rw [show (y * 24 + x) % 24 = x by omega, show (y * 24 + x) / 24 = y by omega]
theorem yl_box_l {post : Int32 → SY → Prop} {c0 w : Nat → Int32} {r k : Nat} (hr : r < 3) (hk : k ≤ 3) (c s : Int32) {g : Nat → Bool} (hg : ∀ i, i < 576 → c0 (r * 576 + i) = zb_I (g i)) {G : Nat → Int32} (hG : G = fun i => zb_I (ym_mix k (g i) (xb_in c s (i % 24) (i / 24)))) (h : post (nI (ya_ar (zr_u c0 (r * 576) G 576) r)) (zr_u c0 (r * 576) G 576, w)) : ∀ d y, y + d = 24 → wY_box_25 post (nI r) (nI k) c s (d + 1) (nI y) (zr_u c0 (r * 576) G (y * 24)) w := by
  intro d
  induction d with
  | zero =>
    intro y hy
    obtain rfl : y = 24 := by omega
    exact br_t (nI_le (a := 24) (b := 24) (by omega) (by decide)) (yl_ar _ _ hr h)
  | succ d ih =>
    intro y hy
    have g1 := ih (y + 1) (by omega)
    rw [Nat.succ_mul] at g1
    exact br_f (nI_ge (b := 24) (by omega) (by decide)) ⟨25, yl_box_i hr hk c s hg hG (by omega) g1 24 0 rfl⟩
theorem yl_box {post : Int32 → SY → Prop} {c0 w : Nat → Int32} {r k : Nat} (hr : r < 3) (hk : k ≤ 3) (c s : Int32) {g : Nat → Bool} (hg : ∀ i, i < 576 → c0 (r * 576 + i) = zb_I (g i)) {G : Nat → Int32} (hG : G = fun i => zb_I (ym_mix k (g i) (xb_in c s (i % 24) (i / 24)))) (h : post (nI (ya_ar (zr_u c0 (r * 576) G 576) r)) (zr_u c0 (r * 576) G 576, w)) : wpY_box post (c0, w) (nI r) (nI k) c s := by
  unfold wpY_box
  dsimp only
  refine yl_bad hr (br_t rfl (br_f (nI_pos (by omega)) (br_t (nI_le (b := 3) hk (by decide)) ⟨25, ?_⟩)))
  have g1 := yl_box_l hr hk c s hg hG h 24 0 rfl
  rw [Nat.zero_mul, zr_0] at g1
  exact g1
/-- the picture of region r -/
def zz_g (u : Nat → Int32) (r : Nat) (i : Nat) : Bool := bt (u (r * 24 + i / 24)) (i % 24)
theorem zz_gc {u c : Nat → Int32} (C : zz_C u c) {r : Nat} (hr : r < 3) : ∀ i, i < 576 → c (r * 576 + i) = zb_I (zz_g u r i) := fun i hi => by
  have h := zz_c C hr (y := i / 24) (x := i % 24) (by omega) (by omega)
  rw [show i / 24 * 24 + i % 24 = i by omega] at h
  exact h
theorem zz_ga (u : Nat → Int32) (r : Nat) {y x : Nat} (hx : x < 24) : zz_g u r (y * 24 + x) = bt (u (r * 24 + y)) x := by
  unfold zz_g
  rw [show (y * 24 + x) % 24 = x by omega, show (y * 24 + x) / 24 = y by omega]
theorem i_vc_box {k : Nat} {u : SX} {v : SY} (I : i_Rel k u v) (hk : k + 5 ≤ 2560) (v1 : Int32) (v2 : Int32) (v3 : Int32) (v4 : Int32) : wpX_box (fun r u' => wpY_box (fun r' v' => r' = r ∧ i_Rel (k + 5) u' v') v v1 v2 v3 v4) u v1 v2 v3 v4 := by
  obtain ⟨c, w⟩ := v
  obtain ⟨H, C⟩ := I
  have C : zz_C u c := C
  rcases pk_ix v1 (n := 3) (by decide) with h | h | ⟨r, hr, rfl⟩
  · unfold wpX_box wpY_box
    dsimp only
    exact xl_regN (Or.inl h) (br_t rfl (yl_badN (Or.inl h) (br_f (by decide) ⟨rfl, H, C⟩)))
  · unfold wpX_box wpY_box
    dsimp only
    exact xl_regN (Or.inr h) (br_t rfl (yl_badN (Or.inr h) (br_f (by decide) ⟨rfl, H, C⟩)))
  · rcases pk_ix v2 (n := 4) (by decide) with h | h | ⟨q, hq, rfl⟩
    · unfold wpX_box wpY_box
      dsimp only
      exact xl_reg hr (br_f (by decide) (xl_kindN (Or.inl h) (br_t rfl (yl_bad hr (br_t rfl (br_t h ⟨rfl, H, C⟩))))))
    · unfold wpX_box wpY_box
      dsimp only
      exact xl_reg hr (br_f (by decide) (xl_kindN (Or.inr h) (br_t rfl (yl_bad hr (br_t rfl (br_c (fun _ => ⟨rfl, H, C⟩) (fun _ => br_f (zn_nle (n := 3) (by decide) h) ⟨rfl, H, C⟩)))))))
    · have R := zz_upd hr H C (fun y => xm_mix q (u (r * 24 + y)) (xb_row v3 v4 y)) (fun i => zb_I (ym_mix q (zz_g u r i) (xb_in v3 v4 (i % 24) (i / 24)))) (by
        intro y hy i hi h32
        show bt (xm_mix _ _ _) i = false
        rw [xm_bt _ _ _ h32, H _ (by omega) i hi, xb_bt _ _ h32, decide_eq_false (by omega : ¬ i < 24), Bool.and_false]
        match q with
        | 0 => rfl
        | 1 => rfl
        | 2 => rfl
        | _ + 3 => rfl) (by
        intro y x hy hx
        show zb_I (ym_mix _ _ _) = zb_I (bt (xm_mix _ _ _) x)
        rw [xm_bt _ _ _ (by omega), xb_bt _ _ (by omega), decide_eq_true hx, Bool.and_true, zz_ga u r hx, show (y * 24 + x) % 24 = x by omega, show (y * 24 + x) / 24 = y by omega])
      refine xl_box hr (by omega) v3 v4 rfl (yl_box hr (by omega) v3 v4 (zz_gc C hr) rfl ⟨?_, R⟩)
      rw [ya_xc hr R.2]
/-! combine -/
theorem xl_comb_l {post : Int32 → SX → Prop} {u : Nat → Int32} {r a b k : Nat} (hr : r < 3) (ha : a < 3) (hb : b < 3) (hk : k ≤ 3) {F : Nat → Int32} (hF : F = fun y => xm_mix k (u (a * 24 + y)) (u (b * 24 + y))) (h : post (nI (xc_cc (zr_u u (r * 24) F 24) r)) (zr_u u (r * 24) F 24)) : ∀ d y, y + d = 24 → wX_combine_37 post (nI r) (nI a) (nI b) (nI k) (d + 1) (nI y) (zr_u u (r * 24) F y) := by
  intro d
  induction d with
  | zero =>
    intro y hy
    obtain rfl : y = 24 := by omega
    exact br_t (nI_le (a := 24) (b := 24) (by omega) (by decide)) (xl_cc _ hr h)
  | succ d ih =>
    intro y hy
    refine br_f (nI_ge (b := 24) (by omega) (by decide)) ?_
    rw [zn_24, zn_24, zn_24, zn_cl (by omega), zn_cl (by omega), zn_cl (by omega), zr_out (by omega), zr_out (by omega)]
    refine ⟨zn_in (by omega) (by decide), zn_in (by omega) (by decide), xl_mix _ _ hk ⟨zn_in (by omega) (by decide), nm_r ?_ (nm_r (nI_1 y) (ih (y + 1) (by omega)))⟩⟩
    rw [← zr_s, hF]
theorem xl_comb {post : Int32 → SX → Prop} {u : Nat → Int32} {r a b k : Nat} (hr : r < 3) (ha : a < 3) (hb : b < 3) (hk : k ≤ 3) {F : Nat → Int32} (hF : F = fun y => xm_mix k (u (a * 24 + y)) (u (b * 24 + y))) (h : post (nI (xc_cc (zr_u u (r * 24) F 24) r)) (zr_u u (r * 24) F 24)) : wpX_combine post u (nI r) (nI a) (nI b) (nI k) := by
  unfold wpX_combine
  refine xl_reg hr (br_f (by decide) (xl_reg ha (br_f (by decide) (xl_reg hb (br_f (by decide) (xl_kind hk (br_f (by decide) ⟨25, ?_⟩)))))))
  have g := xl_comb_l hr ha hb hk hF h 24 0 rfl
  rw [zr_0] at g
  exact g
theorem yl_comb_2 {post : Int32 → SY → Prop} {c w : Nat → Int32} {r : Nat} (hr : r < 3) {G : Nat → Int32} (hw : ∀ i, i < 576 → vp_nar .boolean (w i) = G i) (h : post (nI (ya_ar (zr_u c (r * 576) G 576) r)) (zr_u c (r * 576) G 576, w)) : ∀ d i, i + d = 576 → wY_combine_99 post (nI r) (d + 1) (nI i) (zr_u c (r * 576) G i) w := by
  intro d
  induction d with
  | zero =>
    intro i hi
    obtain rfl : i = 576 := by omega
    exact br_t (nI_le (a := 576) (b := 576) (by omega) (by decide)) (yl_ar _ _ hr h)
  | succ d ih =>
    intro i hi
    refine br_f (nI_ge (b := 576) (by omega) (by decide)) ?_
    rw [zn_576, zn_cl (by omega), nI_clamp (by omega), hw i (by omega)]
    exact ⟨vp_in_nI (by omega) (by decide), zn_in (by omega) (by decide), nm_r (zr_s _ _ _ _) (nm_r (nI_1 i) (ih (i + 1) (by omega)))⟩
theorem yl_comb_1 {post : Int32 → SY → Prop} {c w : Nat → Int32} {r a b k : Nat} (hr : r < 3) (ha : a < 3) (hb : b < 3) (hk : k ≤ 3) {ga gb : Nat → Bool} (hga : ∀ i, i < 576 → c (a * 576 + i) = zb_I (ga i)) (hgb : ∀ i, i < 576 → c (b * 576 + i) = zb_I (gb i)) {G : Nat → Int32} (hG : G = fun i => zb_I (ym_mix k (ga i) (gb i))) (h : post (nI (ya_ar (zr_u c (r * 576) G 576) r)) (zr_u c (r * 576) G 576, zr_u w 0 G 576)) : ∀ d i, i + d = 576 → wY_combine_43 post (nI r) (nI a) (nI b) (nI k) (d + 1) (nI i) c (zr_u w 0 G i) := by
  intro d
  induction d with
  | zero =>
    intro i hi
    obtain rfl : i = 576 := by omega
    refine br_t (nI_le (a := 576) (b := 576) (by omega) (by decide)) ⟨577, ?_⟩
    have g := yl_comb_2 (c := c) (w := zr_u w 0 G 576) hr (G := G) (fun i hi => by rw [zr_in0 hi, hG]; exact zb_nar _) h 576 0 rfl
    rw [zr_0] at g
    exact g
  | succ d ih =>
    intro i hi
    refine br_f (nI_ge (b := 576) (by omega) (by decide)) ?_
    rw [zn_576, zn_576, zn_cl (by omega), zn_cl (by omega), nI_clamp (by omega), hga i (by omega), hgb i (by omega)]
    refine ⟨zn_in (by omega) (by decide), zn_in (by omega) (by decide), yl_mix _ _ hk ⟨vp_in_nI (by omega) (by decide), nm_r ?_ (nm_r (nI_1 i) (ih (i + 1) (by omega)))⟩⟩
    rw [zb_nar, ← zr_s0, hG]
theorem yl_comb {post : Int32 → SY → Prop} {c w : Nat → Int32} {r a b k : Nat} (hr : r < 3) (ha : a < 3) (hb : b < 3) (hk : k ≤ 3) {ga gb : Nat → Bool} (hga : ∀ i, i < 576 → c (a * 576 + i) = zb_I (ga i)) (hgb : ∀ i, i < 576 → c (b * 576 + i) = zb_I (gb i)) {G : Nat → Int32} (hG : G = fun i => zb_I (ym_mix k (ga i) (gb i))) (h : post (nI (ya_ar (zr_u c (r * 576) G 576) r)) (zr_u c (r * 576) G 576, zr_u w 0 G 576)) : wpY_combine post (c, w) (nI r) (nI a) (nI b) (nI k) := by
  unfold wpY_combine
  dsimp only
  refine yl_bad hr (br_t rfl (yl_bad ha (br_t rfl (yl_bad hb (br_t rfl (br_f (nI_pos (by omega)) (br_t (nI_le (b := 3) hk (by decide)) ⟨577, ?_⟩)))))))
  have g := yl_comb_1 (w := w) hr ha hb hk hga hgb hG h 576 0 rfl
  rw [zr_0] at g
  exact g
theorem i_vc_combine {k : Nat} {u : SX} {v : SY} (I : i_Rel k u v) (hk : k + 5 ≤ 2560) (v1 : Int32) (v2 : Int32) (v3 : Int32) (v4 : Int32) : wpX_combine (fun r u' => wpY_combine (fun r' v' => r' = r ∧ i_Rel (k + 5) u' v') v v1 v2 v3 v4) u v1 v2 v3 v4 := by
  obtain ⟨c, w⟩ := v
  obtain ⟨H, C⟩ := I
  have C : zz_C u c := C
  have bad1 : (v1 < 0 ∨ nI 3 ≤ v1) → wpX_combine (fun o u' => wpY_combine (fun r' v' => r' = o ∧ i_Rel (k + 5) u' v') (c, w) v1 v2 v3 v4) u v1 v2 v3 v4 := fun h => by
    unfold wpX_combine wpY_combine
    dsimp only
    exact xl_regN h (br_t rfl (yl_badN h (br_f (by decide) ⟨rfl, H, C⟩)))
  rcases pk_ix v1 (n := 3) (by decide) with h | h | ⟨r, hr, rfl⟩
  · exact bad1 (Or.inl h)
  · exact bad1 (Or.inr h)
  have bad2 : (v2 < 0 ∨ nI 3 ≤ v2) → wpX_combine (fun o u' => wpY_combine (fun r' v' => r' = o ∧ i_Rel (k + 5) u' v') (c, w) (nI r) v2 v3 v4) u (nI r) v2 v3 v4 := fun h => by
    unfold wpX_combine wpY_combine
    dsimp only
    exact xl_reg hr (br_f (by decide) (xl_regN h (br_t rfl (yl_bad hr (br_t rfl (yl_badN h (br_f (by decide) ⟨rfl, H, C⟩)))))))
  rcases pk_ix v2 (n := 3) (by decide) with h | h | ⟨a, ha, rfl⟩
  · exact bad2 (Or.inl h)
  · exact bad2 (Or.inr h)
  have bad3 : (v3 < 0 ∨ nI 3 ≤ v3) → wpX_combine (fun o u' => wpY_combine (fun r' v' => r' = o ∧ i_Rel (k + 5) u' v') (c, w) (nI r) (nI a) v3 v4) u (nI r) (nI a) v3 v4 := fun h => by
    unfold wpX_combine wpY_combine
    dsimp only
    exact xl_reg hr (br_f (by decide) (xl_reg ha (br_f (by decide) (xl_regN h (br_t rfl (yl_bad hr (br_t rfl (yl_bad ha (br_t rfl (yl_badN h (br_f (by decide) ⟨rfl, H, C⟩)))))))))))
  rcases pk_ix v3 (n := 3) (by decide) with h | h | ⟨b, hb, rfl⟩
  · exact bad3 (Or.inl h)
  · exact bad3 (Or.inr h)
  rcases pk_ix v4 (n := 4) (by decide) with h | h | ⟨q, hq, rfl⟩
  · unfold wpX_combine wpY_combine
    dsimp only
    exact xl_reg hr (br_f (by decide) (xl_reg ha (br_f (by decide) (xl_reg hb (br_f (by decide) (xl_kindN (Or.inl h) (br_t rfl (yl_bad hr (br_t rfl (yl_bad ha (br_t rfl (yl_bad hb (br_t rfl (br_t h ⟨rfl, H, C⟩))))))))))))))
  · unfold wpX_combine wpY_combine
    dsimp only
    exact xl_reg hr (br_f (by decide) (xl_reg ha (br_f (by decide) (xl_reg hb (br_f (by decide) (xl_kindN (Or.inr h) (br_t rfl (yl_bad hr (br_t rfl (yl_bad ha (br_t rfl (yl_bad hb (br_t rfl (br_c (fun _ => ⟨rfl, H, C⟩) (fun _ => br_f (zn_nle (n := 3) (by decide) h) ⟨rfl, H, C⟩)))))))))))))))
  · have R := zz_upd hr H C (fun y => xm_mix q (u (a * 24 + y)) (u (b * 24 + y))) (fun i => zb_I (ym_mix q (zz_g u a i) (zz_g u b i))) (by
      intro y hy i hi h32
      show bt (xm_mix _ _ _) i = false
      rw [xm_bt _ _ _ h32, H _ (by omega) i hi, H _ (by omega) i hi]
      match q with
      | 0 => rfl
      | 1 => rfl
      | 2 => rfl
      | _ + 3 => rfl) (by
      intro y x hy hx
      show zb_I (ym_mix _ _ _) = zb_I (bt (xm_mix _ _ _) x)
      rw [xm_bt _ _ _ (by omega), zz_ga u a hx, zz_ga u b hx])
    refine xl_comb hr ha hb (by omega) rfl (yl_comb hr ha hb (by omega) (zz_gc C ha) (zz_gc C hb) rfl ⟨?_, R⟩)
    rw [ya_xc hr R.2]
end
section
/-! invert, area, has, same -/
theorem xl_inv_l {post : Int32 → SX → Prop} {u : Nat → Int32} {r : Nat} (hr : r < 3) {F : Nat → Int32} (hF : F = fun y => u (r * 24 + y) ^^^ 16777215) (h : post (nI (xc_cc (zr_u u (r * 24) F 24) r)) (zr_u u (r * 24) F 24)) : ∀ d y, y + d = 24 → wX_invert_16 post (nI r) (nI (r * 24)) (d + 1) (nI y) (zr_u u (r * 24) F y) := by
  intro d
  induction d with
  | zero =>
    intro y hy
    obtain rfl : y = 24 := by omega
    exact br_t (nI_le (a := 24) (b := 24) (by omega) (by decide)) (xl_cc _ hr h)
  | succ d ih =>
    intro y hy
    refine br_f (nI_ge (b := 24) (by omega) (by decide)) ?_
    rw [zn_cl (by omega), zr_out (by omega)]
    refine ⟨zn_in (by omega) (by decide), zn_in (by omega) (by decide), nm_r ?_ (nm_r (nI_1 y) (ih (y + 1) (by omega)))⟩
    rw [← zr_s, hF]
theorem xl_inv {post : Int32 → SX → Prop} {u : Nat → Int32} {r : Nat} (hr : r < 3) {F : Nat → Int32} (hF : F = fun y => u (r * 24 + y) ^^^ 16777215) (h : post (nI (xc_cc (zr_u u (r * 24) F 24) r)) (zr_u u (r * 24) F 24)) : wpX_invert post u (nI r) := by
  unfold wpX_invert
  refine xl_reg hr (br_f (by decide) (nm_r (zn_24 r) ⟨25, ?_⟩))
  have g := xl_inv_l hr hF h 24 0 rfl
  rw [zr_0] at g
  exact g
theorem yl_inv_l {post : Int32 → SY → Prop} {c w : Nat → Int32} {r : Nat} (hr : r < 3) {g : Nat → Bool} (hg : ∀ i, i < 576 → c (r * 576 + i) = zb_I (g i)) {G : Nat → Int32} (hG : G = fun i => zb_I (!g i)) (h : post (nI (ya_ar (zr_u c (r * 576) G 576) r)) (zr_u c (r * 576) G 576, w)) : ∀ d i, i + d = 576 → wY_invert_12 post (nI r) (d + 1) (nI i) (zr_u c (r * 576) G i) w := by
  intro d
  induction d with
  | zero =>
    intro i hi
    obtain rfl : i = 576 := by omega
    exact br_t (nI_le (a := 576) (b := 576) (by omega) (by decide)) (yl_ar _ _ hr h)
  | succ d ih =>
    intro i hi
    refine br_f (nI_ge (b := 576) (by omega) (by decide)) ?_
    rw [zn_576, zn_cl (by omega), zr_out (by omega), hg i (by omega)]
    refine ⟨zn_in (by omega) (by decide), br_c (fun z => ⟨zn_in (by omega) (by decide), nm_r ?_ (nm_r (nI_1 i) (ih (i + 1) (by omega)))⟩) (fun z => ⟨zn_in (by omega) (by decide), nm_r ?_ (nm_r (nI_1 i) (ih (i + 1) (by omega)))⟩)⟩
    · rw [zb_eq0] at z
      rw [← zr_s, hG]
      dsimp only
      rw [z]
      exact congrArg _ (zb_nar true)
    · rw [zb_eq0, Bool.not_eq_false] at z
      rw [← zr_s, hG]
      dsimp only
      rw [z]
      exact congrArg _ (zb_nar false)
theorem yl_inv {post : Int32 → SY → Prop} {c w : Nat → Int32} {r : Nat} (hr : r < 3) {g : Nat → Bool} (hg : ∀ i, i < 576 → c (r * 576 + i) = zb_I (g i)) {G : Nat → Int32} (hG : G = fun i => zb_I (!g i)) (h : post (nI (ya_ar (zr_u c (r * 576) G 576) r)) (zr_u c (r * 576) G 576, w)) : wpY_invert post (c, w) (nI r) := by
  unfold wpY_invert
  dsimp only
  refine yl_bad hr (br_t rfl ⟨577, ?_⟩)
  have g1 := yl_inv_l hr hg hG h 576 0 rfl
  rw [zr_0] at g1
  exact g1
theorem i_vc_invert {k : Nat} {u : SX} {v : SY} (I : i_Rel k u v) (hk : k + 5 ≤ 2560) (v1 : Int32) : wpX_invert (fun r u' => wpY_invert (fun r' v' => r' = r ∧ i_Rel (k + 5) u' v') v v1) u v1 := by
  obtain ⟨c, w⟩ := v
  obtain ⟨H, C⟩ := I
  have C : zz_C u c := C
  have bad1 : (v1 < 0 ∨ nI 3 ≤ v1) → wpX_invert (fun r u' => wpY_invert (fun r' v' => r' = r ∧ i_Rel (k + 5) u' v') (c, w) v1) u v1 := fun h => by
    unfold wpX_invert wpY_invert
    dsimp only
    exact xl_regN h (br_t rfl (yl_badN h (br_f (by decide) ⟨rfl, H, C⟩)))
  rcases pk_ix v1 (n := 3) (by decide) with h | h | ⟨r, hr, rfl⟩
  · exact bad1 (Or.inl h)
  · exact bad1 (Or.inr h)
  have R := zz_upd hr H C (fun y => u (r * 24 + y) ^^^ 16777215) (fun i => zb_I (!zz_g u r i)) (by
      intro y hy i hi h32
      show bt (_ ^^^ _) i = false
      rw [b_xor, H _ (by omega) i hi, zb_ff i h32, decide_eq_false (by omega : ¬ i < 24)]
      rfl) (by
      intro y x hy hx
      show zb_I (!zz_g u r (y * 24 + x)) = zb_I (bt (_ ^^^ _) x)
      rw [b_xor, zb_ff x (by omega), decide_eq_true hx, zz_ga u r hx, Bool.xor_true])
  refine xl_inv hr rfl (yl_inv hr (zz_gc C hr) rfl ⟨?_, R⟩)
  rw [ya_xc hr R.2]
theorem i_vc_area {k : Nat} {u : SX} {v : SY} (I : i_Rel k u v) (hk : k + 5 ≤ 2560) (v1 : Int32) : wpX_area (fun r => wpY_area (fun r' => r' = r ∧ i_Rel (k + 5) u v) v v1) u v1 := by
  obtain ⟨c, w⟩ := v
  obtain ⟨H, C⟩ := I
  have C : zz_C u c := C
  have bad1 : (v1 < 0 ∨ nI 3 ≤ v1) → wpX_area (fun r => wpY_area (fun r' => r' = r ∧ i_Rel (k + 5) u (c, w)) (c, w) v1) u v1 := fun h => by
    unfold wpX_area wpY_area
    dsimp only
    exact xl_regN h (br_t rfl (yl_badN h (br_f (by decide) ⟨rfl, H, C⟩)))
  rcases pk_ix v1 (n := 3) (by decide) with h | h | ⟨r, hr, rfl⟩
  · exact bad1 (Or.inl h)
  · exact bad1 (Or.inr h)
  unfold wpX_area
  refine xl_reg hr (br_f (by decide) (xl_cc _ hr (yl_ar _ _ hr ⟨?_, H, C⟩)))
  rw [ya_xc hr C]
/-! has -/
theorem xl_scr {post : Int32 → Prop} {k : Nat} (hk : k < 24) (h : post 1) : wpX_isOnScreen post (nI k) := br_f (nI_pos (by omega)) (br_f (nI_ge (b := 24) hk (by decide)) h)
theorem xl_scrN {post : Int32 → Prop} {r : Int32} (hr : r < 0 ∨ nI 24 ≤ r) (h : post 0) : wpX_isOnScreen post r := br_c (fun _ => h) (fun n => br_t (hr.resolve_left n) h)
theorem zn_lt {r : Int32} {n : Nat} (hn : n + 1 < 2 ^ 31) (h : nI (n + 1) ≤ r) : nI n < r := by
  rw [Int32.le_iff_toInt_le, nI_toInt hn] at h
  rw [Int32.lt_iff_toInt_lt, nI_toInt (by omega)]
  omega
theorem yl_has {post : Int32 → Prop} {u c w : Nat → Int32} (C : zz_C u c) {r x y : Nat} (hr : r < 3) (hx : x < 24) (hy : y < 24) (h : post (zb_I (bt (u (r * 24 + y)) x))) : wpY_has post (c, w) (nI r) (nI x) (nI y) := by
  unfold wpY_has
  dsimp only
  refine yl_bad hr (br_t rfl (br_f (nI_pos (by omega)) (br_f (nI_nlt (a := 23) (b := x) (by omega) (by decide)) (br_f (nI_pos (by omega)) (br_t (nI_le (b := 23) (by omega) (by decide)) ?_)))))
  rw [zn_y, nI_clamp (by omega), zz_c C hr hy hx]
  exact ⟨vp_in_nI (by omega) (by decide), zb_nr _, h⟩
theorem yl_hasX {post : Int32 → Prop} {c w : Nat → Int32} {r : Nat} (hr : r < 3) {x y : Int32} (hx : x < 0 ∨ nI 24 ≤ x) (h : post 0) : wpY_has post (c, w) (nI r) x y := by
  unfold wpY_has
  dsimp only
  exact yl_bad hr (br_t rfl (br_c (fun _ => h) (fun n => br_t (zn_lt (n := 23) (by decide) (hx.resolve_left n)) h)))
theorem yl_hasY {post : Int32 → Prop} {c w : Nat → Int32} {r x : Nat} (hr : r < 3) (hx : x < 24) {y : Int32} (hy : y < 0 ∨ nI 24 ≤ y) (h : post 0) : wpY_has post (c, w) (nI r) (nI x) y := by
  unfold wpY_has
  dsimp only
  exact yl_bad hr (br_t rfl (br_f (nI_pos (by omega)) (br_f (nI_nlt (a := 23) (b := x) (by omega) (by decide)) (br_c (fun _ => h) (fun n => br_f (zn_nle (n := 23) (by decide) (hy.resolve_left n)) h)))))
theorem i_vc_has {k : Nat} {u : SX} {v : SY} (I : i_Rel k u v) (hk : k + 5 ≤ 2560) (v1 : Int32) (v2 : Int32) (v3 : Int32) : wpX_has (fun r => wpY_has (fun r' => r' = r ∧ i_Rel (k + 5) u v) v v1 v2 v3) u v1 v2 v3 := by
  obtain ⟨c, w⟩ := v
  obtain ⟨H, C⟩ := I
  have C : zz_C u c := C
  have bad1 : (v1 < 0 ∨ nI 3 ≤ v1) → wpX_has (fun r => wpY_has (fun r' => r' = r ∧ i_Rel (k + 5) u (c, w)) (c, w) v1 v2 v3) u v1 v2 v3 := fun h => by
    unfold wpX_has wpY_has
    dsimp only
    exact xl_regN h (br_t rfl (yl_badN h (br_f (by decide) ⟨rfl, H, C⟩)))
  rcases pk_ix v1 (n := 3) (by decide) with h | h | ⟨r, hr, rfl⟩
  · exact bad1 (Or.inl h)
  · exact bad1 (Or.inr h)
  unfold wpX_has
  refine xl_reg hr (br_f (by decide) ?_)
  have bad2 : (v2 < 0 ∨ nI 24 ≤ v2) → wpY_has (fun r' => r' = 0 ∧ i_Rel (k + 5) u (c, w)) (c, w) (nI r) v2 v3 := fun h => yl_hasX hr h ⟨rfl, H, C⟩
  rcases pk_ix v2 (n := 24) (by decide) with h | h | ⟨x, hx, rfl⟩
  · exact xl_scrN (Or.inl h) (br_t rfl (bad2 (Or.inl h)))
  · exact xl_scrN (Or.inr h) (br_t rfl (bad2 (Or.inr h)))
  refine xl_scr hx (br_f (by decide) ?_)
  have bad3 : (v3 < 0 ∨ nI 24 ≤ v3) → wpY_has (fun r' => r' = 0 ∧ i_Rel (k + 5) u (c, w)) (c, w) (nI r) (nI x) v3 := fun h => yl_hasY hr hx h ⟨rfl, H, C⟩
  rcases pk_ix v3 (n := 24) (by decide) with h | h | ⟨y, hy, rfl⟩
  · exact xl_scrN (Or.inl h) (br_t rfl (bad3 (Or.inl h)))
  · exact xl_scrN (Or.inr h) (br_t rfl (bad3 (Or.inr h)))
  refine xl_scr hy (br_f (by decide) ?_)
  rw [zn_24, zn_cl (by omega), zb_bit _ (by omega)]
  refine ⟨zn_in (by omega) (by decide), br_c (fun z => yl_has C hr hx hy ⟨z, H, C⟩) (fun z => yl_has C hr hx hy ⟨?_, H, C⟩)⟩
  revert z
  cases bt (u (r * 24 + y)) x
  · exact fun _ => rfl
  · exact fun z => absurd rfl z
/-! same -/
theorem xl_same_l {post : Int32 → Prop} {u : Nat → Int32} {a b : Nat} (ha : a < 3) (hb : b < 3) : ∀ d i, i + d = 24 → ((∀ y, i ≤ y → y < 24 → u (a * 24 + y) = u (b * 24 + y)) → post 1) → ((¬ ∀ y, i ≤ y → y < 24 → u (a * 24 + y) = u (b * 24 + y)) → post 0) → wX_same_18 post (nI a) (nI b) u (d + 1) (nI i) := by
  intro d
  induction d with
  | zero =>
    intro i hi h1 h0
    obtain rfl : i = 24 := by omega
    exact br_t (nI_le (a := 24) (b := 24) (by omega) (by decide)) (h1 fun y hy hy2 => by omega)
  | succ d ih =>
    intro i hi h1 h0
    refine br_f (nI_ge (b := 24) (by omega) (by decide)) ?_
    rw [zn_24, zn_24, zn_cl (by omega), zn_cl (by omega)]
    refine ⟨zn_in (by omega) (by decide), zn_in (by omega) (by decide), br_c (fun z => nm_r (nI_1 i) (ih (i + 1) (by omega) (fun g => h1 ?_) (fun g => h0 ?_))) (fun z => h0 ?_)⟩
    · intro y hy hy2
      by_cases e : y = i
      · rw [e]; exact z
      · exact g y (by omega) hy2
    · exact fun q => g fun y hy hy2 => q y (by omega) hy2
    · exact fun q => z (q i (Nat.le_refl i) (by omega))
theorem yl_same_l {post : Int32 → Prop} {c w : Nat → Int32} {a b : Nat} (ha : a < 3) (hb : b < 3) : ∀ d i, i + d = 576 → ((∀ y, i ≤ y → y < 576 → c (a * 576 + y) = c (b * 576 + y)) → post 1) → ((¬ ∀ y, i ≤ y → y < 576 → c (a * 576 + y) = c (b * 576 + y)) → post 0) → wY_same_20 post (nI a) (nI b) c w (d + 1) (nI i) := by
  intro d
  induction d with
  | zero =>
    intro i hi h1 h0
    obtain rfl : i = 576 := by omega
    exact br_t (nI_le (a := 576) (b := 576) (by omega) (by decide)) (h1 fun y hy hy2 => by omega)
  | succ d ih =>
    intro i hi h1 h0
    refine br_f (nI_ge (b := 576) (by omega) (by decide)) ?_
    rw [zn_576, zn_576, zn_cl (by omega), zn_cl (by omega)]
    refine ⟨zn_in (by omega) (by decide), zn_in (by omega) (by decide), br_c (fun z => nm_r (nI_1 i) (ih (i + 1) (by omega) (fun g => h1 ?_) (fun g => h0 ?_))) (fun z => h0 ?_)⟩
    · intro y hy hy2
      by_cases e : y = i
      · rw [e]; exact z
      · exact g y (by omega) hy2
    · exact fun q => g fun y hy hy2 => q y (by omega) hy2
    · exact fun q => z (q i (Nat.le_refl i) (by omega))
/-- two rows are one when their 24 cells are -/
theorem zz_row {u : Nat → Int32} (H : zz_H u) {i j : Nat} (hi : i < 72) (hj : j < 72) (h : ∀ x, x < 24 → bt (u i) x = bt (u j) x) : u i = u j := b_ext fun x _ => by
  by_cases e : x < 24
  · exact h x e
  · rw [H i hi x (by omega), H j hj x (by omega)]
theorem i_vc_same {k : Nat} {u : SX} {v : SY} (I : i_Rel k u v) (hk : k + 5 ≤ 2560) (v1 : Int32) (v2 : Int32) : wpX_same (fun r => wpY_same (fun r' => r' = r ∧ i_Rel (k + 5) u v) v v1 v2) u v1 v2 := by
  obtain ⟨c, w⟩ := v
  obtain ⟨H, C⟩ := I
  have C : zz_C u c := C
  unfold wpX_same wpY_same
  dsimp only
  have bad1 : (v1 < 0 ∨ nI 3 ≤ v1) → wpX_same (fun r => wpY_same (fun r' => r' = r ∧ i_Rel (k + 5) u (c, w)) (c, w) v1 v2) u v1 v2 := fun h => by
    unfold wpX_same wpY_same
    dsimp only
    exact xl_regN h (br_t rfl (yl_badN h (br_f (by decide) ⟨rfl, H, C⟩)))
  rcases pk_ix v1 (n := 3) (by decide) with h | h | ⟨a, ha, rfl⟩
  · exact bad1 (Or.inl h)
  · exact bad1 (Or.inr h)
  refine xl_reg ha (br_f (by decide) ?_)
  rcases pk_ix v2 (n := 3) (by decide) with h | h | ⟨b, hb, rfl⟩
  · exact xl_regN (Or.inl h) (br_t rfl (yl_bad ha (br_t rfl (yl_badN (Or.inl h) (br_f (by decide) ⟨rfl, H, C⟩)))))
  · exact xl_regN (Or.inr h) (br_t rfl (yl_bad ha (br_t rfl (yl_badN (Or.inr h) (br_f (by decide) ⟨rfl, H, C⟩)))))
  have e : (∀ y, 0 ≤ y → y < 24 → u (a * 24 + y) = u (b * 24 + y)) ↔ (∀ y, 0 ≤ y → y < 576 → c (a * 576 + y) = c (b * 576 + y)) := by
    constructor
    · intro g i _ hi
      rw [zz_gc C ha i hi, zz_gc C hb i hi]
      unfold zz_g
      rw [g (i / 24) (Nat.zero_le _) (by omega)]
    · intro g y _ hy
      refine zz_row H (by omega) (by omega) (fun x hx => ?_)
      have q := g (y * 24 + x) (Nat.zero_le _) (by omega)
      rw [zz_c C ha hy hx, zz_c C hb hy hx, zb_inj] at q
      exact q
  refine xl_reg hb (br_f (by decide) ⟨25, xl_same_l ha hb 24 0 rfl (fun g => ?_) (fun g => ?_)⟩)
  · exact yl_bad ha (br_t rfl (yl_bad hb (br_t rfl ⟨577, yl_same_l ha hb 576 0 rfl (fun _ => ⟨rfl, H, C⟩) (fun q => absurd (e.mp g) q)⟩)))
  · exact yl_bad ha (br_t rfl (yl_bad hb (br_t rfl ⟨577, yl_same_l ha hb 576 0 rfl (fun q => absurd (e.mpr q) g) (fun _ => ⟨rfl, H, C⟩)⟩)))
end
section
/-! move -/
theorem zn_sum {x : Nat} (hx : x < 24) (d : Int32) : (0 ≤ (x : Int) + d.toInt ∧ (x : Int) + d.toInt < 24 ∧ nI x + d = nI ((x : Int) + d.toInt).toNat) ∨ (¬ (0 ≤ (x : Int) + d.toInt ∧ (x : Int) + d.toInt < 24) ∧ (nI x + d < 0 ∨ (24 : Int32) ≤ nI x + d)) := by
  have h1 := Int32.le_toInt d
  have h2 := Int32.toInt_lt d
  have e : (nI x + d).toInt = ((x : Int) + d.toInt).bmod (2 ^ 32) := by rw [Int32.toInt_add, nI_toInt (by omega)]
  rw [Int.bmod_def] at e
  have z0 : (0 : Int32).toInt = 0 := by decide
  have z24 : (24 : Int32).toInt = 24 := by decide
  by_cases h : 0 ≤ (x : Int) + d.toInt ∧ (x : Int) + d.toInt < 24
  · refine Or.inl ⟨h.1, h.2, ?_⟩
    apply Int32.toInt_inj.mp
    rw [e, nI_toInt (by omega)]
    split <;> omega
  · refine Or.inr ⟨h, ?_⟩
    rw [Int32.lt_iff_toInt_lt, Int32.le_iff_toInt_le, z0, z24]
    split at e <;> omega
theorem zn_near (x : Int32) : (24 : Int32) ≤ x ∨ ¬ (-24 : Int32) < x ∨ (¬ (24 : Int32) ≤ x ∧ (-24 : Int32) < x ∧ ((∃ d, d < 24 ∧ x = nI d ∧ x.toInt = (d : Int)) ∨ (∃ d, 0 < d ∧ d < 24 ∧ x = -nI d ∧ x.toInt = -(d : Int)))) := by
  by_cases h1 : (24 : Int32) ≤ x
  · exact Or.inl h1
  by_cases h2 : (-24 : Int32) < x
  · refine Or.inr (Or.inr ⟨h1, h2, ?_⟩)
    rw [Int32.le_iff_toInt_le] at h1
    rw [Int32.lt_iff_toInt_lt] at h2
    have z24 : (24 : Int32).toInt = 24 := by decide
    have y24 : (-24 : Int32).toInt = -24 := by decide
    by_cases h0 : 0 ≤ x.toInt
    · refine Or.inl ⟨x.toInt.toNat, by omega, ?_, by omega⟩
      apply Int32.toInt_inj.mp
      rw [nI_toInt (by omega)]
      omega
    · refine Or.inr ⟨(-x.toInt).toNat, by omega, by omega, ?_, by omega⟩
      apply Int32.toInt_inj.mp
      rw [Int32.toInt_neg, nI_toInt (by omega), Int.bmod_eq_of_le (by omega) (by omega)]
      omega
  · exact Or.inr (Or.inl h2)
theorem xl_far {post : Int32 → Prop} {x : Int32} (h : (24 : Int32) ≤ x ∨ ¬ (-24 : Int32) < x) (p : post 1) : wpX_isFar post x := br_c (fun _ => p) (fun n => br_f (h.resolve_left n) p)
theorem xl_nfar {post : Int32 → Prop} {x : Int32} (h1 : ¬ (24 : Int32) ≤ x) (h2 : (-24 : Int32) < x) (p : post 0) : wpX_isFar post x := br_f h1 (br_t h2 p)
theorem xl_clear_l {post : SX → Prop} {u : Nat → Int32} {r : Nat} (hr : r < 3) (h : post (zr_u u (r * 24) (fun _ => 0) 24)) : ∀ d y, y + d = 24 → wX_clear_2 post (nI r) (d + 1) (nI y) (zr_u u (r * 24) (fun _ => 0) y) := by
  intro d
  induction d with
  | zero =>
    intro y hy
    obtain rfl : y = 24 := by omega
    exact br_t (nI_le (a := 24) (b := 24) (by omega) (by decide)) h
  | succ d ih =>
    intro y hy
    refine br_f (nI_ge (b := 24) (by omega) (by decide)) ?_
    rw [zn_24, zn_cl (by omega)]
    exact ⟨zn_in (by omega) (by decide), nm_r (zr_s _ _ (fun _ => 0) _) (nm_r (nI_1 y) (ih (y + 1) (by omega)))⟩
theorem xl_clear {post : SX → Prop} {u : Nat → Int32} {r : Nat} (hr : r < 3) (h : post (zr_u u (r * 24) (fun _ => 0) 24)) : wpX_clear post u (nI r) := by
  have g := xl_clear_l hr h 24 0 rfl
  rw [zr_0] at g
  exact ⟨25, g⟩
def xs_a (dx row : Int32) : Int32 := if dx < 0 then row >>> ((-dx) &&& 31) else (row <<< (dx &&& 31)) &&& 16777215
theorem xl_sa_l {post : SX → Prop} {u : Nat → Int32} {r : Nat} (hr : r < 3) (dx : Int32) {F : Nat → Int32} (hF : F = fun y => xs_a dx (u (r * 24 + y))) (h : post (zr_u u (r * 24) F 24)) : ∀ d y, y + d = 24 → wX_shiftAcross_8 post dx (nI (r * 24)) (d + 1) (nI y) (zr_u u (r * 24) F y) := by
  intro d
  induction d with
  | zero =>
    intro y hy
    obtain rfl : y = 24 := by omega
    exact br_t (nI_le (a := 24) (b := 24) (by omega) (by decide)) h
  | succ d ih =>
    intro y hy
    refine br_f (nI_ge (b := 24) (by omega) (by decide)) ?_
    rw [zn_cl (by omega), zr_out (by omega)]
    refine ⟨zn_in (by omega) (by decide), nm_e (br_c (fun z => ⟨zn_in (by omega) (by decide), nm_r ?_ (nm_r (nI_1 y) (ih (y + 1) (by omega)))⟩) (fun z => ⟨zn_in (by omega) (by decide), nm_r ?_ (nm_r (nI_1 y) (ih (y + 1) (by omega)))⟩))⟩
    · rw [← zr_s, hF]
      dsimp only
      unfold xs_a
      rw [if_pos z]
    · rw [← zr_s, hF]
      dsimp only
      unfold xs_a
      rw [if_neg z]
theorem xl_sa {post : SX → Prop} {u : Nat → Int32} {r : Nat} (hr : r < 3) (dx : Int32) {F : Nat → Int32} (hF : F = fun y => xs_a dx (u (r * 24 + y))) (h : post (zr_u u (r * 24) F 24)) : wpX_shiftAcross post u (nI r) dx := by
  have g := xl_sa_l hr dx hF h 24 0 rfl
  rw [zr_0] at g
  exact nm_r (zn_24 r) ⟨25, g⟩
theorem xl_sd29 {post : SX → Prop} {J : Int32 → (Nat → Int32) → Prop} {a : Nat → Int32} {b y s : Nat} {x2 v : Int32} (hb : b + 24 ≤ 72) (hy : y < 24) (e : (∃ f, f < 24 ∧ nI y - x2 = nI f ∧ v = a (b + f)) ∨ ((nI y - x2 < 0 ∨ nI 24 ≤ nI y - x2) ∧ v = 0)) (h : J (nI (s + 1)) (upd a (b + y) v)) : wX_shiftDown_29 post J x2 (nI b) (nI s) (nI y) a := by
  rcases e with ⟨f, hf, e, rfl⟩ | ⟨e, rfl⟩
  · refine nm_r e (xl_scr hf (br_f (by decide) ?_))
    rw [zn_cl (by omega), zn_cl (by omega)]
    exact ⟨zn_in (by omega) (by decide), zn_in (by omega) (by decide), nm_e (nm_r (nI_1 s) h)⟩
  · refine nm_e (xl_scrN e (br_t rfl ?_))
    rw [zn_cl (by omega)]
    exact ⟨zn_in (by omega) (by decide), nm_e (nm_r (nI_1 s) h)⟩
/-- row y of the region at b, dl rows further up -/
def xs_d (u : Nat → Int32) (b : Nat) (dl : Int) (y : Nat) : Int32 := if 0 ≤ (y : Int) - dl ∧ (y : Int) - dl < 24 then u (b + ((y : Int) - dl).toNat) else 0
theorem xl_sdN_l {post : SX → Prop} {u : Nat → Int32} {b e : Nat} (hb : b + 24 ≤ 72) (he0 : 0 < e) (he : e < 24) {F : Nat → Int32} (hF : F = xs_d u b (-(e : Int))) (h : post (zr_u u b F 24)) : ∀ d y, y + d = 24 → wX_shiftDown_8 post (-nI e) (nI b) (d + 1) (nI y) (zr_u u b F y) := by
  have hn : -nI e < 0 := by
    rw [Int32.lt_iff_toInt_lt, Int32.toInt_neg, nI_toInt (by omega), Int.bmod_eq_of_le (by omega) (by omega), show (0 : Int32).toInt = 0 from by decide]
    omega
  intro d
  induction d with
  | zero =>
    intro y hy
    obtain rfl : y = 24 := by omega
    exact br_t (nI_le (a := 24) (b := 24) (by omega) (by decide)) h
  | succ d ih =>
    intro y hy
    have g := ih (y + 1) (by omega)
    rw [← zr_s] at g
    refine br_f (nI_ge (b := 24) (by omega) (by decide)) (br_t hn (xl_sd29 (v := F y) hb (by omega) ?_ g))
    have e6 : nI y - -nI e = nI (y + e) := by
      rw [← nI_add]
      grind
    rw [e6]
    by_cases z : y + e < 24
    · refine Or.inl ⟨y + e, z, rfl, ?_⟩
      rw [zr_out (by omega), hF]
      unfold xs_d
      rw [if_pos (by omega)]
      exact congrArg u (by omega)
    · refine Or.inr ⟨Or.inr (nI_le (by omega) (by omega)), ?_⟩
      rw [hF]
      exact if_neg (by omega)
/-- the rows of F from the last one on, s of them -/
def xs_r (u : Nat → Int32) (b : Nat) (F : Nat → Int32) (s : Nat) : Nat → Int32 := fun j => if b + 24 - s ≤ j ∧ j < b + 24 then F (j - b) else u j
theorem xs_r0 (u : Nat → Int32) (b : Nat) (F : Nat → Int32) : xs_r u b F 0 = u := funext fun j => if_neg (by omega)
theorem xs_r24 (u : Nat → Int32) (b : Nat) (F : Nat → Int32) : xs_r u b F 24 = zr_u u b F 24 := funext fun j => by
  unfold xs_r zr_u
  by_cases h : b ≤ j ∧ j < b + 24
  · rw [if_pos h, if_pos (by omega)]
  · rw [if_neg h, if_neg (by omega)]
theorem xs_rs (u : Nat → Int32) (b : Nat) (F : Nat → Int32) {s : Nat} (hs : s < 24) : upd (xs_r u b F s) (b + (23 - s)) (F (23 - s)) = xs_r u b F (s + 1) := by
  funext j
  by_cases h : j = b + (23 - s)
  · subst h
    rw [pk_us]
    unfold xs_r
    rw [if_pos (by omega)]
    exact congrArg F (by omega)
  · rw [pk_un h]
    unfold xs_r
    by_cases h2 : b + 24 - s ≤ j ∧ j < b + 24
    · rw [if_pos h2, if_pos (by omega)]
    · rw [if_neg h2, if_neg (by omega)]
theorem xl_sdP_l {post : SX → Prop} {u : Nat → Int32} {b e : Nat} (hb : b + 24 ≤ 72) (he : e < 24) {F : Nat → Int32} (hF : F = xs_d u b (e : Int)) (h : post (xs_r u b F 24)) : ∀ d y, y + d = 24 → wX_shiftDown_8 post (nI e) (nI b) (d + 1) (nI y) (xs_r u b F y) := by
  intro d
  induction d with
  | zero =>
    intro y hy
    obtain rfl : y = 24 := by omega
    exact br_t (nI_le (a := 24) (b := 24) (by omega) (by decide)) h
  | succ d ih =>
    intro y hy
    have g := ih (y + 1) (by omega)
    rw [← xs_rs u b F (by omega)] at g
    refine br_f (nI_ge (b := 24) (by omega) (by decide)) (br_f (nI_pos (by omega)) ?_)
    rw [show (23 : Int32) - nI y = nI (23 - y) from pk_sub (a := 23) (by omega)]
    refine xl_sd29 (v := F (23 - y)) hb (by omega) ?_ g
    by_cases z : e ≤ 23 - y
    · refine Or.inl ⟨23 - y - e, by omega, pk_sub z, ?_⟩
      unfold xs_r
      rw [if_neg (by omega), hF]
      unfold xs_d
      rw [if_pos (by omega)]
      exact congrArg u (by omega)
    · refine Or.inr ⟨Or.inl (pk_sneg (by omega) (by omega)), ?_⟩
      rw [hF]
      exact if_neg (by omega)
theorem xl_sd {post : SX → Prop} {u : Nat → Int32} {r : Nat} (hr : r < 3) {dy : Int32} (hd : (∃ d, d < 24 ∧ dy = nI d ∧ dy.toInt = (d : Int)) ∨ (∃ d, 0 < d ∧ d < 24 ∧ dy = -nI d ∧ dy.toInt = -(d : Int))) (h : post (zr_u u (r * 24) (xs_d u (r * 24) dy.toInt) 24)) : wpX_shiftDown post u (nI r) dy := by
  rcases hd with ⟨e, he, e1, e2⟩ | ⟨e, he0, he, e1, e2⟩
  · rw [e2, ← xs_r24] at h
    have g := xl_sdP_l (by omega) he rfl h 24 0 rfl
    rw [xs_r0, ← e1] at g
    exact nm_r (zn_24 r) ⟨25, g⟩
  · rw [e2] at h
    have g := xl_sdN_l (by omega) he0 he rfl h 24 0 rfl
    rw [zr_0, ← e1] at g
    exact nm_r (zn_24 r) ⟨25, g⟩
theorem zr_zr (u : Nat → Int32) (b : Nat) (F G : Nat → Int32) (i : Nat) : zr_u (zr_u u b F i) b G i = zr_u u b G i := by
  funext j
  by_cases h : b ≤ j ∧ j < b + i
  · rw [zr_at h, zr_at h]
  · rw [zr_out (by omega), zr_out (by omega), zr_out (by omega)]
/-- the bits of a row that was shifted across -/
theorem xs_abt {dx row : Int32} (hd : (∃ d, d < 24 ∧ dx = nI d ∧ dx.toInt = (d : Int)) ∨ (∃ d, 0 < d ∧ d < 24 ∧ dx = -nI d ∧ dx.toInt = -(d : Int))) (hrow : ∀ i, 24 ≤ i → bt row i = false) {x : Nat} (hx : x < 32) : bt (xs_a dx row) x = (decide (x < 24 ∧ 0 ≤ (x : Int) - dx.toInt ∧ (x : Int) - dx.toInt < 24) && bt row ((x : Int) - dx.toInt).toNat) := by
  unfold xs_a
  rcases hd with ⟨e, he, e1, e2⟩ | ⟨e, he0, he, e1, e2⟩
  · rw [e2, e1, if_neg (nI_pos (by omega)), b_and, b_shl e (by omega) _ hx, zb_ff x hx]
    by_cases z : x < 24 ∧ e ≤ x
    · rw [decide_eq_true z.1, decide_eq_true z.2, decide_eq_true (by omega), show ((x : Int) - (e : Int)).toNat = x - e by omega, Bool.and_true]
    · rw [decide_eq_false (by omega : ¬ (x < 24 ∧ 0 ≤ (x : Int) - (e : Int) ∧ (x : Int) - (e : Int) < 24)), Bool.false_and]
      by_cases z1 : x < 24
      · rw [decide_eq_false (by omega : ¬ e ≤ x), Bool.false_and, Bool.false_and]
      · rw [decide_eq_false z1, Bool.and_false]
  · have hn : -nI e < 0 := by
      rw [Int32.lt_iff_toInt_lt, Int32.toInt_neg, nI_toInt (by omega), Int.bmod_eq_of_le (by omega) (by omega), show (0 : Int32).toInt = 0 from by decide]
      omega
    have hnn : - -nI e = nI e := by grind
    rw [e2, e1, if_pos hn, hnn, b_sshr e (by omega) _ hx]
    by_cases z : x < 24 ∧ e + x < 24
    · rw [if_pos (by omega), decide_eq_true (by omega), show ((x : Int) - -(e : Int)).toNat = e + x by omega, Bool.true_and]
    · rw [decide_eq_false (by omega), Bool.false_and]
      by_cases z1 : e + x < 32
      · rw [if_pos z1]
        exact hrow _ (by omega)
      · rw [if_neg z1]
        exact hrow _ (by omega)
/-! the reference's move: what stands at q once the cells below p were carried over -/
def ym_S (g : Nat → Bool) (dx dy : Int) (p : Nat) (q : Nat) : Bool := decide (0 ≤ ((q % 24 : Nat) : Int) - dx ∧ ((q % 24 : Nat) : Int) - dx < 24 ∧ 0 ≤ ((q / 24 : Nat) : Int) - dy ∧ ((q / 24 : Nat) : Int) - dy < 24 ∧ (((q / 24 : Nat) : Int) - dy) * 24 + (((q % 24 : Nat) : Int) - dx) < (p : Int)) && g ((((q / 24 : Nat) : Int) - dy) * 24 + (((q % 24 : Nat) : Int) - dx)).toNat
theorem ym_S0 (g : Nat → Bool) (dx dy : Int) (q : Nat) : ym_S g dx dy 0 q = false := by
  unfold ym_S
  rw [decide_eq_false (by omega), Bool.false_and]
theorem ym_Sn {g : Nat → Bool} {dx dy : Int} {y x q : Nat} (hx : x < 24) (h : ¬ ((0 ≤ (x : Int) + dx ∧ (x : Int) + dx < 24) ∧ (0 ≤ (y : Int) + dy ∧ (y : Int) + dy < 24)) ∨ (q : Int) ≠ ((y : Int) + dy) * 24 + ((x : Int) + dx)) (hq : q < 576) : ym_S g dx dy (y * 24 + x + 1) q = ym_S g dx dy (y * 24 + x) q := by
  unfold ym_S
  refine congrArg (fun b => b && g _) (decide_eq_decide.mpr ?_)
  omega
theorem ym_Ss {g : Nat → Bool} {dx dy : Int} {y x q : Nat} (hx : x < 24) (hy : y < 24) (hX : 0 ≤ (x : Int) + dx ∧ (x : Int) + dx < 24) (hY : 0 ≤ (y : Int) + dy ∧ (y : Int) + dy < 24) (hq : (q : Int) = ((y : Int) + dy) * 24 + ((x : Int) + dx)) : ym_S g dx dy (y * 24 + x + 1) q = g (y * 24 + x) := by
  unfold ym_S
  have e1 : ((q % 24 : Nat) : Int) - dx = x := by omega
  have e2 : ((q / 24 : Nat) : Int) - dy = y := by omega
  rw [e1, e2, decide_eq_true (by omega), Bool.true_and]
  exact congrArg g (by omega)
theorem yl_mv_3 {post : Int32 → SY → Prop} {c w : Nat → Int32} {r : Nat} (hr : r < 3) {G : Nat → Int32} (hw : ∀ i, i < 576 → vp_nar .boolean (w i) = G i) (h : post (nI (ya_ar (zr_u c (r * 576) G 576) r)) (zr_u c (r * 576) G 576, w)) : ∀ d i, i + d = 576 → wY_move_138 post (nI r) (d + 1) (nI i) (zr_u c (r * 576) G i) w := by
  intro d
  induction d with
  | zero =>
    intro i hi
    obtain rfl : i = 576 := by omega
    exact br_t (nI_le (a := 576) (b := 576) (by omega) (by decide)) (yl_ar _ _ hr h)
  | succ d ih =>
    intro i hi
    refine br_f (nI_ge (b := 576) (by omega) (by decide)) ?_
    rw [zn_576, zn_cl (by omega), nI_clamp (by omega), hw i (by omega)]
    exact ⟨vp_in_nI (by omega) (by decide), zn_in (by omega) (by decide), nm_r (zr_s _ _ _ _) (nm_r (nI_1 i) (ih (i + 1) (by omega)))⟩
theorem yl_mv_2i {post : Int32 → SY → Prop} {J : Int32 → (Nat → Int32) → (Nat → Int32) → Prop} {c : Nat → Int32} {r : Nat} (hr : r < 3) (dx dy : Int32) {g : Nat → Bool} (hg : ∀ i, i < 576 → c (r * 576 + i) = zb_I (g i)) {y : Nat} (hy : y < 24) (hJ : ∀ w, (∀ q, q < 576 → w q = zb_I (ym_S g dx.toInt dy.toInt (y * 24 + 24) q)) → J (nI (y + 1)) c w) : ∀ d x w, x + d = 24 → (∀ q, q < 576 → w q = zb_I (ym_S g dx.toInt dy.toInt (y * 24 + x) q)) → wY_move_48 post J (nI r) dx dy (nI y) (d + 1) (nI x) c w := by
  intro d
  induction d with
  | zero =>
    intro x w hx hw
    obtain rfl : x = 24 := by omega
    exact br_t (nI_le (a := 24) (b := 24) (by omega) (by decide)) (nm_r (nI_1 y) (hJ w hw))
  | succ d ih =>
    intro x w hx hw
    refine br_f (nI_ge (b := 24) (by omega) (by decide)) ?_
    have skip : ¬ ((0 ≤ (x : Int) + dx.toInt ∧ (x : Int) + dx.toInt < 24) ∧ (0 ≤ (y : Int) + dy.toInt ∧ (y : Int) + dy.toInt < 24)) → ∀ x5 : Int32, x5 = nI x + 1 → wY_move_48 post J (nI r) dx dy (nI y) (d + 1) x5 c w := fun z => nm_r (nI_1 x) (ih (x + 1) w (by omega) (fun q hq => by
      rw [← Nat.add_assoc, ym_Sn (by omega) (Or.inl z) hq]
      exact hw q hq))
    rcases zn_sum (x := x) (by omega) dx with ⟨u1, u2, eU⟩ | ⟨un, hu⟩
    · rcases zn_sum (x := y) (by omega) dy with ⟨v1, v2, eV⟩ | ⟨vn, hv⟩
      · refine nm_r eU (nm_r eV (br_f (nI_pos (by omega)) (br_f (nI_ge (b := 24) (by omega) (by decide)) (br_f (nI_pos (by omega)) (br_f (nI_ge (b := 24) (by omega) (by decide)) ?_)))))
        rw [zn_y, nI_clamp (by omega), hg _ (by omega), zb_nar, zn_24, zn_cl (by omega)]
        refine ⟨vp_in_nI (by omega) (by decide), zn_in (by omega) (by decide), nm_e (nm_r (nI_1 x) (ih (x + 1) _ (by omega) ?_))⟩
        intro q hq
        rw [← Nat.add_assoc]
        by_cases z : q = ((y : Int) + dy.toInt).toNat * 24 + ((x : Int) + dx.toInt).toNat
        · rw [← z, pk_us, ym_Ss (by omega) hy ⟨u1, u2⟩ ⟨v1, v2⟩ (by omega)]
        · rw [pk_un z, ym_Sn (by omega) (Or.inr (by omega)) hq]
          exact hw q hq
      · have N := skip (fun z => vn z.2)
        exact nm_r eU (nm_e (br_f (nI_pos (by omega)) (br_f (nI_ge (b := 24) (by omega) (by decide)) (br_c (fun _ => N) (fun z => br_t (hv.resolve_left z) N)))))
    · have N := skip (fun z => un z.1)
      exact nm_e (nm_e (br_c (fun _ => N) (fun z => br_t (hu.resolve_left z) N)))
theorem yl_mv_2 {post : Int32 → SY → Prop} {c : Nat → Int32} {r : Nat} (hr : r < 3) (dx dy : Int32) {g : Nat → Bool} (hg : ∀ i, i < 576 → c (r * 576 + i) = zb_I (g i)) {G : Nat → Int32} (hG : G = fun q => zb_I (ym_S g dx.toInt dy.toInt 576 q)) (h : ∀ w, post (nI (ya_ar (zr_u c (r * 576) G 576) r)) (zr_u c (r * 576) G 576, w)) : ∀ d y w, y + d = 24 → (∀ q, q < 576 → w q = zb_I (ym_S g dx.toInt dy.toInt (y * 24) q)) → wY_move_38 post (nI r) dx dy (d + 1) (nI y) c w := by
  intro d
  induction d with
  | zero =>
    intro y w hy hw
    obtain rfl : y = 24 := by omega
    refine br_t (nI_le (a := 24) (b := 24) (by omega) (by decide)) ⟨577, ?_⟩
    have g1 := yl_mv_3 (c := c) (w := w) hr (G := G) (fun i hi => by rw [hw i hi, zb_nar, hG]) (h w) 576 0 rfl
    rw [zr_0] at g1
    exact g1
  | succ d ih =>
    intro y w hy hw
    exact br_f (nI_ge (b := 24) (by omega) (by decide)) ⟨25, yl_mv_2i hr dx dy hg (by omega) (fun w' hw' => ih (y + 1) w' (by omega) (by rw [Nat.succ_mul]; exact hw')) 24 0 w rfl hw⟩
theorem yl_mv_1 {post : Int32 → SY → Prop} {c : Nat → Int32} {r : Nat} (hr : r < 3) (dx dy : Int32) {g : Nat → Bool} (hg : ∀ i, i < 576 → c (r * 576 + i) = zb_I (g i)) {G : Nat → Int32} (hG : G = fun q => zb_I (ym_S g dx.toInt dy.toInt 576 q)) (h : ∀ w, post (nI (ya_ar (zr_u c (r * 576) G 576) r)) (zr_u c (r * 576) G 576, w)) : ∀ d i w, i + d = 576 → (∀ q, q < i → w q = 0) → wY_move_13 post (nI r) dx dy (d + 1) (nI i) c w := by
  intro d
  induction d with
  | zero =>
    intro i w hi hw
    obtain rfl : i = 576 := by omega
    refine br_t (nI_le (a := 576) (b := 576) (by omega) (by decide)) ⟨25, yl_mv_2 hr dx dy hg hG h 24 0 w rfl (fun q hq => ?_)⟩
    rw [Nat.zero_mul, ym_S0, hw q hq]
    rfl
  | succ d ih =>
    intro i w hi hw
    refine br_f (nI_ge (b := 576) (by omega) (by decide)) ?_
    rw [nI_clamp (by omega)]
    refine ⟨vp_in_nI (by omega) (by decide), nm_e (nm_r (nI_1 i) (ih (i + 1) _ (by omega) (fun q hq => ?_)))⟩
    by_cases z : q = i
    · rw [z, pk_us]
      exact zb_nar false
    · rw [pk_un z]
      exact hw q (by omega)
theorem yl_mv {post : Int32 → SY → Prop} {c w : Nat → Int32} {r : Nat} (hr : r < 3) (dx dy : Int32) {g : Nat → Bool} (hg : ∀ i, i < 576 → c (r * 576 + i) = zb_I (g i)) {G : Nat → Int32} (hG : G = fun q => zb_I (ym_S g dx.toInt dy.toInt 576 q)) (h : ∀ w, post (nI (ya_ar (zr_u c (r * 576) G 576) r)) (zr_u c (r * 576) G 576, w)) : wpY_move post (c, w) (nI r) dx dy := by
  unfold wpY_move
  dsimp only
  exact yl_bad hr (br_t rfl ⟨577, yl_mv_1 hr dx dy hg hG h 576 0 w rfl (fun q hq => absurd hq (Nat.not_lt_zero q))⟩)
end
section
/-! move, both sides -/
theorem zv_in {y x : Nat} (g : Nat → Bool) (dx dy : Int) (hx : x < 24) : ym_S g dx dy 576 (y * 24 + x) = (decide (0 ≤ (x : Int) - dx ∧ (x : Int) - dx < 24 ∧ 0 ≤ (y : Int) - dy ∧ (y : Int) - dy < 24) && g (((y : Int) - dy).toNat * 24 + ((x : Int) - dx).toNat)) := by
  unfold ym_S
  rw [show (y * 24 + x) % 24 = x by omega, show (y * 24 + x) / 24 = y by omega]
  by_cases h : 0 ≤ (x : Int) - dx ∧ (x : Int) - dx < 24 ∧ 0 ≤ (y : Int) - dy ∧ (y : Int) - dy < 24
  · rw [decide_eq_true h, decide_eq_true (by omega), Bool.true_and, Bool.true_and]
    exact congrArg g (by omega)
  · rw [decide_eq_false h, decide_eq_false (by omega), Bool.false_and, Bool.false_and]
theorem zv_far {u c w : Nat → Int32} {r k : Nat} (hr : r < 3) (H : zz_H u) (C : zz_C u c) (dx dy : Int32) (h : ∀ y x : Nat, y < 24 → x < 24 → ¬ (0 ≤ (x : Int) - dx.toInt ∧ (x : Int) - dx.toInt < 24 ∧ 0 ≤ (y : Int) - dy.toInt ∧ (y : Int) - dy.toInt < 24)) : wX_move_23 (fun r' u' => wpY_move (fun r'' v' => r'' = r' ∧ i_Rel (k + 5) u' v') (c, w) (nI r) dx dy) (nI r) u := by
  have R := zz_upd hr H C (fun _ => 0) (fun q => zb_I (ym_S (zz_g u r) dx.toInt dy.toInt 576 q)) (fun y hy i hi h32 => b_0 i) (by
    intro y x hy hx
    rw [zv_in _ _ _ hx, decide_eq_false (h y x hy hx), Bool.false_and, b_0])
  refine xl_clear hr (yl_mv hr dx dy (zz_gc C hr) rfl (fun w' => ⟨?_, R⟩))
  rw [ya_xc hr R.2]
  have e : xc_cc (zr_u u (r * 24) (fun _ => 0) 24) r = 0 := by
    unfold xc_cc
    refine (zs_zero 24).mpr (fun y hy => (zs_zero 24).mpr (fun x hx => ?_))
    rw [zr_in hy, b_0]
    rfl
  rw [e]
  exact nI_0
theorem zv_near {u c w : Nat → Int32} {r k : Nat} (hr : r < 3) (H : zz_H u) (C : zz_C u c) (dx dy : Int32) (hx : (∃ d, d < 24 ∧ dx = nI d ∧ dx.toInt = (d : Int)) ∨ (∃ d, 0 < d ∧ d < 24 ∧ dx = -nI d ∧ dx.toInt = -(d : Int))) (hy : (∃ d, d < 24 ∧ dy = nI d ∧ dy.toInt = (d : Int)) ∨ (∃ d, 0 < d ∧ d < 24 ∧ dy = -nI d ∧ dy.toInt = -(d : Int))) : wpX_shiftAcross (fun a_rows_10 => (wpX_shiftDown (fun a_rows_12 => (wpX_cellCount (fun r_13 => ((fun r' u' => wpY_move (fun r'' v' => r'' = r' ∧ i_Rel (k + 5) u' v') (c, w) (nI r) dx dy) r_13 a_rows_12)) a_rows_12 (nI r))) a_rows_10 (nI r) dy)) u (nI r) dx := by
  have e : ∀ y, xs_d (zr_u u (r * 24) (fun y => xs_a dx (u (r * 24 + y))) 24) (r * 24) dy.toInt y = if 0 ≤ (y : Int) - dy.toInt ∧ (y : Int) - dy.toInt < 24 then xs_a dx (u (r * 24 + ((y : Int) - dy.toInt).toNat)) else 0 := by
    intro y
    unfold xs_d
    by_cases h : 0 ≤ (y : Int) - dy.toInt ∧ (y : Int) - dy.toInt < 24
    · rw [if_pos h, if_pos h, zr_in (by omega)]
    · rw [if_neg h, if_neg h]
  have R := zz_upd hr H C (xs_d (zr_u u (r * 24) (fun y => xs_a dx (u (r * 24 + y))) 24) (r * 24) dy.toInt) (fun q => zb_I (ym_S (zz_g u r) dx.toInt dy.toInt 576 q)) (by
    intro y hy1 i hi h32
    rw [e y]
    by_cases h : 0 ≤ (y : Int) - dy.toInt ∧ (y : Int) - dy.toInt < 24
    · rw [if_pos h, xs_abt hx (H _ (by omega)) h32, decide_eq_false (by omega), Bool.false_and]
    · rw [if_neg h, b_0]) (by
    intro y x hy1 hx1
    rw [zv_in _ _ _ hx1, e y]
    by_cases h : 0 ≤ (y : Int) - dy.toInt ∧ (y : Int) - dy.toInt < 24
    · rw [if_pos h, xs_abt hx (H _ (by omega)) (by omega)]
      by_cases h2 : 0 ≤ (x : Int) - dx.toInt ∧ (x : Int) - dx.toInt < 24
      · rw [decide_eq_true (by omega), decide_eq_true (by omega), zz_ga u r (by omega)]
      · rw [decide_eq_false (by omega), decide_eq_false (by omega), Bool.false_and, Bool.false_and]
    · rw [if_neg h, b_0, decide_eq_false (by omega), Bool.false_and])
  refine xl_sa hr dx rfl (xl_sd hr hy ?_)
  rw [zr_zr]
  refine xl_cc _ hr (yl_mv hr dx dy (zz_gc C hr) rfl (fun w' => ⟨?_, R⟩))
  rw [ya_xc hr R.2]
theorem i_vc_move {k : Nat} {u : SX} {v : SY} (I : i_Rel k u v) (hk : k + 5 ≤ 2560) (v1 : Int32) (v2 : Int32) (v3 : Int32) : wpX_move (fun r u' => wpY_move (fun r' v' => r' = r ∧ i_Rel (k + 5) u' v') v v1 v2 v3) u v1 v2 v3 := by
  obtain ⟨c, w⟩ := v
  obtain ⟨H, C⟩ := I
  have C : zz_C u c := C
  have bad1 : (v1 < 0 ∨ nI 3 ≤ v1) → wpX_move (fun r u' => wpY_move (fun r' v' => r' = r ∧ i_Rel (k + 5) u' v') (c, w) v1 v2 v3) u v1 v2 v3 := fun h => by
    unfold wpX_move wpY_move
    dsimp only
    exact xl_regN h (br_t rfl (yl_badN h (br_f (by decide) ⟨rfl, H, C⟩)))
  rcases pk_ix v1 (n := 3) (by decide) with h | h | ⟨r, hr, rfl⟩
  · exact bad1 (Or.inl h)
  · exact bad1 (Or.inr h)
  have far2 : (24 : Int32) ≤ v2 ∨ ¬ (-24 : Int32) < v2 → v2.toInt ≤ -24 ∨ 24 ≤ v2.toInt := fun h => by
    rw [Int32.le_iff_toInt_le, Int32.lt_iff_toInt_lt, show (24 : Int32).toInt = 24 from by decide, show (-24 : Int32).toInt = -24 from by decide] at h
    omega
  have far3 : (24 : Int32) ≤ v3 ∨ ¬ (-24 : Int32) < v3 → v3.toInt ≤ -24 ∨ 24 ≤ v3.toInt := fun h => by
    rw [Int32.le_iff_toInt_le, Int32.lt_iff_toInt_lt, show (24 : Int32).toInt = 24 from by decide, show (-24 : Int32).toInt = -24 from by decide] at h
    omega
  unfold wpX_move
  refine xl_reg hr (br_f (by decide) ?_)
  have F2 : ((24 : Int32) ≤ v2 ∨ ¬ (-24 : Int32) < v2) → wX_move_23 (fun r' u' => wpY_move (fun r'' v' => r'' = r' ∧ i_Rel (k + 5) u' v') (c, w) (nI r) v2 v3) (nI r) u := fun h => zv_far hr H C v2 v3 (fun y x hy hx => by
    have := far2 h
    omega)
  have F3 : ((24 : Int32) ≤ v3 ∨ ¬ (-24 : Int32) < v3) → wX_move_23 (fun r' u' => wpY_move (fun r'' v' => r'' = r' ∧ i_Rel (k + 5) u' v') (c, w) (nI r) v2 v3) (nI r) u := fun h => zv_far hr H C v2 v3 (fun y x hy hx => by
    have := far3 h
    omega)
  rcases zn_near v2 with h | h | ⟨n1, n2, hx⟩
  · exact xl_far (Or.inl h) (br_f (by decide) (F2 (Or.inl h)))
  · exact xl_far (Or.inr h) (br_f (by decide) (F2 (Or.inr h)))
  refine xl_nfar n1 n2 (br_t rfl ?_)
  rcases zn_near v3 with h | h | ⟨m1, m2, hy⟩
  · exact xl_far (Or.inl h) (br_f (by decide) (F3 (Or.inl h)))
  · exact xl_far (Or.inr h) (br_f (by decide) (F3 (Or.inr h)))
  exact xl_nfar m1 m2 (br_t rfl (zv_near hr H C v2 v3 hx hy))
end
