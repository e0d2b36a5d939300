/-! around -/
theorem zn_le1 {x e : Nat} (hx : x < 100) (he : e < 100) : nI x ≤ nI e - 1 ↔ x < e := by
  rw [Int32.le_iff_toInt_le, show (1 : Int32) = nI 1 from rfl, pk_sub_toInt (by omega) (by omega), nI_toInt (by omega)]
  omega
theorem xl_hb_l {post : Int32 → Prop} (row : Int32) {m : Nat} (hm : m < 24) (hb : bt row m = true) (ha : ∀ i, m < i → i < 24 → bt row i = false) (h : post (nI m)) : ∀ d x v, x + d = 24 → (m < x → v = nI m) → wX_highestBit_4 post row (d + 1) v (nI x) := by
  intro d
  induction d with
  | zero =>
    intro x v hx hv
    obtain rfl : x = 24 := by omega
    rw [hv hm]
    exact br_t (nI_le (a := 24) (b := 24) (by omega) (by decide)) h
  | succ d ih =>
    intro x v hx hv
    refine br_f (nI_ge (b := 24) (by omega) (by decide)) ?_
    rw [zb_bit _ (by omega)]
    cases e : bt row x with
    | false =>
      refine br_f (by decide) (nm_r (nI_1 x) (ih (x + 1) v (by omega) (fun q => hv ?_)))
      rcases Nat.lt_or_ge m x with z | z
      · exact z
      · obtain rfl : m = x := by omega
        rw [hb] at e
        exact absurd e (by decide)
    | true =>
      refine br_t rfl (nm_r (nI_1 x) (ih (x + 1) (nI x) (by omega) (fun q => ?_)))
      by_cases z : m = x
      · rw [z]
      · rw [ha x (by omega) (by omega)] at e
        exact absurd e (by decide)
theorem xl_hb {post : Int32 → Prop} (row : Int32) {m : Nat} (hm : m < 24) (hb : bt row m = true) (ha : ∀ i, m < i → i < 24 → bt row i = false) (h : post (nI m)) : wpX_highestBit post row := ⟨25, xl_hb_l row hm hb ha h 24 0 0 rfl (fun q => absurd q (Nat.not_lt_zero m))⟩
def xa_I (u : Nat → Int32) (r y : Nat) (col : Int32) (t e : Nat) : Prop := (∀ x, x < 32 → (bt col x = true ↔ ∃ y', y' < y ∧ bt (u (r * 24 + y')) x = true)) ∧ (∀ y', y' < y → ¬ u (r * 24 + y') = 0 → t ≤ y' ∧ y' < e) ∧ ((t = 24 ∧ e = 0) ∨ (t < 24 ∧ 0 < e ∧ e ≤ 24 ∧ ¬ u (r * 24 + t) = 0 ∧ ¬ u (r * 24 + (e - 1)) = 0))
theorem xl_ar_l {post : Int32 → Prop} (u : Nat → Int32) {r : Nat} (hr : r < 3) (h : ∀ col t e, xa_I u r 24 col t e → (((col = 0 → (post (-3))) ∧ (¬ col = 0 → (wpX_lowestBit (fun r_5 => (wpX_highestBit (fun r_6 => (wpX_pack (fun r_7 => (post r_7)) r_5 (nI t) r_6 (nI e - 1))) col)) col))))) : ∀ d y col t e, y + d = 24 → xa_I u r y col t e → wX_around_20 post (nI r) u (d + 1) col (nI t) (nI e - 1) (nI y) := by
  intro d
  induction d with
  | zero =>
    intro y col t e hy I
    obtain rfl : y = 24 := by omega
    exact br_t (nI_le (a := 24) (b := 24) (by omega) (by decide)) (h col t e I)
  | succ d ih =>
    intro y col t e hy I
    obtain ⟨I1, I2, I3⟩ := I
    refine br_f (nI_ge (b := 24) (by omega) (by decide)) ?_
    rw [zn_24, zn_cl (by omega)]
    refine ⟨zn_in (by omega) (by decide), nm_e (br_c (fun z => nm_r (nI_1 y) (ih (y + 1) col t e (by omega) ⟨fun x hx => ?_, fun y' hy' hn => ?_, I3⟩)) (fun z => nm_e ?_))⟩
    · rw [I1 x hx]
      constructor
      · intro ⟨y', a, b⟩
        exact ⟨y', by omega, b⟩
      · intro ⟨y', a, b⟩
        by_cases q : y' = y
        · rw [q, z, b_0] at b
          exact absurd b (by decide)
        · exact ⟨y', by omega, b⟩
    · by_cases q : y' = y
      · rw [q] at hn
        exact absurd z hn
      · exact I2 y' (by omega) hn
    · have B : ∀ x, x < 32 → (bt (col ||| u (r * 24 + y)) x = true ↔ ∃ y', y' < y + 1 ∧ bt (u (r * 24 + y')) x = true) := by
        intro x hx
        rw [b_or, Bool.or_eq_true, I1 x hx]
        constructor
        · intro q
          rcases q with ⟨y', a, b⟩ | q
          · exact ⟨y', by omega, b⟩
          · exact ⟨y, by omega, q⟩
        · intro ⟨y', a, b⟩
          by_cases q : y' = y
          · rw [q] at b
            exact Or.inr b
          · exact Or.inl ⟨y', by omega, b⟩
      have ht : t ≤ 24 := by omega
      refine pk_le y t (fun q => nm_r (nI_1 y) ?_) (fun q => nm_r (nI_1 y) ?_) rfl rfl (by omega) (by omega)
      · have g := ih (y + 1) (col ||| u (r * 24 + y)) y (y + 1) (by omega) ⟨B, fun y' hy' hn => by
          by_cases k : y' = y
          · omega
          · have := I2 y' (by omega) hn
            omega, Or.inr ⟨by omega, by omega, by omega, z, z⟩⟩
        rw [nI_pred y] at g
        exact g
      · have g := ih (y + 1) (col ||| u (r * 24 + y)) t (y + 1) (by omega) ⟨B, fun y' hy' hn => by
          by_cases k : y' = y
          · omega
          · have := I2 y' (by omega) hn
            omega, Or.inr ⟨by omega, by omega, by omega, by
              rcases I3 with k | k
              · omega
              · exact k.2.2.2.1, z⟩⟩
        rw [nI_pred y] at g
        exact g
/-! the reference's around -/
def ya_I (u : Nat → Int32) (r p a b cc e : Nat) : Prop := (∀ y' x', x' < 24 → y' * 24 + x' < p → bt (u (r * 24 + y')) x' = true → a ≤ x' ∧ b ≤ y' ∧ x' < cc ∧ y' < e) ∧ ((a = 24 ∧ b = 24 ∧ cc = 0 ∧ e = 0) ∨ (a < 24 ∧ b < 24 ∧ 0 < cc ∧ cc ≤ 24 ∧ 0 < e ∧ e ≤ 24 ∧ (∃ y', y' < 24 ∧ bt (u (r * 24 + y')) a = true) ∧ (∃ x', x' < 24 ∧ bt (u (r * 24 + b)) x' = true) ∧ (∃ y', y' < 24 ∧ bt (u (r * 24 + y')) (cc - 1) = true) ∧ (∃ x', x' < 24 ∧ bt (u (r * 24 + (e - 1))) x' = true)))
theorem yl_hit {post : Int32 → Prop} {J25 J35 : Int32 → Int32 → Int32 → Int32 → Int32 → Prop} {c w : Nat → Int32} {r a b cc e x y : Nat} (ha : a ≤ 24) (hb : b ≤ 24) (hc : cc ≤ 24) (he : e ≤ 24) (hx : x < 24) (hy : y < 24) (h : ∀ a' b' c' e', ((a' = a ∧ a ≤ x) ∨ (a' = x ∧ x < a)) → ((b' = b ∧ b ≤ y) ∨ (b' = y ∧ y < b)) → ((c' = cc ∧ x < cc) ∨ (c' = x + 1 ∧ cc ≤ x)) → ((e' = e ∧ y < e) ∨ (e' = y + 1 ∧ e ≤ y)) → J35 (nI a') (nI b') (nI c' - 1) (nI e' - 1) (nI (x + 1))) : (((nI a ≤ nI x → (wY_around_66 post J25 J35 (nI r) (nI b) (nI cc - 1) (nI e - 1) (nI y) (nI x) (nI a) c w)) ∧ (¬ nI a ≤ nI x → (wY_around_66 post J25 J35 (nI r) (nI b) (nI cc - 1) (nI e - 1) (nI y) (nI x) (nI x) c w)))) := by
  have s95 : ∀ a' b' c', ((a' = a ∧ a ≤ x) ∨ (a' = x ∧ x < a)) → ((b' = b ∧ b ≤ y) ∨ (b' = y ∧ y < b)) → ((c' = cc ∧ x < cc) ∨ (c' = x + 1 ∧ cc ≤ x)) → wY_around_95 post J25 J35 (nI r) (nI a') (nI c' - 1) (nI e - 1) (nI y) (nI x) (nI b') c w := fun a' b' c' h1 h2 h3 => by
    refine br_c (fun z => nm_r (nI_1 x) ?_) (fun z => nm_r (nI_1 x) ?_)
    · exact h a' b' c' e h1 h2 h3 (Or.inl ⟨rfl, (zn_le1 (by omega) (by omega)).mp z⟩)
    · rw [zn_le1 (by omega) (by omega)] at z
      have g := h a' b' c' (y + 1) h1 h2 h3 (Or.inr ⟨rfl, by omega⟩)
      rw [nI_pred y] at g
      exact g
  have s81 : ∀ a' c', ((a' = a ∧ a ≤ x) ∨ (a' = x ∧ x < a)) → ((c' = cc ∧ x < cc) ∨ (c' = x + 1 ∧ cc ≤ x)) → wY_around_81 post J25 J35 (nI r) (nI a') (nI b) (nI e - 1) (nI y) (nI x) (nI c' - 1) c w := fun a' c' h1 h3 => pk_le b y (fun z => s95 a' b c' h1 (Or.inl ⟨rfl, z⟩) h3) (fun z => s95 a' y c' h1 (Or.inr ⟨rfl, z⟩) h3) rfl rfl (by omega) (by omega)
  have s66 : ∀ a', ((a' = a ∧ a ≤ x) ∨ (a' = x ∧ x < a)) → wY_around_66 post J25 J35 (nI r) (nI b) (nI cc - 1) (nI e - 1) (nI y) (nI x) (nI a') c w := fun a' h1 => by
    refine br_c (fun z => ?_) (fun z => ?_)
    · exact s81 a' cc h1 (Or.inl ⟨rfl, (zn_le1 (by omega) (by omega)).mp z⟩)
    · rw [zn_le1 (by omega) (by omega)] at z
      have g := s81 a' (x + 1) h1 (Or.inr ⟨rfl, by omega⟩)
      rw [nI_pred x] at g
      exact g
  exact pk_le a x (fun z => s66 a (Or.inl ⟨rfl, z⟩)) (fun z => s66 x (Or.inr ⟨rfl, z⟩)) rfl rfl (by omega) (by omega)
theorem yl_ar_i {post : Int32 → Prop} {J : Int32 → Int32 → Int32 → Int32 → Int32 → Prop} {u c w : Nat → Int32} (C : zz_C u c) {r y : Nat} (hr : r < 3) (hy : y < 24) (hJ : ∀ a b cc e, ya_I u r (y * 24 + 24) a b cc e → J (nI a) (nI b) (nI cc - 1) (nI e - 1) (nI (y + 1))) : ∀ d x a b cc e, x + d = 24 → ya_I u r (y * 24 + x) a b cc e → wY_around_35 post J (nI r) (nI y) c w (d + 1) (nI a) (nI b) (nI cc - 1) (nI e - 1) (nI x) := by
  intro d
  induction d with
  | zero =>
    intro x a b cc e hx I
    obtain rfl : x = 24 := by omega
    exact br_t (nI_le (a := 24) (b := 24) (by omega) (by decide)) (nm_r (nI_1 y) (hJ a b cc e I))
  | succ d ih =>
    intro x a b cc e hx I
    have I0 := I
    obtain ⟨I1, I2⟩ := I
    refine br_f (nI_ge (b := 24) (by omega) (by decide)) (yl_has C hr (by omega) hy (br_c (fun z => nm_r (nI_1 x) (ih (x + 1) a b cc e (by omega) ⟨fun y' x' h1 h2 h3 => ?_, I2⟩)) (fun z => ?_)))
    · by_cases q : y' * 24 + x' < y * 24 + x
      · exact I1 y' x' h1 q h3
      · have e1 : y' = y := by omega
        have e2 : x' = x := by omega
        rw [e1, e2, zb_eq0.mp z] at h3
        exact absurd h3 (by decide)
    · rw [zb_eq0, Bool.not_eq_false] at z
      refine yl_hit (by omega) (by omega) (by omega) (by omega) (by omega) hy (fun a' b' c' e' h1 h2 h3 h4 => ih (x + 1) a' b' c' e' (by omega) ⟨fun y' x' k1 k2 k3 => ?_, Or.inr ⟨by omega, by omega, by omega, by omega, by omega, by omega, ?_, ?_, ?_, ?_⟩⟩)
      · by_cases q : y' * 24 + x' < y * 24 + x
        · have := I1 y' x' k1 q k3
          omega
        · have e1 : y' = y := by omega
          have e2 : x' = x := by omega
          omega
      · rcases h1 with ⟨rfl, k⟩ | ⟨rfl, k⟩
        · rcases I2 with q | q
          · omega
          · exact q.2.2.2.2.2.2.1
        · exact ⟨y, hy, z⟩
      · rcases h2 with ⟨rfl, k⟩ | ⟨rfl, k⟩
        · rcases I2 with q | q
          · omega
          · exact q.2.2.2.2.2.2.2.1
        · exact ⟨x, by omega, z⟩
      · rcases h3 with ⟨rfl, k⟩ | ⟨rfl, k⟩
        · rcases I2 with q | q
          · omega
          · exact q.2.2.2.2.2.2.2.2.1
        · exact ⟨y, hy, z⟩
      · rcases h4 with ⟨rfl, k⟩ | ⟨rfl, k⟩
        · rcases I2 with q | q
          · omega
          · exact q.2.2.2.2.2.2.2.2.2
        · exact ⟨x, by omega, z⟩
theorem yl_ar_o {post : Int32 → Prop} {u c w : Nat → Int32} (C : zz_C u c) {r : Nat} (hr : r < 3) (h : ∀ a b cc e, ya_I u r 576 a b cc e → (((0 ≤ nI cc - 1 → (post (((nI a + (32 * nI b)) + (1024 * (nI cc - 1))) + (32768 * (nI e - 1))))) ∧ (¬ 0 ≤ nI cc - 1 → (post (-3)))))) : ∀ d y a b cc e, y + d = 24 → ya_I u r (y * 24) a b cc e → wY_around_25 post (nI r) c w (d + 1) (nI a) (nI b) (nI cc - 1) (nI e - 1) (nI y) := by
  intro d
  induction d with
  | zero =>
    intro y a b cc e hy I
    obtain rfl : y = 24 := by omega
    exact br_t (nI_le (a := 24) (b := 24) (by omega) (by decide)) (h a b cc e I)
  | succ d ih =>
    intro y a b cc e hy I
    refine br_f (nI_ge (b := 24) (by omega) (by decide)) ⟨25, yl_ar_i C hr (by omega) (fun a b cc e I => ih (y + 1) a b cc e (by omega) (by rw [Nat.succ_mul]; exact I)) 24 0 a b cc e rfl I⟩
/-- a row that isn't 0 has a cell -/
theorem zz_ne {u : Nat → Int32} (H : zz_H u) {j : Nat} (hj : j < 72) (h : ¬ u j = 0) : ∃ x, x < 24 ∧ bt (u j) x = true := by
  refine Classical.byContradiction (fun n => h (zb_0.mpr (fun i hi => ?_)))
  by_cases z : i < 24
  · cases e : bt (u j) i with
    | false => rfl
    | true => exact absurd ⟨i, z, e⟩ n
  · exact H j hj i (by omega)
theorem zz_nz {x : Int32} {i : Nat} (h : bt x i = true) : ¬ x = 0 := fun e => by
  rw [e, b_0] at h
  exact absurd h (by decide)
theorem zo_max {f : Nat → Bool} : ∀ n, (∃ i, i < n ∧ f i = true) → ∃ m, m < n ∧ f m = true ∧ ∀ i, m < i → i < n → f i = false := by
  intro n
  induction n with
  | zero => intro ⟨i, h, _⟩; exact absurd h (Nat.not_lt_zero i)
  | succ n ih =>
    intro ⟨i, h, hf⟩
    cases e : f n with
    | true => exact ⟨n, by omega, e, fun j h1 h2 => by omega⟩
    | false =>
      have : i ≠ n := fun q => by
        rw [q, e] at hf
        exact absurd hf (by decide)
      obtain ⟨m, m1, m2, m3⟩ := ih ⟨i, by omega, hf⟩
      refine ⟨m, by omega, m2, fun j h1 h2 => ?_⟩
      by_cases q : j = n
      · rw [q]; exact e
      · exact m3 j h1 (by omega)
theorem i_vc_around {k : Nat} {u : SX} {v : SY} (I : i_Rel k u v) (hk : k + 5 ≤ 2560) (v1 : Int32) : wpX_around (fun r => wpY_around (fun r' => r' = r ∧ i_Rel (k + 5) u v) v v1) u v1 := by
  obtain ⟨c, w⟩ := v
  obtain ⟨H, C⟩ := I
  have C : zz_C u c := C
  unfold wpX_around wpY_around
  dsimp only
  rcases pk_ix v1 (n := 3) (by decide) with h | h | ⟨r, hr, rfl⟩
  · exact xl_regN (Or.inl h) (br_t rfl (yl_badN (Or.inl h) (br_f (by decide) ⟨rfl, H, C⟩)))
  · exact xl_regN (Or.inr h) (br_t rfl (yl_badN (Or.inr h) (br_f (by decide) ⟨rfl, H, C⟩)))
  have x0 : xa_I u r 0 0 24 0 := ⟨fun x hx => by
    rw [b_0]
    exact ⟨fun q => absurd q (by decide), fun ⟨y', q, _⟩ => absurd q (Nat.not_lt_zero y')⟩, fun y' q => absurd q (Nat.not_lt_zero y'), Or.inl ⟨rfl, rfl⟩⟩
  have y0 : ya_I u r (0 * 24) 24 24 0 0 := ⟨fun y' x' _ q => absurd q (by omega), Or.inl ⟨rfl, rfl, rfl, rfl⟩⟩
  refine xl_reg hr (br_f (by decide) ⟨25, xl_ar_l u hr ?_ 24 0 0 24 0 rfl x0⟩)
  intro col t e ⟨X1, X2, X3⟩
  refine br_c (fun z => ?_) (fun z => ?_)
  · refine yl_bad hr (br_t rfl ⟨25, yl_ar_o C hr ?_ 24 0 24 24 0 0 rfl y0⟩)
    intro a b cc e' ⟨Y1, Y2⟩
    have hc : cc = 0 := by
      rcases Y2 with q | q
      · exact q.2.2.1
      · obtain ⟨y', p1, p2⟩ := q.2.2.2.2.2.2.2.2.1
        have := (X1 (cc - 1) (by omega)).mpr ⟨y', p1, p2⟩
        rw [z, b_0] at this
        exact absurd this (by decide)
    subst hc
    exact br_f (by decide) ⟨rfl, H, C⟩
  · obtain ⟨x1, hx1, y1, hy1, hb1⟩ : ∃ x, x < 24 ∧ ∃ y, y < 24 ∧ bt (u (r * 24 + y)) x = true := by
      refine Classical.byContradiction (fun n => z (zb_0.mpr (fun i hi => ?_)))
      cases q : bt col i with
      | false => rfl
      | true =>
        obtain ⟨y', p1, p2⟩ := (X1 i hi).mp q
        by_cases i24 : i < 24
        · exact absurd ⟨i, i24, y', p1, p2⟩ n
        · rw [H _ (by omega) i (by omega)] at p2
          exact absurd p2 (by decide)
    have X4 := X2 y1 hy1 (zz_nz hb1)
    have X5 : t < 24 ∧ 0 < e ∧ e ≤ 24 ∧ ¬ u (r * 24 + t) = 0 ∧ ¬ u (r * 24 + (e - 1)) = 0 := X3.resolve_left (by omega)
    obtain ⟨t1, t2, t3, t4, t5⟩ := X5
    have bc1 : bt col x1 = true := (X1 x1 (by omega)).mpr ⟨y1, hy1, hb1⟩
    have ne : ¬ zs_sm (fun i => (bt col i).toNat) 24 = 0 := fun q => by
      have := (zs_zero 24).mp q x1 hx1
      rw [bc1] at this
      exact absurd this (by decide)
    obtain ⟨lo, hlo, blo, slo⟩ := zs_find (zs_b1 col) 0 24 (by omega)
    have blo : bt col lo = true := by
      cases q : bt col lo with
      | true => rfl
      | false => rw [q] at blo; exact absurd blo (by decide)
    have alo := (zs_zero lo).mp slo
    obtain ⟨hi, hhi, bhi, ahi⟩ := zo_max 24 ⟨x1, hx1, bc1⟩
    have ylo := (X1 lo (by omega)).mp blo
    have yhi := (X1 hi (by omega)).mp bhi
    refine xl_bn (k := 0) col hlo blo slo (xl_hb col hhi bhi ahi ?_)
    dsimp only [wpX_pack]
    refine yl_bad hr (br_t rfl ⟨25, yl_ar_o C hr ?_ 24 0 24 24 0 0 rfl y0⟩)
    intro a b cc e' ⟨Y1, Y2⟩
    have Y4 := Y1 y1 x1 hx1 (by omega) hb1
    obtain ⟨a1, b1, c1, c2, e1, e2, ⟨ya, ya1, ya2⟩, ⟨xb, xb1, xb2⟩, ⟨yc, yc1, yc2⟩, ⟨xe, xe1, xe2⟩⟩ := Y2.resolve_left (by omega)
    have ea : a = lo := by
      obtain ⟨y', p1, p2⟩ := ylo
      have q1 := Y1 y' lo hlo (by omega) p2
      rcases Nat.lt_or_ge a lo with q | q
      · have q2 := alo a q
        rw [(X1 a (by omega)).mpr ⟨ya, ya1, ya2⟩] at q2
        exact absurd q2 (by decide)
      · omega
    have ec : cc = hi + 1 := by
      obtain ⟨y', p1, p2⟩ := yhi
      have q1 := Y1 y' hi hhi (by omega) p2
      rcases Nat.lt_or_ge hi (cc - 1) with q | q
      · have q2 := ahi (cc - 1) q (by omega)
        rw [(X1 (cc - 1) (by omega)).mpr ⟨yc, yc1, yc2⟩] at q2
        exact absurd q2 (by decide)
      · omega
    have eb : b = t := by
      obtain ⟨x', p1, p2⟩ := zz_ne H (by omega) t4
      have q1 := Y1 t x' p1 (by omega) p2
      have q2 := X2 b b1 (zz_nz xb2)
      omega
    have ee : e' = e := by
      obtain ⟨x', p1, p2⟩ := zz_ne H (by omega) t5
      have q1 := Y1 (e - 1) x' p1 (by omega) p2
      have q2 := X2 (e' - 1) (by omega) (zz_nz xe2)
      omega
    subst ea ec eb ee
    rw [nI_pred]
    exact br_t (nI_pos' (by omega)) ⟨rfl, H, C⟩
