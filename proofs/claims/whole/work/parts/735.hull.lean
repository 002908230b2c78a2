/-! the least and the greatest of a set of numbers; what the ops that take two can give, over ranges a..b and c..d -/
def ht_H (S : Nat → Prop) (l h : Nat) : Prop := S l ∧ S h ∧ ∀ v, S v → l ≤ v ∧ v ≤ h
theorem ht_H_un {S : Nat → Prop} {l h l' h' : Nat} (p : ht_H S l h) (q : ht_H S l' h') : l = l' ∧ h = h' :=
  ⟨Nat.le_antisymm (p.2.2 _ q.1).1 (q.2.2 _ p.1).1, Nat.le_antisymm (q.2.2 _ p.2.1).2 (p.2.2 _ q.2.1).2⟩
theorem ht_H_mono {S T : Nat → Prop} {l h l' h' : Nat} (p : ht_H S l h) (q : ht_H T l' h') (hs : ∀ v, S v → T v) : l' ≤ l ∧ h ≤ h' :=
  ⟨(q.2.2 _ (hs _ p.1)).1, (q.2.2 _ (hs _ p.2.1)).2⟩
def ht_I (ok : Nat → Prop) (f : Nat → Nat → Nat) (a b c d v : Nat) : Prop := ∃ x y, a ≤ x ∧ x ≤ b ∧ c ≤ y ∧ y ≤ d ∧ ok y ∧ f x y = v
theorem ht_I_mono {ok : Nat → Prop} {f : Nat → Nat → Nat} {a b c d a' b' c' d' : Nat} (h1 : a' ≤ a) (h2 : b ≤ b') (h3 : c' ≤ c) (h4 : d ≤ d') (v : Nat) (h : ht_I ok f a b c d v) : ht_I ok f a' b' c' d' v := by
  obtain ⟨x, y, k1, k2, k3, k4, k5, k6⟩ := h
  exact ⟨x, y, Nat.le_trans h1 k1, Nat.le_trans k2 h2, Nat.le_trans h3 k3, Nat.le_trans k4 h4, k5, k6⟩
def ht_T (_ : Nat) : Prop := True
def ht_N (y : Nat) : Prop := 0 < y
theorem ht_same {a b c d : Nat} (hab : a ≤ b) (hcd : c ≤ d) : ht_H (ht_I ht_T (fun x y => if x = y then 1 else 0) a b c d) (if (a ≤ d ∧ c ≤ b) ∧ a = b ∧ c = d then 1 else 0) (if a ≤ d ∧ c ≤ b then 1 else 0) := by
  refine ⟨?_, ?_, ?_⟩
  · by_cases h1 : (a ≤ d ∧ c ≤ b) ∧ a = b ∧ c = d
    · rw [if_pos h1]; exact ⟨a, c, Nat.le_refl _, hab, Nat.le_refl _, hcd, trivial, if_pos (by omega)⟩
    · rw [if_neg h1]
      by_cases h2 : a = c
      · by_cases h3 : a < b
        · exact ⟨a + 1, c, by omega, by omega, by omega, hcd, trivial, if_neg (by omega)⟩
        · exact ⟨a, c + 1, by omega, hab, by omega, by omega, trivial, if_neg (by omega)⟩
      · exact ⟨a, c, Nat.le_refl _, hab, Nat.le_refl _, hcd, trivial, if_neg h2⟩
  · by_cases h1 : a ≤ d ∧ c ≤ b
    · rw [if_pos h1]
      by_cases h2 : a ≤ c
      · exact ⟨c, c, h2, h1.2, by omega, hcd, trivial, if_pos rfl⟩
      · exact ⟨a, a, by omega, hab, by omega, h1.1, trivial, if_pos rfl⟩
    · rw [if_neg h1]; exact ⟨a, c, by omega, hab, by omega, hcd, trivial, if_neg (by omega)⟩
  · rintro v ⟨x, y, h1, h2, h3, h4, -, h5⟩
    dsimp only at h5
    subst h5
    by_cases h6 : x = y
    · rw [if_pos h6]
      constructor
      · split <;> omega
      · rw [if_pos (by omega)]; omega
    · rw [if_neg h6]
      constructor
      · rw [if_neg (by omega)]; omega
      · exact Nat.zero_le _
theorem ht_less {a b c d : Nat} (hab : a ≤ b) (hcd : c ≤ d) : ht_H (ht_I ht_T (fun x y => if x < y then 1 else 0) a b c d) (if c ≤ b then 0 else 1) (if a < d then 1 else 0) := by
  refine ⟨?_, ?_, ?_⟩
  · by_cases h1 : c ≤ b
    · rw [if_pos h1]; exact ⟨b, c, hab, Nat.le_refl _, Nat.le_refl _, hcd, trivial, if_neg (by omega)⟩
    · rw [if_neg h1]; exact ⟨b, c, hab, Nat.le_refl _, Nat.le_refl _, hcd, trivial, if_pos (by omega)⟩
  · by_cases h1 : a < d
    · rw [if_pos h1]; exact ⟨a, d, Nat.le_refl _, hab, hcd, Nat.le_refl _, trivial, if_pos h1⟩
    · rw [if_neg h1]; exact ⟨a, d, Nat.le_refl _, hab, hcd, Nat.le_refl _, trivial, if_neg h1⟩
  · rintro v ⟨x, y, h1, h2, h3, h4, -, h5⟩
    dsimp only at h5
    subst h5
    by_cases h6 : x < y
    · rw [if_pos h6]
      constructor
      · split <;> omega
      · rw [if_pos (by omega)]; omega
    · rw [if_neg h6]
      constructor
      · rw [if_pos (by omega)]; omega
      · exact Nat.zero_le _
theorem ht_sum {a b c d s : Nat} (hab : a ≤ b) (hcd : c ≤ d) (h1 : a + c ≤ s) (h2 : s ≤ b + d) : ∃ x y, a ≤ x ∧ x ≤ b ∧ c ≤ y ∧ y ≤ d ∧ x + y = s := by
  by_cases h : s ≤ a + d
  · exact ⟨a, s - a, Nat.le_refl _, hab, by omega, by omega, by omega⟩
  · exact ⟨s - d, d, by omega, by omega, hcd, Nat.le_refl _, by omega⟩
theorem ht_plus {a b c d : Nat} (hab : a ≤ b) (hcd : c ≤ d) (hb : b < 64) (hd : d < 64) : ht_H (ht_I ht_T (fun x y => (x + y) % 64) a b c d) (if (a + c) / 64 = (b + d) / 64 then (a + c) % 64 else 0) (if (a + c) / 64 = (b + d) / 64 then (b + d) % 64 else 63) := by
  by_cases h0 : (a + c) / 64 = (b + d) / 64
  · rw [if_pos h0, if_pos h0]
    refine ⟨⟨a, c, Nat.le_refl _, hab, Nat.le_refl _, hcd, trivial, rfl⟩, ⟨b, d, hab, Nat.le_refl _, hcd, Nat.le_refl _, trivial, rfl⟩, ?_⟩
    rintro v ⟨x, y, h1, h2, h3, h4, -, h5⟩
    dsimp only at h5
    omega
  · rw [if_neg h0, if_neg h0]
    refine ⟨?_, ?_, ?_⟩
    · obtain ⟨x, y, h1, h2, h3, h4, h5⟩ := ht_sum (s := 64) hab hcd (by omega) (by omega)
      exact ⟨x, y, h1, h2, h3, h4, trivial, by show (x + y) % 64 = 0; rw [h5]⟩
    · obtain ⟨x, y, h1, h2, h3, h4, h5⟩ := ht_sum (s := 63) hab hcd (by omega) (by omega)
      exact ⟨x, y, h1, h2, h3, h4, trivial, by show (x + y) % 64 = 63; rw [h5]⟩
    · rintro v ⟨x, y, h1, h2, h3, h4, -, h5⟩
      dsimp only at h5
      omega
theorem ht_dif {a b c d s : Nat} (hab : a ≤ b) (hcd : c ≤ d) (hd : d ≤ 64) (h1 : a + 64 - d ≤ s) (h2 : s ≤ b + 64 - c) : ∃ x y, a ≤ x ∧ x ≤ b ∧ c ≤ y ∧ y ≤ d ∧ x + 64 - y = s := by
  by_cases h : s ≤ a + 64 - c
  · exact ⟨a, a + 64 - s, Nat.le_refl _, hab, by omega, by omega, by omega⟩
  · exact ⟨s + c - 64, c, by omega, by omega, Nat.le_refl _, hcd, by omega⟩
theorem ht_minus {a b c d : Nat} (hab : a ≤ b) (hcd : c ≤ d) (hb : b < 64) (hd : d < 64) : ht_H (ht_I ht_T (fun x y => (x + 64 - y) % 64) a b c d) (if (a + 64 - d) / 64 = (b + 64 - c) / 64 then (a + 64 - d) % 64 else 0) (if (a + 64 - d) / 64 = (b + 64 - c) / 64 then (b + 64 - c) % 64 else 63) := by
  by_cases h0 : (a + 64 - d) / 64 = (b + 64 - c) / 64
  · rw [if_pos h0, if_pos h0]
    refine ⟨⟨a, d, Nat.le_refl _, hab, hcd, Nat.le_refl _, trivial, rfl⟩, ⟨b, c, hab, Nat.le_refl _, Nat.le_refl _, hcd, trivial, rfl⟩, ?_⟩
    rintro v ⟨x, y, h1, h2, h3, h4, -, h5⟩
    dsimp only at h5
    omega
  · rw [if_neg h0, if_neg h0]
    refine ⟨?_, ?_, ?_⟩
    · obtain ⟨x, y, h1, h2, h3, h4, h5⟩ := ht_dif (s := 64) hab hcd (by omega) (by omega) (by omega)
      exact ⟨x, y, h1, h2, h3, h4, trivial, by show (x + 64 - y) % 64 = 0; rw [h5]⟩
    · obtain ⟨x, y, h1, h2, h3, h4, h5⟩ := ht_dif (s := 63) hab hcd (by omega) (by omega) (by omega)
      exact ⟨x, y, h1, h2, h3, h4, trivial, by show (x + 64 - y) % 64 = 63; rw [h5]⟩
    · rintro v ⟨x, y, h1, h2, h3, h4, -, h5⟩
      dsimp only at h5
      omega
theorem ht_over {a b c d : Nat} (hab : a ≤ b) (hcd : c ≤ d) (hd : 0 < d) : ht_H (ht_I ht_N (fun x y => x / y) a b c d) (a / d) (b / max 1 c) := by
  refine ⟨⟨a, d, Nat.le_refl _, hab, hcd, Nat.le_refl _, hd, rfl⟩, ⟨b, max 1 c, hab, Nat.le_refl _, by omega, by omega, by show 0 < max 1 c; omega, rfl⟩, ?_⟩
  rintro v ⟨x, y, h1, h2, h3, h4, h5, h6⟩
  dsimp only at h6
  subst h6
  have h7 : 0 < y := h5
  exact ⟨Nat.div_le_div h1 h4 (by omega), Nat.div_le_div h2 (by omega) (by omega)⟩
theorem ht_times {a b c d : Nat} (hab : a ≤ b) (hcd : c ≤ d) (h : b * d < 64) : ht_H (ht_I ht_T (fun x y => x * y % 64) a b c d) (a * c) (b * d) := by
  have key : ∀ x y, x ≤ b → y ≤ d → x * y % 64 = x * y := fun x y h1 h2 => Nat.mod_eq_of_lt (Nat.lt_of_le_of_lt (Nat.mul_le_mul h1 h2) h)
  refine ⟨⟨a, c, Nat.le_refl _, hab, Nat.le_refl _, hcd, trivial, key a c hab hcd⟩, ⟨b, d, hab, Nat.le_refl _, hcd, Nat.le_refl _, trivial, key b d (Nat.le_refl _) (Nat.le_refl _)⟩, ?_⟩
  rintro v ⟨x, y, h1, h2, h3, h4, -, h5⟩
  dsimp only at h5
  rw [key x y h2 h4] at h5
  subst h5
  exact ⟨Nat.mul_le_mul h1 h3, Nat.mul_le_mul h2 h4⟩
/-- the rests by one number -/
theorem ht_rest1 {a b y : Nat} (hab : a ≤ b) (hy : 0 < y) : ht_H (fun v => ∃ x, a ≤ x ∧ x ≤ b ∧ x % y = v) (if a / y = b / y then a % y else 0) (if a / y = b / y then b % y else y - 1) := by
  have ha := Nat.div_add_mod a y
  have hb := Nat.div_add_mod b y
  by_cases h0 : a / y = b / y
  · rw [if_pos h0, if_pos h0]
    refine ⟨⟨a, Nat.le_refl _, hab, rfl⟩, ⟨b, hab, Nat.le_refl _, rfl⟩, ?_⟩
    rintro v ⟨x, h1, h2, h3⟩
    subst h3
    have hx := Nat.div_add_mod x y
    have h4 : x / y = a / y := Nat.le_antisymm (by rw [h0]; exact Nat.div_le_div_right h2) (Nat.div_le_div_right h1)
    rw [h4] at hx
    rw [← h0] at hb
    omega
  · rw [if_neg h0, if_neg h0]
    have h1 : a / y < b / y := Nat.lt_of_le_of_ne (Nat.div_le_div_right hab) h0
    have h2 : y * (a / y + 1) ≤ y * (b / y) := Nat.mul_le_mul_left y h1
    have h3 : a % y < y := Nat.mod_lt _ hy
    rw [Nat.mul_add, Nat.mul_one] at h2
    refine ⟨⟨y * (b / y), by omega, by omega, Nat.mul_mod_right _ _⟩, ⟨y * (b / y) - 1, by omega, by omega, ?_⟩, ?_⟩
    · obtain ⟨k, hk⟩ : ∃ k, b / y = k + 1 := ⟨b / y - 1, (Nat.sub_add_cancel (Nat.lt_of_le_of_lt (Nat.zero_le _) h1)).symm⟩
      rw [hk, Nat.mul_add, Nat.mul_one, show y * k + y - 1 = (y - 1) + y * k by omega, Nat.add_mul_mod_self_left, Nat.mod_eq_of_lt (by omega)]
    · rintro v ⟨x, h4, h5, h6⟩
      have := Nat.mod_lt x hy
      omega
/-! both bits -/
theorem ht_and2 (x y : Nat) : x &&& y = 2 * ((x / 2) &&& (y / 2)) + (x % 2) * (y % 2) := by
  have h1 : (x &&& y) / 2 = (x / 2) &&& (y / 2) := by
    have := Nat.and_div_two (a := x) (b := y)
    exact this
  have h2 : (x &&& y) % 2 = (x % 2) * (y % 2) := by
    have h3 := Nat.and_mod_two_pow (a := x) (b := y) (n := 1)
    rw [Nat.pow_one] at h3
    rw [h3]
    have hx : x % 2 < 2 := Nat.mod_lt _ (by decide)
    have hy : y % 2 < 2 := Nat.mod_lt _ (by decide)
    generalize x % 2 = u at *
    generalize y % 2 = w at *
    match u, w, hx, hy with
    | 0, 0, _, _ => rfl
    | 0, 1, _, _ => rfl
    | 1, 0, _, _ => rfl
    | 1, 1, _, _ => rfl
  have h4 := Nat.div_add_mod (x &&& y) 2
  omega
theorem ht_andL (n : Nat) : ∀ a c x y : Nat, a ≤ x → c ≤ y → x < 2 ^ n → y < 2 ^ n → (∀ t, t < n → (a / 2 ^ t) % 2 = 0 → (c / 2 ^ t) % 2 = 0 → x / 2 ^ t = a / 2 ^ t ∧ y / 2 ^ t = c / 2 ^ t) → (x = a ∧ y = c) ∨ a &&& c < x &&& y := by
  induction n with
  | zero => intro a c x y h1 h2 h3 h4 _; left; omega
  | succ n ih =>
    intro a c x y h1 h2 h3 h4 h5
    have e2 : (2 : Nat) ^ (n + 1) = 2 * 2 ^ n := by rw [Nat.pow_succ, Nat.mul_comm]
    have hh := ih (a / 2) (c / 2) (x / 2) (y / 2) (by omega) (by omega) (by omega) (by omega) (fun t ht g1 g2 => by
      have k := h5 (t + 1) (by omega)
      have e : (2 : Nat) ^ (t + 1) = 2 * 2 ^ t := by rw [Nat.pow_succ, Nat.mul_comm]
      rw [e, ← Nat.div_div_eq_div_mul, ← Nat.div_div_eq_div_mul, ← Nat.div_div_eq_div_mul, ← Nat.div_div_eq_div_mul] at k
      exact k g1 g2)
    rw [ht_and2 a c, ht_and2 x y]
    have m1 : a % 2 = 0 ∨ a % 2 = 1 := by omega
    have m2 : c % 2 = 0 ∨ c % 2 = 1 := by omega
    have m3 : x % 2 = 0 ∨ x % 2 = 1 := by omega
    have m4 : y % 2 = 0 ∨ y % 2 = 1 := by omega
    have h0 := h5 0 (by omega)
    simp only [Nat.pow_zero, Nat.div_one] at h0
    rcases hh with ⟨e3, e4⟩ | hlt
    · rw [e3, e4]
      rcases m1 with m1 | m1 <;> rcases m2 with m2 | m2 <;> rcases m3 with m3 | m3 <;> rcases m4 with m4 | m4 <;> rw [m1, m2, m3, m4] <;> first | (left; omega) | (right; omega) | (exfalso; have := h0 m1 m2; omega) | (exfalso; omega)
    · right
      rcases m1 with m1 | m1 <;> rcases m2 with m2 | m2 <;> rw [m1, m2] <;> omega
theorem ht_andG (n : Nat) : ∀ b d x y : Nat, x ≤ b → y ≤ d → b < 2 ^ n → d < 2 ^ n → (∀ t, t < n → ((b / 2 ^ t) % 2 = 1 → (d / 2 ^ t) % 2 = 0 → x / 2 ^ t = b / 2 ^ t) ∧ ((b / 2 ^ t) % 2 = 0 → (d / 2 ^ t) % 2 = 1 → y / 2 ^ t = d / 2 ^ t)) → (x = b ∧ y = d) ∨ x &&& y < b &&& d := by
  induction n with
  | zero => intro b d x y h1 h2 h3 h4 _; left; omega
  | succ n ih =>
    intro b d x y h1 h2 h3 h4 h5
    have e2 : (2 : Nat) ^ (n + 1) = 2 * 2 ^ n := by rw [Nat.pow_succ, Nat.mul_comm]
    have hh := ih (b / 2) (d / 2) (x / 2) (y / 2) (by omega) (by omega) (by omega) (by omega) (fun t ht => by
      have k := h5 (t + 1) (by omega)
      have e : (2 : Nat) ^ (t + 1) = 2 * 2 ^ t := by rw [Nat.pow_succ, Nat.mul_comm]
      rw [e, ← Nat.div_div_eq_div_mul, ← Nat.div_div_eq_div_mul, ← Nat.div_div_eq_div_mul, ← Nat.div_div_eq_div_mul] at k
      exact k)
    rw [ht_and2 b d, ht_and2 x y]
    have m1 : b % 2 = 0 ∨ b % 2 = 1 := by omega
    have m2 : d % 2 = 0 ∨ d % 2 = 1 := by omega
    have m3 : x % 2 = 0 ∨ x % 2 = 1 := by omega
    have m4 : y % 2 = 0 ∨ y % 2 = 1 := by omega
    have h0 := h5 0 (by omega)
    simp only [Nat.pow_zero, Nat.div_one] at h0
    rcases hh with ⟨e3, e4⟩ | hlt
    · rw [e3, e4]
      rcases m1 with m1 | m1 <;> rcases m2 with m2 | m2 <;> rcases m3 with m3 | m3 <;> rcases m4 with m4 | m4 <;> rw [m1, m2, m3, m4] <;> first | (left; omega) | (right; omega) | (exfalso; have := h0.1 m1 m2; omega) | (exfalso; have := h0.2 m1 m2; omega) | (exfalso; omega)
    · right
      rcases m3 with m3 | m3 <;> rcases m4 with m4 | m4 <;> rw [m3, m4] <;> omega
/-- the same above place j -/
theorem ht_andLj {j n a c x y : Nat} (h1 : a ≤ x) (h2 : c ≤ y) (h3 : x < 2 ^ (j + n)) (h4 : y < 2 ^ (j + n)) (h5 : ∀ t, j ≤ t → t < j + n → (a / 2 ^ t) % 2 = 0 → (c / 2 ^ t) % 2 = 0 → x / 2 ^ t = a / 2 ^ t ∧ y / 2 ^ t = c / 2 ^ t) : a / 2 ^ j &&& c / 2 ^ j ≤ x / 2 ^ j &&& y / 2 ^ j := by
  have hp : 0 < 2 ^ j := Nat.two_pow_pos j
  have k := ht_andL n (a / 2 ^ j) (c / 2 ^ j) (x / 2 ^ j) (y / 2 ^ j) (Nat.div_le_div_right h1) (Nat.div_le_div_right h2) ((Nat.div_lt_iff_lt_mul hp).mpr (by rw [Nat.mul_comm, ← Nat.pow_add]; exact h3)) ((Nat.div_lt_iff_lt_mul hp).mpr (by rw [Nat.mul_comm, ← Nat.pow_add]; exact h4)) (fun t ht => by
    have e := h5 (j + t) (Nat.le_add_right _ _) (by omega)
    rw [Nat.pow_add, ← Nat.div_div_eq_div_mul, ← Nat.div_div_eq_div_mul, ← Nat.div_div_eq_div_mul, ← Nat.div_div_eq_div_mul] at e
    exact e)
  rcases k with ⟨e1, e2⟩ | k
  · rw [e1, e2]; exact Nat.le_refl _
  · exact Nat.le_of_lt k
theorem ht_andGj {j n b d x y : Nat} (h1 : x ≤ b) (h2 : y ≤ d) (h3 : b < 2 ^ (j + n)) (h4 : d < 2 ^ (j + n)) (h5 : ∀ t, j ≤ t → t < j + n → ((b / 2 ^ t) % 2 = 1 → (d / 2 ^ t) % 2 = 0 → x / 2 ^ t = b / 2 ^ t) ∧ ((b / 2 ^ t) % 2 = 0 → (d / 2 ^ t) % 2 = 1 → y / 2 ^ t = d / 2 ^ t)) : (x / 2 ^ j = b / 2 ^ j ∧ y / 2 ^ j = d / 2 ^ j) ∨ x / 2 ^ j &&& y / 2 ^ j < b / 2 ^ j &&& d / 2 ^ j := by
  have hp : 0 < 2 ^ j := Nat.two_pow_pos j
  exact ht_andG n (b / 2 ^ j) (d / 2 ^ j) (x / 2 ^ j) (y / 2 ^ j) (Nat.div_le_div_right h1) (Nat.div_le_div_right h2) ((Nat.div_lt_iff_lt_mul hp).mpr (by rw [Nat.mul_comm, ← Nat.pow_add]; exact h3)) ((Nat.div_lt_iff_lt_mul hp).mpr (by rw [Nat.mul_comm, ← Nat.pow_add]; exact h4)) (fun t ht => by
    have e := h5 (j + t) (Nat.le_add_right _ _) (by omega)
    rw [Nat.pow_add, ← Nat.div_div_eq_div_mul, ← Nat.div_div_eq_div_mul, ← Nat.div_div_eq_div_mul, ← Nat.div_div_eq_div_mul] at e
    exact e)
/-- the class's way, from the bit at m - 1 downwards -/
def ht_lb (a b c d : Nat) : Nat → Nat
  | 0 => a &&& c
  | t + 1 => if (a / 2 ^ t) % 2 = 0 ∧ (c / 2 ^ t) % 2 = 0 then (if (a / 2 ^ t + 1) * 2 ^ t ≤ b then ((a / 2 ^ t + 1) * 2 ^ t) &&& c else if (c / 2 ^ t + 1) * 2 ^ t ≤ d then a &&& ((c / 2 ^ t + 1) * 2 ^ t) else ht_lb a b c d t) else ht_lb a b c d t
def ht_gb (a b c d : Nat) : Nat → Nat
  | 0 => b &&& d
  | t + 1 => if (b / 2 ^ t) % 2 = 1 ∧ (d / 2 ^ t) % 2 = 0 ∧ a ≤ b / 2 ^ t * 2 ^ t - 1 then (b / 2 ^ t * 2 ^ t - 1) &&& d else if (b / 2 ^ t) % 2 = 0 ∧ (d / 2 ^ t) % 2 = 1 ∧ c ≤ d / 2 ^ t * 2 ^ t - 1 then b &&& (d / 2 ^ t * 2 ^ t - 1) else ht_gb a b c d t
theorem ht_q {t a x : Nat} (h1 : a ≤ x) (h2 : x < (a / 2 ^ t + 1) * 2 ^ t) : x / 2 ^ t = a / 2 ^ t := by
  have hp : 0 < 2 ^ t := Nat.two_pow_pos t
  have k1 := (Nat.div_lt_iff_lt_mul hp).mpr h2
  have k2 : a / 2 ^ t ≤ x / 2 ^ t := Nat.div_le_div_right h1
  omega
theorem ht_up {t a : Nat} : a < (a / 2 ^ t + 1) * 2 ^ t := by
  have hp : 0 < 2 ^ t := Nat.two_pow_pos t
  exact (Nat.div_lt_iff_lt_mul hp).mp (Nat.lt_succ_self _)
/-- a raised side: what stays is what is above the bit -/
theorem ht_ra {t a c : Nat} (h1 : (a / 2 ^ t) % 2 = 0) (h2 : (c / 2 ^ t) % 2 = 0) : ((a / 2 ^ t + 1) * 2 ^ t) &&& c = 2 ^ (t + 1) * (a / 2 ^ (t + 1) &&& c / 2 ^ (t + 1)) := by
  have hp : 0 < 2 ^ t := Nat.two_pow_pos t
  have e : (2 : Nat) ^ (t + 1) = 2 ^ t * 2 := Nat.pow_succ ..
  have k1 : (((a / 2 ^ t + 1) * 2 ^ t) &&& c) % 2 ^ t = 0 := by
    rw [Nat.and_mod_two_pow, Nat.mul_mod_left]
    exact Nat.zero_and _
  have k2 : (((a / 2 ^ t + 1) * 2 ^ t) &&& c) / 2 ^ t = 2 * (a / 2 ^ (t + 1) &&& c / 2 ^ (t + 1)) := by
    rw [Nat.and_div_two_pow, Nat.mul_div_cancel _ hp, ht_and2 (a / 2 ^ t + 1) (c / 2 ^ t), h2, Nat.mul_zero, Nat.add_zero, e, ← Nat.div_div_eq_div_mul, ← Nat.div_div_eq_div_mul]
    rw [show (a / 2 ^ t + 1) / 2 = a / 2 ^ t / 2 by omega]
  have k3 := Nat.div_add_mod (((a / 2 ^ t + 1) * 2 ^ t) &&& c) (2 ^ t)
  rw [k1, k2, Nat.add_zero] at k3
  rw [← k3, e, Nat.mul_assoc]
theorem ht_lb_ok {a b c d : Nat} (hab : a ≤ b) (hcd : c ≤ d) (hb : b < 64) (hd : d < 64) : ∀ m, m ≤ 6 → (∀ t, m ≤ t → t < 6 → (a / 2 ^ t) % 2 = 0 → (c / 2 ^ t) % 2 = 0 → b < (a / 2 ^ t + 1) * 2 ^ t ∧ d < (c / 2 ^ t + 1) * 2 ^ t) → (∃ x y, a ≤ x ∧ x ≤ b ∧ c ≤ y ∧ y ≤ d ∧ x &&& y = ht_lb a b c d m) ∧ ∀ x y, a ≤ x → x ≤ b → c ≤ y → y ≤ d → ht_lb a b c d m ≤ x &&& y := by
  intro m
  induction m with
  | zero =>
    intro _ h
    refine ⟨⟨a, c, Nat.le_refl _, hab, Nat.le_refl _, hcd, rfl⟩, fun x y h1 h2 h3 h4 => ?_⟩
    have k := ht_andLj (j := 0) (n := 6) h1 h3 (by show x < 2 ^ 6; omega) (by show y < 2 ^ 6; omega) (fun t _ ht g1 g2 => by
      have q := h t (Nat.zero_le _) (by omega) g1 g2
      exact ⟨ht_q h1 (Nat.lt_of_le_of_lt h2 q.1), ht_q h3 (Nat.lt_of_le_of_lt h4 q.2)⟩)
    simp only [Nat.pow_zero, Nat.div_one] at k
    exact k
  | succ t ih =>
    intro hm h
    rw [ht_lb]
    have low : ∀ x y, a ≤ x → x ≤ b → c ≤ y → y ≤ d → 2 ^ (t + 1) * (a / 2 ^ (t + 1) &&& c / 2 ^ (t + 1)) ≤ x &&& y := by
      intro x y h1 h2 h3 h4
      have hn : t + 1 + (5 - t) = 6 := by omega
      have k := ht_andLj (j := t + 1) (n := 5 - t) h1 h3 (by rw [hn]; show x < 64; omega) (by rw [hn]; show y < 64; omega) (fun u hu1 hu2 g1 g2 => by
        have q := h u hu1 (by omega) g1 g2
        exact ⟨ht_q h1 (Nat.lt_of_le_of_lt h2 q.1), ht_q h3 (Nat.lt_of_le_of_lt h4 q.2)⟩)
      rw [← Nat.and_div_two_pow (a := x) (b := y)] at k
      exact Nat.le_trans (Nat.mul_le_mul_left _ k) (Nat.mul_div_le _ _)
    by_cases h0 : (a / 2 ^ t) % 2 = 0 ∧ (c / 2 ^ t) % 2 = 0
    · rw [if_pos h0]
      by_cases h1 : (a / 2 ^ t + 1) * 2 ^ t ≤ b
      · rw [if_pos h1]
        refine ⟨⟨_, c, Nat.le_of_lt ht_up, h1, Nat.le_refl _, hcd, rfl⟩, ?_⟩
        rw [ht_ra h0.1 h0.2]
        exact low
      · rw [if_neg h1]
        by_cases h2 : (c / 2 ^ t + 1) * 2 ^ t ≤ d
        · rw [if_pos h2]
          refine ⟨⟨a, _, Nat.le_refl _, hab, Nat.le_of_lt ht_up, h2, rfl⟩, ?_⟩
          rw [Nat.and_comm, ht_ra h0.2 h0.1, Nat.and_comm]
          exact low
        · rw [if_neg h2]
          refine ih (by omega) (fun u hu1 hu2 g1 g2 => ?_)
          by_cases hu : u = t
          · subst hu; exact ⟨Nat.not_le.mp h1, Nat.not_le.mp h2⟩
          · exact h u (by omega) hu2 g1 g2
    · rw [if_neg h0]
      refine ih (by omega) (fun u hu1 hu2 g1 g2 => ?_)
      by_cases hu : u = t
      · subst hu; exact absurd ⟨g1, g2⟩ h0
      · exact h u (by omega) hu2 g1 g2
/-- a lowered side: all bits below come -/
theorem ht_lo {t b : Nat} (h1 : (b / 2 ^ t) % 2 = 1) : (b / 2 ^ t * 2 ^ t - 1) / 2 ^ (t + 1) = b / 2 ^ (t + 1) ∧ (b / 2 ^ t * 2 ^ t - 1) % 2 ^ (t + 1) = 2 ^ t - 1 ∧ b / 2 ^ t * 2 ^ t - 1 ≤ b := by
  have hp : 0 < 2 ^ t := Nat.two_pow_pos t
  have e : (2 : Nat) ^ (t + 1) = 2 ^ t * 2 := Nat.pow_succ ..
  obtain ⟨u, hu⟩ : ∃ u, b / 2 ^ t = 2 * u + 1 := ⟨b / 2 ^ t / 2, by omega⟩
  have e2 : b / 2 ^ (t + 1) = u := by rw [e, ← Nat.div_div_eq_div_mul, hu]; omega
  have e3 : b / 2 ^ t * 2 ^ t - 1 = (2 ^ t - 1) + 2 ^ (t + 1) * u := by
    rw [hu, e, Nat.add_mul, Nat.one_mul, Nat.mul_comm 2 u, Nat.mul_assoc, Nat.mul_comm u, Nat.mul_comm 2 (2 ^ t)]
    omega
  have hlt : 2 ^ t - 1 < 2 ^ (t + 1) := by rw [e]; omega
  refine ⟨?_, ?_, ?_⟩
  · rw [e3, e2, Nat.add_mul_div_left _ _ (by rw [e]; omega), Nat.div_eq_of_lt hlt, Nat.zero_add]
  · rw [e3, Nat.add_mul_mod_self_left, Nat.mod_eq_of_lt hlt]
  · have := Nat.div_mul_le_self b (2 ^ t)
    omega
theorem ht_mod1 {t d : Nat} (h : (d / 2 ^ t) % 2 = 0) : d % 2 ^ (t + 1) = d % 2 ^ t := by
  have h1 := Nat.mod_pow_succ (x := d) (b := 2) (k := t)
  rw [h, Nat.mul_zero, Nat.add_zero] at h1
  exact h1
theorem ht_la {t b d : Nat} (h1 : (b / 2 ^ t) % 2 = 1) (h2 : (d / 2 ^ t) % 2 = 0) : (b / 2 ^ t * 2 ^ t - 1) &&& d = 2 ^ (t + 1) * (b / 2 ^ (t + 1) &&& d / 2 ^ (t + 1)) + d % 2 ^ (t + 1) := by
  obtain ⟨k1, k2, -⟩ := ht_lo h1
  have k3 := Nat.div_add_mod ((b / 2 ^ t * 2 ^ t - 1) &&& d) (2 ^ (t + 1))
  rw [Nat.and_div_two_pow, Nat.and_mod_two_pow, k1, k2, ht_mod1 h2, Nat.and_comm (2 ^ t - 1), Nat.and_two_pow_sub_one_eq_mod, Nat.mod_mod] at k3
  rw [← k3, ht_mod1 h2]
theorem ht_gb_ok {a b c d : Nat} (hab : a ≤ b) (hcd : c ≤ d) (hb : b < 64) (hd : d < 64) : ∀ m, m ≤ 6 → (∀ t, m ≤ t → t < 6 → ((b / 2 ^ t) % 2 = 1 → (d / 2 ^ t) % 2 = 0 → b / 2 ^ t * 2 ^ t ≤ a) ∧ ((b / 2 ^ t) % 2 = 0 → (d / 2 ^ t) % 2 = 1 → d / 2 ^ t * 2 ^ t ≤ c)) → (∃ x y, a ≤ x ∧ x ≤ b ∧ c ≤ y ∧ y ≤ d ∧ x &&& y = ht_gb a b c d m) ∧ ∀ x y, a ≤ x → x ≤ b → c ≤ y → y ≤ d → x &&& y ≤ ht_gb a b c d m := by
  have qq : ∀ {t x z b : Nat}, b / 2 ^ t * 2 ^ t ≤ z → z ≤ x → x ≤ b → x / 2 ^ t = b / 2 ^ t := by
    intro t x z b g1 g2 g3
    have hp : 0 < 2 ^ t := Nat.two_pow_pos t
    exact Nat.le_antisymm (Nat.div_le_div_right g3) ((Nat.le_div_iff_mul_le hp).mpr (Nat.le_trans g1 g2))
  intro m
  induction m with
  | zero =>
    intro _ h
    refine ⟨⟨b, d, hab, Nat.le_refl _, hcd, Nat.le_refl _, rfl⟩, fun x y h1 h2 h3 h4 => ?_⟩
    have k := ht_andGj (j := 0) (n := 6) h2 h4 (by show b < 2 ^ 6; omega) (by show d < 2 ^ 6; omega) (fun t _ ht => by
      have q := h t (Nat.zero_le _) (by omega)
      exact ⟨fun g1 g2 => qq (q.1 g1 g2) h1 h2, fun g1 g2 => qq (q.2 g1 g2) h3 h4⟩)
    simp only [Nat.pow_zero, Nat.div_one] at k
    rcases k with ⟨rfl, rfl⟩ | k
    · exact Nat.le_refl _
    · exact Nat.le_of_lt k
  | succ t ih =>
    intro hm h
    rw [ht_gb]
    have hn : t + 1 + (5 - t) = 6 := by omega
    have top : ∀ x y, a ≤ x → x ≤ b → c ≤ y → y ≤ d → (x / 2 ^ (t + 1) = b / 2 ^ (t + 1) ∧ y / 2 ^ (t + 1) = d / 2 ^ (t + 1)) ∨ x / 2 ^ (t + 1) &&& y / 2 ^ (t + 1) < b / 2 ^ (t + 1) &&& d / 2 ^ (t + 1) := by
      intro x y h1 h2 h3 h4
      exact ht_andGj (j := t + 1) (n := 5 - t) h2 h4 (by rw [hn]; show b < 64; omega) (by rw [hn]; show d < 64; omega) (fun u hu1 hu2 => by
        have q := h u hu1 (by omega)
        exact ⟨fun g1 g2 => qq (q.1 g1 g2) h1 h2, fun g1 g2 => qq (q.2 g1 g2) h3 h4⟩)
    have fin : ∀ x y z : Nat, (x / 2 ^ (t + 1) &&& y / 2 ^ (t + 1) < b / 2 ^ (t + 1) &&& d / 2 ^ (t + 1) ∨ (x / 2 ^ (t + 1) &&& y / 2 ^ (t + 1) = b / 2 ^ (t + 1) &&& d / 2 ^ (t + 1) ∧ (x &&& y) % 2 ^ (t + 1) ≤ z)) → x &&& y ≤ 2 ^ (t + 1) * (b / 2 ^ (t + 1) &&& d / 2 ^ (t + 1)) + z := by
      intro x y z g
      have hp : 0 < 2 ^ (t + 1) := Nat.two_pow_pos _
      have k3 := Nat.div_add_mod (x &&& y) (2 ^ (t + 1))
      rw [Nat.and_div_two_pow] at k3
      have k4 := Nat.mod_lt (x &&& y) hp
      rcases g with g | ⟨g1, g2⟩
      · have k5 := Nat.mul_le_mul_left (2 ^ (t + 1)) (Nat.succ_le_of_lt g)
        rw [Nat.mul_succ] at k5
        omega
      · rw [g1] at k3
        omega
    have md : ∀ {x b : Nat}, x ≤ b → x / 2 ^ (t + 1) = b / 2 ^ (t + 1) → x % 2 ^ (t + 1) ≤ b % 2 ^ (t + 1) := by
      intro x b g1 g2
      have k1 := Nat.div_add_mod x (2 ^ (t + 1))
      have k2 := Nat.div_add_mod b (2 ^ (t + 1))
      rw [g2] at k1
      omega
    by_cases h0 : (b / 2 ^ t) % 2 = 1 ∧ (d / 2 ^ t) % 2 = 0 ∧ a ≤ b / 2 ^ t * 2 ^ t - 1
    · rw [if_pos h0]
      refine ⟨⟨_, d, h0.2.2, (ht_lo h0.1).2.2, hcd, Nat.le_refl _, rfl⟩, fun x y h1 h2 h3 h4 => ?_⟩
      rw [ht_la h0.1 h0.2.1]
      refine fin x y _ ?_
      rcases top x y h1 h2 h3 h4 with ⟨g1, g2⟩ | g
      · right
        refine ⟨by rw [g1, g2], ?_⟩
        rw [Nat.and_mod_two_pow]
        exact Nat.le_trans Nat.and_le_right (md h4 g2)
      · exact Or.inl g
    · rw [if_neg h0]
      by_cases h9 : (b / 2 ^ t) % 2 = 0 ∧ (d / 2 ^ t) % 2 = 1 ∧ c ≤ d / 2 ^ t * 2 ^ t - 1
      · rw [if_pos h9]
        refine ⟨⟨b, _, hab, Nat.le_refl _, h9.2.2, (ht_lo h9.2.1).2.2, rfl⟩, fun x y h1 h2 h3 h4 => ?_⟩
        rw [Nat.and_comm b, ht_la h9.2.1 h9.1, Nat.and_comm (d / 2 ^ (t + 1))]
        refine fin x y _ ?_
        rcases top x y h1 h2 h3 h4 with ⟨g1, g2⟩ | g
        · right
          refine ⟨by rw [g1, g2], ?_⟩
          rw [Nat.and_mod_two_pow]
          exact Nat.le_trans Nat.and_le_left (md h2 g1)
        · exact Or.inl g
      · rw [if_neg h9]
        refine ih (by omega) (fun u hu1 hu2 => ?_)
        by_cases hu : u = t
        · subst hu
          have hp : 0 < 2 ^ u := Nat.two_pow_pos u
          refine ⟨fun g1 g2 => ?_, fun g1 g2 => ?_⟩
          · have g3 : ¬ a ≤ b / 2 ^ u * 2 ^ u - 1 := fun g => h0 ⟨g1, g2, g⟩
            omega
          · have g3 : ¬ c ≤ d / 2 ^ u * 2 ^ u - 1 := fun g => h9 ⟨g1, g2, g⟩
            omega
        · exact h u (by omega) hu2
theorem ht_both {a b c d : Nat} (hab : a ≤ b) (hcd : c ≤ d) (hb : b < 64) (hd : d < 64) : ht_H (ht_I ht_T (fun x y => x &&& y) a b c d) (ht_lb a b c d 6) (ht_gb a b c d 6) := by
  obtain ⟨⟨x, y, h1, h2, h3, h4, h5⟩, hl⟩ := ht_lb_ok hab hcd hb hd 6 (Nat.le_refl _) (fun t h1 h2 => by omega)
  obtain ⟨⟨x', y', k1, k2, k3, k4, k5⟩, hg⟩ := ht_gb_ok hab hcd hb hd 6 (Nat.le_refl _) (fun t h1 h2 => by omega)
  refine ⟨⟨x, y, h1, h2, h3, h4, trivial, h5⟩, ⟨x', y', k1, k2, k3, k4, trivial, k5⟩, ?_⟩
  rintro v ⟨x, y, h1, h2, h3, h4, -, h5⟩
  dsimp only at h5
  subst h5
  exact ⟨hl x y h1 h2 h3 h4, hg x y h1 h2 h3 h4⟩
