/-! foretelling: what the class says an op that takes two can give -/
def ft_f (o x y : Nat) : Nat := if o = 19 then (if x = y then 1 else 0) else if o = 20 then (if x < y then 1 else 0) else if o = 21 then (x + y) % 64 else if o = 22 then (x + 64 - y) % 64 else if o = 23 then x * y % 64 else if o = 24 then x / y else if o = 25 then x % y else x &&& y
def ft_n (o : Nat) : Nat → Prop := if o = 24 ∨ o = 25 then ht_N else ht_T
def ft_Hu (o : Nat) (r s : ft_G) (l h : Nat) : Prop := ht_H (ht_I (ft_n o) (ft_f o) r.1 r.2.1 s.1 s.2.1) l h
theorem ft_and : ∀ a, a < 64 → ∀ c, c < 64 → nI a &&& nI c = nI (a &&& c) := by decide +kernel
theorem ft_bit1 : ∀ t, t < 6 → ∀ a, a < 64 → ((nI a &&& nI (2 ^ t) = 0) ↔ (a / 2 ^ t) % 2 = 0) := by decide +kernel
theorem ft_bit2 : ∀ t, t < 6 → ∀ a, a < 64 → (a / 2 ^ t) % 2 = 0 → (nI a ||| nI (2 ^ t)) &&& (-(nI (2 ^ t))) = nI ((a / 2 ^ t + 1) * 2 ^ t) ∧ (a / 2 ^ t + 1) * 2 ^ t < 64 := by decide +kernel
theorem ft_bit3 : ∀ t, t < 6 → ∀ a, a < 64 → (a / 2 ^ t) % 2 = 1 → (nI a &&& (nI (2 ^ t) ^^^ (-1))) ||| (nI (2 ^ t) - 1) = nI (a / 2 ^ t * 2 ^ t - 1) := by decide +kernel
theorem ft_fd1 : ∀ s, s < 128 → M_C_Math_floorDiv (nI s) 64 = some (nI (s / 64)) := by decide +kernel
theorem ft_fd2 : ∀ p, p < 64 → ∀ q, q < 64 → M_C_Math_floorDiv (nI p - nI q) 64 = some (nI ((p + 64 - q) / 64) - 1) := by decide +kernel
section FT4
variable {r s : ft_G} {a b c d l h : Nat}
theorem ft_f_lt {o x y : Nat} (hx : x < 64) (hy : y < 64) : ft_f o x y < 64 := by
  unfold ft_f
  by_cases c1 : o = 19
  · rw [if_pos c1]
    by_cases z : x = y
    · rw [if_pos z]; omega
    · rw [if_neg z]; omega
  rw [if_neg c1]
  by_cases c1 : o = 20
  · rw [if_pos c1]
    by_cases z : x < y
    · rw [if_pos z]; omega
    · rw [if_neg z]; omega
  rw [if_neg c1]
  by_cases c1 : o = 21
  · rw [if_pos c1]; omega
  rw [if_neg c1]
  by_cases c1 : o = 22
  · rw [if_pos c1]; omega
  rw [if_neg c1]
  by_cases c1 : o = 23
  · rw [if_pos c1]; exact Nat.mod_lt _ (by decide)
  rw [if_neg c1]
  by_cases c1 : o = 24
  · rw [if_pos c1]; exact Nat.lt_of_le_of_lt (Nat.div_le_self _ _) hx
  rw [if_neg c1]
  by_cases c1 : o = 25
  · rw [if_pos c1]; exact Nat.lt_of_le_of_lt (Nat.mod_le _ _) hx
  rw [if_neg c1]
  exact Nat.lt_of_le_of_lt Nat.and_le_left hx
theorem ft_Hu.lt {o : Nat} (hr : ft_ok r) (hs : ft_ok s) (H : ft_Hu o r s l h) : l ≤ h ∧ h < 64 := by
  obtain ⟨h1, h2, h3⟩ := H
  refine ⟨(h3 l h1).2, ?_⟩
  obtain ⟨x, y, k1, k2, k3, k4, k5, k6⟩ := h2
  unfold ft_ok at hr hs
  rw [← k6]
  exact ft_f_lt (by omega) (by omega)
theorem ft_same (hr : ft_ok r) (hs : ft_ok s) : M_C_Ranges_same (ft_c r) (ft_c s) = some (ft_c (if (r.1 ≤ s.2.1 ∧ s.1 ≤ r.2.1) ∧ r.1 = r.2.1 ∧ s.1 = s.2.1 then 1 else 0, if r.1 ≤ s.2.1 ∧ s.1 ≤ r.2.1 then 1 else 0, 0)) := by
  have hr' := hr
  have hs' := hs
  unfold ft_ok at hr' hs'
  have e27 : ∀ m : Nat, m < 2 → B_C_Ranges_same_27 (ft_c r) (ft_c s) (nI m) = some (ft_c (if m = 1 ∧ r.1 = r.2.1 ∧ s.1 = s.2.1 then 1 else 0, m, 0)) := fun m hm => by
    unfold B_C_Ranges_same_27 B_C_Ranges_same_54
    rw [ft_least hr, rq_b, ft_great hr, rq_b]
    have fin : ∀ t : Nat, t < 2 → B_C_Ranges_same_55 (nI m) (nI t) = some (ft_c (if m = 1 ∧ t = 1 then 1 else 0, m, 0)) := by
      rcases (show m = 0 ∨ m = 1 by omega) with rfl | rfl
      · intro t ht
        rcases (show t = 0 ∨ t = 1 by omega) with rfl | rfl
        · rfl
        · rfl
      · intro t ht
        rcases (show t = 0 ∨ t = 1 by omega) with rfl | rfl
        · rfl
        · rfl
    by_cases z1 : r.1 = r.2.1
    · rw [if_pos (show nI r.1 = nI r.2.1 by rw [z1]), ft_least hs, rq_b, ft_great hs, rq_b]
      by_cases z2 : s.1 = s.2.1
      · rw [if_pos (show nI s.1 = nI s.2.1 by rw [z2])]
        refine (fin 1 (by decide)).trans ?_
        by_cases z3 : m = 1
        · rw [if_pos ⟨z3, rfl⟩, if_pos ⟨z3, z1, z2⟩]
        · rw [if_neg (fun q => z3 q.1), if_neg (fun q => z3 q.1)]
      · rw [if_neg (fun e => z2 ((nI_eq (by omega) (by omega)).mp e))]
        refine (fin 0 (by decide)).trans ?_
        rw [if_neg (fun q => absurd q.2 (by decide)), if_neg (fun q => z2 q.2.2)]
    · rw [if_neg (fun e => z1 ((nI_eq (by omega) (by omega)).mp e))]
      refine (fin 0 (by decide)).trans ?_
      rw [if_neg (fun q => absurd q.2 (by decide)), if_neg (fun q => z1 q.2.1)]
  unfold M_C_Ranges_same B_C_Ranges_same_26
  rw [ft_least hr, rq_b, ft_great hs, rq_b]
  by_cases z1 : r.1 ≤ s.2.1
  · rw [if_neg (nI_nlt z1 (by omega)), ft_least hs, rq_b, ft_great hr, rq_b]
    by_cases z2 : s.1 ≤ r.2.1
    · rw [if_neg (nI_nlt z2 (by omega))]
      refine (e27 1 (by decide)).trans ?_
      by_cases z3 : r.1 = r.2.1 ∧ s.1 = s.2.1
      · rw [if_pos ⟨rfl, z3⟩, if_pos ⟨⟨z1, z2⟩, z3⟩, if_pos ⟨z1, z2⟩]
      · rw [if_neg (fun q => z3 q.2), if_neg (fun q => z3 q.2), if_pos ⟨z1, z2⟩]
    · rw [if_pos (nI_lt (by omega) (by omega))]
      refine (e27 0 (by decide)).trans ?_
      rw [if_neg (fun q => absurd q.1 (by decide)), if_neg (fun q => z2 q.1.2), if_neg (fun q => z2 q.2)]
  · rw [if_pos (nI_lt (by omega) (by omega))]
    refine (e27 0 (by decide)).trans ?_
    rw [if_neg (fun q => absurd q.1 (by decide)), if_neg (fun q => z1 q.1.1), if_neg (fun q => z1 q.1)]
theorem ft_wrap {x y : Int32} {p q p' q' : Nat} (h1 : M_C_Math_floorDiv x 64 = some (nI p - nI 1)) (h2 : M_C_Math_floorDiv y 64 = some (nI q - nI 1)) (hp : p < 1000) (hq : q < 1000) (h3 : x &&& 63 = nI p') (h4 : y &&& 63 = nI q') (hq' : q' < 64) (hle : p = q → p' ≤ q') : M_C_Ranges_wrapped x y = some (ft_c (if p = q then p' else 0, if p = q then q' else 63, 0)) := by
  unfold M_C_Ranges_wrapped
  rw [h1, rq_b, h2, rq_b]
  by_cases z : p = q
  · rw [if_pos (by rw [z]), rn_fm, rq_b, rn_fm, rq_b, h3, h4, ft_of (hle z) hq', rq_b, if_pos z, if_pos z]
  · have ne : ¬ nI p - nI 1 = nI q - nI 1 := fun e => z ((nI_eq (by omega) (by omega)).mp (by
      have e2 := congrArg (fun w => w + nI 1) e
      simpa [Int32.sub_add_cancel] using e2))
    rw [if_neg ne, if_neg z, if_neg z]
    rfl
end FT4
/-! running least and greatest -/
def ht_P (S : Nat → Prop) (l g : Nat) : Prop := (∀ v, S v → l ≤ v ∧ v ≤ g) ∧ ((l = 63 ∧ g = 0 ∧ ∀ v, ¬ S v) ∨ (S l ∧ S g))
section FT5
variable {S T U : Nat → Prop} {l g l' g' : Nat} {r s : ft_G}
theorem ht_P.add (h : ht_P S l g) (h2 : ht_H T l' g') (hg : g' ≤ 63) (hU : ∀ v, U v ↔ S v ∨ T v) : ht_P U (min l l') (max g g') := by
  obtain ⟨a1, a2⟩ := h
  obtain ⟨b1, b2, b3⟩ := h2
  have q := b3 l' b1
  refine ⟨fun v hv => ?_, Or.inr ?_⟩
  · rcases (hU v).mp hv with hv | hv
    · have := a1 v hv; omega
    · have := b3 v hv; omega
  · rcases a2 with ⟨e1, e2, -⟩ | ⟨e1, e2⟩
    · rw [show min l l' = l' by omega, show max g g' = g' by omega]
      exact ⟨(hU _).mpr (Or.inr b1), (hU _).mpr (Or.inr b2)⟩
    · constructor
      · by_cases z : l ≤ l'
        · rw [Nat.min_eq_left z]; exact (hU _).mpr (Or.inl e1)
        · rw [Nat.min_eq_right (by omega)]; exact (hU _).mpr (Or.inr b1)
      · by_cases z : g ≤ g'
        · rw [Nat.max_eq_right z]; exact (hU _).mpr (Or.inr b2)
        · rw [Nat.max_eq_left (by omega)]; exact (hU _).mpr (Or.inl e2)
theorem ht_P.fin (h : ht_P S l g) (hne : ∃ v, S v) : ht_H S l g := by
  obtain ⟨a1, a2⟩ := h
  rcases a2 with ⟨-, -, e⟩ | ⟨e1, e2⟩
  · obtain ⟨v, hv⟩ := hne
    exact absurd hv (e v)
  · exact ⟨e1, e2, a1⟩
theorem ht_P.cg (h : ht_P S l g) (hU : ∀ v, U v ↔ S v) : ht_P U l g := by
  have e : U = S := funext fun v => propext (hU v)
  rw [e]; exact h
theorem ht_H.cg (h : ht_H S l g) (hU : ∀ v, U v ↔ S v) : ht_H U l g := by
  have e : U = S := funext fun v => propext (hU v)
  rw [e]; exact h
theorem ft_min {a b : Nat} (ha : a < 100000) (hb : b < 100000) : rt_min (nI a) (nI b) = nI (min a b) := by
  unfold rt_min
  by_cases z : b < a
  · rw [if_pos (nI_lt z (by omega)), Nat.min_eq_right (by omega)]
  · rw [if_neg (nI_nlt (by omega) (by omega)), Nat.min_eq_left (by omega)]
theorem ft_max {a b : Nat} (ha : a < 100000) (hb : b < 100000) : rt_max (nI a) (nI b) = nI (max a b) := by
  unfold rt_max
  by_cases z : a < b
  · rw [if_pos (nI_lt z (by omega)), Nat.max_eq_right (by omega)]
  · rw [if_neg (nI_nlt (by omega) (by omega)), Nat.max_eq_left (by omega)]
theorem ft_rem {a d : Nat} (ha : a < 100000) (h0 : 0 < d) (hd : d < 100000) : rt_rem (nI a) (nI d) = some (nI (a % d)) := by
  unfold rt_rem
  rw [if_neg (nI_ne0 h0 (by omega)), pk_rem (by omega) h0 (by omega)]
theorem ft_div {a d : Nat} (ha : a < 100000) (h0 : 0 < d) (hd : d < 100000) : rt_div (nI a) (nI d) = some (nI (a / d)) := by
  unfold rt_div
  rw [if_neg (nI_ne0 h0 (by omega)), pk_div (by omega) h0 (by omega)]
theorem ft_t62 (hr : ft_ok r) (hs : ft_ok s) (K : Int32 → Int32 → Int32 → Int32 → Int32 → Option Int32) {i : Nat} (hi : i < 64) : ∀ (e j l g m : Nat) (S : Nat → Prop), j + e = s.2.1 + 1 → e + 1 ≤ m → l ≤ 63 → g ≤ 63 → ht_P S l g → ∃ l' g', l' ≤ 63 ∧ g' ≤ 63 ∧ ht_P (fun v => S v ∨ ∃ y, j ≤ y ∧ y ≤ s.2.1 ∧ i * y % 64 = v) l' g' ∧ B_C_Ranges_times_62 K m (ft_c r) (ft_c s) (nI l) (nI g) (nI i) (nI j) = if l' = 0 ∧ g' = 63 then some 4032 else K (ft_c r) (ft_c s) (nI l') (nI g') (nI (i + 1)) := by
  have hs' := hs
  unfold ft_ok at hs'
  intro e
  induction e with
  | zero =>
    intro j l g m S hj hm hl hg hP
    obtain ⟨m, rfl⟩ : ∃ q, m = q + 1 := ⟨m - 1, by omega⟩
    refine ⟨l, g, hl, hg, hP.cg (fun v => ⟨fun h => ?_, Or.inl⟩), ?_⟩
    · rcases h with h | ⟨y, y1, y2, -⟩
      · exact h
      · omega
    · rw [B_C_Ranges_times_62, ft_great hs, rq_b, if_pos (nI_lt (by omega) (by omega))]
      unfold B_C_Ranges_times_115
      by_cases z1 : l = 0
      · rw [if_pos (show nI l = 0 by rw [z1]; rfl)]
        by_cases z2 : g = 63
        · rw [if_pos (show nI g = 63 by rw [z2]; rfl), if_pos ⟨z1, z2⟩]
        · rw [if_neg (show ¬ nI g = 63 from fun q => z2 ((nI_eq (b := 63) (by omega) (by decide)).mp q)), if_neg (fun q => z2 q.2), nI_1]
      · rw [if_neg (nI_ne0 (by omega) (by omega)), if_neg (fun q => z1 q.1), nI_1]
  | succ e ih =>
    intro j l g m S hj hm hl hg hP
    obtain ⟨m, rfl⟩ : ∃ q, m = q + 1 := ⟨m - 1, by omega⟩
    have ij : i * j ≤ 63 * 63 := Nat.mul_le_mul (by omega) (by omega)
    have vl : i * j % 64 ≤ 63 := by omega
    obtain ⟨l', g', q1, q2, q3, q4⟩ := ih (j + 1) (min l (i * j % 64)) (max g (i * j % 64)) m (fun v => S v ∨ v = i * j % 64) (by omega) (by omega) (by omega) (by omega) (hP.add (T := fun v => v = i * j % 64) ⟨rfl, rfl, fun v hv => by rw [hv]; exact ⟨Nat.le_refl _, Nat.le_refl _⟩⟩ vl (fun v => Iff.rfl))
    refine ⟨l', g', q1, q2, q3.cg (fun v => ⟨fun h => ?_, fun h => ?_⟩), ?_⟩
    · rcases h with h | ⟨y, y1, y2, y3⟩
      · exact Or.inl (Or.inl h)
      · by_cases z : y = j
        · subst z; exact Or.inl (Or.inr y3.symm)
        · exact Or.inr ⟨y, by omega, y2, y3⟩
    · rcases h with (h | h) | ⟨y, y1, y2, y3⟩
      · exact Or.inl h
      · exact Or.inr ⟨j, Nat.le_refl _, by omega, h.symm⟩
      · exact Or.inr ⟨y, by omega, y2, y3⟩
    · have rm : rt_rem (nI (i * j)) 64 = some (nI (i * j % 64)) := ft_rem (by omega) (by decide) (by decide)
      rw [B_C_Ranges_times_62, ft_great hs, rq_b, if_neg (nI_nlt (by omega) (by omega)), pk_mul, rm, rq_b, ft_min (by omega) (by omega), ft_max (by omega) (by omega), nI_1]
      exact q4
theorem ft_t47 (hr : ft_ok r) (hs : ft_ok s) {I : Nat → Prop} (hI : ∀ v, I v ↔ ∃ x y, r.1 ≤ x ∧ x ≤ r.2.1 ∧ s.1 ≤ y ∧ y ≤ s.2.1 ∧ x * y % 64 = v) : ∀ (e i l g m : Nat) (S : Nat → Prop), i + e = r.2.1 + 1 → e + 1 ≤ m → l ≤ 63 → g ≤ 63 → ht_P S l g → r.1 ≤ i → (∀ v, S v ↔ ∃ x y, r.1 ≤ x ∧ x < i ∧ s.1 ≤ y ∧ y ≤ s.2.1 ∧ x * y % 64 = v) → ∃ l' g', ht_H I l' g' ∧ B_C_Ranges_times_47 m (ft_c r) (ft_c s) (nI l) (nI g) (nI i) = some (ft_c (l', g', 0)) := by
  have hr' := hr
  have hs' := hs
  unfold ft_ok at hr' hs'
  intro e
  induction e with
  | zero =>
    intro i l g m S hi hm hl hg hP hri hS
    obtain ⟨m, rfl⟩ : ∃ q, m = q + 1 := ⟨m - 1, by omega⟩
    have H : ht_H I l g := (hP.cg (fun v => (hI v).trans ⟨fun ⟨x, y, a1, a2, a3⟩ => (hS v).mpr ⟨x, y, a1, by omega, a3⟩, fun h => by
      obtain ⟨x, y, a1, a2, a3⟩ := (hS v).mp h
      exact ⟨x, y, a1, by omega, a3⟩⟩)).fin ⟨_, (hI _).mpr ⟨r.1, s.1, Nat.le_refl _, by omega, Nat.le_refl _, by omega, rfl⟩⟩
    refine ⟨l, g, H, ?_⟩
    have lg := (H.2.2 l H.1).2
    rw [B_C_Ranges_times_47, ft_great hr, rq_b, if_pos (nI_lt (by omega) (by omega)), ft_of lg (by omega)]
    rfl
  | succ e ih =>
    intro i l g m S hi hm hl hg hP hri hS
    obtain ⟨m, rfl⟩ : ∃ q, m = q + 1 := ⟨m - 1, by omega⟩
    obtain ⟨l', g', q1, q2, q3, q4⟩ := ft_t62 hr hs (B_C_Ranges_times_47 m) (i := i) (by omega) (s.2.1 + 1 - s.1) s.1 l g FU S (by omega) (by show s.2.1 + 1 - s.1 + 1 ≤ 2000000; omega) hl hg hP
    have eq : B_C_Ranges_times_47 (m + 1) (ft_c r) (ft_c s) (nI l) (nI g) (nI i) = if l' = 0 ∧ g' = 63 then some 4032 else B_C_Ranges_times_47 m (ft_c r) (ft_c s) (nI l') (nI g') (nI (i + 1)) := by
      rw [B_C_Ranges_times_47, ft_great hr, rq_b, if_neg (nI_nlt (by omega) (by omega)), ft_least hs, rq_b]
      exact q4
    have hS' : ∀ v, (S v ∨ ∃ y, s.1 ≤ y ∧ y ≤ s.2.1 ∧ i * y % 64 = v) ↔ ∃ x y, r.1 ≤ x ∧ x < i + 1 ∧ s.1 ≤ y ∧ y ≤ s.2.1 ∧ x * y % 64 = v := fun v => by
      constructor
      · intro h
        rcases h with h | ⟨y, y1, y2, y3⟩
        · obtain ⟨x, y, a1, a2, a3⟩ := (hS v).mp h
          exact ⟨x, y, a1, by omega, a3⟩
        · exact ⟨i, y, hri, by omega, y1, y2, y3⟩
      · rintro ⟨x, y, a1, a2, a3, a4, a5⟩
        by_cases z : x = i
        · subst z; exact Or.inr ⟨y, a3, a4, a5⟩
        · exact Or.inl ((hS v).mpr ⟨x, y, a1, by omega, a3, a4, a5⟩)
    by_cases z : l' = 0 ∧ g' = 63
    · rw [if_pos z] at eq
      obtain ⟨rfl, rfl⟩ := z
      have at2 := q3.2
      have toI : ∀ v, (S v ∨ ∃ y, s.1 ≤ y ∧ y ≤ s.2.1 ∧ i * y % 64 = v) → I v := fun v h => by
        obtain ⟨x, y, a1, a2, a3⟩ := (hS' v).mp h
        exact (hI v).mpr ⟨x, y, a1, by omega, a3⟩
      rcases at2 with ⟨q, -⟩ | ⟨w1, w2⟩
      · omega
      · refine ⟨0, 63, ⟨toI 0 w1, toI 63 w2, fun v hv => ?_⟩, eq⟩
        obtain ⟨x, y, a1, a2, a3, a4, a5⟩ := (hI v).mp hv
        omega
    · rw [if_neg z] at eq
      obtain ⟨l2, g2, w1, w2⟩ := ih (i + 1) l' g' m _ (by omega) (by omega) q1 q2 q3 (by omega) hS'
      exact ⟨l2, g2, w1, eq.trans w2⟩
theorem ft_times (hr : ft_ok r) (hs : ft_ok s) : ∃ l g, ft_Hu 23 r s l g ∧ M_C_Ranges_times (ft_c r) (ft_c s) = some (ft_c (l, g, 0)) := by
  have hr' := hr
  have hs' := hs
  unfold ft_ok at hr' hs'
  have mul : r.2.1 * s.2.1 ≤ 63 * 63 := Nat.mul_le_mul (by omega) (by omega)
  unfold M_C_Ranges_times
  rw [ft_great hr, rq_b, ft_great hs, rq_b, pk_mul]
  by_cases z : 64 ≤ r.2.1 * s.2.1
  · rw [if_pos (show (64 : Int32) ≤ nI (r.2.1 * s.2.1) from nI_le (a := 64) z (by omega)), ft_least hr, rq_b]
    have hI : ∀ v, ht_I (ft_n 23) (ft_f 23) r.1 r.2.1 s.1 s.2.1 v ↔ ∃ x y, r.1 ≤ x ∧ x ≤ r.2.1 ∧ s.1 ≤ y ∧ y ≤ s.2.1 ∧ x * y % 64 = v := fun v =>
      ⟨fun ⟨x, y, a1, a2, a3, a4, _, a6⟩ => ⟨x, y, a1, a2, a3, a4, a6⟩, fun ⟨x, y, a1, a2, a3, a4, a6⟩ => ⟨x, y, a1, a2, a3, a4, trivial, a6⟩⟩
    obtain ⟨l, g, w1, w2⟩ := ft_t47 hr hs hI (r.2.1 + 1 - r.1) r.1 63 0 FU (fun _ => False) (by omega) (by show r.2.1 + 1 - r.1 + 1 ≤ 2000000; omega) (by omega) (by omega) ⟨fun v h => h.elim, Or.inl ⟨rfl, rfl, fun v h => h⟩⟩ (Nat.le_refl _) (fun v => ⟨fun h => h.elim, fun ⟨x, y, a1, a2, _⟩ => by omega⟩)
    exact ⟨l, g, w1, w2⟩
  · rw [if_neg (show ¬ (64 : Int32) ≤ nI (r.2.1 * s.2.1) from nI_ge (b := 64) (by omega) (by decide)), ft_least hr, rq_b, ft_least hs, rq_b, rq_b, rq_b, pk_mul, pk_mul, ft_of (Nat.mul_le_mul hr'.1 hs'.1) (by omega), rq_b]
    exact ⟨_, _, ht_times hr'.1 hs'.1 (by omega), rfl⟩
end FT5
