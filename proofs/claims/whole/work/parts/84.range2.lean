/-! foretelling: what the class says an op that takes two can give: the rest -/
section FT6
variable {r s : ft_G} {l g : Nat}
theorem ft_r25 (hr : ft_ok r) (hs : ft_ok s) {I : Nat → Prop} (hI : ∀ v, I v ↔ ∃ x y, r.1 ≤ x ∧ x ≤ r.2.1 ∧ s.1 ≤ y ∧ y ≤ s.2.1 ∧ 0 < y ∧ x % y = v) (hd : 0 < s.2.1) : ∀ (e y l g m : Nat) (S : Nat → Prop), y + e = s.2.1 + 1 → e + 1 ≤ m → l ≤ 63 → g ≤ 63 → ht_P S l g → 0 < y → s.1 ≤ y → (∀ v, S v ↔ ∃ x z, r.1 ≤ x ∧ x ≤ r.2.1 ∧ s.1 ≤ z ∧ z < y ∧ 0 < z ∧ x % z = v) → ∃ l' g', ht_H I l' g' ∧ B_C_Ranges_rest_25 m (ft_c r) (ft_c s) (nI l) (nI g) (nI y) = some (ft_c (l', g', 0)) := by
  have hr' := hr
  have hs' := hs
  unfold ft_ok at hr' hs'
  intro e
  induction e with
  | zero =>
    intro y l g m S hi hm hl hg hP hy0 hy hS
    obtain ⟨m, rfl⟩ : ∃ q, m = q + 1 := ⟨m - 1, by omega⟩
    have H : ht_H I l g := (hP.cg (fun v => (hI v).trans ⟨fun ⟨x, z, a1, a2, a3, a4, a5, a6⟩ => (hS v).mpr ⟨x, z, a1, a2, a3, by omega, a5, a6⟩, fun h => by
      obtain ⟨x, z, a1, a2, a3, a4, a5, a6⟩ := (hS v).mp h
      exact ⟨x, z, a1, a2, a3, by omega, a5, a6⟩⟩)).fin ⟨_, (hI _).mpr ⟨r.1, s.2.1, Nat.le_refl _, by omega, by omega, Nat.le_refl _, hd, rfl⟩⟩
    refine ⟨l, g, H, ?_⟩
    have lg := (H.2.2 l H.1).2
    rw [B_C_Ranges_rest_25, ft_great hs, rq_b, if_pos (nI_lt (by omega) (by omega)), ft_of lg (by omega)]
    rfl
  | succ e ih =>
    intro y l g m S hi hm hl hg hP hy0 hy hS
    obtain ⟨m, rfl⟩ : ∃ q, m = q + 1 := ⟨m - 1, by omega⟩
    have H1 := ht_rest1 (a := r.1) (b := r.2.1) (y := y) hr'.1 hy0
    have ma : r.1 % y < y := Nat.mod_lt _ hy0
    have mb : r.2.1 % y < y := Nat.mod_lt _ hy0
    have eq : B_C_Ranges_rest_25 (m + 1) (ft_c r) (ft_c s) (nI l) (nI g) (nI y) = B_C_Ranges_rest_25 m (ft_c r) (ft_c s) (nI (min l (if r.1 / y = r.2.1 / y then r.1 % y else 0))) (nI (max g (if r.1 / y = r.2.1 / y then r.2.1 % y else y - 1))) (nI (y + 1)) := by
      rw [B_C_Ranges_rest_25, ft_great hs, rq_b, if_neg (nI_nlt (by omega) (by omega)), ft_least hr, rq_b, ft_rem (by omega) hy0 (by omega), rq_b, ft_great hr, rq_b, ft_rem (by omega) hy0 (by omega), rq_b, rq_b, ft_div (by omega) hy0 (by omega), rq_b, rq_b, ft_div (by omega) hy0 (by omega), rq_b]
      unfold B_C_Ranges_rest_74 B_C_Ranges_rest_88 B_C_Ranges_rest_107
      have da : r.1 / y ≤ r.1 := Nat.div_le_self _ _
      have db : r.2.1 / y ≤ r.2.1 := Nat.div_le_self _ _
      by_cases z : r.1 / y = r.2.1 / y
      · rw [if_pos (show nI (r.1 / y) = nI (r.2.1 / y) by rw [z]), if_pos rfl, if_pos rfl, ft_min (by omega) (by omega), ft_max (by omega) (by omega), nI_1, if_pos z, if_pos z]
      · rw [if_neg (fun q => z ((nI_eq (by omega) (by omega)).mp q)), if_neg (by decide), if_neg (by decide), if_neg z, if_neg z, show nI y - 1 = nI (y - 1) from pk_sub (b := 1) (by omega), show (0 : Int32) = nI 0 from rfl, ft_min (by omega) (by omega), ft_max (by omega) (by omega), nI_1]
    have hg2 : (if r.1 / y = r.2.1 / y then r.2.1 % y else y - 1) ≤ 63 := by
      by_cases z : r.1 / y = r.2.1 / y
      · rw [if_pos z]; omega
      · rw [if_neg z]; omega
    have hl2 : (if r.1 / y = r.2.1 / y then r.1 % y else 0) ≤ 63 := by
      by_cases z : r.1 / y = r.2.1 / y
      · rw [if_pos z]; omega
      · rw [if_neg z]; omega
    have hP' := hP.add (U := fun v => S v ∨ ∃ x, r.1 ≤ x ∧ x ≤ r.2.1 ∧ x % y = v) H1 hg2 (fun v => Iff.rfl)
    obtain ⟨l2, g2, w1, w2⟩ := ih (y + 1) _ _ m _ (by omega) (by omega) (by omega) (by omega) hP' (by omega) (by omega) (fun v => by
      constructor
      · intro h
        rcases h with h | ⟨x, x1, x2, x3⟩
        · obtain ⟨x, z, a1, a2, a3, a4, a5, a6⟩ := (hS v).mp h
          exact ⟨x, z, a1, a2, a3, by omega, a5, a6⟩
        · exact ⟨x, y, x1, x2, hy, by omega, hy0, x3⟩
      · rintro ⟨x, z, a1, a2, a3, a4, a5, a6⟩
        by_cases q : z = y
        · subst q; exact Or.inr ⟨x, a1, a2, a6⟩
        · exact Or.inl ((hS v).mpr ⟨x, z, a1, a2, a3, by omega, a5, a6⟩))
    exact ⟨l2, g2, w1, eq.trans w2⟩
theorem ft_rest (hr : ft_ok r) (hs : ft_ok s) : (s.2.1 = 0 ∧ M_C_Ranges_rest (ft_c r) (ft_c s) = some (-3)) ∨ (0 < s.2.1 ∧ ∃ l g, ft_Hu 25 r s l g ∧ M_C_Ranges_rest (ft_c r) (ft_c s) = some (ft_c (l, g, 0))) := by
  have hs' := hs
  unfold ft_ok at hs'
  unfold M_C_Ranges_rest
  rw [ft_great hs, rq_b]
  by_cases z : s.2.1 = 0
  · rw [if_pos (show nI s.2.1 = 0 by rw [z]; rfl)]
    exact Or.inl ⟨z, rfl⟩
  · rw [if_neg (nI_ne0 (by omega) (by omega)), ft_least hs, rq_b, show (1 : Int32) = nI 1 from rfl, ft_max (by omega) (by omega)]
    have hI : ∀ v, ht_I (ft_n 25) (ft_f 25) r.1 r.2.1 s.1 s.2.1 v ↔ ∃ x y, r.1 ≤ x ∧ x ≤ r.2.1 ∧ s.1 ≤ y ∧ y ≤ s.2.1 ∧ 0 < y ∧ x % y = v := fun v => Iff.rfl
    obtain ⟨l, g, w1, w2⟩ := ft_r25 hr hs hI (by omega) (s.2.1 + 1 - max 1 s.1) (max 1 s.1) 63 0 FU (fun _ => False) (by omega) (by show s.2.1 + 1 - max 1 s.1 + 1 ≤ 2000000; omega) (by omega) (by omega) ⟨fun v h => h.elim, Or.inl ⟨rfl, rfl, fun v h => h⟩⟩ (by omega) (by omega) (fun v => ⟨fun h => h.elim, fun ⟨x, y, a1, a2, a3, a4, a5, _⟩ => by omega⟩)
    exact Or.inr ⟨by omega, l, g, w1, w2⟩
theorem ft_over (hr : ft_ok r) (hs : ft_ok s) : (s.2.1 = 0 ∧ M_C_Ranges_over (ft_c r) (ft_c s) = some (-3)) ∨ (0 < s.2.1 ∧ ∃ l g, ft_Hu 24 r s l g ∧ M_C_Ranges_over (ft_c r) (ft_c s) = some (ft_c (l, g, 0))) := by
  have hr' := hr
  have hs' := hs
  unfold ft_ok at hr' hs'
  unfold M_C_Ranges_over
  rw [ft_great hs, rq_b]
  by_cases z : s.2.1 = 0
  · rw [if_pos (show nI s.2.1 = 0 by rw [z]; rfl)]
    exact Or.inl ⟨z, rfl⟩
  · have H : ft_Hu 24 r s (r.1 / s.2.1) (r.2.1 / max 1 s.1) := ht_over hr'.1 hs'.1 (by omega)
    obtain ⟨q1, q2⟩ := H.lt hr hs
    rw [if_neg (nI_ne0 (by omega) (by omega)), ft_least hr, rq_b, ft_div (by omega) (by omega) (by omega), rq_b, ft_great hr, rq_b, ft_least hs, rq_b, show (1 : Int32) = nI 1 from rfl, ft_max (by omega) (by omega), ft_div (by omega) (by omega) (by omega), rq_b, ft_of q1 q2, rq_b]
    exact Or.inr ⟨by omega, _, _, H, rfl⟩
def ft_bt (t : Nat) : Int32 := if t = 0 then 0 else nI (2 ^ (t - 1))
theorem ft_half : ∀ t, t < 6 → rt_div (nI (2 ^ t)) 2 = some (ft_bt t) := by decide +kernel
theorem ft_lb (hr : ft_ok r) (hs : ft_ok s) : ∀ t m, t ≤ 6 → t + 1 ≤ m → B_C_Ranges_leastBoth_14 m (ft_c r) (ft_c s) (nI r.1) (nI s.1) (ft_bt t) = some (nI (ht_lb r.1 r.2.1 s.1 s.2.1 t)) := by
  have hr' := hr
  have hs' := hs
  unfold ft_ok at hr' hs'
  intro t
  induction t with
  | zero =>
    intro m _ hm
    obtain ⟨m, rfl⟩ : ∃ q, m = q + 1 := ⟨m - 1, by omega⟩
    rw [B_C_Ranges_leastBoth_14, if_pos (show ft_bt 0 ≤ 0 by decide), ft_and _ (by omega) _ (by omega)]
    rfl
  | succ t ih =>
    intro m ht hm
    obtain ⟨m, rfl⟩ : ∃ q, m = q + 1 := ⟨m - 1, by omega⟩
    have bt : ft_bt (t + 1) = nI (2 ^ t) := rfl
    have p2 : 2 ^ t ≤ 2 ^ 5 := Nat.pow_le_pow_right (by decide) (by omega)
    have pp : 0 < 2 ^ t := Nat.two_pow_pos t
    have go : B_C_Ranges_leastBoth_81 (B_C_Ranges_leastBoth_14 m) (ft_c r) (ft_c s) (nI r.1) (nI s.1) (nI (2 ^ t)) = some (nI (ht_lb r.1 r.2.1 s.1 s.2.1 t)) := by
      unfold B_C_Ranges_leastBoth_81
      rw [ft_half t (by omega), rq_b]
      exact ih m (by omega) (by omega)
    rw [B_C_Ranges_leastBoth_14, bt, if_neg (nI_nle pp (by omega)), go]
    show _ = some (nI (if (r.1 / 2 ^ t) % 2 = 0 ∧ (s.1 / 2 ^ t) % 2 = 0 then (if (r.1 / 2 ^ t + 1) * 2 ^ t ≤ r.2.1 then ((r.1 / 2 ^ t + 1) * 2 ^ t) &&& s.1 else if (s.1 / 2 ^ t + 1) * 2 ^ t ≤ s.2.1 then r.1 &&& ((s.1 / 2 ^ t + 1) * 2 ^ t) else ht_lb r.1 r.2.1 s.1 s.2.1 t) else ht_lb r.1 r.2.1 s.1 s.2.1 t))
    have b1 := ft_bit1 t (by omega) r.1 (by omega)
    have b2 := ft_bit1 t (by omega) s.1 (by omega)
    by_cases z1 : (r.1 / 2 ^ t) % 2 = 0
    · rw [if_pos (b1.mpr z1)]
      by_cases z2 : (s.1 / 2 ^ t) % 2 = 0
      · obtain ⟨u1, u2⟩ := ft_bit2 t (by omega) r.1 (by omega) z1
        obtain ⟨v1, v2⟩ := ft_bit2 t (by omega) s.1 (by omega) z2
        rw [if_pos (b2.mpr z2), ft_great hr, rq_b, ft_great hs, u1, v1, if_pos (show (r.1 / 2 ^ t) % 2 = 0 ∧ (s.1 / 2 ^ t) % 2 = 0 from ⟨z1, z2⟩)]
        by_cases z3 : (r.1 / 2 ^ t + 1) * 2 ^ t ≤ r.2.1
        · rw [if_neg (nI_nlt z3 (by omega)), if_pos z3, ft_and _ u2 _ (by omega)]
        · rw [if_pos (nI_lt (by omega) (by omega)), if_neg z3, rq_b]
          by_cases z4 : (s.1 / 2 ^ t + 1) * 2 ^ t ≤ s.2.1
          · rw [if_neg (nI_nlt z4 (by omega)), if_pos z4, ft_and _ (by omega) _ v2]
          · rw [if_pos (nI_lt (by omega) (by omega)), if_neg z4]
      · rw [if_neg (fun q => z2 (b2.mp q)), if_neg (fun q => z2 q.2)]
    · rw [if_neg (fun q => z1 (b1.mp q)), if_neg (fun q => z1 q.1)]
theorem ft_gb (hr : ft_ok r) (hs : ft_ok s) : ∀ t m, t ≤ 6 → t + 1 ≤ m → B_C_Ranges_greatestBoth_14 m (ft_c r) (ft_c s) (nI r.2.1) (nI s.2.1) (ft_bt t) = some (nI (ht_gb r.1 r.2.1 s.1 s.2.1 t)) := by
  have hr' := hr
  have hs' := hs
  unfold ft_ok at hr' hs'
  intro t
  induction t with
  | zero =>
    intro m _ hm
    obtain ⟨m, rfl⟩ : ∃ q, m = q + 1 := ⟨m - 1, by omega⟩
    rw [B_C_Ranges_greatestBoth_14, if_pos (show ft_bt 0 ≤ 0 by decide), ft_and _ (by omega) _ (by omega)]
    rfl
  | succ t ih =>
    intro m ht hm
    obtain ⟨m, rfl⟩ : ∃ q, m = q + 1 := ⟨m - 1, by omega⟩
    have bt : ft_bt (t + 1) = nI (2 ^ t) := rfl
    have p2 : 2 ^ t ≤ 2 ^ 5 := Nat.pow_le_pow_right (by decide) (by omega)
    have pp : 0 < 2 ^ t := Nat.two_pow_pos t
    have go : B_C_Ranges_greatestBoth_101 (B_C_Ranges_greatestBoth_14 m) (ft_c r) (ft_c s) (nI r.2.1) (nI s.2.1) (nI (2 ^ t)) = some (nI (ht_gb r.1 r.2.1 s.1 s.2.1 t)) := by
      unfold B_C_Ranges_greatestBoth_101
      rw [ft_half t (by omega), rq_b]
      exact ih m (by omega) (by omega)
    have b1 := ft_bit1 t (by omega) r.2.1 (by omega)
    have b2 := ft_bit1 t (by omega) s.2.1 (by omega)
    have lowB : r.2.1 / 2 ^ t * 2 ^ t ≤ r.2.1 := Nat.div_mul_le_self _ _
    have lowD : s.2.1 / 2 ^ t * 2 ^ t ≤ s.2.1 := Nat.div_mul_le_self _ _
    rw [B_C_Ranges_greatestBoth_14, bt, if_neg (nI_nle pp (by omega))]
    unfold B_C_Ranges_greatestBoth_73
    rw [go]
    show _ = some (nI (if (r.2.1 / 2 ^ t) % 2 = 1 ∧ (s.2.1 / 2 ^ t) % 2 = 0 ∧ r.1 ≤ r.2.1 / 2 ^ t * 2 ^ t - 1 then (r.2.1 / 2 ^ t * 2 ^ t - 1) &&& s.2.1 else if (r.2.1 / 2 ^ t) % 2 = 0 ∧ (s.2.1 / 2 ^ t) % 2 = 1 ∧ s.1 ≤ s.2.1 / 2 ^ t * 2 ^ t - 1 then r.2.1 &&& (s.2.1 / 2 ^ t * 2 ^ t - 1) else ht_gb r.1 r.2.1 s.1 s.2.1 t))
    by_cases z1 : (r.2.1 / 2 ^ t) % 2 = 0
    · rw [if_pos (b1.mpr z1), if_pos (b1.mpr z1), if_neg (show ¬ ((r.2.1 / 2 ^ t) % 2 = 1 ∧ (s.2.1 / 2 ^ t) % 2 = 0 ∧ r.1 ≤ r.2.1 / 2 ^ t * 2 ^ t - 1) from fun q => by have := q.1; omega)]
      by_cases z2 : (s.2.1 / 2 ^ t) % 2 = 0
      · rw [if_pos (b2.mpr z2), if_neg (show ¬ ((r.2.1 / 2 ^ t) % 2 = 0 ∧ (s.2.1 / 2 ^ t) % 2 = 1 ∧ s.1 ≤ s.2.1 / 2 ^ t * 2 ^ t - 1) from fun q => by have := q.2.1; omega)]
      · have z2' : (s.2.1 / 2 ^ t) % 2 = 1 := by omega
        have v1 := ft_bit3 t (by omega) s.2.1 (by omega) z2'
        rw [if_neg (fun q => z2 (b2.mp q)), ft_least hs, rq_b, v1]
        by_cases z3 : s.1 ≤ s.2.1 / 2 ^ t * 2 ^ t - 1
        · rw [if_neg (nI_nlt z3 (by omega)), if_pos ⟨z1, z2', z3⟩, ft_and _ (by omega) _ (by omega)]
        · rw [if_pos (nI_lt (by omega) (by omega)), if_neg (fun q => z3 q.2.2)]
    · have z1' : (r.2.1 / 2 ^ t) % 2 = 1 := by omega
      have u1 := ft_bit3 t (by omega) r.2.1 (by omega) z1'
      rw [if_neg (fun q => z1 (b1.mp q)), if_neg (fun q => z1 (b1.mp q))]
      by_cases z2 : (s.2.1 / 2 ^ t) % 2 = 0
      · rw [if_pos (b2.mpr z2), ft_least hr, rq_b, u1]
        by_cases z3 : r.1 ≤ r.2.1 / 2 ^ t * 2 ^ t - 1
        · rw [if_neg (nI_nlt z3 (by omega)), if_pos ⟨z1', z2, z3⟩, ft_and _ (by omega) _ (by omega)]
        · rw [if_pos (nI_lt (by omega) (by omega)), if_neg (fun q => z3 q.2.2), if_neg (fun q => z1 q.1)]
      · rw [if_neg (fun q => z2 (b2.mp q)), if_neg (fun q => z2 q.2.1), if_neg (fun q => z1 q.1)]
end FT6
