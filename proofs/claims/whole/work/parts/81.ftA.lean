/-! foretelling: ranges (least, greatest, tainted) and states of them, as numbers -/
abbrev ft_G : Type := Nat × Nat × Nat
abbrev ft_S : Type := Nat → Nat → Nat × Nat × Nat
def ft_bot : ft_G := (64, 0, 0)
def ft_ok (r : ft_G) : Prop := r.1 ≤ r.2.1 ∧ r.2.1 < 64 ∧ r.2.2 ≤ 1
def ft_v (r : ft_G) : Prop := r = ft_bot ∨ ft_ok r
def ft_j (r s : ft_G) : ft_G := (min r.1 s.1, max r.2.1 s.2.1, max r.2.2 s.2.2)
def ft_le (r s : ft_G) : Prop := s.1 ≤ r.1 ∧ r.2.1 ≤ s.2.1 ∧ r.2.2 ≤ s.2.2
section FT1
variable {r s t : ft_G} {A B C : ft_S}
theorem ft_le.rf : ft_le r r := ⟨Nat.le_refl _, Nat.le_refl _, Nat.le_refl _⟩
theorem ft_le.tr (h1 : ft_le r s) (h2 : ft_le s t) : ft_le r t := ⟨Nat.le_trans h2.1 h1.1, Nat.le_trans h1.2.1 h2.2.1, Nat.le_trans h1.2.2 h2.2.2⟩
theorem ft_le.eq (h1 : ft_le r s) (h2 : ft_le s r) : r = s := by
  obtain ⟨a, b, c⟩ := r
  obtain ⟨a', b', c'⟩ := s
  obtain ⟨x1, x2, x3⟩ := h1
  obtain ⟨y1, y2, y3⟩ := h2
  have e1 : a = a' := Nat.le_antisymm y1 x1
  have e2 : b = b' := Nat.le_antisymm x2 y2
  have e3 : c = c' := Nat.le_antisymm x3 y3
  rw [e1, e2, e3]
theorem ft_j_le : ft_le (ft_j r s) t ↔ ft_le r t ∧ ft_le s t := by
  unfold ft_le ft_j
  dsimp only
  constructor
  · intro h; omega
  · intro h; omega
theorem ft_j_l : ft_le r (ft_j r s) := (ft_j_le.mp ft_le.rf).1
theorem ft_j_r : ft_le s (ft_j r s) := (ft_j_le.mp ft_le.rf).2
theorem ft_j_of (h : ft_le s r) : ft_j r s = r := ft_le.eq (ft_j_le.mpr ⟨ft_le.rf, h⟩) ft_j_l
theorem ft_j_cm : ft_j r s = ft_j s r := ft_le.eq (ft_j_le.mpr ⟨ft_j_r, ft_j_l⟩) (ft_j_le.mpr ⟨ft_j_r, ft_j_l⟩)
theorem ft_v_le (h : ft_v r) : r.1 ≤ 64 ∧ r.2.1 < 64 ∧ r.2.2 ≤ 1 := by
  rcases h with rfl | h
  · decide
  · unfold ft_ok at h; omega
theorem ft_bot_le (h : r.1 ≤ 64) : ft_le ft_bot r := ⟨h, Nat.zero_le _, Nat.zero_le _⟩
theorem ft_j_ok (h1 : ft_ok r) (h2 : ft_ok s) : ft_ok (ft_j r s) := by
  unfold ft_ok ft_j at *
  dsimp only
  omega
theorem ft_j_bot (h : r.1 ≤ 64) : ft_j r ft_bot = r := ft_j_of (ft_bot_le h)
theorem ft_bot_j (h : r.1 ≤ 64) : ft_j ft_bot r = r := ft_j_cm.trans (ft_j_bot h)
theorem ft_v_j (h1 : ft_v r) (h2 : ft_v s) : ft_v (ft_j r s) := by
  rcases h1 with rfl | h1
  · rw [ft_bot_j (ft_v_le h2).1]; exact h2
  · rcases h2 with rfl | h2
    · rw [ft_j_bot (ft_v_le (Or.inr h1)).1]; exact Or.inr h1
    · exact Or.inr (ft_j_ok h1 h2)
theorem ft_ok_of (h1 : ft_v r) (h : r.1 < 64) : ft_ok r := by
  rcases h1 with rfl | h1
  · exact absurd h (by decide)
  · exact h1
theorem ft_ok_up (h1 : ft_ok r) (h2 : ft_v s) (h : ft_le r s) : ft_ok s := by
  refine ft_ok_of h2 ?_
  have := h.1
  unfold ft_ok at h1
  omega
def ft_L (A B : ft_S) : Prop := ∀ c x, ft_le (A c x) (B c x)
def ft_J (A B : ft_S) : ft_S := fun c x => ft_j (A c x) (B c x)
def ft_0 : ft_S := fun _ _ => ft_bot
theorem ft_L.rf : ft_L A A := fun _ _ => ft_le.rf
theorem ft_L.tr (h1 : ft_L A B) (h2 : ft_L B C) : ft_L A C := fun c x => (h1 c x).tr (h2 c x)
theorem ft_L.eq (h1 : ft_L A B) (h2 : ft_L B A) : A = B := funext fun c => funext fun x => (h1 c x).eq (h2 c x)
theorem ft_J_L : ft_L (ft_J A B) C ↔ ft_L A C ∧ ft_L B C :=
  ⟨fun h => ⟨fun c x => (ft_j_le.mp (h c x)).1, fun c x => (ft_j_le.mp (h c x)).2⟩, fun h c x => ft_j_le.mpr ⟨h.1 c x, h.2 c x⟩⟩
theorem ft_J_l : ft_L A (ft_J A B) := (ft_J_L.mp ft_L.rf).1
theorem ft_J_r : ft_L B (ft_J A B) := (ft_J_L.mp ft_L.rf).2
theorem ft_J_mono {A' B' : ft_S} (h1 : ft_L A A') (h2 : ft_L B B') : ft_L (ft_J A B) (ft_J A' B') := ft_J_L.mpr ⟨h1.tr ft_J_l, h2.tr ft_J_r⟩
/-! how much a state can still grow -/
def ft_w (r : ft_G) : Nat := r.1 + (64 - r.2.1) + (1 - r.2.2)
def ft_sum (f : Nat → ft_G) : Nat → Nat
  | 0 => 0
  | n + 1 => ft_sum f n + ft_w (f n)
theorem ft_w_le (h : ft_le r s) : ft_w s ≤ ft_w r := by
  unfold ft_le at h; unfold ft_w; omega
theorem ft_w_lt (h : ft_le r s) (h1 : s.2.1 ≤ 64) (h2 : s.2.2 ≤ 1) (hne : r ≠ s) : ft_w s < ft_w r := by
  have q : ¬ ft_le s r := fun h' => hne (h.eq h')
  unfold ft_le at h q; unfold ft_w; omega
theorem ft_sum_le {f g : Nat → ft_G} (h : ∀ x, ft_le (f x) (g x)) : ∀ n, ft_sum g n ≤ ft_sum f n := by
  intro n
  induction n with
  | zero => exact Nat.le_refl _
  | succ n ih =>
    have := ft_w_le (h n)
    show ft_sum g n + ft_w (g n) ≤ ft_sum f n + ft_w (f n)
    omega
theorem ft_sum_lt {f g : Nat → ft_G} (h : ∀ x, ft_le (f x) (g x)) (hv : ∀ x, (g x).2.1 ≤ 64 ∧ (g x).2.2 ≤ 1) {x : Nat} (hne : f x ≠ g x) : ∀ n, x < n → ft_sum g n < ft_sum f n := by
  intro n
  induction n with
  | zero => intro hx; omega
  | succ n ih =>
    intro hx
    show ft_sum g n + ft_w (g n) < ft_sum f n + ft_w (f n)
    by_cases z : x = n
    · subst z
      have h1 := ft_w_lt (h x) (hv x).1 (hv x).2 hne
      have h2 := ft_sum_le h x
      omega
    · have h1 := ih (by omega)
      have h2 := ft_w_le (h n)
      omega
theorem ft_sum_b {f : Nat → ft_G} (h : ∀ x, (f x).1 ≤ 64) : ∀ n, ft_sum f n ≤ 129 * n := by
  intro n
  induction n with
  | zero => exact Nat.le_refl _
  | succ n ih =>
    have := h n
    show ft_sum f n + ft_w (f n) ≤ 129 * (n + 1)
    unfold ft_w; omega
def ft_mu (A : ft_S) : Nat := ft_sum (A 0) 1000 + ft_sum (A 1) 400 + ft_sum (A 2) 16 + ft_sum (A 3) 3 + ft_sum (A 4) 100 + ft_sum (A 5) 3
def ft_in (c x : Nat) : Prop := (c = 0 ∧ x < 1000) ∨ (c = 1 ∧ x < 400) ∨ (c = 2 ∧ x < 16) ∨ (c = 3 ∧ x < 3) ∨ (c = 4 ∧ x < 100) ∨ (c = 5 ∧ x < 3)
theorem ft_mu_le (h : ft_L A B) : ft_mu B ≤ ft_mu A := by
  have h0 := ft_sum_le (h 0) 1000
  have h1 := ft_sum_le (h 1) 400
  have h2 := ft_sum_le (h 2) 16
  have h3 := ft_sum_le (h 3) 3
  have h4 := ft_sum_le (h 4) 100
  have h5 := ft_sum_le (h 5) 3
  unfold ft_mu; omega
theorem ft_mu_lt (h : ft_L A B) (hv : ∀ c x, (B c x).2.1 ≤ 64 ∧ (B c x).2.2 ≤ 1) {c x : Nat} (hi : ft_in c x) (hne : A c x ≠ B c x) : ft_mu B < ft_mu A := by
  have h0 := ft_sum_le (h 0) 1000
  have h1 := ft_sum_le (h 1) 400
  have h2 := ft_sum_le (h 2) 16
  have h3 := ft_sum_le (h 3) 3
  have h4 := ft_sum_le (h 4) 100
  have h5 := ft_sum_le (h 5) 3
  unfold ft_mu
  rcases hi with ⟨rfl, hx⟩ | ⟨rfl, hx⟩ | ⟨rfl, hx⟩ | ⟨rfl, hx⟩ | ⟨rfl, hx⟩ | ⟨rfl, hx⟩
  · have := ft_sum_lt (h 0) (hv 0) hne 1000 hx; omega
  · have := ft_sum_lt (h 1) (hv 1) hne 400 hx; omega
  · have := ft_sum_lt (h 2) (hv 2) hne 16 hx; omega
  · have := ft_sum_lt (h 3) (hv 3) hne 3 hx; omega
  · have := ft_sum_lt (h 4) (hv 4) hne 100 hx; omega
  · have := ft_sum_lt (h 5) (hv 5) hne 3 hx; omega
theorem ft_mu_b (h : ∀ c x, (A c x).1 ≤ 64) : ft_mu A ≤ 197000 := by
  have h0 := ft_sum_b (h 0) 1000
  have h1 := ft_sum_b (h 1) 400
  have h2 := ft_sum_b (h 2) 16
  have h3 := ft_sum_b (h 3) 3
  have h4 := ft_sum_b (h 4) 100
  have h5 := ft_sum_b (h 5) 3
  unfold ft_mu; omega
end FT1
/-! the least state that holds what it gives on -/
section FT2
variable {X : ft_S → Nat → ft_S} {V : ft_S → Prop} {N k : Nat} {W W' : Nat → Prop} {A A' A1 B : ft_S}
def ft_Cl (X : ft_S → Nat → ft_S) (N : Nat) (B : ft_S) : Prop := ∀ k, k < N → (B 4 k).2.1 = 1 → ft_L (X B k) B
def ft_Mo (X : ft_S → Nat → ft_S) (V : ft_S → Prop) (N : Nat) : Prop := (∀ B k, V B → (B 4 k).2.1 ≤ 1) ∧ ∀ A B k, V A → V B → ft_L A B → k < N → (A 4 k).2.1 = 1 → ft_L (X A k) (X B k)
def ft_In (X : ft_S → Nat → ft_S) (V : ft_S → Prop) (N : Nat) (A1 : ft_S) (W : Nat → Prop) (A : ft_S) : Prop := V A ∧ ft_L A1 A ∧ (∀ B, V B → ft_L A1 B → ft_Cl X N B → ft_L A B) ∧ ∀ k, k < N → (A 4 k).2.1 = 1 → ¬ W k → ft_L (X A k) A
theorem ft_In.step (H : ft_In X V N A1 W A) (hM : ft_Mo X V N) (hk : k < N) (hr : (A 4 k).2.1 = 1) (hV : V A') (h1 : ft_L A A') (h2 : ft_L (X A k) A') (h3 : ∀ B, ft_L A B → ft_L (X A k) B → ft_L A' B) (h4 : ∀ j, j < N → (A' 4 j).2.1 = 1 → ¬ W' j → (j = k ∨ ¬ W j) ∧ (A 4 j).2.1 = 1 ∧ X A' j = X A j) : ft_In X V N A1 W' A' := by
  obtain ⟨a1, a2, a3, a4⟩ := H
  refine ⟨hV, a2.tr h1, fun B hB hb hc => ?_, fun j hj hr' hw => ?_⟩
  · have ab := a3 B hB hb hc
    have br : (B 4 k).2.1 = 1 := Nat.le_antisymm (hM.1 B k hB) (hr ▸ (ab 4 k).2.1)
    exact h3 B ab ((hM.2 A B k a1 hB ab hk hr).tr (hc k hk br))
  · obtain ⟨q1, q2, q3⟩ := h4 j hj hr' hw
    rw [q3]
    by_cases z : j = k
    · subst z; exact h2
    · rcases q1 with q1 | q1
      · exact absurd q1 z
      · exact (a4 j hj q2 q1).tr h1
theorem ft_In.one (H : ft_In X V N A1 W A) (H' : ft_In X V N A1 W' B) (h : ∀ k, k < N → ¬ W k) (h' : ∀ k, k < N → ¬ W' k) : A = B := by
  obtain ⟨a1, a2, a3, a4⟩ := H
  obtain ⟨b1, b2, b3, b4⟩ := H'
  exact (a3 B b1 b2 (fun k hk hr => b4 k hk hr (h' k hk))).eq (b3 A a1 a2 (fun k hk hr => a4 k hk hr (h k hk)))
end FT2
