/-! foretelling: one growth after another; who must be looked at again -/
def ft_E (N : Nat) (op ar : Nat → Nat) (A : ft_S) (W : Nat → Prop) (A' : ft_S) (W' : Nat → Prop) : Prop :=
  ft_L A A' ∧ (∀ j, j < N → W j → W' j) ∧ (∀ j, j < N → ¬ W' j → ft_sm A A' j) ∧
  ((∀ x, x < 16 → A' 2 x = A 2 x) ∨ ∀ j, j < N → (A 4 j).2.1 = 1 → op j = 15 → W' j) ∧
  (∀ f, (A' 3 f = A 3 f ∧ A' 5 f = A 5 f) ∨ ∀ j, j < N → (A 4 j).2.1 = 1 → op j = 9 → ar j = f → W' j) ∧
  ((A' = A ∧ ∀ j, j < N → W' j → W j) ∨ ft_mu A' < ft_mu A)
section FTB
variable {F N k : Nat} {op ar ow pa lo re fs hs gl bk kp : Nat → Nat} {L : Nat → Prop} {A A1 A2 B : ft_S} {W W1 W2 : Nat → Prop} {st vr : Nat → ft_G}
theorem ft_sm.rf {j : Nat} : ft_sm A A j := ⟨rfl, fun _ _ => rfl, fun _ _ => rfl⟩
theorem ft_sm.tr {j : Nat} (h1 : ft_sm A A1 j) (h2 : ft_sm A1 A2 j) : ft_sm A A2 j := ⟨h2.1.trans h1.1, fun i hi => (h2.2.1 i hi).trans (h1.2.1 i hi), fun i hi => (h2.2.2 i hi).trans (h1.2.2 i hi)⟩
theorem ft_E.rf : ft_E N op ar A W A W := ⟨ft_L.rf, fun _ _ h => h, fun _ _ _ => ft_sm.rf, Or.inl (fun _ _ => rfl), fun _ => Or.inl ⟨rfl, rfl⟩, Or.inl ⟨rfl, fun _ _ h => h⟩⟩
theorem ft_E.tr (h1 : ft_E N op ar A W A1 W1) (h2 : ft_E N op ar A1 W1 A2 W2) (hV : ∀ j, (A1 4 j).2.1 ≤ 1) : ft_E N op ar A W A2 W2 := by
  obtain ⟨a1, a2, a3, a4, a5, a6⟩ := h1
  obtain ⟨b1, b2, b3, b4, b5, b6⟩ := h2
  have rch : ∀ j, (A 4 j).2.1 = 1 → (A1 4 j).2.1 = 1 := fun j h => by
    have q := (a1 4 j).2.1
    have := hV j
    omega
  refine ⟨a1.tr b1, fun j hj h => b2 j hj (a2 j hj h), fun j hj h => (a3 j hj (fun q => h (b2 j hj q))).tr (b3 j hj h), ?_, fun f => ?_, ?_⟩
  · rcases a4 with a4 | a4
    · rcases b4 with b4 | b4
      · exact Or.inl (fun x hx => (b4 x hx).trans (a4 x hx))
      · exact Or.inr (fun j hj hr ho => b4 j hj (rch j hr) ho)
    · exact Or.inr (fun j hj hr ho => b2 j hj (a4 j hj hr ho))
  · rcases a5 f with a5 | a5
    · rcases b5 f with b5 | b5
      · exact Or.inl ⟨b5.1.trans a5.1, b5.2.trans a5.2⟩
      · exact Or.inr (fun j hj hr ho hf => b5 j hj (rch j hr) ho hf)
    · exact Or.inr (fun j hj hr ho hf => b2 j hj (a5 j hj hr ho hf))
  · have m1 := ft_mu_le a1
    have m2 := ft_mu_le b1
    rcases a6 with ⟨e1, w1⟩ | a6
    · rcases b6 with ⟨e2, w2⟩ | b6
      · exact Or.inl ⟨e2.trans e1, fun j hj h => w1 j hj (w2 j hj h)⟩
      · exact Or.inr (by omega)
    · exact Or.inr (by omega)
theorem ft_E.wk (h : ft_E N op ar A W A1 W1) (hw : ∀ j, j < N → (W j ↔ W2 j)) : ft_E N op ar A W2 A1 W1 := by
  obtain ⟨a1, a2, a3, a4, a5, a6⟩ := h
  refine ⟨a1, fun j hj q => a2 j hj ((hw j hj).mpr q), a3, a4, a5, ?_⟩
  rcases a6 with ⟨e, w⟩ | a6
  · exact Or.inl ⟨e, fun j hj q => (hw j hj).mp (w j hj q)⟩
  · exact Or.inr a6
/-! where a pass lands -/
theorem ft_pass_0 {j h lc i : Nat} (hi : i < 10) (hh : h ≤ 10) : ft_pass j h lc st vr 0 (10 * k + i) = if k = j ∧ i < h then st i else ft_bot := by
  unfold ft_pass
  by_cases z : k = j ∧ i < h
  · obtain ⟨rfl, z⟩ := z
    rw [if_pos ⟨rfl, by omega, by omega⟩, if_pos ⟨rfl, z⟩, show 10 * k + i - 10 * k = i by omega]
  · rw [if_neg z, if_neg (fun q => z (by omega)), if_neg (fun q => absurd q.1 (by decide)), if_neg (fun q => absurd q.1 (by decide))]
theorem ft_pass_1 {j h lc i : Nat} (hi : i < 4) (hh : lc ≤ 4) : ft_pass j h lc st vr 1 (4 * k + i) = if k = j ∧ i < lc then vr i else ft_bot := by
  unfold ft_pass
  rw [if_neg (fun q => absurd q.1 (by decide))]
  by_cases z : k = j ∧ i < lc
  · obtain ⟨rfl, z⟩ := z
    rw [if_pos ⟨rfl, by omega, by omega⟩, if_pos ⟨rfl, z⟩, show 4 * k + i - 4 * k = i by omega]
  · rw [if_neg z, if_neg (fun q => z (by omega)), if_neg (fun q => absurd q.1 (by decide))]
theorem ft_pass_4 {j h lc x : Nat} : ft_pass j h lc st vr 4 x = if x = j then (0, 1, 0) else ft_bot := by
  unfold ft_pass
  rw [if_neg (fun q => absurd q.1 (by decide)), if_neg (fun q => absurd q.1 (by decide))]
  by_cases z : x = j
  · rw [if_pos ⟨rfl, z⟩, if_pos z]
  · rw [if_neg (fun q => z q.2), if_neg z]
theorem ft_pass_o {j h lc c x : Nat} (h0 : c ≠ 0) (h1 : c ≠ 1) (h4 : c ≠ 4) : ft_pass j h lc st vr c x = ft_bot := by
  unfold ft_pass
  rw [if_neg (fun q => h0 q.1), if_neg (fun q => h1 q.1), if_neg (fun q => h4 q.1)]
theorem ft_V.u (H : ft_V F N ow pa lo re fs hs L A) (c x : Nat) : (A c x).1 ≤ 64 ∧ (A c x).2.1 ≤ 64 ∧ (A c x).2.2 ≤ 1 := by
  by_cases z : c < 4
  · have := ft_v_le (H.1 c x z); omega
  · have := H.2.1 c x (by omega); omega
theorem ft_V.pass {j : Nat} (H : ft_V F N ow pa lo re fs hs L A) (hj : j < N) (hL : L j) (h10 : hs j ≤ 10) (h4 : pa (ow j) + lo (ow j) ≤ 4) (s1 : ∀ i, i < hs j → ft_ok (st i)) (v1 : ∀ i, i < pa (ow j) + lo (ow j) → ft_ok (vr i)) (hfs : ∀ g, g < F → ow (fs g) = g) (hf : j = fs (ow j) → ∀ i, pa (ow j) ≤ i → i < pa (ow j) + lo (ow j) → (vr i).1 = 0) : ft_V F N ow pa lo re fs hs L (ft_J A (ft_pass j (hs j) (pa (ow j) + lo (ow j)) st vr)) := by
  have u := H.u
  obtain ⟨a1, a2, a3, a4, a5, a6⟩ := H
  have pv : ∀ c x, c < 4 → ft_v (ft_pass j (hs j) (pa (ow j) + lo (ow j)) st vr c x) := fun c x hc => by
    unfold ft_pass
    by_cases z1 : c = 0 ∧ 10 * j ≤ x ∧ x < 10 * j + hs j
    · rw [if_pos z1]; exact Or.inr (s1 _ (by omega))
    rw [if_neg z1]
    by_cases z2 : c = 1 ∧ 4 * j ≤ x ∧ x < 4 * j + (pa (ow j) + lo (ow j))
    · rw [if_pos z2]; exact Or.inr (v1 _ (by omega))
    rw [if_neg z2, if_neg (fun q => by omega)]
    exact Or.inl rfl
  refine ⟨fun c x hc => ft_v_j (a1 c x hc) (pv c x hc), fun c x hc => ?_, fun x hx => ?_, fun k hk => ?_, fun f hf5 h5 hr => ?_, fun g hg h5 i i1 i2 => ?_⟩
  · have q := a2 c x hc
    by_cases z : c = 4
    · subst z
      show (ft_j (A 4 x) (ft_pass j (hs j) (pa (ow j) + lo (ow j)) st vr 4 x)).1 = 0 ∧ (ft_j (A 4 x) (ft_pass j (hs j) (pa (ow j) + lo (ow j)) st vr 4 x)).2.1 ≤ 1 ∧ (ft_j (A 4 x) (ft_pass j (hs j) (pa (ow j) + lo (ow j)) st vr 4 x)).2.2 = 0
      rw [ft_pass_4]
      by_cases z : x = j
      · rw [if_pos z]; unfold ft_j; dsimp only; omega
      · rw [if_neg z, ft_j_bot (u 4 x).1]; exact q
    · show (ft_j (A c x) (ft_pass j (hs j) (pa (ow j) + lo (ow j)) st vr c x)).1 = 0 ∧ (ft_j (A c x) (ft_pass j (hs j) (pa (ow j) + lo (ow j)) st vr c x)).2.1 ≤ 1 ∧ (ft_j (A c x) (ft_pass j (hs j) (pa (ow j) + lo (ow j)) st vr c x)).2.2 = 0
      rw [ft_pass_o (by omega) (by omega) z, ft_j_bot (u c x).1]; exact q
  · show ft_ok (ft_j (A 2 x) (ft_pass j (hs j) (pa (ow j) + lo (ow j)) st vr 2 x))
    rw [ft_pass_o (by decide) (by decide) (by decide), ft_j_bot (u 2 x).1]; exact a3 x hx
  · show ((ft_j (A 4 k) (ft_pass j (hs j) (pa (ow j) + lo (ow j)) st vr 4 k)).2.1 = 0 ∧ (∀ i, i < 10 → ft_j (A 0 (10 * k + i)) (ft_pass j (hs j) (pa (ow j) + lo (ow j)) st vr 0 (10 * k + i)) = ft_bot) ∧ ∀ i, i < 4 → ft_j (A 1 (4 * k + i)) (ft_pass j (hs j) (pa (ow j) + lo (ow j)) st vr 1 (4 * k + i)) = ft_bot) ∨ ((ft_j (A 4 k) (ft_pass j (hs j) (pa (ow j) + lo (ow j)) st vr 4 k)).2.1 = 1 ∧ L k ∧ (∀ i, i < hs k → ft_ok (ft_j (A 0 (10 * k + i)) (ft_pass j (hs j) (pa (ow j) + lo (ow j)) st vr 0 (10 * k + i)))) ∧ ∀ i, i < pa (ow k) + lo (ow k) → ft_ok (ft_j (A 1 (4 * k + i)) (ft_pass j (hs j) (pa (ow j) + lo (ow j)) st vr 1 (4 * k + i))))
    rw [ft_pass_4]
    by_cases z : k = j
    · subst z
      rw [if_pos rfl]
      have q := a2 4 k (Nat.le_refl _)
      refine Or.inr ⟨by unfold ft_j; dsimp only; omega, hL, fun i hi => ?_, fun i hi => ?_⟩
      · rw [ft_pass_0 (by omega) h10, if_pos ⟨rfl, hi⟩]
        rcases a4 k hk with ⟨-, b, -⟩ | ⟨-, -, b, -⟩
        · rw [b i (by omega), ft_bot_j (ft_v_le (Or.inr (s1 i hi))).1]; exact s1 i hi
        · exact ft_j_ok (b i hi) (s1 i hi)
      · rw [ft_pass_1 (by omega) h4, if_pos ⟨rfl, hi⟩]
        rcases a4 k hk with ⟨-, -, b⟩ | ⟨-, -, -, b⟩
        · rw [b i (by omega), ft_bot_j (ft_v_le (Or.inr (v1 i hi))).1]; exact v1 i hi
        · exact ft_j_ok (b i hi) (v1 i hi)
    · have e0 : ∀ i, i < 10 → ft_j (A 0 (10 * k + i)) (ft_pass j (hs j) (pa (ow j) + lo (ow j)) st vr 0 (10 * k + i)) = A 0 (10 * k + i) := fun i hi => by
        rw [ft_pass_0 hi h10, if_neg (fun q => z q.1), ft_j_bot (u _ _).1]
      have e1 : ∀ i, i < 4 → ft_j (A 1 (4 * k + i)) (ft_pass j (hs j) (pa (ow j) + lo (ow j)) st vr 1 (4 * k + i)) = A 1 (4 * k + i) := fun i hi => by
        rw [ft_pass_1 hi h4, if_neg (fun q => z q.1), ft_j_bot (u _ _).1]
      rw [if_neg z, ft_j_bot (u 4 k).1]
      rcases a4 k hk with ⟨b1, b2, b3⟩ | ⟨b1, b2, b3, b4⟩
      · exact Or.inl ⟨b1, fun i hi => by rw [e0 i hi]; exact b2 i hi, fun i hi => by rw [e1 i hi]; exact b3 i hi⟩
      · refine Or.inr ⟨b1, b2, fun i hi => ?_, fun i hi => ?_⟩
        · have q := ft_v_j (a1 0 (10 * k + i) (by decide)) (pv 0 (10 * k + i) (by decide))
          exact ft_ok_up (b3 i hi) q ft_j_l
        · have q := ft_v_j (a1 1 (4 * k + i) (by decide)) (pv 1 (4 * k + i) (by decide))
          exact ft_ok_up (b4 i hi) q ft_j_l
  · have e : ft_J A (ft_pass j (hs j) (pa (ow j) + lo (ow j)) st vr) 5 f = A 5 f := by
      show ft_j (A 5 f) (ft_pass j (hs j) (pa (ow j) + lo (ow j)) st vr 5 f) = _
      rw [ft_pass_o (by decide) (by decide) (by decide), ft_j_bot (u 5 f).1]
    rw [e] at h5
    show ft_ok (ft_j (A 3 f) (ft_pass j (hs j) (pa (ow j) + lo (ow j)) st vr 3 f))
    rw [ft_pass_o (by decide) (by decide) (by decide), ft_j_bot (u 3 f).1]
    exact a5 f hf5 h5 hr
  · have h5' : (ft_j (A 4 (fs g)) (ft_pass j (hs j) (pa (ow j) + lo (ow j)) st vr 4 (fs g))).2.1 = 1 := h5
    rw [ft_pass_4] at h5'
    have low : (A 4 (fs g)).2.1 = 1 → (ft_j (A 1 (4 * fs g + i)) (ft_pass j (hs j) (pa (ow j) + lo (ow j)) st vr 1 (4 * fs g + i))).1 = 0 := fun q => by
      have w := a6 g hg q i i1 i2
      have := (ft_j_l (r := A 1 (4 * fs g + i)) (s := ft_pass j (hs j) (pa (ow j) + lo (ow j)) st vr 1 (4 * fs g + i))).1
      omega
    by_cases z : fs g = j
    · have og : ow j = g := by rw [← z]; exact hfs g hg
      have w := hf (by rw [og, z]) i (by rw [og]; exact i1) (by rw [og]; exact i2)
      have e : ft_pass j (hs j) (pa (ow j) + lo (ow j)) st vr 1 (4 * fs g + i) = vr i := by
        rw [ft_pass_1 (by rw [og] at h4; omega) h4, if_pos ⟨z, by rw [og]; exact i2⟩]
      show (ft_j (A 1 (4 * fs g + i)) (ft_pass j (hs j) (pa (ow j) + lo (ow j)) st vr 1 (4 * fs g + i))).1 = 0
      rw [e]
      have := (ft_j_r (r := A 1 (4 * fs g + i)) (s := vr i)).1
      omega
    · rw [if_neg z, ft_j_bot (u 4 (fs g)).1] at h5'
      exact low h5'
/-- a pass: the row has stayed and so has everything, or the row is marked and less can still grow -/
theorem ft_E_pass {j : Nat} (H : ft_V F N ow pa lo re fs hs L A) (H' : ft_V F N ow pa lo re fs hs L (ft_J A (ft_pass j (hs j) (pa (ow j) + lo (ow j)) st vr))) (hj : j < 100) (h10 : hs j ≤ 10) (h4 : pa (ow j) + lo (ow j) ≤ 4) (hw : (ft_sm A (ft_J A (ft_pass j (hs j) (pa (ow j) + lo (ow j)) st vr)) j ∧ ∀ i, i < N → (W1 i ↔ W i)) ∨ (¬ ft_sm A (ft_J A (ft_pass j (hs j) (pa (ow j) + lo (ow j)) st vr)) j ∧ ∀ i, i < N → (W1 i ↔ W i ∨ i = j))) : ft_E N op ar A W (ft_J A (ft_pass j (hs j) (pa (ow j) + lo (ow j)) st vr)) W1 := by
  have u := H.u
  have oth : ∀ c x, c ≠ 0 → c ≠ 1 → c ≠ 4 → ft_J A (ft_pass j (hs j) (pa (ow j) + lo (ow j)) st vr) c x = A c x := fun c x h0 h1 h4 => by
    show ft_j (A c x) (ft_pass j (hs j) (pa (ow j) + lo (ow j)) st vr c x) = _
    rw [ft_pass_o h0 h1 h4, ft_j_bot (u c x).1]
  have far : ∀ i, i ≠ j → ft_sm A (ft_J A (ft_pass j (hs j) (pa (ow j) + lo (ow j)) st vr)) i := fun i hi => by
    refine ⟨?_, fun y hy => ?_, fun y hy => ?_⟩
    · show ft_j (A 4 i) (ft_pass j (hs j) (pa (ow j) + lo (ow j)) st vr 4 i) = _
      rw [ft_pass_4, if_neg hi, ft_j_bot (u 4 i).1]
    · show ft_j (A 0 (10 * i + y)) (ft_pass j (hs j) (pa (ow j) + lo (ow j)) st vr 0 (10 * i + y)) = _
      rw [ft_pass_0 hy h10, if_neg (fun q => hi q.1), ft_j_bot (u _ _).1]
    · show ft_j (A 1 (4 * i + y)) (ft_pass j (hs j) (pa (ow j) + lo (ow j)) st vr 1 (4 * i + y)) = _
      rw [ft_pass_1 hy h4, if_neg (fun q => hi q.1), ft_j_bot (u _ _).1]
  have all : ft_sm A (ft_J A (ft_pass j (hs j) (pa (ow j) + lo (ow j)) st vr)) j → ft_J A (ft_pass j (hs j) (pa (ow j) + lo (ow j)) st vr) = A := fun q => funext fun c => funext fun x => by
    by_cases c0 : c = 0
    · subst c0
      by_cases z : x / 10 = j
      · have e := q.2.1 (x % 10) (by omega)
        rw [show 10 * j + x % 10 = x by omega] at e
        exact e
      · have e := (far (x / 10) z).2.1 (x % 10) (by omega)
        rw [show 10 * (x / 10) + x % 10 = x by omega] at e
        exact e
    by_cases c1 : c = 1
    · subst c1
      by_cases z : x / 4 = j
      · have e := q.2.2 (x % 4) (by omega)
        rw [show 4 * j + x % 4 = x by omega] at e
        exact e
      · have e := (far (x / 4) z).2.2 (x % 4) (by omega)
        rw [show 4 * (x / 4) + x % 4 = x by omega] at e
        exact e
    by_cases c4 : c = 4
    · subst c4
      by_cases z : x = j
      · rw [z]; exact q.1
      · exact (far x z).1
    exact oth c x c0 c1 c4
  refine ⟨ft_J_l, fun i hi h => ?_, fun i hi h => ?_, Or.inl (fun x _ => oth 2 x (by decide) (by decide) (by decide)), fun f => Or.inl ⟨oth 3 f (by decide) (by decide) (by decide), oth 5 f (by decide) (by decide) (by decide)⟩, ?_⟩
  · rcases hw with ⟨-, w⟩ | ⟨-, w⟩
    · exact (w i hi).mpr h
    · exact (w i hi).mpr (Or.inl h)
  · by_cases z : i = j
    · subst z
      rcases hw with ⟨w, -⟩ | ⟨-, w⟩
      · exact w
      · exact absurd ((w i hi).mpr (Or.inr rfl)) h
    · exact far i z
  · rcases hw with ⟨w0, w⟩ | ⟨w0, w⟩
    · exact Or.inl ⟨all w0, fun i hi h => (w i hi).mp h⟩
    · right
      have hv : ∀ c x, (ft_J A (ft_pass j (hs j) (pa (ow j) + lo (ow j)) st vr) c x).2.1 ≤ 64 ∧ (ft_J A (ft_pass j (hs j) (pa (ow j) + lo (ow j)) st vr) c x).2.2 ≤ 1 := fun c x => (H'.u c x).2
      by_cases n4 : A 4 j = ft_J A (ft_pass j (hs j) (pa (ow j) + lo (ow j)) st vr) 4 j
      · by_cases n0 : ∀ i, i < 10 → A 0 (10 * j + i) = ft_J A (ft_pass j (hs j) (pa (ow j) + lo (ow j)) st vr) 0 (10 * j + i)
        · by_cases n1 : ∀ i, i < 4 → A 1 (4 * j + i) = ft_J A (ft_pass j (hs j) (pa (ow j) + lo (ow j)) st vr) 1 (4 * j + i)
          · exact absurd ⟨n4.symm, fun i hi => (n0 i hi).symm, fun i hi => (n1 i hi).symm⟩ w0
          · obtain ⟨i, hi⟩ := Classical.not_forall.mp n1
            obtain ⟨i4, hne⟩ := Classical.not_imp.mp hi
            exact ft_mu_lt ft_J_l hv (Or.inr (Or.inl ⟨rfl, by omega⟩)) hne
        · obtain ⟨i, hi⟩ := Classical.not_forall.mp n0
          obtain ⟨i4, hne⟩ := Classical.not_imp.mp hi
          exact ft_mu_lt ft_J_l hv (Or.inl ⟨rfl, by omega⟩) hne
      · exact ft_mu_lt ft_J_l hv (Or.inr (Or.inr (Or.inr (Or.inr (Or.inl ⟨rfl, hj⟩))))) n4
end FTB
