/-! foretelling, the class: from its call to its end -/
def ft_A0 : ft_S := fun c _ => if c < 4 ∧ c ≠ 2 then ft_bot else (0, 0, 0)
def ft_A1 (pa lo fs : Nat → Nat) : ft_S := ft_J ft_A0 (ft_pass (fs 0) 0 (pa 0 + lo 0) (fun _ => ft_bot) (fun i => if i < pa 0 then (0, 63, 0) else (0, 0, 0)))
theorem ft_A0_f {c x : Nat} (hc : 4 ≤ c) : ¬ (ft_A0 c x).2.1 = 1 := by
  unfold ft_A0
  rw [if_neg (by omega)]
  decide
section FCJ
variable {N F : Nat} {op ar ow pa lo re fs hs gl bk kp : Nat → Nat} {L : Nat → Prop} {σ : rt_St}
theorem ft_A0_V (D : md_A F N op ar ow pa lo re fs hs gl bk kp L) : ft_V F N ow pa lo re fs hs L ft_A0 := by
  refine ⟨fun c x hc => ?_, fun c x hc => ?_, fun x hx => ?_, fun k hk => ?_, fun f hf h => absurd h (ft_A0_f (by decide)), fun g hg h => absurd h (ft_A0_f (by decide))⟩
  · unfold ft_A0
    by_cases z : c < 4 ∧ c ≠ 2
    · rw [if_pos z]; exact Or.inl rfl
    · rw [if_neg z]; exact Or.inr (by unfold ft_ok; decide)
  · unfold ft_A0
    rw [if_neg (by omega)]
    decide
  · show ft_ok (0, 0, 0)
    unfold ft_ok; decide
  · exact Or.inl ⟨rfl, fun i _ => rfl, fun i _ => rfl⟩
theorem fc_fill36 : ∀ (d i : Nat) (σ : rt_St) (m : Nat), i + d = 1000 → d + 1 ≤ m → ∃ u, B_C_Arrays_fill_36_5 m (-3) (nI i) 1000 σ = some u ∧ rq_A (rn_F 36 i) σ u ∧ ∀ j, i ≤ j → j < 1000 → u 36 j = (-3) := by
  intro d
  induction d with
  | zero =>
    intro i σ m hd hm
    obtain ⟨m, rfl⟩ : ∃ q, m = q + 1 := ⟨m - 1, by omega⟩
    refine ⟨σ, ?_, rq_A.rf, fun j j1 j2 => by omega⟩
    rw [B_C_Arrays_fill_36_5, if_pos (show (1000 : Int32) ≤ nI i from nI_le (a := 1000) (by omega) (by omega))]
  | succ d ih =>
    intro i σ m hd hm
    obtain ⟨m, rfl⟩ : ∃ q, m = q + 1 := ⟨m - 1, by omega⟩
    obtain ⟨u, u1, u2, u3⟩ := ih (i + 1) (rt_up σ 36 i (-3)) m (by omega) (by omega)
    refine ⟨u, ?_, (rq_A.rf.up (by unfold rn_F; omega)).tr (u2.mono (fun c j q => by unfold rn_F at q; unfold rn_F; omega)), fun j j1 j2 => ?_⟩
    · rw [B_C_Arrays_fill_36_5, if_neg (show ¬ (1000 : Int32) ≤ nI i from nI_ge (b := 1000) (by omega) (by decide)), rq_wr (n := 1000) rfl (by omega) (by decide), rq_b, nI_1]
      exact u1
    · by_cases z : j = i
      · subst z
        rw [u2 36 _ (by unfold rn_F; omega), rq_s]
      · exact u3 j (by omega) j2
theorem fc_fill37 : ∀ (d i : Nat) (σ : rt_St) (m : Nat), i + d = 400 → d + 1 ≤ m → ∃ u, B_C_Arrays_fill_37_5 m (-3) (nI i) 400 σ = some u ∧ rq_A (rn_F 37 i) σ u ∧ ∀ j, i ≤ j → j < 400 → u 37 j = (-3) := by
  intro d
  induction d with
  | zero =>
    intro i σ m hd hm
    obtain ⟨m, rfl⟩ : ∃ q, m = q + 1 := ⟨m - 1, by omega⟩
    refine ⟨σ, ?_, rq_A.rf, fun j j1 j2 => by omega⟩
    rw [B_C_Arrays_fill_37_5, if_pos (show (400 : Int32) ≤ nI i from nI_le (a := 400) (by omega) (by omega))]
  | succ d ih =>
    intro i σ m hd hm
    obtain ⟨m, rfl⟩ : ∃ q, m = q + 1 := ⟨m - 1, by omega⟩
    obtain ⟨u, u1, u2, u3⟩ := ih (i + 1) (rt_up σ 37 i (-3)) m (by omega) (by omega)
    refine ⟨u, ?_, (rq_A.rf.up (by unfold rn_F; omega)).tr (u2.mono (fun c j q => by unfold rn_F at q; unfold rn_F; omega)), fun j j1 j2 => ?_⟩
    · rw [B_C_Arrays_fill_37_5, if_neg (show ¬ (400 : Int32) ≤ nI i from nI_ge (b := 400) (by omega) (by decide)), rq_wr (n := 400) rfl (by omega) (by decide), rq_b, nI_1]
      exact u1
    · by_cases z : j = i
      · subst z
        rw [u2 37 _ (by unfold rn_F; omega), rq_s]
      · exact u3 j (by omega) j2
theorem fc_fill38 : ∀ (d i : Nat) (σ : rt_St) (m : Nat), i + d = 6 → d + 1 ≤ m → ∃ u, B_C_Arrays_fill_38_5 m (-3) (nI i) 6 σ = some u ∧ rq_A (rn_F 38 i) σ u ∧ ∀ j, i ≤ j → j < 6 → u 38 j = (-3) := by
  intro d
  induction d with
  | zero =>
    intro i σ m hd hm
    obtain ⟨m, rfl⟩ : ∃ q, m = q + 1 := ⟨m - 1, by omega⟩
    refine ⟨σ, ?_, rq_A.rf, fun j j1 j2 => by omega⟩
    rw [B_C_Arrays_fill_38_5, if_pos (show (6 : Int32) ≤ nI i from nI_le (a := 6) (by omega) (by omega))]
  | succ d ih =>
    intro i σ m hd hm
    obtain ⟨m, rfl⟩ : ∃ q, m = q + 1 := ⟨m - 1, by omega⟩
    obtain ⟨u, u1, u2, u3⟩ := ih (i + 1) (rt_up σ 38 i (-3)) m (by omega) (by omega)
    refine ⟨u, ?_, (rq_A.rf.up (by unfold rn_F; omega)).tr (u2.mono (fun c j q => by unfold rn_F at q; unfold rn_F; omega)), fun j j1 j2 => ?_⟩
    · rw [B_C_Arrays_fill_38_5, if_neg (show ¬ (6 : Int32) ≤ nI i from nI_ge (b := 6) (by omega) (by decide)), rq_wr (n := 6) rfl (by omega) (by decide), rq_b, nI_1]
      exact u1
    · by_cases z : j = i
      · subst z
        rw [u2 38 _ (by unfold rn_F; omega), rq_s]
      · exact u3 j (by omega) j2
theorem fc_fill33 : ∀ (d i : Nat) (σ : rt_St) (m : Nat), i + d = 3 → d + 1 ≤ m → ∃ u, B_C_Arrays_fill_33_5 m (-3) (nI i) 3 σ = some u ∧ rq_A (rn_F 33 i) σ u ∧ ∀ j, i ≤ j → j < 3 → u 33 j = (-3) := by
  intro d
  induction d with
  | zero =>
    intro i σ m hd hm
    obtain ⟨m, rfl⟩ : ∃ q, m = q + 1 := ⟨m - 1, by omega⟩
    refine ⟨σ, ?_, rq_A.rf, fun j j1 j2 => by omega⟩
    rw [B_C_Arrays_fill_33_5, if_pos (show (3 : Int32) ≤ nI i from nI_le (a := 3) (by omega) (by omega))]
  | succ d ih =>
    intro i σ m hd hm
    obtain ⟨m, rfl⟩ : ∃ q, m = q + 1 := ⟨m - 1, by omega⟩
    obtain ⟨u, u1, u2, u3⟩ := ih (i + 1) (rt_up σ 33 i (-3)) m (by omega) (by omega)
    refine ⟨u, ?_, (rq_A.rf.up (by unfold rn_F; omega)).tr (u2.mono (fun c j q => by unfold rn_F at q; unfold rn_F; omega)), fun j j1 j2 => ?_⟩
    · rw [B_C_Arrays_fill_33_5, if_neg (show ¬ (3 : Int32) ≤ nI i from nI_ge (b := 3) (by omega) (by decide)), rq_wr (n := 3) rfl (by omega) (by decide), rq_b, nI_1]
      exact u1
    · by_cases z : j = i
      · subst z
        rw [u2 33 _ (by unfold rn_F; omega), rq_s]
      · exact u3 j (by omega) j2
theorem fc_fill32 : ∀ (d i : Nat) (σ : rt_St) (m : Nat), i + d = 16 → d + 1 ≤ m → ∃ u, B_C_Arrays_fill_32_5 m 0 (nI i) 16 σ = some u ∧ rq_A (rn_F 32 i) σ u ∧ ∀ j, i ≤ j → j < 16 → u 32 j = 0 := by
  intro d
  induction d with
  | zero =>
    intro i σ m hd hm
    obtain ⟨m, rfl⟩ : ∃ q, m = q + 1 := ⟨m - 1, by omega⟩
    refine ⟨σ, ?_, rq_A.rf, fun j j1 j2 => by omega⟩
    rw [B_C_Arrays_fill_32_5, if_pos (show (16 : Int32) ≤ nI i from nI_le (a := 16) (by omega) (by omega))]
  | succ d ih =>
    intro i σ m hd hm
    obtain ⟨m, rfl⟩ : ∃ q, m = q + 1 := ⟨m - 1, by omega⟩
    obtain ⟨u, u1, u2, u3⟩ := ih (i + 1) (rt_up σ 32 i 0) m (by omega) (by omega)
    refine ⟨u, ?_, (rq_A.rf.up (by unfold rn_F; omega)).tr (u2.mono (fun c j q => by unfold rn_F at q; unfold rn_F; omega)), fun j j1 j2 => ?_⟩
    · rw [B_C_Arrays_fill_32_5, if_neg (show ¬ (16 : Int32) ≤ nI i from nI_ge (b := 16) (by omega) (by decide)), rq_wr (n := 16) rfl (by omega) (by decide), rq_b, nI_1]
      exact u1
    · by_cases z : j = i
      · subst z
        rw [u2 32 _ (by unfold rn_F; omega), rq_s]
      · exact u3 j (by omega) j2
def fc_c2 (i c j : Nat) : Prop := ¬ ((c = 30 ∨ c = 35) ∧ i ≤ j)
theorem fc_clr2 : ∀ (d i : Nat) (σ : rt_St) (m : Nat), i + d = 100 → d + 1 ≤ m → ∃ u, B_C_Foreteller_clear_2 m (nI i) σ = B_C_Foreteller_clear_30 FU 0 u ∧ rq_A (fc_c2 i) σ u ∧ ∀ j, i ≤ j → j < 100 → u 30 j = 0 ∧ u 35 j = 0 := by
  intro d
  induction d with
  | zero =>
    intro i σ m hd hm
    obtain ⟨m, rfl⟩ : ∃ q, m = q + 1 := ⟨m - 1, by omega⟩
    refine ⟨σ, ?_, rq_A.rf, fun j j1 j2 => by omega⟩
    rw [B_C_Foreteller_clear_2, if_pos (show (100 : Int32) ≤ nI i from nI_le (a := 100) (by omega) (by omega))]
  | succ d ih =>
    intro i σ m hd hm
    obtain ⟨m, rfl⟩ : ∃ q, m = q + 1 := ⟨m - 1, by omega⟩
    obtain ⟨u, u1, u2, u3⟩ := ih (i + 1) (rt_up (rt_up σ 30 i 0) 35 i 0) m (by omega) (by omega)
    refine ⟨u, ?_, ((rq_A.rf.up (by unfold fc_c2; omega)).up (by unfold fc_c2; omega)).tr (u2.mono (fun c j q => by unfold fc_c2 at q; unfold fc_c2; omega)), fun j j1 j2 => ?_⟩
    · rw [B_C_Foreteller_clear_2, if_neg (show ¬ (100 : Int32) ≤ nI i from nI_ge (b := 100) (by omega) (by decide)), rq_wr (n := 100) rfl (by omega) (by decide), rq_b, rq_wr (n := 100) rfl (by omega) (by decide), rq_b, nI_1]
      exact u1
    · by_cases z : j = i
      · subst z
        rw [u2 30 _ (by unfold fc_c2; omega), u2 35 _ (by unfold fc_c2; omega), rq_c (by decide), rq_s, rq_s]
        exact ⟨rfl, rfl⟩
      · exact u3 j (by omega) j2
theorem fc_clr30 : ∀ (d i : Nat) (σ : rt_St) (m : Nat), i + d = 3 → d + 1 ≤ m → ∃ u, B_C_Foreteller_clear_30 m (nI i) σ = B_C_Foreteller_clear_30 1 (nI 3) u ∧ rq_A (rn_F 34 i) σ u ∧ ∀ j, i ≤ j → j < 3 → u 34 j = 0 := by
  intro d
  induction d with
  | zero =>
    intro i σ m hd hm
    obtain ⟨m, rfl⟩ : ∃ q, m = q + 1 := ⟨m - 1, by omega⟩
    refine ⟨σ, ?_, rq_A.rf, fun j j1 j2 => by omega⟩
    obtain rfl : i = 3 := by omega
    rw [B_C_Foreteller_clear_30, B_C_Foreteller_clear_30, if_pos (show (3 : Int32) ≤ nI 3 from Int32.le_refl _), if_pos (show (3 : Int32) ≤ nI 3 from Int32.le_refl _)]
  | succ d ih =>
    intro i σ m hd hm
    obtain ⟨m, rfl⟩ : ∃ q, m = q + 1 := ⟨m - 1, by omega⟩
    obtain ⟨u, u1, u2, u3⟩ := ih (i + 1) (rt_up σ 34 i 0) m (by omega) (by omega)
    refine ⟨u, ?_, (rq_A.rf.up (by unfold rn_F; omega)).tr (u2.mono (fun c j q => by unfold rn_F at q; unfold rn_F; omega)), fun j j1 j2 => ?_⟩
    · rw [B_C_Foreteller_clear_30, if_neg (show ¬ (3 : Int32) ≤ nI i from nI_ge (b := 3) (by omega) (by decide)), rq_wr (n := 3) rfl (by omega) (by decide), rq_b, nI_1]
      exact u1
    · by_cases z : j = i
      · subst z
        rw [u2 34 _ (by unfold rn_F; omega), rq_s]
      · exact u3 j (by omega) j2
theorem fc_clear (σ : rt_St) : ∃ u, M_C_Foreteller_clear σ = some u ∧ rq_A fc_A σ u ∧ (∀ x, x < 1000 → u 36 x = -3) ∧ (∀ x, x < 400 → u 37 x = -3) ∧ (∀ x, x < 6 → u 38 x = -3) ∧ (∀ x, x < 3 → u 33 x = -3 ∧ u 34 x = 0) ∧ (∀ x, x < 16 → u 32 x = 0) ∧ ∀ x, x < 100 → u 30 x = 0 ∧ u 35 x = 0 := by
  obtain ⟨u1, a1, a2, a3⟩ := fc_clr2 100 0 σ FU rfl (by decide)
  obtain ⟨u2, b1, b2, b3⟩ := fc_clr30 3 0 u1 FU rfl (by decide)
  obtain ⟨u3, c1, c2, c3⟩ := fc_fill36 1000 0 u2 FU rfl (by decide)
  obtain ⟨u4, d1, d2, d3⟩ := fc_fill37 400 0 u3 FU rfl (by decide)
  obtain ⟨u5, e1, e2, e3⟩ := fc_fill38 6 0 u4 FU rfl (by decide)
  obtain ⟨u6, f1, f2, f3⟩ := fc_fill33 3 0 u5 FU rfl (by decide)
  obtain ⟨u7, g1, g2, g3⟩ := fc_fill32 16 0 u6 FU rfl (by decide)
  have c1' : M_C_Arrays_fill_36 u2 (-3) = some u3 := c1
  have d1' : M_C_Arrays_fill_37 u3 (-3) = some u4 := d1
  have e1' : M_C_Arrays_fill_38 u4 (-3) = some u5 := e1
  have f1' : M_C_Arrays_fill_33 u5 (-3) = some u6 := f1
  have g1' : M_C_Arrays_fill_32 u6 0 = some u7 := g1
  refine ⟨u7, ?_, fun c j h => ?_, fun x hx => ?_, fun x hx => ?_, fun x hx => ?_, fun x hx => ?_, fun x hx => g3 x (by omega) hx, fun x hx => ?_⟩
  · refine a1.trans (b1.trans ?_)
    rw [B_C_Foreteller_clear_30, if_pos (show (3 : Int32) ≤ nI 3 from Int32.le_refl _), c1', rq_b, d1', rq_b, e1', rq_b, f1', rq_b, g1', rq_b]
  · unfold fc_A at h
    rw [g2 c j (by unfold rn_F; omega), f2 c j (by unfold rn_F; omega), e2 c j (by unfold rn_F; omega), d2 c j (by unfold rn_F; omega), c2 c j (by unfold rn_F; omega), b2 c j (by unfold rn_F; omega), a2 c j (by unfold fc_c2; omega)]
  · rw [g2 36 x (by unfold rn_F; omega), f2 36 x (by unfold rn_F; omega), e2 36 x (by unfold rn_F; omega), d2 36 x (by unfold rn_F; omega)]; exact c3 x (by omega) hx
  · rw [g2 37 x (by unfold rn_F; omega), f2 37 x (by unfold rn_F; omega), e2 37 x (by unfold rn_F; omega)]; exact d3 x (by omega) hx
  · rw [g2 38 x (by unfold rn_F; omega), f2 38 x (by unfold rn_F; omega)]; exact e3 x (by omega) hx
  · rw [g2 33 x (by unfold rn_F; omega), g2 34 x (by unfold rn_F; omega), f2 34 x (by unfold rn_F; omega), e2 34 x (by unfold rn_F; omega), d2 34 x (by unfold rn_F; omega), c2 34 x (by unfold rn_F; omega)]; exact ⟨f3 x (by omega) hx, b3 x (by omega) hx⟩
  · rw [g2 30 x (by unfold rn_F; omega), g2 35 x (by unfold rn_F; omega), f2 30 x (by unfold rn_F; omega), f2 35 x (by unfold rn_F; omega), e2 30 x (by unfold rn_F; omega), e2 35 x (by unfold rn_F; omega), d2 30 x (by unfold rn_F; omega), d2 35 x (by unfold rn_F; omega), c2 30 x (by unfold rn_F; omega), c2 35 x (by unfold rn_F; omega), b2 30 x (by unfold rn_F; omega), b2 35 x (by unfold rn_F; omega)]
    exact a3 x (by omega) hx
/-- the first growth: nothing but the first function's row -/
theorem ft_A1_In (D : md_A F N op ar ow pa lo re fs hs gl bk kp L) {W0 W : Nat → Prop} (V : ft_V F N ow pa lo re fs hs L (ft_A1 pa lo fs)) (E : ft_E N op ar ft_A0 W0 (ft_A1 pa lo fs) W) : ft_In (ft_X op ar ow pa lo re fs hs gl bk kp) (ft_V F N ow pa lo re fs hs L) N (ft_A1 pa lo fs) W (ft_A1 pa lo fs) := by
  refine ⟨V, ft_L.rf, fun B _ hb _ => hb, fun k hk hr hw => ?_⟩
  have sm := E.2.2.1 k hk hw
  rw [sm.1] at hr
  exact absurd hr (ft_A0_f (by decide))
theorem fc_foretell (D : md_A F N op ar ow pa lo re fs hs gl bk kp L) (T : fc_M N F op ar ow pa lo re fs gl bk kp L σ) : ∃ u A P, M_C_Foreteller_foretell σ = some u ∧ rq_A fc_A σ u ∧ fc_I N F op ar ow pa lo re fs hs gl bk kp L (ft_A1 pa lo fs) A P u ∧ ∀ j, j < N → ¬ fc_W u j := by
  have D0 := D
  obtain ⟨⟨hN, hF1, hF3⟩, m1, m2, -⟩ := D
  obtain ⟨f1, f2, f3, f4, pa2, lo2, -⟩ := m1 0 (by omega)
  obtain ⟨w, a1, a2, a3, a4, a5, a6, a7, a8⟩ := fc_clear σ
  have V0 := ft_A0_V D0
  obtain ⟨P, hP⟩ : ∃ P : Nat → ft_G, ∀ x, P x = if x < 2 then (0, 63, 0) else ft_bot := ⟨_, fun _ => rfl⟩
  obtain ⟨w2, hw2⟩ : ∃ w2, w2 = rt_up (rt_up w 38 0 4032) 38 1 4032 := ⟨_, rfl⟩
  have far : ∀ c x, c ≠ 38 → w2 c x = w c x := fun c x hc => by rw [hw2, rq_c hc, rq_c hc]
  have A2 : rq_A fc_A σ w2 := fun c x h => by rw [far c x (by unfold fc_A at h; omega)]; exact a2 c x h
  have vec : ∀ i, i < pa 0 → (if i < pa 0 then ((0, 63, 0) : ft_G) else (0, 0, 0)) = P (2 * 0 + i) := fun i hi => by rw [if_pos hi, hP, if_pos (by omega)]
  have G0 : fc_G N F op ar ow pa lo re fs hs gl bk kp L ft_A0 (ft_A1 pa lo fs) P w2 := by
    refine ⟨T.keep A2, V0, fun x hx => ?_, fun x hx => ?_, fun x hx => ?_, fun f hf => ?_, fun k hk => ?_, fun k hk h => absurd h (ft_A0_f (by decide)), fun k hk => ?_, fun x hx => ?_, fun g i hg hi => ?_⟩
    · rw [far 36 x (by decide)]; exact a3 x hx
    · rw [far 37 x (by decide)]; exact a4 x hx
    · rw [far 32 x (by decide)]; exact a7 x hx
    · rw [far 33 f (by decide), far 34 f (by decide)]; exact a6 f hf
    · rw [far 30 k (by decide)]; exact (a8 k hk).1
    · rw [far 35 k (by decide)]; exact Or.inl (a8 k hk).2
    · rw [hP]
      by_cases z : x < 2
      · rw [if_pos z]
        refine ⟨?_, Or.inr (by unfold ft_ok; decide)⟩
        rcases (show x = 0 ∨ x = 1 by omega) with rfl | rfl
        · rw [hw2, rq_k (by decide), rq_s]; rfl
        · rw [hw2, rq_s]; rfl
      · rw [if_neg z]
        refine ⟨?_, Or.inl rfl⟩
        rw [hw2, rq_k (by omega), rq_k (by omega)]; exact a5 x hx
    · have pg := (m1 g hg).2.2.2.2.1
      have U1 : ((ft_A1 pa lo fs) 1 (4 * fs g + i)).1 ≤ 64 := by
        show (ft_j (ft_A0 1 (4 * fs g + i)) _).1 ≤ 64
        exact (ft_j_l (r := ft_A0 1 (4 * fs g + i))).1
      by_cases z : g = 0
      · subst z
        rw [← vec i hi]
        have q : ft_le (ft_pass (fs 0) 0 (pa 0 + lo 0) (fun _ => ft_bot) (fun i => if i < pa 0 then (0, 63, 0) else (0, 0, 0)) 1 (4 * fs 0 + i)) ((ft_A1 pa lo fs) 1 (4 * fs 0 + i)) := ft_J_r 1 (4 * fs 0 + i)
        rw [ft_pass_1 (by omega) (by omega), if_pos ⟨rfl, by omega⟩] at q
        exact q
      · rw [hP, if_neg (by omega)]; exact ft_bot_le U1
  have en := fc_enter (st := fun _ => ft_bot) (f := 0) D0 G0 (by omega) (fun i hi => by rw [hP, if_pos (by omega)]; unfold ft_ok; decide)
  have pe : ft_pass (fs 0) 0 (pa 0 + lo 0) (fun _ => ft_bot) (fun i => if i < pa 0 then P (2 * 0 + i) else (0, 0, 0)) = ft_pass (fs 0) 0 (pa 0 + lo 0) (fun _ => ft_bot) (fun i => if i < pa 0 then (0, 63, 0) else (0, 0, 0)) := congrArg (ft_pass (fs 0) 0 (pa 0 + lo 0) (fun _ => ft_bot)) (funext fun i => by
    by_cases z : i < pa 0
    · rw [if_pos z, if_pos z, hP, if_pos (by omega)]
    · rw [if_neg z, if_neg z])
  rw [pe] at en
  obtain ⟨u, P', b1, b2, b3, b4, -⟩ := en
  have I1 : fc_I N F op ar ow pa lo re fs hs gl bk kp L (ft_A1 pa lo fs) (ft_A1 pa lo fs) P' u := ⟨b3, ft_A1_In D0 b3.2.1 b4⟩
  have mub : ft_mu (ft_A1 pa lo fs) ≤ 197000 := ft_mu_b (fun c x => (b3.2.1.u c x).1)
  obtain ⟨v, A', P2, c1, c2, c3, c4⟩ := fc_passes D0 197000 FU 0 (ft_A1 pa lo fs) P' u mub (by decide) (by decide) I1
  refine ⟨v, A', P2, ?_, A2.tr (b2.tr c2), c3, c4⟩
  unfold M_C_Foreteller_foretell
  rw [a1, rq_b]
  show B_C_Foreteller_foretell_6 (1999997 + 1 + 1 + 1) 0 w = _
  have b1' : M_C_Foreteller_enter w2 0 = some u := b1
  have c1' : B_C_Foreteller_foretell_35 FU 1 0 u = some v := c1
  rw [B_C_Foreteller_foretell_6, if_neg (by decide), rq_wr (n := 6) (i := 0) (x := 0) rfl (by decide) (by decide), rq_b, B_C_Foreteller_foretell_6, if_neg (by decide), rq_wr (n := 6) (i := 1) (x := 0 + 1) rfl (by decide) (by decide), rq_b, B_C_Foreteller_foretell_6, if_pos (by decide), ← hw2, b1', rq_b]
  exact c1'
end FCJ
