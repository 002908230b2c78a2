/-! foretelling, the class: joining into what is known -/
def fc_j3639 (b i n c j : Nat) : Prop := ¬ (c = 36 ∧ b + i ≤ j ∧ j < b + n)
theorem fc_join3639 {b s n : Nat} {g t : Nat → ft_G} (hb : b + n ≤ 1000) (hs : s + n ≤ 10) (hg : ∀ j, j < n → ft_v (g j)) (ht : ∀ j, j < n → ft_v (t j)) : ∀ (d i fl m : Nat) (σ : rt_St), i + d = n → d + 1 ≤ m → fl < 2 → (∀ j, i ≤ j → j < n → σ 36 (b + j) = ft_c (g j)) → (∀ j, i ≤ j → j < n → σ 39 (s + j) = ft_c (t j)) → ∃ u f2, B_C_Foreteller_joinInto_36_39_6 m (nI b) (nI s) (nI n) (nI fl) (nI i) σ = some (nI f2, u) ∧ f2 < 2 ∧ rq_A (fc_j3639 b i n) σ u ∧ (∀ j, i ≤ j → j < n → u 36 (b + j) = ft_c (ft_j (g j) (t j))) ∧ (f2 = 0 ↔ fl = 0 ∧ ∀ j, i ≤ j → j < n → ft_j (g j) (t j) = g j) := by
  intro d
  induction d with
  | zero =>
    intro i fl m σ hd hm hfl h1 h2
    obtain ⟨m, rfl⟩ : ∃ q, m = q + 1 := ⟨m - 1, by omega⟩
    refine ⟨σ, fl, ?_, hfl, rq_A.rf, fun j j1 j2 => by omega, ⟨fun h => ⟨h, fun j j1 j2 => by omega⟩, fun h => h.1⟩⟩
    rw [B_C_Foreteller_joinInto_36_39_6, if_pos (nI_le (by omega) (by omega))]
    rcases (show fl = 0 ∨ fl = 1 by omega) with rfl | rfl
    · rfl
    · rfl
  | succ d ih =>
    intro i fl m σ hd hm hfl h1 h2
    obtain ⟨m, rfl⟩ : ∃ q, m = q + 1 := ⟨m - 1, by omega⟩
    have e1 := h1 i (Nat.le_refl _) (by omega)
    have e2 := h2 i (Nat.le_refl _) (by omega)
    have vg := hg i (by omega)
    have vt := ht i (by omega)
    have st : B_C_Foreteller_joinInto_36_39_6 (m + 1) (nI b) (nI s) (nI n) (nI fl) (nI i) σ = if ft_c (ft_j (g i) (t i)) = ft_c (g i) then B_C_Foreteller_joinInto_36_39_6 m (nI b) (nI s) (nI n) (nI fl) (nI (i + 1)) σ else B_C_Foreteller_joinInto_36_39_6 m (nI b) (nI s) (nI n) (nI 1) (nI (i + 1)) (rt_up σ 36 (b + i) (ft_c (ft_j (g i) (t i)))) := by
      rw [B_C_Foreteller_joinInto_36_39_6, if_neg (nI_ge (by omega) (by omega)), nI_add, nI_add, rq_rd (n := 1000) rfl (by omega) (by decide), rq_b, e1, rq_rd (n := 10) rfl (by omega) (by decide), rq_b, e2, ft_join vg vt, rq_b, rq_b, rq_wr (n := 1000) rfl (by omega) (by decide), rq_b]
      unfold B_C_Foreteller_joinInto_36_39_52
      rw [nI_1]
      rfl
    by_cases z : ft_j (g i) (t i) = g i
    · rw [if_pos (show ft_c (ft_j (g i) (t i)) = ft_c (g i) by rw [z])] at st
      obtain ⟨u, f2, q1, q2, q3, q4, q5⟩ := ih (i + 1) fl m σ (by omega) (by omega) hfl (fun j j1 j2 => h1 j (by omega) j2) (fun j j1 j2 => h2 j (by omega) j2)
      refine ⟨u, f2, st.trans q1, q2, q3.mono (fun c j q => by unfold fc_j3639 at q; unfold fc_j3639; omega), fun j j1 j2 => ?_, ⟨fun h => ⟨(q5.mp h).1, fun j j1 j2 => ?_⟩, fun h => q5.mpr ⟨h.1, fun j j1 j2 => h.2 j (by omega) j2⟩⟩⟩
      · by_cases w : j = i
        · subst w; rw [q3 36 _ (by unfold fc_j3639; omega), z]; exact e1
        · exact q4 j (by omega) j2
      · by_cases w : j = i
        · rw [w]; exact z
        · exact (q5.mp h).2 j (by omega) j2
    · have zc : ¬ ft_c (ft_j (g i) (t i)) = ft_c (g i) := fun e => z (ft_c_inj (ft_v_j vg vt) vg e)
      rw [if_neg zc] at st
      obtain ⟨u, f2, q1, q2, q3, q4, q5⟩ := ih (i + 1) 1 m (rt_up σ 36 (b + i) (ft_c (ft_j (g i) (t i)))) (by omega) (by omega) (by decide) (fun j j1 j2 => by rw [rq_k (by omega)]; exact h1 j (by omega) j2) (fun j j1 j2 => by rw [rq_c (by decide)]; exact h2 j (by omega) j2)
      refine ⟨u, f2, st.trans q1, q2, (rq_A.rf.up (by unfold fc_j3639; omega)).tr (q3.mono (fun c j q => by unfold fc_j3639 at q; unfold fc_j3639; omega)), fun j j1 j2 => ?_, ⟨fun h => absurd (q5.mp h).1 (by decide), fun h => absurd (h.2 i (Nat.le_refl _) (by omega)) z⟩⟩
      by_cases w : j = i
      · subst w; rw [q3 36 _ (by unfold fc_j3639; omega), rq_s]
      · exact q4 j (by omega) j2
def fc_j3740 (b i n c j : Nat) : Prop := ¬ (c = 37 ∧ b + i ≤ j ∧ j < b + n)
theorem fc_join3740 {b s n : Nat} {g t : Nat → ft_G} (hb : b + n ≤ 400) (hs : s + n ≤ 4) (hg : ∀ j, j < n → ft_v (g j)) (ht : ∀ j, j < n → ft_v (t j)) : ∀ (d i fl m : Nat) (σ : rt_St), i + d = n → d + 1 ≤ m → fl < 2 → (∀ j, i ≤ j → j < n → σ 37 (b + j) = ft_c (g j)) → (∀ j, i ≤ j → j < n → σ 40 (s + j) = ft_c (t j)) → ∃ u f2, B_C_Foreteller_joinInto_37_40_6 m (nI b) (nI s) (nI n) (nI fl) (nI i) σ = some (nI f2, u) ∧ f2 < 2 ∧ rq_A (fc_j3740 b i n) σ u ∧ (∀ j, i ≤ j → j < n → u 37 (b + j) = ft_c (ft_j (g j) (t j))) ∧ (f2 = 0 ↔ fl = 0 ∧ ∀ j, i ≤ j → j < n → ft_j (g j) (t j) = g j) := by
  intro d
  induction d with
  | zero =>
    intro i fl m σ hd hm hfl h1 h2
    obtain ⟨m, rfl⟩ : ∃ q, m = q + 1 := ⟨m - 1, by omega⟩
    refine ⟨σ, fl, ?_, hfl, rq_A.rf, fun j j1 j2 => by omega, ⟨fun h => ⟨h, fun j j1 j2 => by omega⟩, fun h => h.1⟩⟩
    rw [B_C_Foreteller_joinInto_37_40_6, if_pos (nI_le (by omega) (by omega))]
    rcases (show fl = 0 ∨ fl = 1 by omega) with rfl | rfl
    · rfl
    · rfl
  | succ d ih =>
    intro i fl m σ hd hm hfl h1 h2
    obtain ⟨m, rfl⟩ : ∃ q, m = q + 1 := ⟨m - 1, by omega⟩
    have e1 := h1 i (Nat.le_refl _) (by omega)
    have e2 := h2 i (Nat.le_refl _) (by omega)
    have vg := hg i (by omega)
    have vt := ht i (by omega)
    have st : B_C_Foreteller_joinInto_37_40_6 (m + 1) (nI b) (nI s) (nI n) (nI fl) (nI i) σ = if ft_c (ft_j (g i) (t i)) = ft_c (g i) then B_C_Foreteller_joinInto_37_40_6 m (nI b) (nI s) (nI n) (nI fl) (nI (i + 1)) σ else B_C_Foreteller_joinInto_37_40_6 m (nI b) (nI s) (nI n) (nI 1) (nI (i + 1)) (rt_up σ 37 (b + i) (ft_c (ft_j (g i) (t i)))) := by
      rw [B_C_Foreteller_joinInto_37_40_6, if_neg (nI_ge (by omega) (by omega)), nI_add, nI_add, rq_rd (n := 400) rfl (by omega) (by decide), rq_b, e1, rq_rd (n := 4) rfl (by omega) (by decide), rq_b, e2, ft_join vg vt, rq_b, rq_b, rq_wr (n := 400) rfl (by omega) (by decide), rq_b]
      unfold B_C_Foreteller_joinInto_37_40_52
      rw [nI_1]
      rfl
    by_cases z : ft_j (g i) (t i) = g i
    · rw [if_pos (show ft_c (ft_j (g i) (t i)) = ft_c (g i) by rw [z])] at st
      obtain ⟨u, f2, q1, q2, q3, q4, q5⟩ := ih (i + 1) fl m σ (by omega) (by omega) hfl (fun j j1 j2 => h1 j (by omega) j2) (fun j j1 j2 => h2 j (by omega) j2)
      refine ⟨u, f2, st.trans q1, q2, q3.mono (fun c j q => by unfold fc_j3740 at q; unfold fc_j3740; omega), fun j j1 j2 => ?_, ⟨fun h => ⟨(q5.mp h).1, fun j j1 j2 => ?_⟩, fun h => q5.mpr ⟨h.1, fun j j1 j2 => h.2 j (by omega) j2⟩⟩⟩
      · by_cases w : j = i
        · subst w; rw [q3 37 _ (by unfold fc_j3740; omega), z]; exact e1
        · exact q4 j (by omega) j2
      · by_cases w : j = i
        · rw [w]; exact z
        · exact (q5.mp h).2 j (by omega) j2
    · have zc : ¬ ft_c (ft_j (g i) (t i)) = ft_c (g i) := fun e => z (ft_c_inj (ft_v_j vg vt) vg e)
      rw [if_neg zc] at st
      obtain ⟨u, f2, q1, q2, q3, q4, q5⟩ := ih (i + 1) 1 m (rt_up σ 37 (b + i) (ft_c (ft_j (g i) (t i)))) (by omega) (by omega) (by decide) (fun j j1 j2 => by rw [rq_k (by omega)]; exact h1 j (by omega) j2) (fun j j1 j2 => by rw [rq_c (by decide)]; exact h2 j (by omega) j2)
      refine ⟨u, f2, st.trans q1, q2, (rq_A.rf.up (by unfold fc_j3740; omega)).tr (q3.mono (fun c j q => by unfold fc_j3740 at q; unfold fc_j3740; omega)), fun j j1 j2 => ?_, ⟨fun h => absurd (q5.mp h).1 (by decide), fun h => absurd (h.2 i (Nat.le_refl _) (by omega)) z⟩⟩
      by_cases w : j = i
      · subst w; rw [q3 37 _ (by unfold fc_j3740; omega), rq_s]
      · exact q4 j (by omega) j2
def fc_j3839 (b i n c j : Nat) : Prop := ¬ (c = 38 ∧ b + i ≤ j ∧ j < b + n)
theorem fc_join3839 {b s n : Nat} {g t : Nat → ft_G} (hb : b + n ≤ 6) (hs : s + n ≤ 10) (hg : ∀ j, j < n → ft_v (g j)) (ht : ∀ j, j < n → ft_v (t j)) : ∀ (d i fl m : Nat) (σ : rt_St), i + d = n → d + 1 ≤ m → fl < 2 → (∀ j, i ≤ j → j < n → σ 38 (b + j) = ft_c (g j)) → (∀ j, i ≤ j → j < n → σ 39 (s + j) = ft_c (t j)) → ∃ u f2, B_C_Foreteller_joinInto_38_39_6 m (nI b) (nI s) (nI n) (nI fl) (nI i) σ = some (nI f2, u) ∧ f2 < 2 ∧ rq_A (fc_j3839 b i n) σ u ∧ (∀ j, i ≤ j → j < n → u 38 (b + j) = ft_c (ft_j (g j) (t j))) ∧ (f2 = 0 ↔ fl = 0 ∧ ∀ j, i ≤ j → j < n → ft_j (g j) (t j) = g j) := by
  intro d
  induction d with
  | zero =>
    intro i fl m σ hd hm hfl h1 h2
    obtain ⟨m, rfl⟩ : ∃ q, m = q + 1 := ⟨m - 1, by omega⟩
    refine ⟨σ, fl, ?_, hfl, rq_A.rf, fun j j1 j2 => by omega, ⟨fun h => ⟨h, fun j j1 j2 => by omega⟩, fun h => h.1⟩⟩
    rw [B_C_Foreteller_joinInto_38_39_6, if_pos (nI_le (by omega) (by omega))]
    rcases (show fl = 0 ∨ fl = 1 by omega) with rfl | rfl
    · rfl
    · rfl
  | succ d ih =>
    intro i fl m σ hd hm hfl h1 h2
    obtain ⟨m, rfl⟩ : ∃ q, m = q + 1 := ⟨m - 1, by omega⟩
    have e1 := h1 i (Nat.le_refl _) (by omega)
    have e2 := h2 i (Nat.le_refl _) (by omega)
    have vg := hg i (by omega)
    have vt := ht i (by omega)
    have st : B_C_Foreteller_joinInto_38_39_6 (m + 1) (nI b) (nI s) (nI n) (nI fl) (nI i) σ = if ft_c (ft_j (g i) (t i)) = ft_c (g i) then B_C_Foreteller_joinInto_38_39_6 m (nI b) (nI s) (nI n) (nI fl) (nI (i + 1)) σ else B_C_Foreteller_joinInto_38_39_6 m (nI b) (nI s) (nI n) (nI 1) (nI (i + 1)) (rt_up σ 38 (b + i) (ft_c (ft_j (g i) (t i)))) := by
      rw [B_C_Foreteller_joinInto_38_39_6, if_neg (nI_ge (by omega) (by omega)), nI_add, nI_add, rq_rd (n := 6) rfl (by omega) (by decide), rq_b, e1, rq_rd (n := 10) rfl (by omega) (by decide), rq_b, e2, ft_join vg vt, rq_b, rq_b, rq_wr (n := 6) rfl (by omega) (by decide), rq_b]
      unfold B_C_Foreteller_joinInto_38_39_52
      rw [nI_1]
      rfl
    by_cases z : ft_j (g i) (t i) = g i
    · rw [if_pos (show ft_c (ft_j (g i) (t i)) = ft_c (g i) by rw [z])] at st
      obtain ⟨u, f2, q1, q2, q3, q4, q5⟩ := ih (i + 1) fl m σ (by omega) (by omega) hfl (fun j j1 j2 => h1 j (by omega) j2) (fun j j1 j2 => h2 j (by omega) j2)
      refine ⟨u, f2, st.trans q1, q2, q3.mono (fun c j q => by unfold fc_j3839 at q; unfold fc_j3839; omega), fun j j1 j2 => ?_, ⟨fun h => ⟨(q5.mp h).1, fun j j1 j2 => ?_⟩, fun h => q5.mpr ⟨h.1, fun j j1 j2 => h.2 j (by omega) j2⟩⟩⟩
      · by_cases w : j = i
        · subst w; rw [q3 38 _ (by unfold fc_j3839; omega), z]; exact e1
        · exact q4 j (by omega) j2
      · by_cases w : j = i
        · rw [w]; exact z
        · exact (q5.mp h).2 j (by omega) j2
    · have zc : ¬ ft_c (ft_j (g i) (t i)) = ft_c (g i) := fun e => z (ft_c_inj (ft_v_j vg vt) vg e)
      rw [if_neg zc] at st
      obtain ⟨u, f2, q1, q2, q3, q4, q5⟩ := ih (i + 1) 1 m (rt_up σ 38 (b + i) (ft_c (ft_j (g i) (t i)))) (by omega) (by omega) (by decide) (fun j j1 j2 => by rw [rq_k (by omega)]; exact h1 j (by omega) j2) (fun j j1 j2 => by rw [rq_c (by decide)]; exact h2 j (by omega) j2)
      refine ⟨u, f2, st.trans q1, q2, (rq_A.rf.up (by unfold fc_j3839; omega)).tr (q3.mono (fun c j q => by unfold fc_j3839 at q; unfold fc_j3839; omega)), fun j j1 j2 => ?_, ⟨fun h => absurd (q5.mp h).1 (by decide), fun h => absurd (h.2 i (Nat.le_refl _) (by omega)) z⟩⟩
      by_cases w : j = i
      · subst w; rw [q3 38 _ (by unfold fc_j3839; omega), rq_s]
      · exact q4 j (by omega) j2
