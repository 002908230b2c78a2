/-! running: a call -/
def rn_E1 (D i c j : Nat) : Prop := ¬ ((c = 26 ∧ 4 * D + i ≤ j) ∨ (c = 21 ∧ j = 9))
def rn_E2 (D i c j : Nat) : Prop := ¬ (c = 22 ∧ 4 * (D + 1) + i ≤ j)
def rn_E3 (c j : Nat) : Prop := ¬ (c = 22 ∨ c = 23 ∨ c = 20 ∨ (c = 0 ∧ (j = 30 ∨ j = 36)))
def rn_CC (c j : Nat) : Prop := ¬ ((26 ≤ c ∧ c ≤ 28) ∨ (c = 21 ∧ (j = 9 ∨ j = 16 ∨ j = 17)))
section RN5
variable {D h m a b k p f s0 H0 : Nat} {n c : Nat → Nat} {σ τ u v w : rt_St}
theorem rn_entC (hD : D ≤ 6) (hf : f < 3) (hp : p ≤ 4) (hH : H0 + p ≤ 70) : ∀ (d i : Nat) (σ : rt_St) (m : Nat), i + d = 4 → d + 1 ≤ m → σ 21 16 = nI D → σ 21 17 = nI H0 → σ 10 f = nI s0 → ∃ u, B_C_Runner_enter_35 m (nI f) (nI p) (nI i) σ = some u ∧ rq_A (rn_E1 D i) σ u ∧ u 21 9 = nI s0 ∧ ∀ j, i ≤ j → j < 4 → u 26 (4 * D + j) = if j < p then σ 25 (H0 + j) else 0 := by
  intro d
  induction d with
  | zero =>
    intro i σ m hd hm h16 h17 h10
    obtain ⟨m, rfl⟩ : ∃ q, m = q + 1 := ⟨m - 1, by omega⟩
    refine ⟨rt_up σ 21 9 (nI s0), ?_, rq_A.rf.up (by unfold rn_E1; omega), rq_s, fun j j1 j2 => by omega⟩
    rw [B_C_Runner_enter_35, if_pos (show (4 : Int32) ≤ nI i from nI_le (a := 4) (by omega) (by omega)), rq_rd (n := 3) rfl hf (by decide), rq_b, h10, rq_put, rq_b]
  | succ d ih =>
    intro i σ m hd hm h16 h17 h10
    obtain ⟨m, rfl⟩ : ∃ q, m = q + 1 := ⟨m - 1, by omega⟩
    have ix : σ 21 16 * 4 + nI i = nI (4 * D + i) := by rw [h16, show (4 : Int32) = nI 4 from rfl, pk_mul, nI_add, Nat.mul_comm D 4]
    have e0 : B_C_Runner_enter_35 (m + 1) (nI f) (nI p) (nI i) σ = B_C_Runner_enter_35 m (nI f) (nI p) (nI (i + 1)) (rt_up σ 26 (4 * D + i) (if i < p then σ 25 (H0 + i) else 0)) := by
      rw [B_C_Runner_enter_35, if_neg (show ¬ (4 : Int32) ≤ nI i from nI_ge (b := 4) (by omega) (by decide)), ix]
      unfold B_C_Runner_enter_72
      by_cases z : i < p
      · rw [if_neg (nI_ge z (by omega)), h17, nI_add, rq_rd (n := 70) rfl (by omega) (by decide), rq_b, rq_wr (n := 28) rfl (by omega) (by decide), rq_b, nI_1, if_pos z]
      · rw [if_pos (nI_le (by omega) (by omega)), rq_wr (n := 28) rfl (by omega) (by decide), rq_b, nI_1, if_neg z]
    obtain ⟨u, u1, u2, u3, u4⟩ := ih (i + 1) (rt_up σ 26 (4 * D + i) (if i < p then σ 25 (H0 + i) else 0)) m (by omega) (by omega) (by rw [rq_c (by decide)]; exact h16) (by rw [rq_c (by decide)]; exact h17) (by rw [rq_c (by decide)]; exact h10)
    refine ⟨u, e0.trans u1, (rq_A.rf.up (by unfold rn_E1; omega)).tr (u2.mono (fun c j q => by unfold rn_E1 at q; unfold rn_E1; omega)), u3, fun j j1 j2 => ?_⟩
    by_cases z : j = i
    · subst z
      rw [u2 26 _ (by unfold rn_E1; omega), rq_s]
    · rw [u4 j (by omega) j2, rq_c (by decide)]
theorem rn_entR1 (hD : D ≤ 5) (l1 l2 : Int32) : ∀ (d i : Nat) (τ : rt_St) (m : Nat), i + d = 4 → d + 1 ≤ m → ∃ v, B_R_RangeTellerModel_enter_27 m l1 l2 (nI p) (nI (4 * (D + 1))) (nI i) τ = B_R_RangeTellerModel_enter_55 FU l1 l2 (nI (4 * (D + 1))) (nI p - 1) v ∧ rq_A (rn_E2 D i) τ v ∧ ∀ j, i ≤ j → j < 4 → v 22 (4 * (D + 1) + j) = 0 := by
  intro d
  induction d with
  | zero =>
    intro i τ m hd hm
    obtain ⟨m, rfl⟩ : ∃ q, m = q + 1 := ⟨m - 1, by omega⟩
    refine ⟨τ, ?_, rq_A.rf, fun j j1 j2 => by omega⟩
    rw [B_R_RangeTellerModel_enter_27, if_pos (show (4 : Int32) ≤ nI i from nI_le (a := 4) (by omega) (by omega))]
  | succ d ih =>
    intro i τ m hd hm
    obtain ⟨m, rfl⟩ : ∃ q, m = q + 1 := ⟨m - 1, by omega⟩
    obtain ⟨v, v1, v2, v3⟩ := ih (i + 1) (rt_up τ 22 (4 * (D + 1) + i) 0) m (by omega) (by omega)
    refine ⟨v, ?_, (rq_A.rf.up (by unfold rn_E2; omega)).tr (v2.mono (fun c j q => by unfold rn_E2 at q; unfold rn_E2; omega)), fun j j1 j2 => ?_⟩
    · rw [B_R_RangeTellerModel_enter_27, if_neg (show ¬ (4 : Int32) ≤ nI i from nI_ge (b := 4) (by omega) (by decide)), nI_add, rq_wr (n := 32) rfl (by omega) (by decide), rq_b, nI_1]
      exact v1
    · by_cases z : j = i
      · subst z
        rw [v2 22 _ (by unfold rn_E2; omega), rq_s]
      · exact v3 j (by omega) j2
theorem rn_entR2 (hD : D ≤ 5) (hf : f < 3) : ∀ (q : Nat) (x : Int32) (τ : rt_St) (m hh : Nat), q ≤ 4 → hh + q ≤ 10 → q + 1 ≤ m → (q = 0 ∧ x = -1 ∨ ∃ r, q = r + 1 ∧ x = nI r) → τ 0 30 = nI D → τ 23 D = nI (hh + q) → τ 14 f = nI s0 → ∃ v, B_R_RangeTellerModel_enter_55 m (nI k) (nI f) (nI (4 * (D + 1))) x τ = some v ∧ v 0 30 = nI (D + 1) ∧ v 20 (D + 1) = nI k ∧ v 23 (D + 1) = nI 0 ∧ v 23 D = nI hh ∧ v 0 36 = nI s0 ∧ (∀ j, j < q → v 22 (4 * (D + 1) + j) = τ 21 (10 * D + (hh + j))) ∧ (∀ j, (j < 4 * (D + 1) ∨ 4 * (D + 1) + q ≤ j) → v 22 j = τ 22 j) ∧ (∀ d, d ≠ D → d ≠ D + 1 → v 23 d = τ 23 d) ∧ (∀ d, d ≠ D + 1 → v 20 d = τ 20 d) ∧ rq_A rn_E3 τ v := by
  intro q
  induction q with
  | zero =>
    intro x τ m hh q1 q2 q3 hx h30 h23 h14
    obtain ⟨m, rfl⟩ : ∃ q, m = q + 1 := ⟨m - 1, by omega⟩
    have hx : x = -1 := by
      rcases hx with ⟨-, hx⟩ | ⟨r, hr, -⟩
      · exact hx
      · omega
    subst hx
    refine ⟨rt_up (rt_up (rt_up (rt_up τ 0 30 (nI (D + 1))) 20 (D + 1) (nI k)) 23 (D + 1) 0) 0 36 (nI s0), ?_, ?_, ?_, ?_, ?_, rq_s, fun j hj => by omega, fun j _ => ?_, fun d d1 d2 => ?_, fun d d1 => ?_, ?_⟩
    · rw [B_R_RangeTellerModel_enter_55, if_pos (by decide), rq_put, rq_b, h30, nI_1, rq_wr (n := 8) (i := D + 1) rq_s (by omega) (by decide), rq_b, rq_wr (n := 8) (i := D + 1) (by rw [rq_c (by decide), rq_s]) (by omega) (by decide), rq_b, rq_rd (n := 3) rfl hf (by decide), rq_b, rq_put, rq_b, rq_c (by decide), rq_c (by decide), rq_c (by decide), h14]
    · rw [rq_k (by decide), rq_c (by decide), rq_c (by decide), rq_s]
    · rw [rq_c (by decide), rq_c (by decide), rq_s]
    · rw [rq_c (by decide), rq_s]; rfl
    · rw [rq_c (by decide), rq_k (by omega), rq_c (by decide), rq_c (by decide)]; exact h23
    · rw [rq_c (by decide), rq_c (by decide), rq_c (by decide), rq_c (by decide)]
    · rw [rq_c (by decide), rq_k (by omega), rq_c (by decide), rq_c (by decide)]
    · rw [rq_c (by decide), rq_c (by decide), rq_k (by omega), rq_c (by decide)]
    · exact (((rq_A.rf.up (by unfold rn_E3; omega)).up (by unfold rn_E3; omega)).up (by unfold rn_E3; omega)).up (by unfold rn_E3; omega)
  | succ q ih =>
    intro x τ m hh q1 q2 q3 hx h30 h23 h14
    obtain ⟨m, rfl⟩ : ∃ q, m = q + 1 := ⟨m - 1, by omega⟩
    have hx : x = nI q := by
      rcases hx with ⟨h0, -⟩ | ⟨r, hr, hx⟩
      · omega
      · rw [hx, show r = q by omega]
    subst hx
    have hx' : q = 0 ∧ nI q + (-1) = -1 ∨ ∃ r, q = r + 1 ∧ nI q + (-1) = nI r := by
      by_cases z : q = 0
      · exact Or.inl ⟨z, by rw [z]; decide⟩
      · exact Or.inr ⟨q - 1, by omega, by rw [show q = q - 1 + 1 by omega]; exact pk_m1 (q - 1)⟩
    have x2 : τ 23 D = nI (hh + q + 1) := h23
    obtain ⟨v, v1, v2, v3, v4, v5, v6, v7, v8, v9, v10, v11⟩ := ih (nI q + (-1)) (rt_up (rt_up τ 23 D (nI (hh + q))) 22 (4 * (D + 1) + q) (τ 21 (10 * D + (hh + q)))) m hh (by omega) (by omega) (by omega) hx' (by rw [rq_c (by decide), rq_c (by decide)]; exact h30) (by rw [rq_c (by decide), rq_s]) (by rw [rq_c (by decide), rq_c (by decide)]; exact h14)
    refine ⟨v, ?_, v2, v3, v4, v5, v6, fun j hj => ?_, fun j hj => ?_, fun d d1 d2 => ?_, fun d d1 => ?_, ?_⟩
    · rw [B_R_RangeTellerModel_enter_55, if_neg (nI_pos (by omega)), rn_popR (by omega) (by omega) h30 x2, rq_b2, nI_add, rq_wr (n := 32) rfl (by omega) (by decide), rq_b]
      exact v1
    · by_cases z : j = q
      · subst z
        rw [v8 _ (by omega), rq_s]
      · rw [v7 j (by omega), rq_c (by decide), rq_c (by decide)]
    · rw [v8 j (by omega), rq_k (by omega), rq_c (by decide)]
    · rw [v9 d d1 d2, rq_c (by decide), rq_k d1]
    · rw [v10 d d1, rq_c (by decide), rq_c (by decide)]
    · exact ((rq_A.rf.up (by unfold rn_E3; omega)).up (by unfold rn_E3; omega)).tr v11
theorem rn_call (H : rn_S D n h c σ τ) (hD : D ≤ 5) (hk : k < 100) (hf : f < 3) (hp : p ≤ 2) (hh : p ≤ h) (e3 : σ 3 k = nI f) (e11 : σ 11 f = nI p) (e10 : σ 10 f = nI s0) (t3 : τ 3 k = nI f) (t11 : τ 11 f = nI p) (t14 : τ 14 f = nI s0) : ∃ u v, M_C_Runner_call σ (nI k) = some u ∧ M_R_RangeTellerModel_enter τ (nI k) = some v ∧ rn_S (D + 1) (rq_U n D (h - p)) 0 (rq_U c (D + 1) k) u v ∧ u 21 9 = nI s0 ∧ v 0 36 = nI s0 ∧ rq_A rn_CC σ u ∧ rq_A rn_E3 τ v := by
  obtain ⟨⟨a1, a2, a3⟩, ⟨b1, b2⟩, ⟨b3, b4⟩, c1, c2, d1, d2, d3, d4⟩ := H
  have hB := rn_B_le a3 D (Nat.le_refl _)
  obtain ⟨u, u1, u2, u3, u4⟩ := rn_entC (D := D + 1) (f := f) (p := p) (H0 := rn_B n D + (h - p)) (s0 := s0) (by omega) hf (by omega) (by omega) 4 0 (rt_up (rt_up (rt_up (rt_up σ 21 16 (nI (D + 1))) 28 (D + 1) (nI k)) 21 17 (nI (rn_B n D + (h - p)))) 27 (D + 1) (nI (rn_B n D + (h - p)))) FU rfl (by decide) (by rw [rq_c (by decide), rq_k (by decide), rq_c (by decide), rq_s]) (by rw [rq_c (by decide), rq_s]) (by rw [rq_c (by decide), rq_c (by decide), rq_c (by decide), rq_c (by decide)]; exact e10)
  obtain ⟨v0, w1, w2, w3⟩ := rn_entR1 (D := D) (p := p) hD (nI k) (nI f) 4 0 τ FU rfl (by decide)
  have hx : p = 0 ∧ nI p - 1 = -1 ∨ ∃ r, p = r + 1 ∧ nI p - 1 = nI r := by
    by_cases z : p = 0
    · exact Or.inl ⟨z, by rw [z]; decide⟩
    · exact Or.inr ⟨p - 1, by omega, by rw [show p = p - 1 + 1 by omega]; exact nI_pred (p - 1)⟩
  obtain ⟨v, v1, v2, v3, v4, v5, v6, v7, v8, v9, v10, v11⟩ := rn_entR2 (D := D) (f := f) (s0 := s0) (k := k) hD hf p (nI p - 1) v0 FU (h - p) (by omega) (by omega) (by show p + 1 ≤ 2000000; omega) hx (by rw [w2 0 30 (by unfold rn_E2; omega)]; exact b2) (by rw [w2 23 D (by unfold rn_E2; omega), b4, show h - p + p = h by omega]) (by rw [w2 14 f (by unfold rn_E2; omega)]; exact t14)
  have AC : rq_A rn_CC σ u := ((((rq_A.rf.up (by unfold rn_CC; omega)).up (by unfold rn_CC; omega)).up (by unfold rn_CC; omega)).up (by unfold rn_CC; omega)).tr (u2.mono (fun c j q => by unfold rn_CC at q; unfold rn_E1; omega))
  have AR : rq_A rn_E3 τ v := (w2.mono (fun c j q => by unfold rn_E3 at q; unfold rn_E2; omega)).tr v11
  have nU : ∀ d, d ≤ D → rn_B (rq_U n D (h - p)) d = rn_B n d := fun d hd => rn_B_u d (fun j hj => rq_U_n (by omega))
  have nD : rn_B (rq_U n D (h - p)) (D + 1) = rn_B n D + (h - p) := by
    show rn_B (rq_U n D (h - p)) D + rq_U n D (h - p) D = _
    rw [nU D (Nat.le_refl _), rq_U_s]
  refine ⟨u, v, ?_, ?_, ⟨⟨by omega, by omega, fun d hd => ?_⟩, ⟨?_, v2⟩, ⟨?_, v4⟩, fun d hd => ?_, fun d hd => ?_, fun d q1 q2 => ?_, fun i hi => by omega, fun d i hd hi => ?_, fun d i hd hi => ?_⟩, u3, v6, AC, AR⟩
  · have z11 : (rt_up (rt_up σ 21 16 (nI (D + 1))) 28 (D + 1) (nI k)) 11 f = nI p := by rw [rq_c (by decide), rq_c (by decide)]; exact e11
    have z3 : (rt_up (rt_up σ 21 16 (nI (D + 1))) 28 (D + 1) (nI k)) 3 k = nI f := by rw [rq_c (by decide), rq_c (by decide)]; exact e3
    unfold M_C_Runner_call M_C_Runner_enter
    rw [if_pos (show σ 21 16 < 6 by rw [b1]; exact nI_lt (b := 6) (by omega) (by decide)), rq_put, rq_b, b1, nI_1, rq_wr (n := 7) (i := D + 1) rq_s (by omega) (by decide), rq_b, rq_rd (n := 100) rfl hk (by decide), rq_b, z3, rq_rd (n := 3) rfl hf (by decide), rq_b, z11, rq_put, rq_b]
    have e17 : (rt_up (rt_up σ 21 16 (nI (D + 1))) 28 (D + 1) (nI k)) 21 17 - nI p = nI (rn_B n D + (h - p)) := by
      rw [rq_c (by decide), rq_k (by decide), b3, pk_sub (by omega), show rn_B n D + h - p = rn_B n D + (h - p) by omega]
    rw [e17, rq_wr (n := 7) (i := D + 1) (by rw [rq_k (by decide), rq_c (by decide), rq_s]) (by omega) (by decide), rq_b, rq_s]
    show ((B_C_Runner_enter_35 FU (nI f) (nI p) (nI 0) _).bind _) = _
    rw [u1]; rfl
  · unfold M_R_RangeTellerModel_enter
    rw [rq_rd (n := 100) rfl hk (by decide), rq_b, t3, rq_rd (n := 3) rfl hf (by decide), rq_b, t11, b2, nI_1, show (4 : Int32) = nI 4 from rfl, pk_mul]
    exact w1.trans v1
  · by_cases z : d = D
    · rw [z, rq_U_s]; omega
    · rw [rq_U_n z]; exact a3 d (by omega)
  · rw [u2 21 16 (by unfold rn_E1; omega), rq_c (by decide), rq_k (by decide), rq_c (by decide), rq_s]
  · rw [u2 21 17 (by unfold rn_E1; omega), rq_c (by decide), rq_s, nD]; rfl
  · rw [u2 27 d (by unfold rn_E1; omega)]
    by_cases z : d = D + 1
    · rw [z, rq_s, nD]
    · rw [rq_k z, rq_c (by decide), rq_c (by decide), rq_c (by decide), nU d (by omega)]; exact c1 d (by omega)
  · by_cases z : d = D
    · rw [z, rq_U_s]; exact v5
    · rw [rq_U_n z, v9 d z (by omega), w2 23 d (by unfold rn_E2; omega)]; exact c2 d (by omega)
  · by_cases z : d = D + 1
    · subst z
      rw [u2 28 _ (by unfold rn_E1; omega), rq_c (by decide), rq_c (by decide), rq_s, rq_U_s]
      exact ⟨rfl, v3⟩
    · rw [rq_U_n z, u2 28 _ (by unfold rn_E1; omega), rq_c (by decide), rq_c (by decide), rq_k z, rq_c (by decide), v10 d z, w2 20 d (by unfold rn_E2; omega)]
      exact d1 d q1 (by omega)
  · rw [AC 25 _ (by unfold rn_CC; omega), AR 21 _ (by unfold rn_E3; omega), nU d (by omega)]
    by_cases z : d = D
    · subst z
      rw [rq_U_s] at hi
      exact d2 i (by omega)
    · rw [rq_U_n z] at hi
      exact d3 d i (by omega) hi
  · by_cases z : d = D + 1
    · subst z
      rw [u4 i (by omega) hi]
      by_cases y : i < p
      · rw [if_pos y, v7 i y, rq_c (by decide), rq_c (by decide), rq_c (by decide), rq_c (by decide), w2 21 _ (by unfold rn_E2; omega), Nat.add_assoc]
        exact d2 (h - p + i) (by omega)
      · rw [if_neg y, v8 _ (by omega), w3 i (by omega) hi]
        exact ⟨0, by decide, rfl, rfl⟩
    · rw [u2 26 _ (by unfold rn_E1; omega), rq_c (by decide), rq_c (by decide), rq_c (by decide), rq_c (by decide), v8 _ (by omega), w2 22 _ (by unfold rn_E2; omega)]
      exact d4 d i (by omega) hi
end RN5
