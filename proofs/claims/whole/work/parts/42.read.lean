/-! reading: a number -/
def rq_RS (n i : Nat) (b : Nat → Nat) (σ τ : rt_St) : Prop := n ≤ 100 ∧ i ≤ n ∧ σ 14 3 = nI n ∧ τ 0 0 = nI n ∧ σ 14 4 = nI i ∧ τ 0 2 = nI i ∧ σ 14 6 = -3 ∧ τ 0 3 = 0 ∧ ∀ j, j < n → b j < 64 ∧ σ 15 j = nI (b j) ∧ τ 1 j = nI (b j)
def rq_SC (c k : Nat) : Prop := ¬ (c = 14 ∧ (k = 4 ∨ k = 6))
def rq_SR (c k : Nat) : Prop := ¬ (c = 0 ∧ (k = 2 ∨ k = 3))
theorem rq_take {n i : Nat} {b : Nat → Nat} {σ τ : rt_St} (h : rq_RS n i b σ τ) (hi : i < n) : M_R_RangeTellerModel_take τ = some (nI (b i), rt_up τ 0 2 (nI (i + 1))) := by
  obtain ⟨hn, -, -, h0, -, h2, -, -, hb⟩ := h
  unfold M_R_RangeTellerModel_take
  rw [if_pos (show τ 0 2 < τ 0 0 by rw [h2, h0]; exact nI_lt hi (by omega)), rq_put, rq_b, h2, nI_1, rq_rd (n := 100) (i := i) (by rw [rq_s, nI_pred]) (by omega) (by decide), rq_b, rq_c (by decide), (hb i hi).2.2]
theorem rq_takeN {n i : Nat} {b : Nat → Nat} {σ τ : rt_St} (h : rq_RS n i b σ τ) (hi : ¬ i < n) : M_R_RangeTellerModel_take τ = some (0, rt_up τ 0 3 1) := by
  obtain ⟨hn, hin, -, h0, -, h2, -, -, hb⟩ := h
  unfold M_R_RangeTellerModel_take
  rw [if_neg (show ¬ τ 0 2 < τ 0 0 by rw [h2, h0]; exact nI_nlt (by omega) (by omega)), rq_put, rq_b]
theorem rq_RS.at {n i j : Nat} {b : Nat → Nat} {σ τ : rt_St} (h : rq_RS n i b σ τ) (hj : j ≤ n) : rq_RS n j b (rt_up σ 14 4 (nI j)) (rt_up τ 0 2 (nI j)) := by
  obtain ⟨hn, -, a3, a0, -, -, a6, ab, hb⟩ := h
  refine ⟨hn, hj, by rw [rq_k (by decide)]; exact a3, by rw [rq_k (by decide)]; exact a0, rq_s, rq_s, by rw [rq_k (by decide)]; exact a6, by rw [rq_k (by decide)]; exact ab, fun k hk => ?_⟩
  rw [rq_c (by decide), rq_c (by decide)]
  exact hb k hk
theorem rq_119 {lo hi v : Nat} {u : rt_St} (hl : lo < 64) (hh : hi < 64) (hv : v < 64) : B_C_Reader_readNumber_119 (nI lo) (nI hi) (nI v) u = if lo ≤ v ∧ v ≤ hi then some (nI v, u) else some (0, rt_up u 14 6 (u 14 4 - 1)) := by
  unfold B_C_Reader_readNumber_119
  by_cases c1 : v < lo
  · rw [if_pos (nI_lt c1 (by omega)), if_neg (by omega)]; rfl
  · rw [if_neg (nI_nlt (by omega) (by omega))]
    by_cases c2 : v ≤ hi
    · rw [if_pos (nI_le c2 (by omega)), if_pos (by omega)]
    · rw [if_neg (nI_ge (by omega) (by omega)), if_neg (by omega)]; rfl
theorem rq_73 {lo hi v : Nat} {u : rt_St} (hl : lo < 64) (hh : hi < 64) (hv : v < 64) : B_R_RangeTellerModel_number_73 (nI lo) (nI hi) (nI v) u = if lo ≤ v ∧ v ≤ hi then some (nI v, u) else some (nI v, rt_up (rt_up u 0 3 1) 0 2 (rt_up u 0 3 1 0 2 - 1)) := by
  unfold B_R_RangeTellerModel_number_73
  by_cases c1 : v < lo
  · rw [if_pos (nI_lt c1 (by omega)), if_neg (by omega)]; rfl
  · rw [if_neg (nI_nlt (by omega) (by omega))]
    by_cases c2 : v ≤ hi
    · rw [if_pos (nI_le c2 (by omega)), if_pos (by omega)]
    · rw [if_neg (nI_ge (by omega) (by omega)), if_neg (by omega)]; rfl
/-- a number is read alike: a value and the place behind it, or a fault at the same place -/
theorem rq_num {n i lo hi : Nat} {b : Nat → Nat} {σ τ : rt_St} (h : rq_RS n i b σ τ) (hl : lo < 64) (hh : hi < 64) :
    (∃ v j σ' τ', lo ≤ v ∧ v ≤ hi ∧ i < j ∧ M_C_Reader_readNumber σ (nI lo) (nI hi) = some (nI v, σ') ∧ M_R_RangeTellerModel_number τ (nI lo) (nI hi) = some (nI v, τ') ∧ rq_A rq_SC σ σ' ∧ rq_A rq_SR τ τ' ∧ rq_RS n j b σ' τ') ∨
    (∃ j w σ' τ', j ≤ n ∧ M_C_Reader_readNumber σ (nI lo) (nI hi) = some (0, σ') ∧ M_R_RangeTellerModel_number τ (nI lo) (nI hi) = some (w, τ') ∧ rq_A rq_SC σ σ' ∧ rq_A rq_SR τ τ' ∧ σ' 14 6 = nI j ∧ τ' 0 2 = nI j ∧ τ' 0 3 = 1) := by
  have h' := h
  obtain ⟨hn, hin, a3, a0, a4, a2, a6, ab, hb⟩ := h
  have s4 : ∀ {u : rt_St} {x : Int32}, rq_A rq_SC σ u → rq_A rq_SC σ (rt_up u 14 4 x) := fun h => h.up (by unfold rq_SC; omega)
  have s6 : ∀ {u : rt_St} {x : Int32}, rq_A rq_SC σ u → rq_A rq_SC σ (rt_up u 14 6 x) := fun h => h.up (by unfold rq_SC; omega)
  have t2 : ∀ {u : rt_St} {x : Int32}, rq_A rq_SR τ u → rq_A rq_SR τ (rt_up u 0 2 x) := fun h => h.up (by unfold rq_SR; omega)
  have t3 : ∀ {u : rt_St} {x : Int32}, rq_A rq_SR τ u → rq_A rq_SR τ (rt_up u 0 3 x) := fun h => h.up (by unfold rq_SR; omega)
  by_cases c0 : i < n
  · obtain ⟨hb1, hb2, hb3⟩ := hb i c0
    have r1 := h'.at (j := i + 1) (by omega)
    have eC : M_C_Reader_readNumber σ (nI lo) (nI hi) = if nI (b i) < 32 then B_C_Reader_readNumber_119 (nI lo) (nI hi) (nI (b i)) (rt_up σ 14 4 (nI (i + 1))) else if (rt_up σ 14 4 (nI (i + 1))) 14 3 ≤ (rt_up σ 14 4 (nI (i + 1))) 14 4 then B_C_Reader_readNumber_82 (rt_up σ 14 4 (nI (i + 1))) else (rt_rd (rt_up σ 14 4 (nI (i + 1))) 15 100 ((rt_up σ 14 4 (nI (i + 1))) 14 4)).bind fun v5 => if v5 ≤ 1 then (rt_rd (rt_up σ 14 4 (nI (i + 1))) 15 100 ((rt_up σ 14 4 (nI (i + 1))) 14 4)).bind fun v6 => (rt_put (rt_up σ 14 4 (nI (i + 1))) 14 4 ((rt_up σ 14 4 (nI (i + 1))) 14 4 + 1)).bind fun σ7 => B_C_Reader_readNumber_119 (nI lo) (nI hi) (nI (b i) + (32 * (v6 - 1))) σ7 else B_C_Reader_readNumber_82 (rt_up σ 14 4 (nI (i + 1))) := by
      unfold M_C_Reader_readNumber
      rw [if_pos a6, if_pos (show σ 14 4 < σ 14 3 by rw [a4, a3]; exact nI_lt c0 (by omega)), rq_rd (n := 100) a4 (by omega) (by decide), rq_b, rq_put, rq_b, a4, nI_1, hb2]
    have eR : M_R_RangeTellerModel_number τ (nI lo) (nI hi) = if nI (b i) < 32 then B_R_RangeTellerModel_number_73 (nI lo) (nI hi) (nI (b i)) (rt_up τ 0 2 (nI (i + 1))) else rt_b2 (M_R_RangeTellerModel_take (rt_up τ 0 2 (nI (i + 1)))) fun v6 σ5 => if (σ5 0 3) = 0 then (if v6 ≤ 1 then B_R_RangeTellerModel_number_73 (nI lo) (nI hi) ((nI (b i) - 32) + (32 * v6)) σ5 else (rt_put σ5 0 3 1).bind fun σ7 => (rt_put σ7 0 2 ((σ7 0 2) - 1)).bind fun σ8 => some (0, σ8)) else some (0, σ5) := by
      unfold M_R_RangeTellerModel_number
      rw [rq_take h' c0, rq_b2, if_pos (show (rt_up τ 0 2 (nI (i + 1))) 0 3 = 0 by rw [rq_k (by decide)]; exact ab)]
    by_cases c1 : b i < 32
    · rw [if_pos (show nI (b i) < 32 from nI_lt (b := 32) c1 (by decide))] at eC eR
      rw [rq_119 hl hh hb1] at eC
      rw [rq_73 hl hh hb1] at eR
      by_cases c2 : lo ≤ b i ∧ b i ≤ hi
      · rw [if_pos c2] at eC eR
        exact Or.inl ⟨b i, i + 1, _, _, c2.1, c2.2, by omega, eC, eR, s4 rq_A.rf, t2 rq_A.rf, r1⟩
      · rw [if_neg c2] at eC eR
        refine Or.inr ⟨i, nI (b i), _, _, by omega, eC, eR, s6 (s4 rq_A.rf), t2 (t3 (t2 rq_A.rf)), ?_, ?_, ?_⟩
        · rw [rq_s, rq_s, nI_pred]
        · rw [rq_s, rq_k (by decide), rq_s, nI_pred]
        · rw [rq_k (by decide), rq_s]
    · rw [if_neg (show ¬ nI (b i) < 32 from nI_nlt (b := 32) (by omega) (by omega))] at eC eR
      have k3 : (rt_up σ 14 4 (nI (i + 1))) 14 3 = nI n := by rw [rq_k (by decide)]; exact a3
      by_cases c3 : i + 1 < n
      · obtain ⟨hc1, hc2, hc3⟩ := hb (i + 1) c3
        have r2 := r1.at (j := i + 2) (by omega)
        rw [if_neg (show ¬ (rt_up σ 14 4 (nI (i + 1))) 14 3 ≤ (rt_up σ 14 4 (nI (i + 1))) 14 4 by rw [k3, rq_s]; exact nI_ge c3 (by omega)), rq_rd (n := 100) (i := i + 1) rq_s (by omega) (by decide), rq_b, rq_c (by decide), hc2] at eC
        rw [rq_take r1 c3, rq_b2, if_pos (show (rt_up (rt_up τ 0 2 (nI (i + 1))) 0 2 (nI (i + 1 + 1))) 0 3 = 0 by rw [rq_k (by decide), rq_k (by decide)]; exact ab)] at eR
        by_cases c4 : b (i + 1) ≤ 1
        · have c5 : nI (b (i + 1)) ≤ 1 := nI_le (b := 1) c4 (by decide)
          have hv : b i - 32 + 32 * b (i + 1) < 64 := by omega
          have e1 : nI (b i) + 32 * (nI (b (i + 1)) - 1) = nI (b i - 32 + 32 * b (i + 1)) := by
            have z : b (i + 1) = 0 ∨ b (i + 1) = 1 := by omega
            rcases z with z | z
            · rw [z]
              show nI (b i) + 32 * (nI 0 - 1) = nI (b i - 32 + 0)
              rw [show (32 : Int32) * (nI 0 - 1) = -nI 32 by decide, ← Int32.sub_eq_add_neg]
              exact pk_sub (by omega)
            · rw [z]
              show nI (b i) + 32 * (nI 1 - 1) = nI (b i - 32 + 32)
              rw [show (32 : Int32) * (nI 1 - 1) = 0 by decide, Int32.add_zero, Nat.sub_add_cancel (by omega)]
          have e2 : (nI (b i) - 32) + 32 * nI (b (i + 1)) = nI (b i - 32 + 32 * b (i + 1)) := by
            rw [← nI_add, ← pk_sub (a := b i) (b := 32) (by omega), ← pk_mul]; rfl
          rw [if_pos c5, rq_b, rq_put, rq_b, e1, rq_s, nI_1, rq_119 hl hh hv] at eC
          rw [if_pos c5, e2, rq_73 hl hh hv] at eR
          by_cases c2 : lo ≤ b i - 32 + 32 * b (i + 1) ∧ b i - 32 + 32 * b (i + 1) ≤ hi
          · rw [if_pos c2] at eC eR
            exact Or.inl ⟨_, i + 2, _, _, c2.1, c2.2, by omega, eC, eR, s4 (s4 rq_A.rf), t2 (t2 rq_A.rf), r2⟩
          · rw [if_neg c2] at eC eR
            refine Or.inr ⟨i + 1, _, _, _, by omega, eC, eR, s6 (s4 (s4 rq_A.rf)), t2 (t3 (t2 (t2 rq_A.rf))), ?_, ?_, ?_⟩
            · rw [rq_s, rq_s, nI_pred]
            · rw [rq_s, rq_k (by decide), rq_s, nI_pred]
            · rw [rq_k (by decide), rq_s]
        · have c5 : ¬ nI (b (i + 1)) ≤ 1 := nI_ge (a := 1) (by omega) (by omega)
          rw [if_neg c5] at eC eR
          refine Or.inr ⟨i + 1, _, _, _, by omega, eC, eR, s6 (s4 rq_A.rf), t2 (t3 (t2 (t2 rq_A.rf))), ?_, ?_, ?_⟩
          · rw [rq_s, rq_s]
          · rw [rq_s, rq_k (by decide), rq_s, nI_pred]
          · rw [rq_k (by decide), rq_s]
      · have e5 : i + 1 = n := by omega
        rw [if_pos (show (rt_up σ 14 4 (nI (i + 1))) 14 3 ≤ (rt_up σ 14 4 (nI (i + 1))) 14 4 by rw [k3, rq_s]; exact nI_le (by omega) (by omega))] at eC
        rw [rq_takeN r1 c3, rq_b2, if_neg (show ¬ (rt_up (rt_up τ 0 2 (nI (i + 1))) 0 3 1) 0 3 = 0 by rw [rq_s]; decide)] at eR
        refine Or.inr ⟨i + 1, _, _, _, by omega, eC, eR, s6 (s4 rq_A.rf), t3 (t2 rq_A.rf), ?_, ?_, rq_s⟩
        · rw [rq_s, rq_s]
        · rw [rq_k (by decide), rq_s]
  · have e0 : i = n := by omega
    subst e0
    refine Or.inr ⟨i, 0, rt_up σ 14 6 (nI i), rt_up τ 0 3 1, Nat.le_refl _, ?_, ?_, s6 rq_A.rf, t3 rq_A.rf, rq_s, by rw [rq_k (by decide)]; exact a2, rq_s⟩
    · unfold M_C_Reader_readNumber
      rw [if_pos a6, if_neg (show ¬ σ 14 4 < σ 14 3 by rw [a4, a3]; exact nI_nlt (Nat.le_refl _) (by omega)), rq_put, rq_b, a4]
    · unfold M_R_RangeTellerModel_number
      rw [rq_takeN h' c0, rq_b2, if_neg (show ¬ (rt_up τ 0 3 1) 0 3 = 0 by rw [rq_s]; decide)]
