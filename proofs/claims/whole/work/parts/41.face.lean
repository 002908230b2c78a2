/-! feed, place, input, outcome, output, memory: over any relation of what has been loaded -/
section RQF
variable {Ld : rt_St → rt_St → Prop} {σ τ : rt_St}
theorem sim_feed (hk : rq_Keeps Ld) (G : rq_Rel Ld σ τ) : rt_c1 (rq_Rel Ld) M_C_RangeTeller_feed M_R_RangeTellerModel_feed σ τ := by
  intro x
  obtain ⟨G1, G2, G3, G4, G5⟩ := G
  obtain ⟨n, hn, h1, h2, h3⟩ := G1
  have same : rq_Rel Ld σ τ := ⟨⟨n, hn, h1, h2, h3⟩, G2, G3, G4, G5⟩
  have no : M_C_Reader_append σ x = some (0, σ) → M_C_RangeTeller_feed σ x = some (0, σ) := fun e => by
    unfold M_C_RangeTeller_feed; rw [e]; rfl
  by_cases c1 : x < 0
  · exact ⟨0, σ, τ, no (if_pos c1), if_pos c1, same⟩
  by_cases c2 : 64 ≤ x
  · exact ⟨0, σ, τ, no ((if_neg c1).trans (if_pos c2)), (if_neg c1).trans (if_pos ((rq_63 x).mp c2)), same⟩
  have c3 : ¬ 63 < x := fun h => c2 ((rq_63 x).mpr h)
  obtain ⟨b, hb, rfl⟩ := rq_64 c1 c2
  by_cases c4 : n = 100
  · subst c4
    have e1 : ¬ σ 14 3 < 100 := by rw [h1]; decide
    have e2 : τ 0 0 = 100 := by rw [h2]; rfl
    exact ⟨0, σ, τ, no ((if_neg c1).trans ((if_neg c2).trans (if_neg e1))), (if_neg c1).trans ((if_neg c3).trans (if_pos e2)), same⟩
  · have e1 : σ 14 3 < 100 := by rw [h1]; exact nI_lt (b := 100) (by omega) (by decide)
    have e2 : ¬ τ 0 0 = 100 := by rw [h2]; exact fun h => c4 ((nI_eq (b := 100) (by omega) (by decide)).mp h)
    refine ⟨1, rt_up (rt_up σ 15 n (nI b)) 14 3 (nI (n + 1)), rt_up (rt_up τ 1 n (nI b)) 0 0 (nI (n + 1)), ?_, ?_, ?_⟩
    · have e : M_C_Reader_append σ (nI b) = some (1, rt_up (rt_up σ 15 n (nI b)) 14 3 (nI (n + 1))) := by
        unfold M_C_Reader_append
        rw [if_neg c1, if_neg c2, if_pos e1, rq_wr (n := 100) h1 (by omega) (by decide), rq_b, rq_put, rq_b, rq_c (by decide), h1, nI_1]
      unfold M_C_RangeTeller_feed
      rw [e]; rfl
    · unfold M_R_RangeTellerModel_feed
      rw [if_neg c1, if_neg c3, if_neg e2, rq_wr (n := 100) h2 (by omega) (by decide), rq_b, rq_put, rq_b, rq_c (by decide), h2, nI_1]
    · refine ⟨⟨n + 1, by omega, rq_s, rq_s, fun j hj => ?_⟩, G2.kp ?_ ?_ ?_ ?_, ?_, ?_, G5.kp ?_ ?_ ?_ ?_ ?_ ?_⟩
      · by_cases hjn : j = n
        · subst hjn; exact ⟨b, hb, by simp [rq_if], by simp [rq_if]⟩
        · obtain ⟨b', q1, q2, q3⟩ := h3 j (by omega)
          exact ⟨b', q1, by simpa [rq_if, hjn] using q2, by simpa [rq_if, hjn] using q3⟩
      · simp [rq_if]
      · simp [rq_if]
      · intro j; simp [rq_if]
      · intro j; simp [rq_if]
      · simpa [rq_if] using G3
      · rcases G4 with ⟨a, b⟩ | ⟨a, b, c⟩
        · left; simp [rq_if, a, b]
        · right
          refine ⟨by simpa [rq_if] using a, by simpa [rq_if] using b, hk σ τ _ _ c ?_ ?_⟩
          · exact (rq_A.rf.up (by unfold rq_LC; omega)).up (by unfold rq_LC; omega)
          · exact (rq_A.rf.up (by unfold rq_LR; omega)).up (by unfold rq_LR; omega)
      · intro k _ _; simp [rq_if]
      · intro k hk; simp [rq_if]; omega
      · intro j; simp [rq_if]
      · intro j; simp [rq_if]
      · intro j; simp [rq_if]
      · intro j; simp [rq_if]
theorem sim_place (G : rq_Rel Ld σ τ) : rt_c0 (rq_Rel Ld) M_C_RangeTeller_place M_R_RangeTellerModel_place σ τ :=
  ⟨σ 0 6, σ, τ, rfl, by unfold M_R_RangeTellerModel_place; rw [G.2.2.1], G⟩
theorem sim_input (hk : rq_Keeps Ld) (G : rq_Rel Ld σ τ) : rt_c1 (rq_Rel Ld) M_C_RangeTeller_input M_R_RangeTellerModel_input σ τ := by
  intro x
  obtain ⟨G1, G2, G3, G4, G5⟩ := G
  obtain ⟨n, hn, h1, h2, h3⟩ := G2
  have same : rq_Rel Ld σ τ := ⟨G1, ⟨n, hn, h1, h2, h3⟩, G3, G4, G5⟩
  have no : M_C_Runner_addInput σ x = some (-3, σ) → M_C_RangeTeller_input σ x = some (-3, σ) := fun e => by
    unfold M_C_RangeTeller_input; rw [e]; rfl
  by_cases c1 : x < 0
  · exact ⟨-3, σ, τ, no (if_pos c1), if_pos c1, same⟩
  by_cases c2 : 64 ≤ x
  · exact ⟨-3, σ, τ, no ((if_neg c1).trans (if_pos c2)), (if_neg c1).trans (if_pos ((rq_63 x).mp c2)), same⟩
  have c3 : ¬ 63 < x := fun h => c2 ((rq_63 x).mpr h)
  obtain ⟨b, hb, rfl⟩ := rq_64 c1 c2
  by_cases c4 : n = 12
  · subst c4
    have e1 : ¬ σ 21 2 < 12 := by rw [h1]; decide
    have e2 : τ 0 27 = 12 := by rw [h2]; rfl
    exact ⟨-3, σ, τ, no ((if_neg c1).trans ((if_neg c2).trans (if_neg e1))), (if_neg c1).trans ((if_neg c3).trans (if_pos e2)), same⟩
  · have e1 : σ 21 2 < 12 := by rw [h1]; exact nI_lt (b := 12) (by omega) (by decide)
    have e2 : ¬ τ 0 27 = 12 := by rw [h2]; exact fun h => c4 ((nI_eq (b := 12) (by omega) (by decide)).mp h)
    refine ⟨nI (n + 1), rt_up (rt_up σ 22 n (nI b)) 21 2 (nI (n + 1)), rt_up (rt_up τ 19 n (nI b)) 0 27 (nI (n + 1)), ?_, ?_, ?_⟩
    · have e : M_C_Runner_addInput σ (nI b) = some (nI (n + 1), rt_up (rt_up σ 22 n (nI b)) 21 2 (nI (n + 1))) := by
        unfold M_C_Runner_addInput
        rw [if_neg c1, if_neg c2, if_pos e1, rq_wr (n := 12) h1 (by omega) (by decide), rq_b, rq_put, rq_b, rq_s, rq_c (by decide), h1, nI_1]
      unfold M_C_RangeTeller_input
      rw [e]; rfl
    · unfold M_R_RangeTellerModel_input
      rw [if_neg c1, if_neg c3, if_neg e2, rq_wr (n := 12) h2 (by omega) (by decide), rq_b, rq_put, rq_b, rq_s, rq_c (by decide), h2, nI_1]
    · refine ⟨G1.kp ?_ ?_ ?_ ?_, ⟨n + 1, by omega, rq_s, rq_s, fun j hj => ?_⟩, ?_, ?_, G5.kp ?_ ?_ ?_ ?_ ?_ ?_⟩
      · simp [rq_if]
      · simp [rq_if]
      · intro j; simp [rq_if]
      · intro j; simp [rq_if]
      · by_cases hjn : j = n
        · subst hjn; exact ⟨b, hb, by simp [rq_if], by simp [rq_if]⟩
        · obtain ⟨b', q1, q2, q3⟩ := h3 j (by omega)
          exact ⟨b', q1, by simpa [rq_if, hjn] using q2, by simpa [rq_if, hjn] using q3⟩
      · simpa [rq_if] using G3
      · rcases G4 with ⟨a, b⟩ | ⟨a, b, c⟩
        · left; simp [rq_if, a, b]
        · right
          refine ⟨by simpa [rq_if] using a, by simpa [rq_if] using b, hk σ τ _ _ c ?_ ?_⟩
          · exact (rq_A.rf.up (by unfold rq_LC; omega)).up (by unfold rq_LC; omega)
          · exact (rq_A.rf.up (by unfold rq_LR; omega)).up (by unfold rq_LR; omega)
      · intro k _ _; simp [rq_if]; omega
      · intro k hk; simp [rq_if]; omega
      · intro j; simp [rq_if]
      · intro j; simp [rq_if]
      · intro j; simp [rq_if]
      · intro j; simp [rq_if]
theorem sim_outcome (G : rq_Rel Ld σ τ) : rt_c1 (rq_Rel Ld) M_C_RangeTeller_outcome M_R_RangeTellerModel_outcome σ τ := by
  intro x
  have G0 := G
  obtain ⟨-, -, -, -, G5⟩ := G
  unfold M_C_RangeTeller_outcome M_R_RangeTellerModel_outcome
  rcases G5 with ⟨a, b⟩ | ⟨a, b, c, d, d', e, ⟨n, f0, f1, f2, f3⟩, g⟩
  · rw [if_pos a, if_pos b]; exact ⟨-3, σ, τ, rfl, rfl, G0⟩
  · rw [if_neg (show ¬ σ 21 7 = 0 by rw [a]; decide), if_neg (show ¬ τ 0 29 = 0 by rw [b]; decide)]
    by_cases c0 : x = 0
    · rw [if_pos c0, if_pos c0, c]; exact ⟨_, σ, τ, rfl, rfl, G0⟩
    rw [if_neg c0, if_neg c0]
    by_cases c1 : x = 1
    · rw [if_pos c1, if_pos c1]
      by_cases z : σ 21 8 = 0
      · rw [if_pos z, d z]; exact ⟨_, σ, τ, rfl, rfl, G0⟩
      · rw [if_neg z, d' z]; exact ⟨_, σ, τ, rfl, rfl, G0⟩
    rw [if_neg c1, if_neg c1]
    by_cases c2 : x = 2
    · rw [if_pos c2, if_pos c2, e]; exact ⟨_, σ, τ, rfl, rfl, G0⟩
    rw [if_neg c2, if_neg c2]
    by_cases c3 : x = 3
    · rw [if_pos c3, if_pos c3, f1, f2]; exact ⟨_, σ, τ, rfl, rfl, G0⟩
    rw [if_neg c3, if_neg c3]
    exact ⟨_, σ, τ, rfl, rfl, G0⟩
theorem rq_le15 (x : Int32) : x < 16 ↔ x ≤ 15 := by
  rw [Int32.le_iff_toInt_le, Int32.lt_iff_toInt_lt]
  show x.toInt < (16 : Int) ↔ x.toInt ≤ (15 : Int)
  omega
theorem rq_le19 (x : Int32) : 20 ≤ x ↔ ¬ x ≤ 19 := by
  rw [Int32.le_iff_toInt_le, Int32.le_iff_toInt_le]
  show (20 : Int) ≤ x.toInt ↔ ¬ x.toInt ≤ (19 : Int)
  omega
theorem sim_memory (G : rq_Rel Ld σ τ) : rt_c1 (rq_Rel Ld) M_C_RangeTeller_memory M_R_RangeTellerModel_memory σ τ := by
  intro x
  have G0 := G
  obtain ⟨-, -, -, -, G5⟩ := G
  unfold M_C_RangeTeller_memory M_R_RangeTellerModel_memory
  rcases G5 with ⟨a, b⟩ | ⟨a, b, c, d, d', e, f, g⟩
  · rw [if_pos a, if_pos b]; exact ⟨-3, σ, τ, rfl, rfl, G0⟩
  · rw [if_neg (show ¬ σ 21 7 = 0 by rw [a]; decide), if_neg (show ¬ τ 0 29 = 0 by rw [b]; decide)]
    by_cases c0 : x < 0
    · rw [if_pos c0, if_pos c0]; exact ⟨_, σ, τ, rfl, rfl, G0⟩
    rw [if_neg c0, if_neg c0]
    by_cases c1 : x < 16
    · rw [if_pos c1, if_pos ((rq_le15 x).mp c1)]
      rcases pk_ix x (n := 16) (by decide) with h | h | ⟨j, hj, rfl⟩
      · exact absurd h c0
      · exact absurd c1 (Int32.not_lt.mpr h)
      · rw [rq_rd (n := 16) rfl hj (by decide), rq_rd (n := 16) rfl hj (by decide), rq_b, rq_b, g j hj]; exact ⟨_, σ, τ, rfl, rfl, G0⟩
    · rw [if_neg c1, if_neg (fun h => c1 ((rq_le15 x).mpr h))]; exact ⟨_, σ, τ, rfl, rfl, G0⟩
theorem sim_output (G : rq_Rel Ld σ τ) : rt_c1 (rq_Rel Ld) M_C_RangeTeller_output M_R_RangeTellerModel_output σ τ := by
  intro x
  have G0 := G
  obtain ⟨-, -, -, -, G5⟩ := G
  unfold M_C_RangeTeller_output M_R_RangeTellerModel_output
  rcases G5 with ⟨a, b⟩ | ⟨a, b, c, d, d', e, ⟨n, f0, f1, f2, f3⟩, g⟩
  · rw [if_pos a, if_pos b]; exact ⟨-3, σ, τ, rfl, rfl, G0⟩
  · rw [if_neg (show ¬ σ 21 7 = 0 by rw [a]; decide), if_neg (show ¬ τ 0 29 = 0 by rw [b]; decide)]
    by_cases c0 : x < 0
    · rw [if_pos c0, if_pos c0]; exact ⟨_, σ, τ, rfl, rfl, G0⟩
    rw [if_neg c0, if_neg c0, f1, f2]
    by_cases c1 : 20 ≤ x
    · rw [if_pos c1]
      by_cases c2 : nI n ≤ x
      · rw [if_pos c2]; exact ⟨_, σ, τ, rfl, rfl, G0⟩
      · rw [if_neg c2, if_neg ((rq_le19 x).mp c1)]; exact ⟨_, σ, τ, rfl, rfl, G0⟩
    · rw [if_neg c1]
      have c3 : x ≤ 19 := Decidable.byContradiction fun h => c1 ((rq_le19 x).mpr h)
      by_cases c2 : nI n ≤ x
      · rw [if_pos c2, if_neg (Int32.not_lt.mpr c2)]; exact ⟨_, σ, τ, rfl, rfl, G0⟩
      · rw [if_neg c2, if_pos (Int32.not_le.mp c2), if_pos c3]
        rcases pk_ix x (n := 20) (by decide) with h | h | ⟨j, hj, rfl⟩
        · exact absurd h c0
        · exact absurd h c1
        · rw [rq_rd (n := 20) rfl hj (by decide), rq_rd (n := 20) rfl hj (by decide), rq_b, rq_b, f3 j (Nat.not_le.mp fun h => c2 (nI_le h (by omega))) hj]; exact ⟨_, σ, τ, rfl, rfl, G0⟩
end RQF
