/-! instructions are told alike; every call of the face -/
section ASK2
variable {N F k : Nat} {op ar ow en el pa lo re fs hs : Nat → Nat} {L : Nat → Prop} {A : ft_S} {σ τ u v : rt_St}
theorem lk_flags (H : lk_D N F op ar ow en el pa lo re fs hs L A σ τ) (hk : k < N) : ∃ r, M_C_Foreteller_flagsAt σ (nI k) = some (r, σ) ∧ M_R_RangeTellerModel_flags τ (nI k) = some (r, τ) := by
  have H0 := H
  obtain ⟨⟨T, TF, ⟨x1, x2, x3⟩, n6, hN, hF1, hF3⟩, -⟩ := H
  obtain ⟨q0, q1, q2, h10, owF, -, -, t7, q5⟩ := lk_row H0 hk
  obtain ⟨⟨s2, s3, -⟩, ⟨t2, t3, -⟩, o29, a64, -⟩ := T k hk
  have ne : ∀ j : Nat, j < 100 → op k ≠ j → ¬ nI (op k) = nI j := fun j hj h e => h ((nI_eq (by omega) (by omega)).mp e)
  unfold M_C_Foreteller_flagsAt M_R_RangeTellerModel_flags
  rw [rq_rd (σ := σ) (n := 100) (c := 30) rfl (by omega) (by decide), rq_b, q1, rq_rd (σ := τ) (n := 101) (c := 26) rfl (by omega) (by decide), rq_b, q2]
  by_cases z : (A 4 k).2.1 = 0
  · rw [if_pos (show nI (A 4 k).2.1 = 0 by rw [z]; rfl), if_pos (show nI (A 4 k).2.1 = 0 by rw [z]; rfl)]; exact ⟨0, rfl, rfl⟩
  have hr : (A 4 k).2.1 = 1 := by omega
  obtain ⟨hL, -, rows, -⟩ := q5 hr
  obtain ⟨-, -, -, -, -, -, -, -, w10⟩ := x3 k hk hL
  rw [if_neg (nI_ne0 (by omega) (by omega)), if_neg (nI_ne0 (by omega) (by omega)), rq_rd (σ := σ) (n := 100) (c := 2) rfl (by omega) (by decide), rq_b, s2, rq_rd (σ := τ) (n := 100) (c := 2) rfl (by omega) (by decide), rq_b, t2, rq_rd (σ := τ) (n := 101) (c := 7) rfl (by omega) (by decide), rq_b, t7]
  by_cases z0 : op k = 0
  · rw [if_pos (show nI (op k) = 0 by rw [z0]; rfl), if_pos (show nI (op k) = 0 by rw [z0]; rfl)]; exact ⟨1, rfl, rfl⟩
  rw [if_neg (show ¬ nI (op k) = 0 from ne 0 (by decide) (by omega)), if_neg (show ¬ nI (op k) = 0 from ne 0 (by decide) (by omega))]
  have ix : 1 ≤ hs k → 10 * nI k + nI (hs k) - 1 = nI (10 * k + (hs k - 1)) := fun h1 => by
    rw [show (10 : Int32) = nI 10 from rfl, pk_mul, nI_add, show 10 * k + hs k = (10 * k + (hs k - 1)) + 1 by omega, nI_pred]
  -- whether an address may miss
  have miss : ∀ i, i < hs k → (∃ r, ((M_C_Foreteller_canMiss (ft_c (A 0 (10 * k + (hs k - 1 - i)))) (nI (ar k))).bind fun v19 => if v19 = 0 then some ((0 : Int32), σ) else some (2, σ)) = some (r, σ) ∧ B_R_RangeTellerModel_flags_67 (nI k) (nI (10 * k + (hs k - 1 - i))) τ = some (r, τ)) := fun i hi => by
    obtain ⟨ok, -, g1, g2, g3⟩ := rows (hs k - 1 - i) (by omega)
    have ok' := ok
    unfold ft_ok at ok'
    unfold M_C_Foreteller_canMiss B_R_RangeTellerModel_flags_67
    rw [ft_great ok, rq_b, rq_rd (σ := τ) (n := 1000) (c := 29) rfl (by omega) (by decide), rq_b, g2, rq_rd (σ := τ) (n := 100) (c := 3) rfl (by omega) (by decide), rq_b, t3, nI_add]
    by_cases y : (A 0 (10 * k + (hs k - 1 - i))).2.1 + ar k < 16
    · have y' : nI ((A 0 (10 * k + (hs k - 1 - i))).2.1 + ar k) < 16 := nI_lt (b := 16) y (by decide)
      rw [if_pos y', rq_b, if_pos rfl, if_pos ((rq_le15 _).mp y')]; exact ⟨0, rfl, rfl⟩
    · have y' : ¬ nI ((A 0 (10 * k + (hs k - 1 - i))).2.1 + ar k) < 16 := nI_nlt (b := 16) (by omega) (by omega)
      rw [if_neg y', rq_b, if_neg (by decide), if_neg (fun e => y' ((rq_le15 _).mpr e))]; exact ⟨2, rfl, rfl⟩
  by_cases zA : op k = 15
  · have h1 := (w10 (by omega)).1
    rw [zA, show ck_tk 15 = 1 from rfl] at h1
    obtain ⟨r, m1, m2⟩ := miss 0 (by omega)
    have e := lk_opC (i := 0) H0 hk hr (by omega)
    have e' : M_C_Foreteller_operandAt σ (nI k) 0 = _ := e
    refine ⟨r, ?_, ?_⟩
    · rw [if_pos (show nI (op k) = 15 by rw [zA]; rfl), e', rq_b2, rq_rd (σ := σ) (n := 100) (c := 3) rfl (by omega) (by decide), rq_b, s3]; exact m1
    · rw [if_pos (show nI (op k) = 15 by rw [zA]; rfl), ix h1]
      unfold B_R_RangeTellerModel_flags_50
      rw [if_pos (show nI (op k) = 15 by rw [zA]; rfl)]
      rw [Nat.sub_zero] at m2
      exact m2
  rw [if_neg (show ¬ nI (op k) = 15 from ne 15 (by decide) (by omega)), if_neg (show ¬ nI (op k) = 15 from ne 15 (by decide) (by omega))]
  by_cases zB : op k = 16
  · have h1 := (w10 (by omega)).1
    rw [zB, show ck_tk 16 = 2 from rfl] at h1
    obtain ⟨r, m1, m2⟩ := miss 1 (by omega)
    have e := lk_opC (i := 1) H0 hk hr (by omega)
    have e' : M_C_Foreteller_operandAt σ (nI k) 1 = _ := e
    refine ⟨r, ?_, ?_⟩
    · rw [if_pos (show nI (op k) = 16 by rw [zB]; rfl), e', rq_b2, rq_rd (σ := σ) (n := 100) (c := 3) rfl (by omega) (by decide), rq_b, s3]; exact m1
    · rw [if_pos (show nI (op k) = 16 by rw [zB]; rfl), ix (by omega)]
      unfold B_R_RangeTellerModel_flags_50
      rw [if_neg (show ¬ nI (op k) = 15 from ne 15 (by decide) (by omega)), show 10 * k + (hs k - 1) = (10 * k + (hs k - 1 - 1)) + 1 by omega, nI_pred]
      exact m2
  rw [if_neg (show ¬ nI (op k) = 16 from ne 16 (by decide) (by omega)), if_neg (show ¬ nI (op k) = 16 from ne 16 (by decide) (by omega))]
  have zero : 1 ≤ hs k → (∃ r, (rt_b2 (M_C_Foreteller_operandAt σ (nI k) 0) fun v10 σ9 => (M_C_Ranges_canBeZero v10).bind fun v11 => if v11 = 0 then some ((0 : Int32), σ9) else some (4, σ9)) = some (r, σ) ∧ B_R_RangeTellerModel_flags_98 (nI (10 * k + (hs k - 1))) τ = some (r, τ)) := fun h1 => by
    have e := lk_opC (i := 0) H0 hk hr (by omega)
    have e' : M_C_Foreteller_operandAt σ (nI k) 0 = _ := e
    rw [Nat.sub_zero] at e'
    obtain ⟨ok, -, g1, g2, g3⟩ := rows (hs k - 1) (by omega)
    have ok' := ok
    unfold ft_ok at ok'
    unfold B_R_RangeTellerModel_flags_98
    rw [e', rq_b2, ft_zero ok, rq_b, rq_rd (σ := τ) (n := 1000) (c := 28) rfl (by omega) (by decide), rq_b, g1]
    by_cases y : (A 0 (10 * k + (hs k - 1))).1 = 0
    · rw [if_pos y, if_neg (by decide), if_pos (show nI (A 0 (10 * k + (hs k - 1))).1 = 0 by rw [y]; rfl)]; exact ⟨4, rfl, rfl⟩
    · rw [if_neg y, if_pos rfl, if_neg (nI_ne0 (by omega) (by omega))]; exact ⟨0, rfl, rfl⟩
  by_cases zC : op k = 24
  · have h1 := (w10 (by omega)).1
    rw [zC, show ck_tk 24 = 2 from rfl] at h1
    rw [if_pos (show nI (op k) = 24 by rw [zC]; rfl), if_pos (show nI (op k) = 24 by rw [zC]; rfl), ix (by omega)]
    exact zero (by omega)
  rw [if_neg (show ¬ nI (op k) = 24 from ne 24 (by decide) (by omega)), if_neg (show ¬ nI (op k) = 24 from ne 24 (by decide) (by omega))]
  by_cases zD : op k = 25
  · have h1 := (w10 (by omega)).1
    rw [zD, show ck_tk 25 = 2 from rfl] at h1
    rw [if_pos (show nI (op k) = 25 by rw [zD]; rfl), if_pos (show nI (op k) = 25 by rw [zD]; rfl), ix (by omega)]
    exact zero (by omega)
  rw [if_neg (show ¬ nI (op k) = 25 from ne 25 (by decide) (by omega)), if_neg (show ¬ nI (op k) = 25 from ne 25 (by decide) (by omega))]
  by_cases zE : op k = 28
  · have h1 := (w10 (by omega)).1
    rw [zE, show ck_tk 28 = 1 from rfl] at h1
    have e := lk_opC (i := 0) H0 hk hr (by omega)
    have e' : M_C_Foreteller_operandAt σ (nI k) 0 = _ := e
    rw [Nat.sub_zero] at e'
    obtain ⟨ok, -, g1, g2, g3⟩ := rows (hs k - 1) (by omega)
    have ok' := ok
    unfold ft_ok at ok'
    rw [if_pos (show nI (op k) = 28 by rw [zE]; rfl), if_pos (show nI (op k) = 28 by rw [zE]; rfl), ix (by omega), e', rq_b2, ft_taint ok, rq_b, rq_rd (σ := τ) (n := 1000) (c := 30) rfl (by omega) (by decide), rq_b, g3]
    by_cases y : (A 0 (10 * k + (hs k - 1))).2.2 = 0
    · rw [if_pos (show nI (4096 * (A 0 (10 * k + (hs k - 1))).2.2) = 0 by rw [y]; rfl), if_pos (show nI (A 0 (10 * k + (hs k - 1))).2.2 = 0 by rw [y]; rfl)]; exact ⟨0, rfl, rfl⟩
    · rw [if_neg (nI_ne0 (by omega) (by omega)), if_neg (nI_ne0 (by omega) (by omega))]; exact ⟨8, rfl, rfl⟩
  rw [if_neg (show ¬ nI (op k) = 28 from ne 28 (by decide) (by omega)), if_neg (show ¬ nI (op k) = 28 from ne 28 (by decide) (by omega))]
  exact ⟨0, rfl, rfl⟩
theorem sim_instruction (G : rq_Rel lk_Ld σ τ) : rt_c2 (rq_Rel lk_Ld) M_C_RangeTeller_instruction M_R_RangeTellerModel_instruction σ τ := by
  intro x y
  unfold M_C_RangeTeller_instruction M_R_RangeTellerModel_instruction
  rcases lk_is G x with ⟨e1, e2⟩ | ⟨e1, e2, N, F, op, ar, ow, en, el, pa, lo, re, fs, hs, L, A, k, H, hk, rfl⟩
  · rw [e1, e2, rq_b2, rq_b2, if_pos rfl, if_pos rfl]; exact ⟨-3, σ, τ, rfl, rfl, G⟩
  · obtain ⟨T, TF, -, -, hN, hF1, hF3⟩ := H.1
    obtain ⟨q0, q1, q2, q3, owF, pa2, lo2, q4, q5⟩ := lk_row H hk
    obtain ⟨⟨s2, s3, -, s5, -⟩, ⟨t2, t3, -, t5, -⟩, -, -, eN, -⟩ := T k hk
    rw [e1, e2, rq_b2, rq_b2, if_neg (show ¬ (1 : Int32) = 0 by decide), if_neg (show ¬ (1 : Int32) = 0 by decide)]
    by_cases y0 : y = 0
    · rw [if_pos y0, if_pos y0, rq_rd (σ := σ) (n := 100) rfl (by omega) (by decide), rq_b, s2, rq_rd (σ := τ) (n := 100) rfl (by omega) (by decide), rq_b, t2]; exact ⟨_, σ, τ, rfl, rfl, G⟩
    rw [if_neg y0, if_neg y0]
    by_cases y1 : y = 1
    · rw [if_pos y1, if_pos y1, rq_rd (σ := σ) (n := 100) rfl (by omega) (by decide), rq_b, s3, rq_rd (σ := τ) (n := 100) rfl (by omega) (by decide), rq_b, t3]; exact ⟨_, σ, τ, rfl, rfl, G⟩
    rw [if_neg y1, if_neg y1]
    by_cases y2 : y = 2
    · rw [if_pos y2, if_pos y2, rq_rd (σ := σ) (n := 100) (c := 30) rfl (by omega) (by decide), rq_b, q1, rq_rd (σ := τ) (n := 101) (c := 26) rfl (by omega) (by decide), rq_b, q2]
      by_cases w : nI (A 4 k).2.1 = 0
      · rw [if_pos w, if_pos w]; exact ⟨_, σ, τ, rfl, rfl, G⟩
      · rw [if_neg w, if_neg w]; exact ⟨_, σ, τ, rfl, rfl, G⟩
    rw [if_neg y2, if_neg y2]
    by_cases y3 : y = 3
    · obtain ⟨r, m1, m2⟩ := lk_flags H hk
      rw [if_pos y3, if_pos y3, m1, m2, rq_b2, rq_b2]; exact ⟨_, σ, τ, rfl, rfl, G⟩
    rw [if_neg y3, if_neg y3]
    by_cases y4 : y = 4
    · rw [if_pos y4, if_pos y4]
      by_cases w : en k = 0
      · refine ⟨-3, σ, τ, ?_, ?_, G⟩
        · rw [rq_rd (n := 100) rfl (by omega) (by decide), rq_b, s5, rq_e0 w, if_pos rfl]
        · rw [rq_rd (n := 100) rfl (by omega) (by decide), rq_b, t5, rq_e0 w, if_pos (by decide)]
      · refine ⟨nI (en k) + 1, σ, τ, ?_, ?_, G⟩
        · rw [rq_rd (n := 100) rfl (by omega) (by decide), rq_b, s5, rq_e1 w, if_neg (rq_n3 (by omega)), rq_b]
        · rw [rq_rd (n := 100) rfl (by omega) (by decide), rq_b, t5, rq_e1 w, if_neg (nI_pos (by omega)), rq_b]
    rw [if_neg y4, if_neg y4]
    by_cases y5 : y = 5
    · rw [if_pos y5, if_pos y5, rq_rd (σ := σ) (n := 100) (c := 30) rfl (by omega) (by decide), rq_b, q1, rq_rd (σ := τ) (n := 101) (c := 26) rfl (by omega) (by decide), rq_b, q2]
      by_cases w : (A 4 k).2.1 = 0
      · rw [if_pos (show nI (A 4 k).2.1 = 0 by rw [w]; rfl), if_pos (show nI (A 4 k).2.1 = 0 by rw [w]; rfl)]; exact ⟨_, σ, τ, rfl, rfl, G⟩
      · obtain ⟨-, q6, -⟩ := q5 (by omega)
        rw [if_neg (nI_ne0 (by omega) (by omega)), if_neg (nI_ne0 (by omega) (by omega)), rq_rd (σ := σ) (n := 100) (c := 31) rfl (by omega) (by decide), rq_b, q6, rq_rd (σ := τ) (n := 101) (c := 7) rfl (by omega) (by decide), rq_b, q4]; exact ⟨_, σ, τ, rfl, rfl, G⟩
    rw [if_neg y5, if_neg y5]
    exact ⟨_, σ, τ, rfl, rfl, G⟩
theorem lk_fresh : rq_Rel lk_Ld rtC_0 rtR_0 := ⟨⟨0, by decide, rfl, rfl, fun j hj => absurd hj (Nat.not_lt_zero _)⟩, ⟨0, by decide, rfl, rfl, fun j hj => absurd hj (Nat.not_lt_zero _)⟩, rfl, Or.inl ⟨rfl, rfl⟩, Or.inl ⟨rfl, rfl⟩⟩
theorem lk_step (T : Nat) : rt_Step (fun _ => rq_Rel lk_Ld) T := fun _ _ σ τ G => ⟨sim_feed lk_keeps G, sim_load G, sim_place G, sim_input lk_keeps G, sim_run G, sim_outcome G, sim_output G, sim_memory G, sim_instruction G, sim_operand G, sim_local G, sim_cell G, sim_function G, G⟩
end ASK2
