/-! checking: BLOCK, LOOP, IF, RETURN, CALL -/
section CK6
variable {N F k hh : Nat} {op ar ow en el pa lo re fs : Nat → Nat} {σ τ u w : rt_St} {x bs gv lv : Nat} {r fr : List (Nat × Nat × Nat × Nat)}
theorem ck_M.kp (h : ck_M fr hh σ τ) (h1 : ∀ j, u 17 j = σ 17 j) (h2 : ∀ c j, 18 ≤ c → c ≤ 20 → u c j = σ c j) (h3 : ∀ j, (j = 21 ∨ j = 26) → w 0 j = τ 0 j) (h4 : ∀ c j, 15 ≤ c → c ≤ 18 → w c j = τ c j) : ck_M fr hh u w := by
  obtain ⟨a1, a2, a3, a4, a5, a6, a7⟩ := h
  exact ⟨by rw [h1]; exact a1, by rw [h3 21 (by decide)]; exact a2, by rw [h1]; exact a3, by rw [h3 26 (by decide)]; exact a4, by rw [h1]; exact a5, a6.kp (fun c j x1 x2 _ => h2 c j x1 x2) (fun c j x1 x2 _ => h4 c j x1 x2), a7⟩
def ck_j (u : rt_St) (k : Nat) (a2 a3 a4 : Int32) : rt_St := rt_up (rt_up (rt_up u 7 k a2) 8 k a3) 9 k a4
theorem ck_set {a2 a3 a4 : Int32} (hk : k < 100) : M_C_Program_setJump u (nI k) a2 a3 a4 = some (ck_j u k a2 a3 a4) := by
  unfold M_C_Program_setJump ck_j
  rw [rq_wr (n := 100) rfl hk (by decide), rq_b, rq_wr (n := 100) rfl hk (by decide), rq_b, rq_wr (n := 100) rfl hk (by decide), rq_b]
theorem ck_jk {c j : Nat} {a2 a3 a4 : Int32} (h : ¬ (7 ≤ c ∧ c ≤ 9)) : ck_j u k a2 a3 a4 c j = u c j := by
  unfold ck_j; rw [rq_c (by omega), rq_c (by omega), rq_c (by omega)]
theorem ck_jA {a2 a3 a4 : Int32} (h : rq_A (ck_kC k) σ u) : rq_A (ck_kC k) σ (ck_j u k a2 a3 a4) := ((h.up (by unfold ck_kC ck_C; omega)).up (by unfold ck_kC ck_C; omega)).up (by unfold ck_kC ck_C; omega)
theorem ck_op12 (hT : rq_T N op ar ow en el σ τ) (hF : rq_TF F pa lo re fs σ τ) (hN : N ≤ 100) (hF3 : F ≤ 3) (hk : k < N) (hf : ow k < F) (hM : ck_M fr hh σ τ) (hr : fr.length < 101) (ha : ar k ≤ 1) (ho : op k = 1 ∨ op k = 2) :
    ck_out k σ τ (fun fr' hh' _ _ => fr' = (k + 1, hh, ar k, 1) :: fr ∧ hh' = hh) := by
  obtain ⟨⟨s2, s3, s4, -, -⟩, ⟨t2, t3, t4, -, -⟩, o1, o2, -, -⟩ := hT k hk
  have hO := hM.opn (x := k + 1) ha
  have eC : M_C_Checker_checkInstruction σ (nI k) = some (ck_oC σ fr.length hh (nI k)) := by
    unfold M_C_Checker_checkInstruction
    rw [rq_rd (n := 100) rfl (by omega) (by decide), rq_b, s2, rq_rd (n := 100) rfl (by omega) (by decide), rq_b, s4, rq_rd (n := 3) rfl (by omega) (by decide), rq_b, if_neg (show ¬ nI (op k) = 0 from ck_ne (c := 0) (by omega) (by omega) (by decide)), ck_openC hM.1 hM.2.2.1 hr, rq_b]
    rcases ho with ho | ho
    · rw [if_pos (show nI (op k) = 1 by rw [ho]; rfl)]
    · rw [if_neg (show ¬ nI (op k) = 1 from ck_ne (c := 1) (by omega) (by omega) (by decide)), if_pos (show nI (op k) = 2 by rw [ho]; rfl)]
  have eR : M_R_RangeTellerModel_checkOne τ (nI k) = some (1, ck_oR τ fr.length hh (nI k) (nI (ar k))) := by
    rw [ck_inR hT hN hk (by omega)]
    unfold M_R_RangeTellerModel_checkFlow
    rw [rq_rd (n := 100) rfl (by omega) (by decide), rq_b, t3, rq_rd (n := 100) rfl (by omega) (by decide), rq_b, rq_rd (n := 100) rfl (by omega) (by decide), rq_b, t2, if_neg (show ¬ nI (op k) = 0 from ck_ne (c := 0) (by omega) (by omega) (by decide)), ck_openR hM.2.1 hM.2.2.2.1 hr, rq_b]
    rcases ho with ho | ho
    · rw [if_pos (show nI (op k) = 1 by rw [ho]; rfl), rq_b2, ck_zok1]
    · rw [if_neg (show ¬ nI (op k) = 1 from ck_ne (c := 1) (by omega) (by omega) (by decide)), if_pos (show nI (op k) = 2 by rw [ho]; rfl), rq_b2, ck_zok1]
  refine ⟨_, eC, ?_, Or.inr ⟨_, _, _, eR, ?_, hO, rfl, rfl⟩⟩
  · exact (((rq_A.rf.up (by unfold ck_kC ck_C; omega)).up (by unfold ck_kC ck_C; omega)).up (by unfold ck_kC ck_C; omega)).up (by unfold ck_kC ck_C; omega)
  · exact ((((rq_A.rf.up (by unfold ck_kR ck_R; omega)).up (by unfold ck_kR ck_R; omega)).up (by unfold ck_kR ck_R; omega)).up (by unfold ck_kR ck_R; omega)).up (by unfold ck_kR ck_R; omega)
theorem ck_call (hT : rq_T N op ar ow en el σ τ) (hF : rq_TF F pa lo re fs σ τ) (hN : N ≤ 100) (hF3 : F ≤ 3) (hk : k < N) (hf : ow k < F) (d13 : σ 1 13 = nI F) (d16 : τ 0 16 = nI F) (hM : ck_M ((x, bs, gv, lv) :: r) hh σ τ) (hr : r.length < 101) (hb : bs ≤ hh) (ho : op k = 9) :
    ck_out k σ τ (fun fr' hh' _ _ => fr' = (x, bs, gv, lv) :: r ∧ ar k < F ∧ ¬ (lv = 1 ∧ hh < bs + pa (ar k)) ∧ hh' = ck_h bs hh (pa (ar k)) + re (ar k)) := by
  obtain ⟨⟨s2, s3, s4, -, -⟩, ⟨t2, t3, t4, -, -⟩, o1, o2, -, -⟩ := hT k hk
  have eC : M_C_Checker_checkInstruction σ (nI k) = (M_C_Checker_checkCall σ (nI (ar k))).bind fun σ6 => some σ6 := by
    unfold M_C_Checker_checkInstruction
    rw [rq_rd (n := 100) rfl (by omega) (by decide), rq_b, s2, rq_rd (n := 100) rfl (by omega) (by decide), rq_b, s4, rq_rd (n := 3) rfl (by omega) (by decide), rq_b, ho]
    rw [if_neg (show ¬ nI 9 = 0 by decide), if_neg (show ¬ nI 9 = 1 by decide), if_neg (show ¬ nI 9 = 2 by decide), if_neg (show ¬ nI 9 = 3 by decide), if_neg (show ¬ nI 9 = 4 by decide), if_neg (show ¬ nI 9 = 5 by decide), if_neg (show ¬ nI 9 = 6 by decide), if_neg (show ¬ nI 9 = 7 by decide), if_neg (show ¬ nI 9 = 8 by decide), if_pos (show nI 9 = 9 from rfl), rq_rd (n := 100) rfl (by omega) (by decide), rq_b, s3]
  have eR : M_R_RangeTellerModel_checkFlow τ (nI k) = if τ 0 16 ≤ nI (ar k) then some (0, τ) else (rt_rd τ 11 3 (nI (ar k))).bind fun v4 => rt_b2 (M_R_RangeTellerModel_drop τ v4) fun v6 σ5 => if v6 = 0 then some (0, σ5) else (rt_rd σ5 13 3 (nI (ar k))).bind fun v7 => rt_b2 (M_R_RangeTellerModel_give σ5 v7) fun v9 σ8 => if v9 = 0 then some (0, σ8) else some (1, σ8) := by
    unfold M_R_RangeTellerModel_checkFlow
    rw [rq_rd (n := 100) rfl (by omega) (by decide), rq_b, t3, rq_rd (n := 100) rfl (by omega) (by decide), rq_b, rq_rd (n := 100) rfl (by omega) (by decide), rq_b, t2, ho]
    rw [if_neg (show ¬ nI 9 = 0 by decide), if_neg (show ¬ nI 9 = 1 by decide), if_neg (show ¬ nI 9 = 2 by decide), if_neg (show ¬ nI 9 = 3 by decide), if_neg (show ¬ nI 9 = 4 by decide), if_neg (show ¬ nI 9 = 5 by decide), if_neg (show ¬ nI 9 = 6 by decide), if_neg (show ¬ nI 9 = 7 by decide), if_neg (show ¬ nI 9 = 8 by decide)]
  have eR0 := ck_inR hT hN hk (by omega)
  unfold M_C_Checker_checkCall at eC
  rw [d13] at eC
  rw [d16] at eR
  by_cases c0 : ar k < F
  · obtain ⟨f1, f2, f3, f4, g1, g2, g3, g4, b1, b2, b3⟩ := hF (ar k) c0
    rw [if_pos (nI_lt c0 (by omega)), rq_rd (n := 3) rfl (by omega) (by decide), rq_b, f2] at eC
    rw [if_neg (nI_ge c0 (by omega)), rq_rd (n := 3) rfl (by omega) (by decide), rq_b, g2] at eR
    obtain ⟨σ1, τ1, p1, p2, p3, p4, p5, p6, p7, p8⟩ := hM.take (c := pa (ar k)) hr hb (by omega)
    have q13 : σ1 13 (ar k) = nI (re (ar k)) := by rw [p3 13 _ (by unfold ck_A; omega)]; exact f4
    have r13 : τ1 13 (ar k) = nI (re (ar k)) := by rw [p4 13 _ (by unfold ck_B; omega)]; exact g4
    rw [p1, rq_b, rq_rd (n := 3) rfl (by omega) (by decide), rq_b, q13] at eC
    rw [p2, rq_b2] at eR
    by_cases w : lv = 1 ∧ hh < bs + pa (ar k)
    · rw [if_pos w, if_pos rfl] at eR
      rw [eR, rq_b2, ck_zok0] at eR0
      have hh10 : ck_h bs hh (pa (ar k)) + re (ar k) < 100000 := by
        have := hM.2.2.2.2.2.2
        unfold ck_h
        by_cases y : bs + pa (ar k) ≤ hh
        · rw [if_pos y]; omega
        · rw [if_neg y]; omega
      rw [ck_giveC p5 hh10, rq_b, rq_b] at eC
      refine ⟨_, eC, ?_, Or.inl ⟨τ1, eR0, p4.mono (fun c j h => ck_BR h), ?_⟩⟩
      · by_cases y : ck_h bs hh (pa (ar k)) + re (ar k) ≤ 10
        · rw [if_pos y]; exact (p3.up (by unfold ck_A; omega)).mono (fun c j h => ck_AC h)
        · rw [if_neg y]; exact ((p3.up (by unfold ck_A; omega)).up (by unfold ck_A; omega)).mono (fun c j h => ck_AC h)
      · by_cases y : ck_h bs hh (pa (ar k)) + re (ar k) ≤ 10
        · rw [if_pos y, rq_k (by decide)]; exact p7 w
        · rw [if_neg y, rq_s]
    · rw [if_neg w, if_neg (by decide), rq_rd (n := 3) rfl (by omega) (by decide), rq_b, r13] at eR
      obtain ⟨σ2, τ2, q1, q2, q3, q4, q5, q6⟩ := (p8 w).give (c := re (ar k)) (by omega)
      rw [q1, rq_b, rq_b] at eC
      rw [q2, rq_b2] at eR
      have K1 : rq_A (ck_kC k) σ σ2 := (p3.tr q3).mono (fun c j h => ck_AC h)
      have K2 : rq_A (ck_kR k) τ τ2 := (p4.tr q4).mono (fun c j h => ck_BR h)
      by_cases y : ck_h bs hh (pa (ar k)) + re (ar k) ≤ 10
      · rw [if_pos y, if_neg (by decide)] at eR
        rw [eR, rq_b2, ck_zok1] at eR0
        exact ⟨σ2, eC, K1, Or.inr ⟨τ2, _, _, eR0, K2, q6 y, rfl, c0, w, rfl⟩⟩
      · rw [if_neg y, if_pos rfl] at eR
        rw [eR, rq_b2, ck_zok0] at eR0
        exact ⟨σ2, eC, K1, Or.inl ⟨τ2, eR0, K2, q5 y⟩⟩
  · rw [if_neg (nI_nlt (by omega) (by omega)), rq_put, rq_b, rq_b] at eC
    rw [if_pos (nI_le (by omega) (by omega))] at eR
    rw [eR, rq_b2, ck_zok0] at eR0
    exact ⟨_, eC, rq_A.rf.up (by unfold ck_kC ck_C; omega), Or.inl ⟨τ, eR0, rq_A.rf, rq_s⟩⟩
end CK6
