/-! checking: RETURN and IF -/
section CK7
variable {N F k hh : Nat} {op ar ow en el pa lo re fs : Nat → Nat} {σ τ u w : rt_St} {x bs gv lv : Nat} {r fr : List (Nat × Nat × Nat × Nat)}
def ck_jr (w : rt_St) (k : Nat) (a b c : Int32) : rt_St := rt_up (rt_up (rt_up w 8 k a) 9 k b) 10 k c
theorem ck_jrk {c j : Nat} {a1 a2 a3 : Int32} (h : ¬ (8 ≤ c ∧ c ≤ 10)) : ck_jr w k a1 a2 a3 c j = w c j := by
  unfold ck_jr; rw [rq_c (by omega), rq_c (by omega), rq_c (by omega)]
theorem ck_jrA {a1 a2 a3 : Int32} : rq_A (ck_kR k) τ (ck_jr τ k a1 a2 a3) := ((rq_A.rf.up (by unfold ck_kR ck_R; omega)).up (by unfold ck_kR ck_R; omega)).up (by unfold ck_kR ck_R; omega)
theorem ck_op8 (hT : rq_T N op ar ow en el σ τ) (hF : rq_TF F pa lo re fs σ τ) (hN : N ≤ 100) (hF3 : F ≤ 3) (hk : k < N) (hf : ow k < F) (hM : ck_M ((x, bs, gv, lv) :: r) hh σ τ) (hr : r.length < 101) (hb : bs ≤ hh) (ho : op k = 8) :
    ck_out k σ τ (fun fr' hh' σ' τ' => fr' = (x, bs, gv, 0) :: r ∧ hh' = bs ∧ ¬ (lv = 1 ∧ hh < bs + re (ow k)) ∧ (σ' 7 k = -1 ∧ σ' 8 k = 0 ∧ σ' 9 k = nI (re (ow k))) ∧ τ' 8 k = -1 ∧ τ' 9 k = 0 ∧ τ' 10 k = nI (re (ow k))) := by
  obtain ⟨⟨s2, s3, s4, -, -⟩, ⟨t2, t3, t4, -, -⟩, o1, o2, -, -⟩ := hT k hk
  obtain ⟨f1, f2, f3, f4, g1, g2, g3, g4, b1, b2, b3⟩ := hF (ow k) hf
  have eC : M_C_Checker_checkInstruction σ (nI k) = (M_C_Checker_take σ (nI (re (ow k)))).bind fun σ7 => (M_C_Checker_deaden σ7).bind fun σ8 => (M_C_Program_setJump σ8 (nI k) (-1) 0 (nI (re (ow k)))).bind fun σ9 => some σ9 := by
    unfold M_C_Checker_checkInstruction
    rw [rq_rd (n := 100) rfl (by omega) (by decide), rq_b, s2, rq_rd (n := 100) rfl (by omega) (by decide), rq_b, s4, rq_rd (n := 3) rfl (by omega) (by decide), rq_b, f4, ho]
    rw [if_neg (show ¬ nI 8 = 0 by decide), if_neg (show ¬ nI 8 = 1 by decide), if_neg (show ¬ nI 8 = 2 by decide), if_neg (show ¬ nI 8 = 3 by decide), if_neg (show ¬ nI 8 = 4 by decide), if_neg (show ¬ nI 8 = 5 by decide), if_neg (show ¬ nI 8 = 6 by decide), if_neg (show ¬ nI 8 = 7 by decide), if_pos (show nI 8 = 8 from rfl)]
  have eR : M_R_RangeTellerModel_checkFlow τ (nI k) = rt_b2 (M_R_RangeTellerModel_drop (ck_jr τ k (-1) 0 (nI (re (ow k)))) (nI (re (ow k)))) fun v16 σ15 => if v16 = 0 then some (0, σ15) else rt_b2 (M_R_RangeTellerModel_deaden σ15) fun v18 σ17 => if v18 = 0 then some (0, σ17) else some (1, σ17) := by
    unfold M_R_RangeTellerModel_checkFlow
    rw [rq_rd (n := 100) rfl (by omega) (by decide), rq_b, t3, rq_rd (n := 100) rfl (by omega) (by decide), rq_b, t4, rq_rd (n := 100) rfl (by omega) (by decide), rq_b, t2, ho]
    rw [if_neg (show ¬ nI 8 = 0 by decide), if_neg (show ¬ nI 8 = 1 by decide), if_neg (show ¬ nI 8 = 2 by decide), if_neg (show ¬ nI 8 = 3 by decide), if_neg (show ¬ nI 8 = 4 by decide), if_neg (show ¬ nI 8 = 5 by decide), if_neg (show ¬ nI 8 = 6 by decide), if_neg (show ¬ nI 8 = 7 by decide), if_pos (show nI 8 = 8 from rfl)]
    have e1 : (rt_up (rt_up τ 8 k (-1)) 9 k 0) 13 (ow k) = nI (re (ow k)) := by rw [rq_c (by decide), rq_c (by decide)]; exact g4
    have e2 : (ck_jr τ k (-1) 0 (nI (re (ow k)))) 13 (ow k) = nI (re (ow k)) := by rw [ck_jrk (by omega)]; exact g4
    rw [rq_wr (n := 100) rfl (by omega) (by decide), rq_b, rq_wr (n := 100) rfl (by omega) (by decide), rq_b, rq_rd (n := 3) rfl (by omega) (by decide), rq_b, e1, rq_wr (n := 100) rfl (by omega) (by decide), rq_b]
    show (rt_rd (ck_jr τ k (-1) 0 (nI (re (ow k)))) 13 3 (nI (ow k))).bind _ = _
    rw [rq_rd (n := 3) rfl (by omega) (by decide), rq_b, e2]
    rfl
  have eR0 := ck_inR hT hN hk (by omega)
  have hM' : ck_M ((x, bs, gv, lv) :: r) hh σ (ck_jr τ k (-1) 0 (nI (re (ow k)))) := hM.kp (fun _ => rfl) (fun _ _ _ _ => rfl) (fun j _ => ck_jrk (by omega)) (fun c j _ _ => ck_jrk (by omega))
  obtain ⟨σ1, τ1, p1, p2, p3, p4, p5, p6, p7, p8⟩ := hM'.take (c := re (ow k)) hr hb (by omega)
  have h4 : σ1 17 4 = nI r.length := by rw [p3 17 4 (by unfold ck_A; omega), hM.1, List.length_cons, nI_pred]
  rw [p1, rq_b, ck_deadC h4 hr, rq_b, ck_set (by omega), rq_b] at eC
  rw [p2, rq_b2] at eR
  have K1 : rq_A (ck_kC k) σ (ck_j (rt_up (rt_up σ1 20 r.length 0) 17 5 (σ1 19 r.length)) k (-1) 0 (nI (re (ow k)))) := ck_jA (((p3.mono (fun c j h => ck_AC h)).up (by unfold ck_kC ck_C; omega)).up (by unfold ck_kC ck_C; omega))
  have K2 : rq_A (ck_kR k) τ τ1 := ck_jrA.tr (p4.mono (fun c j h => ck_BR h))
  by_cases y : lv = 1 ∧ hh < bs + re (ow k)
  · rw [if_pos y, if_pos rfl] at eR
    rw [eR, rq_b2, ck_zok0] at eR0
    exact ⟨_, eC, K1, Or.inl ⟨τ1, eR0, K2, by rw [ck_jk (by omega), rq_k (by decide), rq_c (by decide)]; exact p7 y⟩⟩
  · have hm := p8 y
    rw [if_neg y, if_neg (by decide), ck_deadR hm.2.1 hr, rq_b2, if_neg (by decide)] at eR
    rw [eR, rq_b2, ck_zok1] at eR0
    refine ⟨_, eC, K1, Or.inr ⟨_, _, _, eR0, (K2.up (by unfold ck_kR ck_R; omega)).up (by unfold ck_kR ck_R; omega), hm.dead.kp (fun j => ck_jk (by omega)) (fun c j _ _ => ck_jk (by omega)) (fun _ _ => rfl) (fun _ _ _ _ => rfl), rfl, rfl, y, ⟨?_, ?_, ?_⟩, ?_, ?_, ?_⟩⟩
    · simp [ck_j, rq_if]
    · simp [ck_j, rq_if]
    · simp [ck_j, rq_if]
    · rw [rq_c (by decide), rq_c (by decide), p4 8 k (by unfold ck_B; omega)]; simp [ck_jr, rq_if]
    · rw [rq_c (by decide), rq_c (by decide), p4 9 k (by unfold ck_B; omega)]; simp [ck_jr, rq_if]
    · rw [rq_c (by decide), rq_c (by decide), p4 10 k (by unfold ck_B; omega)]; simp [ck_jr, rq_if]
theorem ck_oth (h5 : u 5 k = rq_e (-3) (en k)) (h6 : u 6 k = rq_e (-3) (el k)) (hk : k < 100) (hn : en k < 100) (hl : el k < 100) (hc : el k = 0 → en k ≠ 0) : M_C_Program_otherwise u (nI k) = some (nI ((if el k = 0 then en k else el k) + 1), u) := by
  unfold M_C_Program_otherwise
  rw [rq_rd (n := 100) rfl hk (by decide), rq_b, h6]
  by_cases c : el k = 0
  · rw [rq_e0 c, if_pos rfl, rq_rd (n := 100) rfl hk (by decide), rq_b, h5, rq_e1 (hc c), nI_1, if_pos c]
  · rw [rq_e1 c, if_neg (rq_n3 (by omega)), rq_b, nI_1, if_neg c]
theorem ck_op3 (hT : rq_T N op ar ow en el σ τ) (hF : rq_TF F pa lo re fs σ τ) (hN : N ≤ 100) (hF3 : F ≤ 3) (hk : k < N) (hf : ow k < F) (hM : ck_M ((x, bs, gv, lv) :: r) hh σ τ) (hr : r.length < 100) (hb : bs ≤ hh) (ha : ar k ≤ 1) (hcl : el k = 0 → en k ≠ 0) (ho : op k = 3) :
    ck_out k σ τ (fun fr' hh' σ' τ' => fr' = (k + 1, ck_h bs hh 1, ar k, 1) :: (x, bs, gv, lv) :: r ∧ hh' = ck_h bs hh 1 ∧ ¬ (lv = 1 ∧ hh < bs + 1) ∧ σ' 7 k = nI ((if el k = 0 then en k else el k) + 1) ∧ σ' 8 k = nI (ck_h bs hh 1) ∧ σ' 9 k = 0) := by
  obtain ⟨⟨s2, s3, s4, s5, s6⟩, ⟨t2, t3, t4, -, -⟩, o1, o2, o3, o4⟩ := hT k hk
  have eC : M_C_Checker_checkInstruction σ (nI k) = (M_C_Checker_take σ (nI 1)).bind fun σ16 => (M_C_Checker_open σ16 (nI k)).bind fun σ17 => rt_b2 (M_C_Program_otherwise σ17 (nI k)) fun v19 σ18 => (M_C_Program_setJump σ18 (nI k) v19 (σ18 17 5) 0).bind fun σ20 => some σ20 := by
    unfold M_C_Checker_checkInstruction
    rw [rq_rd (n := 100) rfl (by omega) (by decide), rq_b, s2, rq_rd (n := 100) rfl (by omega) (by decide), rq_b, s4, rq_rd (n := 3) rfl (by omega) (by decide), rq_b, ho]
    rw [if_neg (show ¬ nI 3 = 0 by decide), if_neg (show ¬ nI 3 = 1 by decide), if_neg (show ¬ nI 3 = 2 by decide), if_pos (show nI 3 = 3 from rfl)]
    rfl
  have eR : M_R_RangeTellerModel_checkFlow τ (nI k) = rt_b2 (M_R_RangeTellerModel_drop τ (nI 1)) fun v41 σ40 => if v41 = 0 then some (0, σ40) else (M_R_RangeTellerModel_open σ40 (nI k) (nI (ar k))).bind fun σ42 => some (1, σ42) := by
    unfold M_R_RangeTellerModel_checkFlow
    rw [rq_rd (n := 100) rfl (by omega) (by decide), rq_b, t3, rq_rd (n := 100) rfl (by omega) (by decide), rq_b, t4, rq_rd (n := 100) rfl (by omega) (by decide), rq_b, t2, ho]
    rw [if_neg (show ¬ nI 3 = 0 by decide), if_neg (show ¬ nI 3 = 1 by decide), if_neg (show ¬ nI 3 = 2 by decide), if_pos (show nI 3 = 3 from rfl)]
    rfl
  have eR0 := ck_inR hT hN hk (by omega)
  obtain ⟨σ1, τ1, p1, p2, p3, p4, p5, p6, p7, p8⟩ := hM.take (c := 1) (by omega) hb (by decide)
  have h4 : σ1 17 4 = nI (r.length + 1) - 1 := by rw [p3 17 4 (by unfold ck_A; omega), hM.1, List.length_cons]
  have z5 : (ck_oC σ1 (r.length + 1) (ck_h bs hh 1) (nI k)) 5 k = rq_e (-3) (en k) := by
    have : ck_oC σ1 (r.length + 1) (ck_h bs hh 1) (nI k) 5 k = σ1 5 k := by simp [ck_oC, rq_if]
    rw [this, p3 5 k (by unfold ck_A; omega)]; exact s5
  have z6 : (ck_oC σ1 (r.length + 1) (ck_h bs hh 1) (nI k)) 6 k = rq_e (-3) (el k) := by
    have : ck_oC σ1 (r.length + 1) (ck_h bs hh 1) (nI k) 6 k = σ1 6 k := by simp [ck_oC, rq_if]
    rw [this, p3 6 k (by unfold ck_A; omega)]; exact s6
  have z17 : (ck_oC σ1 (r.length + 1) (ck_h bs hh 1) (nI k)) 17 5 = nI (ck_h bs hh 1) := by
    have : ck_oC σ1 (r.length + 1) (ck_h bs hh 1) (nI k) 17 5 = σ1 17 5 := by simp [ck_oC, rq_if]
    rw [this]; exact p5
  rw [p1, rq_b, ck_openC h4 p5 (by omega), rq_b, ck_oth z5 z6 (by omega) (by omega) (by omega) hcl, rq_b2, z17, ck_set (by omega), rq_b] at eC
  rw [p2, rq_b2] at eR
  have K1 : rq_A (ck_kC k) σ (ck_j (ck_oC σ1 (r.length + 1) (ck_h bs hh 1) (nI k)) k (nI ((if el k = 0 then en k else el k) + 1)) (nI (ck_h bs hh 1)) 0) := ck_jA (((((p3.mono (fun c j h => ck_AC h)).up (by unfold ck_kC ck_C; omega)).up (by unfold ck_kC ck_C; omega)).up (by unfold ck_kC ck_C; omega)).up (by unfold ck_kC ck_C; omega))
  have K2 : rq_A (ck_kR k) τ τ1 := p4.mono (fun c j h => ck_BR h)
  by_cases y : lv = 1 ∧ hh < bs + 1
  · rw [if_pos y, if_pos rfl] at eR
    rw [eR, rq_b2, ck_zok0] at eR0
    refine ⟨_, eC, K1, Or.inl ⟨τ1, eR0, K2, ?_⟩⟩
    rw [ck_jk (by omega)]
    have : ck_oC σ1 (r.length + 1) (ck_h bs hh 1) (nI k) 17 6 = σ1 17 6 := by simp [ck_oC, rq_if]
    rw [this]; exact p7 y
  · have hm := p8 y
    have hO := hm.opn (x := k + 1) ha
    rw [if_neg y, if_neg (by decide), ck_openR hm.2.1 hm.2.2.2.1 (by simp; omega), rq_b] at eR
    rw [eR, rq_b2, ck_zok1] at eR0
    refine ⟨_, eC, K1, Or.inr ⟨_, _, _, eR0, ((((K2.up (by unfold ck_kR ck_R; omega)).up (by unfold ck_kR ck_R; omega)).up (by unfold ck_kR ck_R; omega)).up (by unfold ck_kR ck_R; omega)).up (by unfold ck_kR ck_R; omega), hO.kp (fun j => ck_jk (by omega)) (fun c j _ _ => ck_jk (by omega)) (fun _ _ => rfl) (fun _ _ _ _ => rfl), rfl, rfl, y, ?_, ?_, ?_⟩⟩
    · simp [ck_j, rq_if]
    · simp [ck_j, rq_if]
    · simp [ck_j, rq_if]
end CK7
