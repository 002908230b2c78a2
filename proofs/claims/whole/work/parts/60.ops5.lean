/-! checking: END -/
section CK9
variable {N F k hh : Nat} {op ar ow en el pa lo re fs : Nat → Nat} {σ τ : rt_St} {x bs gv lv xo : Nat} {r : List (Nat × Nat × Nat × Nat)} {q : Nat × Nat × Nat × Nat}
theorem ck_M.pop (h : ck_M (q :: r) hh σ τ) : ck_M r hh (rt_up σ 17 4 (nI r.length - 1)) (rt_up τ 0 21 (nI r.length)) := by
  obtain ⟨h1, h2, h3, h4, h5, ⟨-, -, -, d1⟩, h7⟩ := h
  exact ⟨rq_s, rq_s, by rw [rq_k (by decide)]; exact h3, by rw [rq_k (by decide)]; exact h4, by rw [rq_k (by decide)]; exact h5, d1.kp (fun c j x1 x2 _ => rq_c (by omega)) (fun c j x1 x2 _ => rq_c (by omega)), h7⟩
/-- the function's own END -/
theorem ck_op5f (hT : rq_T N op ar ow en el σ τ) (hF : rq_TF F pa lo re fs σ τ) (hN : N ≤ 100) (hF3 : F ≤ 3) (hk : k < N) (hf : ow k < F) (hM : ck_M [(0, bs, gv, lv)] hh σ τ) (hb : bs ≤ hh) (hg : re (ow k) = gv) (ho : op k = 5) :
    ck_out k σ τ (fun fr' hh' σ' τ' => fr' = [] ∧ hh' = bs ∧ ¬ (lv = 1 ∧ hh < bs + gv) ∧ ck_h bs hh gv = bs ∧ σ' 7 k = -1 ∧ σ' 8 k = 0 ∧ σ' 9 k = nI gv) := by
  obtain ⟨⟨s2, s3, s4, s5, s6⟩, ⟨t2, t3, t4, -, -⟩, o1, o2, o3, o4⟩ := hT k hk
  obtain ⟨f1, f2, f3, f4, g1, g2, g3, g4, b1', b2', b3'⟩ := hF (ow k) hf
  obtain ⟨m1, m2, m3, m4, m5, ⟨⟨a1, a2, a3⟩, ⟨b1, b2, b3, b4⟩, ⟨c1, c2, c3⟩, d1⟩, m7⟩ := id hM
  have l4 : σ 17 4 = nI 0 := by rw [m1]; exact nI_pred 0
  have a1' : σ 18 0 = -3 := a1
  have a2' : σ 19 0 = nI bs := a2
  have b1'' : τ 15 0 = -1 := b1
  have b2'' : τ 16 0 = nI bs := b2
  have b3'' : τ 17 0 = nI gv := b3
  have c1' : bs ≤ 10 := c1
  have c2' : gv ≤ 1 := c2
  have eC : M_C_Checker_checkInstruction σ (nI k) = (B_C_Checker_checkEnd_40 (nI k) (-3) (nI bs) (nI gv) σ).bind fun σ14 => some σ14 := by
    unfold M_C_Checker_checkInstruction
    rw [rq_rd (n := 100) rfl (by omega) (by decide), rq_b, s2, rq_rd (n := 100) rfl (by omega) (by decide), rq_b, s4, rq_rd (n := 3) rfl (by omega) (by decide), rq_b, f4, hg, ho]
    rw [if_neg (show ¬ nI 5 = 0 by decide), if_neg (show ¬ nI 5 = 1 by decide), if_neg (show ¬ nI 5 = 2 by decide), if_neg (show ¬ nI 5 = 3 by decide), if_neg (show ¬ nI 5 = 4 by decide), if_pos (show nI 5 = 5 from rfl)]
    unfold M_C_Checker_checkEnd
    rw [rq_rd (n := 101) l4 (by decide) (by decide), rq_b, a1', rq_rd (n := 101) l4 (by decide) (by decide), rq_b, a2', if_pos rfl]
  have eR : M_R_RangeTellerModel_checkFlow τ (nI k) = rt_b2 (M_R_RangeTellerModel_checkEnd τ (nI k)) fun v34 σ33 => (rt_zok v34).bind fun _ => some (v34, σ33) := by
    unfold M_R_RangeTellerModel_checkFlow
    rw [rq_rd (n := 100) rfl (by omega) (by decide), rq_b, t3, rq_rd (n := 100) rfl (by omega) (by decide), rq_b, t4, rq_rd (n := 100) rfl (by omega) (by decide), rq_b, t2, ho]
    rw [if_neg (show ¬ nI 5 = 0 by decide), if_neg (show ¬ nI 5 = 1 by decide), if_neg (show ¬ nI 5 = 2 by decide), if_neg (show ¬ nI 5 = 3 by decide), if_neg (show ¬ nI 5 = 4 by decide), if_pos (show nI 5 = 5 from rfl)]
  have eR0 := ck_inR hT hN hk (by omega)
  have n2 : τ 0 21 - 1 = nI 0 := by rw [m2]; exact nI_pred 0
  obtain ⟨σ1, τ1, p1, p2, p3, p4, p5, p6, p7, p8⟩ := hM.take (c := gv) (by decide) hb (by omega)
  have h4 : σ1 17 4 = nI 0 := by rw [p3 17 4 (by unfold ck_A; omega)]; exact l4
  have h19 : σ1 19 0 = nI bs := by rw [p3 19 _ (by unfold ck_A; omega)]; exact a2'
  have hk10 : ck_h bs hh gv < 1000 := by
    unfold ck_h
    by_cases y : bs + gv ≤ hh
    · rw [if_pos y]; omega
    · rw [if_neg y]; omega
  have eE : M_R_RangeTellerModel_checkEnd τ (nI k) = if (if lv = 1 ∧ hh < bs + gv then (0 : Int32) else 1) = 0 then some (0, τ1) else if nI (ck_h bs hh gv) = nI bs then B_R_RangeTellerModel_checkEnd_77 (nI gv) τ1 else some (0, τ1) := by
    unfold M_R_RangeTellerModel_checkEnd
    rw [rq_rd (n := 101) n2 (by decide) (by decide), rq_b, b1'', rq_rd (n := 101) n2 (by decide) (by decide), rq_b, b3'', p2, rq_b2, rq_rd (n := 101) n2 (by decide) (by decide), rq_b, p4 16 0 (by unfold ck_B; omega), b2'', p6, if_pos (show (-1 : Int32) < 0 by decide)]
  unfold B_C_Checker_checkEnd_40 at eC
  rw [p1, rq_b, ck_base h4 (by decide), rq_b, p5, h19, rq_put, rq_b, if_pos rfl, ck_set (by omega), rq_b, rq_b] at eC
  have K2 : rq_A (ck_kR k) τ τ1 := p4.mono (fun c j h => ck_BR h)
  by_cases z : ck_h bs hh gv = bs
  · rw [if_pos (by rw [z])] at eC
    have K1 : rq_A (ck_kC k) σ (ck_j (rt_up σ1 17 4 (σ1 17 4 - 1)) k (-1) 0 (nI gv)) := ck_jA ((p3.mono (fun c j h => ck_AC h)).up (by unfold ck_kC ck_C; omega))
    by_cases y : lv = 1 ∧ hh < bs + gv
    · rw [if_pos y, if_pos rfl] at eE
      rw [eR, eE, rq_b2, ck_zok0, rq_b2, ck_zok0] at eR0
      exact ⟨_, eC, K1, Or.inl ⟨τ1, eR0, K2, by rw [ck_jk (by omega), rq_k (by decide)]; exact p7 y⟩⟩
    · have hm := p8 y
      rw [if_neg y, if_neg (by decide), if_pos (by rw [z])] at eE
      have e77 : B_R_RangeTellerModel_checkEnd_77 (nI gv) τ1 = some (1, rt_up τ1 0 21 (nI 0)) := by
        unfold B_R_RangeTellerModel_checkEnd_77
        have n3 : τ1 0 21 - 1 = nI 0 := by rw [hm.2.1]; exact nI_pred 0
        rw [rq_put, rq_b, n3, if_pos (by rw [rq_s]; rfl)]
      rw [eR, eE, e77, rq_b2, ck_zok1, rq_b2, ck_zok1] at eR0
      rw [h4] at eC K1
      refine ⟨_, eC, K1, Or.inr ⟨_, _, _, eR0, K2.up (by unfold ck_kR ck_R; omega), hm.pop.kp (fun j => ck_jk (by omega)) (fun c j _ _ => ck_jk (by omega)) (fun _ _ => rfl) (fun _ _ _ _ => rfl), rfl, z, y, z, ?_, ?_, ?_⟩⟩
      · simp [ck_j, rq_if]
      · simp [ck_j, rq_if]
      · simp [ck_j, rq_if]
  · have zc : ¬ nI (ck_h bs hh gv) = nI bs := fun e => z ((nI_eq (by omega) (by omega)).mp e)
    rw [if_neg zc] at eC
    refine ⟨_, eC, ck_jA (((p3.mono (fun c j h => ck_AC h)).up (by unfold ck_kC ck_C; omega)).up (by unfold ck_kC ck_C; omega)), Or.inl ⟨τ1, ?_, K2, by rw [ck_jk (by omega), rq_k (by decide), rq_s]⟩⟩
    have eE2 : M_R_RangeTellerModel_checkEnd τ (nI k) = some (0, τ1) := by
      rw [eE]
      by_cases y : lv = 1 ∧ hh < bs + gv
      · rw [if_pos y, if_pos rfl]
      · rw [if_neg y, if_neg (by decide), if_neg zc]
    rw [eR, eE2, rq_b2, ck_zok0, rq_b2, ck_zok0] at eR0
    exact eR0
end CK9
