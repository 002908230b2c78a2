/-! checking: a whole function, from its first instruction -/
section CKK
variable {N F s0 N' g : Nat} {op ar ow en el pa lo re fs : Nat → Nat} {σ τ : rt_St}
theorem ck_fun (hN : N ≤ 100) (hF3 : F ≤ 3) (hN' : N' ≤ N) (hg : g < F) (hfs : fs g = s0) (hFn : rq_Fn g s0 N' op ar ow en el) (hG : ck_G N F op ar ow en el pa lo re fs σ τ) (h6 : σ 17 6 = 0) (mC mR : Nat) (hmC : N' - s0 ≤ mC) (hmR : N' - s0 ≤ mR) :
    (∃ j σ' τ', s0 ≤ j ∧ j < N' ∧ B_C_Checker_firstInvalid_7 mC (nI s0) σ = some (nI j, σ') ∧ B_R_RangeTellerModel_check_2 mR (nI s0) τ = some (0, rt_up τ' 0 5 (nI j)) ∧ rq_A (ck_X s0) σ σ' ∧ rq_A (ck_Y s0) τ τ') ∨
    (∃ σ' τ' ns frs hs', B_C_Checker_firstInvalid_7 mC (nI s0) σ = B_C_Checker_firstInvalid_7 (mC - (N' - s0)) (nI N') σ' ∧ B_R_RangeTellerModel_check_2 mR (nI s0) τ = B_R_RangeTellerModel_check_2 (mR - (N' - s0)) (nI N') τ' ∧ rq_A (ck_X s0) σ σ' ∧ rq_A (ck_Y s0) τ τ' ∧ frs s0 = [(0, 0, re g, 1)] ∧ hs' s0 = 0 ∧ ck_H F op ar ow en el pa lo re frs hs' s0 N' σ' τ' ∧ (∀ j, s0 ≤ j → j < N' → ck_mt g re ar (ns j) (frs j) (hs' j)) ∧ (ns s0 = [] ∧ ns (N' - 1) = [] ∧ ∀ k, s0 ≤ k → k + 1 < N' → rq_St ns op ar en el k) ∧ σ' 17 6 = 0) := by
  obtain ⟨ns, n1, n2, n3, n4, n5, n6, n7, n8⟩ := hFn
  have os : ow s0 = g := by
    by_cases c : s0 + 1 < N'
    · exact (n6 s0 (Nat.le_refl _) c).2
    · rw [show s0 = N' - 1 by omega]; exact n5
  obtain ⟨⟨-, -, s4, -, -⟩, ⟨-, -, t4, -, -⟩, -⟩ := hG.1 s0 (by omega)
  obtain ⟨f1, -, -, f4, g1, -, -, g4, -, -, b3⟩ := hG.2.1 g hg
  obtain ⟨mC, rfl⟩ : ∃ m, mC = m + 1 := ⟨mC - 1, by omega⟩
  obtain ⟨mR, rfl⟩ : ∃ m, mR = m + 1 := ⟨mR - 1, by omega⟩
  have hM0 : ck_M [] 0 (rt_up (rt_up σ 17 4 (-1)) 17 5 0) (rt_up (rt_up τ 0 21 0) 0 26 0) := by
    refine ⟨?_, ?_, ?_, ?_, ?_, trivial, by decide⟩
    · rw [rq_k (by decide), rq_s]; rfl
    · rw [rq_k (by decide), rq_s]; rfl
    · rw [rq_s]; rfl
    · rw [rq_s]; rfl
    · rw [rq_k (by decide), rq_k (by decide)]; exact h6
  have hM := hM0.opn (x := 0) (gv := re g) b3
  have eC : B_C_Checker_firstInvalid_7 (mC + 1) (nI s0) σ = B_C_Checker_firstInvalid_55 (B_C_Checker_firstInvalid_7 mC) (nI s0) (ck_oC (rt_up (rt_up σ 17 4 (-1)) 17 5 0) 0 0 (ck_o (-3) 0)) := by
    rw [B_C_Checker_firstInvalid_7, if_neg (by rw [hG.2.2.1]; exact nI_ge (by omega) (by omega)), rq_rd (n := 100) rfl (by omega) (by decide), rq_b, s4, os, rq_rd (n := 3) rfl (by omega) (by decide), rq_b, f1, hfs, if_pos rfl, rq_put, rq_b, rq_put, rq_b]
    show ((M_C_Checker_open (rt_up (rt_up σ 17 4 (-1)) 17 5 0) (-3)).bind _) = _
    rw [ck_openC (L := 0) (hh := 0) hM0.1 hM0.2.2.1 (by decide), rq_b]
    rfl
  have eR : B_R_RangeTellerModel_check_2 (mR + 1) (nI s0) τ = B_R_RangeTellerModel_check_51 (B_R_RangeTellerModel_check_2 mR) (nI s0) (ck_oR (rt_up (rt_up τ 0 21 0) 0 26 0) 0 0 (ck_o (-1) 0) (nI (re g))) := by
    have e4 : (rt_up (rt_up τ 0 21 0) 0 26 0) 4 s0 = nI g := by rw [rq_c (by decide), rq_c (by decide), t4, os]
    have e13 : (rt_up (rt_up τ 0 21 0) 0 26 0) 13 g = nI (re g) := by rw [rq_c (by decide), rq_c (by decide)]; exact g4
    rw [B_R_RangeTellerModel_check_2, if_neg (by rw [hG.2.2.2.1]; exact nI_ge (by omega) (by omega)), rq_rd (n := 100) rfl (by omega) (by decide), rq_b, t4, os, rq_rd (n := 3) rfl (by omega) (by decide), rq_b, g1, hfs, if_pos rfl, rq_put, rq_b, rq_put, rq_b, rq_rd (n := 100) rfl (by omega) (by decide), rq_b, e4, rq_rd (n := 3) rfl (by omega) (by decide), rq_b, e13]
    show ((M_R_RangeTellerModel_open (rt_up (rt_up τ 0 21 0) 0 26 0) (-1) (nI (re g))).bind _) = _
    rw [ck_openR (L := 0) (hh := 0) hM0.2.1 hM0.2.2.2.1 (by decide), rq_b]
    rfl
  have A0 : rq_A (ck_X s0) σ (ck_oC (rt_up (rt_up σ 17 4 (-1)) 17 5 0) 0 0 (ck_o (-3) 0)) := (((((rq_A.rf.up (by unfold ck_X ck_C; omega)).up (by unfold ck_X ck_C; omega)).up (by unfold ck_X ck_C; omega)).up (by unfold ck_X ck_C; omega)).up (by unfold ck_X ck_C; omega)).up (by unfold ck_X ck_C; omega)
  have B0 : rq_A (ck_Y s0) τ (ck_oR (rt_up (rt_up τ 0 21 0) 0 26 0) 0 0 (ck_o (-1) 0) (nI (re g))) := ((((((rq_A.rf.up (by unfold ck_Y ck_R; omega)).up (by unfold ck_Y ck_R; omega)).up (by unfold ck_Y ck_R; omega)).up (by unfold ck_Y ck_R; omega)).up (by unfold ck_Y ck_R; omega)).up (by unfold ck_Y ck_R; omega)).up (by unfold ck_Y ck_R; omega)
  have hG' := hG.kp (u := ck_oC (rt_up (rt_up σ 17 4 (-1)) 17 5 0) 0 0 (ck_o (-3) 0)) (w := ck_oR (rt_up (rt_up τ 0 21 0) 0 26 0) 0 0 (ck_o (-1) 0) (nI (re g))) (fun c j h => A0 c j (by unfold ck_X ck_C; omega)) (fun c j h => B0 c j (by unfold ck_Y ck_R; omega))
  have hm : ck_mt g re ar (ns s0) [(0, 0, re g, 1)] 0 := by rw [n2]; exact ⟨1, rfl⟩
  rcases ck_floop hN hF3 hN' hg n6 n3 n4 n5 (fun k h1 h2 x hx => ((n7 k h1 h2).2 x hx).2.1) hfs (N' - 1 - s0) s0 0 [(0, 0, re g, 1)] _ _ (B_C_Checker_firstInvalid_7 mC) (B_R_RangeTellerModel_check_2 mR) mC mR (by omega) (Nat.le_refl _) (by omega) (by omega) hG' hM hm (by simp) with ⟨j, σ2, τ2, q1, q2, q3, q4, q5, q6⟩ | ⟨σ2, τ2, frs, hs', q1, q2, q3, q4, q5, q6, q7, q8, q9⟩
  · exact Or.inl ⟨j, σ2, τ2, q1, q2, eC.trans q3, eR.trans q4, A0.tr q5, B0.tr q6⟩
  · refine Or.inr ⟨σ2, τ2, ns, frs, hs', ?_, ?_, A0.tr q3, B0.tr q4, q5, q6, q7, q8, ⟨n2, n3, fun k h1 h2 => (n6 k h1 h2).1⟩, q9⟩
    · rw [show mC + 1 - (N' - s0) = mC - (N' - 1 - s0) by omega]; exact eC.trans q1
    · rw [show mR + 1 - (N' - s0) = mR - (N' - 1 - s0) by omega]; exact eR.trans q2
end CKK
