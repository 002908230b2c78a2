/-! checking: what both answer -/
section CKM
variable {N F : Nat} {op ar ow en el pa lo re fs : Nat → Nat} {σ τ : rt_St}
theorem ck_check (hN : N ≤ 100) (hF1 : 1 ≤ F) (hF3 : F ≤ 3) (hMo : rq_Mo F N fs op ar ow en el) (hG : ck_G N F op ar ow en el pa lo re fs σ τ) :
    (∃ j σ' τ', j < N ∧ M_C_Checker_firstInvalid σ = some (nI j, σ') ∧ M_R_RangeTellerModel_check τ = some (0, rt_up τ' 0 5 (nI j)) ∧ rq_A (ck_X 0) σ σ' ∧ rq_A (ck_Y 0) τ τ') ∨
    (∃ σ' τ', M_C_Checker_firstInvalid σ = some (-3, σ') ∧ M_R_RangeTellerModel_check τ = some (1, τ') ∧ rq_A (ck_X 0) σ σ' ∧ rq_A (ck_Y 0) τ τ' ∧ ∀ h, h < F → ck_Fh F op ar ow en el pa lo re h (fs h) (if h + 1 < F then fs (h + 1) else N) σ' τ') := by
  have eC : M_C_Checker_firstInvalid σ = B_C_Checker_firstInvalid_7 FU 0 (rt_up σ 17 6 0) := by
    unfold M_C_Checker_firstInvalid
    rw [rq_put, rq_b]
  have eR : M_R_RangeTellerModel_check τ = B_R_RangeTellerModel_check_2 FU 0 τ := rfl
  have f1 : rq_A (ck_X 0) σ (rt_up σ 17 6 0) := rq_A.rf.up (by unfold ck_X ck_C; omega)
  have hG' : ck_G N F op ar ow en el pa lo re fs (rt_up σ 17 6 0) τ := hG.kp (fun c j h => rq_c (by omega)) (fun _ _ _ => rfl)
  have e0 : (if 0 < F then fs 0 else N) = 0 := by rw [if_pos (by omega)]; exact hMo.2.1 (by omega)
  have big : N - (if 0 < F then fs 0 else N) + 1 ≤ FU := by rw [e0]; show N - 0 + 1 ≤ 2000000; omega
  have h := ck_mods hN hF3 hMo F 0 (rt_up σ 17 6 0) τ FU FU (by omega) big big hG' rq_s (fun h hh => absurd hh (by omega))
  rw [e0] at h
  rcases h with ⟨j, σ', τ', a1, a2, a3, a4, a5⟩ | ⟨σ', τ', a2, a3, a4, a5, a6⟩
  · exact Or.inl ⟨j, σ', τ', a1, eC.trans a2, eR.trans a3, f1.tr a4, a5⟩
  · exact Or.inr ⟨σ', τ', eC.trans a2, eR.trans a3, f1.tr a4, a5, a6⟩
end CKM
