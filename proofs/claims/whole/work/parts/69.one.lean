/-! checking: one turn of the two loops, once the function's frame stands -/
section CKI
variable {N F k hh : Nat} {op ar ow en el pa lo re fs : Nat → Nat} {σ τ : rt_St} {ns : Nat → List Nat} {fr : List (Nat × Nat × Nat × Nat)}
theorem ck_turn (KC KR : Int32 → rt_St → Option (Int32 × rt_St)) (hT : rq_T N op ar ow en el σ τ) (hF : rq_TF F pa lo re fs σ τ) (hN : N ≤ 100) (hF3 : F ≤ 3) (hk : k < N) (hf : ow k < F) (d13 : σ 1 13 = nI F) (d16 : τ 0 16 = nI F) (hM : ck_M fr hh σ τ) (hm : ck_mt (ow k) re ar (ns k) fr hh) (hl : fr.length ≤ k + 1) (hcl : ∀ x ∈ ns k, x < N ∧ en x ≠ 0)
    (hop : 1 ≤ op k → op k ≤ 3 → ar k ≤ 1 ∧ en k ≠ 0) (hel : op k = 4 → ∃ x r, ns k = x :: r) (hfn : op k = 5 → ns k = [] ∨ ∃ x r, ns k = x :: r) :
    ∃ σ', rq_A (ck_kC k) σ σ' ∧
      ((∃ τ', B_C_Checker_firstInvalid_55 KC (nI k) σ = some (nI k, σ') ∧ B_R_RangeTellerModel_check_51 KR (nI k) τ = some (0, rt_up τ' 0 5 (nI k)) ∧ rq_A (fun c j => ck_kR k c j ∧ ¬ (c = 7 ∧ j = k)) τ τ') ∨
       (∃ τ' fr' hh', B_C_Checker_firstInvalid_55 KC (nI k) σ = KC (nI (k + 1)) σ' ∧ B_R_RangeTellerModel_check_51 KR (nI k) τ = KR (nI (k + 1)) τ' ∧ rq_A (fun c j => ck_kR k c j ∧ ¬ (c = 7 ∧ j = k)) τ τ' ∧ τ' 7 k = nI hh ∧ ck_M fr' hh' σ' τ' ∧ ck_D F op ar ow en el pa lo re k fr hh fr' hh' σ' τ')) := by
  have w7 : ∀ c j, ¬ (c = 7 ∧ j = k) → (rt_up τ 7 k (nI hh)) c j = τ c j := fun c j h => by rw [rq_if, if_neg h]
  have hT' : rq_T N op ar ow en el σ (rt_up τ 7 k (nI hh)) := hT.kp (fun _ _ _ _ => rfl) (fun c j x1 x2 => w7 c j (by omega))
  have hF' : rq_TF F pa lo re fs σ (rt_up τ 7 k (nI hh)) := hF.kp (fun _ _ _ _ => rfl) (fun c j x1 x2 => w7 c j (by omega))
  have hM' : ck_M fr hh σ (rt_up τ 7 k (nI hh)) := hM.kp (fun _ => rfl) (fun _ _ _ _ => rfl) (fun j _ => w7 0 j (by omega)) (fun c j x1 x2 => w7 c j (by omega))
  obtain ⟨σ', h1, h2, h3⟩ := ck_all hT' hF' hN hF3 hk hf d13 (by rw [w7 0 16 (by omega)]; exact d16) hM' hm hl hcl hop hel hfn
  have tr : ∀ {v : rt_St}, rq_A (ck_kR k) (rt_up τ 7 k (nI hh)) v → rq_A (fun c j => ck_kR k c j ∧ ¬ (c = 7 ∧ j = k)) τ v := fun h c j hs => by rw [h c j hs.1, w7 c j hs.2]
  refine ⟨σ', h2, ?_⟩
  have eC : B_C_Checker_firstInvalid_55 KC (nI k) σ = if σ' 17 6 = 0 then KC (nI (k + 1)) σ' else some (nI k, σ') := by
    unfold B_C_Checker_firstInvalid_55
    rw [h1, rq_b, nI_1]
  have eR : B_R_RangeTellerModel_check_51 KR (nI k) τ = rt_b2 (M_R_RangeTellerModel_checkOne (rt_up τ 7 k (nI hh)) (nI k)) fun v5 σ4 => if v5 = 0 then (rt_put σ4 0 5 (nI k)).bind fun σ6 => some (0, σ6) else KR (nI k + 1) σ4 := by
    unfold B_R_RangeTellerModel_check_51
    rw [rq_wr (n := 101) rfl (by omega) (by decide), rq_b, hM.2.2.2.1]
  rcases h3 with ⟨τ', a1, a2, a3⟩ | ⟨τ', fr', hh', a1, a2, a3, a4⟩
  · left
    refine ⟨τ', ?_, ?_, tr a2⟩
    · rw [eC, if_neg (by rw [a3]; decide)]
    · rw [eR, a1, rq_b2, if_pos rfl, rq_put, rq_b]
  · right
    refine ⟨τ', fr', hh', ?_, ?_, tr a2, ?_, a3, a4⟩
    · rw [eC, if_pos a3.2.2.2.2.1]
    · rw [eR, a1, rq_b2, if_neg (by decide), nI_1]
    · rw [a2 7 k (by unfold ck_kR ck_R; omega), rq_s]
end CKI
