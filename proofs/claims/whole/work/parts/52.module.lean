/-! reading: a whole module -/
def rq_NC (c k : Nat) : Prop := ¬ (c = 1 ∨ (2 ≤ c ∧ c ≤ 6) ∨ (10 ≤ c ∧ c ≤ 13) ∨ c = 14 ∨ c = 16)
section RQO
variable {σ τ : rt_St}
theorem rq_79 {u : rt_St} : B_C_Reader_readModule_79 u = some (u 14 6, rt_up u 14 3 0) := by
  unfold B_C_Reader_readModule_79
  rw [rq_put, rq_b, rq_k (by decide)]
theorem rq_module (G : rq_G1 σ τ) :
    (∃ j σ' τ', j ≤ 100 ∧ M_C_Reader_readModule σ = some (nI j, σ') ∧ M_R_RangeTellerModel_read τ = some (0, τ') ∧ τ' 0 2 = nI j ∧ σ' 14 3 = 0 ∧ rq_A rq_NC σ σ' ∧ rq_A rq_MR τ τ') ∨
    (∃ N F op ar ow en el pa lo re fs σ' τ', N ≤ 100 ∧ 1 ≤ F ∧ F ≤ 3 ∧ M_C_Reader_readModule σ = some (-3, σ') ∧ M_R_RangeTellerModel_read τ = some (1, τ') ∧ σ' 14 3 = 0 ∧ rq_A rq_NC σ σ' ∧ rq_A rq_MR τ τ' ∧ rq_T N op ar ow en el σ' τ' ∧ σ' 1 12 = nI N ∧ τ' 0 6 = nI N ∧ σ' 1 13 = nI F ∧ τ' 0 16 = nI F ∧ rq_TF F pa lo re fs σ' τ' ∧ rq_Mo F N fs op ar ow en el) := by
  obtain ⟨n, hn, h1, h2, h3⟩ := G
  have hS : rq_RS n 0 (fun j => (σ 15 j).toNatClampNeg) (rt_up (rt_up (rt_up (rt_up σ 1 12 0) 1 13 0) 14 4 0) 14 6 (-3)) (rt_up (rt_up (rt_up τ 0 2 0) 0 3 0) 0 6 0) := by
    refine ⟨hn, Nat.zero_le _, by simpa [rq_if] using h1, by simpa [rq_if] using h2, by simp [rq_if]; rfl, by simp [rq_if]; rfl, by simp [rq_if], by simp [rq_if], fun j hj => ?_⟩
    obtain ⟨b, hb, q1, q2⟩ := h3 j hj
    have e : (σ 15 j).toNatClampNeg = b := by rw [q1]; exact nI_clamp (by omega)
    dsimp only
    rw [e]
    exact ⟨hb, by simpa [rq_if] using q1, by simpa [rq_if] using q2⟩
  have f1 : rq_A rq_MC σ (rt_up (rt_up (rt_up (rt_up σ 1 12 0) 1 13 0) 14 4 0) 14 6 (-3)) := (((rq_A.rf.up (by unfold rq_MC; omega)).up (by unfold rq_MC; omega)).up (by unfold rq_MC; omega)).up (by unfold rq_MC; omega)
  have f2 : rq_A rq_MR τ (rt_up (rt_up (rt_up τ 0 2 0) 0 3 0) 0 6 0) := ((rq_A.rf.up (by unfold rq_MR; omega)).up (by unfold rq_MR; omega)).up (by unfold rq_MR; omega)
  have tC : ∀ {u v : rt_St}, rq_A rq_MC σ u → rq_A rq_SC u v → rq_A rq_MC σ v := fun h1 h2 => h1.tr (h2.mono (fun c k hs => rq_mcS hs))
  have tR : ∀ {u v : rt_St}, rq_A rq_MR τ u → rq_A rq_SR u v → rq_A rq_MR τ v := fun h1 h2 => h1.tr (h2.mono (fun c k hs => rq_mrS hs))
  have nC : ∀ {u : rt_St} {x : Int32}, rq_A rq_MC σ u → rq_A rq_NC σ (rt_up u 14 3 x) := fun h => (h.mono (fun c k hs => by unfold rq_NC at hs; unfold rq_MC; omega)).up (by unfold rq_NC; omega)
  have eC : M_C_Reader_readModule σ = rt_b2 (M_C_Reader_readNumber (rt_up (rt_up (rt_up (rt_up σ 1 12 0) 1 13 0) 14 4 0) 14 6 (-3)) (nI 1) (nI 3)) fun v5 σ4 => B_C_Reader_readModule_27 FU v5 0 σ4 := by
    unfold M_C_Reader_readModule M_C_Program_clear
    rfl
  have eR : M_R_RangeTellerModel_read τ = rt_b2 (M_R_RangeTellerModel_number (rt_up (rt_up (rt_up τ 0 2 0) 0 3 0) 0 6 0) (nI 1) (nI 3)) fun v5 σ4 => (rt_put σ4 0 16 v5).bind fun σ6 => B_R_RangeTellerModel_read_27 FU 0 σ6 := by
    unfold M_R_RangeTellerModel_read
    rfl
  -- a fault, as it is told at the end
  have bad : ∀ (j : Nat) (σ' τ' : rt_St), j ≤ n → M_C_Reader_readModule σ = B_C_Reader_readModule_51 σ' → M_R_RangeTellerModel_read τ = B_R_RangeTellerModel_read_53 τ' → rq_A rq_MC σ σ' → rq_A rq_MR τ τ' → σ' 14 6 = nI j → τ' 0 2 = nI j → τ' 0 3 = 1 → (∃ j σ' τ', j ≤ 100 ∧ M_C_Reader_readModule σ = some (nI j, σ') ∧ M_R_RangeTellerModel_read τ = some (0, τ') ∧ τ' 0 2 = nI j ∧ σ' 14 3 = 0 ∧ rq_A rq_NC σ σ' ∧ rq_A rq_MR τ τ') := by
    intro j σ' τ' q1 q2 q3 q4 q5 q6 q7 q8
    refine ⟨j, rt_up σ' 14 3 0, τ', by omega, ?_, ?_, q7, rq_s, nC q4, q5⟩
    · rw [q2]; unfold B_C_Reader_readModule_51
      rw [if_neg (by rw [q6]; exact rq_n3 (by omega)), rq_79, q6]
    · rw [q3]; unfold B_R_RangeTellerModel_read_53
      rw [if_neg (by rw [q8]; decide)]
      unfold B_R_RangeTellerModel_read_76
      rw [if_neg (by rw [q8]; decide)]
  rcases rq_num (lo := 1) (hi := 3) hS (by decide) (by decide) with ⟨F, i, σ1, τ1, p1, p2, p3, p4, p5, p6, p7, p8⟩ | ⟨j, w0, σ1, τ1, p1, p4, p5, p6, p7, p8, p9, p10⟩
  · rw [p4, rq_b2] at eC
    rw [p5, rq_b2, rq_put, rq_b] at eR
    have r1 : rq_RS n i (fun j => (σ 15 j).toNatClampNeg) σ1 (rt_up τ1 0 16 (nI F)) := p8.kp (fun _ _ => rfl) (fun _ => rfl) (fun k hk => rq_k (by omega)) (fun _ => rq_c (by decide))
    have g12 : σ1 1 12 = nI 0 := by rw [p6 1 12 (by unfold rq_SC; omega)]; simp [rq_if]; rfl
    have g13 : σ1 1 13 = nI 0 := by rw [p6 1 13 (by unfold rq_SC; omega)]; simp [rq_if]; rfl
    have w6 : (rt_up τ1 0 16 (nI F)) 0 6 = nI 0 := by rw [rq_k (by decide), p7 0 6 (by unfold rq_SR; omega)]; simp [rq_if]; rfl
    rcases rq_mloop (n := n) (F := F) (by omega) F 0 i 0 id id id id id id id id id σ1 (rt_up τ1 0 16 (nI F)) (by omega) r1 (fun k hk => absurd hk (by omega)) g12 w6 g13 rq_s (fun g hg => absurd hg (by omega)) ⟨fun _ => rfl, fun h => absurd h (by omega), fun g hg => absurd hg (by omega)⟩ (by omega) FU FU (by show F + 1 ≤ 2000000; omega) (by show F + 1 ≤ 2000000; omega) with ⟨j, σ', τ', h1, h2, h3, h4, h5, h6, h7, h8⟩ | ⟨i', N', op', ar', ow', en', el', pa', lo', re', fs', σ', τ', h1, h2, h3, h4, h5, h6, h7, h8, h9, h10, h11, h12, h13⟩
    · exact Or.inl (bad j σ' τ' h1 (eC.trans h2) (eR.trans h3) ((tC f1 p6).tr h4) (((tR f2 p7).up (by unfold rq_MR; omega)).tr h5) h6 h7 h8)
    · have F1 : rq_A rq_MC σ σ' := (tC f1 p6).tr h3
      have F2 : rq_A rq_MR τ τ' := ((tR f2 p7).up (by unfold rq_MR; omega)).tr h4
      obtain ⟨k1, k2, k3, k4, k5, k6, k7, k8, k9⟩ := h5
      have eC := eC.trans h1
      have eR := eR.trans h2
      unfold B_C_Reader_readModule_51 at eC
      unfold B_R_RangeTellerModel_read_53 at eR
      rw [if_pos k7] at eC
      rw [if_pos k8] at eR
      by_cases c : i' = n
      · rw [if_pos (show σ' 14 3 ≤ σ' 14 4 by rw [k3, k5]; exact nI_le (by omega) (by omega)), rq_79, k7] at eC
        rw [if_pos (show τ' 0 0 ≤ τ' 0 2 by rw [k4, k6]; exact nI_le (by omega) (by omega))] at eR
        unfold B_R_RangeTellerModel_read_76 at eR
        rw [if_pos k8] at eR
        refine Or.inr ⟨N', F, op', ar', ow', en', el', pa', lo', re', fs', rt_up σ' 14 3 0, τ', by omega, p1, p2, eC, eR, rq_s, nC F1, F2, h6.kp (fun c k a1 a2 => rq_c (by omega)) (fun _ _ _ _ => rfl), by rw [rq_c (by decide)]; exact h7, h8, by rw [rq_c (by decide)]; exact h9, h10, h11.kp (fun c k a1 a2 => rq_c (by omega)) (fun _ _ _ _ => rfl), h12⟩
      · rw [if_neg (show ¬ σ' 14 3 ≤ σ' 14 4 by rw [k3, k5]; exact nI_ge (by omega) (by omega)), rq_put, rq_b, rq_79, rq_s, k5] at eC
        rw [if_neg (show ¬ τ' 0 0 ≤ τ' 0 2 by rw [k4, k6]; exact nI_ge (by omega) (by omega)), rq_put, rq_b] at eR
        unfold B_R_RangeTellerModel_read_76 at eR
        rw [if_neg (by rw [rq_s]; decide)] at eR
        exact Or.inl ⟨i', _, _, by omega, eC, eR, by rw [rq_k (by decide)]; exact k6, rq_s, nC (F1.up (by unfold rq_MC; omega)), F2.up (by unfold rq_MR; omega)⟩
  · rw [p4, rq_b2] at eC
    rw [p5, rq_b2, rq_put, rq_b] at eR
    have eC2 : B_C_Reader_readModule_27 FU 0 0 σ1 = B_C_Reader_readModule_51 σ1 := by
      show B_C_Reader_readModule_27 (1999999 + 1) 0 0 σ1 = _
      rw [B_C_Reader_readModule_27, if_pos (Int32.le_refl _)]
    have eR2 : B_R_RangeTellerModel_read_27 FU 0 (rt_up τ1 0 16 w0) = B_R_RangeTellerModel_read_53 (rt_up τ1 0 16 w0) := by
      show B_R_RangeTellerModel_read_27 (1999999 + 1) 0 (rt_up τ1 0 16 w0) = _
      rw [B_R_RangeTellerModel_read_27]
      by_cases c : (rt_up τ1 0 16 w0) 0 16 ≤ 0
      · rw [if_pos c]
      · rw [if_neg c, if_neg (by rw [rq_k (by decide), p10]; decide)]
    exact Or.inl (bad j σ1 (rt_up τ1 0 16 w0) p1 (eC.trans eC2) (eR.trans eR2) (tC f1 p6) ((tR f2 p7).up (by unfold rq_MR; omega)) p8 (by rw [rq_k (by decide)]; exact p9) (by rw [rq_k (by decide)]; exact p10))
end RQO
