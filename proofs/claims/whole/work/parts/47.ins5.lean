/-! reading: one instruction, both sides: the step -/
section RQ7
variable {n i f N : Nat} {b : Nat → Nat} {st : List Nat} {op ar ow en el : Nat → Nat} {σ τ u w : rt_St}
theorem rq_ins (h : rq_RS n i b σ τ) (hD : rq_RD f N st op ar ow en el σ τ) (hNi : N < i) :
    (∃ j σ' τ', j ≤ n ∧ M_C_Reader_readInstruction σ = some (0, σ') ∧ (∀ m, B_R_RangeTellerModel_readFunction_75 (m + 1) (nI f) 0 τ = some τ') ∧ rq_A rq_RC σ σ' ∧ rq_A rq_RR τ τ' ∧ σ' 14 6 = nI j ∧ τ' 0 2 = nI j ∧ τ' 0 3 = 1) ∨
    (∃ e a j σ' τ' st' en' el', e ≤ 1 ∧ i < j ∧ b i < 29 ∧ a < 64 ∧ (1 ≤ b i → b i ≤ 3 → a ≤ 1) ∧ M_C_Reader_readInstruction σ = some (nI e, σ') ∧ (∀ m, B_R_RangeTellerModel_readFunction_75 (m + 1) (nI f) 0 τ = B_R_RangeTellerModel_readFunction_75 m (nI f) (nI e) τ') ∧ rq_A rq_RC σ σ' ∧ rq_A rq_RR τ τ' ∧ rq_RS n j b σ' τ' ∧ rq_RD f (N + 1) st' (rq_U op N (b i)) (rq_U ar N a) (rq_U ow N f) en' el' σ' τ' ∧ rq_Nx (b i) N st st' op en en' el el' e) := by
  have h0 := h
  obtain ⟨hn, hin, a3, a0, a4, a2, a6, ab, hb⟩ := h
  have hD0 := hD
  obtain ⟨hT, d12, d6, d13, d5, d21, ds, dt, dl, dx⟩ := hD
  by_cases c0 : i < n
  · have hN : N < 100 := by omega
    obtain ⟨hb1, hb2, hb3⟩ := hb i c0
    generalize ho : b i = o at hb1 hb2 hb3 ⊢
    -- the reference takes the op
    have eR : ∀ m, B_R_RangeTellerModel_readFunction_75 (m + 1) (nI f) 0 τ = if 29 ≤ nI o then B_R_RangeTellerModel_readFunction_103 (B_R_RangeTellerModel_readFunction_75 m) (nI f) (nI o) 0 (rt_up τ 0 2 (nI (i + 1))) else B_R_RangeTellerModel_readFunction_103 (B_R_RangeTellerModel_readFunction_75 m) (nI f) (nI o) 1 (rt_up τ 0 2 (nI (i + 1))) := by
      intro m
      rw [B_R_RangeTellerModel_readFunction_75, if_pos rfl, rq_take h0 c0, rq_b2, if_pos (by rw [rq_k (by decide)]; exact ab), ho]
    have eC : M_C_Reader_readInstruction σ = if (if o < 29 then (1 : Int32) else 0) = 0 then B_C_Reader_readInstruction_46 σ else if nI o = 4 then (rt_b2 (M_C_Reader_elseFits σ) fun v16 σ15 => if v16 = 0 then B_C_Reader_readInstruction_46 σ15 else B_C_Reader_readInstruction_56 σ15) else B_C_Reader_readInstruction_56 σ := by
      unfold M_C_Reader_readInstruction
      rw [if_neg (show ¬ σ 14 3 ≤ σ 14 4 by rw [a3, a4]; exact nI_ge c0 (by omega)), rq_rd (n := 100) a4 (by omega) (by decide), rq_b, hb2, rq_isop o hb1, rq_b, rq_b]
    have bad : M_C_Reader_readInstruction σ = B_C_Reader_readInstruction_46 σ → (∀ m, B_R_RangeTellerModel_readFunction_75 (m + 1) (nI f) 0 τ = B_R_RangeTellerModel_readFunction_163 (B_R_RangeTellerModel_readFunction_75 m) (nI f) (nI o) 0 (rt_up τ 0 2 (nI (i + 1)))) → (∃ j σ' τ', j ≤ n ∧ M_C_Reader_readInstruction σ = some (0, σ') ∧ (∀ m, B_R_RangeTellerModel_readFunction_75 (m + 1) (nI f) 0 τ = some τ') ∧ rq_A rq_RC σ σ' ∧ rq_A rq_RR τ τ' ∧ σ' 14 6 = nI j ∧ τ' 0 2 = nI j ∧ τ' 0 3 = 1) := by
      intro q1 q2
      refine ⟨i, rt_up σ 14 6 (nI i), rt_up (rt_up (rt_up τ 0 2 (nI (i + 1))) 0 3 1) 0 2 (nI i), hin, ?_, ?_, ?_, ?_, rq_s, rq_s, ?_⟩
      · rw [q1]; unfold B_C_Reader_readInstruction_46; rw [rq_put, rq_b, a4]
      · intro m; rw [q2 m, rq_1630 rq_s]
      · exact rq_A.rf.up (by unfold rq_RC; omega)
      · exact ((rq_A.rf.up (by unfold rq_RR; omega)).up (by unfold rq_RR; omega)).up (by unfold rq_RR; omega)
      · rw [rq_k (by decide), rq_s]
    by_cases c1 : o < 29
    · rw [if_pos c1, if_neg (by decide)] at eC
      have eR : ∀ m, B_R_RangeTellerModel_readFunction_75 (m + 1) (nI f) 0 τ = B_R_RangeTellerModel_readFunction_103 (B_R_RangeTellerModel_readFunction_75 m) (nI f) (nI o) 1 (rt_up τ 0 2 (nI (i + 1))) := fun m => by rw [eR m, if_neg (show ¬ 29 ≤ nI o from nI_ge (b := 29) c1 (by decide))]
      -- it stands: what follows
      have good : M_C_Reader_readInstruction σ = B_C_Reader_readInstruction_56 σ → (∀ m, B_R_RangeTellerModel_readFunction_75 (m + 1) (nI f) 0 τ = B_R_RangeTellerModel_readFunction_163 (B_R_RangeTellerModel_readFunction_75 m) (nI f) (nI o) 1 (rt_up τ 0 2 (nI (i + 1)))) → (o = 4 → rq_fit op el st = true) →
          (∃ j σ' τ', j ≤ n ∧ M_C_Reader_readInstruction σ = some (0, σ') ∧ (∀ m, B_R_RangeTellerModel_readFunction_75 (m + 1) (nI f) 0 τ = some τ') ∧ rq_A rq_RC σ σ' ∧ rq_A rq_RR τ τ' ∧ σ' 14 6 = nI j ∧ τ' 0 2 = nI j ∧ τ' 0 3 = 1) ∨
          (∃ e a j σ' τ' st' en' el', e ≤ 1 ∧ i < j ∧ o < 29 ∧ a < 64 ∧ (1 ≤ o → o ≤ 3 → a ≤ 1) ∧ M_C_Reader_readInstruction σ = some (nI e, σ') ∧ (∀ m, B_R_RangeTellerModel_readFunction_75 (m + 1) (nI f) 0 τ = B_R_RangeTellerModel_readFunction_75 m (nI f) (nI e) τ') ∧ rq_A rq_RC σ σ' ∧ rq_A rq_RR τ τ' ∧ rq_RS n j b σ' τ' ∧ rq_RD f (N + 1) st' (rq_U op N o) (rq_U ar N a) (rq_U ow N f) en' el' σ' τ' ∧ rq_Nx o N st st' op en en' el el' e) := by
        exact fun q1 q2 q3 => rq_good h0 hD0 hNi c0 ho c1 q1 q2 q3
      by_cases c2 : o = 4
      · subst c2
        rw [if_pos (show nI 4 = 4 from rfl), rq_fitC hD0 hN, rq_b2] at eC
        have eR2 : ∀ m, B_R_RangeTellerModel_readFunction_75 (m + 1) (nI f) 0 τ = B_R_RangeTellerModel_readFunction_163 (B_R_RangeTellerModel_readFunction_75 m) (nI f) (nI 4) (if rq_fit op el st = true then 1 else 0) (rt_up τ 0 2 (nI (i + 1))) := fun m => by rw [eR m, rq_fitR hD0 hN]
        by_cases c3 : rq_fit op el st = true
        · rw [if_pos c3, if_neg (by decide)] at eC
          exact good eC (fun m => by rw [eR2 m, if_pos c3]) (fun _ => c3)
        · rw [if_neg c3, if_pos rfl] at eC
          exact Or.inl (bad eC (fun m => by rw [eR2 m, if_neg c3]))
      · have c4 : ¬ nI o = 4 := fun e => c2 ((nI_eq (b := 4) (by omega) (by decide)).mp e)
        rw [if_neg c4] at eC
        refine good eC (fun m => ?_) (fun e => absurd e c2)
        rw [eR m]
        unfold B_R_RangeTellerModel_readFunction_103
        rw [if_neg c4]
    · rw [if_neg c1, if_pos rfl] at eC
      refine Or.inl (bad eC (fun m => ?_))
      rw [eR m, if_pos (show 29 ≤ nI o from nI_le (a := 29) (by omega) (by omega))]
      unfold B_R_RangeTellerModel_readFunction_103
      rw [if_neg (show ¬ nI o = 4 from fun e => absurd ((nI_eq (b := 4) (by omega) (by decide)).mp e) (by omega))]
  · refine Or.inl ⟨n, rt_up σ 14 6 (nI i), rt_up τ 0 3 1, Nat.le_refl _, ?_, ?_, ?_, ?_, ?_, ?_, rq_s⟩
    · unfold M_C_Reader_readInstruction
      rw [if_pos (show σ 14 3 ≤ σ 14 4 by rw [a3, a4]; exact nI_le (by omega) (by omega))]
      unfold B_C_Reader_readInstruction_46
      rw [rq_put, rq_b, a4]
    · intro m
      rw [B_R_RangeTellerModel_readFunction_75, if_pos rfl, rq_takeN h0 c0, rq_b2, if_neg (by rw [rq_s]; decide)]
    · exact rq_A.rf.up (by unfold rq_RC; omega)
    · exact rq_A.rf.up (by unfold rq_RR; omega)
    · rw [rq_s, show i = n by omega]
    · rw [rq_k (by decide), a2, show i = n by omega]
end RQ7
