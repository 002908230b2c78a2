/-! reading: an instruction -/
def rq_hA (o : Nat) : Bool := decide ((1 ≤ o ∧ o ≤ 3) ∨ o = 6 ∨ o = 7 ∨ o = 9 ∨ (12 ≤ o ∧ o ≤ 17))
theorem rq_ops : ∀ o, o < 29 → M_C_Ops_hasArgument (nI o) = some (if rq_hA o = true then 1 else 0) ∧ M_R_RangeTellerModel_hasArgument (nI o) = some (if rq_hA o = true then 1 else 0) ∧ M_C_Ops_opens (nI o) = some (if 1 ≤ o ∧ o ≤ 3 then 1 else 0) := by decide +kernel
theorem rq_isop : ∀ o, o < 64 → M_C_Ops_isOp (nI o) = some (if o < 29 then 1 else 0) := by decide +kernel
/-- the argument, if there is one -/
theorem rq_arg {n i o N : Nat} {b : Nat → Nat} {σ τ : rt_St} (h : rq_RS n i b σ τ) (ho : o < 29) (hN : N < 100) (f : Int32) :
    (∃ v j σ' τ', v < 64 ∧ (1 ≤ o → o ≤ 3 → v ≤ 1) ∧ i ≤ j ∧ rq_A rq_SC σ σ' ∧ rq_A rq_SR τ τ' ∧ rq_RS n j b σ' τ' ∧
      ((M_C_Ops_hasArgument (nI o)).bind fun v7 => if v7 = 0 then B_C_Reader_readInstruction_104 (nI o) 0 σ else (M_C_Ops_opens (nI o)).bind fun v12 => if v12 = 0 then B_C_Reader_readInstruction_100 (nI o) 63 0 σ else B_C_Reader_readInstruction_100 (nI o) 1 0 σ) = B_C_Reader_readInstruction_104 (nI o) (nI v) σ' ∧
      (∀ (K : Int32 → Int32 → rt_St → Option rt_St), ((M_R_RangeTellerModel_hasArgument (nI o)).bind fun v12 => if v12 = 0 then B_R_RangeTellerModel_readFunction_255 K f (nI o) (nI N) 0 (nI N) τ else if 4 ≤ nI o then B_R_RangeTellerModel_readFunction_248 K f (nI o) (nI N) 63 0 (nI N) τ else B_R_RangeTellerModel_readFunction_248 K f (nI o) (nI N) 1 0 (nI N) τ) = B_R_RangeTellerModel_readFunction_255 K f (nI o) (nI N) (nI v) (nI N) τ')) ∨
    (∃ j σ' τ', j ≤ n ∧ rq_A rq_SC σ σ' ∧ rq_A (fun c k => rq_SR c k ∧ ¬ (c = 3 ∧ k = N)) τ τ' ∧ σ' 14 6 = nI j ∧ τ' 0 2 = nI j ∧ τ' 0 3 = 1 ∧
      ((M_C_Ops_hasArgument (nI o)).bind fun v7 => if v7 = 0 then B_C_Reader_readInstruction_104 (nI o) 0 σ else (M_C_Ops_opens (nI o)).bind fun v12 => if v12 = 0 then B_C_Reader_readInstruction_100 (nI o) 63 0 σ else B_C_Reader_readInstruction_100 (nI o) 1 0 σ) = some (0, σ') ∧
      (∀ (K : Int32 → Int32 → rt_St → Option rt_St), ((M_R_RangeTellerModel_hasArgument (nI o)).bind fun v12 => if v12 = 0 then B_R_RangeTellerModel_readFunction_255 K f (nI o) (nI N) 0 (nI N) τ else if 4 ≤ nI o then B_R_RangeTellerModel_readFunction_248 K f (nI o) (nI N) 63 0 (nI N) τ else B_R_RangeTellerModel_readFunction_248 K f (nI o) (nI N) 1 0 (nI N) τ) = some τ')) := by
  obtain ⟨e1, e2, e3⟩ := rq_ops o ho
  rw [e1, e2, e3]
  simp only [rq_b]
  by_cases c0 : rq_hA o = true
  · simp only [if_pos c0, if_neg (show ¬ (1 : Int32) = 0 by decide)]
    have key : ∀ hi : Nat, hi < 64 → ((∃ v j σ' τ', 0 ≤ v ∧ v ≤ hi ∧ i < j ∧ M_C_Reader_readNumber σ (nI 0) (nI hi) = some (nI v, σ') ∧ M_R_RangeTellerModel_number τ (nI 0) (nI hi) = some (nI v, τ') ∧ rq_A rq_SC σ σ' ∧ rq_A rq_SR τ τ' ∧ rq_RS n j b σ' τ') ∨ (∃ j w σ' τ', j ≤ n ∧ M_C_Reader_readNumber σ (nI 0) (nI hi) = some (0, σ') ∧ M_R_RangeTellerModel_number τ (nI 0) (nI hi) = some (w, τ') ∧ rq_A rq_SC σ σ' ∧ rq_A rq_SR τ τ' ∧ σ' 14 6 = nI j ∧ τ' 0 2 = nI j ∧ τ' 0 3 = 1)) := fun hi hh => rq_num h (by decide) hh
    have fin : ∀ hi : Nat, hi < 64 → (1 ≤ o → o ≤ 3 → hi ≤ 1) → (∃ v j σ' τ', v < 64 ∧ (1 ≤ o → o ≤ 3 → v ≤ 1) ∧ i ≤ j ∧ rq_A rq_SC σ σ' ∧ rq_A rq_SR τ τ' ∧ rq_RS n j b σ' τ' ∧ B_C_Reader_readInstruction_100 (nI o) (nI hi) 0 σ = B_C_Reader_readInstruction_104 (nI o) (nI v) σ' ∧ ∀ (K : Int32 → Int32 → rt_St → Option rt_St), B_R_RangeTellerModel_readFunction_248 K f (nI o) (nI N) (nI hi) 0 (nI N) τ = B_R_RangeTellerModel_readFunction_255 K f (nI o) (nI N) (nI v) (nI N) τ') ∨ (∃ j σ' τ', j ≤ n ∧ rq_A rq_SC σ σ' ∧ rq_A (fun c k => rq_SR c k ∧ ¬ (c = 3 ∧ k = N)) τ τ' ∧ σ' 14 6 = nI j ∧ τ' 0 2 = nI j ∧ τ' 0 3 = 1 ∧ B_C_Reader_readInstruction_100 (nI o) (nI hi) 0 σ = some (0, σ') ∧ ∀ (K : Int32 → Int32 → rt_St → Option rt_St), B_R_RangeTellerModel_readFunction_248 K f (nI o) (nI N) (nI hi) 0 (nI N) τ = some τ') := by
      intro hi hh hv1
      rcases key hi hh with ⟨v, j, σ', τ', -, h2, h3, h4, h5, h6, h7, h8⟩ | ⟨j, w, σ', τ', h3, h4, h5, h6, h7, h8, h9, h10⟩
      · refine Or.inl ⟨v, j, σ', τ', by omega, fun a1 a2 => Nat.le_trans h2 (hv1 a1 a2), by omega, h6, h7, h8, ?_, ?_⟩
        · unfold B_C_Reader_readInstruction_100
          rw [show (0 : Int32) = nI 0 from rfl, h4, rq_b2]
        · intro K
          unfold B_R_RangeTellerModel_readFunction_248
          rw [show (0 : Int32) = nI 0 from rfl, h5, rq_b2]
      · refine Or.inr ⟨j, σ', rt_up τ' 3 N w, h3, h6, ?_, h8, by rw [rq_c (by decide)]; exact h9, by rw [rq_c (by decide)]; exact h10, ?_, ?_⟩
        · exact (h7.mono (fun c k hs => hs.1)).up (fun hs => hs.2 ⟨rfl, rfl⟩)
        · unfold B_C_Reader_readInstruction_100
          rw [show (0 : Int32) = nI 0 from rfl, h4, rq_b2]
          unfold B_C_Reader_readInstruction_104
          rw [if_neg (by rw [h8]; exact fun e => absurd (congrArg Int32.toInt e) (by rw [nI_toInt (Nat.lt_of_le_of_lt h3 (Nat.lt_of_le_of_lt h.1 (by decide)))]; show ¬ (j : Int) = -3; omega))]
          rfl
        · intro K
          unfold B_R_RangeTellerModel_readFunction_248
          rw [show (0 : Int32) = nI 0 from rfl, h5, rq_b2]
          unfold B_R_RangeTellerModel_readFunction_255
          rw [rq_wr (n := 100) rfl hN (by decide), rq_b, if_neg (by rw [rq_c (by decide), h10]; decide)]
    by_cases c1 : 1 ≤ o ∧ o ≤ 3
    · simp only [if_pos c1, if_neg (show ¬ (1 : Int32) = 0 by decide), if_neg (show ¬ 4 ≤ nI o from nI_ge (b := 4) (by omega) (by decide))]
      exact fin 1 (by decide) (fun _ _ => Nat.le_refl _)
    · simp only [if_neg c1, if_pos (show (0 : Int32) = 0 from rfl), if_pos (show 4 ≤ nI o from nI_le (a := 4) (by
        have := of_decide_eq_true c0
        omega) (by omega))]
      exact fin 63 (by decide) (fun a1 a2 => absurd ⟨a1, a2⟩ c1)
  · simp only [if_neg c0, if_pos (show (0 : Int32) = 0 from rfl)]
    refine Or.inl ⟨0, i, σ, τ, by decide, fun _ _ => Nat.zero_le _, Nat.le_refl _, rq_A.rf, rq_A.rf, h, rfl, fun _ => rfl⟩
