/-! p1: one call on fresh objects -/
theorem rt_ev {x : Option (Int32 × rt_St)} {r : Int32} (h : x.map (·.1) = some r) : ∃ u, x = some (r, u) := by
  cases x with
  | none => cases h
  | some q => obtain ⟨a, b⟩ := q; cases h; exact ⟨b, rfl⟩
theorem rt_63 (x : Int32) : 64 ≤ x ↔ 63 < x := by
  rw [Int32.le_iff_toInt_le, Int32.lt_iff_toInt_lt]
  show (64 : Int) ≤ x.toInt ↔ (63 : Int) < x.toInt
  omega
theorem rt_p1_load : (∃ u, M_C_RangeTeller_load rtC_0 = some (-1, u)) ∧ ∃ v, M_R_RangeTellerModel_load rtR_0 = some (-1, v) := ⟨rt_ev (by decide +kernel), rt_ev (by decide +kernel)⟩
theorem rt_p1_isC (a : Int32) : M_C_RangeTeller_isInstruction rtC_0 a = some (0, rtC_0) := if_pos rfl
theorem rt_p1_isR (a : Int32) : M_R_RangeTellerModel_isInstruction rtR_0 a = some (0, rtR_0) := if_pos rfl
theorem rt_p1 : rt_Step (fun i σ τ => i = 0 → σ = rtC_0 ∧ τ = rtR_0) 1 := by
  intro i hi σ τ h
  obtain rfl : i = 0 := by omega
  obtain ⟨rfl, rfl⟩ := h rfl
  have no : ∀ u v : rt_St, (0 + 1 = 0 → u = rtC_0 ∧ v = rtR_0) := fun _ _ h => absurd h (by decide)
  refine ⟨fun x => ?_, ?_, ?_, fun x => ?_, fun x y z => ?_, fun x => ?_, fun x => ?_, fun x => ?_, fun x y => ?_, fun x y => ?_, fun x y => ?_, fun x => ?_, fun x y => ?_, no _ _⟩
  · by_cases h1 : x < 0
    · refine ⟨0, rtC_0, rtR_0, ?_, if_pos h1, no _ _⟩
      have e : M_C_Reader_append rtC_0 x = some (0, rtC_0) := if_pos h1
      unfold M_C_RangeTeller_feed
      rw [e]; rfl
    · by_cases h2 : 64 ≤ x
      · refine ⟨0, rtC_0, rtR_0, ?_, ?_, no _ _⟩
        · have e : M_C_Reader_append rtC_0 x = some (0, rtC_0) := (if_neg h1).trans (if_pos h2)
          unfold M_C_RangeTeller_feed
          rw [e]; rfl
        · exact (if_neg h1).trans (if_pos ((rt_63 x).mp h2))
      · refine ⟨1, rt_up (rt_up rtC_0 15 0 x) 14 3 1, rt_up (rt_up rtR_0 1 0 x) 0 0 1, ?_, ?_, no _ _⟩
        · have e : M_C_Reader_append rtC_0 x = some (1, rt_up (rt_up rtC_0 15 0 x) 14 3 1) := (if_neg h1).trans ((if_neg h2).trans rfl)
          unfold M_C_RangeTeller_feed
          rw [e]; rfl
        · exact (if_neg h1).trans ((if_neg (fun h => h2 ((rt_63 x).mpr h))).trans rfl)
  · obtain ⟨⟨u, hu⟩, v, hv⟩ := rt_p1_load
    exact ⟨-1, u, v, hu, hv, no _ _⟩
  · exact ⟨-3, rtC_0, rtR_0, rfl, rfl, no _ _⟩
  · by_cases h1 : x < 0
    · refine ⟨-3, rtC_0, rtR_0, ?_, if_pos h1, no _ _⟩
      have e : M_C_Runner_addInput rtC_0 x = some (-3, rtC_0) := if_pos h1
      unfold M_C_RangeTeller_input
      rw [e]; rfl
    · by_cases h2 : 64 ≤ x
      · refine ⟨-3, rtC_0, rtR_0, ?_, ?_, no _ _⟩
        · have e : M_C_Runner_addInput rtC_0 x = some (-3, rtC_0) := (if_neg h1).trans (if_pos h2)
          unfold M_C_RangeTeller_input
          rw [e]; rfl
        · exact (if_neg h1).trans (if_pos ((rt_63 x).mp h2))
      · refine ⟨1, rt_up (rt_up rtC_0 22 0 x) 21 2 1, rt_up (rt_up rtR_0 19 0 x) 0 27 1, ?_, ?_, no _ _⟩
        · have e : M_C_Runner_addInput rtC_0 x = some (1, rt_up (rt_up rtC_0 22 0 x) 21 2 1) := (if_neg h1).trans ((if_neg h2).trans rfl)
          unfold M_C_RangeTeller_input
          rw [e]; rfl
        · exact (if_neg h1).trans ((if_neg (fun h => h2 ((rt_63 x).mpr h))).trans rfl)
  · exact ⟨-3, rtC_0, rtR_0, if_pos rfl, if_pos rfl, no _ _⟩
  · exact ⟨-3, rtC_0, rtR_0, if_pos rfl, if_pos rfl, no _ _⟩
  · exact ⟨-3, rtC_0, rtR_0, if_pos rfl, if_pos rfl, no _ _⟩
  · exact ⟨-3, rtC_0, rtR_0, if_pos rfl, if_pos rfl, no _ _⟩
  · refine ⟨-3, rtC_0, rtR_0, ?_, ?_, no _ _⟩
    · unfold M_C_RangeTeller_instruction; rw [rt_p1_isC]; rfl
    · unfold M_R_RangeTellerModel_instruction; rw [rt_p1_isR]; rfl
  · refine ⟨-3, rtC_0, rtR_0, ?_, ?_, no _ _⟩
    · unfold M_C_RangeTeller_operand; rw [rt_p1_isC]; rfl
    · unfold M_R_RangeTellerModel_operand; rw [rt_p1_isR]; rfl
  · refine ⟨-3, rtC_0, rtR_0, ?_, ?_, no _ _⟩
    · unfold M_C_RangeTeller_local; rw [rt_p1_isC]; rfl
    · unfold M_R_RangeTellerModel_local; rw [rt_p1_isR]; rfl
  · exact ⟨-3, rtC_0, rtR_0, if_pos rfl, if_pos rfl, no _ _⟩
  · exact ⟨-3, rtC_0, rtR_0, if_pos rfl, if_pos rfl, no _ _⟩
