/-! checking: one instruction. Either both find it wrong, or both go on, with the same frames and height -/
def ck_tk (o : Nat) : Nat := ([0, 0, 0, 0, 0, 0, 0, 0, 0, 0, 1, 3, 0, 1, 1, 1, 2, 0, 1, 2, 2, 2, 2, 2, 2, 2, 2, 0, 1] : List Nat).getD o 0
def ck_gv (o : Nat) : Nat := ([0, 0, 0, 0, 0, 0, 0, 0, 0, 0, 0, 1, 1, 0, 1, 1, 0, 1, 1, 1, 1, 1, 1, 1, 1, 1, 1, 1, 0] : List Nat).getD o 0
theorem ck_tab1 : ∀ o, o < 29 → 10 ≤ o → M_C_Ops_taken (nI o) = some (nI (ck_tk o)) ∧ M_R_RangeTellerModel_takes (nI o) = some (nI (ck_tk o)) ∧ M_C_Ops_given (nI o) = some (nI (ck_gv o)) := by decide +kernel
theorem ck_tab2 : ∀ o, o < 29 → 10 ≤ o → ck_tk o ≤ 3 ∧ ck_gv o ≤ 1 ∧ M_C_Ops_namesLocal (nI o) = some (if 12 ≤ o ∧ o ≤ 14 then 1 else 0) := by decide +kernel
theorem ck_tab3 : ∀ o, o < 29 → 10 ≤ o → ck_gv o = if o = 10 ∨ o = 13 ∨ o = 16 ∨ o = 28 then 0 else 1 := by decide +kernel
theorem ck_tab (o : Nat) (h1 : o < 29) (h2 : 10 ≤ o) : M_C_Ops_taken (nI o) = some (nI (ck_tk o)) ∧ M_R_RangeTellerModel_takes (nI o) = some (nI (ck_tk o)) ∧ M_C_Ops_given (nI o) = some (nI (ck_gv o)) ∧ ck_tk o ≤ 3 ∧ ck_gv o ≤ 1 ∧ M_C_Ops_namesLocal (nI o) = some (if 12 ≤ o ∧ o ≤ 14 then 1 else 0) ∧ (o = 10 ∨ o = 13 ∨ o = 16 ∨ o = 28 → ck_gv o = 0) ∧ (o ≠ 10 → o ≠ 13 → o ≠ 16 → o ≠ 28 → ck_gv o = 1) := by
  obtain ⟨a1, a2, a3⟩ := ck_tab1 o h1 h2
  obtain ⟨b1, b2, b3⟩ := ck_tab2 o h1 h2
  have c := ck_tab3 o h1 h2
  refine ⟨a1, a2, a3, b1, b2, b3, fun h => by rw [c, if_pos h], fun q1 q2 q3 q4 => by rw [c, if_neg (by omega)]⟩
theorem ck_ne {o c : Nat} (h : o ≠ c) (ho : o < 1000) (hc : c < 1000) : ¬ nI o = nI c := fun e => h ((nI_eq (by omega) (by omega)).mp e)
section CK4
variable {N F k hh : Nat} {op ar ow en el pa lo re fs : Nat → Nat} {σ τ : rt_St} {x bs gv lv : Nat} {r : List (Nat × Nat × Nat × Nat)}
theorem ck_65 {o : Nat} (h1 : o < 29) (h2 : 10 ≤ o) : B_R_RangeTellerModel_checkOne_65 (nI o) τ = rt_b2 (M_R_RangeTellerModel_drop τ (nI (ck_tk o))) fun v4 σ3 => if v4 = 0 then some (0, σ3) else B_R_RangeTellerModel_checkOne_116 (nI (ck_gv o)) σ3 := by
  obtain ⟨-, t2, -, -, -, -, t7, t8⟩ := ck_tab o h1 h2
  have a0 : ck_gv o = 0 → B_R_RangeTellerModel_checkOne_93 (nI o) τ = rt_b2 (M_R_RangeTellerModel_drop τ (nI (ck_tk o))) fun v4 σ3 => if v4 = 0 then some (0, σ3) else B_R_RangeTellerModel_checkOne_116 (nI (ck_gv o)) σ3 := fun e => by
    unfold B_R_RangeTellerModel_checkOne_93 B_R_RangeTellerModel_checkOne_94
    rw [t2, rq_b, e]
    rfl
  have a1 : ck_gv o = 1 → B_R_RangeTellerModel_checkOne_94 (nI o) 1 τ = rt_b2 (M_R_RangeTellerModel_drop τ (nI (ck_tk o))) fun v4 σ3 => if v4 = 0 then some (0, σ3) else B_R_RangeTellerModel_checkOne_116 (nI (ck_gv o)) σ3 := fun e => by
    unfold B_R_RangeTellerModel_checkOne_94
    rw [t2, rq_b, e]
    rfl
  unfold B_R_RangeTellerModel_checkOne_65
  by_cases c1 : o = 10
  · rw [if_pos (show nI o = 10 by rw [c1]; rfl)]; exact a0 (t7 (by omega))
  rw [if_neg (show ¬ nI o = 10 from ck_ne c1 (by omega) (by decide))]
  by_cases c2 : o = 13
  · rw [if_pos (show nI o = 13 by rw [c2]; rfl)]; exact a0 (t7 (by omega))
  rw [if_neg (show ¬ nI o = 13 from ck_ne c2 (by omega) (by decide))]
  by_cases c3 : o = 16
  · rw [if_pos (show nI o = 16 by rw [c3]; rfl)]; exact a0 (t7 (by omega))
  rw [if_neg (show ¬ nI o = 16 from ck_ne c3 (by omega) (by decide))]
  by_cases c4 : o = 28
  · rw [if_pos (show nI o = 28 by rw [c4]; rfl)]; exact a0 (t7 (by omega))
  rw [if_neg (show ¬ nI o = 28 from ck_ne c4 (by omega) (by decide))]
  exact a1 (t8 c1 c2 c3 c4)
/-- what a step leaves alone -/
def ck_kC (k : Nat) (c j : Nat) : Prop := ck_C c j ∨ (7 ≤ c ∧ c ≤ 9 ∧ j ≠ k)
def ck_kR (k : Nat) (c j : Nat) : Prop := ck_R c j ∨ (8 ≤ c ∧ c ≤ 10 ∧ j ≠ k)
theorem ck_AC {c j : Nat} (h : ck_kC k c j) : ck_A c j := by unfold ck_kC ck_C at h; unfold ck_A; omega
theorem ck_BR {c j : Nat} (h : ck_kR k c j) : ck_B c j := by unfold ck_kR ck_R at h; unfold ck_B; omega
/-- take some, give some: both sides -/
theorem ck_tg {c g : Nat} (hM : ck_M ((x, bs, gv, lv) :: r) hh σ τ) (hr : r.length < 101) (hb : bs ≤ hh) (hc : c < 1000) (hg : g < 1000) :
    ∃ σ', ((M_C_Checker_take σ (nI c)).bind fun σ3 => (M_C_Checker_give σ3 (nI g)).bind fun σ5 => some σ5) = some σ' ∧ rq_A ck_A σ σ' ∧
      ((∃ τ', (rt_b2 (M_R_RangeTellerModel_drop τ (nI c)) fun v4 σ3 => if v4 = 0 then some (0, σ3) else B_R_RangeTellerModel_checkOne_116 (nI g) σ3) = some (0, τ') ∧ rq_A ck_B τ τ' ∧ σ' 17 6 = 1) ∨
       (∃ τ', (rt_b2 (M_R_RangeTellerModel_drop τ (nI c)) fun v4 σ3 => if v4 = 0 then some (0, σ3) else B_R_RangeTellerModel_checkOne_116 (nI g) σ3) = some (1, τ') ∧ rq_A ck_B τ τ' ∧ ¬ (lv = 1 ∧ hh < bs + c) ∧ ck_h bs hh c + g ≤ 10 ∧ ck_M ((x, bs, gv, lv) :: r) (ck_h bs hh c + g) σ' τ')) := by
  obtain ⟨σ1, τ1, p1, p2, p3, p4, p5, p6, p7, p8⟩ := hM.take hr hb hc
  by_cases w : lv = 1 ∧ hh < bs + c
  · rw [p1, rq_b, p2, rq_b2, if_pos w, if_pos rfl]
    have hh10 : ck_h bs hh c + g < 100000 := by
      have := hM.2.2.2.2.2.2
      unfold ck_h
      by_cases y : bs + c ≤ hh
      · rw [if_pos y]; omega
      · rw [if_neg y]; omega
    rw [ck_giveC p5 hh10, rq_b]
    refine ⟨_, rfl, ?_, Or.inl ⟨τ1, rfl, p4, ?_⟩⟩
    · by_cases y : ck_h bs hh c + g ≤ 10
      · rw [if_pos y]; exact p3.up (by unfold ck_A; omega)
      · rw [if_neg y]; exact (p3.up (by unfold ck_A; omega)).up (by unfold ck_A; omega)
    · by_cases y : ck_h bs hh c + g ≤ 10
      · rw [if_pos y, rq_k (by decide)]; exact p7 w
      · rw [if_neg y, rq_s]
  · rw [p1, rq_b, p2, rq_b2, if_neg w, if_neg (by decide)]
    obtain ⟨σ2, τ2, q1, q2, q3, q4, q5, q6⟩ := (p8 w).give hg
    unfold B_R_RangeTellerModel_checkOne_116
    rw [q1, rq_b, q2, rq_b2]
    refine ⟨σ2, rfl, p3.tr q3, ?_⟩
    by_cases y : ck_h bs hh c + g ≤ 10
    · rw [if_pos y, if_neg (by decide)]
      exact Or.inr ⟨τ2, rfl, p4.tr q4, w, y, q6 y⟩
    · rw [if_neg y, if_pos rfl]
      exact Or.inl ⟨τ2, rfl, p4.tr q4, q5 y⟩
end CK4
