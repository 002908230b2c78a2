/-! checking: the instructions of a function, with what was found at each of them -/
theorem ck_D.kp {F k hh hh' : Nat} {op ar ow en el pa lo re : Nat → Nat} {fr fr' : List (Nat × Nat × Nat × Nat)} {σ τ u w : rt_St} (h : ck_D F op ar ow en el pa lo re k fr hh fr' hh' σ τ) (h1 : ∀ c, 7 ≤ c → c ≤ 9 → u c k = σ c k) (h2 : ∀ c, 8 ≤ c → c ≤ 10 → w c k = τ c k) : ck_D F op ar ow en el pa lo re k fr hh fr' hh' u w := by
  unfold ck_D at h ⊢
  rw [h1 7 (by decide) (by decide), h1 8 (by decide) (by decide), h1 9 (by decide) (by decide), h2 8 (by decide) (by decide), h2 9 (by decide) (by decide), h2 10 (by decide) (by decide)]
  exact h
def ck_H (F : Nat) (op ar ow en el pa lo re : Nat → Nat) (frs : Nat → List (Nat × Nat × Nat × Nat)) (hs : Nat → Nat) (a b : Nat) (σ τ : rt_St) : Prop := ∀ j, a ≤ j → j < b → ck_D F op ar ow en el pa lo re j (frs j) (hs j) (frs (j + 1)) (hs (j + 1)) σ τ ∧ τ 7 j = nI (hs j) ∧ hs j ≤ 10
/-- what stays through the whole check -/
def ck_G (N F : Nat) (op ar ow en el pa lo re fs : Nat → Nat) (σ τ : rt_St) : Prop := rq_T N op ar ow en el σ τ ∧ rq_TF F pa lo re fs σ τ ∧ σ 1 12 = nI N ∧ τ 0 6 = nI N ∧ σ 1 13 = nI F ∧ τ 0 16 = nI F
def ck_X (a : Nat) (c j : Nat) : Prop := ck_C c j ∨ (7 ≤ c ∧ c ≤ 9 ∧ j < a)
def ck_Y (a : Nat) (c j : Nat) : Prop := (ck_R c j ∧ c ≠ 7) ∨ (7 ≤ c ∧ c ≤ 10 ∧ j < a)
section CKJ
variable {N F s0 N' g : Nat} {op ar ow en el pa lo re fs : Nat → Nat} {ns : Nat → List Nat}
theorem ck_G.kp {σ τ u w : rt_St} (h : ck_G N F op ar ow en el pa lo re fs σ τ) (h1 : ∀ c j, (c = 1 ∨ (2 ≤ c ∧ c ≤ 6) ∨ (10 ≤ c ∧ c ≤ 13)) → u c j = σ c j) (h2 : ∀ c j, ((c = 0 ∧ (j = 6 ∨ j = 16)) ∨ (2 ≤ c ∧ c ≤ 6) ∨ (11 ≤ c ∧ c ≤ 14)) → w c j = τ c j) : ck_G N F op ar ow en el pa lo re fs u w := by
  obtain ⟨a1, a2, a3, a4, a5, a6⟩ := h
  exact ⟨a1.kp (fun c j x1 x2 => h1 c j (by omega)) (fun c j x1 x2 => h2 c j (by omega)), a2.kp (fun c j x1 x2 => h1 c j (by omega)) (fun c j x1 x2 => h2 c j (by omega)), by rw [h1 1 12 (by omega)]; exact a3, by rw [h2 0 6 (by omega)]; exact a4, by rw [h1 1 13 (by omega)]; exact a5, by rw [h2 0 16 (by omega)]; exact a6⟩
/-- from an instruction on, the function's frame standing -/
theorem ck_floop (hN : N ≤ 100) (hF3 : F ≤ 3) (hN' : N' ≤ N) (hg : g < F) (hs : ∀ k, s0 ≤ k → k + 1 < N' → rq_St ns op ar en el k ∧ ow k = g) (hE : ns (N' - 1) = []) (hE5 : op (N' - 1) = 5) (hEo : ow (N' - 1) = g) (hmem : ∀ k, s0 ≤ k → k < N' → ∀ x ∈ ns k, x < k) (hfs : fs g = s0) :
    ∀ (d k hh : Nat) (fr : List (Nat × Nat × Nat × Nat)) (σ τ : rt_St) (KC KR : Int32 → rt_St → Option (Int32 × rt_St)) (mC mR : Nat), k + d + 1 = N' → s0 ≤ k → d ≤ mC → d ≤ mR → ck_G N F op ar ow en el pa lo re fs σ τ → ck_M fr hh σ τ → ck_mt g re ar (ns k) fr hh → fr.length ≤ k + 1 →
      (∃ j σ' τ', s0 ≤ j ∧ j < N' ∧ B_C_Checker_firstInvalid_55 (B_C_Checker_firstInvalid_7 mC) (nI k) σ = some (nI j, σ') ∧ B_R_RangeTellerModel_check_51 (B_R_RangeTellerModel_check_2 mR) (nI k) τ = some (0, rt_up τ' 0 5 (nI j)) ∧ rq_A (ck_X k) σ σ' ∧ rq_A (ck_Y k) τ τ') ∨
      (∃ σ' τ' frs hs', B_C_Checker_firstInvalid_55 (B_C_Checker_firstInvalid_7 mC) (nI k) σ = B_C_Checker_firstInvalid_7 (mC - d) (nI N') σ' ∧ B_R_RangeTellerModel_check_51 (B_R_RangeTellerModel_check_2 mR) (nI k) τ = B_R_RangeTellerModel_check_2 (mR - d) (nI N') τ' ∧ rq_A (ck_X k) σ σ' ∧ rq_A (ck_Y k) τ τ' ∧ frs k = fr ∧ hs' k = hh ∧ ck_H F op ar ow en el pa lo re frs hs' k N' σ' τ' ∧ (∀ j, k ≤ j → j < N' → ck_mt g re ar (ns j) (frs j) (hs' j)) ∧ σ' 17 6 = 0) := by
  have cl : ∀ k, s0 ≤ k → k < N' → ∀ x ∈ ns k, x < N ∧ en x ≠ 0 := fun k h1 h2 x hx => by
    obtain ⟨e, e1, e2, e3, e4⟩ := rq_closed hs hE (N' - 1 - k) k (by omega) h1 hx
    have := hmem k h1 h2 x hx
    exact ⟨by omega, by omega⟩
  have own : ∀ k, s0 ≤ k → k < N' → ow k = g := fun k h1 h2 => by
    by_cases c : k + 1 < N'
    · exact (hs k h1 c).2
    · rw [show k = N' - 1 by omega]; exact hEo
  have opn : ∀ k, s0 ≤ k → k < N' → (1 ≤ op k → op k ≤ 3 → ar k ≤ 1 ∧ en k ≠ 0) ∧ (op k = 4 → ∃ x r, ns k = x :: r) ∧ (op k = 5 → ns k = [] ∨ ∃ x r, ns k = x :: r) := fun k h1 h2 => by
    refine ⟨fun q1 q2 => ?_, fun q => ?_, fun q => ?_⟩
    · have c : k + 1 < N' := by
        by_cases c : k + 1 < N'
        · exact c
        · have e : k = N' - 1 := by omega
          rw [e, hE5] at q2; omega
      have st := (hs k h1 c).1.1 q1 q2
      exact ⟨st.2, (cl (k + 1) (by omega) c k (by rw [st.1]; exact List.mem_cons_self)).2⟩
    · have c : k + 1 < N' := by
        by_cases c : k + 1 < N'
        · exact c
        · have e : k = N' - 1 := by omega
          rw [e, hE5] at q; omega
      obtain ⟨x, r, q1, -⟩ := (hs k h1 c).1.2.1 q
      exact ⟨x, r, q1⟩
    · cases h : ns k with
      | nil => exact Or.inl rfl
      | cons x r => exact Or.inr ⟨x, r, rfl⟩
  intro d
  induction d with
  | zero =>
    intro k hh fr σ τ KC KR mC mR hd hk0 hmC hmR hG hM hm hl
    have e : k = N' - 1 := by omega
    have ok := own k hk0 (by omega)
    obtain ⟨o1, o2, o3⟩ := opn k hk0 (by omega)
    obtain ⟨σ', a1, a2⟩ := ck_turn (ns := ns) (B_C_Checker_firstInvalid_7 mC) (B_R_RangeTellerModel_check_2 mR) hG.1 hG.2.1 hN hF3 (by omega) (by rw [ok]; exact hg) hG.2.2.2.2.1 hG.2.2.2.2.2 hM (by rw [ok]; exact hm) hl (cl k hk0 (by omega)) o1 o2 o3
    have A1 : rq_A (ck_X k) σ σ' := a1.mono (fun c j h => by unfold ck_X ck_C at h; unfold ck_kC ck_C; omega)
    rcases a2 with ⟨τ', b1, b2, b3⟩ | ⟨τ', fr', hh', b1, b2, b3, b4, b5, b6⟩
    · exact Or.inl ⟨k, σ', τ', hk0, by omega, b1, b2, A1, b3.mono (fun c j h => by unfold ck_Y ck_R at h; unfold ck_kR ck_R; omega)⟩
    · refine Or.inr ⟨σ', τ', fun j => if j = k then fr else fr', fun j => if j = k then hh else hh', ?_, ?_, A1, b3.mono (fun c j h => by unfold ck_Y ck_R at h; unfold ck_kR ck_R; omega), if_pos rfl, if_pos rfl, fun j j1 j2 => ?_, fun j j1 j2 => ?_, b5.2.2.2.2.1⟩
      · rw [b1, show k + 1 = N' by omega]; rfl
      · rw [b2, show k + 1 = N' by omega]; rfl
      · have ej : j = k := by omega
        subst ej
        dsimp only
        rw [if_pos rfl, if_pos rfl, if_neg (by omega), if_neg (by omega)]
        exact ⟨b6, b4, hM.2.2.2.2.2.2⟩
      · have ej : j = k := by omega
        subst ej
        dsimp only
        rw [if_pos rfl, if_pos rfl]
        exact hm
  | succ d ih =>
    intro k hh fr σ τ KC KR mC mR hd hk0 hmC hmR hG hM hm hl
    have ok := own k hk0 (by omega)
    obtain ⟨o1, o2, o3⟩ := opn k hk0 (by omega)
    obtain ⟨σ', a1, a2⟩ := ck_turn (ns := ns) (B_C_Checker_firstInvalid_7 mC) (B_R_RangeTellerModel_check_2 mR) hG.1 hG.2.1 hN hF3 (by omega) (by rw [ok]; exact hg) hG.2.2.2.2.1 hG.2.2.2.2.2 hM (by rw [ok]; exact hm) hl (cl k hk0 (by omega)) o1 o2 o3
    have A1 : rq_A (ck_X k) σ σ' := a1.mono (fun c j h => by unfold ck_X ck_C at h; unfold ck_kC ck_C; omega)
    rcases a2 with ⟨τ', b1, b2, b3⟩ | ⟨τ', fr', hh', b1, b2, b3, b4, b5, b6⟩
    · exact Or.inl ⟨k, σ', τ', hk0, by omega, b1, b2, A1, b3.mono (fun c j h => by unfold ck_Y ck_R at h; unfold ck_kR ck_R; omega)⟩
    · have B1 : rq_A (ck_Y k) τ τ' := b3.mono (fun c j h => by unfold ck_Y ck_R at h; unfold ck_kR ck_R; omega)
      obtain ⟨m2, l2⟩ := ck_mt_step hm (hs k hk0 (by omega)).1 b6
      have hG' : ck_G N F op ar ow en el pa lo re fs σ' τ' := hG.kp (fun c j h => a1 c j (by unfold ck_kC ck_C; omega)) (fun c j h => b3 c j (by unfold ck_kR ck_R; omega))
      obtain ⟨mC, rfl⟩ : ∃ m, mC = m + 1 := ⟨mC - 1, by omega⟩
      obtain ⟨mR, rfl⟩ : ∃ m, mR = m + 1 := ⟨mR - 1, by omega⟩
      have ok2 := own (k + 1) (by omega) (by omega)
      obtain ⟨⟨-, -, s4, -, -⟩, ⟨-, -, t4, -, -⟩, -⟩ := hG'.1 (k + 1) (by omega)
      obtain ⟨f1, -, -, -, g1, -⟩ := hG'.2.1 g hg
      have nf : ¬ nI (k + 1) = nI (fs g) := fun e => absurd ((nI_eq (by omega) (by omega)).mp e) (by omega)
      have eC : B_C_Checker_firstInvalid_7 (mC + 1) (nI (k + 1)) σ' = B_C_Checker_firstInvalid_55 (B_C_Checker_firstInvalid_7 mC) (nI (k + 1)) σ' := by
        rw [B_C_Checker_firstInvalid_7, if_neg (by rw [hG'.2.2.1]; exact nI_ge (by omega) (by omega)), rq_rd (n := 100) rfl (by omega) (by decide), rq_b, s4, ok2, rq_rd (n := 3) rfl (by omega) (by decide), rq_b, f1, if_neg nf]
      have eR : B_R_RangeTellerModel_check_2 (mR + 1) (nI (k + 1)) τ' = B_R_RangeTellerModel_check_51 (B_R_RangeTellerModel_check_2 mR) (nI (k + 1)) τ' := by
        rw [B_R_RangeTellerModel_check_2, if_neg (by rw [hG'.2.2.2.1]; exact nI_ge (by omega) (by omega)), rq_rd (n := 100) rfl (by omega) (by decide), rq_b, t4, ok2, rq_rd (n := 3) rfl (by omega) (by decide), rq_b, g1, if_neg nf]
      have xx : ∀ {u v : rt_St}, rq_A (ck_X (k + 1)) u v → rq_A (ck_X k) u v := fun h => h.mono (fun c j q => by unfold ck_X ck_C at q; unfold ck_X ck_C; omega)
      have yy : ∀ {u v : rt_St}, rq_A (ck_Y (k + 1)) u v → rq_A (ck_Y k) u v := fun h => h.mono (fun c j q => by unfold ck_Y ck_R at q; unfold ck_Y ck_R; omega)
      rcases ih (k + 1) hh' fr' σ' τ' KC KR mC mR (by omega) (by omega) (by omega) (by omega) hG' b5 m2 (by omega) with ⟨j, σ2, τ2, q1, q2, q3, q4, q5, q6⟩ | ⟨σ2, τ2, frs, hs', q1, q2, q3, q4, q5, q6, q7, q8, q9⟩
      · exact Or.inl ⟨j, σ2, τ2, q1, q2, b1.trans (eC.trans q3), b2.trans (eR.trans q4), A1.tr (xx q5), B1.tr (yy q6)⟩
      · refine Or.inr ⟨σ2, τ2, fun j => if j = k then fr else frs j, fun j => if j = k then hh else hs' j, ?_, ?_, A1.tr (xx q3), B1.tr (yy q4), if_pos rfl, if_pos rfl, fun j j1 j2 => ?_, fun j j1 j2 => ?_, q9⟩
        · rw [Nat.add_sub_add_right]; exact b1.trans (eC.trans q1)
        · rw [Nat.add_sub_add_right]; exact b2.trans (eR.trans q2)
        · dsimp only
          by_cases ej : j = k
          · subst ej
            rw [if_pos rfl, if_pos rfl, if_neg (by omega), if_neg (by omega), q5, q6]
            exact ⟨b6.kp (fun c x1 x2 => q3 c j (by unfold ck_X; omega)) (fun c x1 x2 => q4 c j (by unfold ck_Y; omega)), by rw [q4 7 j (by unfold ck_Y; omega)]; exact b4, hM.2.2.2.2.2.2⟩
          · rw [if_neg ej, if_neg ej, if_neg (by omega), if_neg (by omega)]
            exact q7 j (by omega) j2
        · dsimp only
          by_cases ej : j = k
          · subst ej; rw [if_pos rfl, if_pos rfl]; exact hm
          · rw [if_neg ej, if_neg ej]; exact q8 j (by omega) j2
end CKJ
