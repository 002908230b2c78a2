/-! checking: a whole module -/
def ck_Fh (F : Nat) (op ar ow en el pa lo re : Nat → Nat) (g s0 N' : Nat) (σ τ : rt_St) : Prop := ∃ (ns : Nat → List Nat) (frs : Nat → List (Nat × Nat × Nat × Nat)) (hs : Nat → Nat), frs s0 = [(0, 0, re g, 1)] ∧ hs s0 = 0 ∧ ck_H F op ar ow en el pa lo re frs hs s0 N' σ τ ∧ (∀ j, s0 ≤ j → j < N' → ck_mt g re ar (ns j) (frs j) (hs j)) ∧ (ns s0 = [] ∧ ns (N' - 1) = [] ∧ ∀ k, s0 ≤ k → k + 1 < N' → rq_St ns op ar en el k)
section CKL
variable {N F : Nat} {op ar ow en el pa lo re fs : Nat → Nat}
theorem ck_Fh.kp {g s0 N' b : Nat} {σ τ u w : rt_St} (h : ck_Fh F op ar ow en el pa lo re g s0 N' σ τ) (hb : N' ≤ b) (h1 : rq_A (ck_X b) σ u) (h2 : rq_A (ck_Y b) τ w) : ck_Fh F op ar ow en el pa lo re g s0 N' u w := by
  obtain ⟨ns, frs, hs, a1, a2, a3, a4, a5⟩ := h
  refine ⟨ns, frs, hs, a1, a2, fun j j1 j2 => ?_, a4, a5⟩
  obtain ⟨q1, q2, q3⟩ := a3 j j1 j2
  exact ⟨q1.kp (fun c x1 x2 => h1 c j (by unfold ck_X; omega)) (fun c x1 x2 => h2 c j (by unfold ck_Y; omega)), by rw [h2 7 j (by unfold ck_Y; omega)]; exact q2, q3⟩
theorem ck_mods (hN : N ≤ 100) (hF3 : F ≤ 3) (hMo : rq_Mo F N fs op ar ow en el) : ∀ (d g : Nat) (σ τ : rt_St) (mC mR : Nat), g + d = F → N - (if g < F then fs g else N) + 1 ≤ mC → N - (if g < F then fs g else N) + 1 ≤ mR → ck_G N F op ar ow en el pa lo re fs σ τ → σ 17 6 = 0 → (∀ h, h < g → ck_Fh F op ar ow en el pa lo re h (fs h) (if h + 1 < F then fs (h + 1) else N) σ τ) →
    (∃ j σ' τ', j < N ∧ B_C_Checker_firstInvalid_7 mC (nI (if g < F then fs g else N)) σ = some (nI j, σ') ∧ B_R_RangeTellerModel_check_2 mR (nI (if g < F then fs g else N)) τ = some (0, rt_up τ' 0 5 (nI j)) ∧ rq_A (ck_X 0) σ σ' ∧ rq_A (ck_Y 0) τ τ') ∨
    (∃ σ' τ', B_C_Checker_firstInvalid_7 mC (nI (if g < F then fs g else N)) σ = some (-3, σ') ∧ B_R_RangeTellerModel_check_2 mR (nI (if g < F then fs g else N)) τ = some (1, τ') ∧ rq_A (ck_X 0) σ σ' ∧ rq_A (ck_Y 0) τ τ' ∧ ∀ h, h < F → ck_Fh F op ar ow en el pa lo re h (fs h) (if h + 1 < F then fs (h + 1) else N) σ' τ') := by
  have xx : ∀ {a : Nat} {u v : rt_St}, rq_A (ck_X a) u v → rq_A (ck_X 0) u v := fun h => h.mono (fun c j q => by unfold ck_X ck_C at q; unfold ck_X ck_C; omega)
  have yy : ∀ {a : Nat} {u v : rt_St}, rq_A (ck_Y a) u v → rq_A (ck_Y 0) u v := fun h => h.mono (fun c j q => by unfold ck_Y ck_R at q; unfold ck_Y ck_R; omega)
  intro d
  induction d with
  | zero =>
    intro g σ τ mC mR hd hmC hmR hG h6 hH
    rw [if_neg (by omega)] at hmC hmR ⊢
    obtain ⟨mC, rfl⟩ : ∃ m, mC = m + 1 := ⟨mC - 1, by omega⟩
    obtain ⟨mR, rfl⟩ : ∃ m, mR = m + 1 := ⟨mR - 1, by omega⟩
    refine Or.inr ⟨σ, τ, ?_, ?_, rq_A.rf, rq_A.rf, fun h hh => hH h (by omega)⟩
    · rw [B_C_Checker_firstInvalid_7, if_pos (by rw [hG.2.2.1]; exact Int32.le_refl _)]
    · rw [B_R_RangeTellerModel_check_2, if_pos (by rw [hG.2.2.2.1]; exact Int32.le_refl _)]
  | succ d ih =>
    intro g σ τ mC mR hd hmC hmR hG h6 hH
    have hg : g < F := by omega
    rw [if_pos hg] at hmC hmR ⊢
    have hle : (if g + 1 < F then fs (g + 1) else N) ≤ N := hMo.le (F - g) g (by omega) hg
    have hFn := hMo.2.2 g hg
    have hlt : fs g < (if g + 1 < F then fs (g + 1) else N) := hFn.choose_spec.1
    have low : ∀ h, h < g → (if h + 1 < F then fs (h + 1) else N) ≤ fs g := by
      intro h hh
      have key : ∀ e a, a + e + 1 = g → fs (a + 1) ≤ fs g := by
        intro e
        induction e with
        | zero => intro a ha; rw [show a + 1 = g by omega]; exact Nat.le_refl _
        | succ e ie =>
          intro a ha
          have q := ie (a + 1) (by omega)
          have w := (hMo.2.2 (a + 1) (by omega)).choose_spec.1
          rw [if_pos (by omega)] at w
          omega
      rw [if_pos (by omega)]
      exact key (g - h - 1) h (by omega)
    rcases ck_fun hN hF3 hle hg rfl hFn hG h6 mC mR (by omega) (by omega) with ⟨j, σ', τ', q1, q2, q3, q4, q5, q6⟩ | ⟨σ', τ', ns, frs, hs, q1, q2, q3, q4, q5, q6, q7, q8, q9, q10⟩
    · exact Or.inl ⟨j, σ', τ', by omega, q3, q4, xx q5, yy q6⟩
    · have hG' : ck_G N F op ar ow en el pa lo re fs σ' τ' := hG.kp (fun c j h => q3 c j (by unfold ck_X ck_C; omega)) (fun c j h => q4 c j (by unfold ck_Y ck_R; omega))
      have hH' : ∀ h, h < g + 1 → ck_Fh F op ar ow en el pa lo re h (fs h) (if h + 1 < F then fs (h + 1) else N) σ' τ' := fun h hh => by
        by_cases c : h = g
        · subst c; exact ⟨ns, frs, hs, q5, q6, q7, q8, q9⟩
        · exact (hH h (by omega)).kp (low h (by omega)) q3 q4
      rcases ih (g + 1) σ' τ' (mC - ((if g + 1 < F then fs (g + 1) else N) - fs g)) (mR - ((if g + 1 < F then fs (g + 1) else N) - fs g)) (by omega) (by omega) (by omega) hG' q10 hH' with ⟨j, σ2, τ2, w1, w2, w3, w4, w5⟩ | ⟨σ2, τ2, w2, w3, w4, w5, w6⟩
      · exact Or.inl ⟨j, σ2, τ2, w1, q1.trans w2, q2.trans w3, (xx q3).tr w4, (yy q4).tr w5⟩
      · exact Or.inr ⟨σ2, τ2, q1.trans w2, q2.trans w3, (xx q3).tr w4, (yy q4).tr w5, w6⟩
end CKL
