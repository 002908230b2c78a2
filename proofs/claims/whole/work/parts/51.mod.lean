/-! reading: a function as a whole, and a module -/
def rq_Fn (f s0 N' : Nat) (op ar ow en el : Nat → Nat) : Prop := ∃ ns : Nat → List Nat, s0 < N' ∧ ns s0 = [] ∧ ns (N' - 1) = [] ∧ op (N' - 1) = 5 ∧ ow (N' - 1) = f ∧ (∀ k, s0 ≤ k → k + 1 < N' → rq_St ns op ar en el k ∧ ow k = f) ∧ (∀ k, s0 ≤ k → k < N' → (ns k).Nodup ∧ ∀ x ∈ ns k, s0 ≤ x ∧ x < k ∧ 1 ≤ op x ∧ op x ≤ 3) ∧ (∀ x, s0 ≤ x → x < N' → el x ≠ 0 → x < el x ∧ el x < N' ∧ op (el x) = 4 ∧ ∃ r, ns (el x) = x :: r)
section RQM
variable {n f F N N' s0 : Nat} {b : Nat → Nat} {op ar ow en el op' ar' ow' en' el' pa lo re fs : Nat → Nat} {σ τ : rt_St}
theorem rq_Fn.kp (h : rq_Fn f s0 N' op ar ow en el) (he : ∀ k, k < N' → op' k = op k ∧ ar' k = ar k ∧ ow' k = ow k ∧ en' k = en k ∧ el' k = el k) : rq_Fn f s0 N' op' ar' ow' en' el' := by
  obtain ⟨ns, h1, h2, h3, h4, h5, h6, h7, h8⟩ := h
  refine ⟨ns, h1, h2, h3, by rw [(he _ (by omega)).1]; exact h4, by rw [(he _ (by omega)).2.2.1]; exact h5, fun k k1 k2 => ?_, fun k k1 k2 => ?_, fun x x1 x2 hne => ?_⟩
  · obtain ⟨s, s2⟩ := h6 k k1 k2
    have hm := h7 k k1 (by omega)
    refine ⟨s.up rfl rfl (he k (by omega)).1 (he k (by omega)).2.1 (fun x hx => (he x (by have := (hm.2 x hx).2.1; omega)).1) ?_ ?_, by rw [(he k (by omega)).2.2.1]; exact s2⟩
    · intro x r q1 q2 q3
      have hx := hm.2 x (by rw [q2]; exact List.mem_cons_self)
      rw [(he x (by omega)).2.2.2.2]; exact q3
    · intro x r q1 q2 q3 q4
      have hx := hm.2 x (by rw [q2]; exact List.mem_cons_self)
      rw [(he x (by omega)).2.2.2.1, (he x (by omega)).2.2.2.2]
      refine ⟨q3, fun hne => ?_⟩
      rw [(he (el x) (h8 x hx.1 (by omega) hne).2.1).2.2.2.1]
      exact q4 hne
  · have hm := h7 k k1 k2
    exact ⟨hm.1, fun x hx => by rw [(he x (by have := (hm.2 x hx).2.1; omega)).1]; exact hm.2 x hx⟩
  · rw [(he x x2).2.2.2.2] at hne ⊢
    obtain ⟨m1, m2, m3, m4⟩ := h8 x x1 x2 hne
    exact ⟨m1, m2, by rw [(he _ m2).1]; exact m3, m4⟩
theorem rq_JE_Fn {op0 ar0 ow0 en0 el0 : Nat → Nat} (h : rq_JE f (rq_Jn f s0 op0 ar0 ow0 en0 el0) N' op ar ow en el) : rq_Fn f s0 N' op ar ow en el ∧ ∀ k, k < s0 → op k = op0 k ∧ ar k = ar0 k ∧ ow k = ow0 k ∧ en k = en0 k ∧ el k = el0 k := by
  obtain ⟨N, o1, a1, w1, e1, l1, a, rfl, ⟨h1, h2, ns, n0, nN, hS, hM, hE, hL⟩, rfl, rfl, rfl, rfl, rfl, -⟩ := h
  refine ⟨⟨ns, by omega, n0, nN, rq_U_s, rq_U_s, fun k k1 k2 => ?_, fun k k1 k2 => ?_, fun x x1 x2 hne => ?_⟩, fun k hk => ?_⟩
  · obtain ⟨s, s2⟩ := hS k k1 (by omega)
    have hm := hM k k1 (by omega)
    refine ⟨s.up rfl rfl (rq_U_n (by omega)) (rq_U_n (by omega)) (fun x hx => rq_U_n (by have := (hm.2 x hx).2.1; omega)) ?_ ?_, by rw [rq_U_n (by omega)]; exact s2⟩
    · intro x r q1 q2 q3
      have hx := hm.2 x (by rw [q2]; exact List.mem_cons_self)
      rw [rq_U_n (by omega)]; exact q3
    · intro x r q1 q2 q3 q4
      have hx := hm.2 x (by rw [q2]; exact List.mem_cons_self)
      rw [rq_U_n (by omega), rq_U_n (by omega)]
      refine ⟨q3, fun hne => ?_⟩
      rw [rq_U_n (by have := (hL x hx.1 (by omega) hne).2.1; omega)]
      exact q4 hne
  · have hm := hM k k1 (by omega)
    exact ⟨hm.1, fun x hx => by rw [rq_U_n (by have := (hm.2 x hx).2.1; omega)]; exact hm.2 x hx⟩
  · by_cases c : x = N
    · rw [c, rq_U_s] at hne; exact absurd rfl hne
    · rw [rq_U_n c] at hne ⊢
      obtain ⟨m1, m2, m3, m4⟩ := hL x x1 (by omega) hne
      exact ⟨m1, by omega, by rw [rq_U_n (by omega)]; exact m3, m4⟩
  · rw [rq_U_n (by omega), rq_U_n (by omega), rq_U_n (by omega), rq_U_n (by omega), rq_U_n (by omega)]
    exact h2 k hk
def rq_Mo (F N : Nat) (fs op ar ow en el : Nat → Nat) : Prop := (F = 0 → N = 0) ∧ (0 < F → fs 0 = 0) ∧ ∀ g, g < F → rq_Fn g (fs g) (if g + 1 < F then fs (g + 1) else N) op ar ow en el
theorem rq_Mo.step (h : rq_Mo f N fs op ar ow en el) (h1 : rq_Fn f N N' op' ar' ow' en' el') (h2 : ∀ k, k < N → op' k = op k ∧ ar' k = ar k ∧ ow' k = ow k ∧ en' k = en k ∧ el' k = el k) (hN : ∀ g, g < f → (if g + 1 < f then fs (g + 1) else N) ≤ N) : rq_Mo (f + 1) N' (rq_U fs f N) op' ar' ow' en' el' := by
  obtain ⟨a1, a2, a3⟩ := h
  refine ⟨fun e => absurd e (by omega), fun _ => ?_, fun g hg => ?_⟩
  · by_cases c : f = 0
    · subst c; rw [rq_U_s]; exact a1 rfl
    · rw [rq_U_n (by omega)]; exact a2 (by omega)
  · by_cases c : g = f
    · subst c
      rw [rq_U_s, if_neg (by omega)]; exact h1
    · rw [rq_U_n c, if_pos (by omega)]
      have e : rq_U fs f N (g + 1) = if g + 1 < f then fs (g + 1) else N := by
        by_cases c2 : g + 1 = f
        · rw [c2, rq_U_s, if_neg (by omega)]
        · rw [rq_U_n c2, if_pos (by omega)]
      rw [e]
      exact (a3 g (by omega)).kp (fun k hk => h2 k (Nat.lt_of_lt_of_le hk (hN g (by omega))))
theorem rq_Mo.le (h : rq_Mo f N fs op ar ow en el) : ∀ d g, g + d = f → g < f → (if g + 1 < f then fs (g + 1) else N) ≤ N := by
  intro d
  induction d with
  | zero => intro g h1 h2; omega
  | succ d ih =>
    intro g h1 h2
    by_cases c : g + 1 < f
    · rw [if_pos c]
      have q := ih (g + 1) (by omega) c
      obtain ⟨ns, q1, -⟩ := h.2.2 (g + 1) c
      omega
    · rw [if_neg c]; exact Nat.le_refl _
theorem rq_mloop (hF3 : F ≤ 3) : ∀ (d f i N : Nat) (op ar ow en el pa lo re fs : Nat → Nat) (σ τ : rt_St), f + d = F → rq_RS n i b σ τ → rq_T N op ar ow en el σ τ → σ 1 12 = nI N → τ 0 6 = nI N → σ 1 13 = nI f → τ 0 16 = nI F → rq_TF f pa lo re fs σ τ → rq_Mo f N fs op ar ow en el → N < i → ∀ mC mR, d + 1 ≤ mC → d + 1 ≤ mR →
    (∃ j σ' τ', j ≤ n ∧ B_C_Reader_readModule_27 mC (nI F) (nI f) σ = B_C_Reader_readModule_51 σ' ∧ B_R_RangeTellerModel_read_27 mR (nI f) τ = B_R_RangeTellerModel_read_53 τ' ∧ rq_A rq_MC σ σ' ∧ rq_A rq_MR τ τ' ∧ σ' 14 6 = nI j ∧ τ' 0 2 = nI j ∧ τ' 0 3 = 1) ∨
    (∃ i' N' op' ar' ow' en' el' pa' lo' re' fs' σ' τ', B_C_Reader_readModule_27 mC (nI F) (nI f) σ = B_C_Reader_readModule_51 σ' ∧ B_R_RangeTellerModel_read_27 mR (nI f) τ = B_R_RangeTellerModel_read_53 τ' ∧ rq_A rq_MC σ σ' ∧ rq_A rq_MR τ τ' ∧ rq_RS n i' b σ' τ' ∧ rq_T N' op' ar' ow' en' el' σ' τ' ∧ σ' 1 12 = nI N' ∧ τ' 0 6 = nI N' ∧ σ' 1 13 = nI F ∧ τ' 0 16 = nI F ∧ rq_TF F pa' lo' re' fs' σ' τ' ∧ rq_Mo F N' fs' op' ar' ow' en' el' ∧ N' < i') := by
  intro d
  induction d with
  | zero =>
    intro f i N op ar ow en el pa lo re fs σ τ hd h hT d12 d6 d13 d16 hF hM hNi mC mR hC hR
    obtain ⟨mC, rfl⟩ : ∃ m, mC = m + 1 := ⟨mC - 1, by omega⟩
    obtain ⟨mR, rfl⟩ : ∃ m, mR = m + 1 := ⟨mR - 1, by omega⟩
    have e : f = F := by omega
    subst e
    refine Or.inr ⟨i, N, op, ar, ow, en, el, pa, lo, re, fs, σ, τ, ?_, ?_, rq_A.rf, rq_A.rf, h, hT, d12, d6, d13, d16, hF, hM, hNi⟩
    · rw [B_C_Reader_readModule_27, if_pos (Int32.le_refl _)]
    · rw [B_R_RangeTellerModel_read_27, if_pos (by rw [d16]; exact Int32.le_refl _)]
  | succ d ih =>
    intro f i N op ar ow en el pa lo re fs σ τ hd h hT d12 d6 d13 d16 hF hM hNi mC mR hC hR
    obtain ⟨mC, rfl⟩ : ∃ m, mC = m + 1 := ⟨mC - 1, by omega⟩
    obtain ⟨mR, rfl⟩ : ∃ m, mR = m + 1 := ⟨mR - 1, by omega⟩
    have hj : rq_Jn f N op ar ow en el N [] op ar ow en el := ⟨Nat.le_refl _, fun k hk => ⟨rfl, rfl, rfl, rfl, rfl⟩, fun _ => [], rfl, rfl, fun k k1 k2 => absurd k2 (by omega), fun k k1 k2 => ⟨List.nodup_nil, fun x hx => absurd hx List.not_mem_nil⟩, fun x hx => absurd hx List.not_mem_nil, fun x x1 x2 => absurd x2 (by omega)⟩
    have eC : B_C_Reader_readModule_27 (mC + 1) (nI F) (nI f) σ = (M_C_Reader_readFunction σ).bind fun σ8 => B_C_Reader_readModule_27 mC (nI F) (nI (f + 1)) σ8 := by
      rw [B_C_Reader_readModule_27, if_neg (nI_ge (by omega) (by omega)), if_pos h.2.2.2.2.2.2.1, nI_1]
    have eR : B_R_RangeTellerModel_read_27 (mR + 1) (nI f) τ = (M_R_RangeTellerModel_readFunction τ (nI f)).bind fun σ8 => B_R_RangeTellerModel_read_27 mR (nI (f + 1)) σ8 := by
      rw [B_R_RangeTellerModel_read_27, if_neg (by rw [d16]; exact nI_ge (by omega) (by omega)), if_pos h.2.2.2.2.2.2.2.1, nI_1]
    rcases rq_func (rq_Jn f N op ar ow en el) (rq_Jn_keeps f N op ar ow en el) h (by omega) hT d12 d6 d13 hF hNi hj with ⟨j, σ', τ', h1, h2, h3, h4, h5, h6, h7, h8, h9⟩ | ⟨i', N', op', ar', ow', en', el', p, l, r, σ', τ', g1, g2, g3, g4, g5, g6, g7, g8, g9, g10, g11, g12, g13, g14, g15⟩
    · refine Or.inl ⟨j, σ', τ', h1, ?_, ?_, h4, h5, h7, h8, h9⟩
      · rw [eC, h2, rq_b]
        obtain ⟨mC, rfl⟩ : ∃ m, mC = m + 1 := ⟨mC - 1, by omega⟩
        rw [B_C_Reader_readModule_27]
        by_cases c : nI F ≤ nI (f + 1)
        · rw [if_pos c]
        · rw [if_neg c, if_neg (by rw [h7]; exact rq_n3 (by have := h.1; omega))]
      · rw [eR, h3, rq_b]
        obtain ⟨mR, rfl⟩ : ∃ m, mR = m + 1 := ⟨mR - 1, by omega⟩
        rw [B_R_RangeTellerModel_read_27]
        by_cases c : τ' 0 16 ≤ nI (f + 1)
        · rw [if_pos c]
        · rw [if_neg c, if_neg (by rw [h9]; decide)]
    · obtain ⟨q1, q2⟩ := rq_JE_Fn g15
      have hM' := hM.step q1 q2 (fun g hg => hM.le (f - g) g (by omega) hg)
      rcases ih (f + 1) i' N' op' ar' ow' en' el' _ _ _ _ σ' τ' (by omega) g9 g10 g11 g12 g13 (g8.trans d16) g14 hM' g3 mC mR (by omega) (by omega) with ⟨j, σ2, τ2, h1, h2, h3, h4, h5, h6⟩ | ⟨i2, N2, op2, ar2, ow2, en2, el2, pa2, lo2, re2, fs2, σ2, τ2, h1, h2, h3, h4, h5⟩
      · exact Or.inl ⟨j, σ2, τ2, h1, by rw [eC, g4, rq_b]; exact h2, by rw [eR, g5, rq_b]; exact h3, g6.tr h4, g7.tr h5, h6⟩
      · exact Or.inr ⟨i2, N2, op2, ar2, ow2, en2, el2, pa2, lo2, re2, fs2, σ2, τ2, by rw [eC, g4, rq_b]; exact h1, by rw [eR, g5, rq_b]; exact h2, g6.tr h3, g7.tr h4, h5⟩
end RQM
