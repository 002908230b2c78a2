/-! reading: the instructions of a function, over any property J of the tables that a step keeps -/
section RQ9
variable {n f : Nat} {b : Nat → Nat}
def rq_J : Type := Nat → List Nat → (Nat → Nat) → (Nat → Nat) → (Nat → Nat) → (Nat → Nat) → (Nat → Nat) → Prop
def rq_JK (f : Nat) (J : rq_J) : Prop := ∀ (N : Nat) (st st' : List Nat) (op ar ow en el : Nat → Nat) (o a : Nat) (en' el' : Nat → Nat) (e : Nat), J N st op ar ow en el → rq_Nx o N st st' op en en' el el' e → o < 29 → a < 64 → (1 ≤ o → o ≤ 3 → a ≤ 1) → e = 0 → J (N + 1) st' (rq_U op N o) (rq_U ar N a) (rq_U ow N f) en' el'
/-- the tables behind a function's last instruction -/
def rq_JE (f : Nat) (J : rq_J) (N' : Nat) (op' ar' ow' en' el' : Nat → Nat) : Prop := ∃ N op ar ow en el a, N' = N + 1 ∧ J N [] op ar ow en el ∧ op' = rq_U op N 5 ∧ ar' = rq_U ar N a ∧ ow' = rq_U ow N f ∧ en' = rq_U en N 0 ∧ el' = rq_U el N 0 ∧ a < 64
theorem rq_52s {q m e : Nat} {u : rt_St} (hq : q < 2000) (h : ¬ e = 0 ∧ e ≤ 1 ∨ ¬ u 14 6 = -3) : B_C_Reader_readFunction_52 (m + 1) (nI e) (nI q) u = some u := by
  rw [B_C_Reader_readFunction_52]
  by_cases c1 : 100 ≤ nI q
  · rw [if_pos c1]
  · rw [if_neg c1]
    by_cases c2 : nI e = 0
    · rw [if_pos c2]
      rcases h with h | h
      · exact absurd ((nI_eq (b := 0) (by omega) (by decide)).mp c2) h.1
      · rw [if_neg h]
    · rw [if_neg c2]
theorem rq_fn (J : rq_J) (hJ : rq_JK f J) : ∀ (k i N q : Nat) (st : List Nat) (op ar ow en el : Nat → Nat) (σ τ : rt_St), n - i ≤ k → rq_RS n i b σ τ → rq_RD f N st op ar ow en el σ τ → N < i → q ≤ N → J N st op ar ow en el → ∀ mC mR, k + 2 ≤ mC → k + 2 ≤ mR →
    (∃ j σ' τ', j ≤ n ∧ B_C_Reader_readFunction_52 mC 0 (nI q) σ = some σ' ∧ B_R_RangeTellerModel_readFunction_75 mR (nI f) 0 τ = some τ' ∧ rq_A rq_RC σ σ' ∧ rq_A rq_RR τ τ' ∧ σ' 14 6 = nI j ∧ τ' 0 2 = nI j ∧ τ' 0 3 = 1) ∨
    (∃ i' N' op' ar' ow' en' el' σ' τ', i < i' ∧ N < N' ∧ N' < i' ∧ B_C_Reader_readFunction_52 mC 0 (nI q) σ = some σ' ∧ B_R_RangeTellerModel_readFunction_75 mR (nI f) 0 τ = some τ' ∧ rq_A rq_RC σ σ' ∧ rq_A rq_RR τ τ' ∧ rq_RS n i' b σ' τ' ∧ rq_RD f N' [] op' ar' ow' en' el' σ' τ' ∧ rq_JE f J N' op' ar' ow' en' el') := by
  intro k
  induction k with
  | zero =>
    intro i N q st op ar ow en el σ τ hk h hD hNi hqN hj mC mR hC hR
    obtain ⟨mC, rfl⟩ : ∃ m, mC = m + 2 := ⟨mC - 2, by omega⟩
    obtain ⟨mR, rfl⟩ : ∃ m, mR = m + 2 := ⟨mR - 2, by omega⟩
    have hq : ¬ 100 ≤ nI q := nI_ge (b := 100) (by have := h.1; have := h.2.1; omega) (by decide)
    rcases rq_ins h hD hNi with ⟨j, σ', τ', h1, h2, h3, h4, h5, h6, h7, h8⟩ | ⟨e, a, j, σ', τ', st', en', el', e1, e2, e3, e4, e5, e6, e7, e8, e9, e10, e11, e12⟩
    · refine Or.inl ⟨j, σ', τ', h1, ?_, h3 _, h4, h5, h6, h7, h8⟩
      rw [B_C_Reader_readFunction_52, if_neg hq, if_pos rfl, if_pos h.2.2.2.2.2.2.1, h2, rq_b2, nI_1]
      exact rq_52s (e := 0) (by have := h.1; have := h.2.1; omega) (Or.inr (by rw [h6]; exact rq_n3 (by have := h.1; omega)))
    · have := e10.2.1; omega
  | succ k ih =>
    intro i N q st op ar ow en el σ τ hk h hD hNi hqN hj mC mR hC hR
    obtain ⟨mC, rfl⟩ : ∃ m, mC = m + 2 := ⟨mC - 2, by omega⟩
    obtain ⟨mR, rfl⟩ : ∃ m, mR = m + 2 := ⟨mR - 2, by omega⟩
    have hq : ¬ 100 ≤ nI q := nI_ge (b := 100) (by have := h.1; have := h.2.1; omega) (by decide)
    rcases rq_ins h hD hNi with ⟨j, σ', τ', h1, h2, h3, h4, h5, h6, h7, h8⟩ | ⟨e, a, j, σ', τ', st', en', el', e1, e2, e3, e4, e5, e6, e7, e8, e9, e10, e11, e12⟩
    · refine Or.inl ⟨j, σ', τ', h1, ?_, h3 _, h4, h5, h6, h7, h8⟩
      rw [B_C_Reader_readFunction_52, if_neg hq, if_pos rfl, if_pos h.2.2.2.2.2.2.1, h2, rq_b2, nI_1]
      exact rq_52s (e := 0) (by have := h.1; have := h.2.1; omega) (Or.inr (by rw [h6]; exact rq_n3 (by have := h.1; omega)))
    · have eC : B_C_Reader_readFunction_52 (mC + 2) 0 (nI q) σ = B_C_Reader_readFunction_52 (mC + 1) (nI e) (nI (q + 1)) σ' := by
        rw [B_C_Reader_readFunction_52, if_neg hq, if_pos rfl, if_pos h.2.2.2.2.2.2.1, e6, rq_b2, nI_1]
      have eR := e7 (mR + 1)
      have hjn := e10.2.1
      by_cases c : e = 0
      · subst c
        have hj' := hJ N st st' op ar ow en el (b i) a en' el' 0 hj e12 e3 e4 e5 rfl
        rcases ih j (N + 1) (q + 1) st' _ _ _ en' el' σ' τ' (by omega) e10 e11 (by omega) (by omega) hj' (mC + 1) (mR + 1) (by omega) (by omega) with ⟨j2, σ2, τ2, h1, h2, h3, h4, h5, h6, h7, h8⟩ | ⟨i', N', op', ar', ow', en2, el2, σ2, τ2, g1, g2, g3, g4, g5, g6, g7, g8, g9, g10⟩
        · exact Or.inl ⟨j2, σ2, τ2, h1, eC.trans h2, eR.trans h3, e8.tr h4, e9.tr h5, h6, h7, h8⟩
        · exact Or.inr ⟨i', N', op', ar', ow', en2, el2, σ2, τ2, by omega, by omega, g3, eC.trans g4, eR.trans g5, e8.tr g6, e9.tr g7, g8, g9, g10⟩
      · have he : e = 1 := by omega
        subst he
        have hst : b i = 5 ∧ st = [] ∧ st' = [] ∧ en' = rq_U en N 0 ∧ el' = rq_U el N 0 := by
          rcases e12 with h | h | h | h | h
          · exact absurd h.2.2.2.2.2 (by decide)
          · exact absurd h.2.1 (by decide)
          · exact absurd h.2.1 (by decide)
          · exact ⟨h.1, h.2.2.1, h.2.2.2.1, h.2.2.2.2.1, h.2.2.2.2.2⟩
          · exact absurd h.2.2.2.1 (by decide)
        obtain ⟨s1, s2, s3, s4, s5⟩ := hst
        subst s2; subst s3; subst s4; subst s5
        rw [s1] at e11
        refine Or.inr ⟨j, N + 1, _, _, _, _, _, σ', τ', e2, by omega, by omega, eC.trans (rq_52s (e := 1) (by have := h.1; have := h.2.1; omega) (Or.inl (by decide))), ?_, e8, e9, e10, e11, ⟨N, op, ar, ow, en, el, a, rfl, hj, rfl, rfl, rfl, rfl, rfl, e4⟩⟩
        rw [eR, B_R_RangeTellerModel_readFunction_75, if_neg (by decide)]
end RQ9
