/-! reading: a function -/
def rq_TF (F : Nat) (pa lo re fs : Nat → Nat) (σ τ : rt_St) : Prop := ∀ g, g < F → σ 10 g = nI (fs g) ∧ σ 11 g = nI (pa g) ∧ σ 12 g = nI (lo g) ∧ σ 13 g = nI (re g) ∧ τ 14 g = nI (fs g) ∧ τ 11 g = nI (pa g) ∧ τ 12 g = nI (lo g) ∧ τ 13 g = nI (re g) ∧ pa g ≤ 2 ∧ lo g ≤ 2 ∧ re g ≤ 1
/-- what may be touched while a whole module is read -/
def rq_MC (c k : Nat) : Prop := ¬ (c = 1 ∨ (2 ≤ c ∧ c ≤ 6) ∨ (10 ≤ c ∧ c ≤ 13) ∨ (c = 14 ∧ k ≠ 3) ∨ c = 16)
def rq_MR (c k : Nat) : Prop := ¬ ((c = 0 ∧ (k = 2 ∨ k = 3 ∨ k = 6 ∨ k = 16 ∨ k = 21)) ∨ (2 ≤ c ∧ c ≤ 6) ∨ (11 ≤ c ∧ c ≤ 15))
theorem rq_mcS {c k : Nat} (h : rq_MC c k) : rq_SC c k := by unfold rq_MC at h; unfold rq_SC; omega
theorem rq_mcR {c k : Nat} (h : rq_MC c k) : rq_RC c k := by unfold rq_MC at h; unfold rq_RC; omega
theorem rq_mrS {c k : Nat} (h : rq_MR c k) : rq_SR c k := by unfold rq_MR at h; unfold rq_SR; omega
theorem rq_mrR {c k : Nat} (h : rq_MR c k) : rq_RR c k := by unfold rq_MR at h; unfold rq_RR; omega
section RQA
variable {n i f N : Nat} {b : Nat → Nat} {op ar ow en el pa lo re fs : Nat → Nat} {σ τ u w : rt_St}
theorem rq_numF {a1 a2 : Int32} (h : ¬ u 14 6 = -3) : M_C_Reader_readNumber u a1 a2 = some (0, u) := if_neg h
theorem rq_50F {l1 : Int32} (h : w 0 3 = 1) : B_R_RangeTellerModel_readFunction_50 l1 w = some w := by
  unfold B_R_RangeTellerModel_readFunction_50
  rw [if_neg (by rw [h]; decide)]
theorem rq_31F {l1 : Int32} (h : w 0 3 = 1) : B_R_RangeTellerModel_readFunction_31 l1 w = some w := by
  unfold B_R_RangeTellerModel_readFunction_31
  rw [if_neg (by rw [h]; decide)]
  exact rq_50F h
theorem rq_TF.kp (h : rq_TF f pa lo re fs σ τ) (hu : ∀ c k, 10 ≤ c → c ≤ 13 → u c k = σ c k) (hw : ∀ c k, 11 ≤ c → c ≤ 14 → w c k = τ c k) : rq_TF f pa lo re fs u w := by
  intro g hg
  rw [hu 10 g (by decide) (by decide), hu 11 g (by decide) (by decide), hu 12 g (by decide) (by decide), hu 13 g (by decide) (by decide), hw 11 g (by decide) (by decide), hw 12 g (by decide) (by decide), hw 13 g (by decide) (by decide), hw 14 g (by decide) (by decide)]
  exact h g hg
theorem rq_func (J : rq_J) (hJ : rq_JK f J) (h : rq_RS n i b σ τ) (hf : f < 3) (hT : rq_T N op ar ow en el σ τ) (d12 : σ 1 12 = nI N) (d6 : τ 0 6 = nI N) (d13 : σ 1 13 = nI f) (hF : rq_TF f pa lo re fs σ τ) (hNi : N < i) (hj : J N [] op ar ow en el) :
    (∃ j σ' τ', j ≤ n ∧ M_C_Reader_readFunction σ = some σ' ∧ M_R_RangeTellerModel_readFunction τ (nI f) = some τ' ∧ rq_A rq_MC σ σ' ∧ rq_A rq_MR τ τ' ∧ τ' 0 16 = τ 0 16 ∧ σ' 14 6 = nI j ∧ τ' 0 2 = nI j ∧ τ' 0 3 = 1) ∨
    (∃ i' N' op' ar' ow' en' el' p l r σ' τ', i < i' ∧ N < N' ∧ N' < i' ∧ M_C_Reader_readFunction σ = some σ' ∧ M_R_RangeTellerModel_readFunction τ (nI f) = some τ' ∧ rq_A rq_MC σ σ' ∧ rq_A rq_MR τ τ' ∧ τ' 0 16 = τ 0 16 ∧ rq_RS n i' b σ' τ' ∧ rq_T N' op' ar' ow' en' el' σ' τ' ∧ σ' 1 12 = nI N' ∧ τ' 0 6 = nI N' ∧ σ' 1 13 = nI (f + 1) ∧ rq_TF (f + 1) (rq_U pa f p) (rq_U lo f l) (rq_U re f r) (rq_U fs f N) σ' τ' ∧ rq_JE f J N' op' ar' ow' en' el') := by
  have hn := h.1
  have tC : ∀ {u v : rt_St}, rq_A rq_MC σ u → rq_A rq_SC u v → rq_A rq_MC σ v := fun h1 h2 => h1.tr (h2.mono (fun c k hs => rq_mcS hs))
  have tR : ∀ {u v : rt_St}, rq_A rq_MR τ u → rq_A rq_SR u v → rq_A rq_MR τ v := fun h1 h2 => h1.tr (h2.mono (fun c k hs => rq_mrS hs))
  have uR : ∀ {c k : Nat} {y : Int32} {v : rt_St}, rq_A rq_MR τ v → 11 ≤ c ∧ c ≤ 14 → rq_A rq_MR τ (rt_up v c k y) := fun h1 h2 => h1.up (by unfold rq_MR; omega)
  unfold M_C_Reader_readFunction M_R_RangeTellerModel_readFunction
  rcases rq_num (lo := 0) (hi := 2) h (by decide) (by decide) with ⟨p, j1, σ1, τ1, p1, p2, p3, p4, p5, p6, p7, p8⟩ | ⟨j, w0, σ1, τ1, p1, p4, p5, p6, p7, p8, p9, p10⟩
  · have e1 : M_C_Reader_readNumber σ 0 2 = some (nI p, σ1) := p4
    have e2 : M_R_RangeTellerModel_number τ 0 2 = some (nI p, τ1) := p5
    have r1 : rq_RS n j1 b σ1 (rt_up τ1 11 f (nI p)) := p8.kp (fun _ _ => rfl) (fun _ => rfl) (fun _ _ => rq_c (by decide)) (fun _ => rq_c (by decide))
    rw [e1, rq_b2, e2, rq_b2, rq_wr (n := 3) rfl hf (by decide), rq_b, if_pos r1.2.2.2.2.2.2.2.1]
    rcases rq_num (lo := 0) (hi := 2) r1 (by decide) (by decide) with ⟨l, j2, σ2, τ2, q1, q2, q3, q4, q5, q6, q7, q8⟩ | ⟨j, w0, σ2, τ2, q1, q4, q5, q6, q7, q8, q9, q10⟩
    · have e3 : M_C_Reader_readNumber σ1 0 2 = some (nI l, σ2) := q4
      have e4 : M_R_RangeTellerModel_number (rt_up τ1 11 f (nI p)) 0 2 = some (nI l, τ2) := q5
      have r2 : rq_RS n j2 b σ2 (rt_up τ2 12 f (nI l)) := q8.kp (fun _ _ => rfl) (fun _ => rfl) (fun _ _ => rq_c (by decide)) (fun _ => rq_c (by decide))
      rw [e3, rq_b2, e4, rq_b2, rq_wr (n := 3) rfl hf (by decide), rq_b]
      unfold B_R_RangeTellerModel_readFunction_31
      rw [if_pos r2.2.2.2.2.2.2.2.1]
      rcases rq_num (lo := 0) (hi := 1) r2 (by decide) (by decide) with ⟨r, j3, σ3, τ3, s1, s2, s3, s4, s5, s6, s7, s8⟩ | ⟨j, w0, σ3, τ3, s1, s4, s5, s6, s7, s8, s9, s10⟩
      · have e5 : M_C_Reader_readNumber σ2 0 1 = some (nI r, σ3) := s4
        have e6 : M_R_RangeTellerModel_number (rt_up τ2 12 f (nI l)) 0 1 = some (nI r, τ3) := s5
        have r3 : rq_RS n j3 b σ3 (rt_up τ3 13 f (nI r)) := s8.kp (fun _ _ => rfl) (fun _ => rfl) (fun _ _ => rq_c (by decide)) (fun _ => rq_c (by decide))
        -- what has been kept so far
        have kC : ∀ c k, rq_SC c k → σ3 c k = σ c k := fun c k hs => by rw [s6 c k hs, q6 c k hs, p6 c k hs]
        have kR : ∀ c k, rq_SR c k → ¬ (11 ≤ c ∧ c ≤ 13) → τ3 c k = τ c k := fun c k hs hc => by rw [s7 c k hs, rq_c (by omega), q7 c k hs, rq_c (by omega), p7 c k hs]
        have g12 : σ3 1 12 = nI N := by rw [kC 1 12 (by unfold rq_SC; omega)]; exact d12
        have g13 : σ3 1 13 = nI f := by rw [kC 1 13 (by unfold rq_SC; omega)]; exact d13
        have w6 : τ3 0 6 = nI N := by rw [kR 0 6 (by unfold rq_SR; omega) (by omega)]; exact d6
        rw [e5, rq_b2, if_pos s8.2.2.2.2.2.2.1, e6, rq_b2, rq_wr (n := 3) rfl hf (by decide), rq_b]
        unfold B_R_RangeTellerModel_readFunction_50
        rw [if_pos r3.2.2.2.2.2.2.2.1, rq_wr (n := 3) rfl hf (by decide), rq_b, rq_put, rq_b]
        have eA : M_C_Program_addFunction σ3 (nI p) (nI l) (nI r) = some (rt_up (rt_up (rt_up (rt_up (rt_up σ3 10 f (nI N)) 11 f (nI p)) 12 f (nI l)) 13 f (nI r)) 1 13 (nI (f + 1))) := by
          unfold M_C_Program_addFunction
          rw [rq_wr (n := 3) g13 hf (by decide), rq_b, rq_wr (n := 3) (i := f) (by rw [rq_c (by decide)]; exact g13) hf (by decide), rq_b, rq_wr (n := 3) (i := f) (by rw [rq_c (by decide), rq_c (by decide)]; exact g13) hf (by decide), rq_b, rq_wr (n := 3) (i := f) (by rw [rq_c (by decide), rq_c (by decide), rq_c (by decide)]; exact g13) hf (by decide), rq_b, rq_put, rq_b, rq_c (by decide), rq_c (by decide), rq_c (by decide), rq_c (by decide), g13, g12, nI_1]
        rw [eA, rq_b, rq_put, rq_b]
        have v6 : (rt_up τ3 13 f (nI r)) 0 6 = nI N := by rw [rq_c (by decide)]; exact w6
        rw [v6]
        generalize hU : rt_up (rt_up (rt_up (rt_up (rt_up (rt_up σ3 10 f (nI N)) 11 f (nI p)) 12 f (nI l)) 13 f (nI r)) 1 13 (nI (f + 1))) 14 5 0 = U
        generalize hV : rt_up (rt_up (rt_up τ3 13 f (nI r)) 14 f (nI N)) 0 21 0 = V
        have FU1 : rq_A rq_MC σ U := by
          rw [← hU]
          exact ((((((tC (tC (tC rq_A.rf p6) q6) s6).up (by unfold rq_MC; omega)).up (by unfold rq_MC; omega)).up (by unfold rq_MC; omega)).up (by unfold rq_MC; omega)).up (by unfold rq_MC; omega)).up (by unfold rq_MC; omega)
        have FV1 : rq_A rq_MR τ V := by
          rw [← hV]
          exact ((uR (tR (uR (tR (uR (tR rq_A.rf p7) (by omega)) q7) (by omega)) s7) (by omega)).up (by unfold rq_MR; omega)).up (by unfold rq_MR; omega)
        have hS : rq_RS n j3 b U V := by
          rw [← hU, ← hV]
          exact s8.kp (fun k hk => by rcases hk with rfl | rfl | rfl <;> simp [rq_if]) (fun k => by simp [rq_if]) (fun k hk => by rcases hk with rfl | rfl | rfl <;> simp [rq_if]) (fun k => by simp [rq_if])
        have hTU : rq_T N op ar ow en el U V := by
          rw [← hU, ← hV]
          exact hT.kp (fun c k h1 h2 => by rw [rq_c (by omega), rq_c (by omega), rq_c (by omega), rq_c (by omega), rq_c (by omega), rq_c (by omega)]; exact kC c k (by unfold rq_SC; omega)) (fun c k h1 h2 => by rw [rq_c (by omega), rq_c (by omega), rq_c (by omega)]; exact kR c k (by unfold rq_SR; omega) (by omega))
        have hFU : rq_TF (f + 1) (rq_U pa f p) (rq_U lo f l) (rq_U re f r) (rq_U fs f N) U V := by
          rw [← hU, ← hV]
          intro g hg
          by_cases e : g = f
          · subst e
            have t11 : τ3 11 g = nI p := by rw [s7 11 g (by unfold rq_SR; omega), rq_c (by decide), q7 11 g (by unfold rq_SR; omega), rq_s]
            have t12 : τ3 12 g = nI l := by rw [s7 12 g (by unfold rq_SR; omega), rq_s]
            simp [rq_U, rq_if, t11, t12]
            exact ⟨p2, q2, s2⟩
          · obtain ⟨z1, z2, z3, z4, z5, z6, z7, z8, z9⟩ := hF g (by omega)
            have t11 : τ3 11 g = nI (pa g) := by rw [s7 11 g (by unfold rq_SR; omega), rq_c (by decide), q7 11 g (by unfold rq_SR; omega), rq_k e, p7 11 g (by unfold rq_SR; omega)]; exact z6
            have t12 : τ3 12 g = nI (lo g) := by rw [s7 12 g (by unfold rq_SR; omega), rq_k e, q7 12 g (by unfold rq_SR; omega), rq_c (by decide), p7 12 g (by unfold rq_SR; omega)]; exact z7
            have t13 : τ3 13 g = nI (re g) := by rw [s7 13 g (by unfold rq_SR; omega), rq_c (by decide), q7 13 g (by unfold rq_SR; omega), rq_c (by decide), p7 13 g (by unfold rq_SR; omega)]; exact z8
            have t14 : τ3 14 g = nI (fs g) := by rw [kR 14 g (by unfold rq_SR; omega) (by omega)]; exact z5
            simp [rq_U, rq_if, e, t11, t12, t13, t14, kC 10 g (by unfold rq_SC; omega), kC 11 g (by unfold rq_SC; omega), kC 12 g (by unfold rq_SC; omega), kC 13 g (by unfold rq_SC; omega), z1, z2, z3, z4]
            exact z9
        have hRD : rq_RD f N [] op ar ow en el U V := by
          refine ⟨hTU, ?_, ?_, ?_, ?_, ?_, trivial, trivial, Nat.zero_le _, fun y hy => absurd hy List.not_mem_nil⟩
          · rw [← hU]; simpa [rq_if] using g12
          · rw [← hV]; simpa [rq_if] using w6
          · rw [← hU]; simp [rq_if]
          · rw [← hU, rq_s]; rfl
          · rw [← hV, rq_s]; rfl
        have V16 : V 0 16 = τ 0 16 := by rw [← hV, rq_k (by decide), rq_c (by decide), rq_c (by decide)]; exact kR 0 16 (by unfold rq_SR; omega) (by omega)
        rcases rq_fn J hJ 100 j3 N 0 [] op ar ow en el U V (by omega) hS hRD (by omega) (Nat.zero_le _) hj FU FU (by decide) (by decide) with ⟨j, σ', τ', h1, h2, h3, h4, h5, h6, h7, h8⟩ | ⟨i', N', op', ar', ow', en', el', σ', τ', h1, h2, h3, h4, h5, h6, h7, h8, h9, h10⟩
        · exact Or.inl ⟨j, σ', τ', h1, h2, h3, FU1.tr (h4.mono fun c k hs => rq_mcR hs), FV1.tr (h5.mono fun c k hs => rq_mrR hs), (h5 0 16 (by unfold rq_RR; omega)).trans V16, h6, h7, h8⟩
        · exact Or.inr ⟨i', N', op', ar', ow', en', el', p, l, r, σ', τ', by omega, h2, h3, h4, h5, FU1.tr (h6.mono fun c k hs => rq_mcR hs), FV1.tr (h7.mono fun c k hs => rq_mrR hs), (h7 0 16 (by unfold rq_RR; omega)).trans V16, h8, h9.1, h9.2.1, h9.2.2.1, h9.2.2.2.1, hFU.kp (fun c k a1 a2 => h6 c k (by unfold rq_RC; omega)) (fun c k a1 a2 => h7 c k (by unfold rq_RR; omega)), h10⟩
      · have e5 : M_C_Reader_readNumber σ2 0 1 = some (0, σ3) := s4
        have e6 : M_R_RangeTellerModel_number (rt_up τ2 12 f (nI l)) 0 1 = some (w0, τ3) := s5
        rw [e5, rq_b2, if_neg (by rw [s8]; exact rq_n3 (by omega)), e6, rq_b2, rq_wr (n := 3) rfl hf (by decide), rq_b, rq_50F (by rw [rq_c (by decide)]; exact s10)]
        refine Or.inl ⟨j, σ3, _, s1, rfl, rfl, tC (tC (tC rq_A.rf p6) q6) s6, uR (tR (uR (tR (uR (tR rq_A.rf p7) (by omega)) q7) (by omega)) s7) (by omega), ?_, s8, by rw [rq_c (by decide)]; exact s9, by rw [rq_c (by decide)]; exact s10⟩
        rw [rq_c (by decide), s7 0 16 (by unfold rq_SR; omega), rq_c (by decide), q7 0 16 (by unfold rq_SR; omega), rq_c (by decide), p7 0 16 (by unfold rq_SR; omega)]
    · have e3 : M_C_Reader_readNumber σ1 0 2 = some (0, σ2) := q4
      have e4 : M_R_RangeTellerModel_number (rt_up τ1 11 f (nI p)) 0 2 = some (w0, τ2) := q5
      have nf : ¬ σ2 14 6 = -3 := by rw [q8]; exact rq_n3 (by omega)
      rw [e3, rq_b2, rq_numF nf, rq_b2, if_neg nf, e4, rq_b2, rq_wr (n := 3) rfl hf (by decide), rq_b, rq_31F (by rw [rq_c (by decide)]; exact q10)]
      refine Or.inl ⟨j, σ2, _, q1, rfl, rfl, tC (tC rq_A.rf p6) q6, uR (tR (uR (tR rq_A.rf p7) (by omega)) q7) (by omega), ?_, q8, by rw [rq_c (by decide)]; exact q9, by rw [rq_c (by decide)]; exact q10⟩
      rw [rq_c (by decide), q7 0 16 (by unfold rq_SR; omega), rq_c (by decide), p7 0 16 (by unfold rq_SR; omega)]
  · have e1 : M_C_Reader_readNumber σ 0 2 = some (0, σ1) := p4
    have e2 : M_R_RangeTellerModel_number τ 0 2 = some (w0, τ1) := p5
    have nf : ¬ σ1 14 6 = -3 := by rw [p8]; exact rq_n3 (by omega)
    rw [e1, rq_b2, rq_numF nf, rq_b2, rq_numF nf, rq_b2, if_neg nf, e2, rq_b2, rq_wr (n := 3) rfl hf (by decide), rq_b, if_neg (by rw [rq_c (by decide), p10]; decide), rq_31F (by rw [rq_c (by decide)]; exact p10)]
    refine Or.inl ⟨j, σ1, _, p1, rfl, rfl, tC rq_A.rf p6, uR (tR rq_A.rf p7) (by omega), ?_, p8, by rw [rq_c (by decide)]; exact p9, by rw [rq_c (by decide)]; exact p10⟩
    rw [rq_c (by decide), p7 0 16 (by unfold rq_SR; omega)]
end RQA
