/-! reading: an op that stands: its argument, and the step -/
section RQ8
variable {n i f N o : Nat} {b : Nat → Nat} {st : List Nat} {op ar ow en el : Nat → Nat} {σ τ u w : rt_St}
theorem rq_RS.kp {j : Nat} (h : rq_RS n j b σ τ) (h1 : ∀ k, (k = 3 ∨ k = 4 ∨ k = 6) → u 14 k = σ 14 k) (h2 : ∀ j, u 15 j = σ 15 j) (h3 : ∀ k, (k = 0 ∨ k = 2 ∨ k = 3) → w 0 k = τ 0 k) (h4 : ∀ j, w 1 j = τ 1 j) : rq_RS n j b u w := by
  unfold rq_RS
  rw [h1 3 (by decide), h1 4 (by decide), h1 6 (by decide), h3 0 (by decide), h3 2 (by decide), h3 3 (by decide)]
  simp only [h2, h4]
  exact h
/-- one turn of the reference's loop, once the op has been seen to stand -/
theorem rq_163 {K : Int32 → Int32 → rt_St → Option rt_St} (h6 : w 0 6 = nI N) (hN : N < 100) : B_R_RangeTellerModel_readFunction_163 K (nI f) (nI o) 1 w = (M_R_RangeTellerModel_hasArgument (nI o)).bind fun v12 => if v12 = 0 then B_R_RangeTellerModel_readFunction_255 K (nI f) (nI o) (nI N) 0 (nI N) (rq_rw w N o f) else if 4 ≤ nI o then B_R_RangeTellerModel_readFunction_248 K (nI f) (nI o) (nI N) 63 0 (nI N) (rq_rw w N o f) else B_R_RangeTellerModel_readFunction_248 K (nI f) (nI o) (nI N) 1 0 (nI N) (rq_rw w N o f) := by
  unfold B_R_RangeTellerModel_readFunction_163 rq_rw
  rw [if_neg (by decide), rq_wr (n := 100) h6 hN (by decide), rq_b, rq_wr (n := 100) h6 hN (by decide), rq_b, rq_wr (n := 100) h6 hN (by decide), rq_b, rq_wr (n := 100) h6 hN (by decide), rq_b, h6]
theorem rq_1630 {K : Int32 → Int32 → rt_St → Option rt_St} {l1 : Int32} (h2 : w 0 2 = nI (i + 1)) : B_R_RangeTellerModel_readFunction_163 K l1 (nI o) 0 w = some (rt_up (rt_up w 0 3 1) 0 2 (nI i)) := by
  unfold B_R_RangeTellerModel_readFunction_163
  rw [if_pos rfl, rq_put, rq_b, rq_put, rq_b, rq_k (by decide), h2, nI_pred]
theorem rq_good (h : rq_RS n i b σ τ) (hD : rq_RD f N st op ar ow en el σ τ) (hNi : N < i) (c0 : i < n) (ho : b i = o) (c1 : o < 29) (q1 : M_C_Reader_readInstruction σ = B_C_Reader_readInstruction_56 σ) (q2 : ∀ m, B_R_RangeTellerModel_readFunction_75 (m + 1) (nI f) 0 τ = B_R_RangeTellerModel_readFunction_163 (B_R_RangeTellerModel_readFunction_75 m) (nI f) (nI o) 1 (rt_up τ 0 2 (nI (i + 1)))) (q3 : o = 4 → rq_fit op el st = true) :
    (∃ j σ' τ', j ≤ n ∧ M_C_Reader_readInstruction σ = some (0, σ') ∧ (∀ m, B_R_RangeTellerModel_readFunction_75 (m + 1) (nI f) 0 τ = some τ') ∧ rq_A rq_RC σ σ' ∧ rq_A rq_RR τ τ' ∧ σ' 14 6 = nI j ∧ τ' 0 2 = nI j ∧ τ' 0 3 = 1) ∨
    (∃ e a j σ' τ' st' en' el', e ≤ 1 ∧ i < j ∧ o < 29 ∧ a < 64 ∧ (1 ≤ o → o ≤ 3 → a ≤ 1) ∧ M_C_Reader_readInstruction σ = some (nI e, σ') ∧ (∀ m, B_R_RangeTellerModel_readFunction_75 (m + 1) (nI f) 0 τ = B_R_RangeTellerModel_readFunction_75 m (nI f) (nI e) τ') ∧ rq_A rq_RC σ σ' ∧ rq_A rq_RR τ τ' ∧ rq_RS n j b σ' τ' ∧ rq_RD f (N + 1) st' (rq_U op N o) (rq_U ar N a) (rq_U ow N f) en' el' σ' τ' ∧ rq_Nx o N st st' op en en' el el' e) := by
  have h0 := h
  obtain ⟨hn, hin, a3, a0, a4, a2, a6, ab, hb⟩ := h
  obtain ⟨hT, d12, d6, d13, d5, d21, ds, dt, dl, dx⟩ := hD
  have hN : N < 100 := by omega
  obtain ⟨hb1, hb2, hb3⟩ := hb i c0
  have r1 : rq_RS n (i + 1) b (rt_up σ 14 4 (nI (i + 1))) (rq_rw (rt_up τ 0 2 (nI (i + 1))) N o f) := (h0.at (j := i + 1) (by omega)).kp (fun _ _ => rfl) (fun _ => rfl) (fun k _ => by simp [rq_rw, rq_if]) (fun j => by simp [rq_rw, rq_if])
  have eC : M_C_Reader_readInstruction σ = ((M_C_Ops_hasArgument (nI o)).bind fun v7 => if v7 = 0 then B_C_Reader_readInstruction_104 (nI o) 0 (rt_up σ 14 4 (nI (i + 1))) else (M_C_Ops_opens (nI o)).bind fun v12 => if v12 = 0 then B_C_Reader_readInstruction_100 (nI o) 63 0 (rt_up σ 14 4 (nI (i + 1))) else B_C_Reader_readInstruction_100 (nI o) 1 0 (rt_up σ 14 4 (nI (i + 1)))) := by
    rw [q1]
    unfold B_C_Reader_readInstruction_56
    rw [rq_rd (n := 100) a4 (by omega) (by decide), rq_b, rq_put, rq_b, hb2, ho, a4, nI_1]
  have eR : ∀ m, B_R_RangeTellerModel_readFunction_75 (m + 1) (nI f) 0 τ = _ := fun m => (q2 m).trans (rq_163 (N := N) (by rw [rq_k (by decide)]; exact d6) hN)
  have sRC : ∀ {u v : rt_St}, rq_A rq_RC σ u → rq_A rq_SC u v → rq_A rq_RC σ v := fun h1 h2 => h1.tr (h2.mono (fun c k hs => by unfold rq_RC at hs; unfold rq_SC; omega))
  have sRR : ∀ {u v : rt_St}, rq_A rq_RR τ u → rq_A (fun c k => rq_SR c k ∧ ¬ (c = 3 ∧ k = N)) u v → rq_A rq_RR τ v := fun h1 h2 => h1.tr (h2.mono (fun c k hs => by unfold rq_RR at hs; unfold rq_SR; omega))
  have f1 : rq_A rq_RC σ (rt_up σ 14 4 (nI (i + 1))) := rq_A.rf.up (by unfold rq_RC; omega)
  have f2 : rq_A rq_RR τ (rq_rw (rt_up τ 0 2 (nI (i + 1))) N o f) := ((((rq_A.rf.up (by unfold rq_RR; omega)).up (by unfold rq_RR; omega)).up (by unfold rq_RR; omega)).up (by unfold rq_RR; omega)).up (by unfold rq_RR; omega)
  rcases rq_arg (N := N) r1 c1 hN (nI f) with ⟨a, j, σ2, τ2, k1, k2, k3, k4, k5, k6, k7, k8⟩ | ⟨j, σ2, τ2, k1, k2, k3, k4, k5, k6, k7, k8⟩
  · have eC := eC.trans k7
    have eR : ∀ m, B_R_RangeTellerModel_readFunction_75 (m + 1) (nI f) 0 τ = B_R_RangeTellerModel_readFunction_255 (B_R_RangeTellerModel_readFunction_75 m) (nI f) (nI o) (nI N) (nI a) (nI N) τ2 := fun m => (eR m).trans (k8 _)
    -- what the states behind the argument hold
    have g12 : σ2 1 12 = nI N := by rw [k4 1 12 (by unfold rq_SC; omega), rq_c (by decide)]; exact d12
    have g13 : σ2 1 13 = nI (f + 1) := by rw [k4 1 13 (by unfold rq_SC; omega), rq_c (by decide)]; exact d13
    have g5 : σ2 14 5 = nI st.length := by rw [k4 14 5 (by unfold rq_SC; omega), rq_k (by decide)]; exact d5
    have g16 : ∀ k, σ2 16 k = σ 16 k := fun k => by rw [k4 16 k (by unfold rq_SC; omega), rq_c (by decide)]
    have gT : ∀ c k, 2 ≤ c → c ≤ 6 → σ2 c k = σ c k := fun c k h1 h2 => by rw [k4 c k (by unfold rq_SC; omega), rq_c (by omega)]
    have w6 : τ2 0 6 = nI N := by rw [k5 0 6 (by unfold rq_SR; omega)]; simpa [rq_rw, rq_if] using d6
    have w21 : τ2 0 21 = nI st.length := by rw [k5 0 21 (by unfold rq_SR; omega)]; simpa [rq_rw, rq_if] using d21
    have w15 : ∀ k, τ2 15 k = τ 15 k := fun k => by rw [k5 15 k (by unfold rq_SR; omega)]; simp [rq_rw, rq_if]
    have wT : ∀ c k, 2 ≤ c → c ≤ 6 → τ2 c k = rq_rw τ N o f c k := fun c k h1 h2 => by
      rw [k5 c k (by unfold rq_SR; omega)]
      have e0 : ¬ c = 0 := by omega
      simp [rq_rw, rq_if, e0]
    have g6 : σ2 14 6 = -3 := k6.2.2.2.2.2.2.1
    have w3 : τ2 0 3 = 0 := k6.2.2.2.2.2.2.2.1
    have eC2 : M_C_Reader_readInstruction σ = rt_b2 (M_C_Reader_nest (rq_ca σ2 N o a f) (nI o) (nI N)) fun v11 σ10 => (rt_zok v11).bind fun _ => some (v11, σ10) := by
      rw [eC]
      unfold B_C_Reader_readInstruction_104
      rw [if_pos g6, rq_add g12 g13 hN, rq_b2]
    have eR2 := fun m => (eR m).trans (rq_255 (K := B_R_RangeTellerModel_readFunction_75 m) (l1 := nI f) (o := o) (a := a) w6 w3 hN)
    have bT := rq_base (o := o) (a := a) (f := f) hT gT wT c1 k1
    have F1 : rq_A rq_RC σ (rq_ca σ2 N o a f) := ((((((sRC f1 k4).up (by unfold rq_RC; omega)).up (by unfold rq_RC; omega)).up (by unfold rq_RC; omega)).up (by unfold rq_RC; omega)).up (by unfold rq_RC; omega)).up (by unfold rq_RC; omega)
    have F2 : rq_A rq_RR τ (rq_ra τ2 N a) := ((sRR f2 (k5.mono (fun c k hs => hs.1))).up (by unfold rq_RR; omega)).up (by unfold rq_RR; omega)
    have bS : rq_RS n j b (rq_ca σ2 N o a f) (rq_ra τ2 N a) := k6.kp (fun k _ => by simp [rq_ca, rq_if]) (fun k => by simp [rq_ca, rq_if]) (fun k hk => by simp [rq_ra, rq_if]; omega) (fun k => by simp [rq_ra, rq_if])
    have u5 : rq_ca σ2 N o a f 14 5 = nI st.length := by simpa [rq_ca, rq_if] using g5
    have u16 : ∀ k, rq_ca σ2 N o a f 16 k = σ 16 k := fun k => by simpa [rq_ca, rq_if] using g16 k
    have v21 : rq_ra τ2 N a 0 21 = nI st.length := by simpa [rq_ra, rq_if] using w21
    have v15 : ∀ k, rq_ra τ2 N a 15 k = τ 15 k := fun k => by simpa [rq_ra, rq_if] using w15 k
    have u12 : rq_ca σ2 N o a f 1 12 = nI (N + 1) := by simp [rq_ca, rq_if]
    have u13 : rq_ca σ2 N o a f 1 13 = nI (f + 1) := by simpa [rq_ca, rq_if] using g13
    have v6 : rq_ra τ2 N a 0 6 = nI (N + 1) := by simp [rq_ra, rq_if]
    have bs : rq_stk (rq_ca σ2 N o a f) 16 st := ds.kp (fun k _ => u16 k)
    have bt : rq_stk (rq_ra τ2 N a) 15 st := dt.kp (fun k _ => v15 k)
    have hij : i < j := by omega
    right
    have U1 : ∀ {c k : Nat} {y : Int32} {v : rt_St}, rq_A rq_RC σ v → (2 ≤ c ∧ c ≤ 6 ∨ c = 16 ∨ (c = 14 ∧ k = 5)) → rq_A rq_RC σ (rt_up v c k y) := fun h1 h2 => h1.up (by unfold rq_RC; omega)
    have V1 : ∀ {c k : Nat} {y : Int32} {v : rt_St}, rq_A rq_RR τ v → (2 ≤ c ∧ c ≤ 6 ∨ c = 15 ∨ (c = 0 ∧ k = 21)) → rq_A rq_RR τ (rt_up v c k y) := fun h1 h2 => h1.up (by unfold rq_RR; omega)
    have n5 : o ≠ 5 → ¬ nI o = 5 := fun hne e => hne ((nI_eq (b := 5) (by omega) (by decide)).mp e)
    by_cases cA : 1 ≤ o ∧ o ≤ 3
    · refine ⟨0, a, j, rt_up (rt_up (rq_ca σ2 N o a f) 16 st.length (nI N)) 14 5 (nI (st.length + 1)), rt_up (rt_up (rq_ra τ2 N a) 15 st.length (nI N)) 0 21 (nI (st.length + 1)), N :: st, rq_U en N 0, rq_U el N 0, by decide, hij, c1, k1, k2, ?_, ?_, U1 (U1 F1 (by omega)) (by omega), V1 (V1 F2 (by omega)) (by omega), ?_, ?_, Or.inl ⟨cA.1, cA.2, rfl, rfl, rfl, rfl⟩⟩
      · rw [eC2, rq_nestO u5 (by omega) cA.1 cA.2, rq_b2]; rfl
      · intro m; rw [eR2 m, if_neg (n5 (by omega)), rq_291O v21 (by omega) cA.1 cA.2]; rfl
      · exact bS.kp (fun k hk => by rcases hk with rfl | rfl | rfl <;> simp [rq_if]) (fun k => by simp [rq_if]) (fun k hk => by rcases hk with rfl | rfl | rfl <;> simp [rq_if]) (fun k => by simp [rq_if])
      · refine ⟨bT.kp (fun c k h1 h2 => by rw [rq_c (by omega), rq_c (by omega)]) (fun c k h1 h2 => by rw [rq_c (by omega), rq_c (by omega)]), by rw [rq_c (by decide), rq_c (by decide)]; exact u12, by rw [rq_k (by decide), rq_c (by decide)]; exact v6, by rw [rq_c (by decide), rq_c (by decide)]; exact u13, rq_s, rq_s, ⟨by rw [rq_c (by decide), rq_s], bs.kp (fun k hk => by rw [rq_c (by decide), rq_k (by omega)])⟩, ⟨by rw [rq_c (by decide), rq_s], bt.kp (fun k hk => by rw [rq_c (by decide), rq_k (by omega)])⟩, by simp; omega, ?_⟩
        intro y hy
        rcases List.mem_cons.mp hy with rfl | hy
        · omega
        · have := dx y hy; omega
    · by_cases cB : o = 4
      · have hf := q3 cB
        subst cB
        cases st with
        | nil => exact absurd hf (by simp [rq_fit])
        | cons x r =>
          have hxN := dx x List.mem_cons_self
          have hr : r.length + 1 ≤ N := dl
          have hf2 : op x = 3 ∧ el x = 0 := by simpa [rq_fit] using hf
          refine ⟨0, a, j, rt_up (rq_ca σ2 N 4 a f) 6 x (nI N), rt_up (rq_ra τ2 N a) 6 x (nI N), x :: r, rq_U en N 0, rq_U (rq_U el N 0) x N, by decide, hij, c1, k1, k2, ?_, ?_, U1 F1 (by omega), V1 F2 (by omega), ?_, ?_, Or.inr (Or.inl ⟨rfl, rfl, x, r, rfl, hf2.1, hf2.2, rfl, rfl, rfl⟩)⟩
          · rw [eC2, rq_nestE u5 bs.1 (by omega) (by omega), rq_b2]; rfl
          · intro m; rw [eR2 m, if_neg (n5 (by decide)), rq_291E v21 bt.1 (by omega) (by omega)]; rfl
          · exact bS.kp (fun k _ => rq_c (by decide)) (fun k => rq_c (by decide)) (fun k _ => rq_c (by decide)) (fun k => rq_c (by decide))
          · refine ⟨bT.se (by omega) (by omega) (by omega), by rw [rq_c (by decide)]; exact u12, by rw [rq_c (by decide)]; exact v6, by rw [rq_c (by decide)]; exact u13, by rw [rq_c (by decide)]; exact u5, by rw [rq_c (by decide)]; exact v21, bs.kp (fun k _ => rq_c (by decide)), bt.kp (fun k _ => rq_c (by decide)), by omega, fun y hy => ?_⟩
            have := dx y hy; omega
      · by_cases cC : o = 5
        · subst cC
          cases st with
          | nil =>
            refine ⟨1, a, j, rq_ca σ2 N 5 a f, rq_ra τ2 N a, [], rq_U en N 0, rq_U el N 0, by decide, hij, c1, k1, k2, ?_, ?_, F1, F2, bS, ?_, Or.inr (Or.inr (Or.inr (Or.inl ⟨rfl, rfl, rfl, rfl, rfl, rfl⟩)))⟩
            · rw [eC2, rq_nest50 u5, rq_b2]; rfl
            · intro m; rw [eR2 m, if_pos (show nI 5 = 5 from rfl), if_pos (show τ2 0 21 = 0 from w21), rq_29150]; rfl
            · exact ⟨bT, u12, v6, u13, u5, v21, trivial, trivial, Nat.zero_le _, fun y hy => absurd hy List.not_mem_nil⟩
          | cons x r =>
            have hxN := dx x List.mem_cons_self
            have hr : r.length + 1 ≤ N := dl
            obtain ⟨⟨-, -, -, -, t6⟩, ⟨-, -, -, -, s6⟩, -, -, -, e6⟩ := bT x (by omega)
            rw [rq_U_n (by omega)] at t6 s6
            have hel : el x < N := (hT x hxN).2.2.2.2.2
            have w21' : ¬ τ2 0 21 = 0 := by rw [w21]; exact nI_ne0 (by simp) (by simp; omega)
            have cC := rq_nest5 (N := N) u5 bs.1 (by omega) (by omega) t6 (by omega)
            have cR : ∀ m, _ := fun m => rq_2915 (K := B_R_RangeTellerModel_readFunction_75 m) (l1 := nI f) (N := N) v21 bt.1 (by omega) (by omega) s6 (by omega)
            have p1 : rq_T (N + 1) (rq_U op N 5) (rq_U ar N a) (rq_U ow N f) (rq_U (rq_U en N 0) x N) (rq_U el N 0) (rt_up (rt_up (rq_ca σ2 N 5 a f) 14 5 (nI r.length)) 5 x (nI N)) (rt_up (rt_up (rq_ra τ2 N a) 0 21 (nI r.length)) 5 x (nI N)) := (bT.kp (fun c k h1 h2 => rq_c (by omega)) (fun c k h1 h2 => rq_c (by omega))).sn (by omega) (by omega) (by omega)
            have lst : ∀ y ∈ r, y < N + 1 := fun y hy => by have := dx y (List.mem_cons_of_mem _ hy); omega
            by_cases c9 : el x = 0
            · rw [if_pos c9] at cC
              refine ⟨0, a, j, rt_up (rt_up (rq_ca σ2 N 5 a f) 14 5 (nI r.length)) 5 x (nI N), rt_up (rt_up (rq_ra τ2 N a) 0 21 (nI r.length)) 5 x (nI N), r, rq_U (rq_U en N 0) x N, rq_U el N 0, by decide, hij, c1, k1, k2, ?_, ?_, U1 (U1 F1 (by omega)) (by omega), V1 (V1 F2 (by omega)) (by omega), ?_, ?_, Or.inr (Or.inr (Or.inl ⟨rfl, rfl, x, r, rfl, rfl, rfl, ?_⟩))⟩
              · rw [eC2, cC, rq_b2]; rfl
              · intro m; rw [eR2 m, if_pos (show nI 5 = 5 from rfl), if_neg w21', cR m, if_pos c9]; rfl
              · exact bS.kp (fun k hk => by rcases hk with rfl | rfl | rfl <;> simp [rq_if]) (fun k => by simp [rq_if]) (fun k hk => by rcases hk with rfl | rfl | rfl <;> simp [rq_if]) (fun k => by simp [rq_if])
              · exact ⟨p1, by rw [rq_c (by decide), rq_c (by decide)]; exact u12, by rw [rq_c (by decide), rq_k (by decide)]; exact v6, by rw [rq_c (by decide), rq_c (by decide)]; exact u13, by rw [rq_c (by decide), rq_s], by rw [rq_c (by decide), rq_s], bs.2.kp (fun k _ => by rw [rq_c (by decide), rq_c (by decide)]), bt.2.kp (fun k _ => by rw [rq_c (by decide), rq_c (by decide)]), by omega, lst⟩
              · funext k
                by_cases e1 : k = x
                · subst e1; simp [rq_U]
                · simp [rq_U, e1, c9]
            · rw [if_neg c9] at cC
              refine ⟨0, a, j, rt_up (rt_up (rt_up (rq_ca σ2 N 5 a f) 14 5 (nI r.length)) 5 x (nI N)) 5 (el x) (nI N), rt_up (rt_up (rt_up (rq_ra τ2 N a) 0 21 (nI r.length)) 5 x (nI N)) 5 (el x) (nI N), r, rq_U (rq_U (rq_U en N 0) x N) (el x) N, rq_U el N 0, by decide, hij, c1, k1, k2, ?_, ?_, U1 (U1 (U1 F1 (by omega)) (by omega)) (by omega), V1 (V1 (V1 F2 (by omega)) (by omega)) (by omega), ?_, ?_, Or.inr (Or.inr (Or.inl ⟨rfl, rfl, x, r, rfl, rfl, rfl, ?_⟩))⟩
              · rw [eC2, cC, rq_b2]; rfl
              · intro m; rw [eR2 m, if_pos (show nI 5 = 5 from rfl), if_neg w21', cR m, if_neg c9]; rfl
              · exact bS.kp (fun k hk => by rcases hk with rfl | rfl | rfl <;> simp [rq_if]) (fun k => by simp [rq_if]) (fun k hk => by rcases hk with rfl | rfl | rfl <;> simp [rq_if]) (fun k => by simp [rq_if])
              · exact ⟨p1.sn (by omega) (by omega) (by omega), by rw [rq_c (by decide), rq_c (by decide), rq_c (by decide)]; exact u12, by rw [rq_c (by decide), rq_c (by decide), rq_k (by decide)]; exact v6, by rw [rq_c (by decide), rq_c (by decide), rq_c (by decide)]; exact u13, by rw [rq_c (by decide), rq_c (by decide), rq_s], by rw [rq_c (by decide), rq_c (by decide), rq_s], bs.2.kp (fun k _ => by rw [rq_c (by decide), rq_c (by decide), rq_c (by decide)]), bt.2.kp (fun k _ => by rw [rq_c (by decide), rq_c (by decide), rq_c (by decide)]), by omega, lst⟩
              · funext k
                by_cases e1 : k = x
                · rw [if_pos (Or.inl e1)]
                  unfold rq_U
                  by_cases e2 : k = el x
                  · rw [if_pos e2]
                  · rw [if_neg e2, if_pos e1]
                · by_cases e2 : k = el x
                  · simp [rq_U, e2, c9]
                  · simp [rq_U, e1, e2]
        · refine ⟨0, a, j, rq_ca σ2 N o a f, rq_ra τ2 N a, st, rq_U en N 0, rq_U el N 0, by decide, hij, c1, k1, k2, ?_, ?_, F1, F2, bS, ?_, Or.inr (Or.inr (Or.inr (Or.inr ⟨cA, cB, cC, rfl, rfl, rfl, rfl⟩)))⟩
          · rw [eC2, rq_nestN c1 cA cB cC, rq_b2]; rfl
          · intro m; rw [eR2 m, if_neg (n5 cC), rq_291N c1 cA cB cC]; rfl
          · exact ⟨bT, u12, v6, u13, u5, v21, bs, bt, by omega, fun y hy => by have := dx y hy; omega⟩
  · have eC := eC.trans k7
    exact Or.inl ⟨j, σ2, τ2, k1, eC, fun m => (eR m).trans (k8 _), sRC f1 k2, sRR f2 k3, k4, k5, k6⟩
end RQ8
