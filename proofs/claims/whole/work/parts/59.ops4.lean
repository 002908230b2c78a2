/-! checking: ELSE and END -/
section CK8
variable {N F k hh L : Nat} {op ar ow en el pa lo re fs : Nat → Nat} {σ τ u w : rt_St} {x bs gv lv xo : Nat} {r fr : List (Nat × Nat × Nat × Nat)}
theorem ck_base (h4 : u 17 4 = nI L) (hL : L < 101) : M_C_Checker_mustBeAtBase u = some (if u 17 5 = u 19 L then u else rt_up u 17 6 1) := by
  unfold M_C_Checker_mustBeAtBase
  rw [rq_rd (n := 101) h4 hL (by decide), rq_b]
  by_cases c : u 17 5 = u 19 L
  · rw [if_pos c, if_pos c]
  · rw [if_neg c, if_neg c, rq_put, rq_b]
theorem ck_M.live (h : ck_M ((x, bs, gv, lv) :: r) hh σ τ) : ck_M ((x, bs, gv, 1) :: r) hh (rt_up σ 20 r.length 1) (rt_up τ 18 r.length 1) := by
  obtain ⟨h1, h2, h3, h4, h5, ⟨⟨a1, a2, a3⟩, ⟨b1, b2, b3, b4⟩, ⟨c1, c2, c3⟩, d1⟩, h7⟩ := h
  refine ⟨?_, ?_, ?_, ?_, ?_, ⟨⟨?_, ?_, ?_⟩, ⟨?_, ?_, ?_, ?_⟩, ⟨c1, c2, Nat.le_refl _⟩, d1.kp (fun c j x1 x2 x3 => ?_) (fun c j x1 x2 x3 => ?_)⟩, h7⟩
  · simpa [rq_if] using h1
  · simpa [rq_if] using h2
  · simpa [rq_if] using h3
  · simpa [rq_if] using h4
  · simpa [rq_if] using h5
  · simpa [rq_if] using a1
  · simpa [rq_if] using a2
  · simp [rq_if]; rfl
  · simpa [rq_if] using b1
  · simpa [rq_if] using b2
  · simpa [rq_if] using b3
  · simp [rq_if]; rfl
  · by_cases e : c = 20
    · subst e; rw [rq_k (by omega)]
    · rw [rq_c e]
  · by_cases e : c = 18
    · subst e; rw [rq_k (by omega)]
    · rw [rq_c e]
theorem ck_op4 (hT : rq_T N op ar ow en el σ τ) (hF : rq_TF F pa lo re fs σ τ) (hN : N ≤ 100) (hF3 : F ≤ 3) (hk : k < N) (hf : ow k < F) (hM : ck_M ((xo + 1, bs, gv, lv) :: r) hh σ τ) (hr : r.length < 101) (hb : bs ≤ hh) (hx : xo < N) (hg : ar xo = gv) (hcl : en xo ≠ 0) (ho : op k = 4) :
    ck_out k σ τ (fun fr' hh' σ' τ' => fr' = (xo + 1, bs, gv, 1) :: r ∧ hh' = bs ∧ ¬ (lv = 1 ∧ hh < bs + gv) ∧ ck_h bs hh gv = bs ∧ σ' 7 k = nI (en xo + 1) ∧ σ' 8 k = nI bs ∧ σ' 9 k = nI gv) := by
  obtain ⟨⟨s2, s3, s4, s5, s6⟩, ⟨t2, t3, t4, -, -⟩, o1, o2, o3, o4⟩ := hT k hk
  obtain ⟨⟨y2, y3, -, y5, -⟩, -, -, -, y7, -⟩ := hT xo hx
  obtain ⟨m1, m2, m3, m4, m5, ⟨⟨a1, a2, a3⟩, ⟨b1, b2, b3, b4⟩, ⟨c1, c2, c3⟩, d1⟩, m7⟩ := id hM
  have l4 : σ 17 4 = nI r.length := by rw [m1, List.length_cons, nI_pred]
  have a1' : σ 18 r.length = nI xo := a1
  have c1' : bs ≤ 10 := c1
  have c2' : gv ≤ 1 := c2
  have eC : M_C_Checker_checkInstruction σ (nI k) = (M_C_Checker_take σ (nI gv)).bind fun σ3 => (M_C_Checker_mustBeAtBase σ3).bind fun σ4 => (rt_wr σ4 20 101 (σ4 17 4) 1).bind fun σ5 => (rt_rd σ5 5 100 (nI xo)).bind fun v6 => (rt_rd σ5 19 101 (σ5 17 4)).bind fun v7 => (M_C_Program_setJump σ5 (nI k) (v6 + 1) v7 (nI gv)).bind fun σ8 => some σ8 := by
    unfold M_C_Checker_checkInstruction
    rw [rq_rd (n := 100) rfl (by omega) (by decide), rq_b, s2, rq_rd (n := 100) rfl (by omega) (by decide), rq_b, s4, rq_rd (n := 3) rfl (by omega) (by decide), rq_b, ho]
    rw [if_neg (show ¬ nI 4 = 0 by decide), if_neg (show ¬ nI 4 = 1 by decide), if_neg (show ¬ nI 4 = 2 by decide), if_neg (show ¬ nI 4 = 3 by decide), if_pos (show nI 4 = 4 from rfl)]
    unfold M_C_Checker_checkElse
    rw [rq_rd (n := 101) l4 hr (by decide), rq_b, a1', rq_rd (n := 100) rfl (by omega) (by decide), rq_b, y3, hg]
    cases (M_C_Checker_take σ (nI gv)) with
    | none => rfl
    | some v =>
      show ((M_C_Checker_mustBeAtBase v).bind _).bind _ = (M_C_Checker_mustBeAtBase v).bind _
      rw [Option.bind_assoc]
      simp only [Option.bind_assoc, rq_b]
  have eR : M_R_RangeTellerModel_checkFlow τ (nI k) = rt_b2 (M_R_RangeTellerModel_drop τ (nI gv)) fun v37 σ36 => if v37 = 0 then some (0, σ36) else (rt_rd σ36 16 101 ((σ36 0 21) - 1)).bind fun v38 => if (σ36 0 26) = v38 then (rt_wr σ36 18 101 ((σ36 0 21) - 1) 1).bind fun σ39 => some (1, σ39) else some (0, σ36) := by
    unfold M_R_RangeTellerModel_checkFlow
    rw [rq_rd (n := 100) rfl (by omega) (by decide), rq_b, t3, rq_rd (n := 100) rfl (by omega) (by decide), rq_b, t4, rq_rd (n := 100) rfl (by omega) (by decide), rq_b, t2, ho]
    rw [if_neg (show ¬ nI 4 = 0 by decide), if_neg (show ¬ nI 4 = 1 by decide), if_neg (show ¬ nI 4 = 2 by decide), if_neg (show ¬ nI 4 = 3 by decide), if_pos (show nI 4 = 4 from rfl), rq_rd (n := 101) (i := r.length) (by rw [m2, List.length_cons, nI_pred]) hr (by decide), rq_b, b3]
  have eR0 := ck_inR hT hN hk (by omega)
  obtain ⟨σ1, τ1, p1, p2, p3, p4, p5, p6, p7, p8⟩ := hM.take (c := gv) hr hb (by omega)
  have h4 : σ1 17 4 = nI r.length := by rw [p3 17 4 (by unfold ck_A; omega)]; exact l4
  have h19 : σ1 19 r.length = nI bs := by rw [p3 19 _ (by unfold ck_A; omega)]; exact a2
  have h5x : σ1 5 xo = nI (en xo) := by rw [p3 5 _ (by unfold ck_A; omega), y5, rq_e1 hcl]
  rw [p1, rq_b, ck_base h4 hr, rq_b, p5, h19] at eC
  rw [p2, rq_b2] at eR
  have hk10 : ck_h bs hh gv < 1000 := by
    unfold ck_h
    by_cases y : bs + gv ≤ hh
    · rw [if_pos y]; omega
    · rw [if_neg y]; omega
  -- the rest of the code's side, from either state
  have tail : ∀ v : rt_St, v 17 4 = nI r.length → v 5 xo = nI (en xo) → v 19 r.length = nI bs → ((rt_wr v 20 101 (v 17 4) 1).bind fun σ5 => (rt_rd σ5 5 100 (nI xo)).bind fun v6 => (rt_rd σ5 19 101 (σ5 17 4)).bind fun v7 => (M_C_Program_setJump σ5 (nI k) (v6 + 1) v7 (nI gv)).bind fun σ8 => some σ8) = some (ck_j (rt_up v 20 r.length 1) k (nI (en xo + 1)) (nI bs) (nI gv)) := by
    intro v v1 v2 v3
    have e5 : (rt_up v 20 r.length 1) 5 xo = nI (en xo) := by rw [rq_c (by decide)]; exact v2
    have e19 : (rt_up v 20 r.length 1) 19 r.length = nI bs := by rw [rq_c (by decide)]; exact v3
    rw [rq_wr (n := 101) v1 hr (by decide), rq_b, rq_rd (n := 100) rfl (by omega) (by decide), rq_b, e5, rq_rd (n := 101) (i := r.length) (by rw [rq_c (by decide)]; exact v1) hr (by decide), rq_b, e19, nI_1, ck_set (by omega), rq_b]
  by_cases z : ck_h bs hh gv = bs
  · rw [if_pos (by rw [z]), tail σ1 h4 h5x h19] at eC
    have K1 : rq_A (ck_kC k) σ (ck_j (rt_up σ1 20 r.length 1) k (nI (en xo + 1)) (nI bs) (nI gv)) := ck_jA ((p3.mono (fun c j h => ck_AC h)).up (by unfold ck_kC ck_C; omega))
    have K2 : rq_A (ck_kR k) τ τ1 := p4.mono (fun c j h => ck_BR h)
    by_cases y : lv = 1 ∧ hh < bs + gv
    · rw [if_pos y, if_pos rfl] at eR
      rw [eR, rq_b2, ck_zok0] at eR0
      exact ⟨_, eC, K1, Or.inl ⟨τ1, eR0, K2, by rw [ck_jk (by omega), rq_c (by decide)]; exact p7 y⟩⟩
    · have hm := p8 y
      have n2 : τ1 0 21 - 1 = nI r.length := by rw [hm.2.1, List.length_cons, nI_pred]
      rw [if_neg y, if_neg (by decide), rq_rd (n := 101) n2 hr (by decide), rq_b, hm.2.2.2.2.2.1.2.1.2.1, p6, if_pos (by rw [z]), rq_wr (n := 101) n2 hr (by decide), rq_b] at eR
      rw [eR, rq_b2, ck_zok1] at eR0
      refine ⟨_, eC, K1, Or.inr ⟨_, _, _, eR0, K2.up (by unfold ck_kR ck_R; omega), hm.live.kp (fun j => ck_jk (by omega)) (fun c j _ _ => ck_jk (by omega)) (fun _ _ => rfl) (fun _ _ _ _ => rfl), rfl, z, y, z, ?_, ?_, ?_⟩⟩
      · simp [ck_j, rq_if]
      · simp [ck_j, rq_if]
      · simp [ck_j, rq_if]
  · have zc : ¬ nI (ck_h bs hh gv) = nI bs := fun e => z ((nI_eq (by omega) (by omega)).mp e)
    rw [if_neg zc, tail (rt_up σ1 17 6 1) (by rw [rq_k (by decide)]; exact h4) (by rw [rq_c (by decide)]; exact h5x) (by rw [rq_c (by decide)]; exact h19)] at eC
    have K1 : rq_A (ck_kC k) σ (ck_j (rt_up (rt_up σ1 17 6 1) 20 r.length 1) k (nI (en xo + 1)) (nI bs) (nI gv)) := ck_jA (((p3.mono (fun c j h => ck_AC h)).up (by unfold ck_kC ck_C; omega)).up (by unfold ck_kC ck_C; omega))
    have K2 : rq_A (ck_kR k) τ τ1 := p4.mono (fun c j h => ck_BR h)
    have w6 : ck_j (rt_up (rt_up σ1 17 6 1) 20 r.length 1) k (nI (en xo + 1)) (nI bs) (nI gv) 17 6 = 1 := by rw [ck_jk (by omega), rq_c (by decide), rq_s]
    refine ⟨_, eC, K1, Or.inl ⟨τ1, ?_, K2, w6⟩⟩
    by_cases y : lv = 1 ∧ hh < bs + gv
    · rw [if_pos y, if_pos rfl] at eR
      rw [eR, rq_b2, ck_zok0] at eR0
      exact eR0
    · have hm := p8 y
      have n2 : τ1 0 21 - 1 = nI r.length := by rw [hm.2.1, List.length_cons, nI_pred]
      rw [if_neg y, if_neg (by decide), rq_rd (n := 101) n2 hr (by decide), rq_b, hm.2.2.2.2.2.1.2.1.2.1, p6, if_neg zc] at eR
      rw [eR, rq_b2, ck_zok0] at eR0
      exact eR0
end CK8
