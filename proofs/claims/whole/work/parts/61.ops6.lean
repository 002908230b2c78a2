/-! checking: the END of a frame within a function -/
section CKA
variable {N F k hh : Nat} {op ar ow en el pa lo re fs : Nat → Nat} {σ τ : rt_St} {bs gv lv xo : Nat} {r : List (Nat × Nat × Nat × Nat)}
theorem ck_M.ht {fr : List (Nat × Nat × Nat × Nat)} {h2 : Nat} (h : ck_M fr hh σ τ) (hy : h2 ≤ 10) : ck_M fr h2 (rt_up σ 17 5 (nI h2)) (rt_up τ 0 26 (nI h2)) := by
  obtain ⟨a1, a2, a3, a4, a5, a6, a7⟩ := h
  exact ⟨by rw [rq_k (by decide)]; exact a1, by rw [rq_k (by decide)]; exact a2, rq_s, rq_s, by rw [rq_k (by decide)]; exact a5, a6.kp (fun c j x1 x2 x3 => rq_c (by omega)) (fun c j x1 x2 x3 => rq_c (by omega)), hy⟩
theorem ck_op5i (hT : rq_T N op ar ow en el σ τ) (hF : rq_TF F pa lo re fs σ τ) (hN : N ≤ 100) (hF3 : F ≤ 3) (hk : k < N) (hf : ow k < F) (hM : ck_M ((xo + 1, bs, gv, lv) :: r) hh σ τ) (hr : r.length < 101) (hr0 : 0 < r.length) (hb : bs ≤ hh) (hx : xo < N) (hg : ar xo = gv) (ho : op k = 5) :
    ck_out k σ τ (fun fr' hh' σ' τ' => fr' = r ∧ hh' = bs + gv ∧ ¬ (lv = 1 ∧ hh < bs + gv) ∧ ck_h bs hh gv = bs ∧ ¬ (op xo = 3 ∧ gv = 1 ∧ el xo = 0) ∧ σ' 7 k = nI (k + 1) ∧ σ' 8 k = nI bs ∧ σ' 9 k = nI gv) := by
  obtain ⟨⟨s2, s3, s4, s5, s6⟩, ⟨t2, t3, t4, -, -⟩, o1, o2, o3, o4⟩ := hT k hk
  obtain ⟨⟨y2, y3, -, -, y6⟩, ⟨z2, -, -, -, z6⟩, w1, -, -, w4⟩ := hT xo hx
  obtain ⟨f1, f2, f3, f4, -⟩ := hF (ow k) hf
  obtain ⟨m1, m2, m3, m4, m5, ⟨⟨a1, a2, a3⟩, ⟨b1, b2, b3, b4⟩, ⟨c1, c2, c3⟩, d1⟩, m7⟩ := id hM
  have l4 : σ 17 4 = nI r.length := by rw [m1]; exact nI_pred _
  have a1' : σ 18 r.length = nI xo := a1
  have a2' : σ 19 r.length = nI bs := a2
  have b1' : τ 15 r.length = nI xo := b1
  have b2' : τ 16 r.length = nI bs := b2
  have b3' : τ 17 r.length = nI gv := b3
  have c1' : bs ≤ 10 := c1
  have c2' : gv ≤ 1 := c2
  have nxo : ¬ nI xo = -3 := rq_n3 (by omega)
  have eC : M_C_Checker_checkInstruction σ (nI k) = (B_C_Checker_checkEnd_40 (nI k) (nI xo) (nI bs) (nI gv) σ).bind fun σ14 => some σ14 := by
    unfold M_C_Checker_checkInstruction
    rw [rq_rd (n := 100) rfl (by omega) (by decide), rq_b, s2, rq_rd (n := 100) rfl (by omega) (by decide), rq_b, s4, rq_rd (n := 3) rfl (by omega) (by decide), rq_b, f4, ho]
    rw [if_neg (show ¬ nI 5 = 0 by decide), if_neg (show ¬ nI 5 = 1 by decide), if_neg (show ¬ nI 5 = 2 by decide), if_neg (show ¬ nI 5 = 3 by decide), if_neg (show ¬ nI 5 = 4 by decide), if_pos (show nI 5 = 5 from rfl)]
    unfold M_C_Checker_checkEnd
    rw [rq_rd (n := 101) l4 hr (by decide), rq_b, a1', rq_rd (n := 101) l4 hr (by decide), rq_b, a2', if_neg nxo, rq_rd (n := 100) rfl (by omega) (by decide), rq_b, y3, hg]
  have eR : M_R_RangeTellerModel_checkFlow τ (nI k) = rt_b2 (M_R_RangeTellerModel_checkEnd τ (nI k)) fun v34 σ33 => (rt_zok v34).bind fun _ => some (v34, σ33) := by
    unfold M_R_RangeTellerModel_checkFlow
    rw [rq_rd (n := 100) rfl (by omega) (by decide), rq_b, t3, rq_rd (n := 100) rfl (by omega) (by decide), rq_b, t4, rq_rd (n := 100) rfl (by omega) (by decide), rq_b, t2, ho]
    rw [if_neg (show ¬ nI 5 = 0 by decide), if_neg (show ¬ nI 5 = 1 by decide), if_neg (show ¬ nI 5 = 2 by decide), if_neg (show ¬ nI 5 = 3 by decide), if_neg (show ¬ nI 5 = 4 by decide), if_pos (show nI 5 = 5 from rfl)]
  have eR0 := ck_inR hT hN hk (by omega)
  have n2 : τ 0 21 - 1 = nI r.length := by rw [m2]; exact nI_pred _
  obtain ⟨σ1, τ1, p1, p2, p3, p4, p5, p6, p7, p8⟩ := hM.take (c := gv) hr hb (by omega)
  have h4 : σ1 17 4 = nI r.length := by rw [p3 17 4 (by unfold ck_A; omega)]; exact l4
  have h19 : σ1 19 r.length = nI bs := by rw [p3 19 _ (by unfold ck_A; omega)]; exact a2'
  have hk10 : ck_h bs hh gv < 1000 := by
    unfold ck_h
    by_cases y : bs + gv ≤ hh
    · rw [if_pos y]; omega
    · rw [if_neg y]; omega
  have K2 : rq_A (ck_kR k) τ τ1 := p4.mono (fun c j h => ck_BR h)
  -- what the reference does behind the drop
  have eE : M_R_RangeTellerModel_checkEnd τ (nI k) = if (if lv = 1 ∧ hh < bs + gv then (0 : Int32) else 1) = 0 then some (0, τ1) else if nI (ck_h bs hh gv) = nI bs then (if op xo = 3 ∧ gv = 1 ∧ el xo = 0 then some (0, τ1) else B_R_RangeTellerModel_checkEnd_77 (nI gv) τ1) else some (0, τ1) := by
    unfold M_R_RangeTellerModel_checkEnd
    rw [rq_rd (n := 101) n2 hr (by decide), rq_b, b1', rq_rd (n := 101) n2 hr (by decide), rq_b, b3', p2, rq_b2, rq_rd (n := 101) n2 hr (by decide), rq_b, p4 16 r.length (by unfold ck_B; omega), b2', p6, if_neg (show ¬ nI xo < 0 from nI_pos (by omega)), rq_rd (n := 100) rfl (by omega) (by decide), rq_b, p4 2 xo (by unfold ck_B; omega), z2, rq_rd (n := 100) rfl (by omega) (by decide), rq_b, p4 6 xo (by unfold ck_B; omega), z6]
    congr 2
    by_cases q1 : op xo = 3
    · rw [if_pos (show nI (op xo) = 3 by rw [q1]; rfl)]
      by_cases q2 : gv = 1
      · rw [if_pos (show nI gv = 1 by rw [q2]; rfl)]
        by_cases q3 : el xo = 0
        · rw [rq_e0 q3, if_neg (by decide), if_pos ⟨q1, q2, q3⟩]
        · rw [rq_e1 q3, if_pos (nI_pos' (by omega)), if_neg (fun h => q3 h.2.2)]
      · rw [if_neg (show ¬ nI gv = 1 from ck_ne (c := 1) q2 (by omega) (by decide)), if_neg (fun h => q2 h.2.1)]
    · rw [if_neg (show ¬ nI (op xo) = 3 from ck_ne (c := 3) q1 (by omega) (by decide)), if_neg (fun h => q1 h.1)]
  -- the code's side, behind 'must be at base'
  have tail : ∀ v : rt_St, v 17 4 = nI r.length → v 17 5 = nI (ck_h bs hh gv) → rq_A (ck_kC k) σ v → ∃ σ', ((rt_put v 17 4 ((v 17 4) - 1)).bind fun σ6 => if nI xo = (-3) then (M_C_Program_setJump σ6 (nI k) (-1) 0 (nI gv)).bind fun σ12 => some σ12 else (rt_rd σ6 2 100 (nI xo)).bind fun v7 => if v7 = 3 then (if nI gv = 1 then (rt_rd σ6 6 100 (nI xo)).bind fun v10 => if v10 = (-3) then (rt_put σ6 17 6 1).bind fun σ11 => B_C_Checker_checkEnd_119 (nI k) (nI bs) (nI gv) σ11 else B_C_Checker_checkEnd_119 (nI k) (nI bs) (nI gv) σ6 else B_C_Checker_checkEnd_119 (nI k) (nI bs) (nI gv) σ6) else B_C_Checker_checkEnd_119 (nI k) (nI bs) (nI gv) σ6) = some σ' ∧ rq_A (ck_kC k) σ σ' ∧ (σ' 7 k = nI (k + 1) ∧ σ' 8 k = nI bs ∧ σ' 9 k = nI gv) ∧ ((v 17 6 = 1 ∨ (op xo = 3 ∧ gv = 1 ∧ el xo = 0) ∨ ¬ ck_h bs hh gv + gv ≤ 10) → σ' 17 6 = 1) ∧ (¬ (op xo = 3 ∧ gv = 1 ∧ el xo = 0) → ck_h bs hh gv + gv ≤ 10 → σ' = ck_j (rt_up (rt_up v 17 4 (nI r.length - 1)) 17 5 (nI (ck_h bs hh gv + gv))) k (nI (k + 1)) (nI bs) (nI gv)) := by
    intro v v1 v2 v3
    have e119 : ∀ y : rt_St, y 17 5 = nI (ck_h bs hh gv) → B_C_Checker_checkEnd_119 (nI k) (nI bs) (nI gv) y = some (ck_j (if ck_h bs hh gv + gv ≤ 10 then rt_up y 17 5 (nI (ck_h bs hh gv + gv)) else rt_up (rt_up y 17 5 (nI (ck_h bs hh gv + gv))) 17 6 1) k (nI (k + 1)) (nI bs) (nI gv)) := fun y hy => by
      unfold B_C_Checker_checkEnd_119
      rw [ck_giveC hy (by omega), rq_b, nI_1, ck_set (by omega), rq_b]
    have jv : ∀ y : rt_St, (ck_j y k (nI (k + 1)) (nI bs) (nI gv)) 7 k = nI (k + 1) ∧ (ck_j y k (nI (k + 1)) (nI bs) (nI gv)) 8 k = nI bs ∧ (ck_j y k (nI (k + 1)) (nI bs) (nI gv)) 9 k = nI gv := fun y => by simp [ck_j, rq_if]
    have u5 : (rt_up v 17 4 (nI r.length - 1)) 17 5 = nI (ck_h bs hh gv) := by rw [rq_k (by decide)]; exact v2
    have u2 : (rt_up v 17 4 (nI r.length - 1)) 2 xo = nI (op xo) := by rw [rq_c (by decide), v3 2 xo (by unfold ck_kC ck_C; omega)]; exact y2
    have u6 : (rt_up v 17 4 (nI r.length - 1)) 6 xo = rq_e (-3) (el xo) := by rw [rq_c (by decide), v3 6 xo (by unfold ck_kC ck_C; omega)]; exact y6
    have A1 : rq_A (ck_kC k) σ (rt_up v 17 4 (nI r.length - 1)) := v3.up (by unfold ck_kC ck_C; omega)
    rw [rq_put, rq_b, v1, if_neg nxo, rq_rd (n := 100) rfl (by omega) (by decide), rq_b, u2, rq_rd (n := 100) rfl (by omega) (by decide), rq_b, u6, rq_put, rq_b, e119 _ u5, e119 (rt_up (rt_up v 17 4 (nI r.length - 1)) 17 6 1) (by rw [rq_k (by decide)]; exact u5)]
    by_cases q : op xo = 3 ∧ gv = 1 ∧ el xo = 0
    · rw [if_pos (show nI (op xo) = 3 by rw [q.1]; rfl), if_pos (show nI gv = 1 by rw [q.2.1]; rfl), rq_e0 q.2.2, if_pos rfl]
      refine ⟨_, rfl, ?_, jv _, fun _ => ?_, fun h => absurd q h⟩
      · by_cases y : ck_h bs hh gv + gv ≤ 10
        · rw [if_pos y]; exact ck_jA ((A1.up (by unfold ck_kC ck_C; omega)).up (by unfold ck_kC ck_C; omega))
        · rw [if_neg y]; exact ck_jA (((A1.up (by unfold ck_kC ck_C; omega)).up (by unfold ck_kC ck_C; omega)).up (by unfold ck_kC ck_C; omega))
      · rw [ck_jk (by omega)]
        by_cases y : ck_h bs hh gv + gv ≤ 10
        · rw [if_pos y, rq_k (by decide), rq_s]
        · rw [if_neg y, rq_s]
    · have e : (if nI (op xo) = 3 then (if nI gv = 1 then (if rq_e (-3) (el xo) = -3 then some (ck_j (if ck_h bs hh gv + gv ≤ 10 then rt_up (rt_up (rt_up v 17 4 (nI r.length - 1)) 17 6 1) 17 5 (nI (ck_h bs hh gv + gv)) else rt_up (rt_up (rt_up (rt_up v 17 4 (nI r.length - 1)) 17 6 1) 17 5 (nI (ck_h bs hh gv + gv))) 17 6 1) k (nI (k + 1)) (nI bs) (nI gv)) else some (ck_j (if ck_h bs hh gv + gv ≤ 10 then rt_up (rt_up v 17 4 (nI r.length - 1)) 17 5 (nI (ck_h bs hh gv + gv)) else rt_up (rt_up (rt_up v 17 4 (nI r.length - 1)) 17 5 (nI (ck_h bs hh gv + gv))) 17 6 1) k (nI (k + 1)) (nI bs) (nI gv))) else some (ck_j (if ck_h bs hh gv + gv ≤ 10 then rt_up (rt_up v 17 4 (nI r.length - 1)) 17 5 (nI (ck_h bs hh gv + gv)) else rt_up (rt_up (rt_up v 17 4 (nI r.length - 1)) 17 5 (nI (ck_h bs hh gv + gv))) 17 6 1) k (nI (k + 1)) (nI bs) (nI gv))) else some (ck_j (if ck_h bs hh gv + gv ≤ 10 then rt_up (rt_up v 17 4 (nI r.length - 1)) 17 5 (nI (ck_h bs hh gv + gv)) else rt_up (rt_up (rt_up v 17 4 (nI r.length - 1)) 17 5 (nI (ck_h bs hh gv + gv))) 17 6 1) k (nI (k + 1)) (nI bs) (nI gv))) = some (ck_j (if ck_h bs hh gv + gv ≤ 10 then rt_up (rt_up v 17 4 (nI r.length - 1)) 17 5 (nI (ck_h bs hh gv + gv)) else rt_up (rt_up (rt_up v 17 4 (nI r.length - 1)) 17 5 (nI (ck_h bs hh gv + gv))) 17 6 1) k (nI (k + 1)) (nI bs) (nI gv)) := by
        by_cases q1 : op xo = 3
        · rw [if_pos (show nI (op xo) = 3 by rw [q1]; rfl)]
          by_cases q2 : gv = 1
          · have q3 : ¬ el xo = 0 := fun h => q ⟨q1, q2, h⟩
            rw [if_pos (show nI gv = 1 by rw [q2]; rfl), rq_e1 q3, if_neg (rq_n3 (by omega))]
          · rw [if_neg (show ¬ nI gv = 1 from ck_ne (c := 1) q2 (by omega) (by decide))]
        · rw [if_neg (show ¬ nI (op xo) = 3 from ck_ne (c := 3) q1 (by omega) (by decide))]
      rw [e]
      refine ⟨_, rfl, ?_, jv _, fun h => ?_, fun _ h => by rw [if_pos h]⟩
      · by_cases y : ck_h bs hh gv + gv ≤ 10
        · rw [if_pos y]; exact ck_jA (A1.up (by unfold ck_kC ck_C; omega))
        · rw [if_neg y]; exact ck_jA ((A1.up (by unfold ck_kC ck_C; omega)).up (by unfold ck_kC ck_C; omega))
      · rw [ck_jk (by omega)]
        by_cases y : ck_h bs hh gv + gv ≤ 10
        · rw [if_pos y, rq_k (by decide), rq_k (by decide)]
          rcases h with h | h | h
          · exact h
          · exact absurd h q
          · exact absurd y h
        · rw [if_neg y, rq_s]
  unfold B_C_Checker_checkEnd_40 at eC
  rw [p1, rq_b, ck_base h4 hr, rq_b, p5, h19] at eC
  have A0 : rq_A (ck_kC k) σ σ1 := p3.mono (fun c j h => ck_AC h)
  have bad : M_R_RangeTellerModel_checkEnd τ (nI k) = some (0, τ1) → M_R_RangeTellerModel_checkOne τ (nI k) = some (0, τ1) := fun e => by
    rw [eR0, eR, e, rq_b2, ck_zok0, rq_b2, ck_zok0]
  by_cases z : ck_h bs hh gv = bs
  · obtain ⟨σ', q1, q2, q3, q4, q5⟩ := tail σ1 h4 p5 A0
    rw [if_pos (by rw [z]), q1, rq_b] at eC
    refine ⟨σ', eC, q2, ?_⟩
    by_cases y : lv = 1 ∧ hh < bs + gv
    · rw [if_pos y, if_pos rfl] at eE
      exact Or.inl ⟨τ1, bad eE, K2, q4 (Or.inl (p7 y))⟩
    · have hm := p8 y
      rw [if_neg y, if_neg (by decide), if_pos (by rw [z])] at eE
      by_cases q : op xo = 3 ∧ gv = 1 ∧ el xo = 0
      · rw [if_pos q] at eE
        exact Or.inl ⟨τ1, bad eE, K2, q4 (Or.inr (Or.inl q))⟩
      · rw [if_neg q] at eE
        have n3 : τ1 0 21 - 1 = nI r.length := by rw [hm.2.1]; exact nI_pred _
        have e77 : B_R_RangeTellerModel_checkEnd_77 (nI gv) τ1 = if (if ck_h bs hh gv + gv ≤ 10 then (1 : Int32) else 0) = 0 then some (0, rt_up (rt_up τ1 0 21 (nI r.length)) 0 26 (nI (ck_h bs hh gv + gv))) else some (1, rt_up (rt_up τ1 0 21 (nI r.length)) 0 26 (nI (ck_h bs hh gv + gv))) := by
          unfold B_R_RangeTellerModel_checkEnd_77
          rw [rq_put, rq_b, n3, if_neg (by rw [rq_s]; exact nI_ne0 hr0 (by omega)), ck_giveR (hh := ck_h bs hh gv) (by rw [rq_k (by decide)]; exact p6) (by omega), rq_b2]
        have K3 : rq_A (ck_kR k) τ (rt_up (rt_up τ1 0 21 (nI r.length)) 0 26 (nI (ck_h bs hh gv + gv))) := (K2.up (by unfold ck_kR ck_R; omega)).up (by unfold ck_kR ck_R; omega)
        by_cases g : ck_h bs hh gv + gv ≤ 10
        · rw [e77, if_pos g, if_neg (by decide)] at eE
          rw [eR, eE, rq_b2, ck_zok1, rq_b2, ck_zok1] at eR0
          refine Or.inr ⟨_, r, ck_h bs hh gv + gv, eR0, K3, ?_, rfl, by rw [z], y, z, q, q3⟩
          rw [q5 q g]
          exact (hm.pop.ht g).kp (fun j => ck_jk (by omega)) (fun c j _ _ => ck_jk (by omega)) (fun _ _ => rfl) (fun _ _ _ _ => rfl)
        · rw [e77, if_neg g, if_pos rfl] at eE
          rw [eR, eE, rq_b2, ck_zok0, rq_b2, ck_zok0] at eR0
          exact Or.inl ⟨_, eR0, K3, q4 (Or.inr (Or.inr g))⟩
  · have zc : ¬ nI (ck_h bs hh gv) = nI bs := fun e => z ((nI_eq (by omega) (by omega)).mp e)
    obtain ⟨σ', q1, q2, q3, q4, q5⟩ := tail (rt_up σ1 17 6 1) (by rw [rq_k (by decide)]; exact h4) (by rw [rq_k (by decide)]; exact p5) (A0.up (by unfold ck_kC ck_C; omega))
    rw [if_neg zc, q1, rq_b] at eC
    refine ⟨σ', eC, q2, Or.inl ⟨τ1, bad ?_, K2, q4 (Or.inl rq_s)⟩⟩
    rw [eE]
    by_cases y : lv = 1 ∧ hh < bs + gv
    · rw [if_pos y, if_pos rfl]
    · rw [if_neg y, if_neg (by decide), if_neg zc]
end CKA
