/-! checking: BRANCH_IF, in lockstep -/
section CKE
variable {N F k hh bs lv gv x : Nat} {op ar ow en el pa lo re fs : Nat → Nat} {σ τ : rt_St} {r : List (Nat × Nat × Nat × Nat)}
theorem ck_h_le {c : Nat} (h1 : bs ≤ hh) (h2 : hh ≤ 10) : bs ≤ ck_h bs hh c ∧ ck_h bs hh c ≤ 10 := by
  unfold ck_h
  by_cases y : bs + c ≤ hh
  · rw [if_pos y]; omega
  · rw [if_neg y]; omega
theorem ck_op7 (hT : rq_T N op ar ow en el σ τ) (hF : rq_TF F pa lo re fs σ τ) (hN : N ≤ 100) (hF3 : F ≤ 3) (hk : k < N) (hf : ow k < F) (hM : ck_M ((x, bs, gv, lv) :: r) hh σ τ) (hr : r.length < 100) (hb : bs ≤ hh) (hok : ck_ok N (ow k) op ar en re ((x, bs, gv, lv) :: r)) (ho : op k = 7) :
    ck_out k σ τ (fun fr' hh' σ' τ' => fr' = (x, bs, gv, lv) :: r ∧ ¬ (lv = 1 ∧ hh < bs + 1) ∧ ∃ q, ((x, bs, gv, lv) :: r)[ar k]? = some q ∧ hh' = ck_h bs (ck_h bs hh 1) (ck_nd op q) + ck_nd op q ∧ ¬ (lv = 1 ∧ ck_h bs hh 1 < bs + ck_nd op q) ∧ (σ' 7 k = ck_gl op en q ∧ σ' 8 k = nI q.2.1 ∧ σ' 9 k = nI (ck_nd op q)) ∧ τ' 8 k = ck_o (-1) q.1 ∧ τ' 9 k = nI q.2.1 ∧ τ' 10 k = nI (ck_nd op q)) := by
  obtain ⟨⟨s2, s3, s4, s5, s6⟩, ⟨t2, t3, t4, -, -⟩, o1, o2, o3, o4⟩ := hT k hk
  obtain ⟨f1, f2, f3, f4, -⟩ := hF (ow k) hf
  obtain ⟨m1, m2, m3, m4, m5, mf, m7⟩ := id hM
  obtain ⟨⟨a1, a2, a3⟩, ⟨b1, b2, b3, b4⟩, ⟨c1, c2, c3⟩, d1⟩ := id mf
  have l4 : σ 17 4 = nI r.length := by rw [m1]; exact nI_pred _
  have c1' : bs ≤ 10 := c1
  have c3' : lv ≤ 1 := c3
  have hlen : ((x, bs, gv, lv) :: r).length = r.length + 1 := rfl
  have eC : M_C_Checker_checkInstruction σ (nI k) = (M_C_Checker_take σ (nI 1)).bind fun σ10 => (M_C_Checker_checkBranch σ10 (nI k) (nI (re (ow k)))).bind fun σ11 => some σ11 := by
    unfold M_C_Checker_checkInstruction
    rw [rq_rd (n := 100) rfl (by omega) (by decide), rq_b, s2, rq_rd (n := 100) rfl (by omega) (by decide), rq_b, s4, rq_rd (n := 3) rfl (by omega) (by decide), rq_b, f4, ho]
    rw [if_neg (show ¬ nI 7 = 0 by decide), if_neg (show ¬ nI 7 = 1 by decide), if_neg (show ¬ nI 7 = 2 by decide), if_neg (show ¬ nI 7 = 3 by decide), if_neg (show ¬ nI 7 = 4 by decide), if_neg (show ¬ nI 7 = 5 by decide), if_neg (show ¬ nI 7 = 6 by decide), if_pos (show nI 7 = 7 from rfl)]
    rfl
  have eR : M_R_RangeTellerModel_checkFlow τ (nI k) = rt_b2 (M_R_RangeTellerModel_drop τ (nI 1)) fun v20 σ19 => rt_b2 (M_R_RangeTellerModel_needs σ19 (nI k) (nI (ar k))) fun v22 σ21 => if v20 = 0 then some (0, σ21) else if v22 < 0 then some (0, σ21) else rt_b2 (M_R_RangeTellerModel_drop σ21 v22) fun v24 σ23 => if v24 = 0 then some (0, σ23) else rt_b2 (M_R_RangeTellerModel_give σ23 v22) fun v26 σ25 => if v26 = 0 then some (0, σ25) else some (1, σ25) := by
    unfold M_R_RangeTellerModel_checkFlow
    rw [rq_rd (n := 100) rfl (by omega) (by decide), rq_b, t3, rq_rd (n := 100) rfl (by omega) (by decide), rq_b, t4, rq_rd (n := 100) rfl (by omega) (by decide), rq_b, t2, ho]
    rw [if_neg (show ¬ nI 7 = 0 by decide), if_neg (show ¬ nI 7 = 1 by decide), if_neg (show ¬ nI 7 = 2 by decide), if_neg (show ¬ nI 7 = 3 by decide), if_neg (show ¬ nI 7 = 4 by decide), if_neg (show ¬ nI 7 = 5 by decide), if_neg (show ¬ nI 7 = 6 by decide), if_pos (show nI 7 = 7 from rfl)]
    rfl
  have eR0 := ck_inR hT hN hk (by omega)
  obtain ⟨σ1, τ1, p1, p2, p3, p4, p5, p6, p7, p8⟩ := hM.take (c := 1) (by omega) hb (by decide)
  have hT1 : rq_T N op ar ow en el σ1 τ1 := hT.kp (fun c j x1 x2 => p3 c j (by unfold ck_A; omega)) (fun c j x1 x2 => p4 c j (by unfold ck_B; omega))
  have mf1 : ck_fr σ1 τ1 ((x, bs, gv, lv) :: r) := mf.kp (fun c j x1 x2 _ => p3 c j (by unfold ck_A; omega)) (fun c j x1 x2 _ => p4 c j (by unfold ck_B; omega))
  have n1 : σ1 17 4 = nI ((x, bs, gv, lv) :: r).length - 1 := by rw [p3 17 4 (by unfold ck_A; omega)]; exact m1
  have n2 : τ1 0 21 = nI ((x, bs, gv, lv) :: r).length := by rw [p4 0 21 (by unfold ck_B; omega)]; exact m2
  have n3 : σ1 3 k = nI (ar k) := by rw [p3 3 k (by unfold ck_A; omega)]; exact s3
  have A0 : rq_A (ck_kC k) σ σ1 := p3.mono (fun c j h => ck_AC h)
  have B0 : rq_A (ck_kR k) τ τ1 := p4.mono (fun c j h => ck_BR h)
  rw [p1, rq_b] at eC
  rw [p2, rq_b2] at eR
  cases hq : ((x, bs, gv, lv) :: r)[ar k]? with
  | none =>
    have hge : r.length + 1 ≤ ar k := by
      have := List.getElem?_eq_none_iff.mp hq
      rw [hlen] at this; exact this
    have eB : M_C_Checker_checkBranch σ1 (nI k) (nI (re (ow k))) = some (rt_up σ1 17 6 1) := by
      unfold M_C_Checker_checkBranch
      rw [rq_rd (n := 100) rfl (by omega) (by decide), rq_b, n3, n1, if_neg (ck_neg (by rw [hlen]; exact hge) o2), rq_put, rq_b]
    have eN : M_R_RangeTellerModel_needs τ1 (nI k) (nI (ar k)) = some (-1, τ1) := by
      unfold M_R_RangeTellerModel_needs
      rw [n2, if_neg (ck_neg (by rw [hlen]; exact hge) o2)]
    rw [eB, rq_b] at eC
    have eR1 : M_R_RangeTellerModel_checkFlow τ (nI k) = some (0, τ1) := by
      rw [eR, eN, rq_b2]
      by_cases y : lv = 1 ∧ hh < bs + 1
      · rw [if_pos y, if_pos rfl]
      · rw [if_neg y, if_neg (by decide), if_pos (by decide)]
    rw [eR1, rq_b2, ck_zok0] at eR0
    exact ⟨_, eC, A0.up (by unfold ck_kC ck_C; omega), Or.inl ⟨τ1, eR0, B0, rq_s⟩⟩
  | some q =>
    obtain ⟨k0, k1⟩ := hok _ q hq
    obtain ⟨e0, ⟨e1, e2⟩, -, e4, e5⟩ := ck_at mf1 hq
    have hnd : ck_nd op q ≤ 1 := ck_nd1 e5
    have hle := ck_h_le (c := 1) hb m7
    have eB := ck_brC hT1 hN hk n1 mf1 (by rw [hlen]; omega) hq k0 k1
    have eN := ck_brR hT1 hN hk (w := τ1) (fun _ _ _ => rfl) n2 mf1 (by rw [hlen]; omega) o2 hq (fun h => (k1 h).1)
    have z4 : σ1 17 4 = nI r.length := by rw [n1]; exact nI_pred _
    obtain ⟨σ2, g1, g2, g3, g4, g5, g6⟩ := ck_112 (gl := ck_gl op en q) (nd := ck_nd op q) (o := 7) z4 (by omega) mf1.1.2.1 mf1.1.2.2 c3' p5 hle.1 hle.2 (by rw [p3 2 k (by unfold ck_A; omega), s2, ho]) (Or.inr rfl) (by omega) (i := ((x, bs, gv, lv) :: r).length - 1 - ar k) (by rw [hlen]; omega) e2 hnd
    rw [eB, g1, rq_b] at eC
    rw [eN, rq_b2] at eR
    have A1 : rq_A (ck_kC k) σ σ2 := A0.tr (fun c j h => g2 c j (by unfold ck_kC ck_C at h; omega) (by unfold ck_kC ck_C at h; omega))
    have B1 : rq_A (ck_kR k) τ (ck_jr τ1 k (ck_o (-1) q.1) (nI q.2.1) (nI (ck_nd op q))) := B0.tr ck_jrA
    by_cases y0 : lv = 1 ∧ hh < bs + 1
    · rw [if_pos y0, if_pos rfl] at eR
      rw [eR, rq_b2, ck_zok0] at eR0
      exact ⟨σ2, eC, A1, Or.inl ⟨_, eR0, B1, g5 (Or.inl (p7 y0))⟩⟩
    · have hm := p8 y0
      have hM' : ck_M ((x, bs, gv, lv) :: r) (ck_h bs hh 1) σ1 (ck_jr τ1 k (ck_o (-1) q.1) (nI q.2.1) (nI (ck_nd op q))) := hm.kp (fun _ => rfl) (fun _ _ _ _ => rfl) (fun j _ => ck_jrk (by omega)) (fun c j _ _ => ck_jrk (by omega))
      obtain ⟨σx, τ2, -, w2, -, w4, -, w6, -, -⟩ := hM'.take (c := ck_nd op q) (by omega) hle.1 (by omega)
      have hle2 := ck_h_le (c := ck_nd op q) hle.1 hle.2
      rw [if_neg y0, if_neg (by decide), if_neg (nI_pos (by omega)), w2, rq_b2] at eR
      have B2 : rq_A (ck_kR k) τ τ2 := B1.tr (w4.mono (fun c j h => ck_BR h))
      by_cases y : lv = 1 ∧ ck_h bs hh 1 < bs + ck_nd op q
      · rw [if_pos y, if_pos rfl] at eR
        rw [eR, rq_b2, ck_zok0] at eR0
        exact ⟨σ2, eC, A1, Or.inl ⟨τ2, eR0, B2, g5 (Or.inr (Or.inl y))⟩⟩
      · rw [if_neg y, if_neg (by decide), ck_giveR w6 (by omega), rq_b2] at eR
        have B3 : rq_A (ck_kR k) τ (rt_up τ2 0 26 (nI (ck_h bs (ck_h bs hh 1) (ck_nd op q) + ck_nd op q))) := B2.up (by unfold ck_kR ck_R; omega)
        by_cases g : ck_h bs (ck_h bs hh 1) (ck_nd op q) + ck_nd op q ≤ 10
        · rw [if_pos g, if_neg (by decide)] at eR
          rw [eR, rq_b2, ck_zok1] at eR0
          have g4' : σ2 17 5 = nI (ck_h bs (ck_h bs hh 1) (ck_nd op q) + ck_nd op q) := by rw [g4, if_pos rfl]
          have hm2 : ck_M ((x, bs, gv, lv) :: r) (ck_h bs (ck_h bs hh 1) (ck_nd op q) + ck_nd op q) σ2 (rt_up τ2 0 26 (nI (ck_h bs (ck_h bs hh 1) (ck_nd op q) + ck_nd op q))) := hM'.mk (g2 17 4 (by omega) (by omega)) g4' (by rw [g6 y (fun h => h.2 g)]; exact hm.2.2.2.2.1) (fun c j x1 x2 => g2 c j (by omega) (by omega)) (by rw [rq_k (by decide)]; exact w4 0 21 (by unfold ck_B; omega)) rq_s (fun c j x1 x2 => by rw [rq_c (by omega)]; exact w4 c j (by unfold ck_B; omega)) g
          refine ⟨σ2, eC, A1, Or.inr ⟨_, _, _, eR0, B3, hm2, rfl, y0, q, rfl, rfl, y, g3, ?_, ?_, ?_⟩⟩
          · rw [rq_c (by decide), w4 8 k (by unfold ck_B; omega)]; simp [ck_jr, rq_if]
          · rw [rq_c (by decide), w4 9 k (by unfold ck_B; omega)]; simp [ck_jr, rq_if]
          · rw [rq_c (by decide), w4 10 k (by unfold ck_B; omega)]; simp [ck_jr, rq_if]
        · rw [if_neg g, if_pos rfl] at eR
          rw [eR, rq_b2, ck_zok0] at eR0
          exact ⟨σ2, eC, A1, Or.inl ⟨_, eR0, B3, g5 (Or.inr (Or.inr ⟨rfl, g⟩))⟩⟩
end CKE
