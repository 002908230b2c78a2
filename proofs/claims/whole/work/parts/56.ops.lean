/-! checking: the ops that take and give by their number, calls, and those that only change frames -/
def ck_out (k : Nat) (σ τ : rt_St) (P : List (Nat × Nat × Nat × Nat) → Nat → rt_St → rt_St → Prop) : Prop :=
  ∃ σ', M_C_Checker_checkInstruction σ (nI k) = some σ' ∧ rq_A (ck_kC k) σ σ' ∧
    ((∃ τ', M_R_RangeTellerModel_checkOne τ (nI k) = some (0, τ') ∧ rq_A (ck_kR k) τ τ' ∧ σ' 17 6 = 1) ∨
     (∃ τ' fr' hh', M_R_RangeTellerModel_checkOne τ (nI k) = some (1, τ') ∧ rq_A (ck_kR k) τ τ' ∧ ck_M fr' hh' σ' τ' ∧ P fr' hh' σ' τ'))
section CK5
variable {N F k hh : Nat} {op ar ow en el pa lo re fs : Nat → Nat} {σ τ : rt_St} {x bs gv lv : Nat} {r : List (Nat × Nat × Nat × Nat)}
theorem ck_40 {o : Nat} {u : rt_St} (h1 : o < 29) (h2 : 10 ≤ o) : B_C_Checker_checkPlain_40 (nI o) u = (M_C_Checker_take u (nI (ck_tk o))).bind fun σ3 => (M_C_Checker_give σ3 (nI (ck_gv o))).bind fun σ5 => some σ5 := by
  obtain ⟨t1, -, t3, -⟩ := ck_tab o h1 h2
  unfold B_C_Checker_checkPlain_40
  rw [t1, rq_b, t3]
  simp only [rq_b]
/-- taking and giving when it is wrong already -/
theorem ck_tgW {c g : Nat} (hM : ck_M ((x, bs, gv, lv) :: r) hh σ τ) (hr : r.length < 101) (hb : bs ≤ hh) (hc : c < 1000) (hg : g < 1000) :
    ∃ σ', ((M_C_Checker_take (rt_up σ 17 6 1) (nI c)).bind fun σ3 => (M_C_Checker_give σ3 (nI g)).bind fun σ5 => some σ5) = some σ' ∧ rq_A ck_A σ σ' ∧ σ' 17 6 = 1 := by
  obtain ⟨h1, h2, h3, h4, h5, ⟨⟨a1, a2, a3⟩, ⟨b1, b2, b3, b4⟩, ⟨c1, c2, c3⟩, d1⟩, h7⟩ := hM
  obtain ⟨σ1, p1, p2, p3, p4⟩ := ck_take (σ := rt_up σ 17 6 1) hr c3 hc (by rw [rq_k (by decide), h1, List.length_cons, nI_pred]) (by rw [rq_c (by decide)]; exact a2) (by rw [rq_c (by decide)]; exact a3) (by rw [rq_k (by decide)]; exact h3) hb (by omega)
  have w : σ1 17 6 = 1 := by
    rcases p4 with p4 | p4
    · exact p4.2.2
    · rw [p4.2, rq_s]
  have hh10 : ck_h bs hh c + g < 100000 := by
    unfold ck_h
    by_cases y : bs + c ≤ hh
    · rw [if_pos y]; omega
    · rw [if_neg y]; omega
  have f1 : rq_A ck_A σ σ1 := (rq_A.rf.up (by unfold ck_A; omega)).tr p2
  rw [p1, rq_b, ck_giveC p3 hh10, rq_b]
  refine ⟨_, rfl, ?_, ?_⟩
  · by_cases y : ck_h bs hh c + g ≤ 10
    · rw [if_pos y]; exact f1.up (by unfold ck_A; omega)
    · rw [if_neg y]; exact (f1.up (by unfold ck_A; omega)).up (by unfold ck_A; omega)
  · by_cases y : ck_h bs hh c + g ≤ 10
    · rw [if_pos y, rq_k (by decide)]; exact w
    · rw [if_neg y, rq_s]
theorem ck_plainOp (hT : rq_T N op ar ow en el σ τ) (hF : rq_TF F pa lo re fs σ τ) (hN : N ≤ 100) (hF3 : F ≤ 3) (hk : k < N) (hf : ow k < F) (hM : ck_M ((x, bs, gv, lv) :: r) hh σ τ) (hr : r.length < 101) (hb : bs ≤ hh) (ho : 10 ≤ op k) :
    ck_out k σ τ (fun fr' hh' _ _ => fr' = (x, bs, gv, lv) :: r ∧ ¬ (lv = 1 ∧ hh < bs + ck_tk (op k)) ∧ hh' = ck_h bs hh (ck_tk (op k)) + ck_gv (op k) ∧ (12 ≤ op k → op k ≤ 14 → ar k < pa (ow k) + lo (ow k))) := by
  obtain ⟨⟨s2, s3, s4, -, -⟩, ⟨t2, t3, t4, -, -⟩, o1, o2, -, -⟩ := hT k hk
  obtain ⟨f1, f2, f3, f4, g1, g2, g3, g4, b1, b2, b3⟩ := hF (ow k) hf
  obtain ⟨-, -, -, tk3, gv1, nl, -, -⟩ := ck_tab (op k) o1 ho
  have eC : M_C_Checker_checkInstruction σ (nI k) = (M_C_Checker_checkPlain σ (nI k) (nI (op k))).bind fun σ4 => some σ4 := by
    unfold M_C_Checker_checkInstruction
    rw [rq_rd (n := 100) rfl (by omega) (by decide), rq_b, s2, rq_rd (n := 100) rfl (by omega) (by decide), rq_b, s4, rq_rd (n := 3) rfl (by omega) (by decide), rq_b, if_neg (show ¬ nI (op k) = 0 from ck_ne (c := 0) (by omega) (by omega) (by decide)), if_neg (show ¬ nI (op k) = 1 from ck_ne (c := 1) (by omega) (by omega) (by decide)), if_neg (show ¬ nI (op k) = 2 from ck_ne (c := 2) (by omega) (by omega) (by decide)), if_neg (show ¬ nI (op k) = 3 from ck_ne (c := 3) (by omega) (by omega) (by decide)), if_neg (show ¬ nI (op k) = 4 from ck_ne (c := 4) (by omega) (by omega) (by decide)), if_neg (show ¬ nI (op k) = 5 from ck_ne (c := 5) (by omega) (by omega) (by decide)), if_neg (show ¬ nI (op k) = 6 from ck_ne (c := 6) (by omega) (by omega) (by decide)), if_neg (show ¬ nI (op k) = 7 from ck_ne (c := 7) (by omega) (by omega) (by decide)), if_neg (show ¬ nI (op k) = 8 from ck_ne (c := 8) (by omega) (by omega) (by decide)), if_neg (show ¬ nI (op k) = 9 from ck_ne (c := 9) (by omega) (by omega) (by decide))]
  have eR : M_R_RangeTellerModel_checkOne τ (nI k) = if nI (op k) ≤ 11 then B_R_RangeTellerModel_checkOne_65 (nI (op k)) τ else if 15 ≤ nI (op k) then B_R_RangeTellerModel_checkOne_65 (nI (op k)) τ else if nI (ar k) < nI (pa (ow k)) + nI (lo (ow k)) then B_R_RangeTellerModel_checkOne_65 (nI (op k)) τ else some (0, τ) := by
    unfold M_R_RangeTellerModel_checkOne
    rw [rq_rd (n := 100) rfl (by omega) (by decide), rq_b, t2, if_pos (show 10 ≤ nI (op k) from nI_le (a := 10) ho (by omega))]
    rw [rq_rd (n := 100) rfl (by omega) (by decide), rq_b, t3, rq_rd (n := 100) rfl (by omega) (by decide), rq_b, t4, rq_rd (n := 3) rfl (by omega) (by decide), rq_b, g2, rq_b, rq_rd (n := 3) rfl (by omega) (by decide), rq_b, g3]
  -- what follows when the local is there, or none is named
  have go : (12 ≤ op k → op k ≤ 14 → ar k < pa (ow k) + lo (ow k)) → M_C_Checker_checkPlain σ (nI k) (nI (op k)) = B_C_Checker_checkPlain_40 (nI (op k)) σ → M_R_RangeTellerModel_checkOne τ (nI k) = B_R_RangeTellerModel_checkOne_65 (nI (op k)) τ → ck_out k σ τ (fun fr' hh' _ _ => fr' = (x, bs, gv, lv) :: r ∧ ¬ (lv = 1 ∧ hh < bs + ck_tk (op k)) ∧ hh' = ck_h bs hh (ck_tk (op k)) + ck_gv (op k) ∧ (12 ≤ op k → op k ≤ 14 → ar k < pa (ow k) + lo (ow k))) := by
    intro q0 q1 q2
    obtain ⟨σ', p1, p2, p3⟩ := ck_tg (c := ck_tk (op k)) (g := ck_gv (op k)) hM hr hb (by omega) (by omega)
    rw [q1, ck_40 o1 ho, p1, rq_b] at eC
    rw [ck_65 o1 ho] at q2
    refine ⟨σ', eC, p2.mono (fun c j h => ck_AC h), ?_⟩
    rcases p3 with ⟨τ', w1, w2, w3⟩ | ⟨τ', w1, w2, w3, w4, w5⟩
    · exact Or.inl ⟨τ', q2.trans w1, w2.mono (fun c j h => ck_BR h), w3⟩
    · exact Or.inr ⟨τ', _, _, q2.trans w1, w2.mono (fun c j h => ck_BR h), w5, rfl, w3, rfl, q0⟩
  by_cases c1 : 12 ≤ op k ∧ op k ≤ 14
  · rw [if_neg (show ¬ nI (op k) ≤ 11 from nI_ge (a := 11) (by omega) (by omega)), if_neg (show ¬ 15 ≤ nI (op k) from nI_ge (b := 15) (by omega) (by decide)), nI_add] at eR
    have eP : M_C_Checker_checkPlain σ (nI k) (nI (op k)) = if nI (ar k) < nI (pa (ow k) + lo (ow k)) then B_C_Checker_checkPlain_40 (nI (op k)) σ else B_C_Checker_checkPlain_40 (nI (op k)) (rt_up σ 17 6 1) := by
      unfold M_C_Checker_checkPlain M_C_Program_localCount
      rw [nl, if_pos c1, rq_b, if_neg (show ¬ (1 : Int32) = 0 by decide), rq_rd (n := 100) rfl (by omega) (by decide), rq_b, s3, rq_rd (n := 100) rfl (by omega) (by decide), rq_b, s4, rq_rd (n := 3) rfl (by omega) (by decide), rq_b, f2, rq_rd (n := 3) rfl (by omega) (by decide), rq_b, f3, rq_b2, nI_add, rq_put, rq_b]
    by_cases c2 : ar k < pa (ow k) + lo (ow k)
    · rw [if_pos (nI_lt c2 (by omega))] at eP eR
      exact go (fun _ _ => c2) eP eR
    · rw [if_neg (nI_nlt (by omega) (by omega))] at eP eR
      obtain ⟨σ', p1, p2, p3⟩ := ck_tgW (c := ck_tk (op k)) (g := ck_gv (op k)) hM hr hb (by omega) (by omega)
      rw [eP, ck_40 o1 ho, p1, rq_b] at eC
      exact ⟨σ', eC, p2.mono (fun c j h => ck_AC h), Or.inl ⟨τ, eR, rq_A.rf, p3⟩⟩
  · have eP : M_C_Checker_checkPlain σ (nI k) (nI (op k)) = B_C_Checker_checkPlain_40 (nI (op k)) σ := by
      unfold M_C_Checker_checkPlain
      rw [nl, if_neg c1, rq_b, if_pos rfl]
    refine go (fun a1 a2 => absurd ⟨a1, a2⟩ c1) eP ?_
    rw [eR]
    by_cases c2 : op k ≤ 11
    · rw [if_pos (show nI (op k) ≤ 11 from nI_le (b := 11) c2 (by decide))]
    · rw [if_neg (show ¬ nI (op k) ≤ 11 from nI_ge (a := 11) (by omega) (by omega)), if_pos (show 15 ≤ nI (op k) from nI_le (a := 15) (by omega) (by omega))]
/-- the way in, for the ops below 10 -/
theorem ck_inR (hT : rq_T N op ar ow en el σ τ) (hN : N ≤ 100) (hk : k < N) (ho : op k < 10) : M_R_RangeTellerModel_checkOne τ (nI k) = rt_b2 (M_R_RangeTellerModel_checkFlow τ (nI k)) fun v13 σ12 => (rt_zok v13).bind fun _ => some (v13, σ12) := by
  obtain ⟨-, ⟨t2, -⟩, -⟩ := hT k hk
  unfold M_R_RangeTellerModel_checkOne
  rw [rq_rd (n := 100) rfl (by omega) (by decide), rq_b, t2, if_neg (show ¬ 10 ≤ nI (op k) from nI_ge (b := 10) ho (by decide))]
theorem ck_zok1 {w : rt_St} : ((rt_zok 1).bind fun _ => some ((1 : Int32), w)) = some (1, w) := rfl
theorem ck_zok0 {w : rt_St} : ((rt_zok 0).bind fun _ => some ((0 : Int32), w)) = some (0, w) := rfl
theorem ck_op0 (hT : rq_T N op ar ow en el σ τ) (hF : rq_TF F pa lo re fs σ τ) (hN : N ≤ 100) (hF3 : F ≤ 3) (hk : k < N) (hf : ow k < F) (hM : ck_M ((x, bs, gv, lv) :: r) hh σ τ) (hr : r.length < 101) (ho : op k = 0) :
    ck_out k σ τ (fun fr' hh' _ _ => fr' = (x, bs, gv, 0) :: r ∧ hh' = bs) := by
  obtain ⟨⟨s2, s3, s4, -, -⟩, ⟨t2, t3, t4, -, -⟩, o1, o2, -, -⟩ := hT k hk
  have e1 : σ 17 4 = nI r.length := by rw [hM.1, List.length_cons, nI_pred]
  have eC : M_C_Checker_checkInstruction σ (nI k) = some (rt_up (rt_up σ 20 r.length 0) 17 5 (σ 19 r.length)) := by
    unfold M_C_Checker_checkInstruction
    rw [rq_rd (n := 100) rfl (by omega) (by decide), rq_b, s2, rq_rd (n := 100) rfl (by omega) (by decide), rq_b, s4, rq_rd (n := 3) rfl (by omega) (by decide), rq_b, if_pos (show nI (op k) = 0 by rw [ho]; rfl), ck_deadC e1 hr, rq_b]
  have eR : M_R_RangeTellerModel_checkOne τ (nI k) = some (1, rt_up (rt_up τ 18 r.length 0) 0 26 (τ 16 r.length)) := by
    rw [ck_inR hT hN hk (by omega)]
    unfold M_R_RangeTellerModel_checkFlow
    rw [rq_rd (n := 100) rfl (by omega) (by decide), rq_b, rq_rd (n := 100) rfl (by omega) (by decide), rq_b, rq_rd (n := 100) rfl (by omega) (by decide), rq_b, t2, if_pos (show nI (op k) = 0 by rw [ho]; rfl), ck_deadR hM.2.1 hr, rq_b2, ck_zok1, rq_b2, ck_zok1]
  exact ⟨_, eC, (rq_A.rf.up (by unfold ck_kC ck_C; omega)).up (by unfold ck_kC ck_C; omega), Or.inr ⟨_, _, _, eR, (rq_A.rf.up (by unfold ck_kR ck_R; omega)).up (by unfold ck_kR ck_R; omega), hM.dead, rfl, rfl⟩⟩
end CK5
