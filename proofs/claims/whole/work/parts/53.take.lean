/-! checking: what is taken and given -/
def ck_A (c k : Nat) : Prop := ¬ (c = 17 ∧ (k = 5 ∨ k = 6))
def ck_B (c k : Nat) : Prop := ¬ (c = 0 ∧ k = 26)
def ck_h (bs hh d : Nat) : Nat := if bs + d ≤ hh then hh - d else bs
section CK1
variable {L bs lv c : Nat}
theorem ck_take_l (hL : L < 101) (hlv : lv ≤ 1) (hc : c < 1000) : ∀ (d l hh : Nat) (σ : rt_St) (m : Nat), l + d = c → d + 1 ≤ m → σ 17 4 = nI L → σ 19 L = nI bs → σ 20 L = nI lv → σ 17 5 = nI hh → bs ≤ hh → hh < 1000 →
    ∃ σ', B_C_Checker_take_2 m (nI c) (nI l) σ = some σ' ∧ rq_A ck_A σ σ' ∧ σ' 17 5 = nI (ck_h bs hh d) ∧ ((lv = 1 ∧ hh < bs + d ∧ σ' 17 6 = 1) ∨ (¬ (lv = 1 ∧ hh < bs + d) ∧ σ' 17 6 = σ 17 6)) := by
  intro d
  induction d with
  | zero =>
    intro l hh σ m hd hm h4 hb hv h5 h1 h2
    obtain ⟨m, rfl⟩ : ∃ q, m = q + 1 := ⟨m - 1, by omega⟩
    refine ⟨σ, ?_, rq_A.rf, ?_, Or.inr ⟨by omega, rfl⟩⟩
    · rw [B_C_Checker_take_2, if_pos (nI_le (by omega) (by omega))]
    · unfold ck_h; rw [if_pos (by omega)]; exact h5
  | succ d ih =>
    intro l hh σ m hd hm h4 hb hv h5 h1 h2
    obtain ⟨m, rfl⟩ : ∃ q, m = q + 1 := ⟨m - 1, by omega⟩
    have e0 : B_C_Checker_take_2 (m + 1) (nI c) (nI l) σ = if nI hh ≤ nI bs then (if nI lv = 0 then B_C_Checker_take_2 m (nI c) (nI (l + 1)) σ else B_C_Checker_take_2 m (nI c) (nI (l + 1)) (rt_up σ 17 6 1)) else B_C_Checker_take_2 m (nI c) (nI (l + 1)) (rt_up σ 17 5 (nI (hh - 1))) := by
      rw [B_C_Checker_take_2, if_neg (nI_ge (by omega) (by omega)), rq_rd (n := 101) h4 hL (by decide), rq_b, hb, h5]
      by_cases q : nI hh ≤ nI bs
      · rw [if_pos q, if_pos q, rq_rd (n := 101) h4 hL (by decide), rq_b, hv]
        unfold B_C_Checker_take_53
        rw [nI_1, rq_put, rq_b]
      · have hb2 : bs < hh := by
          rcases Nat.lt_or_ge bs hh with h | h
          · exact h
          · exact absurd (nI_le h (by omega)) q
        rw [if_neg q, if_neg q, rq_put, rq_b]
        unfold B_C_Checker_take_53
        rw [nI_1, show nI hh - 1 = nI (hh - 1) from pk_sub (b := 1) (by omega)]
    by_cases q : hh = bs
    · subst q
      rw [if_pos (Int32.le_refl _)] at e0
      by_cases z : lv = 0
      · rw [if_pos (show nI lv = 0 by rw [z]; rfl)] at e0
        obtain ⟨σ', a1, a2, a3, a4⟩ := ih (l + 1) hh σ m (by omega) (by omega) h4 hb hv h5 h1 h2
        refine ⟨σ', e0.trans a1, a2, ?_, Or.inr ⟨by omega, ?_⟩⟩
        · rw [a3]; unfold ck_h
          by_cases y : d = 0
          · rw [if_pos (by omega), if_neg (by omega), y]; rfl
          · rw [if_neg (by omega), if_neg (by omega)]
        · rcases a4 with a4 | a4
          · omega
          · exact a4.2
      · rw [if_neg (show ¬ nI lv = 0 from nI_ne0 (by omega) (by omega))] at e0
        obtain ⟨σ', a1, a2, a3, a4⟩ := ih (l + 1) hh (rt_up σ 17 6 1) m (by omega) (by omega) (by rw [rq_k (by decide)]; exact h4) (by rw [rq_c (by decide)]; exact hb) (by rw [rq_c (by decide)]; exact hv) (by rw [rq_k (by decide)]; exact h5) h1 h2
        refine ⟨σ', e0.trans a1, (rq_A.rf.up (by unfold ck_A; omega)).tr a2, ?_, Or.inl ⟨by omega, by omega, ?_⟩⟩
        · rw [a3]; unfold ck_h
          by_cases y : d = 0
          · rw [if_pos (by omega), if_neg (by omega), y]; rfl
          · rw [if_neg (by omega), if_neg (by omega)]
        · rcases a4 with a4 | a4
          · exact a4.2.2
          · rw [a4.2, rq_s]
    · rw [if_neg (nI_ge (by omega) (by omega))] at e0
      obtain ⟨σ', a1, a2, a3, a4⟩ := ih (l + 1) (hh - 1) (rt_up σ 17 5 (nI (hh - 1))) m (by omega) (by omega) (by rw [rq_k (by decide)]; exact h4) (by rw [rq_c (by decide)]; exact hb) (by rw [rq_c (by decide)]; exact hv) rq_s (by omega) (by omega)
      refine ⟨σ', e0.trans a1, (rq_A.rf.up (by unfold ck_A; omega)).tr a2, ?_, ?_⟩
      · rw [a3]; unfold ck_h
        by_cases y : bs + (d + 1) ≤ hh
        · rw [if_pos (by omega), if_pos y, show hh - 1 - d = hh - (d + 1) by omega]
        · rw [if_neg (by omega), if_neg y]
      · rcases a4 with a4 | a4
        · exact Or.inl ⟨a4.1, by omega, a4.2.2⟩
        · refine Or.inr ⟨fun h => a4.1 ⟨h.1, by omega⟩, ?_⟩
          rw [a4.2, rq_k (by decide)]
theorem ck_drop_l (hL : L < 101) (hlv : lv ≤ 1) (hc : c < 1000) : ∀ (d l hh : Nat) (τ : rt_St) (m : Nat), l + d = c → d + 1 ≤ m → τ 0 21 = nI (L + 1) → τ 16 L = nI bs → τ 18 L = nI lv → τ 0 26 = nI hh → bs ≤ hh → hh < 1000 →
    ∃ τ', B_R_RangeTellerModel_drop_4 m (nI c) 1 (nI l) τ = some (if lv = 1 ∧ hh < bs + d then 0 else 1, τ') ∧ rq_A ck_B τ τ' ∧ τ' 0 26 = nI (ck_h bs hh d) := by
  intro d
  induction d with
  | zero =>
    intro l hh τ m hd hm h4 hb hv h5 h1 h2
    obtain ⟨m, rfl⟩ : ∃ q, m = q + 1 := ⟨m - 1, by omega⟩
    refine ⟨τ, ?_, rq_A.rf, ?_⟩
    · rw [B_R_RangeTellerModel_drop_4, if_pos (nI_le (by omega) (by omega)), if_neg (by omega)]; rfl
    · unfold ck_h; rw [if_pos (by omega)]; exact h5
  | succ d ih =>
    intro l hh τ m hd hm h4 hb hv h5 h1 h2
    obtain ⟨m, rfl⟩ : ∃ q, m = q + 1 := ⟨m - 1, by omega⟩
    have hi : τ 0 21 - 1 = nI L := by rw [h4, nI_pred]
    have e0 : B_R_RangeTellerModel_drop_4 (m + 1) (nI c) 1 (nI l) τ = if nI hh ≤ nI bs then (if nI lv = 0 then B_R_RangeTellerModel_drop_4 m (nI c) 1 (nI (l + 1)) τ else B_R_RangeTellerModel_drop_4 m (nI c) 0 (nI (l + 1)) τ) else B_R_RangeTellerModel_drop_4 m (nI c) 1 (nI (l + 1)) (rt_up τ 0 26 (nI (hh - 1))) := by
      rw [B_R_RangeTellerModel_drop_4, if_neg (nI_ge (by omega) (by omega)), if_neg (by decide), rq_rd (n := 101) hi hL (by decide), rq_b, hb, h5]
      by_cases q : nI hh ≤ nI bs
      · rw [if_pos q, if_pos q, rq_rd (n := 101) hi hL (by decide), rq_b, hv]
        unfold B_R_RangeTellerModel_drop_63 B_R_RangeTellerModel_drop_64
        rw [nI_1]
      · have hb2 : bs < hh := by
          rcases Nat.lt_or_ge bs hh with h | h
          · exact h
          · exact absurd (nI_le h (by omega)) q
        rw [if_neg q, if_neg q, rq_put, rq_b]
        unfold B_R_RangeTellerModel_drop_64
        rw [nI_1, show nI hh - 1 = nI (hh - 1) from pk_sub (b := 1) (by omega)]
    by_cases q : hh = bs
    · subst q
      rw [if_pos (Int32.le_refl _)] at e0
      have hk : ck_h hh hh (d + 1) = hh := by unfold ck_h; rw [if_neg (by omega)]
      by_cases z : lv = 0
      · rw [if_pos (show nI lv = 0 by rw [z]; rfl)] at e0
        obtain ⟨τ', a1, a2, a3⟩ := ih (l + 1) hh τ m (by omega) (by omega) h4 hb hv h5 h1 h2
        refine ⟨τ', ?_, a2, ?_⟩
        · rw [e0, a1, if_neg (by omega), if_neg (by omega)]
        · rw [a3, hk]; unfold ck_h
          by_cases y : d = 0
          · rw [if_pos (by omega), y]; rfl
          · rw [if_neg (by omega)]
      · rw [if_neg (show ¬ nI lv = 0 from nI_ne0 (by omega) (by omega))] at e0
        refine ⟨τ, ?_, rq_A.rf, by rw [hk]; exact h5⟩
        obtain ⟨m, rfl⟩ : ∃ q, m = q + 1 := ⟨m - 1, by omega⟩
        rw [e0, if_pos (by omega), B_R_RangeTellerModel_drop_4]
        by_cases y : nI c ≤ nI (l + 1)
        · rw [if_pos y]; rfl
        · rw [if_neg y, if_pos rfl]; rfl
    · rw [if_neg (nI_ge (by omega) (by omega))] at e0
      obtain ⟨τ', a1, a2, a3⟩ := ih (l + 1) (hh - 1) (rt_up τ 0 26 (nI (hh - 1))) m (by omega) (by omega) (by rw [rq_k (by decide)]; exact h4) (by rw [rq_c (by decide)]; exact hb) (by rw [rq_c (by decide)]; exact hv) rq_s (by omega) (by omega)
      refine ⟨τ', ?_, (rq_A.rf.up (by unfold ck_B; omega)).tr a2, ?_⟩
      · rw [e0, a1]
        by_cases y : lv = 1 ∧ hh < bs + (d + 1)
        · rw [if_pos y, if_pos (by omega)]
        · rw [if_neg y, if_neg (by omega)]
      · rw [a3]; unfold ck_h
        by_cases y : bs + (d + 1) ≤ hh
        · rw [if_pos (by omega), if_pos y, show hh - 1 - d = hh - (d + 1) by omega]
        · rw [if_neg (by omega), if_neg y]
end CK1
section CK2
variable {L bs lv c hh : Nat} {σ τ : rt_St}
/-- taking c from a frame with base bs: both come to the same height; it is wrong where the frame is live and has not so many -/
theorem ck_take (hL : L < 101) (hlv : lv ≤ 1) (hc : c < 1000) (h4 : σ 17 4 = nI L) (hb : σ 19 L = nI bs) (hv : σ 20 L = nI lv) (h5 : σ 17 5 = nI hh) (h1 : bs ≤ hh) (h2 : hh < 1000) : ∃ σ', M_C_Checker_take σ (nI c) = some σ' ∧ rq_A ck_A σ σ' ∧ σ' 17 5 = nI (ck_h bs hh c) ∧ ((lv = 1 ∧ hh < bs + c ∧ σ' 17 6 = 1) ∨ (¬ (lv = 1 ∧ hh < bs + c) ∧ σ' 17 6 = σ 17 6)) :=
  ck_take_l hL hlv hc c 0 hh σ FU (by omega) (by show c + 1 ≤ 2000000; omega) h4 hb hv h5 h1 h2
theorem ck_drop (hL : L < 101) (hlv : lv ≤ 1) (hc : c < 1000) (h4 : τ 0 21 = nI (L + 1)) (hb : τ 16 L = nI bs) (hv : τ 18 L = nI lv) (h5 : τ 0 26 = nI hh) (h1 : bs ≤ hh) (h2 : hh < 1000) : ∃ τ', M_R_RangeTellerModel_drop τ (nI c) = some (if lv = 1 ∧ hh < bs + c then 0 else 1, τ') ∧ rq_A ck_B τ τ' ∧ τ' 0 26 = nI (ck_h bs hh c) :=
  ck_drop_l hL hlv hc c 0 hh τ FU (by omega) (by show c + 1 ≤ 2000000; omega) h4 hb hv h5 h1 h2
theorem ck_giveC (h5 : σ 17 5 = nI hh) (h2 : hh + c < 100000) : M_C_Checker_give σ (nI c) = some (if hh + c ≤ 10 then rt_up σ 17 5 (nI (hh + c)) else rt_up (rt_up σ 17 5 (nI (hh + c))) 17 6 1) := by
  unfold M_C_Checker_give
  rw [rq_put, rq_b, h5, nI_add, rq_s]
  by_cases q : hh + c ≤ 10
  · rw [if_pos (show nI (hh + c) ≤ 10 from nI_le (b := 10) q (by decide)), if_pos q]
  · rw [if_neg (show ¬ nI (hh + c) ≤ 10 from nI_ge (a := 10) (by omega) (by omega)), if_neg q]; rfl
theorem ck_giveR (h5 : τ 0 26 = nI hh) (h2 : hh + c < 100000) : M_R_RangeTellerModel_give τ (nI c) = some (if hh + c ≤ 10 then 1 else 0, rt_up τ 0 26 (nI (hh + c))) := by
  unfold M_R_RangeTellerModel_give
  rw [rq_put, rq_b, h5, nI_add, rq_s]
  by_cases q : hh + c ≤ 10
  · rw [if_neg (show ¬ 10 < nI (hh + c) from nI_nlt (a := 10) q (by decide)), if_pos q]
  · rw [if_pos (show 10 < nI (hh + c) from nI_lt (a := 10) (by omega) (by omega)), if_neg q]
end CK2
