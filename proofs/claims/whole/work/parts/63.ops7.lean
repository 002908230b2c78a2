/-! checking: BRANCH -/
section CKC
variable {N F k hh L bs lv gv x i nd bb o : Nat} {op ar ow en el pa lo re fs : Nat → Nat} {σ τ u v w : rt_St} {r fr : List (Nat × Nat × Nat × Nat)} {gl : Int32}
theorem ck_M.mk {h2 : Nat} (h : ck_M fr hh σ τ) (h1 : u 17 4 = σ 17 4) (h5 : u 17 5 = nI h2) (h6 : u 17 6 = 0) (h7 : ∀ c j, 18 ≤ c → c ≤ 20 → u c j = σ c j) (g1 : w 0 21 = τ 0 21) (g5 : w 0 26 = nI h2) (g7 : ∀ c j, 15 ≤ c → c ≤ 18 → w c j = τ c j) (hy : h2 ≤ 10) : ck_M fr h2 u w := by
  obtain ⟨a1, a2, a3, a4, a5, a6, a7⟩ := h
  exact ⟨h1.trans a1, g1.trans a2, h5, g5, h6, a6.kp (fun c j x1 x2 _ => h7 c j x1 x2) (fun c j x1 x2 _ => g7 c j x1 x2), hy⟩
theorem ck_112 (h4 : v 17 4 = nI L) (hL : L < 101) (hb : v 19 L = nI bs) (hv : v 20 L = nI lv) (hlv : lv ≤ 1) (h5 : v 17 5 = nI hh) (h1 : bs ≤ hh) (h2 : hh ≤ 10) (h3 : v 2 k = nI o) (ho : o = 6 ∨ o = 7) (hk : k < 100) (hi : i < 101) (h19 : v 19 i = nI bb) (hn : nd ≤ 1) :
    ∃ σ', B_C_Checker_checkBranch_112 (nI k) (nI i) (nI nd) gl v = some σ' ∧ (∀ c j, ¬ (c = 17 ∧ (j = 5 ∨ j = 6)) → ¬ (7 ≤ c ∧ c ≤ 9 ∧ j = k) → σ' c j = v c j) ∧ (σ' 7 k = gl ∧ σ' 8 k = nI bb ∧ σ' 9 k = nI nd) ∧ σ' 17 5 = nI (if o = 7 then ck_h bs hh nd + nd else ck_h bs hh nd) ∧ ((v 17 6 = 1 ∨ (lv = 1 ∧ hh < bs + nd) ∨ (o = 7 ∧ ¬ ck_h bs hh nd + nd ≤ 10)) → σ' 17 6 = 1) ∧ (¬ (lv = 1 ∧ hh < bs + nd) → ¬ (o = 7 ∧ ¬ ck_h bs hh nd + nd ≤ 10) → σ' 17 6 = v 17 6) := by
  obtain ⟨σ1, p1, p2, p3, p4⟩ := ck_take (c := nd) hL hlv (by omega) h4 hb hv h5 h1 (by omega)
  have q2 : σ1 2 k = nI o := by rw [p2 2 k (by unfold ck_A; omega)]; exact h3
  have q19 : σ1 19 i = nI bb := by rw [p2 19 i (by unfold ck_A; omega)]; exact h19
  have hh10 : ck_h bs hh nd + nd < 100000 := by
    unfold ck_h
    by_cases y : bs + nd ≤ hh
    · rw [if_pos y]; omega
    · rw [if_neg y]; omega
  have jv : ∀ y : rt_St, (ck_j y k gl (nI bb) (nI nd)) 7 k = gl ∧ (ck_j y k gl (nI bb) (nI nd)) 8 k = nI bb ∧ (ck_j y k gl (nI bb) (nI nd)) 9 k = nI nd := fun y => by simp [ck_j, rq_if]
  have jn : ∀ (y : rt_St) (c j : Nat), ¬ (7 ≤ c ∧ c ≤ 9 ∧ j = k) → (ck_j y k gl (nI bb) (nI nd)) c j = y c j := fun y c j h => by
    unfold ck_j
    rw [rq_if, if_neg (by omega), rq_if, if_neg (by omega), rq_if, if_neg (by omega)]
  have e138 : ∀ y : rt_St, y 19 i = nI bb → B_C_Checker_checkBranch_138 (nI k) (nI i) (nI nd) gl y = some (ck_j y k gl (nI bb) (nI nd)) := fun y hy => by
    unfold B_C_Checker_checkBranch_138
    rw [rq_rd (n := 101) rfl hi (by decide), rq_b, hy, ck_set hk, rq_b]
  unfold B_C_Checker_checkBranch_112
  rw [p1, rq_b, rq_rd (n := 100) rfl hk (by decide), rq_b, q2]
  rcases ho with ho | ho
  · subst ho
    rw [if_neg (show ¬ nI 6 = 7 by decide), e138 σ1 q19]
    refine ⟨_, rfl, fun c j h1 h2 => by rw [jn _ _ _ h2]; exact p2 c j (by unfold ck_A; omega), jv _, by rw [jn _ _ _ (by omega), if_neg (by decide)]; exact p3, fun h => ?_, fun h1 h2 => ?_⟩
    · rw [jn _ _ _ (by omega)]
      rcases p4 with p4 | p4
      · exact p4.2.2
      · rcases h with h | h | h
        · rw [p4.2]; exact h
        · exact absurd h p4.1
        · omega
    · rw [jn _ _ _ (by omega)]
      rcases p4 with p4 | p4
      · exact absurd ⟨p4.1, p4.2.1⟩ h1
      · exact p4.2
  · subst ho
    rw [if_pos (show nI 7 = 7 from rfl), ck_giveC p3 hh10, rq_b]
    by_cases y : ck_h bs hh nd + nd ≤ 10
    · rw [if_pos y, e138 _ (by rw [rq_c (by decide)]; exact q19)]
      refine ⟨_, rfl, fun c j h1 h2 => ?_, jv _, by rw [jn _ _ _ (by omega), rq_s, if_pos rfl], fun h => ?_, fun h1 h2 => ?_⟩
      · rw [jn _ _ _ h2, rq_if, if_neg (by omega)]; exact p2 c j (by unfold ck_A; omega)
      · rw [jn _ _ _ (by omega), rq_k (by decide)]
        rcases p4 with p4 | p4
        · exact p4.2.2
        · rcases h with h | h | h
          · rw [p4.2]; exact h
          · exact absurd h p4.1
          · exact absurd y h.2
      · rw [jn _ _ _ (by omega), rq_k (by decide)]
        rcases p4 with p4 | p4
        · exact absurd ⟨p4.1, p4.2.1⟩ h1
        · exact p4.2
    · rw [if_neg y, e138 _ (by rw [rq_c (by decide), rq_c (by decide)]; exact q19)]
      refine ⟨_, rfl, fun c j h1 h2 => ?_, jv _, by rw [jn _ _ _ (by omega), rq_k (by decide), rq_s, if_pos rfl], fun _ => by rw [jn _ _ _ (by omega), rq_s], fun h1 h2 => absurd ⟨rfl, y⟩ h2⟩
      rw [jn _ _ _ h2, rq_if, if_neg (by omega), rq_if, if_neg (by omega)]; exact p2 c j (by unfold ck_A; omega)
end CKC
