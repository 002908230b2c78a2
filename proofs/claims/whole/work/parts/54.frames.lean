/-! checking: the frames, the latest first: (opener + 1, or 0 for the function; base; what it gives; live) -/
def ck_o (m : Int32) (x : Nat) : Int32 := if x = 0 then m else nI (x - 1)
def ck_fr (σ τ : rt_St) : List (Nat × Nat × Nat × Nat) → Prop
  | [] => True
  | q :: r => (σ 18 r.length = ck_o (-3) q.1 ∧ σ 19 r.length = nI q.2.1 ∧ σ 20 r.length = nI q.2.2.2) ∧ (τ 15 r.length = ck_o (-1) q.1 ∧ τ 16 r.length = nI q.2.1 ∧ τ 17 r.length = nI q.2.2.1 ∧ τ 18 r.length = nI q.2.2.2) ∧ (q.2.1 ≤ 10 ∧ q.2.2.1 ≤ 1 ∧ q.2.2.2 ≤ 1) ∧ ck_fr σ τ r
theorem ck_fr.kp {σ τ u w : rt_St} : ∀ {fr : List (Nat × Nat × Nat × Nat)}, ck_fr σ τ fr → (∀ c j, 18 ≤ c → c ≤ 20 → j < fr.length → u c j = σ c j) → (∀ c j, 15 ≤ c → c ≤ 18 → j < fr.length → w c j = τ c j) → ck_fr u w fr
  | [], _, _, _ => trivial
  | q :: r, h, hu, hw => by
    obtain ⟨⟨a1, a2, a3⟩, ⟨b1, b2, b3, b4⟩, c1, d1⟩ := h
    have hl : r.length < (q :: r).length := by simp
    refine ⟨⟨?_, ?_, ?_⟩, ⟨?_, ?_, ?_, ?_⟩, c1, d1.kp (fun c j x1 x2 x3 => hu c j x1 x2 (by simp; omega)) (fun c j x1 x2 x3 => hw c j x1 x2 (by simp; omega))⟩
    · rw [hu 18 _ (by decide) (by decide) hl]; exact a1
    · rw [hu 19 _ (by decide) (by decide) hl]; exact a2
    · rw [hu 20 _ (by decide) (by decide) hl]; exact a3
    · rw [hw 15 _ (by decide) (by decide) hl]; exact b1
    · rw [hw 16 _ (by decide) (by decide) hl]; exact b2
    · rw [hw 17 _ (by decide) (by decide) hl]; exact b3
    · rw [hw 18 _ (by decide) (by decide) hl]; exact b4
/-- what the check may touch -/
def ck_C (c k : Nat) : Prop := ¬ ((c = 17 ∧ (k = 4 ∨ k = 5 ∨ k = 6)) ∨ (7 ≤ c ∧ c ≤ 9) ∨ (18 ≤ c ∧ c ≤ 20))
def ck_R (c k : Nat) : Prop := ¬ ((c = 0 ∧ (k = 21 ∨ k = 26)) ∨ (8 ≤ c ∧ c ≤ 10) ∨ (15 ≤ c ∧ c ≤ 18))
/-- the machine part of a state while it is checked: frames, height, and nothing wrong so far -/
def ck_M (fr : List (Nat × Nat × Nat × Nat)) (hh : Nat) (σ τ : rt_St) : Prop := σ 17 4 = nI fr.length - 1 ∧ τ 0 21 = nI fr.length ∧ σ 17 5 = nI hh ∧ τ 0 26 = nI hh ∧ σ 17 6 = 0 ∧ ck_fr σ τ fr ∧ hh ≤ 10
section CK3
variable {L hh : Nat} {σ τ : rt_St} {a a1 a2 : Int32}
theorem ck_deadC (h4 : σ 17 4 = nI L) (hL : L < 101) : M_C_Checker_deaden σ = some (rt_up (rt_up σ 20 L 0) 17 5 (σ 19 L)) := by
  unfold M_C_Checker_deaden
  rw [rq_wr (n := 101) h4 hL (by decide), rq_b, rq_rd (n := 101) (i := L) (by rw [rq_c (by decide)]; exact h4) hL (by decide), rq_b, rq_put, rq_b, rq_c (by decide)]
theorem ck_deadR (h4 : τ 0 21 = nI (L + 1)) (hL : L < 101) : M_R_RangeTellerModel_deaden τ = some (1, rt_up (rt_up τ 18 L 0) 0 26 (τ 16 L)) := by
  unfold M_R_RangeTellerModel_deaden
  rw [rq_wr (n := 101) (i := L) (by rw [h4, nI_pred]) hL (by decide), rq_b, rq_rd (n := 101) (i := L) (by rw [rq_c (by decide), h4, nI_pred]) hL (by decide), rq_b, rq_put, rq_b, rq_c (by decide)]
def ck_oC (σ : rt_St) (L hh : Nat) (a : Int32) : rt_St := rt_up (rt_up (rt_up (rt_up σ 17 4 (nI L)) 18 L a) 19 L (nI hh)) 20 L 1
def ck_oR (τ : rt_St) (L hh : Nat) (a1 a2 : Int32) : rt_St := rt_up (rt_up (rt_up (rt_up (rt_up τ 15 L a1) 16 L (nI hh)) 17 L a2) 18 L 1) 0 21 (nI (L + 1))
theorem ck_openC (h4 : σ 17 4 = nI L - 1) (h5 : σ 17 5 = nI hh) (hL : L < 101) : M_C_Checker_open σ a = some (ck_oC σ L hh a) := by
  have e : σ 17 4 + 1 = nI L := by rw [h4, Int32.sub_add_cancel]
  unfold M_C_Checker_open ck_oC
  rw [rq_put, rq_b, e, rq_wr (n := 101) (i := L) rq_s hL (by decide), rq_b, rq_wr (n := 101) (i := L) (by rw [rq_c (by decide), rq_s]) hL (by decide), rq_b, rq_wr (n := 101) (i := L) (by rw [rq_c (by decide), rq_c (by decide), rq_s]) hL (by decide), rq_b, rq_c (by decide), rq_k (by decide), h5]
theorem ck_openR (h4 : τ 0 21 = nI L) (h5 : τ 0 26 = nI hh) (hL : L < 101) : M_R_RangeTellerModel_open τ a1 a2 = some (ck_oR τ L hh a1 a2) := by
  unfold M_R_RangeTellerModel_open ck_oR
  rw [rq_wr (n := 101) h4 hL (by decide), rq_b, rq_wr (n := 101) (i := L) (by rw [rq_c (by decide)]; exact h4) hL (by decide), rq_b, rq_wr (n := 101) (i := L) (by rw [rq_c (by decide), rq_c (by decide)]; exact h4) hL (by decide), rq_b, rq_wr (n := 101) (i := L) (by rw [rq_c (by decide), rq_c (by decide), rq_c (by decide)]; exact h4) hL (by decide), rq_b, rq_put, rq_b]
  have e1 : (rt_up τ 15 L a1) 0 26 = nI hh := by rw [rq_c (by decide)]; exact h5
  have e2 : (rt_up (rt_up (rt_up (rt_up τ 15 L a1) 16 L (nI hh)) 17 L a2) 18 L 1) 0 21 = nI L := by rw [rq_c (by decide), rq_c (by decide), rq_c (by decide), rq_c (by decide)]; exact h4
  rw [e1, e2, nI_1]
/-- opening keeps the picture -/
theorem ck_M.opn {fr : List (Nat × Nat × Nat × Nat)} {x gv : Nat} (h : ck_M fr hh σ τ) (hg : gv ≤ 1) : ck_M ((x, hh, gv, 1) :: fr) hh (ck_oC σ fr.length hh (ck_o (-3) x)) (ck_oR τ fr.length hh (ck_o (-1) x) (nI gv)) := by
  obtain ⟨h1, h2, h3, h4, h5, h6, h7⟩ := h
  refine ⟨?_, ?_, ?_, ?_, ?_, ⟨⟨?_, ?_, ?_⟩, ⟨?_, ?_, ?_, ?_⟩, ⟨h7, hg, Nat.le_refl _⟩, h6.kp (fun c j x1 x2 x3 => ?_) (fun c j x1 x2 x3 => ?_)⟩, h7⟩
  · rw [List.length_cons, nI_pred]; simp [ck_oC, rq_if]
  · rw [List.length_cons]; simp [ck_oR, rq_if]
  · simpa [ck_oC, rq_if] using h3
  · simpa [ck_oR, rq_if] using h4
  · simpa [ck_oC, rq_if] using h5
  · simp [ck_oC, rq_if]
  · simp [ck_oC, rq_if]
  · simp [ck_oC, rq_if]; rfl
  · simp [ck_oR, rq_if]
  · simp [ck_oR, rq_if]
  · simp [ck_oR, rq_if]
  · simp [ck_oR, rq_if]; rfl
  · have e : j ≠ fr.length := by omega
    have e2 : c ≠ 17 := by omega
    simp [ck_oC, rq_if, e, e2]
  · have e : j ≠ fr.length := by omega
    have e2 : c ≠ 0 := by omega
    simp [ck_oR, rq_if, e, e2]
theorem ck_M.dead {r : List (Nat × Nat × Nat × Nat)} {x bs gv lv : Nat} (h : ck_M ((x, bs, gv, lv) :: r) hh σ τ) : ck_M ((x, bs, gv, 0) :: r) bs (rt_up (rt_up σ 20 r.length 0) 17 5 (σ 19 r.length)) (rt_up (rt_up τ 18 r.length 0) 0 26 (τ 16 r.length)) := by
  obtain ⟨h1, h2, h3, h4, h5, ⟨⟨a1, a2, a3⟩, ⟨b1, b2, b3, b4⟩, ⟨c1, c2, c3⟩, d1⟩, h7⟩ := h
  refine ⟨?_, ?_, ?_, ?_, ?_, ⟨⟨?_, ?_, ?_⟩, ⟨?_, ?_, ?_, ?_⟩, ⟨c1, c2, Nat.zero_le _⟩, d1.kp (fun c j x1 x2 x3 => ?_) (fun c j x1 x2 x3 => ?_)⟩, c1⟩
  · simpa [rq_if] using h1
  · simpa [rq_if] using h2
  · rw [rq_s]; exact a2
  · rw [rq_s]; exact b2
  · simpa [rq_if] using h5
  · simpa [rq_if] using a1
  · simpa [rq_if] using a2
  · simp [rq_if]; rfl
  · simpa [rq_if] using b1
  · simpa [rq_if] using b2
  · simpa [rq_if] using b3
  · simp [rq_if]; rfl
  · rw [rq_c (by omega)]
    by_cases e : c = 20
    · subst e; rw [rq_k (by omega)]
    · rw [rq_c e]
  · rw [rq_c (by omega)]
    by_cases e : c = 18
    · subst e; rw [rq_k (by omega)]
    · rw [rq_c e]
/-- taking: both wrong, or both go on -/
theorem ck_M.take {r : List (Nat × Nat × Nat × Nat)} {x bs gv lv c : Nat} (h : ck_M ((x, bs, gv, lv) :: r) hh σ τ) (hr : r.length < 101) (hb : bs ≤ hh) (hc : c < 1000) :
    ∃ σ' τ', M_C_Checker_take σ (nI c) = some σ' ∧ M_R_RangeTellerModel_drop τ (nI c) = some (if lv = 1 ∧ hh < bs + c then 0 else 1, τ') ∧ rq_A ck_A σ σ' ∧ rq_A ck_B τ τ' ∧ σ' 17 5 = nI (ck_h bs hh c) ∧ τ' 0 26 = nI (ck_h bs hh c) ∧ (lv = 1 ∧ hh < bs + c → σ' 17 6 = 1) ∧ (¬ (lv = 1 ∧ hh < bs + c) → ck_M ((x, bs, gv, lv) :: r) (ck_h bs hh c) σ' τ') := by
  have h' := h
  obtain ⟨h1, h2, h3, h4, h5, ⟨⟨a1, a2, a3⟩, ⟨b1, b2, b3, b4⟩, ⟨c1, c2, c3⟩, d1⟩, h7⟩ := h
  have e1 : σ 17 4 = nI r.length := by rw [h1, List.length_cons, nI_pred]
  obtain ⟨σ', p1, p2, p3, p4⟩ := ck_take hr c3 hc e1 a2 a3 h3 hb (by omega)
  obtain ⟨τ', q1, q2, q3⟩ := ck_drop hr c3 hc h2 b2 b4 h4 hb (by omega)
  refine ⟨σ', τ', p1, q1, p2, q2, p3, q3, fun hw => ?_, fun hw => ?_⟩
  · rcases p4 with p4 | p4
    · exact p4.2.2
    · exact absurd hw p4.1
  · have w0 : σ' 17 6 = 0 := by
      rcases p4 with p4 | p4
      · exact absurd ⟨p4.1, p4.2.1⟩ hw
      · exact p4.2.trans h5
    refine ⟨by rw [p2 17 4 (by unfold ck_A; omega)]; exact h1, by rw [q2 0 21 (by unfold ck_B; omega)]; exact h2, p3, q3, w0, h'.2.2.2.2.2.1.kp (fun c j x1 x2 x3 => p2 c j (by unfold ck_A; omega)) (fun c j x1 x2 x3 => q2 c j (by unfold ck_B; omega)), ?_⟩
    unfold ck_h
    by_cases y : bs + c ≤ hh
    · rw [if_pos y]; omega
    · rw [if_neg y]; exact c1
/-- giving -/
theorem ck_M.give {fr : List (Nat × Nat × Nat × Nat)} {c : Nat} (h : ck_M fr hh σ τ) (hc : c < 1000) :
    ∃ σ' τ', M_C_Checker_give σ (nI c) = some σ' ∧ M_R_RangeTellerModel_give τ (nI c) = some (if hh + c ≤ 10 then 1 else 0, τ') ∧ rq_A ck_A σ σ' ∧ rq_A ck_B τ τ' ∧ (¬ hh + c ≤ 10 → σ' 17 6 = 1) ∧ (hh + c ≤ 10 → ck_M fr (hh + c) σ' τ') := by
  obtain ⟨h1, h2, h3, h4, h5, h6, h7⟩ := h
  refine ⟨_, _, ck_giveC h3 (by omega), ck_giveR h4 (by omega), ?_, rq_A.rf.up (by unfold ck_B; omega), fun hn => ?_, fun hy => ?_⟩
  · by_cases y : hh + c ≤ 10
    · rw [if_pos y]; exact rq_A.rf.up (by unfold ck_A; omega)
    · rw [if_neg y]; exact (rq_A.rf.up (by unfold ck_A; omega)).up (by unfold ck_A; omega)
  · rw [if_neg hn, rq_s]
  · rw [if_pos hy]
    exact ⟨by rw [rq_k (by decide)]; exact h1, by rw [rq_k (by decide)]; exact h2, rq_s, rq_s, by rw [rq_k (by decide)]; exact h5, h6.kp (fun c j x1 x2 x3 => rq_c (by omega)) (fun c j x1 x2 x3 => rq_c (by omega)), hy⟩
end CK3
