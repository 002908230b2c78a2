/-! checking: BRANCH, in lockstep -/
section CKD
variable {N F k hh bs lv gv x : Nat} {op ar ow en el pa lo re fs : Nat → Nat} {σ τ : rt_St} {r : List (Nat × Nat × Nat × Nat)}
/-- of each frame: the function's gives what the function gives; another's opener is an instruction, with its end -/
def ck_ok (N f : Nat) (op ar en re : Nat → Nat) (fr : List (Nat × Nat × Nat × Nat)) : Prop := ∀ (a : Nat) (q : Nat × Nat × Nat × Nat), fr[a]? = some q → (q.1 = 0 → q.2.2.1 = re f) ∧ (q.1 ≠ 0 → q.1 - 1 < N ∧ ar (q.1 - 1) = q.2.2.1 ∧ (op (q.1 - 1) ≠ 2 → en (q.1 - 1) ≠ 0))
theorem ck_nd1 {q : Nat × Nat × Nat × Nat} (h : q.2.2.1 ≤ 1) : ck_nd op q ≤ 1 := by
  unfold ck_nd
  by_cases c : q.1 = 0
  · rw [if_pos c]; exact h
  · rw [if_neg c]
    by_cases d : op (q.1 - 1) = 2
    · rw [if_pos d]; omega
    · rw [if_neg d]; exact h
theorem ck_neg {L a : Nat} (h : L ≤ a) (ha : a < 64) : ¬ 0 ≤ nI L - 1 - nI a := by
  have e : nI L - 1 - nI a = nI L - nI (a + 1) := by
    rw [← nI_1, Int32.sub_sub, Int32.add_comm]
  rw [e]
  exact Int32.not_le.mpr (pk_sneg (by omega) (by omega))
theorem ck_op6 (hT : rq_T N op ar ow en el σ τ) (hF : rq_TF F pa lo re fs σ τ) (hN : N ≤ 100) (hF3 : F ≤ 3) (hk : k < N) (hf : ow k < F) (hM : ck_M ((x, bs, gv, lv) :: r) hh σ τ) (hr : r.length < 100) (hb : bs ≤ hh) (hok : ck_ok N (ow k) op ar en re ((x, bs, gv, lv) :: r)) (ho : op k = 6) :
    ck_out k σ τ (fun fr' hh' σ' τ' => fr' = (x, bs, gv, 0) :: r ∧ hh' = bs ∧ ∃ q, ((x, bs, gv, lv) :: r)[ar k]? = some q ∧ ¬ (lv = 1 ∧ hh < bs + ck_nd op q) ∧ (σ' 7 k = ck_gl op en q ∧ σ' 8 k = nI q.2.1 ∧ σ' 9 k = nI (ck_nd op q)) ∧ τ' 8 k = ck_o (-1) q.1 ∧ τ' 9 k = nI q.2.1 ∧ τ' 10 k = nI (ck_nd op q)) := by
  obtain ⟨⟨s2, s3, s4, s5, s6⟩, ⟨t2, t3, t4, -, -⟩, o1, o2, o3, o4⟩ := hT k hk
  obtain ⟨f1, f2, f3, f4, -⟩ := hF (ow k) hf
  obtain ⟨m1, m2, m3, m4, m5, mf, m7⟩ := id hM
  obtain ⟨⟨a1, a2, a3⟩, ⟨b1, b2, b3, b4⟩, ⟨c1, c2, c3⟩, d1⟩ := id mf
  have l4 : σ 17 4 = nI r.length := by rw [m1]; exact nI_pred _
  have c1' : bs ≤ 10 := c1
  have c3' : lv ≤ 1 := c3
  have hlen : ((x, bs, gv, lv) :: r).length = r.length + 1 := rfl
  have eC : M_C_Checker_checkInstruction σ (nI k) = (M_C_Checker_checkBranch σ (nI k) (nI (re (ow k)))).bind fun σ12 => (M_C_Checker_deaden σ12).bind fun σ13 => some σ13 := by
    unfold M_C_Checker_checkInstruction
    rw [rq_rd (n := 100) rfl (by omega) (by decide), rq_b, s2, rq_rd (n := 100) rfl (by omega) (by decide), rq_b, s4, rq_rd (n := 3) rfl (by omega) (by decide), rq_b, f4, ho]
    rw [if_neg (show ¬ nI 6 = 0 by decide), if_neg (show ¬ nI 6 = 1 by decide), if_neg (show ¬ nI 6 = 2 by decide), if_neg (show ¬ nI 6 = 3 by decide), if_neg (show ¬ nI 6 = 4 by decide), if_neg (show ¬ nI 6 = 5 by decide), if_pos (show nI 6 = 6 from rfl)]
  have eR : M_R_RangeTellerModel_checkFlow τ (nI k) = rt_b2 (M_R_RangeTellerModel_needs τ (nI k) (nI (ar k))) fun v28 σ27 => if v28 < 0 then some (0, σ27) else rt_b2 (M_R_RangeTellerModel_drop σ27 v28) fun v30 σ29 => if v30 = 0 then some (0, σ29) else rt_b2 (M_R_RangeTellerModel_deaden σ29) fun v32 σ31 => if v32 = 0 then some (0, σ31) else some (1, σ31) := by
    unfold M_R_RangeTellerModel_checkFlow
    rw [rq_rd (n := 100) rfl (by omega) (by decide), rq_b, t3, rq_rd (n := 100) rfl (by omega) (by decide), rq_b, t4, rq_rd (n := 100) rfl (by omega) (by decide), rq_b, t2, ho]
    rw [if_neg (show ¬ nI 6 = 0 by decide), if_neg (show ¬ nI 6 = 1 by decide), if_neg (show ¬ nI 6 = 2 by decide), if_neg (show ¬ nI 6 = 3 by decide), if_neg (show ¬ nI 6 = 4 by decide), if_neg (show ¬ nI 6 = 5 by decide), if_pos (show nI 6 = 6 from rfl)]
  have eR0 := ck_inR hT hN hk (by omega)
  cases hq : ((x, bs, gv, lv) :: r)[ar k]? with
  | none =>
    have hge : r.length + 1 ≤ ar k := by
      have := List.getElem?_eq_none_iff.mp hq
      rw [hlen] at this; exact this
    have eB : M_C_Checker_checkBranch σ (nI k) (nI (re (ow k))) = some (rt_up σ 17 6 1) := by
      unfold M_C_Checker_checkBranch
      rw [rq_rd (n := 100) rfl (by omega) (by decide), rq_b, s3, m1, if_neg (ck_neg (by rw [hlen]; exact hge) o2), rq_put, rq_b]
    have eN : M_R_RangeTellerModel_needs τ (nI k) (nI (ar k)) = some (-1, τ) := by
      unfold M_R_RangeTellerModel_needs
      rw [m2, if_neg (ck_neg (by rw [hlen]; exact hge) o2)]
    rw [eB, rq_b, ck_deadC (L := r.length) (by rw [rq_k (by decide)]; exact l4) (by omega), rq_b] at eC
    rw [eN, rq_b2, if_pos (by decide)] at eR
    rw [eR, rq_b2, ck_zok0] at eR0
    exact ⟨_, eC, ((rq_A.rf.up (by unfold ck_kC ck_C; omega)).up (by unfold ck_kC ck_C; omega)).up (by unfold ck_kC ck_C; omega), Or.inl ⟨τ, eR0, rq_A.rf, by rw [rq_k (by decide), rq_c (by decide), rq_s]⟩⟩
  | some q =>
    obtain ⟨k0, k1⟩ := hok _ q hq
    obtain ⟨e0, ⟨e1, e2⟩, -, e4, e5⟩ := ck_at mf hq
    have hnd : ck_nd op q ≤ 1 := ck_nd1 e5
    have eB := ck_brC hT hN hk m1 mf (by rw [hlen]; omega) hq k0 k1
    have eN := ck_brR hT hN hk (w := τ) (fun _ _ _ => rfl) m2 mf (by rw [hlen]; omega) o2 hq (fun h => (k1 h).1)
    obtain ⟨σ2, p1, p2, p3, p4, p5, p6⟩ := ck_112 (gl := ck_gl op en q) (nd := ck_nd op q) l4 (by omega) a2 a3 c3' m3 hb m7 (s2.trans (by rw [ho])) (Or.inl rfl) (by omega) (i := ((x, bs, gv, lv) :: r).length - 1 - ar k) (by rw [hlen]; omega) e2 hnd
    have z4 : σ2 17 4 = nI r.length := by rw [p2 17 4 (by omega) (by omega)]; exact l4
    rw [eB, p1, rq_b, ck_deadC z4 (by omega), rq_b] at eC
    have A1 : rq_A (ck_kC k) σ σ2 := fun c j h => p2 c j (by unfold ck_kC ck_C at h; omega) (by unfold ck_kC ck_C at h; omega)
    have K1 : rq_A (ck_kC k) σ (rt_up (rt_up σ2 20 r.length 0) 17 5 (σ2 19 r.length)) := (A1.up (by unfold ck_kC ck_C; omega)).up (by unfold ck_kC ck_C; omega)
    have hM' : ck_M ((x, bs, gv, lv) :: r) hh σ (ck_jr τ k (ck_o (-1) q.1) (nI q.2.1) (nI (ck_nd op q))) := hM.kp (fun _ => rfl) (fun _ _ _ _ => rfl) (fun j _ => ck_jrk (by omega)) (fun c j _ _ => ck_jrk (by omega))
    obtain ⟨σx, τ1, -, w2, -, w4, -, w6, -, w8⟩ := hM'.take (c := ck_nd op q) (by omega) hb (by omega)
    rw [eN, rq_b2, if_neg (nI_pos (by omega)), w2, rq_b2] at eR
    have K2 : rq_A (ck_kR k) τ τ1 := ck_jrA.tr (w4.mono (fun c j h => ck_BR h))
    by_cases y : lv = 1 ∧ hh < bs + ck_nd op q
    · rw [if_pos y, if_pos rfl] at eR
      rw [eR, rq_b2, ck_zok0] at eR0
      exact ⟨_, eC, K1, Or.inl ⟨τ1, eR0, K2, by rw [rq_k (by decide), rq_c (by decide)]; exact p5 (Or.inr (Or.inl y))⟩⟩
    · have hm := w8 y
      rw [if_neg y, if_neg (by decide), ck_deadR hm.2.1 (by omega), rq_b2, if_neg (by decide)] at eR
      rw [eR, rq_b2, ck_zok1] at eR0
      have p4' : σ2 17 5 = nI (ck_h bs hh (ck_nd op q)) := by rw [p4, if_neg (by decide)]
      have hm2 : ck_M ((x, bs, gv, lv) :: r) (ck_h bs hh (ck_nd op q)) σ2 τ1 := hM'.mk (by rw [z4, l4]) p4' (by rw [p6 y (by omega)]; exact m5) (fun c j x1 x2 => p2 c j (by omega) (by omega)) (w4 0 21 (by unfold ck_B; omega)) w6 (fun c j x1 x2 => w4 c j (by unfold ck_B; omega)) hm.2.2.2.2.2.2
      refine ⟨_, eC, K1, Or.inr ⟨_, _, _, eR0, (K2.up (by unfold ck_kR ck_R; omega)).up (by unfold ck_kR ck_R; omega), hm2.dead, rfl, rfl, q, rfl, y, ⟨?_, ?_, ?_⟩, ?_, ?_, ?_⟩⟩
      · rw [rq_c (by decide), rq_c (by decide)]; exact p3.1
      · rw [rq_c (by decide), rq_c (by decide)]; exact p3.2.1
      · rw [rq_c (by decide), rq_c (by decide)]; exact p3.2.2
      · rw [rq_c (by decide), rq_c (by decide), w4 8 k (by unfold ck_B; omega)]; simp [ck_jr, rq_if]
      · rw [rq_c (by decide), rq_c (by decide), w4 9 k (by unfold ck_B; omega)]; simp [ck_jr, rq_if]
      · rw [rq_c (by decide), rq_c (by decide), w4 10 k (by unfold ck_B; omega)]; simp [ck_jr, rq_if]
end CKD
