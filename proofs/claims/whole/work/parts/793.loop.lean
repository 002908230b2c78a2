/-! running: the loops to their end -/
section RN8
variable {N F s q lim : Nat} {op ar ow en el pa lo re fs hs : Nat → Nat} {L : Nat → Prop} {σ τ : rt_St}
theorem rn_stopC (H : rn_Z s σ τ) (m : Nat) (l : Int32) : ∃ z : Nat, z < 6 ∧ σ 21 8 = nI z ∧ τ 0 38 = nI z ∧ B_C_Runner_runWith_16 (m + 1) l σ = some (nI z, rt_up σ 21 2 0) ∧ B_R_RangeTellerModel_run_172 (m + 1) l (nI q) τ = some (nI z, rt_up (rt_up τ 0 27 0) 0 29 1) := by
  obtain ⟨⟨z, z1, z2, z3⟩, -⟩ := H
  have z6 : ¬ σ 21 8 = 6 := by rw [z2]; exact fun e => absurd ((nI_eq (b := 6) (by omega) (by decide)).mp e) (by omega)
  refine ⟨z, z1, z2, z3, ?_, ?_⟩
  · rw [B_C_Runner_runWith_16, if_neg z6]
    unfold B_C_Runner_runWith_54 B_C_Runner_runWith_68
    rw [if_neg z6, rq_put, rq_b, rq_k (by decide), z2]
  · rw [B_R_RangeTellerModel_run_172, if_pos (show 0 ≤ τ 0 38 by rw [z3]; exact nI_pos' (by omega)), rq_put, rq_b, rq_put, rq_b, rq_k (by decide), rq_k (by decide), z3]
theorem rn_Z.g5 (H : rn_Z s σ τ) : rq_G5 (rt_up σ 21 2 0) (rt_up (rt_up τ 0 27 0) 0 29 1) := by
  obtain ⟨⟨z, z1, z2, z3⟩, a1, a2, a3, a4, ⟨a5, a6⟩, ⟨m, m1, m2, m3, m4⟩, a7⟩ := H
  refine Or.inr ⟨?_, rq_s, ?_, fun e => ?_, fun e => ?_, ?_, ⟨m, m1, ?_, ?_, fun j j1 j2 => ?_⟩, fun j hj => ?_⟩
  · rw [rq_k (by decide)]; exact a1
  · rw [rq_k (by decide), rq_k (by decide), rq_k (by decide)]; exact a4
  · rw [rq_k (by decide)] at e
    rw [rq_k (by decide), rq_k (by decide)]; exact a2 e
  · rw [rq_k (by decide)] at e
    rw [rq_k (by decide), rq_k (by decide), rq_k (by decide)]; exact a3 e
  · rw [rq_k (by decide), rq_k (by decide), rq_k (by decide), a5, a6]
  · rw [rq_k (by decide)]; exact m2
  · rw [rq_k (by decide), rq_k (by decide)]; exact m3
  · rw [rq_c (by decide), rq_c (by decide), rq_c (by decide)]; exact m4 j j1 j2
  · rw [rq_c (by decide), rq_c (by decide), rq_c (by decide)]; exact a7 j hj
def rn_R (mC mR lim q : Nat) (σ τ : rt_St) : Prop := ∃ r u v, B_C_Runner_runWith_16 mC (nI lim) σ = some (r, u) ∧ B_R_RangeTellerModel_run_172 mR (nI lim) (nI q) τ = some (r, v) ∧ rq_A rn_WC σ u ∧ rq_A rn_WR τ v ∧ rq_G5 u v ∧ u 21 2 = 0 ∧ v 0 27 = 0
theorem rn_stopR (H : rn_Z s σ τ) (mC mR : Nat) : rn_R (mC + 1) (mR + 1) lim q σ τ := by
  obtain ⟨z, z1, z2, z3, z4, -⟩ := rn_stopC (q := q) H mC (nI lim)
  obtain ⟨z', -, -, y3, -, z5⟩ := rn_stopC (q := q) H mR (nI lim)
  have e : nI z' = nI z := y3.symm.trans z3
  rw [e] at z5
  exact ⟨nI z, _, _, z4, z5, rq_A.rf.up (by unfold rn_WC; omega), (rq_A.rf.up (by unfold rn_WR; omega)).up (by unfold rn_WR; omega), H.g5, rq_s, by rw [rq_k (by decide), rq_s]⟩
theorem rn_loop (hl : lim ≤ 2000) : ∀ (d s q : Nat) (σ τ : rt_St) (mC mR : Nat), s + d = lim → d + 2 ≤ mC → d + 3 ≤ mR → rn_M N F op ar ow en el pa lo re fs hs L σ τ → rn_go N op ar ow pa hs L s q σ τ → rn_R mC mR lim q σ τ := by
  intro d
  induction d with
  | zero =>
    intro s q σ τ mC mR hd hC hR M G
    obtain ⟨D, n, c, k, P, S, O, e9, e36⟩ := G
    obtain ⟨mC, rfl⟩ : ∃ x, mC = x + 1 := ⟨mC - 1, by omega⟩
    obtain ⟨mR, rfl⟩ : ∃ x, mR = x + 1 + 1 := ⟨mR - 2, by omega⟩
    obtain ⟨⟨g1, g2, g3⟩, ⟨g4, g5⟩, ⟨g6, g7, g8⟩, dd, ⟨m', m1, m2, m3, m4⟩, -, -, -⟩ := O
    have Z : rn_Z s (rt_up σ 21 8 5) (rt_up (rt_up τ 0 38 5) 0 40 (nI k)) := by
      refine ⟨⟨5, by decide, rq_s, by rw [rq_k (by decide), rq_s]; rfl⟩, ?_, fun e => ?_, fun _ => ?_, ?_, ⟨?_, ?_⟩, ⟨m', by omega, ?_, ?_, fun j j1 j2 => ?_⟩, fun j hj => ?_⟩
      · rw [rq_k (by decide)]; exact g1
      · rw [rq_s] at e; exact absurd e (by decide)
      · rw [rq_s, rq_k (by decide)]; exact e9
      · rw [rq_k (by decide), rq_k (by decide), rq_k (by decide), g6, g7]
      · rw [rq_k (by decide)]; exact g4
      · rw [rq_k (by decide), rq_k (by decide)]; exact g5
      · rw [rq_k (by decide)]; exact m2
      · rw [rq_k (by decide), rq_k (by decide)]; exact m3
      · rw [rq_c (by decide), rq_c (by decide), rq_c (by decide)]; exact m4 j j1 j2
      · obtain ⟨b, hb, x1, x2⟩ := dd j hj
        rw [rq_c (by decide), rq_c (by decide), rq_c (by decide), x1, x2]
    have sl : s = lim := by omega
    obtain ⟨r, u, v, q1, q2, q3, q4, q5, q6, q7⟩ := rn_stopR (lim := lim) (q := q) Z mC mR
    refine ⟨r, u, v, ?_, ?_, (rq_A.rf.up (by unfold rn_WC; omega)).tr q3, ((rq_A.rf.up (by unfold rn_WR; omega)).up (by unfold rn_WR; omega)).tr q4, q5, q6, q7⟩
    · rw [← q1, B_C_Runner_runWith_16, B_C_Runner_runWith_16, if_pos g2, g4, sl, if_pos (Int32.le_refl _), rq_s, if_neg (by decide)]
      unfold B_C_Runner_runWith_54
      rw [if_pos g2, rq_put, rq_b, rq_s, if_neg (by decide)]
    · rw [B_R_RangeTellerModel_run_172, if_neg (show ¬ 0 ≤ τ 0 38 by rw [g3]; decide), if_pos (show τ 0 37 = nI lim by rw [g5, sl]), rq_put, rq_b, e36, rq_put, rq_b]
      exact q2
  | succ d ih =>
    intro s q σ τ mC mR hd hC hR M G
    obtain ⟨D, n, c, k, P, S, O, e9, e36⟩ := G
    obtain ⟨mC, rfl⟩ : ∃ x, mC = x + 1 + 1 := ⟨mC - 2, by omega⟩
    obtain ⟨mR, rfl⟩ : ∃ x, mR = x + 1 + 1 := ⟨mR - 2, by omega⟩
    have T : rn_T N op ar ow pa hs L k s q lim σ τ := by
      by_cases z : 10 ≤ op k
      · exact rn_turnA M P S O e9 e36 (by omega) (by omega) z
      · exact rn_turnF M P S O e9 e36 (by omega) (by omega) (by omega)
    obtain ⟨u, v, q', t1, t2, t3, t4, t5⟩ := T
    have eC : B_C_Runner_runWith_16 (mC + 1 + 1) (nI lim) σ = B_C_Runner_runWith_16 (mC + 1) (nI lim) u := by
      rw [B_C_Runner_runWith_16, if_pos O.1.2.1, O.2.1.1, if_neg (nI_ge (by omega) (by omega)), rq_put, rq_b, nI_1, rq_k (by decide), e9, t1, rq_b]
    have fin : rn_R (mC + 1) (mR + 1) lim q' u v := by
      rcases t5 with t5 | t5
      · exact rn_stopR t5 mC mR
      · exact ih (s + 1) q' u v (mC + 1) (mR + 1) (by omega) (by omega) (by omega) (M.kp (t3.mono (fun c j h => by unfold rn_TC at h; unfold rn_WC; omega)) (t4.mono (fun c j h => by unfold rn_TR at h; unfold rn_WR; omega))) t5
    obtain ⟨r, u2, v2, q1, q2, q3, q4, q5⟩ := fin
    exact ⟨r, u2, v2, eC.trans q1, (t2 (mR + 1)).trans q2, t3.tr q3, t4.tr q4, q5⟩
end RN8
