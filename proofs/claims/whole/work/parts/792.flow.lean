/-! running: one turn where the flow is steered -/
section RN7
variable {N F D h m a b k s t q lim o : Nat} {op ar ow en el pa lo re fs hs n c : Nat → Nat} {L : Nat → Prop} {σ τ u v w : rt_St}
theorem rn_finL {x : Int32} (hk : k < 100) (O : rn_O s s q σ τ) (e36 : τ 0 36 = nI k) (hs1 : s < lim) (hl : lim < 90000) (ho : o < 10) (t2 : τ 2 k = nI o) (ht : M_R_RangeTellerModel_trap (rt_up τ 0 37 (nI (s + 1))) (nI k) = some (0, (rt_up τ 0 37 (nI (s + 1))))) (hC : M_C_Runner_step (rt_up σ 21 10 (nI (s + 1))) (nI k) = some u) (hf : M_R_RangeTellerModel_flow (rt_up (rt_up τ 0 37 (nI (s + 1))) 0 36 (nI (k + 1))) (nI k) = some (x, v)) (hx : x = 0 ∨ x = 1) (A : rq_A rn_WC (rt_up σ 21 10 (nI (s + 1))) u) (B : rq_A rn_WR (rt_up (rt_up τ 0 37 (nI (s + 1))) 0 36 (nI (k + 1))) v) (Z : x = 0 → rn_Z (s + 1) u (rt_up v 0 38 0)) (G : x = 1 → rn_go N op ar ow pa hs L (s + 1) q u v) : rn_T N op ar ow pa hs L k s q lim σ τ := by
  have A' : rq_A rn_WC σ u := (rq_A.rf.up (by unfold rn_WC; omega)).tr A
  have B' : rq_A rn_WR τ v := ((rq_A.rf.up (by unfold rn_WR; omega)).up (by unfold rn_WR; omega)).tr B
  rcases hx with rfl | rfl
  · exact ⟨u, rt_up v 0 38 0, q, hC, fun M => by rw [rn_lF O e36 hs1 (by omega) hk ho t2 ht hf M, if_pos rfl], A', B'.up (by unfold rn_WR; omega), Or.inl (Z rfl)⟩
  · exact ⟨u, v, q, hC, fun M => by rw [rn_lF O e36 hs1 (by omega) hk ho t2 ht hf M, if_neg (by decide)], A', B', Or.inr (G rfl)⟩
theorem rn_leaveL (M : rn_M N F op ar ow en el pa lo re fs hs L σ τ) (P : rn_pos N op ar ow pa hs L D n c k) (H : rn_S D n h c σ τ) (O : rn_O (s + 1) s q σ τ) (hs1 : s < 90000) (e7 : σ 7 k = -1) (e8 : σ 8 k = 0) (e9 : σ 9 k = nI (re (ow k))) (hp : re (ow k) ≤ h) : ∃ u v x, M_C_Runner_jump σ (nI k) = some u ∧ M_R_RangeTellerModel_giveBack τ (nI k) = some (x, v) ∧ (x = 0 ∨ x = 1) ∧ rq_A rn_WC σ u ∧ rq_A rn_WR τ v ∧ (x = 0 → rn_Z (s + 1) u (rt_up v 0 38 0)) ∧ (x = 1 → rn_go N op ar ow pa hs L (s + 1) q u v) := by
  obtain ⟨hT, hTF, hW, h6, hN, hF1, hF3⟩ := M
  obtain ⟨hkN, hL, hP, hO⟩ := P
  obtain ⟨-, ⟨-, -, t4, -, -⟩, -, -, -, -⟩ := hT k hkN
  have owF := (hW.2.1 k hkN).1
  obtain ⟨-, -, -, -, -, -, -, t13, -, -, r1⟩ := hTF (ow k) owF
  cases D with
  | zero =>
    obtain ⟨⟨g1, g2, g3⟩, ⟨g4, g5⟩, ⟨g6, g7, g8⟩, d, ⟨m', m1, m2, m3, m4⟩, -, -, -⟩ := O
    obtain ⟨u, v, q1, q2, q3, q4, q5, q6⟩ := rn_endrun H (by omega) e7 e8 e9 r1 hp (by omega) t4 t13 g6
    refine ⟨u, v, 0, q1, q2, Or.inl rfl, q5.mono (fun c j x => by unfold rn_WC at x; unfold rn_FC; omega), q6.mono (fun c j x => by unfold rn_WR at x; unfold rn_FR; omega), fun _ => ?_, fun e => absurd e (by decide)⟩
    refine ⟨⟨0, by decide, q3, rq_s⟩, ?_, fun _ => ?_, fun e => absurd q3 e, ?_, ⟨?_, ?_⟩, ⟨m', by omega, ?_, ?_, fun j j1 j2 => ?_⟩, fun j hj => ?_⟩
    · rw [q5 21 7 (by unfold rn_FC; omega)]; exact g1
    · rw [rq_k (by decide), q6 0 40 (by unfold rn_FR; omega)]; exact g8
    · rw [rq_k (by decide)]; exact q4
    · rw [q5 21 10 (by unfold rn_FC; omega)]; exact g4
    · rw [rq_k (by decide), q6 0 37 (by unfold rn_FR; omega)]; exact g5
    · rw [q5 21 6 (by unfold rn_FC; omega)]; exact m2
    · rw [rq_k (by decide), q6 0 41 (by unfold rn_FR; omega)]; exact m3
    · rw [q5 24 j (by unfold rn_FC; omega), rq_c (by decide), q6 25 j (by unfold rn_FR; omega)]; exact m4 j j1 j2
    · obtain ⟨b, hb, x1, x2⟩ := d j hj
      rw [q5 23 j (by unfold rn_FC; omega), rq_c (by decide), q6 24 j (by unfold rn_FR; omega), x1, x2]
  | succ D =>
    obtain ⟨c1, c2, c3, c4, c5⟩ := hP D (by omega)
    rw [if_neg (by omega)] at hO
    obtain ⟨-, -, -, -, -, -, -, K9, -⟩ := hW.2.2 _ c1 c2
    obtain ⟨k1, k2, ⟨w1, w2, w3, w4, -⟩⟩ := K9 c3
    have w10 := (hW.2.1 _ w1).2.1
    have hre : re (ow k) = re (ar (c (D + 1))) := by rw [hO]
    obtain ⟨u, v, q1, q2, q3, q4, q5, q6, q7⟩ := rn_ret H (by omega) e7 e8 e9 r1 hp (by omega) (by omega) t4 t13
    refine ⟨u, v, 1, q1, q2, Or.inr rfl, q6.mono (fun c j x => by unfold rn_WC at x; unfold rn_LC; omega), q7.mono (fun c j x => by unfold rn_WR at x; unfold rn_LR; omega), fun e => absurd e (by decide), fun _ => ?_⟩
    refine ⟨D, n, c, c (D + 1) + 1, ⟨w1, w2, fun d hd => hP d (by omega), by rw [w4]; exact c5⟩, ?_, (O.kp (q6.mono (fun c j x => by unfold rn_OC at x; unfold rn_LC; omega)) (q7.mono (fun c j x => by unfold rn_OR at x; unfold rn_LR; omega))).up (by omega) (by omega), q4, q5⟩
    rw [w3, show hs (c (D + 1)) - pa (ar (c (D + 1))) + re (ar (c (D + 1))) = n D + re (ow k) by omega]
    exact q3
/-- a branch that is taken -/
theorem rn_brL (M : rn_M N F op ar ow en el pa lo re fs hs L σ τ) (P : rn_pos N op ar ow pa hs L D n c k) (H : rn_S D n h c σ τ) (O : rn_O (s + 1) s q σ τ) (hs1 : s < 90000) (hb : wf_br N op en (re (ow k)) (wf_go N fs ow hs L k) k h σ τ) : ∃ u v x, M_C_Runner_jump σ (nI k) = some u ∧ M_R_RangeTellerModel_branch τ (nI k) = some (x, v) ∧ (x = 0 ∨ x = 1) ∧ rq_A rn_WC σ u ∧ rq_A rn_WR τ v ∧ (x = 0 → rn_Z (s + 1) u (rt_up v 0 38 0)) ∧ (x = 1 → rn_go N op ar ow pa hs L (s + 1) q u v) := by
  have M0 := M
  obtain ⟨hT, hTF, hW, h6, hN, hF1, hF3⟩ := M
  have P0 := P
  obtain ⟨hkN, hL, hP, hO⟩ := P
  obtain ⟨b, nd, n1, n2, e8, e9, t9, t10, hb⟩ := hb
  rcases hb with ⟨e7, t8, n3, n4⟩ | ⟨x, x1, e7, t8, x2, ⟨w1, w2, w3, w4, -⟩⟩
  · subst n4
    subst n3
    obtain ⟨u, v, x, q1, q2, q3, q4, q5, q6, q7⟩ := rn_leaveL M0 P0 H O hs1 e7 e8 e9 (by omega)
    refine ⟨u, v, x, q1, ?_, q3, q4, q5, q6, q7⟩
    unfold M_R_RangeTellerModel_branch
    rw [rq_rd (n := 100) rfl (by omega) (by decide), rq_b, t8, if_neg (by decide), q2, rq_b2]
    rcases q3 with rfl | rfl
    · rfl
    · rfl
  · obtain ⟨-, ⟨t2, -, -, t5, -⟩, o29, -, -, -⟩ := hT x x1
    obtain ⟨u, j1, j2, j3, j4, j5⟩ := rn_jumpC H (by omega) e8 e9 n1 n2 e7 (by omega)
    obtain ⟨v, r1, r2, r3, r4, r5⟩ := rn_brR (op := op) (en := en) H (by omega) (by omega) o29 t8 t9 t10 n1 n2 t2 (fun z => by rw [t5, rq_e1 (x2 z)])
    refine ⟨u, v, 1, j1, r1, Or.inr rfl, j2.mono (fun c j x => by unfold rn_WC at x; unfold rn_J2; omega), r2.mono (fun c j x => by unfold rn_WR at x; unfold rn_J3; omega), fun e => absurd e (by decide), fun _ => ?_⟩
    refine ⟨D, n, c, _, ⟨w1, w2, hP, by rw [w4]; exact hO⟩, ?_, (O.kp (j2.mono (fun c j x => by unfold rn_OC at x; unfold rn_J2; omega)) (r2.mono (fun c j x => by unfold rn_OR at x; unfold rn_J3; omega))).up (by omega) (by omega), j4, r4⟩
    rw [w3]
    exact rn_jumpS H n2 n1 j2 j3 j5 r2 r3 r5
theorem rn_turnF (M : rn_M N F op ar ow en el pa lo re fs hs L σ τ) (P : rn_pos N op ar ow pa hs L D n c k) (S : rn_S D n (hs k) c σ τ) (O : rn_O s s q σ τ) (e9 : σ 21 9 = nI k) (e36 : τ 0 36 = nI k) (hs1 : s < lim) (hl : lim < 90000) (h10 : op k < 10) : rn_T N op ar ow pa hs L k s q lim σ τ := by
  have P0 := P
  have Mv : rn_M N F op ar ow en el pa lo re fs hs L (rt_up σ 21 10 (nI (s + 1))) (rt_up (rt_up τ 0 37 (nI (s + 1))) 0 36 (nI (k + 1))) := M.kp (rq_A.rf.up (by unfold rn_TC; omega)) ((rq_A.rf.up (by unfold rn_TR; omega)).up (by unfold rn_TR; omega))
  have Mv0 := Mv
  obtain ⟨hkN, hL, hP, hO⟩ := P
  have hN := M.2.2.2.2.1
  have hF3 := M.2.2.2.2.2.2
  have hk : k < 100 := by omega
  have t2 := (M.1 k hkN).2.1.1
  obtain ⟨hT, hTF, hW, h6, -⟩ := Mv
  obtain ⟨⟨d2, d3, d4, d5, d6⟩, ⟨f2, f3, f4, f5, f6⟩, o29, a64, -, -⟩ := hT k hkN
  obtain ⟨K1, K3, K4, K5, K6, K7, K8, K9, -⟩ := hW.2.2 k hkN hL
  have S1 : rn_S D n (hs k) c (rt_up σ 21 10 (nI (s + 1))) (rt_up τ 0 37 (nI (s + 1))) := S.kp (fun a j h => by rw [rq_if, if_neg (by omega)]) (fun a j h => by rw [rq_if, if_neg (by omega)])
  have S2 : rn_S D n (hs k) c (rt_up σ 21 10 (nI (s + 1))) (rt_up (rt_up τ 0 37 (nI (s + 1))) 0 36 (nI (k + 1))) := S1.kp (fun _ _ _ => rfl) (fun a j h => by rw [rq_if, if_neg (by omega)])
  have O2 : rn_O (s + 1) s q (rt_up σ 21 10 (nI (s + 1))) (rt_up (rt_up τ 0 37 (nI (s + 1))) 0 36 (nI (k + 1))) := O.st
  have r2 : (rt_up τ 0 37 (nI (s + 1))) 2 k = nI (op k) := by rw [rq_c (by decide)]; exact t2
  have nt : op k ≠ 0 → (op k = 9 → D ≠ 6) → M_R_RangeTellerModel_trap (rt_up τ 0 37 (nI (s + 1))) (nI k) = some (0, (rt_up τ 0 37 (nI (s + 1)))) := fun x1 x2 => rn_trap0 S1 hk o29 r2 x1 (by omega) (by omega) (by omega) (by omega) x2
  have u9 : (rt_up σ 21 10 (nI (s + 1))) 21 9 = nI k := by rw [rq_k (by decide)]; exact e9
  by_cases z : op k = 0
  · rw [z] at r2
    refine rn_finZ (x := 1) (w := (rt_up σ 21 10 (nI (s + 1)))) O e9 e36 hs1 hl (by decide) (by decide) ?_ rq_A.rf (rn_trap1 S1 hk r2)
    rw [z] at d2
    unfold M_C_Runner_step
    rw [rq_rd (n := 100) rfl hk (by decide), rq_b, d2, if_pos (show nI 0 = 0 from rfl)]
    rfl
  by_cases z : op k = 1 ∨ op k = 2
  · obtain ⟨g1, g2, g3, g4, -⟩ := K1 z
    refine rn_finL (u := rt_up (rt_up σ 21 10 (nI (s + 1))) 21 9 (nI (k + 1))) (v := (rt_up (rt_up τ 0 37 (nI (s + 1))) 0 36 (nI (k + 1)))) (x := 1) hk O e36 hs1 hl h10 t2 (nt (by omega) (by omega)) ?_ ?_ (Or.inr rfl) (rq_A.rf.up (by unfold rn_WC; omega)) rq_A.rf (fun e => absurd e (by decide)) (fun _ => ⟨D, n, c, k + 1, ⟨g1, g2, hP, by rw [g4]; exact hO⟩, ?_, (O2.kp (rq_A.rf.up (by unfold rn_OC; omega)) rq_A.rf).up (by omega) (by omega), rq_s, rq_s⟩)
    · unfold M_C_Runner_step
      rcases z with z | z
      · rw [z] at d2
        rw [rq_rd (n := 100) rfl hk (by decide), rq_b, d2, if_neg (by decide), if_pos (show nI 1 = 1 from rfl), u9, nI_1]
        rfl
      · rw [z] at d2
        rw [rq_rd (n := 100) rfl hk (by decide), rq_b, d2, if_neg (by decide), if_neg (by decide), if_pos (show nI 2 = 2 from rfl), u9, nI_1]
        rfl
    · unfold M_R_RangeTellerModel_flow
      rcases z with z | z
      · rw [z] at f2
        rw [rq_rd (n := 100) rfl hk (by decide), rq_b, f2, if_neg (by decide), if_neg (by decide), if_neg (by decide), if_neg (by decide), if_neg (by decide), if_neg (by decide), if_neg (by decide)]
      · rw [z] at f2
        rw [rq_rd (n := 100) rfl hk (by decide), rq_b, f2, if_neg (by decide), if_neg (by decide), if_neg (by decide), if_neg (by decide), if_neg (by decide), if_neg (by decide), if_neg (by decide)]
    · rw [g3]
      exact S2.kp (fun a j h => by rw [rq_if, if_neg (by omega)]) (fun _ _ _ => rfl)
  by_cases z : op k = 3
  · obtain ⟨k1, k2, ⟨g1, g2, g3, g4, -⟩, ⟨w1, w2, w3, w4, -⟩, c7, c8, c9⟩ := K3 z
    obtain ⟨m, hm⟩ : ∃ m, hs k = m + 1 := ⟨hs k - 1, by omega⟩
    rw [hm] at S2
    rw [hm, Nat.add_sub_cancel] at g3 w3 c8
    obtain ⟨b1, u1, v1, hb1, p1, q1, H1, A1, B1, x1, y1⟩ := rn_pop S2
    rw [z] at d2 f2
    by_cases y : b1 = 0
    · obtain ⟨u, j1, j2, j3, j4, j5⟩ := rn_jumpC (b := m) (p := 0) H1 hk (by rw [A1 8 k (by unfold rn_PC; omega)]; exact c8) (by rw [A1 9 k (by unfold rn_PC; omega)]; exact c9) (by omega) (by omega) (by rw [A1 7 k (by unfold rn_PC; omega)]; exact c7) (by omega)
      have vJ : rq_A (rn_J3 D m) v1 (rt_up v1 0 36 (nI ((if el k = 0 then en k else el k) + 1))) := rq_A.rf.up (by unfold rn_J3; omega)
      refine rn_finL (u := u) (v := rt_up v1 0 36 (nI ((if el k = 0 then en k else el k) + 1))) (x := 1) hk O e36 hs1 hl h10 t2 (nt (by omega) (by omega)) ?_ ?_ (Or.inr rfl) ((A1.mono (fun c j x => by unfold rn_WC at x; unfold rn_PC; omega)).tr (j2.mono (fun c j x => by unfold rn_WC at x; unfold rn_J2; omega))) ((B1.mono (fun c j x => by unfold rn_WR at x; unfold rn_PR; omega)).tr (vJ.mono (fun c j x => by unfold rn_WR at x; unfold rn_J3; omega))) (fun e => absurd e (by decide)) (fun _ => ⟨D, n, c, _, ⟨w1, w2, hP, by rw [w4]; exact hO⟩, ?_, ((O2.kp (rn_pco A1) (rn_pro B1)).kp (j2.mono (fun c j x => by unfold rn_OC at x; unfold rn_J2; omega)) (vJ.mono (fun c j x => by unfold rn_OR at x; unfold rn_J3; omega))).up (by omega) (by omega), j4, rq_s⟩)
      · unfold M_C_Runner_step
        rw [rq_rd (n := 100) rfl hk (by decide), rq_b, d2, if_neg (by decide), if_neg (by decide), if_neg (by decide), if_pos (show nI 3 = 3 from rfl), p1, rq_b2, if_pos (show nI b1 = 0 by rw [y]; rfl)]
        unfold B_C_Runner_step_99 M_C_Runner_jumpIf
        rw [if_neg (by decide), j1]
        rfl
      · have v6 : v1 6 k = rq_e (-1) (el k) := by rw [B1 6 k (by unfold rn_PR; omega)]; exact f6
        have v5 : v1 5 k = rq_e (-1) (en k) := by rw [B1 5 k (by unfold rn_PR; omega)]; exact f5
        unfold M_R_RangeTellerModel_flow B_R_RangeTellerModel_flow_80
        rw [rq_rd (n := 100) rfl hk (by decide), rq_b, f2, if_pos (show nI 3 = 3 from rfl), q1, rq_b2, if_pos (show nI b1 = 0 by rw [y]; rfl), rq_rd (n := 100) rfl hk (by decide), rq_b, v6]
        by_cases e0 : el k = 0
        · rw [rq_e0 e0, if_pos (by decide), rq_rd (n := 100) rfl hk (by decide), rq_b, v5, rq_e1 k2, rq_put, rq_b, nI_1, if_pos e0]
        · have eN := (hT k hkN).2.2.2.2.2
          rw [rq_e1 e0, if_neg (nI_pos (by omega)), rq_b, rq_put, rq_b, nI_1, if_neg e0]
      · rw [w3]
        exact rn_jumpS (p := 0) H1 (by omega) (by omega) j2 j3 j5 vJ (by rw [rq_c (by decide)]; exact H1.2.2.1.2) (fun e => absurd e (by decide))
    · refine rn_finL (u := rt_up u1 21 9 (nI (k + 1))) (v := v1) (x := 1) hk O e36 hs1 hl h10 t2 (nt (by omega) (by omega)) ?_ ?_ (Or.inr rfl) ((A1.mono (fun c j x => by unfold rn_WC at x; unfold rn_PC; omega)).up (by unfold rn_WC; omega)) (B1.mono (fun c j x => by unfold rn_WR at x; unfold rn_PR; omega)) (fun e => absurd e (by decide)) (fun _ => ⟨D, n, c, k + 1, ⟨g1, g2, hP, by rw [g4]; exact hO⟩, ?_, (O2.kp ((rn_pco A1).up (by unfold rn_OC; omega)) (rn_pro B1)).up (by omega) (by omega), rq_s, ?_⟩)
      · unfold M_C_Runner_step
        rw [rq_rd (n := 100) rfl hk (by decide), rq_b, d2, if_neg (by decide), if_neg (by decide), if_neg (by decide), if_pos (show nI 3 = 3 from rfl), p1, rq_b2, if_neg (nI_ne0 (by omega) (by omega))]
        unfold B_C_Runner_step_99 M_C_Runner_jumpIf
        rw [if_pos rfl, A1 21 9 (by unfold rn_PC; omega), u9, nI_1]
        rfl
      · unfold M_R_RangeTellerModel_flow
        rw [rq_rd (n := 100) rfl hk (by decide), rq_b, f2, if_pos (show nI 3 = 3 from rfl), q1, rq_b2, if_neg (nI_ne0 (by omega) (by omega))]
      · rw [g3]
        exact H1.kp (fun a j h => by rw [rq_if, if_neg (by omega)]) (fun _ _ _ => rfl)
      · rw [B1 0 36 (by unfold rn_PR; omega), rq_s]
  by_cases z : op k = 4
  · obtain ⟨k2, b, gv, b1, b2, ⟨w1, w2, w3, w4, -⟩, c7, c8, c9⟩ := K4 z
    rw [z] at d2 f2
    obtain ⟨u, j1, j2, j3, j4, j5⟩ := rn_jumpC S2 hk c8 c9 b1 (by omega) c7 (by omega)
    have vJ : rq_A (rn_J3 D b) (rt_up (rt_up τ 0 37 (nI (s + 1))) 0 36 (nI (k + 1))) (rt_up (rt_up (rt_up τ 0 37 (nI (s + 1))) 0 36 (nI (k + 1))) 0 36 (nI (en k + 1))) := rq_A.rf.up (by unfold rn_J3; omega)
    refine rn_finL (u := u) (v := rt_up (rt_up (rt_up τ 0 37 (nI (s + 1))) 0 36 (nI (k + 1))) 0 36 (nI (en k + 1))) (x := 1) hk O e36 hs1 hl h10 t2 (nt (by omega) (by omega)) ?_ ?_ (Or.inr rfl) (j2.mono (fun c j x => by unfold rn_WC at x; unfold rn_J2; omega)) (vJ.mono (fun c j x => by unfold rn_WR at x; unfold rn_J3; omega)) (fun e => absurd e (by decide)) (fun _ => ⟨D, n, c, _, ⟨w1, w2, hP, by rw [w4]; exact hO⟩, ?_, (O2.kp (j2.mono (fun c j x => by unfold rn_OC at x; unfold rn_J2; omega)) (vJ.mono (fun c j x => by unfold rn_OR at x; unfold rn_J3; omega))).up (by omega) (by omega), j4, rq_s⟩)
    · unfold M_C_Runner_step
      rw [rq_rd (n := 100) rfl hk (by decide), rq_b, d2, if_neg (by decide), if_neg (by decide), if_neg (by decide), if_neg (by decide), if_pos (show nI 4 = 4 from rfl), j1]
      rfl
    · unfold M_R_RangeTellerModel_flow
      rw [rq_rd (n := 100) rfl hk (by decide), rq_b, f2, if_neg (by decide), if_pos (show nI 4 = 4 from rfl), rq_rd (n := 100) rfl hk (by decide), rq_b, f5, rq_e1 k2, rq_put, rq_b, nI_1]
    · rw [w3, b2]
      exact rn_jumpS S2 (by omega) b1 j2 j3 j5 vJ (by rw [rq_c (by decide), ← b2]; exact S2.2.2.1.2) (fun e => by rw [rq_c (by decide), b2, e]; rfl)
  by_cases z : op k = 5
  · rcases K5 z with ⟨la, b, gv, b1, b2, ⟨w1, w2, w3, w4, -⟩, c7, c8, c9⟩ | ⟨la, hh, c7, c8, c9⟩
    · rw [z] at d2 f2
      obtain ⟨u, j1, j2, j3, j4, j5⟩ := rn_jumpC S2 hk c8 c9 b1 (by omega) c7 (by omega)
      have f4' := (hT (k + 1) w1).2.1.2.2.1
      refine rn_finL (u := u) (v := (rt_up (rt_up τ 0 37 (nI (s + 1))) 0 36 (nI (k + 1)))) (x := 1) hk O e36 hs1 hl h10 t2 (nt (by omega) (by omega)) ?_ ?_ (Or.inr rfl) (j2.mono (fun c j x => by unfold rn_WC at x; unfold rn_J2; omega)) rq_A.rf (fun e => absurd e (by decide)) (fun _ => ⟨D, n, c, _, ⟨w1, w2, hP, by rw [w4]; exact hO⟩, ?_, (O2.kp (j2.mono (fun c j x => by unfold rn_OC at x; unfold rn_J2; omega)) rq_A.rf).up (by omega) (by omega), j4, rq_s⟩)
      · unfold M_C_Runner_step
        rw [rq_rd (n := 100) rfl hk (by decide), rq_b, d2, if_neg (by decide), if_neg (by decide), if_neg (by decide), if_neg (by decide), if_neg (by decide), if_pos (show nI 5 = 5 from rfl), j1]
        rfl
      · unfold M_R_RangeTellerModel_flow
        rw [rq_rd (n := 100) rfl hk (by decide), rq_b, f2, if_neg (by decide), if_neg (by decide), if_pos (show nI 5 = 5 from rfl), h6, nI_1, if_neg (nI_ge w1 (by omega)), rq_rd (n := 100) rfl (by omega) (by decide), rq_b, f4', rq_rd (n := 100) rfl hk (by decide), rq_b, f4, w4, if_pos rfl]
      · rw [w3, b2]
        exact rn_jumpS S2 (by omega) b1 j2 j3 j5 rq_A.rf (by rw [← b2]; exact S2.2.2.1.2) (fun e => by rw [b2, e]; rfl)
    · obtain ⟨u, v, x, l1, l2, l3, l4, l5, l6, l7⟩ := rn_leaveL Mv0 P0 S2 O2 (by omega) c7 c8 c9 (by omega)
      refine rn_finL (u := u) (v := v) (x := x) hk O e36 hs1 hl h10 t2 (nt (by omega) (by omega)) ?_ ?_ l3 l4 l5 l6 l7
      · rw [z] at d2
        unfold M_C_Runner_step
        rw [rq_rd (n := 100) rfl hk (by decide), rq_b, d2, if_neg (by decide), if_neg (by decide), if_neg (by decide), if_neg (by decide), if_neg (by decide), if_pos (show nI 5 = 5 from rfl), l1]
        rfl
      · have e128 : B_R_RangeTellerModel_flow_128 (nI k) (rt_up (rt_up τ 0 37 (nI (s + 1))) 0 36 (nI (k + 1))) = some (x, v) := by
          unfold B_R_RangeTellerModel_flow_128
          rw [l2, rq_b2]
          rcases l3 with rfl | rfl
          · rfl
          · rfl
        rw [z] at f2
        unfold M_R_RangeTellerModel_flow
        rw [rq_rd (n := 100) rfl hk (by decide), rq_b, f2, if_neg (by decide), if_neg (by decide), if_pos (show nI 5 = 5 from rfl), h6, nI_1, e128]
        by_cases y : k + 1 < N
        · have f4' := (hT (k + 1) y).2.1.2.2.1
          have o1 := (hW.2.1 k hkN).1
          have o2 := (hW.2.1 (k + 1) y).1
          rw [if_neg (nI_ge y (by omega)), rq_rd (n := 100) rfl (by omega) (by decide), rq_b, f4', rq_rd (n := 100) rfl hk (by decide), rq_b, f4, if_neg (fun e => la ⟨y, (nI_eq (by omega) (by omega)).mp e⟩)]
        · rw [if_pos (nI_le (by omega) (by omega))]
  by_cases z : op k = 6
  · obtain ⟨u, v, x, l1, l2, l3, l4, l5, l6, l7⟩ := rn_brL Mv0 P0 S2 O2 (by omega) (K6 z)
    refine rn_finL (u := u) (v := v) (x := x) hk O e36 hs1 hl h10 t2 (nt (by omega) (by omega)) ?_ ?_ l3 l4 l5 l6 l7
    · rw [z] at d2
      unfold M_C_Runner_step
      rw [rq_rd (n := 100) rfl hk (by decide), rq_b, d2, if_neg (by decide), if_neg (by decide), if_neg (by decide), if_neg (by decide), if_neg (by decide), if_neg (by decide), if_pos (show nI 6 = 6 from rfl), l1]
      rfl
    · rw [z] at f2
      unfold M_R_RangeTellerModel_flow
      rw [rq_rd (n := 100) rfl hk (by decide), rq_b, f2, if_neg (by decide), if_neg (by decide), if_neg (by decide), if_pos (show nI 6 = 6 from rfl), l2, rq_b2]
      rcases l3 with rfl | rfl
      · rfl
      · rfl
  by_cases z : op k = 7
  · obtain ⟨k1, ⟨g1, g2, g3, g4, -⟩, kb⟩ := K7 z
    obtain ⟨m, hm⟩ : ∃ m, hs k = m + 1 := ⟨hs k - 1, by omega⟩
    rw [hm] at S2
    rw [hm, Nat.add_sub_cancel] at g3 kb
    obtain ⟨b1, u1, v1, hb1, p1, q1, H1, A1, B1, x1, y1⟩ := rn_pop S2
    rw [z] at d2 f2
    by_cases y : b1 = 0
    · refine rn_finL (u := rt_up u1 21 9 (nI (k + 1))) (v := v1) (x := 1) hk O e36 hs1 hl h10 t2 (nt (by omega) (by omega)) ?_ ?_ (Or.inr rfl) ((A1.mono (fun c j x => by unfold rn_WC at x; unfold rn_PC; omega)).up (by unfold rn_WC; omega)) (B1.mono (fun c j x => by unfold rn_WR at x; unfold rn_PR; omega)) (fun e => absurd e (by decide)) (fun _ => ⟨D, n, c, k + 1, ⟨g1, g2, hP, by rw [g4]; exact hO⟩, ?_, (O2.kp ((rn_pco A1).up (by unfold rn_OC; omega)) (rn_pro B1)).up (by omega) (by omega), rq_s, ?_⟩)
      · unfold M_C_Runner_step
        rw [rq_rd (n := 100) rfl hk (by decide), rq_b, d2, if_neg (by decide), if_neg (by decide), if_neg (by decide), if_neg (by decide), if_neg (by decide), if_neg (by decide), if_neg (by decide), if_pos (show nI 7 = 7 from rfl), p1, rq_b2, if_pos (show nI b1 = 0 by rw [y]; rfl)]
        unfold B_C_Runner_step_119 M_C_Runner_jumpIf
        rw [if_pos rfl, A1 21 9 (by unfold rn_PC; omega), u9, nI_1]
        rfl
      · unfold M_R_RangeTellerModel_flow
        rw [rq_rd (n := 100) rfl hk (by decide), rq_b, f2, if_neg (by decide), if_neg (by decide), if_neg (by decide), if_neg (by decide), if_pos (show nI 7 = 7 from rfl), q1, rq_b2, if_pos (show nI b1 = 0 by rw [y]; rfl)]
      · rw [g3]
        exact H1.kp (fun a j h => by rw [rq_if, if_neg (by omega)]) (fun _ _ _ => rfl)
      · rw [B1 0 36 (by unfold rn_PR; omega), rq_s]
    · have kb' : wf_br N op en (re (ow k)) (wf_go N fs ow hs L k) k m u1 v1 := by
        unfold wf_br at kb ⊢
        rw [A1 7 k (by unfold rn_PC; omega), A1 8 k (by unfold rn_PC; omega), A1 9 k (by unfold rn_PC; omega), B1 8 k (by unfold rn_PR; omega), B1 9 k (by unfold rn_PR; omega), B1 10 k (by unfold rn_PR; omega)]
        exact kb
      have M1 : rn_M N F op ar ow en el pa lo re fs hs L u1 v1 := Mv0.kp (A1.mono (fun c j x => by unfold rn_TC at x; unfold rn_PC; omega)) (B1.mono (fun c j x => by unfold rn_TR at x; unfold rn_PR; omega))
      obtain ⟨u, v, x, l1, l2, l3, l4, l5, l6, l7⟩ := rn_brL M1 P0 H1 (O2.kp (rn_pco A1) (rn_pro B1)) (by omega) kb'
      refine rn_finL (u := u) (v := v) (x := x) hk O e36 hs1 hl h10 t2 (nt (by omega) (by omega)) ?_ ?_ l3 ((A1.mono (fun c j x => by unfold rn_WC at x; unfold rn_PC; omega)).tr l4) ((B1.mono (fun c j x => by unfold rn_WR at x; unfold rn_PR; omega)).tr l5) l6 l7
      · unfold M_C_Runner_step
        rw [rq_rd (n := 100) rfl hk (by decide), rq_b, d2, if_neg (by decide), if_neg (by decide), if_neg (by decide), if_neg (by decide), if_neg (by decide), if_neg (by decide), if_neg (by decide), if_pos (show nI 7 = 7 from rfl), p1, rq_b2, if_neg (nI_ne0 (by omega) (by omega))]
        unfold B_C_Runner_step_119 M_C_Runner_jumpIf
        rw [if_neg (by decide), l1]
        rfl
      · unfold M_R_RangeTellerModel_flow
        rw [rq_rd (n := 100) rfl hk (by decide), rq_b, f2, if_neg (by decide), if_neg (by decide), if_neg (by decide), if_neg (by decide), if_pos (show nI 7 = 7 from rfl), q1, rq_b2, if_neg (nI_ne0 (by omega) (by omega)), l2, rq_b2]
        rcases l3 with rfl | rfl
        · rfl
        · rfl
  by_cases z : op k = 8
  · obtain ⟨hh, c7, c8, c9⟩ := K8 z
    obtain ⟨u, v, x, l1, l2, l3, l4, l5, l6, l7⟩ := rn_leaveL Mv0 P0 S2 O2 (by omega) c7 c8 c9 hh
    refine rn_finL (u := u) (v := v) (x := x) hk O e36 hs1 hl h10 t2 (nt (by omega) (by omega)) ?_ ?_ l3 l4 l5 l6 l7
    · rw [z] at d2
      unfold M_C_Runner_step
      rw [rq_rd (n := 100) rfl hk (by decide), rq_b, d2, if_neg (by decide), if_neg (by decide), if_neg (by decide), if_neg (by decide), if_neg (by decide), if_neg (by decide), if_neg (by decide), if_neg (by decide), if_pos (show nI 8 = 8 from rfl), l1]
      rfl
    · rw [z] at f2
      unfold M_R_RangeTellerModel_flow
      rw [rq_rd (n := 100) rfl hk (by decide), rq_b, f2, if_neg (by decide), if_neg (by decide), if_neg (by decide), if_neg (by decide), if_neg (by decide), if_pos (show nI 8 = 8 from rfl), l2, rq_b2]
      rcases l3 with rfl | rfl
      · rfl
      · rfl
  have z : op k = 9 := by omega
  obtain ⟨k1, k2, ⟨w1, w2, w3, w4, -⟩⟩ := K9 z
  by_cases y : D = 6
  · subst y
    rw [z] at r2
    refine rn_finZ (x := 4) (w := (rt_up σ 21 10 (nI (s + 1)))) O e9 e36 hs1 hl (by decide) (by decide) ?_ rq_A.rf (rn_trap9 S1 hk r2)
    rw [z] at d2
    unfold M_C_Runner_step M_C_Runner_call
    rw [rq_rd (n := 100) rfl hk (by decide), rq_b, d2, if_neg (by decide), if_neg (by decide), if_neg (by decide), if_neg (by decide), if_neg (by decide), if_neg (by decide), if_neg (by decide), if_neg (by decide), if_neg (by decide), if_pos (show nI 9 = 9 from rfl), if_neg (show ¬ (rt_up σ 21 10 (nI (s + 1))) 21 16 < 6 by rw [S2.2.1.1]; decide)]
    rfl
  · have hD := S2.1.1
    obtain ⟨s10, s11, -, -, t14, t11, -, -, pa2, -, -⟩ := hTF (ar k) k1
    obtain ⟨y1, y2, y3, y4⟩ := hW.1 (ar k) k1
    obtain ⟨u, v, l1, l2, l3, l4, l5, l6, l7⟩ := rn_call S2 (by omega) hk (by omega) pa2 k2 d3 s11 s10 f3 t11 t14
    refine rn_finL (u := u) (v := v) (x := 1) hk O e36 hs1 hl h10 t2 (nt (by omega) (fun _ => y)) ?_ ?_ (Or.inr rfl) (l6.mono (fun c j x => by unfold rn_WC at x; unfold rn_CC; omega)) (l7.mono (fun c j x => by unfold rn_WR at x; unfold rn_E3; omega)) (fun e => absurd e (by decide)) (fun _ => ⟨D + 1, rq_U n D (hs k - pa (ar k)), rq_U c (D + 1) k, fs (ar k), ⟨y1, y2, fun d hd => ?_, ?_⟩, ?_, (O2.kp (l6.mono (fun c j x => by unfold rn_OC at x; unfold rn_CC; omega)) (l7.mono (fun c j x => by unfold rn_OR at x; unfold rn_E3; omega))).up (by omega) (by omega), l4, l5⟩)
    · rw [z] at d2
      unfold M_C_Runner_step
      rw [rq_rd (n := 100) rfl hk (by decide), rq_b, d2, if_neg (by decide), if_neg (by decide), if_neg (by decide), if_neg (by decide), if_neg (by decide), if_neg (by decide), if_neg (by decide), if_neg (by decide), if_neg (by decide), if_pos (show nI 9 = 9 from rfl), l1]
      rfl
    · rw [z] at f2
      unfold M_R_RangeTellerModel_flow
      rw [rq_rd (n := 100) rfl hk (by decide), rq_b, f2, if_neg (by decide), if_neg (by decide), if_neg (by decide), if_neg (by decide), if_neg (by decide), if_neg (by decide), if_pos (show nI 9 = 9 from rfl), l2]
      rfl
    · by_cases e : d = D
      · subst e
        rw [rq_U_s, rq_U_s]
        refine ⟨hkN, hL, z, by omega, ?_⟩
        rw [hO]
        by_cases e0 : d = 0
        · rw [if_pos e0, if_pos e0]
        · rw [if_neg e0, if_neg e0, rq_U_n (by omega)]
      · rw [rq_U_n (show d + 1 ≠ D + 1 by omega), rq_U_n e]
        obtain ⟨a1, a2, a3, a4, a5⟩ := hP d (by omega)
        refine ⟨a1, a2, a3, a4, ?_⟩
        rw [a5, rq_U_n (show d ≠ D + 1 by omega)]
    · rw [y4, if_neg (by omega), rq_U_s]
    · rw [y3]; exact l3
end RN7
