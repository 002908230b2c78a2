/-! running: one turn of both loops -/
def rn_TC (c k : Nat) : Prop := 1 ≤ c ∧ c ≤ 13
def rn_TR (c k : Nat) : Prop := (c = 0 ∧ k = 6) ∨ (2 ≤ c ∧ c ≤ 14)
/-- what a run leaves alone -/
def rn_WC (c k : Nat) : Prop := ¬ (21 ≤ c ∧ c ≤ 28)
def rn_WR (c k : Nat) : Prop := ¬ ((19 ≤ c ∧ c ≤ 25) ∨ (c = 0 ∧ (k = 27 ∨ k = 29 ∨ k = 30 ∨ (36 ≤ k ∧ k ≤ 41))))
def rn_M (N F : Nat) (op ar ow en el pa lo re fs hs : Nat → Nat) (L : Nat → Prop) (σ τ : rt_St) : Prop := rq_T N op ar ow en el σ τ ∧ rq_TF F pa lo re fs σ τ ∧ wf_A F N op ar ow en el pa lo re fs hs L σ τ ∧ τ 0 6 = nI N ∧ N ≤ 100 ∧ 1 ≤ F ∧ F ≤ 3
def rn_pos (N : Nat) (op ar ow pa hs : Nat → Nat) (L : Nat → Prop) (D : Nat) (n c : Nat → Nat) (k : Nat) : Prop := k < N ∧ L k ∧ (∀ d, d < D → c (d + 1) < N ∧ L (c (d + 1)) ∧ op (c (d + 1)) = 9 ∧ n d + pa (ar (c (d + 1))) = hs (c (d + 1)) ∧ ow (c (d + 1)) = (if d = 0 then 0 else ar (c d))) ∧ ow k = (if D = 0 then 0 else ar (c D))
/-- both have stopped, alike -/
def rn_Z (s : Nat) (σ τ : rt_St) : Prop := (∃ z : Nat, z < 6 ∧ σ 21 8 = nI z ∧ τ 0 38 = nI z) ∧ σ 21 7 = 1 ∧ (σ 21 8 = 0 → τ 0 40 = -3) ∧ (¬ σ 21 8 = 0 → σ 21 9 = τ 0 40) ∧ σ 21 11 = τ 0 39 ∧ (σ 21 10 = nI s ∧ τ 0 37 = nI s) ∧ (∃ m : Nat, m < 100000 ∧ σ 21 6 = nI m ∧ τ 0 41 = nI m ∧ ∀ j, j < m → j < 20 → σ 24 j = τ 25 j) ∧ (∀ j, j < 16 → σ 23 j = τ 24 j)
def rn_go (N : Nat) (op ar ow pa hs : Nat → Nat) (L : Nat → Prop) (s q : Nat) (σ τ : rt_St) : Prop := ∃ D n c k, rn_pos N op ar ow pa hs L D n c k ∧ rn_S D n (hs k) c σ τ ∧ rn_O s s q σ τ ∧ σ 21 9 = nI k ∧ τ 0 36 = nI k
def rn_T (N : Nat) (op ar ow pa hs : Nat → Nat) (L : Nat → Prop) (k s q lim : Nat) (σ τ : rt_St) : Prop := ∃ u v q', M_C_Runner_step (rt_up σ 21 10 (nI (s + 1))) (nI k) = some u ∧ (∀ M, B_R_RangeTellerModel_run_172 (M + 1) (nI lim) (nI q) τ = B_R_RangeTellerModel_run_172 M (nI lim) (nI q') v) ∧ rq_A rn_WC σ u ∧ rq_A rn_WR τ v ∧ (rn_Z (s + 1) u v ∨ rn_go N op ar ow pa hs L (s + 1) q' u v)
section RN6
variable {N F D m a b k s t q lim o : Nat} {op ar ow en el pa lo re fs hs n c : Nat → Nat} {L : Nat → Prop} {σ τ u v w : rt_St}
theorem wf_K.kp {Go : Nat → Nat → Prop} {La : Prop} {h : Nat} (H : wf_K F N op ar ow en el pa lo re Go La h k σ τ) (h1 : ∀ c, 7 ≤ c → c ≤ 9 → u c k = σ c k) (h2 : ∀ c, 8 ≤ c → c ≤ 10 → v c k = τ c k) : wf_K F N op ar ow en el pa lo re Go La h k u v := by
  unfold wf_K wf_br at H ⊢
  rw [h1 7 (by decide) (by decide), h1 8 (by decide) (by decide), h1 9 (by decide) (by decide), h2 8 (by decide) (by decide), h2 9 (by decide) (by decide), h2 10 (by decide) (by decide)]
  exact H
theorem rn_M.kp (H : rn_M N F op ar ow en el pa lo re fs hs L σ τ) (hu : rq_A rn_TC σ u) (hv : rq_A rn_TR τ v) : rn_M N F op ar ow en el pa lo re fs hs L u v := by
  obtain ⟨a1, a2, ⟨b1, b2, b3⟩, a4, a5⟩ := H
  refine ⟨a1.kp (fun c j x1 x2 => hu c j (by unfold rn_TC; omega)) (fun c j x1 x2 => hv c j (by unfold rn_TR; omega)), a2.kp (fun c j x1 x2 => hu c j (by unfold rn_TC; omega)) (fun c j x1 x2 => hv c j (by unfold rn_TR; omega)), ⟨b1, fun k hk => ?_, fun k hk hl => (b3 k hk hl).kp (fun c x1 x2 => hu c k (by unfold rn_TC; omega)) (fun c x1 x2 => hv c k (by unfold rn_TR; omega))⟩, by rw [hv 0 6 (by unfold rn_TR; omega)]; exact a4, a5⟩
  rw [hv 7 k (by unfold rn_TR; omega)]; exact b2 k hk
theorem rn_O.st {x : Int32} (H : rn_O s t q σ τ) : rn_O (s + 1) t q (rt_up σ 21 10 (nI (s + 1))) (rt_up (rt_up τ 0 37 (nI (s + 1))) 0 36 x) := by
  obtain ⟨⟨g1, g2, g3⟩, ⟨g4, g5⟩, ⟨g6, g7, g8⟩, d, ⟨m', m1, m2, m3, m4⟩, ⟨z, z1, z2, z3, z4, z5⟩, e⟩ := H
  refine ⟨⟨by rw [rq_k (by decide)]; exact g1, by rw [rq_k (by decide)]; exact g2, by rw [rq_k (by decide), rq_k (by decide)]; exact g3⟩, ⟨rq_s, by rw [rq_k (by decide), rq_s]⟩, ⟨by rw [rq_k (by decide)]; exact g6, by rw [rq_k (by decide), rq_k (by decide)]; exact g7, by rw [rq_k (by decide), rq_k (by decide)]; exact g8⟩, fun i hi => by rw [rq_c (by decide), rq_c (by decide), rq_c (by decide)]; exact d i hi, ⟨m', m1, by rw [rq_k (by decide)]; exact m2, by rw [rq_k (by decide), rq_k (by decide)]; exact m3, fun j j1 j2 => by rw [rq_c (by decide), rq_c (by decide), rq_c (by decide)]; exact m4 j j1 j2⟩, ⟨z, z1, by rw [rq_k (by decide)]; exact z2, by rw [rq_k (by decide), rq_k (by decide)]; exact z3, fun j hj => by rw [rq_c (by decide), rq_c (by decide), rq_c (by decide)]; exact z4 j hj, by rw [rq_k (by decide)]; exact z5⟩, e⟩
theorem rn_head (O : rn_O s s q σ τ) (hs1 : s < lim) (hl : lim < 100000) : ¬ 0 ≤ τ 0 38 ∧ ¬ τ 0 37 = nI lim := by
  refine ⟨by rw [O.1.2.2]; decide, ?_⟩
  rw [O.2.1.2]
  exact fun e => absurd ((nI_eq (by omega) (by omega)).mp e) (by omega)
theorem rn_lT {x : Nat} (O : rn_O s s q σ τ) (e36 : τ 0 36 = nI k) (hs1 : s < lim) (hl : lim < 100000) (hx : 1 ≤ x) (hx5 : x < 100) (ht : M_R_RangeTellerModel_trap (rt_up τ 0 37 (nI (s + 1))) (nI k) = some (nI x, rt_up τ 0 37 (nI (s + 1)))) (M : Nat) : B_R_RangeTellerModel_run_172 (M + 1) (nI lim) (nI q) τ = B_R_RangeTellerModel_run_172 M (nI lim) (nI q) (rt_up (rt_up (rt_up τ 0 37 (nI (s + 1))) 0 38 (nI x)) 0 40 (nI k)) := by
  obtain ⟨h1, h2⟩ := rn_head O hs1 hl
  rw [B_R_RangeTellerModel_run_172, if_neg h1, if_neg h2, rq_put, rq_b, O.2.1.2, nI_1, e36, ht, rq_b2, if_neg (nI_nle hx (by omega)), rq_put, rq_b, rq_put, rq_b]
theorem rn_lA (O : rn_O s s q σ τ) (e36 : τ 0 36 = nI k) (hs1 : s < lim) (hl : lim < 100000) (hk : k < 100) (ho : 10 ≤ o) (ho2 : o < 29) (e2 : τ 2 k = nI o) (ht : M_R_RangeTellerModel_trap (rt_up τ 0 37 (nI (s + 1))) (nI k) = some (0, rt_up τ 0 37 (nI (s + 1)))) (ha : M_R_RangeTellerModel_act (rt_up (rt_up τ 0 37 (nI (s + 1))) 0 36 (nI (k + 1))) (nI k) (nI q) = some v) (ev : v 2 k = nI o) (M : Nat) : B_R_RangeTellerModel_run_172 (M + 1) (nI lim) (nI q) τ = B_R_RangeTellerModel_run_172 M (nI lim) (nI (if o = 27 then q + 1 else q)) v := by
  obtain ⟨h1, h2⟩ := rn_head O hs1 hl
  have e2' : (rt_up (rt_up τ 0 37 (nI (s + 1))) 0 36 (nI (k + 1))) 2 k = nI o := by rw [rq_c (by decide), rq_c (by decide)]; exact e2
  rw [B_R_RangeTellerModel_run_172, if_neg h1, if_neg h2, rq_put, rq_b, O.2.1.2, nI_1, e36, ht, rq_b2, if_pos (by decide), rq_put, rq_b, nI_1, rq_rd (n := 100) rfl hk (by decide), rq_b, e2', if_pos (show (10 : Int32) ≤ nI o from nI_le (a := 10) ho (by omega)), ha, rq_b, rq_rd (n := 100) rfl hk (by decide), rq_b, ev]
  unfold B_R_RangeTellerModel_run_306
  by_cases z : o = 27
  · rw [if_pos (show nI o = 27 by rw [z]; rfl), if_pos z, nI_1]
  · rw [if_neg (show ¬ nI o = 27 from fun e => z ((nI_eq (b := 27) (by omega) (by decide)).mp e)), if_neg z]
theorem rn_lF {x : Int32} (O : rn_O s s q σ τ) (e36 : τ 0 36 = nI k) (hs1 : s < lim) (hl : lim < 100000) (hk : k < 100) (ho : o < 10) (e2 : τ 2 k = nI o) (ht : M_R_RangeTellerModel_trap (rt_up τ 0 37 (nI (s + 1))) (nI k) = some (0, rt_up τ 0 37 (nI (s + 1)))) (hf : M_R_RangeTellerModel_flow (rt_up (rt_up τ 0 37 (nI (s + 1))) 0 36 (nI (k + 1))) (nI k) = some (x, v)) (M : Nat) : B_R_RangeTellerModel_run_172 (M + 1) (nI lim) (nI q) τ = B_R_RangeTellerModel_run_172 M (nI lim) (nI q) (if x = 0 then rt_up v 0 38 0 else v) := by
  obtain ⟨h1, h2⟩ := rn_head O hs1 hl
  have e2' : (rt_up (rt_up τ 0 37 (nI (s + 1))) 0 36 (nI (k + 1))) 2 k = nI o := by rw [rq_c (by decide), rq_c (by decide)]; exact e2
  rw [B_R_RangeTellerModel_run_172, if_neg h1, if_neg h2, rq_put, rq_b, O.2.1.2, nI_1, e36, ht, rq_b2, if_pos (by decide), rq_put, rq_b, nI_1, rq_rd (n := 100) rfl hk (by decide), rq_b, e2', if_neg (show ¬ (10 : Int32) ≤ nI o from nI_ge (b := 10) ho (by decide)), hf, rq_b2]
  unfold B_R_RangeTellerModel_run_306
  by_cases z : x = 0
  · rw [if_pos z, if_pos z, rq_put, rq_b]
  · rw [if_neg z, if_neg z]
/-- an op behind which both go on -/
theorem rn_finA (hk : k < N) (hN : N ≤ 100) (O : rn_O s s q σ τ) (e9 : σ 21 9 = nI k) (e36 : τ 0 36 = nI k) (hs1 : s < lim) (hl : lim < 90000) (ho : 10 ≤ op k) (ho2 : op k < 29) (e2 : σ 2 k = nI (op k)) (e3 : σ 3 k = nI (ar k)) (t2 : τ 2 k = nI (op k)) (P : rn_pos N op ar ow pa hs L D n c (k + 1))
    (ht : M_R_RangeTellerModel_trap (rt_up τ 0 37 (nI (s + 1))) (nI k) = some (0, rt_up τ 0 37 (nI (s + 1))))
    (R : rn_ok D n c (s + 1) s (rt_up σ 21 10 (nI (s + 1))) (rt_up (rt_up τ 0 37 (nI (s + 1))) 0 36 (nI (k + 1))) (hs (k + 1)) (if op k = 27 then q + 1 else q) (M_C_Runner_operate (rt_up σ 21 10 (nI (s + 1))) (nI (op k)) (nI (ar k))) (M_R_RangeTellerModel_act (rt_up (rt_up τ 0 37 (nI (s + 1))) 0 36 (nI (k + 1))) (nI k) (nI q))) : rn_T N op ar ow pa hs L k s q lim σ τ := by
  obtain ⟨u, v, r1, r2, r3, r4, r5, r6⟩ := R
  have ne : ∀ j : Nat, j < 10 → ¬ nI (op k) = nI j := fun j hj e => absurd ((nI_eq (by omega) (by omega)).mp e) (by omega)
  have u9 : u 21 9 = nI k := by rw [r5 21 9 (by unfold rn_KC; omega), rq_k (by decide)]; exact e9
  have ev : v 2 k = nI (op k) := by rw [r6 2 k (by unfold rn_KR; omega), rq_c (by decide), rq_c (by decide)]; exact t2
  have s2 : (rt_up σ 21 10 (nI (s + 1))) 2 k = nI (op k) := by rw [rq_c (by decide)]; exact e2
  have s3 : (rt_up σ 21 10 (nI (s + 1))) 3 k = nI (ar k) := by rw [rq_c (by decide)]; exact e3
  refine ⟨rt_up u 21 9 (nI (k + 1)), v, if op k = 27 then q + 1 else q, ?_, fun M => rn_lA O e36 hs1 (by omega) (by omega) ho ho2 t2 ht r2 ev M, ?_, ?_, Or.inr ⟨D, n, c, k + 1, P, r3.kp (fun a j h => by rw [rq_if, if_neg (by omega)]) (fun _ _ _ => rfl), r4.kp (rq_A.rf.up (by unfold rn_OC; omega)) rq_A.rf, rq_s, ?_⟩⟩
  · unfold M_C_Runner_step
    rw [rq_rd (n := 100) rfl (by omega) (by decide), rq_b, s2, if_neg (show ¬ nI (op k) = 0 from ne 0 (by decide)), if_neg (show ¬ nI (op k) = 1 from ne 1 (by decide)), if_neg (show ¬ nI (op k) = 2 from ne 2 (by decide)), if_neg (show ¬ nI (op k) = 3 from ne 3 (by decide)), if_neg (show ¬ nI (op k) = 4 from ne 4 (by decide)), if_neg (show ¬ nI (op k) = 5 from ne 5 (by decide)), if_neg (show ¬ nI (op k) = 6 from ne 6 (by decide)), if_neg (show ¬ nI (op k) = 7 from ne 7 (by decide)), if_neg (show ¬ nI (op k) = 8 from ne 8 (by decide)), if_neg (show ¬ nI (op k) = 9 from ne 9 (by decide)), rq_b, rq_rd (n := 100) rfl (by omega) (by decide), rq_b, s3, r1, rq_b, if_pos r4.1.2.1, rq_put, rq_b, u9, nI_1]
  · exact ((rq_A.rf.up (by unfold rn_WC; omega)).tr (r5.mono (fun c j h => by unfold rn_WC at h; unfold rn_KC; omega))).up (by unfold rn_WC; omega)
  · exact ((rq_A.rf.up (by unfold rn_WR; omega)).up (by unfold rn_WR; omega)).tr (r6.mono (fun c j h => by unfold rn_WR at h; unfold rn_KR; omega))
  · rw [r6 0 36 (by unfold rn_KR; omega), rq_s]
/-- an op that stops both -/
theorem rn_finZ {x : Nat} (O : rn_O s s q σ τ) (e9 : σ 21 9 = nI k) (e36 : τ 0 36 = nI k) (hs1 : s < lim) (hl : lim < 90000) (hx : 1 ≤ x) (hx5 : x < 6) (hu : M_C_Runner_step (rt_up σ 21 10 (nI (s + 1))) (nI k) = some (rt_up w 21 8 (nI x))) (hw : rq_A rn_PC (rt_up σ 21 10 (nI (s + 1))) w)
    (ht : M_R_RangeTellerModel_trap (rt_up τ 0 37 (nI (s + 1))) (nI k) = some (nI x, rt_up τ 0 37 (nI (s + 1)))) : rn_T N op ar ow pa hs L k s q lim σ τ := by
  have O' := O
  obtain ⟨⟨g1, g2, g3⟩, ⟨g4, g5⟩, ⟨g6, g7, g8⟩, d, ⟨m', m1, m2, m3, m4⟩, -, e1, e2⟩ := O
  have W : ∀ a j, rn_PC a j → ¬ (a = 21 ∧ j = 10) → w a j = σ a j := fun a j h1 h2 => by rw [hw a j h1, rq_if, if_neg h2]
  refine ⟨_, _, q, hu, fun M => rn_lT O' e36 hs1 (by omega) hx (by omega) ht M, ?_, ?_, Or.inl ⟨⟨x, hx5, rq_s, by rw [rq_k (by decide), rq_s]⟩, ?_, fun e => ?_, fun _ => ?_, ?_, ⟨?_, ?_⟩, ⟨m', by omega, ?_, ?_, fun j j1 j2 => ?_⟩, fun j hj => ?_⟩⟩
  · exact ((rq_A.rf.up (by unfold rn_WC; omega)).tr (hw.mono (fun c j h => by unfold rn_WC at h; unfold rn_PC; omega))).up (by unfold rn_WC; omega)
  · exact ((rq_A.rf.up (by unfold rn_WR; omega)).up (by unfold rn_WR; omega)).up (by unfold rn_WR; omega)
  · rw [rq_k (by decide), W 21 7 (by unfold rn_PC; omega) (by omega)]; exact g1
  · rw [rq_s] at e; exact absurd e (nI_ne0 hx (by omega))
  · rw [rq_s, rq_k (by decide), W 21 9 (by unfold rn_PC; omega) (by omega)]; exact e9
  · rw [rq_k (by decide), W 21 11 (by unfold rn_PC; omega) (by omega), g6, rq_k (by decide), rq_k (by decide), rq_k (by decide), g7]
  · rw [rq_k (by decide), hw 21 10 (by unfold rn_PC; omega), rq_s]
  · rw [rq_k (by decide), rq_k (by decide), rq_s]
  · rw [rq_k (by decide), W 21 6 (by unfold rn_PC; omega) (by omega)]; exact m2
  · rw [rq_k (by decide), rq_k (by decide), rq_k (by decide)]; exact m3
  · rw [rq_c (by decide), W 24 j (by unfold rn_PC; omega) (by omega), rq_c (by decide), rq_c (by decide), rq_c (by decide)]; exact m4 j j1 j2
  · obtain ⟨b, hb, x1, x2⟩ := d j hj
    rw [rq_c (by decide), W 23 j (by unfold rn_PC; omega) (by omega), rq_c (by decide), rq_c (by decide), rq_c (by decide), x1, x2]
theorem rn_stepA (hk : k < 100) (ho : 10 ≤ o) (ho2 : o < 29) (s2 : σ 2 k = nI o) (s3 : σ 3 k = nI a) {x : Nat} (hx5 : x < 6) (r1 : M_C_Runner_operate σ (nI o) (nI a) = some (rt_up w 21 8 (nI x))) : M_C_Runner_step σ (nI k) = some (rt_up w 21 8 (nI x)) := by
  have ne : ∀ j : Nat, j < 10 → ¬ nI o = nI j := fun j hj e => absurd ((nI_eq (by omega) (by omega)).mp e) (by omega)
  unfold M_C_Runner_step
  rw [rq_rd (n := 100) rfl hk (by decide), rq_b, s2, if_neg (show ¬ nI o = 0 from ne 0 (by decide)), if_neg (show ¬ nI o = 1 from ne 1 (by decide)), if_neg (show ¬ nI o = 2 from ne 2 (by decide)), if_neg (show ¬ nI o = 3 from ne 3 (by decide)), if_neg (show ¬ nI o = 4 from ne 4 (by decide)), if_neg (show ¬ nI o = 5 from ne 5 (by decide)), if_neg (show ¬ nI o = 6 from ne 6 (by decide)), if_neg (show ¬ nI o = 7 from ne 7 (by decide)), if_neg (show ¬ nI o = 8 from ne 8 (by decide)), if_neg (show ¬ nI o = 9 from ne 9 (by decide)), rq_b, rq_rd (n := 100) rfl hk (by decide), rq_b, s3, r1, rq_b, if_neg (by rw [rq_s]; exact fun e => absurd ((nI_eq (b := 6) (by omega) (by decide)).mp e) (by omega))]
theorem rn_tc15 (H : rn_S D n (m + 1) c σ τ) (y : τ 21 (10 * D + m) = nI b) (hb : b < 64) (ha : a < 64) (z : ¬ b + a < 16) : ∃ w, M_C_Runner_operate σ (nI 15) (nI a) = some (rt_up w 21 8 (nI 2)) ∧ rq_A rn_PC σ w := by
  obtain ⟨b1, u1, v1, hb1, p1, q1, H1, A1, B1, x1, y1⟩ := rn_pop H
  have e : b1 = b := (nI_eq (by omega) (by omega)).mp (y1.symm.trans y)
  subst e
  refine ⟨u1, ?_, A1⟩
  unfold M_C_Runner_operate M_C_Runner_fetch
  rw [if_neg (by decide), if_neg (by decide), if_neg (by decide), if_neg (by decide), if_neg (by decide), if_pos (show nI 15 = 15 from rfl), p1, rq_b2, nI_add, if_neg (show ¬ nI (b1 + a) < 16 from nI_nlt (b := 16) (by omega) (by omega))]
  rfl
theorem rn_tc16 (H : rn_S D n (m + 1 + 1) c σ τ) (y : τ 21 (10 * D + m) = nI b) (hb : b < 64) (ha : a < 64) (z : ¬ b + a < 16) : ∃ w, M_C_Runner_operate σ (nI 16) (nI a) = some (rt_up w 21 8 (nI 2)) ∧ rq_A rn_PC σ w := by
  obtain ⟨b1, u1, v1, hb1, p1, q1, H1, A1, B1, x1, y1⟩ := rn_pop H
  obtain ⟨b2, u2, v2, hb2, p2, q2, H2, A2, B2, x2, y2⟩ := rn_pop H1
  have hD := H.1.1
  have hm := H.1.2.1
  have qq := rn_popR (m := m + 1) hD (by omega) H.2.1.2 H.2.2.1.2
  rw [qq] at q1
  have ev : rt_up τ 23 D (nI (m + 1)) = v1 := (Prod.mk.inj (Option.some.inj q1)).2
  rw [← ev, rq_c (by decide), y] at y2
  have e : b = b2 := (nI_eq (by omega) (by omega)).mp y2
  subst e
  refine ⟨u2, ?_, A1.tr A2⟩
  unfold M_C_Runner_operate M_C_Runner_store
  rw [if_neg (by decide), if_neg (by decide), if_neg (by decide), if_neg (by decide), if_neg (by decide), if_neg (by decide), if_pos (show nI 16 = 16 from rfl), p1, rq_b2, p2, rq_b2, nI_add, if_neg (show ¬ nI (b + a) < 16 from nI_nlt (b := 16) (by omega) (by omega))]
  rfl
theorem rn_tc24 (H : rn_S D n (m + 1 + 1) c σ τ) (ho : o = 24 ∨ o = 25) (y : τ 21 (10 * D + (m + 1)) = 0) : ∃ w, M_C_Runner_operate σ (nI o) (nI a) = some (rt_up w 21 8 (nI 3)) ∧ rq_A rn_PC σ w := by
  obtain ⟨b1, u1, v1, hb1, p1, q1, H1, A1, B1, x1, y1⟩ := rn_pop H
  obtain ⟨b2, u2, v2, hb2, p2, q2, H2, A2, B2, x2, y2⟩ := rn_pop H1
  have e : nI b1 = 0 := y1.symm.trans y
  refine ⟨u2, ?_, A1.tr A2⟩
  unfold M_C_Runner_operate M_C_Runner_reckon
  rcases ho with rfl | rfl
  · rw [if_neg (by decide), if_neg (by decide), if_neg (by decide), if_neg (by decide), if_neg (by decide), if_neg (by decide), if_neg (by decide), if_neg (by decide), if_neg (by decide), if_neg (by decide), if_neg (by decide), if_neg (by decide), if_neg (by decide), if_neg (by decide), if_pos (show nI 24 = 24 from rfl), p1, rq_b2, p2, rq_b2, if_pos e, if_pos (show nI 24 = 24 from rfl)]
    rfl
  · rw [if_neg (by decide), if_neg (by decide), if_neg (by decide), if_neg (by decide), if_neg (by decide), if_neg (by decide), if_neg (by decide), if_neg (by decide), if_neg (by decide), if_neg (by decide), if_neg (by decide), if_neg (by decide), if_neg (by decide), if_neg (by decide), if_neg (by decide), if_pos (show nI 25 = 25 from rfl), p1, rq_b2, p2, rq_b2, if_pos e, if_neg (by decide), if_pos (show nI 25 = 25 from rfl)]
    rfl
theorem rn_turnA (M : rn_M N F op ar ow en el pa lo re fs hs L σ τ) (P : rn_pos N op ar ow pa hs L D n c k) (S : rn_S D n (hs k) c σ τ) (O : rn_O s s q σ τ) (e9 : σ 21 9 = nI k) (e36 : τ 0 36 = nI k) (hs1 : s < lim) (hl : lim < 90000) (h10 : 10 ≤ op k) : rn_T N op ar ow pa hs L k s q lim σ τ := by
  obtain ⟨hT, hTF, hW, h6, hN, hF1, hF3⟩ := M
  obtain ⟨hkN, hL, hP, hO⟩ := P
  obtain ⟨⟨e2, e3, e4, -, -⟩, ⟨t2, t3, t4, -, -⟩, o29, a64, -, -⟩ := hT k hkN
  obtain ⟨-, -, -, -, -, -, -, -, K10⟩ := hW.2.2 k hkN hL
  obtain ⟨k1, ⟨g1, g2, g3, g4, -⟩, k3⟩ := K10 h10
  have h10' := (hW.2.1 (k + 1) g1).2.1
  have P' : rn_pos N op ar ow pa hs L D n c (k + 1) := ⟨g1, g2, hP, by rw [g4]; exact hO⟩
  have S1 : rn_S D n (hs k) c (rt_up σ 21 10 (nI (s + 1))) (rt_up τ 0 37 (nI (s + 1))) := S.kp (fun a j h => by rw [rq_if, if_neg (by omega)]) (fun a j h => by rw [rq_if, if_neg (by omega)])
  have S2 : rn_S D n (hs k) c (rt_up σ 21 10 (nI (s + 1))) (rt_up (rt_up τ 0 37 (nI (s + 1))) 0 36 (nI (k + 1))) := S1.kp (fun _ _ _ => rfl) (fun a j h => by rw [rq_if, if_neg (by omega)])
  have O2 : rn_O (s + 1) s q (rt_up σ 21 10 (nI (s + 1))) (rt_up (rt_up τ 0 37 (nI (s + 1))) 0 36 (nI (k + 1))) := O.st
  have hk : k < 100 := by omega
  have f2 : (rt_up (rt_up τ 0 37 (nI (s + 1))) 0 36 (nI (k + 1))) 2 k = nI (op k) := by rw [rq_c (by decide), rq_c (by decide)]; exact t2
  have f3 : (rt_up (rt_up τ 0 37 (nI (s + 1))) 0 36 (nI (k + 1))) 3 k = nI (ar k) := by rw [rq_c (by decide), rq_c (by decide)]; exact t3
  have r2 : (rt_up τ 0 37 (nI (s + 1))) 2 k = nI (op k) := by rw [rq_c (by decide)]; exact t2
  have r3 : (rt_up τ 0 37 (nI (s + 1))) 3 k = nI (ar k) := by rw [rq_c (by decide)]; exact t3
  have d2 : (rt_up σ 21 10 (nI (s + 1))) 2 k = nI (op k) := by rw [rq_c (by decide)]; exact e2
  have d3 : (rt_up σ 21 10 (nI (s + 1))) 3 k = nI (ar k) := by rw [rq_c (by decide)]; exact e3
  have lc : 12 ≤ op k → op k ≤ 14 → ar k < 4 := fun x1 x2 => by
    have q1 := k3 x1 x2
    obtain ⟨-, -, -, -, -, -, -, -, q2, q3, -⟩ := hTF (ow k) (hW.2.1 k hkN).1
    omega
  have nt : op k ≠ 15 → op k ≠ 16 → op k ≠ 24 → op k ≠ 25 → M_R_RangeTellerModel_trap (rt_up τ 0 37 (nI (s + 1))) (nI k) = some (0, rt_up τ 0 37 (nI (s + 1))) := fun x1 x2 x3 x4 => rn_trap0 S1 hk o29 r2 (by omega) x1 x2 x3 x4 (by omega)
  have ht : s + 1 < 100000 := by omega
  by_cases z : op k = 10
  · rw [z, show ck_tk 10 = 1 from rfl, show ck_gv 10 = 0 from rfl] at g3
    rw [z, show ck_tk 10 = 1 from rfl] at k1
    obtain ⟨m, hm⟩ : ∃ m, hs k = m + 1 := ⟨hs k - 1, by omega⟩
    have hg : hs (k + 1) = m := by omega
    refine rn_finA hkN hN O e9 e36 hs1 hl h10 o29 e2 e3 t2 P' (nt (by omega) (by omega) (by omega) (by omega)) ?_
    rw [hm] at S2
    rw [z] at f2
    rw [hg, z, if_neg (by decide)]
    exact rn_op10 S2 O2 ht hk f2 f3
  by_cases z : op k = 11
  · rw [z, show ck_tk 11 = 3 from rfl, show ck_gv 11 = 1 from rfl] at g3
    rw [z, show ck_tk 11 = 3 from rfl] at k1
    obtain ⟨m, hm⟩ : ∃ m, hs k = m + 1 + 1 + 1 := ⟨hs k - 3, by omega⟩
    have hg : hs (k + 1) = m + 1 := by omega
    refine rn_finA hkN hN O e9 e36 hs1 hl h10 o29 e2 e3 t2 P' (nt (by omega) (by omega) (by omega) (by omega)) ?_
    rw [hm] at S2
    rw [z] at f2
    rw [hg, z, if_neg (by decide)]
    exact rn_op11 S2 O2 ht hk f2 f3
  by_cases z : op k = 12
  · rw [z, show ck_tk 12 = 0 from rfl, show ck_gv 12 = 1 from rfl] at g3
    rw [z, show ck_tk 12 = 0 from rfl] at k1
    obtain ⟨m, hm⟩ : ∃ m, hs k = m := ⟨hs k, rfl⟩
    have hg : hs (k + 1) = m + 1 := by omega
    refine rn_finA hkN hN O e9 e36 hs1 hl h10 o29 e2 e3 t2 P' (nt (by omega) (by omega) (by omega) (by omega)) ?_
    rw [hm] at S2
    rw [z] at f2
    rw [hg, z, if_neg (by decide)]
    exact rn_op12 S2 O2 ht hk f2 f3 (by omega) (lc (by omega) (by omega))
  by_cases z : op k = 13
  · rw [z, show ck_tk 13 = 1 from rfl, show ck_gv 13 = 0 from rfl] at g3
    rw [z, show ck_tk 13 = 1 from rfl] at k1
    obtain ⟨m, hm⟩ : ∃ m, hs k = m + 1 := ⟨hs k - 1, by omega⟩
    have hg : hs (k + 1) = m := by omega
    refine rn_finA hkN hN O e9 e36 hs1 hl h10 o29 e2 e3 t2 P' (nt (by omega) (by omega) (by omega) (by omega)) ?_
    rw [hm] at S2
    rw [z] at f2
    rw [hg, z, if_neg (by decide)]
    exact rn_op13 S2 O2 ht hk f2 f3 (lc (by omega) (by omega))
  by_cases z : op k = 14
  · rw [z, show ck_tk 14 = 1 from rfl, show ck_gv 14 = 1 from rfl] at g3
    rw [z, show ck_tk 14 = 1 from rfl] at k1
    obtain ⟨m, hm⟩ : ∃ m, hs k = m + 1 := ⟨hs k - 1, by omega⟩
    have hg : hs (k + 1) = m + 1 := by omega
    refine rn_finA hkN hN O e9 e36 hs1 hl h10 o29 e2 e3 t2 P' (nt (by omega) (by omega) (by omega) (by omega)) ?_
    rw [hm] at S2
    rw [z] at f2
    rw [hg, z, if_neg (by decide)]
    exact rn_op14 S2 O2 ht hk f2 f3 (lc (by omega) (by omega))
  by_cases z : op k = 17
  · rw [z, show ck_tk 17 = 0 from rfl, show ck_gv 17 = 1 from rfl] at g3
    rw [z, show ck_tk 17 = 0 from rfl] at k1
    obtain ⟨m, hm⟩ : ∃ m, hs k = m := ⟨hs k, rfl⟩
    have hg : hs (k + 1) = m + 1 := by omega
    refine rn_finA hkN hN O e9 e36 hs1 hl h10 o29 e2 e3 t2 P' (nt (by omega) (by omega) (by omega) (by omega)) ?_
    rw [hm] at S2
    rw [z] at f2
    rw [hg, z, if_neg (by decide)]
    exact rn_op17 S2 O2 ht hk f2 f3 (by omega) a64
  by_cases z : op k = 18
  · rw [z, show ck_tk 18 = 1 from rfl, show ck_gv 18 = 1 from rfl] at g3
    rw [z, show ck_tk 18 = 1 from rfl] at k1
    obtain ⟨m, hm⟩ : ∃ m, hs k = m + 1 := ⟨hs k - 1, by omega⟩
    have hg : hs (k + 1) = m + 1 := by omega
    refine rn_finA hkN hN O e9 e36 hs1 hl h10 o29 e2 e3 t2 P' (nt (by omega) (by omega) (by omega) (by omega)) ?_
    rw [hm] at S2
    rw [z] at f2
    rw [hg, z, if_neg (by decide)]
    exact rn_op18 S2 O2 ht hk f2 f3
  by_cases z : op k = 27
  · rw [z, show ck_tk 27 = 0 from rfl, show ck_gv 27 = 1 from rfl] at g3
    rw [z, show ck_tk 27 = 0 from rfl] at k1
    obtain ⟨m, hm⟩ : ∃ m, hs k = m := ⟨hs k, rfl⟩
    have hg : hs (k + 1) = m + 1 := by omega
    refine rn_finA hkN hN O e9 e36 hs1 hl h10 o29 e2 e3 t2 P' (nt (by omega) (by omega) (by omega) (by omega)) ?_
    rw [hm] at S2
    rw [z] at f2
    rw [hg, z, if_pos rfl]
    exact rn_op27 S2 O2 ht hk f2 f3 (by omega)
  by_cases z : op k = 28
  · rw [z, show ck_tk 28 = 1 from rfl, show ck_gv 28 = 0 from rfl] at g3
    rw [z, show ck_tk 28 = 1 from rfl] at k1
    obtain ⟨m, hm⟩ : ∃ m, hs k = m + 1 := ⟨hs k - 1, by omega⟩
    have hg : hs (k + 1) = m := by omega
    refine rn_finA hkN hN O e9 e36 hs1 hl h10 o29 e2 e3 t2 P' (nt (by omega) (by omega) (by omega) (by omega)) ?_
    rw [hm] at S2
    rw [z] at f2
    rw [hg, z, if_neg (by decide)]
    exact rn_op28 S2 O2 ht hk f2 f3
  by_cases z : op k = 15
  · rw [z, show ck_tk 15 = 1 from rfl, show ck_gv 15 = 1 from rfl] at g3
    rw [z, show ck_tk 15 = 1 from rfl] at k1
    obtain ⟨m, hm⟩ : ∃ m, hs k = m + 1 := ⟨hs k - 1, by omega⟩
    have hg : hs (k + 1) = m + 1 := by omega
    rw [hm] at S1 S2
    obtain ⟨b, hb, -, y⟩ := S1.2.2.2.2.2.2.1 m (by omega)
    have tr := rn_trap15 S1 hk (by rw [← z]; exact r2) r3 a64 hb y
    by_cases y2 : b + ar k < 16
    · rw [if_pos y2] at tr
      refine rn_finA hkN hN O e9 e36 hs1 hl h10 o29 e2 e3 t2 P' tr ?_
      rw [z] at f2
      rw [hg, z, if_neg (by decide)]
      exact rn_op15 S2 O2 ht hk f2 f3 (fun b' x1 x2 => by
        rw [rq_c (by decide), y] at x1
        have := (nI_eq (by omega) (by omega)).mp x1
        omega)
    · rw [if_neg y2] at tr
      obtain ⟨w, w1, w2⟩ := rn_tc15 (a := ar k) S1 y hb a64 y2
      exact rn_finZ (x := 2) O e9 e36 hs1 hl (by decide) (by decide) (rn_stepA hk h10 o29 d2 d3 (by decide) (by rw [z]; exact w1)) w2 tr
  by_cases z : op k = 16
  · rw [z, show ck_tk 16 = 2 from rfl, show ck_gv 16 = 0 from rfl] at g3
    rw [z, show ck_tk 16 = 2 from rfl] at k1
    obtain ⟨m, hm⟩ : ∃ m, hs k = m + 1 + 1 := ⟨hs k - 2, by omega⟩
    have hg : hs (k + 1) = m := by omega
    rw [hm] at S1 S2
    obtain ⟨b, hb, -, y⟩ := S1.2.2.2.2.2.2.1 m (by omega)
    have tr := rn_trap16 S1 hk (by rw [← z]; exact r2) r3 a64 hb y
    by_cases y2 : b + ar k < 16
    · rw [if_pos y2] at tr
      refine rn_finA hkN hN O e9 e36 hs1 hl h10 o29 e2 e3 t2 P' tr ?_
      rw [z] at f2
      rw [hg, z, if_neg (by decide)]
      exact rn_op16 S2 O2 ht hk f2 f3 (fun b' x1 x2 => by
        rw [rq_c (by decide), y] at x1
        have := (nI_eq (by omega) (by omega)).mp x1
        omega)
    · rw [if_neg y2] at tr
      obtain ⟨w, w1, w2⟩ := rn_tc16 (a := ar k) S1 y hb a64 y2
      exact rn_finZ (x := 2) O e9 e36 hs1 hl (by decide) (by decide) (rn_stepA hk h10 o29 d2 d3 (by decide) (by rw [z]; exact w1)) w2 tr
  have big : 19 ≤ op k ∧ op k ≤ 26 := by omega
  have tt : ck_tk (op k) = 2 ∧ ck_gv (op k) = 1 := by
    have : ∀ o, 19 ≤ o → o ≤ 26 → ck_tk o = 2 ∧ ck_gv o = 1 := fun o x1 x2 => by
      rcases (show o = 19 ∨ o = 20 ∨ o = 21 ∨ o = 22 ∨ o = 23 ∨ o = 24 ∨ o = 25 ∨ o = 26 by omega) with rfl | rfl | rfl | rfl | rfl | rfl | rfl | rfl <;> exact ⟨rfl, rfl⟩
    exact this _ big.1 big.2
  rw [tt.1] at k1
  rw [tt.1, tt.2] at g3
  obtain ⟨m, hm⟩ : ∃ m, hs k = m + 1 + 1 := ⟨hs k - 2, by omega⟩
  have hg : hs (k + 1) = m + 1 := by omega
  rw [hm] at S1 S2
  have go : M_R_RangeTellerModel_trap (rt_up τ 0 37 (nI (s + 1))) (nI k) = some (0, rt_up τ 0 37 (nI (s + 1))) → (op k = 24 ∨ op k = 25 → ¬ (rt_up τ 0 37 (nI (s + 1))) 21 (10 * D + (m + 1)) = 0) → rn_T N op ar ow pa hs L k s q lim σ τ := fun tr hy => by
    refine rn_finA hkN hN O e9 e36 hs1 hl h10 o29 e2 e3 t2 P' tr ?_
    rw [hg, if_neg (by omega)]
    exact rn_opr big.1 big.2 S2 O2 ht hk f2 f3 (fun x => by rw [rq_c (by decide)]; exact hy x)
  by_cases z : op k = 24 ∨ op k = 25
  · have tr := rn_trap24 S1 hk z r2
    by_cases y : (rt_up τ 0 37 (nI (s + 1))) 21 (10 * D + (m + 1)) = 0
    · rw [if_pos y] at tr
      obtain ⟨w, w1, w2⟩ := rn_tc24 (a := ar k) S1 z y
      exact rn_finZ (x := 3) O e9 e36 hs1 hl (by decide) (by decide) (rn_stepA hk h10 o29 d2 d3 (by decide) w1) w2 tr
    · rw [if_neg y] at tr
      exact go tr (fun _ => y)
  · exact go (nt (by omega) (by omega) (by omega) (by omega)) (fun x => absurd x z)
end RN6
