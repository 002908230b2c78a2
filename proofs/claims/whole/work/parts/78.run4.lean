/-! running: branches, returns, calls -/
section RN4
variable {D h m a b k p g o f s0 H0 : Nat} {n c op en : Nat → Nat} {σ τ u v w : rt_St}
theorem rn_popR (hD : D ≤ 6) (hm : m < 10) (x1 : w 0 30 = nI D) (x2 : w 23 D = nI (m + 1)) : M_R_RangeTellerModel_pop w = some (w 21 (10 * D + m), rt_up w 23 D (nI m)) := by
  have e3 : (rt_up w 23 D (nI m)) 0 30 = nI D := by rw [rq_c (by decide)]; exact x1
  unfold M_R_RangeTellerModel_pop
  rw [rq_rd (n := 8) x1 (by omega) (by decide), rq_b, x2, nI_pred, rq_wr (n := 8) x1 (by omega) (by decide), rq_b, rq_rd (n := 8) e3 (by omega) (by decide), rq_b, rq_s, e3, rq_rd (n := 80) (i := 10 * D + m) (by rw [show (10 : Int32) = nI 10 from rfl, pk_mul, nI_add]) (by omega) (by decide), rq_b, rq_c (by decide)]
theorem rn_pushR (hD : D ≤ 6) (hm : m < 10) (hb : b < 64) (x1 : w 0 30 = nI D) (x2 : w 23 D = nI m) : M_R_RangeTellerModel_push w (nI b) = some (rt_up (rt_up w 21 (10 * D + m) (nI b)) 23 D (nI (m + 1))) := by
  have e3 : (rt_up w 21 (10 * D + m) (nI b)) 0 30 = nI D := by rw [rq_c (by decide)]; exact x1
  have e4 : (rt_up w 21 (10 * D + m) (nI b)) 23 D = nI m := by rw [rq_c (by decide)]; exact x2
  unfold M_R_RangeTellerModel_push
  rw [rq_rd (n := 8) x1 (by omega) (by decide), rq_b, x2, x1, rq_wr (n := 80) (i := 10 * D + m) (by rw [show (10 : Int32) = nI 10 from rfl, pk_mul, nI_add]) (by omega) (by decide), rq_b, rn_and hb, rq_rd (n := 8) e3 (by omega) (by decide), rq_b, e4, rq_wr (n := 8) e3 (by omega) (by decide), rq_b, nI_1]
theorem rn_br61 {x : Nat} (hk : k < 100) (hx : x < 100) (ho : op x < 29) (y8 : w 8 k = nI x) (y2 : w 2 x = nI (op x)) (y5 : op x ≠ 2 → w 5 x = nI (en x)) : B_R_RangeTellerModel_branch_61 (nI k) w = some (1, rt_up w 0 36 (nI ((if op x = 2 then x else en x) + 1))) := by
  unfold B_R_RangeTellerModel_branch_61
  rw [rq_rd (n := 100) rfl hk (by decide), rq_b, y8, rq_rd (n := 100) rfl hx (by decide), rq_b, y2]
  by_cases z : op x = 2
  · rw [if_pos (show nI (op x) = 2 by rw [z]; rfl), rq_b, rq_put, rq_b, nI_1, if_pos z]
  · rw [if_neg (show ¬ nI (op x) = 2 from fun e => z ((nI_eq (b := 2) (by omega) (by decide)).mp e)), rq_b, rq_rd (n := 100) rfl hx (by decide), rq_b, y5 z, rq_put, rq_b, nI_1, if_neg z]
theorem rn_brR {x : Nat} (H : rn_S D n h c σ τ) (hk : k < 100) (hx : x < 100) (ho : op x < 29) (t8 : τ 8 k = nI x) (t9 : τ 9 k = nI b) (t10 : τ 10 k = nI p) (hp : p ≤ 1) (hb : b + p ≤ h) (t2 : τ 2 x = nI (op x)) (t5 : op x ≠ 2 → τ 5 x = nI (en x)) : ∃ v, M_R_RangeTellerModel_branch τ (nI k) = some (1, v) ∧ rq_A (rn_J3 D b) τ v ∧ v 23 D = nI (b + p) ∧ v 0 36 = nI ((if op x = 2 then x else en x) + 1) ∧ (p = 1 → v 21 (10 * D + b) = τ 21 (10 * D + (h - 1))) := by
  obtain ⟨⟨a1, a2, a3⟩, ⟨b1, b2⟩, ⟨b3, b4⟩, c1, c2, d1, d2, -⟩ := H
  unfold M_R_RangeTellerModel_branch
  rw [rq_rd (n := 100) rfl hk (by decide), rq_b, t8, if_pos (nI_pos' (by omega)), rq_rd (n := 100) rfl hk (by decide), rq_b, t10]
  by_cases z : p = 1
  · subst z
    obtain ⟨bb, hbb, -, y⟩ := d2 (h - 1) (by omega)
    have x2 : τ 23 D = nI (h - 1 + 1) := by rw [b4, show h - 1 + 1 = h by omega]
    rw [if_pos (show nI 1 = 1 from rfl), rn_popR a1 (by omega) b2 x2, rq_b2, y]
    unfold B_R_RangeTellerModel_branch_35
    have q9 : (rt_up τ 23 D (nI (h - 1))) 9 k = nI b := by rw [rq_c (by decide)]; exact t9
    have q30 : (rt_up τ 23 D (nI (h - 1))) 0 30 = nI D := by rw [rq_c (by decide)]; exact b2
    rw [rq_rd (n := 100) rfl hk (by decide), rq_b, q9, rq_wr (n := 8) q30 (by omega) (by decide), rq_b, if_pos (show nI 1 = 1 from rfl), rn_pushR a1 (m := b) (by omega) hbb (by rw [rq_c (by decide)]; exact q30) rq_s, rq_b, rn_br61 (op := op) (en := en) hk hx ho (by rw [rq_c (by decide), rq_c (by decide), rq_c (by decide), rq_c (by decide)]; exact t8) (by rw [rq_c (by decide), rq_c (by decide), rq_c (by decide), rq_c (by decide)]; exact t2) (fun q => by rw [rq_c (by decide), rq_c (by decide), rq_c (by decide), rq_c (by decide)]; exact t5 q)]
    refine ⟨_, rfl, ((((rq_A.rf.up (by unfold rn_J3; omega)).up (by unfold rn_J3; omega)).up (by unfold rn_J3; omega)).up (by unfold rn_J3; omega)).up (by unfold rn_J3; omega), ?_, rq_s, fun _ => ?_⟩
    · rw [rq_c (by decide), rq_s]
    · rw [rq_c (by decide), rq_c (by decide), rq_s]
  · have p0 : p = 0 := by omega
    subst p0
    rw [if_neg (by decide)]
    unfold B_R_RangeTellerModel_branch_35
    rw [rq_rd (n := 100) rfl hk (by decide), rq_b, t9, rq_wr (n := 8) b2 (by omega) (by decide), rq_b, if_neg (by decide), rn_br61 (op := op) (en := en) hk hx ho (by rw [rq_c (by decide)]; exact t8) (by rw [rq_c (by decide)]; exact t2) (fun q => by rw [rq_c (by decide)]; exact t5 q)]
    refine ⟨_, rfl, (rq_A.rf.up (by unfold rn_J3; omega)).up (by unfold rn_J3; omega), ?_, rq_s, fun e => absurd e (by decide)⟩
    rw [rq_c (by decide), rq_s]; rfl
def rn_LC (c j : Nat) : Prop := ¬ (c = 25 ∨ (c = 21 ∧ (j = 9 ∨ j = 16 ∨ j = 17)))
def rn_LR (c j : Nat) : Prop := ¬ (c = 21 ∨ c = 23 ∨ (c = 0 ∧ (j = 30 ∨ j = 36)))
/-- a return to a caller -/
theorem rn_ret (H : rn_S (D + 1) n h c σ τ) (hk : k < 100) (e7 : σ 7 k = -1) (e8 : σ 8 k = 0) (e9 : σ 9 k = nI p) (hp : p ≤ 1) (hb : p ≤ h) (hn : n D + p ≤ 10) (hf : f < 3) (t4 : τ 4 k = nI f) (t13 : τ 13 f = nI p) :
    ∃ u v, M_C_Runner_jump σ (nI k) = some u ∧ M_R_RangeTellerModel_giveBack τ (nI k) = some (1, v) ∧ rn_S D n (n D + p) c u v ∧ u 21 9 = nI (c (D + 1) + 1) ∧ v 0 36 = nI (c (D + 1) + 1) ∧ rq_A rn_LC σ u ∧ rq_A rn_LR τ v := by
  obtain ⟨w, w1, w2, w3⟩ := rn_jumpC1 (b := 0) H hk e8 e9 hp (by omega)
  obtain ⟨⟨a1, a2, a3⟩, ⟨b1, b2⟩, ⟨b3, b4⟩, c1, c2, d1, d2, d3, d4⟩ := H
  have hB := rn_B_le a3 (D + 1) (Nat.le_refl _)
  have e9' : w 9 k = nI p := by rw [w2 9 k (by unfold rn_J1; omega)]; exact e9
  have e7' : w 7 k = -1 := by rw [w2 7 k (by unfold rn_J1; omega)]; exact e7
  have w16 : (rt_up w 21 17 (nI (rn_B n (D + 1) + 0 + p))) 21 16 = nI (D + 1) := by rw [rq_k (by decide), w2 21 16 (by unfold rn_J1; omega)]; exact b1
  have w28 : (rt_up w 21 17 (nI (rn_B n (D + 1) + 0 + p))) 28 (D + 1) = nI (c (D + 1)) := by rw [rq_c (by decide), w2 28 _ (by unfold rn_J1; omega)]; exact (d1 (D + 1) (by omega) (Nat.le_refl _)).1
  have eC : M_C_Runner_jump σ (nI k) = some (rt_up (rt_up (rt_up w 21 17 (nI (rn_B n (D + 1) + 0 + p))) 21 9 (nI (c (D + 1) + 1))) 21 16 (nI D)) := by
    rw [w1, rn_leave50 hk e9' e7']
    unfold M_C_Runner_leave
    rw [if_neg (show ¬ (rt_up w 21 17 (nI (rn_B n (D + 1) + 0 + p))) 21 16 ≤ 0 by rw [w16]; exact nI_nle (by omega) (by omega)), rq_rd (n := 7) w16 (by omega) (by decide), rq_b, w28, nI_1, rq_put, rq_b, rq_put, rq_b, rq_k (by decide), w16, nI_pred]
  have uP : ∀ i d, d ≤ D → rn_B n d + i < rn_B n (D + 1) → (rt_up (rt_up (rt_up w 21 17 (nI (rn_B n (D + 1) + 0 + p))) 21 9 (nI (c (D + 1) + 1))) 21 16 (nI D)) 25 (rn_B n d + i) = σ 25 (rn_B n d + i) := fun i d hd hi => by
    rw [rq_c (by decide), rq_c (by decide), rq_c (by decide), w2 25 _ (by unfold rn_J1; omega)]
  have low : ∀ d i, d < D → i < n d → rn_B n d + i < rn_B n (D + 1) := fun d i hd hi => by
    have q := rn_B_lt (n := n) (d := d) (D - d)
    rw [show d + 1 + (D - d) = D + 1 by omega] at q
    omega
  have AC : rq_A rn_LC σ (rt_up (rt_up (rt_up w 21 17 (nI (rn_B n (D + 1) + 0 + p))) 21 9 (nI (c (D + 1) + 1))) 21 16 (nI D)) := (((w2.mono (fun c j q => by unfold rn_LC at q; unfold rn_J1; omega)).up (by unfold rn_LC; omega)).up (by unfold rn_LC; omega)).up (by unfold rn_LC; omega)
  have t20 := (d1 (D + 1) (by omega) (Nat.le_refl _)).2
  -- the picture, from what the other side holds
  have pic : ∀ v, rq_A rn_LR τ v → v 0 30 = nI D → v 23 D = nI (n D + p) → (∀ d, d < D → v 23 d = τ 23 d) → (∀ j, j < 10 * D + n D → v 21 j = τ 21 j) → (p = 1 → v 21 (10 * D + n D) = τ 21 (10 * (D + 1) + (h - 1))) → rn_S D n (n D + p) c (rt_up (rt_up (rt_up w 21 17 (nI (rn_B n (D + 1) + 0 + p))) 21 9 (nI (c (D + 1) + 1))) 21 16 (nI D)) v := fun v V v30 v23 vd v21 vt => by
    have nD := a3 D (by omega)
    refine ⟨⟨by omega, hn, fun d hd => a3 d (by omega)⟩, ⟨rq_s, v30⟩, ⟨?_, v23⟩, fun d hd => ?_, fun d hd => ?_, fun d q1 q2 => ?_, fun i hi => ?_, fun d i hd hi => ?_, fun d i hd hi => ?_⟩
    · rw [rq_k (by decide), rq_k (by decide), rq_s]
      show nI (rn_B n D + n D + 0 + p) = _
      rw [Nat.add_zero, Nat.add_assoc]
    · rw [AC 27 d (by unfold rn_LC; omega)]; exact c1 d (by omega)
    · rw [vd d hd]; exact c2 d (by omega)
    · rw [AC 28 d (by unfold rn_LC; omega), V 20 d (by unfold rn_LR; omega)]; exact d1 d q1 (by omega)
    · by_cases z : i < n D
      · rw [uP i D (Nat.le_refl _) (by show rn_B n D + i < rn_B n D + n D; omega), v21 _ (by omega)]
        exact d3 D i (by omega) z
      · have p1 : p = 1 := by omega
        have iD : i = n D := by omega
        subst iD
        rw [vt p1, rq_c (by decide), rq_c (by decide), rq_c (by decide)]
        have q := w3 p1
        rw [Nat.add_zero] at q
        rw [show rn_B n D + n D = rn_B n (D + 1) from rfl, q]
        exact d2 (h - 1) (by omega)
    · rw [uP i d (by omega) (low d i hd hi), v21 _ (by have := a3 d (by omega); omega)]
      exact d3 d i (by omega) hi
    · rw [AC 26 _ (by unfold rn_LC; omega), V 22 _ (by unfold rn_LR; omega)]
      exact d4 d i (by omega) hi
  have c9 : (rt_up (rt_up (rt_up w 21 17 (nI (rn_B n (D + 1) + 0 + p))) 21 9 (nI (c (D + 1) + 1))) 21 16 (nI D)) 21 9 = nI (c (D + 1) + 1) := by rw [rq_k (by decide), rq_s]
  have n23 := c2 D (by omega)
  by_cases z : p = 1
  · subst z
    obtain ⟨bb, hbb, -, y⟩ := d2 (h - 1) (by omega)
    have x2 : τ 23 (D + 1) = nI (h - 1 + 1) := by rw [b4, show h - 1 + 1 = h by omega]
    have q20 : (rt_up τ 23 (D + 1) (nI (h - 1))) 20 (D + 1) = nI (c (D + 1)) := by rw [rq_c (by decide)]; exact t20
    have q30 : (rt_up τ 23 (D + 1) (nI (h - 1))) 0 30 = nI (D + 1) := by rw [rq_c (by decide)]; exact b2
    have q23 : (rt_up (rt_up (rt_up τ 23 (D + 1) (nI (h - 1))) 0 36 (nI (c (D + 1) + 1))) 0 30 (nI D)) 23 D = nI (n D) := by rw [rq_c (by decide), rq_c (by decide), rq_k (by omega)]; exact n23
    refine ⟨_, rt_up (rt_up (rt_up (rt_up (rt_up τ 23 (D + 1) (nI (h - 1))) 0 36 (nI (c (D + 1) + 1))) 0 30 (nI D)) 21 (10 * D + n D) (nI bb)) 23 D (nI (n D + 1)), eC, ?_, ?_, c9, ?_, AC, ?_⟩
    · unfold M_R_RangeTellerModel_giveBack
      rw [rq_rd (n := 100) rfl hk (by decide), rq_b, t4, rq_rd (n := 3) rfl hf (by decide), rq_b, t13, if_pos (show nI 1 = 1 from rfl), rn_popR a1 (by omega) b2 x2, rq_b2, y]
      unfold B_R_RangeTellerModel_giveBack_25
      rw [if_neg (show ¬ (rt_up τ 23 (D + 1) (nI (h - 1))) 0 30 = 0 by rw [q30]; exact nI_ne0 (by omega) (by omega)), rq_rd (n := 8) q30 (by omega) (by decide), rq_b, q20, nI_1, rq_put, rq_b, rq_put, rq_b, rq_k (by decide), q30, nI_pred, if_pos (show nI 1 = 1 from rfl), rn_pushR (D := D) (m := n D) (by omega) (by omega) hbb rq_s q23, rq_b]
    · refine pic _ ?_ ?_ rq_s (fun d hd => ?_) (fun j hj => ?_) (fun _ => ?_)
      · exact ((((rq_A.rf.up (by unfold rn_LR; omega)).up (by unfold rn_LR; omega)).up (by unfold rn_LR; omega)).up (by unfold rn_LR; omega)).up (by unfold rn_LR; omega)
      · rw [rq_c (by decide), rq_c (by decide), rq_s]
      · rw [rq_k (by omega), rq_c (by decide), rq_c (by decide), rq_c (by decide), rq_k (by omega)]
      · rw [rq_c (by decide), rq_k (by omega), rq_c (by decide), rq_c (by decide), rq_c (by decide)]
      · rw [rq_c (by decide), rq_s]; exact y.symm
    · rw [rq_c (by decide), rq_c (by decide), rq_k (by decide), rq_s]
    · exact ((((rq_A.rf.up (by unfold rn_LR; omega)).up (by unfold rn_LR; omega)).up (by unfold rn_LR; omega)).up (by unfold rn_LR; omega)).up (by unfold rn_LR; omega)
  · have p0 : p = 0 := by omega
    subst p0
    refine ⟨_, rt_up (rt_up τ 0 36 (nI (c (D + 1) + 1))) 0 30 (nI D), eC, ?_, ?_, c9, ?_, AC, ?_⟩
    · unfold M_R_RangeTellerModel_giveBack
      rw [rq_rd (n := 100) rfl hk (by decide), rq_b, t4, rq_rd (n := 3) rfl hf (by decide), rq_b, t13, if_neg (by decide)]
      unfold B_R_RangeTellerModel_giveBack_25
      rw [if_neg (show ¬ τ 0 30 = 0 by rw [b2]; exact nI_ne0 (by omega) (by omega)), rq_rd (n := 8) b2 (by omega) (by decide), rq_b, t20, nI_1, rq_put, rq_b, rq_put, rq_b, rq_k (by decide), b2, nI_pred, if_neg (by decide)]
    · refine pic _ ?_ rq_s ?_ (fun d hd => ?_) (fun j hj => ?_) (fun e => absurd e (by decide))
      · exact (rq_A.rf.up (by unfold rn_LR; omega)).up (by unfold rn_LR; omega)
      · rw [rq_c (by decide), rq_c (by decide)]; exact n23
      · rw [rq_c (by decide), rq_c (by decide)]
      · rw [rq_c (by decide), rq_c (by decide)]
    · rw [rq_k (by decide), rq_s]
    · exact (rq_A.rf.up (by unfold rn_LR; omega)).up (by unfold rn_LR; omega)
def rn_FC (c j : Nat) : Prop := ¬ (c = 25 ∨ (c = 21 ∧ (j = 8 ∨ j = 11 ∨ j = 17)))
def rn_FR (c j : Nat) : Prop := ¬ (c = 23 ∨ (c = 0 ∧ j = 39))
/-- the end of a run -/
theorem rn_endrun (H : rn_S 0 n h c σ τ) (hk : k < 100) (e7 : σ 7 k = -1) (e8 : σ 8 k = 0) (e9 : σ 9 k = nI p) (hp : p ≤ 1) (hb : p ≤ h) (hf : f < 3) (t4 : τ 4 k = nI f) (t13 : τ 13 f = nI p) (z11 : σ 21 11 = -3) :
    ∃ u v, M_C_Runner_jump σ (nI k) = some u ∧ M_R_RangeTellerModel_giveBack τ (nI k) = some (0, v) ∧ u 21 8 = 0 ∧ u 21 11 = v 0 39 ∧ rq_A rn_FC σ u ∧ rq_A rn_FR τ v := by
  obtain ⟨w, w1, w2, w3⟩ := rn_jumpC1 (b := 0) H hk e8 e9 hp (by omega)
  obtain ⟨⟨a1, a2, a3⟩, ⟨b1, b2⟩, ⟨b3, b4⟩, c1, c2, d1, d2, d3, d4⟩ := H
  have e9' : w 9 k = nI p := by rw [w2 9 k (by unfold rn_J1; omega)]; exact e9
  have e7' : w 7 k = -1 := by rw [w2 7 k (by unfold rn_J1; omega)]; exact e7
  have w16 : (rt_up w 21 17 (nI (rn_B n 0 + 0 + p))) 21 16 = nI 0 := by rw [rq_k (by decide), w2 21 16 (by unfold rn_J1; omega)]; exact b1
  have A0 : rq_A rn_FC σ (rt_up (rt_up w 21 17 (nI (rn_B n 0 + 0 + p))) 21 8 0) := ((w2.mono (fun c j q => by unfold rn_FC at q; unfold rn_J1; omega)).up (by unfold rn_FC; omega)).up (by unfold rn_FC; omega)
  by_cases z : p = 1
  · subst z
    obtain ⟨bb, hbb, y0, y⟩ := d2 (h - 1) (by omega)
    have x2 : τ 23 0 = nI (h - 1 + 1) := by rw [b4, show h - 1 + 1 = h by omega]
    have wv : (rt_up (rt_up (rt_up w 21 17 (nI (rn_B n 0 + 0 + 1))) 21 8 0) 21 17 (nI 0)) 25 0 = nI bb := by
      rw [rq_c (by decide), rq_c (by decide), rq_c (by decide)]
      exact (w3 rfl).trans y0
    have w17 : (rt_up (rt_up w 21 17 (nI (rn_B n 0 + 0 + 1))) 21 8 0) 21 17 - 1 = nI 0 := by rw [rq_k (by decide), rq_s]; exact nI_pred 0
    refine ⟨rt_up (rt_up (rt_up (rt_up w 21 17 (nI (rn_B n 0 + 0 + 1))) 21 8 0) 21 17 (nI 0)) 21 11 (nI bb), rt_up (rt_up τ 23 0 (nI (h - 1))) 0 39 (nI bb), ?_, ?_, ?_, ?_, (A0.up (by unfold rn_FC; omega)).up (by unfold rn_FC; omega), (rq_A.rf.up (by unfold rn_FR; omega)).up (by unfold rn_FR; omega)⟩
    · rw [w1, rn_leave50 hk e9' e7']
      unfold M_C_Runner_leave M_C_Runner_pop
      rw [if_pos (show (rt_up w 21 17 (nI (rn_B n 0 + 0 + 1))) 21 16 ≤ 0 by rw [w16]; decide), rq_put, rq_b, if_pos (show nI 1 = 1 from rfl), w17, rq_put, rq_b, rq_rd (n := 70) (i := 0) rq_s (by decide) (by decide), rq_b, rq_b2, wv, rq_put, rq_b]
    · unfold M_R_RangeTellerModel_giveBack
      rw [rq_rd (n := 100) rfl hk (by decide), rq_b, t4, rq_rd (n := 3) rfl hf (by decide), rq_b, t13, if_pos (show nI 1 = 1 from rfl), rn_popR a1 (by omega) b2 x2, rq_b2, y]
      unfold B_R_RangeTellerModel_giveBack_25
      rw [if_pos (show (rt_up τ 23 0 (nI (h - 1))) 0 30 = 0 by rw [rq_c (by decide)]; exact b2), if_pos (show nI 1 = 1 from rfl), rq_put, rq_b]
    · rw [rq_k (by decide), rq_k (by decide), rq_s]
    · rw [rq_s, rq_s]
  · have p0 : p = 0 := by omega
    subst p0
    refine ⟨_, rt_up τ 0 39 (-3), ?_, ?_, rq_s, ?_, A0, rq_A.rf.up (by unfold rn_FR; omega)⟩
    · rw [w1, rn_leave50 hk e9' e7']
      unfold M_C_Runner_leave
      rw [if_pos (show (rt_up w 21 17 (nI (rn_B n 0 + 0 + 0))) 21 16 ≤ 0 by rw [w16]; decide), rq_put, rq_b, if_neg (by decide)]
    · unfold M_R_RangeTellerModel_giveBack
      rw [rq_rd (n := 100) rfl hk (by decide), rq_b, t4, rq_rd (n := 3) rfl hf (by decide), rq_b, t13, if_neg (by decide)]
      unfold B_R_RangeTellerModel_giveBack_25
      rw [if_pos (show τ 0 30 = 0 from b2), if_neg (by decide), rq_put, rq_b]
    · rw [rq_s, rq_k (by decide), rq_k (by decide), w2 21 11 (by unfold rn_J1; omega)]; exact z11
end RN4
