/-! running: what is beside the operands; the ops that take and give -/
def rn_O (s t q : Nat) (σ τ : rt_St) : Prop :=
  (σ 21 7 = 1 ∧ σ 21 8 = 6 ∧ τ 0 38 = -1) ∧ (σ 21 10 = nI s ∧ τ 0 37 = nI s) ∧ (σ 21 11 = -3 ∧ τ 0 39 = -3 ∧ τ 0 40 = -3) ∧ (∀ i, i < 16 → rn_e (σ 23 i) (τ 24 i)) ∧ (∃ m, m ≤ t ∧ σ 21 6 = nI m ∧ τ 0 41 = nI m ∧ ∀ j, j < m → j < 20 → σ 24 j = τ 25 j) ∧ (∃ z, z ≤ 12 ∧ σ 21 2 = nI z ∧ τ 0 27 = nI z ∧ (∀ j, j < z → rn_e (σ 22 j) (τ 19 j)) ∧ σ 21 3 = nI (if q < z then q else z)) ∧ q ≤ t ∧ t < 100000
def rn_OC (c k : Nat) : Prop := (c = 21 ∧ (k = 2 ∨ k = 3 ∨ (6 ≤ k ∧ k ≤ 8) ∨ k = 10 ∨ k = 11)) ∨ (22 ≤ c ∧ c ≤ 24)
def rn_OR (c k : Nat) : Prop := (c = 0 ∧ (k = 27 ∨ (37 ≤ k ∧ k ≤ 41))) ∨ c = 19 ∨ c = 24 ∨ c = 25
/-- what any such op leaves alone -/
def rn_KC (c k : Nat) : Prop := ¬ ((23 ≤ c ∧ c ≤ 26) ∨ (c = 21 ∧ (k = 17 ∨ k = 3 ∨ k = 6)))
def rn_KR (c k : Nat) : Prop := ¬ ((21 ≤ c ∧ c ≤ 25) ∨ (c = 0 ∧ k = 41))
section RN2
variable {D m a b k s t q : Nat} {n c : Nat → Nat} {σ τ u v : rt_St}
theorem rn_O.kp (H : rn_O s t q σ τ) (hu : rq_A rn_OC σ u) (hv : rq_A rn_OR τ v) : rn_O s t q u v := by
  obtain ⟨⟨a1, a2, a3⟩, ⟨b1, b2⟩, ⟨c1, c2, c3⟩, d, ⟨m, m1, m2, m3, m4⟩, ⟨z, z1, z2, z3, z4, z5⟩, e⟩ := H
  refine ⟨⟨?_, ?_, ?_⟩, ⟨?_, ?_⟩, ⟨?_, ?_, ?_⟩, fun i hi => ?_, ⟨m, m1, ?_, ?_, fun j j1 j2 => ?_⟩, ⟨z, z1, ?_, ?_, fun j hj => ?_, ?_⟩, e⟩
  · rw [hu 21 7 (by unfold rn_OC; omega)]; exact a1
  · rw [hu 21 8 (by unfold rn_OC; omega)]; exact a2
  · rw [hv 0 38 (by unfold rn_OR; omega)]; exact a3
  · rw [hu 21 10 (by unfold rn_OC; omega)]; exact b1
  · rw [hv 0 37 (by unfold rn_OR; omega)]; exact b2
  · rw [hu 21 11 (by unfold rn_OC; omega)]; exact c1
  · rw [hv 0 39 (by unfold rn_OR; omega)]; exact c2
  · rw [hv 0 40 (by unfold rn_OR; omega)]; exact c3
  · rw [hu 23 i (by unfold rn_OC; omega), hv 24 i (by unfold rn_OR; omega)]; exact d i hi
  · rw [hu 21 6 (by unfold rn_OC; omega)]; exact m2
  · rw [hv 0 41 (by unfold rn_OR; omega)]; exact m3
  · rw [hu 24 j (by unfold rn_OC; omega), hv 25 j (by unfold rn_OR; omega)]; exact m4 j j1 j2
  · rw [hu 21 2 (by unfold rn_OC; omega)]; exact z2
  · rw [hv 0 27 (by unfold rn_OR; omega)]; exact z3
  · rw [hu 22 j (by unfold rn_OC; omega), hv 19 j (by unfold rn_OR; omega)]; exact z4 j hj
  · rw [hu 21 3 (by unfold rn_OC; omega)]; exact z5
theorem rn_O.up {t' : Nat} (H : rn_O s t q σ τ) (h : t ≤ t') (h2 : t' < 100000) : rn_O s t' q σ τ := by
  obtain ⟨a, b, c, d, ⟨m, m1, m2⟩, z, e1, e2⟩ := H
  exact ⟨a, b, c, d, ⟨m, by omega, m2⟩, z, by omega, h2⟩
theorem rn_pco (h : rq_A rn_PC σ u) : rq_A rn_OC σ u := h.mono (fun c k q => by unfold rn_OC at q; unfold rn_PC; omega)
theorem rn_pck (h : rq_A rn_PC σ u) : rq_A rn_KC σ u := h.mono (fun c k q => by unfold rn_KC at q; unfold rn_PC; omega)
theorem rn_pro (h : rq_A rn_PR τ v) : rq_A rn_OR τ v := h.mono (fun c k q => by unfold rn_OR at q; unfold rn_PR; omega)
theorem rn_prk (h : rq_A rn_PR τ v) : rq_A rn_KR τ v := h.mono (fun c k q => by unfold rn_KR at q; unfold rn_PR; omega)
def rn_ok (D : Nat) (n c : Nat → Nat) (s t : Nat) (σ τ : rt_St) (h' q' : Nat) (x y : Option rt_St) : Prop := ∃ u v, x = some u ∧ y = some v ∧ rn_S D n h' c u v ∧ rn_O s (t + 1) q' u v ∧ rq_A rn_KC σ u ∧ rq_A rn_KR τ v
theorem rn_ok1 (O : rn_O s t q σ τ) (ht : t + 1 < 100000) {x y : Option rt_St} {h' : Nat} (e1 : x = some u) (e2 : y = some v) (H : rn_S D n h' c u v) (A : rq_A rn_PC σ u) (B : rq_A rn_PR τ v) : rn_ok D n c s t σ τ h' q x y :=
  ⟨u, v, e1, e2, H, (O.kp (rn_pco A) (rn_pro B)).up (by omega) ht, rn_pck A, rn_prk B⟩
theorem rn_popu {x : Int32} (h : M_C_Runner_pop σ = some (x, u)) : u = rt_up σ 21 17 (σ 21 17 - 1) := by
  unfold M_C_Runner_pop at h
  rw [rq_put, rq_b] at h
  obtain ⟨y, h1, h2⟩ := rt_b1s h
  cases h2
  rfl
theorem rn_op10 (H : rn_S D n (m + 1) c σ τ) (O : rn_O s t q σ τ) (ht : t + 1 < 100000) (hk : k < 100) (e2 : τ 2 k = nI 10) (e3 : τ 3 k = nI a) : rn_ok D n c s t σ τ (m) q (M_C_Runner_operate σ (nI 10) (nI a)) (M_R_RangeTellerModel_act τ (nI k) (nI q)) := by
  obtain ⟨b1, u1, v1, hb1, p1, q1, H1, A1, B1, x1, y1⟩ := rn_pop H
  have pu := rn_popu p1
  refine rn_ok1 O ht (u := u1) (v := v1) ?_ ?_ H1 A1 B1
  · unfold M_C_Runner_operate
    rw [if_pos (show nI 10 = 10 from rfl), rq_put, pu]; rfl
  · unfold M_R_RangeTellerModel_act
    rw [rq_rd (n := 100) rfl hk (by decide), rq_b, e2, rq_rd (n := 100) rfl hk (by decide), rq_b, e3, if_neg (by decide), if_neg (by decide), if_neg (by decide), q1, rq_b2, if_neg (by decide), if_neg (by decide), if_neg (by decide), if_neg (by decide), if_neg (by decide), if_neg (by decide), if_neg (by decide), if_pos (by decide)]
theorem rn_op11 (H : rn_S D n (m + 1 + 1 + 1) c σ τ) (O : rn_O s t q σ τ) (ht : t + 1 < 100000) (hk : k < 100) (e2 : τ 2 k = nI 11) (e3 : τ 3 k = nI a) : rn_ok D n c s t σ τ (m + 1) q (M_C_Runner_operate σ (nI 11) (nI a)) (M_R_RangeTellerModel_act τ (nI k) (nI q)) := by
  obtain ⟨b1, u1, v1, hb1, p1, q1, H1, A1, B1, x1, y1⟩ := rn_pop H
  obtain ⟨b2, u2, v2, hb2, p2, q2, H2, A2, B2, x2, y2⟩ := rn_pop H1
  obtain ⟨b3, u3, v3, hb3, p3, q3, H3, A3, B3, x3, y3⟩ := rn_pop H2
  have hm := H.1.2.1
  have ab : (if b1 = 0 then b2 else b3) < 64 := by
    by_cases z : b1 = 0
    · rw [if_pos z]; exact hb2
    · rw [if_neg z]; exact hb3
  obtain ⟨u4, v4, p4, q4, H4, A4, B4⟩ := rn_push H3 (by omega) ab
  refine rn_ok1 O ht (u := u4) (v := v4) ?_ ?_ H4 (((A1.tr A2).tr A3).tr A4) (((B1.tr B2).tr B3).tr B4)
  · unfold M_C_Runner_operate M_C_Runner_pick
    rw [if_neg (by decide), if_pos (show nI 11 = 11 from rfl), p1, rq_b2, p2, rq_b2, p3, rq_b2]
    unfold B_C_Runner_pick_25
    by_cases z : b1 = 0
    · rw [if_pos z] at p4
      rw [if_pos (show nI b1 = 0 by rw [z]; rfl), p4]; rfl
    · rw [if_neg z] at p4
      rw [if_neg (nI_ne0 (by omega) (by omega)), p4]; rfl
  · unfold M_R_RangeTellerModel_act
    rw [rq_rd (n := 100) rfl hk (by decide), rq_b, e2, rq_rd (n := 100) rfl hk (by decide), rq_b, e3, if_neg (by decide), if_neg (by decide), if_neg (by decide), q1, rq_b2, if_pos (show nI 11 = 11 from rfl), q2, rq_b2, q3, rq_b2]
    unfold B_R_RangeTellerModel_act_129
    by_cases z : b1 = 0
    · rw [if_pos z] at q4
      rw [if_pos (show nI b1 = 0 by rw [z]; rfl), q4]; rfl
    · rw [if_neg z] at q4
      rw [if_neg (nI_ne0 (by omega) (by omega)), q4]; rfl
theorem rn_op12 (H : rn_S D n (m) c σ τ) (O : rn_O s t q σ τ) (ht : t + 1 < 100000) (hk : k < 100) (e2 : τ 2 k = nI 12) (e3 : τ 3 k = nI a) (hm : m + 1 ≤ 10) (ha : a < 4) : rn_ok D n c s t σ τ (m + 1) q (M_C_Runner_operate σ (nI 12) (nI a)) (M_R_RangeTellerModel_act τ (nI k) (nI q)) := by
  obtain ⟨b, hb, w1, w2⟩ := H.2.2.2.2.2.2.2.2 D a (Nat.le_refl _) ha
  have hD := H.1.1
  obtain ⟨u4, v4, p4, q4, H4, A4, B4⟩ := rn_push H hm hb
  refine rn_ok1 O ht (u := u4) (v := v4) ?_ ?_ H4 A4 B4
  · unfold M_C_Runner_operate
    rw [if_neg (by decide), if_neg (by decide), if_pos (show nI 12 = 12 from rfl), rq_rd (n := 28) (i := 4 * D + a) (by rw [H.2.1.1, show (4 : Int32) = nI 4 from rfl, pk_mul, nI_add, Nat.mul_comm D 4]) (by omega) (by decide), rq_b, w1, p4]; rfl
  · unfold M_R_RangeTellerModel_act
    rw [rq_rd (n := 100) rfl hk (by decide), rq_b, e2, rq_rd (n := 100) rfl hk (by decide), rq_b, e3, if_pos (show nI 12 = 12 from rfl), rq_rd (n := 32) (i := 4 * D + a) (by rw [H.2.1.2, show (4 : Int32) = nI 4 from rfl, pk_mul, nI_add]) (by omega) (by decide), rq_b, w2, q4]; rfl
theorem rn_op13 (H : rn_S D n (m + 1) c σ τ) (O : rn_O s t q σ τ) (ht : t + 1 < 100000) (hk : k < 100) (e2 : τ 2 k = nI 13) (e3 : τ 3 k = nI a) (ha : a < 4) : rn_ok D n c s t σ τ (m) q (M_C_Runner_operate σ (nI 13) (nI a)) (M_R_RangeTellerModel_act τ (nI k) (nI q)) := by
  obtain ⟨b1, u1, v1, hb1, p1, q1, H1, A1, B1, x1, y1⟩ := rn_pop H
  have hD := H.1.1
  refine ⟨rt_up u1 26 (4 * D + a) (nI b1), rt_up v1 22 (4 * D + a) (nI b1), ?_, ?_, H1.var ha hb1, (O.kp ((rn_pco A1).up (by unfold rn_OC; omega)) ((rn_pro B1).up (by unfold rn_OR; omega))).up (by omega) ht, (rn_pck A1).up (by unfold rn_KC; omega), (rn_prk B1).up (by unfold rn_KR; omega)⟩
  · unfold M_C_Runner_operate
    rw [if_neg (by decide), if_neg (by decide), if_neg (by decide), if_pos (show nI 13 = 13 from rfl), p1, rq_b2, rq_wr (n := 28) (i := 4 * D + a) (by rw [H.2.1.1, show (4 : Int32) = nI 4 from rfl, pk_mul, nI_add, Nat.mul_comm D 4]) (by omega) (by decide), rq_b]
  · unfold M_R_RangeTellerModel_act
    rw [rq_rd (n := 100) rfl hk (by decide), rq_b, e2, rq_rd (n := 100) rfl hk (by decide), rq_b, e3, if_neg (by decide), if_neg (by decide), if_neg (by decide), q1, rq_b2, if_neg (by decide), if_pos (show nI 13 = 13 from rfl)]
    unfold B_R_RangeTellerModel_act_147
    rw [rq_wr (n := 32) (i := 4 * D + a) (by rw [H.2.1.2, show (4 : Int32) = nI 4 from rfl, pk_mul, nI_add]) (by omega) (by decide), rq_b, if_neg (by decide)]
theorem rn_op14 (H : rn_S D n (m + 1) c σ τ) (O : rn_O s t q σ τ) (ht : t + 1 < 100000) (hk : k < 100) (e2 : τ 2 k = nI 14) (e3 : τ 3 k = nI a) (ha : a < 4) : rn_ok D n c s t σ τ (m + 1) q (M_C_Runner_operate σ (nI 14) (nI a)) (M_R_RangeTellerModel_act τ (nI k) (nI q)) := by
  obtain ⟨b, hb, w1, w2⟩ := H.2.2.2.2.2.2.1 m (by omega)
  have hD := H.1.1
  have hm := H.1.2.1
  have hB := rn_B_le H.1.2.2 D (Nat.le_refl _)
  have b2 := H.2.1.2
  have b4 := H.2.2.1.2
  have er : ∀ x : rt_St, x 0 30 = nI D → x 23 D = nI (m + 1) → x 21 (10 * D + m) = nI b → M_R_RangeTellerModel_pop x = some (nI b, rt_up x 23 D (nI m)) := fun x x1 x2 x3 => by
    have e3 : (rt_up x 23 D (nI m)) 0 30 = nI D := by rw [rq_c (by decide)]; exact x1
    unfold M_R_RangeTellerModel_pop
    rw [rq_rd (n := 8) x1 (by omega) (by decide), rq_b, x2, nI_pred, rq_wr (n := 8) x1 (by omega) (by decide), rq_b, rq_rd (n := 8) e3 (by omega) (by decide), rq_b, rq_s, e3, rq_rd (n := 80) (i := 10 * D + m) (by rw [show (10 : Int32) = nI 10 from rfl, pk_mul, nI_add]) (by omega) (by decide), rq_b, rq_c (by decide), x3]
  have es : ∀ x : rt_St, x 0 30 = nI D → x 23 D = nI m → M_R_RangeTellerModel_push x (nI b) = some (rt_up (rt_up x 21 (10 * D + m) (nI b)) 23 D (nI (m + 1))) := fun x x1 x2 => by
    have e3 : (rt_up x 21 (10 * D + m) (nI b)) 0 30 = nI D := by rw [rq_c (by decide)]; exact x1
    have e4 : (rt_up x 21 (10 * D + m) (nI b)) 23 D = nI m := by rw [rq_c (by decide)]; exact x2
    unfold M_R_RangeTellerModel_push
    rw [rq_rd (n := 8) x1 (by omega) (by decide), rq_b, x2, x1, rq_wr (n := 80) (i := 10 * D + m) (by rw [show (10 : Int32) = nI 10 from rfl, pk_mul, nI_add]) (by omega) (by decide), rq_b, rn_and hb, rq_rd (n := 8) e3 (by omega) (by decide), rq_b, e4, rq_wr (n := 8) e3 (by omega) (by decide), rq_b, nI_1]
  refine ⟨rt_up σ 26 (4 * D + a) (nI b), rt_up (rt_up (rt_up (rt_up τ 23 D (nI m)) 22 (4 * D + a) (nI b)) 21 (10 * D + m) (nI b)) 23 D (nI (m + 1)), ?_, ?_, (H.var ha hb).kp (fun _ _ _ => rfl) (fun x j hx => ?_), (O.kp (rq_A.rf.up (by unfold rn_OC; omega)) ((((rq_A.rf.up (by unfold rn_OR; omega)).up (by unfold rn_OR; omega)).up (by unfold rn_OR; omega)).up (by unfold rn_OR; omega))).up (by omega) ht, rq_A.rf.up (by unfold rn_KC; omega), (((rq_A.rf.up (by unfold rn_KR; omega)).up (by unfold rn_KR; omega)).up (by unfold rn_KR; omega)).up (by unfold rn_KR; omega)⟩
  · unfold M_C_Runner_operate
    rw [if_neg (by decide), if_neg (by decide), if_neg (by decide), if_neg (by decide), if_pos (show nI 14 = 14 from rfl), rq_rd (n := 70) (i := rn_B n D + m) (by rw [H.2.2.1.1, show rn_B n D + (m + 1) = (rn_B n D + m) + 1 from rfl, nI_pred]) (by omega) (by decide), rq_b, w1, rq_wr (n := 28) (i := 4 * D + a) (by rw [H.2.1.1, show (4 : Int32) = nI 4 from rfl, pk_mul, nI_add, Nat.mul_comm D 4]) (by omega) (by decide), rq_b]
  · unfold M_R_RangeTellerModel_act
    rw [rq_rd (n := 100) rfl hk (by decide), rq_b, e2, rq_rd (n := 100) rfl hk (by decide), rq_b, e3, if_neg (by decide), if_neg (by decide), if_neg (by decide), er τ b2 b4 w2, rq_b2, if_neg (by decide), if_neg (by decide), if_pos (show nI 14 = 14 from rfl)]
    unfold B_R_RangeTellerModel_act_147
    rw [rq_wr (n := 32) (i := 4 * D + a) (by rw [b2, show (4 : Int32) = nI 4 from rfl, pk_mul, nI_add]) (by omega) (by decide), rq_b, if_pos (show nI 14 = 14 from rfl), es _ (by rw [rq_c (by decide), rq_c (by decide)]; exact b2) (by rw [rq_c (by decide), rq_s]), rq_b]
  · by_cases z : x = 23 ∧ j = D
    · obtain ⟨rfl, rfl⟩ := z
      rw [rq_s, rq_c (by decide)]; exact b4.symm
    · by_cases z2 : x = 21 ∧ j = 10 * D + m
      · obtain ⟨rfl, rfl⟩ := z2
        rw [rq_c (by decide), rq_s, rq_c (by decide)]; exact w2.symm
      · rw [rq_if, if_neg z, rq_if, if_neg z2, rq_if]
        by_cases z3 : x = 22 ∧ j = 4 * D + a
        · obtain ⟨rfl, rfl⟩ := z3
          rw [if_pos ⟨rfl, rfl⟩, rq_s]
        · rw [if_neg z3, rq_if, if_neg z, rq_if, if_neg z3]
theorem rn_op15 (H : rn_S D n (m + 1) c σ τ) (O : rn_O s t q σ τ) (ht : t + 1 < 100000) (hk : k < 100) (e2 : τ 2 k = nI 15) (e3 : τ 3 k = nI a) (hy : ∀ b, τ 21 (10 * D + m) = nI b → b < 64 → b + a < 16) : rn_ok D n c s t σ τ (m + 1) q (M_C_Runner_operate σ (nI 15) (nI a)) (M_R_RangeTellerModel_act τ (nI k) (nI q)) := by
  obtain ⟨b1, u1, v1, hb1, p1, q1, H1, A1, B1, x1, y1⟩ := rn_pop H
  have hm := H.1.2.1
  have hy1 := hy b1 y1 hb1
  obtain ⟨b, hb, w1, w2⟩ := O.2.2.2.1 (b1 + a) hy1
  have w1' : u1 23 (b1 + a) = nI b := by rw [A1 23 _ (by unfold rn_PC; omega)]; exact w1
  have w2' : v1 24 (b1 + a) = nI b := by rw [B1 24 _ (by unfold rn_PR; omega)]; exact w2
  obtain ⟨u4, v4, p4, q4, H4, A4, B4⟩ := rn_push H1 (by omega) hb
  refine rn_ok1 O ht (u := u4) (v := v4) ?_ ?_ H4 (A1.tr A4) (B1.tr B4)
  · unfold M_C_Runner_operate M_C_Runner_fetch
    rw [if_neg (by decide), if_neg (by decide), if_neg (by decide), if_neg (by decide), if_neg (by decide), if_pos (show nI 15 = 15 from rfl), p1, rq_b2, nI_add, if_pos (show nI (b1 + a) < 16 from nI_lt (b := 16) hy1 (by decide)), rq_rd (n := 16) rfl hy1 (by decide), rq_b, w1', p4]; rfl
  · unfold M_R_RangeTellerModel_act
    rw [rq_rd (n := 100) rfl hk (by decide), rq_b, e2, rq_rd (n := 100) rfl hk (by decide), rq_b, e3, if_neg (by decide), if_neg (by decide), if_neg (by decide), q1, rq_b2, if_neg (by decide), if_neg (by decide), if_neg (by decide), if_pos (show nI 15 = 15 from rfl), nI_add, rq_rd (n := 16) rfl hy1 (by decide), rq_b, w2', q4]; rfl
theorem rn_op16 (H : rn_S D n (m + 1 + 1) c σ τ) (O : rn_O s t q σ τ) (ht : t + 1 < 100000) (hk : k < 100) (e2 : τ 2 k = nI 16) (e3 : τ 3 k = nI a) (hy : ∀ b, τ 21 (10 * D + m) = nI b → b < 64 → b + a < 16) : rn_ok D n c s t σ τ (m) q (M_C_Runner_operate σ (nI 16) (nI a)) (M_R_RangeTellerModel_act τ (nI k) (nI q)) := by
  obtain ⟨b1, u1, v1, hb1, p1, q1, H1, A1, B1, x1, y1⟩ := rn_pop H
  obtain ⟨b2, u2, v2, hb2, p2, q2, H2, A2, B2, x2, y2⟩ := rn_pop H1
  have y2' : τ 21 (10 * D + m) = nI b2 := by
    have hx := q1
    unfold M_R_RangeTellerModel_pop at hx
    obtain ⟨z1, h1, hx⟩ := rt_b1s hx
    obtain ⟨z2, h2, hx⟩ := rt_b1s hx
    obtain ⟨z3, h3, hx⟩ := rt_b1s hx
    obtain ⟨z4, h4, hx⟩ := rt_b1s hx
    cases hx
    have := (rt_wrs h2).2
    rw [← y2, ← this, rq_c (by decide)]
  have hy1 := hy b2 y2' hb2
  refine ⟨rt_up u2 23 (b2 + a) (nI b1), rt_up v2 24 (b2 + a) (nI b1), ?_, ?_, H2.kp (fun x j hx => rq_c (by omega)) (fun x j hx => rq_c (by omega)), ?_, ((rn_pck A1).tr (rn_pck A2)).up (by unfold rn_KC; omega), ((rn_prk B1).tr (rn_prk B2)).up (by unfold rn_KR; omega)⟩
  · unfold M_C_Runner_operate M_C_Runner_store
    rw [if_neg (by decide), if_neg (by decide), if_neg (by decide), if_neg (by decide), if_neg (by decide), if_neg (by decide), if_pos (show nI 16 = 16 from rfl), p1, rq_b2, p2, rq_b2, nI_add, if_pos (show nI (b2 + a) < 16 from nI_lt (b := 16) hy1 (by decide)), rq_wr (n := 16) rfl hy1 (by decide), rq_b]; rfl
  · unfold M_R_RangeTellerModel_act
    rw [rq_rd (n := 100) rfl hk (by decide), rq_b, e2, rq_rd (n := 100) rfl hk (by decide), rq_b, e3, if_neg (by decide), if_neg (by decide), if_neg (by decide), q1, rq_b2, if_neg (by decide), if_neg (by decide), if_neg (by decide), if_neg (by decide), if_pos (show nI 16 = 16 from rfl), q2, rq_b2, nI_add, rq_wr (n := 16) rfl hy1 (by decide), rq_b]
  · obtain ⟨⟨g1, g2, g3⟩, ⟨g4, g5⟩, ⟨g6, g7, g8⟩, d, ⟨m', m1, m2, m3, m4⟩, ⟨z, z1, z2, z3, z4, z5⟩, f1, f2⟩ := (O.kp (rn_pco (A1.tr A2)) (rn_pro (B1.tr B2))).up (by omega : t ≤ t + 1) ht
    refine ⟨⟨by rw [rq_c (by decide)]; exact g1, by rw [rq_c (by decide)]; exact g2, by rw [rq_c (by decide)]; exact g3⟩, ⟨by rw [rq_c (by decide)]; exact g4, by rw [rq_c (by decide)]; exact g5⟩, ⟨by rw [rq_c (by decide)]; exact g6, by rw [rq_c (by decide)]; exact g7, by rw [rq_c (by decide)]; exact g8⟩, fun i hi => ?_, ⟨m', m1, by rw [rq_c (by decide)]; exact m2, by rw [rq_c (by decide)]; exact m3, fun j j1 j2 => by rw [rq_c (by decide), rq_c (by decide)]; exact m4 j j1 j2⟩, ⟨z, z1, by rw [rq_c (by decide)]; exact z2, by rw [rq_c (by decide)]; exact z3, fun j hj => by rw [rq_c (by decide), rq_c (by decide)]; exact z4 j hj, by rw [rq_c (by decide)]; exact z5⟩, f1, f2⟩
    by_cases w : i = b2 + a
    · rw [w, rq_s, rq_s]; exact ⟨b1, hb1, rfl, rfl⟩
    · rw [rq_k w, rq_k w]; exact d i hi
theorem rn_op17 (H : rn_S D n (m) c σ τ) (O : rn_O s t q σ τ) (ht : t + 1 < 100000) (hk : k < 100) (e2 : τ 2 k = nI 17) (e3 : τ 3 k = nI a) (hm : m + 1 ≤ 10) (ha : a < 64) : rn_ok D n c s t σ τ (m + 1) q (M_C_Runner_operate σ (nI 17) (nI a)) (M_R_RangeTellerModel_act τ (nI k) (nI q)) := by
  obtain ⟨u4, v4, p4, q4, H4, A4, B4⟩ := rn_push H hm ha
  refine rn_ok1 O ht (u := u4) (v := v4) ?_ ?_ H4 A4 B4
  · unfold M_C_Runner_operate
    rw [if_neg (by decide), if_neg (by decide), if_neg (by decide), if_neg (by decide), if_neg (by decide), if_neg (by decide), if_neg (by decide), if_pos (show nI 17 = 17 from rfl), p4]; rfl
  · unfold M_R_RangeTellerModel_act
    rw [rq_rd (n := 100) rfl hk (by decide), rq_b, e2, rq_rd (n := 100) rfl hk (by decide), rq_b, e3, if_neg (by decide), if_pos (show nI 17 = 17 from rfl), q4]; rfl
theorem rn_op18 (H : rn_S D n (m + 1) c σ τ) (O : rn_O s t q σ τ) (ht : t + 1 < 100000) (hk : k < 100) (e2 : τ 2 k = nI 18) (e3 : τ 3 k = nI a) : rn_ok D n c s t σ τ (m + 1) q (M_C_Runner_operate σ (nI 18) (nI a)) (M_R_RangeTellerModel_act τ (nI k) (nI q)) := by
  obtain ⟨b1, u1, v1, hb1, p1, q1, H1, A1, B1, x1, y1⟩ := rn_pop H
  have hm := H.1.2.1
  have ab : (if b1 = 0 then 1 else 0) < 64 := by
    by_cases z : b1 = 0
    · rw [if_pos z]; omega
    · rw [if_neg z]; omega
  obtain ⟨u4, v4, p4, q4, H4, A4, B4⟩ := rn_push H1 (by omega) ab
  refine rn_ok1 O ht (u := u4) (v := v4) ?_ ?_ H4 (A1.tr A4) (B1.tr B4)
  · unfold M_C_Runner_operate
    rw [if_neg (by decide), if_neg (by decide), if_neg (by decide), if_neg (by decide), if_neg (by decide), if_neg (by decide), if_neg (by decide), if_neg (by decide), if_pos (show nI 18 = 18 from rfl), p1, rq_b2]
    unfold B_C_Runner_operate_203
    by_cases z : b1 = 0
    · rw [if_pos z] at p4
      rw [if_pos (show nI b1 = 0 by rw [z]; rfl), show (1 : Int32) = nI 1 from rfl, p4]; rfl
    · rw [if_neg z] at p4
      rw [if_neg (nI_ne0 (by omega) (by omega)), show (0 : Int32) = nI 0 from rfl, p4]; rfl
  · unfold M_R_RangeTellerModel_act
    rw [rq_rd (n := 100) rfl hk (by decide), rq_b, e2, rq_rd (n := 100) rfl hk (by decide), rq_b, e3, if_neg (by decide), if_neg (by decide), if_neg (by decide), q1, rq_b2, if_neg (by decide), if_neg (by decide), if_neg (by decide), if_neg (by decide), if_neg (by decide), if_pos (show nI 18 = 18 from rfl)]
    unfold B_R_RangeTellerModel_act_237
    by_cases z : b1 = 0
    · rw [if_pos z] at q4
      rw [if_pos (show nI b1 = 0 by rw [z]; rfl), show (1 : Int32) = nI 1 from rfl, q4]; rfl
    · rw [if_neg z] at q4
      rw [if_neg (nI_ne0 (by omega) (by omega)), show (0 : Int32) = nI 0 from rfl, q4]; rfl
theorem rn_op27 (H : rn_S D n (m) c σ τ) (O : rn_O s t q σ τ) (ht : t + 1 < 100000) (hk : k < 100) (e2 : τ 2 k = nI 27) (e3 : τ 3 k = nI a) (hm : m + 1 ≤ 10) : rn_ok D n c s t σ τ (m + 1) (q + 1) (M_C_Runner_operate σ (nI 27) (nI a)) (M_R_RangeTellerModel_act τ (nI k) (nI q)) := by
  have O0 := O
  obtain ⟨-, -, -, -, -, ⟨z, z1, z2, z3, z4, z5⟩, hq, -⟩ := O
  by_cases zz : q < z
  · obtain ⟨b, hb, w1, w2⟩ := z4 q zz
    rw [if_pos zz] at z5
    obtain ⟨u4, v4, p4, q4, H4, A4, B4⟩ := rn_push H hm hb
    refine ⟨rt_up u4 21 3 (nI (q + 1)), v4, ?_, ?_, H4.kp (fun x j hx => ?_) (fun _ _ _ => rfl), ?_, (rn_pck A4).up (by unfold rn_KC; omega), rn_prk B4⟩
    · unfold M_C_Runner_operate M_C_Runner_takeInput
      rw [if_neg (by decide), if_neg (by decide), if_neg (by decide), if_neg (by decide), if_neg (by decide), if_neg (by decide), if_neg (by decide), if_neg (by decide), if_neg (by decide), if_neg (by decide), if_neg (by decide), if_neg (by decide), if_neg (by decide), if_neg (by decide), if_neg (by decide), if_neg (by decide), if_neg (by decide), if_pos (show nI 27 = 27 from rfl), z2, z5, if_neg (nI_ge zz (by omega)), rq_rd (n := 12) rfl (by omega) (by decide), rq_b, w1, p4, rq_b, rq_put, A4 21 3 (by unfold rn_PC; omega), z5, nI_1]; rfl
    · unfold M_R_RangeTellerModel_act
      rw [rq_rd (n := 100) rfl hk (by decide), rq_b, e2, rq_rd (n := 100) rfl hk (by decide), rq_b, e3, if_neg (by decide), if_neg (by decide), if_pos (show nI 27 = 27 from rfl), z3, if_neg (nI_ge zz (by omega)), rq_rd (n := 12) rfl (by omega) (by decide), rq_b, w2]
      unfold B_R_RangeTellerModel_act_86
      rw [q4]; rfl
    · rw [rq_if, if_neg (by omega)]
    · obtain ⟨⟨g1, g2, g3⟩, ⟨g4, g5⟩, ⟨g6, g7, g8⟩, d, ⟨m', m1, m2, m3, m4⟩, ⟨y, y1, y2, y3, y4, y5⟩, e1, e2⟩ := O0.kp (rn_pco A4) (rn_pro B4)
      have yz : y = z := (nI_eq (by omega) (by omega)).mp (y3.symm.trans ((B4 0 27 (by unfold rn_PR; omega)).trans z3))
      subst yz
      refine ⟨⟨by rw [rq_k (by decide)]; exact g1, by rw [rq_k (by decide)]; exact g2, g3⟩, ⟨by rw [rq_k (by decide)]; exact g4, g5⟩, ⟨by rw [rq_k (by decide)]; exact g6, g7, g8⟩, fun i hi => by rw [rq_c (by decide)]; exact d i hi, ⟨m', by omega, by rw [rq_k (by decide)]; exact m2, m3, fun j j1 j2 => by rw [rq_c (by decide)]; exact m4 j j1 j2⟩, ⟨y, y1, by rw [rq_k (by decide)]; exact y2, y3, fun j hj => by rw [rq_c (by decide)]; exact y4 j hj, ?_⟩, by omega, ht⟩
      rw [rq_s]
      by_cases w : q + 1 < y
      · rw [if_pos w]
      · rw [if_neg w, show q + 1 = y by omega]
  · rw [if_neg zz] at z5
    obtain ⟨u4, v4, p4, q4, H4, A4, B4⟩ := rn_push (b := 0) H hm (by decide)
    refine ⟨u4, v4, ?_, ?_, H4, ?_, rn_pck A4, rn_prk B4⟩
    · unfold M_C_Runner_operate M_C_Runner_takeInput
      rw [if_neg (by decide), if_neg (by decide), if_neg (by decide), if_neg (by decide), if_neg (by decide), if_neg (by decide), if_neg (by decide), if_neg (by decide), if_neg (by decide), if_neg (by decide), if_neg (by decide), if_neg (by decide), if_neg (by decide), if_neg (by decide), if_neg (by decide), if_neg (by decide), if_neg (by decide), if_pos (show nI 27 = 27 from rfl), z2, z5, if_pos (Int32.le_refl _), show (0 : Int32) = nI 0 from rfl, p4]; rfl
    · unfold M_R_RangeTellerModel_act
      rw [rq_rd (n := 100) rfl hk (by decide), rq_b, e2, rq_rd (n := 100) rfl hk (by decide), rq_b, e3, if_neg (by decide), if_neg (by decide), if_pos (show nI 27 = 27 from rfl), z3, if_pos (nI_le (by omega) (by omega))]
      unfold B_R_RangeTellerModel_act_86
      rw [show (0 : Int32) = nI 0 from rfl, q4]; rfl
    · obtain ⟨g, g2, g3, d, ⟨m', m1, m2⟩, ⟨y, y1, y2, y3, y4, y5⟩, e1, e2⟩ := O0.kp (rn_pco A4) (rn_pro B4)
      have yz : y = z := (nI_eq (by omega) (by omega)).mp (y3.symm.trans ((B4 0 27 (by unfold rn_PR; omega)).trans z3))
      subst yz
      refine ⟨g, g2, g3, d, ⟨m', by omega, m2⟩, ⟨y, y1, y2, y3, y4, ?_⟩, by omega, ht⟩
      rw [if_neg zz] at y5
      rw [if_neg (by omega)]; exact y5
theorem rn_op28 (H : rn_S D n (m + 1) c σ τ) (O : rn_O s t q σ τ) (ht : t + 1 < 100000) (hk : k < 100) (e2 : τ 2 k = nI 28) (e3 : τ 3 k = nI a) : rn_ok D n c s t σ τ (m) q (M_C_Runner_operate σ (nI 28) (nI a)) (M_R_RangeTellerModel_act τ (nI k) (nI q)) := by
  obtain ⟨b1, u1, v1, hb1, p1, q1, H1, A1, B1, x1, y1⟩ := rn_pop H
  obtain ⟨⟨g1, g2, g3⟩, ⟨g4, g5⟩, ⟨g6, g7, g8⟩, d, ⟨m', m1, m2, m3, m4⟩, ⟨y, y1, y2, y3, y4, y5⟩, e1, e2'⟩ := O.kp (rn_pco A1) (rn_pro B1)
  by_cases z : 20 ≤ m'
  · refine ⟨rt_up u1 21 6 (nI (m' + 1)), rt_up v1 0 41 (nI (m' + 1)), ?_, ?_, H1.kp (fun x j hx => by rw [rq_if, if_neg (by omega)]) (fun x j hx => by rw [rq_if, if_neg (by omega)]), ?_, (rn_pck A1).up (by unfold rn_KC; omega), (rn_prk B1).up (by unfold rn_KR; omega)⟩
    · unfold M_C_Runner_operate M_C_Runner_putOut B_C_Runner_putOut_19
      rw [if_neg (by decide), if_neg (by decide), if_neg (by decide), if_neg (by decide), if_neg (by decide), if_neg (by decide), if_neg (by decide), if_neg (by decide), if_neg (by decide), if_neg (by decide), if_neg (by decide), if_neg (by decide), if_neg (by decide), if_neg (by decide), if_neg (by decide), if_neg (by decide), if_neg (by decide), if_neg (by decide), if_pos (show nI 28 = 28 from rfl), p1, rq_b2, m2, if_pos (show (20 : Int32) ≤ nI m' from nI_le (a := 20) z (by omega)), rq_put, rq_b, nI_1]; rfl
    · unfold M_R_RangeTellerModel_act
      rw [rq_rd (n := 100) rfl hk (by decide), rq_b, e2, rq_rd (n := 100) rfl hk (by decide), rq_b, e3, if_neg (by decide), if_neg (by decide), if_neg (by decide), q1, rq_b2, if_neg (by decide), if_neg (by decide), if_neg (by decide), if_neg (by decide), if_neg (by decide), if_neg (by decide), if_pos (show nI 28 = 28 from rfl), m3, if_pos (show (20 : Int32) ≤ nI m' from nI_le (a := 20) z (by omega))]
      unfold B_R_RangeTellerModel_act_269
      rw [rq_put, rq_b, m3, nI_1]
    · refine ⟨⟨by rw [rq_k (by decide)]; exact g1, by rw [rq_k (by decide)]; exact g2, by rw [rq_k (by decide)]; exact g3⟩, ⟨by rw [rq_k (by decide)]; exact g4, by rw [rq_k (by decide)]; exact g5⟩, ⟨by rw [rq_k (by decide)]; exact g6, by rw [rq_k (by decide)]; exact g7, by rw [rq_k (by decide)]; exact g8⟩, fun i hi => by rw [rq_c (by decide), rq_c (by decide)]; exact d i hi, ⟨m' + 1, by omega, rq_s, rq_s, fun j j1 j2 => by rw [rq_c (by decide), rq_c (by decide)]; exact m4 j (by omega) j2⟩, ⟨y, y1, by rw [rq_k (by decide)]; exact y2, by rw [rq_k (by decide)]; exact y3, fun j hj => by rw [rq_c (by decide), rq_c (by decide)]; exact y4 j hj, by rw [rq_k (by decide)]; exact y5⟩, by omega, ht⟩
  · refine ⟨rt_up (rt_up u1 24 m' (nI b1)) 21 6 (nI (m' + 1)), rt_up (rt_up v1 25 m' (nI b1)) 0 41 (nI (m' + 1)), ?_, ?_, H1.kp (fun x j hx => by rw [rq_if, if_neg (by omega), rq_c (by omega)]) (fun x j hx => by rw [rq_if, if_neg (by omega), rq_c (by omega)]), ?_, ((rn_pck A1).up (by unfold rn_KC; omega)).up (by unfold rn_KC; omega), ((rn_prk B1).up (by unfold rn_KR; omega)).up (by unfold rn_KR; omega)⟩
    · unfold M_C_Runner_operate M_C_Runner_putOut B_C_Runner_putOut_19
      rw [if_neg (by decide), if_neg (by decide), if_neg (by decide), if_neg (by decide), if_neg (by decide), if_neg (by decide), if_neg (by decide), if_neg (by decide), if_neg (by decide), if_neg (by decide), if_neg (by decide), if_neg (by decide), if_neg (by decide), if_neg (by decide), if_neg (by decide), if_neg (by decide), if_neg (by decide), if_neg (by decide), if_pos (show nI 28 = 28 from rfl), p1, rq_b2, if_neg (show ¬ (20 : Int32) ≤ u1 21 6 by rw [m2]; exact nI_ge (b := 20) (by omega) (by decide)), rq_wr (n := 20) m2 (by omega) (by decide), rq_b, rq_put, rq_b, rq_c (by decide), m2, nI_1]; rfl
    · unfold M_R_RangeTellerModel_act
      rw [rq_rd (n := 100) rfl hk (by decide), rq_b, e2, rq_rd (n := 100) rfl hk (by decide), rq_b, e3, if_neg (by decide), if_neg (by decide), if_neg (by decide), q1, rq_b2, if_neg (by decide), if_neg (by decide), if_neg (by decide), if_neg (by decide), if_neg (by decide), if_neg (by decide), if_pos (show nI 28 = 28 from rfl), if_neg (show ¬ (20 : Int32) ≤ v1 0 41 by rw [m3]; exact nI_ge (b := 20) (by omega) (by decide)), rq_wr (n := 20) m3 (by omega) (by decide), rq_b]
      unfold B_R_RangeTellerModel_act_269
      rw [rq_put, rq_b, rq_c (by decide), m3, nI_1]
    · refine ⟨⟨by rw [rq_k (by decide), rq_c (by decide)]; exact g1, by rw [rq_k (by decide), rq_c (by decide)]; exact g2, by rw [rq_k (by decide), rq_c (by decide)]; exact g3⟩, ⟨by rw [rq_k (by decide), rq_c (by decide)]; exact g4, by rw [rq_k (by decide), rq_c (by decide)]; exact g5⟩, ⟨by rw [rq_k (by decide), rq_c (by decide)]; exact g6, by rw [rq_k (by decide), rq_c (by decide)]; exact g7, by rw [rq_k (by decide), rq_c (by decide)]; exact g8⟩, fun i hi => by rw [rq_c (by decide), rq_c (by decide), rq_c (by decide), rq_c (by decide)]; exact d i hi, ⟨m' + 1, by omega, rq_s, rq_s, fun j j1 j2 => ?_⟩, ⟨y, y1, by rw [rq_k (by decide), rq_c (by decide)]; exact y2, by rw [rq_k (by decide), rq_c (by decide)]; exact y3, fun j hj => by rw [rq_c (by decide), rq_c (by decide), rq_c (by decide), rq_c (by decide)]; exact y4 j hj, by rw [rq_k (by decide), rq_c (by decide)]; exact y5⟩, by omega, ht⟩
      rw [rq_c (c := 21) (by decide), rq_c (c := 0) (by decide)]
      by_cases w : j = m'
      · subst w; rw [rq_s, rq_s]
      · rw [rq_k w, rq_k w]; exact m4 j (by omega) j2
theorem rn_opr {o : Nat} (h1 : 19 ≤ o) (h2 : o ≤ 26) (H : rn_S D n (m + 1 + 1) c σ τ) (O : rn_O s t q σ τ) (ht : t + 1 < 100000) (hk : k < 100) (e2 : τ 2 k = nI o) (e3 : τ 3 k = nI a) (hy : o = 24 ∨ o = 25 → ¬ τ 21 (10 * D + (m + 1)) = 0) : rn_ok D n c s t σ τ (m + 1) q (M_C_Runner_operate σ (nI o) (nI a)) (M_R_RangeTellerModel_act τ (nI k) (nI q)) := by
  obtain ⟨b1, u1, v1, hb1, p1, q1, H1, A1, B1, x1, y1⟩ := rn_pop H
  obtain ⟨b2, u2, v2, hb2, p2, q2, H2, A2, B2, x2, y2⟩ := rn_pop H1
  have ne : ∀ j : Nat, j < 100 → o ≠ j → ¬ nI o = nI j := fun j hj h e => h ((nI_eq (by omega) (by omega)).mp e)
  have hm := H.1.2.1
  have z0 : o = 24 ∨ o = 25 → b1 ≠ 0 := fun c e => hy c (by rw [y1, e]; rfl)
  obtain ⟨r, hr, r1, r2⟩ := rn_rk h1 h2 hb2 hb1 z0
  obtain ⟨u4, v4, p4, q4, H4, A4, B4⟩ := rn_push H2 (by omega) hr
  refine rn_ok1 O ht (u := u4) (v := v4) ?_ ?_ H4 ((A1.tr A2).tr A4) ((B1.tr B2).tr B4)
  · have er : M_C_Runner_reckon σ (nI o) = some u4 := by
      unfold M_C_Runner_reckon
      rw [p1, rq_b2, p2, rq_b2]
      have e32 : B_C_Runner_reckon_32 (nI o) (nI b1) (nI b2) u2 = some u4 := by
        unfold B_C_Runner_reckon_32
        rw [r1, rq_b, p4]; rfl
      by_cases z : b1 = 0
      · rw [if_pos (show nI b1 = 0 by rw [z]; rfl), if_neg (show ¬ nI o = 24 from ne 24 (by decide) (fun e => z0 (Or.inl e) z)), if_neg (show ¬ nI o = 25 from ne 25 (by decide) (fun e => z0 (Or.inr e) z)), e32]
      · rw [if_neg (nI_ne0 (by omega) (by omega)), e32]
    unfold M_C_Runner_operate
    rw [if_neg (show ¬ nI o = 10 from ne 10 (by decide) (by omega)), if_neg (show ¬ nI o = 11 from ne 11 (by decide) (by omega)), if_neg (show ¬ nI o = 12 from ne 12 (by decide) (by omega)), if_neg (show ¬ nI o = 13 from ne 13 (by decide) (by omega)), if_neg (show ¬ nI o = 14 from ne 14 (by decide) (by omega)), if_neg (show ¬ nI o = 15 from ne 15 (by decide) (by omega)), if_neg (show ¬ nI o = 16 from ne 16 (by decide) (by omega)), if_neg (show ¬ nI o = 17 from ne 17 (by decide) (by omega)), if_neg (show ¬ nI o = 18 from ne 18 (by decide) (by omega)), er, rq_b]
    by_cases c19 : nI o = 19
    · rw [if_pos c19]
    rw [if_neg c19]
    by_cases c20 : nI o = 20
    · rw [if_pos c20]
    rw [if_neg c20]
    by_cases c21 : nI o = 21
    · rw [if_pos c21]
    rw [if_neg c21]
    by_cases c22 : nI o = 22
    · rw [if_pos c22]
    rw [if_neg c22]
    by_cases c23 : nI o = 23
    · rw [if_pos c23]
    rw [if_neg c23]
    by_cases c24 : nI o = 24
    · rw [if_pos c24]
    rw [if_neg c24]
    by_cases c25 : nI o = 25
    · rw [if_pos c25]
    rw [if_neg c25]
    by_cases c26 : nI o = 26
    · rw [if_pos c26]
    rw [if_neg c26]
    rw [if_neg (show ¬ nI o = 27 from ne 27 (by decide) (by omega)), if_neg (show ¬ nI o = 28 from ne 28 (by decide) (by omega))]
  · unfold M_R_RangeTellerModel_act
    rw [rq_rd (n := 100) rfl hk (by decide), rq_b, e2, rq_rd (n := 100) rfl hk (by decide), rq_b, e3, if_neg (show ¬ nI o = 12 from ne 12 (by decide) (by omega)), if_neg (show ¬ nI o = 17 from ne 17 (by decide) (by omega)), if_neg (show ¬ nI o = 27 from ne 27 (by decide) (by omega)), q1, rq_b2, if_neg (show ¬ nI o = 11 from ne 11 (by decide) (by omega)), if_neg (show ¬ nI o = 13 from ne 13 (by decide) (by omega)), if_neg (show ¬ nI o = 14 from ne 14 (by decide) (by omega)), if_neg (show ¬ nI o = 15 from ne 15 (by decide) (by omega)), if_neg (show ¬ nI o = 16 from ne 16 (by decide) (by omega)), if_neg (show ¬ nI o = 18 from ne 18 (by decide) (by omega)), if_neg (show ¬ nI o = 28 from ne 28 (by decide) (by omega)), if_neg (show ¬ nI o ≤ 18 from nI_ge (a := 18) (by omega) (by omega)), q2, rq_b2, r2, rq_b, q4]
    rfl
end RN2
