/-! running: the beginning, and the whole run -/
def rn_F (a i c j : Nat) : Prop := ¬ (c = a ∧ i ≤ j)
section RN9
variable {N F lim p : Nat} {op ar ow en el pa lo re fs hs : Nat → Nat} {L : Nat → Prop} {σ τ : rt_St}
theorem rn_fillC : ∀ (d i : Nat) (σ : rt_St) (m : Nat), i + d = 16 → d + 1 ≤ m → ∃ u, B_C_Arrays_fill_23_5 m 0 (nI i) 16 σ = some u ∧ rq_A (rn_F 23 i) σ u ∧ ∀ j, i ≤ j → j < 16 → u 23 j = 0 := by
  intro d
  induction d with
  | zero =>
    intro i σ m hd hm
    obtain ⟨m, rfl⟩ : ∃ q, m = q + 1 := ⟨m - 1, by omega⟩
    refine ⟨σ, ?_, rq_A.rf, fun j j1 j2 => by omega⟩
    obtain rfl : i = 16 := by omega
    rw [B_C_Arrays_fill_23_5, if_pos (show (16 : Int32) ≤ nI 16 from Int32.le_refl _)]
  | succ d ih =>
    intro i σ m hd hm
    obtain ⟨m, rfl⟩ : ∃ q, m = q + 1 := ⟨m - 1, by omega⟩
    obtain ⟨u, u1, u2, u3⟩ := ih (i + 1) (rt_up σ 23 i 0) m (by omega) (by omega)
    refine ⟨u, ?_, (rq_A.rf.up (by unfold rn_F; omega)).tr (u2.mono (fun c j q => by unfold rn_F at q; unfold rn_F; omega)), fun j j1 j2 => ?_⟩
    · rw [B_C_Arrays_fill_23_5, if_neg (show ¬ (16 : Int32) ≤ nI i from nI_ge (b := 16) (by omega) (by decide)), rq_wr (n := 16) rfl (by omega) (by decide), rq_b, nI_1]
      exact u1
    · by_cases z : j = i
      · subst z
        rw [u2 23 _ (by unfold rn_F; omega), rq_s]
      · exact u3 j (by omega) j2
theorem rn_fillR {l1 l2 l4 : Int32} : ∀ (d i : Nat) (σ : rt_St) (m : Nat), i + d = 16 → d + 1 ≤ m → ∃ u, B_R_RangeTellerModel_run_37 m l1 l2 l4 (nI i) σ = B_R_RangeTellerModel_run_61 FU l1 l2 l4 0 u ∧ rq_A (rn_F 24 i) σ u ∧ ∀ j, i ≤ j → j < 16 → u 24 j = 0 := by
  intro d
  induction d with
  | zero =>
    intro i σ m hd hm
    obtain ⟨m, rfl⟩ : ∃ q, m = q + 1 := ⟨m - 1, by omega⟩
    refine ⟨σ, ?_, rq_A.rf, fun j j1 j2 => by omega⟩
    obtain rfl : i = 16 := by omega
    rw [B_R_RangeTellerModel_run_37, if_pos (show (16 : Int32) ≤ nI 16 from Int32.le_refl _)]
  | succ d ih =>
    intro i σ m hd hm
    obtain ⟨m, rfl⟩ : ∃ q, m = q + 1 := ⟨m - 1, by omega⟩
    obtain ⟨u, u1, u2, u3⟩ := ih (i + 1) (rt_up σ 24 i 0) m (by omega) (by omega)
    refine ⟨u, ?_, (rq_A.rf.up (by unfold rn_F; omega)).tr (u2.mono (fun c j q => by unfold rn_F at q; unfold rn_F; omega)), fun j j1 j2 => ?_⟩
    · rw [B_R_RangeTellerModel_run_37, if_neg (show ¬ (16 : Int32) ≤ nI i from nI_ge (b := 16) (by omega) (by decide)), rq_wr (n := 16) rfl (by omega) (by decide), rq_b, nI_1]
      exact u1
    · by_cases z : j = i
      · subst z
        rw [u2 24 _ (by unfold rn_F; omega), rq_s]
      · exact u3 j (by omega) j2
theorem rn_fillV {l1 l2 l4 : Int32} : ∀ (d i : Nat) (σ : rt_St) (m : Nat), i + d = 4 → d + 1 ≤ m → ∃ u, B_R_RangeTellerModel_run_61 m l1 l2 l4 (nI i) σ = B_R_RangeTellerModel_run_61 1 l1 l2 l4 (nI 4) u ∧ rq_A (rn_F 22 i) σ u ∧ ∀ j, i ≤ j → j < 4 → u 22 j = 0 := by
  intro d
  induction d with
  | zero =>
    intro i σ m hd hm
    obtain ⟨m, rfl⟩ : ∃ q, m = q + 1 := ⟨m - 1, by omega⟩
    refine ⟨σ, ?_, rq_A.rf, fun j j1 j2 => by omega⟩
    obtain rfl : i = 4 := by omega
    rw [B_R_RangeTellerModel_run_61, B_R_RangeTellerModel_run_61, if_pos (show (4 : Int32) ≤ nI 4 from Int32.le_refl _), if_pos (show (4 : Int32) ≤ nI 4 from Int32.le_refl _)]
  | succ d ih =>
    intro i σ m hd hm
    obtain ⟨m, rfl⟩ : ∃ q, m = q + 1 := ⟨m - 1, by omega⟩
    obtain ⟨u, u1, u2, u3⟩ := ih (i + 1) (rt_up σ 22 i 0) m (by omega) (by omega)
    refine ⟨u, ?_, (rq_A.rf.up (by unfold rn_F; omega)).tr (u2.mono (fun c j q => by unfold rn_F at q; unfold rn_F; omega)), fun j j1 j2 => ?_⟩
    · rw [B_R_RangeTellerModel_run_61, if_neg (show ¬ (4 : Int32) ≤ nI i from nI_ge (b := 4) (by omega) (by decide)), rq_wr (n := 32) rfl (by omega) (by decide), rq_b, nI_1]
      exact u1
    · by_cases z : j = i
      · subst z
        rw [u2 22 _ (by unfold rn_F; omega), rq_s]
      · exact u3 j (by omega) j2
/-- the reference, to its loop -/
theorem rn_beginR {x y : Int32} {bx bY : Nat} (hM : rn_M N F op ar ow en el pa lo re fs hs L σ τ) (hx : x &&& 63 = nI bx) (hy : y &&& 63 = nI bY) (hbx : bx < 64) (hby : bY < 64) (l4 : Int32) : ∃ v, B_R_RangeTellerModel_run_32 x y l4 τ = B_R_RangeTellerModel_run_172 FU l4 0 v ∧ rq_A rn_WR τ (rt_up v 0 27 (τ 0 27)) ∧ v 0 27 = τ 0 27 ∧ (∀ j, v 19 j = τ 19 j) ∧ v 0 30 = nI 0 ∧ v 23 0 = nI 0 ∧ v 0 36 = nI (fs 0) ∧ v 0 37 = nI 0 ∧ v 0 41 = nI 0 ∧ v 0 39 = -3 ∧ v 0 40 = -3 ∧ v 0 38 = -1 ∧ (∀ j, j < 16 → v 24 j = 0) ∧ (∀ j, j < 4 → v 22 j = nI (if j < pa 0 then (if j = 0 then bx else bY) else 0)) := by
  obtain ⟨hT, hTF, hW, h6, hN, hF1, hF3⟩ := hM
  obtain ⟨-, -, -, -, t14, t11, -, -, p2, -, -⟩ := hTF 0 (by omega)
  obtain ⟨v1, a1, a2, a3⟩ := rn_fillR (l1 := x) (l2 := y) (l4 := l4) 16 0 τ FU rfl (by decide)
  obtain ⟨v2, b1, b2, b3⟩ := rn_fillV (l1 := x) (l2 := y) (l4 := l4) 4 0 v1 FU rfl (by decide)
  have w11 : v2 11 0 = nI (pa 0) := by rw [b2 11 0 (by unfold rn_F; omega), a2 11 0 (by unfold rn_F; omega)]; exact t11
  have w14 : v2 14 0 = nI (fs 0) := by rw [b2 14 0 (by unfold rn_F; omega), a2 14 0 (by unfold rn_F; omega)]; exact t14
  -- the parameters
  obtain ⟨v3, c1, c2, c3⟩ : ∃ v3, B_R_RangeTellerModel_run_61 1 x y l4 (nI 4) v2 = B_R_RangeTellerModel_run_120 l4 v3 ∧ rq_A (rn_F 22 0) v2 v3 ∧ (∀ j, j < 4 → v3 22 j = nI (if j < pa 0 then (if j = 0 then bx else bY) else 0)) := by
    have z4 : ∀ j, j < 4 → v2 22 j = 0 := fun j hj => b3 j (by omega) hj
    rw [B_R_RangeTellerModel_run_61, if_pos (show (4 : Int32) ≤ nI 4 from Int32.le_refl _), rq_rd (n := 3) (i := 0) (x := 0) rfl (by decide) (by decide), rq_b, w11]
    by_cases q0 : pa 0 = 0
    · rw [if_pos (show nI (pa 0) ≤ 0 by rw [q0]; decide)]
      unfold B_R_RangeTellerModel_run_100
      rw [rq_rd (n := 3) (i := 0) (x := 0) rfl (by decide) (by decide), rq_b, w11, if_pos (show nI (pa 0) ≤ 1 by rw [q0]; decide)]
      exact ⟨v2, rfl, rq_A.rf, fun j hj => by rw [z4 j hj, if_neg (by omega)]; rfl⟩
    · have w11' : (rt_up v2 22 0 (nI bx)) 11 0 = nI (pa 0) := by rw [rq_c (by decide)]; exact w11
      rw [if_neg (nI_nle (by omega) (by omega)), hx, rq_wr (n := 32) (i := 0) (x := 0) rfl (by decide) (by decide), rq_b]
      unfold B_R_RangeTellerModel_run_100
      rw [rq_rd (n := 3) (i := 0) (x := 0) rfl (by decide) (by decide), rq_b, w11']
      by_cases q1 : pa 0 = 1
      · rw [if_pos (show nI (pa 0) ≤ 1 by rw [q1]; decide)]
        refine ⟨_, rfl, rq_A.rf.up (by unfold rn_F; omega), fun j hj => ?_⟩
        by_cases j0 : j = 0
        · subst j0; rw [rq_s, if_pos (by omega), if_pos rfl]
        · rw [rq_k j0, z4 j hj, if_neg (by omega)]; rfl
      · rw [if_neg (show ¬ nI (pa 0) ≤ 1 from nI_ge (a := 1) (by omega) (by omega)), hy, rq_wr (n := 32) (i := 1) (x := 1) rfl (by decide) (by decide), rq_b]
        refine ⟨_, rfl, (rq_A.rf.up (by unfold rn_F; omega)).up (by unfold rn_F; omega), fun j hj => ?_⟩
        by_cases j1 : j = 1
        · subst j1; rw [rq_s, if_pos (by omega), if_neg (by decide)]
        · by_cases j0 : j = 0
          · subst j0; rw [rq_k j1, rq_s, if_pos (by omega), if_pos rfl]
          · rw [rq_k j1, rq_k j0, z4 j hj, if_neg (by omega)]; rfl
  have z14 : (rt_up (rt_up v3 0 30 0) 23 0 0) 14 0 = nI (fs 0) := by rw [rq_c (by decide), rq_c (by decide), c2 14 0 (by unfold rn_F; omega)]; exact w14
  have A : rq_A rn_WR τ (rt_up v3 0 27 (τ 0 27)) := fun c j h => by
    rw [rq_if, if_neg (by unfold rn_WR at h; omega), c2 c j (by unfold rn_WR at h; unfold rn_F; omega), b2 c j (by unfold rn_WR at h; unfold rn_F; omega), a2 c j (by unfold rn_WR at h; unfold rn_F; omega)]
  have v27 : v3 0 27 = τ 0 27 := by rw [c2 0 27 (by unfold rn_F; omega), b2 0 27 (by unfold rn_F; omega), a2 0 27 (by unfold rn_F; omega)]
  refine ⟨rt_up (rt_up (rt_up (rt_up (rt_up (rt_up (rt_up (rt_up v3 0 30 0) 23 0 0) 0 36 (nI (fs 0))) 0 37 0) 0 41 0) 0 39 (-3)) 0 40 (-3)) 0 38 (-1), ?_, fun c j h => ?_, ?_, fun j => ?_, ?_, ?_, ?_, ?_, ?_, ?_, ?_, rq_s, fun j hj => ?_, fun j hj => ?_⟩
  · unfold B_R_RangeTellerModel_run_32
    refine a1.trans (b1.trans (c1.trans ?_))
    unfold B_R_RangeTellerModel_run_120
    rw [rq_put, rq_b, rq_wr (n := 8) (i := 0) (x := 0) rfl (by decide) (by decide), rq_b, rq_rd (n := 3) (i := 0) (x := 0) rfl (by decide) (by decide), rq_b, z14, rq_put, rq_b, rq_put, rq_b, rq_put, rq_b, rq_put, rq_b, rq_put, rq_b, rq_put, rq_b]
  · have h2 := A c j h
    rw [rq_if, if_neg (by unfold rn_WR at h; omega)] at h2
    rw [rq_if, if_neg (by unfold rn_WR at h; omega), rq_if, if_neg (by unfold rn_WR at h; omega), rq_if, if_neg (by unfold rn_WR at h; omega), rq_if, if_neg (by unfold rn_WR at h; omega), rq_if, if_neg (by unfold rn_WR at h; omega), rq_if, if_neg (by unfold rn_WR at h; omega), rq_if, if_neg (by unfold rn_WR at h; omega), rq_if, if_neg (by unfold rn_WR at h; omega), rq_if, if_neg (by unfold rn_WR at h; omega)]
    exact h2
  · simp [rq_if, v27]
  · simp [rq_if]
    rw [c2 19 j (by unfold rn_F; omega), b2 19 j (by unfold rn_F; omega), a2 19 j (by unfold rn_F; omega)]
  · simp [rq_if]; rfl
  · simp [rq_if]; rfl
  · simp [rq_if]
  · simp [rq_if]; rfl
  · simp [rq_if]; rfl
  · simp [rq_if]
  · simp [rq_if]
  · simp [rq_if]
    rw [c2 24 j (by unfold rn_F; omega), b2 24 j (by unfold rn_F; omega)]; exact a3 j (by omega) hj
  · have e := c3 j hj
    simpa [rq_if] using e
/-- the class, to its loop -/
theorem rn_beginC {bx bY : Nat} (hM : rn_M N F op ar ow en el pa lo re fs hs L σ τ) (hbx : bx < 64) (hby : bY < 64) : ∃ u, M_C_Runner_begin σ (nI bx) (nI bY) = some u ∧ rq_A rn_WC σ u ∧ u 21 2 = σ 21 2 ∧ (∀ j, u 22 j = σ 22 j) ∧ u 21 7 = 1 ∧ u 21 8 = 6 ∧ u 21 10 = nI 0 ∧ u 21 11 = -3 ∧ u 21 6 = nI 0 ∧ u 21 3 = nI 0 ∧ u 21 16 = nI 0 ∧ u 21 17 = nI 0 ∧ u 27 0 = nI 0 ∧ u 21 9 = nI (fs 0) ∧ (∀ j, j < 16 → u 23 j = 0) ∧ (∀ j, j < 4 → u 26 j = nI (if j < pa 0 then (if j = 0 then bx else bY) else 0)) := by
  obtain ⟨hT, hTF, hW, h6, hN, hF1, hF3⟩ := hM
  obtain ⟨s10, s11, -, -, -, -, -, -, p2, -, -⟩ := hTF 0 (by omega)
  obtain ⟨u1, a1, a2, a3⟩ := rn_fillC 16 0 σ FU rfl (by decide)
  have w11 : u1 11 0 = nI (pa 0) := by rw [a2 11 0 (by unfold rn_F; omega)]; exact s11
  have w10 : u1 10 0 = nI (fs 0) := by rw [a2 10 0 (by unfold rn_F; omega)]; exact s10
  obtain ⟨B, hB⟩ : ∃ B, B = rt_up (rt_up (rt_up (rt_up (rt_up (rt_up (rt_up (rt_up (rt_up (rt_up u1 21 7 1) 21 8 6) 21 10 0) 21 11 (-3)) 21 6 0) 21 3 0) 25 0 (nI bx)) 25 1 (nI bY)) 21 17 (nI (pa 0))) 21 16 0 := ⟨_, rfl⟩
  have B11 : B 11 0 = nI (pa 0) := by rw [hB]; simp [rq_if, w11]
  have B10 : B 10 0 = nI (fs 0) := by rw [hB]; simp [rq_if, w10]
  have B17 : B 21 17 = nI (pa 0) := by rw [hB]; simp [rq_if]
  have B16 : B 21 16 = 0 := by rw [hB]; simp [rq_if]
  obtain ⟨u, e1, e2, e3, e4⟩ := rn_entC (D := 0) (f := 0) (p := pa 0) (H0 := 0) (s0 := fs 0) (by decide) (by decide) (by omega) (by omega) 4 0 (rt_up (rt_up B 21 17 (nI 0)) 27 0 (nI 0)) FU rfl (by decide) (by rw [rq_c (by decide), rq_k (by decide)]; exact B16) (by rw [rq_c (by decide), rq_s]) (by rw [rq_c (by decide), rq_c (by decide)]; exact B10)
  have E : ∀ c j, ¬ (c = 26 ∨ (c = 21 ∧ j = 9)) → u c j = rt_up (rt_up B 21 17 (nI 0)) 27 0 (nI 0) c j := fun c j h => e2 c j (by unfold rn_E1; omega)
  refine ⟨u, ?_, fun c j h => ?_, ?_, fun j => ?_, ?_, ?_, ?_, ?_, ?_, ?_, ?_, ?_, ?_, e3, fun j hj => ?_, fun j hj => ?_⟩
  · unfold M_C_Runner_begin M_C_Arrays_fill_23
    have a1' : B_C_Arrays_fill_23_5 FU 0 0 16 σ = some u1 := a1
    rw [a1', rq_b, rq_put, rq_b, rq_put, rq_b, rq_put, rq_b, rq_put, rq_b, rq_put, rq_b, rq_put, rq_b, rq_wr (n := 70) (i := 0) (x := 0) rfl (by decide) (by decide), rq_b, rq_wr (n := 70) (i := 1) (x := 1) rfl (by decide) (by decide), rq_b, rq_rd (n := 3) (i := 0) (x := 0) rfl (by decide) (by decide), rq_b]
    have z : (rt_up (rt_up (rt_up (rt_up (rt_up (rt_up (rt_up (rt_up u1 21 7 1) 21 8 6) 21 10 0) 21 11 (-3)) 21 6 0) 21 3 0) 25 0 (nI bx)) 25 1 (nI bY)) 11 0 = nI (pa 0) := by simp [rq_if, w11]
    rw [z, rq_put, rq_b, rq_put, rq_b, ← hB]
    unfold M_C_Runner_enter
    have i17 : nI (pa 0) - nI (pa 0) = nI 0 := by rw [pk_sub (Nat.le_refl _), Nat.sub_self]
    rw [rq_rd (n := 3) (i := 0) (x := 0) rfl (by decide) (by decide), rq_b, B11, B17, i17, rq_put, rq_b, rq_wr (n := 7) (i := 0) (by rw [rq_k (by decide), B16]; rfl) (by decide) (by decide), rq_b, rq_s]
    have e1' : B_C_Runner_enter_35 FU 0 (nI (pa 0)) 0 (rt_up (rt_up B 21 17 (nI 0)) 27 0 (nI 0)) = some u := e1
    rw [e1']; rfl
  · rw [E c j (by unfold rn_WC at h; omega), rq_if, if_neg (by unfold rn_WC at h; omega), rq_if, if_neg (by unfold rn_WC at h; omega), hB]
    rw [rq_if, if_neg (by unfold rn_WC at h; omega), rq_if, if_neg (by unfold rn_WC at h; omega), rq_if, if_neg (by unfold rn_WC at h; omega), rq_if, if_neg (by unfold rn_WC at h; omega), rq_if, if_neg (by unfold rn_WC at h; omega), rq_if, if_neg (by unfold rn_WC at h; omega), rq_if, if_neg (by unfold rn_WC at h; omega), rq_if, if_neg (by unfold rn_WC at h; omega), rq_if, if_neg (by unfold rn_WC at h; omega), rq_if, if_neg (by unfold rn_WC at h; omega), a2 c j (by unfold rn_WC at h; unfold rn_F; omega)]
  · rw [E 21 2 (by omega), hB]; simp [rq_if]; exact a2 21 2 (by unfold rn_F; omega)
  · rw [E 22 j (by omega), hB]; simp [rq_if]; exact a2 22 j (by unfold rn_F; omega)
  · rw [E 21 7 (by omega), hB]; simp [rq_if]
  · rw [E 21 8 (by omega), hB]; simp [rq_if]
  · rw [E 21 10 (by omega), hB]; simp [rq_if]; rfl
  · rw [E 21 11 (by omega), hB]; simp [rq_if]
  · rw [E 21 6 (by omega), hB]; simp [rq_if]; rfl
  · rw [E 21 3 (by omega), hB]; simp [rq_if]; rfl
  · rw [E 21 16 (by omega), hB]; simp [rq_if]; rfl
  · rw [E 21 17 (by omega)]; simp [rq_if]
  · rw [E 27 0 (by omega)]; simp [rq_if]
  · rw [E 23 j (by omega), hB]; simp [rq_if]; exact a3 j (by omega) hj
  · have e := e4 j (by omega) hj
    rw [Nat.mul_zero, Nat.zero_add] at e
    rw [e]
    by_cases q : j < pa 0
    · rw [if_pos q, if_pos q, hB]
      by_cases j0 : j = 0
      · subst j0; simp [rq_if]
      · have j1 : j = 1 := by omega
        subst j1; simp [rq_if]
    · rw [if_neg q, if_neg q]; rfl
/-- a run, from its call to its answer -/
theorem rn_run (hM : rn_M N F op ar ow en el pa lo re fs hs L σ τ) (hG : rq_G2 σ τ) (hl : lim ≤ 2000) (x y : Int32) : ∃ r u v, M_C_Runner_runWith σ x y (nI lim) = some (r, u) ∧ B_R_RangeTellerModel_run_32 x y (nI lim) τ = some (r, v) ∧ rq_A rn_WC σ u ∧ rq_A rn_WR τ v ∧ rq_G5 u v ∧ u 21 2 = 0 ∧ v 0 27 = 0 := by
  obtain ⟨bx, hbx, ex⟩ := pk_andE x (m := 63) 6 (by decide)
  obtain ⟨bY, hby, ey⟩ := pk_andE y (m := 63) 6 (by decide)
  obtain ⟨u, u1, u2, u3, u4, u5, u6, u7, u8, u9, u10, u11, u12, u13, u14, u15, u16⟩ := rn_beginC (bx := bx) (bY := bY) hM hbx hby
  obtain ⟨v, v1, v2, v3, v4, v5, v6, v7, v8, v9, v10, v11, v12, v13, v14⟩ := rn_beginR hM ex ey hbx hby (nI lim)
  obtain ⟨z, z1, z2, z3, z4⟩ := hG
  have V : rq_A rn_WR τ v := fun c j h => by
    have q := v2 c j h
    rw [rq_if, if_neg (by unfold rn_WR at h; omega)] at q
    exact q
  have M' : rn_M N F op ar ow en el pa lo re fs hs L u v := hM.kp (u2.mono (fun c j h => by unfold rn_TC at h; unfold rn_WC; omega)) (V.mono (fun c j h => by unfold rn_TR at h; unfold rn_WR; omega))
  obtain ⟨y1, y2, y3, y4⟩ := hM.2.2.1.1 0 (by have := hM.2.2.2.2.2.1; omega)
  have var : ∀ j, j < 4 → rn_e (u 26 j) (v 22 j) := fun j hj => by
    rw [u16 j hj, v14 j hj]
    refine ⟨_, ?_, rfl, rfl⟩
    by_cases q1 : j < pa 0
    · rw [if_pos q1]
      by_cases q2 : j = 0
      · rw [if_pos q2]; exact hbx
      · rw [if_neg q2]; exact hby
    · rw [if_neg q1]; decide
  have G : rn_go N op ar ow pa hs L 0 0 u v := by
    refine ⟨0, fun _ => 0, fun _ => 0, fs 0, ⟨y1, y2, fun d hd => by omega, by rw [y4]; rfl⟩, ?_, ?_, u14, v7⟩
    · rw [y3]
      refine ⟨⟨by decide, by decide, fun d hd => by omega⟩, ⟨u11, v5⟩, ⟨u12, v6⟩, fun d hd => ?_, fun d hd => by omega, fun d d1 d2 => by omega, fun i hi => by omega, fun d i hd => by omega, fun d i hd hi => ?_⟩
      · rw [show d = 0 by omega]; exact u13
      · rw [show d = 0 by omega, Nat.mul_zero, Nat.zero_add]; exact var i hi
    · refine ⟨⟨u5, u6, v12⟩, ⟨u7, v8⟩, ⟨u8, v10, v11⟩, fun i hi => ?_, ⟨0, by decide, u9, v9, fun j hj => by omega⟩, ⟨z, z1, ?_, ?_, fun j hj => ?_, ?_⟩, by decide, by decide⟩
      · rw [u15 i hi, v13 i hi]; exact ⟨0, by decide, rfl, rfl⟩
      · rw [u3]; exact z2
      · rw [v3]; exact z3
      · rw [u4, v4]; exact z4 j hj
      · rw [u10]
        by_cases q : 0 < z
        · rw [if_pos q]
        · rw [if_neg q, show z = 0 by omega]
  obtain ⟨r, u', v', q1, q2, q3, q4, q5⟩ := rn_loop hl lim 0 0 u v FU FU (by omega) (by show lim + 2 ≤ 2000000; omega) (by show lim + 3 ≤ 2000000; omega) M' G
  refine ⟨r, u', v', ?_, v1.trans q2, u2.tr q3, V.tr q4, q5⟩
  unfold M_C_Runner_runWith
  rw [rn_fm, rq_b, rn_fm, rq_b, ex, ey, u1, rq_b]
  exact q1
end RN9
