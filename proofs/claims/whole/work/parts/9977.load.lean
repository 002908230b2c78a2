/-! what has been loaded; loading and running, both -/
def lk_C (N : Nat) (hs : Nat → Nat) (A : ft_S) (σ : rt_St) : Prop := (∀ x, x < 1000 → σ 36 x = ft_c (A 0 x)) ∧ (∀ x, x < 400 → σ 37 x = ft_c (A 1 x)) ∧ (∀ x, x < 16 → σ 32 x = ft_c (A 2 x)) ∧ (∀ f, f < 3 → σ 33 f = ft_c (A 3 f) ∧ σ 34 f = nI (A 5 f).2.1) ∧ (∀ k, k < 100 → σ 30 k = nI (A 4 k).2.1) ∧ (∀ k, k < N → (A 4 k).2.1 = 1 → σ 31 k = nI (hs k))
def lk_R (N : Nat) (ow pa lo hs : Nat → Nat) (A : ft_S) (τ : rt_St) : Prop := (∀ k, k < 100 → τ 26 k = nI (A 4 k).2.1) ∧ (∀ k, k < N → (A 4 k).2.1 = 1 → (∀ i, i < hs k → fr_3 28 29 30 (10 * k + i) (A 0 (10 * k + i)) τ) ∧ (∀ i, i < 4 → fr_3 31 32 33 (4 * k + i) (if i < pa (ow k) + lo (ow k) then A 1 (4 * k + i) else (0, 0, 0)) τ)) ∧ (∀ x, x < 16 → fr_3 34 35 36 x (A 2 x) τ) ∧ (∀ f, f < 3 → τ 40 f = nI (A 5 f).2.1 ∧ (A 3 f = ft_bot → τ 37 f = 1 ∧ τ 38 f = 0 ∧ τ 39 f = 0) ∧ (A 3 f ≠ ft_bot → fr_3 37 38 39 f (A 3 f) τ))
def lk_D (N F : Nat) (op ar ow en el pa lo re fs hs : Nat → Nat) (L : Nat → Prop) (A : ft_S) (σ τ : rt_St) : Prop := rn_M N F op ar ow en el pa lo re fs hs L σ τ ∧ σ 1 12 = nI N ∧ σ 1 13 = nI F ∧ τ 0 16 = nI F ∧ ft_V F N ow pa lo re fs hs L A ∧ lk_C N hs A σ ∧ lk_R N ow pa lo hs A τ ∧ (∀ f, ¬ (re f = 1 ∧ (A 5 f).2.1 = 1) → A 3 f = ft_bot)
def lk_Ld (σ τ : rt_St) : Prop := ∃ (N F : Nat) (op ar ow en el pa lo re fs hs : Nat → Nat) (L : Nat → Prop) (A : ft_S), lk_D N F op ar ow en el pa lo re fs hs L A σ τ
section LDS
variable {N F : Nat} {op ar ow en el pa lo re fs hs : Nat → Nat} {L : Nat → Prop} {A : ft_S} {σ τ u v : rt_St}
theorem lk_keeps : rq_Keeps lk_Ld := fun σ τ u v H hu hv => by
  obtain ⟨N, F, op, ar, ow, en, el, pa, lo, re, fs, hs, L, A, a1, a2, a3, a4, a5, ⟨c1, c2, c3, c4, c5, c6⟩, ⟨d1, d2, d3, d4⟩, a8⟩ := H
  have fu : ∀ c k, 29 ≤ c → u c k = σ c k := fun c k e => hu c k (by unfold rq_LC; omega)
  have fv : ∀ c k, 26 ≤ c → c ≤ 40 → v c k = τ c k := fun c k e1 e2 => hv c k (by unfold rq_LR; omega)
  have n3 : ∀ a b c x r, 26 ≤ a → a ≤ 40 → 26 ≤ b → b ≤ 40 → 26 ≤ c → c ≤ 40 → fr_3 a b c x r τ → fr_3 a b c x r v := fun a b c x r a1 a2 b1 b2 d1 d2 q => q.ne (fv _ _ a1 a2) (fv _ _ b1 b2) (fv _ _ d1 d2)
  refine ⟨N, F, op, ar, ow, en, el, pa, lo, re, fs, hs, L, A, a1.kp (fun c k e => hu c k (by unfold rn_TC at e; unfold rq_LC; omega)) (fun c k e => hv c k (by unfold rn_TR at e; unfold rq_LR; omega)), by rw [hu 1 12 (by unfold rq_LC; omega)]; exact a2, by rw [hu 1 13 (by unfold rq_LC; omega)]; exact a3, by rw [hv 0 16 (by unfold rq_LR; omega)]; exact a4, a5, ⟨fun x hx => by rw [fu 36 x (by decide)]; exact c1 x hx, fun x hx => by rw [fu 37 x (by decide)]; exact c2 x hx, fun x hx => by rw [fu 32 x (by decide)]; exact c3 x hx, fun f hf => by rw [fu 33 f (by decide), fu 34 f (by decide)]; exact c4 f hf, fun k hk => by rw [fu 30 k (by decide)]; exact c5 k hk, fun k hk hr => by rw [fu 31 k (by decide)]; exact c6 k hk hr⟩, ⟨fun k hk => by rw [fv 26 k (by decide) (by decide)]; exact d1 k hk, fun k hk hr => ⟨fun i hi => ?_, fun i hi => ?_⟩, fun x hx => ?_, fun f hf => ⟨by rw [fv 40 f (by decide) (by decide)]; exact (d4 f hf).1, fun e => by rw [fv 37 f (by decide) (by decide), fv 38 f (by decide) (by decide), fv 39 f (by decide) (by decide)]; exact (d4 f hf).2.1 e, fun e => ?_⟩⟩, a8⟩
  · exact n3 _ _ _ _ _ (by decide) (by decide) (by decide) (by decide) (by decide) (by decide) ((d2 k hk hr).1 i hi)
  · exact n3 _ _ _ _ _ (by decide) (by decide) (by decide) (by decide) (by decide) (by decide) ((d2 k hk hr).2 i hi)
  · exact n3 _ _ _ _ _ (by decide) (by decide) (by decide) (by decide) (by decide) (by decide) (d3 x hx)
  · exact n3 _ _ _ _ _ (by decide) (by decide) (by decide) (by decide) (by decide) (by decide) ((d4 f hf).2.2 e)
theorem sim_load (G : rq_Rel lk_Ld σ τ) : rt_c0 (rq_Rel lk_Ld) M_C_RangeTeller_load M_R_RangeTellerModel_load σ τ := by
  obtain ⟨G1, G2, -, -, -⟩ := G
  obtain ⟨σ2, hσ2⟩ : ∃ w, w = rt_up (rt_up σ 0 5 0) 21 7 0 := ⟨_, rfl⟩
  obtain ⟨τ3, hτ3⟩ : ∃ w, w = rt_up (rt_up (rt_up τ 0 29 0) 0 4 0) 0 5 (-3) := ⟨_, rfl⟩
  have fσ : ∀ c k, ¬ (c = 0 ∧ k = 5) → ¬ (c = 21 ∧ k = 7) → σ2 c k = σ c k := fun c k e1 e2 => by rw [hσ2, rq_if, if_neg e2, rq_if, if_neg e1]
  have fτ : ∀ c k, ¬ (c = 0 ∧ (k = 29 ∨ k = 4 ∨ k = 5)) → τ3 c k = τ c k := fun c k e => by rw [hτ3, rq_if, if_neg (by omega), rq_if, if_neg (by omega), rq_if, if_neg (by omega)]
  have s217 : σ2 21 7 = 0 := by rw [hσ2, rq_s]
  have s05 : σ2 0 5 = 0 := by rw [hσ2, rq_c (by decide), rq_s]
  have t29 : τ3 0 29 = 0 := by rw [hτ3, rq_k (by decide), rq_k (by decide), rq_s]
  have t4 : τ3 0 4 = 0 := by rw [hτ3, rq_k (by decide), rq_s]
  have t5 : τ3 0 5 = -3 := by rw [hτ3, rq_s]
  have eC : M_C_RangeTeller_load σ = rt_b2 (M_C_Reader_readModule σ2) fun v4 σ3 => (rt_put σ3 0 6 v4).bind fun σ5 => if (σ5 0 6) = (-3) then rt_b2 (M_C_Checker_firstInvalid σ5) fun v7 σ6 => (rt_put σ6 0 6 v7).bind fun σ8 => if (σ8 0 6) = (-3) then (M_C_Foreteller_foretell σ8).bind fun σ9 => (rt_put σ9 0 5 1).bind fun σ10 => some ((σ10 1 12), σ10) else some ((-2), σ8) else some ((-1), σ5) := by
    rw [hσ2]; rfl
  have eR : M_R_RangeTellerModel_load τ = rt_b2 (M_R_RangeTellerModel_read τ3) fun v5 σ4 => if v5 = 0 then (rt_put σ4 0 5 (σ4 0 2)).bind fun σ11 => B_R_RangeTellerModel_load_33 v5 σ11 else B_R_RangeTellerModel_load_33 v5 σ4 := by
    rw [hτ3]; rfl
  have H1 : rq_G1 σ2 τ3 := G1.kp (fσ 14 3 (by omega) (by omega)) (fτ 0 0 (by omega)) (fun j => fσ 15 j (by omega) (by omega)) (fun j => fτ 1 j (by omega))
  have H2 : rq_G2 σ2 τ3 := G2.kp (fσ 21 2 (by omega) (by omega)) (fτ 0 27 (by omega)) (fun j => fσ 22 j (by omega) (by omega)) (fun j => fτ 19 j (by omega))
  -- whoever ends with nothing loaded
  have fin : ∀ (u v : rt_St), (∀ c k, (c = 0 ∧ k = 5) ∨ (c = 21 ∧ (k = 2 ∨ k = 7)) ∨ c = 22 → u c k = σ2 c k) → (∀ c k, (c = 0 ∧ (k = 27 ∨ k = 29 ∨ k = 4)) ∨ c = 19 → v c k = τ3 c k) → u 14 3 = 0 → v 0 0 = 0 → u 0 6 = v 0 5 → rq_Rel lk_Ld u v := fun u v hu hv g1 g2 g3 => ⟨⟨0, by decide, g1, g2, fun j hj => absurd hj (Nat.not_lt_zero _)⟩, H2.kp (hu 21 2 (by omega)) (hv 0 27 (by omega)) (fun j => hu 22 j (by omega)) (fun j => hv 19 j (by omega)), g3, Or.inl ⟨by rw [hu 0 5 (by omega)]; exact s05, by rw [hv 0 4 (by omega)]; exact t4⟩, Or.inl ⟨by rw [hu 21 7 (by omega)]; exact s217, by rw [hv 0 29 (by omega)]; exact t29⟩⟩
  rcases rq_module H1 with ⟨j, σ', τ', b1, b2, b3, b4, b5, b6, b7⟩ | ⟨N, F, op, ar, ow, en, el, pa, lo, re, fs, σ', τ', hN, hF1, hF3, b1, b2, b3, b4, b5, T, n12, n6, n13, n16, TF, Mo⟩
  · rw [b2, rq_b2, rq_put, rq_b, rq_s, if_neg (rq_n3 (by omega))] at eC
    rw [b3, rq_b2, if_pos rfl, rq_put, rq_b, b4] at eR
    unfold B_R_RangeTellerModel_load_33 at eR
    rw [rq_put, rq_b, if_pos rfl] at eR
    refine ⟨_, _, _, eC, eR, fin _ _ (fun c k e => ?_) (fun c k e => ?_) ?_ ?_ ?_⟩
    · rw [rq_if, if_neg (by omega)]; exact b6 c k (by unfold rq_NC; omega)
    · rw [rq_if, if_neg (by omega), rq_if, if_neg (by omega)]; exact b7 c k (by unfold rq_MR; omega)
    · rw [rq_c (by decide)]; exact b5
    · exact rq_s
    · rw [rq_s, rq_k (by decide), rq_s]
  · rw [b1, rq_b2, rq_put, rq_b, rq_s, if_pos rfl] at eC
    rw [b2, rq_b2, if_neg (by decide)] at eR
    unfold B_R_RangeTellerModel_load_33 at eR
    rw [rq_put, rq_b, if_neg (by decide)] at eR
    have cG0 : ck_G N F op ar ow en el pa lo re fs σ' τ' := ⟨T, TF, n12, n6, n13, n16⟩
    have cG : ck_G N F op ar ow en el pa lo re fs (rt_up σ' 0 6 (-3)) (rt_up τ' 0 0 0) := cG0.kp (fun c j e => rq_c (by omega)) (fun c j e => by rw [rq_if, if_neg (by omega)])
    rcases ck_check hN hF1 hF3 Mo cG with ⟨j, u, v, k1, k2, k3, k4, k5⟩ | ⟨u, v, k1, k2, k3, k4, k5⟩
    · rw [k2, rq_b2, rq_put, rq_b, rq_s, if_neg (rq_n3 (by omega))] at eC
      rw [k3, rq_b2, if_pos rfl] at eR
      refine ⟨_, _, _, eC, eR, fin _ _ (fun c k e => ?_) (fun c k e => ?_) ?_ ?_ ?_⟩
      · rw [rq_if, if_neg (by omega), k4 c k (by unfold ck_X ck_C; omega), rq_if, if_neg (by omega)]; exact b4 c k (by unfold rq_NC; omega)
      · rw [rq_if, if_neg (by omega), k5 c k (by unfold ck_Y ck_R; omega), rq_if, if_neg (by omega)]; exact b5 c k (by unfold rq_MR; omega)
      · rw [rq_c (by decide), k4 14 3 (by unfold ck_X ck_C; omega), rq_c (by decide)]; exact b3
      · rw [rq_k (by decide), k5 0 0 (by unfold ck_Y ck_R; omega), rq_s]
      · rw [rq_s, rq_s]
    · rw [k1, rq_b2, rq_put, rq_b, rq_s, if_pos rfl] at eC
      rw [k2, rq_b2, if_neg (by decide), rq_put, rq_b] at eR
      obtain ⟨hs, L, W⟩ := wf_all Mo (fun g hg => (TF g hg).2.2.2.2.2.2.2.2.2.2) k5
      have cG2 : ck_G N F op ar ow en el pa lo re fs u v := cG.kp (fun c j e => k3 c j (by unfold ck_X ck_C; omega)) (fun c j e => k4 c j (by unfold ck_Y ck_R; omega))
      obtain ⟨T2, TF2, m12, m6, m13, m16⟩ := cG2
      have M0 : rn_M N F op ar ow en el pa lo re fs hs L u v := ⟨T2, TF2, W, m6, hN, hF1, hF3⟩
      have M1 : rn_M N F op ar ow en el pa lo re fs hs L (rt_up u 0 6 (-3)) (rt_up v 0 4 1) := M0.kp (fun c k e => rq_c (by unfold rn_TC at e; omega)) (fun c k e => by rw [rq_if, if_neg (by unfold rn_TR at e; omega)])
      obtain ⟨gl, bk, kp, D, mC, mR⟩ := lk_all M1 (by rw [rq_c (by decide)]; exact m12)
      obtain ⟨w, A, P, f1, f2, ⟨f3, f4⟩, f5⟩ := fc_foretell D mC
      obtain ⟨x, B, g1, g2, g3, g4⟩ := fr_foretell D mR
      obtain rfl : A = B := ft_In.one f4 g4 f5 (fun _ _ q => q)
      rw [f1, rq_b, rq_put, rq_b] at eC
      rw [g1, rq_b] at eR
      have fw : ∀ c k, c < 29 → ¬ (c = 0 ∧ (k = 5 ∨ k = 6)) → (rt_up w 0 5 1) c k = u c k := fun c k e1 e2 => by rw [rq_if, if_neg (by omega), f2 c k (by unfold fc_A; omega), rq_if, if_neg (by omega)]
      have fw2 : ∀ c k, 29 ≤ c → (rt_up w 0 5 1) c k = w c k := fun c k e => rq_c (by omega)
      have fx : ∀ c k, fr_A c k → ¬ (c = 0 ∧ k = 4) → x c k = v c k := fun c k e1 e2 => by rw [g2 c k e1, rq_if, if_neg e2]
      have e12 : (rt_up w 0 5 1) 1 12 = nI N := by rw [fw 1 12 (by decide) (by omega)]; exact m12
      have e6 : x 0 6 = nI N := g3.1.2.2.1
      rw [e12] at eC
      rw [e6] at eR
      obtain ⟨-, -, p1, p2, p3, p4, p5, p6, -⟩ := f3
      obtain ⟨-, V, q1, q2, q3, q4, -⟩ := g3
      have Ld : lk_Ld (rt_up w 0 5 1) x := ⟨N, F, op, ar, ow, en, el, pa, lo, re, fs, hs, L, A, M0.kp (fun c k e => fw c k (by unfold rn_TC at e; omega) (by unfold rn_TC at e; omega)) (fun c k e => fx c k (by unfold rn_TR at e; unfold fr_A; omega) (by unfold rn_TR at e; omega)), e12, by rw [fw 1 13 (by decide) (by omega)]; exact m13, by rw [fx 0 16 (by unfold fr_A; omega) (by omega)]; exact m16, V, ⟨fun x hx => by rw [fw2 36 x (by decide)]; exact p1 x hx, fun x hx => by rw [fw2 37 x (by decide)]; exact p2 x hx, fun x hx => by rw [fw2 32 x (by decide)]; exact p3 x hx, fun f hf => by rw [fw2 33 f (by decide), fw2 34 f (by decide)]; exact p4 f hf, fun k hk => by rw [fw2 30 k (by decide)]; exact p5 k hk, fun k hk hr => by rw [fw2 31 k (by decide)]; exact p6 k hk hr⟩, ⟨q1, q2, q3, q4⟩, lk_res D g4⟩
      refine ⟨_, _, _, eC, eR, ⟨0, by decide, ?_, ?_, fun j hj => absurd hj (Nat.not_lt_zero _)⟩, H2.kp ?_ ?_ (fun j => ?_) (fun j => ?_), ?_, Or.inr ⟨rq_s, ?_, Ld⟩, Or.inl ⟨?_, ?_⟩⟩
      · rw [fw 14 3 (by decide) (by omega), k3 14 3 (by unfold ck_X ck_C; omega), rq_c (by decide)]; exact b3
      · rw [fx 0 0 (by unfold fr_A; omega) (by omega), k4 0 0 (by unfold ck_Y ck_R; omega), rq_s]; rfl
      · rw [fw 21 2 (by decide) (by omega), k3 21 2 (by unfold ck_X ck_C; omega), rq_c (by decide)]; exact b4 21 2 (by unfold rq_NC; omega)
      · rw [fx 0 27 (by unfold fr_A; omega) (by omega), k4 0 27 (by unfold ck_Y ck_R; omega), rq_k (by decide)]; exact b5 0 27 (by unfold rq_MR; omega)
      · rw [fw 22 j (by decide) (by omega), k3 22 j (by unfold ck_X ck_C; omega), rq_c (by decide)]; exact b4 22 j (by unfold rq_NC; omega)
      · rw [fx 19 j (by unfold fr_A; omega) (by omega), k4 19 j (by unfold ck_Y ck_R; omega), rq_c (by decide)]; exact b5 19 j (by unfold rq_MR; omega)
      · rw [rq_k (by decide), f2 0 6 (by unfold fc_A; omega), rq_s, fx 0 5 (by unfold fr_A; omega) (by omega), k4 0 5 (by unfold ck_Y ck_R; omega), rq_k (by decide), b5 0 5 (by unfold rq_MR; omega), t5]
      · rw [g2 0 4 (by unfold fr_A; omega), rq_s]
      · rw [fw 21 7 (by decide) (by omega), k3 21 7 (by unfold ck_X ck_C; omega), rq_c (by decide), b4 21 7 (by unfold rq_NC; omega)]; exact s217
      · rw [fx 0 29 (by unfold fr_A; omega) (by omega), k4 0 29 (by unfold ck_Y ck_R; omega), rq_k (by decide), b5 0 29 (by unfold rq_MR; omega)]; exact t29
theorem lk_lim (a3 : Int32) : ∃ lim : Nat, lim ≤ 2000 ∧ rt_max 0 (rt_min a3 2000) = nI lim ∧ ∀ (x y : Int32) (τ : rt_St), ¬ τ 0 4 = 0 → M_R_RangeTellerModel_run τ x y a3 = B_R_RangeTellerModel_run_32 x y (nI lim) τ := by
  unfold rt_max rt_min M_R_RangeTellerModel_run
  by_cases z : 0 ≤ a3
  · by_cases y : a3 ≤ 2000
    · rcases pk_ix a3 (n := 2001) (by decide) with h | h | ⟨b, h1, h2⟩
      · exact absurd (Int32.le_iff_toInt_le.mp z) (by have := Int32.lt_iff_toInt_lt.mp h; omega)
      · exfalso
        have y' := Int32.le_iff_toInt_le.mp y
        have h' := Int32.le_iff_toInt_le.mp h
        have y2 : a3.toInt ≤ (2000 : Int) := y'
        have h2 : (2001 : Int) ≤ a3.toInt := h'
        omega
      · refine ⟨b, by omega, ?_, fun x w τ h4 => ?_⟩
        · have ny : ¬ (2000 : Int32) < a3 := fun e => by
            have e1 : (2000 : Int) < a3.toInt := Int32.lt_iff_toInt_lt.mp e
            have e2 : a3.toInt ≤ (2000 : Int) := Int32.le_iff_toInt_le.mp y
            omega
          rw [if_neg ny, h2]
          by_cases b0 : b = 0
          · rw [b0]; rfl
          · rw [if_pos (show (0 : Int32) < nI b from nI_lt (a := 0) (by omega) (by omega))]
        · rw [if_neg h4, if_pos z, if_pos y, h2]
    · have ny : (2000 : Int32) < a3 := by
        have e2 : ¬ a3.toInt ≤ (2000 : Int) := fun e => y (Int32.le_iff_toInt_le.mpr e)
        exact Int32.lt_iff_toInt_lt.mpr (show (2000 : Int) < a3.toInt by omega)
      refine ⟨2000, Nat.le_refl _, ?_, fun x w τ h4 => ?_⟩
      · rw [if_pos ny]; rfl
      · rw [if_neg h4, if_pos z, if_neg y]; rfl
  · have n0 : a3 < 0 := by
      have e2 : ¬ (0 : Int) ≤ a3.toInt := fun e => z (Int32.le_iff_toInt_le.mpr e)
      exact Int32.lt_iff_toInt_lt.mpr (show a3.toInt < (0 : Int) by omega)
    have i0 : a3.toInt < (0 : Int) := Int32.lt_iff_toInt_lt.mp n0
    refine ⟨0, by decide, ?_, fun x w τ h4 => ?_⟩
    · have ny : ¬ (2000 : Int32) < a3 := fun e => by
        have e1 : (2000 : Int) < a3.toInt := Int32.lt_iff_toInt_lt.mp e
        omega
      have nz : ¬ (0 : Int32) < a3 := fun e => by
        have e1 : (0 : Int) < a3.toInt := Int32.lt_iff_toInt_lt.mp e
        omega
      rw [if_neg ny, if_neg nz]; rfl
    · rw [if_neg h4, if_neg z]; rfl
theorem sim_run (G : rq_Rel lk_Ld σ τ) : rt_c3 (rq_Rel lk_Ld) M_C_RangeTeller_run M_R_RangeTellerModel_run σ τ := by
  intro x y a3
  have G0 := G
  obtain ⟨G1, G2, G3, G4, G5⟩ := G
  rcases G4 with ⟨z1, z2⟩ | ⟨z1, z2, Ld⟩
  · refine ⟨-3, σ, τ, ?_, ?_, G0⟩
    · unfold M_C_RangeTeller_run; rw [if_pos z1]
    · unfold M_R_RangeTellerModel_run; rw [if_pos z2]
  · obtain ⟨lim, l1, l2, l3⟩ := lk_lim a3
    have Ld0 := Ld
    obtain ⟨N, F, op, ar, ow, en, el, pa, lo, re, fs, hs, L, A, M, -⟩ := Ld
    obtain ⟨r, u, v, e1, e2, e3, e4, e5, e6, e7⟩ := rn_run M G2 l1 x y
    refine ⟨r, u, v, ?_, ?_, G1.kp (e3 14 3 (by unfold rn_WC; omega)) (e4 0 0 (by unfold rn_WR; omega)) (fun j => e3 15 j (by unfold rn_WC; omega)) (fun j => e4 1 j (by unfold rn_WR; omega)), ⟨0, by decide, e6, e7, fun j hj => absurd hj (Nat.not_lt_zero _)⟩, ?_, Or.inr ⟨?_, ?_, lk_keeps σ τ u v Ld0 (e3.mono (fun c k q => by unfold rq_LC at q; unfold rn_WC; omega)) (e4.mono (fun c k q => by unfold rq_LR at q; unfold rn_WR; omega))⟩, e5⟩
    · unfold M_C_RangeTeller_run
      rw [if_neg (by rw [z1]; decide), l2, e1, rq_b2]
    · rw [l3 x y τ (by rw [z2]; decide)]; exact e2
    · rw [e3 0 6 (by unfold rn_WC; omega), e4 0 5 (by unfold rn_WR; omega)]; exact G3
    · rw [e3 0 5 (by unfold rn_WC; omega)]; exact z1
    · rw [e4 0 4 (by unfold rn_WR; omega)]; exact z2
end LDS
