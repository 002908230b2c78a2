/-! foretelling, the class: the scan, the passes, the beginning -/
def fc_I (N F : Nat) (op ar ow pa lo re fs hs gl bk kp : Nat → Nat) (L : Nat → Prop) (A1 A : ft_S) (P : Nat → ft_G) (σ : rt_St) : Prop := fc_G N F op ar ow pa lo re fs hs gl bk kp L A A P σ ∧ ft_In (ft_X op ar ow pa lo re fs hs gl bk kp) (ft_V F N ow pa lo re fs hs L) N A1 (fc_W σ) A
section FCH
variable {N F k : Nat} {op ar ow pa lo re fs hs gl bk kp : Nat → Nat} {L : Nat → Prop} {A A1 : ft_S} {P : Nat → ft_G} {σ : rt_St}
/-- what a growth leaves to be done, for either side -/
theorem ft_In.ev {W W0 W' : Nat → Prop} {A' : ft_S} (H : ft_In (ft_X op ar ow pa lo re fs hs gl bk kp) (ft_V F N ow pa lo re fs hs L) N A1 W A) (hM : ft_Mo (ft_X op ar ow pa lo re fs hs gl bk kp) (ft_V F N ow pa lo re fs hs L) N) (hk : k < N) (hr : (A 4 k).2.1 = 1) (hV : ft_V F N ow pa lo re fs hs L A') (h2 : ft_L (ft_X op ar ow pa lo re fs hs gl bk kp A k) A') (h3 : ∀ B, ft_L A B → ft_L (ft_X op ar ow pa lo re fs hs gl bk kp A k) B → ft_L A' B) (E : ft_E N op ar A W0 A' W') (hw : ∀ j, j < N → W j → W0 j ∨ j = k) : ft_In (ft_X op ar ow pa lo re fs hs gl bk kp) (ft_V F N ow pa lo re fs hs L) N A1 W' A' := by
  obtain ⟨e1, e2, e3, e4, e5, -⟩ := E
  refine H.step hM hk hr hV e1 h2 h3 (fun j hj hr' hn => ?_)
  have sm := e3 j hj hn
  have rj : (A 4 j).2.1 = 1 := by rw [← sm.1]; exact hr'
  refine ⟨?_, rj, ft_X_dep sm (fun ho => ?_) (fun ho => ?_)⟩
  · by_cases z : j = k
    · exact Or.inl z
    · exact Or.inr (fun q => (hw j hj q).elim (fun q => hn (e2 j hj q)) z)
  · rcases e4 with e4 | e4
    · exact e4
    · exact absurd (e4 j hj rj ho) hn
  · rcases e5 (ar j) with e5 | e5
    · exact e5
    · exact absurd (e5 j hj rj ho rfl) hn
theorem fc_one (D : md_A F N op ar ow pa lo re fs hs gl bk kp L) (H : fc_I N F op ar ow pa lo re fs hs gl bk kp L A1 A P σ) (hk : k < N) (hw : σ 35 k = 1) : ∃ σ5 u A' P', M_C_Foreteller_recall (rt_up σ 35 k 0) (nI k) = some σ5 ∧ M_C_Foreteller_follow σ5 (nI k) = some u ∧ rq_A fc_A σ u ∧ fc_I N F op ar ow pa lo re fs hs gl bk kp L A1 A' P' u ∧ ((A' = A ∧ ∀ j, j < N → fc_W u j → fc_W σ j ∧ j ≠ k) ∨ ft_mu A' < ft_mu A) := by
  obtain ⟨G, I⟩ := H
  have hN := D.1.1
  have h10 := (D.2.2.1 k hk).2.1
  have hr : (A 4 k).2.1 = 1 := by
    rcases G.2.2.2.2.2.2.2.2.1 k (by omega) with q | q
    · rw [hw] at q; exact absurd q (by decide)
    · exact q.2
  have G4 : fc_G N F op ar ow pa lo re fs hs gl bk kp L A A P (rt_up σ 35 k 0) := by
    obtain ⟨T, V, c1, c2, c3, c4, c5, c6, c7, c8, c9⟩ := G
    refine ⟨T.keep (rq_A.rf.up (by unfold fc_A; omega)), V, fun x hx => by rw [rq_c (by decide)]; exact c1 x hx, fun x hx => by rw [rq_c (by decide)]; exact c2 x hx, fun x hx => by rw [rq_c (by decide)]; exact c3 x hx, fun f hf => by rw [rq_c (by decide), rq_c (by decide)]; exact c4 f hf, fun q hq => by rw [rq_c (by decide)]; exact c5 q hq, fun q hq hr => by rw [rq_c (by decide)]; exact c6 q hq hr, fun q hq => ?_, fun x hx => by rw [rq_c (by decide)]; exact c8 x hx, c9⟩
    by_cases z : q = k
    · subst z; rw [rq_s]; exact Or.inl rfl
    · rw [rq_k z]; exact c7 q hq
  obtain ⟨σ5, r1, r2, r3, r4⟩ := fc_recall G4 hN h10 hk hr
  have G5 := G4.keep r2 r3
  obtain ⟨u, P', f1, f2, f3, f4, -⟩ := fc_follow D G5 r4 hk hr
  have W5 : ∀ j, fc_W σ5 j ↔ (fc_W σ j ∧ j ≠ k) := fun j => by
    unfold fc_W
    rw [r3 35 j (by decide) (by decide)]
    by_cases z : j = k
    · subst z; rw [rq_s]; exact ⟨fun q => absurd q (by decide), fun q => absurd rfl q.2⟩
    · rw [rq_k z]; exact ⟨fun q => ⟨q, z⟩, fun q => q.1⟩
  refine ⟨σ5, u, _, P', r1, f1, (rq_A.rf.up (by unfold fc_A; omega)).tr (r2.tr f2), ⟨f3, I.ev (ft_mono D) hk hr f3.2.1 ft_J_r (fun B b1 b2 => ft_J_L.mpr ⟨b1, b2⟩) f4 (fun j hj q => ?_)⟩, ?_⟩
  · by_cases z : j = k
    · exact Or.inr z
    · exact Or.inl ((W5 j).mpr ⟨q, z⟩)
  · rcases f4.2.2.2.2.2 with ⟨e1, e2⟩ | e
    · exact Or.inl ⟨e1, fun j hj q => (W5 j).mp (e2 j hj q)⟩
    · exact Or.inr e
theorem fc_scan (D : md_A F N op ar ow pa lo re fs hs gl bk kp L) (K : Int32 → Int32 → rt_St → Option rt_St) (p : Int32) : ∀ (d k m : Nat) (l1 : Int32) (A : ft_S) (P : Nat → ft_G) (σ : rt_St), k + d = N → d + 1 ≤ m → fc_I N F op ar ow pa lo re fs hs gl bk kp L A1 A P σ → ∃ u l2 A' P', B_C_Foreteller_foretell_49 K m l1 p (nI k) σ = K l2 (p + 1) u ∧ rq_A fc_A σ u ∧ fc_I N F op ar ow pa lo re fs hs gl bk kp L A1 A' P' u ∧ ft_mu A' ≤ ft_mu A ∧ ((l2 = l1 ∧ u = σ ∧ A' = A ∧ ∀ j, k ≤ j → j < N → ¬ fc_W σ j) ∨ (l2 = 1 ∧ ((A' = A ∧ ∀ j, j < N → fc_W u j → fc_W σ j ∧ j < k) ∨ ft_mu A' < ft_mu A))) := by
  have hN := D.1.1
  intro d
  induction d with
  | zero =>
    intro k m l1 A P σ hd hm H
    obtain ⟨m, rfl⟩ : ∃ q, m = q + 1 := ⟨m - 1, by omega⟩
    refine ⟨σ, l1, A, P, ?_, rq_A.rf, H, Nat.le_refl _, Or.inl ⟨rfl, rfl, rfl, fun j j1 j2 => by omega⟩⟩
    rw [B_C_Foreteller_foretell_49, H.1.1.2.2.1, if_pos (nI_le (by omega) (by omega))]
  | succ d ih =>
    intro k m l1 A P σ hd hm H
    obtain ⟨m, rfl⟩ : ∃ q, m = q + 1 := ⟨m - 1, by omega⟩
    have t12 := H.1.1.2.2.1
    have st : B_C_Foreteller_foretell_49 K (m + 1) l1 p (nI k) σ = if σ 35 k = 0 then B_C_Foreteller_foretell_49 K m l1 p (nI (k + 1)) σ else (M_C_Foreteller_recall (rt_up σ 35 k 0) (nI k)).bind fun σ5 => (M_C_Foreteller_follow σ5 (nI k)).bind fun σ6 => B_C_Foreteller_foretell_49 K m 1 p (nI (k + 1)) σ6 := by
      rw [B_C_Foreteller_foretell_49, t12, if_neg (nI_ge (by omega) (by omega)), rq_rd (n := 100) rfl (by omega) (by decide), rq_b, rq_wr (n := 100) rfl (by omega) (by decide), rq_b]
      unfold B_C_Foreteller_foretell_88
      rw [nI_1]
    rcases H.1.2.2.2.2.2.2.2.2.1 k (by omega) with z | z
    · rw [if_pos z] at st
      obtain ⟨u, l2, A', P', a1, a2, a3, a4, a5⟩ := ih (k + 1) m l1 A P σ (by omega) (by omega) H
      refine ⟨u, l2, A', P', st.trans a1, a2, a3, a4, ?_⟩
      have nk : ¬ fc_W σ k := fun q => by unfold fc_W at q; rw [z] at q; exact absurd q (by decide)
      rcases a5 with ⟨b1, b2, b3, b4⟩ | ⟨b1, b2⟩
      · refine Or.inl ⟨b1, b2, b3, fun j j1 j2 => ?_⟩
        by_cases y : j = k
        · rw [y]; exact nk
        · exact b4 j (by omega) j2
      · refine Or.inr ⟨b1, b2.imp (fun q => ⟨q.1, fun j hj w => ?_⟩) id⟩
        obtain ⟨w1, w2⟩ := q.2 j hj w
        have : j ≠ k := fun e => nk (by rw [← e]; exact w1)
        exact ⟨w1, by omega⟩
    · rw [if_neg (by rw [z.1]; decide)] at st
      obtain ⟨σ5, σ6, A2, P2, c1, c2, c3, c4, c5⟩ := fc_one D H (by omega) z.1
      rw [c1, rq_b, c2, rq_b] at st
      obtain ⟨u, l2, A', P', a1, a2, a3, a4, a5⟩ := ih (k + 1) m 1 A2 P2 σ6 (by omega) (by omega) c4
      have m2 : ft_mu A2 ≤ ft_mu A := by
        rcases c5 with ⟨e, -⟩ | e
        · rw [e]; exact Nat.le_refl _
        · omega
      have cmb : (A' = A2 ∧ ∀ j, j < N → fc_W u j → fc_W σ6 j ∧ j < k + 1) ∨ ft_mu A' < ft_mu A2 → ((A' = A ∧ ∀ j, j < N → fc_W u j → fc_W σ j ∧ j < k) ∨ ft_mu A' < ft_mu A) := fun q => by
        rcases q with ⟨q1, q2⟩ | q
        · rcases c5 with ⟨e1, e2⟩ | e
          · refine Or.inl ⟨q1.trans e1, fun j hj w => ?_⟩
            obtain ⟨w1, w2⟩ := q2 j hj w
            obtain ⟨w3, w4⟩ := e2 j hj w1
            exact ⟨w3, by omega⟩
          · rw [q1]; exact Or.inr e
        · exact Or.inr (by omega)
      refine ⟨u, l2, A', P', st.trans a1, c3.tr a2, a3, by omega, Or.inr ?_⟩
      rcases a5 with ⟨b1, b2, b3, b4⟩ | ⟨b1, b2⟩
      · refine ⟨b1, cmb (Or.inl ⟨b3, fun j hj w => ?_⟩)⟩
        rw [b2] at w
        refine ⟨w, ?_⟩
        by_cases y : j < k + 1
        · exact y
        · exact absurd w (b4 j (by omega) hj)
      · exact ⟨b1, cmb b2⟩
theorem fc_idleS (D : md_A F N op ar ow pa lo re fs hs gl bk kp L) (K : Int32 → Int32 → rt_St → Option rt_St) (p : Int32) (H : fc_I N F op ar ow pa lo re fs hs gl bk kp L A1 A P σ) (hw : ∀ j, j < N → ¬ fc_W σ j) : ∀ (d k m : Nat) (l1 : Int32), k + d = N → d + 1 ≤ m → B_C_Foreteller_foretell_49 K m l1 p (nI k) σ = K l1 (p + 1) σ := by
  have hN := D.1.1
  intro d
  induction d with
  | zero =>
    intro k m l1 hd hm
    obtain ⟨m, rfl⟩ : ∃ q, m = q + 1 := ⟨m - 1, by omega⟩
    rw [B_C_Foreteller_foretell_49, H.1.1.2.2.1, if_pos (nI_le (by omega) (by omega))]
  | succ d ih =>
    intro k m l1 hd hm
    obtain ⟨m, rfl⟩ : ∃ q, m = q + 1 := ⟨m - 1, by omega⟩
    have z0 : σ 35 k = 0 := by
      rcases H.1.2.2.2.2.2.2.2.2.1 k (by omega) with z | z
      · exact z
      · exact absurd z.1 (hw k (by omega))
    rw [B_C_Foreteller_foretell_49, H.1.1.2.2.1, if_neg (nI_ge (by omega) (by omega)), rq_rd (n := 100) rfl (by omega) (by decide), rq_b, if_pos z0]
    unfold B_C_Foreteller_foretell_88
    rw [nI_1]
    exact ih (k + 1) m l1 (by omega) (by omega)
theorem fc_idle (D : md_A F N op ar ow pa lo re fs hs gl bk kp L) {m q : Nat} {l1 : Int32} (H : fc_I N F op ar ow pa lo re fs hs gl bk kp L A1 A P σ) (hq : q < 1000000) (hw : ∀ j, j < N → ¬ fc_W σ j) : B_C_Foreteller_foretell_35 (m + 1 + 1) l1 (nI q) σ = some σ := by
  have hN := D.1.1
  rw [B_C_Foreteller_foretell_35, if_neg (show ¬ (1000000 : Int32) ≤ nI q from nI_ge (b := 1000000) hq (by decide))]
  by_cases z : l1 = 0
  · rw [if_pos z]
  · rw [if_neg z]
    have e := fc_idleS D (B_C_Foreteller_foretell_35 (m + 1)) (nI q) H hw N 0 FU 0 (by omega) (by show N + 1 ≤ 2000000; omega)
    have e' : B_C_Foreteller_foretell_49 (B_C_Foreteller_foretell_35 (m + 1)) FU 0 (nI q) 0 σ = B_C_Foreteller_foretell_35 (m + 1) 0 (nI q + 1) σ := e
    rw [e', nI_1, B_C_Foreteller_foretell_35]
    by_cases y : (1000000 : Int32) ≤ nI (q + 1)
    · rw [if_pos y]
    · rw [if_neg y, if_pos rfl]
theorem fc_passes (D : md_A F N op ar ow pa lo re fs hs gl bk kp L) : ∀ (n m q : Nat) (A : ft_S) (P : Nat → ft_G) (σ : rt_St), ft_mu A ≤ n → q + n + 2 ≤ 1000000 → n + 3 ≤ m → fc_I N F op ar ow pa lo re fs hs gl bk kp L A1 A P σ → ∃ u A' P', B_C_Foreteller_foretell_35 m 1 (nI q) σ = some u ∧ rq_A fc_A σ u ∧ fc_I N F op ar ow pa lo re fs hs gl bk kp L A1 A' P' u ∧ ∀ j, j < N → ¬ fc_W u j := by
  have hN := D.1.1
  intro n
  induction n with
  | zero =>
    intro m q A P σ hmu hq hm H
    obtain ⟨m, rfl⟩ : ∃ x, m = x + 1 + 1 + 1 := ⟨m - 3, by omega⟩
    obtain ⟨u, l2, A', P', a1, a2, a3, a4, a5⟩ := fc_scan D (B_C_Foreteller_foretell_35 (m + 1 + 1)) (nI q) N 0 FU 0 A P σ (by omega) (by show N + 1 ≤ 2000000; omega) H
    have nw : ∀ j, j < N → ¬ fc_W u j := fun j hj w => by
      rcases a5 with ⟨b1, b2, b3, b4⟩ | ⟨b1, ⟨b2, b3⟩ | b2⟩
      · rw [b2] at w; exact b4 j (by omega) hj w
      · have := (b3 j hj w).2; omega
      · omega
    refine ⟨u, A', P', ?_, a2, a3, nw⟩
    have a1' : B_C_Foreteller_foretell_49 (B_C_Foreteller_foretell_35 (m + 1 + 1)) FU 0 (nI q) 0 σ = _ := a1
    rw [B_C_Foreteller_foretell_35, if_neg (show ¬ (1000000 : Int32) ≤ nI q from nI_ge (b := 1000000) (by omega) (by decide)), if_neg (by decide), a1', nI_1]
    exact fc_idle D a3 (by omega) nw
  | succ n ih =>
    intro m q A P σ hmu hq hm H
    obtain ⟨m, rfl⟩ : ∃ x, m = x + 1 + 1 + 1 := ⟨m - 3, by omega⟩
    obtain ⟨u, l2, A', P', a1, a2, a3, a4, a5⟩ := fc_scan D (B_C_Foreteller_foretell_35 (m + 1 + 1)) (nI q) N 0 FU 0 A P σ (by omega) (by show N + 1 ≤ 2000000; omega) H
    have a1' : B_C_Foreteller_foretell_49 (B_C_Foreteller_foretell_35 (m + 1 + 1)) FU 0 (nI q) 0 σ = _ := a1
    have e0 : B_C_Foreteller_foretell_35 (m + 1 + 1 + 1) 1 (nI q) σ = B_C_Foreteller_foretell_35 (m + 1 + 1) l2 (nI (q + 1)) u := by
      rw [B_C_Foreteller_foretell_35, if_neg (show ¬ (1000000 : Int32) ≤ nI q from nI_ge (b := 1000000) (by omega) (by decide)), if_neg (by decide), a1', nI_1]
    rcases a5 with ⟨b1, b2, b3, b4⟩ | ⟨b1, ⟨b2, b3⟩ | b2⟩
    · have nw : ∀ j, j < N → ¬ fc_W u j := fun j hj w => by rw [b2] at w; exact b4 j (by omega) hj w
      exact ⟨u, A', P', e0.trans (fc_idle D a3 (by omega) nw), a2, a3, nw⟩
    · have nw : ∀ j, j < N → ¬ fc_W u j := fun j hj w => by have := (b3 j hj w).2; omega
      exact ⟨u, A', P', e0.trans (fc_idle D a3 (by omega) nw), a2, a3, nw⟩
    · obtain ⟨w, A2, P2, c1, c2, c3, c4⟩ := ih (m + 1 + 1) (q + 1) A' P' u (by omega) (by omega) (by omega) a3
      rw [b1] at e0
      exact ⟨w, A2, P2, e0.trans c1, a2.tr c2, c3, c4⟩
end FCH
