/-! foretelling, the reference: from its call to its end -/
def fr_I (N F : Nat) (op ar ow en el pa lo re fs hs gl bk kp : Nat → Nat) (L : Nat → Prop) (A1 A : ft_S) (τ : rt_St) : Prop := fr_G N F op ar ow en el pa lo re fs hs gl bk kp L A τ ∧ ft_In (ft_X op ar ow pa lo re fs hs gl bk kp) (ft_V F N ow pa lo re fs hs L) N A1 (fr_W τ) A
section FRK
variable {N F k : Nat} {op ar ow en el pa lo re fs hs gl bk kp : Nat → Nat} {L : Nat → Prop} {A A1 : ft_S} {τ u : rt_St}
theorem fr_P.ch (H : fr_P N ow pa lo hs A τ) (hu : ∀ c x, 26 ≤ c → c ≤ 40 → c ≠ 27 → u c x = τ c x) (h27 : ∀ k, k < 100 → u 27 k = 0 ∨ u 27 k = 1) (h58 : u 0 58 = 0 ∨ u 0 58 = 1) : fr_P N ow pa lo hs A u := by
  obtain ⟨c1, c2, c3, c4, c5, c6⟩ := H
  have n3 : ∀ a b c x r, (26 ≤ a ∧ a ≤ 40 ∧ a ≠ 27) → (26 ≤ b ∧ b ≤ 40 ∧ b ≠ 27) → (26 ≤ c ∧ c ≤ 40 ∧ c ≠ 27) → fr_3 a b c x r τ → fr_3 a b c x r u := fun a b c x r a1 b1 d1 q => q.ne (hu _ _ a1.1 a1.2.1 a1.2.2) (hu _ _ b1.1 b1.2.1 b1.2.2) (hu _ _ d1.1 d1.2.1 d1.2.2)
  refine ⟨fun k hk => ?_, fun k hk hr => ⟨fun i hi => ?_, fun i hi => ?_⟩, fun x hx => ?_, fun f hf => ⟨?_, fun e => ?_, fun e => ?_⟩, h27, h58⟩
  · rw [hu 26 k (by decide) (by decide) (by decide)]; exact c1 k hk
  · exact n3 _ _ _ _ _ (by decide) (by decide) (by decide) ((c2 k hk hr).1 i hi)
  · exact n3 _ _ _ _ _ (by decide) (by decide) (by decide) ((c2 k hk hr).2 i hi)
  · exact n3 _ _ _ _ _ (by decide) (by decide) (by decide) (c3 x hx)
  · rw [hu 40 f (by decide) (by decide) (by decide)]; exact (c4 f hf).1
  · rw [hu 37 f (by decide) (by decide) (by decide), hu 38 f (by decide) (by decide) (by decide), hu 39 f (by decide) (by decide) (by decide)]; exact (c4 f hf).2.1 e
  · exact n3 _ _ _ _ _ (by decide) (by decide) (by decide) ((c4 f hf).2.2 e)
theorem fr_one (D : md_A F N op ar ow pa lo re fs hs gl bk kp L) (H : fr_I N F op ar ow en el pa lo re fs hs gl bk kp L A1 A τ) (hk : k < N) (hr : (A 4 k).2.1 = 1) : ∃ u A', M_R_RangeTellerModel_giveOn (rt_up τ 27 k 0) (nI k) = some u ∧ rq_A fr_A τ u ∧ fr_I N F op ar ow en el pa lo re fs hs gl bk kp L A1 A' u ∧ ((A' = A ∧ u 0 58 = τ 0 58 ∧ ∀ j, j < N → fr_W u j → fr_W τ j ∧ j ≠ k) ∨ (u 0 58 = 1 ∧ ft_mu A' < ft_mu A)) := by
  obtain ⟨G, I⟩ := H
  have A9 : rq_A fr_A τ (rt_up τ 27 k 0) := rq_A.rf.up (by unfold fr_A; omega)
  have P9 : fr_P N ow pa lo hs A (rt_up τ 27 k 0) := G.2.2.ch (fun c x _ _ c3 => rq_c c3) (fun j hj => by
    rw [rq_if]
    by_cases z : 27 = 27 ∧ j = k
    · rw [if_pos z]; exact Or.inl rfl
    · rw [if_neg z]; exact G.2.2.2.2.2.2.1 j hj) (by rw [rq_c (by decide)]; exact G.2.2.2.2.2.2.2)
  have G9 : fr_G N F op ar ow en el pa lo re fs hs gl bk kp L A (rt_up τ 27 k 0) := ⟨G.1.keep A9, G.2.1, P9⟩
  obtain ⟨u, e1, a1, a2, a3, a4, -⟩ := fr_follow D G9 hk hr
  refine ⟨u, _, e1, A9.tr a1, ⟨a2, I.ev (ft_mono D) hk hr a2.2.1 ft_J_r (fun B b1 b2 => ft_J_L.mpr ⟨b1, b2⟩) a3 (fun j hj w => ?_)⟩, ?_⟩
  · by_cases z : j = k
    · exact Or.inr z
    · left
      unfold fr_W at w ⊢
      rw [rq_k z]; exact w
  · rcases a4 with ⟨c1, c2⟩ | ⟨c1, c2⟩
    · refine Or.inl ⟨c1, by rw [c2, rq_c (by decide)], fun j hj w => ?_⟩
      have w9 : fr_W (rt_up τ 27 k 0) j := by
        rcases a3.2.2.2.2.2 with ⟨-, q⟩ | q
        · exact q j hj w
        · rw [c1] at q; omega
      unfold fr_W at w9 ⊢
      have nk : j ≠ k := fun e => by
        rw [e, rq_s] at w9
        exact absurd w9 (by decide)
      rw [rq_k nk] at w9
      exact ⟨w9, nk⟩
    · exact Or.inr ⟨c1, c2⟩
theorem fr_scan (D : md_A F N op ar ow pa lo re fs hs gl bk kp L) (K : rt_St → Option rt_St) : ∀ (d k m : Nat) (A : ft_S) (τ : rt_St), k + d = N → d + 1 ≤ m → fr_I N F op ar ow en el pa lo re fs hs gl bk kp L A1 A τ → ∃ u A', B_R_RangeTellerModel_foretell_87 K m (nI k) τ = K u ∧ rq_A fr_A τ u ∧ fr_I N F op ar ow en el pa lo re fs hs gl bk kp L A1 A' u ∧ ((A' = A ∧ u 0 58 = τ 0 58 ∧ ∀ j, j < N → (A 4 j).2.1 = 1 → fr_W u j → fr_W τ j ∧ j < k) ∨ (u 0 58 = 1 ∧ ft_mu A' < ft_mu A)) := by
  have hN := D.1.1
  intro d
  induction d with
  | zero =>
    intro k m A τ hd hm H
    obtain ⟨m, rfl⟩ : ∃ q, m = q + 1 := ⟨m - 1, by omega⟩
    refine ⟨τ, A, ?_, rq_A.rf, H, Or.inl ⟨rfl, rfl, fun j hj _ w => ⟨w, by omega⟩⟩⟩
    rw [B_R_RangeTellerModel_foretell_87, H.1.1.2.2.1, if_pos (nI_le (by omega) (by omega))]
  | succ d ih =>
    intro k m A τ hd hm H
    obtain ⟨m, rfl⟩ : ∃ q, m = q + 1 := ⟨m - 1, by omega⟩
    have t6 := H.1.1.2.2.1
    have t26 := H.1.2.2.1 k (by omega)
    have fl := H.1.2.1.2.1 4 k (Nat.le_refl _)
    have st : B_R_RangeTellerModel_foretell_87 K (m + 1) (nI k) τ = if nI (A 4 k).2.1 = 0 then B_R_RangeTellerModel_foretell_87 K m (nI (k + 1)) τ else if τ 27 k = 0 then B_R_RangeTellerModel_foretell_87 K m (nI (k + 1)) τ else (M_R_RangeTellerModel_giveOn (rt_up τ 27 k 0) (nI k)).bind fun σ10 => B_R_RangeTellerModel_foretell_87 K m (nI (k + 1)) σ10 := by
      rw [B_R_RangeTellerModel_foretell_87, t6, if_neg (nI_ge (by omega) (by omega)), rq_rd (n := 101) rfl (by omega) (by decide), rq_b, t26, rq_rd (n := 101) rfl (by omega) (by decide), rq_b, rq_wr (n := 101) rfl (by omega) (by decide), rq_b]
      unfold B_R_RangeTellerModel_foretell_128
      rw [nI_1]
    have skip : ((A 4 k).2.1 = 1 → ¬ fr_W τ k) → B_R_RangeTellerModel_foretell_87 K (m + 1) (nI k) τ = B_R_RangeTellerModel_foretell_87 K m (nI (k + 1)) τ → ∃ u A', B_R_RangeTellerModel_foretell_87 K (m + 1) (nI k) τ = K u ∧ rq_A fr_A τ u ∧ fr_I N F op ar ow en el pa lo re fs hs gl bk kp L A1 A' u ∧ ((A' = A ∧ u 0 58 = τ 0 58 ∧ ∀ j, j < N → (A 4 j).2.1 = 1 → fr_W u j → fr_W τ j ∧ j < k) ∨ (u 0 58 = 1 ∧ ft_mu A' < ft_mu A)) := fun nk se => by
      obtain ⟨u, A', a1, a2, a3, a4⟩ := ih (k + 1) m A τ (by omega) (by omega) H
      refine ⟨u, A', se.trans a1, a2, a3, a4.imp (fun q => ⟨q.1, q.2.1, fun j hj hr w => ?_⟩) id⟩
      obtain ⟨w1, w2⟩ := q.2.2 j hj hr w
      have : j ≠ k := fun e => nk (by rw [← e]; exact hr) (by rw [← e]; exact w1)
      exact ⟨w1, by omega⟩
    by_cases z : (A 4 k).2.1 = 0
    · rw [if_pos (show nI (A 4 k).2.1 = 0 by rw [z]; rfl)] at st
      exact skip (fun e => by omega) st
    · rw [if_neg (nI_ne0 (by omega) (by omega))] at st
      rcases H.1.2.2.2.2.2.2.1 k (by omega) with y | y
      · rw [if_pos y] at st
        exact skip (fun _ q => by unfold fr_W at q; rw [y] at q; exact absurd q (by decide)) st
      · rw [if_neg (by rw [y]; decide)] at st
        obtain ⟨u1, A2, c1, c2, c3, c4⟩ := fr_one D H (show k < N by omega) (by omega)
        rw [c1, rq_b] at st
        obtain ⟨u, A', a1, a2, a3, a4⟩ := ih (k + 1) m A2 u1 (by omega) (by omega) c3
        refine ⟨u, A', st.trans a1, c2.tr a2, a3, ?_⟩
        rcases c4 with ⟨d1, d2, d3⟩ | ⟨d1, d2⟩
        · rcases a4 with ⟨e1, e2, e3⟩ | ⟨e1, e2⟩
          · refine Or.inl ⟨e1.trans d1, e2.trans d2, fun j hj hr w => ?_⟩
            obtain ⟨w1, w2⟩ := e3 j hj (by rw [d1]; exact hr) w
            obtain ⟨w3, w4⟩ := d3 j hj w1
            exact ⟨w3, by omega⟩
          · rw [d1] at e2; exact Or.inr ⟨e1, e2⟩
        · rcases a4 with ⟨e1, e2, e3⟩ | ⟨e1, e2⟩
          · exact Or.inr ⟨e2.trans d1, by rw [e1]; exact d2⟩
          · exact Or.inr ⟨e1, Nat.lt_trans e2 d2⟩
theorem fr_passes (D : md_A F N op ar ow pa lo re fs hs gl bk kp L) : ∀ (n m : Nat) (A : ft_S) (τ : rt_St), ft_mu A < n → n + 1 ≤ m → τ 0 58 = 1 → fr_I N F op ar ow en el pa lo re fs hs gl bk kp L A1 A τ → ∃ u A', B_R_RangeTellerModel_foretell_73 m τ = some u ∧ rq_A fr_A τ u ∧ fr_I N F op ar ow en el pa lo re fs hs gl bk kp L A1 A' u ∧ ∀ j, j < N → (A' 4 j).2.1 = 1 → ¬ fr_W u j := by
  have hN := D.1.1
  intro n
  induction n with
  | zero => intro m A τ hmu; omega
  | succ n ih =>
    intro m A τ hmu hm h58 H
    obtain ⟨m, rfl⟩ : ∃ x, m = x + 1 + 1 := ⟨m - 2, by omega⟩
    obtain ⟨G, I⟩ := H
    have A6 : rq_A fr_A τ (rt_up τ 0 58 0) := rq_A.rf.up (by unfold fr_A; omega)
    have P6 : fr_P N ow pa lo hs A (rt_up τ 0 58 0) := G.2.2.ch (fun c x c1 _ _ => rq_c (by omega)) (fun j hj => by rw [rq_c (by decide)]; exact G.2.2.2.2.2.2.1 j hj) (by rw [rq_s]; exact Or.inl rfl)
    have W6 : fr_W (rt_up τ 0 58 0) = fr_W τ := funext fun j => by unfold fr_W; rw [rq_c (by decide)]
    have H6 : fr_I N F op ar ow en el pa lo re fs hs gl bk kp L A1 A (rt_up τ 0 58 0) := ⟨⟨G.1.keep A6, G.2.1, P6⟩, by rw [W6]; exact I⟩
    obtain ⟨u, A', a1, a2, a3, a4⟩ := fr_scan D (B_R_RangeTellerModel_foretell_73 (m + 1)) N 0 FU A _ (by omega) (by show N + 1 ≤ 2000000; omega) H6
    have a1' : B_R_RangeTellerModel_foretell_87 (B_R_RangeTellerModel_foretell_73 (m + 1)) FU 0 (rt_up τ 0 58 0) = B_R_RangeTellerModel_foretell_73 (m + 1) u := a1
    have e0 : B_R_RangeTellerModel_foretell_73 (m + 1 + 1) τ = B_R_RangeTellerModel_foretell_73 (m + 1) u := by
      rw [B_R_RangeTellerModel_foretell_73, h58, if_neg (by decide), rq_put, rq_b, a1']
    rcases a4 with ⟨e1, e2, e3⟩ | ⟨e1, e2⟩
    · refine ⟨u, A', ?_, A6.tr a2, a3, fun j hj hr w => ?_⟩
      · rw [e0, B_R_RangeTellerModel_foretell_73, if_pos (by rw [e2, rq_s])]
      · rw [e1] at hr
        have := (e3 j hj hr w).2
        omega
    · obtain ⟨w, A2, b1, b2, b3, b4⟩ := ih (m + 1) A' u (by omega) (by omega) e1 a3
      exact ⟨w, A2, e0.trans b1, A6.tr (a2.tr b2), b3, b4⟩
def fr_clrCw (σ : rt_St) (i : Nat) : rt_St := (rt_up (rt_up (rt_up (rt_up σ 37 i 1) 38 i 0) 39 i 0) 40 i 0)
theorem fr_clrC : ∀ (d i : Nat) (σ : rt_St) (m : Nat), i + d = 3 → d + 1 ≤ m → ∃ u, B_R_RangeTellerModel_clear_65 m (nI i) σ = some u ∧ (∀ c j, ¬ ((c = 37 ∨ c = 38 ∨ c = 39 ∨ c = 40) ∧ i ≤ j) → u c j = σ c j) ∧ ∀ j, i ≤ j → j < 3 → u 37 j = 1 ∧ u 38 j = 0 ∧ u 39 j = 0 ∧ u 40 j = 0 := by
  intro d
  induction d with
  | zero =>
    intro i σ m hd hm
    obtain ⟨m, rfl⟩ : ∃ q, m = q + 1 := ⟨m - 1, by omega⟩
    refine ⟨σ, ?_, fun _ _ _ => rfl, fun j j1 j2 => by omega⟩
    rw [B_R_RangeTellerModel_clear_65, if_pos (show (3 : Int32) ≤ nI i from nI_le (a := 3) (by omega) (by omega))]
  | succ d ih =>
    intro i σ m hd hm
    obtain ⟨m, rfl⟩ : ∃ q, m = q + 1 := ⟨m - 1, by omega⟩
    obtain ⟨u, u1, u2, u3⟩ := ih (i + 1) (fr_clrCw σ i) m (by omega) (by omega)
    have ff : ∀ c j, ¬ ((c = 37 ∨ c = 38 ∨ c = 39 ∨ c = 40) ∧ j = i) → fr_clrCw σ i c j = σ c j := fun c j q => by
      unfold fr_clrCw
      rw [rq_if, if_neg (by omega), rq_if, if_neg (by omega), rq_if, if_neg (by omega), rq_if, if_neg (by omega)]
    refine ⟨u, ?_, fun c j q => by rw [u2 c j (by omega), ff c j (by omega)], fun j j1 j2 => ?_⟩
    · rw [B_R_RangeTellerModel_clear_65, if_neg (show ¬ (3 : Int32) ≤ nI i from nI_ge (b := 3) (by omega) (by decide)), rq_wr (n := 3) rfl (by omega) (by decide), rq_b, rq_wr (n := 3) rfl (by omega) (by decide), rq_b, rq_wr (n := 3) rfl (by omega) (by decide), rq_b, rq_wr (n := 3) rfl (by omega) (by decide), rq_b, nI_1]
      exact u1
    · by_cases z : j = i
      · subst z
        exact ⟨by rw [u2 37 j (by omega)]; unfold fr_clrCw; rw [rq_c (by decide), rq_c (by decide), rq_c (by decide), rq_s], by rw [u2 38 j (by omega)]; unfold fr_clrCw; rw [rq_c (by decide), rq_c (by decide), rq_s], by rw [u2 39 j (by omega)]; unfold fr_clrCw; rw [rq_c (by decide), rq_s], by rw [u2 40 j (by omega)]; unfold fr_clrCw; rw [rq_s]⟩
      · exact u3 j (by omega) j2
def fr_clrBw (σ : rt_St) (i : Nat) : rt_St := (rt_up (rt_up (rt_up σ 34 i 0) 35 i 0) 36 i 0)
theorem fr_clrB : ∀ (d i : Nat) (σ : rt_St) (m : Nat), i + d = 16 → d + 1 ≤ m → ∃ u, B_R_RangeTellerModel_clear_30 m (nI i) σ = B_R_RangeTellerModel_clear_65 FU 0 u ∧ (∀ c j, ¬ ((c = 34 ∨ c = 35 ∨ c = 36) ∧ i ≤ j) → u c j = σ c j) ∧ ∀ j, i ≤ j → j < 16 → u 34 j = 0 ∧ u 35 j = 0 ∧ u 36 j = 0 := by
  intro d
  induction d with
  | zero =>
    intro i σ m hd hm
    obtain ⟨m, rfl⟩ : ∃ q, m = q + 1 := ⟨m - 1, by omega⟩
    refine ⟨σ, ?_, fun _ _ _ => rfl, fun j j1 j2 => by omega⟩
    rw [B_R_RangeTellerModel_clear_30, if_pos (show (16 : Int32) ≤ nI i from nI_le (a := 16) (by omega) (by omega))]
  | succ d ih =>
    intro i σ m hd hm
    obtain ⟨m, rfl⟩ : ∃ q, m = q + 1 := ⟨m - 1, by omega⟩
    obtain ⟨u, u1, u2, u3⟩ := ih (i + 1) (fr_clrBw σ i) m (by omega) (by omega)
    have ff : ∀ c j, ¬ ((c = 34 ∨ c = 35 ∨ c = 36) ∧ j = i) → fr_clrBw σ i c j = σ c j := fun c j q => by
      unfold fr_clrBw
      rw [rq_if, if_neg (by omega), rq_if, if_neg (by omega), rq_if, if_neg (by omega)]
    refine ⟨u, ?_, fun c j q => by rw [u2 c j (by omega), ff c j (by omega)], fun j j1 j2 => ?_⟩
    · rw [B_R_RangeTellerModel_clear_30, if_neg (show ¬ (16 : Int32) ≤ nI i from nI_ge (b := 16) (by omega) (by decide)), rq_wr (n := 16) rfl (by omega) (by decide), rq_b, rq_wr (n := 16) rfl (by omega) (by decide), rq_b, rq_wr (n := 16) rfl (by omega) (by decide), rq_b, nI_1]
      exact u1
    · by_cases z : j = i
      · subst z
        exact ⟨by rw [u2 34 j (by omega)]; unfold fr_clrBw; rw [rq_c (by decide), rq_c (by decide), rq_s], by rw [u2 35 j (by omega)]; unfold fr_clrBw; rw [rq_c (by decide), rq_s], by rw [u2 36 j (by omega)]; unfold fr_clrBw; rw [rq_s]⟩
      · exact u3 j (by omega) j2
def fr_clrAw (σ : rt_St) (i : Nat) : rt_St := (rt_up (rt_up σ 26 i 0) 27 i 0)
theorem fr_clrA : ∀ (d i : Nat) (σ : rt_St) (m : Nat), i + d = 101 → d + 1 ≤ m → ∃ u, B_R_RangeTellerModel_clear_2 m (nI i) σ = B_R_RangeTellerModel_clear_30 FU 0 u ∧ (∀ c j, ¬ ((c = 26 ∨ c = 27) ∧ i ≤ j) → u c j = σ c j) ∧ ∀ j, i ≤ j → j < 101 → u 26 j = 0 ∧ u 27 j = 0 := by
  intro d
  induction d with
  | zero =>
    intro i σ m hd hm
    obtain ⟨m, rfl⟩ : ∃ q, m = q + 1 := ⟨m - 1, by omega⟩
    refine ⟨σ, ?_, fun _ _ _ => rfl, fun j j1 j2 => by omega⟩
    rw [B_R_RangeTellerModel_clear_2, if_pos (show (101 : Int32) ≤ nI i from nI_le (a := 101) (by omega) (by omega))]
  | succ d ih =>
    intro i σ m hd hm
    obtain ⟨m, rfl⟩ : ∃ q, m = q + 1 := ⟨m - 1, by omega⟩
    obtain ⟨u, u1, u2, u3⟩ := ih (i + 1) (fr_clrAw σ i) m (by omega) (by omega)
    have ff : ∀ c j, ¬ ((c = 26 ∨ c = 27) ∧ j = i) → fr_clrAw σ i c j = σ c j := fun c j q => by
      unfold fr_clrAw
      rw [rq_if, if_neg (by omega), rq_if, if_neg (by omega)]
    refine ⟨u, ?_, fun c j q => by rw [u2 c j (by omega), ff c j (by omega)], fun j j1 j2 => ?_⟩
    · rw [B_R_RangeTellerModel_clear_2, if_neg (show ¬ (101 : Int32) ≤ nI i from nI_ge (b := 101) (by omega) (by decide)), rq_wr (n := 101) rfl (by omega) (by decide), rq_b, rq_wr (n := 101) rfl (by omega) (by decide), rq_b, nI_1]
      exact u1
    · by_cases z : j = i
      · subst z
        exact ⟨by rw [u2 26 j (by omega)]; unfold fr_clrAw; rw [rq_c (by decide), rq_s], by rw [u2 27 j (by omega)]; unfold fr_clrAw; rw [rq_s]⟩
      · exact u3 j (by omega) j2
theorem fr_clear (τ : rt_St) : ∃ u, M_R_RangeTellerModel_clear τ = some u ∧ rq_A fr_A τ u ∧ fr_P5 N ow pa lo hs ft_A0 u := by
  obtain ⟨u1, a1, a2, a3⟩ := fr_clrA 101 0 τ FU rfl (by decide)
  obtain ⟨u2, b1, b2, b3⟩ := fr_clrB 16 0 u1 FU rfl (by decide)
  obtain ⟨u3, c1, c2, c3⟩ := fr_clrC 3 0 u2 FU rfl (by decide)
  have x26 : ∀ c j, c = 26 ∨ c = 27 → u3 c j = u1 c j := fun c j e => by rw [c2 c j (by omega), b2 c j (by omega)]
  refine ⟨u3, a1.trans (b1.trans c1), fun c j e => ?_, fun k hk => ?_, fun k hk hr => absurd hr (ft_A0_f (by decide)), fun x hx => ?_, fun f hf => ?_, fun k hk => ?_⟩
  · rw [c2 c j (by unfold fr_A at e; omega), b2 c j (by unfold fr_A at e; omega), a2 c j (by unfold fr_A at e; omega)]
  · rw [x26 26 k (Or.inl rfl), (a3 k (Nat.zero_le _) (by omega)).1]; rfl
  · obtain ⟨q1, q2, q3⟩ := b3 x (Nat.zero_le _) hx
    exact ⟨by rw [c2 34 x (by omega), q1]; rfl, by rw [c2 35 x (by omega), q2]; rfl, by rw [c2 36 x (by omega), q3]; rfl⟩
  · obtain ⟨q1, q2, q3, q4⟩ := c3 f (Nat.zero_le _) hf
    exact ⟨by rw [q4]; rfl, fun _ => ⟨q1, q2, q3⟩, fun e => absurd rfl e⟩
  · rw [x26 27 k (Or.inr rfl)]; exact Or.inl (a3 k (Nat.zero_le _) (by omega)).2
theorem fr_f11 {p : Nat} (hp : p ≤ 2) : ∀ (d i m : Nat) (u : rt_St), i + d = 4 → d + 1 ≤ m → u 11 0 = nI p → ∃ w, B_R_RangeTellerModel_foretell_11 m (nI i) u = B_R_RangeTellerModel_foretell_11 1 (nI 4) w ∧ (∀ c x, ¬ ((44 ≤ c ∧ c ≤ 46) ∧ i ≤ x) → w c x = u c x) ∧ ∀ y, i ≤ y → y < 4 → fr_3 44 45 46 y (if y < p then (0, 63, 0) else (0, 0, 0)) w := by
  intro d
  induction d with
  | zero =>
    intro i m u hd hm h11
    obtain ⟨m, rfl⟩ : ∃ q, m = q + 1 := ⟨m - 1, by omega⟩
    obtain rfl : i = 4 := by omega
    refine ⟨u, ?_, fun _ _ _ => rfl, fun y y1 y2 => by omega⟩
    rw [B_R_RangeTellerModel_foretell_11, B_R_RangeTellerModel_foretell_11, if_pos (show (4 : Int32) ≤ nI 4 from Int32.le_refl _), if_pos (show (4 : Int32) ≤ nI 4 from Int32.le_refl _)]
  | succ d ih =>
    intro i m u hd hm h11
    obtain ⟨m, rfl⟩ : ∃ q, m = q + 1 := ⟨m - 1, by omega⟩
    obtain ⟨w, b1, b2, b3⟩ := ih (i + 1) m (fr_w 44 45 46 i (if i < p then (0, 63, 0) else (0, 0, 0)) u) (by omega) (by omega) (by rw [fr_w_f (by omega)]; exact h11)
    refine ⟨w, ?_, fun c x e => by rw [b2 c x (by omega), fr_w_f (by omega)], fun y y1 y2 => ?_⟩
    · have h11' : (rt_up u 44 i 0) 11 0 = nI p := by rw [rq_c (by decide)]; exact h11
      rw [B_R_RangeTellerModel_foretell_11, if_neg (show ¬ (4 : Int32) ≤ nI i from nI_ge (b := 4) (by omega) (by decide)), rq_wr (n := 4) rfl (by omega) (by decide), rq_b, rq_rd (n := 3) (i := 0) (x := 0) rfl (by decide) (by decide), rq_b, h11']
      unfold B_R_RangeTellerModel_foretell_44
      by_cases z : i < p
      · rw [if_pos z] at b1
        rw [if_neg (show ¬ nI p ≤ nI i from nI_ge z (by omega)), rq_wr (n := 4) rfl (by omega) (by decide), rq_b, rq_wr (n := 4) rfl (by omega) (by decide), rq_b, nI_1]
        exact b1
      · rw [if_neg z] at b1
        rw [if_pos (show nI p ≤ nI i from nI_le (by omega) (by omega)), rq_wr (n := 4) rfl (by omega) (by decide), rq_b, rq_wr (n := 4) rfl (by omega) (by decide), rq_b, nI_1]
        exact b1
    · by_cases z : y = i
      · have ff : ∀ c, w c y = (fr_w 44 45 46 i (if i < p then (0, 63, 0) else (0, 0, 0)) u) c y := fun c => b2 c y (by omega)
        rw [z] at ff ⊢
        exact (fr_w_g (by decide) (by decide) (by decide)).ne (ff _) (ff _) (ff _)
      · exact b3 y (by omega) y2
theorem fr_foretell (D : md_A F N op ar ow pa lo re fs hs gl bk kp L) (T : fr_M N F op ar ow en el pa lo re fs hs gl bk kp L τ) : ∃ u A, M_R_RangeTellerModel_foretell τ = some u ∧ rq_A fr_A τ u ∧ fr_G N F op ar ow en el pa lo re fs hs gl bk kp L A u ∧ ft_In (ft_X op ar ow pa lo re fs hs gl bk kp) (ft_V F N ow pa lo re fs hs L) N (ft_A1 pa lo fs) (fun _ => False) A := by
  have D0 := D
  obtain ⟨⟨hN, hF1, hF3⟩, m1, m2, -⟩ := D
  obtain ⟨f1, f2, f3, f4, pa2, lo2, -⟩ := m1 0 (by omega)
  obtain ⟨w, a1, a2, a3⟩ := fr_clear (N := N) (ow := ow) (pa := pa) (lo := lo) (hs := hs) τ
  have V0 := ft_A0_V D0
  have A2 : rq_A fr_A τ (rt_up w 0 59 0) := a2.up (by unfold fr_A; omega)
  obtain ⟨x, b1, b2, b3⟩ := fr_f11 (p := pa 0) pa2 4 0 FU (rt_up w 0 59 0) rfl (by decide) (by rw [A2 11 0 (by unfold fr_A; omega)]; exact (T.2.1 0 (by omega)).2.1)
  have b2' : ∀ c y, ¬ (44 ≤ c ∧ c ≤ 46) → x c y = (rt_up w 0 59 0) c y := fun c y e => b2 c y (by omega)
  have A3 : rq_A fr_A τ x := fun c y e => by rw [b2' c y (by unfold fr_A at e; omega)]; exact A2 c y e
  have T3 := T.keep A3
  have P3 : fr_P5 N ow pa lo hs ft_A0 x := by
    have ff : ∀ c y, 26 ≤ c → c ≤ 40 → x c y = w c y := fun c y c1 c2 => by rw [b2' c y (by omega), rq_c (by omega)]
    obtain ⟨p1, p2, p3, p4, p5⟩ := a3
    refine ⟨fun k hk => by rw [ff 26 k (by decide) (by decide)]; exact p1 k hk, fun k hk hr => absurd hr (ft_A0_f (by decide)), fun y hy => (p3 y hy).ne (ff _ _ (by decide) (by decide)) (ff _ _ (by decide) (by decide)) (ff _ _ (by decide) (by decide)), fun f hf => ⟨by rw [ff 40 f (by decide) (by decide)]; exact (p4 f hf).1, fun e => by rw [ff 37 f (by decide) (by decide), ff 38 f (by decide) (by decide), ff 39 f (by decide) (by decide)]; exact (p4 f hf).2.1 e, fun e => absurd rfl e⟩, fun k hk => by rw [ff 27 k (by decide) (by decide)]; exact p5 k hk⟩
  have okv : ∀ i, ft_ok (if i < pa 0 then (0, 63, 0) else (0, 0, 0)) := fun i => by
    by_cases z : i < pa 0
    · rw [if_pos z]; unfold ft_ok; decide
    · rw [if_neg z]; unfold ft_ok; decide
  obtain ⟨y, e1, e2, e3, e4, e5, e6⟩ := fr_pass0 (j := fs 0) (st := fun _ => ft_bot) (vr := fun i => if i < pa 0 then (0, 63, 0) else (0, 0, 0)) D0 T3 V0 P3 f1 (fun i hi => by omega) (fun i hi => b3 i (Nat.zero_le _) hi) (fun i hi => by omega) (fun i hi => okv i) (fun i i1 i2 => by
    rw [f4] at i1
    exact if_neg (by omega))
  have V1 := V0.pass (j := fs 0) (st := fun _ => ft_bot) (vr := fun i => if i < pa 0 then (0, 63, 0) else (0, 0, 0)) f1 f2 (by omega) (by rw [f4]; omega) (fun i hi => by omega) (fun i hi => okv i) (fun g hg => (m1 g hg).2.2.2.1) (fun _ i i1 i2 => by
    rw [f4] at i1
    rw [if_neg (by omega)])
  have E1 : ft_E N op ar ft_A0 (fr_W x) (ft_J ft_A0 (ft_pass (fs 0) (hs (fs 0)) (pa (ow (fs 0)) + lo (ow (fs 0))) (fun _ => ft_bot) (fun i => if i < pa 0 then (0, 63, 0) else (0, 0, 0)))) (fr_W y) := ft_E_pass V0 V1 (by omega) (by omega) (by rw [f4]; omega) (e6.imp (fun q => ⟨q.1, q.2.1⟩) (fun q => ⟨q.1, q.2.1⟩))
  rw [f3, f4] at e5 V1 E1
  have A4 : rq_A fr_A τ (rt_up y 0 58 1) := (A3.tr e2).up (by unfold fr_A; omega)
  have W4 : fr_W (rt_up y 0 58 1) = fr_W y := funext fun j => by unfold fr_W; rw [rq_c (by decide)]
  have P4 : fr_P N ow pa lo hs (ft_A1 pa lo fs) (rt_up y 0 58 1) := fr_P.ch e5 (fun c z c1 _ _ => rq_c (by omega)) (fun j hj => by rw [rq_c (by decide)]; exact e5.2.2.2.2.1 j hj) (by rw [rq_s]; exact Or.inr rfl)
  have H4 : fr_I N F op ar ow en el pa lo re fs hs gl bk kp L (ft_A1 pa lo fs) (ft_A1 pa lo fs) (rt_up y 0 58 1) := ⟨⟨T.keep A4, V1, P4⟩, by rw [W4]; exact ft_A1_In D0 V1 E1⟩
  have mub : ft_mu (ft_A1 pa lo fs) ≤ 197000 := ft_mu_b (fun c z => (ft_V.u V1 c z).1)
  obtain ⟨v, A', c1, c2, c3, c4⟩ := fr_passes D0 197001 FU (ft_A1 pa lo fs) _ (by omega) (by decide) rq_s H4
  refine ⟨v, A', ?_, A4.tr c2, c3.1, ?_⟩
  · have t14 : x 14 0 = nI (fs 0) := (T3.2.1 0 (by omega)).1
    unfold M_R_RangeTellerModel_foretell
    rw [a1, rq_b, rq_put, rq_b]
    refine b1.trans ?_
    rw [B_R_RangeTellerModel_foretell_11, if_pos (show (4 : Int32) ≤ nI 4 from Int32.le_refl _), rq_rd (n := 3) (i := 0) (x := 0) rfl (by decide) (by decide), rq_b, t14, e1, rq_b, rq_put, rq_b]
    exact c1
  · obtain ⟨i1, i2, i3, i4⟩ := c3.2
    exact ⟨i1, i2, i3, fun k hk hr _ => i4 k hk hr (c4 k hk hr)⟩
end FRK
