/-! foretelling, the reference: waking, ending, branching -/
section FRC
variable {N F j h m k f o : Nat} {op ar ow en el pa lo re fs hs gl bk kp : Nat → Nat} {L : Nat → Prop} {A X Y : ft_S} {st vr : Nat → ft_G} {r : ft_G} {τ u : rt_St} {Q : rt_St → Prop}
def fr_hit (N : Nat) (op ar : Nat → Nat) (o : Nat) (y : Int32) (τ : rt_St) (i k : Nat) : Prop := i ≤ k ∧ k < N ∧ τ 26 k = 1 ∧ op k = o ∧ (y < 0 ∨ nI (ar k) = y)
theorem fr_wakeL (hN : N ≤ 100) (ho : o < 100) (y : Int32) : ∀ (d i m : Nat) (τ : rt_St), i + d = N → d + 1 ≤ m → τ 0 6 = nI N → (∀ k, k < N → τ 2 k = nI (op k) ∧ τ 3 k = nI (ar k) ∧ op k < 29) → (∀ k, k < N → ∃ q, q < 2 ∧ τ 26 k = nI q) → ∃ u, B_R_RangeTellerModel_wake_2 m (nI o) y (nI i) τ = some u ∧ u 0 58 = 1 ∧ (∀ c x, c ≠ 27 → ¬ (c = 0 ∧ x = 58) → u c x = τ c x) ∧ ∀ k, (fr_hit N op ar o y τ i k → u 27 k = 1) ∧ (¬ fr_hit N op ar o y τ i k → u 27 k = τ 27 k) := by
  intro d
  induction d with
  | zero =>
    intro i m τ hd hm h1 h2 h3
    obtain ⟨m, rfl⟩ : ∃ q, m = q + 1 := ⟨m - 1, by omega⟩
    refine ⟨rt_up τ 0 58 1, ?_, rq_s, fun c x _ q => by rw [rq_if, if_neg q], fun k => ⟨fun h => ?_, fun _ => by rw [rq_c (by decide)]⟩⟩
    · rw [B_R_RangeTellerModel_wake_2, h1, if_pos (nI_le (by omega) (by omega)), rq_put, rq_b]
    · unfold fr_hit at h; omega
  | succ d ih =>
    intro i m τ hd hm h1 h2 h3
    obtain ⟨m, rfl⟩ : ∃ q, m = q + 1 := ⟨m - 1, by omega⟩
    obtain ⟨p1, p2, p3⟩ := h2 i (by omega)
    obtain ⟨q, q2, q3⟩ := h3 i (by omega)
    by_cases z : fr_hit N op ar o y τ i i
    · obtain ⟨-, -, z1, z2, z3⟩ := z
      obtain ⟨u, a1, a0, a2, a3⟩ := ih (i + 1) m (rt_up τ 27 i 1) (by omega) (by omega) (by rw [rq_c (by decide)]; exact h1) (fun k hk => by rw [rq_c (by decide), rq_c (by decide)]; exact h2 k hk) (fun k hk => by rw [rq_c (by decide)]; exact h3 k hk)
      have q1 : q = 1 := (nI_eq (b := 1) (by omega) (by decide)).mp (q3.symm.trans z1)
      refine ⟨u, ?_, a0, fun c x b1 b2 => by rw [a2 c x b1 b2, rq_c b1], fun k => ⟨fun g => ?_, fun g => ?_⟩⟩
      · have e43 : B_R_RangeTellerModel_wake_43 (B_R_RangeTellerModel_wake_2 m) (nI o) y (nI i) τ = some u := by
          unfold B_R_RangeTellerModel_wake_43 B_R_RangeTellerModel_wake_50
          rw [rq_wr (n := 101) rfl (by omega) (by decide), rq_b, nI_1]; exact a1
        rw [B_R_RangeTellerModel_wake_2, h1, if_neg (nI_ge (by omega) (by omega)), rq_rd (n := 101) rfl (by omega) (by decide), rq_b, q3, if_neg (nI_ne0 (by omega) (by omega)), rq_rd (n := 100) rfl (by omega) (by decide), rq_b, p1, if_pos (by rw [z2]), rq_rd (n := 100) rfl (by omega) (by decide), rq_b, p2, e43]
        by_cases w : y < 0
        · rw [if_pos w]
        · rw [if_neg w, if_pos (z3.resolve_left w)]
      · by_cases w : k = i
        · subst w
          rw [(a3 k).2 (fun g' => by unfold fr_hit at g'; omega), rq_s]
        · exact (a3 k).1 (by unfold fr_hit at g ⊢; rw [rq_c (by decide)]; exact ⟨by omega, g.2⟩)
      · have w : k ≠ i := fun e => g (by rw [e]; exact ⟨Nat.le_refl _, by omega, z1, z2, z3⟩)
        rw [(a3 k).2 (fun g' => g (by unfold fr_hit at g' ⊢; rw [rq_c (by decide)] at g'; exact ⟨by omega, g'.2⟩)), rq_k w]
    · obtain ⟨u, a1, a0, a2, a3⟩ := ih (i + 1) m τ (by omega) (by omega) h1 h2 h3
      refine ⟨u, ?_, a0, a2, fun k => ⟨fun g => ?_, fun g => ?_⟩⟩
      · have e50 : B_R_RangeTellerModel_wake_50 (B_R_RangeTellerModel_wake_2 m) (nI o) y (nI i) τ = some u := by
          unfold B_R_RangeTellerModel_wake_50
          rw [nI_1]; exact a1
        rw [B_R_RangeTellerModel_wake_2, h1, if_neg (nI_ge (by omega) (by omega)), rq_rd (n := 101) rfl (by omega) (by decide), rq_b, q3, e50]
        by_cases w0 : q = 0
        · rw [if_pos (show nI q = 0 by rw [w0]; rfl)]
        · rw [if_neg (nI_ne0 (by omega) (by omega)), rq_rd (n := 100) rfl (by omega) (by decide), rq_b, p1]
          by_cases w1 : op i = o
          · rw [if_pos (by rw [w1])]
            by_cases w : y < 0
            · exact absurd ⟨Nat.le_refl _, by omega, by rw [q3, show q = 1 by omega]; rfl, w1, Or.inl w⟩ z
            · rw [if_neg w, rq_rd (n := 100) rfl (by omega) (by decide), rq_b, p2, if_neg (fun e => z ⟨Nat.le_refl _, by omega, by rw [q3, show q = 1 by omega]; rfl, w1, Or.inr e⟩)]
          · rw [if_neg (fun e => w1 ((nI_eq (by omega) (by omega)).mp e))]
      · have w : k ≠ i := fun e => z (by rw [e] at g; exact g)
        exact (a3 k).1 (by unfold fr_hit at g ⊢; exact ⟨by omega, g.2⟩)
      · exact (a3 k).2 (fun g' => g (by unfold fr_hit at g' ⊢; exact ⟨by omega, g'.2⟩))
theorem fr_wake (D : md_A F N op ar ow pa lo re fs hs gl bk kp L) (T : fr_M N F op ar ow en el pa lo re fs hs gl bk kp L τ) (V : ft_V F N ow pa lo re fs hs L A) (h26 : ∀ k, k < 100 → τ 26 k = nI (A 4 k).2.1) (ho : o < 100) (y : Int32) : ∃ u, M_R_RangeTellerModel_wake τ (nI o) y = some u ∧ u 0 58 = 1 ∧ (∀ c x, c ≠ 27 → ¬ (c = 0 ∧ x = 58) → u c x = τ c x) ∧ (∀ k, k < N → (A 4 k).2.1 = 1 → op k = o → (y < 0 ∨ nI (ar k) = y) → u 27 k = 1) ∧ ∀ k, u 27 k = τ 27 k ∨ u 27 k = 1 := by
  obtain ⟨⟨hN, hF1, hF3⟩, m1, m2, -⟩ := D
  obtain ⟨u, a1, a0, a2, a3⟩ := fr_wakeL (op := op) (ar := ar) hN ho y N 0 FU τ (by omega) (by show N + 1 ≤ 2000000; omega) T.2.2.1 (fun k hk => ⟨(T.1 k hk).1, (T.1 k hk).2.1, (m2 k hk).2.2.1⟩) (fun k hk => ⟨(A 4 k).2.1, by have := (V.2.1 4 k (Nat.le_refl _)).2.1; omega, h26 k (by omega)⟩)
  refine ⟨u, a1, a0, a2, fun k hk hr ho hy => (a3 k).1 ⟨Nat.zero_le _, hk, by rw [h26 k (by omega), hr]; rfl, ho, hy⟩, fun k => ?_⟩
  by_cases z : fr_hit N op ar o y τ 0 k
  · exact Or.inr ((a3 k).1 z)
  · exact Or.inl ((a3 k).2 z)
theorem fr_ending (D : md_A F N op ar ow pa lo re fs hs gl bk kp L) (G : fr_G N F op ar ow en el pa lo re fs hs gl bk kp L A τ) (K : fr_K h st vr τ) (hk : k < N) (hh : h ≤ 10) (hv : re (ow k) = 1 → 1 ≤ h ∧ ft_ok (st (h - 1))) : fr_R N F op ar ow en el pa lo re fs hs gl bk kp L A (ft_lv (ow k) (re (ow k)) (st (h - 1))) τ (M_R_RangeTellerModel_ending τ (nI k)) (fun _ => True) := by
  have D0 := D
  obtain ⟨⟨hN, hF1, hF3⟩, m1, m2, -⟩ := D
  obtain ⟨hf, -, -, -⟩ := m2 k hk
  obtain ⟨-, -, -, -, -, -, re1⟩ := m1 (ow k) hf
  obtain ⟨T, V, C⟩ := G
  obtain ⟨c1, c2, c3, c4, c5, c6⟩ := C
  obtain ⟨k1, k2, k3⟩ := K
  obtain ⟨-, -, t4, -, -, -⟩ := T.1 k hk
  obtain ⟨-, -, t13⟩ := T.2.1 (ow k) hf
  obtain ⟨e40, en, es⟩ := c4 (ow k) (by omega)
  have uu := V.u
  have V' := V.lv (f := ow k) (v := st (h - 1)) (fun e => (hv e).2)
  have fl := V.2.1 5 (ow k) (by decide)
  obtain ⟨A', hA'⟩ : ∃ A' : ft_S, A' = ft_J A (ft_lv (ow k) (re (ow k)) (st (h - 1))) := ⟨_, rfl⟩
  have n3 : A' 3 (ow k) = if re (ow k) = 1 then ft_j (A 3 (ow k)) (st (h - 1)) else A 3 (ow k) := by
    rw [hA']
    show ft_j (A 3 (ow k)) (ft_lv (ow k) (re (ow k)) (st (h - 1)) 3 (ow k)) = _
    rw [ft_lv_3]
    by_cases z : re (ow k) = 1
    · rw [if_pos z, if_pos z]
    · rw [if_neg z, if_neg z, ft_j_bot (uu 3 (ow k)).1]
  have n5 : A' 5 (ow k) = (0, 1, 0) := by
    rw [hA']
    show ft_j (A 5 (ow k)) (ft_lv (ow k) (re (ow k)) (st (h - 1)) 5 (ow k)) = _
    rw [ft_lv_5]
    unfold ft_j
    dsimp only
    rw [show min (A 5 (ow k)).1 0 = 0 by omega, show max (A 5 (ow k)).2.1 1 = 1 by omega, show max (A 5 (ow k)).2.2 0 = 0 by omega]
  have oth : ∀ c x, ¬ (c = 3 ∧ x = ow k) ∧ ¬ (c = 5 ∧ x = ow k) → A' c x = A c x := fun c x q => by
    rw [hA']
    show ft_j (A c x) (ft_lv (ow k) (re (ow k)) (st (h - 1)) c x) = _
    rw [ft_lv_o q, ft_j_bot (uu c x).1]
  -- what is written of the range; whether it grew
  obtain ⟨gr, hgr⟩ : ∃ gr : Nat, gr = if A' 3 (ow k) = A 3 (ow k) ∧ A' 5 (ow k) = A 5 (ow k) then 0 else 1 := ⟨_, rfl⟩
  have gr2 : gr < 2 := by
    rw [hgr]
    by_cases z : A' 3 (ow k) = A 3 (ow k) ∧ A' 5 (ow k) = A 5 (ow k)
    · rw [if_pos z]; decide
    · rw [if_neg z]; decide
  have s5 : A' 5 (ow k) = A 5 (ow k) ↔ (A 5 (ow k)).2.1 = 1 := by
    rw [n5]
    constructor
    · intro e; rw [← e]
    · intro e; exact (Prod.ext fl.1 (Prod.ext e fl.2.2)).symm
  obtain ⟨w, hw, wf⟩ : ∃ w, M_R_RangeTellerModel_ending τ (nI k) = B_R_RangeTellerModel_ending_246 (nI (ow k)) (nI gr) w ∧ ((∀ c x, ¬ ((37 ≤ c ∧ c ≤ 40) ∧ x = ow k) → w c x = τ c x) ∧ w 40 (ow k) = 1 ∧ (A' 3 (ow k) = ft_bot → w 37 (ow k) = 1 ∧ w 38 (ow k) = 0 ∧ w 39 (ow k) = 0) ∧ (A' 3 (ow k) ≠ ft_bot → fr_3 37 38 39 (ow k) (A' 3 (ow k)) w)) := by
    have e21 : M_R_RangeTellerModel_ending τ (nI k) = B_R_RangeTellerModel_ending_21 (nI (ow k)) (nI (1 - (A 5 (ow k)).2.1)) τ := by
      unfold M_R_RangeTellerModel_ending
      rw [rq_rd (n := 100) rfl (by omega) (by decide), rq_b, t4, rq_rd (n := 3) rfl (by omega) (by decide), rq_b, e40]
      by_cases z : (A 5 (ow k)).2.1 = 0
      · rw [if_pos (show nI (A 5 (ow k)).2.1 = 0 by rw [z]; rfl), z]
        rfl
      · rw [if_neg (nI_ne0 (by omega) (by omega)), show (A 5 (ow k)).2.1 = 1 by omega]
        rfl
    have t13' : (rt_up τ 40 (ow k) 1) 13 (ow k) = nI (re (ow k)) := by rw [rq_c (by decide)]; exact t13
    by_cases z : re (ow k) = 1
    · obtain ⟨h1, hok⟩ := hv z
      have hok' := hok
      unfold ft_ok at hok'
      obtain ⟨g1, g2, g3⟩ := k2 (h - 1) (by omega)
      have ix : (rt_up τ 40 (ow k) 1) 0 59 - 1 = nI (h - 1) := by rw [rq_c (by decide), k1, show h = h - 1 + 1 by omega, nI_pred, Nat.add_sub_cancel]
      rw [if_pos z] at n3
      -- was there a range before
      obtain ⟨first, hfirst⟩ : ∃ q : Nat, q = if A 3 (ow k) = ft_bot then 1 else 0 := ⟨_, rfl⟩
      have vA := V.1 3 (ow k) (by decide)
      have okA : A 3 (ow k) ≠ ft_bot → ft_ok (A 3 (ow k)) ∧ fr_3 37 38 39 (ow k) (A 3 (ow k)) τ := fun e => ⟨vA.resolve_left e, es e⟩
      have ok' : ft_ok (A' 3 (ow k)) := by
        rw [n3]
        by_cases y : A 3 (ow k) = ft_bot
        · rw [y, ft_bot_j (ft_v_le (Or.inr hok)).1]; exact hok
        · exact ft_j_ok (okA y).1 hok
      have nb : A' 3 (ow k) ≠ ft_bot := fun e => by
        rw [e] at ok'
        unfold ft_ok at ok'
        exact absurd ok'.1 (by decide)
      have e129 : ∀ gq : Nat, B_R_RangeTellerModel_ending_129 (nI (ow k)) (nI (h - 1)) (nI first) (nI gq) (rt_up τ 40 (ow k) 1) = B_R_RangeTellerModel_ending_246 (nI (ow k)) (nI gq) (fr_w 37 38 39 (ow k) (A' 3 (ow k)) (rt_up τ 40 (ow k) 1)) := fun gq => by
        have g1' : (rt_up τ 40 (ow k) 1) 41 (h - 1) = nI (st (h - 1)).1 := by rw [rq_c (by decide)]; exact g1
        have g2' : ∀ v, (rt_up (rt_up τ 40 (ow k) 1) 37 (ow k) v) 42 (h - 1) = nI (st (h - 1)).2.1 := fun v => by rw [rq_c (by decide), rq_c (by decide)]; exact g2
        have g3' : ∀ v v', (rt_up (rt_up (rt_up τ 40 (ow k) 1) 37 (ow k) v) 38 (ow k) v') 43 (h - 1) = nI (st (h - 1)).2.2 := fun v v' => by rw [rq_c (by decide), rq_c (by decide), rq_c (by decide)]; exact g3
        have last : ∀ t : Nat, t ≤ 1 → (A' 3 (ow k)).2.2 = t → B_R_RangeTellerModel_ending_245 (nI (ow k)) (nI gq) (nI t) (nI (ow k)) (rt_up (rt_up (rt_up τ 40 (ow k) 1) 37 (ow k) (nI (A' 3 (ow k)).1)) 38 (ow k) (nI (A' 3 (ow k)).2.1)) = B_R_RangeTellerModel_ending_246 (nI (ow k)) (nI gq) (fr_w 37 38 39 (ow k) (A' 3 (ow k)) (rt_up τ 40 (ow k) 1)) := fun t ht et => by
          unfold B_R_RangeTellerModel_ending_245 fr_w
          rw [fr_nar ht, rq_wr (n := 3) rfl (by omega) (by decide), rq_b, et]
        have k39 : τ 39 (ow k) = nI (A 3 (ow k)).2.2 := by
          by_cases y : A 3 (ow k) = ft_bot
          · rw [(en y).2.2, y]; rfl
          · exact (okA y).2.2.2
        have a39 : (A 3 (ow k)).2.2 ≤ 1 := (ft_v_le vA).2.2
        have e215 : B_R_RangeTellerModel_ending_215 (nI (ow k)) (nI gq) (nI (h - 1)) (nI (A' 3 (ow k)).2.1) (nI (ow k)) (rt_up (rt_up τ 40 (ow k) 1) 37 (ow k) (nI (A' 3 (ow k)).1)) = B_R_RangeTellerModel_ending_246 (nI (ow k)) (nI gq) (fr_w 37 38 39 (ow k) (A' 3 (ow k)) (rt_up τ 40 (ow k) 1)) := by
          have mt : (A' 3 (ow k)).2.2 = max (A 3 (ow k)).2.2 (st (h - 1)).2.2 := by rw [n3]; rfl
          have k39' : (rt_up (rt_up (rt_up τ 40 (ow k) 1) 37 (ow k) (nI (A' 3 (ow k)).1)) 38 (ow k) (nI (A' 3 (ow k)).2.1)) 39 (ow k) = nI (A 3 (ow k)).2.2 := by rw [rq_c (by decide), rq_c (by decide), rq_c (by decide)]; exact k39
          unfold B_R_RangeTellerModel_ending_215 B_R_RangeTellerModel_ending_240
          rw [rq_wr (n := 3) rfl (by omega) (by decide), rq_b, rq_rd (n := 3) rfl (by omega) (by decide), rq_b, k39']
          by_cases y : (A 3 (ow k)).2.2 = 0
          · rw [if_pos (show nI (A 3 (ow k)).2.2 = 0 by rw [y]; rfl), rq_rd (n := 12) rfl (by omega) (by decide), rq_b, g3']
            by_cases y2 : (st (h - 1)).2.2 = 0
            · rw [if_pos (show nI (st (h - 1)).2.2 = 0 by rw [y2]; rfl)]; exact last 0 (by decide) (by omega)
            · rw [if_neg (nI_ne0 (by omega) (by omega))]; exact last 1 (by decide) (by omega)
          · rw [if_neg (nI_ne0 (by omega) (by omega))]; exact last 1 (by decide) (by omega)
        have e172 : B_R_RangeTellerModel_ending_172 (nI (ow k)) (nI gq) (nI (h - 1)) (nI first) (nI (A' 3 (ow k)).1) (nI (ow k)) (rt_up τ 40 (ow k) 1) = B_R_RangeTellerModel_ending_246 (nI (ow k)) (nI gq) (fr_w 37 38 39 (ow k) (A' 3 (ow k)) (rt_up τ 40 (ow k) 1)) := by
          unfold B_R_RangeTellerModel_ending_172 B_R_RangeTellerModel_ending_199
          rw [rq_wr (n := 3) rfl (by omega) (by decide), rq_b]
          by_cases y : A 3 (ow k) = ft_bot
          · rw [hfirst, if_pos y, if_neg (by decide), rq_rd (n := 12) rfl (by omega) (by decide), rq_b, g2']
            have mm : (A' 3 (ow k)).2.1 = (st (h - 1)).2.1 := by rw [n3, y, ft_bot_j (ft_v_le (Or.inr hok)).1]
            rw [← mm]; exact e215
          · obtain ⟨o1, o2⟩ := okA y
            unfold ft_ok at o1
            have k38' : (rt_up (rt_up τ 40 (ow k) 1) 37 (ow k) (nI (A' 3 (ow k)).1)) 38 (ow k) = nI (A 3 (ow k)).2.1 := by rw [rq_c (by decide), rq_c (by decide)]; exact o2.2.1
            rw [hfirst, if_neg y, if_pos (show nI 0 = 0 from rfl), rq_rd (n := 12) rfl (by omega) (by decide), rq_b, g2', rq_rd (n := 3) rfl (by omega) (by decide), rq_b, k38']
            have mm : (A' 3 (ow k)).2.1 = max (A 3 (ow k)).2.1 (st (h - 1)).2.1 := by rw [n3]; rfl
            by_cases y2 : (st (h - 1)).2.1 ≤ (A 3 (ow k)).2.1
            · rw [if_pos (nI_le y2 (by omega)), rq_b]
              rw [Nat.max_eq_left y2] at mm
              rw [← mm]; exact e215
            · rw [if_neg (nI_ge (by omega) (by omega)), rq_b]
              rw [Nat.max_eq_right (by omega)] at mm
              rw [← mm]; exact e215
        unfold B_R_RangeTellerModel_ending_129 B_R_RangeTellerModel_ending_156
        by_cases y : A 3 (ow k) = ft_bot
        · rw [hfirst, if_pos y, if_neg (by decide), rq_rd (n := 12) rfl (by omega) (by decide), rq_b, g1']
          have mm : (A' 3 (ow k)).1 = (st (h - 1)).1 := by rw [n3, y, ft_bot_j (ft_v_le (Or.inr hok)).1]
          have e := e172
          rw [hfirst, if_pos y, mm] at e
          exact e
        · obtain ⟨o1, o2⟩ := okA y
          unfold ft_ok at o1
          have k37' : (rt_up τ 40 (ow k) 1) 37 (ow k) = nI (A 3 (ow k)).1 := by rw [rq_c (by decide)]; exact o2.1
          have e := e172
          rw [hfirst, if_neg y] at e
          rw [hfirst, if_neg y, if_pos (show nI 0 = 0 from rfl), rq_rd (n := 12) rfl (by omega) (by decide), rq_b, g1', rq_rd (n := 3) rfl (by omega) (by decide), rq_b, k37']
          have mm : (A' 3 (ow k)).1 = min (A 3 (ow k)).1 (st (h - 1)).1 := by rw [n3]; rfl
          by_cases y2 : (A 3 (ow k)).1 ≤ (st (h - 1)).1
          · rw [if_pos (nI_le y2 (by omega)), rq_b]
            rw [Nat.min_eq_left y2] at mm
            rw [mm] at e
            exact e
          · rw [if_neg (nI_ge (by omega) (by omega)), rq_b]
            rw [Nat.min_eq_right (by omega)] at mm
            rw [mm] at e
            exact e
      have e67 : B_R_RangeTellerModel_ending_67 (nI (ow k)) (nI (1 - (A 5 (ow k)).2.1)) (nI (h - 1)) (nI first) (rt_up τ 40 (ow k) 1) = B_R_RangeTellerModel_ending_246 (nI (ow k)) (nI gr) (fr_w 37 38 39 (ow k) (A' 3 (ow k)) (rt_up τ 40 (ow k) 1)) := by
        have e1 : B_R_RangeTellerModel_ending_124 (nI (ow k)) (nI (h - 1)) (nI first) (rt_up τ 40 (ow k) 1) = _ := e129 1
        have e0 : B_R_RangeTellerModel_ending_128 (nI (ow k)) (nI (h - 1)) (nI first) (rt_up τ 40 (ow k) 1) = _ := e129 0
        unfold B_R_RangeTellerModel_ending_67
        by_cases y : (A 5 (ow k)).2.1 = 1
        · have okk := V.2.2.2.2.1 (ow k) hf y z
          have yb : A 3 (ow k) ≠ ft_bot := fun e => by
            rw [e] at okk
            unfold ft_ok at okk
            exact absurd okk.1 (by decide)
          obtain ⟨o1, o2, o3, o4⟩ := okA yb
          have o1' := o1
          unfold ft_ok at o1'
          have k37' : (rt_up τ 40 (ow k) 1) 37 (ow k) = nI (A 3 (ow k)).1 := by rw [rq_c (by decide)]; exact o2
          have k38' : (rt_up τ 40 (ow k) 1) 38 (ow k) = nI (A 3 (ow k)).2.1 := by rw [rq_c (by decide)]; exact o3
          have k39' : (rt_up τ 40 (ow k) 1) 39 (ow k) = nI (A 3 (ow k)).2.2 := by rw [rq_c (by decide)]; exact o4
          have g1' : (rt_up τ 40 (ow k) 1) 41 (h - 1) = nI (st (h - 1)).1 := by rw [rq_c (by decide)]; exact g1
          have g2' : (rt_up τ 40 (ow k) 1) 42 (h - 1) = nI (st (h - 1)).2.1 := by rw [rq_c (by decide)]; exact g2
          have g3' : (rt_up τ 40 (ow k) 1) 43 (h - 1) = nI (st (h - 1)).2.2 := by rw [rq_c (by decide)]; exact g3
          have grow : ¬ ft_le (st (h - 1)) (A 3 (ow k)) → gr = 1 := fun q => by
            rw [hgr, if_neg (fun e => q (by rw [← e.1, n3]; exact ft_j_r))]
          have stay : ft_le (st (h - 1)) (A 3 (ow k)) → gr = 0 := fun q => by
            rw [hgr, if_pos ⟨by rw [n3]; exact ft_j_of q, s5.mpr y⟩]
          rw [y, if_pos (show nI (1 - 1) = 0 from rfl), rq_rd (n := 12) rfl (by omega) (by decide), rq_b, g1', rq_rd (n := 3) rfl (by omega) (by decide), rq_b, k37', e1, e0]
          by_cases y1 : (st (h - 1)).1 < (A 3 (ow k)).1
          · rw [if_pos (nI_lt y1 (by omega)), grow (fun q => by have := q.1; omega)]
          · rw [if_neg (nI_nlt (by omega) (by omega)), rq_rd (n := 12) rfl (by omega) (by decide), rq_b, g2', rq_rd (n := 3) rfl (by omega) (by decide), rq_b, k38']
            by_cases y2 : (A 3 (ow k)).2.1 < (st (h - 1)).2.1
            · rw [if_pos (nI_lt y2 (by omega)), grow (fun q => by have := q.2.1; omega)]
            · rw [if_neg (nI_nlt (by omega) (by omega)), rq_rd (n := 12) rfl (by omega) (by decide), rq_b, g3']
              by_cases y3 : (st (h - 1)).2.2 = 0
              · rw [if_pos (show nI (st (h - 1)).2.2 = 0 by rw [y3]; rfl), stay ⟨by omega, by omega, by omega⟩]
              · rw [if_neg (nI_ne0 (by omega) (by omega)), rq_rd (n := 3) rfl (by omega) (by decide), rq_b, k39']
                by_cases y4 : (A 3 (ow k)).2.2 = 0
                · rw [if_pos (show nI (A 3 (ow k)).2.2 = 0 by rw [y4]; rfl), grow (fun q => by have := q.2.2; omega)]
                · rw [if_neg (nI_ne0 (by omega) (by omega)), stay ⟨by omega, by omega, by omega⟩]
        · rw [if_neg (nI_ne0 (by omega) (by omega)), e1, hgr, if_neg (fun e => y (s5.mp e.2))]
      refine ⟨fr_w 37 38 39 (ow k) (A' 3 (ow k)) (rt_up τ 40 (ow k) 1), ?_, fun c x q => ?_, ?_, fun e => absurd e nb, fun _ => ⟨?_, ?_, ?_⟩⟩
      · rw [e21]
        unfold B_R_RangeTellerModel_ending_21
        rw [rq_wr (n := 3) rfl (by omega) (by decide), rq_b, rq_rd (n := 3) rfl (by omega) (by decide), rq_b, t13', if_pos (show nI (re (ow k)) = 1 by rw [z]; rfl), ix, rq_rd (n := 3) rfl (by omega) (by decide), rq_b, rq_rd (n := 3) rfl (by omega) (by decide), rq_b]
        have k37' : (rt_up τ 40 (ow k) 1) 37 (ow k) = τ 37 (ow k) := rq_c (by decide)
        have k38' : (rt_up τ 40 (ow k) 1) 38 (ow k) = τ 38 (ow k) := rq_c (by decide)
        rw [k37', k38']
        have e := e67
        by_cases y : A 3 (ow k) = ft_bot
        · rw [hfirst, if_pos y] at e
          rw [(en y).1, (en y).2.1, if_neg (by decide)]
          exact e
        · obtain ⟨o1, o2, o3, o4⟩ := okA y
          unfold ft_ok at o1
          rw [hfirst, if_neg y] at e
          rw [o2, o3, if_pos (nI_le o1.1 (by omega))]
          exact e
      · rw [fr_w_f (by omega), rq_if, if_neg (by omega)]
      · rw [fr_w_f (by omega), rq_s]
      · unfold fr_w; rw [rq_c (by decide), rq_c (by decide), rq_s]
      · unfold fr_w; rw [rq_c (by decide), rq_s]
      · unfold fr_w; rw [rq_s]
    · rw [if_neg z] at n3
      have eg : gr = 1 - (A 5 (ow k)).2.1 := by
        rw [hgr]
        by_cases y : (A 5 (ow k)).2.1 = 1
        · rw [if_pos ⟨n3, s5.mpr y⟩, y]
        · rw [if_neg (fun e => y (s5.mp e.2))]; omega
      refine ⟨rt_up τ 40 (ow k) 1, ?_, fun c x q => by rw [rq_if, if_neg (by omega)], rq_s, fun e => ?_, fun e => ?_⟩
      · rw [e21]
        unfold B_R_RangeTellerModel_ending_21
        rw [rq_wr (n := 3) rfl (by omega) (by decide), rq_b, rq_rd (n := 3) rfl (by omega) (by decide), rq_b, t13', if_neg (show ¬ nI (re (ow k)) = 1 from fun e => z ((nI_eq (b := 1) (by omega) (by decide)).mp e)), eg]
      · rw [rq_c (by decide), rq_c (by decide), rq_c (by decide)]; exact en (by rw [← n3]; exact e)
      · rw [n3] at e ⊢
        exact (es e).ne (rq_c (by decide)) (rq_c (by decide)) (rq_c (by decide))
  obtain ⟨w1, w2, w3, w4⟩ := wf
  have Cw : fr_P N ow pa lo hs A' w := by
    refine ⟨fun q hq => ?_, fun q hq hr => ?_, fun x hx => ?_, fun g hg => ?_, fun q hq => ?_, ?_⟩
    · rw [w1 26 q (by omega), oth 4 q ⟨by omega, by omega⟩]; exact c1 q hq
    · rw [oth 4 q ⟨by omega, by omega⟩] at hr
      obtain ⟨b1, b2⟩ := c2 q hq hr
      refine ⟨fun i hi => ?_, fun i hi => ?_⟩
      · rw [oth 0 _ ⟨by omega, by omega⟩]; exact (b1 i hi).ne (w1 _ _ (by omega)) (w1 _ _ (by omega)) (w1 _ _ (by omega))
      · rw [oth 1 _ ⟨by omega, by omega⟩]; exact (b2 i hi).ne (w1 _ _ (by omega)) (w1 _ _ (by omega)) (w1 _ _ (by omega))
    · rw [oth 2 x ⟨by omega, by omega⟩]; exact (c3 x hx).ne (w1 _ _ (by omega)) (w1 _ _ (by omega)) (w1 _ _ (by omega))
    · by_cases y : g = ow k
      · subst y
        refine ⟨by rw [w2, n5]; rfl, w3, w4⟩
      · rw [oth 3 g ⟨by omega, by omega⟩, oth 5 g ⟨by omega, by omega⟩, w1 40 g (by omega), w1 37 g (by omega), w1 38 g (by omega), w1 39 g (by omega)]
        exact ⟨(c4 g hg).1, (c4 g hg).2.1, fun e => ((c4 g hg).2.2 e).ne (w1 _ _ (by omega)) (w1 _ _ (by omega)) (w1 _ _ (by omega))⟩
    · rw [w1 27 q (by omega)]; exact c5 q hq
    · rw [w1 0 58 (by omega)]; exact c6
  have Aw : rq_A fr_A τ w := fun c x q => w1 c x (by unfold fr_A at q; omega)
  unfold fr_R
  rw [← hA'] at V' ⊢
  rw [hw]
  unfold B_R_RangeTellerModel_ending_246
  by_cases S : A' 3 (ow k) = A 3 (ow k) ∧ A' 5 (ow k) = A 5 (ow k)
  · rw [hgr, if_pos S, if_pos (show nI 0 = 0 from rfl)]
    have e : A' = A := funext fun c => funext fun x => by
      by_cases z3 : c = 3 ∧ x = ow k
      · obtain ⟨rfl, rfl⟩ := z3; exact S.1
      by_cases z5 : c = 5 ∧ x = ow k
      · obtain ⟨rfl, rfl⟩ := z5; exact S.2
      exact oth c x ⟨z3, z5⟩
    refine ⟨w, rfl, Aw, ⟨T.keep Aw, V', Cw⟩, ?_, Or.inl ⟨e, w1 0 58 (by omega)⟩, trivial⟩
    rw [hA'] at V' S ⊢
    exact ft_E_lv V V' (by omega) (Or.inl ⟨S, fun i _ => by unfold fr_W; rw [w1 27 i (by omega)]⟩)
  · rw [hgr, if_neg S, if_neg (by decide)]
    obtain ⟨x, x1, x2, x3, x4, x5⟩ := fr_wake (o := 9) (A := A') D0 (T.keep Aw) V' Cw.1 (by decide) (nI (ow k))
    have x1' : M_R_RangeTellerModel_wake w 9 (nI (ow k)) = some x := x1
    rw [x1', rq_b]
    have Ax : rq_A fr_A w x := fun c y q => x3 c y (by unfold fr_A at q; omega) (by unfold fr_A at q; omega)
    have E : ft_E N op ar A (fr_W τ) A' (fr_W x) := by
      rw [hA'] at V' S ⊢
      refine ft_E_lv V V' (by omega) (Or.inr ⟨S, fun i _ g => ?_, fun j hj hr ho ha => ?_⟩)
      · unfold fr_W at g ⊢
        rcases x5 i with e | e
        · rw [e, w1 27 i (by omega)]; exact g
        · exact e
      · exact x4 j hj (by rw [oth 4 j ⟨by omega, by omega⟩]; exact hr) ho (Or.inr (by rw [ha]))
    refine ⟨x, rfl, Aw.tr Ax, ⟨T.keep (Aw.tr Ax), V', ?_⟩, E, Or.inr ⟨x2, ?_⟩, trivial⟩
    · obtain ⟨d1, d2, d3, d4, d5, d6⟩ := Cw
      have f3 : ∀ c y, c ≠ 27 → ¬ (c = 0 ∧ y = 58) → x c y = w c y := x3
      refine ⟨fun q hq => by rw [f3 26 q (by decide) (by omega)]; exact d1 q hq, fun q hq hr => ⟨fun i hi => ((d2 q hq hr).1 i hi).ne (f3 _ _ (by decide) (by omega)) (f3 _ _ (by decide) (by omega)) (f3 _ _ (by decide) (by omega)), fun i hi => ((d2 q hq hr).2 i hi).ne (f3 _ _ (by decide) (by omega)) (f3 _ _ (by decide) (by omega)) (f3 _ _ (by decide) (by omega))⟩, fun y hy => (d3 y hy).ne (f3 _ _ (by decide) (by omega)) (f3 _ _ (by decide) (by omega)) (f3 _ _ (by decide) (by omega)), fun g hg => ⟨by rw [f3 40 g (by decide) (by omega)]; exact (d4 g hg).1, fun e => by rw [f3 37 g (by decide) (by omega), f3 38 g (by decide) (by omega), f3 39 g (by decide) (by omega)]; exact (d4 g hg).2.1 e, fun e => ((d4 g hg).2.2 e).ne (f3 _ _ (by decide) (by omega)) (f3 _ _ (by decide) (by omega)) (f3 _ _ (by decide) (by omega))⟩, fun q hq => ?_, Or.inr x2⟩
      rcases x5 q with e | e
      · rw [e]; exact d5 q hq
      · exact Or.inr e
    · rcases E.2.2.2.2.2 with ⟨e, -⟩ | e
      · exfalso; rw [e] at S; exact S ⟨rfl, rfl⟩
      · exact e
end FRC
