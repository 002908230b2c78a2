/-! foretelling, the class: any instruction; the scan -/
section FCG
variable {N F a h m k o : Nat} {op ar ow pa lo re fs hs gl bk kp : Nat → Nat} {L : Nat → Prop} {A X Y Z : ft_S} {P st st' vr vr' ce : Nat → ft_G} {r v p q : ft_G} {σ u : rt_St}
theorem fc_case {o : Nat} (h0 : ¬ o = 0) (h1 : ¬ o = 1) (h2 : ¬ o = 2) (h3 : ¬ o = 3) (h7 : ¬ o = 7) (h8 : o ≤ 8) : o = 4 ∨ o = 5 ∨ o = 6 ∨ o = 8 := by omega
theorem fc_case8 {o : Nat} (h : o = 4 ∨ o = 5 ∨ o = 6 ∨ o = 8) (h4 : ¬ o = 4) (h5 : ¬ o = 5) (h6 : ¬ o = 6) : o = 8 := by omega
/-- the ops that take and give, and what lies behind them -/
theorem fc_opAll (D : md_A F N op ar ow pa lo re fs hs gl bk kp L) (G : fc_G N F op ar ow pa lo re fs hs gl bk kp L A Z P σ) (K : fc_K (hs k) st vr σ) (hk : k < N) (hL : L k) (h10 : 10 ≤ op k) (s1 : ∀ i, i < hs k → ft_ok (st i)) (v1 : ∀ i, i < pa (ow k) + lo (ow k) → ft_ok (vr i)) (hc : op k = 15 → ∀ x, x < 16 → ft_ok (ce x) ∧ σ 32 x = ft_c (ce x)) : fc_R N F op ar ow pa lo re fs hs gl bk kp L A (ft_J (if op k = 16 then ft_sto (ar k) (st (hs k - 2)) (st (hs k - 1)) else ft_0) (ft_opr (op k) (ar k) (hs k) (k + 1) (pa (ow k) + lo (ow k)) st vr ce)) Z σ (rt_b2 (M_C_Foreteller_operate σ (nI (op k)) (nI (ar k))) fun v5 σ4 => if v5 = 0 then some σ4 else (M_C_Foreteller_arrive σ4 (nI (k + 1))).bind fun σ6 => some σ6) (fun _ => True) := by
  have D0 := D
  obtain ⟨⟨hN, hF1, hF3⟩, m1, m2, m3⟩ := D
  obtain ⟨owF, hs10, o29, a64⟩ := m2 k hk
  obtain ⟨-, -, -, -, pa2, lo2, -⟩ := m1 (ow k) owF
  obtain ⟨-, -, -, -, K10⟩ := m3 k hk hL
  obtain ⟨t1, go, lcl⟩ := K10 h10
  have g10 := (m2 (k + 1) go.1).2.1
  have g3 := go.2.2.1
  by_cases z : op k = 16
  · rw [if_pos z]
    have t2 : 2 ≤ hs k := by rw [z] at t1; exact t1
    obtain ⟨m, hm⟩ : ∃ m, hs k = m + 1 + 1 := ⟨hs k - 2, by omega⟩
    rw [hm] at K s1
    rw [z, hm] at go
    have go' : wf_go N fs ow hs L k (k + 1) m := go
    obtain ⟨w, e1, e2, e3, e4, e5⟩ := fc_store (a := ar k) D0 G K (by omega) a64 (s1 m (by omega)) (s1 (m + 1) (by omega))
    have eo : M_C_Foreteller_operate σ (nI 16) (nI (ar k)) = some (if (st m).1 + ar k < 16 then 1 else 0, w) := by
      unfold M_C_Foreteller_operate
      rw [if_neg (by decide), if_neg (by decide), if_neg (by decide), if_neg (by decide), if_neg (by decide), if_neg (by decide), if_pos (show nI 16 = 16 from rfl), e1, rq_b2]
      by_cases y : (st m).1 + ar k < 16
      · rw [if_pos y]; rfl
      · rw [if_neg y]; rfl
    rw [z, hm, show m + 1 + 1 - 2 = m from rfl, show m + 1 + 1 - 1 = m + 1 from rfl, eo, rq_b2]
    have first : fc_R N F op ar ow pa lo re fs hs gl bk kp L A (ft_sto (ar k) (st m) (st (m + 1))) Z σ (some w) (fun x => x = w) := ⟨w, P, rfl, e2, e3, e4, rfl⟩
    unfold ft_opr
    by_cases y : (st m).1 + ar k < 16
    · rw [if_neg (show ¬ (((16 = 15 ∨ (19 ≤ 16 ∧ 16 ≤ 26)) ∧ (ft_val 16 (ar k) (m + 1 + 1) st vr ce).1 = 64) ∨ (16 = 16 ∧ 16 ≤ (st (m + 1 + 1 - 2)).1 + ar k)) from fun g => by
        rcases g with g | g
        · omega
        · have g2 : 16 ≤ (st m).1 + ar k := g.2
          omega), if_pos y, if_neg (by decide)]
      refine fc_R.seq (g := fun x => (M_C_Foreteller_arrive x (nI (k + 1))).bind fun σ6 => some σ6) first (fun x Px _ a2 a3 => ?_)
      subst a3
      have K' : fc_K m (fun i => if i = m + 1 + 1 - ck_tk 16 then ft_val 16 (ar k) (m + 1 + 1) st vr ce else st i) (fun i => if (16 = 13 ∨ 16 = 14) ∧ i = ar k then st (m + 1 + 1 - 1) else vr i) x := e5.cg (fun i hi => if_neg (show ¬ i = m by omega)) (fun i hi => if_neg (fun g => absurd g.1 (by decide)))
      exact (fc_arr D0 a2 K' go' (fun i hi => by
        have e : (if i = m + 1 + 1 - ck_tk 16 then ft_val 16 (ar k) (m + 1 + 1) st vr ce else st i) = st i := if_neg (show ¬ i = m by omega)
        rw [e]; exact s1 i (by omega)) (fun i hi => by
        have e : (if ((16 : Nat) = 13 ∨ (16 : Nat) = 14) ∧ i = ar k then st (m + 1 + 1 - 1) else vr i) = vr i := if_neg (fun g => absurd g.1 (by decide))
        rw [e]; exact v1 i hi)).sm
    · rw [if_pos (show (((16 = 15 ∨ (19 ≤ 16 ∧ 16 ≤ 26)) ∧ (ft_val 16 (ar k) (m + 1 + 1) st vr ce).1 = 64) ∨ (16 = 16 ∧ 16 ≤ (st (m + 1 + 1 - 2)).1 + ar k)) from Or.inr ⟨rfl, show 16 ≤ (st m).1 + ar k by omega⟩), if_neg y, if_pos rfl]
      exact fc_R.seq (g := fun x => some x) first (fun x Px _ a2 a3 => fc_R.nil a2 trivial)
  · rw [if_neg z]
    have all : fc_op (op k) (ar k) (hs k) st vr ce σ := by
      by_cases y : op k = 10
      · rw [y, show ck_tk 10 = 1 from rfl] at t1
        rw [y, show ck_tk 10 = 1 from rfl, show ck_gv 10 = 0 from rfl] at g3
        obtain ⟨m, hm⟩ : ∃ m, hs k = m + 1 := ⟨hs k - 1, by omega⟩
        rw [hm] at K s1
        rw [y, hm]
        exact fc_op10 K (by omega)
      by_cases y : op k = 11
      · rw [y, show ck_tk 11 = 3 from rfl] at t1
        rw [y, show ck_tk 11 = 3 from rfl, show ck_gv 11 = 1 from rfl] at g3
        obtain ⟨m, hm⟩ : ∃ m, hs k = m + 1 + 1 + 1 := ⟨hs k - 3, by omega⟩
        rw [hm] at K s1
        rw [y, hm]
        exact fc_op11 K (by omega) s1
      by_cases y : op k = 12
      · rw [y, show ck_tk 12 = 0 from rfl] at t1
        rw [y, show ck_tk 12 = 0 from rfl, show ck_gv 12 = 1 from rfl] at g3
        obtain ⟨m, hm⟩ : ∃ m, hs k = m := ⟨hs k - 0, by omega⟩
        rw [hm] at K s1
        rw [y, hm]
        exact fc_op12 K (by omega) (by have := lcl (by omega) (by omega); omega)
      by_cases y : op k = 13
      · rw [y, show ck_tk 13 = 1 from rfl] at t1
        rw [y, show ck_tk 13 = 1 from rfl, show ck_gv 13 = 0 from rfl] at g3
        obtain ⟨m, hm⟩ : ∃ m, hs k = m + 1 := ⟨hs k - 1, by omega⟩
        rw [hm] at K s1
        rw [y, hm]
        exact fc_op13 K (by omega) (by have := lcl (by omega) (by omega); omega)
      by_cases y : op k = 14
      · rw [y, show ck_tk 14 = 1 from rfl] at t1
        rw [y, show ck_tk 14 = 1 from rfl, show ck_gv 14 = 1 from rfl] at g3
        obtain ⟨m, hm⟩ : ∃ m, hs k = m + 1 := ⟨hs k - 1, by omega⟩
        rw [hm] at K s1
        rw [y, hm]
        exact fc_op14 K (by omega) (by have := lcl (by omega) (by omega); omega)
      by_cases y : op k = 15
      · rw [y, show ck_tk 15 = 1 from rfl] at t1
        rw [y, show ck_tk 15 = 1 from rfl, show ck_gv 15 = 1 from rfl] at g3
        obtain ⟨m, hm⟩ : ∃ m, hs k = m + 1 := ⟨hs k - 1, by omega⟩
        rw [hm] at K s1
        rw [y, hm]
        exact fc_op15 K (by omega) a64 (s1 m (by omega)) (hc y)
      by_cases y : op k = 17
      · rw [y, show ck_tk 17 = 0 from rfl] at t1
        rw [y, show ck_tk 17 = 0 from rfl, show ck_gv 17 = 1 from rfl] at g3
        obtain ⟨m, hm⟩ : ∃ m, hs k = m := ⟨hs k - 0, by omega⟩
        rw [hm] at K s1
        rw [y, hm]
        exact fc_op17 K (by omega) a64
      by_cases y : op k = 18
      · rw [y, show ck_tk 18 = 1 from rfl] at t1
        rw [y, show ck_tk 18 = 1 from rfl, show ck_gv 18 = 1 from rfl] at g3
        obtain ⟨m, hm⟩ : ∃ m, hs k = m + 1 := ⟨hs k - 1, by omega⟩
        rw [hm] at K s1
        rw [y, hm]
        exact fc_op18 K (by omega) (s1 m (by omega))
      by_cases y : op k = 27
      · rw [y, show ck_tk 27 = 0 from rfl] at t1
        rw [y, show ck_tk 27 = 0 from rfl, show ck_gv 27 = 1 from rfl] at g3
        obtain ⟨m, hm⟩ : ∃ m, hs k = m := ⟨hs k - 0, by omega⟩
        rw [hm] at K s1
        rw [y, hm]
        exact fc_op27 K (by omega)
      by_cases y : op k = 28
      · rw [y, show ck_tk 28 = 1 from rfl] at t1
        rw [y, show ck_tk 28 = 1 from rfl, show ck_gv 28 = 0 from rfl] at g3
        obtain ⟨m, hm⟩ : ∃ m, hs k = m + 1 := ⟨hs k - 1, by omega⟩
        rw [hm] at K s1
        rw [y, hm]
        exact fc_op28 K (by omega)
      have y : 19 ≤ op k ∧ op k ≤ 26 := by omega
      have tt : ck_tk (op k) = 2 ∧ ck_gv (op k) = 1 := by
        have : ∀ o, 19 ≤ o → o ≤ 26 → ck_tk o = 2 ∧ ck_gv o = 1 := fun o x1 x2 => by
          rcases (show o = 19 ∨ o = 20 ∨ o = 21 ∨ o = 22 ∨ o = 23 ∨ o = 24 ∨ o = 25 ∨ o = 26 by omega) with rfl | rfl | rfl | rfl | rfl | rfl | rfl | rfl <;> exact ⟨rfl, rfl⟩
        exact this _ y.1 y.2
      rw [tt.1] at t1
      obtain ⟨m, hm⟩ : ∃ m, hs k = m + 1 + 1 := ⟨hs k - 2, by omega⟩
      rw [hm] at K s1
      rw [hm]
      exact fc_opr2 K (by omega) y.1 y.2 (s1 m (by omega)) (s1 (m + 1) (by omega))
    refine fc_R.seq (g := fun w => rt_b2 (M_C_Foreteller_operate w (nI (op k)) (nI (ar k))) fun v5 σ4 => if v5 = 0 then some σ4 else (M_C_Foreteller_arrive σ4 (nI (k + 1))).bind fun σ6 => some σ6) (o1 := some σ) (fc_R.nil (Q := fun w => w = σ) G rfl) (fun w Pw _ a2 a3 => ?_)
    subst a3
    unfold ft_opr
    rcases all with ⟨n1, x, e1, e2, e3, e4⟩ | ⟨n1, x, e1, e2, e3⟩
    · rw [if_neg (show ¬ (((op k = 15 ∨ (19 ≤ op k ∧ op k ≤ 26)) ∧ (ft_val (op k) (ar k) (hs k) st vr ce).1 = 64) ∨ (op k = 16 ∧ 16 ≤ (st (hs k - 2)).1 + ar k)) from fun g => g.elim n1 (fun g => z g.1)), e1, rq_b2, if_neg (by decide)]
      have ok : ft_v (ft_val (op k) (ar k) (hs k) st vr ce) := (ft_val_mono (a := ar k) (by omega : 10 ≤ op k) t1 lcl a64 s1 s1 (fun i _ => ft_le.rf) v1 (fun i _ => ft_le.rf) (fun e x hx => (hc e x hx).1) (fun _ x _ => ft_le.rf)).2
      refine fc_R.pre e2 (fun i => e3 35 i (by decide) (by decide)) (fc_arr D0 (a2.keep e2 e3) e4 go (fun i hi => ?_) (fun i hi => ?_)).sm
      · by_cases y : i = hs k - ck_tk (op k)
        · rw [if_pos y]
          refine ft_ok_of ok ?_
          have gv1 : ck_gv (op k) = 1 := by
            have := (ck_tab (op k) o29 h10).2.2.2.2.1
            omega
          have oo : op k ≠ 10 ∧ op k ≠ 13 ∧ op k ≠ 28 := by
            refine ⟨fun e => ?_, fun e => ?_, fun e => ?_⟩
            · rw [e] at gv1; exact absurd gv1 (by decide)
            · rw [e] at gv1; exact absurd gv1 (by decide)
            · rw [e] at gv1; exact absurd gv1 (by decide)
          by_cases y2 : op k = 15 ∨ (19 ≤ op k ∧ op k ≤ 26)
          · have := (ft_v_le ok).1
            have n2 : (ft_val (op k) (ar k) (hs k) st vr ce).1 ≠ 64 := fun e => n1 ⟨y2, e⟩
            omega
          · have lt : ft_ok (ft_val (op k) (ar k) (hs k) st vr ce) := by
              rcases (show op k = 11 ∨ op k = 12 ∨ op k = 14 ∨ op k = 17 ∨ op k = 18 ∨ op k = 27 by omega) with e | e | e | e | e | e
              · rw [e] at t1 ⊢
                have t3 : 3 ≤ hs k := t1
                exact (ft_pick (s1 _ (by omega)) (s1 _ (by omega)) (s1 _ (by omega))).2
              · have := lcl (by omega) (by omega)
                rw [e]; exact v1 _ this
              · rw [e] at t1 ⊢
                have t3 : 1 ≤ hs k := t1
                exact s1 (hs k - 1) (by omega)
              · rw [e]
                show ft_ok (ar k, ar k, 0)
                unfold ft_ok; dsimp only; omega
              · rw [e] at t1 ⊢
                have t3 : 1 ≤ hs k := t1
                exact ft_nt_ok (s1 (hs k - 1) (by omega))
              · rw [e]
                show ft_ok (0, 63, 1)
                unfold ft_ok; decide
            unfold ft_ok at lt
            omega
        · rw [if_neg y]; exact s1 i (by have := (ck_tab (op k) o29 h10).2.2.2.2.1; omega)
      · by_cases y : (op k = 13 ∨ op k = 14) ∧ i = ar k
        · rw [if_pos y]
          have t3 : 1 ≤ hs k := by
            rcases y.1 with e | e
            · rw [e] at t1; exact t1
            · rw [e] at t1; exact t1
          exact s1 _ (by omega)
        · rw [if_neg y]; exact v1 i hi
    · rw [if_pos (Or.inl n1), e1, rq_b2, if_pos rfl]
      exact fc_R.pre e2 (fun i => e3 35 i (by decide) (by decide)) (fc_R.nil (a2.keep e2 e3) trivial)
theorem fc_follow (D : md_A F N op ar ow pa lo re fs hs gl bk kp L) (G : fc_G N F op ar ow pa lo re fs hs gl bk kp L A A P σ) (K : fc_K (hs k) (ft_st A k) (ft_vr A k) σ) (hk : k < N) (hr : (A 4 k).2.1 = 1) : fc_R N F op ar ow pa lo re fs hs gl bk kp L A (ft_X op ar ow pa lo re fs hs gl bk kp A k) (ft_J A (ft_X op ar ow pa lo re fs hs gl bk kp A k)) σ (M_C_Foreteller_follow σ (nI k)) (fun _ => True) := by
  have D0 := D
  obtain ⟨⟨hN, hF1, hF3⟩, m1, m2, m3⟩ := D
  obtain ⟨owF, h10, o29, a64⟩ := m2 k hk
  obtain ⟨-, -, -, -, pa2, lo2, -⟩ := m1 (ow k) owF
  have V := G.2.1
  obtain ⟨hL, a1, a2⟩ := V.rc hk hr
  obtain ⟨K1, K3, K4, K9, K10⟩ := m3 k hk hL
  obtain ⟨t2, t3, -⟩ := G.1.1 k hk
  have ne : ∀ j : Nat, j < 100 → op k ≠ j → ¬ nI (op k) = nI j := fun j hj h e => h ((nI_eq (by omega) (by omega)).mp e)
  have s1 : ∀ i, i < hs k → ft_ok (ft_st A k i) := fun i hi => by unfold ft_st; rw [if_pos (by omega)]; exact a1 i hi
  have v1 : ∀ i, i < pa (ow k) + lo (ow k) → ft_ok (ft_vr A k i) := fun i hi => by unfold ft_vr; rw [if_pos (by omega)]; exact a2 i hi
  unfold ft_X ft_Y M_C_Foreteller_follow
  rw [rq_rd (n := 100) rfl (by omega) (by decide), rq_b, t2]
  by_cases z : op k = 0
  · rw [if_pos z, if_pos (show nI (op k) = 0 by rw [z]; rfl)]
    exact (fc_R.nil G trivial).up ft_J_l
  rw [if_neg z, if_neg (show ¬ nI (op k) = 0 from ne 0 (by decide) z), nI_1]
  by_cases z1 : op k = 1
  · rw [if_pos (by omega), if_pos (show nI (op k) = 1 by rw [z1]; rfl)]
    exact (fc_arr D0 G K (K1 (Or.inl z1)) s1 v1).sm.up ft_J_l
  rw [if_neg (show ¬ nI (op k) = 1 from ne 1 (by decide) z1)]
  by_cases z2 : op k = 2
  · rw [if_pos (by omega), if_pos (show nI (op k) = 2 by rw [z2]; rfl)]
    exact (fc_arr D0 G K (K1 (Or.inr z2)) s1 v1).sm.up ft_J_l
  rw [if_neg (show ¬ op k ≤ 2 by omega), if_neg (show ¬ nI (op k) = 2 from ne 2 (by decide) z2)]
  have fork : op k = 3 ∨ op k = 7 → ∃ m, hs k = m + 1 ∧ wf_go N fs ow hs L k (k + 1) m ∧ md_J ow re gl bk kp (wf_go N fs ow hs L k) k m := fun e => by
    obtain ⟨k1, k2, k3⟩ := K3 e
    exact ⟨hs k - 1, by omega, k2, k3⟩
  by_cases z3 : op k = 3
  · obtain ⟨m, hm, go, J⟩ := fork (Or.inl z3)
    rw [hm] at K s1
    rw [if_pos z3, if_pos (show nI (op k) = 3 by rw [z3]; rfl), rq_b, if_pos (show nI (op k) = 3 by rw [z3]; rfl), hm, Nat.add_sub_cancel]
    exact (fc_fork D0 G K hk hL (Or.inl z3) go J (by omega) s1 v1).1.sm.up ft_J_l
  rw [if_neg z3, if_neg (show ¬ nI (op k) = 3 from ne 3 (by decide) z3)]
  have jmp : op k = 4 ∨ op k = 5 ∨ op k = 6 ∨ op k = 8 → fc_R N F op ar ow pa lo re fs hs gl bk kp L A (ft_jmp (ow k) (re (ow k)) (gl k) (bk k) (kp k) (hs k) (pa (ow k) + lo (ow k)) (ft_st A k) (ft_vr A k)) (ft_J A (ft_jmp (ow k) (re (ow k)) (gl k) (bk k) (kp k) (hs k) (pa (ow k) + lo (ow k)) (ft_st A k) (ft_vr A k))) σ ((M_C_Foreteller_jump σ (nI k)).bind fun x => some x) (fun _ => True) := fun e => (fc_jump D0 G K hk hL (by omega) (by omega) (K4 e) h10 s1 v1).sm.up ft_J_l
  by_cases z7 : op k = 7
  · obtain ⟨m, hm, go, J⟩ := fork (Or.inr z7)
    rw [hm] at K s1
    rw [if_pos z7, if_neg (show ¬ nI (op k) = 4 from ne 4 (by decide) (by omega)), if_neg (show ¬ nI (op k) = 5 from ne 5 (by decide) (by omega)), if_neg (show ¬ nI (op k) = 6 from ne 6 (by decide) (by omega)), if_pos (show nI (op k) = 7 by rw [z7]; rfl), rq_b, if_neg (show ¬ nI (op k) = 3 from ne 3 (by decide) z3), hm, Nat.add_sub_cancel]
    exact (fc_fork D0 G K hk hL (Or.inr z7) go J (by omega) s1 v1).2.sm.up ft_J_l
  rw [if_neg z7]
  by_cases z8 : op k ≤ 8
  · have hcase := fc_case z z1 z2 z3 z7 z8
    have J := jmp hcase
    rw [if_pos z8]
    by_cases z4 : op k = 4
    · rw [if_pos (show nI (op k) = 4 by rw [z4]; rfl)]; exact J
    rw [if_neg (show ¬ nI (op k) = 4 from ne 4 (by decide) z4)]
    by_cases z5 : op k = 5
    · rw [if_pos (show nI (op k) = 5 by rw [z5]; rfl)]; exact J
    rw [if_neg (show ¬ nI (op k) = 5 from ne 5 (by decide) z5)]
    by_cases z6 : op k = 6
    · rw [if_pos (show nI (op k) = 6 by rw [z6]; rfl)]; exact J
    rw [if_neg (show ¬ nI (op k) = 6 from ne 6 (by decide) z6), if_neg (show ¬ nI (op k) = 7 from ne 7 (by decide) z7), if_pos (show nI (op k) = 8 by rw [fc_case8 hcase z4 z5 z6]; rfl)]
    exact J
  rw [if_neg z8, if_neg (show ¬ nI (op k) = 4 from ne 4 (by decide) (by omega)), if_neg (show ¬ nI (op k) = 5 from ne 5 (by decide) (by omega)), if_neg (show ¬ nI (op k) = 6 from ne 6 (by decide) (by omega)), if_neg (show ¬ nI (op k) = 7 from ne 7 (by decide) z7), if_neg (show ¬ nI (op k) = 8 from ne 8 (by decide) (by omega))]
  by_cases z9 : op k = 9
  · obtain ⟨k1, k2, k3⟩ := K9 z9
    rw [if_pos z9, if_pos (show nI (op k) = 9 by rw [z9]; rfl), rq_rd (n := 100) rfl (by omega) (by decide), rq_b, t3]
    have e3 : ft_gi (op k) (A 3 (ar k)) = A 3 (ar k) := if_pos z9
    have e5 : ft_gi (op k) (A 5 (ar k)) = A 5 (ar k) := if_pos z9
    rw [e3, e5]
    exact (fc_call D0 G K k1 k2 h10 k3 s1 v1).sm
  rw [if_neg z9, if_neg (show ¬ nI (op k) = 9 from ne 9 (by decide) z9), rq_b, rq_rd (n := 100) rfl (by omega) (by decide), rq_b, t3]
  exact (fc_opAll D0 G K hk hL (by omega) s1 v1 (fun e x hx => by
    unfold ft_ce
    rw [if_pos ⟨e, hx⟩]
    exact ⟨V.2.2.1 x hx, G.2.2.2.2.1 x hx⟩)).up ft_J_l
theorem fc_recall (G : fc_G N F op ar ow pa lo re fs hs gl bk kp L A Z P σ) (hN : N ≤ 100) (h10 : hs k ≤ 10) (hk : k < N) (hr : (A 4 k).2.1 = 1) : ∃ u, M_C_Foreteller_recall σ (nI k) = some u ∧ rq_A fc_A σ u ∧ (∀ c i, 30 ≤ c → c ≤ 38 → u c i = σ c i) ∧ fc_K (hs k) (ft_st A k) (ft_vr A k) u := by
  obtain ⟨-, -, c1, c2, -, -, -, c6, -⟩ := G
  have e31 := c6 k hk hr
  have p1 : rt_cpy (rt_up σ 29 12 (nI (hs k))) 36 1000 (nI (10 * k)) 39 10 0 10 = some (rt_uf (rt_up σ 29 12 (nI (hs k))) 39 (va_cpy ((rt_up σ 29 12 (nI (hs k))) 36) ((rt_up σ 29 12 (nI (hs k))) 39) (10 * k) 0 10)) := by
    have cond : ¬ nI (10 * k) < 0 ∧ ¬ (0 : Int32) < 0 ∧ ¬ (10 : Int32) < 0 ∧ (nI (10 * k)).toNatClampNeg + (10 : Int32).toNatClampNeg ≤ 1000 ∧ (0 : Int32).toNatClampNeg + (10 : Int32).toNatClampNeg ≤ 10 := ⟨nI_pos (by omega), by decide, by decide, by rw [nI_clamp (by omega)]; show 10 * k + 10 ≤ 1000; omega, by decide⟩
    unfold rt_cpy
    rw [if_pos cond, nI_clamp (by omega)]
    rfl
  obtain ⟨u1, hu1⟩ : ∃ w, w = rt_uf (rt_up σ 29 12 (nI (hs k))) 39 (va_cpy ((rt_up σ 29 12 (nI (hs k))) 36) ((rt_up σ 29 12 (nI (hs k))) 39) (10 * k) 0 10) := ⟨_, rfl⟩
  rw [← hu1] at p1
  have p2 : rt_cpy u1 37 400 (nI (4 * k)) 40 4 0 4 = some (rt_uf u1 40 (va_cpy (u1 37) (u1 40) (4 * k) 0 4)) := by
    have cond : ¬ nI (4 * k) < 0 ∧ ¬ (0 : Int32) < 0 ∧ ¬ (4 : Int32) < 0 ∧ (nI (4 * k)).toNatClampNeg + (4 : Int32).toNatClampNeg ≤ 400 ∧ (0 : Int32).toNatClampNeg + (4 : Int32).toNatClampNeg ≤ 4 := ⟨nI_pos (by omega), by decide, by decide, by rw [nI_clamp (by omega)]; show 4 * k + 4 ≤ 400; omega, by decide⟩
    unfold rt_cpy
    rw [if_pos cond, nI_clamp (by omega)]
    rfl
  have f1 : ∀ c i, c ≠ 39 → u1 c i = (rt_up σ 29 12 (nI (hs k))) c i := fun c i hc => by rw [hu1]; unfold rt_uf; rw [if_neg hc]
  have g1 : ∀ c i, c ≠ 40 → (rt_uf u1 40 (va_cpy (u1 37) (u1 40) (4 * k) 0 4)) c i = u1 c i := fun c i hc => by unfold rt_uf; rw [if_neg hc]
  refine ⟨rt_uf u1 40 (va_cpy (u1 37) (u1 40) (4 * k) 0 4), ?_, fun c i hc => ?_, fun c i b1 b2 => ?_, ?_, fun i hi => ?_, fun i hi => ?_⟩
  · unfold M_C_Foreteller_recall
    rw [rq_rd (n := 100) rfl (by omega) (by decide), rq_b, e31, rq_put, rq_b, show (10 : Int32) = nI 10 from rfl, pk_mul, Nat.mul_comm k 10]
    have p1' : rt_cpy (rt_up σ 29 12 (nI (hs k))) 36 1000 (nI (10 * k)) 39 10 0 (nI 10) = some u1 := p1
    rw [p1', rq_b, show (4 : Int32) = nI 4 from rfl, pk_mul, Nat.mul_comm k 4]
    have p2' : rt_cpy u1 37 400 (nI (4 * k)) 40 4 0 (nI 4) = _ := p2
    rw [p2', rq_b]
  · rw [g1 c i (by unfold fc_A at hc; omega), f1 c i (by unfold fc_A at hc; omega), rq_c (by unfold fc_A at hc; omega)]
  · rw [g1 c i (by omega), f1 c i (by omega), rq_c (by omega)]
  · rw [g1 29 12 (by decide), f1 29 12 (by decide), rq_s]
  · rw [g1 39 i (by decide), hu1]
    unfold rt_uf
    rw [if_pos rfl, pk_cpy_in (Nat.zero_le _) (by omega), Nat.sub_zero, rq_c (by decide)]
    unfold ft_st
    rw [if_pos (by omega)]; exact c1 _ (by omega)
  · unfold rt_uf
    rw [if_pos rfl, pk_cpy_in (Nat.zero_le _) (by omega), Nat.sub_zero, f1 37 _ (by decide), rq_c (by decide)]
    unfold ft_vr
    rw [if_pos hi]; exact c2 _ (by omega)
end FCG
