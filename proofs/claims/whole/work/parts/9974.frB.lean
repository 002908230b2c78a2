/-! foretelling, the reference: whatever an instruction gives on -/
section FRJ
variable {N F h m k o a : Nat} {op ar ow en el pa lo re fs hs gl bk kp : Nat → Nat} {L : Nat → Prop} {A X Y : ft_S} {st vr vr' ce : Nat → ft_G} {gi ed : ft_G} {τ u : rt_St}
theorem ft_opr_cg {j lc : Nat} (hv : ∀ i, i < lc → vr i = vr' i) (ha : o = 12 → a < lc) : ft_opr o a h j lc st vr ce = ft_opr o a h j lc st vr' ce := by
  have ev : ft_val o a h st vr ce = ft_val o a h st vr' ce := by
    unfold ft_val
    by_cases z : o = 12
    · rw [hv a (ha z)]
    · rw [if_neg z, if_neg z]
  unfold ft_opr
  rw [ev]
  by_cases c : ((o = 15 ∨ (19 ≤ o ∧ o ≤ 26)) ∧ (ft_val o a h st vr' ce).1 = 64) ∨ (o = 16 ∧ 16 ≤ (st (h - 2)).1 + a)
  · rw [if_pos c, if_pos c]
  · rw [if_neg c, if_neg c]
    refine ft_pass_cg (fun i hi => rfl) (fun i hi => ?_)
    by_cases y : (o = 13 ∨ o = 14) ∧ i = a
    · rw [if_pos y, if_pos y]
    · rw [if_neg y, if_neg y]; exact hv i hi
theorem ft_Y_cg (hv : ∀ i, i < pa (ow k) + lo (ow k) → vr i = vr' i) (ha : op k = 12 → ar k < pa (ow k) + lo (ow k)) : ft_Y op ar ow pa lo re fs hs gl bk kp k st vr ce gi ed = ft_Y op ar ow pa lo re fs hs gl bk kp k st vr' ce gi ed := by
  have p : ∀ j h S, ft_pass j h (pa (ow k) + lo (ow k)) S vr = ft_pass j h (pa (ow k) + lo (ow k)) S vr' := fun j h S => ft_pass_cg (fun _ _ => rfl) hv
  have jm : ∀ h, ft_jmp (ow k) (re (ow k)) (gl k) (bk k) (kp k) h (pa (ow k) + lo (ow k)) st vr = ft_jmp (ow k) (re (ow k)) (gl k) (bk k) (kp k) h (pa (ow k) + lo (ow k)) st vr' := fun h => by
    unfold ft_jmp
    rw [p]
  unfold ft_Y
  rw [p (k + 1) (hs k) st, p (k + 1) (hs k - 1) st, p (k + 1) (hs k - pa (ar k) + re (ar k)) (ft_bck (pa (ar k)) (hs k) st gi), jm (hs k), jm (hs k - 1), ft_opr_cg (h := hs k) (j := k + 1) (st := st) (ce := ce) hv ha]
theorem fr_opAll (D : md_A F N op ar ow pa lo re fs hs gl bk kp L) (G : fr_G N F op ar ow en el pa lo re fs hs gl bk kp L A τ) (K : fr_K (hs k) st vr τ) (hk : k < N) (hL : L k) (ho : 10 ≤ op k) (n15 : op k ≠ 15) (z : op k ≠ 16) (s1 : ∀ i, i < hs k → ft_ok (st i)) (v1 : ∀ i, i < pa (ow k) + lo (ow k) → ft_ok (vr i)) (v0 : ∀ i, pa (ow k) + lo (ow k) ≤ i → i < 4 → vr i = (0, 0, 0)) : fr_R N F op ar ow en el pa lo re fs hs gl bk kp L A (ft_opr (op k) (ar k) (hs k) (k + 1) (pa (ow k) + lo (ow k)) st vr ce) τ (rt_b2 (M_R_RangeTellerModel_leaves τ (nI k)) fun v5 σ4 => if v5 = 0 then some σ4 else (M_R_RangeTellerModel_pass σ4 (nI (k + 1))).bind fun σ6 => some σ6) (fun _ => True) := by
  have D0 := D
  obtain ⟨⟨hN, hF1, hF3⟩, m1, m2, m3⟩ := D
  obtain ⟨owF, h10, o29, a64⟩ := m2 k hk
  obtain ⟨-, -, -, -, pa2, lo2, -⟩ := m1 (ow k) owF
  obtain ⟨-, -, -, -, K10⟩ := m3 k hk hL
  obtain ⟨t1, go, lcl⟩ := K10 ho
  obtain ⟨e2, e3, -⟩ := G.1.1 k hk
  have all : fr_op (op k) (ar k) (hs k) st vr ce τ (M_R_RangeTellerModel_leaves τ (nI k)) := by
    have hk' : k < 100 := by omega
    by_cases y : op k = 10
    · rw [y, show ck_tk 10 = 1 from rfl] at t1
      rw [y] at e2
      obtain ⟨m, hm⟩ : ∃ m, hs k = m + 1 := ⟨hs k - 1, by omega⟩
      rw [hm] at K s1
      rw [y, hm]
      exact fr_op10 K hk' e2 e3
    by_cases y : op k = 11
    · rw [y, show ck_tk 11 = 3 from rfl] at t1
      rw [y] at e2
      obtain ⟨m, hm⟩ : ∃ m, hs k = m + 3 := ⟨hs k - 3, by omega⟩
      rw [hm] at K s1
      rw [y, hm]
      exact fr_op11 K hk' e2 e3 (by omega) (s1 m (by omega)) (s1 (m + 1) (by omega)) (s1 (m + 2) (by omega))
    by_cases y : op k = 12
    · rw [y, show ck_tk 12 = 0 from rfl] at t1
      rw [y] at e2
      obtain ⟨m, hm⟩ : ∃ m, hs k = m := ⟨hs k - 0, by omega⟩
      rw [hm] at K s1
      rw [y, hm]
      exact fr_op12 K hk' e2 e3 (by omega) (by have := lcl (by omega) (by omega); omega) (v1 _ (lcl (by omega) (by omega))).2.2
    by_cases y : op k = 13
    · rw [y, show ck_tk 13 = 1 from rfl] at t1
      rw [y] at e2
      obtain ⟨m, hm⟩ : ∃ m, hs k = m + 1 := ⟨hs k - 1, by omega⟩
      rw [hm] at K s1
      rw [y, hm]
      exact fr_op13 K hk' e2 e3 (by omega) (by have := lcl (by omega) (by omega); omega) (s1 m (by omega)).2.2
    by_cases y : op k = 14
    · rw [y, show ck_tk 14 = 1 from rfl] at t1
      rw [y] at e2
      obtain ⟨m, hm⟩ : ∃ m, hs k = m + 1 := ⟨hs k - 1, by omega⟩
      rw [hm] at K s1
      rw [y, hm]
      exact fr_op14 K hk' e2 e3 (by omega) (by have := lcl (by omega) (by omega); omega) (s1 m (by omega)).2.2
    by_cases y : op k = 17
    · rw [y, show ck_tk 17 = 0 from rfl] at t1
      rw [y] at e2
      obtain ⟨m, hm⟩ : ∃ m, hs k = m := ⟨hs k - 0, by omega⟩
      rw [hm] at K s1
      rw [y, hm]
      exact fr_op17 K hk' e2 e3 (by omega) a64
    by_cases y : op k = 18
    · rw [y, show ck_tk 18 = 1 from rfl] at t1
      rw [y] at e2
      obtain ⟨m, hm⟩ : ∃ m, hs k = m + 1 := ⟨hs k - 1, by omega⟩
      rw [hm] at K s1
      rw [y, hm]
      exact fr_op18 K hk' e2 e3 (by omega) (s1 m (by omega))
    by_cases y : op k = 27
    · rw [y, show ck_tk 27 = 0 from rfl] at t1
      rw [y] at e2
      obtain ⟨m, hm⟩ : ∃ m, hs k = m := ⟨hs k - 0, by omega⟩
      rw [hm] at K s1
      rw [y, hm]
      exact fr_op27 K hk' e2 e3 (by omega)
    by_cases y : op k = 28
    · rw [y, show ck_tk 28 = 1 from rfl] at t1
      rw [y] at e2
      obtain ⟨m, hm⟩ : ∃ m, hs k = m + 1 := ⟨hs k - 1, by omega⟩
      rw [hm] at K s1
      rw [y, hm]
      exact fr_op28 K hk' e2 e3
    have y : 19 ≤ op k ∧ op k ≤ 26 := by omega
    have tt : ck_tk (op k) = 2 ∧ ck_gv (op k) = 1 := by
      have : ∀ o, 19 ≤ o → o ≤ 26 → ck_tk o = 2 ∧ ck_gv o = 1 := fun o x1 x2 => by
        rcases (show o = 19 ∨ o = 20 ∨ o = 21 ∨ o = 22 ∨ o = 23 ∨ o = 24 ∨ o = 25 ∨ o = 26 by omega) with rfl | rfl | rfl | rfl | rfl | rfl | rfl | rfl <;> exact ⟨rfl, rfl⟩
      exact this _ y.1 y.2
    rw [tt.1] at t1
    obtain ⟨m, hm⟩ : ∃ m, hs k = m + 1 + 1 := ⟨hs k - 2, by omega⟩
    rw [hm] at K s1
    rw [hm]
    exact fr_opr (N := 0) K hk' e2 e3 (by omega) y.1 y.2 (s1 m (by omega)) (s1 (m + 1) (by omega))
  unfold ft_opr
  rcases all with ⟨n1, x, e1, ⟨x1, x2, x3⟩, e4⟩ | ⟨n1, x, e1, ⟨x1, x2, x3⟩⟩
  · rw [if_neg (show ¬ (((op k = 15 ∨ (19 ≤ op k ∧ op k ≤ 26)) ∧ (ft_val (op k) (ar k) (hs k) st vr ce).1 = 64) ∨ (op k = 16 ∧ 16 ≤ (st (hs k - 2)).1 + ar k)) from fun g => g.elim n1 (fun g => z g.1)), e1, rq_b2, if_neg (by decide)]
    have ok : ft_v (ft_val (op k) (ar k) (hs k) st vr ce) := (ft_val_mono (a := ar k) (ce := ce) (by omega : 10 ≤ op k) t1 lcl a64 s1 s1 (fun i _ => ft_le.rf) v1 (fun i _ => ft_le.rf) (fun e => absurd e n15) (fun e => absurd e n15)).2
    refine fr_R.pre x1 (fun i => x2 27 i (by decide) (by decide)) x3 (fr_ps D0 (G.keep x1 x2 x3) e4 go (fun i hi => ?_) (fun i hi => ?_) (fun i i1 i2 => ?_)).sm
    · by_cases y : i = hs k - ck_tk (op k)
      · rw [if_pos y]
        refine ft_ok_of ok ?_
        have gv1 : ck_gv (op k) = 1 := by
          have := (ck_tab (op k) o29 ho).2.2.2.2.1
          omega
        have oo : op k ≠ 10 ∧ op k ≠ 13 ∧ op k ≠ 28 := by
          refine ⟨fun e => ?_, fun e => ?_, fun e => ?_⟩
          · rw [e] at gv1; exact absurd gv1 (by decide)
          · rw [e] at gv1; exact absurd gv1 (by decide)
          · rw [e] at gv1; exact absurd gv1 (by decide)
        by_cases y2 : op k = 15 ∨ (19 ≤ op k ∧ op k ≤ 26)
        · have := (ft_v_le ok).1
          have n2 : (ft_val (op k) (ar k) (hs k) st vr ce).1 ≠ 64 := fun e => n1 ⟨y2, e⟩
          omega
        · have lt : ft_ok (ft_val (op k) (ar k) (hs k) st vr ce) := by
            rcases (show op k = 11 ∨ op k = 12 ∨ op k = 14 ∨ op k = 17 ∨ op k = 18 ∨ op k = 27 by omega) with e | e | e | e | e | e
            · rw [e] at t1 ⊢
              have t3 : 3 ≤ hs k := t1
              exact (ft_pick (s1 _ (by omega)) (s1 _ (by omega)) (s1 _ (by omega))).2
            · have := lcl (by omega) (by omega)
              rw [e]; exact v1 _ this
            · rw [e] at t1 ⊢
              have t3 : 1 ≤ hs k := t1
              exact s1 (hs k - 1) (by omega)
            · rw [e]
              show ft_ok (ar k, ar k, 0)
              unfold ft_ok; dsimp only; omega
            · rw [e] at t1 ⊢
              have t3 : 1 ≤ hs k := t1
              exact ft_nt_ok (s1 (hs k - 1) (by omega))
            · rw [e]
              show ft_ok (0, 63, 1)
              unfold ft_ok; decide
          unfold ft_ok at lt
          omega
      · rw [if_neg y]; exact s1 i (by have := (ck_tab (op k) o29 ho).2.2.2.2.1; omega)
    · by_cases y : (op k = 13 ∨ op k = 14) ∧ i = ar k
      · rw [if_pos y]
        have t3 : 1 ≤ hs k := by
          rcases y.1 with e | e
          · rw [e] at t1; exact t1
          · rw [e] at t1; exact t1
        exact s1 _ (by omega)
      · rw [if_neg y]; exact v1 i hi
    · have y : ¬ ((op k = 13 ∨ op k = 14) ∧ i = ar k) := fun y => by
        have := lcl (by omega) (by omega)
        omega
      rw [if_neg y]; exact v0 i i1 i2
  · rw [if_pos (Or.inl n1), e1, rq_b2, if_pos rfl]
    exact fr_R.pre x1 (fun i => x2 27 i (by decide) (by decide)) x3 (fr_R.nil (G.keep x1 x2 x3) trivial)
theorem fr_follow (D : md_A F N op ar ow pa lo re fs hs gl bk kp L) (G : fr_G N F op ar ow en el pa lo re fs hs gl bk kp L A τ) (hk : k < N) (hr : (A 4 k).2.1 = 1) : fr_R N F op ar ow en el pa lo re fs hs gl bk kp L A (ft_X op ar ow pa lo re fs hs gl bk kp A k) τ (M_R_RangeTellerModel_giveOn τ (nI k)) (fun _ => True) := by
  have D0 := D
  obtain ⟨⟨hN, hF1, hF3⟩, m1, m2, m3⟩ := D
  obtain ⟨owF, h10, o29, a64⟩ := m2 k hk
  obtain ⟨-, -, -, -, pa2, lo2, re2⟩ := m1 (ow k) owF
  have V := G.2.1
  obtain ⟨hL, a1, a2⟩ := V.rc hk hr
  obtain ⟨K1, K3, K4, K9, K10⟩ := m3 k hk hL
  obtain ⟨u, b1, b2, K⟩ := fr_bring D0 G hk hr
  have Au : rq_A fr_A τ u := fun c x e => b2 c x (by unfold fr_A at e; omega) (by unfold fr_A at e; omega)
  have Gu := G.keep Au (fun c x c1 c2 => b2 c x (by omega) (by omega)) (b2 0 58 (by omega) (by omega))
  obtain ⟨t2, t3, t4, t5, -, -⟩ := Gu.1.1 k hk
  have t6 := Gu.1.2.2.1
  have FJ := Gu.1.2.2.2 k hk hL
  have ne : ∀ j : Nat, j < 100 → op k ≠ j → ¬ nI (op k) = nI j := fun j hj h e => h ((nI_eq (by omega) (by omega)).mp e)
  have s1 : ∀ i, i < hs k → ft_ok (ft_st A k i) := fun i hi => by unfold ft_st; rw [if_pos (by omega)]; exact a1 i hi
  have vE : ∀ i, i < pa (ow k) + lo (ow k) → ft_vr A k i = fr_vr A k (pa (ow k) + lo (ow k)) i := fun i hi => by unfold fr_vr; rw [if_pos hi]
  have v1 : ∀ i, i < pa (ow k) + lo (ow k) → ft_ok (fr_vr A k (pa (ow k) + lo (ow k)) i) := fun i hi => by rw [← vE i hi]; unfold ft_vr; rw [if_pos (by omega)]; exact a2 i hi
  have v0 : ∀ i, pa (ow k) + lo (ow k) ≤ i → i < 4 → fr_vr A k (pa (ow k) + lo (ow k)) i = (0, 0, 0) := fun i i1 _ => by unfold fr_vr; rw [if_neg (by omega)]
  unfold M_R_RangeTellerModel_giveOn
  rw [b1, rq_b, rq_rd (n := 100) rfl (by omega) (by decide), rq_b, t2, nI_1]
  refine fr_R.pre Au (fun i => b2 27 i (by omega) (by omega)) (b2 0 58 (by omega) (by omega)) ?_
  unfold ft_X
  by_cases z9 : op k = 9
  · obtain ⟨k1, k2, k3⟩ := K9 z9
    have e3 : ft_gi (op k) (A 3 (ar k)) = A 3 (ar k) := if_pos z9
    have e5 : ft_gi (op k) (A 5 (ar k)) = A 5 (ar k) := if_pos z9
    unfold ft_Y
    rw [if_neg (show ¬ op k = 0 by omega), if_neg (show ¬ op k ≤ 2 by omega), if_neg (show ¬ op k = 3 by omega), if_neg (show ¬ op k = 7 by omega), if_neg (show ¬ op k ≤ 8 by omega), if_pos z9, e3, e5, if_neg (show ¬ nI (op k) = 0 from ne 0 (by decide) (by omega)), if_neg (show ¬ nI (op k) = 3 from ne 3 (by decide) (by omega)), if_neg (show ¬ nI (op k) = 7 from ne 7 (by decide) (by omega)), if_neg (show ¬ nI (op k) = 6 from ne 6 (by decide) (by omega)), if_neg (show ¬ nI (op k) = 8 from ne 8 (by decide) (by omega)), if_pos (show nI (op k) = 9 by rw [z9]; rfl)]
    exact (fr_call D0 Gu K hk hr k1 k2 k3).sm
  rw [ft_Y_cg vE (fun e => (K10 (by omega)).2.2 (by omega) (by omega))]
  -- leaving the function, going on inside it
  have lv : gl k = 0 → (op k = 4 ∨ op k = 5 ∨ op k = 6 ∨ op k = 8) → fr_R N F op ar ow en el pa lo re fs hs gl bk kp L A (ft_jmp (ow k) (re (ow k)) (gl k) (bk k) (kp k) (hs k) (pa (ow k) + lo (ow k)) (ft_st A k) (fr_vr A k (pa (ow k) + lo (ow k)))) u ((M_R_RangeTellerModel_ending u (nI k)).bind fun x => some x) (fun _ => True) := fun g0 oo => by
    obtain ⟨-, j2, j3, -⟩ := K4 oo
    obtain ⟨j4, j5⟩ := j3 g0
    unfold ft_jmp
    rw [if_pos g0]
    exact (fr_ending D0 Gu K hk h10 (fun e => ⟨by omega, s1 _ (by omega)⟩)).sm
  have on : ∀ j, gl k = j + 1 → bk k + kp k = hs k → (op k = 4 ∨ op k = 5 ∨ op k = 6 ∨ op k = 8) → fr_R N F op ar ow en el pa lo re fs hs gl bk kp L A (ft_jmp (ow k) (re (ow k)) (gl k) (bk k) (kp k) (hs k) (pa (ow k) + lo (ow k)) (ft_st A k) (fr_vr A k (pa (ow k) + lo (ow k)))) u ((M_R_RangeTellerModel_pass u (nI j)).bind fun x => some x) (fun _ => True) := fun j g0 bh oo => by
    obtain ⟨j1, j2, -, j4⟩ := K4 oo
    have go := j4 (by omega)
    rw [bh, g0, Nat.add_sub_cancel] at go
    refine fr_R.cg (fr_ps D0 Gu K go s1 v1 v0).sm (congrArg (ft_J A) ?_)
    unfold ft_jmp
    rw [if_neg (by omega), g0, Nat.add_sub_cancel, bh]
    refine ft_pass_cg (fun i hi => ?_) (fun i hi => rfl)
    by_cases q : kp k = 1 ∧ i = bk k
    · rw [if_pos q, show hs k - 1 = i by omega]
    · rw [if_neg q]
  have fork : op k = 3 ∨ op k = 7 → ∃ m, hs k = m + 1 ∧ wf_go N fs ow hs L k (k + 1) m ∧ md_J ow re gl bk kp (wf_go N fs ow hs L k) k m := fun e => by
    obtain ⟨k1, k2, k3⟩ := K3 e
    exact ⟨hs k - 1, by omega, k2, k3⟩
  unfold ft_Y
  by_cases z : op k = 0
  · rw [if_pos z, if_pos (show nI (op k) = 0 by rw [z]; rfl)]
    exact fr_R.nil Gu trivial
  rw [if_neg z, if_neg (show ¬ nI (op k) = 0 from ne 0 (by decide) (by omega))]
  by_cases z3 : op k = 3
  · obtain ⟨m, hm, go, J⟩ := fork (Or.inl z3)
    rw [hm] at K s1
    unfold B_R_RangeTellerModel_giveOn_28
    rw [if_neg (show ¬ op k ≤ 2 by omega), if_pos z3, if_pos (show nI (op k) = 3 by rw [z3]; rfl), hm, Nat.add_sub_cancel]
    exact ((fr_if D0 Gu K hm hk hL (Or.inl z3) go J (by omega) s1 v1 v0).1 z3).sm
  rw [if_neg (show ¬ nI (op k) = 3 from ne 3 (by decide) (by omega))]
  by_cases z7 : op k = 7
  · obtain ⟨m, hm, go, J⟩ := fork (Or.inr z7)
    rw [hm] at K s1
    unfold B_R_RangeTellerModel_giveOn_28
    rw [if_neg (show ¬ op k ≤ 2 by omega), if_neg z3, if_pos z7, if_pos (show nI (op k) = 7 by rw [z7]; rfl), hm, Nat.add_sub_cancel]
    exact ((fr_if D0 Gu K hm hk hL (Or.inr z7) go J (by omega) s1 v1 v0).2 z7).sm
  rw [if_neg (show ¬ nI (op k) = 7 from ne 7 (by decide) (by omega))]
  by_cases z6 : op k = 6
  · rw [if_neg (show ¬ op k ≤ 2 by omega), if_neg z3, if_neg z7, if_pos (show op k ≤ 8 by omega), if_pos (show nI (op k) = 6 by rw [z6]; rfl)]
    exact (fr_branch D0 Gu K hk hL (Or.inl z6) (K4 (by omega)) h10 s1 v1 v0).sm
  rw [if_neg (show ¬ nI (op k) = 6 from ne 6 (by decide) (by omega))]
  by_cases z8 : op k = 8
  · rw [if_neg (show ¬ op k ≤ 2 by omega), if_neg z3, if_neg z7, if_pos (show op k ≤ 8 by omega), if_pos (show nI (op k) = 8 by rw [z8]; rfl)]
    exact lv (FJ.2.2.2.2 z8) (by omega)
  rw [if_neg (show ¬ nI (op k) = 8 from ne 8 (by decide) (by omega)), if_neg (show ¬ nI (op k) = 9 from ne 9 (by decide) (by omega))]
  by_cases zA : op k = 15
  · obtain ⟨c1, c2, -⟩ := K10 (by omega)
    rw [zA, show ck_tk 15 = 1 from rfl] at c1 c2
    rw [show ck_gv 15 = 1 from rfl] at c2
    obtain ⟨m, hm⟩ : ∃ m, hs k = m + 1 := ⟨hs k - 1, by omega⟩
    rw [hm, Nat.add_sub_cancel] at c2
    rw [hm] at K s1
    rw [if_neg (show ¬ op k ≤ 2 by omega), if_neg z3, if_neg z7, if_neg (show ¬ op k ≤ 8 by omega), if_neg z9, if_neg (show ¬ op k = 16 by omega), if_pos (show nI (op k) = 15 by rw [zA]; rfl), hm]
    have R := fr_load (ce := ft_ce (op k) A) D0 Gu K hk (by omega) c2 s1 v1 v0 (fun x hx => by unfold ft_ce; rw [if_pos ⟨zA, hx⟩])
    rw [← zA] at R
    refine fr_R.cg R.sm ?_
    rw [← ft_J_as, ft_J_0 V.U]
  rw [if_neg (show ¬ nI (op k) = 15 from ne 15 (by decide) (by omega))]
  by_cases zB : op k = 16
  · obtain ⟨c1, c2, -⟩ := K10 (by omega)
    rw [zB, show ck_tk 16 = 2 from rfl] at c1 c2
    rw [show ck_gv 16 = 0 from rfl] at c2
    obtain ⟨m, hm⟩ : ∃ m, hs k = m + 2 := ⟨hs k - 2, by omega⟩
    rw [hm, Nat.add_sub_cancel] at c2
    rw [hm] at K s1
    rw [if_neg (show ¬ op k ≤ 2 by omega), if_neg z3, if_neg z7, if_neg (show ¬ op k ≤ 8 by omega), if_neg z9, if_pos zB, if_pos (show nI (op k) = 16 by rw [zB]; rfl), hm]
    have R := fr_store (ce := ft_ce (op k) A) D0 Gu K hk (by omega) c2 s1 v1 v0
    rw [← zB] at R
    exact R.sm
  rw [if_neg (show ¬ nI (op k) = 16 from ne 16 (by decide) (by omega))]
  by_cases z5 : op k = 5
  · rw [if_neg (show ¬ op k ≤ 2 by omega), if_neg z3, if_neg z7, if_pos (show op k ≤ 8 by omega), if_pos (show nI (op k) = 5 by rw [z5]; rfl), t6]
    unfold B_R_RangeTellerModel_giveOn_138 B_R_RangeTellerModel_giveOn_146
    rcases FJ.2.2.1 z5 with ⟨q1, q2, q3, q4⟩ | ⟨q1, q2⟩
    · have t4' := (Gu.1.1 (k + 1) q1).2.2.1
      rw [if_neg (show ¬ nI (k + 1) = nI N from fun e => by have := (nI_eq (by omega) (by omega)).mp e; omega), rq_rd (n := 100) rfl (by omega) (by decide), rq_b, t4', rq_rd (n := 100) rfl (by omega) (by decide), rq_b, t4, if_pos (show nI (ow (k + 1)) = nI (ow k) by rw [q2]), if_neg (show ¬ nI (op k) = 4 from ne 4 (by decide) (by omega)), if_neg (show ¬ (6 : Int32) ≤ nI (op k) by rw [z5]; decide), nI_1]
      exact on (k + 1) (by omega) q4 (by omega)
    · have R := lv q2 (by omega)
      by_cases y : k + 1 = N
      · rw [if_pos (show nI (k + 1) = nI N by rw [y])]; exact R
      · have q5 : k + 1 < N := by omega
        have t4' := (Gu.1.1 (k + 1) q5).2.2.1
        have o2 := (m2 (k + 1) q5).1
        rw [if_neg (show ¬ nI (k + 1) = nI N from fun e => y ((nI_eq (by omega) (by omega)).mp e)), rq_rd (n := 100) rfl (by omega) (by decide), rq_b, t4', rq_rd (n := 100) rfl (by omega) (by decide), rq_b, t4, if_neg (show ¬ nI (ow (k + 1)) = nI (ow k) from fun e => q1 ⟨q5, (nI_eq (by omega) (by omega)).mp e⟩)]
        exact R
  rw [if_neg (show ¬ nI (op k) = 5 from ne 5 (by decide) (by omega))]
  unfold B_R_RangeTellerModel_giveOn_146
  by_cases z4 : op k = 4
  · obtain ⟨q1, q2, q3⟩ := FJ.2.1 z4
    rw [if_neg (show ¬ op k ≤ 2 by omega), if_neg z3, if_neg z7, if_pos (show op k ≤ 8 by omega), if_pos (show nI (op k) = 4 by rw [z4]; rfl), rq_rd (n := 100) rfl (by omega) (by decide), rq_b, t5, rq_e1 q1, nI_1]
    exact on (en k + 1) (by omega) q3 (by omega)
  rw [if_neg (show ¬ nI (op k) = 4 from ne 4 (by decide) (by omega))]
  by_cases z2 : op k ≤ 2
  · rw [if_pos z2, if_neg (show ¬ (6 : Int32) ≤ nI (op k) from nI_ge (b := 6) (by omega) (by decide)), nI_1]
    exact (fr_ps D0 Gu K (K1 (by omega)) s1 v1 v0).sm
  · rw [if_neg z2, if_neg z3, if_neg z7, if_neg (show ¬ op k ≤ 8 by omega), if_neg z9, if_neg zB, if_pos (show (6 : Int32) ≤ nI (op k) from nI_le (a := 6) (by omega) (by omega)), nI_1]
    refine fr_R.cg (fr_opAll (ce := ft_ce (op k) A) D0 Gu K hk hL (by omega) zA zB s1 v1 v0) ?_
    rw [← ft_J_as, ft_J_0 V.U]
end FRJ
