/-! foretelling, the reference: branches and forks -/
theorem ft_J_cm {X Y : ft_S} : ft_J X Y = ft_J Y X := funext fun _ => funext fun _ => ft_j_cm
section FRD
variable {N F j h m k f o h' : Nat} {op ar ow en el pa lo re fs hs gl bk kp : Nat → Nat} {L : Nat → Prop} {A X Y : ft_S} {st vr : Nat → ft_G} {r : ft_G} {τ u : rt_St} {Q : rt_St → Prop}
theorem fr_set (hm : m < 12) (hr : r.2.2 ≤ 1) : M_R_RangeTellerModel_set τ (nI m) (nI r.1) (nI r.2.1) (nI r.2.2) = some (fr_w 41 42 43 m r τ) := by
  unfold M_R_RangeTellerModel_set fr_w
  rw [rq_wr (n := 12) rfl hm (by decide), rq_b, rq_wr (n := 12) rfl hm (by decide), rq_b, fr_nar hr, rq_wr (n := 12) rfl hm (by decide), rq_b]
theorem fr_w_g {a b c x : Nat} (h1 : a ≠ b) (h2 : a ≠ c) (h3 : b ≠ c) : fr_3 a b c x r (fr_w a b c x r τ) := by
  unfold fr_w
  exact ⟨by rw [rq_c h2, rq_c h1, rq_s], by rw [rq_c h3, rq_s], rq_s⟩
theorem fr_K.w (K : fr_K h st vr τ) (hm : ∀ i, i < h' → i = m ∨ i < h) (hu : ∀ c x, 41 ≤ c → c ≤ 46 → u c x = fr_w 41 42 43 m r τ c x) (h59 : u 0 59 = nI h') : fr_K h' (fun i => if i = m then r else st i) vr u := by
  obtain ⟨k1, k2, k3⟩ := K
  refine ⟨h59, fun i hi => ?_, fun i hi => ?_⟩
  · dsimp only
    by_cases z : i = m
    · subst z
      rw [if_pos rfl]
      exact (fr_w_g (by decide) (by decide) (by decide)).ne (hu _ _ (by decide) (by decide)) (hu _ _ (by decide) (by decide)) (hu _ _ (by decide) (by decide))
    · rw [if_neg z]
      have w := k2 i ((hm i hi).resolve_left z)
      exact w.ne (by rw [hu _ _ (by decide) (by decide), fr_w_f (by omega)]) (by rw [hu _ _ (by decide) (by decide), fr_w_f (by omega)]) (by rw [hu _ _ (by decide) (by decide), fr_w_f (by omega)])
  · exact (k3 i hi).ne (by rw [hu _ _ (by decide) (by decide), fr_w_f (by omega)]) (by rw [hu _ _ (by decide) (by decide), fr_w_f (by omega)]) (by rw [hu _ _ (by decide) (by decide), fr_w_f (by omega)])
theorem fr_K.dn (K : fr_K h st vr τ) (hm : h' ≤ h) : fr_K h' st vr (rt_up τ 0 59 (nI h')) := by
  obtain ⟨k1, k2, k3⟩ := K
  exact ⟨rq_s, fun i hi => (k2 i (by omega)).ne (rq_c (by decide)) (rq_c (by decide)) (rq_c (by decide)), fun i hi => (k3 i hi).ne (rq_c (by decide)) (rq_c (by decide)) (rq_c (by decide))⟩
theorem fr_branch (D : md_A F N op ar ow pa lo re fs hs gl bk kp L) (G : fr_G N F op ar ow en el pa lo re fs hs gl bk kp L A τ) (K : fr_K h st vr τ) (hk : k < N) (hL : L k) (oo : op k = 6 ∨ op k = 7) (J : md_J ow re gl bk kp (wf_go N fs ow hs L k) k h) (hh : h ≤ 10) (s1 : ∀ i, i < h → ft_ok (st i)) (v1 : ∀ i, i < pa (ow k) + lo (ow k) → ft_ok (vr i)) (v0 : ∀ i, pa (ow k) + lo (ow k) ≤ i → i < 4 → vr i = (0, 0, 0)) : fr_R N F op ar ow en el pa lo re fs hs gl bk kp L A (ft_jmp (ow k) (re (ow k)) (gl k) (bk k) (kp k) h (pa (ow k) + lo (ow k)) st vr) τ (M_R_RangeTellerModel_passBranch τ (nI k)) (fun _ => True) := by
  have D0 := D
  have K0 := K
  obtain ⟨⟨hN, hF1, hF3⟩, m1, m2, -⟩ := D
  obtain ⟨j1, j2, j3, j4⟩ := J
  obtain ⟨t9, t10, tj⟩ := (G.1.2.2.2 k hk hL).2.2.2.1 oo
  obtain ⟨k1, k2, k3⟩ := K
  unfold ft_jmp M_R_RangeTellerModel_passBranch
  rcases tj with ⟨z, t8⟩ | ⟨x, x1, t8, x2, x3⟩
  · rw [if_pos z, rq_rd (n := 100) rfl (by omega) (by decide), rq_b, t8, if_neg (by decide)]
    exact (fr_ending D0 G K0 hk hh (fun e => by
      have := (j3 z).1
      exact ⟨by omega, s1 _ (by omega)⟩)).sm
  · have z : gl k ≠ 0 := by omega
    have go := j4 z
    rw [if_neg z]
    obtain ⟨tx2, -, -, tx5, -, -⟩ := G.1.1 x x1
    have xo := (m2 x x1).2.2.1
    -- the last piece
    have p70 : ∀ w, rq_A fr_A τ w → (∀ c y, 26 ≤ c → c ≤ 40 → w c y = τ c y) → w 0 58 = τ 0 58 → fr_K (bk k + kp k) (fun i => if kp k = 1 ∧ i = bk k then st (h - 1) else st i) vr (rt_up w 0 59 (nI (bk k + kp k))) → fr_R N F op ar ow en el pa lo re fs hs gl bk kp L A (ft_pass (gl k - 1) (bk k + kp k) (pa (ow k) + lo (ow k)) (fun i => if kp k = 1 ∧ i = bk k then st (h - 1) else st i) vr) w (B_R_RangeTellerModel_passBranch_70 (nI k) (nI (bk k)) w) (fun _ => True) := fun w w1 w2 w3 w4 => by
      have w5 : rq_A fr_A τ (rt_up w 0 59 (nI (bk k + kp k))) := w1.up (by unfold fr_A; omega)
      have Gw := G.keep w5 (fun c y c1 c2 => by rw [rq_c (by omega)]; exact w2 c y c1 c2) (by rw [rq_k (by decide)]; exact w3)
      have P := fr_ps D0 Gw w4 go (fun i hi => by
        by_cases q : kp k = 1 ∧ i = bk k
        · rw [if_pos q]; exact s1 _ (by omega)
        · rw [if_neg q]; exact s1 _ (by omega)) v1 v0
      have q10 : w 10 k = nI (kp k) := by rw [w1 10 k (by unfold fr_A; omega)]; exact t10
      have q8 : (rt_up w 0 59 (nI (bk k + kp k))) 8 k = nI x := by rw [w5 8 k (by unfold fr_A; omega)]; exact t8
      have q2 : (rt_up w 0 59 (nI (bk k + kp k))) 2 x = nI (op x) := by rw [w5 2 x (by unfold fr_A; omega)]; exact tx2
      have q5 : (rt_up w 0 59 (nI (bk k + kp k))) 5 x = rq_e (-1) (en x) := by rw [w5 5 x (by unfold fr_A; omega)]; exact tx5
      refine fr_R.pre (u := rt_up w 0 59 (nI (bk k + kp k))) (rq_A.rf.up (by unfold fr_A; omega)) (fun i => rq_c (by decide)) (rq_k (by decide)) ?_
      unfold B_R_RangeTellerModel_passBranch_70 B_R_RangeTellerModel_passBranch_122
      rw [rq_rd (n := 100) rfl (by omega) (by decide), rq_b, q10, nI_add, rq_put, rq_b, rq_rd (n := 100) rfl (by omega) (by decide), rq_b, q8, rq_rd (n := 100) rfl (by omega) (by decide), rq_b, q2]
      by_cases y : op x = 2
      · rw [if_pos y] at x2
        rw [if_pos (show nI (op x) = 2 by rw [y]; rfl), rq_b, nI_1, show x + 1 = gl k - 1 by omega]
        exact P.sm
      · rw [if_neg y] at x2
        rw [if_neg (show ¬ nI (op x) = 2 from fun e => y ((nI_eq (b := 2) (by omega) (by decide)).mp e)), rq_b, rq_rd (n := 100) rfl (by omega) (by decide), rq_b, q5, rq_e1 (x3 y), nI_1, show en x + 1 = gl k - 1 by omega]
        exact P.sm
    rw [rq_rd (n := 100) rfl (by omega) (by decide), rq_b, t8, if_pos (nI_pos' (by omega)), rq_rd (n := 100) rfl (by omega) (by decide), rq_b, t9, rq_rd (n := 100) rfl (by omega) (by decide), rq_b, t10]
    by_cases y : kp k = 1
    · obtain ⟨g1, g2, g3⟩ := k2 (h - 1) (by omega)
      have ix : τ 0 59 - 1 = nI (h - 1) := by rw [k1, show h = h - 1 + 1 by omega, nI_pred, Nat.add_sub_cancel]
      have tb := (s1 (h - 1) (by omega)).2.2
      rw [if_pos (show nI (kp k) = 1 by rw [y]; rfl), ix, rq_rd (n := 12) rfl (by omega) (by decide), rq_b, g1, rq_rd (n := 12) rfl (by omega) (by decide), rq_b, g2, rq_rd (n := 12) rfl (by omega) (by decide), rq_b, g3, fr_set (by omega) tb, rq_b]
      have W1 : rq_A fr_A τ (fr_w 41 42 43 (bk k) (st (h - 1)) τ) := fun c q e => fr_w_f (by unfold fr_A at e; omega)
      refine fr_R.pre W1 (fun i => fr_w_f (by omega)) (fr_w_f (by omega)) (p70 _ W1 (fun c q c1 c2 => fr_w_f (by omega)) (fr_w_f (by omega)) ?_)
      have KK := K0.w (h' := bk k + kp k) (m := bk k) (r := st (h - 1)) (u := rt_up (fr_w 41 42 43 (bk k) (st (h - 1)) τ) 0 59 (nI (bk k + kp k))) (fun i hi => by omega) (fun c q c1 c2 => rq_c (by omega)) rq_s
      refine ⟨KK.1, fun i hi => ?_, KK.2.2⟩
      have w := KK.2.1 i hi
      dsimp only at w ⊢
      by_cases q : i = bk k
      · rw [if_pos ⟨y, q⟩]; rw [if_pos q] at w; exact w
      · rw [if_neg (fun e => q e.2)]; rw [if_neg q] at w; exact w
    · rw [if_neg (show ¬ nI (kp k) = 1 from fun e => y ((nI_eq (b := 1) (by omega) (by decide)).mp e))]
      refine p70 τ rq_A.rf (fun _ _ _ _ => rfl) rfl ?_
      have KK := K0.dn (h' := bk k + kp k) (by omega)
      refine ⟨KK.1, fun i hi => ?_, KK.2.2⟩
      dsimp only
      rw [if_neg (fun e => y e.1)]; exact KK.2.1 i hi
theorem fr_if (D : md_A F N op ar ow pa lo re fs hs gl bk kp L) (G : fr_G N F op ar ow en el pa lo re fs hs gl bk kp L A τ) (K : fr_K (m + 1) st vr τ) (hm : hs k = m + 1) (hk : k < N) (hL : L k) (oo : op k = 3 ∨ op k = 7) (go : wf_go N fs ow hs L k (k + 1) m) (J : md_J ow re gl bk kp (wf_go N fs ow hs L k) k m) (hh : m + 1 ≤ 10) (s1 : ∀ i, i < m + 1 → ft_ok (st i)) (v1 : ∀ i, i < pa (ow k) + lo (ow k) → ft_ok (vr i)) (v0 : ∀ i, pa (ow k) + lo (ow k) ≤ i → i < 4 → vr i = (0, 0, 0)) :
    (op k = 3 → fr_R N F op ar ow en el pa lo re fs hs gl bk kp L A (ft_J (if (st m).2.1 = 0 then ft_0 else ft_pass (k + 1) m (pa (ow k) + lo (ow k)) st vr) (if (st m).1 = 0 then ft_jmp (ow k) (re (ow k)) (gl k) (bk k) (kp k) m (pa (ow k) + lo (ow k)) st vr else ft_0)) τ (M_R_RangeTellerModel_passIf τ (nI k)) (fun _ => True)) ∧
    (op k = 7 → fr_R N F op ar ow en el pa lo re fs hs gl bk kp L A (ft_J (if (st m).1 = 0 then ft_pass (k + 1) m (pa (ow k) + lo (ow k)) st vr else ft_0) (if (st m).2.1 = 0 then ft_0 else ft_jmp (ow k) (re (ow k)) (gl k) (bk k) (kp k) m (pa (ow k) + lo (ow k)) st vr)) τ (M_R_RangeTellerModel_passIf τ (nI k)) (fun _ => True)) := by
  have D0 := D
  obtain ⟨⟨hN, hF1, hF3⟩, m1, m2, -⟩ := D
  have hr := s1 m (by omega)
  have hr' := hr
  unfold ft_ok at hr'
  obtain ⟨k1, k2, k3⟩ := K
  obtain ⟨g1, g2, g3⟩ := k2 m (by omega)
  have KK := fr_K.dn (h' := m) ⟨k1, k2, k3⟩ (by omega)
  obtain ⟨τ1, hτ1⟩ : ∃ w, w = rt_up τ 0 59 (nI m) := ⟨_, rfl⟩
  rw [← hτ1] at KK
  have A1 : rq_A fr_A τ τ1 := by rw [hτ1]; exact rq_A.rf.up (by unfold fr_A; omega)
  have f1 : ∀ c x, ¬ (c = 0 ∧ x = 59) → τ1 c x = τ c x := fun c x q => by rw [hτ1, rq_if, if_neg q]
  have G1 := G.keep A1 (fun c x c1 c2 => f1 c x (by omega)) (f1 0 58 (by omega))
  obtain ⟨t2, -, -, t5, t6, -⟩ := G1.1.1 k hk
  have FJ := G.1.2.2.2 k hk hL
  have s2 : ∀ i, i < m → ft_ok (st i) := fun i hi => s1 i (by omega)
  have q41 : τ1 41 m = nI (st m).1 := by rw [f1 41 m (by omega)]; exact g1
  have q42 : τ1 42 m = nI (st m).2.1 := by rw [f1 42 m (by omega)]; exact g2
  have q59 : τ1 0 59 = nI m := KK.1
  have head : M_R_RangeTellerModel_passIf τ (nI k) = if nI (op k) = 3 then (if τ1 6 k < 0 then (rt_rd τ1 5 100 (nI k)).bind fun v10 => B_R_RangeTellerModel_passIf_64 (nI k) (nI (st m).1) (nI (st m).2.1) v10 τ1 else (rt_rd τ1 6 100 (nI k)).bind fun v11 => B_R_RangeTellerModel_passIf_64 (nI k) (nI (st m).1) (nI (st m).2.1) v11 τ1) else B_R_RangeTellerModel_passIf_72 (nI k) (nI (st m).1) (nI (st m).2.1) (nI (k + 1)) τ1 := by
    unfold M_R_RangeTellerModel_passIf
    rw [k1, nI_pred, rq_put, rq_b, ← hτ1, q59, rq_rd (n := 12) rfl (by omega) (by decide), rq_b, q41, rq_rd (n := 12) rfl (by omega) (by decide), rq_b, q42, rq_rd (n := 100) rfl (by omega) (by decide), rq_b, t2, nI_1, rq_rd (n := 100) (c := 6) rfl (by omega) (by decide), rq_b]
  have e84 : ∀ w : rt_St, w 2 k = nI (op k) → B_R_RangeTellerModel_passIf_84 (nI k) (nI (st m).2.1) w = if (st m).2.1 = 0 then some w else if op k = 3 then (M_R_RangeTellerModel_pass w (nI (k + 1))).bind fun x => some x else (M_R_RangeTellerModel_passBranch w (nI k)).bind fun x => some x := fun w hw => by
    have ok3 := (m2 k hk).2.2.1
    unfold B_R_RangeTellerModel_passIf_84
    by_cases z : (st m).2.1 = 0
    · rw [if_pos z, if_pos (show nI (st m).2.1 = 0 by rw [z]; rfl)]
    · rw [if_neg z, if_neg (nI_ne0 (by omega) (by omega)), rq_rd (n := 100) rfl (by omega) (by decide), rq_b, hw, nI_1]
      by_cases y : op k = 3
      · rw [if_pos y, if_pos (show nI (op k) = 3 by rw [y]; rfl)]
      · rw [if_neg y, if_neg (show ¬ nI (op k) = 3 from fun e => y ((nI_eq (b := 3) (by omega) (by decide)).mp e))]
  have e72 : ∀ t : Int32, B_R_RangeTellerModel_passIf_72 (nI k) (nI (st m).1) (nI (st m).2.1) t τ1 = if (st m).1 = 0 then (M_R_RangeTellerModel_pass τ1 t).bind fun w => B_R_RangeTellerModel_passIf_84 (nI k) (nI (st m).2.1) w else B_R_RangeTellerModel_passIf_84 (nI k) (nI (st m).2.1) τ1 := fun t => by
    unfold B_R_RangeTellerModel_passIf_72
    by_cases z : (st m).1 = 0
    · rw [if_pos z, if_pos (show nI (st m).1 = 0 by rw [z]; rfl)]
    · rw [if_neg z, if_neg (nI_ne0 (by omega) (by omega))]
  have pre := fun (X : ft_S) (o1 : Option rt_St) (H : fr_R N F op ar ow en el pa lo re fs hs gl bk kp L A X τ1 o1 (fun _ => True)) => fr_R.pre A1 (fun i => f1 27 i (by omega)) (f1 0 58 (by omega)) H
  have ps := fun (A' : ft_S) (w : rt_St) (Gw : fr_G N F op ar ow en el pa lo re fs hs gl bk kp L A' w) (Kw : fr_K m st vr w) => fr_ps D0 Gw Kw go s2 v1 v0
  have nilK := fr_R.nil (Q := fr_s τ1) G1 ⟨fun _ _ _ _ => rfl, rfl⟩
  refine ⟨fun o3 => ?_, fun o7 => ?_⟩
  · obtain ⟨n1, n2, n3, n4⟩ := FJ.1 o3
    have go2 : wf_go N fs ow hs L k (gl k - 1) m := by
      have w := J.2.2.2 (by omega)
      rw [n3, n4, hm] at w
      exact w
    have ej : ft_jmp (ow k) (re (ow k)) (gl k) (bk k) (kp k) m (pa (ow k) + lo (ow k)) st vr = ft_pass (gl k - 1) m (pa (ow k) + lo (ow k)) st vr := by
      unfold ft_jmp
      rw [if_neg (show ¬ gl k = 0 by omega), n3, n4, hm]
      exact ft_pass_cg (fun i hi => if_neg (fun q => absurd q.1 (by decide))) (fun i hi => rfl)
    have h72 : M_R_RangeTellerModel_passIf τ (nI k) = B_R_RangeTellerModel_passIf_72 (nI k) (nI (st m).1) (nI (st m).2.1) (nI (gl k - 1)) τ1 := by
      rw [head, if_pos (show nI (op k) = 3 by rw [o3]; rfl), t6]
      unfold B_R_RangeTellerModel_passIf_64
      by_cases y : el k = 0
      · rw [if_pos y] at n2
        rw [rq_e0 y, if_pos (by decide), rq_rd (n := 100) rfl (by omega) (by decide), rq_b, t5, rq_e1 n1, nI_1, show en k + 1 = gl k - 1 by omega]
      · rw [if_neg y] at n2
        have eN := go2.1
        rw [rq_e1 y, if_neg (nI_pos (by omega)), rq_rd (n := 100) rfl (by omega) (by decide), rq_b, t6, rq_e1 y, nI_1, show el k + 1 = gl k - 1 by omega]
    rw [ft_J_cm]
    refine pre _ _ ?_
    rw [h72, e72, ej]
    have tail : ∀ (A' : ft_S) (w : rt_St), fr_G N F op ar ow en el pa lo re fs hs gl bk kp L A' w → fr_K m st vr w → fr_R N F op ar ow en el pa lo re fs hs gl bk kp L A' (if (st m).2.1 = 0 then ft_0 else ft_pass (k + 1) m (pa (ow k) + lo (ow k)) st vr) w (B_R_RangeTellerModel_passIf_84 (nI k) (nI (st m).2.1) w) (fun _ => True) := fun A' w Gw Kw => by
      rw [e84 w (Gw.1.1 k hk).1]
      by_cases y : (st m).2.1 = 0
      · rw [if_pos y, if_pos y]; exact fr_R.nil Gw trivial
      · rw [if_neg y, if_neg y, if_pos o3]; exact (ps A' w Gw Kw).sm
    by_cases z : (st m).1 = 0
    · rw [if_pos z, if_pos z]
      exact fr_R.seq (fr_ps D0 G1 KK go2 s2 v1 v0) (fun w _ a2 a3 => tail _ w a2 (KK.keep a3))
    · rw [if_neg z, if_neg z]
      exact fr_R.seq (g := fun w => B_R_RangeTellerModel_passIf_84 (nI k) (nI (st m).2.1) w) nilK (fun w _ a2 a3 => tail _ w a2 (KK.keep a3))
  · refine pre _ _ ?_
    have ok3 := (m2 k hk).2.2.1
    have n3 : ¬ op k = 3 := by omega
    rw [head, if_neg (show ¬ nI (op k) = 3 from fun e => n3 ((nI_eq (b := 3) (by omega) (by decide)).mp e)), e72]
    have tail : ∀ (A' : ft_S) (w : rt_St), fr_G N F op ar ow en el pa lo re fs hs gl bk kp L A' w → fr_K m st vr w → fr_R N F op ar ow en el pa lo re fs hs gl bk kp L A' (if (st m).2.1 = 0 then ft_0 else ft_jmp (ow k) (re (ow k)) (gl k) (bk k) (kp k) m (pa (ow k) + lo (ow k)) st vr) w (B_R_RangeTellerModel_passIf_84 (nI k) (nI (st m).2.1) w) (fun _ => True) := fun A' w Gw Kw => by
      rw [e84 w (Gw.1.1 k hk).1]
      by_cases y : (st m).2.1 = 0
      · rw [if_pos y, if_pos y]; exact fr_R.nil Gw trivial
      · rw [if_neg y, if_neg y, if_neg n3]; exact (fr_branch D0 Gw Kw hk hL (Or.inr o7) J (by omega) s2 v1 v0).sm
    by_cases z : (st m).1 = 0
    · rw [if_pos z, if_pos z]
      exact fr_R.seq (ps A τ1 G1 KK) (fun w _ a2 a3 => tail _ w a2 (KK.keep a3))
    · rw [if_neg z, if_neg z]
      exact fr_R.seq (g := fun w => B_R_RangeTellerModel_passIf_84 (nI k) (nI (st m).2.1) w) nilK (fun w _ a2 a3 => tail _ w a2 (KK.keep a3))
end FRD
