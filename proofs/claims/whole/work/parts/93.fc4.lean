/-! foretelling, the class: jumps, forks, calls -/
section FCC
variable {N F j h m k f o : Nat} {op ar ow pa lo re fs hs gl bk kp : Nat → Nat} {L : Nat → Prop} {A X Y Z : ft_S} {P st vr : Nat → ft_G} {r : ft_G} {σ u : rt_St} {Q : rt_St → Prop}
theorem fc_G.up {Z' : ft_S} (G : fc_G N F op ar ow pa lo re fs hs gl bk kp L A Z P σ) (hz : ft_L Z Z') : fc_G N F op ar ow pa lo re fs hs gl bk kp L A Z' P σ := by
  obtain ⟨T, V, c1, c2, c3, c4, c5, c6, c7, c8, c9⟩ := G
  exact ⟨T, V, c1, c2, c3, c4, c5, c6, c7, c8, fun g i hg hi => (c9 g i hg hi).tr (hz _ _)⟩
theorem fc_R.up {Z' : ft_S} {o1 : Option rt_St} (H : fc_R N F op ar ow pa lo re fs hs gl bk kp L A X Z σ o1 Q) (hz : ft_L Z Z') : fc_R N F op ar ow pa lo re fs hs gl bk kp L A X Z' σ o1 Q := by
  obtain ⟨u, P, e1, a1, a2, a3⟩ := H
  exact ⟨u, P, e1, a1, a2.up hz, a3⟩
theorem fc_R.sm {o1 : Option rt_St} (H : fc_R N F op ar ow pa lo re fs hs gl bk kp L A X Z σ o1 Q) : fc_R N F op ar ow pa lo re fs hs gl bk kp L A X Z σ (o1.bind fun x => some x) (fun _ => True) := by
  obtain ⟨u, P, e1, a1, a2, a3, -⟩ := H
  exact ⟨u, P, by rw [e1]; rfl, a1, a2, a3, trivial⟩
theorem fc_R.tr {o1 : Option rt_St} (H : fc_R N F op ar ow pa lo re fs hs gl bk kp L A X Z σ o1 Q) : fc_R N F op ar ow pa lo re fs hs gl bk kp L A X Z σ o1 (fun _ => True) := by
  obtain ⟨u, P, e1, a1, a2, a3, -⟩ := H
  exact ⟨u, P, e1, a1, a2, a3, trivial⟩
theorem fc_jump (D : md_A F N op ar ow pa lo re fs hs gl bk kp L) (G : fc_G N F op ar ow pa lo re fs hs gl bk kp L A Z P σ) (K : fc_K h st vr σ) (hk : k < N) (hL : L k) (o1 : 3 ≤ op k) (o2 : op k ≤ 8) (J : md_J ow re gl bk kp (wf_go N fs ow hs L k) k h) (hh : h ≤ 10) (s1 : ∀ i, i < h → ft_ok (st i)) (v1 : ∀ i, i < pa (ow k) + lo (ow k) → ft_ok (vr i)) : fc_R N F op ar ow pa lo re fs hs gl bk kp L A (ft_jmp (ow k) (re (ow k)) (gl k) (bk k) (kp k) h (pa (ow k) + lo (ow k)) st vr) Z σ (M_C_Foreteller_jump σ (nI k)) (fun _ => True) := by
  have D0 := D
  have K0 := K
  obtain ⟨⟨hN, hF1, hF3⟩, m1, m2, -⟩ := D
  obtain ⟨owF, -, -, -⟩ := m2 k hk
  obtain ⟨t7, t8, t9⟩ := G.1.2.2.2 k hk hL o1 o2
  obtain ⟨-, -, t4⟩ := G.1.1 k hk
  obtain ⟨j1, j2, j3, j4⟩ := J
  obtain ⟨k1, k2, k3⟩ := K
  unfold ft_jmp M_C_Foreteller_jump
  rw [rq_rd (n := 100) rfl (by omega) (by decide), rq_b, t7]
  by_cases z : gl k = 0
  · have e : ck_o (-1) (gl k) = -1 := if_pos z
    rw [if_pos z, e, if_pos rfl, rq_rd (n := 100) rfl (by omega) (by decide), rq_b, t4]
    exact (fc_leave D0 G K0 owF hh (fun e => by
      have := (j3 z).1
      exact ⟨by omega, s1 _ (by omega)⟩)).sm
  · have e : ck_o (-1) (gl k) = nI (gl k - 1) := if_neg z
    have go := j4 z
    rw [if_neg z, e, if_neg (rn_n1 (by have := go.1; omega)), rq_rd (n := 100) rfl (by omega) (by decide), rq_b, t8, rq_rd (n := 100) rfl (by omega) (by decide), rq_b, t9]
    by_cases y : kp k = 1
    · rw [if_pos (show nI (kp k) = 1 by rw [y]; rfl), rq_rd (n := 10) (i := h - 1) (by rw [k1, show h = h - 1 + 1 by omega, nI_pred, Nat.add_sub_cancel]) (by omega) (by decide), rq_b, k2 (h - 1) (by omega), rq_wr (n := 10) rfl (by omega) (by decide), rq_b]
      unfold B_C_Foreteller_jump_67
      have t9' : (rt_up σ 39 (bk k) (ft_c (st (h - 1)))) 9 k = nI (kp k) := by rw [rq_c (by decide)]; exact t9
      have t7' : (rt_up (rt_up σ 39 (bk k) (ft_c (st (h - 1)))) 29 12 (nI (bk k + kp k))) 7 k = nI (gl k - 1) := by rw [rq_c (by decide), rq_c (by decide), t7, e]
      rw [rq_rd (n := 100) rfl (by omega) (by decide), rq_b, t9', nI_add, rq_put, rq_b, rq_rd (n := 100) rfl (by omega) (by decide), rq_b, t7']
      have A1 : rq_A fc_A σ (rt_up (rt_up σ 39 (bk k) (ft_c (st (h - 1)))) 29 12 (nI (bk k + kp k))) := (rq_A.rf.up (by unfold fc_A; omega)).up (by unfold fc_A; omega)
      refine fc_R.pre A1 (fun i => by rw [rq_c (by decide), rq_c (by decide)]) (fc_arr D0 (G.keep A1 (fun c i c1 c2 => by rw [rq_c (by omega), rq_c (by omega)])) ⟨rq_s, fun i hi => ?_, fun i hi => ?_⟩ go (fun i hi => ?_) v1).sm
      · rw [rq_c (by decide)]
        by_cases w : i = bk k
        · rw [w, rq_s, if_pos ⟨y, rfl⟩]
        · rw [rq_k w, if_neg (fun q => w q.2)]; exact k2 i (by omega)
      · rw [rq_c (by decide), rq_c (by decide)]; exact k3 i hi
      · by_cases w : i = bk k
        · rw [if_pos ⟨y, w⟩]; exact s1 _ (by omega)
        · rw [if_neg (fun q => w q.2)]; exact s1 _ (by omega)
    · have y0 : kp k = 0 := by omega
      rw [if_neg (show ¬ nI (kp k) = 1 by rw [y0]; decide)]
      unfold B_C_Foreteller_jump_67
      have t7' : (rt_up σ 29 12 (nI (bk k + kp k))) 7 k = nI (gl k - 1) := by rw [rq_c (by decide), t7, e]
      rw [rq_rd (n := 100) rfl (by omega) (by decide), rq_b, t9, nI_add, rq_put, rq_b, rq_rd (n := 100) rfl (by omega) (by decide), rq_b, t7']
      have A1 : rq_A fc_A σ (rt_up σ 29 12 (nI (bk k + kp k))) := rq_A.rf.up (by unfold fc_A; omega)
      refine fc_R.pre A1 (fun i => by rw [rq_c (by decide)]) (fc_arr D0 (G.keep A1 (fun c i c1 c2 => by rw [rq_c (by omega)])) ⟨rq_s, fun i hi => ?_, fun i hi => ?_⟩ go (fun i hi => ?_) v1).sm
      · rw [rq_c (by decide)]
        rw [if_neg (fun q => y q.1)]; exact k2 i (by omega)
      · rw [rq_c (by decide)]; exact k3 i hi
      · rw [if_neg (fun q => y q.1)]; exact s1 _ (by omega)
theorem fc_fork (D : md_A F N op ar ow pa lo re fs hs gl bk kp L) (G : fc_G N F op ar ow pa lo re fs hs gl bk kp L A Z P σ) (K : fc_K (m + 1) st vr σ) (hk : k < N) (hL : L k) (oo : op k = 3 ∨ op k = 7) (go : wf_go N fs ow hs L k (k + 1) m) (J : md_J ow re gl bk kp (wf_go N fs ow hs L k) k m) (hh : m + 1 ≤ 10) (s1 : ∀ i, i < m + 1 → ft_ok (st i)) (v1 : ∀ i, i < pa (ow k) + lo (ow k) → ft_ok (vr i)) :
    (fc_R N F op ar ow pa lo re fs hs gl bk kp L A (ft_J (if (st m).2.1 = 0 then ft_0 else ft_pass (k + 1) m (pa (ow k) + lo (ow k)) st vr) (if (st m).1 = 0 then ft_jmp (ow k) (re (ow k)) (gl k) (bk k) (kp k) m (pa (ow k) + lo (ow k)) st vr else ft_0)) Z σ (M_C_Foreteller_fork σ (nI k) 1) (fun _ => True)) ∧
    (fc_R N F op ar ow pa lo re fs hs gl bk kp L A (ft_J (if (st m).1 = 0 then ft_pass (k + 1) m (pa (ow k) + lo (ow k)) st vr else ft_0) (if (st m).2.1 = 0 then ft_0 else ft_jmp (ow k) (re (ow k)) (gl k) (bk k) (kp k) m (pa (ow k) + lo (ow k)) st vr)) Z σ (M_C_Foreteller_fork σ (nI k) 0) (fun _ => True)) := by
  obtain ⟨p1, p2⟩ := fc_pop K (by omega)
  have hr := s1 m (by omega)
  have A1 : rq_A fc_A σ (rt_up σ 29 12 (nI m)) := rq_A.rf.up (by unfold fc_A; omega)
  have G1 : fc_G N F op ar ow pa lo re fs hs gl bk kp L A Z P (rt_up σ 29 12 (nI m)) := G.keep A1 (fun c i c1 c2 => by rw [rq_c (by omega)])
  have s2 : ∀ i, i < m → ft_ok (st i) := fun i hi => s1 i (by omega)
  have arr := fun (A' : ft_S) (P' : Nat → ft_G) (w : rt_St) (Gw : fc_G N F op ar ow pa lo re fs hs gl bk kp L A' Z P' w) (Kw : fc_K m st vr w) => fc_arr D Gw Kw go s2 v1
  have jmp := fun (A' : ft_S) (P' : Nat → ft_G) (w : rt_St) (Gw : fc_G N F op ar ow pa lo re fs hs gl bk kp L A' Z P' w) (Kw : fc_K m st vr w) => (fc_jump D Gw Kw hk hL (by omega) (by omega) J (by omega) s2 v1).sm
  have pre0 : ∀ a : Int32, M_C_Foreteller_fork σ (nI k) a = (some (if (st m).1 = 0 then (1 : Int32) else 0)).bind fun v3 => (some (if (st m).2.1 = 0 then (0 : Int32) else 1)).bind fun v4 => if a = 0 then (if v3 = 0 then B_C_Foreteller_fork_41 (nI k) a v3 v4 (rt_up σ 29 12 (nI m)) else B_C_Foreteller_fork_34 (nI k) a v3 v4 (rt_up σ 29 12 (nI m))) else (if v4 = 0 then B_C_Foreteller_fork_41 (nI k) a v3 v4 (rt_up σ 29 12 (nI m)) else B_C_Foreteller_fork_34 (nI k) a v3 v4 (rt_up σ 29 12 (nI m))) := fun a => by
    unfold M_C_Foreteller_fork
    rw [p1, rq_b2, ft_zero hr, ft_other hr]
  have nil := fun (A' : ft_S) (P' : Nat → ft_G) (w : rt_St) (Gw : fc_G N F op ar ow pa lo re fs hs gl bk kp L A' Z P' w) => fc_R.nil (Q := fun _ => True) Gw trivial
  have nilK := fc_R.nil (Q := fc_K m st vr) G1 p2
  have e41 : ∀ v3 v4 w, (B_C_Foreteller_fork_41 (nI k) 1 v3 v4 w = if v3 = 0 then some w else (M_C_Foreteller_jump w (nI k)).bind fun x => some x) ∧ (B_C_Foreteller_fork_41 (nI k) 0 v3 v4 w = if v4 = 0 then some w else (M_C_Foreteller_jump w (nI k)).bind fun x => some x) := fun v3 v4 w => ⟨rfl, rfl⟩
  have e34 : ∀ a v3 v4 w, B_C_Foreteller_fork_34 (nI k) a v3 v4 w = (M_C_Foreteller_arrive w (nI (k + 1))).bind fun x => B_C_Foreteller_fork_41 (nI k) a v3 v4 x := fun a v3 v4 w => by
    unfold B_C_Foreteller_fork_34
    rw [nI_1]
  refine ⟨fc_R.pre A1 (fun i => by rw [rq_c (by decide)]) ?_, fc_R.pre A1 (fun i => by rw [rq_c (by decide)]) ?_⟩
  · rw [pre0]
    by_cases zo : (st m).2.1 = 0
    · by_cases zz : (st m).1 = 0
      · rw [if_pos zo, if_pos zo, if_pos zz, if_pos zz]
        exact fc_R.seq (g := fun w => (M_C_Foreteller_jump w (nI k)).bind fun x => some x) nilK (fun w P' _ a2 a3 => jmp _ P' w a2 a3)
      · rw [if_pos zo, if_pos zo, if_neg zz, if_neg zz]
        exact fc_R.seq (g := fun w => some w) nilK (fun w P' _ a2 a3 => nil _ P' w a2)
    · by_cases zz : (st m).1 = 0
      · rw [if_neg zo, if_neg zo, if_pos zz, if_pos zz]
        show fc_R N F op ar ow pa lo re fs hs gl bk kp L A _ Z _ (B_C_Foreteller_fork_34 (nI k) 1 1 1 (rt_up σ 29 12 (nI m))) _
        rw [e34]
        exact fc_R.seq (arr A P _ G1 p2) (fun w P' _ a2 a3 => jmp _ P' w a2 a3)
      · rw [if_neg zo, if_neg zo, if_neg zz, if_neg zz]
        show fc_R N F op ar ow pa lo re fs hs gl bk kp L A _ Z _ (B_C_Foreteller_fork_34 (nI k) 1 0 1 (rt_up σ 29 12 (nI m))) _
        rw [e34]
        exact fc_R.seq (arr A P _ G1 p2) (fun w P' _ a2 a3 => nil _ P' w a2)
  · rw [pre0]
    by_cases zz : (st m).1 = 0
    · by_cases zo : (st m).2.1 = 0
      · rw [if_pos zz, if_pos zz, if_pos zo, if_pos zo]
        show fc_R N F op ar ow pa lo re fs hs gl bk kp L A _ Z _ (B_C_Foreteller_fork_34 (nI k) 0 1 0 (rt_up σ 29 12 (nI m))) _
        rw [e34]
        exact fc_R.seq (arr A P _ G1 p2) (fun w P' _ a2 a3 => nil _ P' w a2)
      · rw [if_pos zz, if_pos zz, if_neg zo, if_neg zo]
        show fc_R N F op ar ow pa lo re fs hs gl bk kp L A _ Z _ (B_C_Foreteller_fork_34 (nI k) 0 1 1 (rt_up σ 29 12 (nI m))) _
        rw [e34]
        exact fc_R.seq (arr A P _ G1 p2) (fun w P' _ a2 a3 => jmp _ P' w a2 a3)
    · have zo : ¬ (st m).2.1 = 0 := by unfold ft_ok at hr; omega
      rw [if_neg zz, if_neg zz, if_neg zo, if_neg zo]
      exact fc_R.seq (g := fun w => (M_C_Foreteller_jump w (nI k)).bind fun x => some x) nilK (fun w P' _ a2 a3 => jmp _ P' w a2 a3)
def fc_e40 (i c j : Nat) : Prop := ¬ (c = 40 ∧ i ≤ j)
theorem fc_entL (hf : f < 3) (hp : pa f ≤ 2) : ∀ (d i m : Nat) (σ : rt_St), i + d = 4 → d + 1 ≤ m → σ 11 f = nI (pa f) → σ 10 f = nI (fs f) → ∃ u, B_C_Foreteller_enter_7 m (nI f) (nI i) σ = (M_C_Foreteller_arrive u (nI (fs f))).bind (fun x => some x) ∧ rq_A (fc_e40 i) σ u ∧ ∀ j, i ≤ j → j < 4 → u 40 j = if j < pa f then σ 38 (2 * f + j) else 0 := by
  intro d
  induction d with
  | zero =>
    intro i m σ hd hm h11 h10
    obtain ⟨m, rfl⟩ : ∃ q, m = q + 1 := ⟨m - 1, by omega⟩
    refine ⟨σ, ?_, rq_A.rf, fun j j1 j2 => by omega⟩
    rw [B_C_Foreteller_enter_7, if_pos (show (4 : Int32) ≤ nI i from nI_le (a := 4) (by omega) (by omega)), rq_rd (n := 3) rfl hf (by decide), rq_b, h10]
  | succ d ih =>
    intro i m σ hd hm h11 h10
    obtain ⟨m, rfl⟩ : ∃ q, m = q + 1 := ⟨m - 1, by omega⟩
    obtain ⟨u, a1, a2, a3⟩ := ih (i + 1) m (rt_up σ 40 i (if i < pa f then σ 38 (2 * f + i) else 0)) (by omega) (by omega) (by rw [rq_c (by decide)]; exact h11) (by rw [rq_c (by decide)]; exact h10)
    refine ⟨u, ?_, (rq_A.rf.up (by unfold fc_e40; omega)).tr (a2.mono (fun c j q => by unfold fc_e40 at q; unfold fc_e40; omega)), fun j j1 j2 => ?_⟩
    · rw [B_C_Foreteller_enter_7, if_neg (show ¬ (4 : Int32) ≤ nI i from nI_ge (b := 4) (by omega) (by decide)), rq_rd (n := 3) rfl hf (by decide), rq_b, h11]
      unfold B_C_Foreteller_enter_44
      by_cases z : i < pa f
      · rw [if_pos z] at a1
        rw [if_neg (nI_ge z (by omega)), rq_rd (n := 6) (i := 2 * f + i) (by rw [show (2 : Int32) = nI 2 from rfl, pk_mul, nI_add, Nat.mul_comm f 2]) (by omega) (by decide), rq_b, rq_wr (n := 4) rfl (by omega) (by decide), rq_b, nI_1]
        exact a1
      · rw [if_neg z] at a1
        rw [if_pos (nI_le (by omega) (by omega)), rq_wr (n := 4) rfl (by omega) (by decide), rq_b, nI_1]
        exact a1
    · by_cases z : j = i
      · subst z; rw [a2 40 j (by unfold fc_e40; omega), rq_s]
      · rw [a3 j (by omega) j2, rq_c (by decide)]
theorem fc_enter (D : md_A F N op ar ow pa lo re fs hs gl bk kp L) (G : fc_G N F op ar ow pa lo re fs hs gl bk kp L A Z P σ) (hf : f < F) (hP : ∀ i, i < pa f → ft_ok (P (2 * f + i))) : fc_R N F op ar ow pa lo re fs hs gl bk kp L A (ft_pass (fs f) 0 (pa f + lo f) st (fun i => if i < pa f then P (2 * f + i) else (0, 0, 0))) Z σ (M_C_Foreteller_enter σ (nI f)) (fun _ => True) := by
  have D0 := D
  obtain ⟨⟨hN, hF1, hF3⟩, m1, m2, -⟩ := D
  obtain ⟨f1, f2, f3, f4, pa2, lo2, -⟩ := m1 f hf
  obtain ⟨t10, t11, -, -⟩ := G.1.2.1 f hf
  obtain ⟨u, a1, a2, a3⟩ := fc_entL (pa := pa) (fs := fs) (f := f) (by omega) pa2 4 0 FU (rt_up σ 29 12 0) rfl (by decide) (by rw [rq_c (by decide)]; exact t11) (by rw [rq_c (by decide)]; exact t10)
  have A1 : rq_A fc_A σ u := (rq_A.rf.up (by unfold fc_A; omega)).tr (a2.mono (fun c j q => by unfold fc_A at q; unfold fc_e40; omega))
  have same : ∀ c i, 30 ≤ c → c ≤ 38 → u c i = σ c i := fun c i c1 c2 => by rw [a2 c i (by unfold fc_e40; omega), rq_c (by omega)]
  have eq : M_C_Foreteller_enter σ (nI f) = (M_C_Foreteller_arrive u (nI (fs f))).bind (fun x => some x) := by
    unfold M_C_Foreteller_enter
    rw [rq_put, rq_b]
    exact a1
  rw [eq]
  have G1 := G.keep A1 same
  have K1 : fc_K (hs (fs f)) st (fun i => if i < pa f then P (2 * f + i) else (0, 0, 0)) u := by
    rw [f3]
    refine ⟨?_, fun i hi => by omega, fun i hi => ?_⟩
    · rw [a2 29 12 (by unfold fc_e40; omega), rq_s]; rfl
    · rw [a3 i (by omega) hi]
      dsimp only
      by_cases z : i < pa f
      · rw [if_pos z, if_pos z, rq_c (by decide)]; exact (G.2.2.2.2.2.2.2.2.2.1 (2 * f + i) (by omega)).1
      · rw [if_neg z, if_neg z]; rfl
  have v0 : ∀ i, i < pa f + lo f → ft_ok ((fun i => if i < pa f then P (2 * f + i) else ((0, 0, 0) : ft_G)) i) := fun i hi => by
    dsimp only
    by_cases z : i < pa f
    · rw [if_pos z]; exact hP i z
    · rw [if_neg z]; unfold ft_ok; decide
  have r := fc_arrG D0 G1 K1 f1 f2 (fun i hi => by omega) (fun i hi => v0 i (by rw [f4] at hi; exact hi)) (fun _ i i1 i2 => by
    rw [f4] at i1
    rw [if_neg (by omega)])
  rw [f3, f4] at r
  exact fc_R.pre A1 (fun i => same 35 i (by decide) (by decide)) r.sm
end FCC
