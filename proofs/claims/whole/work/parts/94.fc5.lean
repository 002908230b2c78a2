/-! foretelling, the class: a call -/
section FCD
variable {N F j h m k f o : Nat} {op ar ow pa lo re fs hs gl bk kp : Nat → Nat} {L : Nat → Prop} {A X Y Z : ft_S} {P st vr : Nat → ft_G} {r : ft_G} {σ u : rt_St} {Q : rt_St → Prop}
theorem fc_R.cg {o1 : Option rt_St} (H : fc_R N F op ar ow pa lo re fs hs gl bk kp L A X Z σ o1 Q) (e : ft_J A X = ft_J A Y) : fc_R N F op ar ow pa lo re fs hs gl bk kp L A Y Z σ o1 Q := by
  unfold fc_R at H ⊢
  rw [e] at H
  exact H
theorem fc_arrP (D : md_A F N op ar ow pa lo re fs hs gl bk kp L) (G : fc_G N F op ar ow pa lo re fs hs gl bk kp L A Z P σ) (K : fc_K h st vr σ) (hgo : wf_go N fs ow hs L k j h) (s1 : ∀ i, i < h → ft_ok (st i)) (v1 : ∀ i, i < pa (ow k) + lo (ow k) → ft_ok (vr i)) : ∃ u, M_C_Foreteller_arrive σ (nI j) = some u ∧ rq_A fc_A σ u ∧ fc_G N F op ar ow pa lo re fs hs gl bk kp L (ft_J A (ft_pass j h (pa (ow k) + lo (ow k)) st vr)) Z P u ∧ ft_E N op ar A (fc_W σ) (ft_J A (ft_pass j h (pa (ow k) + lo (ow k)) st vr)) (fc_W u) := by
  obtain ⟨g1, g2, g3, g4, g5⟩ := hgo
  subst g3
  rw [← g4] at v1 ⊢
  obtain ⟨T, V, C⟩ := G
  have D0 := D
  obtain ⟨⟨hN, hF1, hF3⟩, m1, m2, -⟩ := D
  obtain ⟨owF, h10, -, -⟩ := m2 j g1
  obtain ⟨-, -, -, -, pa2, lo2, -⟩ := m1 (ow j) owF
  obtain ⟨u, e1, e2, e3, e4, e5⟩ := fc_arrive D0 T V C K g1 s1 v1
  have V' := V.pass g1 g2 h10 (by omega) s1 v1 (fun g hg => (m1 g hg).2.2.2.1) (fun e => absurd e g5)
  exact ⟨u, e1, e2, ⟨T.keep e2, V', e3⟩, ft_E_pass V V' (by omega) h10 (by omega) e5⟩
theorem fc_call (D : md_A F N op ar ow pa lo re fs hs gl bk kp L) (G : fc_G N F op ar ow pa lo re fs hs gl bk kp L A A P σ) (K : fc_K h st vr σ) (hf : f < F) (hp : pa f ≤ h) (hh : h ≤ 10) (go : wf_go N fs ow hs L k (k + 1) (h - pa f + re f)) (s1 : ∀ i, i < h → ft_ok (st i)) (v1 : ∀ i, i < pa (ow k) + lo (ow k) → ft_ok (vr i)) :
    fc_R N F op ar ow pa lo re fs hs gl bk kp L A (ft_J (ft_pass (fs f) 0 (pa f + lo f) st (ft_arg (pa f) h st)) (if (A 5 f).2.1 = 0 then ft_0 else ft_pass (k + 1) (h - pa f + re f) (pa (ow k) + lo (ow k)) (ft_bck (pa f) h st (A 3 f)) vr)) (ft_J A (ft_J (ft_pass (fs f) 0 (pa f + lo f) st (ft_arg (pa f) h st)) (if (A 5 f).2.1 = 0 then ft_0 else ft_pass (k + 1) (h - pa f + re f) (pa (ow k) + lo (ow k)) (ft_bck (pa f) h st (A 3 f)) vr))) σ (M_C_Foreteller_call σ (nI k) (nI f)) (fun _ => True) := by
  have D0 := D
  obtain ⟨⟨hN, hF1, hF3⟩, m1, m2, -⟩ := D
  obtain ⟨f1, f2, f3, f4, pa2, lo2, re1⟩ := m1 f hf
  obtain ⟨t10, t11, t12, t13⟩ := G.1.2.1 f hf
  have G0 := G
  obtain ⟨T, V, c1, c2, c3, c4, c5, c6, c7, c8, c9⟩ := G
  obtain ⟨k1, k2, k3⟩ := K
  have g10 := (m2 (k + 1) go.1).2.1
  have g3 := go.2.2.1
  have fl := V.2.1 5 f (by decide)
  obtain ⟨σ3, fg, p1, p2, p3, p4, -⟩ := fc_join3839 (b := 2 * f) (s := h - pa f) (n := pa f) (g := fun i => P (2 * f + i)) (t := fun i => st (h - pa f + i)) (by omega) (by omega) (fun i hi => (c8 _ (by omega)).2) (fun i hi => Or.inr (s1 _ (by omega))) (pa f) 0 0 FU (rt_up σ 29 12 (nI (h - pa f))) (by omega) (by show pa f + 1 ≤ 2000000; omega) (by decide) (fun i _ hi => by rw [rq_c (by decide)]; exact (c8 _ (by omega)).1) (fun i _ hi => by rw [rq_c (by decide)]; exact k2 _ (by omega))
  obtain ⟨P', hP'⟩ : ∃ P' : Nat → ft_G, ∀ x, P' x = if 2 * f ≤ x ∧ x < 2 * f + pa f then ft_j (P x) (st (h - pa f + (x - 2 * f))) else P x := ⟨_, fun _ => rfl⟩
  have far : ∀ c x, ¬ (c = 29 ∧ x = 12) → ¬ (c = 38 ∧ 2 * f ≤ x ∧ x < 2 * f + pa f) → σ3 c x = σ c x := fun c x b1 b2 => by
    rw [p3 c x (by unfold fc_j3839; omega), rq_if, if_neg b1]
  -- what the whole amounts to
  obtain ⟨B2, hB2⟩ : ∃ B2 : ft_S, B2 = if (A 5 f).2.1 = 0 then ft_0 else ft_pass (k + 1) (h - pa f + re f) (pa (ow k) + lo (ow k)) (ft_bck (pa f) h st (A 3 f)) vr := ⟨_, rfl⟩
  rw [← hB2]
  have up1 : ft_L (ft_pass (fs f) 0 (pa f + lo f) st (fun i => if i < pa f then P' (2 * f + i) else (0, 0, 0))) (ft_J A (ft_pass (fs f) 0 (pa f + lo f) st (ft_arg (pa f) h st))) := fun c x => by
    show ft_le _ (ft_j (A c x) (ft_pass (fs f) 0 (pa f + lo f) st (ft_arg (pa f) h st) c x))
    unfold ft_pass
    rw [if_neg (show ¬ (c = 0 ∧ 10 * fs f ≤ x ∧ x < 10 * fs f + 0) by omega), if_neg (show ¬ (c = 0 ∧ 10 * fs f ≤ x ∧ x < 10 * fs f + 0) by omega)]
    by_cases z : c = 1 ∧ 4 * fs f ≤ x ∧ x < 4 * fs f + (pa f + lo f)
    · rw [if_pos z, if_pos z]
      unfold ft_arg
      dsimp only
      by_cases y : x - 4 * fs f < pa f
      · rw [if_pos y, if_pos y, hP', if_pos (by omega), show 2 * f + (x - 4 * fs f) - 2 * f = x - 4 * fs f by omega]
        have w := c9 f (x - 4 * fs f) hf y
        rw [show 4 * fs f + (x - 4 * fs f) = x by omega] at w
        obtain ⟨rfl, -⟩ := z
        exact ft_j_le.mpr ⟨w.tr ft_j_l, ft_j_r⟩
      · rw [if_neg y, if_neg y]; exact ft_j_r
    · rw [if_neg z, if_neg z]; exact ft_j_r
  have up2 : ft_L (ft_pass (fs f) 0 (pa f + lo f) st (ft_arg (pa f) h st)) (ft_pass (fs f) 0 (pa f + lo f) st (fun i => if i < pa f then P' (2 * f + i) else (0, 0, 0))) := ft_pass_mono (fun i hi => by omega) (fun i hi => by
    unfold ft_arg
    by_cases y : i < pa f
    · rw [if_pos y, if_pos y, hP', if_pos (by omega), show 2 * f + i - 2 * f = i by omega]; exact ft_j_r
    · rw [if_neg y, if_neg y]; exact ft_le.rf)
  have eqX : ft_J A (ft_J B2 (ft_pass (fs f) 0 (pa f + lo f) st (fun i => if i < pa f then P' (2 * f + i) else (0, 0, 0)))) = ft_J A (ft_J (ft_pass (fs f) 0 (pa f + lo f) st (ft_arg (pa f) h st)) B2) := by
    refine ft_L.eq (ft_J_L.mpr ⟨ft_J_l, ft_J_L.mpr ⟨ft_J_r.tr ft_J_r, up1.tr (ft_J_L.mpr ⟨ft_J_l, ft_J_l.tr ft_J_r⟩)⟩⟩) (ft_J_L.mpr ⟨ft_J_l, ft_J_L.mpr ⟨up2.tr (ft_J_r.tr ft_J_r), ft_J_l.tr ft_J_r⟩⟩)
  -- the picture once the parameters are joined
  have A3 : rq_A fc_A σ σ3 := fun c x q => far c x (by unfold fc_A at q; omega) (by unfold fc_A at q; omega)
  have G3 : fc_G N F op ar ow pa lo re fs hs gl bk kp L A (ft_J A (ft_J (ft_pass (fs f) 0 (pa f + lo f) st (ft_arg (pa f) h st)) B2)) P' σ3 := by
    refine ⟨T.keep A3, V, fun x hx => ?_, fun x hx => ?_, fun x hx => ?_, fun g hg => ?_, fun q hq => ?_, fun q hq hr => ?_, fun q hq => ?_, fun x hx => ?_, fun g i hg hi => ?_⟩
    · rw [far 36 x (by omega) (by omega)]; exact c1 x hx
    · rw [far 37 x (by omega) (by omega)]; exact c2 x hx
    · rw [far 32 x (by omega) (by omega)]; exact c3 x hx
    · rw [far 33 g (by omega) (by omega), far 34 g (by omega) (by omega)]; exact c4 g hg
    · rw [far 30 q (by omega) (by omega)]; exact c5 q hq
    · rw [far 31 q (by omega) (by omega)]; exact c6 q hq hr
    · rw [far 35 q (by omega) (by omega)]; exact c7 q hq
    · rw [hP']
      by_cases z : 2 * f ≤ x ∧ x < 2 * f + pa f
      · have w := p4 (x - 2 * f) (by omega) (by omega)
        rw [show 2 * f + (x - 2 * f) = x by omega] at w
        rw [if_pos z]
        exact ⟨w, ft_v_j (c8 x hx).2 (Or.inr (s1 _ (by omega)))⟩
      · rw [if_neg z, far 38 x (by omega) (by omega)]; exact c8 x hx
    · rw [hP']
      by_cases z : 2 * f ≤ 2 * g + i ∧ 2 * g + i < 2 * f + pa f
      · have pg := (m1 g hg).2.2.2.2.1
        have gf : g = f := by omega
        subst gf
        rw [if_pos z, show 2 * g + i - 2 * g = i by omega]
        refine ft_j_le.mpr ⟨(c9 g i hg hi).tr (ft_J_l _ _), ?_⟩
        have w : ft_le (ft_pass (fs g) 0 (pa g + lo g) st (ft_arg (pa g) h st) 1 (4 * fs g + i)) (ft_J A (ft_J (ft_pass (fs g) 0 (pa g + lo g) st (ft_arg (pa g) h st)) B2) 1 (4 * fs g + i)) := (ft_J_l.tr ft_J_r) _ _
        rw [ft_pass_1 (by omega) (by omega), if_pos ⟨rfl, by omega⟩] at w
        unfold ft_arg at w
        rw [if_pos hi] at w
        unfold ft_arg
        exact w
      · rw [if_neg z]; exact (c9 g i hg hi).tr (ft_J_l _ _)
  have K3 : fc_K (h - pa f) st vr σ3 := by
    refine ⟨?_, fun i hi => ?_, fun i hi => ?_⟩
    · rw [p3 29 12 (by unfold fc_j3839; omega), rq_s]
    · rw [far 39 i (by omega) (by omega)]; exact k2 i (by omega)
    · rw [far 40 i (by omega) (by omega)]; exact k3 i hi
  have hP2 : ∀ i, i < pa f → ft_ok (P' (2 * f + i)) := fun i hi => by
    rw [hP', if_pos (by omega)]
    exact ft_ok_up (s1 (h - pa f + (2 * f + i - 2 * f)) (by omega)) (ft_v_j (c8 _ (by omega)).2 (Or.inr (s1 _ (by omega)))) ft_j_r
  have e34 : σ3 34 f = nI (A 5 f).2.1 := by rw [far 34 f (by omega) (by omega)]; exact (c4 f (by omega)).2
  have e33 : σ3 33 f = ft_c (A 3 f) := by rw [far 33 f (by omega) (by omega)]; exact (c4 f (by omega)).1
  have e13 : σ3 13 f = nI (re f) := by rw [far 13 f (by omega) (by omega)]; exact t13
  have eq0 : M_C_Foreteller_call σ (nI k) (nI f) = if nI (A 5 f).2.1 = 0 then B_C_Foreteller_call_79 (nI f) σ3 else (if nI (re f) = 1 then ((M_C_Foreteller_push σ3 (ft_c (A 3 f))).bind fun x => B_C_Foreteller_call_72 (nI k) (nI f) x) else B_C_Foreteller_call_72 (nI k) (nI f) σ3) := by
    have j1 : M_C_Foreteller_joinInto_38_39 (rt_up σ 29 12 (nI (h - pa f))) (nI (2 * f)) (nI (h - pa f)) (nI (pa f)) = some (nI fg, σ3) := p1
    unfold M_C_Foreteller_call
    rw [rq_rd (n := 3) rfl (by omega) (by decide), rq_b, t11, k1, pk_sub hp, rq_put, rq_b, rq_s, show (2 : Int32) = nI 2 from rfl, pk_mul, Nat.mul_comm f 2, j1, rq_b2, rq_rd (n := 3) rfl (by omega) (by decide), rq_b, e34, rq_rd (n := 3) rfl (by omega) (by decide), rq_b, e13, rq_rd (n := 3) rfl (by omega) (by decide), rq_b, e33]
  have ent : ∀ (A' : ft_S) (w : rt_St) (Pw : Nat → ft_G), (∀ i, i < pa f → ft_ok (Pw (2 * f + i))) → fc_G N F op ar ow pa lo re fs hs gl bk kp L A' (ft_J A (ft_J (ft_pass (fs f) 0 (pa f + lo f) st (ft_arg (pa f) h st)) B2)) Pw w → fc_R N F op ar ow pa lo re fs hs gl bk kp L A' (ft_pass (fs f) 0 (pa f + lo f) st (fun i => if i < pa f then Pw (2 * f + i) else (0, 0, 0))) (ft_J A (ft_J (ft_pass (fs f) 0 (pa f + lo f) st (ft_arg (pa f) h st)) B2)) w (B_C_Foreteller_call_79 (nI f) w) (fun _ => True) := fun A' w Pw hPw Gw => (fc_enter D0 Gw hf hPw).sm
  refine fc_R.cg (fc_R.pre A3 (fun i => far 35 i (by omega) (by omega)) ?_) eqX
  rw [eq0]
  by_cases z : (A 5 f).2.1 = 0
  · rw [if_pos z] at hB2
    rw [if_pos (show nI (A 5 f).2.1 = 0 by rw [z]; rfl)]
    have E := ent A σ3 P' hP2 G3
    subst hB2
    refine fc_R.seq (g := fun w => B_C_Foreteller_call_79 (nI f) w) (Q := fun w => w = σ3) (fc_R.nil G3 rfl) (fun w Pw _ a2 a3 => ?_)
    subst a3
    rw [ft_J_0 V.U]
    exact E
  · rw [if_neg z] at hB2
    rw [if_neg (nI_ne0 (by omega) (by omega))]
    -- the way back, then the entry
    have back : ∀ w, rq_A fc_A σ3 w → (∀ c i, 30 ≤ c → c ≤ 38 → w c i = σ3 c i) → fc_K (h - pa f + re f) (ft_bck (pa f) h st (A 3 f)) vr w → fc_R N F op ar ow pa lo re fs hs gl bk kp L A (ft_J B2 (ft_pass (fs f) 0 (pa f + lo f) st (fun i => if i < pa f then P' (2 * f + i) else (0, 0, 0)))) (ft_J A (ft_J (ft_pass (fs f) 0 (pa f + lo f) st (ft_arg (pa f) h st)) B2)) w (B_C_Foreteller_call_72 (nI k) (nI f) w) (fun _ => True) := fun w w1 w2 w3 => by
      have Gw := G3.keep w1 w2
      obtain ⟨w', e1, a1, a2, a3⟩ := fc_arrP D0 Gw w3 go (fun i hi => by
        unfold ft_bck
        by_cases q : i = h - pa f
        · rw [if_pos q]; exact V.2.2.2.2.1 f hf (by omega) (by omega)
        · rw [if_neg q]; exact s1 i (by omega)) v1
      rw [← hB2] at a2 a3
      obtain ⟨w2', P2, b1, b2, b3, b4, b5⟩ := ent (ft_J A B2) w' P' hP2 a2
      rw [ft_J_as] at b3 b4
      unfold B_C_Foreteller_call_72
      rw [nI_1, e1, rq_b]
      exact ⟨w2', P2, b1, a1.tr b2, b3, a3.tr b4 (fun j => (a2.2.1.2.1 4 j (Nat.le_refl _)).2.1), trivial⟩
    by_cases y : re f = 1
    · obtain ⟨q1, q2⟩ := fc_push (r := A 3 f) K3 (by omega)
      have B1 : rq_A fc_A σ3 (rt_up (rt_up σ3 39 (h - pa f) (ft_c (A 3 f))) 29 12 (nI (h - pa f + 1))) := (rq_A.rf.up (by unfold fc_A; omega)).up (by unfold fc_A; omega)
      rw [if_pos (show nI (re f) = 1 by rw [y]; rfl), q1, rq_b]
      refine fc_R.pre B1 (fun i => by rw [rq_c (by decide), rq_c (by decide)]) (back _ B1 (fun c i c1 c2 => by rw [rq_c (by omega), rq_c (by omega)]) ?_)
      rw [y]
      exact q2
    · have y0 : re f = 0 := by omega
      rw [if_neg (show ¬ nI (re f) = 1 by rw [y0]; decide)]
      refine back σ3 rq_A.rf (fun _ _ _ _ => rfl) ?_
      rw [y0]
      obtain ⟨q1, q2, q3⟩ := K3
      refine ⟨q1, fun i hi => ?_, q3⟩
      unfold ft_bck
      rw [if_neg (by omega)]; exact q2 i hi
end FCD
