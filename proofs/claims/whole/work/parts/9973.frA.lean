/-! foretelling, the reference: calls -/
section FRI
variable {N F h m k o a b t p g : Nat} {op ar ow en el pa lo re fs hs gl bk kp : Nat → Nat} {L : Nat → Prop} {A X Y : ft_S} {st vr ce S : Nat → ft_G} {r v q : ft_G} {τ u : rt_St}
theorem fr_c25 (hb : b + p ≤ 10) (hp : p ≤ 4) (hS : ∀ y, y < p → ft_ok (S (b + y))) (l1 l2 : Int32) : ∀ (d i f : Nat) (u : rt_St), i + d = 4 → d + 1 ≤ f → (∀ y, y < p → fr_3 41 42 43 (b + y) (S (b + y)) u) → ∃ w, B_R_RangeTellerModel_passCall_25 f l1 l2 (nI p) (nI b) (nI i) u = B_R_RangeTellerModel_passCall_25 1 l1 l2 (nI p) (nI b) (nI 4) w ∧ (∀ c x, ¬ ((44 ≤ c ∧ c ≤ 46) ∧ i ≤ x) → w c x = u c x) ∧ ∀ y, i ≤ y → y < 4 → fr_3 44 45 46 y (if y < p then S (b + y) else (0, 0, 0)) w := by
  intro d
  induction d with
  | zero =>
    intro i f u hi hf hK
    obtain ⟨f, rfl⟩ : ∃ q, f = q + 1 := ⟨f - 1, by omega⟩
    obtain rfl : i = 4 := by omega
    refine ⟨u, ?_, fun _ _ _ => rfl, fun y y1 y2 => by omega⟩
    rw [B_R_RangeTellerModel_passCall_25, B_R_RangeTellerModel_passCall_25, if_pos (show (4 : Int32) ≤ nI 4 from Int32.le_refl _), if_pos (show (4 : Int32) ≤ nI 4 from Int32.le_refl _)]
  | succ d ih =>
    intro i f u hi hf hK
    obtain ⟨f, rfl⟩ : ∃ q, f = q + 1 := ⟨f - 1, by omega⟩
    obtain ⟨w, b1, b2, b3⟩ := ih (i + 1) f (fr_w 44 45 46 i (if i < p then S (b + i) else (0, 0, 0)) u) (by omega) (by omega) (fun y hy => (hK y hy).ne (fr_w_f (by omega)) (fr_w_f (by omega)) (fr_w_f (by omega)))
    refine ⟨w, ?_, fun c x e => by rw [b2 c x (by omega), fr_w_f (by omega)], fun y y1 y2 => ?_⟩
    · rw [B_R_RangeTellerModel_passCall_25, if_neg (show ¬ (4 : Int32) ≤ nI i from nI_ge (b := 4) (by omega) (by decide))]
      by_cases z : i < p
      · obtain ⟨k1, k2, k3⟩ := hK i z
        have ok := hS i z
        have ok' := ok
        unfold ft_ok at ok'
        rw [if_pos z] at b1
        have k2' : (rt_up u 44 i (nI (S (b + i)).1)) 42 (b + i) = nI (S (b + i)).2.1 := by rw [rq_c (by decide)]; exact k2
        have k3' : (rt_up (rt_up u 44 i (nI (S (b + i)).1)) 45 i (nI (S (b + i)).2.1)) 43 (b + i) = nI (S (b + i)).2.2 := by rw [rq_c (by decide), rq_c (by decide)]; exact k3
        have e125 : ∀ s : Nat, s ≤ 1 → s = (S (b + i)).2.2 → B_R_RangeTellerModel_passCall_125 (B_R_RangeTellerModel_passCall_25 f) l1 l2 (nI p) (nI b) (nI i) (nI s) (nI i) (rt_up (rt_up u 44 i (nI (S (b + i)).1)) 45 i (nI (S (b + i)).2.1)) = B_R_RangeTellerModel_passCall_25 1 l1 l2 (nI p) (nI b) (nI 4) w := fun s hs es => by
          unfold B_R_RangeTellerModel_passCall_125
          rw [fr_nar hs, rq_wr (n := 4) rfl (by omega) (by decide), rq_b, nI_1, es]
          exact b1
        rw [if_neg (show ¬ nI p ≤ nI i from nI_ge z (by omega))]
        unfold B_R_RangeTellerModel_passCall_42 B_R_RangeTellerModel_passCall_69 B_R_RangeTellerModel_passCall_95 B_R_RangeTellerModel_passCall_124
        rw [if_neg (show ¬ (1 : Int32) = 0 by decide), nI_add, rq_rd (n := 12) rfl (by omega) (by decide), rq_b, k1, rq_wr (n := 4) rfl (by omega) (by decide), rq_b, if_neg (show ¬ (1 : Int32) = 0 by decide), rq_rd (n := 12) rfl (by omega) (by decide), rq_b, k2', rq_wr (n := 4) rfl (by omega) (by decide), rq_b, if_neg (show ¬ (1 : Int32) = 0 by decide), rq_rd (n := 12) rfl (by omega) (by decide), rq_b, k3']
        by_cases y : (S (b + i)).2.2 = 0
        · rw [if_pos (show nI (S (b + i)).2.2 = 0 by rw [y]; rfl)]; exact e125 0 (by decide) (by omega)
        · rw [if_neg (nI_ne0 (by omega) (by omega))]; exact e125 1 (by decide) (by omega)
      · rw [if_neg z] at b1
        rw [if_pos (show nI p ≤ nI i from nI_le (by omega) (by omega))]
        unfold B_R_RangeTellerModel_passCall_42 B_R_RangeTellerModel_passCall_69 B_R_RangeTellerModel_passCall_95 B_R_RangeTellerModel_passCall_124 B_R_RangeTellerModel_passCall_125
        rw [if_pos (show (0 : Int32) = 0 from rfl), rq_wr (n := 4) rfl (by omega) (by decide), rq_b, if_pos (show (0 : Int32) = 0 from rfl), rq_wr (n := 4) rfl (by omega) (by decide), rq_b, if_pos (show (0 : Int32) = 0 from rfl), rq_wr (n := 4) rfl (by omega) (by decide), rq_b, nI_1]
        exact b1
    · by_cases z : y = i
      · have ff : ∀ c, w c y = (fr_w 44 45 46 i (if i < p then S (b + i) else (0, 0, 0)) u) c y := fun c => b2 c y (by omega)
        rw [z] at ff ⊢
        exact (fr_w_g (by decide) (by decide) (by decide)).ne (ff _) (ff _) (ff _)
      · exact b3 y (by omega) y2
theorem fr_call (D : md_A F N op ar ow pa lo re fs hs gl bk kp L) (G : fr_G N F op ar ow en el pa lo re fs hs gl bk kp L A τ) (K : fr_K (hs k) (ft_st A k) (fr_vr A k (pa (ow k) + lo (ow k))) τ) (hk : k < N) (hr : (A 4 k).2.1 = 1) (hf : ar k < F) (hp : pa (ar k) ≤ hs k) (go : wf_go N fs ow hs L k (k + 1) (hs k - pa (ar k) + re (ar k))) : fr_R N F op ar ow en el pa lo re fs hs gl bk kp L A (ft_J (ft_pass (fs (ar k)) 0 (pa (ar k) + lo (ar k)) (ft_st A k) (ft_arg (pa (ar k)) (hs k) (ft_st A k))) (if (A 5 (ar k)).2.1 = 0 then ft_0 else ft_pass (k + 1) (hs k - pa (ar k) + re (ar k)) (pa (ow k) + lo (ow k)) (ft_bck (pa (ar k)) (hs k) (ft_st A k) (A 3 (ar k))) (ft_vr A k))) τ (M_R_RangeTellerModel_passCall τ (nI k)) (fun _ => True) := by
  have D0 := D
  obtain ⟨⟨hN, hF1, hF3⟩, m1, m2, -⟩ := D
  have G0 := G
  obtain ⟨T, V, P0⟩ := G
  obtain ⟨owF, h10, -, -⟩ := m2 k hk
  obtain ⟨-, -, -, -, pak, lok, -⟩ := m1 (ow k) owF
  obtain ⟨fN, fL, fh, fo, paf, lof, ref⟩ := m1 (ar k) hf
  obtain ⟨tF1, tF2, tF3⟩ := T.2.1 (ar k) hf
  have e3 := (T.1 k hk).2.1
  obtain ⟨hL, a1, a2⟩ := V.rc hk hr
  obtain ⟨f, hfe⟩ : ∃ f, f = ar k := ⟨_, rfl⟩
  rw [← hfe] at hf hp go fN fL fh fo paf lof ref tF1 tF2 tF3 e3 ⊢
  obtain ⟨b, hbe⟩ : ∃ b, b = hs k - pa f := ⟨_, rfl⟩
  rw [← hbe] at go ⊢
  have eS : ∀ i, i < hs k → A 0 (10 * k + i) = ft_st A k i := fun i hi => by
    unfold ft_st
    rw [if_pos (by omega)]
  have okS : ∀ i, i < hs k → ft_ok (ft_st A k i) := fun i hi => by rw [← eS i hi]; exact a1 i hi
  obtain ⟨w, w1, w2, w3⟩ := fr_c25 (b := b) (p := pa f) (S := ft_st A k) (by omega) (by omega) (fun y hy => okS _ (by omega)) (nI k) (nI f) 4 0 FU τ rfl (by decide) (fun y hy => K.2.1 (b + y) (by omega))
  have i1 : τ 0 59 - nI (pa f) = nI b := by rw [K.1, pk_sub hp, hbe]
  have w2' : ∀ c x, ¬ (44 ≤ c ∧ c ≤ 46) → w c x = τ c x := fun c x e => w2 c x (by omega)
  have Aw : rq_A fr_A τ w := fun c x e => w2' c x (by unfold fr_A at e; omega)
  have Gw := G0.keep Aw (fun c x c1 c2 => w2' c x (by omega)) (w2' 0 58 (by omega))
  have okz : ft_ok (0, 0, 0) := by unfold ft_ok; decide
  have argok : ∀ i, ft_ok (ft_arg (pa f) (hs k) (ft_st A k) i) := fun i => by
    unfold ft_arg
    by_cases z : i < pa f
    · rw [if_pos z]; exact okS _ (by omega)
    · rw [if_neg z]; exact okz
  have R1 : fr_R N F op ar ow en el pa lo re fs hs gl bk kp L A (ft_pass (fs f) 0 (pa f + lo f) (ft_st A k) (ft_arg (pa f) (hs k) (ft_st A k))) w (M_R_RangeTellerModel_pass w (nI (fs f))) (fr_s w) := by
    have R := fr_psG (j := fs f) (st := ft_st A k) (vr := ft_arg (pa f) (hs k) (ft_st A k)) D0 Gw (fun i hi => by omega) (fun i hi => by
      have q := w3 i (Nat.zero_le _) hi
      rw [hbe] at q
      exact q) fN fL (fun i hi => by omega) (fun i hi => argok i) (fun i i1 i2 => by
      unfold ft_arg
      rw [fo] at i1
      rw [if_neg (by omega)]) (fun _ i i1 i2 => by
      unfold ft_arg
      rw [fo] at i1
      rw [if_neg (by omega)])
    rw [fh, fo] at R
    exact R
  have head : M_R_RangeTellerModel_passCall τ (nI k) = (M_R_RangeTellerModel_pass w (nI (fs f))).bind fun σ4 => (M_R_RangeTellerModel_bring σ4 (nI k)).bind fun σ5 => (rt_put σ5 0 59 (nI b)).bind fun σ6 => (rt_rd σ6 40 3 (nI f)).bind fun v7 => if v7 = 0 then some σ6 else (rt_rd σ6 13 3 (nI f)).bind fun v8 => if v8 = 1 then (rt_rd σ6 37 3 (nI f)).bind fun v10 => (rt_rd σ6 38 3 (nI f)).bind fun v11 => (rt_rd σ6 39 3 (nI f)).bind fun v12 => (M_R_RangeTellerModel_set σ6 (σ6 0 59) v10 v11 v12).bind fun σ13 => (rt_put σ13 0 59 ((σ13 0 59) + 1)).bind fun σ14 => B_R_RangeTellerModel_passCall_209 (nI k) σ14 else B_R_RangeTellerModel_passCall_209 (nI k) σ6 := by
    have t14 : w 14 f = nI (fs f) := by rw [w2' 14 f (by omega)]; exact tF1
    unfold M_R_RangeTellerModel_passCall
    rw [rq_rd (n := 100) rfl (by omega) (by decide), rq_b, e3, rq_rd (n := 3) rfl (by omega) (by decide), rq_b, tF2, i1]
    refine w1.trans ?_
    rw [B_R_RangeTellerModel_passCall_25, if_pos (show (4 : Int32) ≤ nI 4 from Int32.le_refl _), rq_rd (n := 3) rfl (by omega) (by decide), rq_b, t14]
  rw [head]
  refine fr_R.pre Aw (fun i => w2' 27 i (by omega)) (w2' 0 58 (by omega)) (fr_R.seq R1 (fun u1 _ G1 s1 => ?_))
  obtain ⟨A1, hA1⟩ : ∃ A1, A1 = ft_J A (ft_pass (fs f) 0 (pa f + lo f) (ft_st A k) (ft_arg (pa f) (hs k) (ft_st A k))) := ⟨_, rfl⟩
  rw [← hA1] at G1 ⊢
  have uu := V.u
  -- the row of the call is the same as before
  have r4 : (A1 4 k).2.1 = 1 := by
    have l : ft_L A A1 := by rw [hA1]; exact ft_J_l
    have x1 := (l 4 k).2.1
    have x2 := (G1.2.1.2.1 4 k (Nat.le_refl _)).2.1
    omega
  have r0 : ∀ i, i < hs k → A1 0 (10 * k + i) = A 0 (10 * k + i) := fun i hi => by
    rw [hA1]
    show ft_j (A 0 (10 * k + i)) (ft_pass (fs f) 0 (pa f + lo f) (ft_st A k) (ft_arg (pa f) (hs k) (ft_st A k)) 0 (10 * k + i)) = _
    rw [ft_pass_0 (by omega) (by omega), if_neg (fun e => by omega), ft_j_bot (uu 0 _).1]
  have r1 : ∀ i, i < pa (ow k) + lo (ow k) → A1 1 (4 * k + i) = A 1 (4 * k + i) := fun i hi => by
    rw [hA1]
    show ft_j (A 1 (4 * k + i)) (ft_pass (fs f) 0 (pa f + lo f) (ft_st A k) (ft_arg (pa f) (hs k) (ft_st A k)) 1 (4 * k + i)) = _
    rw [ft_pass_1 (by omega) (by omega)]
    by_cases z : k = fs f
    · have hz : hs k = 0 := by rw [z]; exact fh
      have oz : ow k = f := by rw [z]; exact fo
      rw [oz] at hi
      have ez : (A 1 (4 * k + i)).1 = 0 := by
        have q := V.2.2.2.2.2 f hf (by rw [← z]; exact hr) i (by omega) hi
        rw [← z] at q
        exact q
      rw [if_pos ⟨z, hi⟩]
      unfold ft_arg
      rw [if_neg (by omega)]
      exact ft_j_of ⟨by rw [ez]; exact Nat.le_refl _, Nat.zero_le _, Nat.zero_le _⟩
    · rw [if_neg (fun e => z e.1), ft_j_bot (uu 1 _).1]
  have r3 : ∀ c x, (c = 3 ∨ c = 5) → A1 c x = A c x := fun c x e => by
    rw [hA1]
    show ft_j (A c x) (ft_pass (fs f) 0 (pa f + lo f) (ft_st A k) (ft_arg (pa f) (hs k) (ft_st A k)) c x) = _
    rw [ft_pass_o (by omega) (by omega) (by omega), ft_j_bot (uu c x).1]
  obtain ⟨u2, b1, b2, b3⟩ := fr_bring D0 G1 hk r4
  have stE : ∀ i, i < hs k → ft_st A1 k i = ft_st A k i := fun i hi => by
    unfold ft_st
    rw [if_pos (by omega), if_pos (by omega), r0 i hi]
  have vrE : ∀ i, i < pa (ow k) + lo (ow k) → ft_vr A1 k i = ft_vr A k i := fun i hi => by
    unfold ft_vr
    rw [if_pos (by omega), if_pos (by omega), r1 i hi]
  have B3 : fr_K (hs k) (ft_st A k) (fr_vr A k (pa (ow k) + lo (ow k))) u2 := b3.cg (fun i hi => (stE i hi).symm) (fun i hi => by
    unfold fr_vr
    by_cases z : i < pa (ow k) + lo (ow k)
    · rw [if_pos z, if_pos z, vrE i z]
    · rw [if_neg z, if_neg z])
  have K3 := B3.dn (h' := b) (by omega)
  obtain ⟨u3, hu3⟩ : ∃ u3, u3 = rt_up u2 0 59 (nI b) := ⟨_, rfl⟩
  rw [← hu3] at K3
  have f3 : ∀ c x, ¬ (41 ≤ c ∧ c ≤ 46) → ¬ (c = 0 ∧ x = 59) → u3 c x = u1 c x := fun c x e1 e2 => by rw [hu3, rq_if, if_neg e2, b2 c x e1 e2]
  have A3 : rq_A fr_A u1 u3 := fun c x e => f3 c x (by unfold fr_A at e; omega) (by unfold fr_A at e; omega)
  have G3 := G1.keep A3 (fun c x c1 c2 => f3 c x (by omega) (by omega)) (f3 0 58 (by omega) (by omega))
  obtain ⟨p1, p2, p3⟩ := G3.2.2.2.2.2.1 f (by omega)
  rw [r3 5 f (Or.inr rfl)] at p1
  rw [r3 3 f (Or.inl rfl)] at p2 p3
  have t13 := (G3.1.2.1 f hf).2.2
  have a5 := V.2.1 5 f (by decide)
  rw [b1, rq_b, rq_put, rq_b, ← hu3, rq_rd (n := 3) rfl (by omega) (by decide), rq_b, p1]
  refine fr_R.pre A3 (fun i => f3 27 i (by omega) (by omega)) (f3 0 58 (by omega) (by omega)) ?_
  have vok : ∀ i, i < pa (ow k) + lo (ow k) → ft_ok (fr_vr A k (pa (ow k) + lo (ow k)) i) := fun i hi => by
    unfold fr_vr ft_vr
    rw [if_pos hi, if_pos (by omega)]; exact a2 i hi
  have vz : ∀ i, pa (ow k) + lo (ow k) ≤ i → i < 4 → fr_vr A k (pa (ow k) + lo (ow k)) i = (0, 0, 0) := fun i i1 _ => by
    unfold fr_vr
    rw [if_neg (by omega)]
  by_cases z : (A 5 f).2.1 = 0
  · rw [if_pos z, if_pos (show nI (A 5 f).2.1 = 0 by rw [z]; rfl)]
    exact fr_R.nil G3 trivial
  · have z1 : (A 5 f).2.1 = 1 := by omega
    rw [if_neg z, if_neg (nI_ne0 (by omega) (by omega)), rq_rd (n := 3) rfl (by omega) (by decide), rq_b, t13]
    have cg : ∀ X, ft_pass (k + 1) (b + re f) (pa (ow k) + lo (ow k)) X (fr_vr A k (pa (ow k) + lo (ow k))) = ft_pass (k + 1) (b + re f) (pa (ow k) + lo (ow k)) X (ft_vr A k) := fun X => ft_pass_cg (fun i hi => rfl) (fun i hi => by
      unfold fr_vr
      rw [if_pos hi])
    unfold B_R_RangeTellerModel_passCall_209
    by_cases y : re f = 1
    · have okr := V.2.2.2.2.1 f hf z1 y
      have nb : A 3 f ≠ ft_bot := fun e => by
        rw [e] at okr
        unfold ft_ok at okr
        exact absurd okr.1 (by decide)
      obtain ⟨d1, d2, d3⟩ := p3 nb
      have W1 : rq_A fr_A u3 (rt_up (fr_w 41 42 43 b (A 3 f) u3) 0 59 (nI (b + 1))) := fun c x e => by
        rw [rq_if, if_neg (by unfold fr_A at e; omega), fr_w_f (by unfold fr_A at e; omega)]
      have W2 : ∀ c x, ¬ (41 ≤ c ∧ c ≤ 43) → ¬ (c = 0 ∧ x = 59) → (rt_up (fr_w 41 42 43 b (A 3 f) u3) 0 59 (nI (b + 1))) c x = u3 c x := fun c x e1 e2 => by rw [rq_if, if_neg e2, fr_w_f (by omega)]
      have G4 := G3.keep W1 (fun c x c1 c2 => W2 c x (by omega) (by omega)) (W2 0 58 (by omega) (by omega))
      have K4 := K3.w (h' := b + 1) (m := b) (r := A 3 f) (u := rt_up (fr_w 41 42 43 b (A 3 f) u3) 0 59 (nI (b + 1))) (fun i hi => by omega) (fun c x c1 c2 => rq_c (by omega)) rq_s
      have k59 : (fr_w 41 42 43 b (A 3 f) u3) 0 59 = nI b := by rw [fr_w_f (by omega)]; exact K3.1
      have go' := go
      rw [y] at go'
      have P := fr_ps D0 G4 K4 go' (fun i hi => by
        by_cases q : i = b
        · rw [if_pos q]; exact okr
        · rw [if_neg q]; exact okS _ (by omega)) vok vz
      rw [if_pos (show nI (re f) = 1 by rw [y]; rfl), rq_rd (n := 3) rfl (by omega) (by decide), rq_b, d1, rq_rd (n := 3) rfl (by omega) (by decide), rq_b, d2, rq_rd (n := 3) rfl (by omega) (by decide), rq_b, d3, K3.1, fr_set (by omega) okr.2.2, rq_b, k59, nI_1, rq_put, rq_b, nI_1, ← cg, y]
      refine fr_R.pre W1 (fun i => W2 27 i (by omega) (by omega)) (W2 0 58 (by omega) (by omega)) ?_
      refine fr_R.cg P.sm (congrArg (ft_J _) (ft_pass_cg (fun i hi => ?_) (fun i hi => rfl)))
      unfold ft_bck
      rw [← hbe]
    · have y0 : re f = 0 := by omega
      have go' := go
      rw [y0] at go'
      have P := fr_ps D0 G3 K3 go' (fun i hi => okS _ (by omega)) vok vz
      rw [if_neg (show ¬ nI (re f) = 1 from fun e => y ((nI_eq (b := 1) (by omega) (by decide)).mp e)), nI_1, ← cg, y0]
      refine fr_R.cg P.sm (congrArg (ft_J _) (ft_pass_cg (fun i hi => ?_) (fun i hi => rfl)))
      unfold ft_bck
      rw [← hbe, if_neg (by omega)]
end FRI
