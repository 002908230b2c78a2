/-! foretelling, the reference: bringing a row, waking, ending -/
def fr_G (N F : Nat) (op ar ow en el pa lo re fs hs gl bk kp : Nat → Nat) (L : Nat → Prop) (A : ft_S) (τ : rt_St) : Prop := fr_M N F op ar ow en el pa lo re fs hs gl bk kp L τ ∧ ft_V F N ow pa lo re fs hs L A ∧ fr_P N ow pa lo hs A τ
def fr_R (N F : Nat) (op ar ow en el pa lo re fs hs gl bk kp : Nat → Nat) (L : Nat → Prop) (A X : ft_S) (τ : rt_St) (o : Option rt_St) (Q : rt_St → Prop) : Prop := ∃ u, o = some u ∧ rq_A fr_A τ u ∧ fr_G N F op ar ow en el pa lo re fs hs gl bk kp L (ft_J A X) u ∧ ft_E N op ar A (fr_W τ) (ft_J A X) (fr_W u) ∧ ((ft_J A X = A ∧ u 0 58 = τ 0 58) ∨ (u 0 58 = 1 ∧ ft_mu (ft_J A X) < ft_mu A)) ∧ Q u
def fr_vr (A : ft_S) (k lc : Nat) : Nat → ft_G := fun i => if i < lc then ft_vr A k i else (0, 0, 0)
theorem ft_pass_cg {j h lc : Nat} {st st' vr vr' : Nat → ft_G} (h1 : ∀ i, i < h → st i = st' i) (h2 : ∀ i, i < lc → vr i = vr' i) : ft_pass j h lc st vr = ft_pass j h lc st' vr' := funext fun c => funext fun x => by
  unfold ft_pass
  by_cases z1 : c = 0 ∧ 10 * j ≤ x ∧ x < 10 * j + h
  · rw [if_pos z1, if_pos z1]; exact h1 _ (by omega)
  rw [if_neg z1, if_neg z1]
  by_cases z2 : c = 1 ∧ 4 * j ≤ x ∧ x < 4 * j + lc
  · rw [if_pos z2, if_pos z2]; exact h2 _ (by omega)
  rw [if_neg z2, if_neg z2]
section FRB
variable {N F j h m k f o : Nat} {op ar ow en el pa lo re fs hs gl bk kp : Nat → Nat} {L : Nat → Prop} {A X Y : ft_S} {st vr : Nat → ft_G} {r : ft_G} {τ u : rt_St} {Q : rt_St → Prop}
theorem ft_pass_same (H : ft_V F N ow pa lo re fs hs L A) (h10 : hs j ≤ 10) (h4 : pa (ow j) + lo (ow j) ≤ 4) (q : ft_sm A (ft_J A (ft_pass j (hs j) (pa (ow j) + lo (ow j)) st vr)) j) : ft_J A (ft_pass j (hs j) (pa (ow j) + lo (ow j)) st vr) = A := funext fun c => funext fun x => by
  have u := H.u
  have e0 : ∀ y, ft_J A (ft_pass j (hs j) (pa (ow j) + lo (ow j)) st vr) 0 y = A 0 y := fun y => by
    by_cases z : y / 10 = j
    · have e := q.2.1 (y % 10) (by omega)
      rw [show 10 * j + y % 10 = y by omega] at e
      exact e
    · show ft_j (A 0 y) (ft_pass j (hs j) (pa (ow j) + lo (ow j)) st vr 0 y) = _
      have w := ft_pass_0 (k := y / 10) (j := j) (h := hs j) (lc := pa (ow j) + lo (ow j)) (st := st) (vr := vr) (i := y % 10) (by omega) h10
      rw [show 10 * (y / 10) + y % 10 = y by omega, if_neg (fun g => z g.1)] at w
      rw [w, ft_j_bot (u 0 y).1]
  have e1 : ∀ y, ft_J A (ft_pass j (hs j) (pa (ow j) + lo (ow j)) st vr) 1 y = A 1 y := fun y => by
    by_cases z : y / 4 = j
    · have e := q.2.2 (y % 4) (by omega)
      rw [show 4 * j + y % 4 = y by omega] at e
      exact e
    · show ft_j (A 1 y) (ft_pass j (hs j) (pa (ow j) + lo (ow j)) st vr 1 y) = _
      have w := ft_pass_1 (k := y / 4) (j := j) (h := hs j) (lc := pa (ow j) + lo (ow j)) (st := st) (vr := vr) (i := y % 4) (by omega) h4
      rw [show 4 * (y / 4) + y % 4 = y by omega, if_neg (fun g => z g.1)] at w
      rw [w, ft_j_bot (u 1 y).1]
  by_cases c0 : c = 0
  · subst c0; exact e0 x
  by_cases c1 : c = 1
  · subst c1; exact e1 x
  by_cases c4 : c = 4
  · subst c4
    by_cases z : x = j
    · rw [z]; exact q.1
    · show ft_j (A 4 x) (ft_pass j (hs j) (pa (ow j) + lo (ow j)) st vr 4 x) = _
      rw [ft_pass_4, if_neg z, ft_j_bot (u 4 x).1]
  show ft_j (A c x) (ft_pass j (hs j) (pa (ow j) + lo (ow j)) st vr c x) = _
  rw [ft_pass_o c0 c1 c4, ft_j_bot (u c x).1]
theorem fr_R.seq {Q2 : rt_St → Prop} {g : rt_St → Option rt_St} {o1 : Option rt_St} (H : fr_R N F op ar ow en el pa lo re fs hs gl bk kp L A X τ o1 Q) (h2 : ∀ u, rq_A fr_A τ u → fr_G N F op ar ow en el pa lo re fs hs gl bk kp L (ft_J A X) u → Q u → fr_R N F op ar ow en el pa lo re fs hs gl bk kp L (ft_J A X) Y u (g u) Q2) : fr_R N F op ar ow en el pa lo re fs hs gl bk kp L A (ft_J X Y) τ (o1.bind g) Q2 := by
  obtain ⟨u, e1, a1, a2, a3, a4, a5⟩ := H
  obtain ⟨w, b1, b2, b3, b4, b5, b6⟩ := h2 u a1 a2 a5
  rw [ft_J_as] at b3 b4 b5
  refine ⟨w, by rw [e1]; exact b1, a1.tr b2, b3, a3.tr b4 (fun j => (a2.2.1.2.1 4 j (Nat.le_refl _)).2.1), ?_, b6⟩
  rcases a4 with ⟨c1, c2⟩ | ⟨c1, c2⟩
  · rcases b5 with ⟨d1, d2⟩ | ⟨d1, d2⟩
    · exact Or.inl ⟨d1.trans c1, d2.trans c2⟩
    · rw [c1] at d2; exact Or.inr ⟨d1, d2⟩
  · rcases b5 with ⟨d1, d2⟩ | ⟨d1, d2⟩
    · exact Or.inr ⟨d2.trans c1, by rw [d1]; exact c2⟩
    · exact Or.inr ⟨d1, Nat.lt_trans d2 c2⟩
theorem fr_R.nil (G : fr_G N F op ar ow en el pa lo re fs hs gl bk kp L A τ) (hQ : Q τ) : fr_R N F op ar ow en el pa lo re fs hs gl bk kp L A ft_0 τ (some τ) Q := by
  have e : ft_J A ft_0 = A := ft_J_0 G.2.1.U
  unfold fr_R
  rw [e]
  exact ⟨τ, rfl, rq_A.rf, G, ft_E.rf, Or.inl ⟨rfl, rfl⟩, hQ⟩
theorem fr_R.pre {o1 : Option rt_St} (h1 : rq_A fr_A τ u) (h2 : ∀ i, u 27 i = τ 27 i) (h3 : u 0 58 = τ 0 58) (H : fr_R N F op ar ow en el pa lo re fs hs gl bk kp L A X u o1 Q) : fr_R N F op ar ow en el pa lo re fs hs gl bk kp L A X τ o1 Q := by
  obtain ⟨w, e1, a1, a2, a3, a4, a5⟩ := H
  rw [h3] at a4
  exact ⟨w, e1, h1.tr a1, a2, a3.wk (fun i _ => by unfold fr_W; rw [h2]), a4, a5⟩
theorem fr_R.sm {o1 : Option rt_St} (H : fr_R N F op ar ow en el pa lo re fs hs gl bk kp L A X τ o1 Q) : fr_R N F op ar ow en el pa lo re fs hs gl bk kp L A X τ (o1.bind fun x => some x) (fun _ => True) := by
  obtain ⟨u, e1, a1, a2, a3, a4, -⟩ := H
  exact ⟨u, by rw [e1]; rfl, a1, a2, a3, a4, trivial⟩
theorem fr_R.cg {o1 : Option rt_St} (H : fr_R N F op ar ow en el pa lo re fs hs gl bk kp L A X τ o1 Q) (e : ft_J A X = ft_J A Y) : fr_R N F op ar ow en el pa lo re fs hs gl bk kp L A Y τ o1 Q := by
  unfold fr_R at H ⊢
  rw [e] at H
  exact H
theorem fr_G.keep (G : fr_G N F op ar ow en el pa lo re fs hs gl bk kp L A τ) (h1 : rq_A fr_A τ u) (h2 : ∀ c x, 26 ≤ c → c ≤ 40 → u c x = τ c x) (h3 : u 0 58 = τ 0 58) : fr_G N F op ar ow en el pa lo re fs hs gl bk kp L A u := ⟨G.1.keep h1, G.2.1, G.2.2.keep h2 h3⟩
def fr_s (τ u : rt_St) : Prop := (∀ c x, 41 ≤ c → c ≤ 46 → u c x = τ c x) ∧ u 0 59 = τ 0 59
theorem fr_K.keep (K : fr_K h st vr τ) (s : fr_s τ u) : fr_K h st vr u := by
  obtain ⟨k1, k2, k3⟩ := K
  exact ⟨by rw [s.2]; exact k1, fun i hi => (k2 i hi).ne (s.1 _ _ (by decide) (by decide)) (s.1 _ _ (by decide) (by decide)) (s.1 _ _ (by decide) (by decide)), fun i hi => (k3 i hi).ne (s.1 _ _ (by decide) (by decide)) (s.1 _ _ (by decide) (by decide)) (s.1 _ _ (by decide) (by decide))⟩
theorem fr_psG (D : md_A F N op ar ow pa lo re fs hs gl bk kp L) (G : fr_G N F op ar ow en el pa lo re fs hs gl bk kp L A τ) (K1 : ∀ i, i < hs j → fr_3 41 42 43 i (st i) τ) (K2 : ∀ i, i < 4 → fr_3 44 45 46 i (vr i) τ) (hj : j < N) (hL : L j) (s1 : ∀ i, i < hs j → ft_ok (st i)) (v1 : ∀ i, i < pa (ow j) + lo (ow j) → ft_ok (vr i)) (v0 : ∀ i, pa (ow j) + lo (ow j) ≤ i → i < 4 → vr i = (0, 0, 0)) (hf : j = fs (ow j) → ∀ i, pa (ow j) ≤ i → i < pa (ow j) + lo (ow j) → (vr i).1 = 0) : fr_R N F op ar ow en el pa lo re fs hs gl bk kp L A (ft_pass j (hs j) (pa (ow j) + lo (ow j)) st vr) τ (M_R_RangeTellerModel_pass τ (nI j)) (fr_s τ) := by
  obtain ⟨T, V, C⟩ := G
  have D0 := D
  obtain ⟨⟨hN, hF1, hF3⟩, m1, m2, -⟩ := D
  obtain ⟨owF, h10, -, -⟩ := m2 j hj
  obtain ⟨-, -, -, -, pa2, lo2, -⟩ := m1 (ow j) owF
  obtain ⟨u, e1, e2, e3, e4, e5, e6⟩ := fr_pass D0 T V C hj K1 K2 s1 v1 v0
  have V' := V.pass hj hL h10 (by omega) s1 v1 (fun g hg => (m1 g hg).2.2.2.1) hf
  have E : ft_E N op ar A (fr_W τ) (ft_J A (ft_pass j (hs j) (pa (ow j) + lo (ow j)) st vr)) (fr_W u) := ft_E_pass V V' (by omega) h10 (by omega) (e6.imp (fun q => ⟨q.1, q.2.1⟩) (fun q => ⟨q.1, q.2.1⟩))
  refine ⟨u, e1, e2, ⟨T.keep e2, V', e5⟩, E, ?_, e3, e4⟩
  rcases e6 with ⟨q1, -, q3⟩ | ⟨q1, -, q3⟩
  · exact Or.inl ⟨ft_pass_same V h10 (by omega) q1, q3⟩
  · rcases E.2.2.2.2.2 with ⟨w, -⟩ | w
    · rw [w] at q1; exact absurd ft_sm.rf q1
    · exact Or.inr ⟨q3, w⟩
theorem fr_ps (D : md_A F N op ar ow pa lo re fs hs gl bk kp L) (G : fr_G N F op ar ow en el pa lo re fs hs gl bk kp L A τ) (K : fr_K h st vr τ) (hgo : wf_go N fs ow hs L k j h) (s1 : ∀ i, i < h → ft_ok (st i)) (v1 : ∀ i, i < pa (ow k) + lo (ow k) → ft_ok (vr i)) (v0 : ∀ i, pa (ow k) + lo (ow k) ≤ i → i < 4 → vr i = (0, 0, 0)) : fr_R N F op ar ow en el pa lo re fs hs gl bk kp L A (ft_pass j h (pa (ow k) + lo (ow k)) st vr) τ (M_R_RangeTellerModel_pass τ (nI j)) (fr_s τ) := by
  obtain ⟨g1, g2, g3, g4, g5⟩ := hgo
  subst g3
  rw [← g4] at v1 v0 ⊢
  exact fr_psG D G K.2.1 K.2.2 g1 g2 s1 v1 v0 (fun e => absurd e g5)
/-! bringing a row back -/
def fr_b (i c x : Nat) : Prop := ¬ ((41 ≤ c ∧ c ≤ 43) ∧ i ≤ x) ∧ ¬ (44 ≤ c ∧ c ≤ 46)
theorem fr_br79 {R : Nat → ft_G} (hk : k < 100) (hR : ∀ i, i < 4 → ft_ok (R i)) : ∀ (d i m : Nat) (τ : rt_St), i + d = 4 → d + 1 ≤ m → (∀ y, i ≤ y → y < 4 → fr_3 31 32 33 (4 * k + y) (R y) τ) → ∃ u, B_R_RangeTellerModel_bring_79 m (nI k) (nI i) τ = some u ∧ (∀ c x, ¬ (44 ≤ c ∧ c ≤ 46 ∧ i ≤ x) → u c x = τ c x) ∧ ∀ y, i ≤ y → y < 4 → fr_3 44 45 46 y (R y) u := by
  intro d
  induction d with
  | zero =>
    intro i m τ hd hm h1
    obtain ⟨m, rfl⟩ : ∃ q, m = q + 1 := ⟨m - 1, by omega⟩
    refine ⟨τ, ?_, fun _ _ _ => rfl, fun y y1 y2 => by omega⟩
    rw [B_R_RangeTellerModel_bring_79, if_pos (show (4 : Int32) ≤ nI i from nI_le (a := 4) (by omega) (by omega))]
  | succ d ih =>
    intro i m τ hd hm h1
    obtain ⟨m, rfl⟩ : ∃ q, m = q + 1 := ⟨m - 1, by omega⟩
    obtain ⟨e1, e2, e3⟩ := h1 i (Nat.le_refl _) (by omega)
    have ok := (hR i (by omega)).2.2
    obtain ⟨u, a1, a2, a3⟩ := ih (i + 1) m (fr_w 44 45 46 i (R i) τ) (by omega) (by omega) (fun y y1 y2 => (h1 y (by omega) y2).ne (fr_w_f (by omega)) (fr_w_f (by omega)) (fr_w_f (by omega)))
    have ix : (4 : Int32) * nI k + nI i = nI (4 * k + i) := by rw [show (4 : Int32) = nI 4 from rfl, pk_mul, nI_add]
    refine ⟨u, ?_, fun c x q => ?_, fun y y1 y2 => ?_⟩
    · have e2' : (rt_up τ 44 i (nI (R i).1)) 32 (4 * k + i) = nI (R i).2.1 := by rw [rq_c (by decide)]; exact e2
      have e3' : (rt_up (rt_up τ 44 i (nI (R i).1)) 45 i (nI (R i).2.1)) 33 (4 * k + i) = nI (R i).2.2 := by rw [rq_c (by decide), rq_c (by decide)]; exact e3
      rw [B_R_RangeTellerModel_bring_79, if_neg (show ¬ (4 : Int32) ≤ nI i from nI_ge (b := 4) (by omega) (by decide)), ix, rq_rd (n := 400) rfl (by omega) (by decide), rq_b, e1, rq_wr (n := 4) rfl (by omega) (by decide), rq_b, rq_rd (n := 400) rfl (by omega) (by decide), rq_b, e2', rq_wr (n := 4) rfl (by omega) (by decide), rq_b, rq_rd (n := 400) rfl (by omega) (by decide), rq_b, e3', fr_nar ok, rq_wr (n := 4) rfl (by omega) (by decide), rq_b, nI_1]
      exact a1
    · rw [a2 c x (by omega), fr_w_f (by omega)]
    · by_cases z : y = i
      · subst z
        refine ⟨?_, ?_, ?_⟩
        · rw [a2 44 y (by omega)]; unfold fr_w; rw [rq_c (by decide), rq_c (by decide), rq_s]
        · rw [a2 45 y (by omega)]; unfold fr_w; rw [rq_c (by decide), rq_s]
        · rw [a2 46 y (by omega)]; unfold fr_w; rw [rq_s]
      · exact a3 y (by omega) y2
theorem fr_br12 {R : Nat → ft_G} (hk : k < 100) (h10 : h ≤ 10) (hR : ∀ i, i < h → ft_ok (R i)) : ∀ (d i m : Nat) (τ : rt_St), i + d = h → d + 1 ≤ m → τ 0 59 = nI h → (∀ y, i ≤ y → y < h → fr_3 28 29 30 (10 * k + y) (R y) τ) → ∃ u, B_R_RangeTellerModel_bring_12 m (nI k) (nI i) τ = B_R_RangeTellerModel_bring_79 FU (nI k) 0 u ∧ (∀ c x, ¬ (41 ≤ c ∧ c ≤ 43 ∧ i ≤ x) → u c x = τ c x) ∧ ∀ y, i ≤ y → y < h → fr_3 41 42 43 y (R y) u := by
  intro d
  induction d with
  | zero =>
    intro i m τ hd hm h59 h1
    obtain ⟨m, rfl⟩ : ∃ q, m = q + 1 := ⟨m - 1, by omega⟩
    refine ⟨τ, ?_, fun _ _ _ => rfl, fun y y1 y2 => by omega⟩
    rw [B_R_RangeTellerModel_bring_12, h59, if_pos (nI_le (by omega) (by omega))]
  | succ d ih =>
    intro i m τ hd hm h59 h1
    obtain ⟨m, rfl⟩ : ∃ q, m = q + 1 := ⟨m - 1, by omega⟩
    obtain ⟨e1, e2, e3⟩ := h1 i (Nat.le_refl _) (by omega)
    have ok := (hR i (by omega)).2.2
    obtain ⟨u, a1, a2, a3⟩ := ih (i + 1) m (fr_w 41 42 43 i (R i) τ) (by omega) (by omega) (by rw [fr_w_f (by omega)]; exact h59) (fun y y1 y2 => (h1 y (by omega) y2).ne (fr_w_f (by omega)) (fr_w_f (by omega)) (fr_w_f (by omega)))
    have ix : (10 : Int32) * nI k + nI i = nI (10 * k + i) := by rw [show (10 : Int32) = nI 10 from rfl, pk_mul, nI_add]
    refine ⟨u, ?_, fun c x q => ?_, fun y y1 y2 => ?_⟩
    · have e2' : (rt_up τ 41 i (nI (R i).1)) 29 (10 * k + i) = nI (R i).2.1 := by rw [rq_c (by decide)]; exact e2
      have e3' : (rt_up (rt_up τ 41 i (nI (R i).1)) 42 i (nI (R i).2.1)) 30 (10 * k + i) = nI (R i).2.2 := by rw [rq_c (by decide), rq_c (by decide)]; exact e3
      rw [B_R_RangeTellerModel_bring_12, h59, if_neg (nI_ge (by omega) (by omega)), ix, rq_rd (n := 1000) rfl (by omega) (by decide), rq_b, e1, rq_wr (n := 12) rfl (by omega) (by decide), rq_b, rq_rd (n := 1000) rfl (by omega) (by decide), rq_b, e2', rq_wr (n := 12) rfl (by omega) (by decide), rq_b, rq_rd (n := 1000) rfl (by omega) (by decide), rq_b, e3', fr_nar ok, rq_wr (n := 12) rfl (by omega) (by decide), rq_b, nI_1]
      exact a1
    · rw [a2 c x (by omega), fr_w_f (by omega)]
    · by_cases z : y = i
      · subst z
        refine ⟨?_, ?_, ?_⟩
        · rw [a2 41 y (by omega)]; unfold fr_w; rw [rq_c (by decide), rq_c (by decide), rq_s]
        · rw [a2 42 y (by omega)]; unfold fr_w; rw [rq_c (by decide), rq_s]
        · rw [a2 43 y (by omega)]; unfold fr_w; rw [rq_s]
      · exact a3 y (by omega) y2
theorem fr_bring (D : md_A F N op ar ow pa lo re fs hs gl bk kp L) (G : fr_G N F op ar ow en el pa lo re fs hs gl bk kp L A τ) (hk : k < N) (hr : (A 4 k).2.1 = 1) : ∃ u, M_R_RangeTellerModel_bring τ (nI k) = some u ∧ (∀ c x, ¬ (41 ≤ c ∧ c ≤ 46) → ¬ (c = 0 ∧ x = 59) → u c x = τ c x) ∧ fr_K (hs k) (ft_st A k) (fr_vr A k (pa (ow k) + lo (ow k))) u := by
  obtain ⟨⟨hN, hF1, hF3⟩, m1, m2, -⟩ := D
  obtain ⟨owF, h10, -, -⟩ := m2 k hk
  obtain ⟨-, -, -, -, pa2, lo2, -⟩ := m1 (ow k) owF
  obtain ⟨T, V, C⟩ := G
  obtain ⟨hL, a1, a2⟩ := V.rc hk hr
  have t7 := (T.1 k hk).2.2.2.2.2
  obtain ⟨c1, c2⟩ := C.2.1 k hk hr
  have okz : ft_ok (0, 0, 0) := by unfold ft_ok; decide
  have eR : ∀ i, i < 4 → (if i < pa (ow k) + lo (ow k) then A 1 (4 * k + i) else (0, 0, 0)) = fr_vr A k (pa (ow k) + lo (ow k)) i := fun i hi => by
    unfold fr_vr ft_vr
    rw [if_pos hi]
  have eS : ∀ i, i < hs k → A 0 (10 * k + i) = ft_st A k i := fun i hi => by
    unfold ft_st
    rw [if_pos (by omega)]
  obtain ⟨u1, b1, b2, b3⟩ := fr_br12 (k := k) (h := hs k) (R := ft_st A k) (by omega) h10 (fun i hi => by rw [← eS i hi]; exact a1 i hi) (hs k) 0 FU (rt_up τ 0 59 (nI (hs k))) (by omega) (by show hs k + 1 ≤ 2000000; omega) rq_s (fun y _ hy => by rw [← eS y hy]; exact (c1 y hy).ne (rq_c (by decide)) (rq_c (by decide)) (rq_c (by decide)))
  obtain ⟨u2, d1, d2, d3⟩ := fr_br79 (k := k) (R := fr_vr A k (pa (ow k) + lo (ow k))) (by omega) (fun i hi => by
    rw [← eR i hi]
    by_cases z : i < pa (ow k) + lo (ow k)
    · rw [if_pos z]; exact a2 i z
    · rw [if_neg z]; exact okz) 4 0 FU u1 rfl (by decide) (fun y _ hy => by
    rw [← eR y hy]
    exact ((c2 y hy).ne (rq_c (by decide)) (rq_c (by decide)) (rq_c (by decide))).ne (b2 _ _ (by omega)) (b2 _ _ (by omega)) (b2 _ _ (by omega)))
  refine ⟨u2, ?_, fun c x q1 q2 => ?_, ?_, fun i hi => ?_, fun i hi => d3 i (by omega) hi⟩
  · unfold M_R_RangeTellerModel_bring
    rw [rq_rd (n := 101) rfl (by omega) (by decide), rq_b, t7, rq_put, rq_b]
    exact b1.trans d1
  · rw [d2 c x (by omega), b2 c x (by omega), rq_if, if_neg q2]
  · rw [d2 0 59 (by omega), b2 0 59 (by omega), rq_s]
  · exact (b3 i (by omega) hi).ne (d2 _ _ (by omega)) (d2 _ _ (by omega)) (d2 _ _ (by omega))
end FRB
