/-! foretelling, the reference: stores -/
section FRH
variable {N F h m k o a b t : Nat} {op ar ow en el pa lo re fs hs gl bk kp : Nat → Nat} {L : Nat → Prop} {A X Y : ft_S} {st vr ce C : Nat → ft_G} {r v q : ft_G} {τ u : rt_St}
theorem fr_s149 {x y gw an : Nat} (Kc : Int32 → Int32 → Int32 → Int32 → Int32 → Int32 → Int32 → rt_St → Option rt_St) {l1 l3 : Int32} (hx : x < 16) (hm : m < 12) (hq : ft_ok q) (hr : ft_ok r) (g1 : u 41 m = nI q.1) (g2 : u 42 m = nI q.2.1) (c : fr_3 34 35 36 x r u) : B_R_RangeTellerModel_store1_149 Kc l1 (nI m) l3 (nI q.2.2) (nI an) (nI y) (nI x) (nI gw) u = Kc l1 (nI m) l3 (nI q.2.2) (nI an) (nI gw) (nI (y + 1)) (fr_w 34 35 36 x (ft_j r q) u) := by
  obtain ⟨c1, c2, c3⟩ := c
  have hq' := hq
  have hr' := hr
  unfold ft_ok at hq' hr'
  have g2' : ∀ w, (rt_up u 34 x w) 42 m = nI q.2.1 := fun w => by rw [rq_c (by decide)]; exact g2
  have c2' : ∀ w, (rt_up u 34 x w) 35 x = nI r.2.1 := fun w => by rw [rq_c (by decide)]; exact c2
  have c3' : ∀ w w', (rt_up (rt_up u 34 x w) 35 x w') 36 x = nI r.2.2 := fun w w' => by rw [rq_c (by decide), rq_c (by decide)]; exact c3
  have mt : (ft_j r q).2.2 = max r.2.2 q.2.2 := rfl
  have e255 : ∀ s : Nat, s ≤ 1 → s = (ft_j r q).2.2 → B_R_RangeTellerModel_store1_255 Kc l1 (nI m) l3 (nI q.2.2) (nI an) (nI gw) (nI y) (nI s) (nI x) (rt_up (rt_up u 34 x (nI (ft_j r q).1)) 35 x (nI (ft_j r q).2.1)) = Kc l1 (nI m) l3 (nI q.2.2) (nI an) (nI gw) (nI (y + 1)) (fr_w 34 35 36 x (ft_j r q) u) := fun s hs es => by
    unfold B_R_RangeTellerModel_store1_255 fr_w
    rw [fr_nar hs, rq_wr (n := 16) rfl hx (by decide), rq_b, nI_1, es]
  have e228 : B_R_RangeTellerModel_store1_228 Kc l1 (nI m) l3 (nI q.2.2) (nI an) (nI gw) (nI y) (nI x) (nI (ft_j r q).2.1) (nI x) (rt_up u 34 x (nI (ft_j r q).1)) = Kc l1 (nI m) l3 (nI q.2.2) (nI an) (nI gw) (nI (y + 1)) (fr_w 34 35 36 x (ft_j r q) u) := by
    unfold B_R_RangeTellerModel_store1_228 B_R_RangeTellerModel_store1_250
    rw [rq_wr (n := 16) rfl hx (by decide), rq_b, rq_rd (n := 16) rfl hx (by decide), rq_b, c3']
    by_cases z : r.2.2 = 0
    · rw [if_pos (show nI r.2.2 = 0 by rw [z]; rfl)]
      by_cases y2 : q.2.2 = 0
      · rw [if_pos (show nI q.2.2 = 0 by rw [y2]; rfl)]; exact e255 0 (by decide) (by omega)
      · rw [if_neg (nI_ne0 (by omega) (by omega))]; exact e255 1 (by decide) (by omega)
    · rw [if_neg (nI_ne0 (by omega) (by omega))]; exact e255 1 (by decide) (by omega)
  have e189 : B_R_RangeTellerModel_store1_189 Kc l1 (nI m) l3 (nI q.2.2) (nI an) (nI gw) (nI y) (nI x) (nI (ft_j r q).1) (nI x) u = Kc l1 (nI m) l3 (nI q.2.2) (nI an) (nI gw) (nI (y + 1)) (fr_w 34 35 36 x (ft_j r q) u) := by
    unfold B_R_RangeTellerModel_store1_189
    rw [rq_wr (n := 16) rfl hx (by decide), rq_b, rq_rd (n := 12) rfl hm (by decide), rq_b, rq_rd (n := 16) rfl hx (by decide), rq_b, g2', c2']
    by_cases z : q.2.1 ≤ r.2.1
    · have e : (ft_j r q).2.1 = r.2.1 := Nat.max_eq_left z
      rw [if_pos (nI_le z (by omega)), rq_b, ← e]
      exact e228
    · have e : (ft_j r q).2.1 = q.2.1 := Nat.max_eq_right (by omega)
      rw [if_neg (nI_ge (by omega) (by omega)), rq_b, ← e]
      exact e228
  unfold B_R_RangeTellerModel_store1_149
  rw [rq_rd (n := 12) rfl hm (by decide), rq_b, rq_rd (n := 16) rfl hx (by decide), rq_b, g1, c1]
  by_cases z : r.1 ≤ q.1
  · have e : (ft_j r q).1 = r.1 := Nat.min_eq_left z
    rw [if_pos (nI_le z (by omega)), rq_b, ← e]
    exact e189
  · have e : (ft_j r q).1 = q.1 := Nat.min_eq_right (by omega)
    rw [if_neg (nI_ge (by omega) (by omega)), rq_b, ← e]
    exact e189
theorem fr_s53 (hk : k < 100) (e3 : τ 3 k = nI a) (ha : a < 64) (hm : m + 1 < 12) (hr : ft_ok r) (hq : ft_ok q) (g2 : τ 42 m = nI r.2.1) (v1 : τ 41 (m + 1) = nI q.1) (v2 : τ 42 (m + 1) = nI q.2.1) (hC : ∀ x, x < 16 → ft_ok (C x)) : ∀ (d n f an gw : Nat) (u : rt_St), n + d = min (r.2.1 + a) 15 + 1 - (r.1 + a) → d + 1 ≤ f → gw < 2 → (∀ c z, ¬ (34 ≤ c ∧ c ≤ 36) → u c z = τ c z) → (∀ x, r.1 + a + n ≤ x → x < 16 → fr_3 34 35 36 x (C x) u) → ∃ w g', B_R_RangeTellerModel_store1_53 f (nI k) (nI (m + 1)) (nI m) (nI q.2.2) (nI an) (nI gw) (nI (r.1 + n)) u = B_R_RangeTellerModel_store1_262 (nI k) (nI (if d = 0 then an else 1)) (nI g') w ∧ (∀ c x, ¬ ((34 ≤ c ∧ c ≤ 36) ∧ r.1 + a + n ≤ x ∧ x < r.1 + a + n + d) → w c x = u c x) ∧ (∀ x, r.1 + a + n ≤ x → x < r.1 + a + n + d → fr_3 34 35 36 x (ft_j (C x) q) w) ∧ g' < 2 ∧ (g' = 0 ↔ gw = 0 ∧ ∀ x, r.1 + a + n ≤ x → x < r.1 + a + n + d → ft_j (C x) q = C x) := by
  have hr' := hr
  have hq' := hq
  unfold ft_ok at hr' hq'
  intro d
  induction d with
  | zero =>
    intro n f an gw u hn hf hg hu hc
    obtain ⟨f, rfl⟩ : ∃ q, f = q + 1 := ⟨f - 1, by omega⟩
    have g2' : u 42 m = nI r.2.1 := by rw [hu _ _ (by omega)]; exact g2
    have e3' : u 3 k = nI a := by rw [hu _ _ (by omega)]; exact e3
    refine ⟨u, gw, ?_, fun _ _ _ => rfl, fun x x1 x2 => by omega, hg, ⟨fun e => ⟨e, fun x x1 x2 => by omega⟩, fun e => e.1⟩⟩
    rw [B_R_RangeTellerModel_store1_53, rq_rd (n := 12) rfl (by omega) (by decide), rq_b, g2', if_pos (show 0 = 0 from rfl)]
    by_cases z : r.2.1 < r.1 + n
    · rw [if_pos (nI_lt z (by omega))]
    · rw [if_neg (nI_nlt (by omega) (by omega)), rq_rd (n := 100) rfl hk (by decide), rq_b, e3', nI_add, if_pos (show (16 : Int32) ≤ nI (r.1 + n + a) from nI_le (a := 16) (by omega) (by omega))]
  | succ d ih =>
    intro n f an gw u hn hf hg hu hc
    obtain ⟨f, rfl⟩ : ∃ q, f = q + 1 := ⟨f - 1, by omega⟩
    have g2' : u 42 m = nI r.2.1 := by rw [hu _ _ (by omega)]; exact g2
    have e3' : u 3 k = nI a := by rw [hu _ _ (by omega)]; exact e3
    have v1' : u 41 (m + 1) = nI q.1 := by rw [hu _ _ (by omega)]; exact v1
    have v2' : u 42 (m + 1) = nI q.2.1 := by rw [hu _ _ (by omega)]; exact v2
    obtain ⟨x, hxe⟩ : ∃ x, x = r.1 + n + a := ⟨_, rfl⟩
    have hx : x < 16 := by omega
    have okc := hC x hx
    have okc' := okc
    unfold ft_ok at okc'
    have cc := hc x (by omega) hx
    obtain ⟨c1, c2, c3⟩ := cc
    obtain ⟨g1, hg1⟩ : ∃ g1 : Nat, g1 = if gw = 0 ∧ ft_j (C x) q = C x then 0 else 1 := ⟨_, rfl⟩
    have g12 : g1 < 2 := by
      rw [hg1]
      by_cases z : gw = 0 ∧ ft_j (C x) q = C x
      · rw [if_pos z]; decide
      · rw [if_neg z]; decide
    obtain ⟨w, g', b1, b2, b3, b4, b5⟩ := ih (n + 1) f 1 g1 (fr_w 34 35 36 x (ft_j (C x) q) u) (by omega) (by omega) g12 (fun c z e => by rw [fr_w_f (by omega)]; exact hu c z e) (fun y y1 y2 => (hc y (by omega) y2).ne (fr_w_f (by omega)) (fr_w_f (by omega)) (fr_w_f (by omega)))
    have b1' : B_R_RangeTellerModel_store1_53 f (nI k) (nI (m + 1)) (nI m) (nI q.2.2) (nI 1) (nI g1) (nI (r.1 + n + 1)) (fr_w 34 35 36 x (ft_j (C x) q) u) = B_R_RangeTellerModel_store1_262 (nI k) (nI 1) (nI g') w := by
      by_cases z : d = 0
      · rw [if_pos z] at b1; exact b1
      · rw [if_neg z] at b1; exact b1
    refine ⟨w, g', ?_, fun c y e => ?_, fun y y1 y2 => ?_, b4, b5.trans ⟨fun e => ?_, fun e => ?_⟩⟩
    · have st := fun (gq : Nat) => fr_s149 (x := x) (y := r.1 + n) (gw := gq) (an := 1) (m := m + 1) (l1 := nI k) (l3 := nI m) (B_R_RangeTellerModel_store1_53 f) hx hm hq okc v1' v2' ⟨c1, c2, c3⟩
      have e144 : B_R_RangeTellerModel_store1_144 (B_R_RangeTellerModel_store1_53 f) (nI k) (nI (m + 1)) (nI m) (nI q.2.2) 1 (nI (r.1 + n)) (nI x) u = _ := st 1
      have e148 : B_R_RangeTellerModel_store1_148 (B_R_RangeTellerModel_store1_53 f) (nI k) (nI (m + 1)) (nI m) (nI q.2.2) 1 (nI (r.1 + n)) (nI x) u = _ := st 0
      have t1 : ¬ (gw = 0 ∧ ft_j (C x) q = C x) → B_R_RangeTellerModel_store1_53 f (nI k) (nI (m + 1)) (nI m) (nI q.2.2) (nI 1) (nI 1) (nI (r.1 + n + 1)) (fr_w 34 35 36 x (ft_j (C x) q) u) = B_R_RangeTellerModel_store1_262 (nI k) (nI 1) (nI g') w := fun z => by
        rw [hg1, if_neg z] at b1'; exact b1'
      have t0 : (gw = 0 ∧ ft_j (C x) q = C x) → B_R_RangeTellerModel_store1_53 f (nI k) (nI (m + 1)) (nI m) (nI q.2.2) (nI 1) (nI 0) (nI (r.1 + n + 1)) (fr_w 34 35 36 x (ft_j (C x) q) u) = B_R_RangeTellerModel_store1_262 (nI k) (nI 1) (nI g') w := fun z => by
        rw [hg1, if_pos z] at b1'; exact b1'
      have grow : ¬ ft_le q (C x) → ¬ (gw = 0 ∧ ft_j (C x) q = C x) := fun z e => z (by rw [← e.2]; exact ft_j_r)
      rw [B_R_RangeTellerModel_store1_53, rq_rd (n := 12) rfl (by omega) (by decide), rq_b, g2', if_neg (nI_nlt (by omega) (by omega)), rq_rd (n := 100) rfl hk (by decide), rq_b, e3', nI_add, ← hxe, if_neg (show ¬ (16 : Int32) ≤ nI x from nI_ge (b := 16) (by omega) (by decide)), rq_b, nI_add, ← hxe, e144, e148, if_neg (show ¬ d + 1 = 0 by omega)]
      by_cases z : gw = 0
      · rw [if_pos (show nI gw = 0 by rw [z]; rfl), rq_rd (n := 12) rfl (by omega) (by decide), rq_b, v1', rq_rd (n := 16) rfl hx (by decide), rq_b, c1]
        by_cases y1 : q.1 < (C x).1
        · rw [if_pos (nI_lt y1 (by omega))]; exact t1 (grow (fun e => by have := e.1; omega))
        · rw [if_neg (nI_nlt (by omega) (by omega)), rq_rd (n := 12) rfl (by omega) (by decide), rq_b, v2', rq_rd (n := 16) rfl hx (by decide), rq_b, c2]
          by_cases y2 : (C x).2.1 < q.2.1
          · rw [if_pos (nI_lt y2 (by omega))]; exact t1 (grow (fun e => by have := e.2.1; omega))
          · rw [if_neg (nI_nlt (by omega) (by omega))]
            by_cases y3 : q.2.2 = 0
            · rw [if_pos (show nI q.2.2 = 0 by rw [y3]; rfl)]; exact t0 ⟨z, ft_j_of ⟨by omega, by omega, by omega⟩⟩
            · rw [if_neg (nI_ne0 (by omega) (by omega)), rq_rd (n := 16) rfl hx (by decide), rq_b, c3]
              by_cases y4 : (C x).2.2 = 0
              · rw [if_pos (show nI (C x).2.2 = 0 by rw [y4]; rfl)]; exact t1 (grow (fun e => by have := e.2.2; omega))
              · rw [if_neg (nI_ne0 (by omega) (by omega))]; exact t0 ⟨z, ft_j_of ⟨by omega, by omega, by omega⟩⟩
      · rw [if_neg (nI_ne0 (by omega) (by omega))]; exact t1 (fun e => z e.1)
    · rw [b2 c y (by omega), fr_w_f (by omega)]
    · by_cases z : y = x
      · have ff : ∀ c, w c y = (fr_w 34 35 36 x (ft_j (C x) q) u) c y := fun c => b2 c y (by omega)
        rw [z] at ff ⊢
        exact (fr_w_g (by decide) (by decide) (by decide)).ne (ff _) (ff _) (ff _)
      · exact b3 y (by omega) (by omega)
    · obtain ⟨e1, e2⟩ := e
      by_cases z : gw = 0 ∧ ft_j (C x) q = C x
      · refine ⟨z.1, fun y y1 y2 => ?_⟩
        by_cases yx : y = x
        · rw [yx]; exact z.2
        · exact e2 y (by omega) (by omega)
      · rw [hg1, if_neg z] at e1; exact absurd e1 (by decide)
    · refine ⟨?_, fun y y1 y2 => e.2 y (by omega) (by omega)⟩
      rw [hg1, if_pos ⟨e.1, e.2 x (by omega) (by omega)⟩]
theorem fr_store (D : md_A F N op ar ow pa lo re fs hs gl bk kp L) (G : fr_G N F op ar ow en el pa lo re fs hs gl bk kp L A τ) (K : fr_K (m + 2) st vr τ) (hk : k < N) (hm : m + 2 ≤ 10) (go : wf_go N fs ow hs L k (k + 1) m) (s1 : ∀ i, i < m + 2 → ft_ok (st i)) (v1 : ∀ i, i < pa (ow k) + lo (ow k) → ft_ok (vr i)) (v0 : ∀ i, pa (ow k) + lo (ow k) ≤ i → i < 4 → vr i = (0, 0, 0)) : fr_R N F op ar ow en el pa lo re fs hs gl bk kp L A (ft_J (ft_sto (ar k) (st m) (st (m + 1))) (ft_opr 16 (ar k) (m + 2) (k + 1) (pa (ow k) + lo (ow k)) st vr ce)) τ (M_R_RangeTellerModel_store1 τ (nI k)) (fun _ => True) := by
  have D0 := D
  obtain ⟨⟨hN, hF1, hF3⟩, m1, m2, -⟩ := D
  have G0 := G
  obtain ⟨T, V, P0⟩ := G
  have hr := s1 m (by omega)
  have hv := s1 (m + 1) (by omega)
  have hr' := hr
  have hv' := hv
  unfold ft_ok at hr' hv'
  obtain ⟨g1, g2, g3⟩ := K.2.1 m (by omega)
  obtain ⟨k1, k2, k3⟩ := K.2.1 (m + 1) (by omega)
  have e3 := (T.1 k hk).2.1
  have ha := (m2 k hk).2.2.2
  obtain ⟨q, hq⟩ : ∃ q, q = ft_tt (st (m + 1)) (st m).2.2 := ⟨_, rfl⟩
  have q1 : q.1 = (st (m + 1)).1 := by rw [hq]; rfl
  have q2 : q.2.1 = (st (m + 1)).2.1 := by rw [hq]; rfl
  have q3 : q.2.2 = max (st (m + 1)).2.2 (st m).2.2 := by rw [hq]; rfl
  have okq : ft_ok q := by rw [hq]; exact ft_tt_ok hv hr'.2.2
  obtain ⟨nn, hnn⟩ : ∃ nn, nn = min ((st m).2.1 + ar k) 15 + 1 - ((st m).1 + ar k) := ⟨_, rfl⟩
  obtain ⟨w, g', b1, b2, b3, b4, b5⟩ := fr_s53 (k := k) (m := m) (C := fun x => A 2 x) (by omega) e3 ha (by omega) hr okq g2 (by rw [q1]; exact k1) (by rw [q2]; exact k2) (fun x hx => V.2.2.1 x hx) nn 0 FU 0 0 τ (by omega) (by show nn + 1 ≤ 2000000; omega) (by decide) (fun _ _ _ => rfl) (fun x _ hx => P0.2.2.1 x hx)
  have i1 : τ 0 59 - 1 = nI (m + 1) := by rw [K.1, nI_pred]
  have i2 : τ 0 59 - 2 = nI m := by rw [K.1, show (2 : Int32) = nI 2 from rfl, pk_sub (by omega), show m + 2 - 2 = m by omega]
  obtain ⟨an, han⟩ : ∃ an : Nat, an = if nn = 0 then 0 else 1 := ⟨_, rfl⟩
  rw [← han] at b1
  have head : M_R_RangeTellerModel_store1 τ (nI k) = B_R_RangeTellerModel_store1_262 (nI k) (nI an) (nI g') w := by
    have e37 : ∀ s : Nat, s = q.2.2 → B_R_RangeTellerModel_store1_37 (nI k) (nI (m + 1)) (nI m) (nI s) τ = B_R_RangeTellerModel_store1_262 (nI k) (nI an) (nI g') w := fun s es => by
      unfold B_R_RangeTellerModel_store1_37
      rw [es, rq_rd (n := 12) rfl (by omega) (by decide), rq_b, g1]
      exact b1
    unfold M_R_RangeTellerModel_store1 B_R_RangeTellerModel_store1_32
    rw [i1, i2, rq_rd (n := 12) rfl (by omega) (by decide), rq_b, k3]
    by_cases z : (st (m + 1)).2.2 = 0
    · rw [if_pos (show nI (st (m + 1)).2.2 = 0 by rw [z]; rfl), rq_rd (n := 12) rfl (by omega) (by decide), rq_b, g3]
      by_cases y : (st m).2.2 = 0
      · rw [if_pos (show nI (st m).2.2 = 0 by rw [y]; rfl)]; exact e37 0 (by omega)
      · rw [if_neg (nI_ne0 (by omega) (by omega))]; exact e37 1 (by omega)
    · rw [if_neg (nI_ne0 (by omega) (by omega))]; exact e37 1 (by omega)
  have e262 : B_R_RangeTellerModel_store1_262 (nI k) (nI an) (nI g') w = (if g' = 0 then some w else M_R_RangeTellerModel_wake w 15 (-1)).bind fun x => B_R_RangeTellerModel_store1_274 (nI k) (nI an) x := by
    unfold B_R_RangeTellerModel_store1_262
    by_cases z : g' = 0
    · rw [if_pos z, if_pos (show nI g' = 0 by rw [z]; rfl)]; rfl
    · rw [if_neg z, if_neg (nI_ne0 (by omega) (by omega))]
  -- the new state
  obtain ⟨A', hA'⟩ : ∃ A', A' = ft_J A (ft_sto (ar k) (st m) (st (m + 1))) := ⟨_, rfl⟩
  have uu := V.u
  have V' := V.sto (a := ar k) hr hv
  have oth : ∀ c x, ¬ (c = 2 ∧ x < 16) → A' c x = A c x := fun c x z => by
    rw [hA']
    show ft_j (A c x) (ft_sto (ar k) (st m) (st (m + 1)) c x) = _
    rw [ft_sto_o z, ft_j_bot (uu c x).1]
  have inn : ∀ x, x < 16 → (st m).1 + ar k ≤ x → x < (st m).1 + ar k + nn → A' 2 x = ft_j (A 2 x) q := fun x hx x1 x2 => by
    rw [hA', hq]
    show ft_j (A 2 x) (ft_sto (ar k) (st m) (st (m + 1)) 2 x) = _
    unfold ft_sto
    rw [if_pos ⟨rfl, x1, by omega, hx⟩]
  have out : ∀ x, x < 16 → ¬ ((st m).1 + ar k ≤ x ∧ x < (st m).1 + ar k + nn) → A' 2 x = A 2 x := fun x hx z => by
    rw [hA']
    show ft_j (A 2 x) (ft_sto (ar k) (st m) (st (m + 1)) 2 x) = _
    unfold ft_sto
    rw [if_neg (fun e => z (by omega)), ft_j_bot (uu 2 x).1]
  have S0 : g' = 0 ↔ ∀ x, x < 16 → A' 2 x = A 2 x := by
    refine b5.trans ⟨fun e x hx => ?_, fun e => ⟨rfl, fun x x1 x2 => ?_⟩⟩
    · by_cases z : (st m).1 + ar k ≤ x ∧ x < (st m).1 + ar k + nn
      · rw [inn x hx z.1 z.2]; exact e.2 x z.1 z.2
      · exact out x hx z
    · have hx : x < 16 := by omega
      show ft_j (A 2 x) q = A 2 x
      rw [← inn x hx x1 x2]; exact e x hx
  have w1 : ∀ c x, ¬ ((34 ≤ c ∧ c ≤ 36) ∧ x < 16) → w c x = τ c x := fun c x z => b2 c x (by omega)
  have Aw : rq_A fr_A τ w := fun c x z => w1 c x (by unfold fr_A at z; omega)
  obtain ⟨c1, c2, c3, c4, c5, c6⟩ := P0
  have Cw : fr_P N ow pa lo hs A' w := by
    refine ⟨fun j hj => ?_, fun j hj hre => ?_, fun x hx => ?_, fun g hg => ?_, fun j hj => ?_, ?_⟩
    · rw [w1 26 j (by omega), oth 4 j (by omega)]; exact c1 j hj
    · rw [oth 4 j (by omega)] at hre
      obtain ⟨d1, d2⟩ := c2 j hj hre
      refine ⟨fun i hi => ?_, fun i hi => ?_⟩
      · rw [oth 0 _ (by omega)]; exact (d1 i hi).ne (w1 _ _ (by omega)) (w1 _ _ (by omega)) (w1 _ _ (by omega))
      · rw [oth 1 _ (by omega)]; exact (d2 i hi).ne (w1 _ _ (by omega)) (w1 _ _ (by omega)) (w1 _ _ (by omega))
    · by_cases z : (st m).1 + ar k ≤ x ∧ x < (st m).1 + ar k + nn
      · rw [inn x hx z.1 z.2]; exact b3 x z.1 z.2
      · rw [out x hx z]; exact (c3 x hx).ne (b2 _ _ (by omega)) (b2 _ _ (by omega)) (b2 _ _ (by omega))
    · rw [oth 3 g (by omega), oth 5 g (by omega), w1 40 g (by omega), w1 37 g (by omega), w1 38 g (by omega), w1 39 g (by omega)]
      exact ⟨(c4 g hg).1, (c4 g hg).2.1, fun e => ((c4 g hg).2.2 e).ne (w1 _ _ (by omega)) (w1 _ _ (by omega)) (w1 _ _ (by omega))⟩
    · rw [w1 27 j (by omega)]; exact c5 j hj
    · rw [w1 0 58 (by omega)]; exact c6
  have R1 : fr_R N F op ar ow en el pa lo re fs hs gl bk kp L A (ft_sto (ar k) (st m) (st (m + 1))) τ (if g' = 0 then some w else M_R_RangeTellerModel_wake w 15 (-1)) (fr_s τ) := by
    unfold fr_R
    rw [← hA'] at V' ⊢
    by_cases z : g' = 0
    · have S := S0.mp z
      have e : A' = A := funext fun c => funext fun x => by
        by_cases y : c = 2 ∧ x < 16
        · rw [y.1]; exact S x y.2
        · exact oth c x y
      refine ⟨w, if_pos z, Aw, ⟨T.keep Aw, V', Cw⟩, ?_, Or.inl ⟨e, w1 0 58 (by omega)⟩, fun c x x1 x2 => w1 c x (by omega), w1 0 59 (by omega)⟩
      rw [hA'] at V' S ⊢
      exact ft_E_sto V V' (Or.inl ⟨S, fun i _ => by unfold fr_W; rw [w1 27 i (by omega)]⟩)
    · have S : ¬ ∀ x, x < 16 → A' 2 x = A 2 x := fun e => z (S0.mpr e)
      obtain ⟨x, x1, x2, x3, x4, x5⟩ := fr_wake (o := 15) (A := A') D0 (T.keep Aw) V' Cw.1 (by decide) (-1)
      have Ax : rq_A fr_A w x := fun c y e => x3 c y (by unfold fr_A at e; omega) (by unfold fr_A at e; omega)
      have E : ft_E N op ar A (fr_W τ) A' (fr_W x) := by
        rw [hA'] at V' S ⊢
        refine ft_E_sto V V' (Or.inr ⟨S, fun i _ g => ?_, fun j hj hre ho => ?_⟩)
        · unfold fr_W at g ⊢
          rcases x5 i with e | e
          · rw [e, w1 27 i (by omega)]; exact g
          · exact e
        · exact x4 j hj (by rw [oth 4 j (by omega)]; exact hre) ho (Or.inl (by decide))
      refine ⟨x, by rw [if_neg z]; exact x1, Aw.tr Ax, ⟨T.keep (Aw.tr Ax), V', ?_⟩, E, Or.inr ⟨x2, ?_⟩, fun c y y1 y2 => by rw [x3 c y (by omega) (by omega)]; exact w1 c y (by omega), by rw [x3 0 59 (by omega) (by omega)]; exact w1 0 59 (by omega)⟩
      · obtain ⟨d1, d2, d3, d4, d5, d6⟩ := Cw
        have f3 : ∀ c y, c ≠ 27 → ¬ (c = 0 ∧ y = 58) → x c y = w c y := x3
        refine ⟨fun q hq => by rw [f3 26 q (by decide) (by omega)]; exact d1 q hq, fun q hq hr => ⟨fun i hi => ((d2 q hq hr).1 i hi).ne (f3 _ _ (by decide) (by omega)) (f3 _ _ (by decide) (by omega)) (f3 _ _ (by decide) (by omega)), fun i hi => ((d2 q hq hr).2 i hi).ne (f3 _ _ (by decide) (by omega)) (f3 _ _ (by decide) (by omega)) (f3 _ _ (by decide) (by omega))⟩, fun y hy => (d3 y hy).ne (f3 _ _ (by decide) (by omega)) (f3 _ _ (by decide) (by omega)) (f3 _ _ (by decide) (by omega)), fun g hg => ⟨by rw [f3 40 g (by decide) (by omega)]; exact (d4 g hg).1, fun e => by rw [f3 37 g (by decide) (by omega), f3 38 g (by decide) (by omega), f3 39 g (by decide) (by omega)]; exact (d4 g hg).2.1 e, fun e => ((d4 g hg).2.2 e).ne (f3 _ _ (by decide) (by omega)) (f3 _ _ (by decide) (by omega)) (f3 _ _ (by decide) (by omega))⟩, fun q hq => ?_, Or.inr x2⟩
        rcases x5 q with e | e
        · rw [e]; exact d5 q hq
        · exact Or.inr e
      · rcases E.2.2.2.2.2 with ⟨e, -⟩ | e
        · exfalso; rw [e] at S; exact S (fun _ _ => rfl)
        · exact e
  rw [head, e262]
  refine fr_R.seq R1 (fun x _ Gx sx => ?_)
  have Kx := K.keep sx
  have Kd := Kx.dn (h' := m) (by omega)
  have Ad : rq_A fr_A x (rt_up x 0 59 (nI m)) := rq_A.rf.up (by unfold fr_A; omega)
  have Gd := Gx.keep Ad (fun c y y1 y2 => rq_c (by omega)) (rq_k (by decide))
  refine fr_R.pre Ad (fun i => rq_c (by decide)) (rq_k (by decide)) ?_
  have j2 : x 0 59 - 2 = nI m := by rw [Kx.1, show (2 : Int32) = nI 2 from rfl, pk_sub (by omega), show m + 2 - 2 = m by omega]
  unfold B_R_RangeTellerModel_store1_274 ft_opr
  rw [j2, rq_put, rq_b]
  by_cases z : nn = 0
  · rw [if_pos (Or.inr ⟨rfl, show 16 ≤ (st m).1 + ar k by omega⟩), han, if_pos z, if_pos (show nI 0 = 0 from rfl)]
    exact fr_R.nil Gd trivial
  · rw [if_neg (show ¬ (((16 = 15 ∨ (19 ≤ 16 ∧ 16 ≤ 26)) ∧ (ft_val 16 (ar k) (m + 2) st vr ce).1 = 64) ∨ (16 = 16 ∧ 16 ≤ (st (m + 2 - 2)).1 + ar k)) from fun e => by rw [show m + 2 - 2 = m from rfl] at e; omega), han, if_neg z, if_neg (by decide), nI_1]
    have P := fr_ps D0 Gd Kd go (fun i hi => s1 i (by omega)) v1 v0
    refine fr_R.cg P.sm (congrArg (ft_J _) ?_)
    exact ft_pass_cg (fun i hi => (if_neg (show ¬ i = m by omega)).symm) (fun i hi => (if_neg (fun e => absurd e.1 (by decide))).symm)
end FRH
