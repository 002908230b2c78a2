/-! foretelling, the reference: one range joined into a row -/
theorem fr_nar {t : Nat} (h : t ≤ 1) : vp_nar .boolean (nI t) = nI t := by
  rcases (show t = 0 ∨ t = 1 by omega) with rfl | rfl
  · decide
  · decide
def fr_w (a b c x : Nat) (r : ft_G) (τ : rt_St) : rt_St := rt_up (rt_up (rt_up τ a x (nI r.1)) b x (nI r.2.1)) c x (nI r.2.2)
def fr_3 (a b c x : Nat) (r : ft_G) (τ : rt_St) : Prop := τ a x = nI r.1 ∧ τ b x = nI r.2.1 ∧ τ c x = nI r.2.2
theorem fr_3.ne {a b c x : Nat} {r : ft_G} {τ u : rt_St} (H : fr_3 a b c x r τ) (h1 : u a x = τ a x) (h2 : u b x = τ b x) (h3 : u c x = τ c x) : fr_3 a b c x r u := ⟨by rw [h1]; exact H.1, by rw [h2]; exact H.2.1, by rw [h3]; exact H.2.2⟩
section FR28
variable {j i x h m : Nat} {g r0 : ft_G} {τ : rt_St} (K : Int32 → Int32 → Int32 → Int32 → rt_St → Option rt_St) (l2 l3 : Int32)
theorem fr_t28 (hj : j < 101) (hi : i < 12) (hx : x < 1000) {q : Nat} (hq : q < 2) (h26 : τ 26 j = nI q) (hg : ft_ok g) (hG : fr_3 41 42 43 i g τ) (hr : q = 1 → ft_ok r0 ∧ fr_3 28 29 30 x r0 τ) : B_R_RangeTellerModel_pass_105 K (nI j) l2 l3 (nI i) (nI x) τ = K (nI j) l2 l3 (nI (i + 1)) (fr_w 28 29 30 x (if q = 1 then ft_j r0 g else g) τ) := by
  obtain ⟨g1, g2, g3⟩ := hG
  have hg' := hg
  unfold ft_ok at hg'
  have r1 : (rt_up τ 28 x (nI (if q = 1 then ft_j r0 g else g).1)) 26 j = nI q := by rw [rq_c (by decide)]; exact h26
  have r2 : (rt_up (rt_up τ 28 x (nI (if q = 1 then ft_j r0 g else g).1)) 29 x (nI (if q = 1 then ft_j r0 g else g).2.1)) 26 j = nI q := by rw [rq_c (by decide)]; exact r1
  have g2' : (rt_up τ 28 x (nI (if q = 1 then ft_j r0 g else g).1)) 42 i = nI g.2.1 := by rw [rq_c (by decide)]; exact g2
  have g3' : (rt_up (rt_up τ 28 x (nI (if q = 1 then ft_j r0 g else g).1)) 29 x (nI (if q = 1 then ft_j r0 g else g).2.1)) 43 i = nI g.2.2 := by rw [rq_c (by decide), rq_c (by decide)]; exact g3
  have last : ∀ t : Nat, t ≤ 1 → (if q = 1 then ft_j r0 g else g).2.2 = t → B_R_RangeTellerModel_pass_245 K (nI j) l2 l3 (nI i) (nI t) (nI x) (rt_up (rt_up τ 28 x (nI (if q = 1 then ft_j r0 g else g).1)) 29 x (nI (if q = 1 then ft_j r0 g else g).2.1)) = K (nI j) l2 l3 (nI (i + 1)) (fr_w 28 29 30 x (if q = 1 then ft_j r0 g else g) τ) := fun t ht et => by
    unfold B_R_RangeTellerModel_pass_245 fr_w
    rw [fr_nar ht, rq_wr (n := 1000) rfl hx (by decide), rq_b, nI_1, et]
  have e230 : (if q = 1 then ft_j r0 g else g).2.2 = g.2.2 → B_R_RangeTellerModel_pass_230 K (nI j) l2 l3 (nI i) (nI x) (rt_up (rt_up τ 28 x (nI (if q = 1 then ft_j r0 g else g).1)) 29 x (nI (if q = 1 then ft_j r0 g else g).2.1)) = K (nI j) l2 l3 (nI (i + 1)) (fr_w 28 29 30 x (if q = 1 then ft_j r0 g else g) τ) := fun et => by
    unfold B_R_RangeTellerModel_pass_230 B_R_RangeTellerModel_pass_240
    rw [rq_rd (n := 12) rfl hi (by decide), rq_b, g3']
    by_cases z : g.2.2 = 0
    · rw [if_pos (show nI g.2.2 = 0 by rw [z]; rfl)]; exact last 0 (by decide) (by rw [et, z])
    · rw [if_neg (nI_ne0 (by omega) (by omega))]; exact last 1 (by decide) (by rw [et]; omega)
  have e204 : B_R_RangeTellerModel_pass_204 K (nI j) l2 l3 (nI i) (nI x) (nI (if q = 1 then ft_j r0 g else g).2.1) (nI x) (rt_up τ 28 x (nI (if q = 1 then ft_j r0 g else g).1)) = K (nI j) l2 l3 (nI (i + 1)) (fr_w 28 29 30 x (if q = 1 then ft_j r0 g else g) τ) := by
    unfold B_R_RangeTellerModel_pass_204
    rw [rq_wr (n := 1000) rfl hx (by decide), rq_b, rq_rd (n := 101) rfl hj (by decide), rq_b, r2]
    by_cases z : q = 0
    · rw [if_pos (show nI q = 0 by rw [z]; rfl)]; exact e230 (by rw [if_neg (by omega)])
    · have q1 : q = 1 := by omega
      obtain ⟨ok, k1, k2, k3⟩ := hr q1
      unfold ft_ok at ok
      have k3' : (rt_up (rt_up τ 28 x (nI (if q = 1 then ft_j r0 g else g).1)) 29 x (nI (if q = 1 then ft_j r0 g else g).2.1)) 30 x = nI r0.2.2 := by rw [rq_c (by decide), rq_c (by decide)]; exact k3
      rw [if_neg (nI_ne0 (by omega) (by omega)), rq_rd (n := 1000) rfl hx (by decide), rq_b, k3']
      by_cases y : r0.2.2 = 0
      · rw [if_pos (show nI r0.2.2 = 0 by rw [y]; rfl)]
        refine e230 ?_
        rw [if_pos q1]
        show max r0.2.2 g.2.2 = g.2.2
        omega
      · rw [if_neg (nI_ne0 (by omega) (by omega))]
        unfold B_R_RangeTellerModel_pass_240
        refine last 1 (by decide) ?_
        rw [if_pos q1]
        show max r0.2.2 g.2.2 = 1
        omega
  have e154 : B_R_RangeTellerModel_pass_154 K (nI j) l2 l3 (nI i) (nI x) (nI (if q = 1 then ft_j r0 g else g).1) (nI x) τ = K (nI j) l2 l3 (nI (i + 1)) (fr_w 28 29 30 x (if q = 1 then ft_j r0 g else g) τ) := by
    unfold B_R_RangeTellerModel_pass_154 B_R_RangeTellerModel_pass_197
    rw [rq_wr (n := 1000) rfl hx (by decide), rq_b, rq_rd (n := 101) rfl hj (by decide), rq_b, r1]
    by_cases z : q = 0
    · rw [if_pos (show nI q = 0 by rw [z]; rfl), rq_rd (n := 12) rfl hi (by decide), rq_b, g2']
      have e := e204
      rw [if_neg (by omega)] at e ⊢
      exact e
    · have q1 : q = 1 := by omega
      obtain ⟨ok, k1, k2, k3⟩ := hr q1
      unfold ft_ok at ok
      have k2' : (rt_up τ 28 x (nI (if q = 1 then ft_j r0 g else g).1)) 29 x = nI r0.2.1 := by rw [rq_c (by decide)]; exact k2
      have e := e204
      rw [if_pos q1] at e k2' g2' ⊢
      rw [if_neg (nI_ne0 (by omega) (by omega)), rq_rd (n := 1000) rfl hx (by decide), rq_b, k2', rq_rd (n := 12) rfl hi (by decide), rq_b, g2']
      by_cases y : r0.2.1 ≤ g.2.1
      · rw [if_pos (nI_le y (by omega)), rq_b]
        have ee : (ft_j r0 g).2.1 = g.2.1 := Nat.max_eq_right y
        rw [ee] at e
        exact e
      · rw [if_neg (nI_ge (by omega) (by omega)), rq_b]
        have ee : (ft_j r0 g).2.1 = r0.2.1 := Nat.max_eq_left (by omega)
        rw [ee] at e
        exact e
  unfold B_R_RangeTellerModel_pass_105 B_R_RangeTellerModel_pass_147
  rw [rq_rd (n := 101) rfl hj (by decide), rq_b, h26]
  by_cases z : q = 0
  · rw [if_pos (show nI q = 0 by rw [z]; rfl), rq_rd (n := 12) rfl hi (by decide), rq_b, g1]
    have e := e154
    rw [if_neg (by omega)] at e ⊢
    exact e
  · have q1 : q = 1 := by omega
    obtain ⟨ok, k1, k2, k3⟩ := hr q1
    unfold ft_ok at ok
    have e := e154
    rw [if_pos q1] at e ⊢
    rw [if_neg (nI_ne0 (by omega) (by omega)), rq_rd (n := 1000) rfl hx (by decide), rq_b, k1, rq_rd (n := 12) rfl hi (by decide), rq_b, g1]
    by_cases y : g.1 ≤ r0.1
    · rw [if_pos (nI_le y (by omega)), rq_b]
      have ee : (ft_j r0 g).1 = g.1 := Nat.min_eq_right y
      rw [ee] at e
      exact e
    · rw [if_neg (nI_ge (by omega) (by omega)), rq_b]
      have ee : (ft_j r0 g).1 = r0.1 := Nat.min_eq_left (by omega)
      rw [ee] at e
      exact e
end FR28
section FRL28
variable {j i h m : Nat} {g r0 : ft_G} {τ : rt_St}
theorem fr_s28 (hj : j < 100) (hi : i < 10) {q fl : Nat} (hq : q < 2) (hfl : fl < 2) (h26 : τ 26 j = nI q) (hg : ft_ok g) (hG : fr_3 41 42 43 i g τ) (hr : q = 1 → ft_ok r0 ∧ fr_3 28 29 30 (10 * j + i) r0 τ) (hh : i < h) (h10 : h ≤ 10) : B_R_RangeTellerModel_pass_25 (m + 1) (nI j) (nI fl) (nI h) (nI i) τ = B_R_RangeTellerModel_pass_25 m (nI j) (nI (if q = 1 ∧ ft_j r0 g = r0 then fl else 1)) (nI h) (nI (i + 1)) (fr_w 28 29 30 (10 * j + i) (if q = 1 then ft_j r0 g else g) τ) := by
  have hg' := hg
  unfold ft_ok at hg'
  have T := fun (K) (l2 : Int32) => fr_t28 (K := K) l2 (nI h) (j := j) (i := i) (x := 10 * j + i) (by omega) (by omega) (by omega) hq h26 hg hG hr
  have e103 : ∀ K, B_R_RangeTellerModel_pass_103 K (nI j) (nI h) (nI i) (nI (10 * j + i)) τ = K (nI j) (nI 1) (nI h) (nI (i + 1)) (fr_w 28 29 30 (10 * j + i) (if q = 1 then ft_j r0 g else g) τ) := fun K => T K 1
  have ix : (10 : Int32) * nI j + nI i = nI (10 * j + i) := by rw [show (10 : Int32) = nI 10 from rfl, pk_mul, nI_add]
  rw [B_R_RangeTellerModel_pass_25, if_neg (nI_ge hh (by omega)), ix, rq_rd (n := 101) rfl (by omega) (by decide), rq_b, h26, e103]
  by_cases z : q = 0
  · rw [if_pos (show nI q = 0 by rw [z]; rfl), if_neg (show ¬ (q = 1 ∧ ft_j r0 g = r0) from fun y => by omega)]
  · have q1 : q = 1 := by omega
    obtain ⟨ok, k1, k2, k3⟩ := hr q1
    obtain ⟨g1, g2, g3⟩ := hG
    have ok' := ok
    unfold ft_ok at ok'
    have other : ∀ K, B_R_RangeTellerModel_pass_105 K (nI j) (nI fl) (nI h) (nI i) (nI (10 * j + i)) τ = K (nI j) (nI fl) (nI h) (nI (i + 1)) (fr_w 28 29 30 (10 * j + i) (if q = 1 then ft_j r0 g else g) τ) := fun K => T K (nI fl)
    rw [if_neg (nI_ne0 (by omega) (by omega)), rq_rd (n := 12) rfl (by omega) (by decide), rq_b, g1, rq_rd (n := 1000) rfl (by omega) (by decide), rq_b, k1]
    have grow : ¬ ft_le g r0 → (if q = 1 ∧ ft_j r0 g = r0 then fl else 1) = 1 := fun w => if_neg (fun y => w (by rw [← y.2]; exact ft_j_r))
    have stay : ft_le g r0 → (if q = 1 ∧ ft_j r0 g = r0 then fl else 1) = fl := fun w => if_pos ⟨q1, ft_j_of w⟩
    by_cases y1 : g.1 < r0.1
    · rw [if_pos (nI_lt y1 (by omega)), grow (fun w => by have := w.1; omega)]
    · rw [if_neg (nI_nlt (by omega) (by omega)), rq_rd (n := 12) rfl (by omega) (by decide), rq_b, g2, rq_rd (n := 1000) rfl (by omega) (by decide), rq_b, k2]
      by_cases y2 : r0.2.1 < g.2.1
      · rw [if_pos (nI_lt y2 (by omega)), grow (fun w => by have := w.2.1; omega)]
      · rw [if_neg (nI_nlt (by omega) (by omega)), rq_rd (n := 12) rfl (by omega) (by decide), rq_b, g3, other]
        by_cases y3 : g.2.2 = 0
        · rw [if_pos (show nI g.2.2 = 0 by rw [y3]; rfl), stay ⟨by omega, by omega, by omega⟩]
        · rw [if_neg (nI_ne0 (by omega) (by omega)), rq_rd (n := 1000) rfl (by omega) (by decide), rq_b, k3]
          by_cases y4 : r0.2.2 = 0
          · rw [if_pos (show nI r0.2.2 = 0 by rw [y4]; rfl), grow (fun w => by have := w.2.2; omega)]
          · rw [if_neg (nI_ne0 (by omega) (by omega)), stay ⟨by omega, by omega, by omega⟩]
end FRL28
section FR31
variable {j i x h m : Nat} {g r0 : ft_G} {τ : rt_St} (K : Int32 → Int32 → Int32 → rt_St → Option rt_St) (l2 : Int32)
theorem fr_t31 (hj : j < 101) (hi : i < 4) (hx : x < 400) {q : Nat} (hq : q < 2) (h26 : τ 26 j = nI q) (hg : ft_ok g) (hG : fr_3 44 45 46 i g τ) (hr : q = 1 → ft_ok r0 ∧ fr_3 31 32 33 x r0 τ) : B_R_RangeTellerModel_pass_334 K (nI j) l2 (nI i) (nI x) τ = K (nI j) l2 (nI (i + 1)) (fr_w 31 32 33 x (if q = 1 then ft_j r0 g else g) τ) := by
  obtain ⟨g1, g2, g3⟩ := hG
  have hg' := hg
  unfold ft_ok at hg'
  have r1 : (rt_up τ 31 x (nI (if q = 1 then ft_j r0 g else g).1)) 26 j = nI q := by rw [rq_c (by decide)]; exact h26
  have r2 : (rt_up (rt_up τ 31 x (nI (if q = 1 then ft_j r0 g else g).1)) 32 x (nI (if q = 1 then ft_j r0 g else g).2.1)) 26 j = nI q := by rw [rq_c (by decide)]; exact r1
  have g2' : (rt_up τ 31 x (nI (if q = 1 then ft_j r0 g else g).1)) 45 i = nI g.2.1 := by rw [rq_c (by decide)]; exact g2
  have g3' : (rt_up (rt_up τ 31 x (nI (if q = 1 then ft_j r0 g else g).1)) 32 x (nI (if q = 1 then ft_j r0 g else g).2.1)) 46 i = nI g.2.2 := by rw [rq_c (by decide), rq_c (by decide)]; exact g3
  have last : ∀ t : Nat, t ≤ 1 → (if q = 1 then ft_j r0 g else g).2.2 = t → B_R_RangeTellerModel_pass_474 K (nI j) l2 (nI i) (nI t) (nI x) (rt_up (rt_up τ 31 x (nI (if q = 1 then ft_j r0 g else g).1)) 32 x (nI (if q = 1 then ft_j r0 g else g).2.1)) = K (nI j) l2 (nI (i + 1)) (fr_w 31 32 33 x (if q = 1 then ft_j r0 g else g) τ) := fun t ht et => by
    unfold B_R_RangeTellerModel_pass_474 fr_w
    rw [fr_nar ht, rq_wr (n := 400) rfl hx (by decide), rq_b, nI_1, et]
  have e230 : (if q = 1 then ft_j r0 g else g).2.2 = g.2.2 → B_R_RangeTellerModel_pass_459 K (nI j) l2 (nI i) (nI x) (rt_up (rt_up τ 31 x (nI (if q = 1 then ft_j r0 g else g).1)) 32 x (nI (if q = 1 then ft_j r0 g else g).2.1)) = K (nI j) l2 (nI (i + 1)) (fr_w 31 32 33 x (if q = 1 then ft_j r0 g else g) τ) := fun et => by
    unfold B_R_RangeTellerModel_pass_459 B_R_RangeTellerModel_pass_469
    rw [rq_rd (n := 4) rfl hi (by decide), rq_b, g3']
    by_cases z : g.2.2 = 0
    · rw [if_pos (show nI g.2.2 = 0 by rw [z]; rfl)]; exact last 0 (by decide) (by rw [et, z])
    · rw [if_neg (nI_ne0 (by omega) (by omega))]; exact last 1 (by decide) (by rw [et]; omega)
  have e204 : B_R_RangeTellerModel_pass_433 K (nI j) l2 (nI i) (nI x) (nI (if q = 1 then ft_j r0 g else g).2.1) (nI x) (rt_up τ 31 x (nI (if q = 1 then ft_j r0 g else g).1)) = K (nI j) l2 (nI (i + 1)) (fr_w 31 32 33 x (if q = 1 then ft_j r0 g else g) τ) := by
    unfold B_R_RangeTellerModel_pass_433
    rw [rq_wr (n := 400) rfl hx (by decide), rq_b, rq_rd (n := 101) rfl hj (by decide), rq_b, r2]
    by_cases z : q = 0
    · rw [if_pos (show nI q = 0 by rw [z]; rfl)]; exact e230 (by rw [if_neg (by omega)])
    · have q1 : q = 1 := by omega
      obtain ⟨ok, k1, k2, k3⟩ := hr q1
      unfold ft_ok at ok
      have k3' : (rt_up (rt_up τ 31 x (nI (if q = 1 then ft_j r0 g else g).1)) 32 x (nI (if q = 1 then ft_j r0 g else g).2.1)) 33 x = nI r0.2.2 := by rw [rq_c (by decide), rq_c (by decide)]; exact k3
      rw [if_neg (nI_ne0 (by omega) (by omega)), rq_rd (n := 400) rfl hx (by decide), rq_b, k3']
      by_cases y : r0.2.2 = 0
      · rw [if_pos (show nI r0.2.2 = 0 by rw [y]; rfl)]
        refine e230 ?_
        rw [if_pos q1]
        show max r0.2.2 g.2.2 = g.2.2
        omega
      · rw [if_neg (nI_ne0 (by omega) (by omega))]
        unfold B_R_RangeTellerModel_pass_469
        refine last 1 (by decide) ?_
        rw [if_pos q1]
        show max r0.2.2 g.2.2 = 1
        omega
  have e154 : B_R_RangeTellerModel_pass_383 K (nI j) l2 (nI i) (nI x) (nI (if q = 1 then ft_j r0 g else g).1) (nI x) τ = K (nI j) l2 (nI (i + 1)) (fr_w 31 32 33 x (if q = 1 then ft_j r0 g else g) τ) := by
    unfold B_R_RangeTellerModel_pass_383 B_R_RangeTellerModel_pass_426
    rw [rq_wr (n := 400) rfl hx (by decide), rq_b, rq_rd (n := 101) rfl hj (by decide), rq_b, r1]
    by_cases z : q = 0
    · rw [if_pos (show nI q = 0 by rw [z]; rfl), rq_rd (n := 4) rfl hi (by decide), rq_b, g2']
      have e := e204
      rw [if_neg (by omega)] at e ⊢
      exact e
    · have q1 : q = 1 := by omega
      obtain ⟨ok, k1, k2, k3⟩ := hr q1
      unfold ft_ok at ok
      have k2' : (rt_up τ 31 x (nI (if q = 1 then ft_j r0 g else g).1)) 32 x = nI r0.2.1 := by rw [rq_c (by decide)]; exact k2
      have e := e204
      rw [if_pos q1] at e k2' g2' ⊢
      rw [if_neg (nI_ne0 (by omega) (by omega)), rq_rd (n := 400) rfl hx (by decide), rq_b, k2', rq_rd (n := 4) rfl hi (by decide), rq_b, g2']
      by_cases y : r0.2.1 ≤ g.2.1
      · rw [if_pos (nI_le y (by omega)), rq_b]
        have ee : (ft_j r0 g).2.1 = g.2.1 := Nat.max_eq_right y
        rw [ee] at e
        exact e
      · rw [if_neg (nI_ge (by omega) (by omega)), rq_b]
        have ee : (ft_j r0 g).2.1 = r0.2.1 := Nat.max_eq_left (by omega)
        rw [ee] at e
        exact e
  unfold B_R_RangeTellerModel_pass_334 B_R_RangeTellerModel_pass_376
  rw [rq_rd (n := 101) rfl hj (by decide), rq_b, h26]
  by_cases z : q = 0
  · rw [if_pos (show nI q = 0 by rw [z]; rfl), rq_rd (n := 4) rfl hi (by decide), rq_b, g1]
    have e := e154
    rw [if_neg (by omega)] at e ⊢
    exact e
  · have q1 : q = 1 := by omega
    obtain ⟨ok, k1, k2, k3⟩ := hr q1
    unfold ft_ok at ok
    have e := e154
    rw [if_pos q1] at e ⊢
    rw [if_neg (nI_ne0 (by omega) (by omega)), rq_rd (n := 400) rfl hx (by decide), rq_b, k1, rq_rd (n := 4) rfl hi (by decide), rq_b, g1]
    by_cases y : g.1 ≤ r0.1
    · rw [if_pos (nI_le y (by omega)), rq_b]
      have ee : (ft_j r0 g).1 = g.1 := Nat.min_eq_right y
      rw [ee] at e
      exact e
    · rw [if_neg (nI_ge (by omega) (by omega)), rq_b]
      have ee : (ft_j r0 g).1 = r0.1 := Nat.min_eq_left (by omega)
      rw [ee] at e
      exact e
end FR31
section FRL31
variable {j i h m : Nat} {g r0 : ft_G} {τ : rt_St}
theorem fr_s31 (hj : j < 100) (hi : i < 4) {q fl : Nat} (hq : q < 2) (hfl : fl < 2) (h26 : τ 26 j = nI q) (hg : ft_ok g) (hG : fr_3 44 45 46 i g τ) (hr : q = 1 → ft_ok r0 ∧ fr_3 31 32 33 (4 * j + i) r0 τ)  : B_R_RangeTellerModel_pass_255 (m + 1) (nI j) (nI fl) (nI i) τ = B_R_RangeTellerModel_pass_255 m (nI j) (nI (if q = 1 ∧ ft_j r0 g = r0 then fl else 1)) (nI (i + 1)) (fr_w 31 32 33 (4 * j + i) (if q = 1 then ft_j r0 g else g) τ) := by
  have hg' := hg
  unfold ft_ok at hg'
  have T := fun (K) (l2 : Int32) => fr_t31 (K := K) l2 (j := j) (i := i) (x := 4 * j + i) (by omega) (by omega) (by omega) hq h26 hg hG hr
  have e103 : ∀ K, B_R_RangeTellerModel_pass_332 K (nI j) (nI i) (nI (4 * j + i)) τ = K (nI j) (nI 1) (nI (i + 1)) (fr_w 31 32 33 (4 * j + i) (if q = 1 then ft_j r0 g else g) τ) := fun K => T K 1
  have ix : (4 : Int32) * nI j + nI i = nI (4 * j + i) := by rw [show (4 : Int32) = nI 4 from rfl, pk_mul, nI_add]
  rw [B_R_RangeTellerModel_pass_255, if_neg (show ¬ (4 : Int32) ≤ nI i from nI_ge (b := 4) hi (by decide)), ix, rq_rd (n := 101) rfl (by omega) (by decide), rq_b, h26, e103]
  by_cases z : q = 0
  · rw [if_pos (show nI q = 0 by rw [z]; rfl), if_neg (show ¬ (q = 1 ∧ ft_j r0 g = r0) from fun y => by omega)]
  · have q1 : q = 1 := by omega
    obtain ⟨ok, k1, k2, k3⟩ := hr q1
    obtain ⟨g1, g2, g3⟩ := hG
    have ok' := ok
    unfold ft_ok at ok'
    have other : ∀ K, B_R_RangeTellerModel_pass_334 K (nI j) (nI fl) (nI i) (nI (4 * j + i)) τ = K (nI j) (nI fl) (nI (i + 1)) (fr_w 31 32 33 (4 * j + i) (if q = 1 then ft_j r0 g else g) τ) := fun K => T K (nI fl)
    rw [if_neg (nI_ne0 (by omega) (by omega)), rq_rd (n := 4) rfl (by omega) (by decide), rq_b, g1, rq_rd (n := 400) rfl (by omega) (by decide), rq_b, k1]
    have grow : ¬ ft_le g r0 → (if q = 1 ∧ ft_j r0 g = r0 then fl else 1) = 1 := fun w => if_neg (fun y => w (by rw [← y.2]; exact ft_j_r))
    have stay : ft_le g r0 → (if q = 1 ∧ ft_j r0 g = r0 then fl else 1) = fl := fun w => if_pos ⟨q1, ft_j_of w⟩
    by_cases y1 : g.1 < r0.1
    · rw [if_pos (nI_lt y1 (by omega)), grow (fun w => by have := w.1; omega)]
    · rw [if_neg (nI_nlt (by omega) (by omega)), rq_rd (n := 4) rfl (by omega) (by decide), rq_b, g2, rq_rd (n := 400) rfl (by omega) (by decide), rq_b, k2]
      by_cases y2 : r0.2.1 < g.2.1
      · rw [if_pos (nI_lt y2 (by omega)), grow (fun w => by have := w.2.1; omega)]
      · rw [if_neg (nI_nlt (by omega) (by omega)), rq_rd (n := 4) rfl (by omega) (by decide), rq_b, g3, other]
        by_cases y3 : g.2.2 = 0
        · rw [if_pos (show nI g.2.2 = 0 by rw [y3]; rfl), stay ⟨by omega, by omega, by omega⟩]
        · rw [if_neg (nI_ne0 (by omega) (by omega)), rq_rd (n := 400) rfl (by omega) (by decide), rq_b, k3]
          by_cases y4 : r0.2.2 = 0
          · rw [if_pos (show nI r0.2.2 = 0 by rw [y4]; rfl), grow (fun w => by have := w.2.2; omega)]
          · rw [if_neg (nI_ne0 (by omega) (by omega)), stay ⟨by omega, by omega, by omega⟩]
end FRL31
