/-! foretelling, the reference: picks and loads -/
def fr_a (r : ft_G) (t : Nat) (τ : rt_St) : Prop := fr_g r τ ∧ τ 0 68 = nI (max r.2.2 t)
section FRG
variable {N F h m k o a b t : Nat} {op ar ow en el pa lo re fs hs gl bk kp : Nat → Nat} {L : Nat → Prop} {A X Y : ft_S} {st vr ce : Nat → ft_G} {r g : ft_G} {τ u : rt_St} {v : Int32}
theorem fr_zk (h : t ≤ 1) : rt_zok (nI t) = some () := by
  rcases (show t = 0 ∨ t = 1 by omega) with rfl | rfl
  · rfl
  · rfl
theorem fr_cm : fr_w 41 42 43 m r (rt_up u 0 59 v) = rt_up (fr_w 41 42 43 m r u) 0 59 v := funext fun c => funext fun x => by
  unfold fr_w
  rw [rq_if, rq_if, rq_if, rq_if, rq_if, rq_if, rq_if, rq_if]
  by_cases z : c = 0 ∧ x = 59
  · rw [if_neg (by omega), if_neg (by omega), if_neg (by omega), if_pos z, if_pos z]
  · rw [if_neg z, if_neg z]
theorem fr_acc (H : fr_a r t τ) (hg : ft_ok g) : ∃ u1, M_R_RangeTellerModel_join τ (nI g.1) (nI g.2.1) = some u1 ∧ u1 0 68 = nI (max r.2.2 t) ∧ fr_a (ft_j r g) t (rt_up u1 0 68 (nI (max (ft_j r g).2.2 t))) ∧ (∀ c z, ¬ (c = 0 ∧ (z = 66 ∨ z = 67)) → u1 c z = τ c z) := by
  obtain ⟨h1, h2⟩ := H
  have hg' := hg
  unfold ft_ok at hg'
  obtain ⟨u1, b1, b2, b3⟩ := fr_jn (a := g.1) (b := g.2.1) h1 hg'.1 hg'.2.1
  refine ⟨u1, b1, by rw [b3 0 68 (by omega)]; exact h2, ⟨?_, rq_s⟩, b3⟩
  have e : fr_g (ft_j r g) u1 := b2
  unfold fr_g at e ⊢
  rw [rq_k (by decide), rq_k (by decide)]
  exact e
theorem fr_p131 (H : fr_a r t u) (hr : ft_ok r) (ht : t ≤ 1) (h59 : u 0 59 = nI (m + 3)) (hm : m < 12) : B_R_RangeTellerModel_pick_131 u = some (rt_up (fr_w 41 42 43 m (ft_tt r t) u) 0 59 (nI (m + 1))) := by
  have hr' := hr
  unfold ft_ok at hr'
  obtain ⟨h1, h2⟩ := H
  have w : u 0 66 = nI r.1 ∧ u 0 67 = nI r.2.1 := by
    rcases h1 with b | b
    · omega
    · exact ⟨b.2.2.1, b.2.2.2⟩
  have e59 : u 0 59 - 2 = nI (m + 1) := by rw [h59, show (2 : Int32) = nI 2 from rfl, pk_sub (by omega), show m + 3 - 2 = m + 1 by omega]
  have x59 : (rt_up u 0 59 (nI (m + 1))) 0 59 - 1 = nI m := by rw [rq_s, nI_pred]
  have x66 : (rt_up u 0 59 (nI (m + 1))) 0 66 = nI (ft_tt r t).1 := by rw [rq_k (by decide)]; exact w.1
  have x67 : (rt_up u 0 59 (nI (m + 1))) 0 67 = nI (ft_tt r t).2.1 := by rw [rq_k (by decide)]; exact w.2
  have x68 : (rt_up u 0 59 (nI (m + 1))) 0 68 = nI (ft_tt r t).2.2 := by rw [rq_k (by decide)]; exact h2
  unfold B_R_RangeTellerModel_pick_131
  rw [e59, rq_put, rq_b, x59, x66, x67, x68, fr_set hm (show max r.2.2 t ≤ 1 by omega), rq_b, fr_cm]
theorem fr_p81 {b c : ft_G} (H : fr_a r t u) (hr : ft_v r) (ht : t ≤ 1) (h59 : u 0 59 = nI (m + 3)) (hm : m + 2 < 12) (hb : ft_ok b) (hc : ft_ok c) (gb : fr_3 41 42 43 (m + 1) b u) (gc : u 41 (m + 2) = nI c.1) (hrc : c.1 ≠ 0 → ft_ok r) : ∃ w, (∀ c x, ¬ (c = 0 ∧ (x = 66 ∨ x = 67 ∨ x = 68)) → w c x = u c x) ∧ B_R_RangeTellerModel_pick_81 (nI (m + 2)) (nI (m + 1)) u = some (rt_up (fr_w 41 42 43 m (ft_tt (if c.1 = 0 then ft_j r b else r) t) w) 0 59 (nI (m + 1))) := by
  have hb' := hb
  have hc' := hc
  unfold ft_ok at hb' hc'
  obtain ⟨b1, b2, b3⟩ := gb
  have rv := ft_v_le hr
  unfold B_R_RangeTellerModel_pick_81
  rw [rq_rd (n := 12) rfl (by omega) (by decide), rq_b, gc]
  by_cases z : c.1 = 0
  · obtain ⟨u1, c1, c2, c3, c4⟩ := fr_acc H hb
    have okj : ft_ok (ft_j r b) := by
      rcases hr with e | e
      · rw [e, ft_bot_j (ft_v_le (Or.inr hb)).1]; exact hb
      · exact ft_j_ok e hb
    have far : ∀ c x, ¬ (c = 0 ∧ (x = 66 ∨ x = 67 ∨ x = 68)) → (rt_up u1 0 68 (nI (max (ft_j r b).2.2 t))) c x = u c x := fun c x q => by rw [rq_if, if_neg (by omega), c4 c x (by omega)]
    have mx : max (ft_j r b).2.2 t = max (max r.2.2 b.2.2) t := rfl
    have e128 : ∀ s : Nat, s ≤ 1 → s = max (ft_j r b).2.2 t → B_R_RangeTellerModel_pick_128 (nI s) u1 = some (rt_up (fr_w 41 42 43 m (ft_tt (ft_j r b) t) (rt_up u1 0 68 (nI (max (ft_j r b).2.2 t)))) 0 59 (nI (m + 1))) := fun s hs es => by
      unfold B_R_RangeTellerModel_pick_128
      rw [fr_zk hs, rq_b, rq_put, rq_b, es]
      exact fr_p131 c3 okj ht (by rw [far 0 59 (by omega)]; exact h59) (by omega)
    refine ⟨rt_up u1 0 68 (nI (max (ft_j r b).2.2 t)), far, ?_⟩
    have b3' : u1 43 (m + 1) = nI b.2.2 := by rw [c4 43 (m + 1) (by omega)]; exact b3
    unfold B_R_RangeTellerModel_pick_123
    rw [if_pos (show nI c.1 = 0 by rw [z]; rfl), rq_rd (n := 12) rfl (by omega) (by decide), rq_b, b1, rq_rd (n := 12) rfl (by omega) (by decide), rq_b, b2, c1, rq_b, c2, if_pos z]
    by_cases y : max r.2.2 t = 0
    · rw [if_pos (show nI (max r.2.2 t) = 0 by rw [y]; rfl), rq_rd (n := 12) rfl (by omega) (by decide), rq_b, b3']
      by_cases y2 : b.2.2 = 0
      · rw [if_pos (show nI b.2.2 = 0 by rw [y2]; rfl)]; exact e128 0 (by decide) (by omega)
      · rw [if_neg (nI_ne0 (by omega) (by omega))]; exact e128 1 (by decide) (by omega)
    · rw [if_neg (nI_ne0 (by omega) (by omega))]; exact e128 1 (by decide) (by omega)
  · refine ⟨u, fun _ _ _ => rfl, ?_⟩
    rw [if_neg (nI_ne0 (by omega) (by omega)), if_neg z]
    exact fr_p131 H (hrc z) ht h59 (by omega)
theorem fr_op11 (K : fr_K (m + 3) st vr τ) (hk : k < 100) (e2 : τ 2 k = nI 11) (e3 : τ 3 k = nI a) (hm : m + 3 ≤ 10) (ha : ft_ok (st m)) (hb : ft_ok (st (m + 1))) (hc : ft_ok (st (m + 2))) : fr_op 11 a (m + 3) st vr ce τ (M_R_RangeTellerModel_leaves τ (nI k)) := by
  have no : ¬ ((11 = 15 ∨ (19 ≤ 11 ∧ 11 ≤ 26)) ∧ (ft_val 11 a (m + 3) st vr ce).1 = 64) := fun q => by omega
  obtain ⟨p1, p2, p3⟩ := K.2.1 m (by omega)
  obtain ⟨q1, q2, q3⟩ := K.2.1 (m + 1) (by omega)
  obtain ⟨g1, g2, g3⟩ := K.2.1 (m + 2) (by omega)
  have hc' := hc
  have ha' := ha
  unfold ft_ok at hc' ha'
  obtain ⟨n1, n2⟩ := fr_no (τ := τ) hc'.2.2
  obtain ⟨τ1, hτ1⟩ : ∃ w, w = rt_up (rt_up (rt_up τ 0 66 64) 0 67 (-1)) 0 68 (nI (st (m + 2)).2.2) := ⟨_, rfl⟩
  rw [← hτ1] at n1 n2
  have f1 : ∀ c z, ¬ (c = 0 ∧ (z = 66 ∨ z = 67 ∨ z = 68)) → τ1 c z = τ c z := fun c z q => by rw [hτ1, rq_if, if_neg (by omega), rq_if, if_neg (by omega), rq_if, if_neg (by omega)]
  have A0 : fr_a ft_bot (st (m + 2)).2.2 τ1 := ⟨n2, by
    rw [hτ1, rq_s]
    show nI (st (m + 2)).2.2 = nI (max 0 (st (m + 2)).2.2)
    rw [Nat.max_eq_right (Nat.zero_le _)]⟩
  have i1 : τ 0 59 - 1 = nI (m + 2) := by rw [K.1, nI_pred]
  have i2 : τ 0 59 - 2 = nI (m + 1) := by rw [K.1, show (2 : Int32) = nI 2 from rfl, pk_sub (by omega), show m + 3 - 2 = m + 1 by omega]
  have i3 : τ 0 59 - 3 = nI m := by rw [K.1, show (3 : Int32) = nI 3 from rfl, pk_sub (by omega), show m + 3 - 3 = m by omega]
  have bj : ∀ q, ft_ok q → ft_j ft_bot q = q := fun q hq => ft_bot_j (ft_v_le (Or.inr hq)).1
  have gq : ∀ w : rt_St, (∀ c z, ¬ (c = 0 ∧ (z = 66 ∨ z = 67 ∨ z = 68)) → w c z = τ c z) → fr_3 41 42 43 (m + 1) (st (m + 1)) w ∧ w 41 (m + 2) = nI (st (m + 2)).1 ∧ w 0 59 = nI (m + 3) := fun w hw => ⟨(K.2.1 (m + 1) (by omega)).ne (hw _ _ (by omega)) (hw _ _ (by omega)) (hw _ _ (by omega)), by rw [hw _ _ (by omega)]; exact g1, by rw [hw _ _ (by omega)]; exact K.1⟩
  have key : ∃ w, (∀ c x, ¬ (c = 0 ∧ (x = 66 ∨ x = 67 ∨ x = 68)) → w c x = τ c x) ∧ M_R_RangeTellerModel_pick τ = some (rt_up (fr_w 41 42 43 m (ft_pk (st m) (st (m + 1)) (st (m + 2))) w) 0 59 (nI (m + 1))) := by
    have g2' : τ1 42 (m + 2) = nI (st (m + 2)).2.1 := by rw [f1 _ _ (by omega)]; exact g2
    have p1' : τ1 41 m = nI (st m).1 := by rw [f1 _ _ (by omega)]; exact p1
    have p2' : τ1 42 m = nI (st m).2.1 := by rw [f1 _ _ (by omega)]; exact p2
    unfold M_R_RangeTellerModel_pick ft_pk
    rw [i1, i2, i3, rq_rd (n := 12) rfl (by omega) (by decide), rq_b, g3, n1, rq_b, rq_rd (n := 12) rfl (by omega) (by decide), rq_b, g2']
    by_cases z : (st (m + 2)).2.1 = 0
    · have z0 : (st (m + 2)).1 = 0 := by omega
      obtain ⟨x1, x2, x3⟩ := gq τ1 f1
      obtain ⟨w, w1, w2⟩ := fr_p81 A0 (Or.inl rfl) hc'.2.2 x3 (by omega) hb hc x1 x2 (fun q => absurd z0 q)
      rw [if_pos z0, bj _ hb] at w2
      refine ⟨w, fun c x q => by rw [w1 c x q, f1 c x q], ?_⟩
      rw [if_pos (show nI (st (m + 2)).2.1 ≤ 0 from nI_le (b := 0) (by omega) (by decide)), if_pos z]
      exact w2
    · obtain ⟨u1, c1, c2, c3, c4⟩ := fr_acc A0 ha
      have far : ∀ c x, ¬ (c = 0 ∧ (x = 66 ∨ x = 67 ∨ x = 68)) → (rt_up u1 0 68 (nI (max (ft_j ft_bot (st m)).2.2 (st (m + 2)).2.2))) c x = τ c x := fun c x q => by rw [rq_if, if_neg (by omega), c4 c x (by omega), f1 c x q]
      rw [bj _ ha] at c3 far
      obtain ⟨x1, x2, x3⟩ := gq _ far
      obtain ⟨w, w1, w2⟩ := fr_p81 c3 (Or.inr ha) hc'.2.2 x3 (by omega) hb hc x1 x2 (fun _ => ha)
      have p3' : u1 43 m = nI (st m).2.2 := by rw [c4 43 m (by omega), f1 _ _ (by omega)]; exact p3
      have e78 : ∀ s : Nat, s ≤ 1 → s = max (st m).2.2 (st (m + 2)).2.2 → B_R_RangeTellerModel_pick_78 (nI (m + 2)) (nI (m + 1)) (nI s) u1 = some (rt_up (fr_w 41 42 43 m (ft_tt (if (st (m + 2)).1 = 0 then ft_j (st m) (st (m + 1)) else st m) (st (m + 2)).2.2) w) 0 59 (nI (m + 1))) := fun s hs es => by
        unfold B_R_RangeTellerModel_pick_78
        rw [fr_zk hs, rq_b, rq_put, rq_b, es]
        exact w2
      refine ⟨w, fun c x q => by rw [w1 c x q, far c x q], ?_⟩
      have mz : max (ft_bot).2.2 (st (m + 2)).2.2 = (st (m + 2)).2.2 := Nat.max_eq_right (Nat.zero_le _)
      rw [mz] at c2
      unfold B_R_RangeTellerModel_pick_73
      rw [if_neg (show ¬ nI (st (m + 2)).2.1 ≤ 0 from nI_ge (a := 0) (by omega) (by omega)), if_neg z, rq_rd (n := 12) rfl (by omega) (by decide), rq_b, p1', rq_rd (n := 12) rfl (by omega) (by decide), rq_b, p2', c1, rq_b, c2]
      by_cases y : (st (m + 2)).2.2 = 0
      · rw [if_pos (show nI (st (m + 2)).2.2 = 0 by rw [y]; rfl), rq_rd (n := 12) rfl (by omega) (by decide), rq_b, p3']
        by_cases y2 : (st m).2.2 = 0
        · rw [if_pos (show nI (st m).2.2 = 0 by rw [y2]; rfl)]; exact e78 0 (by decide) (by omega)
        · rw [if_neg (nI_ne0 (by omega) (by omega))]; exact e78 1 (by decide) (by omega)
      · rw [if_neg (nI_ne0 (by omega) (by omega))]; exact e78 1 (by decide) (by omega)
  obtain ⟨w, w1, w2⟩ := key
  obtain ⟨-, okp⟩ := ft_pick ha hb hc
  obtain ⟨t1, t2⟩ := fr_top (r := ft_pk (st m) (st (m + 1)) (st (m + 2))) K (by omega : m ≤ m + 3) okp.2.2 (u := w) (fun c x q => w1 c x (by omega))
  refine Or.inl ⟨no, _, ?_, t1, t2.cg (fun i hi => rfl) (fun i hi => if_neg (fun q => absurd q.1 (by decide)))⟩
  unfold M_R_RangeTellerModel_leaves
  rw [rq_rd (n := 100) rfl hk (by decide), rq_b, e2, rq_rd (n := 100) rfl hk (by decide), rq_b, e3, if_neg (by decide), if_neg (by decide), if_pos (show nI 11 = 11 from rfl), w2, rq_b]
/-! loads -/
theorem fr_l24 (hk : k < 100) (e3 : τ 3 k = nI a) (ha : a < 64) (hm : m < 12) (hr : ft_ok r) (g2 : τ 42 m = nI r.2.1) (ht : t ≤ 1) (hce : ∀ x, x < 16 → ft_ok (ce x) ∧ fr_3 34 35 36 x (ce x) τ) : ∀ (d n f : Nat) (u : rt_St), n + d = min (r.2.1 + a) 15 + 1 - (r.1 + a) → d + 1 ≤ f → fr_a (ft_cj ce (r.1 + a) n) t u → (∀ c z, ¬ (c = 0 ∧ (z = 66 ∨ z = 67 ∨ z = 68)) → u c z = τ c z) → ∃ w, B_R_RangeTellerModel_load1_24 f (nI k) (nI m) (nI (r.1 + n)) u = B_R_RangeTellerModel_load1_107 (nI k) (nI m) w ∧ fr_a (ft_cj ce (r.1 + a) (min (r.2.1 + a) 15 + 1 - (r.1 + a))) t w ∧ (∀ c z, ¬ (c = 0 ∧ (z = 66 ∨ z = 67 ∨ z = 68)) → w c z = τ c z) := by
  have hr' := hr
  unfold ft_ok at hr'
  intro d
  induction d with
  | zero =>
    intro n f u hn hf hA hu
    obtain ⟨f, rfl⟩ : ∃ q, f = q + 1 := ⟨f - 1, by omega⟩
    have g2' : u 42 m = nI r.2.1 := by rw [hu _ _ (by omega)]; exact g2
    have e3' : u 3 k = nI a := by rw [hu _ _ (by omega)]; exact e3
    refine ⟨u, ?_, by rw [← hn]; exact hA, hu⟩
    rw [B_R_RangeTellerModel_load1_24, rq_rd (n := 12) rfl hm (by decide), rq_b, g2']
    by_cases z : r.2.1 < r.1 + n
    · rw [if_pos (nI_lt z (by omega))]
    · rw [if_neg (nI_nlt (by omega) (by omega)), rq_rd (n := 100) rfl hk (by decide), rq_b, e3', nI_add, if_pos (show (16 : Int32) ≤ nI (r.1 + n + a) from nI_le (a := 16) (by omega) (by omega))]
  | succ d ih =>
    intro n f u hn hf hA hu
    obtain ⟨f, rfl⟩ : ∃ q, f = q + 1 := ⟨f - 1, by omega⟩
    have g2' : u 42 m = nI r.2.1 := by rw [hu _ _ (by omega)]; exact g2
    have e3' : u 3 k = nI a := by rw [hu _ _ (by omega)]; exact e3
    have hx : r.1 + n + a < 16 := by omega
    obtain ⟨okc, c34, c35, c36⟩ := hce (r.1 + n + a) hx
    have okc' := okc
    unfold ft_ok at okc'
    have ix : r.1 + a + n = r.1 + n + a := by omega
    obtain ⟨u1, b1, b2, b3, b4⟩ := fr_acc hA okc
    have ecj : ft_j (ft_cj ce (r.1 + a) n) (ce (r.1 + n + a)) = ft_cj ce (r.1 + a) (n + 1) := by
      show _ = ft_j (ft_cj ce (r.1 + a) n) (ce (r.1 + a + n))
      rw [ix]
    have cjt : (ft_cj ce (r.1 + a) n).2.2 ≤ 1 := by
      by_cases z : n = 0
      · rw [z]; exact Nat.zero_le _
      · exact (ft_cj_ok (ce := ce) (b := r.1 + a) n (by omega) (fun i hi => (hce _ (by omega)).1)).2.2
    have mx : max (ft_j (ft_cj ce (r.1 + a) n) (ce (r.1 + n + a))).2.2 t = max (max (ft_cj ce (r.1 + a) n).2.2 (ce (r.1 + n + a)).2.2) t := rfl
    have far : ∀ c x, ¬ (c = 0 ∧ (x = 66 ∨ x = 67 ∨ x = 68)) → (rt_up u1 0 68 (nI (max (ft_j (ft_cj ce (r.1 + a) n) (ce (r.1 + n + a))).2.2 t))) c x = τ c x := fun c x q => by rw [rq_if, if_neg (by omega), b4 c x (by omega), hu c x q]
    have b3' := b3
    rw [ecj] at b3'
    obtain ⟨w, w1, w2, w3⟩ := ih (n + 1) f _ (by omega) (by omega) b3' (by rw [← ecj]; exact far)
    have e98 : ∀ s : Nat, s ≤ 1 → s = max (ft_j (ft_cj ce (r.1 + a) n) (ce (r.1 + n + a))).2.2 t → B_R_RangeTellerModel_load1_98 (B_R_RangeTellerModel_load1_24 f) (nI k) (nI m) (nI (r.1 + n)) (nI s) u1 = B_R_RangeTellerModel_load1_107 (nI k) (nI m) w := fun s hs es => by
      unfold B_R_RangeTellerModel_load1_98
      rw [fr_zk hs, rq_b, rq_put, rq_b, es, nI_1, ecj]
      exact w1
    refine ⟨w, ?_, w2, w3⟩
    have c34' : u 34 (r.1 + n + a) = nI (ce (r.1 + n + a)).1 := by rw [hu _ _ (by omega)]; exact c34
    have c35' : u 35 (r.1 + n + a) = nI (ce (r.1 + n + a)).2.1 := by rw [hu _ _ (by omega)]; exact c35
    have c36' : u1 36 (r.1 + n + a) = nI (ce (r.1 + n + a)).2.2 := by rw [b4 _ _ (by omega), hu _ _ (by omega)]; exact c36
    rw [B_R_RangeTellerModel_load1_24, rq_rd (n := 12) rfl hm (by decide), rq_b, g2', if_neg (nI_nlt (by omega) (by omega)), rq_rd (n := 100) rfl hk (by decide), rq_b, e3', nI_add, if_neg (show ¬ (16 : Int32) ≤ nI (r.1 + n + a) from nI_ge (b := 16) (by omega) (by decide)), rq_b, nI_add, rq_rd (n := 16) rfl hx (by decide), rq_b, c34', rq_rd (n := 16) rfl hx (by decide), rq_b, c35', b1, rq_b, b2]
    unfold B_R_RangeTellerModel_load1_93
    by_cases y : max (ft_cj ce (r.1 + a) n).2.2 t = 0
    · rw [if_pos (show nI (max (ft_cj ce (r.1 + a) n).2.2 t) = 0 by rw [y]; rfl), rq_rd (n := 16) rfl hx (by decide), rq_b, c36']
      by_cases y2 : (ce (r.1 + n + a)).2.2 = 0
      · rw [if_pos (show nI (ce (r.1 + n + a)).2.2 = 0 by rw [y2]; rfl)]; exact e98 0 (by decide) (by omega)
      · rw [if_neg (nI_ne0 (by omega) (by omega))]; exact e98 1 (by decide) (by omega)
    · rw [if_neg (nI_ne0 (by omega) (by omega))]; exact e98 1 (by decide) (by omega)
theorem fr_load (D : md_A F N op ar ow pa lo re fs hs gl bk kp L) (G : fr_G N F op ar ow en el pa lo re fs hs gl bk kp L A τ) (K : fr_K (m + 1) st vr τ) (hk : k < N) (hm : m + 1 ≤ 10) (go : wf_go N fs ow hs L k (k + 1) (m + 1)) (s1 : ∀ i, i < m + 1 → ft_ok (st i)) (v1 : ∀ i, i < pa (ow k) + lo (ow k) → ft_ok (vr i)) (v0 : ∀ i, pa (ow k) + lo (ow k) ≤ i → i < 4 → vr i = (0, 0, 0)) (hce : ∀ x, x < 16 → ce x = A 2 x) : fr_R N F op ar ow en el pa lo re fs hs gl bk kp L A (ft_opr 15 (ar k) (m + 1) (k + 1) (pa (ow k) + lo (ow k)) st vr ce) τ (M_R_RangeTellerModel_load1 τ (nI k)) (fun _ => True) := by
  have D0 := D
  obtain ⟨⟨hN, hF1, hF3⟩, m1, m2, -⟩ := D
  have hr := s1 m (by omega)
  have hr' := hr
  unfold ft_ok at hr'
  obtain ⟨g1, g2, g3⟩ := K.2.1 m (by omega)
  have e3 := (G.1.1 k hk).2.1
  have ha := (m2 k hk).2.2.2
  have hC : ∀ x, x < 16 → ft_ok (ce x) ∧ fr_3 34 35 36 x (ce x) τ := fun x hx => by
    rw [hce x hx]
    exact ⟨G.2.1.2.2.1 x hx, G.2.2.2.2.1 x hx⟩
  obtain ⟨n1, n2⟩ := fr_no (τ := τ) hr'.2.2
  obtain ⟨τ1, hτ1⟩ : ∃ w, w = rt_up (rt_up (rt_up τ 0 66 64) 0 67 (-1)) 0 68 (nI (st m).2.2) := ⟨_, rfl⟩
  rw [← hτ1] at n1 n2
  have f1 : ∀ c z, ¬ (c = 0 ∧ (z = 66 ∨ z = 67 ∨ z = 68)) → τ1 c z = τ c z := fun c z q => by rw [hτ1, rq_if, if_neg (by omega), rq_if, if_neg (by omega), rq_if, if_neg (by omega)]
  have A0 : fr_a (ft_cj ce ((st m).1 + ar k) 0) (st m).2.2 τ1 := ⟨n2, by
    rw [hτ1, rq_s]
    show nI (st m).2.2 = nI (max 0 (st m).2.2)
    rw [Nat.max_eq_right (Nat.zero_le _)]⟩
  obtain ⟨w, w1, w2, w3⟩ := fr_l24 (k := k) (m := m) (by omega) e3 ha (by omega) hr g2 hr'.2.2 hC (min ((st m).2.1 + ar k) 15 + 1 - ((st m).1 + ar k)) 0 FU τ1 (by omega) (by show min ((st m).2.1 + ar k) 15 + 1 - ((st m).1 + ar k) + 1 ≤ 2000000; omega) A0 f1
  have i1 : τ 0 59 - 1 = nI m := by rw [K.1, nI_pred]
  have g1' : τ1 41 m = nI (st m).1 := by rw [f1 _ _ (by omega)]; exact g1
  have head : M_R_RangeTellerModel_load1 τ (nI k) = B_R_RangeTellerModel_load1_107 (nI k) (nI m) w := by
    unfold M_R_RangeTellerModel_load1
    rw [i1, rq_rd (n := 12) rfl (by omega) (by decide), rq_b, g3, n1, rq_b, rq_rd (n := 12) rfl (by omega) (by decide), rq_b, g1']
    exact w1
  have Aw : rq_A fr_A τ w := fun c x q => w3 c x (by unfold fr_A at q; omega)
  rw [head]
  refine fr_R.pre Aw (fun i => w3 27 i (by omega)) (w3 0 58 (by omega)) ?_
  have Gw := G.keep Aw (fun c x c1 c2 => w3 c x (by omega)) (w3 0 58 (by omega))
  have ev : ft_val 15 (ar k) (m + 1) st vr ce = ft_ld (ar k) (st m) ce := rfl
  obtain ⟨h1, h2⟩ := w2
  unfold ft_opr B_R_RangeTellerModel_load1_107
  rw [ev]
  by_cases z : (st m).1 + ar k < 16
  · have okl := ft_ld_ok (a := ar k) hr (fun x hx => (hC x hx).1) z
    have el : ft_ld (ar k) (st m) ce = ft_tt (ft_cj ce ((st m).1 + ar k) (min ((st m).2.1 + ar k) 15 + 1 - ((st m).1 + ar k))) (st m).2.2 := if_pos z
    have okl' := okl
    unfold ft_ok at okl'
    have x66 : w 0 66 = nI (ft_ld (ar k) (st m) ce).1 ∧ w 0 67 = nI (ft_ld (ar k) (st m) ce).2.1 := by
      rw [el] at okl' ⊢
      rcases h1 with b | b
      · have b1 := b.1
        have o1 : (ft_cj ce ((st m).1 + ar k) (min ((st m).2.1 + ar k) 15 + 1 - ((st m).1 + ar k))).1 ≤ (ft_cj ce ((st m).1 + ar k) (min ((st m).2.1 + ar k) 15 + 1 - ((st m).1 + ar k))).2.1 := okl'.1
        have o2 : (ft_cj ce ((st m).1 + ar k) (min ((st m).2.1 + ar k) 15 + 1 - ((st m).1 + ar k))).2.1 < 64 := okl'.2.1
        omega
      · exact ⟨b.2.2.1, b.2.2.2⟩
    have x68 : w 0 68 = nI (ft_ld (ar k) (st m) ce).2.2 := by rw [el]; exact h2
    rw [if_neg (show ¬ (((15 = 15 ∨ (19 ≤ 15 ∧ 15 ≤ 26)) ∧ (ft_ld (ar k) (st m) ce).1 = 64) ∨ (15 = 16 ∧ 16 ≤ (st (m + 1 - 2)).1 + ar k)) from fun q => by omega), x66.1, x66.2, x68, if_pos (nI_le okl'.1 (by omega)), fr_set (by omega) okl'.2.2, rq_b, nI_1]
    have W1 : rq_A fr_A w (fr_w 41 42 43 m (ft_ld (ar k) (st m) ce) w) := fun c q e => fr_w_f (by unfold fr_A at e; omega)
    refine fr_R.pre W1 (fun i => fr_w_f (by omega)) (fr_w_f (by omega)) ?_
    have G2 := Gw.keep W1 (fun c q c1 c2 => fr_w_f (by omega)) (fr_w_f (by omega))
    have Kw : fr_K (m + 1) st vr w := K.keep ⟨fun c x c1 c2 => w3 c x (by omega), w3 0 59 (by omega)⟩
    have K2 := Kw.w (h' := m + 1) (m := m) (r := ft_ld (ar k) (st m) ce) (u := fr_w 41 42 43 m (ft_ld (ar k) (st m) ce) w) (fun i hi => by omega) (fun _ _ _ _ => rfl) (by rw [fr_w_f (by omega)]; exact Kw.1)
    have P := fr_ps D0 G2 K2 go (fun i hi => by
      by_cases q : i = m
      · rw [if_pos q]; exact okl
      · rw [if_neg q]; exact s1 _ (by omega)) v1 v0
    refine fr_R.cg P.sm (congrArg (ft_J A) ?_)
    exact ft_pass_cg (fun i hi => rfl) (fun i hi => (if_neg (fun q => absurd q.1 (by decide))).symm)
  · have el : ft_ld (ar k) (st m) ce = ft_bot := if_neg z
    have n0 : min ((st m).2.1 + ar k) 15 + 1 - ((st m).1 + ar k) = 0 := by omega
    rw [n0] at h1
    have b : w 0 66 = 64 ∧ w 0 67 = -1 := by
      rcases h1 with b | b
      · exact ⟨b.2.2.1, b.2.2.2⟩
      · have b1 : (64 : Nat) ≤ 0 := b.1
        omega
    rw [el, if_pos (Or.inl ⟨Or.inl rfl, rfl⟩), b.1, b.2, if_neg (by decide)]
    exact fr_R.nil Gw trivial
end FRG
