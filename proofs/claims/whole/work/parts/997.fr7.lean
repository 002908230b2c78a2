/-! foretelling, the reference: the ops that take and give -/
def fr_t (τ u : rt_St) : Prop := rq_A fr_A τ u ∧ (∀ c x, 26 ≤ c → c ≤ 40 → u c x = τ c x) ∧ u 0 58 = τ 0 58
def fr_op (o a h : Nat) (st vr ce : Nat → ft_G) (τ : rt_St) (x : Option (Int32 × rt_St)) : Prop := (¬ ((o = 15 ∨ (19 ≤ o ∧ o ≤ 26)) ∧ (ft_val o a h st vr ce).1 = 64) ∧ ∃ u, x = some (1, u) ∧ fr_t τ u ∧ fr_K (h - ck_tk o + ck_gv o) (fun i => if i = h - ck_tk o then ft_val o a h st vr ce else st i) (fun i => if (o = 13 ∨ o = 14) ∧ i = a then st (h - 1) else vr i) u) ∨ (((o = 15 ∨ (19 ≤ o ∧ o ≤ 26)) ∧ (ft_val o a h st vr ce).1 = 64) ∧ ∃ u, x = some (0, u) ∧ fr_t τ u)
section FRF
variable {a h m o k : Nat} {st st' vr vr' ce : Nat → ft_G} {r p q : ft_G} {τ u : rt_St}
theorem fr_t.w (h1 : ∀ c x, ¬ (41 ≤ c ∧ c ≤ 46) → ¬ (c = 0 ∧ (x = 59 ∨ x = 66 ∨ x = 67 ∨ x = 68)) → u c x = τ c x) : fr_t τ u := ⟨fun c x q => h1 c x (by unfold fr_A at q; omega) (by unfold fr_A at q; omega), fun c x c1 c2 => h1 c x (by omega) (by omega), h1 0 58 (by omega) (by omega)⟩
theorem fr_K.cg (K : fr_K h st vr τ) (h1 : ∀ i, i < h → st' i = st i) (h2 : ∀ i, i < 4 → vr' i = vr i) : fr_K h st' vr' τ := by
  obtain ⟨k1, k2, k3⟩ := K
  exact ⟨k1, fun i hi => by rw [h1 i hi]; exact k2 i hi, fun i hi => by rw [h2 i hi]; exact k3 i hi⟩
/-- a range is put on top -/
theorem fr_top (K : fr_K h st vr τ) (hm : m ≤ h) (hr : r.2.2 ≤ 1) (hu : ∀ c x, ¬ (c = 0 ∧ (x = 59 ∨ x = 66 ∨ x = 67 ∨ x = 68)) → u c x = τ c x) : fr_t τ (rt_up (fr_w 41 42 43 m r u) 0 59 (nI (m + 1))) ∧ fr_K (m + 1) (fun i => if i = m then r else st i) vr (rt_up (fr_w 41 42 43 m r u) 0 59 (nI (m + 1))) := by
  refine ⟨fr_t.w (fun c x b1 b2 => ?_), ?_, fun i hi => ?_, fun i hi => ?_⟩
  · rw [rq_if, if_neg (by omega), fr_w_f (by omega), hu c x b2]
  · rw [rq_s]
  · dsimp only
    by_cases z : i = m
    · subst z
      rw [if_pos rfl]
      exact (fr_w_g (by decide) (by decide) (by decide)).ne (rq_c (by decide)) (rq_c (by decide)) (rq_c (by decide))
    · rw [if_neg z]
      have e : ∀ c, 41 ≤ c → c ≤ 43 → (rt_up (fr_w 41 42 43 m r u) 0 59 (nI (m + 1))) c i = τ c i := fun c c1 c2 => by rw [rq_c (by omega), fr_w_f (by omega), hu c i (by omega)]
      exact (K.2.1 i (by omega)).ne (e _ (by decide) (by decide)) (e _ (by decide) (by decide)) (e _ (by decide) (by decide))
  · have e : ∀ c, 44 ≤ c → c ≤ 46 → (rt_up (fr_w 41 42 43 m r u) 0 59 (nI (m + 1))) c i = τ c i := fun c c1 c2 => by rw [rq_c (by omega), fr_w_f (by omega), hu c i (by omega)]
    exact (K.2.2 i hi).ne (e _ (by decide) (by decide)) (e _ (by decide) (by decide)) (e _ (by decide) (by decide))
theorem fr_op10 (K : fr_K (m + 1) st vr τ) (hk : k < 100) (e2 : τ 2 k = nI 10) (e3 : τ 3 k = nI a) : fr_op 10 a (m + 1) st vr ce τ (M_R_RangeTellerModel_leaves τ (nI k)) := by
  have no : ¬ ((10 = 15 ∨ (19 ≤ 10 ∧ 10 ≤ 26)) ∧ (ft_val 10 a (m + 1) st vr ce).1 = 64) := fun q => by omega
  refine Or.inl ⟨no, rt_up τ 0 59 (nI m), ?_, fr_t.w (fun c x b1 b2 => by rw [rq_if, if_neg (by omega)]), (K.dn (h' := m) (by omega)).cg (fun i hi => ?_) (fun i hi => if_neg (fun q => absurd q.1 (by decide)))⟩
  · unfold M_R_RangeTellerModel_leaves B_R_RangeTellerModel_leaves_34
    rw [rq_rd (n := 100) rfl hk (by decide), rq_b, e2, rq_rd (n := 100) rfl hk (by decide), rq_b, e3, if_pos (show nI 10 = 10 from rfl), K.1, nI_pred, rq_put, rq_b]
  · have hi' : i < m := hi
    exact if_neg (show ¬ i = m by omega)
theorem fr_op28 (K : fr_K (m + 1) st vr τ) (hk : k < 100) (e2 : τ 2 k = nI 28) (e3 : τ 3 k = nI a) : fr_op 28 a (m + 1) st vr ce τ (M_R_RangeTellerModel_leaves τ (nI k)) := by
  have no : ¬ ((28 = 15 ∨ (19 ≤ 28 ∧ 28 ≤ 26)) ∧ (ft_val 28 a (m + 1) st vr ce).1 = 64) := fun q => by omega
  refine Or.inl ⟨no, rt_up τ 0 59 (nI m), ?_, fr_t.w (fun c x b1 b2 => by rw [rq_if, if_neg (by omega)]), (K.dn (h' := m) (by omega)).cg (fun i hi => ?_) (fun i hi => if_neg (fun q => absurd q.1 (by decide)))⟩
  · unfold M_R_RangeTellerModel_leaves B_R_RangeTellerModel_leaves_34
    rw [rq_rd (n := 100) rfl hk (by decide), rq_b, e2, rq_rd (n := 100) rfl hk (by decide), rq_b, e3, if_neg (by decide), if_pos (show nI 28 = 28 from rfl), K.1, nI_pred, rq_put, rq_b]
  · have hi' : i < m := hi
    exact if_neg (show ¬ i = m by omega)
theorem fr_op12 (K : fr_K (m) st vr τ) (hk : k < 100) (e2 : τ 2 k = nI 12) (e3 : τ 3 k = nI a) (hm : m < 12) (ha : a < 4) (hv : (vr a).2.2 ≤ 1) : fr_op 12 a (m) st vr ce τ (M_R_RangeTellerModel_leaves τ (nI k)) := by
  have no : ¬ ((12 = 15 ∨ (19 ≤ 12 ∧ 12 ≤ 26)) ∧ (ft_val 12 a (m) st vr ce).1 = 64) := fun q => by omega
  obtain ⟨g1, g2, g3⟩ := K.2.2 a ha
  obtain ⟨t1, t2⟩ := fr_top (r := vr a) K (Nat.le_refl _) hv (u := τ) (fun _ _ _ => rfl)
  refine Or.inl ⟨no, _, ?_, t1, t2.cg (fun i hi => rfl) (fun i hi => if_neg (fun q => absurd q.1 (by decide)))⟩
  have k1 : (fr_w 41 42 43 m (vr a) τ) 0 59 = nI m := by rw [fr_w_f (by omega)]; exact K.1
  unfold M_R_RangeTellerModel_leaves
  rw [rq_rd (n := 100) rfl hk (by decide), rq_b, e2, rq_rd (n := 100) rfl hk (by decide), rq_b, e3, if_neg (by decide), if_neg (by decide), if_neg (by decide), if_pos (show nI 12 = 12 from rfl), rq_rd (n := 4) rfl ha (by decide), rq_b, g1, rq_rd (n := 4) rfl ha (by decide), rq_b, g2, rq_rd (n := 4) rfl ha (by decide), rq_b, g3, K.1, fr_set hm hv, rq_b, rq_put, rq_b, k1, nI_1]
theorem fr_op13 (K : fr_K (m + 1) st vr τ) (hk : k < 100) (e2 : τ 2 k = nI 13) (e3 : τ 3 k = nI a) (hm : m < 12) (ha : a < 4) (hv : (st m).2.2 ≤ 1) : fr_op 13 a (m + 1) st vr ce τ (M_R_RangeTellerModel_leaves τ (nI k)) := by
  have no : ¬ ((13 = 15 ∨ (19 ≤ 13 ∧ 13 ≤ 26)) ∧ (ft_val 13 a (m + 1) st vr ce).1 = 64) := fun q => by omega
  obtain ⟨g1, g2, g3⟩ := K.2.1 m (by omega)
  have k59 : (fr_w 44 45 46 a (st m) τ) 0 59 = nI (m + 1) := by rw [fr_w_f (by omega)]; exact K.1
  refine Or.inl ⟨no, rt_up (fr_w 44 45 46 a (st m) τ) 0 59 (nI (m)), ?_, fr_t.w (fun c x b1 b2 => by rw [rq_if, if_neg (by omega), fr_w_f (by omega)]), rq_s, fun i hi => ?_, fun i hi => ?_⟩
  · have g2' : (rt_up τ 44 a (nI (st m).1)) 42 m = nI (st m).2.1 := by rw [rq_c (by decide)]; exact g2
    have g3' : (rt_up (rt_up τ 44 a (nI (st m).1)) 45 a (nI (st m).2.1)) 43 m = nI (st m).2.2 := by rw [rq_c (by decide), rq_c (by decide)]; exact g3
    unfold M_R_RangeTellerModel_leaves B_R_RangeTellerModel_leaves_117
    rw [rq_rd (n := 100) rfl hk (by decide), rq_b, e2, rq_rd (n := 100) rfl hk (by decide), rq_b, e3, if_neg (by decide), if_neg (by decide), if_neg (by decide), if_neg (by decide), if_pos (show nI 13 = 13 from rfl), K.1, nI_pred, rq_rd (n := 12) rfl hm (by decide), rq_b, g1, rq_wr (n := 4) rfl ha (by decide), rq_b, rq_rd (n := 12) rfl hm (by decide), rq_b, g2', rq_wr (n := 4) rfl ha (by decide), rq_b, rq_rd (n := 12) rfl hm (by decide), rq_b, g3', fr_nar hv, rq_wr (n := 4) rfl ha (by decide), rq_b]
    unfold fr_w at k59
    rw [if_pos (show nI 13 = 13 from rfl), k59, nI_pred, rq_put, rq_b]
    rfl
  · have hi' : i < m := hi
    have e : ∀ c, 41 ≤ c → c ≤ 43 → (rt_up (fr_w 44 45 46 a (st m) τ) 0 59 (nI (m))) c i = τ c i := fun c c1 c2 => by rw [rq_c (by omega), fr_w_f (by omega)]
    have w := (K.2.1 i (by omega)).ne (e _ (by decide) (by decide)) (e _ (by decide) (by decide)) (e _ (by decide) (by decide))
    by_cases z : i = m
    · have e5 : (if i = m + 1 - ck_tk 13 then ft_val 13 a (m + 1) st vr ce else st i) = st i := by omega
      rw [show (fun i => if i = m + 1 - ck_tk 13 then ft_val 13 a (m + 1) st vr ce else st i) i = st i from e5]; exact w
    · rw [show (fun i => if i = m + 1 - ck_tk 13 then ft_val 13 a (m + 1) st vr ce else st i) i = st i from if_neg (show ¬ i = m from z)]; exact w
  · by_cases z : i = a
    · subst z
      rw [show (fun j => if (13 = 13 ∨ 13 = 14) ∧ j = i then st (m + 1 - 1) else vr j) i = st m from if_pos (c := ((13 : Nat) = 13 ∨ (13 : Nat) = 14) ∧ i = i) ⟨by decide, rfl⟩]
      exact (fr_w_g (by decide) (by decide) (by decide)).ne (rq_c (by decide)) (rq_c (by decide)) (rq_c (by decide))
    · rw [show (fun j => if (13 = 13 ∨ 13 = 14) ∧ j = a then st (m + 1 - 1) else vr j) i = vr i from if_neg (c := ((13 : Nat) = 13 ∨ (13 : Nat) = 14) ∧ i = a) (fun q => z q.2)]
      have e : ∀ c, 44 ≤ c → c ≤ 46 → (rt_up (fr_w 44 45 46 a (st m) τ) 0 59 (nI (m))) c i = τ c i := fun c c1 c2 => by rw [rq_c (by omega), fr_w_f (by omega)]
      exact (K.2.2 i hi).ne (e _ (by decide) (by decide)) (e _ (by decide) (by decide)) (e _ (by decide) (by decide))
theorem fr_op14 (K : fr_K (m + 1) st vr τ) (hk : k < 100) (e2 : τ 2 k = nI 14) (e3 : τ 3 k = nI a) (hm : m < 12) (ha : a < 4) (hv : (st m).2.2 ≤ 1) : fr_op 14 a (m + 1) st vr ce τ (M_R_RangeTellerModel_leaves τ (nI k)) := by
  have no : ¬ ((14 = 15 ∨ (19 ≤ 14 ∧ 14 ≤ 26)) ∧ (ft_val 14 a (m + 1) st vr ce).1 = 64) := fun q => by omega
  obtain ⟨g1, g2, g3⟩ := K.2.1 m (by omega)
  have k59 : (fr_w 44 45 46 a (st m) τ) 0 59 = nI (m + 1) := by rw [fr_w_f (by omega)]; exact K.1
  refine Or.inl ⟨no, rt_up (fr_w 44 45 46 a (st m) τ) 0 59 (nI (m + 1)), ?_, fr_t.w (fun c x b1 b2 => by rw [rq_if, if_neg (by omega), fr_w_f (by omega)]), rq_s, fun i hi => ?_, fun i hi => ?_⟩
  · have g2' : (rt_up τ 44 a (nI (st m).1)) 42 m = nI (st m).2.1 := by rw [rq_c (by decide)]; exact g2
    have g3' : (rt_up (rt_up τ 44 a (nI (st m).1)) 45 a (nI (st m).2.1)) 43 m = nI (st m).2.2 := by rw [rq_c (by decide), rq_c (by decide)]; exact g3
    unfold M_R_RangeTellerModel_leaves B_R_RangeTellerModel_leaves_117
    rw [rq_rd (n := 100) rfl hk (by decide), rq_b, e2, rq_rd (n := 100) rfl hk (by decide), rq_b, e3, if_neg (by decide), if_neg (by decide), if_neg (by decide), if_neg (by decide), if_neg (by decide), if_pos (show nI 14 = 14 from rfl), K.1, nI_pred, rq_rd (n := 12) rfl hm (by decide), rq_b, g1, rq_wr (n := 4) rfl ha (by decide), rq_b, rq_rd (n := 12) rfl hm (by decide), rq_b, g2', rq_wr (n := 4) rfl ha (by decide), rq_b, rq_rd (n := 12) rfl hm (by decide), rq_b, g3', fr_nar hv, rq_wr (n := 4) rfl ha (by decide), rq_b]
    unfold fr_w at k59
    rw [if_neg (by decide), k59, rq_put, rq_b]
    rfl
  · have hi' : i < m + 1 := hi
    have e : ∀ c, 41 ≤ c → c ≤ 43 → (rt_up (fr_w 44 45 46 a (st m) τ) 0 59 (nI (m + 1))) c i = τ c i := fun c c1 c2 => by rw [rq_c (by omega), fr_w_f (by omega)]
    have w := (K.2.1 i (by omega)).ne (e _ (by decide) (by decide)) (e _ (by decide) (by decide)) (e _ (by decide) (by decide))
    by_cases z : i = m
    · have e5 : (if i = m + 1 - ck_tk 14 then ft_val 14 a (m + 1) st vr ce else st i) = st i := by rw [z]; exact if_pos rfl
      rw [show (fun i => if i = m + 1 - ck_tk 14 then ft_val 14 a (m + 1) st vr ce else st i) i = st i from e5]; exact w
    · rw [show (fun i => if i = m + 1 - ck_tk 14 then ft_val 14 a (m + 1) st vr ce else st i) i = st i from if_neg (show ¬ i = m from z)]; exact w
  · by_cases z : i = a
    · subst z
      rw [show (fun j => if (14 = 13 ∨ 14 = 14) ∧ j = i then st (m + 1 - 1) else vr j) i = st m from if_pos (c := ((14 : Nat) = 13 ∨ (14 : Nat) = 14) ∧ i = i) ⟨by decide, rfl⟩]
      exact (fr_w_g (by decide) (by decide) (by decide)).ne (rq_c (by decide)) (rq_c (by decide)) (rq_c (by decide))
    · rw [show (fun j => if (14 = 13 ∨ 14 = 14) ∧ j = a then st (m + 1 - 1) else vr j) i = vr i from if_neg (c := ((14 : Nat) = 13 ∨ (14 : Nat) = 14) ∧ i = a) (fun q => z q.2)]
      have e : ∀ c, 44 ≤ c → c ≤ 46 → (rt_up (fr_w 44 45 46 a (st m) τ) 0 59 (nI (m + 1))) c i = τ c i := fun c c1 c2 => by rw [rq_c (by omega), fr_w_f (by omega)]
      exact (K.2.2 i hi).ne (e _ (by decide) (by decide)) (e _ (by decide) (by decide)) (e _ (by decide) (by decide))
theorem fr_op17 (K : fr_K (m) st vr τ) (hk : k < 100) (e2 : τ 2 k = nI 17) (e3 : τ 3 k = nI a) (hm : m < 12) (ha : a < 64) : fr_op 17 a (m) st vr ce τ (M_R_RangeTellerModel_leaves τ (nI k)) := by
  have no : ¬ ((17 = 15 ∨ (19 ≤ 17 ∧ 17 ≤ 26)) ∧ (ft_val 17 a (m) st vr ce).1 = 64) := fun q => by omega
  obtain ⟨t1, t2⟩ := fr_top (r := (a, a, 0)) K (Nat.le_refl _) (show 0 ≤ 1 by decide) (u := τ) (fun _ _ _ => rfl)
  refine Or.inl ⟨no, _, ?_, t1, t2.cg (fun i hi => rfl) (fun i hi => if_neg (fun q => absurd q.1 (by decide)))⟩
  have k1 : (fr_w 41 42 43 m (a, a, 0) τ) 0 59 = nI m := by rw [fr_w_f (by omega)]; exact K.1
  have st1 : M_R_RangeTellerModel_set τ (nI m) (nI a) (nI a) 0 = some (fr_w 41 42 43 m (a, a, 0) τ) := fr_set (r := (a, a, 0)) hm (show 0 ≤ 1 by decide)
  unfold M_R_RangeTellerModel_leaves B_R_RangeTellerModel_leaves_194 B_R_RangeTellerModel_leaves_210 B_R_RangeTellerModel_leaves_222 B_R_RangeTellerModel_leaves_233
  rw [rq_rd (n := 100) rfl hk (by decide), rq_b, e2, rq_rd (n := 100) rfl hk (by decide), rq_b, e3, if_neg (by decide), if_neg (by decide), if_neg (by decide), if_neg (by decide), if_neg (by decide), if_neg (by decide), if_pos (show nI 17 = 17 from rfl), if_pos (show nI 17 = 17 from rfl), if_pos (show nI 17 = 17 from rfl), if_neg (by decide), K.1, st1, rq_b, rq_put, rq_b, k1, nI_1]
theorem fr_op27 (K : fr_K (m) st vr τ) (hk : k < 100) (e2 : τ 2 k = nI 27) (e3 : τ 3 k = nI a) (hm : m < 12) : fr_op 27 a (m) st vr ce τ (M_R_RangeTellerModel_leaves τ (nI k)) := by
  have no : ¬ ((27 = 15 ∨ (19 ≤ 27 ∧ 27 ≤ 26)) ∧ (ft_val 27 a (m) st vr ce).1 = 64) := fun q => by omega
  obtain ⟨t1, t2⟩ := fr_top (r := (0, 63, 1)) K (Nat.le_refl _) (show 1 ≤ 1 by decide) (u := τ) (fun _ _ _ => rfl)
  refine Or.inl ⟨no, _, ?_, t1, t2.cg (fun i hi => rfl) (fun i hi => if_neg (fun q => absurd q.1 (by decide)))⟩
  have k1 : (fr_w 41 42 43 m (0, 63, 1) τ) 0 59 = nI m := by rw [fr_w_f (by omega)]; exact K.1
  have st1 : M_R_RangeTellerModel_set τ (nI m) 0 63 1 = some (fr_w 41 42 43 m (0, 63, 1) τ) := fr_set (r := (0, 63, 1)) hm (show 1 ≤ 1 by decide)
  unfold M_R_RangeTellerModel_leaves B_R_RangeTellerModel_leaves_194 B_R_RangeTellerModel_leaves_210 B_R_RangeTellerModel_leaves_222 B_R_RangeTellerModel_leaves_233
  rw [rq_rd (n := 100) rfl hk (by decide), rq_b, e2, rq_rd (n := 100) rfl hk (by decide), rq_b, e3, if_neg (by decide), if_neg (by decide), if_neg (by decide), if_neg (by decide), if_neg (by decide), if_neg (by decide), if_neg (by decide), if_pos (show nI 27 = 27 from rfl), if_neg (by decide), if_neg (by decide), if_pos (show nI 27 = 27 from rfl), K.1, st1, rq_b, rq_put, rq_b, k1, nI_1]
theorem fr_op18 (K : fr_K (m + 1) st vr τ) (hk : k < 100) (e2 : τ 2 k = nI 18) (e3 : τ 3 k = nI a) (hm : m < 12) (hr : ft_ok (st m)) : fr_op 18 a (m + 1) st vr ce τ (M_R_RangeTellerModel_leaves τ (nI k)) := by
  have no : ¬ ((18 = 15 ∨ (19 ≤ 18 ∧ 18 ≤ 26)) ∧ (ft_val 18 a (m + 1) st vr ce).1 = 64) := fun q => by omega
  obtain ⟨g1, g2, g3⟩ := K.2.1 m (by omega)
  have hr' := hr
  unfold ft_ok at hr'
  have okn := ft_nt_ok hr
  have KW := K.w (h' := m + 1) (m := m) (r := ft_nt (st m)) (u := fr_w 41 42 43 m (ft_nt (st m)) τ) (fun i hi => by omega) (fun _ _ _ _ => rfl) (by rw [fr_w_f (by omega)]; exact K.1)
  refine Or.inl ⟨no, _, ?_, fr_t.w (fun c x b1 b2 => fr_w_f (by omega)), KW.cg (fun i hi => rfl) (fun i hi => if_neg (fun q => absurd q.1 (by decide)))⟩
  have e298 : ∀ l g : Nat, (ft_nt (st m)).1 = l → (ft_nt (st m)).2.1 = g → B_R_RangeTellerModel_leaves_298 (nI m) (nI g) (nI l) (nI m) τ = some (1, fr_w 41 42 43 m (ft_nt (st m)) τ) := fun l g el eg => by
    have w := fr_set (r := ft_nt (st m)) (m := m) (τ := τ) hm okn.2.2
    rw [el, eg] at w
    unfold B_R_RangeTellerModel_leaves_298
    rw [rq_rd (n := 12) rfl hm (by decide), rq_b, g3]
    have w' : M_R_RangeTellerModel_set τ (nI m) (nI l) (nI g) (nI (st m).2.2) = _ := w
    rw [w', rq_b]
  have nt1 : (ft_nt (st m)).1 = if (st m).2.1 = 0 then 1 else 0 := rfl
  have nt2 : (ft_nt (st m)).2.1 = if (st m).1 = 0 then 1 else 0 := rfl
  unfold M_R_RangeTellerModel_leaves B_R_RangeTellerModel_leaves_282 B_R_RangeTellerModel_leaves_283
  rw [rq_rd (n := 100) rfl hk (by decide), rq_b, e2, rq_rd (n := 100) rfl hk (by decide), rq_b, e3, if_neg (by decide), if_neg (by decide), if_neg (by decide), if_neg (by decide), if_neg (by decide), if_neg (by decide), if_neg (by decide), if_neg (by decide), if_pos (show nI 18 = 18 from rfl), K.1, nI_pred, rq_rd (n := 12) rfl hm (by decide), rq_b, g1]
  by_cases z : (st m).1 = 0
  · rw [if_pos (show nI (st m).1 = 0 by rw [z]; rfl), rq_rd (n := 12) rfl hm (by decide), rq_b, g2]
    by_cases y : (st m).2.1 = 0
    · rw [if_pos (show nI (st m).2.1 = 0 by rw [y]; rfl), rq_b, if_pos (show nI (st m).1 = 0 by rw [z]; rfl)]
      exact e298 1 1 (by rw [nt1, if_pos y]) (by rw [nt2, if_pos z])
    · rw [if_neg (nI_ne0 (by omega) (by omega)), rq_b, if_pos (show nI (st m).1 = 0 by rw [z]; rfl)]
      exact e298 0 1 (by rw [nt1, if_neg y]) (by rw [nt2, if_pos z])
  · rw [if_neg (nI_ne0 (by omega) (by omega)), rq_b, if_neg (nI_ne0 (by omega) (by omega))]
    exact e298 0 0 (by rw [nt1, if_neg (by omega)]) (by rw [nt2, if_neg z])
theorem fr_opr {N : Nat} (K : fr_K (m + 1 + 1) st vr τ) (hk : k < 100) (e2 : τ 2 k = nI o) (e3 : τ 3 k = nI a) (hm : m + 1 < 10) (h1 : 19 ≤ o) (h2 : o ≤ 26) (hp : ft_ok (st m)) (hq : ft_ok (st (m + 1))) : fr_op o a (m + 1 + 1) st vr ce τ (M_R_RangeTellerModel_leaves τ (nI k)) := by
  have ne : ∀ j : Nat, j < 100 → o ≠ j → ¬ nI o = nI j := fun j hj h e => h ((nI_eq (by omega) (by omega)).mp e)
  have ev : ft_val o a (m + 1 + 1) st vr ce = ft_re o (st m) (st (m + 1)) := ft_val_r h1 h2
  have tk : ck_tk o = 2 ∧ ck_gv o = 1 := by
    rcases (show o = 19 ∨ o = 20 ∨ o = 21 ∨ o = 22 ∨ o = 23 ∨ o = 24 ∨ o = 25 ∨ o = 26 by omega) with rfl | rfl | rfl | rfl | rfl | rfl | rfl | rfl <;> exact ⟨rfl, rfl⟩
  obtain ⟨u, b1, b2, b3, b4, b5, b6⟩ := fr_pairs K hm h1 h2 hp hq
  unfold fr_op
  rw [ev, tk.1, tk.2]
  have head : M_R_RangeTellerModel_leaves τ (nI k) = if (u 0 66) ≤ (u 0 67) then (rt_put u 0 59 ((u 0 59) - 1)).bind fun σ15 => (M_R_RangeTellerModel_set σ15 ((σ15 0 59) - 1) (σ15 0 66) (σ15 0 67) (σ15 0 68)).bind fun σ16 => some (1, σ16) else some (0, u) := by
    unfold M_R_RangeTellerModel_leaves
    rw [rq_rd (n := 100) rfl hk (by decide), rq_b, e2, rq_rd (n := 100) rfl hk (by decide), rq_b, e3, if_neg (show ¬ nI o = 10 from ne 10 (by decide) (by omega)), if_neg (show ¬ nI o = 28 from ne 28 (by decide) (by omega)), if_neg (show ¬ nI o = 11 from ne 11 (by decide) (by omega)), if_neg (show ¬ nI o = 12 from ne 12 (by decide) (by omega)), if_neg (show ¬ nI o = 13 from ne 13 (by decide) (by omega)), if_neg (show ¬ nI o = 14 from ne 14 (by decide) (by omega)), if_neg (show ¬ nI o = 17 from ne 17 (by decide) (by omega)), if_neg (show ¬ nI o = 27 from ne 27 (by decide) (by omega)), if_neg (show ¬ nI o = 18 from ne 18 (by decide) (by omega)), b1, rq_b]
  have k59 : u 0 59 = nI (m + 1 + 1) := by rw [b2 0 59 (by omega)]; exact K.1
  rcases b4 with ⟨w1, w2, w3, w4⟩ | ⟨w1, w2, w3, w4⟩
  · refine Or.inr ⟨⟨Or.inr ⟨h1, h2⟩, w1⟩, u, ?_, fr_t.w (fun c x q1 q2 => b2 c x (by omega))⟩
    rw [head, w3, w4, if_neg (by decide)]
  · have ne0 : ft_re o (st m) (st (m + 1)) ≠ ft_bot := fun e => by
      rw [e] at w1
      exact absurd w1 (by decide)
    have t22 : (ft_re o (st m) (st (m + 1))).2.2 ≤ 1 := by
      rcases b5 with e | e
      · exact absurd e ne0
      · exact e.2.2
    obtain ⟨t1, t2⟩ := fr_top (r := ft_re o (st m) (st (m + 1))) K (by omega : m ≤ m + 1 + 1) t22 (u := u) (fun c x q => b2 c x (by omega))
    refine Or.inl ⟨fun q => by have := q.2; omega, rt_up (fr_w 41 42 43 m (ft_re o (st m) (st (m + 1))) u) 0 59 (nI (m + 1)), ?_, t1, t2.cg (fun i hi => rfl) (fun i hi => if_neg (fun q => by omega))⟩
    have x59 : (rt_up u 0 59 (nI (m + 1))) 0 59 - 1 = nI m := by rw [rq_s, nI_pred]
    have x66 : (rt_up u 0 59 (nI (m + 1))) 0 66 = nI (ft_re o (st m) (st (m + 1))).1 := by rw [rq_k (by decide)]; exact w3
    have x67 : (rt_up u 0 59 (nI (m + 1))) 0 67 = nI (ft_re o (st m) (st (m + 1))).2.1 := by rw [rq_k (by decide)]; exact w4
    have x68 : (rt_up u 0 59 (nI (m + 1))) 0 68 = nI (ft_re o (st m) (st (m + 1))).2.2 := by rw [rq_k (by decide), b3, b6 ne0]
    have cm : fr_w 41 42 43 m (ft_re o (st m) (st (m + 1))) (rt_up u 0 59 (nI (m + 1))) = rt_up (fr_w 41 42 43 m (ft_re o (st m) (st (m + 1))) u) 0 59 (nI (m + 1)) := funext fun c => funext fun x => by
      unfold fr_w
      rw [rq_if, rq_if, rq_if, rq_if, rq_if, rq_if, rq_if, rq_if]
      by_cases z : c = 0 ∧ x = 59
      · rw [if_neg (by omega), if_neg (by omega), if_neg (by omega), if_pos z, if_pos z]
      · rw [if_neg z, if_neg z]
    rw [head, w3, w4, if_pos (nI_le w1 (by omega)), k59, nI_pred, rq_put, rq_b, x59, x66, x67, x68, fr_set (by omega) t22, rq_b, cm]
end FRF
