/-! foretelling, the class: the ops that take and give -/
def fc_O (h : Nat) (st vr : Nat → ft_G) (σ : rt_St) (o : Option (Int32 × rt_St)) : Prop := ∃ u, o = some (1, u) ∧ rq_A fc_A σ u ∧ (∀ c i, 30 ≤ c → c ≤ 38 → u c i = σ c i) ∧ fc_K h st vr u
def fc_N (σ : rt_St) (o : Option (Int32 × rt_St)) : Prop := ∃ u, o = some (0, u) ∧ rq_A fc_A σ u ∧ (∀ c i, 30 ≤ c → c ≤ 38 → u c i = σ c i)
section FCE
variable {a h m o lc : Nat} {st st' vr vr' ce : Nat → ft_G} {r p q : ft_G} {σ u : rt_St}
theorem fc_K.cg (K : fc_K h st vr σ) (h1 : ∀ i, i < h → st' i = st i) (h2 : ∀ i, i < 4 → vr' i = vr i) : fc_K h st' vr' σ := by
  obtain ⟨k1, k2, k3⟩ := K
  exact ⟨k1, fun i hi => by rw [h1 i hi]; exact k2 i hi, fun i hi => by rw [h2 i hi]; exact k3 i hi⟩
theorem fc_fetchL {b0 l n : Nat} (hr : ft_ok r) (hl : l ≤ 15) (hb : b0 + n = l + 1) (hc : ∀ x, x < 16 → ft_ok (ce x) ∧ σ 32 x = ft_c (ce x)) : ∀ (d i m : Nat), i + d = n → d + 1 ≤ m → B_C_Foreteller_fetch_29 m (ft_c r) (nI l) (ft_c (ft_cj ce b0 i)) (nI (b0 + i)) σ = if ft_c (ft_cj ce b0 n) = -3 then some (0, σ) else (M_C_Ranges_taintOf (ft_c r)).bind fun v5 => (M_C_Foreteller_push σ (ft_c (ft_cj ce b0 n) ||| v5)).bind fun σ6 => some (1, σ6) := by
  intro d
  induction d with
  | zero =>
    intro i m hd hm
    obtain ⟨m, rfl⟩ : ∃ q, m = q + 1 := ⟨m - 1, by omega⟩
    rw [B_C_Foreteller_fetch_29, if_pos (nI_lt (by omega) (by omega)), show i = n by omega]
  | succ d ih =>
    intro i m hd hm
    obtain ⟨m, rfl⟩ : ∃ q, m = q + 1 := ⟨m - 1, by omega⟩
    obtain ⟨c1, c2⟩ := hc (b0 + i) (by omega)
    have vj : ft_v (ft_cj ce b0 i) := by
      by_cases z : i = 0
      · rw [z]; exact Or.inl rfl
      · exact Or.inr (ft_cj_ok i (by omega) (fun x hx => (hc _ (by omega)).1))
    rw [B_C_Foreteller_fetch_29, if_neg (nI_nlt (by omega) (by omega)), rq_rd (n := 16) rfl (by omega) (by decide), rq_b, c2, ft_join vj (Or.inr c1), rq_b, nI_1]
    exact ih (i + 1) m (by omega) (by omega)
theorem fc_fetch (K : fc_K (m + 1) st vr σ) (hm : m < 10) (ha : a < 64) (hr : ft_ok (st m)) (hc : ∀ x, x < 16 → ft_ok (ce x) ∧ σ 32 x = ft_c (ce x)) : ((ft_ld a (st m) ce).1 ≠ 64 ∧ fc_O (m + 1) (fun i => if i = m then ft_ld a (st m) ce else st i) vr σ (M_C_Foreteller_fetch σ (nI a))) ∨ ((ft_ld a (st m) ce).1 = 64 ∧ fc_N σ (M_C_Foreteller_fetch σ (nI a))) := by
  obtain ⟨p1, p2⟩ := fc_pop K hm
  have hr' := hr
  unfold ft_ok at hr'
  have A1 : rq_A fc_A σ (rt_up σ 29 12 (nI m)) := rq_A.rf.up (by unfold fc_A; omega)
  have S1 : ∀ c i, 30 ≤ c → c ≤ 38 → (rt_up σ 29 12 (nI m)) c i = σ c i := fun c i c1 c2 => rq_c (by omega)
  have eq0 : M_C_Foreteller_fetch σ (nI a) = B_C_Foreteller_fetch_29 FU (ft_c (st m)) (nI (min ((st m).2.1 + a) 15)) (-3) (nI ((st m).1 + a)) (rt_up σ 29 12 (nI m)) := by
    unfold M_C_Foreteller_fetch
    rw [p1, rq_b2, ft_great hr, rq_b, ft_least hr, rq_b, nI_add, nI_add, show (15 : Int32) = nI 15 from rfl, ft_min (by omega) (by omega)]
  by_cases z : (st m).1 + a < 16
  · left
    have ok := ft_ld_ok hr (fun x hx => (hc x hx).1) z
    refine ⟨fun e => by unfold ft_ok at ok; omega, ?_⟩
    have ev : ft_ld a (st m) ce = ft_tt (ft_cj ce ((st m).1 + a) (min ((st m).2.1 + a) 15 + 1 - ((st m).1 + a))) (st m).2.2 := if_pos z
    have cok := ft_cj_ok (ce := ce) (b := (st m).1 + a) (min ((st m).2.1 + a) 15 + 1 - ((st m).1 + a)) (by omega) (fun i hi => (hc _ (by omega)).1)
    have l := fc_fetchL (σ := rt_up σ 29 12 (nI m)) (ce := ce) (b0 := (st m).1 + a) (l := min ((st m).2.1 + a) 15) (n := min ((st m).2.1 + a) 15 + 1 - ((st m).1 + a)) hr (by omega) (by omega) (fun x hx => ⟨(hc x hx).1, by rw [rq_c (by decide)]; exact (hc x hx).2⟩) (min ((st m).2.1 + a) 15 + 1 - ((st m).1 + a)) 0 FU (by omega) (by show min ((st m).2.1 + a) 15 + 1 - ((st m).1 + a) + 1 ≤ 2000000; omega)
    rw [if_neg (ft_c_n3 cok), ft_taint hr, rq_b, ft_addt cok (by omega)] at l
    obtain ⟨q1, q2⟩ := fc_push (r := ft_ld a (st m) ce) p2 (by omega)
    refine ⟨_, ?_, (A1.up (by unfold fc_A; omega)).up (by unfold fc_A; omega), fun c i c1 c2 => by rw [rq_c (by omega), rq_c (by omega)]; exact S1 c i c1 c2, q2⟩
    rw [eq0]
    refine l.trans ?_
    rw [ev] at q1
    have q1' : M_C_Foreteller_push (rt_up σ 29 12 (nI m)) (ft_c ((ft_cj ce ((st m).1 + a) (min ((st m).2.1 + a) 15 + 1 - ((st m).1 + a))).1, (ft_cj ce ((st m).1 + a) (min ((st m).2.1 + a) 15 + 1 - ((st m).1 + a))).2.1, max (ft_cj ce ((st m).1 + a) (min ((st m).2.1 + a) 15 + 1 - ((st m).1 + a))).2.2 (st m).2.2)) = _ := q1
    rw [q1', rq_b, ev]
  · right
    have ev : ft_ld a (st m) ce = ft_bot := if_neg z
    refine ⟨by rw [ev]; rfl, _, ?_, A1, S1⟩
    rw [eq0]
    show B_C_Foreteller_fetch_29 (1999999 + 1) _ _ _ _ _ = _
    rw [B_C_Foreteller_fetch_29, if_pos (nI_lt (by omega) (by omega)), if_pos rfl]
theorem fc_reckon (K : fc_K (m + 1 + 1) st vr σ) (hm : m + 1 < 10) (h1 : 19 ≤ o) (h2 : o ≤ 26) (hp : ft_ok (st m)) (hq : ft_ok (st (m + 1))) : ((ft_re o (st m) (st (m + 1))).1 ≠ 64 ∧ fc_O (m + 1) (fun i => if i = m then ft_re o (st m) (st (m + 1)) else st i) vr σ (M_C_Foreteller_reckon σ (nI o))) ∨ ((ft_re o (st m) (st (m + 1))).1 = 64 ∧ fc_N σ (M_C_Foreteller_reckon σ (nI o))) := by
  obtain ⟨p1, p2⟩ := fc_pop K hm
  obtain ⟨p3, p4⟩ := fc_pop p2 (by omega)
  have A1 : rq_A fc_A σ (rt_up (rt_up σ 29 12 (nI (m + 1))) 29 12 (nI m)) := (rq_A.rf.up (by unfold fc_A; omega)).up (by unfold fc_A; omega)
  have S1 : ∀ c i, 30 ≤ c → c ≤ 38 → (rt_up (rt_up σ 29 12 (nI (m + 1))) 29 12 (nI m)) c i = σ c i := fun c i c1 c2 => by rw [rq_c (by omega), rq_c (by omega)]
  obtain ⟨q, e1, e2⟩ := ft_reck h1 h2 hp hq
  unfold M_C_Foreteller_reckon
  rw [p1, rq_b2, p3, rq_b2, e1, rq_b]
  rcases e2 with ⟨rfl, e3, -⟩ | ⟨a1, a2, e3, -⟩
  · right
    rw [e3, if_pos ft_c_bot]
    exact ⟨rfl, _, rfl, A1, S1⟩
  · left
    have ok : (ft_re o (st m) (st (m + 1))).1 ≠ 64 := by
      rw [e3]
      unfold ft_ok at a1
      show q.1 ≠ 64
      omega
    have t1 : (st m).2.2 ≤ 1 := hp.2.2
    have t2 : (st (m + 1)).2.2 ≤ 1 := hq.2.2
    have ad := ft_addt (t := max (st m).2.2 (st (m + 1)).2.2) a1 (by omega)
    rw [a2, Nat.max_eq_right (Nat.zero_le _), ← e3] at ad
    obtain ⟨q1, q2⟩ := fc_push (r := ft_re o (st m) (st (m + 1))) p4 (by omega)
    refine ⟨ok, _, ?_, (A1.up (by unfold fc_A; omega)).up (by unfold fc_A; omega), fun c i c1 c2 => by rw [rq_c (by omega), rq_c (by omega)]; exact S1 c i c1 c2, q2⟩
    rw [if_neg (ft_c_n3 a1), ft_taint2 hp hq, rq_b, ad, q1, rq_b]
theorem ft_val_r (h1 : 19 ≤ o) (h2 : o ≤ 26) : ft_val o a h st vr ce = ft_re o (st (h - 2)) (st (h - 1)) := by
  unfold ft_val
  rw [if_neg (by omega), if_neg (by omega), if_neg (by omega), if_neg (by omega), if_neg (by omega), if_neg (by omega), if_neg (by omega), if_pos ⟨h1, h2⟩]
def fc_op (o a h : Nat) (st vr ce : Nat → ft_G) (σ : rt_St) : Prop := (¬ ((o = 15 ∨ (19 ≤ o ∧ o ≤ 26)) ∧ (ft_val o a h st vr ce).1 = 64) ∧ fc_O (h - ck_tk o + ck_gv o) (fun i => if i = h - ck_tk o then ft_val o a h st vr ce else st i) (fun i => if (o = 13 ∨ o = 14) ∧ i = a then st (h - 1) else vr i) σ (M_C_Foreteller_operate σ (nI o) (nI a))) ∨ (((o = 15 ∨ (19 ≤ o ∧ o ≤ 26)) ∧ (ft_val o a h st vr ce).1 = 64) ∧ fc_N σ (M_C_Foreteller_operate σ (nI o) (nI a)))
theorem fc_op10 (K : fc_K (m + 1) st vr σ) (hm : m < 10) : fc_op 10 a (m + 1) st vr ce σ := by
  have no : ¬ ((10 = 15 ∨ (19 ≤ 10 ∧ 10 ≤ 26)) ∧ (ft_val 10 a (m + 1) st vr ce).1 = 64) := fun q => by omega
  obtain ⟨p1, p2⟩ := fc_pop K hm
  refine Or.inl ⟨no, _, ?_, rq_A.rf.up (by unfold fc_A; omega), fun c i c1 c2 => rq_c (by omega), p2.cg (fun i hi => ?_) (fun i hi => ?_)⟩
  · unfold M_C_Foreteller_operate
    rw [if_pos (show nI 10 = 10 from rfl), p1, rq_b2]
  · have hi' : i < m := hi
    exact if_neg (show ¬ i = m by omega)
  · exact if_neg (fun q => absurd q.1 (by decide))
theorem fc_op28 (K : fc_K (m + 1) st vr σ) (hm : m < 10) : fc_op 28 a (m + 1) st vr ce σ := by
  have no : ¬ ((28 = 15 ∨ (19 ≤ 28 ∧ 28 ≤ 26)) ∧ (ft_val 28 a (m + 1) st vr ce).1 = 64) := fun q => by omega
  obtain ⟨p1, p2⟩ := fc_pop K hm
  refine Or.inl ⟨no, _, ?_, rq_A.rf.up (by unfold fc_A; omega), fun c i c1 c2 => rq_c (by omega), p2.cg (fun i hi => ?_) (fun i hi => ?_)⟩
  · unfold M_C_Foreteller_operate
    rw [if_neg (by decide), if_neg (by decide), if_neg (by decide), if_neg (by decide), if_neg (by decide), if_neg (by decide), if_neg (by decide), if_neg (by decide), if_neg (by decide), if_neg (by decide), if_neg (by decide), if_neg (by decide), if_neg (by decide), if_neg (by decide), if_neg (by decide), if_neg (by decide), if_neg (by decide), if_neg (by decide), if_pos (show nI 28 = 28 from rfl), p1, rq_b2]
  · have hi' : i < m := hi
    exact if_neg (show ¬ i = m by omega)
  · exact if_neg (fun q => absurd q.1 (by decide))
theorem fc_op11 (K : fc_K (m + 1 + 1 + 1) st vr σ) (hm : m + 1 + 1 < 10) (s1 : ∀ i, i < m + 1 + 1 + 1 → ft_ok (st i)) : fc_op 11 a (m + 1 + 1 + 1) st vr ce σ := by
  have no : ¬ ((11 = 15 ∨ (19 ≤ 11 ∧ 11 ≤ 26)) ∧ (ft_val 11 a (m + 1 + 1 + 1) st vr ce).1 = 64) := fun q => by omega
  obtain ⟨p1, p2⟩ := fc_pop K hm
  obtain ⟨p3, p4⟩ := fc_pop p2 (by omega)
  obtain ⟨p5, p6⟩ := fc_pop p4 (by omega)
  obtain ⟨e1, -⟩ := ft_pick (s1 m (by omega)) (s1 (m + 1) (by omega)) (s1 (m + 1 + 1) (by omega))
  obtain ⟨q1, q2⟩ := fc_push (r := ft_pk (st m) (st (m + 1)) (st (m + 1 + 1))) p6 (by omega)
  refine Or.inl ⟨no, _, ?_, ((((rq_A.rf.up (by unfold fc_A; omega)).up (by unfold fc_A; omega)).up (by unfold fc_A; omega)).up (by unfold fc_A; omega)).up (by unfold fc_A; omega), fun c i c1 c2 => by rw [rq_c (by omega), rq_c (by omega), rq_c (by omega), rq_c (by omega), rq_c (by omega)], q2.cg (fun i hi => rfl) (fun i hi => if_neg (fun q => absurd q.1 (by decide)))⟩
  unfold M_C_Foreteller_operate M_C_Foreteller_pick
  rw [if_neg (by decide), if_pos (show nI 11 = 11 from rfl), p1, rq_b2, p3, rq_b2, p5, rq_b2, e1, rq_b, q1]
  rfl
theorem fc_op12 (K : fc_K (m) st vr σ) (hm : m < 10) (ha : a < 4) : fc_op 12 a (m) st vr ce σ := by
  have no : ¬ ((12 = 15 ∨ (19 ≤ 12 ∧ 12 ≤ 26)) ∧ (ft_val 12 a (m) st vr ce).1 = 64) := fun q => by omega
  obtain ⟨q1, q2⟩ := fc_push (r := vr a) K hm
  refine Or.inl ⟨no, _, ?_, (rq_A.rf.up (by unfold fc_A; omega)).up (by unfold fc_A; omega), fun c i c1 c2 => by rw [rq_c (by omega), rq_c (by omega)], q2.cg (fun i hi => rfl) (fun i hi => if_neg (fun q => absurd q.1 (by decide)))⟩
  unfold M_C_Foreteller_operate
  rw [if_neg (by decide), if_neg (by decide), if_pos (show nI 12 = 12 from rfl), rq_rd (n := 4) rfl ha (by decide), rq_b, K.2.2 a ha, q1]
  rfl
theorem fc_op13 (K : fc_K (m + 1) st vr σ) (hm : m < 10) (ha : a < 4) : fc_op 13 a (m + 1) st vr ce σ := by
  have no : ¬ ((13 = 15 ∨ (19 ≤ 13 ∧ 13 ≤ 26)) ∧ (ft_val 13 a (m + 1) st vr ce).1 = 64) := fun q => by omega
  obtain ⟨p1, p2⟩ := fc_pop K hm
  refine Or.inl ⟨no, rt_up (rt_up σ 29 12 (nI m)) 40 a (ft_c (st m)), ?_, (rq_A.rf.up (by unfold fc_A; omega)).up (by unfold fc_A; omega), fun c i c1 c2 => by rw [rq_c (by omega), rq_c (by omega)], ?_, fun i hi => ?_, fun i hi => ?_⟩
  · unfold M_C_Foreteller_operate
    rw [if_neg (by decide), if_neg (by decide), if_neg (by decide), if_pos (show nI 13 = 13 from rfl), p1, rq_b2, rq_wr (n := 4) rfl ha (by decide), rq_b]
  · rw [rq_c (by decide)]; exact p2.1
  · have hi' : i < m := hi
    rw [rq_c (by decide)]
    exact (p2.2.1 i hi').trans (congrArg ft_c (if_neg (show ¬ i = m by omega)).symm)
  · by_cases z : i = a
    · subst z
      rw [rq_s]
      exact congrArg ft_c (if_pos (c := ((13 : Nat) = 13 ∨ (13 : Nat) = 14) ∧ i = i) ⟨Or.inl rfl, rfl⟩).symm
    · rw [rq_k z]
      exact (p2.2.2 i hi).trans (congrArg ft_c (if_neg (c := ((13 : Nat) = 13 ∨ (13 : Nat) = 14) ∧ i = a) (fun q => z q.2)).symm)
theorem fc_op14 (K : fc_K (m + 1) st vr σ) (hm : m < 10) (ha : a < 4) : fc_op 14 a (m + 1) st vr ce σ := by
  have no : ¬ ((14 = 15 ∨ (19 ≤ 14 ∧ 14 ≤ 26)) ∧ (ft_val 14 a (m + 1) st vr ce).1 = 64) := fun q => by omega
  obtain ⟨k1, k2, k3⟩ := K
  refine Or.inl ⟨no, rt_up σ 40 a (ft_c (st m)), ?_, rq_A.rf.up (by unfold fc_A; omega), fun c i c1 c2 => rq_c (by omega), ?_, fun i hi => ?_, fun i hi => ?_⟩
  · unfold M_C_Foreteller_operate
    rw [if_neg (by decide), if_neg (by decide), if_neg (by decide), if_neg (by decide), if_pos (show nI 14 = 14 from rfl), k1, nI_pred, rq_rd (n := 10) rfl hm (by decide), rq_b, k2 m (by omega), rq_wr (n := 4) rfl ha (by decide), rq_b]
  · rw [rq_c (by decide)]; exact k1
  · have hi' : i < m + 1 := hi
    rw [rq_c (by decide)]
    by_cases z : i = m
    · subst z; exact (k2 i hi').trans (congrArg ft_c (if_pos (c := i = i) rfl).symm)
    · exact (k2 i hi').trans (congrArg ft_c (if_neg (show ¬ i = m from z)).symm)
  · by_cases z : i = a
    · subst z
      rw [rq_s]
      exact congrArg ft_c (if_pos (c := ((14 : Nat) = 13 ∨ (14 : Nat) = 14) ∧ i = i) ⟨Or.inr rfl, rfl⟩).symm
    · rw [rq_k z]
      exact (k3 i hi).trans (congrArg ft_c (if_neg (c := ((14 : Nat) = 13 ∨ (14 : Nat) = 14) ∧ i = a) (fun q => z q.2)).symm)
theorem fc_op15 (K : fc_K (m + 1) st vr σ) (hm : m < 10) (ha : a < 64) (hr : ft_ok (st m)) (hc : ∀ x, x < 16 → ft_ok (ce x) ∧ σ 32 x = ft_c (ce x)) : fc_op 15 a (m + 1) st vr ce σ := by
  have ev : ft_val 15 a (m + 1) st vr ce = ft_ld a (st m) ce := rfl
  have eo : ∀ (x : Int32) (w : rt_St), (x = 0 ∨ x = 1) → M_C_Foreteller_fetch σ (nI a) = some (x, w) → M_C_Foreteller_operate σ (nI 15) (nI a) = some (x, w) := fun x w hx e => by
    unfold M_C_Foreteller_operate
    rw [if_neg (by decide), if_neg (by decide), if_neg (by decide), if_neg (by decide), if_neg (by decide), if_pos (show nI 15 = 15 from rfl), e, rq_b2]
    rcases hx with rfl | rfl
    · rfl
    · rfl
  rcases fc_fetch K hm ha hr hc with ⟨n1, w, e1, e2, e3, e4⟩ | ⟨n1, w, e1, e2, e3⟩
  · exact Or.inl ⟨fun q => n1 (by have := q.2; rw [ev] at this; exact this), w, eo 1 w (Or.inr rfl) e1, e2, e3, e4.cg (fun i hi => rfl) (fun i hi => if_neg (fun q => absurd q.1 (by decide)))⟩
  · exact Or.inr ⟨⟨Or.inl rfl, by rw [ev]; exact n1⟩, w, eo 0 w (Or.inl rfl) e1, e2, e3⟩
theorem fc_op17 (K : fc_K (m) st vr σ) (hm : m < 10) (ha : a < 64) : fc_op 17 a (m) st vr ce σ := by
  have no : ¬ ((17 = 15 ∨ (19 ≤ 17 ∧ 17 ≤ 26)) ∧ (ft_val 17 a (m) st vr ce).1 = 64) := fun q => by omega
  obtain ⟨q1, q2⟩ := fc_push (r := (a, a, 0)) K hm
  refine Or.inl ⟨no, _, ?_, (rq_A.rf.up (by unfold fc_A; omega)).up (by unfold fc_A; omega), fun c i c1 c2 => by rw [rq_c (by omega), rq_c (by omega)], q2.cg (fun i hi => rfl) (fun i hi => if_neg (fun q => absurd q.1 (by decide)))⟩
  unfold M_C_Foreteller_operate
  rw [if_neg (by decide), if_neg (by decide), if_neg (by decide), if_neg (by decide), if_neg (by decide), if_neg (by decide), if_neg (by decide), if_pos (show nI 17 = 17 from rfl), ft_of (Nat.le_refl _) ha, rq_b, q1]
  rfl
theorem fc_op18 (K : fc_K (m + 1) st vr σ) (hm : m < 10) (hr : ft_ok (st m)) : fc_op 18 a (m + 1) st vr ce σ := by
  have no : ¬ ((18 = 15 ∨ (19 ≤ 18 ∧ 18 ≤ 26)) ∧ (ft_val 18 a (m + 1) st vr ce).1 = 64) := fun q => by omega
  obtain ⟨p1, p2⟩ := fc_pop K hm
  obtain ⟨q1, q2⟩ := fc_push (r := ft_nt (st m)) p2 hm
  refine Or.inl ⟨no, _, ?_, ((rq_A.rf.up (by unfold fc_A; omega)).up (by unfold fc_A; omega)).up (by unfold fc_A; omega), fun c i c1 c2 => by rw [rq_c (by omega), rq_c (by omega), rq_c (by omega)], q2.cg (fun i hi => rfl) (fun i hi => if_neg (fun q => absurd q.1 (by decide)))⟩
  unfold M_C_Foreteller_operate
  rw [if_neg (by decide), if_neg (by decide), if_neg (by decide), if_neg (by decide), if_neg (by decide), if_neg (by decide), if_neg (by decide), if_neg (by decide), if_pos (show nI 18 = 18 from rfl), p1, rq_b2, ft_not hr, rq_b, q1]
  rfl
theorem fc_op27 (K : fc_K (m) st vr σ) (hm : m < 10) : fc_op 27 a (m) st vr ce σ := by
  have no : ¬ ((27 = 15 ∨ (19 ≤ 27 ∧ 27 ≤ 26)) ∧ (ft_val 27 a (m) st vr ce).1 = 64) := fun q => by omega
  obtain ⟨q1, q2⟩ := fc_push (r := (0, 63, 1)) K hm
  refine Or.inl ⟨no, _, ?_, (rq_A.rf.up (by unfold fc_A; omega)).up (by unfold fc_A; omega), fun c i c1 c2 => by rw [rq_c (by omega), rq_c (by omega)], q2.cg (fun i hi => rfl) (fun i hi => if_neg (fun q => absurd q.1 (by decide)))⟩
  unfold M_C_Foreteller_operate
  rw [if_neg (by decide), if_neg (by decide), if_neg (by decide), if_neg (by decide), if_neg (by decide), if_neg (by decide), if_neg (by decide), if_neg (by decide), if_neg (by decide), if_neg (by decide), if_neg (by decide), if_neg (by decide), if_neg (by decide), if_neg (by decide), if_neg (by decide), if_neg (by decide), if_neg (by decide), if_pos (show nI 27 = 27 from rfl), show (8128 : Int32) = ft_c (0, 63, 1) from rfl, q1]
  rfl
theorem fc_opr2 (K : fc_K (m + 1 + 1) st vr σ) (hm : m + 1 < 10) (h1 : 19 ≤ o) (h2 : o ≤ 26) (hp : ft_ok (st m)) (hq : ft_ok (st (m + 1))) : fc_op o a (m + 1 + 1) st vr ce σ := by
  have ne : ∀ j : Nat, j < 100 → o ≠ j → ¬ nI o = nI j := fun j hj h e => h ((nI_eq (by omega) (by omega)).mp e)
  have ev : ft_val o a (m + 1 + 1) st vr ce = ft_re o (st m) (st (m + 1)) := ft_val_r h1 h2
  have tk : ck_tk o = 2 ∧ ck_gv o = 1 := by
    rcases (show o = 19 ∨ o = 20 ∨ o = 21 ∨ o = 22 ∨ o = 23 ∨ o = 24 ∨ o = 25 ∨ o = 26 by omega) with rfl | rfl | rfl | rfl | rfl | rfl | rfl | rfl <;> exact ⟨rfl, rfl⟩
  have eo : ∀ (x : Int32) (w : rt_St), (x = 0 ∨ x = 1) → M_C_Foreteller_reckon σ (nI o) = some (x, w) → M_C_Foreteller_operate σ (nI o) (nI a) = some (x, w) := fun x w hx e => by
    have fin : (rt_b2 (M_C_Foreteller_reckon σ (nI o)) fun v2 σ1 => (rt_zok v2).bind fun _ => some (v2, σ1)) = some (x, w) := by
      rw [e, rq_b2]
      rcases hx with rfl | rfl
      · rfl
      · rfl
    unfold M_C_Foreteller_operate
    rw [if_neg (show ¬ nI o = 10 from ne 10 (by decide) (by omega)), if_neg (show ¬ nI o = 11 from ne 11 (by decide) (by omega)), if_neg (show ¬ nI o = 12 from ne 12 (by decide) (by omega)), if_neg (show ¬ nI o = 13 from ne 13 (by decide) (by omega)), if_neg (show ¬ nI o = 14 from ne 14 (by decide) (by omega)), if_neg (show ¬ nI o = 15 from ne 15 (by decide) (by omega)), if_neg (show ¬ nI o = 16 from ne 16 (by decide) (by omega)), if_neg (show ¬ nI o = 17 from ne 17 (by decide) (by omega)), if_neg (show ¬ nI o = 18 from ne 18 (by decide) (by omega)), fin]
    by_cases c19 : nI o = 19
    · rw [if_pos c19]
    rw [if_neg c19]
    by_cases c20 : nI o = 20
    · rw [if_pos c20]
    rw [if_neg c20]
    by_cases c21 : nI o = 21
    · rw [if_pos c21]
    rw [if_neg c21]
    by_cases c22 : nI o = 22
    · rw [if_pos c22]
    rw [if_neg c22]
    by_cases c23 : nI o = 23
    · rw [if_pos c23]
    rw [if_neg c23]
    by_cases c24 : nI o = 24
    · rw [if_pos c24]
    rw [if_neg c24]
    by_cases c25 : nI o = 25
    · rw [if_pos c25]
    rw [if_neg c25]
    by_cases c26 : nI o = 26
    · rw [if_pos c26]
    rw [if_neg c26]
    rw [if_neg (show ¬ nI o = 27 from ne 27 (by decide) (by omega)), if_neg (show ¬ nI o = 28 from ne 28 (by decide) (by omega))]
  unfold fc_op
  rw [ev, tk.1, tk.2]
  rcases fc_reckon K hm h1 h2 hp hq with ⟨n1, w, e1, e2, e3, e4⟩ | ⟨n1, w, e1, e2, e3⟩
  · exact Or.inl ⟨fun q => n1 q.2, w, eo 1 w (Or.inr rfl) e1, e2, e3, e4.cg (fun i hi => rfl) (fun i hi => if_neg (fun q => by omega))⟩
  · exact Or.inr ⟨⟨Or.inr ⟨h1, h2⟩, n1⟩, w, eo 0 w (Or.inl rfl) e1, e2, e3⟩
end FCE
