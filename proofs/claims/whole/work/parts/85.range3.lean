/-! foretelling: any op that takes two; NOT, PICK -/
noncomputable def ft_re (o : Nat) (r s : ft_G) : ft_G := @dite _ (∃ p : Nat × Nat, ft_Hu o r s p.1 p.2) (Classical.propDecidable _) (fun h => (h.choose.1, h.choose.2, max r.2.2 s.2.2)) (fun _ => ft_bot)
def ft_nt (r : ft_G) : ft_G := (if r.2.1 = 0 then 1 else 0, if r.1 = 0 then 1 else 0, r.2.2)
def ft_tt (r : ft_G) (t : Nat) : ft_G := (r.1, r.2.1, max r.2.2 t)
def ft_pk (a b c : ft_G) : ft_G := ft_tt (if c.2.1 = 0 then b else if c.1 = 0 then ft_j a b else a) c.2.2
section FT7
variable {r s : ft_G} {l g o : Nat}
theorem ft_re_of (H : ft_Hu o r s l g) : ft_re o r s = (l, g, max r.2.2 s.2.2) := by
  unfold ft_re
  have h : ∃ p : Nat × Nat, ft_Hu o r s p.1 p.2 := ⟨(l, g), H⟩
  rw [dif_pos h]
  obtain ⟨e1, e2⟩ := ht_H_un h.choose_spec H
  rw [e1, e2]
theorem ft_re_no (h : ∀ v, ¬ ht_I (ft_n o) (ft_f o) r.1 r.2.1 s.1 s.2.1 v) : ft_re o r s = ft_bot := by
  unfold ft_re
  rw [dif_neg (fun ⟨p, q⟩ => h _ q.1)]
def ft_rq (o : Nat) (r s : ft_G) (x : Option Int32) : Prop := ∃ q, x = some (ft_c q) ∧ ((q = ft_bot ∧ ft_re o r s = ft_bot ∧ ∀ v, ¬ ht_I (ft_n o) (ft_f o) r.1 r.2.1 s.1 s.2.1 v) ∨ (ft_ok q ∧ q.2.2 = 0 ∧ ft_re o r s = (q.1, q.2.1, max r.2.2 s.2.2) ∧ ft_Hu o r s q.1 q.2.1))
theorem ft_rq_of (hr : ft_ok r) (hs : ft_ok s) (H : ft_Hu o r s l g) : ft_rq o r s (some (ft_c (l, g, 0))) := by
  obtain ⟨h1, h2⟩ := H.lt hr hs
  exact ⟨(l, g, 0), rfl, Or.inr ⟨by unfold ft_ok; dsimp only; omega, rfl, ft_re_of H, H⟩⟩
theorem ft_rq_no (ho : o = 24 ∨ o = 25) (hz : s.2.1 = 0) : ft_rq o r s (some (-3)) := by
  have no : ∀ v, ¬ ht_I (ft_n o) (ft_f o) r.1 r.2.1 s.1 s.2.1 v := fun v h => by
    obtain ⟨x, y, k1, k2, k3, k4, k5, k6⟩ := h
    have e : ft_n o = ht_N := if_pos ho
    rw [e] at k5
    have : 0 < y := k5
    omega
  exact ⟨ft_bot, rfl, Or.inl ⟨rfl, ft_re_no no, no⟩⟩
theorem ft_less (hr : ft_ok r) (hs : ft_ok s) : M_C_Ranges_reckoned (nI 20) (ft_c r) (ft_c s) = some (ft_c (if s.1 ≤ r.2.1 then 0 else 1, if r.1 < s.2.1 then 1 else 0, 0)) := by
  have hr' := hr
  have hs' := hs
  unfold ft_ok at hr' hs'
  unfold M_C_Ranges_reckoned B_C_Ranges_reckoned_66 B_C_Ranges_reckoned_82
  rw [if_neg (by decide), if_pos (show nI 20 = 20 from rfl), ft_least hr, rq_b, ft_great hs, rq_b]
  by_cases z1 : r.1 < s.2.1
  · rw [if_neg (nI_ge z1 (by omega)), ft_great hr, rq_b, ft_least hs, rq_b, if_pos z1]
    by_cases z2 : s.1 ≤ r.2.1
    · rw [if_neg (nI_nlt z2 (by omega)), if_pos z2]; rfl
    · rw [if_pos (nI_lt (by omega) (by omega)), if_neg z2]; rfl
  · rw [if_pos (nI_le (by omega) (by omega)), ft_great hr, rq_b, ft_least hs, rq_b, if_neg z1]
    by_cases z2 : s.1 ≤ r.2.1
    · rw [if_neg (nI_nlt z2 (by omega)), if_pos z2]; rfl
    · rw [if_pos (nI_lt (by omega) (by omega)), if_neg z2]; rfl
theorem ft_reck (h1 : 19 ≤ o) (h2 : o ≤ 26) (hr : ft_ok r) (hs : ft_ok s) : ft_rq o r s (M_C_Ranges_reckoned (nI o) (ft_c r) (ft_c s)) := by
  have hr' := hr
  have hs' := hs
  unfold ft_ok at hr' hs'
  rcases (show o = 19 ∨ o = 20 ∨ o = 21 ∨ o = 22 ∨ o = 23 ∨ o = 24 ∨ o = 25 ∨ o = 26 by omega) with rfl | rfl | rfl | rfl | rfl | rfl | rfl | rfl
  · unfold M_C_Ranges_reckoned
    rw [if_pos (show nI 19 = 19 from rfl), ft_same hr hs, rq_b]
    exact ft_rq_of hr hs (ht_same hr'.1 hs'.1)
  · rw [ft_less hr hs]
    exact ft_rq_of hr hs (ht_less hr'.1 hs'.1)
  · have f1 := ft_fd1 (r.1 + s.1) (by omega)
    have f2 := ft_fd1 (r.2.1 + s.2.1) (by omega)
    rw [← nI_pred ((r.1 + s.1) / 64)] at f1
    rw [← nI_pred ((r.2.1 + s.2.1) / 64)] at f2
    have w := ft_wrap (p := (r.1 + s.1) / 64 + 1) (q := (r.2.1 + s.2.1) / 64 + 1) f1 f2 (by omega) (by omega) (pk_andN (n := r.1 + s.1) (by omega) 6 (by decide)) (pk_andN (n := r.2.1 + s.2.1) (by omega) 6 (by decide)) (by omega) (fun e => by omega)
    unfold M_C_Ranges_reckoned
    rw [if_neg (by decide), if_neg (by decide), if_pos (show nI 21 = 21 from rfl), ft_least hr, rq_b, ft_least hs, rq_b, ft_great hr, rq_b, ft_great hs, rq_b, nI_add, nI_add, w, rq_b]
    have H := ht_plus hr'.1 hs'.1 hr'.2.1 hs'.2.1
    by_cases z : (r.1 + s.1) / 64 = (r.2.1 + s.2.1) / 64
    · rw [if_pos z, if_pos z] at H
      rw [if_pos (by omega), if_pos (by omega)]
      exact ft_rq_of hr hs H
    · rw [if_neg z, if_neg z] at H
      rw [if_neg (by omega), if_neg (by omega)]
      exact ft_rq_of hr hs H
  · have f1 := ft_fd2 r.1 (by omega) s.2.1 (by omega)
    have f2 := ft_fd2 r.2.1 (by omega) s.1 (by omega)
    have w := ft_wrap (p := (r.1 + 64 - s.2.1) / 64) (q := (r.2.1 + 64 - s.1) / 64) f1 f2 (by omega) (by omega) (rn_minus _ (by omega) _ (by omega)).1 (rn_minus _ (by omega) _ (by omega)).1 (by omega) (fun e => by omega)
    unfold M_C_Ranges_reckoned
    rw [if_neg (by decide), if_neg (by decide), if_neg (by decide), if_pos (show nI 22 = 22 from rfl), ft_least hr, rq_b, ft_great hs, rq_b, ft_great hr, rq_b, ft_least hs, rq_b, w, rq_b]
    exact ft_rq_of hr hs (ht_minus hr'.1 hs'.1 hr'.2.1 hs'.2.1)
  · obtain ⟨l, g, w1, w2⟩ := ft_times hr hs
    unfold M_C_Ranges_reckoned
    rw [if_neg (by decide), if_neg (by decide), if_neg (by decide), if_neg (by decide), if_pos (show nI 23 = 23 from rfl), w2, rq_b]
    exact ft_rq_of hr hs w1
  · unfold M_C_Ranges_reckoned
    rw [if_neg (by decide), if_neg (by decide), if_neg (by decide), if_neg (by decide), if_neg (by decide), if_pos (show nI 24 = 24 from rfl)]
    rcases ft_over hr hs with ⟨z, w⟩ | ⟨-, l, g, w1, w2⟩
    · rw [w, rq_b]; exact ft_rq_no (Or.inl rfl) z
    · rw [w2, rq_b]; exact ft_rq_of hr hs w1
  · unfold M_C_Ranges_reckoned
    rw [if_neg (by decide), if_neg (by decide), if_neg (by decide), if_neg (by decide), if_neg (by decide), if_neg (by decide), if_pos (show nI 25 = 25 from rfl)]
    rcases ft_rest hr hs with ⟨z, w⟩ | ⟨-, l, g, w1, w2⟩
    · rw [w, rq_b]; exact ft_rq_no (Or.inr rfl) z
    · rw [w2, rq_b]; exact ft_rq_of hr hs w1
  · have H : ft_Hu 26 r s (ht_lb r.1 r.2.1 s.1 s.2.1 6) (ht_gb r.1 r.2.1 s.1 s.2.1 6) := ht_both hr'.1 hs'.1 hr'.2.1 hs'.2.1
    obtain ⟨q1, q2⟩ := H.lt hr hs
    have e1 : M_C_Ranges_leastBoth (ft_c r) (ft_c s) = some (nI (ht_lb r.1 r.2.1 s.1 s.2.1 6)) := by
      unfold M_C_Ranges_leastBoth
      rw [ft_least hr, rq_b, ft_least hs, rq_b]
      exact ft_lb hr hs 6 FU (by decide) (by decide)
    have e2 : M_C_Ranges_greatestBoth (ft_c r) (ft_c s) = some (nI (ht_gb r.1 r.2.1 s.1 s.2.1 6)) := by
      unfold M_C_Ranges_greatestBoth
      rw [ft_great hr, rq_b, ft_great hs, rq_b]
      exact ft_gb hr hs 6 FU (by decide) (by decide)
    unfold M_C_Ranges_reckoned
    rw [if_neg (by decide), if_neg (by decide), if_neg (by decide), if_neg (by decide), if_neg (by decide), if_neg (by decide), if_neg (by decide), e1, rq_b, e2, rq_b, ft_of q1 q2, rq_b]
    exact ft_rq_of hr hs H
theorem ft_nt_ok (hr : ft_ok r) : ft_ok (ft_nt r) := by
  unfold ft_ok ft_nt at *
  dsimp only
  by_cases z1 : r.1 = 0
  · by_cases z2 : r.2.1 = 0
    · rw [if_pos z1, if_pos z2]; omega
    · rw [if_pos z1, if_neg z2]; omega
  · rw [if_neg z1, if_neg (by omega)]; omega
theorem ft_not (hr : ft_ok r) : M_C_Ranges_not (ft_c r) = some (ft_c (ft_nt r)) := by
  have hr' := hr
  unfold ft_ok at hr'
  have key : ∀ l g : Nat, ft_ok (l, g, 0) → some (ft_c (l, g, 0) ||| nI (4096 * r.2.2)) = some (ft_c (l, g, r.2.2)) := fun l g h => by
    rw [ft_addt h (by omega)]
    show some (ft_c (l, g, max 0 r.2.2)) = _
    rw [Nat.max_eq_right (Nat.zero_le _)]
  unfold M_C_Ranges_not
  rw [ft_zero hr, rq_b, ft_other hr, rq_b]
  unfold ft_nt
  by_cases z1 : r.1 = 0
  · by_cases z2 : r.2.1 = 0
    · rw [if_pos z1, if_pos z2, if_pos z1, if_pos z2]
      show ((M_C_Ranges_taintOf (ft_c r)).bind fun v4 => some (ft_c (1, 1, 0) ||| v4)) = _
      rw [ft_taint hr, rq_b]
      exact key 1 1 (by unfold ft_ok; decide)
    · rw [if_pos z1, if_neg z2, if_pos z1, if_neg z2]
      show ((M_C_Ranges_taintOf (ft_c r)).bind fun v4 => some (ft_c (0, 1, 0) ||| v4)) = _
      rw [ft_taint hr, rq_b]
      exact key 0 1 (by unfold ft_ok; decide)
  · have z2 : ¬ r.2.1 = 0 := by omega
    rw [if_neg z1, if_neg z2, if_neg z1, if_neg z2]
    show ((M_C_Ranges_taintOf (ft_c r)).bind fun v4 => some (ft_c (0, 0, 0) ||| v4)) = _
    rw [ft_taint hr, rq_b]
    exact key 0 0 (by unfold ft_ok; decide)
theorem ft_tt_ok {t : Nat} (hr : ft_ok r) (ht : t ≤ 1) : ft_ok (ft_tt r t) := by
  unfold ft_ok ft_tt at *
  dsimp only
  omega
theorem ft_pick {a b c : ft_G} (ha : ft_ok a) (hb : ft_ok b) (hc : ft_ok c) : M_C_Ranges_pick (ft_c a) (ft_c b) (ft_c c) = some (ft_c (ft_pk a b c)) ∧ ft_ok (ft_pk a b c) := by
  have hc' := hc
  unfold ft_ok at hc'
  have last : ∀ q, ft_ok q → B_C_Ranges_pick_26 (ft_c c) (ft_c q) = some (ft_c (ft_tt q c.2.2)) := fun q hq => by
    unfold B_C_Ranges_pick_26
    rw [ft_taint hc, rq_b, ft_addt hq (by omega)]
    rfl
  unfold M_C_Ranges_pick ft_pk
  rw [ft_other hc, rq_b]
  by_cases z1 : c.2.1 = 0
  · rw [if_pos z1, if_pos z1, if_pos rfl]
    exact ⟨last b hb, ft_tt_ok hb (by omega)⟩
  · rw [if_neg z1, if_neg z1, if_neg (by decide), ft_zero hc, rq_b]
    unfold B_C_Ranges_pick_25
    by_cases z2 : c.1 = 0
    · rw [if_pos z2, if_pos z2, if_neg (by decide), ft_join (Or.inr ha) (Or.inr hb), rq_b]
      exact ⟨last _ (ft_j_ok ha hb), ft_tt_ok (ft_j_ok ha hb) (by omega)⟩
    · rw [if_neg z2, if_neg z2, if_pos rfl]
      exact ⟨last a ha, ft_tt_ok ha (by omega)⟩
end FT7
