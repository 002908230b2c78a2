/-! foretelling: what an instruction gives on, as a state (numbers) -/
def ft_pass (j h lc : Nat) (st vr : Nat → ft_G) : ft_S := fun c x => if c = 0 ∧ 10 * j ≤ x ∧ x < 10 * j + h then st (x - 10 * j) else if c = 1 ∧ 4 * j ≤ x ∧ x < 4 * j + lc then vr (x - 4 * j) else if c = 4 ∧ x = j then (0, 1, 0) else ft_bot
def ft_lv (f rg : Nat) (v : ft_G) : ft_S := fun c x => if c = 3 ∧ x = f ∧ rg = 1 then v else if c = 5 ∧ x = f then (0, 1, 0) else ft_bot
def ft_sto (a : Nat) (r v : ft_G) : ft_S := fun c x => if c = 2 ∧ r.1 + a ≤ x ∧ x ≤ r.2.1 + a ∧ x < 16 then ft_tt v r.2.2 else ft_bot
def ft_cj (ce : Nat → ft_G) (b : Nat) : Nat → ft_G
  | 0 => ft_bot
  | n + 1 => ft_j (ft_cj ce b n) (ce (b + n))
def ft_ld (a : Nat) (r : ft_G) (ce : Nat → ft_G) : ft_G := if r.1 + a < 16 then ft_tt (ft_cj ce (r.1 + a) (min (r.2.1 + a) 15 + 1 - (r.1 + a))) r.2.2 else ft_bot
noncomputable def ft_val (o a h : Nat) (st vr ce : Nat → ft_G) : ft_G := if o = 11 then ft_pk (st (h - 3)) (st (h - 2)) (st (h - 1)) else if o = 12 then vr a else if o = 14 then st (h - 1) else if o = 15 then ft_ld a (st (h - 1)) ce else if o = 17 then (a, a, 0) else if o = 18 then ft_nt (st (h - 1)) else if o = 27 then (0, 63, 1) else if 19 ≤ o ∧ o ≤ 26 then ft_re o (st (h - 2)) (st (h - 1)) else ft_bot
noncomputable def ft_opr (o a h j lc : Nat) (st vr ce : Nat → ft_G) : ft_S := if ((o = 15 ∨ (19 ≤ o ∧ o ≤ 26)) ∧ (ft_val o a h st vr ce).1 = 64) ∨ (o = 16 ∧ 16 ≤ (st (h - 2)).1 + a) then ft_0 else ft_pass j (h - ck_tk o + ck_gv o) lc (fun i => if i = h - ck_tk o then ft_val o a h st vr ce else st i) (fun i => if (o = 13 ∨ o = 14) ∧ i = a then st (h - 1) else vr i)
def ft_jmp (f rg g b p h lc : Nat) (st vr : Nat → ft_G) : ft_S := if g = 0 then ft_lv f rg (st (h - 1)) else ft_pass (g - 1) (b + p) lc (fun i => if p = 1 ∧ i = b then st (h - 1) else st i) vr
def ft_arg (p h : Nat) (st : Nat → ft_G) : Nat → ft_G := fun i => if i < p then st (h - p + i) else (0, 0, 0)
def ft_bck (p h : Nat) (st : Nat → ft_G) (gi : ft_G) : Nat → ft_G := fun i => if i = h - p then gi else st i
noncomputable def ft_Y (op ar ow pa lo re fs hs gl bk kp : Nat → Nat) (k : Nat) (st vr ce : Nat → ft_G) (gi ed : ft_G) : ft_S :=
  if op k = 0 then ft_0
  else if op k ≤ 2 then ft_pass (k + 1) (hs k) (pa (ow k) + lo (ow k)) st vr
  else if op k = 3 then ft_J (if (st (hs k - 1)).2.1 = 0 then ft_0 else ft_pass (k + 1) (hs k - 1) (pa (ow k) + lo (ow k)) st vr) (if (st (hs k - 1)).1 = 0 then ft_jmp (ow k) (re (ow k)) (gl k) (bk k) (kp k) (hs k - 1) (pa (ow k) + lo (ow k)) st vr else ft_0)
  else if op k = 7 then ft_J (if (st (hs k - 1)).1 = 0 then ft_pass (k + 1) (hs k - 1) (pa (ow k) + lo (ow k)) st vr else ft_0) (if (st (hs k - 1)).2.1 = 0 then ft_0 else ft_jmp (ow k) (re (ow k)) (gl k) (bk k) (kp k) (hs k - 1) (pa (ow k) + lo (ow k)) st vr)
  else if op k ≤ 8 then ft_jmp (ow k) (re (ow k)) (gl k) (bk k) (kp k) (hs k) (pa (ow k) + lo (ow k)) st vr
  else if op k = 9 then ft_J (ft_pass (fs (ar k)) 0 (pa (ar k) + lo (ar k)) st (ft_arg (pa (ar k)) (hs k) st)) (if ed.2.1 = 0 then ft_0 else ft_pass (k + 1) (hs k - pa (ar k) + re (ar k)) (pa (ow k) + lo (ow k)) (ft_bck (pa (ar k)) (hs k) st gi) vr)
  else ft_J (if op k = 16 then ft_sto (ar k) (st (hs k - 2)) (st (hs k - 1)) else ft_0) (ft_opr (op k) (ar k) (hs k) (k + 1) (pa (ow k) + lo (ow k)) st vr ce)
def ft_st (A : ft_S) (k : Nat) : Nat → ft_G := fun i => if i < 10 then A 0 (10 * k + i) else ft_bot
def ft_vr (A : ft_S) (k : Nat) : Nat → ft_G := fun i => if i < 4 then A 1 (4 * k + i) else ft_bot
def ft_ce (o : Nat) (A : ft_S) : Nat → ft_G := fun x => if o = 15 ∧ x < 16 then A 2 x else ft_bot
def ft_gi (o : Nat) (r : ft_G) : ft_G := if o = 9 then r else ft_bot
noncomputable def ft_X (op ar ow pa lo re fs hs gl bk kp : Nat → Nat) (A : ft_S) (k : Nat) : ft_S := ft_Y op ar ow pa lo re fs hs gl bk kp k (ft_st A k) (ft_vr A k) (ft_ce (op k) A) (ft_gi (op k) (A 3 (ar k))) (ft_gi (op k) (A 5 (ar k)))
section FT8
variable {op ar ow pa lo re fs hs gl bk kp : Nat → Nat} {A A' B : ft_S} {k : Nat}
/-- a row that stays -/
def ft_sm (A A' : ft_S) (j : Nat) : Prop := A' 4 j = A 4 j ∧ (∀ i, i < 10 → A' 0 (10 * j + i) = A 0 (10 * j + i)) ∧ (∀ i, i < 4 → A' 1 (4 * j + i) = A 1 (4 * j + i))
theorem ft_X_dep (h : ft_sm A A' k) (h1 : op k = 15 → ∀ x, x < 16 → A' 2 x = A 2 x) (h2 : op k = 9 → A' 3 (ar k) = A 3 (ar k) ∧ A' 5 (ar k) = A 5 (ar k)) : ft_X op ar ow pa lo re fs hs gl bk kp A' k = ft_X op ar ow pa lo re fs hs gl bk kp A k := by
  obtain ⟨-, a1, a2⟩ := h
  have e1 : ft_st A' k = ft_st A k := funext fun i => by
    unfold ft_st
    by_cases z : i < 10
    · rw [if_pos z, if_pos z, a1 i z]
    · rw [if_neg z, if_neg z]
  have e2 : ft_vr A' k = ft_vr A k := funext fun i => by
    unfold ft_vr
    by_cases z : i < 4
    · rw [if_pos z, if_pos z, a2 i z]
    · rw [if_neg z, if_neg z]
  have e3 : ft_ce (op k) A' = ft_ce (op k) A := funext fun x => by
    unfold ft_ce
    by_cases z : op k = 15 ∧ x < 16
    · rw [if_pos z, if_pos z, h1 z.1 x z.2]
    · rw [if_neg z, if_neg z]
  have e4 : ft_gi (op k) (A' 3 (ar k)) = ft_gi (op k) (A 3 (ar k)) := by
    unfold ft_gi
    by_cases z : op k = 9
    · rw [if_pos z, if_pos z, (h2 z).1]
    · rw [if_neg z, if_neg z]
  have e5 : ft_gi (op k) (A' 5 (ar k)) = ft_gi (op k) (A 5 (ar k)) := by
    unfold ft_gi
    by_cases z : op k = 9
    · rw [if_pos z, if_pos z, (h2 z).2]
    · rw [if_neg z, if_neg z]
  unfold ft_X
  rw [e1, e2, e3, e4, e5]
end FT8
/-! more known gives more -/
section FT9
variable {st st' vr vr' ce ce' : Nat → ft_G} {r r' v v' : ft_G}
def ft_U (B : ft_S) : Prop := ∀ c x, (B c x).1 ≤ 64
theorem ft_L0 {B : ft_S} (h : ft_U B) : ft_L ft_0 B := fun c x => ft_bot_le (h c x)
theorem ft_U0 : ft_U ft_0 := fun _ _ => Nat.le_refl 64
theorem ft_U_J {A B : ft_S} (h : ft_U A) : ft_U (ft_J A B) := fun c x => Nat.le_trans (ft_j_l (r := A c x) (s := B c x)).1 (h c x)
theorem ft_pass_U {j h lc : Nat} (h1 : ∀ i, (st i).1 ≤ 64) (h2 : ∀ i, (vr i).1 ≤ 64) : ft_U (ft_pass j h lc st vr) := fun c x => by
  unfold ft_pass
  by_cases z1 : c = 0 ∧ 10 * j ≤ x ∧ x < 10 * j + h
  · rw [if_pos z1]; exact h1 _
  rw [if_neg z1]
  by_cases z2 : c = 1 ∧ 4 * j ≤ x ∧ x < 4 * j + lc
  · rw [if_pos z2]; exact h2 _
  rw [if_neg z2]
  by_cases z3 : c = 4 ∧ x = j
  · rw [if_pos z3]; exact Nat.zero_le _
  · rw [if_neg z3]; exact Nat.le_refl 64
theorem ft_lv_U {f rg : Nat} (h : v.1 ≤ 64) : ft_U (ft_lv f rg v) := fun c x => by
  unfold ft_lv
  by_cases z1 : c = 3 ∧ x = f ∧ rg = 1
  · rw [if_pos z1]; exact h
  rw [if_neg z1]
  by_cases z3 : c = 5 ∧ x = f
  · rw [if_pos z3]; exact Nat.zero_le _
  · rw [if_neg z3]; exact Nat.le_refl 64
theorem ft_pass_mono {j h lc : Nat} (h1 : ∀ i, i < h → ft_le (st i) (st' i)) (h2 : ∀ i, i < lc → ft_le (vr i) (vr' i)) : ft_L (ft_pass j h lc st vr) (ft_pass j h lc st' vr') := fun c x => by
  unfold ft_pass
  by_cases z1 : c = 0 ∧ 10 * j ≤ x ∧ x < 10 * j + h
  · rw [if_pos z1, if_pos z1]; exact h1 _ (by omega)
  rw [if_neg z1, if_neg z1]
  by_cases z2 : c = 1 ∧ 4 * j ≤ x ∧ x < 4 * j + lc
  · rw [if_pos z2, if_pos z2]; exact h2 _ (by omega)
  rw [if_neg z2, if_neg z2]
  exact ft_le.rf
theorem ft_lv_mono {f rg : Nat} (h : rg = 1 → ft_le v v') : ft_L (ft_lv f rg v) (ft_lv f rg v') := fun c x => by
  unfold ft_lv
  by_cases z1 : c = 3 ∧ x = f ∧ rg = 1
  · rw [if_pos z1, if_pos z1]; exact h z1.2.2
  rw [if_neg z1, if_neg z1]
  exact ft_le.rf
theorem ft_tt_mono {t t' : Nat} (h : ft_le r r') (ht : t ≤ t') : ft_le (ft_tt r t) (ft_tt r' t') := by
  unfold ft_le ft_tt at *
  dsimp only
  omega
theorem ft_sto_mono {a : Nat} (h : ft_le r r') (hv : ft_le v v') (hv1 : v'.1 ≤ 64) : ft_L (ft_sto a r v) (ft_sto a r' v') := fun c x => by
  have h' := h
  unfold ft_le at h'
  unfold ft_sto
  by_cases z1 : c = 2 ∧ r.1 + a ≤ x ∧ x ≤ r.2.1 + a ∧ x < 16
  · rw [if_pos z1, if_pos (by omega)]; exact ft_tt_mono hv h'.2.2
  rw [if_neg z1]
  by_cases z2 : c = 2 ∧ r'.1 + a ≤ x ∧ x ≤ r'.2.1 + a ∧ x < 16
  · rw [if_pos z2]; exact ft_bot_le hv1
  · rw [if_neg z2]; exact ft_le.rf
theorem ft_cj_le {b : Nat} {t : ft_G} (ht : t.1 ≤ 64) : ∀ n, (∀ i, i < n → ft_le (ce (b + i)) t) → ft_le (ft_cj ce b n) t := by
  intro n
  induction n with
  | zero => intro _; exact ft_bot_le ht
  | succ n ih => intro h; exact ft_j_le.mpr ⟨ih (fun i hi => h i (by omega)), h n (by omega)⟩
theorem ft_cj_ge {b : Nat} : ∀ n i, i < n → ft_le (ce (b + i)) (ft_cj ce b n) := by
  intro n
  induction n with
  | zero => intro i hi; omega
  | succ n ih =>
    intro i hi
    by_cases z : i = n
    · subst z; exact ft_j_r
    · exact (ih i (by omega)).tr ft_j_l
theorem ft_cj_ok {b : Nat} : ∀ n, 0 < n → (∀ i, i < n → ft_ok (ce (b + i))) → ft_ok (ft_cj ce b n) := by
  intro n
  induction n with
  | zero => intro h; omega
  | succ n ih =>
    intro _ h
    by_cases z : n = 0
    · subst z
      show ft_ok (ft_j ft_bot (ce (b + 0)))
      have := h 0 (by omega)
      rw [ft_bot_j (ft_v_le (Or.inr this)).1]; exact this
    · exact ft_j_ok (ih (by omega) (fun i hi => h i (by omega))) (h n (by omega))
theorem ft_ld_ok {a : Nat} (hr : ft_ok r) (hc : ∀ x, x < 16 → ft_ok (ce x)) (h : r.1 + a < 16) : ft_ok (ft_ld a r ce) := by
  unfold ft_ld
  rw [if_pos h]
  have hr' := hr
  unfold ft_ok at hr'
  exact ft_tt_ok (ft_cj_ok _ (by omega) (fun i hi => hc _ (by omega))) (by omega)
theorem ft_ld_mono {a : Nat} (hr : ft_ok r) (hr2 : ft_ok r') (h : ft_le r r') (hc : ∀ x, x < 16 → ft_le (ce x) (ce' x)) (hc2 : ∀ x, x < 16 → ft_ok (ce' x)) : ft_le (ft_ld a r ce) (ft_ld a r' ce') := by
  have h' := h
  have hr' := hr
  unfold ft_ok at hr'
  unfold ft_le at h'
  by_cases z : r.1 + a < 16
  · have ok := ft_ld_ok hr2 hc2 (show r'.1 + a < 16 by omega)
    unfold ft_ld at ok ⊢
    rw [if_pos (show r'.1 + a < 16 by omega)] at ok
    rw [if_pos z, if_pos (show r'.1 + a < 16 by omega)]
    refine ft_tt_mono (ft_cj_le (t := ft_cj ce' (r'.1 + a) (min (r'.2.1 + a) 15 + 1 - (r'.1 + a))) (ft_v_le (Or.inr ok)).1 _ (fun i hi => ?_)) h'.2.2
    have q := ft_cj_ge (ce := ce') (b := r'.1 + a) (min (r'.2.1 + a) 15 + 1 - (r'.1 + a)) (r.1 + a + i - (r'.1 + a)) (by omega)
    rw [show r'.1 + a + (r.1 + a + i - (r'.1 + a)) = r.1 + a + i by omega] at q
    exact (hc _ (by omega)).tr q
  · have e : ft_ld a r ce = ft_bot := if_neg z
    rw [e]
    by_cases z2 : r'.1 + a < 16
    · exact ft_bot_le (ft_v_le (Or.inr (ft_ld_ok hr2 hc2 z2))).1
    · have e : ft_ld a r' ce' = ft_bot := if_neg z2
      rw [e]; exact ft_le.rf
theorem ft_nt_mono (hr : ft_ok r) (h : ft_le r r') : ft_le (ft_nt r) (ft_nt r') := by
  unfold ft_ok at hr
  unfold ft_le ft_nt at *
  dsimp only
  refine ⟨?_, ?_, h.2.2⟩
  · by_cases z : r.2.1 = 0
    · rw [if_pos z]
      by_cases z2 : r'.2.1 = 0
      · rw [if_pos z2]; omega
      · rw [if_neg z2]; omega
    · rw [if_neg z, if_neg (by omega)]; omega
  · by_cases z : r.1 = 0
    · rw [if_pos z, if_pos (by omega)]; omega
    · rw [if_neg z]; omega
theorem ft_pk_mono {a b c a' b' c' : ft_G} (hc : ft_ok c) (h1 : ft_le a a') (h2 : ft_le b b') (h3 : ft_le c c') : ft_le (ft_pk a b c) (ft_pk a' b' c') := by
  unfold ft_ok at hc
  have h3' := h3
  unfold ft_le at h3'
  refine ft_tt_mono ?_ h3'.2.2
  by_cases z1 : c.2.1 = 0
  · rw [if_pos z1]
    by_cases z2 : c'.2.1 = 0
    · rw [if_pos z2]; exact h2
    · rw [if_neg z2, if_pos (by omega)]; exact h2.tr ft_j_r
  · rw [if_neg z1, if_neg (show ¬ c'.2.1 = 0 by omega)]
    by_cases z2 : c.1 = 0
    · rw [if_pos z2, if_pos (show c'.1 = 0 by omega)]; exact ft_j_le.mpr ⟨h1.tr ft_j_l, h2.tr ft_j_r⟩
    · rw [if_neg z2]
      by_cases z3 : c'.1 = 0
      · rw [if_pos z3]; exact h1.tr ft_j_l
      · rw [if_neg z3]; exact h1
theorem ft_re_v {o : Nat} (h1 : 19 ≤ o) (h2 : o ≤ 26) (hr : ft_ok r) (hs : ft_ok v) : ft_v (ft_re o r v) := by
  obtain ⟨q, -, h⟩ := ft_reck h1 h2 hr hs
  rcases h with ⟨-, e, -⟩ | ⟨a1, -, e, -⟩
  · rw [e]; exact Or.inl rfl
  · rw [e]
    unfold ft_ok at a1 hr hs
    exact Or.inr (by unfold ft_ok; dsimp only; omega)
theorem ft_re_mono {o : Nat} (h1 : 19 ≤ o) (h2 : o ≤ 26) (hr : ft_ok r) (hs : ft_ok v) (hr' : ft_ok r') (hs' : ft_ok v') (hl : ft_le r r') (hv : ft_le v v') : ft_le (ft_re o r v) (ft_re o r' v') := by
  have vv := ft_re_v h1 h2 hr' hs'
  obtain ⟨q, -, h⟩ := ft_reck h1 h2 hr hs
  obtain ⟨q', -, h'⟩ := ft_reck h1 h2 hr' hs'
  rcases h with ⟨-, e, -⟩ | ⟨-, -, e, H⟩
  · rw [e]; exact ft_bot_le (ft_v_le vv).1
  · have up : ∀ w, ht_I (ft_n o) (ft_f o) r.1 r.2.1 v.1 v.2.1 w → ht_I (ft_n o) (ft_f o) r'.1 r'.2.1 v'.1 v'.2.1 w := ht_I_mono hl.1 hl.2.1 hv.1 hv.2.1
    rcases h' with ⟨-, -, no⟩ | ⟨-, -, e', H'⟩
    · exact absurd (up _ H.1) (no _)
    · obtain ⟨x1, x2⟩ := ht_H_mono H H' up
      rw [e, e']
      refine ⟨x1, x2, ?_⟩
      have := hl.2.2
      have := hv.2.2
      show max r.2.2 v.2.2 ≤ max r'.2.2 v'.2.2
      omega
end FT9
