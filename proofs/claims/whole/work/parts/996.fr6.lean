/-! foretelling, the reference: ranges being gathered; pairs; picks -/
def fr_g (r : ft_G) (τ : rt_St) : Prop := (r.1 = 64 ∧ r.2.1 = 0 ∧ τ 0 66 = 64 ∧ τ 0 67 = -1) ∨ (r.1 ≤ r.2.1 ∧ r.2.1 < 64 ∧ τ 0 66 = nI r.1 ∧ τ 0 67 = nI r.2.1)
def fr_sp (S : Nat → Prop) (r : ft_G) : Prop := (r.1 = 64 ∧ r.2.1 = 0 ∧ ∀ v, ¬ S v) ∨ ht_H S r.1 r.2.1
section FRE
variable {r s g : ft_G} {τ u : rt_St} {a b o x y : Nat}
theorem fr_jn (H : fr_g r τ) (hab : a ≤ b) (hb : b < 64) : ∃ u, M_R_RangeTellerModel_join τ (nI a) (nI b) = some u ∧ fr_g (ft_j r (a, b, 0)) u ∧ ∀ c z, ¬ (c = 0 ∧ (z = 66 ∨ z = 67)) → u c z = τ c z := by
  have far : ∀ (v w : Int32) c z, ¬ (c = 0 ∧ (z = 66 ∨ z = 67)) → (rt_up (rt_up τ 0 66 v) 0 67 w) c z = τ c z := fun v w c z q => by
    rw [rq_if, if_neg (by omega), rq_if, if_neg (by omega)]
  unfold M_R_RangeTellerModel_join B_R_RangeTellerModel_join_17
  rcases H with ⟨h1, h2, h3, h4⟩ | ⟨h1, h2, h3, h4⟩
  · have e67 : (rt_up τ 0 66 (nI a)) 0 67 = -1 := by rw [rq_k (by decide)]; exact h4
    refine ⟨rt_up (rt_up τ 0 66 (nI a)) 0 67 (nI b), ?_, Or.inr ⟨?_, ?_, ?_, ?_⟩, far _ _⟩
    · rw [h3, if_neg (show ¬ (64 : Int32) ≤ nI a from nI_ge (b := 64) (by omega) (by decide)), rq_put, rq_b, e67, if_neg (show ¬ nI b ≤ -1 from fun e => absurd (Int32.le_iff_toInt_le.mp e) (by rw [nI_toInt (by omega)]; show ¬ (b : Int) ≤ -1; omega)), rq_put, rq_b]
    · show min r.1 a ≤ max r.2.1 b; omega
    · show max r.2.1 b < 64; omega
    · rw [rq_k (by decide), rq_s]; show nI a = nI (min r.1 a); rw [show min r.1 a = a by omega]
    · rw [rq_s]; show nI b = nI (max r.2.1 b); rw [show max r.2.1 b = b by omega]
  · have fin : ∀ t : Nat, t = min r.1 a → ∃ u, ((rt_put τ 0 66 (nI t)).bind fun σ1 => if nI b ≤ (σ1 0 67) then (rt_put σ1 0 67 (σ1 0 67)).bind fun σ2 => some σ2 else (rt_put σ1 0 67 (nI b)).bind fun σ3 => some σ3) = some u ∧ fr_g (ft_j r (a, b, 0)) u ∧ ∀ c z, ¬ (c = 0 ∧ (z = 66 ∨ z = 67)) → u c z = τ c z := fun t ht => by
      have e67 : (rt_up τ 0 66 (nI t)) 0 67 = nI r.2.1 := by rw [rq_k (by decide)]; exact h4
      rw [rq_put, rq_b, e67]
      refine ⟨rt_up (rt_up τ 0 66 (nI t)) 0 67 (nI (max r.2.1 b)), ?_, Or.inr ⟨?_, ?_, ?_, ?_⟩, far _ _⟩
      · by_cases z : b ≤ r.2.1
        · rw [if_pos (nI_le z (by omega)), Nat.max_eq_left z]; rfl
        · rw [if_neg (nI_ge (by omega) (by omega)), Nat.max_eq_right (by omega)]; rfl
      · show min r.1 a ≤ max r.2.1 b; omega
      · show max r.2.1 b < 64; omega
      · rw [rq_k (by decide), rq_s]; show nI t = nI (min r.1 a); rw [ht]
      · rw [rq_s]; rfl
    by_cases z : r.1 ≤ a
    · rw [h3, if_pos (nI_le z (by omega))]; exact fin r.1 (Nat.min_eq_left z).symm
    · rw [h3, if_neg (nI_ge (by omega) (by omega))]; exact fin a (Nat.min_eq_right (by omega)).symm
theorem fr_spj {S U : Nat → Prop} {v : Nat} (H : fr_sp S r) (hv : v < 64) (hU : ∀ w, U w ↔ S w ∨ w = v) : fr_sp U (ft_j r (v, v, 0)) := by
  rcases H with ⟨h1, h2, h3⟩ | ⟨h1, h2, h3⟩
  · right
    have e1 : (ft_j r (v, v, 0)).1 = v := by show min r.1 v = v; omega
    have e2 : (ft_j r (v, v, 0)).2.1 = v := by show max r.2.1 v = v; omega
    rw [e1, e2]
    refine ⟨(hU v).mpr (Or.inr rfl), (hU v).mpr (Or.inr rfl), fun w hw => ?_⟩
    rcases (hU w).mp hw with q | q
    · exact absurd q (h3 w)
    · omega
  · right
    have e1 : (ft_j r (v, v, 0)).1 = min r.1 v := rfl
    have e2 : (ft_j r (v, v, 0)).2.1 = max r.2.1 v := rfl
    rw [e1, e2]
    refine ⟨?_, ?_, fun w hw => ?_⟩
    · by_cases z : r.1 ≤ v
      · rw [Nat.min_eq_left z]; exact (hU _).mpr (Or.inl h1)
      · rw [Nat.min_eq_right (by omega)]; exact (hU _).mpr (Or.inr rfl)
    · by_cases z : r.2.1 ≤ v
      · rw [Nat.max_eq_right z]; exact (hU _).mpr (Or.inr rfl)
      · rw [Nat.max_eq_left (by omega)]; exact (hU _).mpr (Or.inl h2)
    · rcases (hU w).mp hw with q | q
      · have := h3 w q; omega
      · omega
theorem fr_sp.cg {S U : Nat → Prop} (H : fr_sp S r) (hU : ∀ w, U w ↔ S w) : fr_sp U r := by
  have e : U = S := funext fun w => propext (hU w)
  rw [e]; exact H
theorem fr_opv (h1 : 19 ≤ o) (h2 : o ≤ 26) (hx : x < 64) (hy : y < 64) (hz : o = 24 ∨ o = 25 → 0 < y) : M_R_RangeTellerModel_operate (nI o) (nI x) (nI y) = some (nI (ft_f o x y)) := by
  have an : ∀ z, z < 100000 → nI z &&& 63 = nI (z % 64) := fun z hz => pk_andN (by omega) 6 (by decide)
  have mul : x * y ≤ 63 * 63 := Nat.mul_le_mul (by omega) (by omega)
  unfold M_R_RangeTellerModel_operate
  rcases (show o = 19 ∨ o = 20 ∨ o = 21 ∨ o = 22 ∨ o = 23 ∨ o = 24 ∨ o = 25 ∨ o = 26 by omega) with rfl | rfl | rfl | rfl | rfl | rfl | rfl | rfl
  · rw [if_pos (show nI 19 = 19 from rfl)]
    show _ = some (nI (if x = y then 1 else 0))
    by_cases z : x = y
    · rw [if_pos (by rw [z]), if_pos z]; rfl
    · rw [if_neg (fun e => z ((nI_eq (by omega) (by omega)).mp e)), if_neg z]; rfl
  · rw [if_neg (by decide), if_pos (show nI 20 = 20 from rfl)]
    show _ = some (nI (if x < y then 1 else 0))
    by_cases z : x < y
    · rw [if_neg (nI_ge z (by omega)), if_pos z]; rfl
    · rw [if_pos (nI_le (by omega) (by omega)), if_neg z]; rfl
  · rw [if_neg (by decide), if_neg (by decide), if_pos (show nI 21 = 21 from rfl), nI_add, an _ (by omega)]; rfl
  · rw [if_neg (by decide), if_neg (by decide), if_neg (by decide), if_pos (show nI 22 = 22 from rfl), (rn_minus x hx y hy).1]; rfl
  · rw [if_neg (by decide), if_neg (by decide), if_neg (by decide), if_neg (by decide), if_pos (show nI 23 = 23 from rfl), pk_mul, an _ (by omega)]; rfl
  · rw [if_neg (by decide), if_neg (by decide), if_neg (by decide), if_neg (by decide), if_neg (by decide), if_pos (show nI 24 = 24 from rfl), ft_div (by omega) (hz (Or.inl rfl)) (by omega)]; rfl
  · rw [if_neg (by decide), if_neg (by decide), if_neg (by decide), if_neg (by decide), if_neg (by decide), if_neg (by decide), if_pos (show nI 25 = 25 from rfl), ft_rem (by omega) (hz (Or.inr rfl)) (by omega)]; rfl
  · rw [if_neg (by decide), if_neg (by decide), if_neg (by decide), if_neg (by decide), if_neg (by decide), if_neg (by decide), if_neg (by decide), ft_and x hx y hy]; rfl
theorem fr_in {i1 i2 : Nat} (hs : ft_ok s) (h1 : 19 ≤ o) (h2 : o ≤ 26) (hx : x < 64) (hq : i2 < 12) (K : Int32 → Int32 → Int32 → Int32 → rt_St → Option rt_St) : ∀ (e y m : Nat) (τ : rt_St) (r : ft_G) (S : Nat → Prop), y + e = s.2.1 + 1 → e + 1 ≤ m → τ 42 i2 = nI s.2.1 → fr_g r τ → fr_sp S r → ∃ u r', B_R_RangeTellerModel_pairs_68 K m (nI o) (nI i1) (nI i2) (nI x) (nI y) τ = K (nI o) (nI i1) (nI i2) (nI (x + 1)) u ∧ fr_g r' u ∧ fr_sp (fun v => S v ∨ ∃ z, y ≤ z ∧ z ≤ s.2.1 ∧ ft_n o z ∧ ft_f o x z = v) r' ∧ ∀ c z, ¬ (c = 0 ∧ (z = 66 ∨ z = 67)) → u c z = τ c z := by
  have hs' := hs
  unfold ft_ok at hs'
  intro e
  induction e with
  | zero =>
    intro y m τ r S hy hm h42 hg hS
    obtain ⟨m, rfl⟩ : ∃ q, m = q + 1 := ⟨m - 1, by omega⟩
    refine ⟨τ, r, ?_, hg, hS.cg (fun w => ⟨fun h => ?_, Or.inl⟩), fun _ _ _ => rfl⟩
    · rw [B_R_RangeTellerModel_pairs_68, rq_rd (n := 12) rfl hq (by decide), rq_b, h42, if_pos (nI_lt (by omega) (by omega)), nI_1]
    · rcases h with h | ⟨z, z1, z2, -⟩
      · exact h
      · omega
  | succ e ih =>
    intro y m τ r S hy hm h42 hg hS
    obtain ⟨m, rfl⟩ : ∃ q, m = q + 1 := ⟨m - 1, by omega⟩
    by_cases sk : (o = 24 ∨ o = 25) ∧ y = 0
    · obtain ⟨u, r', a1, a2, a3, a4⟩ := ih (y + 1) m τ r S (by omega) (by omega) h42 hg hS
      refine ⟨u, r', ?_, a2, a3.cg (fun w => ⟨fun h => ?_, fun h => ?_⟩), a4⟩
      · have go : B_R_RangeTellerModel_pairs_117 K (B_R_RangeTellerModel_pairs_68 K m) (nI o) (nI i1) (nI i2) (nI x) (nI y) τ = K (nI o) (nI i1) (nI i2) (nI (x + 1)) u := by
          unfold B_R_RangeTellerModel_pairs_117
          rw [nI_1]; exact a1
        rw [B_R_RangeTellerModel_pairs_68, rq_rd (n := 12) rfl hq (by decide), rq_b, h42, if_neg (nI_nlt (by omega) (by omega)), if_pos (show nI y = 0 by rw [sk.2]; rfl), go]
        rcases sk.1 with w | w
        · rw [if_pos (show nI o = 24 by rw [w]; rfl)]
        · rw [if_neg (show ¬ nI o = 24 by rw [w]; decide), if_pos (show nI o = 25 by rw [w]; rfl)]
      · rcases h with h | ⟨z, z1, z2, z3, z4⟩
        · exact Or.inl h
        · by_cases w : z = y
          · subst w
            have en : ft_n o = ht_N := if_pos sk.1
            rw [en] at z3
            have : 0 < z := z3
            omega
          · exact Or.inr ⟨z, by omega, z2, z3, z4⟩
      · rcases h with h | ⟨z, z1, z2, z3, z4⟩
        · exact Or.inl h
        · exact Or.inr ⟨z, by omega, z2, z3, z4⟩
    · have ok : ft_n o y := by
        by_cases w : o = 24 ∨ o = 25
        · have en : ft_n o = ht_N := if_pos w
          rw [en]
          show 0 < y
          have : y ≠ 0 := fun e => sk ⟨w, e⟩
          omega
        · have en : ft_n o = ht_T := if_neg w
          rw [en]; trivial
      have fv := ft_f_lt (o := o) hx (show y < 64 by omega)
      obtain ⟨u1, b1, b2, b3⟩ := fr_jn (a := ft_f o x y) (b := ft_f o x y) hg (Nat.le_refl _) fv
      obtain ⟨u, r', a1, a2, a3, a4⟩ := ih (y + 1) m u1 _ (fun w => S w ∨ w = ft_f o x y) (by omega) (by omega) (by rw [b3 42 i2 (by omega)]; exact h42) b2 (fr_spj hS fv (fun w => Iff.rfl))
      refine ⟨u, r', ?_, a2, a3.cg (fun w => ⟨fun h => ?_, fun h => ?_⟩), fun c z q => by rw [a4 c z q, b3 c z q]⟩
      · have go : B_R_RangeTellerModel_pairs_99 K (B_R_RangeTellerModel_pairs_68 K m) (nI o) (nI i1) (nI i2) (nI x) (nI y) τ = K (nI o) (nI i1) (nI i2) (nI (x + 1)) u := by
          unfold B_R_RangeTellerModel_pairs_99 B_R_RangeTellerModel_pairs_117
          rw [fr_opv h1 h2 hx (by omega) (fun w => by
            have : y ≠ 0 := fun e => sk ⟨w, e⟩
            omega), rq_b, b1, rq_b, nI_1]; exact a1
        rw [B_R_RangeTellerModel_pairs_68, rq_rd (n := 12) rfl hq (by decide), rq_b, h42, if_neg (nI_nlt (by omega) (by omega)), go]
        by_cases w : y = 0
        · have no : ¬ (o = 24 ∨ o = 25) := fun q => sk ⟨q, w⟩
          rw [if_pos (show nI y = 0 by rw [w]; rfl), if_neg (show ¬ nI o = 24 from fun e => no (Or.inl ((nI_eq (b := 24) (by omega) (by decide)).mp e))), if_neg (show ¬ nI o = 25 from fun e => no (Or.inr ((nI_eq (b := 25) (by omega) (by decide)).mp e)))]
        · rw [if_neg (nI_ne0 (by omega) (by omega))]
      · rcases h with h | ⟨z, z1, z2, z3, z4⟩
        · exact Or.inl (Or.inl h)
        · by_cases q : z = y
          · subst q; exact Or.inl (Or.inr z4.symm)
          · exact Or.inr ⟨z, by omega, z2, z3, z4⟩
      · rcases h with (h | h) | ⟨z, z1, z2, z3, z4⟩
        · exact Or.inl h
        · exact Or.inr ⟨y, Nat.le_refl _, by omega, ok, h.symm⟩
        · exact Or.inr ⟨z, by omega, z2, z3, z4⟩
theorem fr_out {i1 i2 : Nat} (hp : ft_ok g) (hs : ft_ok s) (h1 : 19 ≤ o) (h2 : o ≤ 26) (hi1 : i1 < 12) (hi2 : i2 < 12) : ∀ (e x m : Nat) (τ : rt_St) (r : ft_G) (S : Nat → Prop), x + e = g.2.1 + 1 → e + 1 ≤ m → τ 42 i1 = nI g.2.1 → τ 41 i2 = nI s.1 → τ 42 i2 = nI s.2.1 → fr_g r τ → fr_sp S r → ∃ u r', B_R_RangeTellerModel_pairs_49 m (nI o) (nI i1) (nI i2) (nI x) τ = some u ∧ fr_g r' u ∧ fr_sp (fun v => S v ∨ ∃ w z, x ≤ w ∧ w ≤ g.2.1 ∧ s.1 ≤ z ∧ z ≤ s.2.1 ∧ ft_n o z ∧ ft_f o w z = v) r' ∧ ∀ c z, ¬ (c = 0 ∧ (z = 66 ∨ z = 67)) → u c z = τ c z := by
  have hp' := hp
  have hs' := hs
  unfold ft_ok at hp' hs'
  intro e
  induction e with
  | zero =>
    intro x m τ r S hx hm h42 h41 h42' hg hS
    obtain ⟨m, rfl⟩ : ∃ q, m = q + 1 := ⟨m - 1, by omega⟩
    refine ⟨τ, r, ?_, hg, hS.cg (fun v => ⟨fun h => ?_, Or.inl⟩), fun _ _ _ => rfl⟩
    · rw [B_R_RangeTellerModel_pairs_49, rq_rd (n := 12) rfl hi1 (by decide), rq_b, h42, if_pos (nI_lt (by omega) (by omega))]
    · rcases h with h | ⟨w, z, w1, w2, -⟩
      · exact h
      · omega
  | succ e ih =>
    intro x m τ r S hx hm h42 h41 h42' hg hS
    obtain ⟨m, rfl⟩ : ∃ q, m = q + 1 := ⟨m - 1, by omega⟩
    obtain ⟨u1, r1, b1, b2, b3, b4⟩ := fr_in (i1 := i1) (i2 := i2) (x := x) hs h1 h2 (by omega) hi2 (B_R_RangeTellerModel_pairs_49 m) (s.2.1 + 1 - s.1) s.1 FU τ r S (by omega) (by show s.2.1 + 1 - s.1 + 1 ≤ 2000000; omega) h42' hg hS
    obtain ⟨u, r', a1, a2, a3, a4⟩ := ih (x + 1) m u1 r1 _ (by omega) (by omega) (by rw [b4 42 i1 (by omega)]; exact h42) (by rw [b4 41 i2 (by omega)]; exact h41) (by rw [b4 42 i2 (by omega)]; exact h42') b2 b3
    refine ⟨u, r', ?_, a2, a3.cg (fun v => ⟨fun h => ?_, fun h => ?_⟩), fun c z q => by rw [a4 c z q, b4 c z q]⟩
    · rw [B_R_RangeTellerModel_pairs_49, rq_rd (n := 12) rfl hi1 (by decide), rq_b, h42, if_neg (nI_nlt (by omega) (by omega)), rq_rd (n := 12) rfl hi2 (by decide), rq_b, h41]
      exact b1.trans a1
    · rcases h with h | ⟨w, z, w1, w2, w3⟩
      · exact Or.inl (Or.inl h)
      · by_cases q : w = x
        · subst q; exact Or.inl (Or.inr ⟨z, w3⟩)
        · exact Or.inr ⟨w, z, by omega, w2, w3⟩
    · rcases h with (h | ⟨z, w3⟩) | ⟨w, z, w1, w2, w3⟩
      · exact Or.inl h
      · exact Or.inr ⟨x, z, Nat.le_refl _, by omega, w3⟩
      · exact Or.inr ⟨w, z, by omega, w2, w3⟩
theorem fr_no {t : Nat} (ht : t ≤ 1) : M_R_RangeTellerModel_nothing τ (nI t) = some (rt_up (rt_up (rt_up τ 0 66 64) 0 67 (-1)) 0 68 (nI t)) ∧ fr_g ft_bot (rt_up (rt_up (rt_up τ 0 66 64) 0 67 (-1)) 0 68 (nI t)) := by
  refine ⟨?_, Or.inl ⟨rfl, rfl, by rw [rq_k (by decide), rq_k (by decide), rq_s], by rw [rq_k (by decide), rq_s]⟩⟩
  unfold M_R_RangeTellerModel_nothing
  rcases (show t = 0 ∨ t = 1 by omega) with rfl | rfl
  · rfl
  · rfl
/-- all pairs of two ranges -/
theorem fr_pairs {m : Nat} {st vr : Nat → ft_G} (K : fr_K (m + 1 + 1) st vr τ) (hm : m + 1 < 10) (h1 : 19 ≤ o) (h2 : o ≤ 26) (hp : ft_ok (st m)) (hs : ft_ok (st (m + 1))) : ∃ u, M_R_RangeTellerModel_pairs τ (nI o) = some u ∧ (∀ c z, ¬ (c = 0 ∧ (z = 66 ∨ z = 67 ∨ z = 68)) → u c z = τ c z) ∧ u 0 68 = nI (max (st m).2.2 (st (m + 1)).2.2) ∧ fr_g (ft_re o (st m) (st (m + 1))) u ∧ (ft_re o (st m) (st (m + 1)) = ft_bot ∨ ft_ok (ft_re o (st m) (st (m + 1)))) ∧ (ft_re o (st m) (st (m + 1)) ≠ ft_bot → (ft_re o (st m) (st (m + 1))).2.2 = max (st m).2.2 (st (m + 1)).2.2) := by
  obtain ⟨k1, k2, k3⟩ := K
  obtain ⟨p1, p2, p3⟩ := k2 m (by omega)
  obtain ⟨q1, q2, q3⟩ := k2 (m + 1) (by omega)
  have hp' := hp
  have hs' := hs
  unfold ft_ok at hp' hs'
  have t1 : max (st m).2.2 (st (m + 1)).2.2 ≤ 1 := by omega
  obtain ⟨n1, n2⟩ := fr_no (τ := τ) t1
  obtain ⟨τ1, hτ1⟩ : ∃ w, w = rt_up (rt_up (rt_up τ 0 66 64) 0 67 (-1)) 0 68 (nI (max (st m).2.2 (st (m + 1)).2.2)) := ⟨_, rfl⟩
  rw [← hτ1] at n1 n2
  have f1 : ∀ c z, ¬ (c = 0 ∧ (z = 66 ∨ z = 67 ∨ z = 68)) → τ1 c z = τ c z := fun c z q => by rw [hτ1, rq_if, if_neg (by omega), rq_if, if_neg (by omega), rq_if, if_neg (by omega)]
  obtain ⟨u, r', a1, a2, a3, a4⟩ := fr_out (o := o) (i1 := m) (i2 := m + 1) hp hs h1 h2 (by omega) (by omega) ((st m).2.1 + 1 - (st m).1) (st m).1 FU τ1 ft_bot (fun _ => False) (by omega) (by show (st m).2.1 + 1 - (st m).1 + 1 ≤ 2000000; omega) (by rw [f1 42 m (by omega)]; exact p2) (by rw [f1 41 _ (by omega)]; exact q1) (by rw [f1 42 _ (by omega)]; exact q2) n2 (Or.inl ⟨rfl, rfl, fun _ h => h⟩)
  have spI : fr_sp (ht_I (ft_n o) (ft_f o) (st m).1 (st m).2.1 (st (m + 1)).1 (st (m + 1)).2.1) r' := a3.cg (fun v => ⟨fun ⟨w, z, w1, w2, w3, w4, w5, w6⟩ => Or.inr ⟨w, z, w1, w2, w3, w4, w5, w6⟩, fun h => h.elim (fun h => h.elim) (fun ⟨w, z, w1, w2, w3, w4, w5, w6⟩ => ⟨w, z, w1, w2, w3, w4, w5, w6⟩)⟩)
  have rr : (r'.1 = 64 ∧ r'.2.1 = 0 ∧ ft_re o (st m) (st (m + 1)) = ft_bot) ∨ (ft_re o (st m) (st (m + 1)) = (r'.1, r'.2.1, max (st m).2.2 (st (m + 1)).2.2) ∧ r'.1 ≤ r'.2.1 ∧ r'.2.1 < 64) := by
    rcases spI with ⟨w1, w2, w3⟩ | w
    · exact Or.inl ⟨w1, w2, ft_re_no w3⟩
    · have l := ft_Hu.lt (o := o) hp hs w
      exact Or.inr ⟨ft_re_of w, l.1, l.2⟩
  refine ⟨u, ?_, fun c z q => by rw [a4 c z (by omega), f1 c z q], ?_, ?_, ?_, fun ne => ?_⟩
  · have i2' : τ 0 59 - 2 = nI m := by
      rw [k1, show (2 : Int32) = nI 2 from rfl, pk_sub (by omega), show m + 1 + 1 - 2 = m by omega]
    have i1' : τ 0 59 - 1 = nI (m + 1) := by rw [k1, nI_pred]
    have p41 : τ1 41 m = nI (st m).1 := by rw [f1 41 m (by omega)]; exact p1
    have e38 : ∀ t : Nat, t = max (st m).2.2 (st (m + 1)).2.2 → B_R_RangeTellerModel_pairs_38 (nI o) (nI m) (nI (m + 1)) (nI t) τ = some u := fun t ht => by
      unfold B_R_RangeTellerModel_pairs_38
      rw [ht, n1, rq_b, rq_rd (n := 12) rfl (by omega) (by decide), rq_b, p41]
      exact a1
    unfold M_R_RangeTellerModel_pairs B_R_RangeTellerModel_pairs_33
    rw [i2', i1', rq_rd (n := 12) rfl (by omega) (by decide), rq_b, p3]
    by_cases z : (st m).2.2 = 0
    · rw [if_pos (show nI (st m).2.2 = 0 by rw [z]; rfl), rq_rd (n := 12) rfl (by omega) (by decide), rq_b, q3]
      by_cases y : (st (m + 1)).2.2 = 0
      · rw [if_pos (show nI (st (m + 1)).2.2 = 0 by rw [y]; rfl)]; exact e38 0 (by omega)
      · rw [if_neg (nI_ne0 (by omega) (by omega))]; exact e38 1 (by omega)
    · rw [if_neg (nI_ne0 (by omega) (by omega))]; exact e38 1 (by omega)
  · rw [a4 0 68 (by omega), hτ1, rq_s]
  · rcases rr with ⟨w1, w2, w3⟩ | ⟨w1, w2, w3⟩
    · rw [w3]
      rcases a2 with b | b
      · exact Or.inl ⟨rfl, rfl, b.2.2.1, b.2.2.2⟩
      · omega
    · rw [w1]
      rcases a2 with b | b
      · omega
      · exact Or.inr ⟨w2, w3, b.2.2.1, b.2.2.2⟩
  · rcases rr with ⟨-, -, w3⟩ | ⟨w1, w2, w3⟩
    · exact Or.inl w3
    · rw [w1]; exact Or.inr (by unfold ft_ok; dsimp only; omega)
  · rcases rr with ⟨-, -, w3⟩ | ⟨w1, -, -⟩
    · exact absurd w3 ne
    · rw [w1]
end FRE
