/-! foretelling, the class: its picture; arriving at an instruction -/
def fc_A (c _j : Nat) : Prop := ¬ (29 ≤ c ∧ c ≤ 40)
def fc_M (N F : Nat) (op ar ow pa lo re fs gl bk kp : Nat → Nat) (L : Nat → Prop) (σ : rt_St) : Prop := (∀ k, k < N → σ 2 k = nI (op k) ∧ σ 3 k = nI (ar k) ∧ σ 4 k = nI (ow k)) ∧ (∀ g, g < F → σ 10 g = nI (fs g) ∧ σ 11 g = nI (pa g) ∧ σ 12 g = nI (lo g) ∧ σ 13 g = nI (re g)) ∧ σ 1 12 = nI N ∧ ∀ k, k < N → L k → 3 ≤ op k → op k ≤ 8 → σ 7 k = ck_o (-1) (gl k) ∧ σ 8 k = nI (bk k) ∧ σ 9 k = nI (kp k)
def fc_P (N F : Nat) (pa fs hs : Nat → Nat) (A Z : ft_S) (P : Nat → ft_G) (σ : rt_St) : Prop := (∀ x, x < 1000 → σ 36 x = ft_c (A 0 x)) ∧ (∀ x, x < 400 → σ 37 x = ft_c (A 1 x)) ∧ (∀ x, x < 16 → σ 32 x = ft_c (A 2 x)) ∧ (∀ f, f < 3 → σ 33 f = ft_c (A 3 f) ∧ σ 34 f = nI (A 5 f).2.1) ∧ (∀ k, k < 100 → σ 30 k = nI (A 4 k).2.1) ∧ (∀ k, k < N → (A 4 k).2.1 = 1 → σ 31 k = nI (hs k)) ∧ (∀ k, k < 100 → σ 35 k = 0 ∨ (σ 35 k = 1 ∧ (A 4 k).2.1 = 1)) ∧ (∀ x, x < 6 → σ 38 x = ft_c (P x) ∧ ft_v (P x)) ∧ (∀ g i, g < F → i < pa g → ft_le (P (2 * g + i)) (Z 1 (4 * fs g + i)))
def fc_K (h : Nat) (st vr : Nat → ft_G) (σ : rt_St) : Prop := σ 29 12 = nI h ∧ (∀ i, i < h → σ 39 i = ft_c (st i)) ∧ (∀ i, i < 4 → σ 40 i = ft_c (vr i))
def fc_W (σ : rt_St) (j : Nat) : Prop := σ 35 j = 1
section FCA
variable {N F j h : Nat} {op ar ow pa lo re fs hs gl bk kp : Nat → Nat} {L : Nat → Prop} {A Z : ft_S} {P st vr : Nat → ft_G} {σ u : rt_St}
theorem fc_M.keep (H : fc_M N F op ar ow pa lo re fs gl bk kp L σ) (hu : rq_A fc_A σ u) : fc_M N F op ar ow pa lo re fs gl bk kp L u := by
  obtain ⟨a1, a2, a3, a4⟩ := H
  refine ⟨fun k hk => ?_, fun g hg => ?_, ?_, fun k hk hl h1 h2 => ?_⟩
  · rw [hu 2 k (by unfold fc_A; omega), hu 3 k (by unfold fc_A; omega), hu 4 k (by unfold fc_A; omega)]; exact a1 k hk
  · rw [hu 10 g (by unfold fc_A; omega), hu 11 g (by unfold fc_A; omega), hu 12 g (by unfold fc_A; omega), hu 13 g (by unfold fc_A; omega)]; exact a2 g hg
  · rw [hu 1 12 (by unfold fc_A; omega)]; exact a3
  · rw [hu 7 k (by unfold fc_A; omega), hu 8 k (by unfold fc_A; omega), hu 9 k (by unfold fc_A; omega)]; exact a4 k hk hl h1 h2
/-- a picture stays where only the working places change -/
theorem fc_P.keep (H : fc_P N F pa fs hs A Z P σ) (hu : ∀ c j, 30 ≤ c → c ≤ 38 → u c j = σ c j) : fc_P N F pa fs hs A Z P u := by
  obtain ⟨a1, a2, a3, a4, a5, a6, a7, a8, a9⟩ := H
  refine ⟨fun x hx => ?_, fun x hx => ?_, fun x hx => ?_, fun f hf => ?_, fun k hk => ?_, fun k hk hr => ?_, fun k hk => ?_, fun x hx => ?_, a9⟩
  · rw [hu 36 x (by decide) (by decide)]; exact a1 x hx
  · rw [hu 37 x (by decide) (by decide)]; exact a2 x hx
  · rw [hu 32 x (by decide) (by decide)]; exact a3 x hx
  · rw [hu 33 f (by decide) (by decide), hu 34 f (by decide) (by decide)]; exact a4 f hf
  · rw [hu 30 k (by decide) (by decide)]; exact a5 k hk
  · rw [hu 31 k (by decide) (by decide)]; exact a6 k hk hr
  · rw [hu 35 k (by decide) (by decide)]; exact a7 k hk
  · rw [hu 38 x (by decide) (by decide)]; exact a8 x hx
theorem fc_arrive (D : md_A F N op ar ow pa lo re fs hs gl bk kp L) (T : fc_M N F op ar ow pa lo re fs gl bk kp L σ) (V : ft_V F N ow pa lo re fs hs L A) (C : fc_P N F pa fs hs A Z P σ) (K : fc_K (hs j) st vr σ) (hj : j < N) (s1 : ∀ i, i < hs j → ft_ok (st i)) (v1 : ∀ i, i < pa (ow j) + lo (ow j) → ft_ok (vr i)) :
    ∃ u, M_C_Foreteller_arrive σ (nI j) = some u ∧ rq_A fc_A σ u ∧ fc_P N F pa fs hs (ft_J A (ft_pass j (hs j) (pa (ow j) + lo (ow j)) st vr)) Z P u ∧ fc_K (hs j) st vr u ∧ ((ft_sm A (ft_J A (ft_pass j (hs j) (pa (ow j) + lo (ow j)) st vr)) j ∧ ∀ i, i < N → (fc_W u i ↔ fc_W σ i)) ∨ (¬ ft_sm A (ft_J A (ft_pass j (hs j) (pa (ow j) + lo (ow j)) st vr)) j ∧ ∀ i, i < N → (fc_W u i ↔ fc_W σ i ∨ i = j))) := by
  obtain ⟨⟨hN, hF1, hF3⟩, m1, m2, -⟩ := D
  obtain ⟨owF, h10, -, -⟩ := m2 j hj
  obtain ⟨-, -, -, -, pa2, lo2, -⟩ := m1 (ow j) owF
  have uu := V.u
  obtain ⟨c1, c2, c3, c4, c5, c6, c7, c8, c9⟩ := C
  obtain ⟨k1, k2, k3⟩ := K
  obtain ⟨-, -, t4⟩ := T.1 j hj
  obtain ⟨-, t11, t12, -⟩ := T.2.1 (ow j) owF
  obtain ⟨u1, f1, p1, p2, p3, p4, p5⟩ := fc_join3639 (b := 10 * j) (s := 0) (n := hs j) (g := fun i => A 0 (10 * j + i)) (t := st) (by omega) (by omega) (fun i _ => V.1 _ _ (by decide)) (fun i hi => Or.inr (s1 i hi)) (hs j) 0 0 FU (rt_up σ 31 j (nI (hs j))) (by omega) (by show hs j + 1 ≤ 2000000; omega) (by decide) (fun i _ hi => by rw [rq_c (by decide)]; exact c1 _ (by omega)) (fun i _ hi => by rw [rq_c (by decide), Nat.zero_add]; exact k2 i hi)
  obtain ⟨u2, f2, q1, q2, q3, q4, q5⟩ := fc_join3740 (b := 4 * j) (s := 0) (n := pa (ow j) + lo (ow j)) (g := fun i => A 1 (4 * j + i)) (t := vr) (by omega) (by omega) (fun i _ => V.1 _ _ (by decide)) (fun i hi => Or.inr (v1 i hi)) (pa (ow j) + lo (ow j)) 0 0 FU u1 (by omega) (by show pa (ow j) + lo (ow j) + 1 ≤ 2000000; omega) (by decide) (fun i _ hi => by rw [p3 37 _ (by unfold fc_j3639; omega), rq_c (by decide)]; exact c2 _ (by omega)) (fun i _ hi => by rw [p3 40 _ (by unfold fc_j3639; omega), rq_c (by decide), Nat.zero_add]; exact k3 i (by omega))
  have far : ∀ c x, ¬ (c = 31 ∧ x = j) → ¬ (c = 36 ∧ 10 * j ≤ x ∧ x < 10 * j + hs j) → ¬ (c = 37 ∧ 4 * j ≤ x ∧ x < 4 * j + (pa (ow j) + lo (ow j))) → u2 c x = σ c x := fun c x a1 a2 a3 => by
    rw [q3 c x (by unfold fc_j3740; omega), p3 c x (by unfold fc_j3639; omega), rq_if, if_neg a1]
  have w31 : u2 31 j = nI (hs j) := by rw [q3 31 j (by unfold fc_j3740; omega), p3 31 j (by unfold fc_j3639; omega), rq_s]
  have w36 : ∀ i, i < hs j → u2 36 (10 * j + i) = ft_c (ft_j (A 0 (10 * j + i)) (st i)) := fun i hi => by rw [q3 36 _ (by unfold fc_j3740; omega)]; exact p4 i (by omega) hi
  have w37 : ∀ i, i < pa (ow j) + lo (ow j) → u2 37 (4 * j + i) = ft_c (ft_j (A 1 (4 * j + i)) (vr i)) := fun i hi => q4 i (by omega) hi
  have w30 : u2 30 j = nI (A 4 j).2.1 := by rw [far 30 j (by omega) (by omega) (by omega)]; exact c5 j (by omega)
  have eq0 : M_C_Foreteller_arrive σ (nI j) = if nI (A 4 j).2.1 = 0 then B_C_Foreteller_arrive_84 (nI j) u2 else (if nI f1 = 0 then (if nI f2 = 0 then some u2 else B_C_Foreteller_arrive_84 (nI j) u2) else B_C_Foreteller_arrive_84 (nI j) u2) := by
    have t4' : (rt_up σ 31 j (nI (hs j))) 4 j = nI (ow j) := by rw [rq_c (by decide)]; exact t4
    have t11' : (rt_up σ 31 j (nI (hs j))) 11 (ow j) = nI (pa (ow j)) := by rw [rq_c (by decide)]; exact t11
    have t12' : (rt_up σ 31 j (nI (hs j))) 12 (ow j) = nI (lo (ow j)) := by rw [rq_c (by decide)]; exact t12
    have lc : M_C_Program_localCount (rt_up σ 31 j (nI (hs j))) (nI (ow j)) = some (nI (pa (ow j) + lo (ow j)), rt_up σ 31 j (nI (hs j))) := by
      unfold M_C_Program_localCount
      rw [rq_rd (n := 3) rfl (by omega) (by decide), rq_b, t11', rq_rd (n := 3) rfl (by omega) (by decide), rq_b, t12', nI_add]
    have k1' : (rt_up σ 31 j (nI (hs j))) 29 12 = nI (hs j) := by rw [rq_c (by decide)]; exact k1
    have j1 : M_C_Foreteller_joinInto_36_39 (rt_up σ 31 j (nI (hs j))) (nI (10 * j)) 0 (nI (hs j)) = some (nI f1, u1) := p1
    have j2 : M_C_Foreteller_joinInto_37_40 u1 (nI (4 * j)) 0 (nI (pa (ow j) + lo (ow j))) = some (nI f2, u2) := q1
    unfold M_C_Foreteller_arrive
    rw [rq_wr (n := 100) rfl (by omega) (by decide), rq_b, k1, rq_rd (n := 100) rfl (by omega) (by decide), rq_b, t4', lc, rq_b2, k1', show (10 : Int32) = nI 10 from rfl, pk_mul, Nat.mul_comm j 10, j1, rq_b2, show (4 : Int32) = nI 4 from rfl, pk_mul, Nat.mul_comm j 4, j2, rq_b2, rq_rd (n := 100) rfl (by omega) (by decide), rq_b, w30]
  have e84 : B_C_Foreteller_arrive_84 (nI j) u2 = some (rt_up (rt_up u2 30 j 1) 35 j 1) := by
    unfold B_C_Foreteller_arrive_84
    rw [rq_wr (n := 100) rfl (by omega) (by decide), rq_b, rq_wr (n := 100) rfl (by omega) (by decide), rq_b]
  -- the state of ranges behind it
  have a0 : ∀ x, ft_J A (ft_pass j (hs j) (pa (ow j) + lo (ow j)) st vr) 0 x = if 10 * j ≤ x ∧ x < 10 * j + hs j then ft_j (A 0 x) (st (x - 10 * j)) else A 0 x := fun x => by
    show ft_j (A 0 x) (ft_pass j (hs j) (pa (ow j) + lo (ow j)) st vr 0 x) = _
    unfold ft_pass
    by_cases z : 10 * j ≤ x ∧ x < 10 * j + hs j
    · rw [if_pos ⟨rfl, z⟩, if_pos z]
    · rw [if_neg (fun q => z q.2), if_neg (fun q => absurd q.1 (by decide)), if_neg (fun q => absurd q.1 (by decide)), if_neg z, ft_j_bot (uu 0 x).1]
  have a1 : ∀ x, ft_J A (ft_pass j (hs j) (pa (ow j) + lo (ow j)) st vr) 1 x = if 4 * j ≤ x ∧ x < 4 * j + (pa (ow j) + lo (ow j)) then ft_j (A 1 x) (vr (x - 4 * j)) else A 1 x := fun x => by
    show ft_j (A 1 x) (ft_pass j (hs j) (pa (ow j) + lo (ow j)) st vr 1 x) = _
    unfold ft_pass
    rw [if_neg (fun q => absurd q.1 (by decide))]
    by_cases z : 4 * j ≤ x ∧ x < 4 * j + (pa (ow j) + lo (ow j))
    · rw [if_pos ⟨rfl, z⟩, if_pos z]
    · rw [if_neg (fun q => z q.2), if_neg (fun q => absurd q.1 (by decide)), if_neg z, ft_j_bot (uu 1 x).1]
  have ao : ∀ c x, c ≠ 0 → c ≠ 1 → c ≠ 4 → ft_J A (ft_pass j (hs j) (pa (ow j) + lo (ow j)) st vr) c x = A c x := fun c x h0 h1 h4 => by
    show ft_j (A c x) (ft_pass j (hs j) (pa (ow j) + lo (ow j)) st vr c x) = _
    rw [ft_pass_o h0 h1 h4, ft_j_bot (uu c x).1]
  have a4 : ∀ x, x ≠ j → ft_J A (ft_pass j (hs j) (pa (ow j) + lo (ow j)) st vr) 4 x = A 4 x := fun x hx => by
    show ft_j (A 4 x) (ft_pass j (hs j) (pa (ow j) + lo (ow j)) st vr 4 x) = _
    rw [ft_pass_4, if_neg hx, ft_j_bot (uu 4 x).1]
  have fl := V.2.1 4 j (Nat.le_refl _)
  have a4j : ft_J A (ft_pass j (hs j) (pa (ow j) + lo (ow j)) st vr) 4 j = (0, 1, 0) := by
    show ft_j (A 4 j) (ft_pass j (hs j) (pa (ow j) + lo (ow j)) st vr 4 j) = _
    rw [ft_pass_4, if_pos rfl]
    unfold ft_j
    dsimp only
    rw [show min (A 4 j).1 0 = 0 by omega, show max (A 4 j).2.1 1 = 1 by omega, show max (A 4 j).2.2 0 = 0 by omega]
  have smI : ft_sm A (ft_J A (ft_pass j (hs j) (pa (ow j) + lo (ow j)) st vr)) j ↔ ((A 4 j).2.1 = 1 ∧ f1 = 0 ∧ f2 = 0) := by
    constructor
    · rintro ⟨b1, b2, b3⟩
      refine ⟨?_, p5.mpr ⟨rfl, fun i _ hi => ?_⟩, q5.mpr ⟨rfl, fun i _ hi => ?_⟩⟩
      · rw [← b1, a4j]
      · have w := b2 i (by omega)
        rw [a0, if_pos (by omega), show 10 * j + i - 10 * j = i by omega] at w
        exact w
      · have w := b3 i (by omega)
        rw [a1, if_pos (by omega), show 4 * j + i - 4 * j = i by omega] at w
        exact w
    · rintro ⟨b1, b2, b3⟩
      refine ⟨?_, fun i hi => ?_, fun i hi => ?_⟩
      · rw [a4j]
        refine (Prod.ext ?_ (Prod.ext ?_ ?_)).symm
        · exact fl.1
        · exact b1
        · exact fl.2.2
      · rw [a0]
        by_cases z : i < hs j
        · rw [if_pos (by omega), show 10 * j + i - 10 * j = i by omega]
          exact (p5.mp b2).2 i (by omega) z
        · rw [if_neg (by omega)]
      · rw [a1]
        by_cases z : i < pa (ow j) + lo (ow j)
        · rw [if_pos (by omega), show 4 * j + i - 4 * j = i by omega]
          exact (q5.mp b3).2 i (by omega) z
        · rw [if_neg (by omega)]
  have A36 : ∀ x, x < 1000 → u2 36 x = ft_c (ft_J A (ft_pass j (hs j) (pa (ow j) + lo (ow j)) st vr) 0 x) := fun x hx => by
    rw [a0]
    by_cases z : 10 * j ≤ x ∧ x < 10 * j + hs j
    · have w := w36 (x - 10 * j) (by omega)
      rw [show 10 * j + (x - 10 * j) = x by omega] at w
      rw [if_pos z]; exact w
    · rw [if_neg z, far 36 x (by omega) (by omega) (by omega)]; exact c1 x hx
  have A37 : ∀ x, x < 400 → u2 37 x = ft_c (ft_J A (ft_pass j (hs j) (pa (ow j) + lo (ow j)) st vr) 1 x) := fun x hx => by
    rw [a1]
    by_cases z : 4 * j ≤ x ∧ x < 4 * j + (pa (ow j) + lo (ow j))
    · have w := w37 (x - 4 * j) (by omega)
      rw [show 4 * j + (x - 4 * j) = x by omega] at w
      rw [if_pos z]; exact w
    · rw [if_neg z, far 37 x (by omega) (by omega) (by omega)]; exact c2 x hx
  have r7 : ∀ k, (A 4 k).2.1 = 1 → (ft_J A (ft_pass j (hs j) (pa (ow j) + lo (ow j)) st vr) 4 k).2.1 = 1 := fun k hk => by
    by_cases z : k = j
    · rw [z, a4j]
    · rw [a4 k z]; exact hk
  have A9 := c9
  have fA : rq_A fc_A σ u2 := fun c x h => far c x (by unfold fc_A at h; omega) (by unfold fc_A at h; omega) (by unfold fc_A at h; omega)
  by_cases S : ft_sm A (ft_J A (ft_pass j (hs j) (pa (ow j) + lo (ow j)) st vr)) j
  · obtain ⟨r1, r2, r3⟩ := smI.mp S
    rw [r1, r2, r3, if_neg (by decide), if_pos (show nI 0 = 0 from rfl), if_pos (show nI 0 = 0 from rfl)] at eq0
    refine ⟨u2, eq0, fA, ⟨A36, A37, fun x hx => ?_, fun f hf => ?_, fun k hk => ?_, fun k hk hr => ?_, fun k hk => ?_, fun x hx => ?_, A9⟩, ⟨?_, fun i hi => ?_, fun i hi => ?_⟩, Or.inl ⟨S, fun i hi => ?_⟩⟩
    · rw [far 32 x (by omega) (by omega) (by omega), ao 2 x (by decide) (by decide) (by decide)]; exact c3 x hx
    · rw [far 33 f (by omega) (by omega) (by omega), far 34 f (by omega) (by omega) (by omega), ao 3 f (by decide) (by decide) (by decide), ao 5 f (by decide) (by decide) (by decide)]; exact c4 f hf
    · rw [far 30 k (by omega) (by omega) (by omega)]
      by_cases z : k = j
      · subst z; rw [S.1]; exact c5 k hk
      · rw [a4 k z]; exact c5 k hk
    · by_cases z : k = j
      · subst z; exact w31
      · rw [a4 k z] at hr
        rw [far 31 k (by omega) (by omega) (by omega)]; exact c6 k hk hr
    · rw [far 35 k (by omega) (by omega) (by omega)]; exact (c7 k hk).imp id (fun q => ⟨q.1, r7 k q.2⟩)
    · rw [far 38 x (by omega) (by omega) (by omega)]; exact c8 x hx
    · rw [far 29 12 (by omega) (by omega) (by omega)]; exact k1
    · rw [far 39 i (by omega) (by omega) (by omega)]; exact k2 i hi
    · rw [far 40 i (by omega) (by omega) (by omega)]; exact k3 i hi
    · unfold fc_W; rw [far 35 i (by omega) (by omega) (by omega)]
  · have eqs : M_C_Foreteller_arrive σ (nI j) = some (rt_up (rt_up u2 30 j 1) 35 j 1) := by
      rw [eq0, e84]
      by_cases y1 : (A 4 j).2.1 = 0
      · rw [if_pos (show nI (A 4 j).2.1 = 0 by rw [y1]; rfl)]
      · rw [if_neg (nI_ne0 (by omega) (by omega))]
        by_cases y2 : f1 = 0
        · rw [if_pos (show nI f1 = 0 by rw [y2]; rfl)]
          by_cases y3 : f2 = 0
          · exact absurd (smI.mpr ⟨by omega, y2, y3⟩) S
          · rw [if_neg (nI_ne0 (by omega) (by omega))]
        · rw [if_neg (nI_ne0 (by omega) (by omega))]
    have far2 : ∀ c x, ¬ (c = 30 ∧ x = j) → ¬ (c = 35 ∧ x = j) → (rt_up (rt_up u2 30 j 1) 35 j 1) c x = u2 c x := fun c x b1 b2 => by rw [rq_if, if_neg b2, rq_if, if_neg b1]
    refine ⟨_, eqs, (fA.up (by unfold fc_A; omega)).up (by unfold fc_A; omega), ⟨fun x hx => ?_, fun x hx => ?_, fun x hx => ?_, fun f hf => ?_, fun k hk => ?_, fun k hk hr => ?_, fun k hk => ?_, fun x hx => ?_, A9⟩, ⟨?_, fun i hi => ?_, fun i hi => ?_⟩, Or.inr ⟨S, fun i hi => ?_⟩⟩
    · rw [far2 36 x (by omega) (by omega)]; exact A36 x hx
    · rw [far2 37 x (by omega) (by omega)]; exact A37 x hx
    · rw [far2 32 x (by omega) (by omega), far 32 x (by omega) (by omega) (by omega), ao 2 x (by decide) (by decide) (by decide)]; exact c3 x hx
    · rw [far2 33 f (by omega) (by omega), far2 34 f (by omega) (by omega), far 33 f (by omega) (by omega) (by omega), far 34 f (by omega) (by omega) (by omega), ao 3 f (by decide) (by decide) (by decide), ao 5 f (by decide) (by decide) (by decide)]; exact c4 f hf
    · by_cases z : k = j
      · subst z; rw [rq_c (by decide), rq_s, a4j]; rfl
      · rw [far2 30 k (by omega) (by omega), far 30 k (by omega) (by omega) (by omega), a4 k z]; exact c5 k hk
    · rw [far2 31 k (by omega) (by omega)]
      by_cases z : k = j
      · subst z; exact w31
      · rw [a4 k z] at hr
        rw [far 31 k (by omega) (by omega) (by omega)]; exact c6 k hk hr
    · by_cases z : k = j
      · subst z; rw [rq_s]; exact Or.inr ⟨rfl, by rw [a4j]⟩
      · rw [far2 35 k (by omega) (by omega), far 35 k (by omega) (by omega) (by omega)]; exact (c7 k hk).imp id (fun q => ⟨q.1, r7 k q.2⟩)
    · rw [far2 38 x (by omega) (by omega), far 38 x (by omega) (by omega) (by omega)]; exact c8 x hx
    · rw [far2 29 12 (by omega) (by omega), far 29 12 (by omega) (by omega) (by omega)]; exact k1
    · rw [far2 39 i (by omega) (by omega), far 39 i (by omega) (by omega) (by omega)]; exact k2 i hi
    · rw [far2 40 i (by omega) (by omega), far 40 i (by omega) (by omega) (by omega)]; exact k3 i hi
    · unfold fc_W
      by_cases z : i = j
      · subst z; rw [rq_s]; exact ⟨fun _ => Or.inr rfl, fun _ => rfl⟩
      · rw [far2 35 i (by omega) (by omega), far 35 i (by omega) (by omega) (by omega)]
        exact ⟨Or.inl, fun h => h.elim id (fun e => absurd e z)⟩
end FCA
