/-! what is asked of a loaded module, both -/
section ASK
variable {N F k : Nat} {op ar ow en el pa lo re fs hs : Nat → Nat} {L : Nat → Prop} {A : ft_S} {r : ft_G} {σ τ u v : rt_St}
theorem lk_nlt {x y : Int32} (h : y ≤ x) : ¬ x < y := fun e => by
  have e1 := Int32.lt_iff_toInt_lt.mp e
  have e2 := Int32.le_iff_toInt_le.mp h
  omega
theorem lk_code (hr : ft_ok r) : M_R_RangeTellerModel_code (nI r.1) (nI r.2.1) (nI r.2.2) = some (ft_c r) := by
  rw [ft_c_ok hr]
  unfold ft_ok at hr
  unfold M_R_RangeTellerModel_code
  rw [show (64 : Int32) = nI 64 from rfl, pk_mul, nI_add]
  by_cases z : r.2.2 = 0
  · rw [if_pos (show nI r.2.2 = 0 by rw [z]; rfl), show (0 : Int32) = nI 0 from rfl, nI_add, z]
  · rw [if_neg (nI_ne0 (by omega) (by omega)), show (4096 : Int32) = nI 4096 from rfl, nI_add, show r.2.2 = 1 by omega]
theorem lk_is (G : rq_Rel lk_Ld σ τ) (x : Int32) : (M_C_RangeTeller_isInstruction σ x = some (0, σ) ∧ M_R_RangeTellerModel_isInstruction τ x = some (0, τ)) ∨ (M_C_RangeTeller_isInstruction σ x = some (1, σ) ∧ M_R_RangeTellerModel_isInstruction τ x = some (1, τ) ∧ ∃ (N F : Nat) (op ar ow en el pa lo re fs hs : Nat → Nat) (L : Nat → Prop) (A : ft_S) (k : Nat), lk_D N F op ar ow en el pa lo re fs hs L A σ τ ∧ k < N ∧ x = nI k) := by
  obtain ⟨-, -, -, G4, -⟩ := G
  unfold M_C_RangeTeller_isInstruction M_R_RangeTellerModel_isInstruction
  rcases G4 with ⟨z1, z2⟩ | ⟨z1, z2, Ld⟩
  · exact Or.inl ⟨if_pos z1, if_pos z2⟩
  · obtain ⟨N, F, op, ar, ow, en, el, pa, lo, re, fs, hs, L, A, H⟩ := Ld
    have H0 := H
    obtain ⟨⟨-, -, -, n6, hN, -⟩, n12, -⟩ := H
    rw [if_neg (show ¬ σ 0 5 = 0 by rw [z1]; decide), if_neg (show ¬ τ 0 4 = 0 by rw [z2]; decide), n6, n12]
    rcases pk_ix x (n := N) (by omega) with h | h | ⟨k, h1, h2⟩
    · exact Or.inl ⟨if_pos h, if_pos h⟩
    · left
      by_cases y : x < 0
      · exact ⟨if_pos y, if_pos y⟩
      · rw [if_neg y, if_neg y]; exact ⟨if_pos h, if_pos h⟩
    · right
      rw [h2, if_neg (nI_pos (by omega)), if_neg (nI_pos (by omega)), if_neg (nI_ge h1 (by omega)), if_neg (nI_ge h1 (by omega))]
      exact ⟨rfl, rfl, N, F, op, ar, ow, en, el, pa, lo, re, fs, hs, L, A, k, H0, h1, rfl⟩
/-- the row of an instruction that is reached -/
theorem lk_row (H : lk_D N F op ar ow en el pa lo re fs hs L A σ τ) (hk : k < N) : (A 4 k).2.1 ≤ 1 ∧ σ 30 k = nI (A 4 k).2.1 ∧ τ 26 k = nI (A 4 k).2.1 ∧ hs k ≤ 10 ∧ ow k < F ∧ pa (ow k) ≤ 2 ∧ lo (ow k) ≤ 2 ∧ τ 7 k = nI (hs k) ∧ ((A 4 k).2.1 = 1 → L k ∧ σ 31 k = nI (hs k) ∧ (∀ i, i < hs k → ft_ok (A 0 (10 * k + i)) ∧ σ 36 (10 * k + i) = ft_c (A 0 (10 * k + i)) ∧ fr_3 28 29 30 (10 * k + i) (A 0 (10 * k + i)) τ) ∧ ∀ i, i < pa (ow k) + lo (ow k) → ft_ok (A 1 (4 * k + i)) ∧ σ 37 (4 * k + i) = ft_c (A 1 (4 * k + i)) ∧ fr_3 31 32 33 (4 * k + i) (A 1 (4 * k + i)) τ) := by
  obtain ⟨⟨T, TF, ⟨x1, x2, x3⟩, n6, hN, hF1, hF3⟩, n12, n13, n16, V, ⟨c1, c2, c3, c4, c5, c6⟩, ⟨d1, d2, d3, d4⟩, a8⟩ := H
  obtain ⟨o1, o2, o3⟩ := x2 k hk
  obtain ⟨-, -, -, -, -, -, -, -, r1, r2, r3⟩ := TF (ow k) o1
  refine ⟨(V.2.1 4 k (Nat.le_refl _)).2.1, c5 k (by omega), d1 k (by omega), o2, o1, r1, r2, o3, fun hr => ?_⟩
  obtain ⟨v1, v2, v3⟩ := V.rc hk hr
  obtain ⟨e1, e2⟩ := d2 k hk hr
  refine ⟨v1, c6 k hk hr, fun i hi => ⟨v2 i hi, c1 _ (by omega), e1 i hi⟩, fun i hi => ⟨v3 i hi, c2 _ (by omega), ?_⟩⟩
  have q := e2 i (by omega)
  rw [if_pos hi] at q
  exact q
theorem lk_opC {i : Nat} (H : lk_D N F op ar ow en el pa lo re fs hs L A σ τ) (hk : k < N) (hr : (A 4 k).2.1 = 1) (hi : i < hs k) : M_C_Foreteller_operandAt σ (nI k) (nI i) = some (ft_c (A 0 (10 * k + (hs k - 1 - i))), σ) := by
  have hN : N ≤ 100 := H.1.2.2.2.2.1
  obtain ⟨-, q1, -, q2, -, -, -, -, q3⟩ := lk_row H hk
  obtain ⟨-, q4, q5, -⟩ := q3 hr
  obtain ⟨-, q6, -⟩ := q5 (hs k - 1 - i) (by omega)
  have ix : nI k * 10 + nI (hs k) - 1 - nI i = nI (10 * k + (hs k - 1 - i)) := by
    rw [show (10 : Int32) = nI 10 from rfl, pk_mul, nI_add, show k * 10 + hs k = (k * 10 + (hs k - 1)) + 1 by omega, nI_pred, pk_sub (by omega), show k * 10 + (hs k - 1) - i = 10 * k + (hs k - 1 - i) by omega]
  unfold M_C_Foreteller_operandAt
  rw [rq_rd (n := 100) rfl (by omega) (by decide), rq_b, q1, if_neg (nI_ne0 (by omega) (by omega)), if_neg (nI_pos (by omega)), rq_rd (n := 100) rfl (by omega) (by decide), rq_b, q4, if_pos (nI_lt hi (by omega)), rq_b, ix, rq_rd (n := 1000) rfl (by omega) (by decide), rq_b, q6]
theorem sim_operand (G : rq_Rel lk_Ld σ τ) : rt_c2 (rq_Rel lk_Ld) M_C_RangeTeller_operand M_R_RangeTellerModel_operand σ τ := by
  intro x y
  unfold M_C_RangeTeller_operand M_R_RangeTellerModel_operand
  rcases lk_is G x with ⟨e1, e2⟩ | ⟨e1, e2, N, F, op, ar, ow, en, el, pa, lo, re, fs, hs, L, A, k, H, hk, rfl⟩
  · rw [e1, e2, rq_b2, rq_b2, if_pos rfl, if_pos rfl]; exact ⟨-3, σ, τ, rfl, rfl, G⟩
  · have hN : N ≤ 100 := H.1.2.2.2.2.1
    obtain ⟨q0, q1, q2, q3, -, -, -, q4, q5⟩ := lk_row H hk
    rw [e1, e2, rq_b2, rq_b2, if_neg (by decide), if_neg (by decide), rq_rd (n := 101) rfl (by omega) (by decide), rq_b, q2]
    by_cases z : (A 4 k).2.1 = 0
    · rw [if_pos (show nI (A 4 k).2.1 = 0 by rw [z]; rfl)]
      have e : M_C_Foreteller_operandAt σ (nI k) y = some (-3, σ) := by
        unfold M_C_Foreteller_operandAt
        rw [rq_rd (n := 100) rfl (by omega) (by decide), rq_b, q1, if_pos (show nI (A 4 k).2.1 = 0 by rw [z]; rfl)]
      rw [e, rq_b2]; exact ⟨-3, σ, τ, rfl, rfl, G⟩
    · rw [if_neg (nI_ne0 (by omega) (by omega))]
      obtain ⟨-, q6, q7, -⟩ := q5 (by omega)
      have no : (y < 0 ∨ ¬ y < nI (hs k)) → M_C_Foreteller_operandAt σ (nI k) y = some (-3, σ) := fun e => by
        unfold M_C_Foreteller_operandAt
        rw [rq_rd (n := 100) rfl (by omega) (by decide), rq_b, q1, if_neg (nI_ne0 (by omega) (by omega))]
        by_cases w : y < 0
        · rw [if_pos w]
        · rw [if_neg w, rq_rd (n := 100) rfl (by omega) (by decide), rq_b, q6, if_neg (e.resolve_left w)]
      rcases pk_ix y (n := hs k) (by omega) with h | h | ⟨i, h1, rfl⟩
      · rw [no (Or.inl h), rq_b2, if_pos h]; exact ⟨-3, σ, τ, rfl, rfl, G⟩
      · have h' : ¬ y < nI (hs k) := lk_nlt h
        rw [no (Or.inr h'), rq_b2]
        by_cases w : y < 0
        · rw [if_pos w]; exact ⟨-3, σ, τ, rfl, rfl, G⟩
        · rw [if_neg w, rq_rd (n := 101) rfl (by omega) (by decide), rq_b, q4, if_neg h']; exact ⟨-3, σ, τ, rfl, rfl, G⟩
      · have ix : 10 * nI k + nI (hs k) - 1 - nI i = nI (10 * k + (hs k - 1 - i)) := by
          rw [show (10 : Int32) = nI 10 from rfl, pk_mul, nI_add, show 10 * k + hs k = (10 * k + (hs k - 1)) + 1 by omega, nI_pred, pk_sub (by omega), show 10 * k + (hs k - 1) - i = 10 * k + (hs k - 1 - i) by omega]
        obtain ⟨ok, -, g1, g2, g3⟩ := q7 (hs k - 1 - i) (by omega)
        rw [lk_opC H hk (by omega) h1, rq_b2, if_neg (nI_pos (by omega)), rq_rd (n := 101) rfl (by omega) (by decide), rq_b, q4, if_pos (nI_lt h1 (by omega)), rq_b, ix, rq_rd (n := 1000) rfl (by omega) (by decide), rq_b, rq_rd (n := 1000) rfl (by omega) (by decide), rq_b, rq_rd (n := 1000) rfl (by omega) (by decide), rq_b, g1, g2, g3, lk_code ok, rq_b]
        exact ⟨_, σ, τ, rfl, rfl, G⟩
theorem sim_local (G : rq_Rel lk_Ld σ τ) : rt_c2 (rq_Rel lk_Ld) M_C_RangeTeller_local M_R_RangeTellerModel_local σ τ := by
  intro x y
  unfold M_C_RangeTeller_local M_R_RangeTellerModel_local
  rcases lk_is G x with ⟨e1, e2⟩ | ⟨e1, e2, N, F, op, ar, ow, en, el, pa, lo, re, fs, hs, L, A, k, H, hk, rfl⟩
  · rw [e1, e2, rq_b2, rq_b2, if_pos rfl, if_pos rfl]; exact ⟨-3, σ, τ, rfl, rfl, G⟩
  · obtain ⟨T, TF, -, -, hN, hF1, hF3⟩ := H.1
    obtain ⟨q0, q1, q2, q3, owF, pa2, lo2, q4, q5⟩ := lk_row H hk
    obtain ⟨⟨-, -, s4, -, -⟩, ⟨-, -, t4, -, -⟩, -⟩ := T k hk
    obtain ⟨-, s11, s12, -, -, t11, t12, -⟩ := TF (ow k) owF
    rw [e1, e2, rq_b2, rq_b2, if_neg (by decide), if_neg (by decide), rq_rd (n := 101) rfl (by omega) (by decide), rq_b, q2]
    unfold M_C_Foreteller_localAt M_C_Program_localCount
    rw [rq_rd (n := 100) (c := 30) rfl (by omega) (by decide), rq_b, q1]
    by_cases z : (A 4 k).2.1 = 0
    · rw [if_pos (show nI (A 4 k).2.1 = 0 by rw [z]; rfl), if_pos (show nI (A 4 k).2.1 = 0 by rw [z]; rfl), rq_b2]; exact ⟨-3, σ, τ, rfl, rfl, G⟩
    · rw [if_neg (nI_ne0 (by omega) (by omega)), if_neg (nI_ne0 (by omega) (by omega))]
      obtain ⟨-, -, -, q7⟩ := q5 (by omega)
      by_cases w : y < 0
      · rw [if_pos w, if_pos w, rq_b2]; exact ⟨-3, σ, τ, rfl, rfl, G⟩
      · rw [if_neg w, if_neg w, rq_rd (σ := σ) (n := 100) (c := 4) rfl (by omega) (by decide), rq_b, s4, rq_rd (σ := σ) (n := 3) (c := 11) rfl (by omega) (by decide), rq_b, s11, rq_rd (σ := σ) (n := 3) (c := 12) rfl (by omega) (by decide), rq_b, s12, nI_add, rq_b2, rq_rd (σ := τ) (n := 100) (c := 4) rfl (by omega) (by decide), rq_b, t4, rq_rd (σ := τ) (n := 3) (c := 11) rfl (by omega) (by decide), rq_b, t11, rq_b, rq_rd (σ := τ) (n := 3) (c := 12) rfl (by omega) (by decide), rq_b, t12, nI_add]
        rcases pk_ix y (n := pa (ow k) + lo (ow k)) (by omega) with h | h | ⟨i, h1, rfl⟩
        · exact absurd h w
        · have h' : ¬ y < nI (pa (ow k) + lo (ow k)) := lk_nlt h
          rw [if_neg h', if_neg h', rq_b2]; exact ⟨-3, σ, τ, rfl, rfl, G⟩
        · obtain ⟨ok, g0, g1, g2, g3⟩ := q7 i h1
          have i1 : nI k * 4 + nI i = nI (4 * k + i) := by rw [show (4 : Int32) = nI 4 from rfl, pk_mul, nI_add, Nat.mul_comm k 4]
          have i2 : 4 * nI k + nI i = nI (4 * k + i) := by rw [show (4 : Int32) = nI 4 from rfl, pk_mul, nI_add]
          rw [if_pos (nI_lt h1 (by omega)), if_pos (nI_lt h1 (by omega)), i1, i2, rq_rd (σ := σ) (n := 400) (c := 37) rfl (by omega) (by decide), rq_b, g0, rq_b2, rq_rd (σ := τ) (n := 400) (c := 31) rfl (by omega) (by decide), rq_b, rq_rd (σ := τ) (n := 400) (c := 32) rfl (by omega) (by decide), rq_b, rq_rd (σ := τ) (n := 400) (c := 33) rfl (by omega) (by decide), rq_b, g1, g2, g3, lk_code ok, rq_b]
          exact ⟨_, σ, τ, rfl, rfl, G⟩
theorem sim_cell (G : rq_Rel lk_Ld σ τ) : rt_c1 (rq_Rel lk_Ld) M_C_RangeTeller_cell M_R_RangeTellerModel_cell σ τ := by
  intro x
  have G0 := G
  obtain ⟨-, -, -, G4, -⟩ := G
  unfold M_C_RangeTeller_cell M_R_RangeTellerModel_cell
  rcases G4 with ⟨z1, z2⟩ | ⟨z1, z2, Ld⟩
  · rw [if_pos z1, if_pos z2]; exact ⟨-3, σ, τ, rfl, rfl, G0⟩
  · obtain ⟨N, F, op, ar, ow, en, el, pa, lo, re, fs, hs, L, A, H⟩ := Ld
    obtain ⟨-, -, -, -, V, ⟨-, -, c3, -⟩, ⟨-, -, d3, -⟩, -⟩ := H
    rw [if_neg (show ¬ σ 0 5 = 0 by rw [z1]; decide), if_neg (show ¬ τ 0 4 = 0 by rw [z2]; decide)]
    rcases pk_ix x (n := 16) (by decide) with h | h | ⟨i, h1, rfl⟩
    · rw [if_pos h, if_pos h]; exact ⟨-3, σ, τ, rfl, rfl, G0⟩
    · have h' : ¬ x < 16 := lk_nlt h
      by_cases w : x < 0
      · rw [if_pos w, if_pos w]; exact ⟨-3, σ, τ, rfl, rfl, G0⟩
      · rw [if_neg w, if_neg w, if_neg h', if_neg (fun e => h' ((rq_le15 x).mpr e))]; exact ⟨-3, σ, τ, rfl, rfl, G0⟩
    · have h' : nI i < 16 := nI_lt (b := 16) h1 (by decide)
      obtain ⟨g1, g2, g3⟩ := d3 i h1
      rw [if_neg (nI_pos (by omega)), if_neg (nI_pos (by omega)), if_pos h', if_pos ((rq_le15 _).mp h'), rq_rd (σ := σ) (n := 16) rfl h1 (by decide), rq_b, c3 i h1, rq_rd (σ := τ) (n := 16) (c := 34) rfl h1 (by decide), rq_b, rq_rd (σ := τ) (n := 16) (c := 35) rfl h1 (by decide), rq_b, rq_rd (σ := τ) (n := 16) (c := 36) rfl h1 (by decide), rq_b, g1, g2, g3, lk_code (V.2.2.1 i h1), rq_b]
      exact ⟨_, σ, τ, rfl, rfl, G0⟩
theorem sim_function (G : rq_Rel lk_Ld σ τ) : rt_c2 (rq_Rel lk_Ld) M_C_RangeTeller_function M_R_RangeTellerModel_function σ τ := by
  intro x y
  have G0 := G
  obtain ⟨-, -, -, G4, -⟩ := G
  unfold M_C_RangeTeller_function M_R_RangeTellerModel_function
  rcases G4 with ⟨z1, z2⟩ | ⟨z1, z2, Ld⟩
  · rw [if_pos z1, if_pos z2]; exact ⟨-3, σ, τ, rfl, rfl, G0⟩
  · obtain ⟨N, F, op, ar, ow, en, el, pa, lo, re, fs, hs, L, A, H⟩ := Ld
    obtain ⟨⟨-, TF, -, -, hN, hF1, hF3⟩, -, n13, n16, V, ⟨-, -, -, c4, -⟩, ⟨-, -, -, d4⟩, a8⟩ := H
    rw [if_neg (show ¬ σ 0 5 = 0 by rw [z1]; decide), if_neg (show ¬ τ 0 4 = 0 by rw [z2]; decide), n13, n16]
    rcases pk_ix x (n := F) (by omega) with h | h | ⟨f, h1, rfl⟩
    · rw [if_pos h, if_pos h]; exact ⟨-3, σ, τ, rfl, rfl, G0⟩
    · have h' : ¬ x < nI F := lk_nlt h
      by_cases w : x < 0
      · rw [if_pos w, if_pos w]; exact ⟨-3, σ, τ, rfl, rfl, G0⟩
      · rw [if_neg w, if_neg w, if_neg h', if_neg h']; exact ⟨-3, σ, τ, rfl, rfl, G0⟩
    · obtain ⟨s10, s11, s12, s13, t14, t11, t12, t13, -, -, r3⟩ := TF f h1
      obtain ⟨s33, s34⟩ := c4 f (by omega)
      obtain ⟨t40, p2, p3⟩ := d4 f (by omega)
      have a5 := (V.2.1 5 f (by decide)).2.1
      rw [if_neg (nI_pos (by omega)), if_neg (nI_pos (by omega)), if_pos (nI_lt h1 (by omega)), if_pos (nI_lt h1 (by omega))]
      by_cases y0 : y = 0
      · rw [if_pos y0, if_pos y0, rq_rd (σ := σ) (n := 3) rfl (by omega) (by decide), rq_b, s10, rq_rd (σ := τ) (n := 3) rfl (by omega) (by decide), rq_b, t14]; exact ⟨_, σ, τ, rfl, rfl, G0⟩
      rw [if_neg y0, if_neg y0]
      by_cases y1 : y = 1
      · rw [if_pos y1, if_pos y1, rq_rd (σ := σ) (n := 3) rfl (by omega) (by decide), rq_b, s11, rq_rd (σ := τ) (n := 3) rfl (by omega) (by decide), rq_b, t11]; exact ⟨_, σ, τ, rfl, rfl, G0⟩
      rw [if_neg y1, if_neg y1]
      by_cases y2 : y = 2
      · rw [if_pos y2, if_pos y2, rq_rd (σ := σ) (n := 3) rfl (by omega) (by decide), rq_b, s12, rq_rd (σ := τ) (n := 3) rfl (by omega) (by decide), rq_b, t12]; exact ⟨_, σ, τ, rfl, rfl, G0⟩
      rw [if_neg y2, if_neg y2]
      by_cases y3 : y = 3
      · rw [if_pos y3, if_pos y3, rq_rd (σ := σ) (n := 3) rfl (by omega) (by decide), rq_b, s13, rq_rd (σ := τ) (n := 3) rfl (by omega) (by decide), rq_b, t13]; exact ⟨_, σ, τ, rfl, rfl, G0⟩
      rw [if_neg y3, if_neg y3]
      by_cases y4 : y = 4
      · rw [if_pos y4, if_pos y4, rq_rd (σ := σ) (n := 3) rfl (by omega) (by decide), rq_b, s33, rq_rd (σ := τ) (n := 3) (c := 13) rfl (by omega) (by decide), rq_b, t13]
        by_cases w : re f = 1 ∧ (A 5 f).2.1 = 1
        · have ok := V.2.2.2.2.1 f h1 w.2 w.1
          have nb : A 3 f ≠ ft_bot := fun e => by
            rw [e] at ok
            unfold ft_ok at ok
            exact absurd ok.1 (by decide)
          obtain ⟨g1, g2, g3⟩ := p3 nb
          rw [if_pos (show nI (re f) = 1 by rw [w.1]; rfl), rq_rd (σ := τ) (n := 3) (c := 40) rfl (by omega) (by decide), rq_b, t40, if_neg (nI_ne0 (by omega) (by omega)), rq_rd (σ := τ) (n := 3) (c := 37) rfl (by omega) (by decide), rq_b, rq_rd (σ := τ) (n := 3) (c := 38) rfl (by omega) (by decide), rq_b, rq_rd (σ := τ) (n := 3) (c := 39) rfl (by omega) (by decide), rq_b, g1, g2, g3, lk_code ok, rq_b]
          exact ⟨_, σ, τ, rfl, rfl, G0⟩
        · rw [a8 f w]
          by_cases w1 : re f = 1
          · have w2 : (A 5 f).2.1 = 0 := by
              have : ¬ (A 5 f).2.1 = 1 := fun e => w ⟨w1, e⟩
              omega
            rw [if_pos (show nI (re f) = 1 by rw [w1]; rfl), rq_rd (σ := τ) (n := 3) (c := 40) rfl (by omega) (by decide), rq_b, t40, if_pos (show nI (A 5 f).2.1 = 0 by rw [w2]; rfl)]
            exact ⟨_, σ, τ, rfl, rfl, G0⟩
          · rw [if_neg (show ¬ nI (re f) = 1 from fun e => w1 ((nI_eq (b := 1) (by omega) (by decide)).mp e))]
            exact ⟨_, σ, τ, rfl, rfl, G0⟩
      rw [if_neg y4, if_neg y4]
      by_cases y5 : y = 5
      · rw [if_pos y5, if_pos y5, rq_rd (σ := σ) (n := 3) (c := 34) rfl (by omega) (by decide), rq_b, s34, rq_rd (σ := τ) (n := 3) (c := 40) rfl (by omega) (by decide), rq_b, t40]
        by_cases w : nI (A 5 f).2.1 = 0
        · rw [if_pos w, if_pos w]; exact ⟨_, σ, τ, rfl, rfl, G0⟩
        · rw [if_neg w, if_neg w]; exact ⟨_, σ, τ, rfl, rfl, G0⟩
      rw [if_neg y5, if_neg y5]
      exact ⟨_, σ, τ, rfl, rfl, G0⟩
end ASK
