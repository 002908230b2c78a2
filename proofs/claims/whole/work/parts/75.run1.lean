/-! running: the operands and variables of all calls, side by side -/
def rn_e (x y : Int32) : Prop := ∃ b : Nat, b < 64 ∧ x = nI b ∧ y = nI b
def rn_B (n : Nat → Nat) : Nat → Nat
  | 0 => 0
  | d + 1 => rn_B n d + n d
def rn_S (D : Nat) (n : Nat → Nat) (h : Nat) (c : Nat → Nat) (σ τ : rt_St) : Prop :=
  (D ≤ 6 ∧ h ≤ 10 ∧ ∀ d, d < D → n d ≤ 10) ∧ (σ 21 16 = nI D ∧ τ 0 30 = nI D) ∧ (σ 21 17 = nI (rn_B n D + h) ∧ τ 23 D = nI h) ∧ (∀ d, d ≤ D → σ 27 d = nI (rn_B n d)) ∧ (∀ d, d < D → τ 23 d = nI (n d)) ∧ (∀ d, 1 ≤ d → d ≤ D → σ 28 d = nI (c d) ∧ τ 20 d = nI (c d)) ∧ (∀ i, i < h → rn_e (σ 25 (rn_B n D + i)) (τ 21 (10 * D + i))) ∧ (∀ d i, d < D → i < n d → rn_e (σ 25 (rn_B n d + i)) (τ 21 (10 * d + i))) ∧ (∀ d i, d ≤ D → i < 4 → rn_e (σ 26 (4 * d + i)) (τ 22 (4 * d + i)))
theorem rn_B_le {n : Nat → Nat} {D : Nat} (h : ∀ d, d < D → n d ≤ 10) : ∀ d, d ≤ D → rn_B n d ≤ 10 * d := by
  intro d
  induction d with
  | zero => intro _; exact Nat.le_refl _
  | succ d ih =>
    intro hd
    have h1 := ih (by omega)
    have h2 := h d (by omega)
    show rn_B n d + n d ≤ 10 * (d + 1)
    omega
theorem rn_B_lt {n : Nat → Nat} {d : Nat} : ∀ e, rn_B n d + n d ≤ rn_B n (d + 1 + e) := by
  intro e
  induction e with
  | zero => exact Nat.le_refl _
  | succ e ih =>
    show rn_B n d + n d ≤ rn_B n (d + 1 + e) + n (d + 1 + e)
    omega
theorem rn_B_u {n n' : Nat → Nat} : ∀ d, (∀ j, j < d → n' j = n j) → rn_B n' d = rn_B n d := by
  intro d
  induction d with
  | zero => intro _; rfl
  | succ d ih =>
    intro h
    show rn_B n' d + n' d = rn_B n d + n d
    rw [ih (fun j hj => h j (by omega)), h d (by omega)]
def rn_AC (b : Nat) (c k : Nat) : Prop := (c = 21 ∧ k = 16) ∨ (26 ≤ c ∧ c ≤ 28) ∨ (c = 25 ∧ k < b)
def rn_AR (D : Nat) (c k : Nat) : Prop := (c = 0 ∧ k = 30) ∨ c = 20 ∨ c = 22 ∨ (c = 23 ∧ k ≠ D) ∨ (c = 21 ∧ k < 10 * D)
/-- what a pop or a push leaves alone -/
def rn_PC (c k : Nat) : Prop := ¬ (c = 25 ∨ (c = 21 ∧ k = 17))
def rn_PR (c k : Nat) : Prop := ¬ (c = 21 ∨ c = 23)
section RN1
variable {D h m b : Nat} {n c : Nat → Nat} {σ τ u v : rt_St}
theorem rn_S.put (H : rn_S D n h c σ τ) (hm : m ≤ 10) (hu : rq_A (rn_AC (rn_B n D)) σ u) (hv : rq_A (rn_AR D) τ v) (e1 : u 21 17 = nI (rn_B n D + m)) (e2 : v 23 D = nI m) (e3 : ∀ i, i < m → rn_e (u 25 (rn_B n D + i)) (v 21 (10 * D + i))) : rn_S D n m c u v := by
  obtain ⟨⟨a1, a2, a3⟩, ⟨b1, b2⟩, -, c1, c2, d1, -, d3, d4⟩ := H
  refine ⟨⟨a1, hm, a3⟩, ⟨?_, ?_⟩, ⟨e1, e2⟩, fun d hd => ?_, fun d hd => ?_, fun d h1 h2 => ⟨?_, ?_⟩, e3, fun d i hd hi => ?_, fun d i hd hi => ?_⟩
  · rw [hu 21 16 (by unfold rn_AC; omega)]; exact b1
  · rw [hv 0 30 (by unfold rn_AR; omega)]; exact b2
  · rw [hu 27 d (by unfold rn_AC; omega)]; exact c1 d hd
  · rw [hv 23 d (by unfold rn_AR; omega)]; exact c2 d hd
  · rw [hu 28 d (by unfold rn_AC; omega)]; exact (d1 d h1 h2).1
  · rw [hv 20 d (by unfold rn_AR; omega)]; exact (d1 d h1 h2).2
  · have q := rn_B_lt (n := n) (d := d) (D - d - 1)
    rw [show d + 1 + (D - d - 1) = D by omega] at q
    have q2 := a3 d hd
    rw [hu 25 _ (by unfold rn_AC; omega), hv 21 _ (by unfold rn_AR; omega)]
    exact d3 d i hd hi
  · rw [hu 26 _ (by unfold rn_AC; omega), hv 22 _ (by unfold rn_AR; omega)]
    exact d4 d i hd hi
theorem rn_S.kp (H : rn_S D n h c σ τ) (hu : ∀ a k, (a = 21 ∧ (k = 16 ∨ k = 17)) ∨ (25 ≤ a ∧ a ≤ 28) → u a k = σ a k) (hv : ∀ a k, (a = 0 ∧ k = 30) ∨ (20 ≤ a ∧ a ≤ 23) → v a k = τ a k) : rn_S D n h c u v := by
  refine H.put H.1.2.1 (fun a k q => hu a k (by unfold rn_AC at q; omega)) (fun a k q => hv a k (by unfold rn_AR at q; omega)) ?_ ?_ (fun i hi => ?_)
  · rw [hu 21 17 (by omega)]; exact H.2.2.1.1
  · rw [hv 23 D (by omega)]; exact H.2.2.1.2
  · rw [hu 25 _ (by omega), hv 21 _ (by omega)]; exact H.2.2.2.2.2.2.1 i hi
theorem rn_pop (H : rn_S D n (m + 1) c σ τ) : ∃ b u v, b < 64 ∧ M_C_Runner_pop σ = some (nI b, u) ∧ M_R_RangeTellerModel_pop τ = some (nI b, v) ∧ rn_S D n m c u v ∧ rq_A rn_PC σ u ∧ rq_A rn_PR τ v ∧ σ 25 (rn_B n D + m) = nI b ∧ τ 21 (10 * D + m) = nI b := by
  have H0 := H
  obtain ⟨⟨a1, a2, a3⟩, ⟨b1, b2⟩, ⟨b3, b4⟩, c1, c2, d1, d2, d3, d4⟩ := H
  obtain ⟨b, hb, e1, e2⟩ := d2 m (by omega)
  have hB := rn_B_le a3 D (Nat.le_refl _)
  refine ⟨b, rt_up σ 21 17 (nI (rn_B n D + m)), rt_up τ 23 D (nI m), hb, ?_, ?_, ?_, ?_, ?_, e1, e2⟩
  · unfold M_C_Runner_pop
    rw [b3, show rn_B n D + (m + 1) = (rn_B n D + m) + 1 from rfl, nI_pred, rq_put, rq_b, rq_rd (n := 70) (i := rn_B n D + m) rq_s (by omega) (by decide), rq_b, rq_c (by decide), e1]
  · have e3 : (rt_up τ 23 D (nI m)) 0 30 = nI D := by rw [rq_c (by decide)]; exact b2
    unfold M_R_RangeTellerModel_pop
    rw [rq_rd (n := 8) b2 (by omega) (by decide), rq_b, b4, nI_pred, rq_wr (n := 8) b2 (by omega) (by decide), rq_b, rq_rd (n := 8) e3 (by omega) (by decide), rq_b, rq_s, e3, rq_rd (n := 80) (i := 10 * D + m) (by rw [show (10 : Int32) = nI 10 from rfl, pk_mul, nI_add]) (by omega) (by decide), rq_b, rq_c (by decide), e2]
  · refine H0.put (by omega) (rq_A.rf.up (by unfold rn_AC; omega)) (rq_A.rf.up (by unfold rn_AR; omega)) rq_s rq_s (fun i hi => ?_)
    rw [rq_c (by decide), rq_c (by decide)]; exact d2 i (by omega)
  · exact rq_A.rf.up (by unfold rn_PC; omega)
  · exact rq_A.rf.up (by unfold rn_PR; omega)
theorem rn_and {b : Nat} (hb : b < 64) : nI b &&& 63 = nI b := by
  rw [pk_andN (by omega) 6 (by decide), Nat.mod_eq_of_lt hb]
theorem rn_push (H : rn_S D n m c σ τ) (hm : m + 1 ≤ 10) (hb : b < 64) : ∃ u v, M_C_Runner_push σ (nI b) = some u ∧ M_R_RangeTellerModel_push τ (nI b) = some v ∧ rn_S D n (m + 1) c u v ∧ rq_A rn_PC σ u ∧ rq_A rn_PR τ v := by
  have H0 := H
  obtain ⟨⟨a1, a2, a3⟩, ⟨b1, b2⟩, ⟨b3, b4⟩, c1, c2, d1, d2, d3, d4⟩ := H
  have hB := rn_B_le a3 D (Nat.le_refl _)
  refine ⟨rt_up (rt_up σ 25 (rn_B n D + m) (nI b)) 21 17 (nI (rn_B n D + m + 1)), rt_up (rt_up τ 21 (10 * D + m) (nI b)) 23 D (nI (m + 1)), ?_, ?_, ?_, ?_, ?_⟩
  · unfold M_C_Runner_push
    rw [rq_wr (n := 70) b3 (by omega) (by decide), rq_b, rq_put, rq_b, rq_c (by decide), b3, nI_1]
  · have e3 : (rt_up τ 21 (10 * D + m) (nI b)) 0 30 = nI D := by rw [rq_c (by decide)]; exact b2
    have e4 : (rt_up τ 21 (10 * D + m) (nI b)) 23 D = nI m := by rw [rq_c (by decide)]; exact b4
    unfold M_R_RangeTellerModel_push
    rw [rq_rd (n := 8) b2 (by omega) (by decide), rq_b, b4, b2, rq_wr (n := 80) (i := 10 * D + m) (by rw [show (10 : Int32) = nI 10 from rfl, pk_mul, nI_add]) (by omega) (by decide), rq_b, rn_and hb, rq_rd (n := 8) e3 (by omega) (by decide), rq_b, e4, rq_wr (n := 8) e3 (by omega) (by decide), rq_b, nI_1]
  · refine H0.put hm ((rq_A.rf.up (by unfold rn_AC; omega)).up (by unfold rn_AC; omega)) ((rq_A.rf.up (by unfold rn_AR; omega)).up (by unfold rn_AR; omega)) rq_s rq_s (fun i hi => ?_)
    rw [rq_c (c := 21) (by decide), rq_c (c := 23) (by decide)]
    by_cases e : i = m
    · subst e; rw [rq_s, rq_s]; exact ⟨b, hb, rfl, rfl⟩
    · rw [rq_k (by omega), rq_k (by omega)]; exact d2 i (by omega)
  · exact (rq_A.rf.up (by unfold rn_PC; omega)).up (by unfold rn_PC; omega)
  · exact (rq_A.rf.up (by unfold rn_PR; omega)).up (by unfold rn_PR; omega)
/-- a variable is written -/
theorem rn_S.var {i : Nat} (H : rn_S D n h c σ τ) (hi : i < 4) (hb : b < 64) : rn_S D n h c (rt_up σ 26 (4 * D + i) (nI b)) (rt_up τ 22 (4 * D + i) (nI b)) := by
  obtain ⟨a, ⟨b1, b2⟩, ⟨b3, b4⟩, c1, c2, d1, d2, d3, d4⟩ := H
  refine ⟨a, ⟨by rw [rq_c (by decide)]; exact b1, by rw [rq_c (by decide)]; exact b2⟩, ⟨by rw [rq_c (by decide)]; exact b3, by rw [rq_c (by decide)]; exact b4⟩, fun d hd => by rw [rq_c (by decide)]; exact c1 d hd, fun d hd => by rw [rq_c (by decide)]; exact c2 d hd, fun d h1 h2 => by rw [rq_c (by decide), rq_c (by decide)]; exact d1 d h1 h2, fun i hi => by rw [rq_c (by decide), rq_c (by decide)]; exact d2 i hi, fun d i hd hi => by rw [rq_c (by decide), rq_c (by decide)]; exact d3 d i hd hi, fun d j hd hj => ?_⟩
  by_cases e : 4 * d + j = 4 * D + i
  · rw [e, rq_s, rq_s]; exact ⟨b, hb, rfl, rfl⟩
  · rw [rq_k e, rq_k e]; exact d4 d j hd hj
end RN1
/-- the two-number ops -/
theorem rn_minus : ∀ p, p < 64 → ∀ q, q < 64 → (nI p - nI q) &&& 63 = nI ((p + 64 - q) % 64) ∧ (nI p - nI q) + 64 = nI (p + 64 - q) := by decide +kernel
theorem rn_and2 {p q : Nat} (hq : q < 64) : ∃ r, r < 64 ∧ nI p &&& nI q = nI r := by
  obtain ⟨j, hj, e⟩ := pk_andE (nI p &&& nI q) (m := 63) 6 (by decide)
  refine ⟨j, hj, ?_⟩
  rw [← e, Int32.and_assoc, rn_and hq]
theorem rn_rk {o p q : Nat} (h1 : 19 ≤ o) (h2 : o ≤ 26) (hp : p < 64) (hq : q < 64) (hz : o = 24 ∨ o = 25 → q ≠ 0) : ∃ r, r < 64 ∧ M_C_Runner_reckoned (nI o) (nI p) (nI q) = some (nI r) ∧ M_R_RangeTellerModel_operate (nI o) (nI p) (nI q) = some (nI r) := by
  have ne : ∀ j : Nat, j < 100 → o ≠ j → ¬ nI o = nI j := fun j hj h e => h ((nI_eq (by omega) (by omega)).mp e)
  have rem : ∀ x, x < 100000 → rt_rem (nI x) 64 = some (nI (x % 64)) := fun x hx => by
    unfold rt_rem
    rw [if_neg (by decide)]
    exact congrArg some (pk_rem (d := 64) (by omega) (by decide) (by decide))
  have an : ∀ x, x < 100000 → nI x &&& 63 = nI (x % 64) := fun x hx => pk_andN (by omega) 6 (by decide)
  have mul : p * q ≤ 63 * 63 := Nat.mul_le_mul (by omega) (by omega)
  unfold M_C_Runner_reckoned M_R_RangeTellerModel_operate
  by_cases c : o = 19
  · subst c
    rw [if_pos (show nI 19 = 19 from rfl), if_pos (show nI 19 = 19 from rfl)]
    by_cases e : nI p = nI q
    · rw [if_pos e]; exact ⟨1, by decide, rfl, rfl⟩
    · rw [if_neg e]; exact ⟨0, by decide, rfl, rfl⟩
  rw [if_neg (show ¬ nI o = 19 from ne 19 (by decide) c), if_neg (show ¬ nI o = 19 from ne 19 (by decide) c)]
  by_cases c : o = 20
  · subst c
    rw [if_pos (show nI 20 = 20 from rfl), if_pos (show nI 20 = 20 from rfl)]
    by_cases e : nI q ≤ nI p
    · rw [if_pos e]; exact ⟨0, by decide, rfl, rfl⟩
    · rw [if_neg e]; exact ⟨1, by decide, rfl, rfl⟩
  rw [if_neg (show ¬ nI o = 20 from ne 20 (by decide) c), if_neg (show ¬ nI o = 20 from ne 20 (by decide) c)]
  by_cases c : o = 21
  · subst c
    rw [if_pos (show nI 21 = 21 from rfl), if_pos (show nI 21 = 21 from rfl), nI_add, rem _ (by omega), rq_b, an _ (by omega)]
    exact ⟨_, Nat.mod_lt _ (by decide), rfl, rfl⟩
  rw [if_neg (show ¬ nI o = 21 from ne 21 (by decide) c), if_neg (show ¬ nI o = 21 from ne 21 (by decide) c)]
  by_cases c : o = 22
  · subst c
    obtain ⟨m1, m2⟩ := rn_minus p hp q hq
    rw [if_pos (show nI 22 = 22 from rfl), if_pos (show nI 22 = 22 from rfl), m1, m2, rem _ (by omega), rq_b]
    exact ⟨_, Nat.mod_lt _ (by decide), rfl, rfl⟩
  rw [if_neg (show ¬ nI o = 22 from ne 22 (by decide) c), if_neg (show ¬ nI o = 22 from ne 22 (by decide) c)]
  by_cases c : o = 23
  · subst c
    rw [if_pos (show nI 23 = 23 from rfl), if_pos (show nI 23 = 23 from rfl), pk_mul, rem _ (by omega), rq_b, an _ (by omega)]
    exact ⟨_, Nat.mod_lt _ (by decide), rfl, rfl⟩
  rw [if_neg (show ¬ nI o = 23 from ne 23 (by decide) c), if_neg (show ¬ nI o = 23 from ne 23 (by decide) c)]
  by_cases c : o = 24
  · subst c
    have q0 : ¬ nI q = 0 := nI_ne0 (by have := hz (Or.inl rfl); omega) (by omega)
    have dv : rt_div (nI p) (nI q) = some (nI (p / q)) := by
      unfold rt_div
      rw [if_neg q0, pk_div (by omega) (by have := hz (Or.inl rfl); omega) (by omega)]
    rw [if_pos (show nI 24 = 24 from rfl), if_pos (show nI 24 = 24 from rfl), if_neg q0, dv, rq_b]
    exact ⟨p / q, Nat.lt_of_le_of_lt (Nat.div_le_self _ _) hp, rfl, rfl⟩
  rw [if_neg (show ¬ nI o = 24 from ne 24 (by decide) c), if_neg (show ¬ nI o = 24 from ne 24 (by decide) c)]
  by_cases c : o = 25
  · subst c
    have q0 : ¬ nI q = 0 := nI_ne0 (by have := hz (Or.inr rfl); omega) (by omega)
    have dv : rt_rem (nI p) (nI q) = some (nI (p % q)) := by
      unfold rt_rem
      rw [if_neg q0, pk_rem (by omega) (by have := hz (Or.inr rfl); omega) (by omega)]
    rw [if_pos (show nI 25 = 25 from rfl), if_pos (show nI 25 = 25 from rfl), if_neg q0, dv, rq_b]
    exact ⟨p % q, Nat.lt_of_le_of_lt (Nat.mod_le _ _) hp, rfl, rfl⟩
  rw [if_neg (show ¬ nI o = 25 from ne 25 (by decide) c), if_neg (show ¬ nI o = 25 from ne 25 (by decide) c)]
  obtain ⟨r, hr, e⟩ := rn_and2 (p := p) hq
  rw [e]
  exact ⟨r, hr, rfl, rfl⟩
