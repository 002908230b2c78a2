/-! running: what stops a run; jumps, calls and returns -/
theorem rn_n1 {x : Nat} (h : x < 2147483648) : ¬ nI x = -1 := fun e => absurd (congrArg Int32.toInt e) (by rw [nI_toInt h]; show ¬ (x : Int) = -1; omega)
def rn_J1 (X c j : Nat) : Prop := ¬ (c = 25 ∧ j = X)
def rn_J2 (X c j : Nat) : Prop := ¬ ((c = 25 ∧ j = X) ∨ (c = 21 ∧ (j = 17 ∨ j = 9)))
def rn_J3 (D b c j : Nat) : Prop := ¬ ((c = 21 ∧ j = 10 * D + b) ∨ (c = 23 ∧ j = D) ∨ (c = 0 ∧ j = 36))
section RN3
variable {D h m a b k p g o X : Nat} {n c : Nat → Nat} {σ τ u v w : rt_St}
theorem rn_trap0 (H : rn_S D n h c σ τ) (hk : k < 100) (ho : o < 29) (e2 : τ 2 k = nI o) (h0 : o ≠ 0) (h15 : o ≠ 15) (h16 : o ≠ 16) (h24 : o ≠ 24) (h25 : o ≠ 25) (h9 : o = 9 → D ≠ 6) : M_R_RangeTellerModel_trap τ (nI k) = some (0, τ) := by
  have ne : ∀ j : Nat, j < 100 → o ≠ j → ¬ nI o = nI j := fun j hj h e => h ((nI_eq (by omega) (by omega)).mp e)
  have hD := H.1.1
  unfold M_R_RangeTellerModel_trap B_R_RangeTellerModel_trap_57 B_R_RangeTellerModel_trap_85 B_R_RangeTellerModel_trap_108
  rw [rq_rd (n := 8) H.2.1.2 (by omega) (by decide), rq_b, rq_rd (n := 100) rfl hk (by decide), rq_b, e2, if_neg (show ¬ nI o = 0 from ne 0 (by decide) h0), if_neg (show ¬ nI o = 15 from ne 15 (by decide) h15), if_neg (show ¬ nI o = 16 from ne 16 (by decide) h16), if_neg (show ¬ nI o = 24 from ne 24 (by decide) h24), if_neg (show ¬ nI o = 25 from ne 25 (by decide) h25)]
  by_cases z : o = 9
  · rw [if_pos (show nI o = 9 by rw [z]; rfl), H.2.1.2, if_neg (show ¬ nI D = 6 from fun e => h9 z ((nI_eq (b := 6) (by omega) (by decide)).mp e))]
  · rw [if_neg (show ¬ nI o = 9 from ne 9 (by decide) z)]
theorem rn_trap1 (H : rn_S D n h c σ τ) (hk : k < 100) (e2 : τ 2 k = nI 0) : M_R_RangeTellerModel_trap τ (nI k) = some (1, τ) := by
  have hD := H.1.1
  unfold M_R_RangeTellerModel_trap
  rw [rq_rd (n := 8) H.2.1.2 (by omega) (by decide), rq_b, rq_rd (n := 100) rfl hk (by decide), rq_b, e2, if_pos (show nI 0 = 0 from rfl)]
theorem rn_trap9 (H : rn_S 6 n h c σ τ) (hk : k < 100) (e2 : τ 2 k = nI 9) : M_R_RangeTellerModel_trap τ (nI k) = some (4, τ) := by
  unfold M_R_RangeTellerModel_trap B_R_RangeTellerModel_trap_57 B_R_RangeTellerModel_trap_85 B_R_RangeTellerModel_trap_108
  rw [rq_rd (n := 8) H.2.1.2 (by omega) (by decide), rq_b, rq_rd (n := 100) rfl hk (by decide), rq_b, e2, if_neg (by decide), if_neg (by decide), if_neg (by decide), if_neg (by decide), if_neg (by decide), if_pos (show nI 9 = 9 from rfl), if_pos (show τ 0 30 = 6 from H.2.1.2)]
theorem rn_trap15 (H : rn_S D n (m + 1) c σ τ) (hk : k < 100) (e2 : τ 2 k = nI 15) (e3 : τ 3 k = nI a) (ha : a < 64) (hb : b < 64) (y : τ 21 (10 * D + m) = nI b) : M_R_RangeTellerModel_trap τ (nI k) = some (if b + a < 16 then 0 else 2, τ) := by
  have hD := H.1.1
  have hm := H.1.2.1
  unfold M_R_RangeTellerModel_trap B_R_RangeTellerModel_trap_57 B_R_RangeTellerModel_trap_85 B_R_RangeTellerModel_trap_108
  rw [rq_rd (n := 8) H.2.1.2 (by omega) (by decide), rq_b, H.2.2.1.2, rq_rd (n := 100) rfl hk (by decide), rq_b, e2, if_neg (by decide), if_pos (show nI 15 = 15 from rfl), rq_rd (n := 80) (i := 10 * D + m) (by rw [H.2.1.2, show (10 : Int32) = nI 10 from rfl, pk_mul, nI_add, show 10 * D + (m + 1) = (10 * D + m) + 1 from rfl, nI_pred]) (by omega) (by decide), rq_b, y, rq_rd (n := 100) rfl hk (by decide), rq_b, e3, nI_add]
  by_cases z : b + a < 16
  · rw [if_neg (show ¬ 15 < nI (b + a) from nI_nlt (a := 15) (by omega) (by decide)), if_neg (by decide), if_neg (by decide), if_neg (by decide), if_neg (by decide), if_pos z]
  · rw [if_pos (show 15 < nI (b + a) from nI_lt (a := 15) (by omega) (by omega)), if_neg z]
theorem rn_trap16 (H : rn_S D n (m + 1 + 1) c σ τ) (hk : k < 100) (e2 : τ 2 k = nI 16) (e3 : τ 3 k = nI a) (ha : a < 64) (hb : b < 64) (y : τ 21 (10 * D + m) = nI b) : M_R_RangeTellerModel_trap τ (nI k) = some (if b + a < 16 then 0 else 2, τ) := by
  have hD := H.1.1
  have hm := H.1.2.1
  unfold M_R_RangeTellerModel_trap B_R_RangeTellerModel_trap_57 B_R_RangeTellerModel_trap_85 B_R_RangeTellerModel_trap_108
  rw [rq_rd (n := 8) H.2.1.2 (by omega) (by decide), rq_b, H.2.2.1.2, rq_rd (n := 100) rfl hk (by decide), rq_b, e2, if_neg (by decide), if_neg (by decide), if_pos (show nI 16 = 16 from rfl), rq_rd (n := 80) (i := 10 * D + m) (by rw [H.2.1.2, show (10 : Int32) = nI 10 from rfl, pk_mul, nI_add, show 10 * D + (m + 1 + 1) = (10 * D + m + 1) + 1 from rfl, nI_pred, nI_pred]) (by omega) (by decide), rq_b, y, rq_rd (n := 100) rfl hk (by decide), rq_b, e3, nI_add]
  by_cases z : b + a < 16
  · rw [if_pos (show nI (b + a) ≤ 15 from nI_le (b := 15) (by omega) (by decide)), if_neg (by decide), if_neg (by decide), if_neg (by decide), if_pos z]
  · rw [if_neg (show ¬ nI (b + a) ≤ 15 from nI_ge (a := 15) (by omega) (by omega)), if_neg z]
theorem rn_trap24 (H : rn_S D n (m + 1) c σ τ) (hk : k < 100) (ho : o = 24 ∨ o = 25) (e2 : τ 2 k = nI o) : M_R_RangeTellerModel_trap τ (nI k) = some (if τ 21 (10 * D + m) = 0 then 3 else 0, τ) := by
  have hD := H.1.1
  have hm := H.1.2.1
  have ne : ∀ j : Nat, j < 100 → o ≠ j → ¬ nI o = nI j := fun j hj h e => h ((nI_eq (by omega) (by omega)).mp e)
  have fin : B_R_RangeTellerModel_trap_97 (10 * τ 0 30 + τ 23 D - 1) (nI o) τ = some (if τ 21 (10 * D + m) = 0 then 3 else 0, τ) := by
    unfold B_R_RangeTellerModel_trap_97 B_R_RangeTellerModel_trap_108
    rw [rq_rd (n := 80) (i := 10 * D + m) (by rw [H.2.2.1.2, H.2.1.2, show (10 : Int32) = nI 10 from rfl, pk_mul, nI_add, show 10 * D + (m + 1) = (10 * D + m) + 1 from rfl, nI_pred]) (by omega) (by decide), rq_b]
    by_cases z : τ 21 (10 * D + m) = 0
    · rw [if_pos z, if_pos z]
    · rw [if_neg z, if_neg z, if_neg (show ¬ nI o = 9 from ne 9 (by decide) (by omega))]
  unfold M_R_RangeTellerModel_trap B_R_RangeTellerModel_trap_57 B_R_RangeTellerModel_trap_85
  rw [rq_rd (n := 8) H.2.1.2 (by omega) (by decide), rq_b, rq_rd (n := 100) rfl hk (by decide), rq_b, e2, if_neg (show ¬ nI o = 0 from ne 0 (by decide) (by omega)), if_neg (show ¬ nI o = 15 from ne 15 (by decide) (by omega)), if_neg (show ¬ nI o = 16 from ne 16 (by decide) (by omega)), fin]
  by_cases z : o = 24
  · rw [if_pos (show nI o = 24 by rw [z]; rfl)]
  · rw [if_neg (show ¬ nI o = 24 from ne 24 (by decide) z), if_pos (show nI o = 25 by rw [show o = 25 by omega]; rfl)]
/-! the class's jump -/
theorem rn_jumpC1 (H : rn_S D n h c σ τ) (hk : k < 100) (e8 : σ 8 k = nI b) (e9 : σ 9 k = nI p) (hp : p ≤ 1) (hb : b + p ≤ h) : ∃ w, M_C_Runner_jump σ (nI k) = B_C_Runner_jump_50 (nI k) (nI (rn_B n D + b)) w ∧ rq_A (rn_J1 (rn_B n D + b)) σ w ∧ (p = 1 → w 25 (rn_B n D + b) = σ 25 (rn_B n D + (h - 1))) := by
  obtain ⟨⟨a1, a2, a3⟩, ⟨b1, b2⟩, ⟨b3, b4⟩, c1, -⟩ := H
  have hB := rn_B_le a3 D (Nat.le_refl _)
  unfold M_C_Runner_jump
  rw [rq_rd (n := 7) b1 (by omega) (by decide), rq_b, c1 D (Nat.le_refl _), rq_rd (n := 100) rfl hk (by decide), rq_b, e8, nI_add, rq_rd (n := 100) rfl hk (by decide), rq_b, e9]
  by_cases z : p = 1
  · subst z
    rw [if_pos (show nI 1 = 1 from rfl), rq_rd (n := 70) (i := rn_B n D + (h - 1)) (by rw [b3, show rn_B n D + h = (rn_B n D + (h - 1)) + 1 by omega, nI_pred]) (by omega) (by decide), rq_b, rq_wr (n := 70) rfl (by omega) (by decide), rq_b]
    exact ⟨_, rfl, rq_A.rf.up (fun q => q ⟨rfl, rfl⟩), fun _ => rq_s⟩
  · rw [if_neg (show ¬ nI p = 1 from fun e => z ((nI_eq (b := 1) (by omega) (by decide)).mp e))]
    exact ⟨σ, rfl, rq_A.rf, fun e => absurd e z⟩
theorem rn_jump50 (hk : k < 100) (e9 : w 9 k = nI p) (e7 : w 7 k = nI g) (hg : g < 1000) : B_C_Runner_jump_50 (nI k) (nI X) w = some (rt_up (rt_up w 21 17 (nI (X + p))) 21 9 (nI g)) := by
  have e7' : (rt_up w 21 17 (nI (X + p))) 7 k = nI g := by rw [rq_c (by decide)]; exact e7
  unfold B_C_Runner_jump_50
  rw [rq_rd (n := 100) rfl hk (by decide), rq_b, e9, nI_add, rq_put, rq_b, rq_rd (n := 100) rfl hk (by decide), rq_b, e7', if_neg (rn_n1 (by omega)), rq_b, rq_put, rq_b]
theorem rn_leave50 (hk : k < 100) (e9 : w 9 k = nI p) (e7 : w 7 k = -1) : B_C_Runner_jump_50 (nI k) (nI X) w = M_C_Runner_leave (rt_up w 21 17 (nI (X + p))) (nI p) := by
  have e7' : (rt_up w 21 17 (nI (X + p))) 7 k = -1 := by rw [rq_c (by decide)]; exact e7
  have e9' : (rt_up w 21 17 (nI (X + p))) 9 k = nI p := by rw [rq_c (by decide)]; exact e9
  unfold B_C_Runner_jump_50
  rw [rq_rd (n := 100) rfl hk (by decide), rq_b, e9, nI_add, rq_put, rq_b, rq_rd (n := 100) rfl hk (by decide), rq_b, e7', if_pos rfl, rq_rd (n := 100) rfl hk (by decide), rq_b, e9']
  cases M_C_Runner_leave (rt_up w 21 17 (nI (X + p))) (nI p) with
  | none => rfl
  | some x => rfl
/-- a jump inside a function, whoever the other side is -/
theorem rn_jumpC (H : rn_S D n h c σ τ) (hk : k < 100) (e8 : σ 8 k = nI b) (e9 : σ 9 k = nI p) (hp : p ≤ 1) (hb : b + p ≤ h) (e7 : σ 7 k = nI g) (hg : g < 1000) : ∃ u, M_C_Runner_jump σ (nI k) = some u ∧ rq_A (rn_J2 (rn_B n D + b)) σ u ∧ u 21 17 = nI (rn_B n D + (b + p)) ∧ u 21 9 = nI g ∧ (p = 1 → u 25 (rn_B n D + b) = σ 25 (rn_B n D + (h - 1))) := by
  obtain ⟨w, w1, w2, w3⟩ := rn_jumpC1 H hk e8 e9 hp hb
  have e9' : w 9 k = nI p := by rw [w2 9 k (by unfold rn_J1; omega)]; exact e9
  have e7' : w 7 k = nI g := by rw [w2 7 k (by unfold rn_J1; omega)]; exact e7
  refine ⟨_, w1.trans (rn_jump50 hk e9' e7' hg), ?_, ?_, rq_s, fun z => ?_⟩
  · exact ((w2.mono (fun c j q => by unfold rn_J2 at q; unfold rn_J1; omega)).up (by unfold rn_J2; omega)).up (by unfold rn_J2; omega)
  · rw [rq_k (by decide), rq_s, Nat.add_assoc]
  · rw [rq_c (by decide), rq_c (by decide)]; exact w3 z
/-- the picture behind a jump: the other side has the same operands -/
theorem rn_jumpS (H : rn_S D n h c σ τ) (hb : b + p ≤ h) (hp : p ≤ 1) (hu : rq_A (rn_J2 (rn_B n D + b)) σ u) (u17 : u 21 17 = nI (rn_B n D + (b + p))) (ut : p = 1 → u 25 (rn_B n D + b) = σ 25 (rn_B n D + (h - 1)))
    (hv : rq_A (rn_J3 D b) τ v) (v23 : v 23 D = nI (b + p)) (vt : p = 1 → v 21 (10 * D + b) = τ 21 (10 * D + (h - 1))) : rn_S D n (b + p) c u v := by
  have hh := H.1.2.1
  refine H.put (by omega) (hu.mono (fun c j q => by unfold rn_AC at q; unfold rn_J2; omega)) (hv.mono (fun c j q => by unfold rn_AR at q; unfold rn_J3; omega)) u17 v23 (fun i hi => ?_)
  by_cases z : i = b
  · subst z
    have p1 : p = 1 := by omega
    rw [ut p1, vt p1]
    exact H.2.2.2.2.2.2.1 (h - 1) (by omega)
  · rw [hu 25 _ (by unfold rn_J2; omega), hv 21 _ (by unfold rn_J3; omega)]
    exact H.2.2.2.2.2.2.1 i (by omega)
end RN3
