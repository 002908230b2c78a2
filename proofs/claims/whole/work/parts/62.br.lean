/-! checking: where a branch leads -/
theorem ck_at {σ τ : rt_St} : ∀ {fr : List (Nat × Nat × Nat × Nat)} {a : Nat} {q : Nat × Nat × Nat × Nat}, ck_fr σ τ fr → fr[a]? = some q → a < fr.length ∧ (σ 18 (fr.length - 1 - a) = ck_o (-3) q.1 ∧ σ 19 (fr.length - 1 - a) = nI q.2.1) ∧ (τ 15 (fr.length - 1 - a) = ck_o (-1) q.1 ∧ τ 16 (fr.length - 1 - a) = nI q.2.1 ∧ τ 17 (fr.length - 1 - a) = nI q.2.2.1) ∧ q.2.1 ≤ 10 ∧ q.2.2.1 ≤ 1
  | [], a, q, _, h => by simp at h
  | p :: r, 0, q, hf, h => by
    obtain ⟨⟨a1, a2, a3⟩, ⟨b1, b2, b3, b4⟩, ⟨c1, c2, c3⟩, d1⟩ := hf
    have e : p = q := by simpa using h
    subst e
    refine ⟨by simp, ?_⟩
    rw [show (p :: r).length - 1 - 0 = r.length by simp]
    exact ⟨⟨a1, a2⟩, ⟨b1, b2, b3⟩, c1, c2⟩
  | p :: r, a + 1, q, hf, h => by
    have h2 : r[a]? = some q := by simpa using h
    obtain ⟨e1, e2⟩ := ck_at hf.2.2.2 h2
    refine ⟨by simp; omega, ?_⟩
    rw [show (p :: r).length - 1 - (a + 1) = r.length - 1 - a by simp; omega]
    exact e2
/-- what a branch to a frame needs, and where it goes (0: it leaves the function) -/
def ck_nd (op : Nat → Nat) (q : Nat × Nat × Nat × Nat) : Nat := if q.1 = 0 then q.2.2.1 else if op (q.1 - 1) = 2 then 0 else q.2.2.1
def ck_gl (op en : Nat → Nat) (q : Nat × Nat × Nat × Nat) : Int32 := if q.1 = 0 then -1 else nI ((if op (q.1 - 1) = 2 then q.1 - 1 else en (q.1 - 1)) + 1)
section CKB
variable {N F k hh : Nat} {op ar ow en el pa lo re fs : Nat → Nat} {σ τ : rt_St} {fr : List (Nat × Nat × Nat × Nat)} {q : Nat × Nat × Nat × Nat}
theorem ck_brC (hT : rq_T N op ar ow en el σ τ) (hN : N ≤ 100) (hk : k < N) (h4 : σ 17 4 = nI fr.length - 1) (hfr : ck_fr σ τ fr) (hl : fr.length ≤ 101) (hq : fr[ar k]? = some q) (hq0 : q.1 = 0 → q.2.2.1 = re (ow k)) (hq1 : q.1 ≠ 0 → q.1 - 1 < N ∧ ar (q.1 - 1) = q.2.2.1 ∧ (op (q.1 - 1) ≠ 2 → en (q.1 - 1) ≠ 0)) :
    M_C_Checker_checkBranch σ (nI k) (nI (re (ow k))) = B_C_Checker_checkBranch_112 (nI k) (nI (fr.length - 1 - ar k)) (nI (ck_nd op q)) (ck_gl op en q) σ := by
  obtain ⟨⟨s2, s3, s4, s5, s6⟩, -, o1, o2, o3, o4⟩ := hT k hk
  obtain ⟨e0, ⟨e1, e2⟩, -, -, -⟩ := ck_at hfr hq
  have ei : σ 17 4 - nI (ar k) = nI (fr.length - 1 - ar k) := by
    rw [h4, show nI fr.length - 1 = nI (fr.length - 1) from pk_sub (b := 1) (by omega), pk_sub (by omega)]
  unfold M_C_Checker_checkBranch
  rw [rq_rd (n := 100) rfl (by omega) (by decide), rq_b, s3, ei, if_pos (show 0 ≤ nI (fr.length - 1 - ar k) from nI_pos' (by omega)), rq_rd (n := 101) rfl (by omega) (by decide), rq_b, e1]
  by_cases c0 : q.1 = 0
  · unfold ck_o ck_nd ck_gl
    rw [if_pos c0, if_pos rfl, if_pos c0, if_pos c0, hq0 c0]
  · obtain ⟨x1, x2, x3⟩ := hq1 c0
    obtain ⟨⟨y2, y3, -, y5, -⟩, -, y7, -, y8, -⟩ := hT (q.1 - 1) x1
    unfold ck_o ck_nd ck_gl
    rw [if_neg c0, if_neg (rq_n3 (by omega)), if_neg c0, if_neg c0, rq_rd (n := 100) rfl (by omega) (by decide), rq_b, y2]
    by_cases c1 : op (q.1 - 1) = 2
    · rw [if_pos (show nI (op (q.1 - 1)) = 2 by rw [c1]; rfl), if_pos c1, if_pos c1]
      unfold B_C_Checker_checkBranch_65 B_C_Checker_checkBranch_86 B_C_Checker_checkBranch_108
      rw [if_neg (show ¬ (1 : Int32) = 0 by decide), if_neg (show ¬ (1 : Int32) = 0 by decide), nI_1]
      rfl
    · rw [if_neg (show ¬ nI (op (q.1 - 1)) = 2 from ck_ne (c := 2) c1 (by omega) (by decide)), if_neg c1, if_neg c1]
      unfold B_C_Checker_checkBranch_65
      rw [if_pos rfl, rq_rd (n := 100) rfl (by omega) (by decide), rq_b, y3, x2]
      unfold B_C_Checker_checkBranch_86
      rw [if_pos rfl, rq_rd (n := 100) rfl (by omega) (by decide), rq_b, y5, rq_e1 (x3 c1)]
      unfold B_C_Checker_checkBranch_108
      rw [nI_1]
theorem ck_brR (hT : rq_T N op ar ow en el σ τ) (hN : N ≤ 100) (hk : k < N) {w : rt_St} (hw : ∀ c j, (c = 2 ∨ c = 15 ∨ c = 16 ∨ c = 17) → w c j = τ c j) (h4 : w 0 21 = nI fr.length) (hfr : ck_fr σ τ fr) (hl : fr.length ≤ 101) {a : Nat} (ha : a < 64) (hq : fr[a]? = some q) (hq1 : q.1 ≠ 0 → q.1 - 1 < N) :
    M_R_RangeTellerModel_needs w (nI k) (nI a) = some (nI (ck_nd op q), ck_jr w k (ck_o (-1) q.1) (nI q.2.1) (nI (ck_nd op q))) := by
  obtain ⟨e0, -, ⟨e1, e2, e3⟩, -, -⟩ := ck_at hfr hq
  have ei : w 0 21 - 1 - nI a = nI (fr.length - 1 - a) := by
    rw [h4, show nI fr.length - 1 = nI (fr.length - 1) from pk_sub (b := 1) (by omega), pk_sub (by omega)]
  have k44 : ∀ (v1 t0 nd : Int32), (t0 = 0 ∧ nd = nI q.2.2.1) ∨ (t0 = 1 ∧ nd = 0) → B_R_RangeTellerModel_needs_44 (nI k) (nI (fr.length - 1 - a)) v1 t0 w = some (nd, ck_jr w k v1 (nI q.2.1) nd) := by
    intro v1 t0 nd h
    have g1 : (rt_up w 8 k v1) 16 (fr.length - 1 - a) = nI q.2.1 := by rw [rq_c (by decide), hw 16 _ (by decide)]; exact e2
    have g2 : (rt_up (rt_up w 8 k v1) 9 k (nI q.2.1)) 17 (fr.length - 1 - a) = nI q.2.2.1 := by rw [rq_c (by decide), rq_c (by decide), hw 17 _ (by decide)]; exact e3
    unfold B_R_RangeTellerModel_needs_44
    rw [rq_wr (n := 100) rfl (by omega) (by decide), rq_b, rq_rd (n := 101) rfl (by omega) (by decide), rq_b, g1, rq_wr (n := 100) rfl (by omega) (by decide), rq_b]
    rcases h with ⟨h1, h2⟩ | ⟨h1, h2⟩
    · rw [if_pos h1, rq_rd (n := 101) rfl (by omega) (by decide), rq_b, g2, h2]
      unfold B_R_RangeTellerModel_needs_86 ck_jr
      rw [rq_wr (n := 100) rfl (by omega) (by decide), rq_b, rq_rd (n := 100) rfl (by omega) (by decide), rq_b, rq_s]
    · rw [if_neg (show ¬ t0 = 0 by rw [h1]; decide), h2]
      unfold B_R_RangeTellerModel_needs_86 ck_jr
      rw [rq_wr (n := 100) rfl (by omega) (by decide), rq_b, rq_rd (n := 100) rfl (by omega) (by decide), rq_b, rq_s]
  unfold M_R_RangeTellerModel_needs
  rw [ei, if_pos (show 0 ≤ nI (fr.length - 1 - a) from nI_pos' (by omega)), rq_rd (n := 101) rfl (by omega) (by decide), rq_b, hw 15 _ (by decide), e1]
  by_cases c0 : q.1 = 0
  · have e : ck_o (-1) q.1 = -1 := if_pos c0
    have e' : ck_nd op q = q.2.2.1 := if_pos c0
    rw [e, e', if_pos (by decide)]
    unfold B_R_RangeTellerModel_needs_43
    exact k44 _ _ _ (Or.inl ⟨rfl, rfl⟩)
  · have x1 := hq1 c0
    obtain ⟨-, ⟨y2, -⟩, y7, -⟩ := hT (q.1 - 1) x1
    have e : ck_o (-1) q.1 = nI (q.1 - 1) := if_neg c0
    rw [e, if_neg (nI_pos (by omega)), rq_rd (n := 100) rfl (by omega) (by decide), rq_b, hw 2 _ (by decide), y2]
    by_cases c1 : op (q.1 - 1) = 2
    · have e' : ck_nd op q = 0 := by unfold ck_nd; rw [if_neg c0, if_pos c1]
      rw [if_pos (show nI (op (q.1 - 1)) = 2 by rw [c1]; rfl), e']
      exact k44 _ _ _ (Or.inr ⟨rfl, rfl⟩)
    · have e' : ck_nd op q = q.2.2.1 := by unfold ck_nd; rw [if_neg c0, if_neg c1]
      rw [if_neg (show ¬ nI (op (q.1 - 1)) = 2 from ck_ne (c := 2) c1 (by omega) (by decide)), e']
      unfold B_R_RangeTellerModel_needs_43
      exact k44 _ _ _ (Or.inl ⟨rfl, rfl⟩)
end CKB
