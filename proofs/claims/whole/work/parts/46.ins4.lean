/-! reading: one instruction, both sides -/
def rq_rw (w : rt_St) (N o f : Nat) : rt_St := rt_up (rt_up (rt_up (rt_up w 2 N (nI o)) 4 N (nI f)) 5 N (-1)) 6 N (-1)
/-- what becomes of the tables and of the frames that stand -/
def rq_Nx (o N : Nat) (st st' : List Nat) (op en en' el el' : Nat → Nat) (e : Nat) : Prop :=
  (1 ≤ o ∧ o ≤ 3 ∧ st' = N :: st ∧ en' = rq_U en N 0 ∧ el' = rq_U el N 0 ∧ e = 0) ∨
  (o = 4 ∧ e = 0 ∧ ∃ x r, st = x :: r ∧ op x = 3 ∧ el x = 0 ∧ st' = st ∧ en' = rq_U en N 0 ∧ el' = rq_U (rq_U el N 0) x N) ∨
  (o = 5 ∧ e = 0 ∧ ∃ x r, st = x :: r ∧ st' = r ∧ el' = rq_U el N 0 ∧ en' = (fun k => if k = x ∨ (el x ≠ 0 ∧ k = el x) then N else rq_U en N 0 k)) ∨
  (o = 5 ∧ e = 1 ∧ st = [] ∧ st' = [] ∧ en' = rq_U en N 0 ∧ el' = rq_U el N 0) ∨
  (¬ (1 ≤ o ∧ o ≤ 3) ∧ o ≠ 4 ∧ o ≠ 5 ∧ e = 0 ∧ st' = st ∧ en' = rq_U en N 0 ∧ el' = rq_U el N 0)
section RQ6
variable {n i f N o a : Nat} {b : Nat → Nat} {st : List Nat} {op ar ow en el : Nat → Nat} {σ τ u w : rt_St}
theorem rq_U_s {g : Nat → Nat} {v : Nat} : rq_U g N v N = v := if_pos rfl
theorem rq_U_n {g : Nat → Nat} {k v : Nat} (h : k ≠ N) : rq_U g N v k = g k := if_neg h
theorem rq_base (hT : rq_T N op ar ow en el σ τ) (hu : ∀ c k, 2 ≤ c → c ≤ 6 → u c k = σ c k) (hw : ∀ c k, 2 ≤ c → c ≤ 6 → w c k = rq_rw τ N o f c k) (ho : o < 29) (ha : a < 64) : rq_T (N + 1) (rq_U op N o) (rq_U ar N a) (rq_U ow N f) (rq_U en N 0) (rq_U el N 0) (rq_ca u N o a f) (rq_ra w N a) := by
  intro k hk
  by_cases hkN : k = N
  · subst hkN
    simp only [rq_U_s]
    refine ⟨⟨?_, ?_, ?_, ?_, ?_⟩, ⟨?_, ?_, ?_, ?_, ?_⟩, ho, ha, by omega, by omega⟩
    · simp [rq_ca, rq_if]
    · simp [rq_ca, rq_if]
    · simp [rq_ca, rq_if]
    · simp [rq_ca, rq_if, rq_e]
    · simp [rq_ca, rq_if, rq_e]
    · simp [rq_ra, rq_if, hw 2 k (by decide) (by decide), rq_rw]
    · simp [rq_ra, rq_if]
    · simp [rq_ra, rq_if, hw 4 k (by decide) (by decide), rq_rw]
    · simp [rq_ra, rq_if, hw 5 k (by decide) (by decide), rq_rw, rq_e]
    · simp [rq_ra, rq_if, hw 6 k (by decide) (by decide), rq_rw, rq_e]
  · obtain ⟨⟨a2, a3, a4, a5, a6⟩, ⟨b2, b3, b4, b5, b6⟩, c1, c2, c3, c4⟩ := hT k (by omega)
    simp only [rq_U_n hkN]
    refine ⟨⟨?_, ?_, ?_, ?_, ?_⟩, ⟨?_, ?_, ?_, ?_, ?_⟩, c1, c2, by omega, by omega⟩
    · simp [rq_ca, rq_if, hkN, hu 2 k (by decide) (by decide), a2]
    · simp [rq_ca, rq_if, hkN, hu 3 k (by decide) (by decide), a3]
    · simp [rq_ca, rq_if, hkN, hu 4 k (by decide) (by decide), a4]
    · simp [rq_ca, rq_if, hkN, hu 5 k (by decide) (by decide), a5]
    · simp [rq_ca, rq_if, hkN, hu 6 k (by decide) (by decide), a6]
    · simp [rq_ra, rq_if, hkN, hw 2 k (by decide) (by decide), rq_rw, b2]
    · simp [rq_ra, rq_if, hkN, hw 3 k (by decide) (by decide), rq_rw, b3]
    · simp [rq_ra, rq_if, hkN, hw 4 k (by decide) (by decide), rq_rw, b4]
    · simp [rq_ra, rq_if, hkN, hw 5 k (by decide) (by decide), rq_rw, b5]
    · simp [rq_ra, rq_if, hkN, hw 6 k (by decide) (by decide), rq_rw, b6]
/-- rows of the tables that are set behind: an else's place, an end's place -/
theorem rq_T.se {x : Nat} (hT : rq_T N op ar ow en el σ τ) (hx : x < N) {y : Nat} (hy : y < N) (h0 : 0 < y) : rq_T N op ar ow en (rq_U el x y) (rt_up σ 6 x (nI y)) (rt_up τ 6 x (nI y)) := by
  intro k hk
  obtain ⟨⟨a2, a3, a4, a5, a6⟩, ⟨b2, b3, b4, b5, b6⟩, c1, c2, c3, c4⟩ := hT k hk
  refine ⟨⟨by simpa [rq_if] using a2, by simpa [rq_if] using a3, by simpa [rq_if] using a4, by simpa [rq_if] using a5, ?_⟩, ⟨by simpa [rq_if] using b2, by simpa [rq_if] using b3, by simpa [rq_if] using b4, by simpa [rq_if] using b5, ?_⟩, c1, c2, c3, ?_⟩
  · by_cases h : k = x
    · subst h; rw [rq_s, rq_U_s, rq_e1 (by omega)]
    · rw [rq_k h, rq_U_n h]; exact a6
  · by_cases h : k = x
    · subst h; rw [rq_s, rq_U_s, rq_e1 (by omega)]
    · rw [rq_k h, rq_U_n h]; exact b6
  · by_cases h : k = x
    · subst h; rw [rq_U_s]; exact hy
    · rw [rq_U_n h]; exact c4
theorem rq_T.sn {x : Nat} (hT : rq_T N op ar ow en el σ τ) (hx : x < N) {y : Nat} (hy : y < N) (h0 : 0 < y) : rq_T N op ar ow (rq_U en x y) el (rt_up σ 5 x (nI y)) (rt_up τ 5 x (nI y)) := by
  intro k hk
  obtain ⟨⟨a2, a3, a4, a5, a6⟩, ⟨b2, b3, b4, b5, b6⟩, c1, c2, c3, c4⟩ := hT k hk
  refine ⟨⟨by simpa [rq_if] using a2, by simpa [rq_if] using a3, by simpa [rq_if] using a4, ?_, by simpa [rq_if] using a6⟩, ⟨by simpa [rq_if] using b2, by simpa [rq_if] using b3, by simpa [rq_if] using b4, ?_, by simpa [rq_if] using b6⟩, c1, c2, ?_, c4⟩
  · by_cases h : k = x
    · subst h; rw [rq_s, rq_U_s, rq_e1 (by omega)]
    · rw [rq_k h, rq_U_n h]; exact a5
  · by_cases h : k = x
    · subst h; rw [rq_s, rq_U_s, rq_e1 (by omega)]
    · rw [rq_k h, rq_U_n h]; exact b5
  · by_cases h : k = x
    · subst h; rw [rq_U_s]; exact hy
    · rw [rq_U_n h]; exact c3
theorem rq_T.kp (hT : rq_T N op ar ow en el σ τ) (hu : ∀ c k, 2 ≤ c → c ≤ 6 → u c k = σ c k) (hw : ∀ c k, 2 ≤ c → c ≤ 6 → w c k = τ c k) : rq_T N op ar ow en el u w := by
  intro k hk
  have h := hT k hk
  rw [hu 2 k (by decide) (by decide), hu 3 k (by decide) (by decide), hu 4 k (by decide) (by decide), hu 5 k (by decide) (by decide), hu 6 k (by decide) (by decide), hw 2 k (by decide) (by decide), hw 3 k (by decide) (by decide), hw 4 k (by decide) (by decide), hw 5 k (by decide) (by decide), hw 6 k (by decide) (by decide)]
  exact h
end RQ6
