/-! checking: the frames stay those of the nest -/
section CKH
variable {F k hh hh' g : Nat} {op ar ow en el pa lo re : Nat → Nat} {σ' τ' : rt_St} {ns : Nat → List Nat} {fr fr' : List (Nat × Nat × Nat × Nat)}
theorem ck_h_ge {bs h c : Nat} (h1 : bs ≤ h) : bs ≤ ck_h bs h c := by
  unfold ck_h
  by_cases y : bs + c ≤ h
  · rw [if_pos y]; omega
  · rw [if_neg y]; omega
theorem ck_mt.rep {l : List Nat} {x bs gv lv lv2 h1 h2 : Nat} {r : List (Nat × Nat × Nat × Nat)} (h : ck_mt g re ar l ((x, bs, gv, lv) :: r) h1) (hb : bs ≤ h2) : ck_mt g re ar l ((x, bs, gv, lv2) :: r) h2 := by
  cases l with
  | nil =>
    obtain ⟨l0, e⟩ := h
    obtain ⟨e1, e2⟩ := List.cons.inj e
    obtain ⟨rfl, rfl, rfl, -⟩ : x = 0 ∧ bs = 0 ∧ gv = re g ∧ lv = l0 := by simpa using e1
    subst e2
    exact ⟨lv2, rfl⟩
  | cons y ys =>
    obtain ⟨b0, l0, r0, e, -, q⟩ := h
    obtain ⟨e1, e2⟩ := List.cons.inj e
    obtain ⟨rfl, rfl, rfl, -⟩ : x = y + 1 ∧ bs = b0 ∧ gv = ar y ∧ lv = l0 := by simpa using e1
    subst e2
    exact ⟨bs, lv2, r, rfl, hb, q⟩
theorem ck_mt_step (hm : ck_mt g re ar (ns k) fr hh) (hst : rq_St ns op ar en el k) (hD : ck_D F op ar ow en el pa lo re k fr hh fr' hh' σ' τ') : ck_mt g re ar (ns (k + 1)) fr' hh' ∧ fr'.length ≤ fr.length + 1 := by
  obtain ⟨x, bs, gv, lv, r, rfl, hb, hD⟩ := hD
  obtain ⟨s1, s2, s3, s4⟩ := hst
  rcases hD with ⟨c, rfl, rfl⟩ | ⟨c, rfl, rfl⟩ | ⟨c, rfl, rfl, -⟩ | ⟨c, xo, rfl, rfl, rfl, -⟩ | ⟨c, rfl, rfl, -⟩ | ⟨c, ⟨xo, rfl, -⟩, rfl, rfl, -⟩ | ⟨c, rfl, rfl, -⟩ | ⟨c, rfl, -, q, -, rfl, -⟩ | ⟨c, rfl, rfl, -⟩ | ⟨c, rfl, -, -, rfl⟩ | ⟨c, rfl, -, rfl, -⟩
  · rw [s4 (Or.inl c)]
    exact ⟨hm.rep (Nat.le_refl _), by simp⟩
  · rw [(s1 (by omega) (by omega)).1]
    exact ⟨⟨hh', 1, _, rfl, Nat.le_refl _, hm⟩, by simp⟩
  · rw [(s1 (by omega) (by omega)).1]
    exact ⟨⟨_, 1, _, rfl, Nat.le_refl _, hm.rep (ck_h_ge hb)⟩, by simp⟩
  · obtain ⟨y, ys, -, -, -, q⟩ := s2 c
    rw [q]
    exact ⟨hm.rep (Nat.le_refl _), by simp⟩
  · obtain ⟨y, ys, q, -⟩ := s3 c
    rw [q] at hm
    obtain ⟨b0, l0, r0, e, -⟩ := hm
    have := (List.cons.inj e).1
    simp at this
  · obtain ⟨y, ys, q, q2, -⟩ := s3 c
    rw [q] at hm
    obtain ⟨b0, l0, r0, e, -, q3⟩ := hm
    obtain ⟨e1, e2⟩ := List.cons.inj e
    obtain ⟨-, rfl, -, -⟩ : xo = y ∧ bs = b0 ∧ gv = ar y ∧ lv = l0 := by simpa using e1
    subst e2
    rw [q2]
    exact ⟨q3.up (by omega), by simp; omega⟩
  · rw [s4 (Or.inr (by omega))]
    exact ⟨hm.rep (Nat.le_refl _), by simp⟩
  · rw [s4 (Or.inr (by omega))]
    have := ck_h_ge (c := ck_nd op q) (ck_h_ge (c := 1) hb)
    exact ⟨hm.rep (by omega), by simp⟩
  · rw [s4 (Or.inr (by omega))]
    exact ⟨hm.rep (Nat.le_refl _), by simp⟩
  · rw [s4 (Or.inr (by omega))]
    have := ck_h_ge (c := pa (ar k)) hb
    exact ⟨hm.rep (by omega), by simp⟩
  · rw [s4 (Or.inr (by omega))]
    have := ck_h_ge (c := ck_tk (op k)) hb
    exact ⟨hm.rep (by omega), by simp⟩
end CKH
