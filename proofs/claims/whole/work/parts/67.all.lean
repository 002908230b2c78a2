/-! checking: any instruction of a function -/
theorem ck_out.mono {k : Nat} {σ τ : rt_St} {P Q : List (Nat × Nat × Nat × Nat) → Nat → rt_St → rt_St → Prop} (h : ck_out k σ τ P) (hPQ : ∀ fr' hh' σ' τ', P fr' hh' σ' τ' → Q fr' hh' σ' τ') : ck_out k σ τ Q := by
  obtain ⟨σ', h1, h2, h3⟩ := h
  refine ⟨σ', h1, h2, ?_⟩
  rcases h3 with h3 | ⟨τ', fr', hh', a1, a2, a3, a4⟩
  · exact Or.inl h3
  · exact Or.inr ⟨τ', fr', hh', a1, a2, a3, hPQ _ _ _ _ a4⟩
/-- what each op does to frames and height, and what it writes down of its jump -/
def ck_D (F : Nat) (op ar ow en el pa lo re : Nat → Nat) (k : Nat) (fr : List (Nat × Nat × Nat × Nat)) (hh : Nat) (fr' : List (Nat × Nat × Nat × Nat)) (hh' : Nat) (σ' τ' : rt_St) : Prop :=
  ∃ x bs gv lv r, fr = (x, bs, gv, lv) :: r ∧ bs ≤ hh ∧
   ((op k = 0 ∧ fr' = (x, bs, gv, 0) :: r ∧ hh' = bs) ∨
    ((op k = 1 ∨ op k = 2) ∧ fr' = (k + 1, hh, ar k, 1) :: fr ∧ hh' = hh) ∨
    (op k = 3 ∧ fr' = (k + 1, ck_h bs hh 1, ar k, 1) :: (x, bs, gv, lv) :: r ∧ hh' = ck_h bs hh 1 ∧ ¬ (lv = 1 ∧ hh < bs + 1) ∧ σ' 7 k = nI ((if el k = 0 then en k else el k) + 1) ∧ σ' 8 k = nI (ck_h bs hh 1) ∧ σ' 9 k = 0) ∨
    (op k = 4 ∧ ∃ xo, x = xo + 1 ∧ fr' = (xo + 1, bs, gv, 1) :: r ∧ hh' = bs ∧ ¬ (lv = 1 ∧ hh < bs + gv) ∧ ck_h bs hh gv = bs ∧ σ' 7 k = nI (en xo + 1) ∧ σ' 8 k = nI bs ∧ σ' 9 k = nI gv) ∨
    (op k = 5 ∧ x = 0 ∧ r = [] ∧ fr' = [] ∧ hh' = bs ∧ ¬ (lv = 1 ∧ hh < bs + gv) ∧ ck_h bs hh gv = bs ∧ σ' 7 k = -1 ∧ σ' 8 k = 0 ∧ σ' 9 k = nI gv) ∨
    (op k = 5 ∧ (∃ xo, x = xo + 1 ∧ ¬ (op xo = 3 ∧ gv = 1 ∧ el xo = 0)) ∧ fr' = r ∧ hh' = bs + gv ∧ ¬ (lv = 1 ∧ hh < bs + gv) ∧ ck_h bs hh gv = bs ∧ σ' 7 k = nI (k + 1) ∧ σ' 8 k = nI bs ∧ σ' 9 k = nI gv) ∨
    (op k = 6 ∧ fr' = (x, bs, gv, 0) :: r ∧ hh' = bs ∧ ∃ q, ((x, bs, gv, lv) :: r)[ar k]? = some q ∧ ¬ (lv = 1 ∧ hh < bs + ck_nd op q) ∧ (σ' 7 k = ck_gl op en q ∧ σ' 8 k = nI q.2.1 ∧ σ' 9 k = nI (ck_nd op q)) ∧ τ' 8 k = ck_o (-1) q.1 ∧ τ' 9 k = nI q.2.1 ∧ τ' 10 k = nI (ck_nd op q)) ∨
    (op k = 7 ∧ fr' = (x, bs, gv, lv) :: r ∧ ¬ (lv = 1 ∧ hh < bs + 1) ∧ ∃ q, ((x, bs, gv, lv) :: r)[ar k]? = some q ∧ hh' = ck_h bs (ck_h bs hh 1) (ck_nd op q) + ck_nd op q ∧ ¬ (lv = 1 ∧ ck_h bs hh 1 < bs + ck_nd op q) ∧ (σ' 7 k = ck_gl op en q ∧ σ' 8 k = nI q.2.1 ∧ σ' 9 k = nI (ck_nd op q)) ∧ τ' 8 k = ck_o (-1) q.1 ∧ τ' 9 k = nI q.2.1 ∧ τ' 10 k = nI (ck_nd op q)) ∨
    (op k = 8 ∧ fr' = (x, bs, gv, 0) :: r ∧ hh' = bs ∧ ¬ (lv = 1 ∧ hh < bs + re (ow k)) ∧ (σ' 7 k = -1 ∧ σ' 8 k = 0 ∧ σ' 9 k = nI (re (ow k))) ∧ τ' 8 k = -1 ∧ τ' 9 k = 0 ∧ τ' 10 k = nI (re (ow k))) ∨
    (op k = 9 ∧ fr' = (x, bs, gv, lv) :: r ∧ ar k < F ∧ ¬ (lv = 1 ∧ hh < bs + pa (ar k)) ∧ hh' = ck_h bs hh (pa (ar k)) + re (ar k)) ∨
    (10 ≤ op k ∧ fr' = (x, bs, gv, lv) :: r ∧ ¬ (lv = 1 ∧ hh < bs + ck_tk (op k)) ∧ hh' = ck_h bs hh (ck_tk (op k)) + ck_gv (op k) ∧ (12 ≤ op k → op k ≤ 14 → ar k < pa (ow k) + lo (ow k))))
section CKG
variable {N F k hh s0 N' : Nat} {op ar ow en el pa lo re fs : Nat → Nat} {σ τ : rt_St} {ns : Nat → List Nat} {fr : List (Nat × Nat × Nat × Nat)}
theorem ck_all (hT : rq_T N op ar ow en el σ τ) (hF : rq_TF F pa lo re fs σ τ) (hN : N ≤ 100) (hF3 : F ≤ 3) (hk : k < N) (hf : ow k < F) (d13 : σ 1 13 = nI F) (d16 : τ 0 16 = nI F) (hM : ck_M fr hh σ τ) (hm : ck_mt (ow k) re ar (ns k) fr hh) (hl : fr.length ≤ k + 1) (hcl : ∀ x ∈ ns k, x < N ∧ en x ≠ 0)
    (hop : 1 ≤ op k → op k ≤ 3 → ar k ≤ 1 ∧ en k ≠ 0) (hel : op k = 4 → ∃ x r, ns k = x :: r) (hfn : op k = 5 → ns k = [] ∨ ∃ x r, ns k = x :: r) :
    ck_out k σ τ (ck_D F op ar ow en el pa lo re k fr hh) := by
  obtain ⟨x, bs, gv, lv, r, e, hb, hr⟩ := hm.top
  subst e
  have hlen : r.length + 1 ≤ k + 1 := hl
  have hok := ck_mt.ok (op := op) hm hcl
  have o1 := (hT k hk).2.2.1
  by_cases c0 : op k = 0
  · exact (ck_op0 hT hF hN hF3 hk hf hM (by omega) c0).mono (fun fr' hh' σ' τ' h => ⟨x, bs, gv, lv, r, rfl, hb, Or.inl ⟨c0, h.1, h.2⟩⟩)
  by_cases c1 : op k = 1 ∨ op k = 2
  · exact (ck_op12 hT hF hN hF3 hk hf hM (by simp; omega) (hop (by omega) (by omega)).1 c1).mono (fun fr' hh' σ' τ' h => ⟨x, bs, gv, lv, r, rfl, hb, Or.inr (Or.inl ⟨c1, h.1, h.2⟩)⟩)
  by_cases c3 : op k = 3
  · exact (ck_op3 hT hF hN hF3 hk hf hM (by omega) hb (hop (by omega) (by omega)).1 (fun _ => (hop (by omega) (by omega)).2) c3).mono (fun fr' hh' σ' τ' h => ⟨x, bs, gv, lv, r, rfl, hb, Or.inr (Or.inr (Or.inl ⟨c3, h⟩))⟩)
  by_cases c4 : op k = 4
  · obtain ⟨y, ys, q⟩ := hel c4
    have hy := hcl y (by rw [q]; exact List.mem_cons_self)
    rw [q] at hm
    obtain ⟨b2, l2, r2, e2, -, -⟩ := hm
    obtain ⟨e3, e4⟩ := List.cons.inj e2
    obtain ⟨rfl, rfl, rfl, rfl⟩ : x = y + 1 ∧ bs = b2 ∧ gv = ar y ∧ lv = l2 := by simpa using e3
    exact (ck_op4 hT hF hN hF3 hk hf hM (by omega) hb hy.1 rfl hy.2 c4).mono (fun fr' hh' σ' τ' h => ⟨_, _, _, _, r, rfl, hb, Or.inr (Or.inr (Or.inr (Or.inl ⟨c4, y, rfl, h⟩)))⟩)
  by_cases c5 : op k = 5
  · rcases hfn c5 with q | ⟨y, ys, q⟩
    · rw [q] at hm
      obtain ⟨l2, e2⟩ := hm
      obtain ⟨e3, e4⟩ := List.cons.inj e2
      subst e4
      obtain ⟨rfl, rfl, rfl, rfl⟩ : x = 0 ∧ bs = 0 ∧ gv = re (ow k) ∧ lv = l2 := by simpa using e3
      exact (ck_op5f hT hF hN hF3 hk hf hM hb rfl c5).mono (fun fr' hh' σ' τ' h => ⟨_, _, _, _, [], rfl, hb, Or.inr (Or.inr (Or.inr (Or.inr (Or.inl ⟨c5, rfl, rfl, h⟩))))⟩)
    · have hy := hcl y (by rw [q]; exact List.mem_cons_self)
      have hr0 : 0 < r.length := by rw [hr, q]; simp
      rw [q] at hm
      obtain ⟨b2, l2, r2, e2, -, -⟩ := hm
      obtain ⟨e3, e4⟩ := List.cons.inj e2
      obtain ⟨rfl, rfl, rfl, rfl⟩ : x = y + 1 ∧ bs = b2 ∧ gv = ar y ∧ lv = l2 := by simpa using e3
      exact (ck_op5i hT hF hN hF3 hk hf hM (by omega) hr0 hb hy.1 rfl c5).mono (fun fr' hh' σ' τ' h => ⟨_, _, _, _, r, rfl, hb, Or.inr (Or.inr (Or.inr (Or.inr (Or.inr (Or.inl ⟨c5, ⟨y, rfl, h.2.2.2.2.1⟩, h.1, h.2.1, h.2.2.1, h.2.2.2.1, h.2.2.2.2.2⟩)))))⟩)
  by_cases c6 : op k = 6
  · exact (ck_op6 hT hF hN hF3 hk hf hM (by omega) hb hok c6).mono (fun fr' hh' σ' τ' h => ⟨x, bs, gv, lv, r, rfl, hb, Or.inr (Or.inr (Or.inr (Or.inr (Or.inr (Or.inr (Or.inl ⟨c6, h⟩))))))⟩)
  by_cases c7 : op k = 7
  · exact (ck_op7 hT hF hN hF3 hk hf hM (by omega) hb hok c7).mono (fun fr' hh' σ' τ' h => ⟨x, bs, gv, lv, r, rfl, hb, Or.inr (Or.inr (Or.inr (Or.inr (Or.inr (Or.inr (Or.inr (Or.inl ⟨c7, h⟩)))))))⟩)
  by_cases c8 : op k = 8
  · exact (ck_op8 hT hF hN hF3 hk hf hM (by omega) hb c8).mono (fun fr' hh' σ' τ' h => ⟨x, bs, gv, lv, r, rfl, hb, Or.inr (Or.inr (Or.inr (Or.inr (Or.inr (Or.inr (Or.inr (Or.inr (Or.inl ⟨c8, h⟩))))))))⟩)
  by_cases c9 : op k = 9
  · exact (ck_call hT hF hN hF3 hk hf d13 d16 hM (by omega) hb c9).mono (fun fr' hh' σ' τ' h => ⟨x, bs, gv, lv, r, rfl, hb, Or.inr (Or.inr (Or.inr (Or.inr (Or.inr (Or.inr (Or.inr (Or.inr (Or.inr (Or.inl ⟨c9, h⟩)))))))))⟩)
  · have c10 : 10 ≤ op k := by omega
    exact (ck_plainOp hT hF hN hF3 hk hf hM (by omega) hb c10).mono (fun fr' hh' σ' τ' h => ⟨x, bs, gv, lv, r, rfl, hb, Or.inr (Or.inr (Or.inr (Or.inr (Or.inr (Or.inr (Or.inr (Or.inr (Or.inr (Or.inr ⟨c10, h⟩)))))))))⟩)
end CKG
