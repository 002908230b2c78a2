/-! reading: the tables as numbers; the frames that stand as a list, the latest first -/
def rq_e (m : Int32) (x : Nat) : Int32 := if x = 0 then m else nI x
def rq_T (N : Nat) (op ar ow en el : Nat → Nat) (σ τ : rt_St) : Prop := ∀ k, k < N → (σ 2 k = nI (op k) ∧ σ 3 k = nI (ar k) ∧ σ 4 k = nI (ow k) ∧ σ 5 k = rq_e (-3) (en k) ∧ σ 6 k = rq_e (-3) (el k)) ∧ (τ 2 k = nI (op k) ∧ τ 3 k = nI (ar k) ∧ τ 4 k = nI (ow k) ∧ τ 5 k = rq_e (-1) (en k) ∧ τ 6 k = rq_e (-1) (el k)) ∧ op k < 29 ∧ ar k < 64 ∧ en k < N ∧ el k < N
def rq_stk (σ : rt_St) (c : Nat) : List Nat → Prop
  | [] => True
  | o :: r => σ c r.length = nI o ∧ rq_stk σ c r
theorem rq_stk.kp {σ u : rt_St} {c : Nat} : ∀ {st : List Nat}, rq_stk σ c st → (∀ j, j < st.length → u c j = σ c j) → rq_stk u c st
  | [], _, _ => trivial
  | o :: r, h, hu => ⟨(hu r.length (by simp)).trans h.1, rq_stk.kp h.2 (fun j hj => hu j (by simp; omega))⟩
def rq_RD (f N : Nat) (st : List Nat) (op ar ow en el : Nat → Nat) (σ τ : rt_St) : Prop := rq_T N op ar ow en el σ τ ∧ σ 1 12 = nI N ∧ τ 0 6 = nI N ∧ σ 1 13 = nI (f + 1) ∧ σ 14 5 = nI st.length ∧ τ 0 21 = nI st.length ∧ rq_stk σ 16 st ∧ rq_stk τ 15 st ∧ st.length ≤ N ∧ ∀ x ∈ st, x < N
def rq_U (g : Nat → Nat) (N v : Nat) : Nat → Nat := fun k => if k = N then v else g k
def rq_fit (op el : Nat → Nat) : List Nat → Bool
  | [] => false
  | x :: _ => op x == 3 && el x == 0
theorem rq_e0 {m : Int32} {x : Nat} (h : x = 0) : rq_e m x = m := if_pos h
theorem rq_e1 {m : Int32} {x : Nat} (h : ¬ x = 0) : rq_e m x = nI x := if_neg h
theorem rq_n3 {x : Nat} (h : x < 2147483648) : ¬ nI x = -3 := fun e => absurd (congrArg Int32.toInt e) (by rw [nI_toInt h]; show ¬ (x : Int) = -3; omega)
/-- what may be touched while a module is read -/
def rq_RC (c k : Nat) : Prop := ¬ ((c = 1 ∧ k = 12) ∨ (2 ≤ c ∧ c ≤ 6) ∨ (c = 14 ∧ k ≠ 3) ∨ c = 16)
def rq_RR (c k : Nat) : Prop := ¬ ((c = 0 ∧ (k = 2 ∨ k = 3 ∨ k = 6 ∨ k = 21)) ∨ (2 ≤ c ∧ c ≤ 6) ∨ c = 15)
section RQ4
variable {n i f N : Nat} {b : Nat → Nat} {st : List Nat} {op ar ow en el : Nat → Nat} {σ τ : rt_St}
theorem rq_fitC (h : rq_RD f N st op ar ow en el σ τ) (hN : N < 100) : M_C_Reader_elseFits σ = some (if rq_fit op el st = true then 1 else 0, σ) := by
  obtain ⟨hT, -, -, -, h5, -, hs, -, hl, hx⟩ := h
  unfold M_C_Reader_elseFits
  cases st with
  | nil => rw [if_pos (show σ 14 5 = 0 from h5)]; rfl
  | cons x r =>
    have hxN := hx x List.mem_cons_self
    obtain ⟨⟨k2, -, -, -, k6⟩, -, o1, -, -, e1⟩ := hT x hxN
    have hr : r.length + 1 ≤ N := hl
    have h5' : σ 14 5 = nI (r.length + 1) := h5
    rw [if_neg (show ¬ σ 14 5 = 0 by rw [h5']; exact nI_ne0 (by omega) (by omega)), rq_rd (n := 100) (i := r.length) (by rw [h5', nI_pred]) (by omega) (by decide), rq_b, hs.1, rq_rd (n := 100) rfl (by omega) (by decide), rq_b, k2]
    by_cases c1 : op x = 3
    · rw [if_pos (show nI (op x) = 3 by rw [c1]; rfl), rq_rd (n := 100) rfl (by omega) (by decide), rq_b, k6]
      by_cases c2 : el x = 0
      · rw [rq_e0 c2, if_pos rfl]; simp [rq_fit, c1, c2]
      · rw [rq_e1 c2, if_neg (rq_n3 (by omega))]; simp [rq_fit, c1, c2]
    · rw [if_neg (show ¬ nI (op x) = 3 from fun e => c1 ((nI_eq (b := 3) (by omega) (by decide)).mp e))]; simp [rq_fit, c1]
theorem rq_fitR (h : rq_RD f N st op ar ow en el σ τ) (hN : N < 100) (K : Int32 → Int32 → rt_St → Option rt_St) (l1 : Int32) (x2 : Int32) : B_R_RangeTellerModel_readFunction_103 K l1 (nI 4) 1 (rt_up τ 0 2 x2) = B_R_RangeTellerModel_readFunction_163 K l1 (nI 4) (if rq_fit op el st = true then 1 else 0) (rt_up τ 0 2 x2) := by
  obtain ⟨hT, -, -, -, -, h5, -, hs, hl, hx⟩ := h
  unfold B_R_RangeTellerModel_readFunction_103
  rw [if_pos (show nI 4 = 4 from rfl), rq_k (by decide)]
  cases st with
  | nil => rw [if_pos (show τ 0 21 ≤ 0 by rw [h5]; decide)]; rfl
  | cons x r =>
    have hxN := hx x List.mem_cons_self
    obtain ⟨-, ⟨k2, -, -, -, k6⟩, o1, -, -, e1⟩ := hT x hxN
    have hr : r.length + 1 ≤ N := hl
    have h5' : τ 0 21 = nI (r.length + 1) := h5
    rw [if_neg (show ¬ τ 0 21 ≤ 0 by rw [h5']; exact nI_nle (by omega) (by omega)), rq_rd (n := 101) (i := r.length) (by rw [h5', nI_pred]) (by omega) (by decide), rq_b, rq_c (by decide), hs.1, rq_rd (n := 100) rfl (by omega) (by decide), rq_b, rq_c (by decide), k2]
    by_cases c1 : op x = 3
    · rw [if_pos (show nI (op x) = 3 by rw [c1]; rfl), rq_b, rq_rd (n := 100) rfl (by omega) (by decide), rq_b, rq_c (by decide), k6]
      by_cases c2 : el x = 0
      · rw [rq_e0 c2, if_neg (by decide), show rq_fit op el (x :: r) = true by simp [rq_fit, c1, c2]]; rfl
      · rw [rq_e1 c2, if_pos (nI_pos' (by omega)), show rq_fit op el (x :: r) = false by simp [rq_fit, c2]]; rfl
    · rw [if_neg (show ¬ nI (op x) = 3 from fun e => c1 ((nI_eq (b := 3) (by omega) (by decide)).mp e)), show rq_fit op el (x :: r) = false by simp [rq_fit, c1]]; rfl
end RQ4
