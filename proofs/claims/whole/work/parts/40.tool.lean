/-! pure: reads and writes at known places; states that agree in some places -/
theorem rq_s {σ : rt_St} {c k : Nat} {x : Int32} : rt_up σ c k x c k = x := by
  unfold rt_up; rw [if_pos rfl]; exact pk_us
theorem rq_k {σ : rt_St} {c k j : Nat} {x : Int32} (h : j ≠ k) : rt_up σ c k x c j = σ c j := by
  unfold rt_up; rw [if_pos rfl]; exact pk_un h
theorem rq_c {σ : rt_St} {c k d j : Nat} {x : Int32} (h : d ≠ c) : rt_up σ c k x d j = σ d j := by
  unfold rt_up; rw [if_neg h]
theorem rq_if (σ : rt_St) (c k d j : Nat) (x : Int32) : rt_up σ c k x d j = if d = c ∧ j = k then x else σ d j := by
  by_cases h : d = c
  · subst h
    by_cases h2 : j = k
    · subst h2; rw [rq_s, if_pos ⟨rfl, rfl⟩]
    · rw [rq_k h2, if_neg (fun h => h2 h.2)]
  · rw [rq_c h, if_neg (fun h2 => h h2.1)]
theorem rq_in {i n : Nat} {x : Int32} (hx : x = nI i) (h : i < n) (hn : n < 2147483648) : rt_in x n = true := by
  have h1 := vp_in_iff.mp (hx ▸ vp_in_nI h hn)
  unfold rt_in
  rw [decide_eq_true h1.1, decide_eq_true h1.2]
  rfl
theorem rq_rd {σ : rt_St} {c i n : Nat} {x : Int32} (hx : x = nI i) (h : i < n) (hn : n < 2147483648) : rt_rd σ c n x = some (σ c i) := by
  unfold rt_rd
  rw [if_pos (rq_in hx h hn), hx, nI_clamp (Nat.lt_trans h hn)]
theorem rq_wr {σ : rt_St} {c i n : Nat} {x v : Int32} (hx : x = nI i) (h : i < n) (hn : n < 2147483648) : rt_wr σ c n x v = some (rt_up σ c i v) := by
  unfold rt_wr
  rw [if_pos (rq_in hx h hn), hx, nI_clamp (Nat.lt_trans h hn)]
theorem rq_b {α β : Type} (a : α) (f : α → Option β) : (some a).bind f = f a := rfl
theorem rq_b2 {α : Type} (r : Int32) (u : rt_St) (k : Int32 → rt_St → Option α) : rt_b2 (some (r, u)) k = k r u := rfl
theorem rq_put {σ : rt_St} {c k : Nat} {x : Int32} : rt_put σ c k x = some (rt_up σ c k x) := rfl
/-- agreement -/
def rq_A (S : Nat → Nat → Prop) (σ u : rt_St) : Prop := ∀ c k, S c k → u c k = σ c k
theorem rq_A.rf {S : Nat → Nat → Prop} {σ : rt_St} : rq_A S σ σ := fun _ _ _ => rfl
theorem rq_A.tr {S : Nat → Nat → Prop} {σ u v : rt_St} (h1 : rq_A S σ u) (h2 : rq_A S u v) : rq_A S σ v := fun c k h => (h2 c k h).trans (h1 c k h)
theorem rq_A.up {S : Nat → Nat → Prop} {σ u : rt_St} {c k : Nat} {x : Int32} (h : rq_A S σ u) (hn : ¬ S c k) : rq_A S σ (rt_up u c k x) := fun d j hs => by
  rw [rq_if, if_neg (fun e => hn (by rw [← e.1, ← e.2]; exact hs))]
  exact h d j hs
theorem rq_A.uf {S : Nat → Nat → Prop} {σ u : rt_St} {c : Nat} {f : Nat → Int32} (h : rq_A S σ u) (hn : ∀ k, ¬ S c k) : rq_A S σ (rt_uf u c f) := fun d j hs => by
  unfold rt_uf
  rw [if_neg (fun e => hn j (by rw [← e]; exact hs))]
  exact h d j hs
theorem rq_A.mono {S T : Nat → Nat → Prop} {σ u : rt_St} (h : rq_A T σ u) (hst : ∀ c k, S c k → T c k) : rq_A S σ u := fun c k hs => h c k (hst c k hs)
/-- numbers below 64 -/
theorem rq_64 {x : Int32} (h1 : ¬ x < 0) (h2 : ¬ 64 ≤ x) : ∃ b : Nat, b < 64 ∧ x = nI b := by
  rcases pk_ix x (n := 64) (by decide) with h | h | h
  · exact absurd h h1
  · exact absurd h h2
  · exact h
theorem rq_63 (x : Int32) : 64 ≤ x ↔ 63 < x := by
  rw [Int32.le_iff_toInt_le, Int32.lt_iff_toInt_lt]
  show (64 : Int) ≤ x.toInt ↔ (63 : Int) < x.toInt
  omega
/-! the two states side by side; what has been loaded is a relation of its own (Ld), kept by whoever leaves its places alone -/
def rq_LC (c k : Nat) : Prop := (c = 0 ∧ k = 5) ∨ (1 ≤ c ∧ c ≤ 13) ∨ 29 ≤ c
def rq_LR (c k : Nat) : Prop := (c = 0 ∧ (k = 4 ∨ k = 6 ∨ k = 16)) ∨ (2 ≤ c ∧ c ≤ 14) ∨ (26 ≤ c ∧ c ≤ 40)
def rq_G1 (σ τ : rt_St) : Prop := ∃ n : Nat, n ≤ 100 ∧ σ 14 3 = nI n ∧ τ 0 0 = nI n ∧ ∀ j, j < n → ∃ b : Nat, b < 64 ∧ σ 15 j = nI b ∧ τ 1 j = nI b
def rq_G2 (σ τ : rt_St) : Prop := ∃ n : Nat, n ≤ 12 ∧ σ 21 2 = nI n ∧ τ 0 27 = nI n ∧ ∀ j, j < n → ∃ b : Nat, b < 64 ∧ σ 22 j = nI b ∧ τ 19 j = nI b
def rq_G5 (σ τ : rt_St) : Prop := (σ 21 7 = 0 ∧ τ 0 29 = 0) ∨ (σ 21 7 = 1 ∧ τ 0 29 = 1 ∧ σ 21 11 = τ 0 39 ∧ (σ 21 8 = 0 → τ 0 40 = -3) ∧ (¬ σ 21 8 = 0 → σ 21 9 = τ 0 40) ∧ σ 21 10 = τ 0 37 ∧ (∃ n : Nat, n < 100000 ∧ σ 21 6 = nI n ∧ τ 0 41 = nI n ∧ ∀ j, j < n → j < 20 → σ 24 j = τ 25 j) ∧ ∀ j, j < 16 → σ 23 j = τ 24 j)
def rq_Rel (Ld : rt_St → rt_St → Prop) (σ τ : rt_St) : Prop := rq_G1 σ τ ∧ rq_G2 σ τ ∧ σ 0 6 = τ 0 5 ∧ ((σ 0 5 = 0 ∧ τ 0 4 = 0) ∨ (σ 0 5 = 1 ∧ τ 0 4 = 1 ∧ Ld σ τ)) ∧ rq_G5 σ τ
def rq_Keeps (Ld : rt_St → rt_St → Prop) : Prop := ∀ σ τ u v, Ld σ τ → rq_A rq_LC σ u → rq_A rq_LR τ v → Ld u v
theorem rq_G1.kp {σ τ u v : rt_St} (h : rq_G1 σ τ) (h1 : u 14 3 = σ 14 3) (h2 : v 0 0 = τ 0 0) (h3 : ∀ j, u 15 j = σ 15 j) (h4 : ∀ j, v 1 j = τ 1 j) : rq_G1 u v := by
  obtain ⟨n, a, b, c, d⟩ := h
  refine ⟨n, a, h1.trans b, h2.trans c, fun j hj => ?_⟩
  rw [h3, h4]; exact d j hj
theorem rq_G2.kp {σ τ u v : rt_St} (h : rq_G2 σ τ) (h1 : u 21 2 = σ 21 2) (h2 : v 0 27 = τ 0 27) (h3 : ∀ j, u 22 j = σ 22 j) (h4 : ∀ j, v 19 j = τ 19 j) : rq_G2 u v := by
  obtain ⟨n, a, b, c, d⟩ := h
  refine ⟨n, a, h1.trans b, h2.trans c, fun j hj => ?_⟩
  rw [h3, h4]; exact d j hj
theorem rq_G5.kp {σ τ u v : rt_St} (h : rq_G5 σ τ) (h1 : ∀ k, 6 ≤ k → k ≤ 11 → u 21 k = σ 21 k) (h2 : ∀ k, (k = 29 ∨ k = 37 ∨ k = 39 ∨ k = 40 ∨ k = 41) → v 0 k = τ 0 k) (h3 : ∀ j, u 23 j = σ 23 j) (h4 : ∀ j, u 24 j = σ 24 j) (h5 : ∀ j, v 24 j = τ 24 j) (h6 : ∀ j, v 25 j = τ 25 j) : rq_G5 u v := by
  unfold rq_G5
  rw [h1 7 (by decide) (by decide), h1 11 (by decide) (by decide), h1 8 (by decide) (by decide), h1 9 (by decide) (by decide), h1 10 (by decide) (by decide), h1 6 (by decide) (by decide), h2 29 (by decide), h2 39 (by decide), h2 40 (by decide), h2 37 (by decide), h2 41 (by decide)]
  simp only [h3, h4, h5, h6]
  exact h
