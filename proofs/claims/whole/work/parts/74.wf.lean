/-! checking: what the history says of the frames (numbers alone) -/
theorem wf_ns {s0 N' : Nat} {op ar en el : Nat → Nat} {ns ns' : Nat → List Nat} (h0 : ns s0 = ns' s0) (h1 : ∀ k, s0 ≤ k → k + 1 < N' → rq_St ns op ar en el k) (h2 : ∀ k, s0 ≤ k → k + 1 < N' → rq_St ns' op ar en el k) : ∀ d, s0 + d < N' → ns (s0 + d) = ns' (s0 + d) := by
  intro d
  induction d with
  | zero => intro _; exact h0
  | succ d ih =>
    intro hd
    have e := ih (by omega)
    obtain ⟨a1, a2, a3, a4⟩ := h1 (s0 + d) (by omega) (by omega)
    obtain ⟨b1, b2, b3, b4⟩ := h2 (s0 + d) (by omega) (by omega)
    show ns (s0 + d + 1) = ns' (s0 + d + 1)
    by_cases c1 : 1 ≤ op (s0 + d) ∧ op (s0 + d) ≤ 3
    · rw [(a1 c1.1 c1.2).1, (b1 c1.1 c1.2).1, e]
    by_cases c2 : op (s0 + d) = 4
    · obtain ⟨x, r, -, -, -, q⟩ := a2 c2
      obtain ⟨y, t, -, -, -, w⟩ := b2 c2
      rw [q, w, e]
    by_cases c3 : op (s0 + d) = 5
    · obtain ⟨x, r, q1, q2, -⟩ := a3 c3
      obtain ⟨y, t, w1, w2, -⟩ := b3 c3
      rw [q2, w2]
      rw [e, w1] at q1
      exact (List.cons.inj q1).2.symm
    · rw [a4 (by omega), b4 (by omega), e]
theorem wf_shape {F k hh hh' : Nat} {op ar ow en el pa lo re : Nat → Nat} {σ τ : rt_St} {fr fr' : List (Nat × Nat × Nat × Nat)} (hD : ck_D F op ar ow en el pa lo re k fr hh fr' hh' σ τ) : ∃ x bs gv lv r, fr = (x, bs, gv, lv) :: r ∧ (((op k = 0 ∨ op k = 4 ∨ 6 ≤ op k) ∧ ∃ lv', fr' = (x, bs, gv, lv') :: r) ∨ (1 ≤ op k ∧ op k ≤ 3 ∧ fr' = (k + 1, hh', ar k, 1) :: fr) ∨ (op k = 5 ∧ x = 0 ∧ r = []) ∨ (op k = 5 ∧ x ≠ 0 ∧ fr' = r)) := by
  obtain ⟨x, bs, gv, lv, r, rfl, hb, hD⟩ := hD
  refine ⟨x, bs, gv, lv, r, rfl, ?_⟩
  rcases hD with ⟨c, h1, -⟩ | ⟨c, h1, h2⟩ | ⟨c, h1, h2, -⟩ | ⟨c, xo, h0, h1, -⟩ | ⟨c, h1, h2, -⟩ | ⟨c, ⟨xo, h0, -⟩, h1, -⟩ | ⟨c, h1, -⟩ | ⟨c, h1, -⟩ | ⟨c, h1, -⟩ | ⟨c, h1, -⟩ | ⟨c, h1, -⟩
  · exact Or.inl ⟨by omega, 0, h1⟩
  · exact Or.inr (Or.inl ⟨by omega, by omega, by rw [h1, h2]⟩)
  · exact Or.inr (Or.inl ⟨by omega, by omega, by rw [h1, h2]⟩)
  · exact Or.inl ⟨by omega, 1, by rw [h0]; exact h1⟩
  · exact Or.inr (Or.inr (Or.inl ⟨c, h1, h2⟩))
  · exact Or.inr (Or.inr (Or.inr ⟨c, by omega, h1⟩))
  · exact Or.inl ⟨by omega, 0, h1⟩
  · exact Or.inl ⟨by omega, lv, h1⟩
  · exact Or.inl ⟨by omega, 0, h1⟩
  · exact Or.inl ⟨by omega, lv, h1⟩
  · exact Or.inl ⟨by omega, lv, h1⟩
/-- frames and openers side by side -/
def wf_z (g : Nat) (re ar hs : Nat → Nat) : List Nat → List (Nat × Nat × Nat × Nat) → Prop
  | [], fr => ∃ lv, fr = [(0, 0, re g, lv)]
  | x :: xs, fr => ∃ lv r, fr = (x + 1, hs (x + 1), ar x, lv) :: r ∧ wf_z g re ar hs xs r
theorem wf_z.rep {g x bs gv lv lv2 : Nat} {re ar hs : Nat → Nat} {l : List Nat} {r : List (Nat × Nat × Nat × Nat)} (h : wf_z g re ar hs l ((x, bs, gv, lv) :: r)) : wf_z g re ar hs l ((x, bs, gv, lv2) :: r) := by
  cases l with
  | nil =>
    obtain ⟨l0, e⟩ := h
    obtain ⟨e1, e2⟩ := List.cons.inj e
    obtain ⟨rfl, rfl, rfl, -⟩ : x = 0 ∧ bs = 0 ∧ gv = re g ∧ lv = l0 := by simpa using e1
    exact ⟨lv2, by rw [e2]⟩
  | cons y ys =>
    obtain ⟨l0, r0, e, q⟩ := h
    obtain ⟨e1, e2⟩ := List.cons.inj e
    obtain ⟨rfl, rfl, rfl, -⟩ : x = y + 1 ∧ bs = hs (y + 1) ∧ gv = ar y ∧ lv = l0 := by simpa using e1
    exact ⟨lv2, r, rfl, by rw [e2]; exact q⟩
theorem wf_z.mem {g : Nat} {re ar hs : Nat → Nat} {q : Nat × Nat × Nat × Nat} : ∀ {l : List Nat} {fr : List (Nat × Nat × Nat × Nat)}, wf_z g re ar hs l fr → q ∈ fr → (q.1 = 0 ∧ q.2.1 = 0 ∧ q.2.2.1 = re g) ∨ ∃ y, y ∈ l ∧ q.1 = y + 1 ∧ q.2.1 = hs (y + 1) ∧ q.2.2.1 = ar y
  | [], fr, ⟨lv, e⟩, hq => by
    rw [e] at hq
    obtain rfl := List.mem_singleton.mp hq
    exact Or.inl ⟨rfl, rfl, rfl⟩
  | x :: xs, fr, ⟨lv, r, e, h⟩, hq => by
    rw [e] at hq
    rcases List.mem_cons.mp hq with rfl | hq
    · exact Or.inr ⟨x, List.mem_cons_self, rfl, rfl, rfl⟩
    · rcases h.mem hq with h | ⟨y, h1, h2⟩
      · exact Or.inl h
      · exact Or.inr ⟨y, List.mem_cons_of_mem _ h1, h2⟩
theorem wf_mb {g : Nat} {re ar : Nat → Nat} {q : Nat × Nat × Nat × Nat} : ∀ {l : List Nat} {fr : List (Nat × Nat × Nat × Nat)} {hh : Nat}, ck_mt g re ar l fr hh → q ∈ fr → q.2.1 ≤ hh
  | [], fr, hh, ⟨lv, e⟩, hq => by
    rw [e] at hq
    obtain rfl := List.mem_singleton.mp hq
    exact Nat.zero_le _
  | x :: xs, fr, hh, ⟨bs, lv, r, e, h1, h⟩, hq => by
    rw [e] at hq
    rcases List.mem_cons.mp hq with rfl | hq
    · exact h1
    · exact Nat.le_trans (wf_mb h hq) h1
theorem wf_mb2 {g x bs gv lv hh : Nat} {re ar : Nat → Nat} {q : Nat × Nat × Nat × Nat} {l : List Nat} {r : List (Nat × Nat × Nat × Nat)} (h : ck_mt g re ar l ((x, bs, gv, lv) :: r) hh) (hq : q ∈ (x, bs, gv, lv) :: r) : q.2.1 ≤ bs := wf_mb (h.rep (lv2 := lv) (Nat.le_refl bs)) hq
section WF1
variable {F N' s0 g : Nat} {op ar ow en el pa lo re hs : Nat → Nat} {ns : Nat → List Nat} {frs : Nat → List (Nat × Nat × Nat × Nat)} {σ τ : rt_St}
/-- what is kept of a function's history -/
def wf_S (F N' s0 g : Nat) (op ar ow en el pa lo re hs : Nat → Nat) (ns : Nat → List Nat) (frs : Nat → List (Nat × Nat × Nat × Nat)) (σ τ : rt_St) : Prop :=
  (∀ k, s0 ≤ k → k + 1 < N' → rq_St ns op ar en el k) ∧ (ns s0 = [] ∧ ns (N' - 1) = [] ∧ frs s0 = [(0, 0, re g, 1)]) ∧ (∀ k, s0 ≤ k → k < N' → (ns k).Nodup ∧ ∀ x ∈ ns k, s0 ≤ x ∧ x < k ∧ 1 ≤ op x ∧ op x ≤ 3) ∧ (∀ x, s0 ≤ x → x < N' → el x ≠ 0 → x < el x ∧ el x < N' ∧ op (el x) = 4 ∧ ∃ r, ns (el x) = x :: r) ∧ (∀ j, s0 ≤ j → j < N' → ck_mt g re ar (ns j) (frs j) (hs j)) ∧ ck_H F op ar ow en el pa lo re frs hs s0 N' σ τ
theorem wf_zall (H : wf_S F N' s0 g op ar ow en el pa lo re hs ns frs σ τ) : ∀ d, s0 + d < N' → wf_z g re ar hs (ns (s0 + d)) (frs (s0 + d)) := by
  obtain ⟨hst, ⟨n0, -, f0⟩, -, -, -, hH⟩ := H
  intro d
  induction d with
  | zero => intro _; show wf_z g re ar hs (ns s0) (frs s0); rw [n0, f0]; exact ⟨1, rfl⟩
  | succ d ih =>
    intro hd
    have iz := ih (by omega)
    obtain ⟨s1, s2, s3, s4⟩ := hst (s0 + d) (by omega) (by omega)
    obtain ⟨x, bs, gv, lv, r, e, h⟩ := wf_shape (hH (s0 + d) (by omega) (by omega)).1
    show wf_z g re ar hs (ns (s0 + d + 1)) (frs (s0 + d + 1))
    rcases h with ⟨c, lv', h⟩ | ⟨c1, c2, h⟩ | ⟨c, h, -⟩ | ⟨c, hx, h⟩
    · rw [e] at iz
      have en1 : ns (s0 + d + 1) = ns (s0 + d) := by
        by_cases c4 : op (s0 + d) = 4
        · obtain ⟨y, t, -, -, -, q⟩ := s2 c4
          exact q
        · exact s4 (by omega)
      rw [en1, h]
      exact iz.rep
    · rw [(s1 c1 c2).1, h]
      exact ⟨1, _, rfl, iz⟩
    · obtain ⟨y, t, q1, q2, -⟩ := s3 c
      rw [q1, e] at iz
      obtain ⟨l0, r0, e0, -⟩ := iz
      have : x = y + 1 := congrArg Prod.fst (List.cons.inj e0).1
      omega
    · obtain ⟨y, t, q1, q2, -⟩ := s3 c
      rw [q1, e] at iz
      obtain ⟨l0, r0, e0, q⟩ := iz
      rw [q2, h, (List.cons.inj e0).2]
      exact q
theorem wf_zat (H : wf_S F N' s0 g op ar ow en el pa lo re hs ns frs σ τ) {k : Nat} (h1 : s0 ≤ k) (h2 : k < N') : wf_z g re ar hs (ns k) (frs k) := by
  have h := wf_zall H (k - s0) (by omega)
  rw [show s0 + (k - s0) = k by omega] at h
  exact h
/-- an opener's frame stands over what stood before it -/
theorem wf_stand (H : wf_S F N' s0 g op ar ow en el pa lo re hs ns frs σ τ) {x : Nat} (hx0 : s0 ≤ x) (hx1 : 1 ≤ op x) (hx3 : op x ≤ 3) : ∀ d, x + 1 + d < N' → x ∈ ns (x + 1 + d) → ∃ p pre lv, ns (x + 1 + d) = p ++ x :: ns x ∧ frs (x + 1 + d) = pre ++ (x + 1, hs (x + 1), ar x, lv) :: frs x ∧ p.length = pre.length := by
  have H0 := H
  obtain ⟨hst, -, hmem, -, -, hH⟩ := H
  intro d
  induction d with
  | zero =>
    intro hd hx
    obtain ⟨s1, -⟩ := hst x hx0 hd
    obtain ⟨y, bs, gv, lv, r, e, h⟩ := wf_shape (hH x hx0 (by omega)).1
    rcases h with ⟨c, -⟩ | ⟨c1, c2, h⟩ | ⟨c, -⟩ | ⟨c, -⟩
    · omega
    · exact ⟨[], [], 1, (s1 hx1 hx3).1, h, rfl⟩
    · omega
    · omega
  | succ d ih =>
    intro hd hx
    have hj0 : s0 ≤ x + 1 + d := by omega
    obtain ⟨s1, s2, s3, s4⟩ := hst (x + 1 + d) hj0 (by omega)
    have hz := wf_zat H0 hj0 (by omega : x + 1 + d < N')
    have hx : x ∈ ns (x + 1 + d + 1) := hx
    show ∃ p pre lv, ns (x + 1 + d + 1) = p ++ x :: ns x ∧ frs (x + 1 + d + 1) = pre ++ (x + 1, hs (x + 1), ar x, lv) :: frs x ∧ p.length = pre.length
    obtain ⟨y, bs, gv, lv, r, e, h⟩ := wf_shape (hH (x + 1 + d) hj0 (by omega)).1
    rcases h with ⟨c, lv', h⟩ | ⟨c1, c2, h⟩ | ⟨c, h, -⟩ | ⟨c, hy, h⟩
    · have en1 : ns (x + 1 + d + 1) = ns (x + 1 + d) := by
        by_cases c4 : op (x + 1 + d) = 4
        · obtain ⟨y, t, -, -, -, q⟩ := s2 c4
          exact q
        · exact s4 (by omega)
      rw [en1] at hx ⊢
      obtain ⟨p, pre, l0, q1, q2, q3⟩ := ih (by omega) hx
      rw [q2] at e
      cases pre with
      | nil =>
        obtain ⟨e1, e2⟩ := List.cons.inj e
        obtain ⟨rfl, rfl, rfl, -⟩ : x + 1 = y ∧ hs (x + 1) = bs ∧ ar x = gv ∧ l0 = lv := by simpa using e1
        exact ⟨p, [], lv', q1, by rw [h, e2]; rfl, q3⟩
      | cons a pre =>
        obtain ⟨e1, e2⟩ := List.cons.inj e
        exact ⟨p, (y, bs, gv, lv') :: pre, l0, q1, by rw [h, ← e2]; rfl, q3⟩
    · rw [(s1 c1 c2).1] at hx ⊢
      rcases List.mem_cons.mp hx with hx | hx
      · omega
      · obtain ⟨p, pre, l0, q1, q2, q3⟩ := ih (by omega) hx
        exact ⟨(x + 1 + d) :: p, (x + 1 + d + 1, hs (x + 1 + d + 1), ar (x + 1 + d), 1) :: pre, l0, by rw [q1]; rfl, by rw [h, q2]; rfl, by simp [q3]⟩
    · obtain ⟨y2, t, q1, -⟩ := s3 c
      rw [q1, e] at hz
      obtain ⟨l0, r0, e0, -⟩ := hz
      have : y = y2 + 1 := congrArg Prod.fst (List.cons.inj e0).1
      omega
    · obtain ⟨y2, t, w1, w2, -⟩ := s3 c
      rw [w2] at hx ⊢
      obtain ⟨p, pre, l0, q1, q2, q3⟩ := ih (by omega) (by rw [w1]; exact List.mem_cons_of_mem _ hx)
      rw [w1] at q1
      rw [q2] at e
      cases p with
      | nil =>
        rw [(List.cons.inj q1).2] at hx
        have := ((hmem x hx0 (by omega)).2 x hx).2.1
        omega
      | cons b p =>
        cases pre with
        | nil => simp at q3
        | cons a pre =>
          refine ⟨p, pre, l0, (List.cons.inj q1).2, ?_, by simpa using q3⟩
          rw [h]
          exact (List.cons.inj e).2.symm
theorem wf_sub (H : wf_S F N' s0 g op ar ow en el pa lo re hs ns frs σ τ) {x j : Nat} (h1 : s0 ≤ j) (h2 : j < N') (hx : x ∈ ns j) (hl : ∀ q ∈ frs j, q.2.2.2 = 1) : ∀ q ∈ frs x, q.2.2.2 = 1 := by
  obtain ⟨a1, a2, a3, a4⟩ := (H.2.2.1 j h1 h2).2 x hx
  obtain ⟨p, pre, lv, -, e, -⟩ := wf_stand H a1 a3 a4 (j - x - 1) (by omega) (by rw [show x + 1 + (j - x - 1) = j by omega]; exact hx)
  rw [show x + 1 + (j - x - 1) = j by omega] at e
  intro q hq
  exact hl q (by rw [e]; exact List.mem_append_right _ (List.mem_cons_of_mem _ hq))
theorem wf_top (H : wf_S F N' s0 g op ar ow en el pa lo re hs ns frs σ τ) {x j : Nat} {r : List Nat} (h1 : s0 ≤ j) (h2 : j < N') (hx : ns j = x :: r) : ∃ lv, frs j = (x + 1, hs (x + 1), ar x, lv) :: frs x := by
  have hm : x ∈ ns j := by rw [hx]; exact List.mem_cons_self
  obtain ⟨nd, hh⟩ := H.2.2.1 j h1 h2
  obtain ⟨a1, a2, a3, a4⟩ := hh x hm
  obtain ⟨p, pre, lv, e1, e2, e3⟩ := wf_stand H a1 a3 a4 (j - x - 1) (by omega) (by rw [show x + 1 + (j - x - 1) = j by omega]; exact hm)
  rw [show x + 1 + (j - x - 1) = j by omega] at e1 e2
  cases p with
  | nil =>
    cases pre with
    | nil => exact ⟨lv, e2⟩
    | cons a pre => simp at e3
  | cons b p =>
    exfalso
    rw [hx] at e1
    obtain ⟨e4, e5⟩ := List.cons.inj e1
    rw [hx] at nd
    exact (List.nodup_cons.mp nd).1 (by rw [e5]; exact List.mem_append_right _ List.mem_cons_self)
theorem wf_closed (H : wf_S F N' s0 g op ar ow en el pa lo re hs ns frs σ τ) {x : Nat} : ∀ (d k : Nat), k + d = N' - 1 → s0 ≤ k → x ∈ ns k → ∃ e r, k ≤ e ∧ e + 1 < N' ∧ op e = 5 ∧ en x = e ∧ ns e = x :: r ∧ (el x ≠ 0 → en (el x) = e) := by
  obtain ⟨hst, ⟨-, hE, -⟩, -⟩ := H
  intro d
  induction d with
  | zero =>
    intro k hk h1 hx
    rw [show k = N' - 1 by omega, hE] at hx
    exact absurd hx List.not_mem_nil
  | succ d ih =>
    intro k hk h1 hx
    have go : x ∈ ns (k + 1) → ∃ e r, k ≤ e ∧ e + 1 < N' ∧ op e = 5 ∧ en x = e ∧ ns e = x :: r ∧ (el x ≠ 0 → en (el x) = e) := fun h => by
      obtain ⟨e, r, e1, e2⟩ := ih (k + 1) (by omega) (by omega) h
      exact ⟨e, r, by omega, e2⟩
    have hlt : k + 1 < N' := by omega
    obtain ⟨a1, a2, a3, a4⟩ := hst k h1 hlt
    by_cases c1 : 1 ≤ op k ∧ op k ≤ 3
    · exact go (by rw [(a1 c1.1 c1.2).1]; exact List.mem_cons_of_mem _ hx)
    · by_cases c2 : op k = 4
      · obtain ⟨y, r, -, -, -, q⟩ := a2 c2
        exact go (by rw [q]; exact hx)
      · by_cases c3 : op k = 5
        · obtain ⟨y, r, q1, q2, q3, q4⟩ := a3 c3
          have hx' := hx
          rw [q1] at hx'
          rcases List.mem_cons.mp hx' with rfl | hx'
          · exact ⟨k, r, Nat.le_refl _, hlt, c3, q3, q1, q4⟩
          · exact go (by rw [q2]; exact hx')
        · exact go (by rw [a4 (by omega)]; exact hx)
/-- where an opener's frame ends -/
theorem wf_end (H : wf_S F N' s0 g op ar ow en el pa lo re hs ns frs σ τ) {x k : Nat} (h1 : s0 ≤ k) (h2 : k < N') (hx : x ∈ ns k) : x < en x ∧ en x + 1 < N' ∧ frs (en x + 1) = frs x ∧ hs (en x + 1) = hs (x + 1) + ar x ∧ ¬ (op x = 3 ∧ ar x = 1 ∧ el x = 0) ∧ (el x ≠ 0 → en (el x) = en x) := by
  have hxx := (H.2.2.1 k h1 h2).2 x hx
  obtain ⟨e, r, e1, e2, e3, e4, e5, e6⟩ := wf_closed H (N' - 1 - k) k (by omega) h1 hx
  obtain ⟨lv, f⟩ := wf_top H (by omega) (by omega : e < N') e5
  obtain ⟨y, bs, gv, lv2, r2, f2, hb, hD⟩ := (H.2.2.2.2.2 e (by omega) (by omega)).1
  rw [f] at f2
  obtain ⟨f3, f4⟩ := List.cons.inj f2
  obtain ⟨rfl, rfl, rfl, rfl⟩ : x + 1 = y ∧ hs (x + 1) = bs ∧ ar x = gv ∧ lv = lv2 := by simpa using f3
  rw [e4]
  rcases hD with ⟨c, -⟩ | ⟨c, -⟩ | ⟨c, -⟩ | ⟨c, -⟩ | ⟨c, h, -⟩ | ⟨c, ⟨xo, h0, h3⟩, h4, h5, -⟩ | ⟨c, -⟩ | ⟨c, -⟩ | ⟨c, -⟩ | ⟨c, -⟩ | ⟨c, -⟩
  · omega
  · omega
  · omega
  · omega
  · omega
  · obtain rfl : x = xo := by omega
    exact ⟨by omega, e2, by rw [h4, f4], h5, h3, e6⟩
  · omega
  · omega
  · omega
  · omega
  · omega
end WF1
