/-! checking: the frames are those of the nest -/
section CKF
variable {f s0 N' : Nat} {ns : Nat → List Nat} {op ar ow en el re : Nat → Nat}
/-- an opener that stands has its end before the function's -/
theorem rq_closed (hs : ∀ k, s0 ≤ k → k + 1 < N' → rq_St ns op ar en el k ∧ ow k = f) (hE : ns (N' - 1) = []) {x : Nat} : ∀ (d k : Nat), k + d = N' - 1 → s0 ≤ k → x ∈ ns k → ∃ e, k ≤ e ∧ e + 1 < N' ∧ op e = 5 ∧ en x = e := by
  intro d
  induction d with
  | zero =>
    intro k hk h1 hx
    rw [show k = N' - 1 by omega, hE] at hx
    exact absurd hx List.not_mem_nil
  | succ d ih =>
    intro k hk h1 hx
    have go : x ∈ ns (k + 1) → ∃ e, k ≤ e ∧ e + 1 < N' ∧ op e = 5 ∧ en x = e := fun h => by
      obtain ⟨e, e1, e2⟩ := ih (k + 1) (by omega) (by omega) h
      exact ⟨e, by omega, e2⟩
    have hlt : k + 1 < N' := by omega
    obtain ⟨⟨a1, a2, a3, a4⟩, -⟩ := hs k h1 hlt
    by_cases c1 : 1 ≤ op k ∧ op k ≤ 3
    · exact go (by rw [(a1 c1.1 c1.2).1]; exact List.mem_cons_of_mem _ hx)
    · by_cases c2 : op k = 4
      · obtain ⟨y, r, -, -, -, q⟩ := a2 c2
        exact go (by rw [q]; exact hx)
      · by_cases c3 : op k = 5
        · obtain ⟨y, r, q1, q2, q3, -⟩ := a3 c3
          rw [q1] at hx
          rcases List.mem_cons.mp hx with rfl | hx
          · exact ⟨k, Nat.le_refl _, hlt, c3, q3⟩
          · exact go (by rw [q2]; exact hx)
        · exact go (by rw [a4 (by omega)]; exact hx)
/-- frames as the nest has them: openers, what they give, bases that do not fall towards the latest -/
def ck_mt (g : Nat) (re ar : Nat → Nat) : List Nat → List (Nat × Nat × Nat × Nat) → Nat → Prop
  | [], fr, _ => ∃ lv, fr = [(0, 0, re g, lv)]
  | x :: xs, fr, hh => ∃ bs lv r, fr = (x + 1, bs, ar x, lv) :: r ∧ bs ≤ hh ∧ ck_mt g re ar xs r bs
theorem ck_mt.up {g : Nat} : ∀ {l : List Nat} {fr : List (Nat × Nat × Nat × Nat)} {a b : Nat}, ck_mt g re ar l fr a → a ≤ b → ck_mt g re ar l fr b
  | [], _, _, _, h, _ => h
  | _ :: _, _, _, _, ⟨bs, lv, r, e, h1, h2⟩, hab => ⟨bs, lv, r, e, Nat.le_trans h1 hab, h2⟩
theorem ck_mt.top {g hh : Nat} {l : List Nat} {fr : List (Nat × Nat × Nat × Nat)} (h : ck_mt g re ar l fr hh) : ∃ x bs gv lv r, fr = (x, bs, gv, lv) :: r ∧ bs ≤ hh ∧ r.length = l.length := by
  induction l generalizing fr hh with
  | nil => obtain ⟨lv, e⟩ := h; exact ⟨0, 0, re g, lv, [], e, Nat.zero_le _, rfl⟩
  | cons y ys ih =>
    obtain ⟨bs, lv, r, e, h1, h2⟩ := h
    obtain ⟨x2, b2, g2, l2, r2, e2, -, h3⟩ := ih h2
    exact ⟨y + 1, bs, ar y, lv, r, e, h1, by rw [e2]; simp [h3]⟩
theorem ck_mt.ok {g N : Nat} : ∀ {l : List Nat} {fr : List (Nat × Nat × Nat × Nat)} {hh : Nat}, ck_mt g re ar l fr hh → (∀ x ∈ l, x < N ∧ en x ≠ 0) → ck_ok N g op ar en re fr
  | [], fr, hh, ⟨lv, e⟩, _ => by
    subst e
    intro a q hq
    cases a with
    | zero =>
      have e : (0, 0, re g, lv) = q := by simpa using hq
      subst e
      exact ⟨fun _ => rfl, fun h => absurd rfl h⟩
    | succ a => simp at hq
  | x :: xs, fr, hh, ⟨bs, lv, r, e, h1, h2⟩, hl => by
    subst e
    intro a q hq
    cases a with
    | zero =>
      have e : (x + 1, bs, ar x, lv) = q := by simpa using hq
      subst e
      have := hl x List.mem_cons_self
      exact ⟨fun h => absurd h (by simp), fun _ => ⟨by simpa using this.1, by simp, fun _ => by simpa using this.2⟩⟩
    | succ a => exact ck_mt.ok h2 (fun y hy => hl y (List.mem_cons_of_mem _ hy)) a q (by simpa using hq)
end CKF
