/-! reading: how the frames nest: before instruction k the openers ns k stand, the latest first -/
def rq_St (ns : Nat → List Nat) (op ar en el : Nat → Nat) (k : Nat) : Prop :=
  (1 ≤ op k → op k ≤ 3 → ns (k + 1) = k :: ns k ∧ ar k ≤ 1) ∧
  (op k = 4 → ∃ x r, ns k = x :: r ∧ op x = 3 ∧ el x = k ∧ ns (k + 1) = ns k) ∧
  (op k = 5 → ∃ x r, ns k = x :: r ∧ ns (k + 1) = r ∧ en x = k ∧ (el x ≠ 0 → en (el x) = k)) ∧
  (op k = 0 ∨ 6 ≤ op k → ns (k + 1) = ns k)
def rq_Jn (f s0 : Nat) (op0 ar0 ow0 en0 el0 : Nat → Nat) : rq_J := fun N st op ar ow en el =>
  s0 ≤ N ∧ (∀ k, k < s0 → op k = op0 k ∧ ar k = ar0 k ∧ ow k = ow0 k ∧ en k = en0 k ∧ el k = el0 k) ∧
  ∃ ns : Nat → List Nat, ns s0 = [] ∧ ns N = st ∧ (∀ k, s0 ≤ k → k < N → rq_St ns op ar en el k ∧ ow k = f) ∧
    (∀ k, s0 ≤ k → k ≤ N → (ns k).Nodup ∧ ∀ x ∈ ns k, s0 ≤ x ∧ x < k ∧ 1 ≤ op x ∧ op x ≤ 3) ∧ (∀ x ∈ st, en x = 0) ∧
    (∀ x, s0 ≤ x → x < N → el x ≠ 0 → x < el x ∧ el x < N ∧ op (el x) = 4 ∧ ∃ r, ns (el x) = x :: r)
section RQN
variable {N k o a : Nat} {ns ns' : Nat → List Nat} {op op' ar ar' en en' el el' : Nat → Nat}
theorem rq_St.up (h : rq_St ns op ar en el k) (h1 : ns' k = ns k) (h2 : ns' (k + 1) = ns (k + 1)) (h3 : op' k = op k) (h4 : ar' k = ar k) (hop : ∀ x ∈ ns k, op' x = op x) (h5 : ∀ x r, op k = 4 → ns k = x :: r → el x = k → el' x = k) (h6 : ∀ x r, op k = 5 → ns k = x :: r → en x = k → (el x ≠ 0 → en (el x) = k) → en' x = k ∧ (el' x ≠ 0 → en' (el' x) = k)) : rq_St ns' op' ar' en' el' k := by
  obtain ⟨s1, s2, s3, s4⟩ := h
  unfold rq_St
  rw [h1, h2, h3, h4]
  refine ⟨s1, fun e => ?_, fun e => ?_, s4⟩
  · obtain ⟨x, r, t1, t2, t3, t4⟩ := s2 e
    exact ⟨x, r, t1, by rw [hop x (by rw [t1]; exact List.mem_cons_self)]; exact t2, h5 x r e t1 t3, t4⟩
  · obtain ⟨x, r, t1, t2, t3, t4⟩ := s3 e
    obtain ⟨u1, u2⟩ := h6 x r e t1 t3 t4
    exact ⟨x, r, t1, t2, u1, u2⟩
end RQN
theorem rq_Jn_keeps (f s0 : Nat) (op0 ar0 ow0 en0 el0 : Nat → Nat) : rq_JK f (rq_Jn f s0 op0 ar0 ow0 en0 el0) := by
  intro N st st' op ar ow en el o a en' el' e hJ hX ho ha ha1 he
  obtain ⟨h1, h2, ns, n0, nN, hS, hM, hE, hL⟩ := hJ
  have hMN := hM N h1 (Nat.le_refl _)
  rw [nN] at hMN
  -- the rows set behind lie in this function
  have top : ∀ x r, st = x :: r → s0 ≤ x ∧ x < N ∧ 1 ≤ op x ∧ op x ≤ 3 ∧ en x = 0 := fun x r e => by
    have h := hMN.2 x (by rw [e]; exact List.mem_cons_self)
    exact ⟨h.1, h.2.1, h.2.2.1, h.2.2.2, hE x (by rw [e]; exact List.mem_cons_self)⟩
  -- what en' and el' are below N
  have base : (∀ k, k < N → en' k = en k ∨ ∃ x r, o = 5 ∧ st = x :: r ∧ (k = x ∨ (el x ≠ 0 ∧ k = el x)) ∧ en' k = N) ∧ (∀ k, k < N → el' k = el k ∨ ∃ x r, o = 4 ∧ st = x :: r ∧ k = x ∧ el x = 0 ∧ el' k = N) ∧ en' N = 0 ∧ el' N = 0 := by
    rcases hX with ⟨-, -, -, g1, g2, -⟩ | ⟨g0, -, x, r, g3, g4, g5, g6, g7, g8⟩ | ⟨g0, -, x, r, g3, g6, g7, g8⟩ | ⟨-, -, -, -, g1, g2⟩ | ⟨-, -, -, -, -, g1, g2⟩
    · subst g1; subst g2
      exact ⟨fun k hk => Or.inl (rq_U_n (by omega)), fun k hk => Or.inl (rq_U_n (by omega)), rq_U_s, rq_U_s⟩
    · subst g7; subst g8
      have hx := top x r g3
      refine ⟨fun k hk => Or.inl (rq_U_n (by omega)), fun k hk => ?_, rq_U_s, by rw [rq_U_n (by omega), rq_U_s]⟩
      by_cases c : k = x
      · subst c; exact Or.inr ⟨k, r, g0, g3, rfl, g5, rq_U_s⟩
      · left; rw [rq_U_n c, rq_U_n (by omega)]
    · subst g7; subst g8
      have hx := top x r g3
      refine ⟨fun k hk => ?_, fun k hk => Or.inl (rq_U_n (by omega)), ?_, rq_U_s⟩
      · by_cases c : k = x ∨ (el x ≠ 0 ∧ k = el x)
        · exact Or.inr ⟨x, r, g0, g3, c, if_pos c⟩
        · exact Or.inl ((if_neg c).trans (rq_U_n (by omega)))
      · have hn : ¬ (N = x ∨ (el x ≠ 0 ∧ N = el x)) := by
          rintro (c | ⟨c1, c2⟩)
          · omega
          · have := (hL x hx.1 hx.2.1 c1).2.1; omega
        show (if N = x ∨ (el x ≠ 0 ∧ N = el x) then N else rq_U en N 0 N) = 0
        rw [if_neg hn, rq_U_s]
    · subst g1; subst g2
      exact ⟨fun k hk => Or.inl (rq_U_n (by omega)), fun k hk => Or.inl (rq_U_n (by omega)), rq_U_s, rq_U_s⟩
    · subst g1; subst g2
      exact ⟨fun k hk => Or.inl (rq_U_n (by omega)), fun k hk => Or.inl (rq_U_n (by omega)), rq_U_s, rq_U_s⟩
  obtain ⟨bE, bL, bE0, bL0⟩ := base
  have low : ∀ k, k < s0 → en' k = en k ∧ el' k = el k := fun k hk => by
    constructor
    · rcases bE k (by omega) with c | ⟨x, r, -, c1, c2, -⟩
      · exact c
      · have hx := top x r c1
        rcases c2 with c2 | ⟨c2, c3⟩
        · omega
        · have := (hL x hx.1 hx.2.1 c2).1; omega
    · rcases bL k (by omega) with c | ⟨x, r, -, c1, c2, -⟩
      · exact c
      · have hx := top x r c1; omega
  refine ⟨by omega, fun k hk => ?_, fun k => if k = N + 1 then st' else ns k, ?_, if_pos rfl, ?_, ?_, ?_, ?_⟩
  · obtain ⟨q1, q2, q3, q4, q5⟩ := h2 k hk
    rw [rq_U_n (by omega), rq_U_n (by omega), rq_U_n (by omega), (low k hk).1, (low k hk).2]
    exact ⟨q1, q2, q3, q4, q5⟩
  · show (if s0 = N + 1 then st' else ns s0) = []
    rw [if_neg (by omega)]; exact n0
  · -- the steps
    intro k hk1 hk2
    by_cases c : k = N
    · subst c
      refine ⟨?_, rq_U_s⟩
      unfold rq_St
      dsimp only
      rw [if_pos rfl, if_neg (show ¬ k = k + 1 by omega), rq_U_s, rq_U_s, nN]
      rcases hX with ⟨g1, g2, g3, -, -, -⟩ | ⟨g0, -, x, r, g3, g4, g5, g6, g7, g8⟩ | ⟨g0, -, x, r, g3, g6, g7, g8⟩ | ⟨-, g0, -⟩ | ⟨g1, g2, g3, -, g4, -, -⟩
      · exact ⟨fun q1 q2 => ⟨g3, ha1 q1 q2⟩, fun q => absurd q (by omega), fun q => absurd q (by omega), fun q => absurd q (by omega)⟩
      · have hx := top x r g3
        refine ⟨fun q1 q2 => absurd q2 (by omega), fun _ => ⟨x, r, g3, by rw [rq_U_n (by omega)]; exact g4, by rw [g8, rq_U_s], g6⟩, fun q => absurd q (by omega), fun q => absurd q (by omega)⟩
      · have hx := top x r g3
        refine ⟨fun q1 q2 => absurd q2 (by omega), fun q => absurd q (by omega), fun _ => ⟨x, r, g3, g6, by rw [g8]; exact if_pos (Or.inl rfl), fun hne => ?_⟩, fun q => absurd q (by omega)⟩
        rw [g7, rq_U_n (by omega)] at hne ⊢
        rw [g8]
        exact if_pos (Or.inr ⟨hne, rfl⟩)
      · omega
      · exact ⟨fun q1 q2 => absurd ⟨q1, q2⟩ g1, fun q => absurd q g2, fun q => absurd q g3, fun _ => g4⟩
    · have hk : k < N := by omega
      obtain ⟨s1, s2⟩ := hS k hk1 hk
      have hm := hM k hk1 (by omega)
      refine ⟨s1.up (if_neg (by omega)) (if_neg (by omega)) (rq_U_n c) (rq_U_n c) (fun x hx => rq_U_n (by have := (hm.2 x hx).2.1; omega)) ?_ ?_, by rw [rq_U_n c]; exact s2⟩
      · intro x r q1 q2 q3
        have hx := hm.2 x (by rw [q2]; exact List.mem_cons_self)
        rcases bL x (by omega) with c | ⟨y, r2, -, -, c3, c4, -⟩
        · rw [c]; exact q3
        · subst c3; omega
      · intro x r q1 q2 q3 q4
        have hx := hm.2 x (by rw [q2]; exact List.mem_cons_self)
        have hex : en' x = k := by
          rcases bE x (by omega) with c | ⟨y, r2, -, c2, c3, -⟩
          · rw [c]; exact q3
          · have hy := top y r2 c2
            rcases c3 with c3 | ⟨c3, c4⟩
            · subst c3; omega
            · have := (hL y hy.1 hy.2.1 c3).2.2.1
              rw [← c4] at this; omega
        have hlx : el' x = el x := by
          rcases bL x (by omega) with c | ⟨y, r2, -, c2, c3, -, -⟩
          · exact c
          · have hy := top y r2 c2
            subst c3; omega
        refine ⟨hex, fun hne => ?_⟩
        rw [hlx] at hne ⊢
        obtain ⟨l1, l2, l3, r3, l4⟩ := hL x hx.1 (by omega) hne
        rcases bE (el x) l2 with c | ⟨y, r2, -, c2, c3, -⟩
        · rw [c]; exact q4 hne
        · have hy := top y r2 c2
          rcases c3 with c3 | ⟨c3, c4⟩
          · rw [c3] at l3; omega
          · obtain ⟨m1, m2, m3, r4, m4⟩ := hL y hy.1 hy.2.1 c3
            rw [← c4, l4] at m4
            have : x = y := (List.cons.inj m4).1
            subst this; omega
  · -- the frames that stand
    intro k hk1 hk2
    by_cases c : k = N + 1
    · subst c
      dsimp only
      rw [if_pos rfl]
      have old : ∀ x ∈ st, s0 ≤ x ∧ x < N + 1 ∧ 1 ≤ rq_U op N o x ∧ rq_U op N o x ≤ 3 := fun x hx => by
        have q := hMN.2 x hx
        rw [rq_U_n (by omega)]; exact ⟨q.1, by omega, q.2.2.1, q.2.2.2⟩
      rcases hX with ⟨g1, g2, g3, -, -, -⟩ | ⟨g0, -, x, r, g3, g4, g5, g6, g7, g8⟩ | ⟨g0, -, x, r, g3, g6, g7, g8⟩ | ⟨-, g0, -⟩ | ⟨g1, g2, g3, -, g4, -, -⟩
      · subst g3
        refine ⟨List.nodup_cons.mpr ⟨fun hm => ?_, hMN.1⟩, fun x hx => ?_⟩
        · have := (hMN.2 N hm).2.1; omega
        · rcases List.mem_cons.mp hx with rfl | hx
          · rw [rq_U_s]; exact ⟨h1, by omega, g1, g2⟩
          · exact old x hx
      · rw [g6]; exact ⟨hMN.1, old⟩
      · rw [g6]
        have hnd := hMN.1
        rw [g3] at hnd
        exact ⟨(List.nodup_cons.mp hnd).2, fun y hy => old y (by rw [g3]; exact List.mem_cons_of_mem _ hy)⟩
      · omega
      · rw [g4]; exact ⟨hMN.1, old⟩
    · have q := hM k hk1 (by omega)
      dsimp only
      rw [if_neg c]
      exact ⟨q.1, fun x hx => by
        have q2 := q.2 x hx
        rw [rq_U_n (by omega)]; exact q2⟩
  · -- they have no end yet
    intro x hx
    have old : x ∈ st → (∀ y r, o = 5 → st = y :: r → x ∈ r) → en' x = 0 := fun hm hr => by
      have q := hMN.2 x hm
      rcases bE x q.2.1 with c | ⟨y, r, c1, c2, c3, -⟩
      · rw [c]; exact hE x hm
      · have hy := top y r c2
        have hxr := hr y r c1 c2
        rcases c3 with c3 | ⟨c3, c4⟩
        · have hnd := hMN.1
          rw [c2] at hnd
          rw [c3] at hxr
          exact absurd hxr (List.nodup_cons.mp hnd).1
        · have := (hL y hy.1 hy.2.1 c3).2.2.1
          rw [← c4] at this; omega
    rcases hX with ⟨g1, g2, g3, -, -, -⟩ | ⟨g0, -, y, r, g3, g4, g5, g6, g7, g8⟩ | ⟨g0, -, y, r, g3, g6, g7, g8⟩ | ⟨-, g0, -⟩ | ⟨g1, g2, g3, -, g4, -, -⟩
    · rw [g3] at hx
      rcases List.mem_cons.mp hx with rfl | hx
      · exact bE0
      · exact old hx (fun _ _ q _ => absurd q (by omega))
    · rw [g6] at hx; exact old hx (fun _ _ q _ => absurd q (by omega))
    · rw [g6] at hx
      refine old (by rw [g3]; exact List.mem_cons_of_mem _ hx) (fun z r2 _ q => ?_)
      rw [g3] at q
      rw [← (List.cons.inj q).2]; exact hx
    · omega
    · rw [g4] at hx; exact old hx (fun _ _ q _ => absurd q g3)
  · -- elses
    intro x hx1 hx2 hne
    by_cases c : x = N
    · rw [c] at hne; exact absurd bL0 hne
    · dsimp only
      rcases bL x (by omega) with q | ⟨y, r, q0, q1, q2, q3, q4⟩
      · rw [q] at hne ⊢
        obtain ⟨m1, m2, m3, r, m4⟩ := hL x hx1 (by omega) hne
        exact ⟨m1, by omega, by rw [rq_U_n (by omega)]; exact m3, r, by rw [if_neg (by omega)]; exact m4⟩
      · rw [q4]
        exact ⟨by omega, by omega, by rw [rq_U_s]; exact q0, r, by rw [if_neg (by omega), nN, q1, q2]⟩
