/-! checking: what is known of an instruction that can be come to -/
def wf_br (N : Nat) (op en : Nat → Nat) (rg : Nat) (Go : Nat → Nat → Prop) (k h : Nat) (σ τ : rt_St) : Prop := ∃ b nd, nd ≤ 1 ∧ b + nd ≤ h ∧ σ 8 k = nI b ∧ σ 9 k = nI nd ∧ τ 9 k = nI b ∧ τ 10 k = nI nd ∧ ((σ 7 k = -1 ∧ τ 8 k = -1 ∧ nd = rg ∧ b = 0) ∨ ∃ x, x < N ∧ σ 7 k = nI ((if op x = 2 then x else en x) + 1) ∧ τ 8 k = nI x ∧ (op x ≠ 2 → en x ≠ 0) ∧ Go ((if op x = 2 then x else en x) + 1) (b + nd))
def wf_K (F N : Nat) (op ar ow en el pa lo re : Nat → Nat) (Go : Nat → Nat → Prop) (La : Prop) (h k : Nat) (σ τ : rt_St) : Prop :=
  (op k = 1 ∨ op k = 2 → Go (k + 1) h) ∧
  (op k = 3 → 1 ≤ h ∧ en k ≠ 0 ∧ Go (k + 1) (h - 1) ∧ Go ((if el k = 0 then en k else el k) + 1) (h - 1) ∧ σ 7 k = nI ((if el k = 0 then en k else el k) + 1) ∧ σ 8 k = nI (h - 1) ∧ σ 9 k = 0) ∧
  (op k = 4 → en k ≠ 0 ∧ ∃ b gv, gv ≤ 1 ∧ h = b + gv ∧ Go (en k + 1) h ∧ σ 7 k = nI (en k + 1) ∧ σ 8 k = nI b ∧ σ 9 k = nI gv) ∧
  (op k = 5 → (¬ La ∧ ∃ b gv, gv ≤ 1 ∧ h = b + gv ∧ Go (k + 1) h ∧ σ 7 k = nI (k + 1) ∧ σ 8 k = nI b ∧ σ 9 k = nI gv) ∨ (La ∧ h = re (ow k) ∧ σ 7 k = -1 ∧ σ 8 k = 0 ∧ σ 9 k = nI (re (ow k)))) ∧
  (op k = 6 → wf_br N op en (re (ow k)) Go k h σ τ) ∧
  (op k = 7 → 1 ≤ h ∧ Go (k + 1) (h - 1) ∧ wf_br N op en (re (ow k)) Go k (h - 1) σ τ) ∧
  (op k = 8 → re (ow k) ≤ h ∧ σ 7 k = -1 ∧ σ 8 k = 0 ∧ σ 9 k = nI (re (ow k))) ∧
  (op k = 9 → ar k < F ∧ pa (ar k) ≤ h ∧ Go (k + 1) (h - pa (ar k) + re (ar k))) ∧
  (10 ≤ op k → ck_tk (op k) ≤ h ∧ Go (k + 1) (h - ck_tk (op k) + ck_gv (op k)) ∧ (12 ≤ op k → op k ≤ 14 → ar k < pa (ow k) + lo (ow k)))
section WF2
variable {F N N' s0 g : Nat} {op ar ow en el pa lo re hs : Nat → Nat} {ns : Nat → List Nat} {frs : Nat → List (Nat × Nat × Nat × Nat)} {σ τ : rt_St}
theorem wf_br.mono {rg k h : Nat} {Go Go' : Nat → Nat → Prop} (H : wf_br N op en rg Go k h σ τ) (hg : ∀ j i, Go j i → Go' j i) : wf_br N op en rg Go' k h σ τ := by
  obtain ⟨b, nd, a1, a2, a3, a4, a5, a6, a7⟩ := H
  refine ⟨b, nd, a1, a2, a3, a4, a5, a6, ?_⟩
  rcases a7 with a7 | ⟨x, b1, b2, b3, b4, b5⟩
  · exact Or.inl a7
  · exact Or.inr ⟨x, b1, b2, b3, b4, hg _ _ b5⟩
theorem wf_K.mono {h k : Nat} {Go Go' : Nat → Nat → Prop} {La La' : Prop} (H : wf_K F N op ar ow en el pa lo re Go La h k σ τ) (hg : ∀ j i, Go j i → Go' j i) (hl : La ↔ La') : wf_K F N op ar ow en el pa lo re Go' La' h k σ τ := by
  obtain ⟨h1, h2, h3, h4, h5, h6, h7, h8, h9⟩ := H
  refine ⟨fun c => hg _ _ (h1 c), fun c => ?_, fun c => ?_, fun c => ?_, fun c => (h5 c).mono hg, fun c => ?_, h7, fun c => ?_, fun c => ?_⟩
  · obtain ⟨a1, a2, a3, a4, a5⟩ := h2 c
    exact ⟨a1, a2, hg _ _ a3, hg _ _ a4, a5⟩
  · obtain ⟨a1, b, gv, a2, a3, a4, a5⟩ := h3 c
    exact ⟨a1, b, gv, a2, a3, hg _ _ a4, a5⟩
  · rcases h4 c with ⟨a1, b, gv, a2, a3, a4, a5⟩ | ⟨a1, a2⟩
    · exact Or.inl ⟨fun q => a1 (hl.mpr q), b, gv, a2, a3, hg _ _ a4, a5⟩
    · exact Or.inr ⟨hl.mp a1, a2⟩
  · obtain ⟨a1, a2, a3⟩ := h6 c
    exact ⟨a1, hg _ _ a2, a3.mono hg⟩
  · obtain ⟨a1, a2, a3⟩ := h8 c
    exact ⟨a1, a2, hg _ _ a3⟩
  · obtain ⟨a1, a2, a3⟩ := h9 c
    exact ⟨a1, hg _ _ a2, a3⟩
theorem wf_brk (H : wf_S F N' s0 g op ar ow en el pa lo re hs ns frs σ τ) (hN' : N' ≤ N) (hre : re g ≤ 1) {k h bs : Nat} {q : Nat × Nat × Nat × Nat} (h1 : s0 ≤ k) (h2 : k < N') (hl : ∀ q ∈ frs k, q.2.2.2 = 1) (hq : q ∈ frs k) (hb : q.2.1 ≤ bs) (hh : bs + ck_nd op q ≤ h) (e : σ 7 k = ck_gl op en q ∧ σ 8 k = nI q.2.1 ∧ σ 9 k = nI (ck_nd op q)) (e2 : τ 8 k = ck_o (-1) q.1 ∧ τ 9 k = nI q.2.1 ∧ τ 10 k = nI (ck_nd op q)) : wf_br N op en (re g) (fun j h => s0 < j ∧ j < N' ∧ (∀ q ∈ frs j, q.2.2.2 = 1) ∧ hs j = h) k h σ τ := by
  obtain ⟨e7, e8, e9⟩ := e
  obtain ⟨t8, t9, t10⟩ := e2
  rcases (wf_zat H h1 h2).mem hq with ⟨m1, m2, m3⟩ | ⟨y, m0, m1, m2, m3⟩
  · have nd : ck_nd op q = re g := by unfold ck_nd; rw [if_pos m1]; exact m3
    refine ⟨q.2.1, ck_nd op q, by omega, by omega, e8, e9, t9, t10, Or.inl ⟨?_, ?_, nd, m2⟩⟩
    · rw [e7]; unfold ck_gl; rw [if_pos m1]
    · rw [t8]; unfold ck_o; rw [if_pos m1]
  · obtain ⟨y0, yk, y1, y3⟩ := (H.2.2.1 k h1 h2).2 y m0
    have ay := ((H.1 y y0 (by omega)).1 y1 y3).2
    obtain ⟨w1, w2, w3, w4, -, -⟩ := wf_end H h1 h2 m0
    have sub := wf_sub H h1 h2 m0 hl
    have nd : ck_nd op q = if op y = 2 then 0 else ar y := by unfold ck_nd; rw [if_neg (by omega), m1, m3]; rfl
    have gl : ck_gl op en q = nI ((if op y = 2 then y else en y) + 1) := by unfold ck_gl; rw [if_neg (by omega), m1]; rfl
    have t8' : τ 8 k = nI y := by rw [t8]; unfold ck_o; rw [if_neg (by omega), m1]; rfl
    have nd1 : ck_nd op q ≤ 1 := by
      rw [nd]
      by_cases c : op y = 2
      · rw [if_pos c]; omega
      · rw [if_neg c]; exact ay
    refine ⟨q.2.1, ck_nd op q, nd1, by omega, e8, e9, t9, t10, Or.inr ⟨y, by omega, by rw [e7, gl], t8', fun _ => by omega, ?_⟩⟩
    by_cases c : op y = 2
    · rw [if_pos c, nd, if_pos c]
      refine ⟨by omega, by omega, fun p hp => ?_, by omega⟩
      obtain ⟨lv, f⟩ := wf_top H (x := y) (j := y + 1) (r := ns y) (by omega) (by omega) ((H.1 y y0 (by omega)).1 y1 y3).1
      obtain ⟨x2, b2, g2, l2, r2, f2, hs2⟩ := wf_shape (H.2.2.2.2.2 y y0 (by omega)).1
      rcases hs2 with ⟨c2, -⟩ | ⟨-, -, f3⟩ | ⟨c2, -⟩ | ⟨c2, -⟩
      · omega
      · rw [f3] at hp
        rcases List.mem_cons.mp hp with rfl | hp
        · rfl
        · exact sub p hp
      · omega
      · omega
    · rw [if_neg c, nd, if_neg c]
      exact ⟨by omega, w2, by rw [w3]; exact sub, by omega⟩
theorem wf_fn (H : wf_S F N' s0 g op ar ow en el pa lo re hs ns frs σ τ) (hN' : N' ≤ N) (hre : re g ≤ 1) (hE5 : op (N' - 1) = 5) (own : ∀ k, s0 ≤ k → k < N' → ow k = g) {k : Nat} (h1 : s0 ≤ k) (h2 : k < N') (hl : ∀ q ∈ frs k, q.2.2.2 = 1) : wf_K F N op ar ow en el pa lo re (fun j h => s0 < j ∧ j < N' ∧ (∀ q ∈ frs j, q.2.2.2 = 1) ∧ hs j = h) (k + 1 = N') (hs k) k σ τ := by
  have kN : op k ≠ 5 → k + 1 < N' := fun c => by
    by_cases q : k + 1 < N'
    · exact q
    · rw [show k = N' - 1 by omega] at c; exact absurd hE5 c
  have ok := own k h1 h2
  have hz := wf_zat H h1 h2
  have hm := H.2.2.2.2.1 k h1 h2
  obtain ⟨x, bs, gv, lv, r, e, hb, hD⟩ := (H.2.2.2.2.2 k h1 h2).1
  have lv1 : lv = 1 := hl (x, bs, gv, lv) (by rw [e]; exact List.mem_cons_self)
  subst lv1
  have rl : ∀ q ∈ r, q.2.2.2 = 1 := fun q hq => hl q (by rw [e]; exact List.mem_cons_of_mem _ hq)
  have ch : ∀ c, bs + c ≤ hs k → ck_h bs (hs k) c = hs k - c := fun c h => if_pos h
  have same : frs (k + 1) = (x, bs, gv, 1) :: r → ∀ q ∈ frs (k + 1), q.2.2.2 = 1 := fun h q hq => hl q (by rw [e, ← h]; exact hq)
  have push : ∀ a b c, frs (k + 1) = (a, b, c, 1) :: frs k → ∀ q ∈ frs (k + 1), q.2.2.2 = 1 := fun a b c h q hq => by
    rw [h] at hq
    rcases List.mem_cons.mp hq with rfl | hq
    · rfl
    · exact hl q hq
  rcases hD with ⟨c, -⟩ | ⟨c, q1, q2⟩ | ⟨c, q1, q2, q3, q4, q5, q6⟩ | ⟨c, xo, q0, q1, q2, q3, q4, q5, q6, q7⟩ | ⟨c, q0, q1, q2, q3, q4, q5, q6, q7, q8⟩ | ⟨c, ⟨xo, q0, q9⟩, q1, q2, q3, q4, q5, q6, q7⟩ | ⟨c, q1, q2, q, q3, q4, q5, q6⟩ | ⟨c, q1, q2, q, q3, q4, q5, q6, q7⟩ | ⟨c, q1, q2, q3, q4, -⟩ | ⟨c, q1, q2, q3, q4⟩ | ⟨c, q1, q2, q3, q4⟩
  · exact ⟨fun h => absurd h (by omega), fun h => absurd h (by omega), fun h => absurd h (by omega), fun h => absurd h (by omega), fun h => absurd h (by omega), fun h => absurd h (by omega), fun h => absurd h (by omega), fun h => absurd h (by omega), fun h => absurd h (by omega)⟩
  · exact ⟨fun _ => ⟨by omega, kN (by omega), push _ _ _ q1, q2⟩, fun h => absurd h (by omega), fun h => absurd h (by omega), fun h => absurd h (by omega), fun h => absurd h (by omega), fun h => absurd h (by omega), fun h => absurd h (by omega), fun h => absurd h (by omega), fun h => absurd h (by omega)⟩
  · have hk1 := kN (by omega)
    have st := (H.1 k h1 hk1).1 (by omega) (by omega)
    have kin : k ∈ ns (k + 1) := by rw [st.1]; exact List.mem_cons_self
    obtain ⟨w1, w2, w3, w4, w5, w6⟩ := wf_end H (by omega : s0 ≤ k + 1) hk1 kin
    have h' : hs (k + 1) = hs k - 1 := by rw [q2]; exact ch 1 (by omega)
    refine ⟨fun h => absurd h (by omega), fun _ => ?_, fun h => absurd h (by omega), fun h => absurd h (by omega), fun h => absurd h (by omega), fun h => absurd h (by omega), fun h => absurd h (by omega), fun h => absurd h (by omega), fun h => absurd h (by omega)⟩
    refine ⟨by omega, by omega, ⟨by omega, hk1, push _ _ _ (by rw [q1, e]), h'⟩, ?_, q4, by rw [q5]; rw [ch 1 (by omega)], q6⟩
    by_cases c0 : el k = 0
    · rw [if_pos c0]
      exact ⟨by omega, w2, by rw [w3]; exact hl, by have := st.2; omega⟩
    · rw [if_neg c0]
      obtain ⟨l1, l2, l3, r2, l4⟩ := H.2.2.2.1 k h1 h2 c0
      obtain ⟨lv, f⟩ := wf_top H (by omega) l2 l4
      obtain ⟨y, b2, g2, lv2, r3, f2, hb2, hD2⟩ := (H.2.2.2.2.2 (el k) (by omega) l2).1
      rw [f] at f2
      obtain ⟨f3, f4⟩ := List.cons.inj f2
      obtain ⟨rfl, rfl, rfl, rfl⟩ : k + 1 = y ∧ hs (k + 1) = b2 ∧ ar k = g2 ∧ lv = lv2 := by simpa using f3
      have lN : el k + 1 < N' := by
        by_cases q : el k + 1 < N'
        · exact q
        · rw [show el k = N' - 1 by omega, hE5] at l3; omega
      rcases hD2 with ⟨d, -⟩ | ⟨d, -⟩ | ⟨d, -⟩ | ⟨d, xo, d0, d1, d2, -⟩ | ⟨d, -⟩ | ⟨d, -⟩ | ⟨d, -⟩ | ⟨d, -⟩ | ⟨d, -⟩ | ⟨d, -⟩ | ⟨d, -⟩
      · omega
      · omega
      · omega
      · refine ⟨by omega, lN, fun p hp => ?_, by omega⟩
        rw [d1] at hp
        rcases List.mem_cons.mp hp with rfl | hp
        · rfl
        · exact hl p (by rw [f4]; exact hp)
      · omega
      · omega
      · omega
      · omega
      · omega
      · omega
      · omega
  · have hk1 := kN (by omega)
    obtain ⟨y, r2, n1, n2, n3, n4⟩ := (H.1 k h1 hk1).2.1 c
    have yin : y ∈ ns k := by rw [n1]; exact List.mem_cons_self
    obtain ⟨y0, yk, y1, y3⟩ := (H.2.2.1 k h1 h2).2 y yin
    have ay := ((H.1 y y0 (by omega)).1 y1 y3).2
    obtain ⟨lv, f⟩ := wf_top H h1 h2 n1
    rw [e] at f
    obtain ⟨f3, f4⟩ := List.cons.inj f
    obtain ⟨rfl, rfl, rfl, -⟩ : x = y + 1 ∧ bs = hs (y + 1) ∧ gv = ar y ∧ 1 = lv := by simpa using f3
    obtain rfl : y = xo := by omega
    obtain ⟨w1, w2, w3, w4, w5, w6⟩ := wf_end H h1 h2 yin
    have ek : en k = en y := by have := w6 (by omega); rw [n3] at this; exact this
    have hk : hs k = hs (y + 1) + ar y := by rw [ch (ar y) (by omega)] at q4; omega
    refine ⟨fun h => absurd h (by omega), fun h => absurd h (by omega), fun _ => ?_, fun h => absurd h (by omega), fun h => absurd h (by omega), fun h => absurd h (by omega), fun h => absurd h (by omega), fun h => absurd h (by omega), fun h => absurd h (by omega)⟩
    exact ⟨by omega, hs (y + 1), ar y, ay, hk, ⟨by omega, by rw [ek]; exact w2, by rw [ek, w3, ← f4]; exact rl, by rw [ek, w4]; exact hk.symm⟩, by rw [ek]; exact q5, q6, q7⟩
  · have la : k + 1 = N' := by
      by_cases hk1 : k + 1 < N'
      · exfalso
        obtain ⟨y, r2, n1, -⟩ := (H.1 k h1 hk1).2.2.1 c
        rw [n1, e] at hz
        obtain ⟨l0, r0, e0, -⟩ := hz
        have : x = y + 1 := congrArg Prod.fst (List.cons.inj e0).1
        omega
      · omega
    have nk : ns k = [] := by rw [show k = N' - 1 by omega]; exact H.2.1.2.1
    rw [nk, e] at hz
    obtain ⟨l0, e0⟩ := hz
    obtain ⟨f3, f4⟩ := List.cons.inj e0
    obtain ⟨-, rfl, rfl, -⟩ : x = 0 ∧ bs = 0 ∧ gv = re g ∧ 1 = l0 := by simpa using f3
    have hk : hs k = re g := by rw [ch (re g) (by omega)] at q5; omega
    refine ⟨fun h => absurd h (by omega), fun h => absurd h (by omega), fun h => absurd h (by omega), fun _ => ?_, fun h => absurd h (by omega), fun h => absurd h (by omega), fun h => absurd h (by omega), fun h => absurd h (by omega), fun h => absurd h (by omega)⟩
    rw [ok]
    exact Or.inr ⟨la, hk, q6, q7, q8⟩
  · have hk1 : k + 1 < N' := by
      by_cases hk1 : k + 1 < N'
      · exact hk1
      · exfalso
        have nk : ns k = [] := by rw [show k = N' - 1 by omega]; exact H.2.1.2.1
        rw [nk, e] at hz
        obtain ⟨l0, e0⟩ := hz
        have : x = 0 := congrArg Prod.fst (List.cons.inj e0).1
        omega
    obtain ⟨y, r2, n1, -⟩ := (H.1 k h1 hk1).2.2.1 c
    have yin : y ∈ ns k := by rw [n1]; exact List.mem_cons_self
    obtain ⟨y0, yk, y1, y3⟩ := (H.2.2.1 k h1 h2).2 y yin
    have ay := ((H.1 y y0 (by omega)).1 y1 y3).2
    rw [n1, e] at hz
    obtain ⟨l0, r0, e0, -⟩ := hz
    obtain ⟨f3, f4⟩ := List.cons.inj e0
    obtain ⟨-, -, gg, -⟩ : x = y + 1 ∧ bs = hs (y + 1) ∧ gv = ar y ∧ 1 = l0 := by simpa using f3
    have hk : hs k = bs + gv := by rw [ch gv (by omega)] at q4; omega
    refine ⟨fun h => absurd h (by omega), fun h => absurd h (by omega), fun h => absurd h (by omega), fun _ => ?_, fun h => absurd h (by omega), fun h => absurd h (by omega), fun h => absurd h (by omega), fun h => absurd h (by omega), fun h => absurd h (by omega)⟩
    exact Or.inl ⟨by omega, bs, gv, by omega, hk, ⟨by omega, hk1, by rw [q1]; exact rl, by rw [q2]; exact hk.symm⟩, q5, q6, q7⟩
  · have hq : q ∈ frs k := by rw [e]; exact List.mem_of_getElem? q3
    rw [e] at hm
    have hb2 : q.2.1 ≤ bs := wf_mb2 hm (by rw [← e]; exact hq)
    refine ⟨fun h => absurd h (by omega), fun h => absurd h (by omega), fun h => absurd h (by omega), fun h => absurd h (by omega), fun _ => ?_, fun h => absurd h (by omega), fun h => absurd h (by omega), fun h => absurd h (by omega), fun h => absurd h (by omega)⟩
    rw [ok]
    exact wf_brk H hN' hre h1 h2 hl hq hb2 (by omega) q5 q6
  · have hq : q ∈ frs k := by rw [e]; exact List.mem_of_getElem? q3
    rw [e] at hm
    have hb2 : q.2.1 ≤ bs := wf_mb2 hm (by rw [← e]; exact hq)
    have c1 := ch 1 (by omega)
    rw [c1] at q4 q5
    have c2 : ck_h bs (hs k - 1) (ck_nd op q) = hs k - 1 - ck_nd op q := if_pos (by omega)
    rw [c2] at q4
    refine ⟨fun h => absurd h (by omega), fun h => absurd h (by omega), fun h => absurd h (by omega), fun h => absurd h (by omega), fun h => absurd h (by omega), fun _ => ?_, fun h => absurd h (by omega), fun h => absurd h (by omega), fun h => absurd h (by omega)⟩
    rw [ok]
    exact ⟨by omega, ⟨by omega, kN (by omega), same q1, by omega⟩, wf_brk H hN' hre h1 h2 hl hq hb2 (by omega) q6 q7⟩
  · exact ⟨fun h => absurd h (by omega), fun h => absurd h (by omega), fun h => absurd h (by omega), fun h => absurd h (by omega), fun h => absurd h (by omega), fun h => absurd h (by omega), fun _ => ⟨by omega, q4⟩, fun h => absurd h (by omega), fun h => absurd h (by omega)⟩
  · have c1 := ch (pa (ar k)) (by omega)
    rw [c1] at q4
    exact ⟨fun h => absurd h (by omega), fun h => absurd h (by omega), fun h => absurd h (by omega), fun h => absurd h (by omega), fun h => absurd h (by omega), fun h => absurd h (by omega), fun h => absurd h (by omega), fun _ => ⟨q2, by omega, by omega, kN (by omega), same q1, q4⟩, fun h => absurd h (by omega)⟩
  · have c1 := ch (ck_tk (op k)) (by omega)
    rw [c1] at q3
    exact ⟨fun h => absurd h (by omega), fun h => absurd h (by omega), fun h => absurd h (by omega), fun h => absurd h (by omega), fun h => absurd h (by omega), fun h => absurd h (by omega), fun h => absurd h (by omega), fun h => absurd h (by omega), fun _ => ⟨by omega, ⟨by omega, kN (by omega), same q1, q3⟩, q4⟩⟩
end WF2
