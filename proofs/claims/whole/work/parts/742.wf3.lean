/-! checking: a module that was found valid, as numbers -/
def wf_go (N : Nat) (fs ow hs : Nat → Nat) (L : Nat → Prop) (k j h : Nat) : Prop := j < N ∧ L j ∧ hs j = h ∧ ow j = ow k ∧ j ≠ fs (ow j)
def wf_A (F N : Nat) (op ar ow en el pa lo re fs hs : Nat → Nat) (L : Nat → Prop) (σ τ : rt_St) : Prop :=
  (∀ g, g < F → fs g < N ∧ L (fs g) ∧ hs (fs g) = 0 ∧ ow (fs g) = g) ∧ (∀ k, k < N → ow k < F ∧ hs k ≤ 10 ∧ τ 7 k = nI (hs k)) ∧ ∀ k, k < N → L k → wf_K F N op ar ow en el pa lo re (wf_go N fs ow hs L k) (¬ (k + 1 < N ∧ ow (k + 1) = ow k)) (hs k) k σ τ
section WF3
variable {F N : Nat} {op ar ow en el pa lo re fs : Nat → Nat} {σ τ : rt_St}
theorem wf_all (hMo : rq_Mo F N fs op ar ow en el) (hre : ∀ g, g < F → re g ≤ 1) (hFh : ∀ h, h < F → ck_Fh F op ar ow en el pa lo re h (fs h) (if h + 1 < F then fs (h + 1) else N) σ τ) : ∃ hs L, wf_A F N op ar ow en el pa lo re fs hs L σ τ := by
  obtain ⟨E, hE⟩ : ∃ E : Nat → Nat, ∀ g, E g = if g + 1 < F then fs (g + 1) else N := ⟨_, fun _ => rfl⟩
  have hFn : ∀ g, g < F → rq_Fn g (fs g) (E g) op ar ow en el := fun g hg => by rw [hE]; exact hMo.2.2 g hg
  have hle : ∀ g, g < F → E g ≤ N := fun g hg => by rw [hE]; exact hMo.le (F - g) g (by omega) hg
  have P : ∀ g, ∃ p : (Nat → List (Nat × Nat × Nat × Nat)) × (Nat → Nat), g < F → p.2 (fs g) = 0 ∧ ∃ ns, wf_S F (E g) (fs g) g op ar ow en el pa lo re p.2 ns p.1 σ τ := by
    intro g
    by_cases hg : g < F
    · have hf := hFh g hg
      rw [← hE] at hf
      obtain ⟨ns, frs, hs, a1, a2, a3, a4, a5, a6, a7⟩ := hf
      obtain ⟨ns2, b1, b2, b3, b4, b5, b6, b7, b8⟩ := hFn g hg
      have nn : ∀ k, fs g ≤ k → k < E g → ns2 k = ns k := fun k k1 k2 => by
        have h := wf_ns (ns := ns2) (ns' := ns) (by rw [b2, a5]) (fun k k1 k2 => (b6 k k1 k2).1) a7 (k - fs g) (by omega)
        rw [show fs g + (k - fs g) = k by omega] at h
        exact h
      refine ⟨(frs, hs), fun _ => ⟨a2, ns, a7, ⟨a5, a6, a1⟩, fun k k1 k2 => ?_, fun x x1 x2 hne => ?_, a4, a3⟩⟩
      · rw [← nn k k1 k2]; exact b7 k k1 k2
      · obtain ⟨c1, c2, c3, r, c4⟩ := b8 x x1 x2 hne
        exact ⟨c1, c2, c3, r, by rw [← nn (el x) (by omega) c2]; exact c4⟩
    · exact ⟨(fun _ => [], fun _ => 0), fun h => absurd h hg⟩
  obtain ⟨p, hp⟩ := Classical.axiomOfChoice P
  have own : ∀ g, g < F → ∀ k, fs g ≤ k → k < E g → ow k = g := fun g hg k k1 k2 => by
    obtain ⟨ns2, b1, b2, b3, b4, b5, b6, -⟩ := hFn g hg
    by_cases c : k + 1 < E g
    · exact (b6 k k1 c).2
    · rw [show k = E g - 1 by omega]; exact b5
  have cov : ∀ g, g ≤ F → ∀ k, k < (if g < F then fs g else N) → ∃ g', g' < g ∧ fs g' ≤ k ∧ k < E g' := by
    intro g
    induction g with
    | zero =>
      intro _ k hk
      by_cases c : 0 < F
      · rw [if_pos c, hMo.2.1 c] at hk; omega
      · rw [if_neg c, hMo.1 (by omega)] at hk; omega
    | succ g ih =>
      intro hg k hk
      by_cases c : k < fs g
      · obtain ⟨g', h1, h2⟩ := ih (by omega) k (by rw [if_pos (by omega)]; exact c)
        exact ⟨g', by omega, h2⟩
      · exact ⟨g, by omega, by omega, by rw [hE]; exact hk⟩
  have whr : ∀ k, k < N → ∃ g, g < F ∧ fs g ≤ k ∧ k < E g ∧ ow k = g := fun k hk => by
    obtain ⟨g, g1, g2, g3⟩ := cov F (Nat.le_refl _) k (by rw [if_neg (by omega)]; exact hk)
    exact ⟨g, g1, g2, g3, own g g1 k g2 g3⟩
  have lt : ∀ g, g < F → fs g < E g := fun g hg => (hFn g hg).choose_spec.1
  have five : ∀ g, g < F → op (E g - 1) = 5 := fun g hg => (hFn g hg).choose_spec.2.2.2.1
  refine ⟨fun k => (p (ow k)).2 k, fun k => ∀ q ∈ (p (ow k)).1 k, q.2.2.2 = 1, fun g hg => ?_, fun k hk => ?_, fun k hk hl => ?_⟩
  · have o := own g hg (fs g) (Nat.le_refl _) (lt g hg)
    obtain ⟨z, ns, S⟩ := hp g hg
    have q1 := lt g hg
    have q2 := hle g hg
    refine ⟨by omega, ?_, ?_, o⟩
    · show ∀ q ∈ (p (ow (fs g))).1 (fs g), q.2.2.2 = 1
      rw [o, S.2.1.2.2]
      intro q hq
      obtain rfl := List.mem_singleton.mp hq
      rfl
    · show (p (ow (fs g))).2 (fs g) = 0
      rw [o]; exact z
  · obtain ⟨g, g1, g2, g3, o⟩ := whr k hk
    obtain ⟨z, ns, S⟩ := hp g g1
    obtain ⟨-, s2, s3⟩ := S.2.2.2.2.2 k g2 g3
    show ow k < F ∧ (p (ow k)).2 k ≤ 10 ∧ τ 7 k = nI ((p (ow k)).2 k)
    rw [o]
    exact ⟨g1, s3, s2⟩
  · obtain ⟨g, g1, g2, g3, o⟩ := whr k hk
    obtain ⟨z, ns, S⟩ := hp g g1
    have hl' : ∀ q ∈ (p (ow k)).1 k, q.2.2.2 = 1 := hl
    rw [o] at hl'
    have r1 := wf_fn S (hle g g1) (hre g g1) (five g g1) (own g g1) g2 g3 hl'
    have r2 := r1.mono (Go' := wf_go N fs ow (fun k => (p (ow k)).2 k) (fun k => ∀ q ∈ (p (ow k)).1 k, q.2.2.2 = 1) k) (La' := ¬ (k + 1 < N ∧ ow (k + 1) = ow k)) (fun j i h => by
      obtain ⟨j1, j2, j3, j4⟩ := h
      have oj := own g g1 j (by omega) j2
      have q2 := hle g g1
      refine ⟨by omega, ?_, ?_, by rw [oj, o], by rw [oj]; omega⟩
      · show ∀ q ∈ (p (ow j)).1 j, q.2.2.2 = 1
        rw [oj]; exact j3
      · show (p (ow j)).2 j = i
        rw [oj]; exact j4) (by
      constructor
      · intro h hc
        obtain ⟨c1, c2⟩ := hc
        have hEg := hE g
        by_cases c : g + 1 < F
        · rw [if_pos c] at hEg
          have o2 := own (g + 1) c (fs (g + 1)) (Nat.le_refl _) (lt (g + 1) c)
          rw [← hEg, ← h, c2, o] at o2
          omega
        · rw [if_neg c] at hEg; omega
      · intro h
        by_cases c : k + 1 = E g
        · exact c
        · exfalso
          have q2 := hle g g1
          exact h ⟨by omega, by rw [o]; exact own g g1 (k + 1) (by omega) (by omega)⟩)
    have e : (p (ow k)).2 k = (p g).2 k := by rw [o]
    show wf_K F N op ar ow en el pa lo re _ _ ((p (ow k)).2 k) k σ τ
    rw [e]
    exact r2
end WF3
