/-! the checked module gives what foretelling needs -/
section LNK
variable {N F k h : Nat} {op ar ow en el pa lo re fs hs gl bk kp : Nat → Nat} {L : Nat → Prop} {A A1 : ft_S} {σ τ : rt_St} {Go : Nat → Nat → Prop}
def lk_F (N F : Nat) (op ar ow en el pa lo re hs : Nat → Nat) (Go : Nat → Nat → Prop) (k : Nat) (σ τ : rt_St) (t : Nat × Nat × Nat) : Prop := (3 ≤ op k → op k ≤ 8 → σ 7 k = ck_o (-1) t.1 ∧ σ 8 k = nI t.2.1 ∧ σ 9 k = nI t.2.2) ∧ md_K F op ar ow pa lo re hs (fun _ => t.1) (fun _ => t.2.1) (fun _ => t.2.2) Go k ∧ fr_J N op ow en el hs (fun _ => t.1) (fun _ => t.2.1) (fun _ => t.2.2) k τ
theorem lk_o {x : Nat} : ck_o (-1) (x + 1) = nI x := by
  unfold ck_o
  rw [if_neg (by omega), Nat.add_sub_cancel]
theorem lk_br {rg h : Nat} (H : wf_br N op en rg Go k h σ τ) : ∃ g b p, p ≤ 1 ∧ b + p ≤ h ∧ (g = 0 → p = rg ∧ b = 0) ∧ (g ≠ 0 → Go (g - 1) (b + p)) ∧ σ 7 k = ck_o (-1) g ∧ σ 8 k = nI b ∧ σ 9 k = nI p ∧ τ 9 k = nI b ∧ τ 10 k = nI p ∧ ((g = 0 ∧ τ 8 k = -1) ∨ (∃ x, x < N ∧ τ 8 k = nI x ∧ g = (if op x = 2 then x else en x) + 2 ∧ (op x ≠ 2 → en x ≠ 0))) := by
  obtain ⟨b, p, a1, a2, a3, a4, a5, a6, a7⟩ := H
  rcases a7 with ⟨c1, c2, c3, c4⟩ | ⟨x, c1, c2, c3, c4, c5⟩
  · exact ⟨0, b, p, a1, a2, fun _ => ⟨c3, c4⟩, fun e => absurd rfl e, c1, a3, a4, a5, a6, Or.inl ⟨rfl, c2⟩⟩
  · exact ⟨(if op x = 2 then x else en x) + 2, b, p, a1, a2, fun e => by omega, fun _ => c5, by rw [lk_o]; exact c2, a3, a4, a5, a6, Or.inr ⟨x, c1, c3, rfl, c4⟩⟩
theorem lk_one (W : wf_K F N op ar ow en el pa lo re Go (¬ (k + 1 < N ∧ ow (k + 1) = ow k)) (hs k) k σ τ) (hre : re (ow k) ≤ 1) : ∃ t, lk_F N F op ar ow en el pa lo re hs Go k σ τ t := by
  obtain ⟨w1, w3, w4, w5, w6, w7, w8, w9, w10⟩ := W
  unfold lk_F md_K md_J fr_J
  dsimp only
  by_cases z3 : op k = 3
  · obtain ⟨a1, a2, a3, a4, a5, a6, a7⟩ := w3 z3
    refine ⟨((if el k = 0 then en k else el k) + 2, hs k - 1, 0), fun _ _ => ⟨by rw [lk_o]; exact a5, a6, a7⟩, ⟨fun e => by omega, fun _ => ⟨a1, a3, Nat.zero_le 1, Nat.le_refl _, fun e => ?_, fun _ => a4⟩, fun e => by omega, fun e => by omega, fun e => by omega⟩, fun _ => ⟨a2, rfl, rfl, rfl⟩, fun e => by omega, fun e => by omega, fun e => by omega, fun e => by omega⟩
    dsimp only at e
    omega
  by_cases z4 : op k = 4
  · obtain ⟨a1, b, p, a2, a3, a4, a5, a6, a7⟩ := w4 z4
    refine ⟨(en k + 2, b, p), fun _ _ => ⟨by rw [lk_o]; exact a5, a6, a7⟩, ⟨fun e => by omega, fun e => by omega, fun _ => ⟨a2, by dsimp only; omega, fun e => ?_, fun _ => ?_⟩, fun e => by omega, fun e => by omega⟩, fun e => by omega, fun _ => ⟨a1, rfl, by dsimp only; omega⟩, fun e => by omega, fun e => by omega, fun e => by omega⟩
    · dsimp only at e; omega
    · rw [a3] at a4; exact a4
  by_cases z5 : op k = 5
  · rcases w5 z5 with ⟨a1, b, p, a2, a3, a4, a5, a6, a7⟩ | ⟨a1, a2, a3, a4, a5⟩
    · have a1' : k + 1 < N ∧ ow (k + 1) = ow k := Classical.not_not.mp a1
      refine ⟨(k + 2, b, p), fun _ _ => ⟨by rw [lk_o]; exact a5, a6, a7⟩, ⟨fun e => by omega, fun e => by omega, fun _ => ⟨a2, by dsimp only; omega, fun e => ?_, fun _ => ?_⟩, fun e => by omega, fun e => by omega⟩, fun e => by omega, fun e => by omega, fun _ => Or.inl ⟨a1'.1, a1'.2, rfl, by dsimp only; omega⟩, fun e => by omega, fun e => by omega⟩
      · dsimp only at e; omega
      · rw [a3] at a4; exact a4
    · exact ⟨(0, 0, re (ow k)), fun _ _ => ⟨a3, a4, a5⟩, ⟨fun e => by omega, fun e => by omega, fun _ => ⟨hre, by dsimp only; omega, fun _ => ⟨rfl, rfl⟩, fun e => absurd rfl e⟩, fun e => by omega, fun e => by omega⟩, fun e => by omega, fun e => by omega, fun _ => Or.inr ⟨a1, rfl⟩, fun e => by omega, fun e => by omega⟩
  by_cases z6 : op k = 6
  · obtain ⟨g, b, p, a1, a2, a3, a4, a5, a6, a7, a8, a9, a10⟩ := lk_br (w6 z6)
    exact ⟨(g, b, p), fun _ _ => ⟨a5, a6, a7⟩, ⟨fun e => by omega, fun e => by omega, fun _ => ⟨a1, a2, a3, a4⟩, fun e => by omega, fun e => by omega⟩, fun e => by omega, fun e => by omega, fun e => by omega, fun _ => ⟨a8, a9, a10⟩, fun e => by omega⟩
  by_cases z7 : op k = 7
  · obtain ⟨b1, b2, b3⟩ := w7 z7
    obtain ⟨g, b, p, a1, a2, a3, a4, a5, a6, a7, a8, a9, a10⟩ := lk_br b3
    exact ⟨(g, b, p), fun _ _ => ⟨a5, a6, a7⟩, ⟨fun e => by omega, fun _ => ⟨b1, b2, a1, a2, a3, a4⟩, fun e => by omega, fun e => by omega, fun e => by omega⟩, fun e => by omega, fun e => by omega, fun e => by omega, fun _ => ⟨a8, a9, a10⟩, fun e => by omega⟩
  by_cases z8 : op k = 8
  · obtain ⟨a1, a2, a3, a4⟩ := w8 z8
    exact ⟨(0, 0, re (ow k)), fun _ _ => ⟨a2, a3, a4⟩, ⟨fun e => by omega, fun e => by omega, fun _ => ⟨hre, by dsimp only; omega, fun _ => ⟨rfl, rfl⟩, fun e => absurd rfl e⟩, fun e => by omega, fun e => by omega⟩, fun e => by omega, fun e => by omega, fun e => by omega, fun e => by omega, fun _ => rfl⟩
  exact ⟨(0, 0, 0), fun e1 e2 => by omega, ⟨w1, fun e => by omega, fun e => by omega, w9, w10⟩, fun e => by omega, fun e => by omega, fun e => by omega, fun e => by omega, fun e => by omega⟩
theorem lk_all (M : rn_M N F op ar ow en el pa lo re fs hs L σ τ) (h12 : σ 1 12 = nI N) : ∃ gl bk kp, md_A F N op ar ow pa lo re fs hs gl bk kp L ∧ fc_M N F op ar ow pa lo re fs gl bk kp L σ ∧ fr_M N F op ar ow en el pa lo re fs hs gl bk kp L τ := by
  obtain ⟨T, TF, ⟨x1, x2, x3⟩, h6, hN, hF1, hF3⟩ := M
  have P : ∀ k, ∃ t, k < N → L k → lk_F N F op ar ow en el pa lo re hs (wf_go N fs ow hs L k) k σ τ t := fun k => by
    by_cases hk : k < N
    · by_cases hl : L k
      · obtain ⟨-, -, -, -, -, -, -, -, -, -, r1⟩ := TF (ow k) (x2 k hk).1
        obtain ⟨t, ht⟩ := lk_one (x3 k hk hl) r1
        exact ⟨t, fun _ _ => ht⟩
      · exact ⟨(0, 0, 0), fun _ q => absurd q hl⟩
    · exact ⟨(0, 0, 0), fun q => absurd q hk⟩
  obtain ⟨f, hf⟩ := Classical.axiomOfChoice P
  refine ⟨fun k => (f k).1, fun k => (f k).2.1, fun k => (f k).2.2, ⟨⟨hN, hF1, hF3⟩, fun g hg => ?_, fun k hk => ?_, fun k hk hl => (hf k hk hl).2.1⟩, ⟨fun k hk => ?_, fun g hg => ?_, h12, fun k hk hl => (hf k hk hl).1⟩, fun k hk => ?_, fun g hg => ?_, h6, fun k hk hl => (hf k hk hl).2.2⟩
  · obtain ⟨q1, q2, q3, q4⟩ := x1 g hg
    obtain ⟨-, -, -, -, -, -, -, -, r1, r2, r3⟩ := TF g hg
    exact ⟨q1, q2, q3, q4, r1, r2, r3⟩
  · obtain ⟨-, -, o1, o2, -⟩ := T k hk
    exact ⟨(x2 k hk).1, (x2 k hk).2.1, o1, o2⟩
  · obtain ⟨⟨c1, c2, c3, -, -⟩, -⟩ := T k hk
    exact ⟨c1, c2, c3⟩
  · obtain ⟨c1, c2, c3, c4, -⟩ := TF g hg
    exact ⟨c1, c2, c3, c4⟩
  · obtain ⟨-, ⟨c1, c2, c3, c4, c5⟩, -⟩ := T k hk
    exact ⟨c1, c2, c3, c4, c5, (x2 k hk).2.2⟩
  · obtain ⟨-, -, -, -, c1, c2, -, c4, -⟩ := TF g hg
    exact ⟨c1, c2, c4⟩
/-! a result is known only of what ends with one -/
def lk_l (re : Nat → Nat) (X : ft_S) : Prop := ∀ f, X 3 f = ft_bot ∨ (re f = 1 ∧ 1 ≤ (X 5 f).2.1)
theorem lk_l0 : lk_l re ft_0 := fun _ => Or.inl rfl
theorem lk_lp {j h lc : Nat} {st vr : Nat → ft_G} : lk_l re (ft_pass j h lc st vr) := fun _ => Or.inl (ft_pass_o (by decide) (by decide) (by decide))
theorem lk_lJ {X Y : ft_S} (h1 : lk_l re X) (h2 : lk_l re Y) : lk_l re (ft_J X Y) := fun f => by
  have m : (ft_J X Y 5 f).2.1 = max (X 5 f).2.1 (Y 5 f).2.1 := rfl
  rcases h1 f with a | a
  · rcases h2 f with b | b
    · left
      show ft_j (X 3 f) (Y 3 f) = ft_bot
      rw [a, b]; rfl
    · exact Or.inr ⟨b.1, by omega⟩
  · exact Or.inr ⟨a.1, by omega⟩
theorem lk_lj {g b p h lc : Nat} {st vr : Nat → ft_G} : lk_l re (ft_jmp (ow k) (re (ow k)) g b p h lc st vr) := by
  unfold ft_jmp
  by_cases z : g = 0
  · rw [if_pos z]
    intro f
    by_cases y : f = ow k ∧ re (ow k) = 1
    · right
      refine ⟨by rw [y.1]; exact y.2, ?_⟩
      rw [y.1, ft_lv_5]; exact Nat.le_refl 1
    · left
      unfold ft_lv
      rw [if_neg (fun e => y e.2), if_neg (fun e => absurd e.1 (by decide))]
  · rw [if_neg z]; exact lk_lp
theorem lk_li {c : Prop} [Decidable c] {X Y : ft_S} (h1 : lk_l re X) (h2 : lk_l re Y) : lk_l re (if c then X else Y) := by
  by_cases z : c
  · rw [if_pos z]; exact h1
  · rw [if_neg z]; exact h2
theorem lk_X : lk_l re (ft_X op ar ow pa lo re fs hs gl bk kp A k) := by
  unfold ft_X ft_Y
  refine lk_li lk_l0 (lk_li lk_lp (lk_li (lk_lJ (lk_li lk_l0 lk_lp) (lk_li lk_lj lk_l0)) (lk_li (lk_lJ (lk_li lk_lp lk_l0) (lk_li lk_l0 lk_lj)) (lk_li lk_lj (lk_li (lk_lJ lk_lp (lk_li lk_l0 lk_lp)) (lk_lJ (lk_li (fun f => Or.inl (ft_sto_o (by omega))) lk_l0) ?_))))))
  unfold ft_opr
  exact lk_li lk_l0 lk_lp
theorem lk_res (D : md_A F N op ar ow pa lo re fs hs gl bk kp L) (H : ft_In (ft_X op ar ow pa lo re fs hs gl bk kp) (ft_V F N ow pa lo re fs hs L) N (ft_A1 pa lo fs) (fun _ => False) A) (f : Nat) (hf : ¬ (re f = 1 ∧ (A 5 f).2.1 = 1)) : A 3 f = ft_bot := by
  obtain ⟨V, a2, a3, a4⟩ := H
  have uu := V.u
  obtain ⟨B, hB⟩ : ∃ B : ft_S, ∀ c x, B c x = if c = 3 ∧ ¬ (re x = 1 ∧ (A 5 x).2.1 = 1) then ft_bot else A c x := ⟨_, fun _ _ => rfl⟩
  have ne : ∀ c x, c ≠ 3 → B c x = A c x := fun c x e => by rw [hB, if_neg (fun q => e q.1)]
  have le : ft_L B A := fun c x => by
    rw [hB]
    by_cases z : c = 3 ∧ ¬ (re x = 1 ∧ (A 5 x).2.1 = 1)
    · rw [if_pos z]; exact ft_bot_le (uu c x).1
    · rw [if_neg z]; exact ft_le.rf
  have VB : ft_V F N ow pa lo re fs hs L B := by
    obtain ⟨v1, v2, v3, v4, v5, v6⟩ := V
    refine ⟨fun c x hc => ?_, fun c x hc => by rw [ne c x (by omega)]; exact v2 c x hc, fun x hx => by rw [ne 2 x (by decide)]; exact v3 x hx, fun k hk => ?_, fun g hg h5 hr => ?_, fun g hg h4 i i1 i2 => ?_⟩
    · rw [hB]
      by_cases z : c = 3 ∧ ¬ (re x = 1 ∧ (A 5 x).2.1 = 1)
      · rw [if_pos z]; exact Or.inl rfl
      · rw [if_neg z]; exact v1 c x hc
    · have e0 : ∀ y, B 0 y = A 0 y := fun y => ne 0 y (by decide)
      have e1 : ∀ y, B 1 y = A 1 y := fun y => ne 1 y (by decide)
      rw [ne 4 k (by decide)]
      rcases v4 k hk with ⟨q1, q2, q3⟩ | ⟨q1, q2, q3, q4⟩
      · exact Or.inl ⟨q1, fun i hi => by rw [e0]; exact q2 i hi, fun i hi => by rw [e1]; exact q3 i hi⟩
      · exact Or.inr ⟨q1, q2, fun i hi => by rw [e0]; exact q3 i hi, fun i hi => by rw [e1]; exact q4 i hi⟩
    · rw [ne 5 g (by decide)] at h5
      rw [hB, if_neg (fun q => q.2 ⟨hr, h5⟩)]
      exact v5 g hg h5 hr
    · rw [ne 4 (fs g) (by decide)] at h4
      rw [ne 1 _ (by decide)]
      exact v6 g hg h4 i i1 i2
  have M := ft_mono D
  have A1B : ft_L (ft_A1 pa lo fs) B := fun c x => by
    rw [hB]
    by_cases z : c = 3 ∧ ¬ (re x = 1 ∧ (A 5 x).2.1 = 1)
    · rw [if_pos z, z.1]
      have e : ft_A1 pa lo fs 3 x = ft_bot := by
        show ft_j (ft_A0 3 x) (ft_pass (fs 0) 0 (pa 0 + lo 0) (fun _ => ft_bot) (fun i => if i < pa 0 then (0, 63, 0) else (0, 0, 0)) 3 x) = _
        rw [ft_pass_o (by decide) (by decide) (by decide)]; rfl
      rw [e]; exact ft_le.rf
    · rw [if_neg z]; exact a2 c x
  have cl : ft_Cl (ft_X op ar ow pa lo re fs hs gl bk kp) N B := fun k hk hr => by
    have hrA : (A 4 k).2.1 = 1 := by rw [← ne 4 k (by decide)]; exact hr
    have l1 : ft_L (ft_X op ar ow pa lo re fs hs gl bk kp B k) A := (M.2 B A k VB V le hk hr).tr (a4 k hk hrA (fun q => q))
    intro c x
    rw [hB c x]
    by_cases z : c = 3 ∧ ¬ (re x = 1 ∧ (A 5 x).2.1 = 1)
    · rw [if_pos z, z.1]
      rcases lk_X (re := re) (op := op) (ar := ar) (ow := ow) (pa := pa) (lo := lo) (fs := fs) (hs := hs) (gl := gl) (bk := bk) (kp := kp) (A := B) (k := k) x with e | ⟨e1, e2⟩
      · rw [e]; exact ft_le.rf
      · have q := (l1 5 x).2.1
        have q2 := (V.2.1 5 x (by decide)).2.1
        exact absurd ⟨e1, by omega⟩ z.2
    · rw [if_neg z]; exact l1 c x
  have fin := a3 B VB A1B cl 3 f
  rw [hB, if_pos ⟨rfl, hf⟩] at fin
  exact fin.eq (ft_bot_le (uu 3 f).1)
end LNK
