/-! foretelling, the reference: its picture; passing on to an instruction -/
def fr_A (c j : Nat) : Prop := ¬ ((26 ≤ c ∧ c ≤ 46) ∨ (c = 0 ∧ (j = 58 ∨ j = 59 ∨ j = 66 ∨ j = 67 ∨ j = 68)))
def fr_J (N : Nat) (op ow en el hs gl bk kp : Nat → Nat) (k : Nat) (τ : rt_St) : Prop := (op k = 3 → en k ≠ 0 ∧ gl k = (if el k = 0 then en k else el k) + 2 ∧ bk k = hs k - 1 ∧ kp k = 0) ∧ (op k = 4 → en k ≠ 0 ∧ gl k = en k + 2 ∧ bk k + kp k = hs k) ∧ (op k = 5 → (k + 1 < N ∧ ow (k + 1) = ow k ∧ gl k = k + 2 ∧ bk k + kp k = hs k) ∨ (¬ (k + 1 < N ∧ ow (k + 1) = ow k) ∧ gl k = 0)) ∧ (op k = 6 ∨ op k = 7 → τ 9 k = nI (bk k) ∧ τ 10 k = nI (kp k) ∧ ((gl k = 0 ∧ τ 8 k = -1) ∨ (∃ x, x < N ∧ τ 8 k = nI x ∧ gl k = (if op x = 2 then x else en x) + 2 ∧ (op x ≠ 2 → en x ≠ 0)))) ∧ (op k = 8 → gl k = 0)
def fr_M (N F : Nat) (op ar ow en el pa lo re fs hs gl bk kp : Nat → Nat) (L : Nat → Prop) (τ : rt_St) : Prop := (∀ k, k < N → τ 2 k = nI (op k) ∧ τ 3 k = nI (ar k) ∧ τ 4 k = nI (ow k) ∧ τ 5 k = rq_e (-1) (en k) ∧ τ 6 k = rq_e (-1) (el k) ∧ τ 7 k = nI (hs k)) ∧ (∀ g, g < F → τ 14 g = nI (fs g) ∧ τ 11 g = nI (pa g) ∧ τ 13 g = nI (re g)) ∧ τ 0 6 = nI N ∧ ∀ k, k < N → L k → fr_J N op ow en el hs gl bk kp k τ
def fr_P (N : Nat) (ow pa lo hs : Nat → Nat) (A : ft_S) (τ : rt_St) : Prop := (∀ k, k < 100 → τ 26 k = nI (A 4 k).2.1) ∧ (∀ k, k < N → (A 4 k).2.1 = 1 → (∀ i, i < hs k → fr_3 28 29 30 (10 * k + i) (A 0 (10 * k + i)) τ) ∧ (∀ i, i < 4 → fr_3 31 32 33 (4 * k + i) (if i < pa (ow k) + lo (ow k) then A 1 (4 * k + i) else (0, 0, 0)) τ)) ∧ (∀ x, x < 16 → fr_3 34 35 36 x (A 2 x) τ) ∧ (∀ f, f < 3 → τ 40 f = nI (A 5 f).2.1 ∧ (A 3 f = ft_bot → τ 37 f = 1 ∧ τ 38 f = 0 ∧ τ 39 f = 0) ∧ (A 3 f ≠ ft_bot → fr_3 37 38 39 f (A 3 f) τ)) ∧ (∀ k, k < 100 → τ 27 k = 0 ∨ τ 27 k = 1) ∧ (τ 0 58 = 0 ∨ τ 0 58 = 1)
def fr_P5 (N : Nat) (ow pa lo hs : Nat → Nat) (A : ft_S) (τ : rt_St) : Prop := (∀ k, k < 100 → τ 26 k = nI (A 4 k).2.1) ∧ (∀ k, k < N → (A 4 k).2.1 = 1 → (∀ i, i < hs k → fr_3 28 29 30 (10 * k + i) (A 0 (10 * k + i)) τ) ∧ (∀ i, i < 4 → fr_3 31 32 33 (4 * k + i) (if i < pa (ow k) + lo (ow k) then A 1 (4 * k + i) else (0, 0, 0)) τ)) ∧ (∀ x, x < 16 → fr_3 34 35 36 x (A 2 x) τ) ∧ (∀ f, f < 3 → τ 40 f = nI (A 5 f).2.1 ∧ (A 3 f = ft_bot → τ 37 f = 1 ∧ τ 38 f = 0 ∧ τ 39 f = 0) ∧ (A 3 f ≠ ft_bot → fr_3 37 38 39 f (A 3 f) τ)) ∧ (∀ k, k < 100 → τ 27 k = 0 ∨ τ 27 k = 1)
def fr_K (h : Nat) (st vr : Nat → ft_G) (τ : rt_St) : Prop := τ 0 59 = nI h ∧ (∀ i, i < h → fr_3 41 42 43 i (st i) τ) ∧ (∀ i, i < 4 → fr_3 44 45 46 i (vr i) τ)
def fr_W (τ : rt_St) (j : Nat) : Prop := τ 27 j = 1
def fr_q (a b c lo hi d x : Nat) : Prop := ¬ ((d = a ∨ d = b ∨ d = c) ∧ lo ≤ x ∧ x < hi)
theorem fr_w_f {a b c x d y : Nat} {r : ft_G} {τ : rt_St} (h : ¬ ((d = a ∨ d = b ∨ d = c) ∧ y = x)) : fr_w a b c x r τ d y = τ d y := by
  unfold fr_w
  rw [rq_if, if_neg (fun q => h ⟨Or.inr (Or.inr q.1), q.2⟩), rq_if, if_neg (fun q => h ⟨Or.inr (Or.inl q.1), q.2⟩), rq_if, if_neg (fun q => h ⟨Or.inl q.1, q.2⟩)]
theorem fr_l28 {j h : Nat} {R G : Nat → ft_G} (hj : j < 100) (h10 : h ≤ 10) {q : Nat} (hq : q < 2) (hG : ∀ i, i < h → ft_ok (G i)) (hR : q = 1 → ∀ i, i < h → ft_ok (R i)) : ∀ (d i fl m : Nat) (τ : rt_St), i + d = h → d + 1 ≤ m → fl < 2 → τ 26 j = nI q → (∀ y, i ≤ y → y < h → fr_3 41 42 43 y (G y) τ) → (q = 1 → ∀ y, i ≤ y → y < h → fr_3 28 29 30 (10 * j + y) (R y) τ) → ∃ v f2, B_R_RangeTellerModel_pass_25 m (nI j) (nI fl) (nI h) (nI i) τ = B_R_RangeTellerModel_pass_255 FU (nI j) (nI f2) 0 v ∧ f2 < 2 ∧ rq_A (fr_q 28 29 30 (10 * j + i) (10 * j + h)) τ v ∧ (∀ y, i ≤ y → y < h → fr_3 28 29 30 (10 * j + y) (if q = 1 then ft_j (R y) (G y) else G y) v) ∧ (f2 = 0 ↔ fl = 0 ∧ ∀ y, i ≤ y → y < h → q = 1 ∧ ft_j (R y) (G y) = R y) := by
  intro d
  induction d with
  | zero =>
    intro i fl m τ hd hm hfl h26 h1 h2
    obtain ⟨m, rfl⟩ : ∃ q, m = q + 1 := ⟨m - 1, by omega⟩
    refine ⟨τ, fl, ?_, hfl, rq_A.rf, fun y y1 y2 => by omega, ⟨fun e => ⟨e, fun y y1 y2 => by omega⟩, fun e => e.1⟩⟩
    rw [B_R_RangeTellerModel_pass_25, if_pos (nI_le (by omega) (by omega))]
  | succ d ih =>
    intro i fl m τ hd hm hfl h26 h1 h2
    obtain ⟨m, rfl⟩ : ∃ q, m = q + 1 := ⟨m - 1, by omega⟩
    have st := fr_s28 (m := m) (h := h) (r0 := R i) hj (by omega) hq hfl h26 (hG i (by omega)) (h1 i (Nat.le_refl _) (by omega)) (fun e => ⟨hR e i (by omega), h2 e i (Nat.le_refl _) (by omega)⟩) (by omega) h10
    have f3 : (if q = 1 ∧ ft_j (R i) (G i) = R i then fl else 1) < 2 := by
      by_cases z : q = 1 ∧ ft_j (R i) (G i) = R i
      · rw [if_pos z]; exact hfl
      · rw [if_neg z]; decide
    obtain ⟨v, f2, a1, a2, a3, a4, a5⟩ := ih (i + 1) _ m (fr_w 28 29 30 (10 * j + i) (if q = 1 then ft_j (R i) (G i) else G i) τ) (by omega) (by omega) f3 (by rw [fr_w_f (by omega)]; exact h26) (fun y y1 y2 => (h1 y (by omega) y2).ne (fr_w_f (by omega)) (fr_w_f (by omega)) (fr_w_f (by omega))) (fun e y y1 y2 => (h2 e y (by omega) y2).ne (fr_w_f (by omega)) (fr_w_f (by omega)) (fr_w_f (by omega)))
    refine ⟨v, f2, st.trans a1, a2, fun c x w => ?_, fun y y1 y2 => ?_, a5.trans ⟨fun e => ?_, fun e => ?_⟩⟩
    · rw [a3 c x (by unfold fr_q at w; unfold fr_q; omega), fr_w_f (by unfold fr_q at w; omega)]
    · by_cases z : y = i
      · subst z
        have far : ∀ c, v c (10 * j + y) = fr_w 28 29 30 (10 * j + y) (if q = 1 then ft_j (R y) (G y) else G y) τ c (10 * j + y) := fun c => a3 c _ (by unfold fr_q; omega)
        refine ⟨?_, ?_, ?_⟩
        · rw [far]; unfold fr_w; rw [rq_c (by decide), rq_c (by decide), rq_s]
        · rw [far]; unfold fr_w; rw [rq_c (by decide), rq_s]
        · rw [far]; unfold fr_w; rw [rq_s]
      · exact a4 y (by omega) y2
    · obtain ⟨e1, e2⟩ := e
      by_cases z : q = 1 ∧ ft_j (R i) (G i) = R i
      · rw [if_pos z] at e1
        refine ⟨e1, fun y y1 y2 => ?_⟩
        by_cases w : y = i
        · rw [w]; exact z
        · exact e2 y (by omega) y2
      · rw [if_neg z] at e1; exact absurd e1 (by decide)
    · refine ⟨?_, fun y y1 y2 => e.2 y (by omega) y2⟩
      rw [if_pos (e.2 i (Nat.le_refl _) (by omega))]; exact e.1
theorem fr_l31 {j : Nat} {R G : Nat → ft_G} (hj : j < 100) {q : Nat} (hq : q < 2) (hG : ∀ i, i < 4 → ft_ok (G i)) (hR : q = 1 → ∀ i, i < 4 → ft_ok (R i)) : ∀ (d i fl m : Nat) (τ : rt_St), i + d = 4 → d + 1 ≤ m → fl < 2 → τ 26 j = nI q → (∀ y, i ≤ y → y < 4 → fr_3 44 45 46 y (G y) τ) → (q = 1 → ∀ y, i ≤ y → y < 4 → fr_3 31 32 33 (4 * j + y) (R y) τ) → ∃ v f2, B_R_RangeTellerModel_pass_255 m (nI j) (nI fl) (nI i) τ = B_R_RangeTellerModel_pass_255 1 (nI j) (nI f2) (nI 4) v ∧ f2 < 2 ∧ rq_A (fr_q 31 32 33 (4 * j + i) (4 * j + 4)) τ v ∧ (∀ y, i ≤ y → y < 4 → fr_3 31 32 33 (4 * j + y) (if q = 1 then ft_j (R y) (G y) else G y) v) ∧ (f2 = 0 ↔ fl = 0 ∧ ∀ y, i ≤ y → y < 4 → q = 1 ∧ ft_j (R y) (G y) = R y) := by
  intro d
  induction d with
  | zero =>
    intro i fl m τ hd hm hfl h26 h1 h2
    obtain ⟨m, rfl⟩ : ∃ q, m = q + 1 := ⟨m - 1, by omega⟩
    refine ⟨τ, fl, ?_, hfl, rq_A.rf, fun y y1 y2 => by omega, ⟨fun e => ⟨e, fun y y1 y2 => by omega⟩, fun e => e.1⟩⟩
    obtain rfl : i = 4 := by omega
    rw [B_R_RangeTellerModel_pass_255, B_R_RangeTellerModel_pass_255, if_pos (show (4 : Int32) ≤ nI 4 from Int32.le_refl _), if_pos (show (4 : Int32) ≤ nI 4 from Int32.le_refl _)]
  | succ d ih =>
    intro i fl m τ hd hm hfl h26 h1 h2
    obtain ⟨m, rfl⟩ : ∃ q, m = q + 1 := ⟨m - 1, by omega⟩
    have st := fr_s31 (m := m) (r0 := R i) hj (by omega) hq hfl h26 (hG i (by omega)) (h1 i (Nat.le_refl _) (by omega)) (fun e => ⟨hR e i (by omega), h2 e i (Nat.le_refl _) (by omega)⟩) 
    have f3 : (if q = 1 ∧ ft_j (R i) (G i) = R i then fl else 1) < 2 := by
      by_cases z : q = 1 ∧ ft_j (R i) (G i) = R i
      · rw [if_pos z]; exact hfl
      · rw [if_neg z]; decide
    obtain ⟨v, f2, a1, a2, a3, a4, a5⟩ := ih (i + 1) _ m (fr_w 31 32 33 (4 * j + i) (if q = 1 then ft_j (R i) (G i) else G i) τ) (by omega) (by omega) f3 (by rw [fr_w_f (by omega)]; exact h26) (fun y y1 y2 => (h1 y (by omega) y2).ne (fr_w_f (by omega)) (fr_w_f (by omega)) (fr_w_f (by omega))) (fun e y y1 y2 => (h2 e y (by omega) y2).ne (fr_w_f (by omega)) (fr_w_f (by omega)) (fr_w_f (by omega)))
    refine ⟨v, f2, st.trans a1, a2, fun c x w => ?_, fun y y1 y2 => ?_, a5.trans ⟨fun e => ?_, fun e => ?_⟩⟩
    · rw [a3 c x (by unfold fr_q at w; unfold fr_q; omega), fr_w_f (by unfold fr_q at w; omega)]
    · by_cases z : y = i
      · subst z
        have far : ∀ c, v c (4 * j + y) = fr_w 31 32 33 (4 * j + y) (if q = 1 then ft_j (R y) (G y) else G y) τ c (4 * j + y) := fun c => a3 c _ (by unfold fr_q; omega)
        refine ⟨?_, ?_, ?_⟩
        · rw [far]; unfold fr_w; rw [rq_c (by decide), rq_c (by decide), rq_s]
        · rw [far]; unfold fr_w; rw [rq_c (by decide), rq_s]
        · rw [far]; unfold fr_w; rw [rq_s]
      · exact a4 y (by omega) y2
    · obtain ⟨e1, e2⟩ := e
      by_cases z : q = 1 ∧ ft_j (R i) (G i) = R i
      · rw [if_pos z] at e1
        refine ⟨e1, fun y y1 y2 => ?_⟩
        by_cases w : y = i
        · rw [w]; exact z
        · exact e2 y (by omega) y2
      · rw [if_neg z] at e1; exact absurd e1 (by decide)
    · refine ⟨?_, fun y y1 y2 => e.2 y (by omega) y2⟩
      rw [if_pos (e.2 i (Nat.le_refl _) (by omega))]; exact e.1
section FRA
variable {N F j h : Nat} {op ar ow en el pa lo re fs hs gl bk kp : Nat → Nat} {L : Nat → Prop} {A : ft_S} {st vr : Nat → ft_G} {τ u : rt_St}
theorem fr_M.keep (H : fr_M N F op ar ow en el pa lo re fs hs gl bk kp L τ) (hu : rq_A fr_A τ u) : fr_M N F op ar ow en el pa lo re fs hs gl bk kp L u := by
  obtain ⟨a1, a2, a3, a4⟩ := H
  refine ⟨fun k hk => ?_, fun g hg => ?_, ?_, fun k hk hl => ?_⟩
  · rw [hu 2 k (by unfold fr_A; omega), hu 3 k (by unfold fr_A; omega), hu 4 k (by unfold fr_A; omega), hu 5 k (by unfold fr_A; omega), hu 6 k (by unfold fr_A; omega), hu 7 k (by unfold fr_A; omega)]; exact a1 k hk
  · rw [hu 14 g (by unfold fr_A; omega), hu 11 g (by unfold fr_A; omega), hu 13 g (by unfold fr_A; omega)]; exact a2 g hg
  · rw [hu 0 6 (by unfold fr_A; omega)]; exact a3
  · have q := a4 k hk hl
    unfold fr_J at q ⊢
    rw [hu 8 k (by unfold fr_A; omega), hu 9 k (by unfold fr_A; omega), hu 10 k (by unfold fr_A; omega)]
    exact q
theorem fr_P.keep (H : fr_P N ow pa lo hs A τ) (hu : ∀ c x, 26 ≤ c → c ≤ 40 → u c x = τ c x) (h58 : u 0 58 = τ 0 58) : fr_P N ow pa lo hs A u := by
  obtain ⟨c1, c2, c3, c4, c5, c6⟩ := H
  have n3 : ∀ a b c x r, 26 ≤ a → a ≤ 40 → 26 ≤ b → b ≤ 40 → 26 ≤ c → c ≤ 40 → fr_3 a b c x r τ → fr_3 a b c x r u := fun a b c x r a1 a2 b1 b2 d1 d2 q => q.ne (hu _ _ a1 a2) (hu _ _ b1 b2) (hu _ _ d1 d2)
  refine ⟨fun k hk => ?_, fun k hk hr => ⟨fun i hi => ?_, fun i hi => ?_⟩, fun x hx => ?_, fun f hf => ⟨?_, fun e => ?_, fun e => ?_⟩, fun k hk => ?_, by rw [h58]; exact c6⟩
  · rw [hu 26 k (by decide) (by decide)]; exact c1 k hk
  · exact n3 _ _ _ _ _ (by decide) (by decide) (by decide) (by decide) (by decide) (by decide) ((c2 k hk hr).1 i hi)
  · exact n3 _ _ _ _ _ (by decide) (by decide) (by decide) (by decide) (by decide) (by decide) ((c2 k hk hr).2 i hi)
  · exact n3 _ _ _ _ _ (by decide) (by decide) (by decide) (by decide) (by decide) (by decide) (c3 x hx)
  · rw [hu 40 f (by decide) (by decide)]; exact (c4 f hf).1
  · rw [hu 37 f (by decide) (by decide), hu 38 f (by decide) (by decide), hu 39 f (by decide) (by decide)]; exact (c4 f hf).2.1 e
  · exact n3 _ _ _ _ _ (by decide) (by decide) (by decide) (by decide) (by decide) (by decide) ((c4 f hf).2.2 e)
  · rw [hu 27 k (by decide) (by decide)]; exact c5 k hk
theorem fr_pass0 (D : md_A F N op ar ow pa lo re fs hs gl bk kp L) (T : fr_M N F op ar ow en el pa lo re fs hs gl bk kp L τ) (V : ft_V F N ow pa lo re fs hs L A) (C : fr_P5 N ow pa lo hs A τ) (hj : j < N) (K1 : ∀ i, i < hs j → fr_3 41 42 43 i (st i) τ) (K2 : ∀ i, i < 4 → fr_3 44 45 46 i (vr i) τ) (s1 : ∀ i, i < hs j → ft_ok (st i)) (v1 : ∀ i, i < pa (ow j) + lo (ow j) → ft_ok (vr i)) (v0 : ∀ i, pa (ow j) + lo (ow j) ≤ i → i < 4 → vr i = (0, 0, 0)) :
    ∃ u, M_R_RangeTellerModel_pass τ (nI j) = some u ∧ rq_A fr_A τ u ∧ (∀ c x, 41 ≤ c → c ≤ 46 → u c x = τ c x) ∧ u 0 59 = τ 0 59 ∧ fr_P N ow pa lo hs (ft_J A (ft_pass j (hs j) (pa (ow j) + lo (ow j)) st vr)) u ∧ ((ft_sm A (ft_J A (ft_pass j (hs j) (pa (ow j) + lo (ow j)) st vr)) j ∧ (∀ i, i < N → (fr_W u i ↔ fr_W τ i)) ∧ (τ 0 58 = 0 ∨ τ 0 58 = 1 → u 0 58 = τ 0 58)) ∨ (¬ ft_sm A (ft_J A (ft_pass j (hs j) (pa (ow j) + lo (ow j)) st vr)) j ∧ (∀ i, i < N → (fr_W u i ↔ fr_W τ i ∨ i = j)) ∧ u 0 58 = 1)) := by
  obtain ⟨⟨hN, hF1, hF3⟩, m1, m2, -⟩ := D
  obtain ⟨owF, h10, -, -⟩ := m2 j hj
  obtain ⟨-, -, -, -, pa2, lo2, -⟩ := m1 (ow j) owF
  have uu := V.u
  obtain ⟨c1, c2, c3, c4, c5⟩ := C
  have t7 := (T.1 j hj).2.2.2.2.2
  have fl := V.2.1 4 j (Nat.le_refl _)
  obtain ⟨q, hq⟩ : ∃ q, q = (A 4 j).2.1 := ⟨_, rfl⟩
  have q2 : q < 2 := by omega
  have h26 : τ 26 j = nI q := by rw [hq]; exact c1 j (by omega)
  have okz : ft_ok (0, 0, 0) := by unfold ft_ok; decide
  have vok : ∀ i, i < 4 → ft_ok (vr i) := fun i hi => by
    by_cases z : i < pa (ow j) + lo (ow j)
    · exact v1 i z
    · rw [v0 i (by omega) hi]; exact okz
  have rok := fun (e : q = 1) => V.rc hj (by rw [← hq]; exact e)
  obtain ⟨R1, hR1⟩ : ∃ R1 : Nat → ft_G, ∀ i, R1 i = if i < pa (ow j) + lo (ow j) then A 1 (4 * j + i) else (0, 0, 0) := ⟨_, fun _ => rfl⟩
  have R1ok : q = 1 → ∀ i, i < 4 → ft_ok (R1 i) := fun e i hi => by
    rw [hR1]
    by_cases z : i < pa (ow j) + lo (ow j)
    · rw [if_pos z]; exact (rok e).2.2 i z
    · rw [if_neg z]; exact okz
  obtain ⟨u1, f1, p1, p2, p3, p4, p5⟩ := fr_l28 (j := j) (h := hs j) (R := fun i => A 0 (10 * j + i)) (G := st) (by omega) h10 q2 s1 (fun e i hi => (rok e).2.1 i hi) (hs j) 0 (1 - q) FU τ (by omega) (by show hs j + 1 ≤ 2000000; omega) (by omega) h26 (fun y _ hy => K1 y hy) (fun e y _ hy => (c2 j hj (by rw [← hq]; exact e)).1 y hy)
  obtain ⟨u2, f2, r1, r2, r3, r4, r5⟩ := fr_l31 (j := j) (R := R1) (G := vr) (by omega) q2 vok R1ok 4 0 f1 FU u1 (by omega) (by decide) p2 (by rw [p3 26 j (by unfold fr_q; omega)]; exact h26) (fun y _ hy => (K2 y hy).ne (p3 _ _ (by unfold fr_q; omega)) (p3 _ _ (by unfold fr_q; omega)) (p3 _ _ (by unfold fr_q; omega))) (fun e y _ hy => by
    have w := (c2 j hj (by rw [← hq]; exact e)).2 y hy
    rw [← hR1] at w
    exact w.ne (p3 _ _ (by unfold fr_q; omega)) (p3 _ _ (by unfold fr_q; omega)) (p3 _ _ (by unfold fr_q; omega)))
  have far : ∀ c x, ¬ ((c = 28 ∨ c = 29 ∨ c = 30) ∧ 10 * j ≤ x ∧ x < 10 * j + hs j) → ¬ ((c = 31 ∨ c = 32 ∨ c = 33) ∧ 4 * j ≤ x ∧ x < 4 * j + 4) → u2 c x = τ c x := fun c x b1 b2 => by
    rw [r3 c x (by unfold fr_q; omega), p3 c x (by unfold fr_q; omega)]
  -- the state of ranges
  have a0 : ∀ x, ft_J A (ft_pass j (hs j) (pa (ow j) + lo (ow j)) st vr) 0 x = if 10 * j ≤ x ∧ x < 10 * j + hs j then ft_j (A 0 x) (st (x - 10 * j)) else A 0 x := fun x => by
    show ft_j (A 0 x) (ft_pass j (hs j) (pa (ow j) + lo (ow j)) st vr 0 x) = _
    unfold ft_pass
    by_cases z : 10 * j ≤ x ∧ x < 10 * j + hs j
    · rw [if_pos ⟨rfl, z⟩, if_pos z]
    · rw [if_neg (fun q => z q.2), if_neg (fun q => absurd q.1 (by decide)), if_neg (fun q => absurd q.1 (by decide)), if_neg z, ft_j_bot (uu 0 x).1]
  have a1 : ∀ x, ft_J A (ft_pass j (hs j) (pa (ow j) + lo (ow j)) st vr) 1 x = if 4 * j ≤ x ∧ x < 4 * j + (pa (ow j) + lo (ow j)) then ft_j (A 1 x) (vr (x - 4 * j)) else A 1 x := fun x => by
    show ft_j (A 1 x) (ft_pass j (hs j) (pa (ow j) + lo (ow j)) st vr 1 x) = _
    unfold ft_pass
    rw [if_neg (fun q => absurd q.1 (by decide))]
    by_cases z : 4 * j ≤ x ∧ x < 4 * j + (pa (ow j) + lo (ow j))
    · rw [if_pos ⟨rfl, z⟩, if_pos z]
    · rw [if_neg (fun q => z q.2), if_neg (fun q => absurd q.1 (by decide)), if_neg z, ft_j_bot (uu 1 x).1]
  have ao : ∀ c x, c ≠ 0 → c ≠ 1 → c ≠ 4 → ft_J A (ft_pass j (hs j) (pa (ow j) + lo (ow j)) st vr) c x = A c x := fun c x h0 h1 h4 => by
    show ft_j (A c x) (ft_pass j (hs j) (pa (ow j) + lo (ow j)) st vr c x) = _
    rw [ft_pass_o h0 h1 h4, ft_j_bot (uu c x).1]
  have a4 : ∀ x, x ≠ j → ft_J A (ft_pass j (hs j) (pa (ow j) + lo (ow j)) st vr) 4 x = A 4 x := fun x hx => by
    show ft_j (A 4 x) (ft_pass j (hs j) (pa (ow j) + lo (ow j)) st vr 4 x) = _
    rw [ft_pass_4, if_neg hx, ft_j_bot (uu 4 x).1]
  have a4j : ft_J A (ft_pass j (hs j) (pa (ow j) + lo (ow j)) st vr) 4 j = (0, 1, 0) := by
    show ft_j (A 4 j) (ft_pass j (hs j) (pa (ow j) + lo (ow j)) st vr 4 j) = _
    rw [ft_pass_4, if_pos rfl]
    unfold ft_j
    dsimp only
    rw [show min (A 4 j).1 0 = 0 by omega, show max (A 4 j).2.1 1 = 1 by omega, show max (A 4 j).2.2 0 = 0 by omega]
  have bots : q = 0 → (∀ i, i < 10 → A 0 (10 * j + i) = ft_bot) ∧ (∀ i, i < 4 → A 1 (4 * j + i) = ft_bot) := fun e => by
    rcases V.2.2.2.1 j hj with ⟨-, b⟩ | ⟨b, -⟩
    · exact b
    · omega
  have smI : ft_sm A (ft_J A (ft_pass j (hs j) (pa (ow j) + lo (ow j)) st vr)) j ↔ f2 = 0 := by
    rw [r5, p5]
    constructor
    · rintro ⟨b1, b2, b3⟩
      have e1 : q = 1 := by rw [hq, ← b1, a4j]
      refine ⟨⟨by omega, fun y _ hy => ⟨e1, ?_⟩⟩, fun y _ hy => ⟨e1, ?_⟩⟩
      · have w := b2 y (by omega)
        rw [a0, if_pos (by omega), show 10 * j + y - 10 * j = y by omega] at w
        exact w
      · rw [hR1]
        by_cases z : y < pa (ow j) + lo (ow j)
        · have w := b3 y (by omega)
          rw [a1, if_pos (by omega), show 4 * j + y - 4 * j = y by omega] at w
          rw [if_pos z]; exact w
        · rw [if_neg z, v0 y (by omega) hy]; rfl
    · rintro ⟨⟨b1, b2⟩, b3⟩
      have e1 : q = 1 := by omega
      refine ⟨?_, fun i hi => ?_, fun i hi => ?_⟩
      · rw [a4j]
        exact (Prod.ext fl.1 (Prod.ext (by show (A 4 j).2.1 = 1; omega) fl.2.2)).symm
      · rw [a0]
        by_cases z : i < hs j
        · rw [if_pos (by omega), show 10 * j + i - 10 * j = i by omega]; exact (b2 i (by omega) z).2
        · rw [if_neg (by omega)]
      · rw [a1]
        by_cases z : i < pa (ow j) + lo (ow j)
        · rw [if_pos (by omega), show 4 * j + i - 4 * j = i by omega]
          have w := (b3 i (by omega) hi).2
          rw [hR1, if_pos z] at w
          exact w
        · rw [if_neg (by omega)]
  have j0 : ∀ i, i < hs j → (if q = 1 then ft_j (A 0 (10 * j + i)) (st i) else st i) = ft_J A (ft_pass j (hs j) (pa (ow j) + lo (ow j)) st vr) 0 (10 * j + i) := fun i hi => by
    rw [a0, if_pos (show 10 * j ≤ 10 * j + i ∧ 10 * j + i < 10 * j + hs j by omega), show 10 * j + i - 10 * j = i by omega]
    by_cases z : q = 1
    · rw [if_pos z]
    · rw [if_neg z, (bots (by omega)).1 i (by omega), ft_bot_j (ft_v_le (Or.inr (s1 i hi))).1]
  have j1 : ∀ i, i < 4 → (if q = 1 then ft_j (R1 i) (vr i) else vr i) = if i < pa (ow j) + lo (ow j) then ft_J A (ft_pass j (hs j) (pa (ow j) + lo (ow j)) st vr) 1 (4 * j + i) else (0, 0, 0) := fun i hi => by
    rw [hR1]
    by_cases y : i < pa (ow j) + lo (ow j)
    · rw [if_pos y, if_pos y, a1, if_pos (show 4 * j ≤ 4 * j + i ∧ 4 * j + i < 4 * j + (pa (ow j) + lo (ow j)) by omega), show 4 * j + i - 4 * j = i by omega]
      by_cases z : q = 1
      · rw [if_pos z]
      · rw [if_neg z, (bots (by omega)).2 i hi, ft_bot_j (ft_v_le (Or.inr (v1 i y))).1]
    · rw [if_neg y, if_neg y, v0 i (by omega) hi]
      by_cases z : q = 1
      · rw [if_pos z]; rfl
      · rw [if_neg z]
  -- the last writes
  obtain ⟨w27, hw27⟩ : ∃ x : Int32, x = if τ 27 j = 0 ∧ f2 = 0 then 0 else 1 := ⟨_, rfl⟩
  obtain ⟨w58, hw58⟩ : ∃ x : Int32, x = if τ 0 58 = 0 ∧ f2 = 0 then 0 else 1 := ⟨_, rfl⟩
  have u27 : u2 27 j = τ 27 j := far 27 j (by omega) (by omega)
  have u58 : (rt_up (rt_up u2 26 j 1) 27 j w27) 0 58 = τ 0 58 := by rw [rq_c (by decide), rq_c (by decide)]; exact far 0 58 (by omega) (by omega)
  have eq0 : M_R_RangeTellerModel_pass τ (nI j) = some (rt_up (rt_up (rt_up u2 26 j 1) 27 j w27) 0 58 w58) := by
    have fin : ∀ t : Nat, t ≤ 1 → nI t = w27 → B_R_RangeTellerModel_pass_511 (nI f2) (nI t) (nI j) (rt_up u2 26 j 1) = some (rt_up (rt_up (rt_up u2 26 j 1) 27 j w27) 0 58 w58) := fun t ht et => by
      unfold B_R_RangeTellerModel_pass_511
      rw [fr_nar ht, rq_wr (n := 101) rfl (by omega) (by decide), rq_b, et, u58]
      by_cases z : τ 0 58 = 0
      · rw [if_pos z]
        by_cases y : f2 = 0
        · rw [if_pos (show nI f2 = 0 by rw [y]; rfl), hw58, if_pos ⟨z, y⟩]; rfl
        · rw [if_neg (nI_ne0 (by omega) (by omega)), hw58, if_neg (fun g => y g.2)]; rfl
      · rw [if_neg z, hw58, if_neg (fun g => z g.1)]; rfl
    have mid : B_R_RangeTellerModel_pass_255 1 (nI j) (nI f2) (nI 4) u2 = some (rt_up (rt_up (rt_up u2 26 j 1) 27 j w27) 0 58 w58) := by
      have v27 : (rt_up u2 26 j 1) 27 j = τ 27 j := by rw [rq_c (by decide)]; exact u27
      rw [B_R_RangeTellerModel_pass_255, if_pos (show (4 : Int32) ≤ nI 4 from Int32.le_refl _), rq_wr (n := 101) rfl (by omega) (by decide), rq_b, rq_rd (n := 101) rfl (by omega) (by decide), rq_b, v27]
      unfold B_R_RangeTellerModel_pass_506
      by_cases z : τ 27 j = 0
      · rw [if_pos z]
        by_cases y : f2 = 0
        · rw [if_pos (show nI f2 = 0 by rw [y]; rfl)]; exact fin 0 (by decide) (by rw [hw27, if_pos ⟨z, y⟩]; rfl)
        · rw [if_neg (nI_ne0 (by omega) (by omega))]; exact fin 1 (by decide) (by rw [hw27, if_neg (fun g => y g.2)]; rfl)
      · rw [if_neg z]; exact fin 1 (by decide) (by rw [hw27, if_neg (fun g => z g.1)]; rfl)
    have go : B_R_RangeTellerModel_pass_14 (nI j) (nI (1 - q)) τ = some (rt_up (rt_up (rt_up u2 26 j 1) 27 j w27) 0 58 w58) := by
      unfold B_R_RangeTellerModel_pass_14
      rw [rq_rd (n := 101) rfl (by omega) (by decide), rq_b, t7]
      exact p1.trans (r1.trans mid)
    unfold M_R_RangeTellerModel_pass
    rw [rq_rd (n := 101) rfl (by omega) (by decide), rq_b, h26]
    by_cases z : q = 0
    · rw [if_pos (show nI q = 0 by rw [z]; rfl)]
      rw [z] at go; exact go
    · have z1 : q = 1 := by omega
      rw [if_neg (nI_ne0 (by omega) (by omega))]
      rw [z1] at go; exact go
  have far2 : ∀ c x, ¬ (c = 26 ∧ x = j) → ¬ (c = 27 ∧ x = j) → ¬ (c = 0 ∧ x = 58) → (rt_up (rt_up (rt_up u2 26 j 1) 27 j w27) 0 58 w58) c x = u2 c x := fun c x b1 b2 b3 => by
    rw [rq_if, if_neg b3, rq_if, if_neg b2, rq_if, if_neg b1]
  have w27b : w27 = 0 ∨ w27 = 1 := by
    rw [hw27]
    by_cases z : τ 27 j = 0 ∧ f2 = 0
    · rw [if_pos z]; exact Or.inl rfl
    · rw [if_neg z]; exact Or.inr rfl
  have w58b : w58 = 0 ∨ w58 = 1 := by
    rw [hw58]
    by_cases z : τ 0 58 = 0 ∧ f2 = 0
    · rw [if_pos z]; exact Or.inl rfl
    · rw [if_neg z]; exact Or.inr rfl
  refine ⟨_, eq0, fun c x w => ?_, fun c x b1 b2 => ?_, ?_, ⟨fun k hk => ?_, fun k hk hr => ⟨fun i hi => ?_, fun i hi => ?_⟩, fun x hx => ?_, fun f hf => ⟨?_, fun e => ?_, fun e => ?_⟩, fun k hk => ?_, ?_⟩, ?_⟩
  · rw [far2 c x (by unfold fr_A at w; omega) (by unfold fr_A at w; omega) (by unfold fr_A at w; omega), far c x (by unfold fr_A at w; omega) (by unfold fr_A at w; omega)]
  · rw [far2 c x (by omega) (by omega) (by omega), far c x (by omega) (by omega)]
  · rw [far2 0 59 (by omega) (by omega) (by omega), far 0 59 (by omega) (by omega)]
  · by_cases z : k = j
    · subst z; rw [rq_c (by decide), rq_c (by decide), rq_s, a4j]; rfl
    · rw [far2 26 k (by omega) (by omega) (by omega), far 26 k (by omega) (by omega), a4 k z]; exact c1 k hk
  · have e3 : ∀ c, c = 28 ∨ c = 29 ∨ c = 30 → (rt_up (rt_up (rt_up u2 26 j 1) 27 j w27) 0 58 w58) c (10 * k + i) = u2 c (10 * k + i) := fun c hc => far2 c _ (by omega) (by omega) (by omega)
    by_cases z : k = j
    · subst z
      rw [← j0 i hi]
      exact ((p4 i (by omega) hi).ne (r3 _ _ (by unfold fr_q; omega)) (r3 _ _ (by unfold fr_q; omega)) (r3 _ _ (by unfold fr_q; omega))).ne (e3 _ (by decide)) (e3 _ (by decide)) (e3 _ (by decide))
    · have hk10 := (m2 k hk).2.1
      rw [a4 k z] at hr
      rw [a0, if_neg (by omega)]
      exact (((c2 k hk hr).1 i hi).ne (far _ _ (by omega) (by omega)) (far _ _ (by omega) (by omega)) (far _ _ (by omega) (by omega))).ne (e3 _ (by decide)) (e3 _ (by decide)) (e3 _ (by decide))
  · have e3 : ∀ c, c = 31 ∨ c = 32 ∨ c = 33 → (rt_up (rt_up (rt_up u2 26 j 1) 27 j w27) 0 58 w58) c (4 * k + i) = u2 c (4 * k + i) := fun c hc => far2 c _ (by omega) (by omega) (by omega)
    by_cases z : k = j
    · subst z
      rw [← j1 i hi]
      exact (r4 i (by omega) hi).ne (e3 _ (by decide)) (e3 _ (by decide)) (e3 _ (by decide))
    · rw [a4 k z] at hr
      have e1 : ft_J A (ft_pass j (hs j) (pa (ow j) + lo (ow j)) st vr) 1 (4 * k + i) = A 1 (4 * k + i) := by rw [a1, if_neg (by omega)]
      rw [e1]
      exact (((c2 k hk hr).2 i hi).ne (far _ _ (by omega) (by omega)) (far _ _ (by omega) (by omega)) (far _ _ (by omega) (by omega))).ne (e3 _ (by decide)) (e3 _ (by decide)) (e3 _ (by decide))
  · have e3 : ∀ c, c = 34 ∨ c = 35 ∨ c = 36 → (rt_up (rt_up (rt_up u2 26 j 1) 27 j w27) 0 58 w58) c x = τ c x := fun c hc => by rw [far2 c _ (by omega) (by omega) (by omega), far c _ (by omega) (by omega)]
    rw [ao 2 x (by decide) (by decide) (by decide)]
    exact (c3 x hx).ne (e3 _ (by decide)) (e3 _ (by decide)) (e3 _ (by decide))
  · rw [far2 40 f (by omega) (by omega) (by omega), far 40 f (by omega) (by omega), ao 5 f (by decide) (by decide) (by decide)]; exact (c4 f hf).1
  · rw [ao 3 f (by decide) (by decide) (by decide)] at e
    rw [far2 37 f (by omega) (by omega) (by omega), far 37 f (by omega) (by omega), far2 38 f (by omega) (by omega) (by omega), far 38 f (by omega) (by omega), far2 39 f (by omega) (by omega) (by omega), far 39 f (by omega) (by omega)]; exact (c4 f hf).2.1 e
  · rw [ao 3 f (by decide) (by decide) (by decide)] at e ⊢
    have e3 : ∀ c, c = 37 ∨ c = 38 ∨ c = 39 → (rt_up (rt_up (rt_up u2 26 j 1) 27 j w27) 0 58 w58) c f = τ c f := fun c hc => by rw [far2 c _ (by omega) (by omega) (by omega), far c _ (by omega) (by omega)]
    exact ((c4 f hf).2.2 e).ne (e3 _ (by decide)) (e3 _ (by decide)) (e3 _ (by decide))
  · by_cases z : k = j
    · subst z; rw [rq_c (by decide), rq_s]; exact w27b
    · rw [far2 27 k (by omega) (by omega) (by omega), far 27 k (by omega) (by omega)]; exact c5 k hk
  · rw [rq_s]; exact w58b
  · have wo : ∀ i, i ≠ j → (fr_W (rt_up (rt_up (rt_up u2 26 j 1) 27 j w27) 0 58 w58) i ↔ fr_W τ i) := fun i hi => by
      unfold fr_W
      rw [far2 27 i (by omega) (by omega) (by omega), far 27 i (by omega) (by omega)]
    by_cases S : ft_sm A (ft_J A (ft_pass j (hs j) (pa (ow j) + lo (ow j)) st vr)) j
    · have z := smI.mp S
      refine Or.inl ⟨S, fun i hi => ?_, ?_⟩
      · by_cases y : i = j
        · subst y
          unfold fr_W
          rw [rq_c (by decide), rq_s, hw27]
          rcases c5 i (by omega) with g | g
          · rw [if_pos ⟨g, z⟩, g]
          · rw [if_neg (fun q => by rw [g] at q; exact absurd q.1 (by decide)), g]
        · exact wo i y
      · intro c6
        rw [rq_s, hw58]
        rcases c6 with g | g
        · rw [if_pos ⟨g, z⟩, g]
        · rw [if_neg (fun q => by rw [g] at q; exact absurd q.1 (by decide)), g]
    · have z : f2 ≠ 0 := fun e => S (smI.mpr e)
      refine Or.inr ⟨S, fun i hi => ?_, ?_⟩
      · by_cases y : i = j
        · subst y
          unfold fr_W
          rw [rq_c (by decide), rq_s, hw27, if_neg (fun q => z q.2)]
          exact ⟨fun _ => Or.inr rfl, fun _ => rfl⟩
        · exact (wo i y).trans ⟨Or.inl, fun g => g.elim id (fun e => absurd e y)⟩
      · rw [rq_s, hw58, if_neg (fun q => z q.2)]
theorem fr_pass (D : md_A F N op ar ow pa lo re fs hs gl bk kp L) (T : fr_M N F op ar ow en el pa lo re fs hs gl bk kp L τ) (V : ft_V F N ow pa lo re fs hs L A) (C : fr_P N ow pa lo hs A τ) (hj : j < N) (K1 : ∀ i, i < hs j → fr_3 41 42 43 i (st i) τ) (K2 : ∀ i, i < 4 → fr_3 44 45 46 i (vr i) τ) (s1 : ∀ i, i < hs j → ft_ok (st i)) (v1 : ∀ i, i < pa (ow j) + lo (ow j) → ft_ok (vr i)) (v0 : ∀ i, pa (ow j) + lo (ow j) ≤ i → i < 4 → vr i = (0, 0, 0)) :
    ∃ u, M_R_RangeTellerModel_pass τ (nI j) = some u ∧ rq_A fr_A τ u ∧ (∀ c x, 41 ≤ c → c ≤ 46 → u c x = τ c x) ∧ u 0 59 = τ 0 59 ∧ fr_P N ow pa lo hs (ft_J A (ft_pass j (hs j) (pa (ow j) + lo (ow j)) st vr)) u ∧ ((ft_sm A (ft_J A (ft_pass j (hs j) (pa (ow j) + lo (ow j)) st vr)) j ∧ (∀ i, i < N → (fr_W u i ↔ fr_W τ i)) ∧ u 0 58 = τ 0 58) ∨ (¬ ft_sm A (ft_J A (ft_pass j (hs j) (pa (ow j) + lo (ow j)) st vr)) j ∧ (∀ i, i < N → (fr_W u i ↔ fr_W τ i ∨ i = j)) ∧ u 0 58 = 1)) := by
  obtain ⟨u, e1, e2, e3, e4, e5, e6⟩ := fr_pass0 (st := st) (vr := vr) D T V ⟨C.1, C.2.1, C.2.2.1, C.2.2.2.1, C.2.2.2.2.1⟩ hj K1 K2 s1 v1 v0
  exact ⟨u, e1, e2, e3, e4, e5, e6.imp (fun q => ⟨q.1, q.2.1, q.2.2 C.2.2.2.2.2⟩) id⟩
end FRA
