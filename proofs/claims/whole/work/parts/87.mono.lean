/-! foretelling: the module in numbers; what every state of ranges keeps; more known gives more -/
def md_J (ow re gl bk kp : Nat → Nat) (Go : Nat → Nat → Prop) (k h : Nat) : Prop := kp k ≤ 1 ∧ bk k + kp k ≤ h ∧ (gl k = 0 → kp k = re (ow k) ∧ bk k = 0) ∧ (gl k ≠ 0 → Go (gl k - 1) (bk k + kp k))
def md_K (F : Nat) (op ar ow pa lo re hs gl bk kp : Nat → Nat) (Go : Nat → Nat → Prop) (k : Nat) : Prop :=
  (op k = 1 ∨ op k = 2 → Go (k + 1) (hs k)) ∧
  (op k = 3 ∨ op k = 7 → 1 ≤ hs k ∧ Go (k + 1) (hs k - 1) ∧ md_J ow re gl bk kp Go k (hs k - 1)) ∧
  (op k = 4 ∨ op k = 5 ∨ op k = 6 ∨ op k = 8 → md_J ow re gl bk kp Go k (hs k)) ∧
  (op k = 9 → ar k < F ∧ pa (ar k) ≤ hs k ∧ Go (k + 1) (hs k - pa (ar k) + re (ar k))) ∧
  (10 ≤ op k → ck_tk (op k) ≤ hs k ∧ Go (k + 1) (hs k - ck_tk (op k) + ck_gv (op k)) ∧ (12 ≤ op k → op k ≤ 14 → ar k < pa (ow k) + lo (ow k)))
def md_A (F N : Nat) (op ar ow pa lo re fs hs gl bk kp : Nat → Nat) (L : Nat → Prop) : Prop :=
  (N ≤ 100 ∧ 1 ≤ F ∧ F ≤ 3) ∧ (∀ g, g < F → fs g < N ∧ L (fs g) ∧ hs (fs g) = 0 ∧ ow (fs g) = g ∧ pa g ≤ 2 ∧ lo g ≤ 2 ∧ re g ≤ 1) ∧ (∀ k, k < N → ow k < F ∧ hs k ≤ 10 ∧ op k < 29 ∧ ar k < 64) ∧ ∀ k, k < N → L k → md_K F op ar ow pa lo re hs gl bk kp (wf_go N fs ow hs L k) k
def ft_V (F N : Nat) (ow pa lo re fs hs : Nat → Nat) (L : Nat → Prop) (A : ft_S) : Prop :=
  (∀ c x, c < 4 → ft_v (A c x)) ∧ (∀ c x, 4 ≤ c → (A c x).1 = 0 ∧ (A c x).2.1 ≤ 1 ∧ (A c x).2.2 = 0) ∧ (∀ x, x < 16 → ft_ok (A 2 x)) ∧
  (∀ k, k < N → ((A 4 k).2.1 = 0 ∧ (∀ i, i < 10 → A 0 (10 * k + i) = ft_bot) ∧ ∀ i, i < 4 → A 1 (4 * k + i) = ft_bot) ∨ ((A 4 k).2.1 = 1 ∧ L k ∧ (∀ i, i < hs k → ft_ok (A 0 (10 * k + i))) ∧ ∀ i, i < pa (ow k) + lo (ow k) → ft_ok (A 1 (4 * k + i)))) ∧
  (∀ f, f < F → (A 5 f).2.1 = 1 → re f = 1 → ft_ok (A 3 f)) ∧
  (∀ g, g < F → (A 4 (fs g)).2.1 = 1 → ∀ i, pa g ≤ i → i < pa g + lo g → (A 1 (4 * fs g + i)).1 = 0)
section FTA
variable {F N k : Nat} {op ar ow pa lo re fs hs gl bk kp : Nat → Nat} {L : Nat → Prop} {A B : ft_S} {st st' vr vr' ce ce' : Nat → ft_G}
theorem ft_V.rc (H : ft_V F N ow pa lo re fs hs L A) (hk : k < N) (hr : (A 4 k).2.1 = 1) : L k ∧ (∀ i, i < hs k → ft_ok (A 0 (10 * k + i))) ∧ ∀ i, i < pa (ow k) + lo (ow k) → ft_ok (A 1 (4 * k + i)) := by
  rcases H.2.2.2.1 k hk with ⟨h, -⟩ | ⟨-, h⟩
  · omega
  · exact h
theorem ft_val_mono {o a h lc : Nat} (h10 : 10 ≤ o) (ht : ck_tk o ≤ h) (ha : 12 ≤ o → o ≤ 14 → a < lc) (ha2 : a < 64) (s1 : ∀ i, i < h → ft_ok (st i)) (s2 : ∀ i, i < h → ft_ok (st' i)) (s3 : ∀ i, i < h → ft_le (st i) (st' i)) (v1 : ∀ i, i < lc → ft_ok (vr' i)) (v3 : ∀ i, i < lc → ft_le (vr i) (vr' i)) (c2 : o = 15 → ∀ x, x < 16 → ft_ok (ce' x)) (c3 : o = 15 → ∀ x, x < 16 → ft_le (ce x) (ce' x)) : ft_le (ft_val o a h st vr ce) (ft_val o a h st' vr' ce') ∧ ft_v (ft_val o a h st' vr' ce') := by
  unfold ft_val
  by_cases z : o = 11
  · subst z
    have : 3 ≤ h := ht
    rw [if_pos rfl, if_pos rfl]
    exact ⟨ft_pk_mono (s1 _ (by omega)) (s3 _ (by omega)) (s3 _ (by omega)) (s3 _ (by omega)), Or.inr (ft_pick (s2 _ (by omega)) (s2 _ (by omega)) (s2 _ (by omega))).2⟩
  rw [if_neg z, if_neg z]
  by_cases z : o = 12
  · rw [if_pos z, if_pos z]
    have := ha (by omega) (by omega)
    exact ⟨v3 _ this, Or.inr (v1 _ this)⟩
  rw [if_neg z, if_neg z]
  by_cases z : o = 14
  · subst z
    have : 1 ≤ h := ht
    rw [if_pos rfl, if_pos rfl]
    exact ⟨s3 _ (by omega), Or.inr (s2 _ (by omega))⟩
  rw [if_neg z, if_neg z]
  by_cases z : o = 15
  · subst z
    have : 1 ≤ h := ht
    rw [if_pos rfl, if_pos rfl]
    refine ⟨ft_ld_mono (s1 _ (by omega)) (s2 _ (by omega)) (s3 _ (by omega)) (c3 rfl) (c2 rfl), ?_⟩
    by_cases q : (st' (h - 1)).1 + a < 16
    · exact Or.inr (ft_ld_ok (s2 _ (by omega)) (c2 rfl) q)
    · exact Or.inl (if_neg q)
  rw [if_neg z, if_neg z]
  by_cases z : o = 17
  · rw [if_pos z, if_pos z]
    exact ⟨ft_le.rf, Or.inr (by unfold ft_ok; dsimp only; omega)⟩
  rw [if_neg z, if_neg z]
  by_cases z : o = 18
  · subst z
    have : 1 ≤ h := ht
    rw [if_pos rfl, if_pos rfl]
    exact ⟨ft_nt_mono (s1 _ (by omega)) (s3 _ (by omega)), Or.inr (ft_nt_ok (s2 _ (by omega)))⟩
  rw [if_neg z, if_neg z]
  by_cases z : o = 27
  · rw [if_pos z, if_pos z]
    exact ⟨ft_le.rf, Or.inr (by unfold ft_ok; decide)⟩
  rw [if_neg z, if_neg z]
  by_cases z : 19 ≤ o ∧ o ≤ 26
  · have tk : ck_tk o = 2 := by
      rcases (show o = 19 ∨ o = 20 ∨ o = 21 ∨ o = 22 ∨ o = 23 ∨ o = 24 ∨ o = 25 ∨ o = 26 by omega) with rfl | rfl | rfl | rfl | rfl | rfl | rfl | rfl <;> rfl
    rw [if_pos z, if_pos z]
    exact ⟨ft_re_mono z.1 z.2 (s1 _ (by omega)) (s1 _ (by omega)) (s2 _ (by omega)) (s2 _ (by omega)) (s3 _ (by omega)) (s3 _ (by omega)), ft_re_v z.1 z.2 (s2 _ (by omega)) (s2 _ (by omega))⟩
  rw [if_neg z, if_neg z]
  exact ⟨ft_le.rf, Or.inl rfl⟩
theorem ft_jmp_U {f rg g b p h lc : Nat} (h1 : ∀ i, (st i).1 ≤ 64) (h2 : ∀ i, (vr i).1 ≤ 64) : ft_U (ft_jmp f rg g b p h lc st vr) := by
  unfold ft_jmp
  by_cases z : g = 0
  · rw [if_pos z]; exact ft_lv_U (h1 _)
  · rw [if_neg z]
    refine ft_pass_U (fun i => ?_) h2
    by_cases q : p = 1 ∧ i = b
    · rw [if_pos q]; exact h1 _
    · rw [if_neg q]; exact h1 _
theorem ft_jmp_mono {f rg g b p h lc : Nat} (hb : b + p ≤ h) (hg : g = 0 → p = rg) (s3 : ∀ i, i < h → ft_le (st i) (st' i)) (v3 : ∀ i, i < lc → ft_le (vr i) (vr' i)) : ft_L (ft_jmp f rg g b p h lc st vr) (ft_jmp f rg g b p h lc st' vr') := by
  unfold ft_jmp
  by_cases z : g = 0
  · rw [if_pos z, if_pos z]
    exact ft_lv_mono (fun e => s3 _ (by have := hg z; omega))
  · rw [if_neg z, if_neg z]
    refine ft_pass_mono (fun i hi => ?_) v3
    by_cases q : p = 1 ∧ i = b
    · rw [if_pos q, if_pos q]; exact s3 _ (by omega)
    · rw [if_neg q, if_neg q]; exact s3 _ (by omega)
theorem ft_mono (M : md_A F N op ar ow pa lo re fs hs gl bk kp L) : ft_Mo (ft_X op ar ow pa lo re fs hs gl bk kp) (ft_V F N ow pa lo re fs hs L) N := by
  refine ⟨fun B k hB => (hB.2.1 4 k (Nat.le_refl _)).2.1, fun A B k hA hB hAB hk hr => ?_⟩
  have hrB : (B 4 k).2.1 = 1 := by
    have q1 := (hAB 4 k).2.1
    have q2 := (hB.2.1 4 k (Nat.le_refl _)).2.1
    omega
  obtain ⟨hL, a1, a2⟩ := hA.rc hk hr
  obtain ⟨-, b1, b2⟩ := hB.rc hk hrB
  obtain ⟨⟨hN, hF1, hF3⟩, m1, m2, m3⟩ := M
  obtain ⟨owF, h10, o29, a64⟩ := m2 k hk
  obtain ⟨-, -, -, -, pa2, lo2, -⟩ := m1 (ow k) owF
  obtain ⟨K1, K3, K4, K9, K10⟩ := m3 k hk hL
  have s1 : ∀ i, i < hs k → ft_ok (ft_st A k i) := fun i hi => by unfold ft_st; rw [if_pos (by omega)]; exact a1 i hi
  have s2 : ∀ i, i < hs k → ft_ok (ft_st B k i) := fun i hi => by unfold ft_st; rw [if_pos (by omega)]; exact b1 i hi
  have s3 : ∀ i, ft_le (ft_st A k i) (ft_st B k i) := fun i => by
    unfold ft_st
    by_cases z : i < 10
    · rw [if_pos z, if_pos z]; exact hAB _ _
    · rw [if_neg z, if_neg z]; exact ft_le.rf
  have v1 : ∀ i, i < pa (ow k) + lo (ow k) → ft_ok (ft_vr B k i) := fun i hi => by unfold ft_vr; rw [if_pos (by omega)]; exact b2 i hi
  have v3 : ∀ i, ft_le (ft_vr A k i) (ft_vr B k i) := fun i => by
    unfold ft_vr
    by_cases z : i < 4
    · rw [if_pos z, if_pos z]; exact hAB _ _
    · rw [if_neg z, if_neg z]; exact ft_le.rf
  have sU : ∀ i, (ft_st B k i).1 ≤ 64 := fun i => by
    unfold ft_st
    by_cases z : i < 10
    · rw [if_pos z]; exact (ft_v_le (hB.1 _ _ (by decide))).1
    · rw [if_neg z]; exact Nat.le_refl 64
  have vU : ∀ i, (ft_vr B k i).1 ≤ 64 := fun i => by
    unfold ft_vr
    by_cases z : i < 4
    · rw [if_pos z]; exact (ft_v_le (hB.1 _ _ (by decide))).1
    · rw [if_neg z]; exact Nat.le_refl 64
  unfold ft_X ft_Y
  by_cases z : op k = 0
  · rw [if_pos z, if_pos z]; exact ft_L.rf
  rw [if_neg z, if_neg z]
  by_cases z : op k ≤ 2
  · rw [if_pos z, if_pos z]
    exact ft_pass_mono (fun i _ => s3 i) (fun i _ => v3 i)
  rw [if_neg z, if_neg z]
  by_cases z : op k = 3
  · rw [if_pos z, if_pos z]
    obtain ⟨k1, -, j1, j2, j3, -⟩ := K3 (Or.inl z)
    have sl := s3 (hs k - 1)
    have so := s1 (hs k - 1) (by omega)
    unfold ft_ok at so
    have sl' := sl
    unfold ft_le at sl'
    refine ft_J_mono ?_ ?_
    · by_cases q : (ft_st A k (hs k - 1)).2.1 = 0
      · rw [if_pos q]
        by_cases q2 : (ft_st B k (hs k - 1)).2.1 = 0
        · rw [if_pos q2]; exact ft_L.rf
        · rw [if_neg q2]; exact ft_L0 (ft_pass_U sU vU)
      · rw [if_neg q, if_neg (by omega)]
        exact ft_pass_mono (fun i _ => s3 i) (fun i _ => v3 i)
    · by_cases q : (ft_st A k (hs k - 1)).1 = 0
      · rw [if_pos q, if_pos (by omega)]
        exact ft_jmp_mono j2 (fun e => (j3 e).1) (fun i _ => s3 i) (fun i _ => v3 i)
      · rw [if_neg q]
        by_cases q2 : (ft_st B k (hs k - 1)).1 = 0
        · rw [if_pos q2]; exact ft_L0 (ft_jmp_U sU vU)
        · rw [if_neg q2]; exact ft_L.rf
  rw [if_neg z, if_neg z]
  by_cases z : op k = 7
  · rw [if_pos z, if_pos z]
    obtain ⟨k1, -, j1, j2, j3, -⟩ := K3 (Or.inr z)
    have sl := s3 (hs k - 1)
    have so := s1 (hs k - 1) (by omega)
    unfold ft_ok at so
    have sl' := sl
    unfold ft_le at sl'
    refine ft_J_mono ?_ ?_
    · by_cases q : (ft_st A k (hs k - 1)).1 = 0
      · rw [if_pos q, if_pos (by omega)]
        exact ft_pass_mono (fun i _ => s3 i) (fun i _ => v3 i)
      · rw [if_neg q]
        by_cases q2 : (ft_st B k (hs k - 1)).1 = 0
        · rw [if_pos q2]; exact ft_L0 (ft_pass_U sU vU)
        · rw [if_neg q2]; exact ft_L.rf
    · by_cases q : (ft_st A k (hs k - 1)).2.1 = 0
      · rw [if_pos q]
        by_cases q2 : (ft_st B k (hs k - 1)).2.1 = 0
        · rw [if_pos q2]; exact ft_L.rf
        · rw [if_neg q2]; exact ft_L0 (ft_jmp_U sU vU)
      · rw [if_neg q, if_neg (by omega)]
        exact ft_jmp_mono j2 (fun e => (j3 e).1) (fun i _ => s3 i) (fun i _ => v3 i)
  rw [if_neg z, if_neg z]
  by_cases z : op k ≤ 8
  · rw [if_pos z, if_pos z]
    obtain ⟨j1, j2, j3, -⟩ := K4 (by omega)
    exact ft_jmp_mono j2 (fun e => (j3 e).1) (fun i _ => s3 i) (fun i _ => v3 i)
  rw [if_neg z, if_neg z]
  by_cases z : op k = 9
  · rw [if_pos z, if_pos z]
    have e5 : ft_le (ft_gi (op k) (A 5 (ar k))) (ft_gi (op k) (B 5 (ar k))) := by unfold ft_gi; rw [if_pos z, if_pos z]; exact hAB _ _
    have e3 : ft_le (ft_gi (op k) (A 3 (ar k))) (ft_gi (op k) (B 3 (ar k))) := by unfold ft_gi; rw [if_pos z, if_pos z]; exact hAB _ _
    have e3U : (ft_gi (op k) (B 3 (ar k))).1 ≤ 64 := by unfold ft_gi; rw [if_pos z]; exact (ft_v_le (hB.1 _ _ (by decide))).1
    refine ft_J_mono (ft_pass_mono (fun i _ => s3 i) (fun i _ => ?_)) ?_
    · unfold ft_arg
      by_cases q : i < pa (ar k)
      · rw [if_pos q, if_pos q]; exact s3 _
      · rw [if_neg q, if_neg q]; exact ft_le.rf
    · have q0 := e5.2.1
      by_cases q : (ft_gi (op k) (A 5 (ar k))).2.1 = 0
      · rw [if_pos q]
        by_cases q2 : (ft_gi (op k) (B 5 (ar k))).2.1 = 0
        · rw [if_pos q2]; exact ft_L.rf
        · rw [if_neg q2]
          refine ft_L0 (ft_pass_U (fun i => ?_) vU)
          unfold ft_bck
          by_cases q3 : i = hs k - pa (ar k)
          · rw [if_pos q3]; exact e3U
          · rw [if_neg q3]; exact sU i
      · rw [if_neg q, if_neg (by omega)]
        refine ft_pass_mono (fun i _ => ?_) (fun i _ => v3 i)
        unfold ft_bck
        by_cases q3 : i = hs k - pa (ar k)
        · rw [if_pos q3, if_pos q3]; exact e3
        · rw [if_neg q3, if_neg q3]; exact s3 i
  rw [if_neg z, if_neg z]
  obtain ⟨k1, -, k3⟩ := K10 (by omega)
  refine ft_J_mono ?_ ?_
  · by_cases q : op k = 16
    · have tk : ck_tk (op k) = 2 := by rw [q]; rfl
      rw [if_pos q, if_pos q]
      exact ft_sto_mono (s3 _) (s3 _) (sU _)
    · rw [if_neg q, if_neg q]; exact ft_L.rf
  · have ce2 : op k = 15 → ∀ x, x < 16 → ft_ok (ft_ce (op k) B x) := fun e x hx => by unfold ft_ce; rw [if_pos ⟨e, hx⟩]; exact hB.2.2.1 x hx
    have ce3 : op k = 15 → ∀ x, x < 16 → ft_le (ft_ce (op k) A x) (ft_ce (op k) B x) := fun e x hx => by unfold ft_ce; rw [if_pos ⟨e, hx⟩, if_pos ⟨e, hx⟩]; exact hAB _ _
    obtain ⟨w1, w2⟩ := ft_val_mono (a := ar k) (by omega : 10 ≤ op k) k1 k3 a64 s1 s2 (fun i _ => s3 i) v1 (fun i _ => v3 i) ce2 ce3
    have w2' := (ft_v_le w2).1
    have w1' := w1.1
    have tk16 : op k = 16 → 2 ≤ hs k := fun e => by rw [e] at k1; exact k1
    have sl := (s3 (hs k - 2)).1
    unfold ft_opr
    by_cases q : ((op k = 15 ∨ (19 ≤ op k ∧ op k ≤ 26)) ∧ (ft_val (op k) (ar k) (hs k) (ft_st A k) (ft_vr A k) (ft_ce (op k) A)).1 = 64) ∨ (op k = 16 ∧ 16 ≤ (ft_st A k (hs k - 2)).1 + ar k)
    · rw [if_pos q]
      by_cases q2 : ((op k = 15 ∨ (19 ≤ op k ∧ op k ≤ 26)) ∧ (ft_val (op k) (ar k) (hs k) (ft_st B k) (ft_vr B k) (ft_ce (op k) B)).1 = 64) ∨ (op k = 16 ∧ 16 ≤ (ft_st B k (hs k - 2)).1 + ar k)
      · rw [if_pos q2]; exact ft_L.rf
      · rw [if_neg q2]
        refine ft_L0 (ft_pass_U (fun i => ?_) (fun i => ?_))
        · by_cases q3 : i = hs k - ck_tk (op k)
          · rw [if_pos q3]; exact w2'
          · rw [if_neg q3]; exact sU i
        · by_cases q3 : (op k = 13 ∨ op k = 14) ∧ i = ar k
          · rw [if_pos q3]; exact sU _
          · rw [if_neg q3]; exact vU i
    · rw [if_neg q]
      have q2 : ¬ (((op k = 15 ∨ (19 ≤ op k ∧ op k ≤ 26)) ∧ (ft_val (op k) (ar k) (hs k) (ft_st B k) (ft_vr B k) (ft_ce (op k) B)).1 = 64) ∨ (op k = 16 ∧ 16 ≤ (ft_st B k (hs k - 2)).1 + ar k)) := by
        intro h
        apply q
        rcases h with ⟨h1, h2⟩ | ⟨h1, h2⟩
        · have w3 : (ft_val (op k) (ar k) (hs k) (ft_st A k) (ft_vr A k) (ft_ce (op k) A)).1 ≤ 64 := by
            have a3 : ∀ i, i < pa (ow k) + lo (ow k) → ft_ok (ft_vr A k i) := fun i hi => by unfold ft_vr; rw [if_pos (by omega)]; exact a2 i hi
            have c4 : op k = 15 → ∀ x, x < 16 → ft_ok (ft_ce (op k) A x) := fun e x hx => by unfold ft_ce; rw [if_pos ⟨e, hx⟩]; exact hA.2.2.1 x hx
            exact (ft_v_le (ft_val_mono (a := ar k) (by omega : 10 ≤ op k) k1 k3 a64 s1 s1 (fun i _ => ft_le.rf) a3 (fun i _ => ft_le.rf) c4 (fun _ x _ => ft_le.rf)).2).1
          exact Or.inl ⟨h1, by omega⟩
        · exact Or.inr ⟨h1, by omega⟩
      rw [if_neg q2]
      refine ft_pass_mono (fun i _ => ?_) (fun i _ => ?_)
      · by_cases q3 : i = hs k - ck_tk (op k)
        · rw [if_pos q3, if_pos q3]; exact w1
        · rw [if_neg q3, if_neg q3]; exact s3 i
      · by_cases q3 : (op k = 13 ∨ op k = 14) ∧ i = ar k
        · rw [if_pos q3, if_pos q3]; exact s3 _
        · rw [if_neg q3, if_neg q3]; exact v3 i
end FTA
