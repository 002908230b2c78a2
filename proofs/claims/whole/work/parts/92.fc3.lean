/-! foretelling, the class: waking, leaving, jumping -/
def fc_G (N F : Nat) (op ar ow pa lo re fs hs gl bk kp : Nat → Nat) (L : Nat → Prop) (A Z : ft_S) (P : Nat → ft_G) (σ : rt_St) : Prop := fc_M N F op ar ow pa lo re fs gl bk kp L σ ∧ ft_V F N ow pa lo re fs hs L A ∧ fc_P N F pa fs hs A Z P σ
def fc_R (N F : Nat) (op ar ow pa lo re fs hs gl bk kp : Nat → Nat) (L : Nat → Prop) (A X Z : ft_S) (σ : rt_St) (o : Option rt_St) (Q : rt_St → Prop) : Prop := ∃ u P, o = some u ∧ rq_A fc_A σ u ∧ fc_G N F op ar ow pa lo re fs hs gl bk kp L (ft_J A X) Z P u ∧ ft_E N op ar A (fc_W σ) (ft_J A X) (fc_W u) ∧ Q u
theorem ft_J_as {A X Y : ft_S} : ft_J (ft_J A X) Y = ft_J A (ft_J X Y) := ft_L.eq (ft_J_L.mpr ⟨ft_J_L.mpr ⟨ft_J_l, ft_J_l.tr ft_J_r⟩, ft_J_r.tr ft_J_r⟩) (ft_J_L.mpr ⟨ft_J_l.tr ft_J_l, ft_J_L.mpr ⟨ft_J_r.tr ft_J_l, ft_J_r⟩⟩)
theorem ft_J_0 {A : ft_S} (h : ft_U A) : ft_J A ft_0 = A := funext fun c => funext fun x => ft_j_bot (h c x)
theorem ft_0_J {A : ft_S} (h : ft_U A) : ft_J ft_0 A = A := funext fun c => funext fun x => ft_bot_j (h c x)
section FCB
variable {N F j h m k f o : Nat} {op ar ow pa lo re fs hs gl bk kp : Nat → Nat} {L : Nat → Prop} {A X Y Z : ft_S} {P st vr : Nat → ft_G} {r : ft_G} {σ u : rt_St} {Q : rt_St → Prop}
theorem ft_V.U (H : ft_V F N ow pa lo re fs hs L A) : ft_U A := fun c x => (H.u c x).1
theorem fc_R.seq {Q2 : rt_St → Prop} {g : rt_St → Option rt_St} {o1 : Option rt_St} (H : fc_R N F op ar ow pa lo re fs hs gl bk kp L A X Z σ o1 Q) (h2 : ∀ u P, rq_A fc_A σ u → fc_G N F op ar ow pa lo re fs hs gl bk kp L (ft_J A X) Z P u → Q u → fc_R N F op ar ow pa lo re fs hs gl bk kp L (ft_J A X) Y Z u (g u) Q2) : fc_R N F op ar ow pa lo re fs hs gl bk kp L A (ft_J X Y) Z σ (o1.bind g) Q2 := by
  obtain ⟨u, P, e1, a1, a2, a3, a4⟩ := H
  obtain ⟨w, P', b1, b2, b3, b4, b5⟩ := h2 u P a1 a2 a4
  rw [ft_J_as] at b3 b4
  exact ⟨w, P', by rw [e1]; exact b1, a1.tr b2, b3, a3.tr b4 (fun j => (a2.2.1.2.1 4 j (Nat.le_refl _)).2.1), b5⟩
theorem fc_R.nil (G : fc_G N F op ar ow pa lo re fs hs gl bk kp L A Z P σ) (hQ : Q σ) : fc_R N F op ar ow pa lo re fs hs gl bk kp L A ft_0 Z σ (some σ) Q := by
  have e : ft_J A ft_0 = A := ft_J_0 G.2.1.U
  unfold fc_R
  rw [e]
  exact ⟨σ, P, rfl, rq_A.rf, G, ft_E.rf, hQ⟩
/-- changes of the working places before a step -/
theorem fc_R.pre {o1 : Option rt_St} (h1 : rq_A fc_A σ u) (h2 : ∀ i, u 35 i = σ 35 i) (H : fc_R N F op ar ow pa lo re fs hs gl bk kp L A X Z u o1 Q) : fc_R N F op ar ow pa lo re fs hs gl bk kp L A X Z σ o1 Q := by
  obtain ⟨w, P, e1, a1, a2, a3, a4⟩ := H
  exact ⟨w, P, e1, h1.tr a1, a2, a3.wk (fun i _ => by unfold fc_W; rw [h2]), a4⟩
theorem fc_G.keep (G : fc_G N F op ar ow pa lo re fs hs gl bk kp L A Z P σ) (h1 : rq_A fc_A σ u) (h2 : ∀ c i, 30 ≤ c → c ≤ 38 → u c i = σ c i) : fc_G N F op ar ow pa lo re fs hs gl bk kp L A Z P u := ⟨G.1.keep h1, G.2.1, G.2.2.keep h2⟩
theorem fc_arrG (D : md_A F N op ar ow pa lo re fs hs gl bk kp L) (G : fc_G N F op ar ow pa lo re fs hs gl bk kp L A Z P σ) (K : fc_K (hs j) st vr σ) (hj : j < N) (hL : L j) (s1 : ∀ i, i < hs j → ft_ok (st i)) (v1 : ∀ i, i < pa (ow j) + lo (ow j) → ft_ok (vr i)) (hf : j = fs (ow j) → ∀ i, pa (ow j) ≤ i → i < pa (ow j) + lo (ow j) → (vr i).1 = 0) : fc_R N F op ar ow pa lo re fs hs gl bk kp L A (ft_pass j (hs j) (pa (ow j) + lo (ow j)) st vr) Z σ (M_C_Foreteller_arrive σ (nI j)) (fc_K (hs j) st vr) := by
  obtain ⟨T, V, C⟩ := G
  have D0 := D
  obtain ⟨⟨hN, hF1, hF3⟩, m1, m2, -⟩ := D
  obtain ⟨owF, h10, -, -⟩ := m2 j hj
  obtain ⟨-, -, -, -, pa2, lo2, -⟩ := m1 (ow j) owF
  obtain ⟨u, e1, e2, e3, e4, e5⟩ := fc_arrive D0 T V C K hj s1 v1
  have V' := V.pass hj hL h10 (by omega) s1 v1 (fun g hg => (m1 g hg).2.2.2.1) hf
  exact ⟨u, P, e1, e2, ⟨T.keep e2, V', e3⟩, ft_E_pass V V' (by omega) h10 (by omega) e5, e4⟩
theorem fc_arr (D : md_A F N op ar ow pa lo re fs hs gl bk kp L) (G : fc_G N F op ar ow pa lo re fs hs gl bk kp L A Z P σ) (K : fc_K h st vr σ) (hgo : wf_go N fs ow hs L k j h) (s1 : ∀ i, i < h → ft_ok (st i)) (v1 : ∀ i, i < pa (ow k) + lo (ow k) → ft_ok (vr i)) : fc_R N F op ar ow pa lo re fs hs gl bk kp L A (ft_pass j h (pa (ow k) + lo (ow k)) st vr) Z σ (M_C_Foreteller_arrive σ (nI j)) (fc_K h st vr) := by
  obtain ⟨g1, g2, g3, g4, g5⟩ := hgo
  subst g3
  rw [← g4] at v1 ⊢
  exact fc_arrG D G K g1 g2 s1 v1 (fun e => absurd e g5)
theorem fc_pop (K : fc_K (m + 1) st vr σ) (hm : m < 10) : M_C_Foreteller_pop σ = some (ft_c (st m), rt_up σ 29 12 (nI m)) ∧ fc_K m st vr (rt_up σ 29 12 (nI m)) := by
  obtain ⟨k1, k2, k3⟩ := K
  refine ⟨?_, rq_s, fun i hi => ?_, fun i hi => ?_⟩
  · unfold M_C_Foreteller_pop
    rw [k1, nI_pred, rq_put, rq_b, rq_rd (n := 10) (i := m) rq_s hm (by decide), rq_b, rq_c (by decide), k2 m (by omega)]
  · rw [rq_c (by decide)]; exact k2 i (by omega)
  · rw [rq_c (by decide)]; exact k3 i hi
theorem fc_push (K : fc_K m st vr σ) (hm : m < 10) : M_C_Foreteller_push σ (ft_c r) = some (rt_up (rt_up σ 39 m (ft_c r)) 29 12 (nI (m + 1))) ∧ fc_K (m + 1) (fun i => if i = m then r else st i) vr (rt_up (rt_up σ 39 m (ft_c r)) 29 12 (nI (m + 1))) := by
  obtain ⟨k1, k2, k3⟩ := K
  refine ⟨?_, rq_s, fun i hi => ?_, fun i hi => ?_⟩
  · unfold M_C_Foreteller_push
    rw [rq_wr (n := 10) k1 hm (by decide), rq_b, rq_put, rq_b, rq_c (by decide), k1, nI_1]
  · rw [rq_c (by decide)]
    dsimp only
    by_cases z : i = m
    · subst z; rw [rq_s, if_pos rfl]
    · rw [rq_k z, if_neg z]; exact k2 i (by omega)
  · rw [rq_c (by decide), rq_c (by decide)]; exact k3 i hi
def fc_w35 (c _j : Nat) : Prop := c ≠ 35
theorem fc_wakeL (hN : N ≤ 100) (ho : o < 100) : ∀ (d i m : Nat) (σ : rt_St), i + d = N → d + 1 ≤ m → σ 1 12 = nI N → (∀ k, k < N → σ 2 k = nI (op k) ∧ op k < 29) → (∀ k, k < N → ∃ q, q < 2 ∧ σ 30 k = nI q) → ∃ u, B_C_Foreteller_wake_2 m (nI o) (nI i) σ = some u ∧ rq_A fc_w35 σ u ∧ ∀ k, (i ≤ k ∧ k < N ∧ σ 30 k = 1 ∧ op k = o → u 35 k = 1) ∧ (¬ (i ≤ k ∧ k < N ∧ σ 30 k = 1 ∧ op k = o) → u 35 k = σ 35 k) := by
  intro d
  induction d with
  | zero =>
    intro i m σ hd hm h1 h2 h3
    obtain ⟨m, rfl⟩ : ∃ q, m = q + 1 := ⟨m - 1, by omega⟩
    refine ⟨σ, ?_, rq_A.rf, fun k => ⟨fun h => by omega, fun _ => rfl⟩⟩
    rw [B_C_Foreteller_wake_2, h1, if_pos (nI_le (by omega) (by omega))]
  | succ d ih =>
    intro i m σ hd hm h1 h2 h3
    obtain ⟨m, rfl⟩ : ∃ q, m = q + 1 := ⟨m - 1, by omega⟩
    obtain ⟨p1, p2⟩ := h2 i (by omega)
    obtain ⟨q, q2, q3⟩ := h3 i (by omega)
    by_cases z : q = 1 ∧ op i = o
    · obtain ⟨u, a1, a2, a3⟩ := ih (i + 1) m (rt_up σ 35 i 1) (by omega) (by omega) (by rw [rq_c (by decide)]; exact h1) (fun k hk => by rw [rq_c (by decide)]; exact h2 k hk) (fun k hk => by rw [rq_c (by decide)]; exact h3 k hk)
      refine ⟨u, ?_, (rq_A.rf.up (by unfold fc_w35; omega)).tr a2, fun k => ⟨fun h => ?_, fun h => ?_⟩⟩
      · rw [B_C_Foreteller_wake_2, h1, if_neg (nI_ge (by omega) (by omega)), rq_rd (n := 100) rfl (by omega) (by decide), rq_b, q3, if_neg (nI_ne0 (by omega) (by omega)), rq_rd (n := 100) rfl (by omega) (by decide), rq_b, p1, if_pos (by rw [z.2]), rq_wr (n := 100) rfl (by omega) (by decide), rq_b]
        unfold B_C_Foreteller_wake_42
        rw [nI_1]; exact a1
      · by_cases w : k = i
        · subst w; rw [(a3 k).2 (fun h' => by omega), rq_s]
        · exact (a3 k).1 ⟨by omega, h.2.1, by rw [rq_c (by decide)]; exact h.2.2.1, h.2.2.2⟩
      · have w : k ≠ i := fun e => h ⟨by omega, by omega, by rw [e, q3, z.1]; rfl, by rw [e]; exact z.2⟩
        rw [(a3 k).2 (fun h' => h ⟨by omega, h'.2.1, by have := h'.2.2.1; rw [rq_c (by decide)] at this; exact this, h'.2.2.2⟩), rq_k w]
    · obtain ⟨u, a1, a2, a3⟩ := ih (i + 1) m σ (by omega) (by omega) h1 h2 h3
      refine ⟨u, ?_, a2, fun k => ⟨fun h => ?_, fun h => ?_⟩⟩
      · rw [B_C_Foreteller_wake_2, h1, if_neg (nI_ge (by omega) (by omega)), rq_rd (n := 100) rfl (by omega) (by decide), rq_b, q3]
        unfold B_C_Foreteller_wake_42
        by_cases y : q = 0
        · rw [if_pos (show nI q = 0 by rw [y]; rfl), nI_1]; exact a1
        · rw [if_neg (nI_ne0 (by omega) (by omega)), rq_rd (n := 100) rfl (by omega) (by decide), rq_b, p1, if_neg (fun e => z ⟨by omega, (nI_eq (by omega) (by omega)).mp e⟩), nI_1]; exact a1
      · have w : k ≠ i := fun e => z (by
          have e3 := h.2.2.1
          rw [e, q3] at e3
          exact ⟨(nI_eq (b := 1) (by omega) (by decide)).mp e3, by rw [← e]; exact h.2.2.2⟩)
        exact (a3 k).1 ⟨by omega, h.2.1, h.2.2.1, h.2.2.2⟩
      · exact (a3 k).2 (fun h' => h ⟨by omega, h'.2⟩)
theorem fc_wake (D : md_A F N op ar ow pa lo re fs hs gl bk kp L) (T : fc_M N F op ar ow pa lo re fs gl bk kp L σ) (V : ft_V F N ow pa lo re fs hs L A) (h30 : ∀ k, k < 100 → σ 30 k = nI (A 4 k).2.1) (ho : o < 100) : ∃ u, M_C_Foreteller_wake σ (nI o) = some u ∧ rq_A fc_w35 σ u ∧ (∀ k, k < N → (A 4 k).2.1 = 1 → op k = o → u 35 k = 1) ∧ ∀ k, u 35 k = σ 35 k ∨ (u 35 k = 1 ∧ (A 4 k).2.1 = 1) := by
  obtain ⟨⟨hN, hF1, hF3⟩, m1, m2, -⟩ := D
  obtain ⟨u, a1, a2, a3⟩ := fc_wakeL (op := op) hN ho N 0 FU σ (by omega) (by show N + 1 ≤ 2000000; omega) T.2.2.1 (fun k hk => ⟨(T.1 k hk).1, (m2 k hk).2.2.1⟩) (fun k hk => ⟨(A 4 k).2.1, by have := (V.2.1 4 k (Nat.le_refl _)).2.1; omega, h30 k (by omega)⟩)
  refine ⟨u, a1, a2, fun k hk hr ho => (a3 k).1 ⟨by omega, hk, by rw [h30 k (by omega), hr]; rfl, ho⟩, fun k => ?_⟩
  by_cases z : 0 ≤ k ∧ k < N ∧ σ 30 k = 1 ∧ op k = o
  · refine Or.inr ⟨(a3 k).1 z, ?_⟩
    have e := z.2.2.1
    rw [h30 k (by omega)] at e
    have := (V.2.1 4 k (Nat.le_refl _)).2.1
    exact (nI_eq (b := 1) (by omega) (by decide)).mp e
  · exact Or.inl ((a3 k).2 z)
theorem fc_leave (D : md_A F N op ar ow pa lo re fs hs gl bk kp L) (G : fc_G N F op ar ow pa lo re fs hs gl bk kp L A Z P σ) (K : fc_K h st vr σ) (hf : f < F) (hh : h ≤ 10) (hv : re f = 1 → 1 ≤ h ∧ ft_ok (st (h - 1))) : fc_R N F op ar ow pa lo re fs hs gl bk kp L A (ft_lv f (re f) (st (h - 1))) Z σ (M_C_Foreteller_leave σ (nI f)) (fun _ => True) := by
  have D0 := D
  obtain ⟨⟨hN, hF1, hF3⟩, m1, m2, -⟩ := D
  obtain ⟨-, -, -, -, -, -, re1⟩ := m1 f hf
  obtain ⟨T, V, C⟩ := G
  have C0 := C
  obtain ⟨c1, c2, c3, c4, c5, c6, c7, c8, c9⟩ := C
  obtain ⟨k1, k2, k3⟩ := K
  obtain ⟨-, -, -, t13⟩ := T.2.1 f hf
  obtain ⟨e33, e34⟩ := c4 f (by omega)
  have uu := V.u
  have V' := V.lv (f := f) (v := st (h - 1)) (fun e => (hv e).2)
  have fl := V.2.1 5 f (by decide)
  have n3 : ft_J A (ft_lv f (re f) (st (h - 1))) 3 f = if re f = 1 then ft_j (A 3 f) (st (h - 1)) else A 3 f := by
    show ft_j (A 3 f) (ft_lv f (re f) (st (h - 1)) 3 f) = _
    rw [ft_lv_3]
    by_cases z : re f = 1
    · rw [if_pos z, if_pos z]
    · rw [if_neg z, if_neg z, ft_j_bot (uu 3 f).1]
  have n5 : ft_J A (ft_lv f (re f) (st (h - 1))) 5 f = (0, 1, 0) := by
    show ft_j (A 5 f) (ft_lv f (re f) (st (h - 1)) 5 f) = _
    rw [ft_lv_5]
    unfold ft_j
    dsimp only
    rw [show min (A 5 f).1 0 = 0 by omega, show max (A 5 f).2.1 1 = 1 by omega, show max (A 5 f).2.2 0 = 0 by omega]
  have oth : ∀ c x, ¬ (c = 3 ∧ x = f) ∧ ¬ (c = 5 ∧ x = f) → ft_J A (ft_lv f (re f) (st (h - 1))) c x = A c x := fun c x q => by
    show ft_j (A c x) (ft_lv f (re f) (st (h - 1)) c x) = _
    rw [ft_lv_o q, ft_j_bot (uu c x).1]
  have eq0 : M_C_Foreteller_leave σ (nI f) = B_C_Foreteller_leave_36 (nI f) (ft_c (ft_J A (ft_lv f (re f) (st (h - 1))) 3 f)) σ := by
    unfold M_C_Foreteller_leave
    rw [rq_rd (n := 3) rfl (by omega) (by decide), rq_b, e33, rq_rd (n := 3) rfl (by omega) (by decide), rq_b, t13, n3]
    by_cases z : re f = 1
    · obtain ⟨z1, z2⟩ := hv z
      rw [if_pos (show nI (re f) = 1 by rw [z]; rfl), rq_rd (n := 10) (i := h - 1) (by rw [k1, show h = h - 1 + 1 by omega, nI_pred, Nat.add_sub_cancel]) (by omega) (by decide), rq_b, k2 (h - 1) (by omega), ft_join (V.1 3 f (by decide)) (Or.inr z2), rq_b, if_pos z]
    · rw [if_neg (show ¬ nI (re f) = 1 from fun e => z ((nI_eq (b := 1) (by omega) (by decide)).mp e)), if_neg z]
  have e55 : ∃ u, B_C_Foreteller_leave_55 (nI f) (ft_c (ft_J A (ft_lv f (re f) (st (h - 1))) 3 f)) σ = some u ∧ rq_A fc_A σ u ∧ fc_P N F pa fs hs (ft_J A (ft_lv f (re f) (st (h - 1)))) Z P u ∧ (∀ i, i < N → fc_W σ i → fc_W u i) ∧ ∀ j, j < N → (A 4 j).2.1 = 1 → op j = 9 → ar j = f → fc_W u j := by
    have Tk : fc_M N F op ar ow pa lo re fs gl bk kp L (rt_up (rt_up σ 34 f 1) 33 f (ft_c (ft_J A (ft_lv f (re f) (st (h - 1))) 3 f))) := T.keep ((rq_A.rf.up (by unfold fc_A; omega)).up (by unfold fc_A; omega))
    obtain ⟨u, w1, w2, w3, w4⟩ := fc_wake (o := 9) D0 Tk V (fun k hk => by rw [rq_c (by decide), rq_c (by decide)]; exact c5 k hk) (by decide)
    have far : ∀ c x, c ≠ 35 → ¬ (c = 34 ∧ x = f) → ¬ (c = 33 ∧ x = f) → u c x = σ c x := fun c x b1 b2 b3 => by
      rw [w2 c x b1, rq_if, if_neg b3, rq_if, if_neg b2]
    refine ⟨u, ?_, fun c x q => far c x (by unfold fc_A at q; omega) (by unfold fc_A at q; omega) (by unfold fc_A at q; omega), ⟨fun x hx => ?_, fun x hx => ?_, fun x hx => ?_, fun g hg => ?_, fun k hk => ?_, fun k hk hr => ?_, fun k hk => ?_, fun x hx => ?_, fun g i hg hi => ?_⟩, fun i hi q => ?_, fun j hj hr ho _ => w3 j hj hr ho⟩
    · unfold B_C_Foreteller_leave_55
      have w1' : M_C_Foreteller_wake (rt_up (rt_up σ 34 f 1) 33 f (ft_c (ft_J A (ft_lv f (re f) (st (h - 1))) 3 f))) 9 = some u := w1
      rw [rq_wr (n := 3) rfl (by omega) (by decide), rq_b, rq_wr (n := 3) rfl (by omega) (by decide), rq_b, w1', rq_b]
    · rw [far 36 x (by omega) (by omega) (by omega), oth 0 x ⟨by omega, by omega⟩]; exact c1 x hx
    · rw [far 37 x (by omega) (by omega) (by omega), oth 1 x ⟨by omega, by omega⟩]; exact c2 x hx
    · rw [far 32 x (by omega) (by omega) (by omega), oth 2 x ⟨by omega, by omega⟩]; exact c3 x hx
    · by_cases z : g = f
      · subst z
        rw [w2 33 g (by unfold fc_w35; omega), w2 34 g (by unfold fc_w35; omega), rq_s, rq_c (by decide), rq_s, n5]
        exact ⟨rfl, rfl⟩
      · rw [far 33 g (by omega) (by omega) (by omega), far 34 g (by omega) (by omega) (by omega), oth 3 g ⟨by omega, by omega⟩, oth 5 g ⟨by omega, by omega⟩]; exact c4 g hg
    · rw [far 30 k (by omega) (by omega) (by omega), oth 4 k ⟨by omega, by omega⟩]; exact c5 k hk
    · rw [oth 4 k ⟨by omega, by omega⟩] at hr
      rw [far 31 k (by omega) (by omega) (by omega)]; exact c6 k hk hr
    · rcases w4 k with q | q
      · rw [q, rq_c (by decide), rq_c (by decide), oth 4 k ⟨by omega, by omega⟩]; exact c7 k hk
      · rw [oth 4 k ⟨by omega, by omega⟩]; exact Or.inr q
    · rw [far 38 x (by omega) (by omega) (by omega)]; exact c8 x hx
    · exact c9 g i hg hi
    · unfold fc_W at q ⊢
      rcases w4 i with w | w
      · rw [w, rq_c (by decide), rq_c (by decide)]; exact q
      · exact w.1
  by_cases S : ft_J A (ft_lv f (re f) (st (h - 1))) 3 f = A 3 f ∧ ft_J A (ft_lv f (re f) (st (h - 1))) 5 f = A 5 f
  · have a5 : (A 5 f).2.1 = 1 := by rw [← S.2, n5]
    have e : ft_J A (ft_lv f (re f) (st (h - 1))) = A := funext fun c => funext fun x => by
      by_cases z3 : c = 3 ∧ x = f
      · obtain ⟨rfl, rfl⟩ := z3; exact S.1
      by_cases z5 : c = 5 ∧ x = f
      · obtain ⟨rfl, rfl⟩ := z5; exact S.2
      exact oth c x ⟨z3, z5⟩
    refine ⟨σ, P, ?_, rq_A.rf, ⟨T, V', by rw [e]; exact C0⟩, ft_E_lv V V' (by omega) (Or.inl ⟨S, fun _ _ => Iff.rfl⟩), trivial⟩
    rw [eq0]
    unfold B_C_Foreteller_leave_36
    rw [rq_rd (n := 3) rfl (by omega) (by decide), rq_b, e34, a5, if_neg (by decide), rq_rd (n := 3) rfl (by omega) (by decide), rq_b, e33, S.1, if_pos rfl]
  · obtain ⟨u, w1, w2, w3, w4, w5⟩ := e55
    refine ⟨u, P, ?_, w2, ⟨T.keep w2, V', w3⟩, ft_E_lv V V' (by omega) (Or.inr ⟨S, w4, w5⟩), trivial⟩
    rw [eq0]
    unfold B_C_Foreteller_leave_36
    rw [rq_rd (n := 3) rfl (by omega) (by decide), rq_b, e34, w1]
    by_cases z : (A 5 f).2.1 = 0
    · rw [if_pos (show nI (A 5 f).2.1 = 0 by rw [z]; rfl)]
    · rw [if_neg (nI_ne0 (by omega) (by omega)), rq_rd (n := 3) rfl (by omega) (by decide), rq_b, e33]
      by_cases y : ft_c (ft_J A (ft_lv f (re f) (st (h - 1))) 3 f) = ft_c (A 3 f)
      · exfalso
        refine S ⟨ft_c_inj (V'.1 3 f (by decide)) (V.1 3 f (by decide)) y, ?_⟩
        rw [n5]
        exact (Prod.ext fl.1 (Prod.ext (by show (A 5 f).2.1 = 1; omega) fl.2.2)).symm
      · rw [if_neg y]
end FCB
