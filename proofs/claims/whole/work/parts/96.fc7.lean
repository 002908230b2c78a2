/-! foretelling, the class: storing; any instruction -/
def fc_c32 (b i l c j : Nat) : Prop := ¬ (c = 32 ∧ b + i ≤ j ∧ j ≤ l)
section FCF
variable {N F a h m k o : Nat} {op ar ow pa lo re fs hs gl bk kp : Nat → Nat} {L : Nat → Prop} {A X Y Z : ft_S} {P st st' vr vr' ce : Nat → ft_G} {r v p q : ft_G} {σ u : rt_St}
theorem fc_stoL {b0 l n : Nat} (hr : ft_ok r) (hv : ft_ok v) (hl : l ≤ 15) (hb : b0 + n = l + 1) (hc : ∀ x, x < 16 → ft_ok (ce x)) : ∀ (d i fl m : Nat) (σ : rt_St), i + d = n → d + 1 ≤ m → fl < 2 → (∀ j, i ≤ j → j < n → σ 32 (b0 + j) = ft_c (ce (b0 + j))) → ∃ u f2, B_C_Foreteller_store_38 m (ft_c v) (ft_c r) (nI b0) (nI l) (nI fl) (nI (b0 + i)) σ = (if nI f2 = 0 then B_C_Foreteller_store_113 (nI b0) (nI l) u else (M_C_Foreteller_wake u 15).bind fun σ7 => B_C_Foreteller_store_113 (nI b0) (nI l) σ7) ∧ f2 < 2 ∧ rq_A (fc_c32 b0 i l) σ u ∧ (∀ j, i ≤ j → j < n → u 32 (b0 + j) = ft_c (ft_j (ce (b0 + j)) (ft_tt v r.2.2))) ∧ (f2 = 0 ↔ fl = 0 ∧ ∀ j, i ≤ j → j < n → ft_j (ce (b0 + j)) (ft_tt v r.2.2) = ce (b0 + j)) := by
  have hr' := hr
  unfold ft_ok at hr'
  intro d
  induction d with
  | zero =>
    intro i fl m σ hd hm hfl h1
    obtain ⟨m, rfl⟩ : ∃ q, m = q + 1 := ⟨m - 1, by omega⟩
    refine ⟨σ, fl, ?_, hfl, rq_A.rf, fun j j1 j2 => by omega, ⟨fun h => ⟨h, fun j j1 j2 => by omega⟩, fun h => h.1⟩⟩
    rw [B_C_Foreteller_store_38, if_pos (nI_lt (by omega) (by omega))]
  | succ d ih =>
    intro i fl m σ hd hm hfl h1
    obtain ⟨m, rfl⟩ : ∃ q, m = q + 1 := ⟨m - 1, by omega⟩
    have e1 := h1 i (Nat.le_refl _) (by omega)
    have vc := hc (b0 + i) (by omega)
    have vt := ft_tt_ok (t := r.2.2) hv (by omega)
    have step : ∀ f3 : Nat, f3 < 2 → (f3 = 0 ↔ fl = 0 ∧ ft_j (ce (b0 + i)) (ft_tt v r.2.2) = ce (b0 + i)) → B_C_Foreteller_store_38 (m + 1) (ft_c v) (ft_c r) (nI b0) (nI l) (nI fl) (nI (b0 + i)) σ = B_C_Foreteller_store_38 m (ft_c v) (ft_c r) (nI b0) (nI l) (nI f3) (nI (b0 + (i + 1))) (rt_up σ 32 (b0 + i) (ft_c (ft_j (ce (b0 + i)) (ft_tt v r.2.2)))) := fun f3 hf3 hiff => by
      have ad : ft_c v ||| nI (4096 * r.2.2) = ft_c (ft_tt v r.2.2) := ft_addt hv (by omega)
      rw [B_C_Foreteller_store_38, if_neg (nI_nlt (by omega) (by omega)), rq_rd (n := 16) rfl (by omega) (by decide), rq_b, e1, ft_taint hr, rq_b, ad, ft_join (Or.inr vc) (Or.inr vt), rq_b]
      unfold B_C_Foreteller_store_80 B_C_Foreteller_store_85
      by_cases y : fl = 0
      · rw [if_pos (show nI fl = 0 by rw [y]; rfl), rq_b]
        by_cases z : ft_j (ce (b0 + i)) (ft_tt v r.2.2) = ce (b0 + i)
        · rw [if_pos (show ft_c (ft_j (ce (b0 + i)) (ft_tt v r.2.2)) = ft_c (ce (b0 + i)) by rw [z]), rq_wr (n := 16) rfl (by omega) (by decide), rq_b, nI_1, hiff.mpr ⟨y, z⟩]
          rfl
        · rw [if_neg (fun e => z (ft_c_inj (ft_v_j (Or.inr vc) (Or.inr vt)) (Or.inr vc) e)), rq_wr (n := 16) rfl (by omega) (by decide), rq_b, nI_1, show f3 = 1 by
            have : f3 ≠ 0 := fun e => z (hiff.mp e).2
            omega]
          rfl
      · rw [if_neg (nI_ne0 (by omega) (by omega)), rq_wr (n := 16) rfl (by omega) (by decide), rq_b, nI_1, show f3 = 1 by
            have : f3 ≠ 0 := fun e => y (hiff.mp e).1
            omega]
        rfl
    obtain ⟨f3, f3a, f3b⟩ : ∃ f3 : Nat, f3 < 2 ∧ (f3 = 0 ↔ fl = 0 ∧ ft_j (ce (b0 + i)) (ft_tt v r.2.2) = ce (b0 + i)) := by
      by_cases y : fl = 0 ∧ ft_j (ce (b0 + i)) (ft_tt v r.2.2) = ce (b0 + i)
      · exact ⟨0, by decide, ⟨fun _ => y, fun _ => rfl⟩⟩
      · exact ⟨1, by decide, ⟨fun e => absurd e (by decide), fun e => absurd e y⟩⟩
    obtain ⟨u, f2, q1, q2, q3, q4, q5⟩ := ih (i + 1) f3 m (rt_up σ 32 (b0 + i) (ft_c (ft_j (ce (b0 + i)) (ft_tt v r.2.2)))) (by omega) (by omega) f3a (fun j j1 j2 => by rw [rq_k (by omega)]; exact h1 j (by omega) j2)
    refine ⟨u, f2, (step f3 f3a f3b).trans q1, q2, (rq_A.rf.up (by unfold fc_c32; omega)).tr (q3.mono (fun c j w => by unfold fc_c32 at w; unfold fc_c32; omega)), fun j j1 j2 => ?_, ⟨fun e => ?_, fun e => ?_⟩⟩
    · by_cases w : j = i
      · subst w; rw [q3 32 _ (by unfold fc_c32; omega), rq_s]
      · exact q4 j (by omega) j2
    · obtain ⟨e1, e2⟩ := q5.mp e
      obtain ⟨e3, e4⟩ := f3b.mp e1
      refine ⟨e3, fun j j1 j2 => ?_⟩
      by_cases w : j = i
      · rw [w]; exact e4
      · exact e2 j (by omega) j2
    · exact q5.mpr ⟨f3b.mpr ⟨e.1, e.2 i (Nat.le_refl _) (by omega)⟩, fun j j1 j2 => e.2 j (by omega) j2⟩
theorem fc_store (D : md_A F N op ar ow pa lo re fs hs gl bk kp L) (G : fc_G N F op ar ow pa lo re fs hs gl bk kp L A Z P σ) (K : fc_K (m + 1 + 1) st vr σ) (hm : m + 1 < 10) (ha : a < 64) (hr : ft_ok (st m)) (hv : ft_ok (st (m + 1))) : ∃ u, M_C_Foreteller_store σ (nI a) = some (if (st m).1 + a < 16 then 1 else 0, u) ∧ rq_A fc_A σ u ∧ fc_G N F op ar ow pa lo re fs hs gl bk kp L (ft_J A (ft_sto a (st m) (st (m + 1)))) Z P u ∧ ft_E N op ar A (fc_W σ) (ft_J A (ft_sto a (st m) (st (m + 1)))) (fc_W u) ∧ fc_K m st vr u := by
  obtain ⟨p1, p2⟩ := fc_pop K hm
  obtain ⟨p3, p4⟩ := fc_pop p2 (by omega)
  have hr' := hr
  unfold ft_ok at hr'
  obtain ⟨T, V, C⟩ := G
  have uu := V.u
  obtain ⟨σ3, hσ3⟩ : ∃ w, w = rt_up (rt_up σ 29 12 (nI (m + 1))) 29 12 (nI m) := ⟨_, rfl⟩
  rw [← hσ3] at p3 p4
  have A1 : rq_A fc_A σ σ3 := by rw [hσ3]; exact (rq_A.rf.up (by unfold fc_A; omega)).up (by unfold fc_A; omega)
  have S1 : ∀ c i, 30 ≤ c → c ≤ 38 → σ3 c i = σ c i := fun c i c1 c2 => by rw [hσ3, rq_c (by omega), rq_c (by omega)]
  have C3 := C.keep S1
  have T3 := T.keep A1
  have V' := V.sto (a := a) hr hv
  have eq0 : M_C_Foreteller_store σ (nI a) = B_C_Foreteller_store_38 FU (ft_c (st (m + 1))) (ft_c (st m)) (nI ((st m).1 + a)) (nI (min ((st m).2.1 + a) 15)) 0 (nI ((st m).1 + a)) σ3 := by
    unfold M_C_Foreteller_store
    rw [p1, rq_b2, p3, rq_b2, ft_least hr, rq_b, ft_great hr, rq_b, nI_add, nI_add, show (15 : Int32) = nI 15 from rfl, ft_min (by omega) (by omega)]
  by_cases z : (st m).1 + a < 16
  · obtain ⟨u, f2, q1, q2, q3, q4, q5⟩ := fc_stoL (ce := A 2) (b0 := (st m).1 + a) (l := min ((st m).2.1 + a) 15) (n := min ((st m).2.1 + a) 15 + 1 - ((st m).1 + a)) hr hv (by omega) (by omega) V.2.2.1 (min ((st m).2.1 + a) 15 + 1 - ((st m).1 + a)) 0 0 FU σ3 (by omega) (by show min ((st m).2.1 + a) 15 + 1 - ((st m).1 + a) + 1 ≤ 2000000; omega) (by decide) (fun j _ hj => C3.2.2.1 _ (by omega))
    have a2 : ∀ x, x < 16 → ft_J A (ft_sto a (st m) (st (m + 1))) 2 x = if (st m).1 + a ≤ x ∧ x ≤ (st m).2.1 + a then ft_j (A 2 x) (ft_tt (st (m + 1)) (st m).2.2) else A 2 x := fun x hx => by
      show ft_j (A 2 x) (ft_sto a (st m) (st (m + 1)) 2 x) = _
      unfold ft_sto
      by_cases y : (st m).1 + a ≤ x ∧ x ≤ (st m).2.1 + a
      · rw [if_pos ⟨rfl, y.1, y.2, hx⟩, if_pos y]
      · rw [if_neg (fun q => y ⟨q.2.1, q.2.2.1⟩), if_neg y, ft_j_bot (uu 2 x).1]
    have ao : ∀ c x, c ≠ 2 → ft_J A (ft_sto a (st m) (st (m + 1))) c x = A c x := fun c x hc => by
      show ft_j (A c x) (ft_sto a (st m) (st (m + 1)) c x) = _
      rw [ft_sto_o (fun q => hc q.1), ft_j_bot (uu c x).1]
    have far : ∀ c x, c ≠ 32 → u c x = σ3 c x := fun c x hc => q3 c x (by unfold fc_c32; omega)
    obtain ⟨c1, c2, c3, c4, c5, c6, c7, c8, c9⟩ := C3
    have u32 : ∀ x, x < 16 → u 32 x = ft_c (ft_J A (ft_sto a (st m) (st (m + 1))) 2 x) := fun x hx => by
      rw [a2 x hx]
      by_cases y : (st m).1 + a ≤ x ∧ x ≤ (st m).2.1 + a
      · have w := q4 (x - ((st m).1 + a)) (by omega) (by omega)
        rw [show (st m).1 + a + (x - ((st m).1 + a)) = x by omega] at w
        rw [if_pos y]; exact w
      · rw [if_neg y, q3 32 x (by unfold fc_c32; omega)]; exact c3 x hx
    have Cu : fc_P N F pa fs hs (ft_J A (ft_sto a (st m) (st (m + 1)))) Z P u := by
      refine ⟨fun x hx => ?_, fun x hx => ?_, u32, fun g hg => ?_, fun q hq => ?_, fun q hq hr => ?_, fun q hq => ?_, fun x hx => ?_, c9⟩
      · rw [far 36 x (by decide), ao 0 x (by decide)]; exact c1 x hx
      · rw [far 37 x (by decide), ao 1 x (by decide)]; exact c2 x hx
      · rw [far 33 g (by decide), far 34 g (by decide), ao 3 g (by decide), ao 5 g (by decide)]; exact c4 g hg
      · rw [far 30 q (by decide), ao 4 q (by decide)]; exact c5 q hq
      · rw [ao 4 q (by decide)] at hr
        rw [far 31 q (by decide)]; exact c6 q hq hr
      · rw [far 35 q (by decide), ao 4 q (by decide)]; exact c7 q hq
      · rw [far 38 x (by decide)]; exact c8 x hx
    have Au : rq_A fc_A σ u := A1.tr (fun c x w => far c x (by unfold fc_A at w; omega))
    have Ku : fc_K m st vr u := by
      obtain ⟨k1, k2, k3⟩ := p4
      exact ⟨by rw [far 29 12 (by decide)]; exact k1, fun i hi => by rw [far 39 i (by decide)]; exact k2 i hi, fun i hi => by rw [far 40 i (by decide)]; exact k3 i hi⟩
    have W0 : ∀ i, fc_W u i ↔ fc_W σ i := fun i => by unfold fc_W; rw [far 35 i (by decide), S1 35 i (by decide) (by decide)]
    have same : (∀ x, x < 16 → ft_J A (ft_sto a (st m) (st (m + 1))) 2 x = A 2 x) ↔ f2 = 0 := by
      rw [q5]
      constructor
      · intro w
        refine ⟨rfl, fun j _ j2 => ?_⟩
        have w1 := w ((st m).1 + a + j) (by omega)
        rw [a2 _ (by omega), if_pos (by omega)] at w1
        exact w1
      · rintro ⟨-, w⟩ x hx
        rw [a2 x hx]
        by_cases y : (st m).1 + a ≤ x ∧ x ≤ (st m).2.1 + a
        · have w1 := w (x - ((st m).1 + a)) (by omega) (by omega)
          rw [show (st m).1 + a + (x - ((st m).1 + a)) = x by omega] at w1
          rw [if_pos y]; exact w1
        · rw [if_neg y]
    have e113 : ∀ w : rt_St, B_C_Foreteller_store_113 (nI ((st m).1 + a)) (nI (min ((st m).2.1 + a) 15)) w = some (1, w) := fun w => by
      unfold B_C_Foreteller_store_113
      rw [if_neg (nI_nlt (by omega) (by omega))]
    have q1' : M_C_Foreteller_store σ (nI a) = _ := eq0.trans q1
    rw [if_pos z]
    by_cases y : f2 = 0
    · rw [if_pos (show nI f2 = 0 by rw [y]; rfl), e113] at q1'
      exact ⟨u, q1', Au, ⟨T.keep Au, V', Cu⟩, ft_E_sto V V' (Or.inl ⟨same.mpr y, fun i _ => W0 i⟩), Ku⟩
    · obtain ⟨w, w1, w2, w3, w4⟩ := fc_wake (o := 15) (A := ft_J A (ft_sto a (st m) (st (m + 1)))) D (T.keep Au) V' Cu.2.2.2.2.1 (by decide)
      have w1' : M_C_Foreteller_wake u 15 = some w := w1
      rw [if_neg (nI_ne0 (by omega) (by omega)), w1', rq_b, e113] at q1'
      have Aw : rq_A fc_A u w := fun c x g => w2 c x (by unfold fc_w35; unfold fc_A at g; omega)
      refine ⟨w, q1', Au.tr Aw, ⟨T.keep (Au.tr Aw), V', ?_⟩, ft_E_sto V V' (Or.inr ⟨fun g => y (same.mp g), fun i _ g => ?_, fun j hj hr ho => ?_⟩), ?_⟩
      · obtain ⟨d1, d2, d3, d4, d5, d6, d7, d8, d9⟩ := Cu
        refine ⟨fun x hx => by rw [w2 36 x (by unfold fc_w35; omega)]; exact d1 x hx, fun x hx => by rw [w2 37 x (by unfold fc_w35; omega)]; exact d2 x hx, fun x hx => by rw [w2 32 x (by unfold fc_w35; omega)]; exact d3 x hx, fun g hg => by rw [w2 33 g (by unfold fc_w35; omega), w2 34 g (by unfold fc_w35; omega)]; exact d4 g hg, fun q hq => by rw [w2 30 q (by unfold fc_w35; omega)]; exact d5 q hq, fun q hq hr => by rw [w2 31 q (by unfold fc_w35; omega)]; exact d6 q hq hr, fun q hq => ?_, fun x hx => by rw [w2 38 x (by unfold fc_w35; omega)]; exact d8 x hx, d9⟩
        rcases w4 q with g | g
        · rw [g]; exact d7 q hq
        · exact Or.inr g
      · have g' := (W0 i).mpr g
        unfold fc_W at g' ⊢
        rcases w4 i with e | e
        · rw [e]; exact g'
        · exact e.1
      · exact w3 j hj (by rw [ao 4 j (by decide)]; exact hr) ho
      · obtain ⟨k1, k2, k3⟩ := Ku
        exact ⟨by rw [w2 29 12 (by unfold fc_w35; omega)]; exact k1, fun i hi => by rw [w2 39 i (by unfold fc_w35; omega)]; exact k2 i hi, fun i hi => by rw [w2 40 i (by unfold fc_w35; omega)]; exact k3 i hi⟩
  · have e0 : ft_J A (ft_sto a (st m) (st (m + 1))) = A := funext fun c => funext fun x => by
      show ft_j (A c x) (ft_sto a (st m) (st (m + 1)) c x) = _
      unfold ft_sto
      rw [if_neg (by omega), ft_j_bot (uu c x).1]
    refine ⟨σ3, ?_, A1, ?_, ?_, p4⟩
    · rw [eq0, if_neg z]
      show B_C_Foreteller_store_38 (1999999 + 1) _ _ _ _ _ _ _ = _
      rw [B_C_Foreteller_store_38, if_pos (nI_lt (by omega) (by omega)), if_pos rfl]
      unfold B_C_Foreteller_store_113
      rw [if_pos (nI_lt (by omega) (by omega))]
    · rw [e0]; exact ⟨T3, V, C3⟩
    · rw [e0]
      exact (ft_E.rf (W := fc_W σ3)).wk (fun i _ => by unfold fc_W; rw [S1 35 i (by decide) (by decide)])
end FCF
