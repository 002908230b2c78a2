/-! foretelling: growth of what a function gives, and of the cells -/
section FTC
variable {F N k : Nat} {op ar ow pa lo re fs hs gl bk kp : Nat → Nat} {L : Nat → Prop} {A A1 A2 B : ft_S} {W W1 W2 : Nat → Prop} {r v : ft_G} {f a : Nat}
theorem ft_lv_o {rg c x : Nat} (h : ¬ (c = 3 ∧ x = f) ∧ ¬ (c = 5 ∧ x = f)) : ft_lv f rg v c x = ft_bot := by
  unfold ft_lv
  rw [if_neg (fun q => h.1 ⟨q.1, q.2.1⟩), if_neg h.2]
theorem ft_lv_3 {rg : Nat} : ft_lv f rg v 3 f = if rg = 1 then v else ft_bot := by
  unfold ft_lv
  by_cases z : rg = 1
  · rw [if_pos ⟨rfl, rfl, z⟩, if_pos z]
  · rw [if_neg (fun q => z q.2.2), if_neg (fun q => absurd q.1 (by decide)), if_neg z]
theorem ft_lv_5 {rg : Nat} : ft_lv f rg v 5 f = (0, 1, 0) := by
  unfold ft_lv
  rw [if_neg (fun q => absurd q.1 (by decide)), if_pos ⟨rfl, rfl⟩]
theorem ft_V.lv (H : ft_V F N ow pa lo re fs hs L A) (hv : re f = 1 → ft_ok v) : ft_V F N ow pa lo re fs hs L (ft_J A (ft_lv f (re f) v)) := by
  have u := H.u
  obtain ⟨a1, a2, a3, a4, a5, a6⟩ := H
  have oth : ∀ c x, ¬ (c = 3 ∧ x = f) ∧ ¬ (c = 5 ∧ x = f) → ft_J A (ft_lv f (re f) v) c x = A c x := fun c x h => by
    show ft_j (A c x) (ft_lv f (re f) v c x) = _
    rw [ft_lv_o h, ft_j_bot (u c x).1]
  have v3 : ft_v (ft_J A (ft_lv f (re f) v) 3 f) := by
    show ft_v (ft_j (A 3 f) (ft_lv f (re f) v 3 f))
    rw [ft_lv_3]
    by_cases z : re f = 1
    · rw [if_pos z]; exact ft_v_j (a1 3 f (by decide)) (Or.inr (hv z))
    · rw [if_neg z]; exact ft_v_j (a1 3 f (by decide)) (Or.inl rfl)
  refine ⟨fun c x hc => ?_, fun c x hc => ?_, fun x hx => ?_, fun k hk => ?_, fun g hg h5 hr => ?_, fun g hg h4 i i1 i2 => ?_⟩
  · by_cases z : c = 3 ∧ x = f
    · obtain ⟨rfl, rfl⟩ := z; exact v3
    · rw [oth c x ⟨z, fun q => by omega⟩]; exact a1 c x hc
  · by_cases z : c = 5 ∧ x = f
    · obtain ⟨rfl, rfl⟩ := z
      have q := a2 5 x hc
      show (ft_j (A 5 x) (ft_lv x (re x) v 5 x)).1 = 0 ∧ (ft_j (A 5 x) (ft_lv x (re x) v 5 x)).2.1 ≤ 1 ∧ (ft_j (A 5 x) (ft_lv x (re x) v 5 x)).2.2 = 0
      rw [ft_lv_5]; unfold ft_j; dsimp only; omega
    · rw [oth c x ⟨fun q => by omega, z⟩]; exact a2 c x hc
  · rw [oth 2 x ⟨fun q => by omega, fun q => by omega⟩]; exact a3 x hx
  · have e : ∀ c x, c = 0 ∨ c = 1 ∨ c = 4 → ft_J A (ft_lv f (re f) v) c x = A c x := fun c x h => oth c x ⟨fun q => by omega, fun q => by omega⟩
    rw [e 4 k (by decide)]
    rcases a4 k hk with ⟨b1, b2, b3⟩ | ⟨b1, b2, b3, b4⟩
    · exact Or.inl ⟨b1, fun i hi => by rw [e 0 _ (by decide)]; exact b2 i hi, fun i hi => by rw [e 1 _ (by decide)]; exact b3 i hi⟩
    · exact Or.inr ⟨b1, b2, fun i hi => by rw [e 0 _ (by decide)]; exact b3 i hi, fun i hi => by rw [e 1 _ (by decide)]; exact b4 i hi⟩
  · by_cases z : g = f
    · subst z
      refine ft_ok_up (hv hr) v3 ?_
      have q : ft_le (ft_lv g (re g) v 3 g) (ft_j (A 3 g) (ft_lv g (re g) v 3 g)) := ft_j_r
      rw [ft_lv_3, if_pos hr] at q
      show ft_le v (ft_j (A 3 g) (ft_lv g (re g) v 3 g))
      rw [ft_lv_3, if_pos hr]; exact q
    · rw [oth 5 g ⟨fun q => by omega, fun q => z q.2⟩] at h5
      rw [oth 3 g ⟨fun q => z q.2, fun q => by omega⟩]; exact a5 g hg h5 hr
  · rw [oth 4 _ ⟨fun q => by omega, fun q => by omega⟩] at h4
    rw [oth 1 _ ⟨fun q => by omega, fun q => by omega⟩]; exact a6 g hg h4 i i1 i2
theorem ft_E_lv (H : ft_V F N ow pa lo re fs hs L A) (H' : ft_V F N ow pa lo re fs hs L (ft_J A (ft_lv f (re f) v))) (hf : f < 3) (hw : ((ft_J A (ft_lv f (re f) v) 3 f = A 3 f ∧ ft_J A (ft_lv f (re f) v) 5 f = A 5 f) ∧ ∀ i, i < N → (W1 i ↔ W i)) ∨ (¬ (ft_J A (ft_lv f (re f) v) 3 f = A 3 f ∧ ft_J A (ft_lv f (re f) v) 5 f = A 5 f) ∧ (∀ i, i < N → W i → W1 i) ∧ ∀ j, j < N → (A 4 j).2.1 = 1 → op j = 9 → ar j = f → W1 j)) : ft_E N op ar A W (ft_J A (ft_lv f (re f) v)) W1 := by
  have u := H.u
  have oth : ∀ c x, ¬ (c = 3 ∧ x = f) ∧ ¬ (c = 5 ∧ x = f) → ft_J A (ft_lv f (re f) v) c x = A c x := fun c x h => by
    show ft_j (A c x) (ft_lv f (re f) v c x) = _
    rw [ft_lv_o h, ft_j_bot (u c x).1]
  have sm : ∀ j, ft_sm A (ft_J A (ft_lv f (re f) v)) j := fun j => ⟨oth _ _ ⟨fun q => by omega, fun q => by omega⟩, fun i _ => oth _ _ ⟨fun q => by omega, fun q => by omega⟩, fun i _ => oth _ _ ⟨fun q => by omega, fun q => by omega⟩⟩
  refine ⟨ft_J_l, fun i hi h => ?_, fun i _ _ => sm i, Or.inl (fun x _ => oth 2 x ⟨fun q => by omega, fun q => by omega⟩), fun g => ?_, ?_⟩
  · rcases hw with ⟨-, w⟩ | ⟨-, w, -⟩
    · exact (w i hi).mpr h
    · exact w i hi h
  · by_cases z : g = f
    · subst z
      rcases hw with ⟨w, -⟩ | ⟨-, -, w⟩
      · exact Or.inl w
      · exact Or.inr w
    · exact Or.inl ⟨oth 3 g ⟨fun q => z q.2, fun q => by omega⟩, oth 5 g ⟨fun q => by omega, fun q => z q.2⟩⟩
  · rcases hw with ⟨w0, w⟩ | ⟨w0, -⟩
    · refine Or.inl ⟨funext fun c => funext fun x => ?_, fun i hi h => (w i hi).mp h⟩
      by_cases z3 : c = 3 ∧ x = f
      · obtain ⟨rfl, rfl⟩ := z3; exact w0.1
      by_cases z5 : c = 5 ∧ x = f
      · obtain ⟨rfl, rfl⟩ := z5; exact w0.2
      exact oth c x ⟨z3, z5⟩
    · right
      have hv : ∀ c x, (ft_J A (ft_lv f (re f) v) c x).2.1 ≤ 64 ∧ (ft_J A (ft_lv f (re f) v) c x).2.2 ≤ 1 := fun c x => (H'.u c x).2
      by_cases n3 : A 3 f = ft_J A (ft_lv f (re f) v) 3 f
      · by_cases n5 : A 5 f = ft_J A (ft_lv f (re f) v) 5 f
        · exact absurd ⟨n3.symm, n5.symm⟩ w0
        · exact ft_mu_lt ft_J_l hv (Or.inr (Or.inr (Or.inr (Or.inr (Or.inr ⟨rfl, hf⟩))))) n5
      · exact ft_mu_lt ft_J_l hv (Or.inr (Or.inr (Or.inr (Or.inl ⟨rfl, hf⟩)))) n3
theorem ft_sto_o {c x : Nat} (h : ¬ (c = 2 ∧ x < 16)) : ft_sto a r v c x = ft_bot := by
  unfold ft_sto
  rw [if_neg (fun q => h ⟨q.1, q.2.2.2⟩)]
theorem ft_V.sto (H : ft_V F N ow pa lo re fs hs L A) (hr : ft_ok r) (hv : ft_ok v) : ft_V F N ow pa lo re fs hs L (ft_J A (ft_sto a r v)) := by
  have u := H.u
  obtain ⟨a1, a2, a3, a4, a5, a6⟩ := H
  have oth : ∀ c x, ¬ (c = 2 ∧ x < 16) → ft_J A (ft_sto a r v) c x = A c x := fun c x h => by
    show ft_j (A c x) (ft_sto a r v c x) = _
    rw [ft_sto_o h, ft_j_bot (u c x).1]
  have c2 : ∀ x, x < 16 → ft_ok (ft_J A (ft_sto a r v) 2 x) := fun x hx => by
    show ft_ok (ft_j (A 2 x) (ft_sto a r v 2 x))
    unfold ft_sto
    by_cases z : 2 = 2 ∧ r.1 + a ≤ x ∧ x ≤ r.2.1 + a ∧ x < 16
    · rw [if_pos z]; exact ft_j_ok (a3 x hx) (ft_tt_ok hv (by unfold ft_ok at hr; omega))
    · rw [if_neg z, ft_j_bot (u 2 x).1]; exact a3 x hx
  refine ⟨fun c x hc => ?_, fun c x hc => ?_, c2, fun k hk => ?_, fun g hg h5 hr => ?_, fun g hg h4 i i1 i2 => ?_⟩
  · by_cases z : c = 2 ∧ x < 16
    · obtain ⟨rfl, z⟩ := z; exact Or.inr (c2 x z)
    · rw [oth c x z]; exact a1 c x hc
  · rw [oth c x (fun q => by omega)]; exact a2 c x hc
  · have e : ∀ c x, c = 0 ∨ c = 1 ∨ c = 4 → ft_J A (ft_sto a r v) c x = A c x := fun c x h => oth c x (fun q => by omega)
    rw [e 4 k (by decide)]
    rcases a4 k hk with ⟨b1, b2, b3⟩ | ⟨b1, b2, b3, b4⟩
    · exact Or.inl ⟨b1, fun i hi => by rw [e 0 _ (by decide)]; exact b2 i hi, fun i hi => by rw [e 1 _ (by decide)]; exact b3 i hi⟩
    · exact Or.inr ⟨b1, b2, fun i hi => by rw [e 0 _ (by decide)]; exact b3 i hi, fun i hi => by rw [e 1 _ (by decide)]; exact b4 i hi⟩
  · rw [oth 5 g (fun q => by omega)] at h5
    rw [oth 3 g (fun q => by omega)]; exact a5 g hg h5 hr
  · rw [oth 4 _ (fun q => by omega)] at h4
    rw [oth 1 _ (fun q => by omega)]; exact a6 g hg h4 i i1 i2
theorem ft_E_sto (H : ft_V F N ow pa lo re fs hs L A) (H' : ft_V F N ow pa lo re fs hs L (ft_J A (ft_sto a r v))) (hw : ((∀ x, x < 16 → ft_J A (ft_sto a r v) 2 x = A 2 x) ∧ ∀ i, i < N → (W1 i ↔ W i)) ∨ (¬ (∀ x, x < 16 → ft_J A (ft_sto a r v) 2 x = A 2 x) ∧ (∀ i, i < N → W i → W1 i) ∧ ∀ j, j < N → (A 4 j).2.1 = 1 → op j = 15 → W1 j)) : ft_E N op ar A W (ft_J A (ft_sto a r v)) W1 := by
  have u := H.u
  have oth : ∀ c x, ¬ (c = 2 ∧ x < 16) → ft_J A (ft_sto a r v) c x = A c x := fun c x h => by
    show ft_j (A c x) (ft_sto a r v c x) = _
    rw [ft_sto_o h, ft_j_bot (u c x).1]
  have sm : ∀ j, ft_sm A (ft_J A (ft_sto a r v)) j := fun j => ⟨oth _ _ (fun q => by omega), fun i _ => oth _ _ (fun q => by omega), fun i _ => oth _ _ (fun q => by omega)⟩
  refine ⟨ft_J_l, fun i hi h => ?_, fun i _ _ => sm i, ?_, fun g => Or.inl ⟨oth 3 g (fun q => by omega), oth 5 g (fun q => by omega)⟩, ?_⟩
  · rcases hw with ⟨-, w⟩ | ⟨-, w, -⟩
    · exact (w i hi).mpr h
    · exact w i hi h
  · rcases hw with ⟨w, -⟩ | ⟨-, -, w⟩
    · exact Or.inl w
    · exact Or.inr w
  · rcases hw with ⟨w0, w⟩ | ⟨w0, -⟩
    · refine Or.inl ⟨funext fun c => funext fun x => ?_, fun i hi h => (w i hi).mp h⟩
      by_cases z : c = 2 ∧ x < 16
      · obtain ⟨rfl, z⟩ := z; exact w0 x z
      · exact oth c x z
    · right
      have hv : ∀ c x, (ft_J A (ft_sto a r v) c x).2.1 ≤ 64 ∧ (ft_J A (ft_sto a r v) c x).2.2 ≤ 1 := fun c x => (H'.u c x).2
      obtain ⟨x, hx⟩ := Classical.not_forall.mp w0
      obtain ⟨x16, hne⟩ := Classical.not_imp.mp hx
      exact ft_mu_lt ft_J_l hv (Or.inr (Or.inr (Or.inl ⟨rfl, x16⟩))) (fun e => hne e.symm)
end FTC
