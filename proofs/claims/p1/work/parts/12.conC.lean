set_option maxHeartbeats 4000000 in
set_option maxRecDepth 100000 in
theorem k_C_Foreteller_follow (l : Launch) (D : va_G) (cI cZ : ClassId) (A : Nat → Nat) (hO : rt_Ok (rtC_W cI cZ A)) (σ : rt_St) (a1 : Int32) (σ' : rt_St) (hm : M_C_Foreteller_follow σ a1 = some σ') (sz : Nat) : Met l y_Foreteller_follow (rt_ws y_Foreteller_follow b_Foreteller_follow 2 none) ({ frames := 5, cells := 0, slots := 0, locals := 121 } : Room) (va_Pc [.ref (A 29), .int a1] (rt_P D rt_cl (rt_t cI cZ) rtC_X (rtC_W cI cZ A) sz σ)) (va_Qv (fun u1 => u1 = σ') (rt_B D rt_cl (rt_t cI cZ) rtC_X (rtC_W cI cZ A)) (rt_A (rtC_W cI cZ A) sz)) 0 0 (rt_A (rtC_W cI cZ A) sz) := by
  refine Met.ofW (cc := b_Foreteller_follow) (maxL := 2) (ret := none) (by decide) rfl ?_
  intro p e s m args below meth c s₁ B hml hv
  obtain ⟨rfl, rfl, hP, hK, hX⟩ := hv
  have hx := B.exec
  have hb := B.bytes
  have hr := B.returns
  have hts := atoms_spec (ws := (rt_ws y_Foreteller_follow b_Foreteller_follow 2 none)) B.pre
  have hown : s.vm.findClass "RangeTeller$Foreteller" = some m.cls := findClass_of_methodNamed B.named
  have hlocks := B.notSynchronized
  have hD := rt_hD hO s.heap.size
  have hS : va_S (rt_A (rtC_W cI cZ A) s.heap.size) s.heap s.heap [] := va_S.rf
  have hl := lv_entry ([.ref (A 29), .int a1]) (n := 2) (Nat.le_of_ble_eq_true rfl)
  rw [lg_entry_eq]
  generalize (lg_sl ([.ref (A 29), .int a1]) ++ List.replicate (2 - (lg_sl ([.ref (A 29), .int a1])).length) Slot.unset).toArray = ls at hl ⊢
  have hl : lv_has ls 2 [(0, .ref (A 29)), (1, .int a1)] := hl
  show W p l e ({ frames := 5, cells := 0, slots := 0, locals := 121 } : Room) s m ([.ref (A 29), .int a1] : List Value).toArray below meth c s.heap [] 0 0 (rt_Qv D rt_cl (rt_t cI cZ) rtC_X (rtC_W cI cZ A) below ([.ref (A 29), .int a1] : List Value).toArray s σ') (F0 m 0 ls [])
  have hB97 : ∀ (ls : Array Slot) (t0 t1 : Int32) (σ : rt_St) (H : Heap) (locs : List Loc), lv_has ls 2 [] → B_C_Foreteller_follow_97 t0 t1 σ = some σ' → va_P D rt_cl (rtC_W cI cZ A σ) H → va_S (rt_A (rtC_W cI cZ A) s.heap.size) s.heap H locs → W p l e ({ frames := 5, cells := 0, slots := 0, locals := 121 } : Room) s m ([.ref (A 29), .int a1] : List Value).toArray below meth c H locs 0 0 (rt_Qv D rt_cl (rt_t cI cZ) rtC_X (rtC_W cI cZ A) below ([.ref (A 29), .int a1] : List Value).toArray s σ') (F0 m 97 ls [.int t0, .int t1, .ref (A 29)]) := by
    intro ls t0 t1 σ H locs hl hm hP hS
    unfold B_C_Foreteller_follow_97 at hm
    obtain ⟨σ2, h1, hm⟩ := rt_b1s hm
    refine rt_cvv (As := [.int t1, .int t0]) (rest := []) (k := 29) rtC_Xo ⟨hx, hb, hml, hown, hts⟩ (k_C_Foreteller_fork l D cI cZ A hO σ t1 t0 _ h1) (cw_Foreteller_fork hts (hts _ (rt_m rt_w579)) ⟨Nat.le_of_ble_eq_true rfl, Nat.le_of_ble_eq_true rfl⟩) hK hP hS hX rfl rfl rfl hl.1 rfl (Nat.le_of_ble_eq_true rfl) d_Foreteller_follow_97 ⟨Nat.zero_le _, Nat.zero_le _⟩ (fun H locs hP hS => ?_)
    refine lv_goto (tgt := 160) hx hb d_Foreteller_follow_100 (by decide) ?_
    exact W.vret hx hb hr (fun t ht hW => ⟨⟨_, rfl, Option.some.inj hm, rt_end rtC_Xo hK hP hS hX ht hW⟩, hS.F ht⟩) hS.2.2 d_Foreteller_follow_160
  unfold M_C_Foreteller_follow at hm
  refine lv_aload_n hx hb d_Foreteller_follow_0 rfl (lv_at hl 0 rfl) ?_
  refine va_get (D := D) (v := .ref (A 1)) (C := "RangeTeller$Foreteller") (T := rt_T5) (N := 13) hx hb hts rt_i5 hown hK hP 29 rfl rfl 0 (by decide) (hts _ (rt_m rt_w333)) (fun _ h9 => h9) rfl d_Foreteller_follow_1 ?_
  refine va_get (D := D) (v := .ref (A 2)) (C := "RangeTeller$Program") (T := rt_T1) (N := 14) hx hb hts rt_i1 hown hK hP 1 rfl rfl 0 (by decide) (hts _ (rt_m rt_w121)) (fun _ h9 => h9) rfl d_Foreteller_follow_4 ?_
  refine lv_iload_n hx hb d_Foreteller_follow_7 rfl (lv_at hl 1 rfl) ?_
  obtain ⟨v3, h4, hm⟩ := rt_b1s hm
  refine rt_ald hx hb hK hP 2 0 rfl rfl h4 d_Foreteller_follow_8 ?_
  by_cases c5 : v3 = 0
  · have hm := (if_pos c5).symm.trans hm
    refine lv_tableIn (off := 55) (tgt := 64) hx hb d_Foreteller_follow_9 (by rw [c5]; decide) (by rw [c5]; decide) (by rw [c5]; rfl) (by decide) ?_
    refine lv_goto (tgt := 160) hx hb d_Foreteller_follow_64 (by decide) ?_
    exact W.vret hx hb hr (fun t ht hW => ⟨⟨_, rfl, Option.some.inj hm, rt_end rtC_Xo hK hP hS hX ht hW⟩, hS.F ht⟩) hS.2.2 d_Foreteller_follow_160
  have hm := (if_neg c5).symm.trans hm
  by_cases c6 : v3 = 1
  · have hm := (if_pos c6).symm.trans hm
    refine lv_tableIn (off := 58) (tgt := 67) hx hb d_Foreteller_follow_9 (by rw [c6]; decide) (by rw [c6]; decide) (by rw [c6]; rfl) (by decide) ?_
    refine lv_aload_n hx hb d_Foreteller_follow_67 rfl (lv_at hl 0 rfl) ?_
    refine lv_iload_n hx hb d_Foreteller_follow_68 rfl (lv_at hl 1 rfl) ?_
    refine lv_iconst (v := 1) hx hb d_Foreteller_follow_69 (by decide) ?_
    refine lv_iadd hx hb d_Foreteller_follow_70 ?_
    obtain ⟨σ8, h7, hm⟩ := rt_b1s hm
    refine rt_cvv (As := [.int (a1 + 1)]) (rest := []) (k := 29) rtC_Xo ⟨hx, hb, hml, hown, hts⟩ (k_C_Foreteller_arrive l D cI cZ A hO σ (a1 + 1) _ h7) (cw_Foreteller_arrive hts (hts _ (rt_m rt_w556)) ⟨Nat.le_of_ble_eq_true rfl, Nat.le_of_ble_eq_true rfl⟩) hK hP hS hX rfl rfl rfl hl.1 rfl (Nat.le_of_ble_eq_true rfl) d_Foreteller_follow_71 ⟨Nat.zero_le _, Nat.zero_le _⟩ (fun H locs hP hS => ?_)
    refine lv_goto (tgt := 160) hx hb d_Foreteller_follow_74 (by decide) ?_
    exact W.vret hx hb hr (fun t ht hW => ⟨⟨_, rfl, Option.some.inj hm, rt_end rtC_Xo hK hP hS hX ht hW⟩, hS.F ht⟩) hS.2.2 d_Foreteller_follow_160
  have hm := (if_neg c6).symm.trans hm
  by_cases c9 : v3 = 2
  · have hm := (if_pos c9).symm.trans hm
    refine lv_tableIn (off := 58) (tgt := 67) hx hb d_Foreteller_follow_9 (by rw [c9]; decide) (by rw [c9]; decide) (by rw [c9]; rfl) (by decide) ?_
    refine lv_aload_n hx hb d_Foreteller_follow_67 rfl (lv_at hl 0 rfl) ?_
    refine lv_iload_n hx hb d_Foreteller_follow_68 rfl (lv_at hl 1 rfl) ?_
    refine lv_iconst (v := 1) hx hb d_Foreteller_follow_69 (by decide) ?_
    refine lv_iadd hx hb d_Foreteller_follow_70 ?_
    obtain ⟨σ11, h10, hm⟩ := rt_b1s hm
    refine rt_cvv (As := [.int (a1 + 1)]) (rest := []) (k := 29) rtC_Xo ⟨hx, hb, hml, hown, hts⟩ (k_C_Foreteller_arrive l D cI cZ A hO σ (a1 + 1) _ h10) (cw_Foreteller_arrive hts (hts _ (rt_m rt_w556)) ⟨Nat.le_of_ble_eq_true rfl, Nat.le_of_ble_eq_true rfl⟩) hK hP hS hX rfl rfl rfl hl.1 rfl (Nat.le_of_ble_eq_true rfl) d_Foreteller_follow_71 ⟨Nat.zero_le _, Nat.zero_le _⟩ (fun H locs hP hS => ?_)
    refine lv_goto (tgt := 160) hx hb d_Foreteller_follow_74 (by decide) ?_
    exact W.vret hx hb hr (fun t ht hW => ⟨⟨_, rfl, Option.some.inj hm, rt_end rtC_Xo hK hP hS hX ht hW⟩, hS.F ht⟩) hS.2.2 d_Foreteller_follow_160
  have hm := (if_neg c9).symm.trans hm
  by_cases c12 : v3 = 3
  · have hm := (if_pos c12).symm.trans hm
    refine lv_tableIn (off := 68) (tgt := 77) hx hb d_Foreteller_follow_9 (by rw [c12]; decide) (by rw [c12]; decide) (by rw [c12]; rfl) (by decide) ?_
    refine lv_aload_n hx hb d_Foreteller_follow_77 rfl (lv_at hl 0 rfl) ?_
    refine lv_iload_n hx hb d_Foreteller_follow_78 rfl (lv_at hl 1 rfl) ?_
    refine lv_aload_n hx hb d_Foreteller_follow_79 rfl (lv_at hl 0 rfl) ?_
    refine va_get (D := D) (v := .ref (A 1)) (C := "RangeTeller$Foreteller") (T := rt_T5) (N := 13) hx hb hts rt_i5 hown hK hP 29 rfl rfl 0 (by decide) (hts _ (rt_m rt_w333)) (fun _ h9 => h9) rfl d_Foreteller_follow_80 ?_
    refine va_get (D := D) (v := .ref (A 2)) (C := "RangeTeller$Program") (T := rt_T1) (N := 14) hx hb hts rt_i1 hown hK hP 1 rfl rfl 0 (by decide) (hts _ (rt_m rt_w121)) (fun _ h9 => h9) rfl d_Foreteller_follow_83 ?_
    refine lv_iload_n hx hb d_Foreteller_follow_86 rfl (lv_at hl 1 rfl) ?_
    obtain ⟨v13, h14, hm⟩ := rt_b1s hm
    refine rt_ald hx hb hK hP 2 0 rfl rfl h14 d_Foreteller_follow_87 ?_
    refine lv_iconst (v := 3) hx hb d_Foreteller_follow_88 (by decide) ?_
    refine lv_icmp_ne (tgt := 96) hx hb d_Foreteller_follow_89 (by decide) (fun hc => ?_) (fun hc => ?_)
    · have hm := (if_neg hc).symm.trans hm
      refine lv_iconst (v := 0) hx hb d_Foreteller_follow_96 (by decide) ?_
      exact hB97 ls 0 a1 σ _ _ (lv_sub hl [] rfl) hm hP hS
    · have hm := (if_pos hc).symm.trans hm
      refine lv_iconst (v := 1) hx hb d_Foreteller_follow_92 (by decide) ?_
      refine lv_goto (tgt := 97) hx hb d_Foreteller_follow_93 (by decide) ?_
      exact hB97 ls 1 a1 σ _ _ (lv_sub hl [] rfl) hm hP hS
  have hm := (if_neg c12).symm.trans hm
  by_cases c15 : v3 = 4
  · have hm := (if_pos c15).symm.trans hm
    refine lv_tableIn (off := 94) (tgt := 103) hx hb d_Foreteller_follow_9 (by rw [c15]; decide) (by rw [c15]; decide) (by rw [c15]; rfl) (by decide) ?_
    refine lv_aload_n hx hb d_Foreteller_follow_103 rfl (lv_at hl 0 rfl) ?_
    refine lv_iload_n hx hb d_Foreteller_follow_104 rfl (lv_at hl 1 rfl) ?_
    obtain ⟨σ17, h16, hm⟩ := rt_b1s hm
    refine rt_cvv (As := [.int a1]) (rest := []) (k := 29) rtC_Xo ⟨hx, hb, hml, hown, hts⟩ (k_C_Foreteller_jump l D cI cZ A hO σ a1 _ h16) (cw_Foreteller_jump hts (hts _ (rt_m rt_w599)) ⟨Nat.le_of_ble_eq_true rfl, Nat.le_of_ble_eq_true rfl⟩) hK hP hS hX rfl rfl rfl hl.1 rfl (Nat.le_of_ble_eq_true rfl) d_Foreteller_follow_105 ⟨Nat.zero_le _, Nat.zero_le _⟩ (fun H locs hP hS => ?_)
    refine lv_goto (tgt := 160) hx hb d_Foreteller_follow_108 (by decide) ?_
    exact W.vret hx hb hr (fun t ht hW => ⟨⟨_, rfl, Option.some.inj hm, rt_end rtC_Xo hK hP hS hX ht hW⟩, hS.F ht⟩) hS.2.2 d_Foreteller_follow_160
  have hm := (if_neg c15).symm.trans hm
  by_cases c18 : v3 = 5
  · have hm := (if_pos c18).symm.trans hm
    refine lv_tableIn (off := 94) (tgt := 103) hx hb d_Foreteller_follow_9 (by rw [c18]; decide) (by rw [c18]; decide) (by rw [c18]; rfl) (by decide) ?_
    refine lv_aload_n hx hb d_Foreteller_follow_103 rfl (lv_at hl 0 rfl) ?_
    refine lv_iload_n hx hb d_Foreteller_follow_104 rfl (lv_at hl 1 rfl) ?_
    obtain ⟨σ20, h19, hm⟩ := rt_b1s hm
    refine rt_cvv (As := [.int a1]) (rest := []) (k := 29) rtC_Xo ⟨hx, hb, hml, hown, hts⟩ (k_C_Foreteller_jump l D cI cZ A hO σ a1 _ h19) (cw_Foreteller_jump hts (hts _ (rt_m rt_w599)) ⟨Nat.le_of_ble_eq_true rfl, Nat.le_of_ble_eq_true rfl⟩) hK hP hS hX rfl rfl rfl hl.1 rfl (Nat.le_of_ble_eq_true rfl) d_Foreteller_follow_105 ⟨Nat.zero_le _, Nat.zero_le _⟩ (fun H locs hP hS => ?_)
    refine lv_goto (tgt := 160) hx hb d_Foreteller_follow_108 (by decide) ?_
    exact W.vret hx hb hr (fun t ht hW => ⟨⟨_, rfl, Option.some.inj hm, rt_end rtC_Xo hK hP hS hX ht hW⟩, hS.F ht⟩) hS.2.2 d_Foreteller_follow_160
  have hm := (if_neg c18).symm.trans hm
  by_cases c21 : v3 = 6
  · have hm := (if_pos c21).symm.trans hm
    refine lv_tableIn (off := 94) (tgt := 103) hx hb d_Foreteller_follow_9 (by rw [c21]; decide) (by rw [c21]; decide) (by rw [c21]; rfl) (by decide) ?_
    refine lv_aload_n hx hb d_Foreteller_follow_103 rfl (lv_at hl 0 rfl) ?_
    refine lv_iload_n hx hb d_Foreteller_follow_104 rfl (lv_at hl 1 rfl) ?_
    obtain ⟨σ23, h22, hm⟩ := rt_b1s hm
    refine rt_cvv (As := [.int a1]) (rest := []) (k := 29) rtC_Xo ⟨hx, hb, hml, hown, hts⟩ (k_C_Foreteller_jump l D cI cZ A hO σ a1 _ h22) (cw_Foreteller_jump hts (hts _ (rt_m rt_w599)) ⟨Nat.le_of_ble_eq_true rfl, Nat.le_of_ble_eq_true rfl⟩) hK hP hS hX rfl rfl rfl hl.1 rfl (Nat.le_of_ble_eq_true rfl) d_Foreteller_follow_105 ⟨Nat.zero_le _, Nat.zero_le _⟩ (fun H locs hP hS => ?_)
    refine lv_goto (tgt := 160) hx hb d_Foreteller_follow_108 (by decide) ?_
    exact W.vret hx hb hr (fun t ht hW => ⟨⟨_, rfl, Option.some.inj hm, rt_end rtC_Xo hK hP hS hX ht hW⟩, hS.F ht⟩) hS.2.2 d_Foreteller_follow_160
  have hm := (if_neg c21).symm.trans hm
  by_cases c24 : v3 = 7
  · have hm := (if_pos c24).symm.trans hm
    refine lv_tableIn (off := 68) (tgt := 77) hx hb d_Foreteller_follow_9 (by rw [c24]; decide) (by rw [c24]; decide) (by rw [c24]; rfl) (by decide) ?_
    refine lv_aload_n hx hb d_Foreteller_follow_77 rfl (lv_at hl 0 rfl) ?_
    refine lv_iload_n hx hb d_Foreteller_follow_78 rfl (lv_at hl 1 rfl) ?_
    refine lv_aload_n hx hb d_Foreteller_follow_79 rfl (lv_at hl 0 rfl) ?_
    refine va_get (D := D) (v := .ref (A 1)) (C := "RangeTeller$Foreteller") (T := rt_T5) (N := 13) hx hb hts rt_i5 hown hK hP 29 rfl rfl 0 (by decide) (hts _ (rt_m rt_w333)) (fun _ h9 => h9) rfl d_Foreteller_follow_80 ?_
    refine va_get (D := D) (v := .ref (A 2)) (C := "RangeTeller$Program") (T := rt_T1) (N := 14) hx hb hts rt_i1 hown hK hP 1 rfl rfl 0 (by decide) (hts _ (rt_m rt_w121)) (fun _ h9 => h9) rfl d_Foreteller_follow_83 ?_
    refine lv_iload_n hx hb d_Foreteller_follow_86 rfl (lv_at hl 1 rfl) ?_
    obtain ⟨v25, h26, hm⟩ := rt_b1s hm
    refine rt_ald hx hb hK hP 2 0 rfl rfl h26 d_Foreteller_follow_87 ?_
    refine lv_iconst (v := 3) hx hb d_Foreteller_follow_88 (by decide) ?_
    refine lv_icmp_ne (tgt := 96) hx hb d_Foreteller_follow_89 (by decide) (fun hc => ?_) (fun hc => ?_)
    · have hm := (if_neg hc).symm.trans hm
      refine lv_iconst (v := 0) hx hb d_Foreteller_follow_96 (by decide) ?_
      exact hB97 ls 0 a1 σ _ _ (lv_sub hl [] rfl) hm hP hS
    · have hm := (if_pos hc).symm.trans hm
      refine lv_iconst (v := 1) hx hb d_Foreteller_follow_92 (by decide) ?_
      refine lv_goto (tgt := 97) hx hb d_Foreteller_follow_93 (by decide) ?_
      exact hB97 ls 1 a1 σ _ _ (lv_sub hl [] rfl) hm hP hS
  have hm := (if_neg c24).symm.trans hm
  by_cases c27 : v3 = 8
  · have hm := (if_pos c27).symm.trans hm
    refine lv_tableIn (off := 94) (tgt := 103) hx hb d_Foreteller_follow_9 (by rw [c27]; decide) (by rw [c27]; decide) (by rw [c27]; rfl) (by decide) ?_
    refine lv_aload_n hx hb d_Foreteller_follow_103 rfl (lv_at hl 0 rfl) ?_
    refine lv_iload_n hx hb d_Foreteller_follow_104 rfl (lv_at hl 1 rfl) ?_
    obtain ⟨σ29, h28, hm⟩ := rt_b1s hm
    refine rt_cvv (As := [.int a1]) (rest := []) (k := 29) rtC_Xo ⟨hx, hb, hml, hown, hts⟩ (k_C_Foreteller_jump l D cI cZ A hO σ a1 _ h28) (cw_Foreteller_jump hts (hts _ (rt_m rt_w599)) ⟨Nat.le_of_ble_eq_true rfl, Nat.le_of_ble_eq_true rfl⟩) hK hP hS hX rfl rfl rfl hl.1 rfl (Nat.le_of_ble_eq_true rfl) d_Foreteller_follow_105 ⟨Nat.zero_le _, Nat.zero_le _⟩ (fun H locs hP hS => ?_)
    refine lv_goto (tgt := 160) hx hb d_Foreteller_follow_108 (by decide) ?_
    exact W.vret hx hb hr (fun t ht hW => ⟨⟨_, rfl, Option.some.inj hm, rt_end rtC_Xo hK hP hS hX ht hW⟩, hS.F ht⟩) hS.2.2 d_Foreteller_follow_160
  have hm := (if_neg c27).symm.trans hm
  by_cases c30 : v3 = 9
  · have hm := (if_pos c30).symm.trans hm
    refine lv_tableIn (off := 102) (tgt := 111) hx hb d_Foreteller_follow_9 (by rw [c30]; decide) (by rw [c30]; decide) (by rw [c30]; rfl) (by decide) ?_
    refine lv_aload_n hx hb d_Foreteller_follow_111 rfl (lv_at hl 0 rfl) ?_
    refine lv_iload_n hx hb d_Foreteller_follow_112 rfl (lv_at hl 1 rfl) ?_
    refine lv_aload_n hx hb d_Foreteller_follow_113 rfl (lv_at hl 0 rfl) ?_
    refine va_get (D := D) (v := .ref (A 1)) (C := "RangeTeller$Foreteller") (T := rt_T5) (N := 13) hx hb hts rt_i5 hown hK hP 29 rfl rfl 0 (by decide) (hts _ (rt_m rt_w333)) (fun _ h9 => h9) rfl d_Foreteller_follow_114 ?_
    refine va_get (D := D) (v := .ref (A 3)) (C := "RangeTeller$Program") (T := rt_T1) (N := 14) hx hb hts rt_i1 hown hK hP 1 rfl rfl 1 (by decide) (hts _ (rt_m rt_w127)) (fun _ h9 => h9) rfl d_Foreteller_follow_117 ?_
    refine lv_iload_n hx hb d_Foreteller_follow_120 rfl (lv_at hl 1 rfl) ?_
    obtain ⟨v31, h32, hm⟩ := rt_b1s hm
    refine rt_ald hx hb hK hP 3 0 rfl rfl h32 d_Foreteller_follow_121 ?_
    obtain ⟨σ34, h33, hm⟩ := rt_b1s hm
    refine rt_cvv (As := [.int a1, .int v31]) (rest := []) (k := 29) rtC_Xo ⟨hx, hb, hml, hown, hts⟩ (k_C_Foreteller_call l D cI cZ A hO σ a1 v31 _ h33) (cw_Foreteller_call hts (hts _ (rt_m rt_w611)) ⟨Nat.le_of_ble_eq_true rfl, Nat.le_of_ble_eq_true rfl⟩) hK hP hS hX rfl rfl rfl hl.1 rfl (Nat.le_of_ble_eq_true rfl) d_Foreteller_follow_122 ⟨Nat.zero_le _, Nat.zero_le _⟩ (fun H locs hP hS => ?_)
    refine lv_goto (tgt := 160) hx hb d_Foreteller_follow_125 (by decide) ?_
    exact W.vret hx hb hr (fun t ht hW => ⟨⟨_, rfl, Option.some.inj hm, rt_end rtC_Xo hK hP hS hX ht hW⟩, hS.F ht⟩) hS.2.2 d_Foreteller_follow_160
  have hm := (if_neg c30).symm.trans hm
  refine lv_tableOut (tgt := 128) hx hb d_Foreteller_follow_9 (by have := lv_neT (a := 0) c5 rfl; have := lv_neT (a := 1) c6 rfl; have := lv_neT (a := 2) c9 rfl; have := lv_neT (a := 3) c12 rfl; have := lv_neT (a := 4) c15 rfl; have := lv_neT (a := 5) c18 rfl; have := lv_neT (a := 6) c21 rfl; have := lv_neT (a := 7) c24 rfl; have := lv_neT (a := 8) c27 rfl; have := lv_neT (a := 9) c30 rfl; omega) (by decide) ?_
  refine lv_aload_n hx hb d_Foreteller_follow_128 rfl (lv_at hl 0 rfl) ?_
  refine lv_aload_n hx hb d_Foreteller_follow_129 rfl (lv_at hl 0 rfl) ?_
  refine va_get (D := D) (v := .ref (A 1)) (C := "RangeTeller$Foreteller") (T := rt_T5) (N := 13) hx hb hts rt_i5 hown hK hP 29 rfl rfl 0 (by decide) (hts _ (rt_m rt_w333)) (fun _ h9 => h9) rfl d_Foreteller_follow_130 ?_
  refine va_get (D := D) (v := .ref (A 2)) (C := "RangeTeller$Program") (T := rt_T1) (N := 14) hx hb hts rt_i1 hown hK hP 1 rfl rfl 0 (by decide) (hts _ (rt_m rt_w121)) (fun _ h9 => h9) rfl d_Foreteller_follow_133 ?_
  refine lv_iload_n hx hb d_Foreteller_follow_136 rfl (lv_at hl 1 rfl) ?_
  obtain ⟨v35, h36, hm⟩ := rt_b1s hm
  refine rt_ald hx hb hK hP 2 0 rfl rfl h36 d_Foreteller_follow_137 ?_
  refine lv_aload_n hx hb d_Foreteller_follow_138 rfl (lv_at hl 0 rfl) ?_
  refine va_get (D := D) (v := .ref (A 1)) (C := "RangeTeller$Foreteller") (T := rt_T5) (N := 13) hx hb hts rt_i5 hown hK hP 29 rfl rfl 0 (by decide) (hts _ (rt_m rt_w333)) (fun _ h9 => h9) rfl d_Foreteller_follow_139 ?_
  refine va_get (D := D) (v := .ref (A 3)) (C := "RangeTeller$Program") (T := rt_T1) (N := 14) hx hb hts rt_i1 hown hK hP 1 rfl rfl 1 (by decide) (hts _ (rt_m rt_w127)) (fun _ h9 => h9) rfl d_Foreteller_follow_142 ?_
  refine lv_iload_n hx hb d_Foreteller_follow_145 rfl (lv_at hl 1 rfl) ?_
  obtain ⟨v37, h38, hm⟩ := rt_b1s hm
  refine rt_ald hx hb hK hP 3 0 rfl rfl h38 d_Foreteller_follow_146 ?_
  obtain ⟨v41, σ40, h39, hm⟩ := rt_b2s hm
  refine rt_cvi (As := [.int v35, .int v37]) (rest := []) (k := 29) rtC_Xo ⟨hx, hb, hml, hown, hts⟩ (k_C_Foreteller_operate l D cI cZ A hO σ v35 v37 _ _ h39) (cw_Foreteller_operate hts (hts _ (rt_m rt_w619)) ⟨Nat.le_of_ble_eq_true rfl, Nat.le_of_ble_eq_true rfl⟩) hK hP hS hX rfl rfl rfl hl.1 rfl (Nat.le_of_ble_eq_true rfl) d_Foreteller_follow_147 ⟨Nat.zero_le _, Nat.zero_le _⟩ (fun H locs hP hS => ?_)
  refine lv_if_eq (tgt := 160) hx hb d_Foreteller_follow_150 (by decide) (fun hc => ?_) (fun hc => ?_)
  · have hm := (if_pos hc).symm.trans hm
    exact W.vret hx hb hr (fun t ht hW => ⟨⟨_, rfl, Option.some.inj hm, rt_end rtC_Xo hK hP hS hX ht hW⟩, hS.F ht⟩) hS.2.2 d_Foreteller_follow_160
  · have hm := (if_neg hc).symm.trans hm
    refine lv_aload_n hx hb d_Foreteller_follow_153 rfl (lv_at hl 0 rfl) ?_
    refine lv_iload_n hx hb d_Foreteller_follow_154 rfl (lv_at hl 1 rfl) ?_
    refine lv_iconst (v := 1) hx hb d_Foreteller_follow_155 (by decide) ?_
    refine lv_iadd hx hb d_Foreteller_follow_156 ?_
    obtain ⟨σ43, h42, hm⟩ := rt_b1s hm
    refine rt_cvv (As := [.int (a1 + 1)]) (rest := []) (k := 29) rtC_Xo ⟨hx, hb, hml, hown, hts⟩ (k_C_Foreteller_arrive l D cI cZ A hO σ40 (a1 + 1) _ h42) (cw_Foreteller_arrive hts (hts _ (rt_m rt_w556)) ⟨Nat.le_of_ble_eq_true rfl, Nat.le_of_ble_eq_true rfl⟩) hK hP hS hX rfl rfl rfl hl.1 rfl (Nat.le_of_ble_eq_true rfl) d_Foreteller_follow_157 ⟨Nat.zero_le _, Nat.zero_le _⟩ (fun H locs hP hS => ?_)
    exact W.vret hx hb hr (fun t ht hW => ⟨⟨_, rfl, Option.some.inj hm, rt_end rtC_Xo hK hP hS hX ht hW⟩, hS.F ht⟩) hS.2.2 d_Foreteller_follow_160
set_option maxHeartbeats 4000000 in
set_option maxRecDepth 100000 in
theorem k_C_Foreteller_foretell (l : Launch) (D : va_G) (cI cZ : ClassId) (A : Nat → Nat) (hO : rt_Ok (rtC_W cI cZ A)) (σ : rt_St) (σ' : rt_St) (hm : M_C_Foreteller_foretell σ = some σ') (sz : Nat) : Met l y_Foreteller_foretell (rt_ws y_Foreteller_foretell b_Foreteller_foretell 4 none) ({ frames := 6, cells := 0, slots := 0, locals := 142 } : Room) (va_Pc [.ref (A 29)] (rt_P D rt_cl (rt_t cI cZ) rtC_X (rtC_W cI cZ A) sz σ)) (va_Qv (fun u1 => u1 = σ') (rt_B D rt_cl (rt_t cI cZ) rtC_X (rtC_W cI cZ A)) (rt_A (rtC_W cI cZ A) sz)) 0 0 (rt_A (rtC_W cI cZ A) sz) := by
  refine Met.ofW (cc := b_Foreteller_foretell) (maxL := 4) (ret := none) (by decide) rfl ?_
  intro p e s m args below meth c s₁ B hml hv
  obtain ⟨rfl, rfl, hP, hK, hX⟩ := hv
  have hx := B.exec
  have hb := B.bytes
  have hr := B.returns
  have hts := atoms_spec (ws := (rt_ws y_Foreteller_foretell b_Foreteller_foretell 4 none)) B.pre
  have hown : s.vm.findClass "RangeTeller$Foreteller" = some m.cls := findClass_of_methodNamed B.named
  have hlocks := B.notSynchronized
  have hD := rt_hD hO s.heap.size
  have hS : va_S (rt_A (rtC_W cI cZ A) s.heap.size) s.heap s.heap [] := va_S.rf
  have hl := lv_entry ([.ref (A 29)]) (n := 4) (Nat.le_of_ble_eq_true rfl)
  rw [lg_entry_eq]
  generalize (lg_sl ([.ref (A 29)]) ++ List.replicate (4 - (lg_sl ([.ref (A 29)])).length) Slot.unset).toArray = ls at hl ⊢
  have hl : lv_has ls 4 [(0, .ref (A 29))] := hl
  show W p l e ({ frames := 6, cells := 0, slots := 0, locals := 142 } : Room) s m ([.ref (A 29)] : List Value).toArray below meth c s.heap [] 0 0 (rt_Qv D rt_cl (rt_t cI cZ) rtC_X (rtC_W cI cZ A) below ([.ref (A 29)] : List Value).toArray s σ') (F0 m 0 ls [])
  have hB35 : ∀ (n35 : Nat) (ls : Array Slot) (l1 l2 : Int32) (σ : rt_St) (H : Heap) (locs : List Loc), lv_has ls 4 [(0, .ref (A 29)), (1, .int l1), (2, .int l2)] → B_C_Foreteller_foretell_35 n35 l1 l2 σ = some σ' → va_P D rt_cl (rtC_W cI cZ A σ) H → va_S (rt_A (rtC_W cI cZ A) s.heap.size) s.heap H locs → W p l e ({ frames := 6, cells := 0, slots := 0, locals := 142 } : Room) s m ([.ref (A 29)] : List Value).toArray below meth c H locs 0 0 (rt_Qv D rt_cl (rt_t cI cZ) rtC_X (rtC_W cI cZ A) below ([.ref (A 29)] : List Value).toArray s σ') (F0 m 35 ls []) := by
    intro n35
    induction n35 with
    | zero => intro ls l1 l2 σ H locs hl hm hP hS; rw [B_C_Foreteller_foretell_35] at hm; cases hm
    | succ n35 ih35 =>
      have hB49 : ∀ (n49 : Nat) (ls : Array Slot) (l1 l2 l3 : Int32) (σ : rt_St) (H : Heap) (locs : List Loc), lv_has ls 4 [(0, .ref (A 29)), (1, .int l1), (2, .int l2), (3, .int l3)] → B_C_Foreteller_foretell_49 (B_C_Foreteller_foretell_35 n35) n49 l1 l2 l3 σ = some σ' → va_P D rt_cl (rtC_W cI cZ A σ) H → va_S (rt_A (rtC_W cI cZ A) s.heap.size) s.heap H locs → W p l e ({ frames := 6, cells := 0, slots := 0, locals := 142 } : Room) s m ([.ref (A 29)] : List Value).toArray below meth c H locs 0 0 (rt_Qv D rt_cl (rt_t cI cZ) rtC_X (rtC_W cI cZ A) below ([.ref (A 29)] : List Value).toArray s σ') (F0 m 49 ls []) := by
        intro n49
        induction n49 with
        | zero => intro ls l1 l2 l3 σ H locs hl hm hP hS; rw [B_C_Foreteller_foretell_49] at hm; cases hm
        | succ n49 ih49 =>
          have hB88 : ∀ (ls : Array Slot) (l1 l2 l3 : Int32) (σ : rt_St) (H : Heap) (locs : List Loc), lv_has ls 4 [(0, .ref (A 29)), (1, .int l1), (2, .int l2), (3, .int l3)] → B_C_Foreteller_foretell_88 (B_C_Foreteller_foretell_35 n35) (B_C_Foreteller_foretell_49 (B_C_Foreteller_foretell_35 n35) n49) l1 l2 l3 σ = some σ' → va_P D rt_cl (rtC_W cI cZ A σ) H → va_S (rt_A (rtC_W cI cZ A) s.heap.size) s.heap H locs → W p l e ({ frames := 6, cells := 0, slots := 0, locals := 142 } : Room) s m ([.ref (A 29)] : List Value).toArray below meth c H locs 0 0 (rt_Qv D rt_cl (rt_t cI cZ) rtC_X (rtC_W cI cZ A) below ([.ref (A 29)] : List Value).toArray s σ') (F0 m 88 ls []) := by
            intro ls l1 l2 l3 σ H locs hl hm hP hS
            unfold B_C_Foreteller_foretell_88 at hm
            refine lv_iinc (k := 3) (v := (l3 + 1)) hx hb d_Foreteller_foretell_88 hl rfl rfl (by decide) rfl (fun ls hl => ?_)
            have hl : lv_has ls 4 [(3, .int (l3 + 1)), (0, .ref (A 29)), (1, .int l1), (2, .int l2)] := hl
            refine lv_goto (tgt := 49) hx hb d_Foreteller_foretell_91 (by decide) ?_
            exact ih49 ls l1 l2 (l3 + 1) σ _ _ (lv_sub hl [1, 2, 3, 0] rfl) hm hP hS
          intro ls l1 l2 l3 σ H locs hl hm hP hS
          rw [B_C_Foreteller_foretell_49] at hm
          refine lv_iload_n hx hb d_Foreteller_foretell_49 rfl (lv_at hl 3 rfl) ?_
          refine lv_aload_n hx hb d_Foreteller_foretell_50 rfl (lv_at hl 0 rfl) ?_
          refine va_get (D := D) (v := .ref (A 1)) (C := "RangeTeller$Foreteller") (T := rt_T5) (N := 13) hx hb hts rt_i5 hown hK hP 29 rfl rfl 0 (by decide) (hts _ (rt_m rt_w333)) (fun _ h9 => h9) rfl d_Foreteller_foretell_51 ?_
          refine va_get (D := D) (v := .int (σ 1 12)) (C := "RangeTeller$Program") (T := rt_T1) (N := 14) hx hb hts rt_i1 hown hK hP 1 rfl rfl 12 (by decide) (hts _ (rt_m rt_w166)) (fun _ h9 => h9) rfl d_Foreteller_foretell_54 ?_
          refine lv_icmp_ge (tgt := 94) hx hb d_Foreteller_foretell_57 (by decide) (fun hc => ?_) (fun hc => ?_)
          · have hm := (if_pos hc).symm.trans hm
            refine lv_iinc (k := 2) (v := (l2 + 1)) hx hb d_Foreteller_foretell_94 hl rfl rfl (by decide) rfl (fun ls hl => ?_)
            have hl : lv_has ls 4 [(2, .int (l2 + 1)), (0, .ref (A 29)), (1, .int l1), (3, .int l3)] := hl
            refine lv_goto (tgt := 35) hx hb d_Foreteller_foretell_97 (by decide) ?_
            exact ih35 ls l1 (l2 + 1) σ _ _ (lv_sub hl [1, 2, 0] rfl) hm hP hS
          · have hm := (if_neg hc).symm.trans hm
            refine lv_aload_n hx hb d_Foreteller_foretell_60 rfl (lv_at hl 0 rfl) ?_
            refine va_get (D := D) (v := .ref (A 35)) (C := "RangeTeller$Foreteller") (T := rt_T5) (N := 13) hx hb hts rt_i5 hown hK hP 29 rfl rfl 6 (by decide) (hts _ (rt_m rt_w344)) (fun _ h9 => h9) rfl d_Foreteller_foretell_61 ?_
            refine lv_iload_n hx hb d_Foreteller_foretell_64 rfl (lv_at hl 3 rfl) ?_
            obtain ⟨v1, h2, hm⟩ := rt_b1s hm
            refine rt_zld hx hb hK hP 35 1 rfl rfl h2 d_Foreteller_foretell_65 ?_
            refine lv_if_eq (tgt := 88) hx hb d_Foreteller_foretell_66 (by decide) (fun hc => ?_) (fun hc => ?_)
            · have hm := (if_pos hc).symm.trans hm
              exact hB88 ls l1 l2 l3 σ _ _ (lv_sub hl [0, 1, 2, 3] rfl) hm hP hS
            · have hm := (if_neg hc).symm.trans hm
              refine lv_aload_n hx hb d_Foreteller_foretell_69 rfl (lv_at hl 0 rfl) ?_
              refine va_get (D := D) (v := .ref (A 35)) (C := "RangeTeller$Foreteller") (T := rt_T5) (N := 13) hx hb hts rt_i5 hown hK hP 29 rfl rfl 6 (by decide) (hts _ (rt_m rt_w344)) (fun _ h9 => h9) rfl d_Foreteller_foretell_70 ?_
              refine lv_iload_n hx hb d_Foreteller_foretell_73 rfl (lv_at hl 3 rfl) ?_
              refine lv_iconst (v := 0) hx hb d_Foreteller_foretell_74 (by decide) ?_
              obtain ⟨σ3, h4, hm⟩ := rt_b1s hm
              refine rt_zst hx hb hK hP hD hS 35 1 rfl (rtC_a35 cI cZ A _) rfl rfl h4 d_Foreteller_foretell_75 (fun H locs hP hS => ?_)
              refine lv_iconst (v := 1) hx hb d_Foreteller_foretell_76 (by decide) ?_
              refine lv_istore_n hx hb d_Foreteller_foretell_77 rfl hl (by decide) rfl (fun ls hl => ?_)
              have hl : lv_has ls 4 [(1, .int 1), (0, .ref (A 29)), (2, .int l2), (3, .int l3)] := hl
              refine lv_aload_n hx hb d_Foreteller_foretell_78 rfl (lv_at hl 1 rfl) ?_
              refine lv_iload_n hx hb d_Foreteller_foretell_79 rfl (lv_at hl 3 rfl) ?_
              obtain ⟨σ6, h5, hm⟩ := rt_b1s hm
              refine rt_cvv (As := [.int l3]) (rest := []) (k := 29) rtC_Xo ⟨hx, hb, hml, hown, hts⟩ (k_C_Foreteller_recall l D cI cZ A hO σ3 l3 _ h5) (cw_Foreteller_recall hts (hts _ (rt_m rt_w568)) ⟨Nat.le_of_ble_eq_true rfl, Nat.le_of_ble_eq_true rfl⟩) hK hP hS hX rfl rfl rfl hl.1 rfl (Nat.le_of_ble_eq_true rfl) d_Foreteller_foretell_80 ⟨Nat.zero_le _, Nat.zero_le _⟩ (fun H locs hP hS => ?_)
              refine lv_aload_n hx hb d_Foreteller_foretell_83 rfl (lv_at hl 1 rfl) ?_
              refine lv_iload_n hx hb d_Foreteller_foretell_84 rfl (lv_at hl 3 rfl) ?_
              obtain ⟨σ8, h7, hm⟩ := rt_b1s hm
              refine rt_cvv (As := [.int l3]) (rest := []) (k := 29) rtC_Xo ⟨hx, hb, hml, hown, hts⟩ (k_C_Foreteller_follow l D cI cZ A hO σ6 l3 _ h7) (cw_Foreteller_follow hts (hts _ (rt_m rt_w575)) ⟨Nat.le_of_ble_eq_true rfl, Nat.le_of_ble_eq_true rfl⟩) hK hP hS hX rfl rfl rfl hl.1 rfl (Nat.le_of_ble_eq_true rfl) d_Foreteller_foretell_85 ⟨Nat.zero_le _, Nat.zero_le _⟩ (fun H locs hP hS => ?_)
              exact hB88 ls 1 l2 l3 σ8 _ _ (lv_sub hl [1, 0, 2, 3] rfl) hm hP hS
      intro ls l1 l2 σ H locs hl hm hP hS
      rw [B_C_Foreteller_foretell_35] at hm
      refine lv_iload_n hx hb d_Foreteller_foretell_35 rfl (lv_at hl 2 rfl) ?_
      refine lv_ldc (v := 1000000) hx hb hown (hts _ (rt_m rt_w567)) d_Foreteller_foretell_36 ?_
      refine lv_icmp_ge (tgt := 100) hx hb d_Foreteller_foretell_38 (by decide) (fun hc => ?_) (fun hc => ?_)
      · have hm := (if_pos hc).symm.trans hm
        exact W.vret hx hb hr (fun t ht hW => ⟨⟨_, rfl, Option.some.inj hm, rt_end rtC_Xo hK hP hS hX ht hW⟩, hS.F ht⟩) hS.2.2 d_Foreteller_foretell_100
      · have hm := (if_neg hc).symm.trans hm
        refine lv_iload_n hx hb d_Foreteller_foretell_41 rfl (lv_at hl 1 rfl) ?_
        refine lv_if_eq (tgt := 100) hx hb d_Foreteller_foretell_42 (by decide) (fun hc => ?_) (fun hc => ?_)
        · have hm := (if_pos hc).symm.trans hm
          exact W.vret hx hb hr (fun t ht hW => ⟨⟨_, rfl, Option.some.inj hm, rt_end rtC_Xo hK hP hS hX ht hW⟩, hS.F ht⟩) hS.2.2 d_Foreteller_foretell_100
        · have hm := (if_neg hc).symm.trans hm
          refine lv_iconst (v := 0) hx hb d_Foreteller_foretell_45 (by decide) ?_
          refine lv_istore_n hx hb d_Foreteller_foretell_46 rfl hl (by decide) rfl (fun ls hl => ?_)
          have hl : lv_has ls 4 [(1, .int 0), (0, .ref (A 29)), (2, .int l2)] := hl
          refine lv_iconst (v := 0) hx hb d_Foreteller_foretell_47 (by decide) ?_
          refine lv_istore_n hx hb d_Foreteller_foretell_48 rfl hl (by decide) rfl (fun ls hl => ?_)
          have hl : lv_has ls 4 [(3, .int 0), (1, .int 0), (0, .ref (A 29)), (2, .int l2)] := hl
          exact hB49 _ ls 0 l2 0 σ _ _ (lv_sub hl [2, 1, 3, 0] rfl) hm hP hS
  have hB6 : ∀ (n6 : Nat) (ls : Array Slot) (l1 : Int32) (σ : rt_St) (H : Heap) (locs : List Loc), lv_has ls 4 [(0, .ref (A 29)), (1, .int l1)] → B_C_Foreteller_foretell_6 n6 l1 σ = some σ' → va_P D rt_cl (rtC_W cI cZ A σ) H → va_S (rt_A (rtC_W cI cZ A) s.heap.size) s.heap H locs → W p l e ({ frames := 6, cells := 0, slots := 0, locals := 142 } : Room) s m ([.ref (A 29)] : List Value).toArray below meth c H locs 0 0 (rt_Qv D rt_cl (rt_t cI cZ) rtC_X (rtC_W cI cZ A) below ([.ref (A 29)] : List Value).toArray s σ') (F0 m 6 ls []) := by
    intro n6
    induction n6 with
    | zero => intro ls l1 σ H locs hl hm hP hS; rw [B_C_Foreteller_foretell_6] at hm; cases hm
    | succ n6 ih6 =>
      intro ls l1 σ H locs hl hm hP hS
      rw [B_C_Foreteller_foretell_6] at hm
      refine lv_iload_n hx hb d_Foreteller_foretell_6 rfl (lv_at hl 1 rfl) ?_
      refine lv_iconst (v := 2) hx hb d_Foreteller_foretell_7 (by decide) ?_
      refine lv_icmp_ge (tgt := 26) hx hb d_Foreteller_foretell_8 (by decide) (fun hc => ?_) (fun hc => ?_)
      · have hm := (if_pos hc).symm.trans hm
        refine lv_aload_n hx hb d_Foreteller_foretell_26 rfl (lv_at hl 0 rfl) ?_
        refine lv_iconst (v := 0) hx hb d_Foreteller_foretell_27 (by decide) ?_
        obtain ⟨σ10, h9, hm⟩ := rt_b1s hm
        refine rt_cvv (As := [.int 0]) (rest := []) (k := 29) rtC_Xo ⟨hx, hb, hml, hown, hts⟩ (k_C_Foreteller_enter l D cI cZ A hO σ 0 _ h9) (cw_Foreteller_enter hts (hts _ (rt_m rt_w552)) ⟨Nat.le_of_ble_eq_true rfl, Nat.le_of_ble_eq_true rfl⟩) hK hP hS hX rfl rfl rfl hl.1 rfl (Nat.le_of_ble_eq_true rfl) d_Foreteller_foretell_28 ⟨Nat.zero_le _, Nat.zero_le _⟩ (fun H locs hP hS => ?_)
        refine lv_iconst (v := 1) hx hb d_Foreteller_foretell_31 (by decide) ?_
        refine lv_istore_n hx hb d_Foreteller_foretell_32 rfl hl (by decide) rfl (fun ls hl => ?_)
        have hl : lv_has ls 4 [(1, .int 1), (0, .ref (A 29))] := hl
        refine lv_iconst (v := 0) hx hb d_Foreteller_foretell_33 (by decide) ?_
        refine lv_istore_n hx hb d_Foreteller_foretell_34 rfl hl (by decide) rfl (fun ls hl => ?_)
        have hl : lv_has ls 4 [(2, .int 0), (1, .int 1), (0, .ref (A 29))] := hl
        exact hB35 _ ls 1 0 σ10 _ _ (lv_sub hl [2, 1, 0] rfl) hm hP hS
      · have hm := (if_neg hc).symm.trans hm
        refine lv_aload_n hx hb d_Foreteller_foretell_11 rfl (lv_at hl 0 rfl) ?_
        refine va_get (D := D) (v := .ref (A 38)) (C := "RangeTeller$Foreteller") (T := rt_T5) (N := 13) hx hb hts rt_i5 hown hK hP 29 rfl rfl 9 (by decide) (hts _ (rt_m rt_w347)) (fun _ h9 => h9) rfl d_Foreteller_foretell_12 ?_
        refine lv_iload_n hx hb d_Foreteller_foretell_15 rfl (lv_at hl 1 rfl) ?_
        refine lv_sipush (v := 4032) hx hb d_Foreteller_foretell_16 (by decide) ?_
        obtain ⟨σ11, h12, hm⟩ := rt_b1s hm
        refine rt_ast hx hb hK hP hD hS 38 0 rfl (rtC_a38 cI cZ A _) rfl h12 d_Foreteller_foretell_19 (fun H locs hP hS => ?_)
        refine lv_iinc (k := 1) (v := (l1 + 1)) hx hb d_Foreteller_foretell_20 hl rfl rfl (by decide) rfl (fun ls hl => ?_)
        have hl : lv_has ls 4 [(1, .int (l1 + 1)), (0, .ref (A 29))] := hl
        refine lv_goto (tgt := 6) hx hb d_Foreteller_foretell_23 (by decide) ?_
        exact ih6 ls (l1 + 1) σ11 _ _ (lv_sub hl [1, 0] rfl) hm hP hS
  unfold M_C_Foreteller_foretell at hm
  refine lv_aload_n hx hb d_Foreteller_foretell_0 rfl (lv_at hl 0 rfl) ?_
  obtain ⟨σ14, h13, hm⟩ := rt_b1s hm
  refine rt_cvv (As := []) (rest := []) (k := 29) rtC_Xo ⟨hx, hb, hml, hown, hts⟩ (k_C_Foreteller_clear l D cI cZ A hO σ _ h13) (cw_Foreteller_clear hts (hts _ (rt_m rt_w545)) ⟨Nat.le_of_ble_eq_true rfl, Nat.le_of_ble_eq_true rfl⟩) hK hP hS hX rfl rfl rfl hl.1 rfl (Nat.le_of_ble_eq_true rfl) d_Foreteller_foretell_1 ⟨Nat.zero_le _, Nat.zero_le _⟩ (fun H locs hP hS => ?_)
  refine lv_iconst (v := 0) hx hb d_Foreteller_foretell_4 (by decide) ?_
  refine lv_istore_n hx hb d_Foreteller_foretell_5 rfl hl (by decide) rfl (fun ls hl => ?_)
  have hl : lv_has ls 4 [(1, .int 0), (0, .ref (A 29))] := hl
  exact hB6 _ ls 0 σ14 _ _ (lv_sub hl [1, 0] rfl) hm hP hS
set_option maxHeartbeats 4000000 in
set_option maxRecDepth 100000 in
theorem k_C_RangeTeller_load (l : Launch) (D : va_G) (cI cZ : ClassId) (A : Nat → Nat) (hO : rt_Ok (rtC_W cI cZ A)) (σ : rt_St) (r' : Int32) (σ' : rt_St) (hm : M_C_RangeTeller_load σ = some (r', σ')) (sz : Nat) : Met l y_RangeTeller_load (rt_ws y_RangeTeller_load b_RangeTeller_load 1 (some .int)) ({ frames := 7, cells := 0, slots := 0, locals := 165 } : Room) (va_Pc [.ref (A 0)] (rt_P D rt_cl (rt_t cI cZ) rtC_X (rtC_W cI cZ A) sz σ)) (va_Qi (fun r1 u1 => r1 = r' ∧ u1 = σ') (rt_B D rt_cl (rt_t cI cZ) rtC_X (rtC_W cI cZ A)) (rt_A (rtC_W cI cZ A) sz)) 0 0 (rt_A (rtC_W cI cZ A) sz) := by
  refine Met.ofW (cc := b_RangeTeller_load) (maxL := 1) (ret := (some .int)) (by decide) rfl ?_
  intro p e s m args below meth c s₁ B hml hv
  obtain ⟨rfl, rfl, hP, hK, hX⟩ := hv
  have hx := B.exec
  have hb := B.bytes
  have hr := B.returns
  have hts := atoms_spec (ws := (rt_ws y_RangeTeller_load b_RangeTeller_load 1 (some .int))) B.pre
  have hown : s.vm.findClass "RangeTeller" = some m.cls := findClass_of_methodNamed B.named
  have hlocks := B.notSynchronized
  have hD := rt_hD hO s.heap.size
  have hS : va_S (rt_A (rtC_W cI cZ A) s.heap.size) s.heap s.heap [] := va_S.rf
  have hl := lv_entry ([.ref (A 0)]) (n := 1) (Nat.le_of_ble_eq_true rfl)
  rw [lg_entry_eq]
  generalize (lg_sl ([.ref (A 0)]) ++ List.replicate (1 - (lg_sl ([.ref (A 0)])).length) Slot.unset).toArray = ls at hl ⊢
  have hl : lv_has ls 1 [(0, .ref (A 0))] := hl
  show W p l e ({ frames := 7, cells := 0, slots := 0, locals := 165 } : Room) s m ([.ref (A 0)] : List Value).toArray below meth c s.heap [] 0 0 (rt_Qi D rt_cl (rt_t cI cZ) rtC_X (rtC_W cI cZ A) below ([.ref (A 0)] : List Value).toArray s r' σ') (F0 m 0 ls [])
  unfold M_C_RangeTeller_load at hm
  refine lv_aload_n hx hb d_RangeTeller_load_0 rfl (lv_at hl 0 rfl) ?_
  refine lv_iconst (v := 0) hx hb d_RangeTeller_load_1 (by decide) ?_
  obtain ⟨σ1, h2, hm⟩ := rt_b1s hm
  refine rt_pf (D := D) (C := "RangeTeller") (T := rt_T0) (N := 7) (ty := .boolean) hx hb hts rt_i0 rt_y0 rt_o0 rt_n0 hown hK hP hD hS 0 rfl rfl 5 (by decide) (hts _ (rt_m rt_w383)) (fun _ h9 => h9) rfl (by decide +kernel) rfl rfl (Nat.le_of_ble_eq_true rfl) (rtC_s0_5 cI cZ A _ _) h2 d_RangeTeller_load_2 (fun H locs hP hS => ?_)
  refine lv_aload_n hx hb d_RangeTeller_load_5 rfl (lv_at hl 0 rfl) ?_
  refine va_get (D := D) (v := .ref (A 21)) (C := "RangeTeller") (T := rt_T0) (N := 7) hx hb hts rt_i0 hown hK hP 0 rfl rfl 3 (by decide) (hts _ (rt_m rt_w381)) (fun _ h9 => h9) rfl d_RangeTeller_load_6 ?_
  obtain ⟨σ4, h3, hm⟩ := rt_b1s hm
  refine rt_cvv (As := []) (rest := []) (k := 21) rtC_Xo ⟨hx, hb, hml, hown, hts⟩ (k_C_Runner_forget l D cI cZ A hO σ1 _ h3) (cw_Runner_forget hts (hts _ (rt_m rt_w412)) ⟨Nat.le_of_ble_eq_true rfl, Nat.le_of_ble_eq_true rfl⟩) hK hP hS hX rfl rfl rfl hl.1 rfl (Nat.le_of_ble_eq_true rfl) d_RangeTeller_load_9 ⟨Nat.zero_le _, Nat.zero_le _⟩ (fun H locs hP hS => ?_)
  refine lv_aload_n hx hb d_RangeTeller_load_12 rfl (lv_at hl 0 rfl) ?_
  refine lv_aload_n hx hb d_RangeTeller_load_13 rfl (lv_at hl 0 rfl) ?_
  refine va_get (D := D) (v := .ref (A 14)) (C := "RangeTeller") (T := rt_T0) (N := 7) hx hb hts rt_i0 hown hK hP 0 rfl rfl 1 (by decide) (hts _ (rt_m rt_w379)) (fun _ h9 => h9) rfl d_RangeTeller_load_14 ?_
  obtain ⟨v7, σ6, h5, hm⟩ := rt_b2s hm
  refine rt_cvi (As := []) (rest := [.ref (A 0)]) (k := 14) rtC_Xo ⟨hx, hb, hml, hown, hts⟩ (k_C_Reader_readModule l D cI cZ A hO σ4 _ _ h5) (cw_Reader_readModule hts (hts _ (rt_m rt_w416)) ⟨Nat.le_of_ble_eq_true rfl, Nat.le_of_ble_eq_true rfl⟩) hK hP hS hX rfl rfl rfl hl.1 rfl (Nat.le_of_ble_eq_true rfl) d_RangeTeller_load_17 ⟨Nat.zero_le _, Nat.zero_le _⟩ (fun H locs hP hS => ?_)
  obtain ⟨σ8, h9, hm⟩ := rt_b1s hm
  refine rt_pf (D := D) (C := "RangeTeller") (T := rt_T0) (N := 7) (ty := .int) hx hb hts rt_i0 rt_y0 rt_o0 rt_n0 hown hK hP hD hS 0 rfl rfl 6 (by decide) (hts _ (rt_m rt_w384)) (fun _ h9 => h9) rfl (by decide +kernel) rfl rfl (Nat.le_of_ble_eq_true rfl) (rtC_s0_6 cI cZ A _ _) h9 d_RangeTeller_load_20 (fun H locs hP hS => ?_)
  refine lv_aload_n hx hb d_RangeTeller_load_23 rfl (lv_at hl 0 rfl) ?_
  refine va_get (D := D) (v := .int (σ8 0 6)) (C := "RangeTeller") (T := rt_T0) (N := 7) hx hb hts rt_i0 hown hK hP 0 rfl rfl 6 (by decide) (hts _ (rt_m rt_w384)) (fun _ h9 => h9) rfl d_RangeTeller_load_24 ?_
  refine lv_bipush (v := (-3)) hx hb d_RangeTeller_load_27 (by decide) ?_
  refine lv_icmp_eq (tgt := 34) hx hb d_RangeTeller_load_29 (by decide) (fun hc => ?_) (fun hc => ?_)
  · have hm := (if_pos hc).symm.trans hm
    refine lv_aload_n hx hb d_RangeTeller_load_34 rfl (lv_at hl 0 rfl) ?_
    refine lv_aload_n hx hb d_RangeTeller_load_35 rfl (lv_at hl 0 rfl) ?_
    refine va_get (D := D) (v := .ref (A 17)) (C := "RangeTeller") (T := rt_T0) (N := 7) hx hb hts rt_i0 hown hK hP 0 rfl rfl 2 (by decide) (hts _ (rt_m rt_w380)) (fun _ h9 => h9) rfl d_RangeTeller_load_36 ?_
    obtain ⟨v12, σ11, h10, hm⟩ := rt_b2s hm
    refine rt_cvi (As := []) (rest := [.ref (A 0)]) (k := 17) rtC_Xo ⟨hx, hb, hml, hown, hts⟩ (k_C_Checker_firstInvalid l D cI cZ A hO σ8 _ _ h10) (cw_Checker_firstInvalid hts (hts _ (rt_m rt_w469)) ⟨Nat.le_of_ble_eq_true rfl, Nat.le_of_ble_eq_true rfl⟩) hK hP hS hX rfl rfl rfl hl.1 rfl (Nat.le_of_ble_eq_true rfl) d_RangeTeller_load_39 ⟨Nat.zero_le _, Nat.zero_le _⟩ (fun H locs hP hS => ?_)
    obtain ⟨σ13, h14, hm⟩ := rt_b1s hm
    refine rt_pf (D := D) (C := "RangeTeller") (T := rt_T0) (N := 7) (ty := .int) hx hb hts rt_i0 rt_y0 rt_o0 rt_n0 hown hK hP hD hS 0 rfl rfl 6 (by decide) (hts _ (rt_m rt_w384)) (fun _ h9 => h9) rfl (by decide +kernel) rfl rfl (Nat.le_of_ble_eq_true rfl) (rtC_s0_6 cI cZ A _ _) h14 d_RangeTeller_load_42 (fun H locs hP hS => ?_)
    refine lv_aload_n hx hb d_RangeTeller_load_45 rfl (lv_at hl 0 rfl) ?_
    refine va_get (D := D) (v := .int (σ13 0 6)) (C := "RangeTeller") (T := rt_T0) (N := 7) hx hb hts rt_i0 hown hK hP 0 rfl rfl 6 (by decide) (hts _ (rt_m rt_w384)) (fun _ h9 => h9) rfl d_RangeTeller_load_46 ?_
    refine lv_bipush (v := (-3)) hx hb d_RangeTeller_load_49 (by decide) ?_
    refine lv_icmp_eq (tgt := 57) hx hb d_RangeTeller_load_51 (by decide) (fun hc => ?_) (fun hc => ?_)
    · have hm := (if_pos hc).symm.trans hm
      refine lv_aload_n hx hb d_RangeTeller_load_57 rfl (lv_at hl 0 rfl) ?_
      refine va_get (D := D) (v := .ref (A 29)) (C := "RangeTeller") (T := rt_T0) (N := 7) hx hb hts rt_i0 hown hK hP 0 rfl rfl 4 (by decide) (hts _ (rt_m rt_w382)) (fun _ h9 => h9) rfl d_RangeTeller_load_58 ?_
      obtain ⟨σ16, h15, hm⟩ := rt_b1s hm
      refine rt_cvv (As := []) (rest := []) (k := 29) rtC_Xo ⟨hx, hb, hml, hown, hts⟩ (k_C_Foreteller_foretell l D cI cZ A hO σ13 _ h15) (cw_Foreteller_foretell hts (hts _ (rt_m rt_w541)) ⟨Nat.le_of_ble_eq_true rfl, Nat.le_of_ble_eq_true rfl⟩) hK hP hS hX rfl rfl rfl hl.1 rfl (Nat.le_of_ble_eq_true rfl) d_RangeTeller_load_61 ⟨Nat.zero_le _, Nat.zero_le _⟩ (fun H locs hP hS => ?_)
      refine lv_aload_n hx hb d_RangeTeller_load_64 rfl (lv_at hl 0 rfl) ?_
      refine lv_iconst (v := 1) hx hb d_RangeTeller_load_65 (by decide) ?_
      obtain ⟨σ17, h18, hm⟩ := rt_b1s hm
      refine rt_pf (D := D) (C := "RangeTeller") (T := rt_T0) (N := 7) (ty := .boolean) hx hb hts rt_i0 rt_y0 rt_o0 rt_n0 hown hK hP hD hS 0 rfl rfl 5 (by decide) (hts _ (rt_m rt_w383)) (fun _ h9 => h9) rfl (by decide +kernel) rfl rfl (Nat.le_of_ble_eq_true rfl) (rtC_s0_5 cI cZ A _ _) h18 d_RangeTeller_load_66 (fun H locs hP hS => ?_)
      refine lv_aload_n hx hb d_RangeTeller_load_69 rfl (lv_at hl 0 rfl) ?_
      refine va_get (D := D) (v := .ref (A 1)) (C := "RangeTeller") (T := rt_T0) (N := 7) hx hb hts rt_i0 hown hK hP 0 rfl rfl 0 (by decide) (hts _ (rt_m rt_w378)) (fun _ h9 => h9) rfl d_RangeTeller_load_70 ?_
      refine va_get (D := D) (v := .int (σ17 1 12)) (C := "RangeTeller$Program") (T := rt_T1) (N := 14) hx hb hts rt_i1 hown hK hP 1 rfl rfl 12 (by decide) (hts _ (rt_m rt_w167)) (fun _ h9 => h9) rfl d_RangeTeller_load_73 ?_
      exact W.iret hx hb hr (fun t ht hW => ⟨⟨_, _, rfl, rt_pr hm, rt_end rtC_Xo hK hP hS hX ht hW⟩, hS.F ht⟩) hS.2.2 d_RangeTeller_load_76
    · have hm := (if_neg hc).symm.trans hm
      refine lv_bipush (v := (-2)) hx hb d_RangeTeller_load_54 (by decide) ?_
      exact W.iret hx hb hr (fun t ht hW => ⟨⟨_, _, rfl, rt_pr hm, rt_end rtC_Xo hK hP hS hX ht hW⟩, hS.F ht⟩) hS.2.2 d_RangeTeller_load_56
  · have hm := (if_neg hc).symm.trans hm
    refine lv_iconst (v := (-1)) hx hb d_RangeTeller_load_32 (by decide) ?_
    exact W.iret hx hb hr (fun t ht hW => ⟨⟨_, _, rfl, rt_pr hm, rt_end rtC_Xo hK hP hS hX ht hW⟩, hS.F ht⟩) hS.2.2 d_RangeTeller_load_33
set_option maxHeartbeats 4000000 in
set_option maxRecDepth 100000 in
theorem k_C_RangeTeller_place (l : Launch) (D : va_G) (cI cZ : ClassId) (A : Nat → Nat) (hO : rt_Ok (rtC_W cI cZ A)) (σ : rt_St) (r' : Int32) (σ' : rt_St) (hm : M_C_RangeTeller_place σ = some (r', σ')) (sz : Nat) : Met l y_RangeTeller_place (rt_ws y_RangeTeller_place b_RangeTeller_place 1 (some .int)) ({ frames := 0, cells := 0, slots := 0, locals := 0 } : Room) (va_Pc [.ref (A 0)] (rt_P D rt_cl (rt_t cI cZ) rtC_X (rtC_W cI cZ A) sz σ)) (va_Qi (fun r1 u1 => r1 = r' ∧ u1 = σ') (rt_B D rt_cl (rt_t cI cZ) rtC_X (rtC_W cI cZ A)) (rt_A (rtC_W cI cZ A) sz)) 0 0 (rt_A (rtC_W cI cZ A) sz) := by
  refine Met.ofW (cc := b_RangeTeller_place) (maxL := 1) (ret := (some .int)) (by decide) rfl ?_
  intro p e s m args below meth c s₁ B hml hv
  obtain ⟨rfl, rfl, hP, hK, hX⟩ := hv
  have hx := B.exec
  have hb := B.bytes
  have hr := B.returns
  have hts := atoms_spec (ws := (rt_ws y_RangeTeller_place b_RangeTeller_place 1 (some .int))) B.pre
  have hown : s.vm.findClass "RangeTeller" = some m.cls := findClass_of_methodNamed B.named
  have hlocks := B.notSynchronized
  have hD := rt_hD hO s.heap.size
  have hS : va_S (rt_A (rtC_W cI cZ A) s.heap.size) s.heap s.heap [] := va_S.rf
  have hl := lv_entry ([.ref (A 0)]) (n := 1) (Nat.le_of_ble_eq_true rfl)
  rw [lg_entry_eq]
  generalize (lg_sl ([.ref (A 0)]) ++ List.replicate (1 - (lg_sl ([.ref (A 0)])).length) Slot.unset).toArray = ls at hl ⊢
  have hl : lv_has ls 1 [(0, .ref (A 0))] := hl
  show W p l e ({ frames := 0, cells := 0, slots := 0, locals := 0 } : Room) s m ([.ref (A 0)] : List Value).toArray below meth c s.heap [] 0 0 (rt_Qi D rt_cl (rt_t cI cZ) rtC_X (rtC_W cI cZ A) below ([.ref (A 0)] : List Value).toArray s r' σ') (F0 m 0 ls [])
  unfold M_C_RangeTeller_place at hm
  refine lv_aload_n hx hb d_RangeTeller_place_0 rfl (lv_at hl 0 rfl) ?_
  refine va_get (D := D) (v := .int (σ 0 6)) (C := "RangeTeller") (T := rt_T0) (N := 7) hx hb hts rt_i0 hown hK hP 0 rfl rfl 6 (by decide) (hts _ (rt_m rt_w384)) (fun _ h9 => h9) rfl d_RangeTeller_place_1 ?_
  exact W.iret hx hb hr (fun t ht hW => ⟨⟨_, _, rfl, rt_pr hm, rt_end rtC_Xo hK hP hS hX ht hW⟩, hS.F ht⟩) hS.2.2 d_RangeTeller_place_4
set_option maxHeartbeats 4000000 in
set_option maxRecDepth 100000 in
theorem k_C_Runner_addInput (l : Launch) (D : va_G) (cI cZ : ClassId) (A : Nat → Nat) (hO : rt_Ok (rtC_W cI cZ A)) (σ : rt_St) (a1 : Int32) (r' : Int32) (σ' : rt_St) (hm : M_C_Runner_addInput σ a1 = some (r', σ')) (sz : Nat) : Met l y_Runner_addInput (rt_ws y_Runner_addInput b_Runner_addInput 2 (some .int)) ({ frames := 0, cells := 0, slots := 0, locals := 0 } : Room) (va_Pc [.ref (A 21), .int a1] (rt_P D rt_cl (rt_t cI cZ) rtC_X (rtC_W cI cZ A) sz σ)) (va_Qi (fun r1 u1 => r1 = r' ∧ u1 = σ') (rt_B D rt_cl (rt_t cI cZ) rtC_X (rtC_W cI cZ A)) (rt_A (rtC_W cI cZ A) sz)) 0 0 (rt_A (rtC_W cI cZ A) sz) := by
  refine Met.ofW (cc := b_Runner_addInput) (maxL := 2) (ret := (some .int)) (by decide) rfl ?_
  intro p e s m args below meth c s₁ B hml hv
  obtain ⟨rfl, rfl, hP, hK, hX⟩ := hv
  have hx := B.exec
  have hb := B.bytes
  have hr := B.returns
  have hts := atoms_spec (ws := (rt_ws y_Runner_addInput b_Runner_addInput 2 (some .int))) B.pre
  have hown : s.vm.findClass "RangeTeller$Runner" = some m.cls := findClass_of_methodNamed B.named
  have hlocks := B.notSynchronized
  have hD := rt_hD hO s.heap.size
  have hS : va_S (rt_A (rtC_W cI cZ A) s.heap.size) s.heap s.heap [] := va_S.rf
  have hl := lv_entry ([.ref (A 21), .int a1]) (n := 2) (Nat.le_of_ble_eq_true rfl)
  rw [lg_entry_eq]
  generalize (lg_sl ([.ref (A 21), .int a1]) ++ List.replicate (2 - (lg_sl ([.ref (A 21), .int a1])).length) Slot.unset).toArray = ls at hl ⊢
  have hl : lv_has ls 2 [(0, .ref (A 21)), (1, .int a1)] := hl
  show W p l e ({ frames := 0, cells := 0, slots := 0, locals := 0 } : Room) s m ([.ref (A 21), .int a1] : List Value).toArray below meth c s.heap [] 0 0 (rt_Qi D rt_cl (rt_t cI cZ) rtC_X (rtC_W cI cZ A) below ([.ref (A 21), .int a1] : List Value).toArray s r' σ') (F0 m 0 ls [])
  unfold M_C_Runner_addInput at hm
  refine lv_iload_n hx hb d_Runner_addInput_0 rfl (lv_at hl 1 rfl) ?_
  refine lv_if_lt (tgt := 19) hx hb d_Runner_addInput_1 (by decide) (fun hc => ?_) (fun hc => ?_)
  · have hm := (if_pos hc).symm.trans hm
    refine lv_bipush (v := (-3)) hx hb d_Runner_addInput_19 (by decide) ?_
    exact W.iret hx hb hr (fun t ht hW => ⟨⟨_, _, rfl, rt_pr hm, rt_end rtC_Xo hK hP hS hX ht hW⟩, hS.F ht⟩) hS.2.2 d_Runner_addInput_21
  · have hm := (if_neg hc).symm.trans hm
    refine lv_iload_n hx hb d_Runner_addInput_4 rfl (lv_at hl 1 rfl) ?_
    refine lv_bipush (v := 64) hx hb d_Runner_addInput_5 (by decide) ?_
    refine lv_icmp_ge (tgt := 19) hx hb d_Runner_addInput_7 (by decide) (fun hc => ?_) (fun hc => ?_)
    · have hm := (if_pos hc).symm.trans hm
      refine lv_bipush (v := (-3)) hx hb d_Runner_addInput_19 (by decide) ?_
      exact W.iret hx hb hr (fun t ht hW => ⟨⟨_, _, rfl, rt_pr hm, rt_end rtC_Xo hK hP hS hX ht hW⟩, hS.F ht⟩) hS.2.2 d_Runner_addInput_21
    · have hm := (if_neg hc).symm.trans hm
      refine lv_aload_n hx hb d_Runner_addInput_10 rfl (lv_at hl 0 rfl) ?_
      refine va_get (D := D) (v := .int (σ 21 2)) (C := "RangeTeller$Runner") (T := rt_T4) (N := 18) hx hb hts rt_i4 hown hK hP 21 rfl rfl 2 (by decide) (hts _ (rt_m rt_w266)) (fun _ h9 => h9) rfl d_Runner_addInput_11 ?_
      refine lv_bipush (v := 12) hx hb d_Runner_addInput_14 (by decide) ?_
      refine lv_icmp_lt (tgt := 22) hx hb d_Runner_addInput_16 (by decide) (fun hc => ?_) (fun hc => ?_)
      · have hm := (if_pos hc).symm.trans hm
        refine lv_aload_n hx hb d_Runner_addInput_22 rfl (lv_at hl 0 rfl) ?_
        refine va_get (D := D) (v := .ref (A 22)) (C := "RangeTeller$Runner") (T := rt_T4) (N := 18) hx hb hts rt_i4 hown hK hP 21 rfl rfl 1 (by decide) (hts _ (rt_m rt_w265)) (fun _ h9 => h9) rfl d_Runner_addInput_23 ?_
        refine lv_aload_n hx hb d_Runner_addInput_26 rfl (lv_at hl 0 rfl) ?_
        refine va_get (D := D) (v := .int (σ 21 2)) (C := "RangeTeller$Runner") (T := rt_T4) (N := 18) hx hb hts rt_i4 hown hK hP 21 rfl rfl 2 (by decide) (hts _ (rt_m rt_w266)) (fun _ h9 => h9) rfl d_Runner_addInput_27 ?_
        refine lv_iload_n hx hb d_Runner_addInput_30 rfl (lv_at hl 1 rfl) ?_
        obtain ⟨σ1, h2, hm⟩ := rt_b1s hm
        refine rt_ast hx hb hK hP hD hS 22 0 rfl (rtC_a22 cI cZ A _) rfl h2 d_Runner_addInput_31 (fun H locs hP hS => ?_)
        refine lv_aload_n hx hb d_Runner_addInput_32 rfl (lv_at hl 0 rfl) ?_
        refine lv_dup hx hb d_Runner_addInput_33 rfl ?_
        refine va_get (D := D) (v := .int (σ1 21 2)) (C := "RangeTeller$Runner") (T := rt_T4) (N := 18) hx hb hts rt_i4 hown hK hP 21 rfl rfl 2 (by decide) (hts _ (rt_m rt_w266)) (fun _ h9 => h9) rfl d_Runner_addInput_34 ?_
        refine lv_iconst (v := 1) hx hb d_Runner_addInput_37 (by decide) ?_
        refine lv_iadd hx hb d_Runner_addInput_38 ?_
        obtain ⟨σ3, h4, hm⟩ := rt_b1s hm
        refine rt_pf (D := D) (C := "RangeTeller$Runner") (T := rt_T4) (N := 18) (ty := .int) hx hb hts rt_i4 rt_y4 rt_o4 rt_n4 hown hK hP hD hS 21 rfl rfl 2 (by decide) (hts _ (rt_m rt_w266)) (fun _ h9 => h9) rfl (by decide +kernel) rfl rfl (Nat.le_of_ble_eq_true rfl) (rtC_s21_2 cI cZ A _ _) h4 d_Runner_addInput_39 (fun H locs hP hS => ?_)
        refine lv_aload_n hx hb d_Runner_addInput_42 rfl (lv_at hl 0 rfl) ?_
        refine va_get (D := D) (v := .int (σ3 21 2)) (C := "RangeTeller$Runner") (T := rt_T4) (N := 18) hx hb hts rt_i4 hown hK hP 21 rfl rfl 2 (by decide) (hts _ (rt_m rt_w266)) (fun _ h9 => h9) rfl d_Runner_addInput_43 ?_
        exact W.iret hx hb hr (fun t ht hW => ⟨⟨_, _, rfl, rt_pr hm, rt_end rtC_Xo hK hP hS hX ht hW⟩, hS.F ht⟩) hS.2.2 d_Runner_addInput_46
      · have hm := (if_neg hc).symm.trans hm
        refine lv_bipush (v := (-3)) hx hb d_Runner_addInput_19 (by decide) ?_
        exact W.iret hx hb hr (fun t ht hW => ⟨⟨_, _, rfl, rt_pr hm, rt_end rtC_Xo hK hP hS hX ht hW⟩, hS.F ht⟩) hS.2.2 d_Runner_addInput_21
set_option maxHeartbeats 4000000 in
set_option maxRecDepth 100000 in
theorem k_C_RangeTeller_input (l : Launch) (D : va_G) (cI cZ : ClassId) (A : Nat → Nat) (hO : rt_Ok (rtC_W cI cZ A)) (σ : rt_St) (a1 : Int32) (r' : Int32) (σ' : rt_St) (hm : M_C_RangeTeller_input σ a1 = some (r', σ')) (sz : Nat) : Met l y_RangeTeller_input (rt_ws y_RangeTeller_input b_RangeTeller_input 2 (some .int)) ({ frames := 1, cells := 0, slots := 0, locals := 21 } : Room) (va_Pc [.ref (A 0), .int a1] (rt_P D rt_cl (rt_t cI cZ) rtC_X (rtC_W cI cZ A) sz σ)) (va_Qi (fun r1 u1 => r1 = r' ∧ u1 = σ') (rt_B D rt_cl (rt_t cI cZ) rtC_X (rtC_W cI cZ A)) (rt_A (rtC_W cI cZ A) sz)) 0 0 (rt_A (rtC_W cI cZ A) sz) := by
  refine Met.ofW (cc := b_RangeTeller_input) (maxL := 2) (ret := (some .int)) (by decide) rfl ?_
  intro p e s m args below meth c s₁ B hml hv
  obtain ⟨rfl, rfl, hP, hK, hX⟩ := hv
  have hx := B.exec
  have hb := B.bytes
  have hr := B.returns
  have hts := atoms_spec (ws := (rt_ws y_RangeTeller_input b_RangeTeller_input 2 (some .int))) B.pre
  have hown : s.vm.findClass "RangeTeller" = some m.cls := findClass_of_methodNamed B.named
  have hlocks := B.notSynchronized
  have hD := rt_hD hO s.heap.size
  have hS : va_S (rt_A (rtC_W cI cZ A) s.heap.size) s.heap s.heap [] := va_S.rf
  have hl := lv_entry ([.ref (A 0), .int a1]) (n := 2) (Nat.le_of_ble_eq_true rfl)
  rw [lg_entry_eq]
  generalize (lg_sl ([.ref (A 0), .int a1]) ++ List.replicate (2 - (lg_sl ([.ref (A 0), .int a1])).length) Slot.unset).toArray = ls at hl ⊢
  have hl : lv_has ls 2 [(0, .ref (A 0)), (1, .int a1)] := hl
  show W p l e ({ frames := 1, cells := 0, slots := 0, locals := 21 } : Room) s m ([.ref (A 0), .int a1] : List Value).toArray below meth c s.heap [] 0 0 (rt_Qi D rt_cl (rt_t cI cZ) rtC_X (rtC_W cI cZ A) below ([.ref (A 0), .int a1] : List Value).toArray s r' σ') (F0 m 0 ls [])
  unfold M_C_RangeTeller_input at hm
  refine lv_aload_n hx hb d_RangeTeller_input_0 rfl (lv_at hl 0 rfl) ?_
  refine va_get (D := D) (v := .ref (A 21)) (C := "RangeTeller") (T := rt_T0) (N := 7) hx hb hts rt_i0 hown hK hP 0 rfl rfl 3 (by decide) (hts _ (rt_m rt_w381)) (fun _ h9 => h9) rfl d_RangeTeller_input_1 ?_
  refine lv_iload_n hx hb d_RangeTeller_input_4 rfl (lv_at hl 1 rfl) ?_
  obtain ⟨v3, σ2, h1, hm⟩ := rt_b2s hm
  refine rt_cvi (As := [.int a1]) (rest := []) (k := 21) rtC_Xo ⟨hx, hb, hml, hown, hts⟩ (k_C_Runner_addInput l D cI cZ A hO σ a1 _ _ h1) (cw_Runner_addInput hts (hts _ (rt_m rt_w706)) ⟨Nat.le_of_ble_eq_true rfl, Nat.le_of_ble_eq_true rfl⟩) hK hP hS hX rfl rfl rfl hl.1 rfl (Nat.le_of_ble_eq_true rfl) d_RangeTeller_input_5 ⟨Nat.zero_le _, Nat.zero_le _⟩ (fun H locs hP hS => ?_)
  exact W.iret hx hb hr (fun t ht hW => ⟨⟨_, _, rfl, rt_pr hm, rt_end rtC_Xo hK hP hS hX ht hW⟩, hS.F ht⟩) hS.2.2 d_RangeTeller_input_8
set_option maxHeartbeats 4000000 in
set_option maxRecDepth 100000 in
theorem k_C_Arrays_fill_23 (l : Launch) (D : va_G) (cI cZ : ClassId) (A : Nat → Nat) (hO : rt_Ok (rtC_W cI cZ A)) (σ : rt_St) (a1 : Int32) (σ' : rt_St) (hm : M_C_Arrays_fill_23 σ a1 = some σ') (sz : Nat) : Met l y_Arrays_fill (rt_ws y_Arrays_fill b_Arrays_fill 4 none) ({ frames := 0, cells := 0, slots := 0, locals := 0 } : Room) (va_Pc [.ref (A 23), .int a1] (rt_P D rt_cl (rt_t cI cZ) rtC_X (rtC_W cI cZ A) sz σ)) (va_Qv (fun u1 => u1 = σ') (rt_B D rt_cl (rt_t cI cZ) rtC_X (rtC_W cI cZ A)) (rt_A (rtC_W cI cZ A) sz)) 0 0 (rt_A (rtC_W cI cZ A) sz) := by
  refine rt_ofW (cc := b_Arrays_fill) (maxL := 4) (ret := none) (by decide +kernel) rfl ?_
  intro p e s m args below meth c s₁ B hml hv
  obtain ⟨rfl, rfl, hP, hK, hX⟩ := hv
  have hx := B.exec
  have hb := B.bytes
  have hr := B.returns
  have hts := atoms_spec (ws := (rt_ws y_Arrays_fill b_Arrays_fill 4 none)) B.pre
  have hown : s.vm.findClass "java/util/Arrays" = some m.cls := findClass_of_methodNamed B.named
  have hlocks := B.notSynchronized
  have hD := rt_hD hO s.heap.size
  have hS : va_S (rt_A (rtC_W cI cZ A) s.heap.size) s.heap s.heap [] := va_S.rf
  have hl := lv_entry ([.ref (A 23), .int a1]) (n := 4) (Nat.le_of_ble_eq_true rfl)
  rw [lg_entry_eq]
  generalize (lg_sl ([.ref (A 23), .int a1]) ++ List.replicate (4 - (lg_sl ([.ref (A 23), .int a1])).length) Slot.unset).toArray = ls at hl ⊢
  have hl : lv_has ls 4 [(0, .ref (A 23)), (1, .int a1)] := hl
  show W p l e ({ frames := 0, cells := 0, slots := 0, locals := 0 } : Room) s m ([.ref (A 23), .int a1] : List Value).toArray below meth c s.heap [] 0 0 (rt_Qv D rt_cl (rt_t cI cZ) rtC_X (rtC_W cI cZ A) below ([.ref (A 23), .int a1] : List Value).toArray s σ') (F0 m 0 ls [])
  have hB5 : ∀ (n5 : Nat) (ls : Array Slot) (l1 l2 l3 : Int32) (σ : rt_St) (H : Heap) (locs : List Loc), lv_has ls 4 [(0, .ref (A 23)), (1, .int l1), (2, .int l2), (3, .int l3)] → B_C_Arrays_fill_23_5 n5 l1 l2 l3 σ = some σ' → va_P D rt_cl (rtC_W cI cZ A σ) H → va_S (rt_A (rtC_W cI cZ A) s.heap.size) s.heap H locs → W p l e ({ frames := 0, cells := 0, slots := 0, locals := 0 } : Room) s m ([.ref (A 23), .int a1] : List Value).toArray below meth c H locs 0 0 (rt_Qv D rt_cl (rt_t cI cZ) rtC_X (rtC_W cI cZ A) below ([.ref (A 23), .int a1] : List Value).toArray s σ') (F0 m 5 ls []) := by
    intro n5
    induction n5 with
    | zero => intro ls l1 l2 l3 σ H locs hl hm hP hS; rw [B_C_Arrays_fill_23_5] at hm; cases hm
    | succ n5 ih5 =>
      intro ls l1 l2 l3 σ H locs hl hm hP hS
      rw [B_C_Arrays_fill_23_5] at hm
      refine lv_iload_n hx hb d_Arrays_fill_5 rfl (lv_at hl 2 rfl) ?_
      refine lv_iload_n hx hb d_Arrays_fill_6 rfl (lv_at hl 3 rfl) ?_
      refine lv_icmp_ge (tgt := 20) hx hb d_Arrays_fill_7 (by decide) (fun hc => ?_) (fun hc => ?_)
      · have hm := (if_pos hc).symm.trans hm
        exact W.vret hx hb hr (fun t ht hW => ⟨⟨_, rfl, Option.some.inj hm, rt_end rtC_Xo hK hP hS hX ht hW⟩, hS.F ht⟩) hS.2.2 d_Arrays_fill_20
      · have hm := (if_neg hc).symm.trans hm
        refine lv_aload_n hx hb d_Arrays_fill_10 rfl (lv_at hl 0 rfl) ?_
        refine lv_iload_n hx hb d_Arrays_fill_11 rfl (lv_at hl 2 rfl) ?_
        refine lv_iload_n hx hb d_Arrays_fill_12 rfl (lv_at hl 1 rfl) ?_
        obtain ⟨σ1, h2, hm⟩ := rt_b1s hm
        refine rt_ast hx hb hK hP hD hS 23 0 rfl (rtC_a23 cI cZ A _) rfl h2 d_Arrays_fill_13 (fun H locs hP hS => ?_)
        refine lv_iinc (k := 2) (v := (l2 + 1)) hx hb d_Arrays_fill_14 hl rfl rfl (by decide) rfl (fun ls hl => ?_)
        have hl : lv_has ls 4 [(2, .int (l2 + 1)), (0, .ref (A 23)), (1, .int l1), (3, .int l3)] := hl
        refine lv_goto (tgt := 5) hx hb d_Arrays_fill_17 (by decide) ?_
        exact ih5 ls l1 (l2 + 1) l3 σ1 _ _ (lv_sub hl [1, 2, 0, 3] rfl) hm hP hS
  unfold M_C_Arrays_fill_23 at hm
  refine lv_iconst (v := 0) hx hb d_Arrays_fill_0 (by decide) ?_
  refine lv_istore_n hx hb d_Arrays_fill_1 rfl hl (by decide) rfl (fun ls hl => ?_)
  have hl : lv_has ls 4 [(2, .int 0), (0, .ref (A 23)), (1, .int a1)] := hl
  refine lv_aload_n hx hb d_Arrays_fill_2 rfl (lv_at hl 1 rfl) ?_
  refine va_alen (v := 16) hx hb hK hP 23 0 rfl rfl rfl d_Arrays_fill_3 ?_
  refine lv_istore_n hx hb d_Arrays_fill_4 rfl hl (by decide) rfl (fun ls hl => ?_)
  have hl : lv_has ls 4 [(3, .int 16), (2, .int 0), (0, .ref (A 23)), (1, .int a1)] := hl
  exact hB5 _ ls a1 0 16 σ _ _ (lv_sub hl [2, 3, 1, 0] rfl) hm hP hS
set_option maxHeartbeats 4000000 in
set_option maxRecDepth 100000 in
theorem k_C_Runner_enter (l : Launch) (D : va_G) (cI cZ : ClassId) (A : Nat → Nat) (hO : rt_Ok (rtC_W cI cZ A)) (σ : rt_St) (a1 : Int32) (σ' : rt_St) (hm : M_C_Runner_enter σ a1 = some σ') (sz : Nat) : Met l y_Runner_enter (rt_ws y_Runner_enter b_Runner_enter 4 none) ({ frames := 0, cells := 0, slots := 0, locals := 0 } : Room) (va_Pc [.ref (A 21), .int a1] (rt_P D rt_cl (rt_t cI cZ) rtC_X (rtC_W cI cZ A) sz σ)) (va_Qv (fun u1 => u1 = σ') (rt_B D rt_cl (rt_t cI cZ) rtC_X (rtC_W cI cZ A)) (rt_A (rtC_W cI cZ A) sz)) 0 0 (rt_A (rtC_W cI cZ A) sz) := by
  refine Met.ofW (cc := b_Runner_enter) (maxL := 4) (ret := none) (by decide) rfl ?_
  intro p e s m args below meth c s₁ B hml hv
  obtain ⟨rfl, rfl, hP, hK, hX⟩ := hv
  have hx := B.exec
  have hb := B.bytes
  have hr := B.returns
  have hts := atoms_spec (ws := (rt_ws y_Runner_enter b_Runner_enter 4 none)) B.pre
  have hown : s.vm.findClass "RangeTeller$Runner" = some m.cls := findClass_of_methodNamed B.named
  have hlocks := B.notSynchronized
  have hD := rt_hD hO s.heap.size
  have hS : va_S (rt_A (rtC_W cI cZ A) s.heap.size) s.heap s.heap [] := va_S.rf
  have hl := lv_entry ([.ref (A 21), .int a1]) (n := 4) (Nat.le_of_ble_eq_true rfl)
  rw [lg_entry_eq]
  generalize (lg_sl ([.ref (A 21), .int a1]) ++ List.replicate (4 - (lg_sl ([.ref (A 21), .int a1])).length) Slot.unset).toArray = ls at hl ⊢
  have hl : lv_has ls 4 [(0, .ref (A 21)), (1, .int a1)] := hl
  show W p l e ({ frames := 0, cells := 0, slots := 0, locals := 0 } : Room) s m ([.ref (A 21), .int a1] : List Value).toArray below meth c s.heap [] 0 0 (rt_Qv D rt_cl (rt_t cI cZ) rtC_X (rtC_W cI cZ A) below ([.ref (A 21), .int a1] : List Value).toArray s σ') (F0 m 0 ls [])
  have hB35 : ∀ (n35 : Nat) (ls : Array Slot) (l1 l2 l3 : Int32) (σ : rt_St) (H : Heap) (locs : List Loc), lv_has ls 4 [(0, .ref (A 21)), (1, .int l1), (2, .int l2), (3, .int l3)] → B_C_Runner_enter_35 n35 l1 l2 l3 σ = some σ' → va_P D rt_cl (rtC_W cI cZ A σ) H → va_S (rt_A (rtC_W cI cZ A) s.heap.size) s.heap H locs → W p l e ({ frames := 0, cells := 0, slots := 0, locals := 0 } : Room) s m ([.ref (A 21), .int a1] : List Value).toArray below meth c H locs 0 0 (rt_Qv D rt_cl (rt_t cI cZ) rtC_X (rtC_W cI cZ A) below ([.ref (A 21), .int a1] : List Value).toArray s σ') (F0 m 35 ls []) := by
    intro n35
    induction n35 with
    | zero => intro ls l1 l2 l3 σ H locs hl hm hP hS; rw [B_C_Runner_enter_35] at hm; cases hm
    | succ n35 ih35 =>
      have hB72 : ∀ (ls : Array Slot) (l1 l2 l3 t0 t1 : Int32) (σ : rt_St) (H : Heap) (locs : List Loc), lv_has ls 4 [(0, .ref (A 21)), (1, .int l1), (2, .int l2), (3, .int l3)] → B_C_Runner_enter_72 (B_C_Runner_enter_35 n35) l1 l2 l3 t0 t1 σ = some σ' → va_P D rt_cl (rtC_W cI cZ A σ) H → va_S (rt_A (rtC_W cI cZ A) s.heap.size) s.heap H locs → W p l e ({ frames := 0, cells := 0, slots := 0, locals := 0 } : Room) s m ([.ref (A 21), .int a1] : List Value).toArray below meth c H locs 0 0 (rt_Qv D rt_cl (rt_t cI cZ) rtC_X (rtC_W cI cZ A) below ([.ref (A 21), .int a1] : List Value).toArray s σ') (F0 m 72 ls [.int t0, .int t1, .ref (A 26)]) := by
        intro ls l1 l2 l3 t0 t1 σ H locs hl hm hP hS
        unfold B_C_Runner_enter_72 at hm
        obtain ⟨σ1, h2, hm⟩ := rt_b1s hm
        refine rt_ast hx hb hK hP hD hS 26 0 rfl (rtC_a26 cI cZ A _) rfl h2 d_Runner_enter_72 (fun H locs hP hS => ?_)
        refine lv_iinc (k := 3) (v := (l3 + 1)) hx hb d_Runner_enter_73 hl rfl rfl (by decide) rfl (fun ls hl => ?_)
        have hl : lv_has ls 4 [(3, .int (l3 + 1)), (0, .ref (A 21)), (1, .int l1), (2, .int l2)] := hl
        refine lv_goto (tgt := 35) hx hb d_Runner_enter_76 (by decide) ?_
        exact ih35 ls l1 l2 (l3 + 1) σ1 _ _ (lv_sub hl [1, 2, 3, 0] rfl) hm hP hS
      intro ls l1 l2 l3 σ H locs hl hm hP hS
      rw [B_C_Runner_enter_35] at hm
      refine lv_iload_n hx hb d_Runner_enter_35 rfl (lv_at hl 3 rfl) ?_
      refine lv_iconst (v := 4) hx hb d_Runner_enter_36 (by decide) ?_
      refine lv_icmp_ge (tgt := 79) hx hb d_Runner_enter_37 (by decide) (fun hc => ?_) (fun hc => ?_)
      · have hm := (if_pos hc).symm.trans hm
        refine lv_aload_n hx hb d_Runner_enter_79 rfl (lv_at hl 0 rfl) ?_
        refine lv_aload_n hx hb d_Runner_enter_80 rfl (lv_at hl 0 rfl) ?_
        refine va_get (D := D) (v := .ref (A 1)) (C := "RangeTeller$Runner") (T := rt_T4) (N := 18) hx hb hts rt_i4 hown hK hP 21 rfl rfl 0 (by decide) (hts _ (rt_m rt_w264)) (fun _ h9 => h9) rfl d_Runner_enter_81 ?_
        refine va_get (D := D) (v := .ref (A 10)) (C := "RangeTeller$Program") (T := rt_T1) (N := 14) hx hb hts rt_i1 hown hK hP 1 rfl rfl 8 (by decide) (hts _ (rt_m rt_w150)) (fun _ h9 => h9) rfl d_Runner_enter_84 ?_
        refine lv_iload_n hx hb d_Runner_enter_87 rfl (lv_at hl 1 rfl) ?_
        obtain ⟨v3, h4, hm⟩ := rt_b1s hm
        refine rt_ald hx hb hK hP 10 0 rfl rfl h4 d_Runner_enter_88 ?_
        obtain ⟨σ5, h6, hm⟩ := rt_b1s hm
        refine rt_pf (D := D) (C := "RangeTeller$Runner") (T := rt_T4) (N := 18) (ty := .int) hx hb hts rt_i4 rt_y4 rt_o4 rt_n4 hown hK hP hD hS 21 rfl rfl 9 (by decide) (hts _ (rt_m rt_w278)) (fun _ h9 => h9) rfl (by decide +kernel) rfl rfl (Nat.le_of_ble_eq_true rfl) (rtC_s21_9 cI cZ A _ _) h6 d_Runner_enter_89 (fun H locs hP hS => ?_)
        exact W.vret hx hb hr (fun t ht hW => ⟨⟨_, rfl, Option.some.inj hm, rt_end rtC_Xo hK hP hS hX ht hW⟩, hS.F ht⟩) hS.2.2 d_Runner_enter_92
      · have hm := (if_neg hc).symm.trans hm
        refine lv_aload_n hx hb d_Runner_enter_40 rfl (lv_at hl 0 rfl) ?_
        refine va_get (D := D) (v := .ref (A 26)) (C := "RangeTeller$Runner") (T := rt_T4) (N := 18) hx hb hts rt_i4 hown hK hP 21 rfl rfl 13 (by decide) (hts _ (rt_m rt_w285)) (fun _ h9 => h9) rfl d_Runner_enter_41 ?_
        refine lv_aload_n hx hb d_Runner_enter_44 rfl (lv_at hl 0 rfl) ?_
        refine va_get (D := D) (v := .int (σ 21 16)) (C := "RangeTeller$Runner") (T := rt_T4) (N := 18) hx hb hts rt_i4 hown hK hP 21 rfl rfl 16 (by decide) (hts _ (rt_m rt_w288)) (fun _ h9 => h9) rfl d_Runner_enter_45 ?_
        refine lv_iconst (v := 4) hx hb d_Runner_enter_48 (by decide) ?_
        refine lv_imul hx hb d_Runner_enter_49 ?_
        refine lv_iload_n hx hb d_Runner_enter_50 rfl (lv_at hl 3 rfl) ?_
        refine lv_iadd hx hb d_Runner_enter_51 ?_
        refine lv_iload_n hx hb d_Runner_enter_52 rfl (lv_at hl 3 rfl) ?_
        refine lv_iload_n hx hb d_Runner_enter_53 rfl (lv_at hl 2 rfl) ?_
        refine lv_icmp_ge (tgt := 71) hx hb d_Runner_enter_54 (by decide) (fun hc => ?_) (fun hc => ?_)
        · have hm := (if_pos hc).symm.trans hm
          refine lv_iconst (v := 0) hx hb d_Runner_enter_71 (by decide) ?_
          exact hB72 ls l1 l2 l3 0 (((σ 21 16) * 4) + l3) σ _ _ (lv_sub hl [0, 1, 2, 3] rfl) hm hP hS
        · have hm := (if_neg hc).symm.trans hm
          refine lv_aload_n hx hb d_Runner_enter_57 rfl (lv_at hl 0 rfl) ?_
          refine va_get (D := D) (v := .ref (A 25)) (C := "RangeTeller$Runner") (T := rt_T4) (N := 18) hx hb hts rt_i4 hown hK hP 21 rfl rfl 12 (by decide) (hts _ (rt_m rt_w284)) (fun _ h9 => h9) rfl d_Runner_enter_58 ?_
          refine lv_aload_n hx hb d_Runner_enter_61 rfl (lv_at hl 0 rfl) ?_
          refine va_get (D := D) (v := .int (σ 21 17)) (C := "RangeTeller$Runner") (T := rt_T4) (N := 18) hx hb hts rt_i4 hown hK hP 21 rfl rfl 17 (by decide) (hts _ (rt_m rt_w289)) (fun _ h9 => h9) rfl d_Runner_enter_62 ?_
          refine lv_iload_n hx hb d_Runner_enter_65 rfl (lv_at hl 3 rfl) ?_
          refine lv_iadd hx hb d_Runner_enter_66 ?_
          obtain ⟨v7, h8, hm⟩ := rt_b1s hm
          refine rt_ald hx hb hK hP 25 0 rfl rfl h8 d_Runner_enter_67 ?_
          refine lv_goto (tgt := 72) hx hb d_Runner_enter_68 (by decide) ?_
          exact hB72 ls l1 l2 l3 v7 (((σ 21 16) * 4) + l3) σ _ _ (lv_sub hl [0, 1, 2, 3] rfl) hm hP hS
  unfold M_C_Runner_enter at hm
  refine lv_aload_n hx hb d_Runner_enter_0 rfl (lv_at hl 0 rfl) ?_
  refine va_get (D := D) (v := .ref (A 1)) (C := "RangeTeller$Runner") (T := rt_T4) (N := 18) hx hb hts rt_i4 hown hK hP 21 rfl rfl 0 (by decide) (hts _ (rt_m rt_w264)) (fun _ h9 => h9) rfl d_Runner_enter_1 ?_
  refine va_get (D := D) (v := .ref (A 11)) (C := "RangeTeller$Program") (T := rt_T1) (N := 14) hx hb hts rt_i1 hown hK hP 1 rfl rfl 9 (by decide) (hts _ (rt_m rt_w154)) (fun _ h9 => h9) rfl d_Runner_enter_4 ?_
  refine lv_iload_n hx hb d_Runner_enter_7 rfl (lv_at hl 1 rfl) ?_
  obtain ⟨v9, h10, hm⟩ := rt_b1s hm
  refine rt_ald hx hb hK hP 11 0 rfl rfl h10 d_Runner_enter_8 ?_
  refine lv_istore_n hx hb d_Runner_enter_9 rfl hl (by decide) rfl (fun ls hl => ?_)
  have hl : lv_has ls 4 [(2, .int v9), (0, .ref (A 21)), (1, .int a1)] := hl
  refine lv_aload_n hx hb d_Runner_enter_10 rfl (lv_at hl 1 rfl) ?_
  refine lv_dup hx hb d_Runner_enter_11 rfl ?_
  refine va_get (D := D) (v := .int (σ 21 17)) (C := "RangeTeller$Runner") (T := rt_T4) (N := 18) hx hb hts rt_i4 hown hK hP 21 rfl rfl 17 (by decide) (hts _ (rt_m rt_w289)) (fun _ h9 => h9) rfl d_Runner_enter_12 ?_
  refine lv_iload_n hx hb d_Runner_enter_15 rfl (lv_at hl 0 rfl) ?_
  refine lv_isub hx hb d_Runner_enter_16 ?_
  obtain ⟨σ11, h12, hm⟩ := rt_b1s hm
  refine rt_pf (D := D) (C := "RangeTeller$Runner") (T := rt_T4) (N := 18) (ty := .int) hx hb hts rt_i4 rt_y4 rt_o4 rt_n4 hown hK hP hD hS 21 rfl rfl 17 (by decide) (hts _ (rt_m rt_w289)) (fun _ h9 => h9) rfl (by decide +kernel) rfl rfl (Nat.le_of_ble_eq_true rfl) (rtC_s21_17 cI cZ A _ _) h12 d_Runner_enter_17 (fun H locs hP hS => ?_)
  refine lv_aload_n hx hb d_Runner_enter_20 rfl (lv_at hl 1 rfl) ?_
  refine va_get (D := D) (v := .ref (A 27)) (C := "RangeTeller$Runner") (T := rt_T4) (N := 18) hx hb hts rt_i4 hown hK hP 21 rfl rfl 14 (by decide) (hts _ (rt_m rt_w286)) (fun _ h9 => h9) rfl d_Runner_enter_21 ?_
  refine lv_aload_n hx hb d_Runner_enter_24 rfl (lv_at hl 1 rfl) ?_
  refine va_get (D := D) (v := .int (σ11 21 16)) (C := "RangeTeller$Runner") (T := rt_T4) (N := 18) hx hb hts rt_i4 hown hK hP 21 rfl rfl 16 (by decide) (hts _ (rt_m rt_w288)) (fun _ h9 => h9) rfl d_Runner_enter_25 ?_
  refine lv_aload_n hx hb d_Runner_enter_28 rfl (lv_at hl 1 rfl) ?_
  refine va_get (D := D) (v := .int (σ11 21 17)) (C := "RangeTeller$Runner") (T := rt_T4) (N := 18) hx hb hts rt_i4 hown hK hP 21 rfl rfl 17 (by decide) (hts _ (rt_m rt_w289)) (fun _ h9 => h9) rfl d_Runner_enter_29 ?_
  obtain ⟨σ13, h14, hm⟩ := rt_b1s hm
  refine rt_ast hx hb hK hP hD hS 27 0 rfl (rtC_a27 cI cZ A _) rfl h14 d_Runner_enter_32 (fun H locs hP hS => ?_)
  refine lv_iconst (v := 0) hx hb d_Runner_enter_33 (by decide) ?_
  refine lv_istore_n hx hb d_Runner_enter_34 rfl hl (by decide) rfl (fun ls hl => ?_)
  have hl : lv_has ls 4 [(3, .int 0), (2, .int v9), (0, .ref (A 21)), (1, .int a1)] := hl
  exact hB35 _ ls a1 v9 0 σ13 _ _ (lv_sub hl [2, 3, 1, 0] rfl) hm hP hS
set_option maxHeartbeats 4000000 in
set_option maxRecDepth 100000 in
theorem k_C_Runner_begin (l : Launch) (D : va_G) (cI cZ : ClassId) (A : Nat → Nat) (hO : rt_Ok (rtC_W cI cZ A)) (σ : rt_St) (a1 a2 : Int32) (σ' : rt_St) (hm : M_C_Runner_begin σ a1 a2 = some σ') (sz : Nat) : Met l y_Runner_begin (rt_ws y_Runner_begin b_Runner_begin 3 none) ({ frames := 1, cells := 0, slots := 0, locals := 23 } : Room) (va_Pc [.ref (A 21), .int a1, .int a2] (rt_P D rt_cl (rt_t cI cZ) rtC_X (rtC_W cI cZ A) sz σ)) (va_Qv (fun u1 => u1 = σ') (rt_B D rt_cl (rt_t cI cZ) rtC_X (rtC_W cI cZ A)) (rt_A (rtC_W cI cZ A) sz)) 0 0 (rt_A (rtC_W cI cZ A) sz) := by
  refine Met.ofW (cc := b_Runner_begin) (maxL := 3) (ret := none) (by decide) rfl ?_
  intro p e s m args below meth c s₁ B hml hv
  obtain ⟨rfl, rfl, hP, hK, hX⟩ := hv
  have hx := B.exec
  have hb := B.bytes
  have hr := B.returns
  have hts := atoms_spec (ws := (rt_ws y_Runner_begin b_Runner_begin 3 none)) B.pre
  have hown : s.vm.findClass "RangeTeller$Runner" = some m.cls := findClass_of_methodNamed B.named
  have hlocks := B.notSynchronized
  have hD := rt_hD hO s.heap.size
  have hS : va_S (rt_A (rtC_W cI cZ A) s.heap.size) s.heap s.heap [] := va_S.rf
  have hl := lv_entry ([.ref (A 21), .int a1, .int a2]) (n := 3) (Nat.le_of_ble_eq_true rfl)
  rw [lg_entry_eq]
  generalize (lg_sl ([.ref (A 21), .int a1, .int a2]) ++ List.replicate (3 - (lg_sl ([.ref (A 21), .int a1, .int a2])).length) Slot.unset).toArray = ls at hl ⊢
  have hl : lv_has ls 3 [(0, .ref (A 21)), (1, .int a1), (2, .int a2)] := hl
  show W p l e ({ frames := 1, cells := 0, slots := 0, locals := 23 } : Room) s m ([.ref (A 21), .int a1, .int a2] : List Value).toArray below meth c s.heap [] 0 0 (rt_Qv D rt_cl (rt_t cI cZ) rtC_X (rtC_W cI cZ A) below ([.ref (A 21), .int a1, .int a2] : List Value).toArray s σ') (F0 m 0 ls [])
  unfold M_C_Runner_begin at hm
  refine lv_aload_n hx hb d_Runner_begin_0 rfl (lv_at hl 0 rfl) ?_
  refine va_get (D := D) (v := .ref (A 23)) (C := "RangeTeller$Runner") (T := rt_T4) (N := 18) hx hb hts rt_i4 hown hK hP 21 rfl rfl 4 (by decide) (hts _ (rt_m rt_w268)) (fun _ h9 => h9) rfl d_Runner_begin_1 ?_
  refine lv_iconst (v := 0) hx hb d_Runner_begin_4 (by decide) ?_
  obtain ⟨σ2, h1, hm⟩ := rt_b1s hm
  refine rt_cwv (As := [.ref (A 23), .int 0]) (rest := []) rtC_Xo ⟨hx, hb, hml, hown, hts⟩ (k_C_Arrays_fill_23 l D cI cZ A hO σ 0 _ h1) (cw_Arrays_fill hts (hts _ (rt_m rt_w725)) ⟨Nat.le_of_ble_eq_true rfl, Nat.le_of_ble_eq_true rfl⟩) hK hP hS hX rfl hl.1 rfl (Nat.le_of_ble_eq_true rfl) d_Runner_begin_5 ⟨Nat.zero_le _, Nat.zero_le _⟩ (fun H locs hP hS => ?_)
  refine lv_aload_n hx hb d_Runner_begin_8 rfl (lv_at hl 0 rfl) ?_
  refine lv_iconst (v := 1) hx hb d_Runner_begin_9 (by decide) ?_
  obtain ⟨σ3, h4, hm⟩ := rt_b1s hm
  refine rt_pf (D := D) (C := "RangeTeller$Runner") (T := rt_T4) (N := 18) (ty := .boolean) hx hb hts rt_i4 rt_y4 rt_o4 rt_n4 hown hK hP hD hS 21 rfl rfl 7 (by decide) (hts _ (rt_m rt_w274)) (fun _ h9 => h9) rfl (by decide +kernel) rfl rfl (Nat.le_of_ble_eq_true rfl) (rtC_s21_7 cI cZ A _ _) h4 d_Runner_begin_10 (fun H locs hP hS => ?_)
  refine lv_aload_n hx hb d_Runner_begin_13 rfl (lv_at hl 0 rfl) ?_
  refine lv_bipush (v := 6) hx hb d_Runner_begin_14 (by decide) ?_
  obtain ⟨σ5, h6, hm⟩ := rt_b1s hm
  refine rt_pf (D := D) (C := "RangeTeller$Runner") (T := rt_T4) (N := 18) (ty := .int) hx hb hts rt_i4 rt_y4 rt_o4 rt_n4 hown hK hP hD hS 21 rfl rfl 8 (by decide) (hts _ (rt_m rt_w276)) (fun _ h9 => h9) rfl (by decide +kernel) rfl rfl (Nat.le_of_ble_eq_true rfl) (rtC_s21_8 cI cZ A _ _) h6 d_Runner_begin_16 (fun H locs hP hS => ?_)
  refine lv_aload_n hx hb d_Runner_begin_19 rfl (lv_at hl 0 rfl) ?_
  refine lv_iconst (v := 0) hx hb d_Runner_begin_20 (by decide) ?_
  obtain ⟨σ7, h8, hm⟩ := rt_b1s hm
  refine rt_pf (D := D) (C := "RangeTeller$Runner") (T := rt_T4) (N := 18) (ty := .int) hx hb hts rt_i4 rt_y4 rt_o4 rt_n4 hown hK hP hD hS 21 rfl rfl 10 (by decide) (hts _ (rt_m rt_w280)) (fun _ h9 => h9) rfl (by decide +kernel) rfl rfl (Nat.le_of_ble_eq_true rfl) (rtC_s21_10 cI cZ A _ _) h8 d_Runner_begin_21 (fun H locs hP hS => ?_)
  refine lv_aload_n hx hb d_Runner_begin_24 rfl (lv_at hl 0 rfl) ?_
  refine lv_bipush (v := (-3)) hx hb d_Runner_begin_25 (by decide) ?_
  obtain ⟨σ9, h10, hm⟩ := rt_b1s hm
  refine rt_pf (D := D) (C := "RangeTeller$Runner") (T := rt_T4) (N := 18) (ty := .int) hx hb hts rt_i4 rt_y4 rt_o4 rt_n4 hown hK hP hD hS 21 rfl rfl 11 (by decide) (hts _ (rt_m rt_w282)) (fun _ h9 => h9) rfl (by decide +kernel) rfl rfl (Nat.le_of_ble_eq_true rfl) (rtC_s21_11 cI cZ A _ _) h10 d_Runner_begin_27 (fun H locs hP hS => ?_)
  refine lv_aload_n hx hb d_Runner_begin_30 rfl (lv_at hl 0 rfl) ?_
  refine lv_iconst (v := 0) hx hb d_Runner_begin_31 (by decide) ?_
  obtain ⟨σ11, h12, hm⟩ := rt_b1s hm
  refine rt_pf (D := D) (C := "RangeTeller$Runner") (T := rt_T4) (N := 18) (ty := .int) hx hb hts rt_i4 rt_y4 rt_o4 rt_n4 hown hK hP hD hS 21 rfl rfl 6 (by decide) (hts _ (rt_m rt_w272)) (fun _ h9 => h9) rfl (by decide +kernel) rfl rfl (Nat.le_of_ble_eq_true rfl) (rtC_s21_6 cI cZ A _ _) h12 d_Runner_begin_32 (fun H locs hP hS => ?_)
  refine lv_aload_n hx hb d_Runner_begin_35 rfl (lv_at hl 0 rfl) ?_
  refine lv_iconst (v := 0) hx hb d_Runner_begin_36 (by decide) ?_
  obtain ⟨σ13, h14, hm⟩ := rt_b1s hm
  refine rt_pf (D := D) (C := "RangeTeller$Runner") (T := rt_T4) (N := 18) (ty := .int) hx hb hts rt_i4 rt_y4 rt_o4 rt_n4 hown hK hP hD hS 21 rfl rfl 3 (by decide) (hts _ (rt_m rt_w267)) (fun _ h9 => h9) rfl (by decide +kernel) rfl rfl (Nat.le_of_ble_eq_true rfl) (rtC_s21_3 cI cZ A _ _) h14 d_Runner_begin_37 (fun H locs hP hS => ?_)
  refine lv_aload_n hx hb d_Runner_begin_40 rfl (lv_at hl 0 rfl) ?_
  refine va_get (D := D) (v := .ref (A 25)) (C := "RangeTeller$Runner") (T := rt_T4) (N := 18) hx hb hts rt_i4 hown hK hP 21 rfl rfl 12 (by decide) (hts _ (rt_m rt_w284)) (fun _ h9 => h9) rfl d_Runner_begin_41 ?_
  refine lv_iconst (v := 0) hx hb d_Runner_begin_44 (by decide) ?_
  refine lv_iload_n hx hb d_Runner_begin_45 rfl (lv_at hl 1 rfl) ?_
  obtain ⟨σ15, h16, hm⟩ := rt_b1s hm
  refine rt_ast hx hb hK hP hD hS 25 0 rfl (rtC_a25 cI cZ A _) rfl h16 d_Runner_begin_46 (fun H locs hP hS => ?_)
  refine lv_aload_n hx hb d_Runner_begin_47 rfl (lv_at hl 0 rfl) ?_
  refine va_get (D := D) (v := .ref (A 25)) (C := "RangeTeller$Runner") (T := rt_T4) (N := 18) hx hb hts rt_i4 hown hK hP 21 rfl rfl 12 (by decide) (hts _ (rt_m rt_w284)) (fun _ h9 => h9) rfl d_Runner_begin_48 ?_
  refine lv_iconst (v := 1) hx hb d_Runner_begin_51 (by decide) ?_
  refine lv_iload_n hx hb d_Runner_begin_52 rfl (lv_at hl 2 rfl) ?_
  obtain ⟨σ17, h18, hm⟩ := rt_b1s hm
  refine rt_ast hx hb hK hP hD hS 25 0 rfl (rtC_a25 cI cZ A _) rfl h18 d_Runner_begin_53 (fun H locs hP hS => ?_)
  refine lv_aload_n hx hb d_Runner_begin_54 rfl (lv_at hl 0 rfl) ?_
  refine lv_aload_n hx hb d_Runner_begin_55 rfl (lv_at hl 0 rfl) ?_
  refine va_get (D := D) (v := .ref (A 1)) (C := "RangeTeller$Runner") (T := rt_T4) (N := 18) hx hb hts rt_i4 hown hK hP 21 rfl rfl 0 (by decide) (hts _ (rt_m rt_w264)) (fun _ h9 => h9) rfl d_Runner_begin_56 ?_
  refine va_get (D := D) (v := .ref (A 11)) (C := "RangeTeller$Program") (T := rt_T1) (N := 14) hx hb hts rt_i1 hown hK hP 1 rfl rfl 9 (by decide) (hts _ (rt_m rt_w154)) (fun _ h9 => h9) rfl d_Runner_begin_59 ?_
  refine lv_iconst (v := 0) hx hb d_Runner_begin_62 (by decide) ?_
  obtain ⟨v19, h20, hm⟩ := rt_b1s hm
  refine rt_ald hx hb hK hP 11 0 rfl rfl h20 d_Runner_begin_63 ?_
  obtain ⟨σ21, h22, hm⟩ := rt_b1s hm
  refine rt_pf (D := D) (C := "RangeTeller$Runner") (T := rt_T4) (N := 18) (ty := .int) hx hb hts rt_i4 rt_y4 rt_o4 rt_n4 hown hK hP hD hS 21 rfl rfl 17 (by decide) (hts _ (rt_m rt_w289)) (fun _ h9 => h9) rfl (by decide +kernel) rfl rfl (Nat.le_of_ble_eq_true rfl) (rtC_s21_17 cI cZ A _ _) h22 d_Runner_begin_64 (fun H locs hP hS => ?_)
  refine lv_aload_n hx hb d_Runner_begin_67 rfl (lv_at hl 0 rfl) ?_
  refine lv_iconst (v := 0) hx hb d_Runner_begin_68 (by decide) ?_
  obtain ⟨σ23, h24, hm⟩ := rt_b1s hm
  refine rt_pf (D := D) (C := "RangeTeller$Runner") (T := rt_T4) (N := 18) (ty := .int) hx hb hts rt_i4 rt_y4 rt_o4 rt_n4 hown hK hP hD hS 21 rfl rfl 16 (by decide) (hts _ (rt_m rt_w288)) (fun _ h9 => h9) rfl (by decide +kernel) rfl rfl (Nat.le_of_ble_eq_true rfl) (rtC_s21_16 cI cZ A _ _) h24 d_Runner_begin_69 (fun H locs hP hS => ?_)
  refine lv_aload_n hx hb d_Runner_begin_72 rfl (lv_at hl 0 rfl) ?_
  refine lv_iconst (v := 0) hx hb d_Runner_begin_73 (by decide) ?_
  obtain ⟨σ26, h25, hm⟩ := rt_b1s hm
  refine rt_cvv (As := [.int 0]) (rest := []) (k := 21) rtC_Xo ⟨hx, hb, hml, hown, hts⟩ (k_C_Runner_enter l D cI cZ A hO σ23 0 _ h25) (cw_Runner_enter hts (hts _ (rt_m rt_w726)) ⟨Nat.le_of_ble_eq_true rfl, Nat.le_of_ble_eq_true rfl⟩) hK hP hS hX rfl rfl rfl hl.1 rfl (Nat.le_of_ble_eq_true rfl) d_Runner_begin_74 ⟨Nat.zero_le _, Nat.zero_le _⟩ (fun H locs hP hS => ?_)
  exact W.vret hx hb hr (fun t ht hW => ⟨⟨_, rfl, Option.some.inj hm, rt_end rtC_Xo hK hP hS hX ht hW⟩, hS.F ht⟩) hS.2.2 d_Runner_begin_77
set_option maxHeartbeats 4000000 in
set_option maxRecDepth 100000 in
theorem k_C_Runner_pop (l : Launch) (D : va_G) (cI cZ : ClassId) (A : Nat → Nat) (hO : rt_Ok (rtC_W cI cZ A)) (σ : rt_St) (r' : Int32) (σ' : rt_St) (hm : M_C_Runner_pop σ = some (r', σ')) (sz : Nat) : Met l y_Runner_pop (rt_ws y_Runner_pop b_Runner_pop 1 (some .int)) ({ frames := 0, cells := 0, slots := 0, locals := 0 } : Room) (va_Pc [.ref (A 21)] (rt_P D rt_cl (rt_t cI cZ) rtC_X (rtC_W cI cZ A) sz σ)) (va_Qi (fun r1 u1 => r1 = r' ∧ u1 = σ') (rt_B D rt_cl (rt_t cI cZ) rtC_X (rtC_W cI cZ A)) (rt_A (rtC_W cI cZ A) sz)) 0 0 (rt_A (rtC_W cI cZ A) sz) := by
  refine Met.ofW (cc := b_Runner_pop) (maxL := 1) (ret := (some .int)) (by decide) rfl ?_
  intro p e s m args below meth c s₁ B hml hv
  obtain ⟨rfl, rfl, hP, hK, hX⟩ := hv
  have hx := B.exec
  have hb := B.bytes
  have hr := B.returns
  have hts := atoms_spec (ws := (rt_ws y_Runner_pop b_Runner_pop 1 (some .int))) B.pre
  have hown : s.vm.findClass "RangeTeller$Runner" = some m.cls := findClass_of_methodNamed B.named
  have hlocks := B.notSynchronized
  have hD := rt_hD hO s.heap.size
  have hS : va_S (rt_A (rtC_W cI cZ A) s.heap.size) s.heap s.heap [] := va_S.rf
  have hl := lv_entry ([.ref (A 21)]) (n := 1) (Nat.le_of_ble_eq_true rfl)
  rw [lg_entry_eq]
  generalize (lg_sl ([.ref (A 21)]) ++ List.replicate (1 - (lg_sl ([.ref (A 21)])).length) Slot.unset).toArray = ls at hl ⊢
  have hl : lv_has ls 1 [(0, .ref (A 21))] := hl
  show W p l e ({ frames := 0, cells := 0, slots := 0, locals := 0 } : Room) s m ([.ref (A 21)] : List Value).toArray below meth c s.heap [] 0 0 (rt_Qi D rt_cl (rt_t cI cZ) rtC_X (rtC_W cI cZ A) below ([.ref (A 21)] : List Value).toArray s r' σ') (F0 m 0 ls [])
  unfold M_C_Runner_pop at hm
  refine lv_aload_n hx hb d_Runner_pop_0 rfl (lv_at hl 0 rfl) ?_
  refine lv_dup hx hb d_Runner_pop_1 rfl ?_
  refine va_get (D := D) (v := .int (σ 21 17)) (C := "RangeTeller$Runner") (T := rt_T4) (N := 18) hx hb hts rt_i4 hown hK hP 21 rfl rfl 17 (by decide) (hts _ (rt_m rt_w289)) (fun _ h9 => h9) rfl d_Runner_pop_2 ?_
  refine lv_iconst (v := 1) hx hb d_Runner_pop_5 (by decide) ?_
  refine lv_isub hx hb d_Runner_pop_6 ?_
  obtain ⟨σ1, h2, hm⟩ := rt_b1s hm
  refine rt_pf (D := D) (C := "RangeTeller$Runner") (T := rt_T4) (N := 18) (ty := .int) hx hb hts rt_i4 rt_y4 rt_o4 rt_n4 hown hK hP hD hS 21 rfl rfl 17 (by decide) (hts _ (rt_m rt_w289)) (fun _ h9 => h9) rfl (by decide +kernel) rfl rfl (Nat.le_of_ble_eq_true rfl) (rtC_s21_17 cI cZ A _ _) h2 d_Runner_pop_7 (fun H locs hP hS => ?_)
  refine lv_aload_n hx hb d_Runner_pop_10 rfl (lv_at hl 0 rfl) ?_
  refine va_get (D := D) (v := .ref (A 25)) (C := "RangeTeller$Runner") (T := rt_T4) (N := 18) hx hb hts rt_i4 hown hK hP 21 rfl rfl 12 (by decide) (hts _ (rt_m rt_w284)) (fun _ h9 => h9) rfl d_Runner_pop_11 ?_
  refine lv_aload_n hx hb d_Runner_pop_14 rfl (lv_at hl 0 rfl) ?_
  refine va_get (D := D) (v := .int (σ1 21 17)) (C := "RangeTeller$Runner") (T := rt_T4) (N := 18) hx hb hts rt_i4 hown hK hP 21 rfl rfl 17 (by decide) (hts _ (rt_m rt_w289)) (fun _ h9 => h9) rfl d_Runner_pop_15 ?_
  obtain ⟨v3, h4, hm⟩ := rt_b1s hm
  refine rt_ald hx hb hK hP 25 0 rfl rfl h4 d_Runner_pop_18 ?_
  exact W.iret hx hb hr (fun t ht hW => ⟨⟨_, _, rfl, rt_pr hm, rt_end rtC_Xo hK hP hS hX ht hW⟩, hS.F ht⟩) hS.2.2 d_Runner_pop_19
set_option maxHeartbeats 4000000 in
set_option maxRecDepth 100000 in
theorem k_C_Runner_reckoned (l : Launch) (a0 a1 a2 : Int32) (r' : Int32) (hm : M_C_Runner_reckoned a0 a1 a2 = some r') : rt_MS l y_Runner_reckoned b_Runner_reckoned 3 (some .int) ({ frames := 0, cells := 0, slots := 0, locals := 0 } : Room) rt_X0 [.int a0, .int a1, .int a2] r' := by
  intro sz
  refine Met.ofW (cc := b_Runner_reckoned) (maxL := 3) (ret := (some .int)) (by decide) rfl ?_
  intro p e s m args below meth c s₁ B hml hv
  obtain ⟨rfl, rfl, hX⟩ := hv
  have hx := B.exec
  have hb := B.bytes
  have hr := B.returns
  have hts := atoms_spec (ws := (rt_ws y_Runner_reckoned b_Runner_reckoned 3 (some .int))) B.pre
  have hown : s.vm.findClass "RangeTeller$Runner" = some m.cls := findClass_of_methodNamed B.named
  have hlocks := B.notSynchronized
  have hS : va_S (fun q => s.heap.size ≤ q) s.heap s.heap [] := va_S.rf
  have hl := lv_entry ([.int a0, .int a1, .int a2]) (n := 3) (Nat.le_of_ble_eq_true rfl)
  rw [lg_entry_eq]
  generalize (lg_sl ([.int a0, .int a1, .int a2]) ++ List.replicate (3 - (lg_sl ([.int a0, .int a1, .int a2])).length) Slot.unset).toArray = ls at hl ⊢
  have hl : lv_has ls 3 [(0, .int a0), (1, .int a1), (2, .int a2)] := hl
  show W p l e ({ frames := 0, cells := 0, slots := 0, locals := 0 } : Room) s m ([.int a0, .int a1, .int a2] : List Value).toArray below meth c s.heap [] 0 0 (rt_Qs below ([.int a0, .int a1, .int a2] : List Value).toArray s r') (F0 m 0 ls [])
  unfold M_C_Runner_reckoned at hm
  refine lv_iload_n hx hb d_Runner_reckoned_0 rfl (lv_at hl 0 rfl) ?_
  by_cases c1 : a0 = 19
  · have hm := (if_pos c1).symm.trans hm
    refine lv_tableIn (off := 43) (tgt := 44) hx hb d_Runner_reckoned_1 (by rw [c1]; decide) (by rw [c1]; decide) (by rw [c1]; rfl) (by decide) ?_
    refine lv_iload_n hx hb d_Runner_reckoned_44 rfl (lv_at hl 1 rfl) ?_
    refine lv_iload_n hx hb d_Runner_reckoned_45 rfl (lv_at hl 2 rfl) ?_
    refine lv_icmp_ne (tgt := 53) hx hb d_Runner_reckoned_46 (by decide) (fun hc => ?_) (fun hc => ?_)
    · have hm := (if_neg hc).symm.trans hm
      refine lv_iconst (v := 0) hx hb d_Runner_reckoned_53 (by decide) ?_
      exact W.iret hx hb hr (fun t ht hW => ⟨⟨_, (), rfl, Option.some.inj hm, trivial⟩, hS.F ht⟩) hS.2.2 d_Runner_reckoned_54
    · have hm := (if_pos hc).symm.trans hm
      refine lv_iconst (v := 1) hx hb d_Runner_reckoned_49 (by decide) ?_
      refine lv_goto (tgt := 54) hx hb d_Runner_reckoned_50 (by decide) ?_
      exact W.iret hx hb hr (fun t ht hW => ⟨⟨_, (), rfl, Option.some.inj hm, trivial⟩, hS.F ht⟩) hS.2.2 d_Runner_reckoned_54
  have hm := (if_neg c1).symm.trans hm
  by_cases c2 : a0 = 20
  · have hm := (if_pos c2).symm.trans hm
    refine lv_tableIn (off := 54) (tgt := 55) hx hb d_Runner_reckoned_1 (by rw [c2]; decide) (by rw [c2]; decide) (by rw [c2]; rfl) (by decide) ?_
    refine lv_iload_n hx hb d_Runner_reckoned_55 rfl (lv_at hl 1 rfl) ?_
    refine lv_iload_n hx hb d_Runner_reckoned_56 rfl (lv_at hl 2 rfl) ?_
    refine lv_icmp_ge (tgt := 64) hx hb d_Runner_reckoned_57 (by decide) (fun hc => ?_) (fun hc => ?_)
    · have hm := (if_pos hc).symm.trans hm
      refine lv_iconst (v := 0) hx hb d_Runner_reckoned_64 (by decide) ?_
      exact W.iret hx hb hr (fun t ht hW => ⟨⟨_, (), rfl, Option.some.inj hm, trivial⟩, hS.F ht⟩) hS.2.2 d_Runner_reckoned_65
    · have hm := (if_neg hc).symm.trans hm
      refine lv_iconst (v := 1) hx hb d_Runner_reckoned_60 (by decide) ?_
      refine lv_goto (tgt := 65) hx hb d_Runner_reckoned_61 (by decide) ?_
      exact W.iret hx hb hr (fun t ht hW => ⟨⟨_, (), rfl, Option.some.inj hm, trivial⟩, hS.F ht⟩) hS.2.2 d_Runner_reckoned_65
  have hm := (if_neg c2).symm.trans hm
  by_cases c3 : a0 = 21
  · have hm := (if_pos c3).symm.trans hm
    refine lv_tableIn (off := 65) (tgt := 66) hx hb d_Runner_reckoned_1 (by rw [c3]; decide) (by rw [c3]; decide) (by rw [c3]; rfl) (by decide) ?_
    refine lv_iload_n hx hb d_Runner_reckoned_66 rfl (lv_at hl 1 rfl) ?_
    refine lv_iload_n hx hb d_Runner_reckoned_67 rfl (lv_at hl 2 rfl) ?_
    refine lv_iadd hx hb d_Runner_reckoned_68 ?_
    refine lv_bipush (v := 64) hx hb d_Runner_reckoned_69 (by decide) ?_
    obtain ⟨v4, h5, hm⟩ := rt_b1s hm
    obtain ⟨h5a, rfl⟩ := rt_rems h5
    refine lv_irem hx hb d_Runner_reckoned_71 h5a ?_
    exact W.iret hx hb hr (fun t ht hW => ⟨⟨_, (), rfl, Option.some.inj hm, trivial⟩, hS.F ht⟩) hS.2.2 d_Runner_reckoned_72
  have hm := (if_neg c3).symm.trans hm
  by_cases c6 : a0 = 22
  · have hm := (if_pos c6).symm.trans hm
    refine lv_tableIn (off := 72) (tgt := 73) hx hb d_Runner_reckoned_1 (by rw [c6]; decide) (by rw [c6]; decide) (by rw [c6]; rfl) (by decide) ?_
    refine lv_iload_n hx hb d_Runner_reckoned_73 rfl (lv_at hl 1 rfl) ?_
    refine lv_iload_n hx hb d_Runner_reckoned_74 rfl (lv_at hl 2 rfl) ?_
    refine lv_isub hx hb d_Runner_reckoned_75 ?_
    refine lv_bipush (v := 64) hx hb d_Runner_reckoned_76 (by decide) ?_
    refine lv_iadd hx hb d_Runner_reckoned_78 ?_
    refine lv_bipush (v := 64) hx hb d_Runner_reckoned_79 (by decide) ?_
    obtain ⟨v7, h8, hm⟩ := rt_b1s hm
    obtain ⟨h8a, rfl⟩ := rt_rems h8
    refine lv_irem hx hb d_Runner_reckoned_81 h8a ?_
    exact W.iret hx hb hr (fun t ht hW => ⟨⟨_, (), rfl, Option.some.inj hm, trivial⟩, hS.F ht⟩) hS.2.2 d_Runner_reckoned_82
  have hm := (if_neg c6).symm.trans hm
  by_cases c9 : a0 = 23
  · have hm := (if_pos c9).symm.trans hm
    refine lv_tableIn (off := 82) (tgt := 83) hx hb d_Runner_reckoned_1 (by rw [c9]; decide) (by rw [c9]; decide) (by rw [c9]; rfl) (by decide) ?_
    refine lv_iload_n hx hb d_Runner_reckoned_83 rfl (lv_at hl 1 rfl) ?_
    refine lv_iload_n hx hb d_Runner_reckoned_84 rfl (lv_at hl 2 rfl) ?_
    refine lv_imul hx hb d_Runner_reckoned_85 ?_
    refine lv_bipush (v := 64) hx hb d_Runner_reckoned_86 (by decide) ?_
    obtain ⟨v10, h11, hm⟩ := rt_b1s hm
    obtain ⟨h11a, rfl⟩ := rt_rems h11
    refine lv_irem hx hb d_Runner_reckoned_88 h11a ?_
    exact W.iret hx hb hr (fun t ht hW => ⟨⟨_, (), rfl, Option.some.inj hm, trivial⟩, hS.F ht⟩) hS.2.2 d_Runner_reckoned_89
  have hm := (if_neg c9).symm.trans hm
  by_cases c12 : a0 = 24
  · have hm := (if_pos c12).symm.trans hm
    refine lv_tableIn (off := 89) (tgt := 90) hx hb d_Runner_reckoned_1 (by rw [c12]; decide) (by rw [c12]; decide) (by rw [c12]; rfl) (by decide) ?_
    refine lv_iload_n hx hb d_Runner_reckoned_90 rfl (lv_at hl 2 rfl) ?_
    refine lv_if_ne (tgt := 98) hx hb d_Runner_reckoned_91 (by decide) (fun hc => ?_) (fun hc => ?_)
    · have hm := (if_neg hc).symm.trans hm
      refine lv_iload_n hx hb d_Runner_reckoned_98 rfl (lv_at hl 1 rfl) ?_
      refine lv_iload_n hx hb d_Runner_reckoned_99 rfl (lv_at hl 2 rfl) ?_
      obtain ⟨v13, h14, hm⟩ := rt_b1s hm
      obtain ⟨h14a, rfl⟩ := rt_divs h14
      refine lv_idiv hx hb d_Runner_reckoned_100 h14a ?_
      exact W.iret hx hb hr (fun t ht hW => ⟨⟨_, (), rfl, Option.some.inj hm, trivial⟩, hS.F ht⟩) hS.2.2 d_Runner_reckoned_101
    · have hm := (if_pos hc).symm.trans hm
      refine lv_iconst (v := 0) hx hb d_Runner_reckoned_94 (by decide) ?_
      refine lv_goto (tgt := 101) hx hb d_Runner_reckoned_95 (by decide) ?_
      exact W.iret hx hb hr (fun t ht hW => ⟨⟨_, (), rfl, Option.some.inj hm, trivial⟩, hS.F ht⟩) hS.2.2 d_Runner_reckoned_101
  have hm := (if_neg c12).symm.trans hm
  by_cases c15 : a0 = 25
  · have hm := (if_pos c15).symm.trans hm
    refine lv_tableIn (off := 101) (tgt := 102) hx hb d_Runner_reckoned_1 (by rw [c15]; decide) (by rw [c15]; decide) (by rw [c15]; rfl) (by decide) ?_
    refine lv_iload_n hx hb d_Runner_reckoned_102 rfl (lv_at hl 2 rfl) ?_
    refine lv_if_ne (tgt := 110) hx hb d_Runner_reckoned_103 (by decide) (fun hc => ?_) (fun hc => ?_)
    · have hm := (if_neg hc).symm.trans hm
      refine lv_iload_n hx hb d_Runner_reckoned_110 rfl (lv_at hl 1 rfl) ?_
      refine lv_iload_n hx hb d_Runner_reckoned_111 rfl (lv_at hl 2 rfl) ?_
      obtain ⟨v16, h17, hm⟩ := rt_b1s hm
      obtain ⟨h17a, rfl⟩ := rt_rems h17
      refine lv_irem hx hb d_Runner_reckoned_112 h17a ?_
      exact W.iret hx hb hr (fun t ht hW => ⟨⟨_, (), rfl, Option.some.inj hm, trivial⟩, hS.F ht⟩) hS.2.2 d_Runner_reckoned_113
    · have hm := (if_pos hc).symm.trans hm
      refine lv_iconst (v := 0) hx hb d_Runner_reckoned_106 (by decide) ?_
      refine lv_goto (tgt := 113) hx hb d_Runner_reckoned_107 (by decide) ?_
      exact W.iret hx hb hr (fun t ht hW => ⟨⟨_, (), rfl, Option.some.inj hm, trivial⟩, hS.F ht⟩) hS.2.2 d_Runner_reckoned_113
  have hm := (if_neg c15).symm.trans hm
  refine lv_tableOut (tgt := 114) hx hb d_Runner_reckoned_1 (by have := lv_neT (a := 19) c1 rfl; have := lv_neT (a := 20) c2 rfl; have := lv_neT (a := 21) c3 rfl; have := lv_neT (a := 22) c6 rfl; have := lv_neT (a := 23) c9 rfl; have := lv_neT (a := 24) c12 rfl; have := lv_neT (a := 25) c15 rfl; omega) (by decide) ?_
  refine lv_iload_n hx hb d_Runner_reckoned_114 rfl (lv_at hl 1 rfl) ?_
  refine lv_iload_n hx hb d_Runner_reckoned_115 rfl (lv_at hl 2 rfl) ?_
  refine lv_iand hx hb d_Runner_reckoned_116 ?_
  exact W.iret hx hb hr (fun t ht hW => ⟨⟨_, (), rfl, Option.some.inj hm, trivial⟩, hS.F ht⟩) hS.2.2 d_Runner_reckoned_117
set_option maxHeartbeats 4000000 in
set_option maxRecDepth 100000 in
theorem k_C_Runner_push (l : Launch) (D : va_G) (cI cZ : ClassId) (A : Nat → Nat) (hO : rt_Ok (rtC_W cI cZ A)) (σ : rt_St) (a1 : Int32) (σ' : rt_St) (hm : M_C_Runner_push σ a1 = some σ') (sz : Nat) : Met l y_Runner_push (rt_ws y_Runner_push b_Runner_push 2 none) ({ frames := 0, cells := 0, slots := 0, locals := 0 } : Room) (va_Pc [.ref (A 21), .int a1] (rt_P D rt_cl (rt_t cI cZ) rtC_X (rtC_W cI cZ A) sz σ)) (va_Qv (fun u1 => u1 = σ') (rt_B D rt_cl (rt_t cI cZ) rtC_X (rtC_W cI cZ A)) (rt_A (rtC_W cI cZ A) sz)) 0 0 (rt_A (rtC_W cI cZ A) sz) := by
  refine Met.ofW (cc := b_Runner_push) (maxL := 2) (ret := none) (by decide) rfl ?_
  intro p e s m args below meth c s₁ B hml hv
  obtain ⟨rfl, rfl, hP, hK, hX⟩ := hv
  have hx := B.exec
  have hb := B.bytes
  have hr := B.returns
  have hts := atoms_spec (ws := (rt_ws y_Runner_push b_Runner_push 2 none)) B.pre
  have hown : s.vm.findClass "RangeTeller$Runner" = some m.cls := findClass_of_methodNamed B.named
  have hlocks := B.notSynchronized
  have hD := rt_hD hO s.heap.size
  have hS : va_S (rt_A (rtC_W cI cZ A) s.heap.size) s.heap s.heap [] := va_S.rf
  have hl := lv_entry ([.ref (A 21), .int a1]) (n := 2) (Nat.le_of_ble_eq_true rfl)
  rw [lg_entry_eq]
  generalize (lg_sl ([.ref (A 21), .int a1]) ++ List.replicate (2 - (lg_sl ([.ref (A 21), .int a1])).length) Slot.unset).toArray = ls at hl ⊢
  have hl : lv_has ls 2 [(0, .ref (A 21)), (1, .int a1)] := hl
  show W p l e ({ frames := 0, cells := 0, slots := 0, locals := 0 } : Room) s m ([.ref (A 21), .int a1] : List Value).toArray below meth c s.heap [] 0 0 (rt_Qv D rt_cl (rt_t cI cZ) rtC_X (rtC_W cI cZ A) below ([.ref (A 21), .int a1] : List Value).toArray s σ') (F0 m 0 ls [])
  unfold M_C_Runner_push at hm
  refine lv_aload_n hx hb d_Runner_push_0 rfl (lv_at hl 0 rfl) ?_
  refine va_get (D := D) (v := .ref (A 25)) (C := "RangeTeller$Runner") (T := rt_T4) (N := 18) hx hb hts rt_i4 hown hK hP 21 rfl rfl 12 (by decide) (hts _ (rt_m rt_w284)) (fun _ h9 => h9) rfl d_Runner_push_1 ?_
  refine lv_aload_n hx hb d_Runner_push_4 rfl (lv_at hl 0 rfl) ?_
  refine va_get (D := D) (v := .int (σ 21 17)) (C := "RangeTeller$Runner") (T := rt_T4) (N := 18) hx hb hts rt_i4 hown hK hP 21 rfl rfl 17 (by decide) (hts _ (rt_m rt_w289)) (fun _ h9 => h9) rfl d_Runner_push_5 ?_
  refine lv_iload_n hx hb d_Runner_push_8 rfl (lv_at hl 1 rfl) ?_
  obtain ⟨σ1, h2, hm⟩ := rt_b1s hm
  refine rt_ast hx hb hK hP hD hS 25 0 rfl (rtC_a25 cI cZ A _) rfl h2 d_Runner_push_9 (fun H locs hP hS => ?_)
  refine lv_aload_n hx hb d_Runner_push_10 rfl (lv_at hl 0 rfl) ?_
  refine lv_dup hx hb d_Runner_push_11 rfl ?_
  refine va_get (D := D) (v := .int (σ1 21 17)) (C := "RangeTeller$Runner") (T := rt_T4) (N := 18) hx hb hts rt_i4 hown hK hP 21 rfl rfl 17 (by decide) (hts _ (rt_m rt_w289)) (fun _ h9 => h9) rfl d_Runner_push_12 ?_
  refine lv_iconst (v := 1) hx hb d_Runner_push_15 (by decide) ?_
  refine lv_iadd hx hb d_Runner_push_16 ?_
  obtain ⟨σ3, h4, hm⟩ := rt_b1s hm
  refine rt_pf (D := D) (C := "RangeTeller$Runner") (T := rt_T4) (N := 18) (ty := .int) hx hb hts rt_i4 rt_y4 rt_o4 rt_n4 hown hK hP hD hS 21 rfl rfl 17 (by decide) (hts _ (rt_m rt_w289)) (fun _ h9 => h9) rfl (by decide +kernel) rfl rfl (Nat.le_of_ble_eq_true rfl) (rtC_s21_17 cI cZ A _ _) h4 d_Runner_push_17 (fun H locs hP hS => ?_)
  exact W.vret hx hb hr (fun t ht hW => ⟨⟨_, rfl, Option.some.inj hm, rt_end rtC_Xo hK hP hS hX ht hW⟩, hS.F ht⟩) hS.2.2 d_Runner_push_20
set_option maxHeartbeats 4000000 in
set_option maxRecDepth 100000 in
theorem k_C_Runner_reckon (l : Launch) (D : va_G) (cI cZ : ClassId) (A : Nat → Nat) (hO : rt_Ok (rtC_W cI cZ A)) (σ : rt_St) (a1 : Int32) (σ' : rt_St) (hm : M_C_Runner_reckon σ a1 = some σ') (sz : Nat) : Met l y_Runner_reckon (rt_ws y_Runner_reckon b_Runner_reckon 4 none) ({ frames := 1, cells := 0, slots := 0, locals := 22 } : Room) (va_Pc [.ref (A 21), .int a1] (rt_P D rt_cl (rt_t cI cZ) rtC_X (rtC_W cI cZ A) sz σ)) (va_Qv (fun u1 => u1 = σ') (rt_B D rt_cl (rt_t cI cZ) rtC_X (rtC_W cI cZ A)) (rt_A (rtC_W cI cZ A) sz)) 0 0 (rt_A (rtC_W cI cZ A) sz) := by
  refine Met.ofW (cc := b_Runner_reckon) (maxL := 4) (ret := none) (by decide) rfl ?_
  intro p e s m args below meth c s₁ B hml hv
  obtain ⟨rfl, rfl, hP, hK, hX⟩ := hv
  have hx := B.exec
  have hb := B.bytes
  have hr := B.returns
  have hts := atoms_spec (ws := (rt_ws y_Runner_reckon b_Runner_reckon 4 none)) B.pre
  have hown : s.vm.findClass "RangeTeller$Runner" = some m.cls := findClass_of_methodNamed B.named
  have hlocks := B.notSynchronized
  have hD := rt_hD hO s.heap.size
  have hS : va_S (rt_A (rtC_W cI cZ A) s.heap.size) s.heap s.heap [] := va_S.rf
  have hl := lv_entry ([.ref (A 21), .int a1]) (n := 4) (Nat.le_of_ble_eq_true rfl)
  rw [lg_entry_eq]
  generalize (lg_sl ([.ref (A 21), .int a1]) ++ List.replicate (4 - (lg_sl ([.ref (A 21), .int a1])).length) Slot.unset).toArray = ls at hl ⊢
  have hl : lv_has ls 4 [(0, .ref (A 21)), (1, .int a1)] := hl
  show W p l e ({ frames := 1, cells := 0, slots := 0, locals := 22 } : Room) s m ([.ref (A 21), .int a1] : List Value).toArray below meth c s.heap [] 0 0 (rt_Qv D rt_cl (rt_t cI cZ) rtC_X (rtC_W cI cZ A) below ([.ref (A 21), .int a1] : List Value).toArray s σ') (F0 m 0 ls [])
  have hB32 : ∀ (ls : Array Slot) (l1 l2 l3 : Int32) (σ : rt_St) (H : Heap) (locs : List Loc), lv_has ls 4 [(0, .ref (A 21)), (1, .int l1), (2, .int l2), (3, .int l3)] → B_C_Runner_reckon_32 l1 l2 l3 σ = some σ' → va_P D rt_cl (rtC_W cI cZ A σ) H → va_S (rt_A (rtC_W cI cZ A) s.heap.size) s.heap H locs → W p l e ({ frames := 1, cells := 0, slots := 0, locals := 22 } : Room) s m ([.ref (A 21), .int a1] : List Value).toArray below meth c H locs 0 0 (rt_Qv D rt_cl (rt_t cI cZ) rtC_X (rtC_W cI cZ A) below ([.ref (A 21), .int a1] : List Value).toArray s σ') (F0 m 32 ls []) := by
    intro ls l1 l2 l3 σ H locs hl hm hP hS
    unfold B_C_Runner_reckon_32 at hm
    refine lv_aload_n hx hb d_Runner_reckon_32 rfl (lv_at hl 0 rfl) ?_
    refine lv_iload_n hx hb d_Runner_reckon_33 rfl (lv_at hl 1 rfl) ?_
    refine lv_iload_n hx hb d_Runner_reckon_34 rfl (lv_at hl 3 rfl) ?_
    refine lv_iload_n hx hb d_Runner_reckon_35 rfl (lv_at hl 2 rfl) ?_
    obtain ⟨v2, h1, hm⟩ := rt_b1s hm
    refine rt_csi (As := [.int l1, .int l3, .int l2]) (rest := [.ref (A 21)]) rt_X0o ⟨hx, hb, hml, hown, hts⟩ (k_C_Runner_reckoned l l1 l3 l2 _ h1) (cw_Runner_reckoned hts (hts _ (rt_m rt_w786)) ⟨Nat.le_of_ble_eq_true rfl, Nat.le_of_ble_eq_true rfl⟩) hS (fun _ h => Or.inr h) trivial rfl hl.1 rfl (Nat.le_of_ble_eq_true rfl) d_Runner_reckon_36 ⟨Nat.zero_le _, Nat.zero_le _⟩ (fun H locs hk hS => ?_)
    have hP := rt_keep hP hk
    clear hk
    obtain ⟨σ4, h3, hm⟩ := rt_b1s hm
    refine rt_cvv (As := [.int v2]) (rest := []) (k := 21) rtC_Xo ⟨hx, hb, hml, hown, hts⟩ (k_C_Runner_push l D cI cZ A hO σ v2 _ h3) (cw_Runner_push hts (hts _ (rt_m rt_w762)) ⟨Nat.le_of_ble_eq_true rfl, Nat.le_of_ble_eq_true rfl⟩) hK hP hS hX rfl rfl rfl hl.1 rfl (Nat.le_of_ble_eq_true rfl) d_Runner_reckon_39 ⟨Nat.zero_le _, Nat.zero_le _⟩ (fun H locs hP hS => ?_)
    exact W.vret hx hb hr (fun t ht hW => ⟨⟨_, rfl, Option.some.inj hm, rt_end rtC_Xo hK hP hS hX ht hW⟩, hS.F ht⟩) hS.2.2 d_Runner_reckon_42
  unfold M_C_Runner_reckon at hm
  refine lv_aload_n hx hb d_Runner_reckon_0 rfl (lv_at hl 0 rfl) ?_
  obtain ⟨v7, σ6, h5, hm⟩ := rt_b2s hm
  refine rt_cvi (As := []) (rest := []) (k := 21) rtC_Xo ⟨hx, hb, hml, hown, hts⟩ (k_C_Runner_pop l D cI cZ A hO σ _ _ h5) (cw_Runner_pop hts (hts _ (rt_m rt_w734)) ⟨Nat.le_of_ble_eq_true rfl, Nat.le_of_ble_eq_true rfl⟩) hK hP hS hX rfl rfl rfl hl.1 rfl (Nat.le_of_ble_eq_true rfl) d_Runner_reckon_1 ⟨Nat.zero_le _, Nat.zero_le _⟩ (fun H locs hP hS => ?_)
  refine lv_istore_n hx hb d_Runner_reckon_4 rfl hl (by decide) rfl (fun ls hl => ?_)
  have hl : lv_has ls 4 [(2, .int v7), (0, .ref (A 21)), (1, .int a1)] := hl
  refine lv_aload_n hx hb d_Runner_reckon_5 rfl (lv_at hl 1 rfl) ?_
  obtain ⟨v10, σ9, h8, hm⟩ := rt_b2s hm
  refine rt_cvi (As := []) (rest := []) (k := 21) rtC_Xo ⟨hx, hb, hml, hown, hts⟩ (k_C_Runner_pop l D cI cZ A hO σ6 _ _ h8) (cw_Runner_pop hts (hts _ (rt_m rt_w734)) ⟨Nat.le_of_ble_eq_true rfl, Nat.le_of_ble_eq_true rfl⟩) hK hP hS hX rfl rfl rfl hl.1 rfl (Nat.le_of_ble_eq_true rfl) d_Runner_reckon_6 ⟨Nat.zero_le _, Nat.zero_le _⟩ (fun H locs hP hS => ?_)
  refine lv_istore_n hx hb d_Runner_reckon_9 rfl hl (by decide) rfl (fun ls hl => ?_)
  have hl : lv_has ls 4 [(3, .int v10), (2, .int v7), (0, .ref (A 21)), (1, .int a1)] := hl
  refine lv_iload_n hx hb d_Runner_reckon_10 rfl (lv_at hl 1 rfl) ?_
  refine lv_if_ne (tgt := 32) hx hb d_Runner_reckon_11 (by decide) (fun hc => ?_) (fun hc => ?_)
  · have hm := (if_neg hc).symm.trans hm
    exact hB32 ls a1 v7 v10 σ9 _ _ (lv_sub hl [2, 3, 1, 0] rfl) hm hP hS
  · have hm := (if_pos hc).symm.trans hm
    refine lv_iload_n hx hb d_Runner_reckon_14 rfl (lv_at hl 3 rfl) ?_
    refine lv_bipush (v := 24) hx hb d_Runner_reckon_15 (by decide) ?_
    refine lv_icmp_eq (tgt := 26) hx hb d_Runner_reckon_17 (by decide) (fun hc => ?_) (fun hc => ?_)
    · have hm := (if_pos hc).symm.trans hm
      refine lv_aload_n hx hb d_Runner_reckon_26 rfl (lv_at hl 2 rfl) ?_
      refine lv_iconst (v := 3) hx hb d_Runner_reckon_27 (by decide) ?_
      obtain ⟨σ11, h12, hm⟩ := rt_b1s hm
      refine rt_pf (D := D) (C := "RangeTeller$Runner") (T := rt_T4) (N := 18) (ty := .int) hx hb hts rt_i4 rt_y4 rt_o4 rt_n4 hown hK hP hD hS 21 rfl rfl 8 (by decide) (hts _ (rt_m rt_w276)) (fun _ h9 => h9) rfl (by decide +kernel) rfl rfl (Nat.le_of_ble_eq_true rfl) (rtC_s21_8 cI cZ A _ _) h12 d_Runner_reckon_28 (fun H locs hP hS => ?_)
      exact W.vret hx hb hr (fun t ht hW => ⟨⟨_, rfl, Option.some.inj hm, rt_end rtC_Xo hK hP hS hX ht hW⟩, hS.F ht⟩) hS.2.2 d_Runner_reckon_31
    · have hm := (if_neg hc).symm.trans hm
      refine lv_iload_n hx hb d_Runner_reckon_20 rfl (lv_at hl 3 rfl) ?_
      refine lv_bipush (v := 25) hx hb d_Runner_reckon_21 (by decide) ?_
      refine lv_icmp_ne (tgt := 32) hx hb d_Runner_reckon_23 (by decide) (fun hc => ?_) (fun hc => ?_)
      · have hm := (if_neg hc).symm.trans hm
        exact hB32 ls a1 v7 v10 σ9 _ _ (lv_sub hl [2, 3, 1, 0] rfl) hm hP hS
      · have hm := (if_pos hc).symm.trans hm
        refine lv_aload_n hx hb d_Runner_reckon_26 rfl (lv_at hl 2 rfl) ?_
        refine lv_iconst (v := 3) hx hb d_Runner_reckon_27 (by decide) ?_
        obtain ⟨σ13, h14, hm⟩ := rt_b1s hm
        refine rt_pf (D := D) (C := "RangeTeller$Runner") (T := rt_T4) (N := 18) (ty := .int) hx hb hts rt_i4 rt_y4 rt_o4 rt_n4 hown hK hP hD hS 21 rfl rfl 8 (by decide) (hts _ (rt_m rt_w276)) (fun _ h9 => h9) rfl (by decide +kernel) rfl rfl (Nat.le_of_ble_eq_true rfl) (rtC_s21_8 cI cZ A _ _) h14 d_Runner_reckon_28 (fun H locs hP hS => ?_)
        exact W.vret hx hb hr (fun t ht hW => ⟨⟨_, rfl, Option.some.inj hm, rt_end rtC_Xo hK hP hS hX ht hW⟩, hS.F ht⟩) hS.2.2 d_Runner_reckon_31
set_option maxHeartbeats 4000000 in
set_option maxRecDepth 100000 in
theorem k_C_Runner_putOut (l : Launch) (D : va_G) (cI cZ : ClassId) (A : Nat → Nat) (hO : rt_Ok (rtC_W cI cZ A)) (σ : rt_St) (a1 : Int32) (σ' : rt_St) (hm : M_C_Runner_putOut σ a1 = some σ') (sz : Nat) : Met l y_Runner_putOut (rt_ws y_Runner_putOut b_Runner_putOut 2 none) ({ frames := 0, cells := 0, slots := 0, locals := 0 } : Room) (va_Pc [.ref (A 21), .int a1] (rt_P D rt_cl (rt_t cI cZ) rtC_X (rtC_W cI cZ A) sz σ)) (va_Qv (fun u1 => u1 = σ') (rt_B D rt_cl (rt_t cI cZ) rtC_X (rtC_W cI cZ A)) (rt_A (rtC_W cI cZ A) sz)) 0 0 (rt_A (rtC_W cI cZ A) sz) := by
  refine Met.ofW (cc := b_Runner_putOut) (maxL := 2) (ret := none) (by decide) rfl ?_
  intro p e s m args below meth c s₁ B hml hv
  obtain ⟨rfl, rfl, hP, hK, hX⟩ := hv
  have hx := B.exec
  have hb := B.bytes
  have hr := B.returns
  have hts := atoms_spec (ws := (rt_ws y_Runner_putOut b_Runner_putOut 2 none)) B.pre
  have hown : s.vm.findClass "RangeTeller$Runner" = some m.cls := findClass_of_methodNamed B.named
  have hlocks := B.notSynchronized
  have hD := rt_hD hO s.heap.size
  have hS : va_S (rt_A (rtC_W cI cZ A) s.heap.size) s.heap s.heap [] := va_S.rf
  have hl := lv_entry ([.ref (A 21), .int a1]) (n := 2) (Nat.le_of_ble_eq_true rfl)
  rw [lg_entry_eq]
  generalize (lg_sl ([.ref (A 21), .int a1]) ++ List.replicate (2 - (lg_sl ([.ref (A 21), .int a1])).length) Slot.unset).toArray = ls at hl ⊢
  have hl : lv_has ls 2 [(0, .ref (A 21)), (1, .int a1)] := hl
  show W p l e ({ frames := 0, cells := 0, slots := 0, locals := 0 } : Room) s m ([.ref (A 21), .int a1] : List Value).toArray below meth c s.heap [] 0 0 (rt_Qv D rt_cl (rt_t cI cZ) rtC_X (rtC_W cI cZ A) below ([.ref (A 21), .int a1] : List Value).toArray s σ') (F0 m 0 ls [])
  have hB19 : ∀ (ls : Array Slot) (σ : rt_St) (H : Heap) (locs : List Loc), lv_has ls 2 [(0, .ref (A 21))] → B_C_Runner_putOut_19 σ = some σ' → va_P D rt_cl (rtC_W cI cZ A σ) H → va_S (rt_A (rtC_W cI cZ A) s.heap.size) s.heap H locs → W p l e ({ frames := 0, cells := 0, slots := 0, locals := 0 } : Room) s m ([.ref (A 21), .int a1] : List Value).toArray below meth c H locs 0 0 (rt_Qv D rt_cl (rt_t cI cZ) rtC_X (rtC_W cI cZ A) below ([.ref (A 21), .int a1] : List Value).toArray s σ') (F0 m 19 ls []) := by
    intro ls σ H locs hl hm hP hS
    unfold B_C_Runner_putOut_19 at hm
    refine lv_aload_n hx hb d_Runner_putOut_19 rfl (lv_at hl 0 rfl) ?_
    refine lv_dup hx hb d_Runner_putOut_20 rfl ?_
    refine va_get (D := D) (v := .int (σ 21 6)) (C := "RangeTeller$Runner") (T := rt_T4) (N := 18) hx hb hts rt_i4 hown hK hP 21 rfl rfl 6 (by decide) (hts _ (rt_m rt_w272)) (fun _ h9 => h9) rfl d_Runner_putOut_21 ?_
    refine lv_iconst (v := 1) hx hb d_Runner_putOut_24 (by decide) ?_
    refine lv_iadd hx hb d_Runner_putOut_25 ?_
    obtain ⟨σ1, h2, hm⟩ := rt_b1s hm
    refine rt_pf (D := D) (C := "RangeTeller$Runner") (T := rt_T4) (N := 18) (ty := .int) hx hb hts rt_i4 rt_y4 rt_o4 rt_n4 hown hK hP hD hS 21 rfl rfl 6 (by decide) (hts _ (rt_m rt_w272)) (fun _ h9 => h9) rfl (by decide +kernel) rfl rfl (Nat.le_of_ble_eq_true rfl) (rtC_s21_6 cI cZ A _ _) h2 d_Runner_putOut_26 (fun H locs hP hS => ?_)
    exact W.vret hx hb hr (fun t ht hW => ⟨⟨_, rfl, Option.some.inj hm, rt_end rtC_Xo hK hP hS hX ht hW⟩, hS.F ht⟩) hS.2.2 d_Runner_putOut_29
  unfold M_C_Runner_putOut at hm
  refine lv_aload_n hx hb d_Runner_putOut_0 rfl (lv_at hl 0 rfl) ?_
  refine va_get (D := D) (v := .int (σ 21 6)) (C := "RangeTeller$Runner") (T := rt_T4) (N := 18) hx hb hts rt_i4 hown hK hP 21 rfl rfl 6 (by decide) (hts _ (rt_m rt_w272)) (fun _ h9 => h9) rfl d_Runner_putOut_1 ?_
  refine lv_bipush (v := 20) hx hb d_Runner_putOut_4 (by decide) ?_
  refine lv_icmp_ge (tgt := 19) hx hb d_Runner_putOut_6 (by decide) (fun hc => ?_) (fun hc => ?_)
  · have hm := (if_pos hc).symm.trans hm
    exact hB19 ls σ _ _ (lv_sub hl [0] rfl) hm hP hS
  · have hm := (if_neg hc).symm.trans hm
    refine lv_aload_n hx hb d_Runner_putOut_9 rfl (lv_at hl 0 rfl) ?_
    refine va_get (D := D) (v := .ref (A 24)) (C := "RangeTeller$Runner") (T := rt_T4) (N := 18) hx hb hts rt_i4 hown hK hP 21 rfl rfl 5 (by decide) (hts _ (rt_m rt_w270)) (fun _ h9 => h9) rfl d_Runner_putOut_10 ?_
    refine lv_aload_n hx hb d_Runner_putOut_13 rfl (lv_at hl 0 rfl) ?_
    refine va_get (D := D) (v := .int (σ 21 6)) (C := "RangeTeller$Runner") (T := rt_T4) (N := 18) hx hb hts rt_i4 hown hK hP 21 rfl rfl 6 (by decide) (hts _ (rt_m rt_w272)) (fun _ h9 => h9) rfl d_Runner_putOut_14 ?_
    refine lv_iload_n hx hb d_Runner_putOut_17 rfl (lv_at hl 1 rfl) ?_
    obtain ⟨σ3, h4, hm⟩ := rt_b1s hm
    refine rt_ast hx hb hK hP hD hS 24 0 rfl (rtC_a24 cI cZ A _) rfl h4 d_Runner_putOut_18 (fun H locs hP hS => ?_)
    exact hB19 ls σ3 _ _ (lv_sub hl [0] rfl) hm hP hS
set_option maxHeartbeats 4000000 in
set_option maxRecDepth 100000 in
theorem k_C_Runner_takeInput (l : Launch) (D : va_G) (cI cZ : ClassId) (A : Nat → Nat) (hO : rt_Ok (rtC_W cI cZ A)) (σ : rt_St) (σ' : rt_St) (hm : M_C_Runner_takeInput σ = some σ') (sz : Nat) : Met l y_Runner_takeInput (rt_ws y_Runner_takeInput b_Runner_takeInput 1 none) ({ frames := 1, cells := 0, slots := 0, locals := 21 } : Room) (va_Pc [.ref (A 21)] (rt_P D rt_cl (rt_t cI cZ) rtC_X (rtC_W cI cZ A) sz σ)) (va_Qv (fun u1 => u1 = σ') (rt_B D rt_cl (rt_t cI cZ) rtC_X (rtC_W cI cZ A)) (rt_A (rtC_W cI cZ A) sz)) 0 0 (rt_A (rtC_W cI cZ A) sz) := by
  refine Met.ofW (cc := b_Runner_takeInput) (maxL := 1) (ret := none) (by decide) rfl ?_
  intro p e s m args below meth c s₁ B hml hv
  obtain ⟨rfl, rfl, hP, hK, hX⟩ := hv
  have hx := B.exec
  have hb := B.bytes
  have hr := B.returns
  have hts := atoms_spec (ws := (rt_ws y_Runner_takeInput b_Runner_takeInput 1 none)) B.pre
  have hown : s.vm.findClass "RangeTeller$Runner" = some m.cls := findClass_of_methodNamed B.named
  have hlocks := B.notSynchronized
  have hD := rt_hD hO s.heap.size
  have hS : va_S (rt_A (rtC_W cI cZ A) s.heap.size) s.heap s.heap [] := va_S.rf
  have hl := lv_entry ([.ref (A 21)]) (n := 1) (Nat.le_of_ble_eq_true rfl)
  rw [lg_entry_eq]
  generalize (lg_sl ([.ref (A 21)]) ++ List.replicate (1 - (lg_sl ([.ref (A 21)])).length) Slot.unset).toArray = ls at hl ⊢
  have hl : lv_has ls 1 [(0, .ref (A 21))] := hl
  show W p l e ({ frames := 1, cells := 0, slots := 0, locals := 21 } : Room) s m ([.ref (A 21)] : List Value).toArray below meth c s.heap [] 0 0 (rt_Qv D rt_cl (rt_t cI cZ) rtC_X (rtC_W cI cZ A) below ([.ref (A 21)] : List Value).toArray s σ') (F0 m 0 ls [])
  unfold M_C_Runner_takeInput at hm
  refine lv_aload_n hx hb d_Runner_takeInput_0 rfl (lv_at hl 0 rfl) ?_
  refine va_get (D := D) (v := .int (σ 21 3)) (C := "RangeTeller$Runner") (T := rt_T4) (N := 18) hx hb hts rt_i4 hown hK hP 21 rfl rfl 3 (by decide) (hts _ (rt_m rt_w267)) (fun _ h9 => h9) rfl d_Runner_takeInput_1 ?_
  refine lv_aload_n hx hb d_Runner_takeInput_4 rfl (lv_at hl 0 rfl) ?_
  refine va_get (D := D) (v := .int (σ 21 2)) (C := "RangeTeller$Runner") (T := rt_T4) (N := 18) hx hb hts rt_i4 hown hK hP 21 rfl rfl 2 (by decide) (hts _ (rt_m rt_w266)) (fun _ h9 => h9) rfl d_Runner_takeInput_5 ?_
  refine lv_icmp_ge (tgt := 37) hx hb d_Runner_takeInput_8 (by decide) (fun hc => ?_) (fun hc => ?_)
  · have hm := (if_pos hc).symm.trans hm
    refine lv_aload_n hx hb d_Runner_takeInput_37 rfl (lv_at hl 0 rfl) ?_
    refine lv_iconst (v := 0) hx hb d_Runner_takeInput_38 (by decide) ?_
    obtain ⟨σ2, h1, hm⟩ := rt_b1s hm
    refine rt_cvv (As := [.int 0]) (rest := []) (k := 21) rtC_Xo ⟨hx, hb, hml, hown, hts⟩ (k_C_Runner_push l D cI cZ A hO σ 0 _ h1) (cw_Runner_push hts (hts _ (rt_m rt_w762)) ⟨Nat.le_of_ble_eq_true rfl, Nat.le_of_ble_eq_true rfl⟩) hK hP hS hX rfl rfl rfl hl.1 rfl (Nat.le_of_ble_eq_true rfl) d_Runner_takeInput_39 ⟨Nat.zero_le _, Nat.zero_le _⟩ (fun H locs hP hS => ?_)
    exact W.vret hx hb hr (fun t ht hW => ⟨⟨_, rfl, Option.some.inj hm, rt_end rtC_Xo hK hP hS hX ht hW⟩, hS.F ht⟩) hS.2.2 d_Runner_takeInput_42
  · have hm := (if_neg hc).symm.trans hm
    refine lv_aload_n hx hb d_Runner_takeInput_11 rfl (lv_at hl 0 rfl) ?_
    refine lv_aload_n hx hb d_Runner_takeInput_12 rfl (lv_at hl 0 rfl) ?_
    refine va_get (D := D) (v := .ref (A 22)) (C := "RangeTeller$Runner") (T := rt_T4) (N := 18) hx hb hts rt_i4 hown hK hP 21 rfl rfl 1 (by decide) (hts _ (rt_m rt_w265)) (fun _ h9 => h9) rfl d_Runner_takeInput_13 ?_
    refine lv_aload_n hx hb d_Runner_takeInput_16 rfl (lv_at hl 0 rfl) ?_
    refine va_get (D := D) (v := .int (σ 21 3)) (C := "RangeTeller$Runner") (T := rt_T4) (N := 18) hx hb hts rt_i4 hown hK hP 21 rfl rfl 3 (by decide) (hts _ (rt_m rt_w267)) (fun _ h9 => h9) rfl d_Runner_takeInput_17 ?_
    obtain ⟨v3, h4, hm⟩ := rt_b1s hm
    refine rt_ald hx hb hK hP 22 0 rfl rfl h4 d_Runner_takeInput_20 ?_
    obtain ⟨σ6, h5, hm⟩ := rt_b1s hm
    refine rt_cvv (As := [.int v3]) (rest := []) (k := 21) rtC_Xo ⟨hx, hb, hml, hown, hts⟩ (k_C_Runner_push l D cI cZ A hO σ v3 _ h5) (cw_Runner_push hts (hts _ (rt_m rt_w762)) ⟨Nat.le_of_ble_eq_true rfl, Nat.le_of_ble_eq_true rfl⟩) hK hP hS hX rfl rfl rfl hl.1 rfl (Nat.le_of_ble_eq_true rfl) d_Runner_takeInput_21 ⟨Nat.zero_le _, Nat.zero_le _⟩ (fun H locs hP hS => ?_)
    refine lv_aload_n hx hb d_Runner_takeInput_24 rfl (lv_at hl 0 rfl) ?_
    refine lv_dup hx hb d_Runner_takeInput_25 rfl ?_
    refine va_get (D := D) (v := .int (σ6 21 3)) (C := "RangeTeller$Runner") (T := rt_T4) (N := 18) hx hb hts rt_i4 hown hK hP 21 rfl rfl 3 (by decide) (hts _ (rt_m rt_w267)) (fun _ h9 => h9) rfl d_Runner_takeInput_26 ?_
    refine lv_iconst (v := 1) hx hb d_Runner_takeInput_29 (by decide) ?_
    refine lv_iadd hx hb d_Runner_takeInput_30 ?_
    obtain ⟨σ7, h8, hm⟩ := rt_b1s hm
    refine rt_pf (D := D) (C := "RangeTeller$Runner") (T := rt_T4) (N := 18) (ty := .int) hx hb hts rt_i4 rt_y4 rt_o4 rt_n4 hown hK hP hD hS 21 rfl rfl 3 (by decide) (hts _ (rt_m rt_w267)) (fun _ h9 => h9) rfl (by decide +kernel) rfl rfl (Nat.le_of_ble_eq_true rfl) (rtC_s21_3 cI cZ A _ _) h8 d_Runner_takeInput_31 (fun H locs hP hS => ?_)
    refine lv_goto (tgt := 42) hx hb d_Runner_takeInput_34 (by decide) ?_
    exact W.vret hx hb hr (fun t ht hW => ⟨⟨_, rfl, Option.some.inj hm, rt_end rtC_Xo hK hP hS hX ht hW⟩, hS.F ht⟩) hS.2.2 d_Runner_takeInput_42
set_option maxHeartbeats 4000000 in
set_option maxRecDepth 100000 in
theorem k_C_Runner_store (l : Launch) (D : va_G) (cI cZ : ClassId) (A : Nat → Nat) (hO : rt_Ok (rtC_W cI cZ A)) (σ : rt_St) (a1 : Int32) (σ' : rt_St) (hm : M_C_Runner_store σ a1 = some σ') (sz : Nat) : Met l y_Runner_store (rt_ws y_Runner_store b_Runner_store 4 none) ({ frames := 1, cells := 0, slots := 0, locals := 20 } : Room) (va_Pc [.ref (A 21), .int a1] (rt_P D rt_cl (rt_t cI cZ) rtC_X (rtC_W cI cZ A) sz σ)) (va_Qv (fun u1 => u1 = σ') (rt_B D rt_cl (rt_t cI cZ) rtC_X (rtC_W cI cZ A)) (rt_A (rtC_W cI cZ A) sz)) 0 0 (rt_A (rtC_W cI cZ A) sz) := by
  refine Met.ofW (cc := b_Runner_store) (maxL := 4) (ret := none) (by decide) rfl ?_
  intro p e s m args below meth c s₁ B hml hv
  obtain ⟨rfl, rfl, hP, hK, hX⟩ := hv
  have hx := B.exec
  have hb := B.bytes
  have hr := B.returns
  have hts := atoms_spec (ws := (rt_ws y_Runner_store b_Runner_store 4 none)) B.pre
  have hown : s.vm.findClass "RangeTeller$Runner" = some m.cls := findClass_of_methodNamed B.named
  have hlocks := B.notSynchronized
  have hD := rt_hD hO s.heap.size
  have hS : va_S (rt_A (rtC_W cI cZ A) s.heap.size) s.heap s.heap [] := va_S.rf
  have hl := lv_entry ([.ref (A 21), .int a1]) (n := 4) (Nat.le_of_ble_eq_true rfl)
  rw [lg_entry_eq]
  generalize (lg_sl ([.ref (A 21), .int a1]) ++ List.replicate (4 - (lg_sl ([.ref (A 21), .int a1])).length) Slot.unset).toArray = ls at hl ⊢
  have hl : lv_has ls 4 [(0, .ref (A 21)), (1, .int a1)] := hl
  show W p l e ({ frames := 1, cells := 0, slots := 0, locals := 20 } : Room) s m ([.ref (A 21), .int a1] : List Value).toArray below meth c s.heap [] 0 0 (rt_Qv D rt_cl (rt_t cI cZ) rtC_X (rtC_W cI cZ A) below ([.ref (A 21), .int a1] : List Value).toArray s σ') (F0 m 0 ls [])
  unfold M_C_Runner_store at hm
  refine lv_aload_n hx hb d_Runner_store_0 rfl (lv_at hl 0 rfl) ?_
  obtain ⟨v3, σ2, h1, hm⟩ := rt_b2s hm
  refine rt_cvi (As := []) (rest := []) (k := 21) rtC_Xo ⟨hx, hb, hml, hown, hts⟩ (k_C_Runner_pop l D cI cZ A hO σ _ _ h1) (cw_Runner_pop hts (hts _ (rt_m rt_w734)) ⟨Nat.le_of_ble_eq_true rfl, Nat.le_of_ble_eq_true rfl⟩) hK hP hS hX rfl rfl rfl hl.1 rfl (Nat.le_of_ble_eq_true rfl) d_Runner_store_1 ⟨Nat.zero_le _, Nat.zero_le _⟩ (fun H locs hP hS => ?_)
  refine lv_istore_n hx hb d_Runner_store_4 rfl hl (by decide) rfl (fun ls hl => ?_)
  have hl : lv_has ls 4 [(2, .int v3), (0, .ref (A 21)), (1, .int a1)] := hl
  refine lv_aload_n hx hb d_Runner_store_5 rfl (lv_at hl 1 rfl) ?_
  obtain ⟨v6, σ5, h4, hm⟩ := rt_b2s hm
  refine rt_cvi (As := []) (rest := []) (k := 21) rtC_Xo ⟨hx, hb, hml, hown, hts⟩ (k_C_Runner_pop l D cI cZ A hO σ2 _ _ h4) (cw_Runner_pop hts (hts _ (rt_m rt_w734)) ⟨Nat.le_of_ble_eq_true rfl, Nat.le_of_ble_eq_true rfl⟩) hK hP hS hX rfl rfl rfl hl.1 rfl (Nat.le_of_ble_eq_true rfl) d_Runner_store_6 ⟨Nat.zero_le _, Nat.zero_le _⟩ (fun H locs hP hS => ?_)
  refine lv_iload_n hx hb d_Runner_store_9 rfl (lv_at hl 2 rfl) ?_
  refine lv_iadd hx hb d_Runner_store_10 ?_
  refine lv_istore_n hx hb d_Runner_store_11 rfl hl (by decide) rfl (fun ls hl => ?_)
  have hl : lv_has ls 4 [(3, .int (v6 + a1)), (2, .int v3), (0, .ref (A 21)), (1, .int a1)] := hl
  refine lv_iload_n hx hb d_Runner_store_12 rfl (lv_at hl 0 rfl) ?_
  refine lv_bipush (v := 16) hx hb d_Runner_store_13 (by decide) ?_
  refine lv_icmp_lt (tgt := 26) hx hb d_Runner_store_15 (by decide) (fun hc => ?_) (fun hc => ?_)
  · have hm := (if_pos hc).symm.trans hm
    refine lv_aload_n hx hb d_Runner_store_26 rfl (lv_at hl 2 rfl) ?_
    refine va_get (D := D) (v := .ref (A 23)) (C := "RangeTeller$Runner") (T := rt_T4) (N := 18) hx hb hts rt_i4 hown hK hP 21 rfl rfl 4 (by decide) (hts _ (rt_m rt_w268)) (fun _ h9 => h9) rfl d_Runner_store_27 ?_
    refine lv_iload_n hx hb d_Runner_store_30 rfl (lv_at hl 0 rfl) ?_
    refine lv_iload_n hx hb d_Runner_store_31 rfl (lv_at hl 1 rfl) ?_
    obtain ⟨σ7, h8, hm⟩ := rt_b1s hm
    refine rt_ast hx hb hK hP hD hS 23 0 rfl (rtC_a23 cI cZ A _) rfl h8 d_Runner_store_32 (fun H locs hP hS => ?_)
    exact W.vret hx hb hr (fun t ht hW => ⟨⟨_, rfl, Option.some.inj hm, rt_end rtC_Xo hK hP hS hX ht hW⟩, hS.F ht⟩) hS.2.2 d_Runner_store_33
  · have hm := (if_neg hc).symm.trans hm
    refine lv_aload_n hx hb d_Runner_store_18 rfl (lv_at hl 2 rfl) ?_
    refine lv_iconst (v := 2) hx hb d_Runner_store_19 (by decide) ?_
    obtain ⟨σ9, h10, hm⟩ := rt_b1s hm
    refine rt_pf (D := D) (C := "RangeTeller$Runner") (T := rt_T4) (N := 18) (ty := .int) hx hb hts rt_i4 rt_y4 rt_o4 rt_n4 hown hK hP hD hS 21 rfl rfl 8 (by decide) (hts _ (rt_m rt_w276)) (fun _ h9 => h9) rfl (by decide +kernel) rfl rfl (Nat.le_of_ble_eq_true rfl) (rtC_s21_8 cI cZ A _ _) h10 d_Runner_store_20 (fun H locs hP hS => ?_)
    refine lv_goto (tgt := 33) hx hb d_Runner_store_23 (by decide) ?_
    exact W.vret hx hb hr (fun t ht hW => ⟨⟨_, rfl, Option.some.inj hm, rt_end rtC_Xo hK hP hS hX ht hW⟩, hS.F ht⟩) hS.2.2 d_Runner_store_33
set_option maxHeartbeats 4000000 in
set_option maxRecDepth 100000 in
theorem k_C_Runner_fetch (l : Launch) (D : va_G) (cI cZ : ClassId) (A : Nat → Nat) (hO : rt_Ok (rtC_W cI cZ A)) (σ : rt_St) (a1 : Int32) (σ' : rt_St) (hm : M_C_Runner_fetch σ a1 = some σ') (sz : Nat) : Met l y_Runner_fetch (rt_ws y_Runner_fetch b_Runner_fetch 3 none) ({ frames := 1, cells := 0, slots := 0, locals := 21 } : Room) (va_Pc [.ref (A 21), .int a1] (rt_P D rt_cl (rt_t cI cZ) rtC_X (rtC_W cI cZ A) sz σ)) (va_Qv (fun u1 => u1 = σ') (rt_B D rt_cl (rt_t cI cZ) rtC_X (rtC_W cI cZ A)) (rt_A (rtC_W cI cZ A) sz)) 0 0 (rt_A (rtC_W cI cZ A) sz) := by
  refine Met.ofW (cc := b_Runner_fetch) (maxL := 3) (ret := none) (by decide) rfl ?_
  intro p e s m args below meth c s₁ B hml hv
  obtain ⟨rfl, rfl, hP, hK, hX⟩ := hv
  have hx := B.exec
  have hb := B.bytes
  have hr := B.returns
  have hts := atoms_spec (ws := (rt_ws y_Runner_fetch b_Runner_fetch 3 none)) B.pre
  have hown : s.vm.findClass "RangeTeller$Runner" = some m.cls := findClass_of_methodNamed B.named
  have hlocks := B.notSynchronized
  have hD := rt_hD hO s.heap.size
  have hS : va_S (rt_A (rtC_W cI cZ A) s.heap.size) s.heap s.heap [] := va_S.rf
  have hl := lv_entry ([.ref (A 21), .int a1]) (n := 3) (Nat.le_of_ble_eq_true rfl)
  rw [lg_entry_eq]
  generalize (lg_sl ([.ref (A 21), .int a1]) ++ List.replicate (3 - (lg_sl ([.ref (A 21), .int a1])).length) Slot.unset).toArray = ls at hl ⊢
  have hl : lv_has ls 3 [(0, .ref (A 21)), (1, .int a1)] := hl
  show W p l e ({ frames := 1, cells := 0, slots := 0, locals := 21 } : Room) s m ([.ref (A 21), .int a1] : List Value).toArray below meth c s.heap [] 0 0 (rt_Qv D rt_cl (rt_t cI cZ) rtC_X (rtC_W cI cZ A) below ([.ref (A 21), .int a1] : List Value).toArray s σ') (F0 m 0 ls [])
  unfold M_C_Runner_fetch at hm
  refine lv_aload_n hx hb d_Runner_fetch_0 rfl (lv_at hl 0 rfl) ?_
  obtain ⟨v3, σ2, h1, hm⟩ := rt_b2s hm
  refine rt_cvi (As := []) (rest := []) (k := 21) rtC_Xo ⟨hx, hb, hml, hown, hts⟩ (k_C_Runner_pop l D cI cZ A hO σ _ _ h1) (cw_Runner_pop hts (hts _ (rt_m rt_w734)) ⟨Nat.le_of_ble_eq_true rfl, Nat.le_of_ble_eq_true rfl⟩) hK hP hS hX rfl rfl rfl hl.1 rfl (Nat.le_of_ble_eq_true rfl) d_Runner_fetch_1 ⟨Nat.zero_le _, Nat.zero_le _⟩ (fun H locs hP hS => ?_)
  refine lv_iload_n hx hb d_Runner_fetch_4 rfl (lv_at hl 1 rfl) ?_
  refine lv_iadd hx hb d_Runner_fetch_5 ?_
  refine lv_istore_n hx hb d_Runner_fetch_6 rfl hl (by decide) rfl (fun ls hl => ?_)
  have hl : lv_has ls 3 [(2, .int (v3 + a1)), (0, .ref (A 21)), (1, .int a1)] := hl
  refine lv_iload_n hx hb d_Runner_fetch_7 rfl (lv_at hl 0 rfl) ?_
  refine lv_bipush (v := 16) hx hb d_Runner_fetch_8 (by decide) ?_
  refine lv_icmp_lt (tgt := 21) hx hb d_Runner_fetch_10 (by decide) (fun hc => ?_) (fun hc => ?_)
  · have hm := (if_pos hc).symm.trans hm
    refine lv_aload_n hx hb d_Runner_fetch_21 rfl (lv_at hl 1 rfl) ?_
    refine lv_aload_n hx hb d_Runner_fetch_22 rfl (lv_at hl 1 rfl) ?_
    refine va_get (D := D) (v := .ref (A 23)) (C := "RangeTeller$Runner") (T := rt_T4) (N := 18) hx hb hts rt_i4 hown hK hP 21 rfl rfl 4 (by decide) (hts _ (rt_m rt_w268)) (fun _ h9 => h9) rfl d_Runner_fetch_23 ?_
    refine lv_iload_n hx hb d_Runner_fetch_26 rfl (lv_at hl 0 rfl) ?_
    obtain ⟨v4, h5, hm⟩ := rt_b1s hm
    refine rt_ald hx hb hK hP 23 0 rfl rfl h5 d_Runner_fetch_27 ?_
    obtain ⟨σ7, h6, hm⟩ := rt_b1s hm
    refine rt_cvv (As := [.int v4]) (rest := []) (k := 21) rtC_Xo ⟨hx, hb, hml, hown, hts⟩ (k_C_Runner_push l D cI cZ A hO σ2 v4 _ h6) (cw_Runner_push hts (hts _ (rt_m rt_w762)) ⟨Nat.le_of_ble_eq_true rfl, Nat.le_of_ble_eq_true rfl⟩) hK hP hS hX rfl rfl rfl hl.1 rfl (Nat.le_of_ble_eq_true rfl) d_Runner_fetch_28 ⟨Nat.zero_le _, Nat.zero_le _⟩ (fun H locs hP hS => ?_)
    exact W.vret hx hb hr (fun t ht hW => ⟨⟨_, rfl, Option.some.inj hm, rt_end rtC_Xo hK hP hS hX ht hW⟩, hS.F ht⟩) hS.2.2 d_Runner_fetch_31
  · have hm := (if_neg hc).symm.trans hm
    refine lv_aload_n hx hb d_Runner_fetch_13 rfl (lv_at hl 1 rfl) ?_
    refine lv_iconst (v := 2) hx hb d_Runner_fetch_14 (by decide) ?_
    obtain ⟨σ8, h9, hm⟩ := rt_b1s hm
    refine rt_pf (D := D) (C := "RangeTeller$Runner") (T := rt_T4) (N := 18) (ty := .int) hx hb hts rt_i4 rt_y4 rt_o4 rt_n4 hown hK hP hD hS 21 rfl rfl 8 (by decide) (hts _ (rt_m rt_w276)) (fun _ h9 => h9) rfl (by decide +kernel) rfl rfl (Nat.le_of_ble_eq_true rfl) (rtC_s21_8 cI cZ A _ _) h9 d_Runner_fetch_15 (fun H locs hP hS => ?_)
    refine lv_goto (tgt := 31) hx hb d_Runner_fetch_18 (by decide) ?_
    exact W.vret hx hb hr (fun t ht hW => ⟨⟨_, rfl, Option.some.inj hm, rt_end rtC_Xo hK hP hS hX ht hW⟩, hS.F ht⟩) hS.2.2 d_Runner_fetch_31
set_option maxHeartbeats 4000000 in
set_option maxRecDepth 100000 in
theorem k_C_Runner_pick (l : Launch) (D : va_G) (cI cZ : ClassId) (A : Nat → Nat) (hO : rt_Ok (rtC_W cI cZ A)) (σ : rt_St) (σ' : rt_St) (hm : M_C_Runner_pick σ = some σ') (sz : Nat) : Met l y_Runner_pick (rt_ws y_Runner_pick b_Runner_pick 4 none) ({ frames := 1, cells := 0, slots := 0, locals := 21 } : Room) (va_Pc [.ref (A 21)] (rt_P D rt_cl (rt_t cI cZ) rtC_X (rtC_W cI cZ A) sz σ)) (va_Qv (fun u1 => u1 = σ') (rt_B D rt_cl (rt_t cI cZ) rtC_X (rtC_W cI cZ A)) (rt_A (rtC_W cI cZ A) sz)) 0 0 (rt_A (rtC_W cI cZ A) sz) := by
  refine Met.ofW (cc := b_Runner_pick) (maxL := 4) (ret := none) (by decide) rfl ?_
  intro p e s m args below meth c s₁ B hml hv
  obtain ⟨rfl, rfl, hP, hK, hX⟩ := hv
  have hx := B.exec
  have hb := B.bytes
  have hr := B.returns
  have hts := atoms_spec (ws := (rt_ws y_Runner_pick b_Runner_pick 4 none)) B.pre
  have hown : s.vm.findClass "RangeTeller$Runner" = some m.cls := findClass_of_methodNamed B.named
  have hlocks := B.notSynchronized
  have hD := rt_hD hO s.heap.size
  have hS : va_S (rt_A (rtC_W cI cZ A) s.heap.size) s.heap s.heap [] := va_S.rf
  have hl := lv_entry ([.ref (A 21)]) (n := 4) (Nat.le_of_ble_eq_true rfl)
  rw [lg_entry_eq]
  generalize (lg_sl ([.ref (A 21)]) ++ List.replicate (4 - (lg_sl ([.ref (A 21)])).length) Slot.unset).toArray = ls at hl ⊢
  have hl : lv_has ls 4 [(0, .ref (A 21))] := hl
  show W p l e ({ frames := 1, cells := 0, slots := 0, locals := 21 } : Room) s m ([.ref (A 21)] : List Value).toArray below meth c s.heap [] 0 0 (rt_Qv D rt_cl (rt_t cI cZ) rtC_X (rtC_W cI cZ A) below ([.ref (A 21)] : List Value).toArray s σ') (F0 m 0 ls [])
  have hB25 : ∀ (ls : Array Slot) (t0 : Int32) (σ : rt_St) (H : Heap) (locs : List Loc), lv_has ls 4 [] → B_C_Runner_pick_25 t0 σ = some σ' → va_P D rt_cl (rtC_W cI cZ A σ) H → va_S (rt_A (rtC_W cI cZ A) s.heap.size) s.heap H locs → W p l e ({ frames := 1, cells := 0, slots := 0, locals := 21 } : Room) s m ([.ref (A 21)] : List Value).toArray below meth c H locs 0 0 (rt_Qv D rt_cl (rt_t cI cZ) rtC_X (rtC_W cI cZ A) below ([.ref (A 21)] : List Value).toArray s σ') (F0 m 25 ls [.int t0, .ref (A 21)]) := by
    intro ls t0 σ H locs hl hm hP hS
    unfold B_C_Runner_pick_25 at hm
    obtain ⟨σ2, h1, hm⟩ := rt_b1s hm
    refine rt_cvv (As := [.int t0]) (rest := []) (k := 21) rtC_Xo ⟨hx, hb, hml, hown, hts⟩ (k_C_Runner_push l D cI cZ A hO σ t0 _ h1) (cw_Runner_push hts (hts _ (rt_m rt_w762)) ⟨Nat.le_of_ble_eq_true rfl, Nat.le_of_ble_eq_true rfl⟩) hK hP hS hX rfl rfl rfl hl.1 rfl (Nat.le_of_ble_eq_true rfl) d_Runner_pick_25 ⟨Nat.zero_le _, Nat.zero_le _⟩ (fun H locs hP hS => ?_)
    exact W.vret hx hb hr (fun t ht hW => ⟨⟨_, rfl, Option.some.inj hm, rt_end rtC_Xo hK hP hS hX ht hW⟩, hS.F ht⟩) hS.2.2 d_Runner_pick_28
  unfold M_C_Runner_pick at hm
  refine lv_aload_n hx hb d_Runner_pick_0 rfl (lv_at hl 0 rfl) ?_
  obtain ⟨v5, σ4, h3, hm⟩ := rt_b2s hm
  refine rt_cvi (As := []) (rest := []) (k := 21) rtC_Xo ⟨hx, hb, hml, hown, hts⟩ (k_C_Runner_pop l D cI cZ A hO σ _ _ h3) (cw_Runner_pop hts (hts _ (rt_m rt_w734)) ⟨Nat.le_of_ble_eq_true rfl, Nat.le_of_ble_eq_true rfl⟩) hK hP hS hX rfl rfl rfl hl.1 rfl (Nat.le_of_ble_eq_true rfl) d_Runner_pick_1 ⟨Nat.zero_le _, Nat.zero_le _⟩ (fun H locs hP hS => ?_)
  refine lv_istore_n hx hb d_Runner_pick_4 rfl hl (by decide) rfl (fun ls hl => ?_)
  have hl : lv_has ls 4 [(1, .int v5), (0, .ref (A 21))] := hl
  refine lv_aload_n hx hb d_Runner_pick_5 rfl (lv_at hl 1 rfl) ?_
  obtain ⟨v8, σ7, h6, hm⟩ := rt_b2s hm
  refine rt_cvi (As := []) (rest := []) (k := 21) rtC_Xo ⟨hx, hb, hml, hown, hts⟩ (k_C_Runner_pop l D cI cZ A hO σ4 _ _ h6) (cw_Runner_pop hts (hts _ (rt_m rt_w734)) ⟨Nat.le_of_ble_eq_true rfl, Nat.le_of_ble_eq_true rfl⟩) hK hP hS hX rfl rfl rfl hl.1 rfl (Nat.le_of_ble_eq_true rfl) d_Runner_pick_6 ⟨Nat.zero_le _, Nat.zero_le _⟩ (fun H locs hP hS => ?_)
  refine lv_istore_n hx hb d_Runner_pick_9 rfl hl (by decide) rfl (fun ls hl => ?_)
  have hl : lv_has ls 4 [(2, .int v8), (1, .int v5), (0, .ref (A 21))] := hl
  refine lv_aload_n hx hb d_Runner_pick_10 rfl (lv_at hl 2 rfl) ?_
  obtain ⟨v11, σ10, h9, hm⟩ := rt_b2s hm
  refine rt_cvi (As := []) (rest := []) (k := 21) rtC_Xo ⟨hx, hb, hml, hown, hts⟩ (k_C_Runner_pop l D cI cZ A hO σ7 _ _ h9) (cw_Runner_pop hts (hts _ (rt_m rt_w734)) ⟨Nat.le_of_ble_eq_true rfl, Nat.le_of_ble_eq_true rfl⟩) hK hP hS hX rfl rfl rfl hl.1 rfl (Nat.le_of_ble_eq_true rfl) d_Runner_pick_11 ⟨Nat.zero_le _, Nat.zero_le _⟩ (fun H locs hP hS => ?_)
  refine lv_istore_n hx hb d_Runner_pick_14 rfl hl (by decide) rfl (fun ls hl => ?_)
  have hl : lv_has ls 4 [(3, .int v11), (2, .int v8), (1, .int v5), (0, .ref (A 21))] := hl
  refine lv_aload_n hx hb d_Runner_pick_15 rfl (lv_at hl 3 rfl) ?_
  refine lv_iload_n hx hb d_Runner_pick_16 rfl (lv_at hl 2 rfl) ?_
  refine lv_if_eq (tgt := 24) hx hb d_Runner_pick_17 (by decide) (fun hc => ?_) (fun hc => ?_)
  · have hm := (if_pos hc).symm.trans hm
    refine lv_iload_n hx hb d_Runner_pick_24 rfl (lv_at hl 1 rfl) ?_
    exact hB25 ls v8 σ10 _ _ (lv_sub hl [] rfl) hm hP hS
  · have hm := (if_neg hc).symm.trans hm
    refine lv_iload_n hx hb d_Runner_pick_20 rfl (lv_at hl 0 rfl) ?_
    refine lv_goto (tgt := 25) hx hb d_Runner_pick_21 (by decide) ?_
    exact hB25 ls v11 σ10 _ _ (lv_sub hl [] rfl) hm hP hS
set_option maxHeartbeats 4000000 in
set_option maxRecDepth 100000 in
theorem k_C_Runner_operate (l : Launch) (D : va_G) (cI cZ : ClassId) (A : Nat → Nat) (hO : rt_Ok (rtC_W cI cZ A)) (σ : rt_St) (a1 a2 : Int32) (σ' : rt_St) (hm : M_C_Runner_operate σ a1 a2 = some σ') (sz : Nat) : Met l y_Runner_operate (rt_ws y_Runner_operate b_Runner_operate 4 none) ({ frames := 2, cells := 0, slots := 0, locals := 45 } : Room) (va_Pc [.ref (A 21), .int a1, .int a2] (rt_P D rt_cl (rt_t cI cZ) rtC_X (rtC_W cI cZ A) sz σ)) (va_Qv (fun u1 => u1 = σ') (rt_B D rt_cl (rt_t cI cZ) rtC_X (rtC_W cI cZ A)) (rt_A (rtC_W cI cZ A) sz)) 0 0 (rt_A (rtC_W cI cZ A) sz) := by
  refine Met.ofW (cc := b_Runner_operate) (maxL := 4) (ret := none) (by decide) rfl ?_
  intro p e s m args below meth c s₁ B hml hv
  obtain ⟨rfl, rfl, hP, hK, hX⟩ := hv
  have hx := B.exec
  have hb := B.bytes
  have hr := B.returns
  have hts := atoms_spec (ws := (rt_ws y_Runner_operate b_Runner_operate 4 none)) B.pre
  have hown : s.vm.findClass "RangeTeller$Runner" = some m.cls := findClass_of_methodNamed B.named
  have hlocks := B.notSynchronized
  have hD := rt_hD hO s.heap.size
  have hS : va_S (rt_A (rtC_W cI cZ A) s.heap.size) s.heap s.heap [] := va_S.rf
  have hl := lv_entry ([.ref (A 21), .int a1, .int a2]) (n := 4) (Nat.le_of_ble_eq_true rfl)
  rw [lg_entry_eq]
  generalize (lg_sl ([.ref (A 21), .int a1, .int a2]) ++ List.replicate (4 - (lg_sl ([.ref (A 21), .int a1, .int a2])).length) Slot.unset).toArray = ls at hl ⊢
  have hl : lv_has ls 4 [(0, .ref (A 21)), (1, .int a1), (2, .int a2)] := hl
  show W p l e ({ frames := 2, cells := 0, slots := 0, locals := 45 } : Room) s m ([.ref (A 21), .int a1, .int a2] : List Value).toArray below meth c s.heap [] 0 0 (rt_Qv D rt_cl (rt_t cI cZ) rtC_X (rtC_W cI cZ A) below ([.ref (A 21), .int a1, .int a2] : List Value).toArray s σ') (F0 m 0 ls [])
  have hB203 : ∀ (ls : Array Slot) (t0 : Int32) (σ : rt_St) (H : Heap) (locs : List Loc), lv_has ls 4 [] → B_C_Runner_operate_203 t0 σ = some σ' → va_P D rt_cl (rtC_W cI cZ A σ) H → va_S (rt_A (rtC_W cI cZ A) s.heap.size) s.heap H locs → W p l e ({ frames := 2, cells := 0, slots := 0, locals := 45 } : Room) s m ([.ref (A 21), .int a1, .int a2] : List Value).toArray below meth c H locs 0 0 (rt_Qv D rt_cl (rt_t cI cZ) rtC_X (rtC_W cI cZ A) below ([.ref (A 21), .int a1, .int a2] : List Value).toArray s σ') (F0 m 203 ls [.int t0, .ref (A 21)]) := by
    intro ls t0 σ H locs hl hm hP hS
    unfold B_C_Runner_operate_203 at hm
    obtain ⟨σ2, h1, hm⟩ := rt_b1s hm
    refine rt_cvv (As := [.int t0]) (rest := []) (k := 21) rtC_Xo ⟨hx, hb, hml, hown, hts⟩ (k_C_Runner_push l D cI cZ A hO σ t0 _ h1) (cw_Runner_push hts (hts _ (rt_m rt_w762)) ⟨Nat.le_of_ble_eq_true rfl, Nat.le_of_ble_eq_true rfl⟩) hK hP hS hX rfl rfl rfl hl.1 rfl (Nat.le_of_ble_eq_true rfl) d_Runner_operate_203 ⟨Nat.zero_le _, Nat.zero_le _⟩ (fun H locs hP hS => ?_)
    refine lv_goto (tgt := 232) hx hb d_Runner_operate_206 (by decide) ?_
    exact W.vret hx hb hr (fun t ht hW => ⟨⟨_, rfl, Option.some.inj hm, rt_end rtC_Xo hK hP hS hX ht hW⟩, hS.F ht⟩) hS.2.2 d_Runner_operate_232
  unfold M_C_Runner_operate at hm
  refine lv_aload_n hx hb d_Runner_operate_0 rfl (lv_at hl 0 rfl) ?_
  refine va_get (D := D) (v := .int (σ 21 16)) (C := "RangeTeller$Runner") (T := rt_T4) (N := 18) hx hb hts rt_i4 hown hK hP 21 rfl rfl 16 (by decide) (hts _ (rt_m rt_w288)) (fun _ h9 => h9) rfl d_Runner_operate_1 ?_
  refine lv_iconst (v := 4) hx hb d_Runner_operate_4 (by decide) ?_
  refine lv_imul hx hb d_Runner_operate_5 ?_
  refine lv_iload_n hx hb d_Runner_operate_6 rfl (lv_at hl 2 rfl) ?_
  refine lv_iadd hx hb d_Runner_operate_7 ?_
  refine lv_istore_n hx hb d_Runner_operate_8 rfl hl (by decide) rfl (fun ls hl => ?_)
  have hl : lv_has ls 4 [(3, .int (((σ 21 16) * 4) + a2)), (0, .ref (A 21)), (1, .int a1), (2, .int a2)] := hl
  refine lv_iload_n hx hb d_Runner_operate_9 rfl (lv_at hl 2 rfl) ?_
  by_cases c3 : a1 = 10
  · have hm := (if_pos c3).symm.trans hm
    refine lv_tableIn (off := 90) (tgt := 100) hx hb d_Runner_operate_10 (by rw [c3]; decide) (by rw [c3]; decide) (by rw [c3]; rfl) (by decide) ?_
    refine lv_aload_n hx hb d_Runner_operate_100 rfl (lv_at hl 1 rfl) ?_
    refine lv_dup hx hb d_Runner_operate_101 rfl ?_
    refine va_get (D := D) (v := .int (σ 21 17)) (C := "RangeTeller$Runner") (T := rt_T4) (N := 18) hx hb hts rt_i4 hown hK hP 21 rfl rfl 17 (by decide) (hts _ (rt_m rt_w289)) (fun _ h9 => h9) rfl d_Runner_operate_102 ?_
    refine lv_iconst (v := 1) hx hb d_Runner_operate_105 (by decide) ?_
    refine lv_isub hx hb d_Runner_operate_106 ?_
    obtain ⟨σ4, h5, hm⟩ := rt_b1s hm
    refine rt_pf (D := D) (C := "RangeTeller$Runner") (T := rt_T4) (N := 18) (ty := .int) hx hb hts rt_i4 rt_y4 rt_o4 rt_n4 hown hK hP hD hS 21 rfl rfl 17 (by decide) (hts _ (rt_m rt_w289)) (fun _ h9 => h9) rfl (by decide +kernel) rfl rfl (Nat.le_of_ble_eq_true rfl) (rtC_s21_17 cI cZ A _ _) h5 d_Runner_operate_107 (fun H locs hP hS => ?_)
    refine lv_goto (tgt := 232) hx hb d_Runner_operate_110 (by decide) ?_
    exact W.vret hx hb hr (fun t ht hW => ⟨⟨_, rfl, Option.some.inj hm, rt_end rtC_Xo hK hP hS hX ht hW⟩, hS.F ht⟩) hS.2.2 d_Runner_operate_232
  have hm := (if_neg c3).symm.trans hm
  by_cases c6 : a1 = 11
  · have hm := (if_pos c6).symm.trans hm
    refine lv_tableIn (off := 103) (tgt := 113) hx hb d_Runner_operate_10 (by rw [c6]; decide) (by rw [c6]; decide) (by rw [c6]; rfl) (by decide) ?_
    refine lv_aload_n hx hb d_Runner_operate_113 rfl (lv_at hl 1 rfl) ?_
    obtain ⟨σ8, h7, hm⟩ := rt_b1s hm
    refine rt_cvv (As := []) (rest := []) (k := 21) rtC_Xo ⟨hx, hb, hml, hown, hts⟩ (k_C_Runner_pick l D cI cZ A hO σ _ h7) (cw_Runner_pick hts (hts _ (rt_m rt_w758)) ⟨Nat.le_of_ble_eq_true rfl, Nat.le_of_ble_eq_true rfl⟩) hK hP hS hX rfl rfl rfl hl.1 rfl (Nat.le_of_ble_eq_true rfl) d_Runner_operate_114 ⟨Nat.zero_le _, Nat.zero_le _⟩ (fun H locs hP hS => ?_)
    refine lv_goto (tgt := 232) hx hb d_Runner_operate_117 (by decide) ?_
    exact W.vret hx hb hr (fun t ht hW => ⟨⟨_, rfl, Option.some.inj hm, rt_end rtC_Xo hK hP hS hX ht hW⟩, hS.F ht⟩) hS.2.2 d_Runner_operate_232
  have hm := (if_neg c6).symm.trans hm
  by_cases c9 : a1 = 12
  · have hm := (if_pos c9).symm.trans hm
    refine lv_tableIn (off := 110) (tgt := 120) hx hb d_Runner_operate_10 (by rw [c9]; decide) (by rw [c9]; decide) (by rw [c9]; rfl) (by decide) ?_
    refine lv_aload_n hx hb d_Runner_operate_120 rfl (lv_at hl 1 rfl) ?_
    refine lv_aload_n hx hb d_Runner_operate_121 rfl (lv_at hl 1 rfl) ?_
    refine va_get (D := D) (v := .ref (A 26)) (C := "RangeTeller$Runner") (T := rt_T4) (N := 18) hx hb hts rt_i4 hown hK hP 21 rfl rfl 13 (by decide) (hts _ (rt_m rt_w285)) (fun _ h9 => h9) rfl d_Runner_operate_122 ?_
    refine lv_iload_n hx hb d_Runner_operate_125 rfl (lv_at hl 0 rfl) ?_
    obtain ⟨v10, h11, hm⟩ := rt_b1s hm
    refine rt_ald hx hb hK hP 26 0 rfl rfl h11 d_Runner_operate_126 ?_
    obtain ⟨σ13, h12, hm⟩ := rt_b1s hm
    refine rt_cvv (As := [.int v10]) (rest := []) (k := 21) rtC_Xo ⟨hx, hb, hml, hown, hts⟩ (k_C_Runner_push l D cI cZ A hO σ v10 _ h12) (cw_Runner_push hts (hts _ (rt_m rt_w762)) ⟨Nat.le_of_ble_eq_true rfl, Nat.le_of_ble_eq_true rfl⟩) hK hP hS hX rfl rfl rfl hl.1 rfl (Nat.le_of_ble_eq_true rfl) d_Runner_operate_127 ⟨Nat.zero_le _, Nat.zero_le _⟩ (fun H locs hP hS => ?_)
    refine lv_goto (tgt := 232) hx hb d_Runner_operate_130 (by decide) ?_
    exact W.vret hx hb hr (fun t ht hW => ⟨⟨_, rfl, Option.some.inj hm, rt_end rtC_Xo hK hP hS hX ht hW⟩, hS.F ht⟩) hS.2.2 d_Runner_operate_232
  have hm := (if_neg c9).symm.trans hm
  by_cases c14 : a1 = 13
  · have hm := (if_pos c14).symm.trans hm
    refine lv_tableIn (off := 123) (tgt := 133) hx hb d_Runner_operate_10 (by rw [c14]; decide) (by rw [c14]; decide) (by rw [c14]; rfl) (by decide) ?_
    refine lv_aload_n hx hb d_Runner_operate_133 rfl (lv_at hl 1 rfl) ?_
    refine va_get (D := D) (v := .ref (A 26)) (C := "RangeTeller$Runner") (T := rt_T4) (N := 18) hx hb hts rt_i4 hown hK hP 21 rfl rfl 13 (by decide) (hts _ (rt_m rt_w285)) (fun _ h9 => h9) rfl d_Runner_operate_134 ?_
    refine lv_iload_n hx hb d_Runner_operate_137 rfl (lv_at hl 0 rfl) ?_
    refine lv_aload_n hx hb d_Runner_operate_138 rfl (lv_at hl 1 rfl) ?_
    obtain ⟨v17, σ16, h15, hm⟩ := rt_b2s hm
    refine rt_cvi (As := []) (rest := [.int (((σ 21 16) * 4) + a2), .ref (A 26)]) (k := 21) rtC_Xo ⟨hx, hb, hml, hown, hts⟩ (k_C_Runner_pop l D cI cZ A hO σ _ _ h15) (cw_Runner_pop hts (hts _ (rt_m rt_w734)) ⟨Nat.le_of_ble_eq_true rfl, Nat.le_of_ble_eq_true rfl⟩) hK hP hS hX rfl rfl rfl hl.1 rfl (Nat.le_of_ble_eq_true rfl) d_Runner_operate_139 ⟨Nat.zero_le _, Nat.zero_le _⟩ (fun H locs hP hS => ?_)
    obtain ⟨σ18, h19, hm⟩ := rt_b1s hm
    refine rt_ast hx hb hK hP hD hS 26 0 rfl (rtC_a26 cI cZ A _) rfl h19 d_Runner_operate_142 (fun H locs hP hS => ?_)
    refine lv_goto (tgt := 232) hx hb d_Runner_operate_143 (by decide) ?_
    exact W.vret hx hb hr (fun t ht hW => ⟨⟨_, rfl, Option.some.inj hm, rt_end rtC_Xo hK hP hS hX ht hW⟩, hS.F ht⟩) hS.2.2 d_Runner_operate_232
  have hm := (if_neg c14).symm.trans hm
  by_cases c20 : a1 = 14
  · have hm := (if_pos c20).symm.trans hm
    refine lv_tableIn (off := 136) (tgt := 146) hx hb d_Runner_operate_10 (by rw [c20]; decide) (by rw [c20]; decide) (by rw [c20]; rfl) (by decide) ?_
    refine lv_aload_n hx hb d_Runner_operate_146 rfl (lv_at hl 1 rfl) ?_
    refine va_get (D := D) (v := .ref (A 26)) (C := "RangeTeller$Runner") (T := rt_T4) (N := 18) hx hb hts rt_i4 hown hK hP 21 rfl rfl 13 (by decide) (hts _ (rt_m rt_w285)) (fun _ h9 => h9) rfl d_Runner_operate_147 ?_
    refine lv_iload_n hx hb d_Runner_operate_150 rfl (lv_at hl 0 rfl) ?_
    refine lv_aload_n hx hb d_Runner_operate_151 rfl (lv_at hl 1 rfl) ?_
    refine va_get (D := D) (v := .ref (A 25)) (C := "RangeTeller$Runner") (T := rt_T4) (N := 18) hx hb hts rt_i4 hown hK hP 21 rfl rfl 12 (by decide) (hts _ (rt_m rt_w284)) (fun _ h9 => h9) rfl d_Runner_operate_152 ?_
    refine lv_aload_n hx hb d_Runner_operate_155 rfl (lv_at hl 1 rfl) ?_
    refine va_get (D := D) (v := .int (σ 21 17)) (C := "RangeTeller$Runner") (T := rt_T4) (N := 18) hx hb hts rt_i4 hown hK hP 21 rfl rfl 17 (by decide) (hts _ (rt_m rt_w289)) (fun _ h9 => h9) rfl d_Runner_operate_156 ?_
    refine lv_iconst (v := 1) hx hb d_Runner_operate_159 (by decide) ?_
    refine lv_isub hx hb d_Runner_operate_160 ?_
    obtain ⟨v21, h22, hm⟩ := rt_b1s hm
    refine rt_ald hx hb hK hP 25 0 rfl rfl h22 d_Runner_operate_161 ?_
    obtain ⟨σ23, h24, hm⟩ := rt_b1s hm
    refine rt_ast hx hb hK hP hD hS 26 0 rfl (rtC_a26 cI cZ A _) rfl h24 d_Runner_operate_162 (fun H locs hP hS => ?_)
    refine lv_goto (tgt := 232) hx hb d_Runner_operate_163 (by decide) ?_
    exact W.vret hx hb hr (fun t ht hW => ⟨⟨_, rfl, Option.some.inj hm, rt_end rtC_Xo hK hP hS hX ht hW⟩, hS.F ht⟩) hS.2.2 d_Runner_operate_232
  have hm := (if_neg c20).symm.trans hm
  by_cases c25 : a1 = 15
  · have hm := (if_pos c25).symm.trans hm
    refine lv_tableIn (off := 156) (tgt := 166) hx hb d_Runner_operate_10 (by rw [c25]; decide) (by rw [c25]; decide) (by rw [c25]; rfl) (by decide) ?_
    refine lv_aload_n hx hb d_Runner_operate_166 rfl (lv_at hl 1 rfl) ?_
    refine lv_iload_n hx hb d_Runner_operate_167 rfl (lv_at hl 3 rfl) ?_
    obtain ⟨σ27, h26, hm⟩ := rt_b1s hm
    refine rt_cvv (As := [.int a2]) (rest := []) (k := 21) rtC_Xo ⟨hx, hb, hml, hown, hts⟩ (k_C_Runner_fetch l D cI cZ A hO σ a2 _ h26) (cw_Runner_fetch hts (hts _ (rt_m rt_w766)) ⟨Nat.le_of_ble_eq_true rfl, Nat.le_of_ble_eq_true rfl⟩) hK hP hS hX rfl rfl rfl hl.1 rfl (Nat.le_of_ble_eq_true rfl) d_Runner_operate_168 ⟨Nat.zero_le _, Nat.zero_le _⟩ (fun H locs hP hS => ?_)
    refine lv_goto (tgt := 232) hx hb d_Runner_operate_171 (by decide) ?_
    exact W.vret hx hb hr (fun t ht hW => ⟨⟨_, rfl, Option.some.inj hm, rt_end rtC_Xo hK hP hS hX ht hW⟩, hS.F ht⟩) hS.2.2 d_Runner_operate_232
  have hm := (if_neg c25).symm.trans hm
  by_cases c28 : a1 = 16
  · have hm := (if_pos c28).symm.trans hm
    refine lv_tableIn (off := 164) (tgt := 174) hx hb d_Runner_operate_10 (by rw [c28]; decide) (by rw [c28]; decide) (by rw [c28]; rfl) (by decide) ?_
    refine lv_aload_n hx hb d_Runner_operate_174 rfl (lv_at hl 1 rfl) ?_
    refine lv_iload_n hx hb d_Runner_operate_175 rfl (lv_at hl 3 rfl) ?_
    obtain ⟨σ30, h29, hm⟩ := rt_b1s hm
    refine rt_cvv (As := [.int a2]) (rest := []) (k := 21) rtC_Xo ⟨hx, hb, hml, hown, hts⟩ (k_C_Runner_store l D cI cZ A hO σ a2 _ h29) (cw_Runner_store hts (hts _ (rt_m rt_w770)) ⟨Nat.le_of_ble_eq_true rfl, Nat.le_of_ble_eq_true rfl⟩) hK hP hS hX rfl rfl rfl hl.1 rfl (Nat.le_of_ble_eq_true rfl) d_Runner_operate_176 ⟨Nat.zero_le _, Nat.zero_le _⟩ (fun H locs hP hS => ?_)
    refine lv_goto (tgt := 232) hx hb d_Runner_operate_179 (by decide) ?_
    exact W.vret hx hb hr (fun t ht hW => ⟨⟨_, rfl, Option.some.inj hm, rt_end rtC_Xo hK hP hS hX ht hW⟩, hS.F ht⟩) hS.2.2 d_Runner_operate_232
  have hm := (if_neg c28).symm.trans hm
  by_cases c31 : a1 = 17
  · have hm := (if_pos c31).symm.trans hm
    refine lv_tableIn (off := 172) (tgt := 182) hx hb d_Runner_operate_10 (by rw [c31]; decide) (by rw [c31]; decide) (by rw [c31]; rfl) (by decide) ?_
    refine lv_aload_n hx hb d_Runner_operate_182 rfl (lv_at hl 1 rfl) ?_
    refine lv_iload_n hx hb d_Runner_operate_183 rfl (lv_at hl 3 rfl) ?_
    obtain ⟨σ33, h32, hm⟩ := rt_b1s hm
    refine rt_cvv (As := [.int a2]) (rest := []) (k := 21) rtC_Xo ⟨hx, hb, hml, hown, hts⟩ (k_C_Runner_push l D cI cZ A hO σ a2 _ h32) (cw_Runner_push hts (hts _ (rt_m rt_w762)) ⟨Nat.le_of_ble_eq_true rfl, Nat.le_of_ble_eq_true rfl⟩) hK hP hS hX rfl rfl rfl hl.1 rfl (Nat.le_of_ble_eq_true rfl) d_Runner_operate_184 ⟨Nat.zero_le _, Nat.zero_le _⟩ (fun H locs hP hS => ?_)
    refine lv_goto (tgt := 232) hx hb d_Runner_operate_187 (by decide) ?_
    exact W.vret hx hb hr (fun t ht hW => ⟨⟨_, rfl, Option.some.inj hm, rt_end rtC_Xo hK hP hS hX ht hW⟩, hS.F ht⟩) hS.2.2 d_Runner_operate_232
  have hm := (if_neg c31).symm.trans hm
  by_cases c34 : a1 = 18
  · have hm := (if_pos c34).symm.trans hm
    refine lv_tableIn (off := 180) (tgt := 190) hx hb d_Runner_operate_10 (by rw [c34]; decide) (by rw [c34]; decide) (by rw [c34]; rfl) (by decide) ?_
    refine lv_aload_n hx hb d_Runner_operate_190 rfl (lv_at hl 1 rfl) ?_
    refine lv_aload_n hx hb d_Runner_operate_191 rfl (lv_at hl 1 rfl) ?_
    obtain ⟨v37, σ36, h35, hm⟩ := rt_b2s hm
    refine rt_cvi (As := []) (rest := [.ref (A 21)]) (k := 21) rtC_Xo ⟨hx, hb, hml, hown, hts⟩ (k_C_Runner_pop l D cI cZ A hO σ _ _ h35) (cw_Runner_pop hts (hts _ (rt_m rt_w734)) ⟨Nat.le_of_ble_eq_true rfl, Nat.le_of_ble_eq_true rfl⟩) hK hP hS hX rfl rfl rfl hl.1 rfl (Nat.le_of_ble_eq_true rfl) d_Runner_operate_192 ⟨Nat.zero_le _, Nat.zero_le _⟩ (fun H locs hP hS => ?_)
    refine lv_if_ne (tgt := 202) hx hb d_Runner_operate_195 (by decide) (fun hc => ?_) (fun hc => ?_)
    · have hm := (if_neg hc).symm.trans hm
      refine lv_iconst (v := 0) hx hb d_Runner_operate_202 (by decide) ?_
      exact hB203 ls 0 σ36 _ _ (lv_sub hl [] rfl) hm hP hS
    · have hm := (if_pos hc).symm.trans hm
      refine lv_iconst (v := 1) hx hb d_Runner_operate_198 (by decide) ?_
      refine lv_goto (tgt := 203) hx hb d_Runner_operate_199 (by decide) ?_
      exact hB203 ls 1 σ36 _ _ (lv_sub hl [] rfl) hm hP hS
  have hm := (if_neg c34).symm.trans hm
  by_cases c38 : a1 = 19
  · have hm := (if_pos c38).symm.trans hm
    refine lv_tableIn (off := 217) (tgt := 227) hx hb d_Runner_operate_10 (by rw [c38]; decide) (by rw [c38]; decide) (by rw [c38]; rfl) (by decide) ?_
    refine lv_aload_n hx hb d_Runner_operate_227 rfl (lv_at hl 1 rfl) ?_
    refine lv_iload_n hx hb d_Runner_operate_228 rfl (lv_at hl 2 rfl) ?_
    obtain ⟨σ40, h39, hm⟩ := rt_b1s hm
    refine rt_cvv (As := [.int a1]) (rest := []) (k := 21) rtC_Xo ⟨hx, hb, hml, hown, hts⟩ (k_C_Runner_reckon l D cI cZ A hO σ a1 _ h39) (cw_Runner_reckon hts (hts _ (rt_m rt_w782)) ⟨Nat.le_of_ble_eq_true rfl, Nat.le_of_ble_eq_true rfl⟩) hK hP hS hX rfl rfl rfl hl.1 rfl (Nat.le_of_ble_eq_true rfl) d_Runner_operate_229 ⟨Nat.zero_le _, Nat.zero_le _⟩ (fun H locs hP hS => ?_)
    exact W.vret hx hb hr (fun t ht hW => ⟨⟨_, rfl, Option.some.inj hm, rt_end rtC_Xo hK hP hS hX ht hW⟩, hS.F ht⟩) hS.2.2 d_Runner_operate_232
  have hm := (if_neg c38).symm.trans hm
  by_cases c41 : a1 = 20
  · have hm := (if_pos c41).symm.trans hm
    refine lv_tableIn (off := 217) (tgt := 227) hx hb d_Runner_operate_10 (by rw [c41]; decide) (by rw [c41]; decide) (by rw [c41]; rfl) (by decide) ?_
    refine lv_aload_n hx hb d_Runner_operate_227 rfl (lv_at hl 1 rfl) ?_
    refine lv_iload_n hx hb d_Runner_operate_228 rfl (lv_at hl 2 rfl) ?_
    obtain ⟨σ43, h42, hm⟩ := rt_b1s hm
    refine rt_cvv (As := [.int a1]) (rest := []) (k := 21) rtC_Xo ⟨hx, hb, hml, hown, hts⟩ (k_C_Runner_reckon l D cI cZ A hO σ a1 _ h42) (cw_Runner_reckon hts (hts _ (rt_m rt_w782)) ⟨Nat.le_of_ble_eq_true rfl, Nat.le_of_ble_eq_true rfl⟩) hK hP hS hX rfl rfl rfl hl.1 rfl (Nat.le_of_ble_eq_true rfl) d_Runner_operate_229 ⟨Nat.zero_le _, Nat.zero_le _⟩ (fun H locs hP hS => ?_)
    exact W.vret hx hb hr (fun t ht hW => ⟨⟨_, rfl, Option.some.inj hm, rt_end rtC_Xo hK hP hS hX ht hW⟩, hS.F ht⟩) hS.2.2 d_Runner_operate_232
  have hm := (if_neg c41).symm.trans hm
  by_cases c44 : a1 = 21
  · have hm := (if_pos c44).symm.trans hm
    refine lv_tableIn (off := 217) (tgt := 227) hx hb d_Runner_operate_10 (by rw [c44]; decide) (by rw [c44]; decide) (by rw [c44]; rfl) (by decide) ?_
    refine lv_aload_n hx hb d_Runner_operate_227 rfl (lv_at hl 1 rfl) ?_
    refine lv_iload_n hx hb d_Runner_operate_228 rfl (lv_at hl 2 rfl) ?_
    obtain ⟨σ46, h45, hm⟩ := rt_b1s hm
    refine rt_cvv (As := [.int a1]) (rest := []) (k := 21) rtC_Xo ⟨hx, hb, hml, hown, hts⟩ (k_C_Runner_reckon l D cI cZ A hO σ a1 _ h45) (cw_Runner_reckon hts (hts _ (rt_m rt_w782)) ⟨Nat.le_of_ble_eq_true rfl, Nat.le_of_ble_eq_true rfl⟩) hK hP hS hX rfl rfl rfl hl.1 rfl (Nat.le_of_ble_eq_true rfl) d_Runner_operate_229 ⟨Nat.zero_le _, Nat.zero_le _⟩ (fun H locs hP hS => ?_)
    exact W.vret hx hb hr (fun t ht hW => ⟨⟨_, rfl, Option.some.inj hm, rt_end rtC_Xo hK hP hS hX ht hW⟩, hS.F ht⟩) hS.2.2 d_Runner_operate_232
  have hm := (if_neg c44).symm.trans hm
  by_cases c47 : a1 = 22
  · have hm := (if_pos c47).symm.trans hm
    refine lv_tableIn (off := 217) (tgt := 227) hx hb d_Runner_operate_10 (by rw [c47]; decide) (by rw [c47]; decide) (by rw [c47]; rfl) (by decide) ?_
    refine lv_aload_n hx hb d_Runner_operate_227 rfl (lv_at hl 1 rfl) ?_
    refine lv_iload_n hx hb d_Runner_operate_228 rfl (lv_at hl 2 rfl) ?_
    obtain ⟨σ49, h48, hm⟩ := rt_b1s hm
    refine rt_cvv (As := [.int a1]) (rest := []) (k := 21) rtC_Xo ⟨hx, hb, hml, hown, hts⟩ (k_C_Runner_reckon l D cI cZ A hO σ a1 _ h48) (cw_Runner_reckon hts (hts _ (rt_m rt_w782)) ⟨Nat.le_of_ble_eq_true rfl, Nat.le_of_ble_eq_true rfl⟩) hK hP hS hX rfl rfl rfl hl.1 rfl (Nat.le_of_ble_eq_true rfl) d_Runner_operate_229 ⟨Nat.zero_le _, Nat.zero_le _⟩ (fun H locs hP hS => ?_)
    exact W.vret hx hb hr (fun t ht hW => ⟨⟨_, rfl, Option.some.inj hm, rt_end rtC_Xo hK hP hS hX ht hW⟩, hS.F ht⟩) hS.2.2 d_Runner_operate_232
  have hm := (if_neg c47).symm.trans hm
  by_cases c50 : a1 = 23
  · have hm := (if_pos c50).symm.trans hm
    refine lv_tableIn (off := 217) (tgt := 227) hx hb d_Runner_operate_10 (by rw [c50]; decide) (by rw [c50]; decide) (by rw [c50]; rfl) (by decide) ?_
    refine lv_aload_n hx hb d_Runner_operate_227 rfl (lv_at hl 1 rfl) ?_
    refine lv_iload_n hx hb d_Runner_operate_228 rfl (lv_at hl 2 rfl) ?_
    obtain ⟨σ52, h51, hm⟩ := rt_b1s hm
    refine rt_cvv (As := [.int a1]) (rest := []) (k := 21) rtC_Xo ⟨hx, hb, hml, hown, hts⟩ (k_C_Runner_reckon l D cI cZ A hO σ a1 _ h51) (cw_Runner_reckon hts (hts _ (rt_m rt_w782)) ⟨Nat.le_of_ble_eq_true rfl, Nat.le_of_ble_eq_true rfl⟩) hK hP hS hX rfl rfl rfl hl.1 rfl (Nat.le_of_ble_eq_true rfl) d_Runner_operate_229 ⟨Nat.zero_le _, Nat.zero_le _⟩ (fun H locs hP hS => ?_)
    exact W.vret hx hb hr (fun t ht hW => ⟨⟨_, rfl, Option.some.inj hm, rt_end rtC_Xo hK hP hS hX ht hW⟩, hS.F ht⟩) hS.2.2 d_Runner_operate_232
  have hm := (if_neg c50).symm.trans hm
  by_cases c53 : a1 = 24
  · have hm := (if_pos c53).symm.trans hm
    refine lv_tableIn (off := 217) (tgt := 227) hx hb d_Runner_operate_10 (by rw [c53]; decide) (by rw [c53]; decide) (by rw [c53]; rfl) (by decide) ?_
    refine lv_aload_n hx hb d_Runner_operate_227 rfl (lv_at hl 1 rfl) ?_
    refine lv_iload_n hx hb d_Runner_operate_228 rfl (lv_at hl 2 rfl) ?_
    obtain ⟨σ55, h54, hm⟩ := rt_b1s hm
    refine rt_cvv (As := [.int a1]) (rest := []) (k := 21) rtC_Xo ⟨hx, hb, hml, hown, hts⟩ (k_C_Runner_reckon l D cI cZ A hO σ a1 _ h54) (cw_Runner_reckon hts (hts _ (rt_m rt_w782)) ⟨Nat.le_of_ble_eq_true rfl, Nat.le_of_ble_eq_true rfl⟩) hK hP hS hX rfl rfl rfl hl.1 rfl (Nat.le_of_ble_eq_true rfl) d_Runner_operate_229 ⟨Nat.zero_le _, Nat.zero_le _⟩ (fun H locs hP hS => ?_)
    exact W.vret hx hb hr (fun t ht hW => ⟨⟨_, rfl, Option.some.inj hm, rt_end rtC_Xo hK hP hS hX ht hW⟩, hS.F ht⟩) hS.2.2 d_Runner_operate_232
  have hm := (if_neg c53).symm.trans hm
  by_cases c56 : a1 = 25
  · have hm := (if_pos c56).symm.trans hm
    refine lv_tableIn (off := 217) (tgt := 227) hx hb d_Runner_operate_10 (by rw [c56]; decide) (by rw [c56]; decide) (by rw [c56]; rfl) (by decide) ?_
    refine lv_aload_n hx hb d_Runner_operate_227 rfl (lv_at hl 1 rfl) ?_
    refine lv_iload_n hx hb d_Runner_operate_228 rfl (lv_at hl 2 rfl) ?_
    obtain ⟨σ58, h57, hm⟩ := rt_b1s hm
    refine rt_cvv (As := [.int a1]) (rest := []) (k := 21) rtC_Xo ⟨hx, hb, hml, hown, hts⟩ (k_C_Runner_reckon l D cI cZ A hO σ a1 _ h57) (cw_Runner_reckon hts (hts _ (rt_m rt_w782)) ⟨Nat.le_of_ble_eq_true rfl, Nat.le_of_ble_eq_true rfl⟩) hK hP hS hX rfl rfl rfl hl.1 rfl (Nat.le_of_ble_eq_true rfl) d_Runner_operate_229 ⟨Nat.zero_le _, Nat.zero_le _⟩ (fun H locs hP hS => ?_)
    exact W.vret hx hb hr (fun t ht hW => ⟨⟨_, rfl, Option.some.inj hm, rt_end rtC_Xo hK hP hS hX ht hW⟩, hS.F ht⟩) hS.2.2 d_Runner_operate_232
  have hm := (if_neg c56).symm.trans hm
  by_cases c59 : a1 = 26
  · have hm := (if_pos c59).symm.trans hm
    refine lv_tableIn (off := 217) (tgt := 227) hx hb d_Runner_operate_10 (by rw [c59]; decide) (by rw [c59]; decide) (by rw [c59]; rfl) (by decide) ?_
    refine lv_aload_n hx hb d_Runner_operate_227 rfl (lv_at hl 1 rfl) ?_
    refine lv_iload_n hx hb d_Runner_operate_228 rfl (lv_at hl 2 rfl) ?_
    obtain ⟨σ61, h60, hm⟩ := rt_b1s hm
    refine rt_cvv (As := [.int a1]) (rest := []) (k := 21) rtC_Xo ⟨hx, hb, hml, hown, hts⟩ (k_C_Runner_reckon l D cI cZ A hO σ a1 _ h60) (cw_Runner_reckon hts (hts _ (rt_m rt_w782)) ⟨Nat.le_of_ble_eq_true rfl, Nat.le_of_ble_eq_true rfl⟩) hK hP hS hX rfl rfl rfl hl.1 rfl (Nat.le_of_ble_eq_true rfl) d_Runner_operate_229 ⟨Nat.zero_le _, Nat.zero_le _⟩ (fun H locs hP hS => ?_)
    exact W.vret hx hb hr (fun t ht hW => ⟨⟨_, rfl, Option.some.inj hm, rt_end rtC_Xo hK hP hS hX ht hW⟩, hS.F ht⟩) hS.2.2 d_Runner_operate_232
  have hm := (if_neg c59).symm.trans hm
  by_cases c62 : a1 = 27
  · have hm := (if_pos c62).symm.trans hm
    refine lv_tableIn (off := 199) (tgt := 209) hx hb d_Runner_operate_10 (by rw [c62]; decide) (by rw [c62]; decide) (by rw [c62]; rfl) (by decide) ?_
    refine lv_aload_n hx hb d_Runner_operate_209 rfl (lv_at hl 1 rfl) ?_
    obtain ⟨σ64, h63, hm⟩ := rt_b1s hm
    refine rt_cvv (As := []) (rest := []) (k := 21) rtC_Xo ⟨hx, hb, hml, hown, hts⟩ (k_C_Runner_takeInput l D cI cZ A hO σ _ h63) (cw_Runner_takeInput hts (hts _ (rt_m rt_w774)) ⟨Nat.le_of_ble_eq_true rfl, Nat.le_of_ble_eq_true rfl⟩) hK hP hS hX rfl rfl rfl hl.1 rfl (Nat.le_of_ble_eq_true rfl) d_Runner_operate_210 ⟨Nat.zero_le _, Nat.zero_le _⟩ (fun H locs hP hS => ?_)
    refine lv_goto (tgt := 232) hx hb d_Runner_operate_213 (by decide) ?_
    exact W.vret hx hb hr (fun t ht hW => ⟨⟨_, rfl, Option.some.inj hm, rt_end rtC_Xo hK hP hS hX ht hW⟩, hS.F ht⟩) hS.2.2 d_Runner_operate_232
  have hm := (if_neg c62).symm.trans hm
  by_cases c65 : a1 = 28
  · have hm := (if_pos c65).symm.trans hm
    refine lv_tableIn (off := 206) (tgt := 216) hx hb d_Runner_operate_10 (by rw [c65]; decide) (by rw [c65]; decide) (by rw [c65]; rfl) (by decide) ?_
    refine lv_aload_n hx hb d_Runner_operate_216 rfl (lv_at hl 1 rfl) ?_
    refine lv_aload_n hx hb d_Runner_operate_217 rfl (lv_at hl 1 rfl) ?_
    obtain ⟨v68, σ67, h66, hm⟩ := rt_b2s hm
    refine rt_cvi (As := []) (rest := [.ref (A 21)]) (k := 21) rtC_Xo ⟨hx, hb, hml, hown, hts⟩ (k_C_Runner_pop l D cI cZ A hO σ _ _ h66) (cw_Runner_pop hts (hts _ (rt_m rt_w734)) ⟨Nat.le_of_ble_eq_true rfl, Nat.le_of_ble_eq_true rfl⟩) hK hP hS hX rfl rfl rfl hl.1 rfl (Nat.le_of_ble_eq_true rfl) d_Runner_operate_218 ⟨Nat.zero_le _, Nat.zero_le _⟩ (fun H locs hP hS => ?_)
    obtain ⟨σ70, h69, hm⟩ := rt_b1s hm
    refine rt_cvv (As := [.int v68]) (rest := []) (k := 21) rtC_Xo ⟨hx, hb, hml, hown, hts⟩ (k_C_Runner_putOut l D cI cZ A hO σ67 v68 _ h69) (cw_Runner_putOut hts (hts _ (rt_m rt_w778)) ⟨Nat.le_of_ble_eq_true rfl, Nat.le_of_ble_eq_true rfl⟩) hK hP hS hX rfl rfl rfl hl.1 rfl (Nat.le_of_ble_eq_true rfl) d_Runner_operate_221 ⟨Nat.zero_le _, Nat.zero_le _⟩ (fun H locs hP hS => ?_)
    refine lv_goto (tgt := 232) hx hb d_Runner_operate_224 (by decide) ?_
    exact W.vret hx hb hr (fun t ht hW => ⟨⟨_, rfl, Option.some.inj hm, rt_end rtC_Xo hK hP hS hX ht hW⟩, hS.F ht⟩) hS.2.2 d_Runner_operate_232
  have hm := (if_neg c65).symm.trans hm
  refine lv_tableOut (tgt := 227) hx hb d_Runner_operate_10 (by have := lv_neT (a := 10) c3 rfl; have := lv_neT (a := 11) c6 rfl; have := lv_neT (a := 12) c9 rfl; have := lv_neT (a := 13) c14 rfl; have := lv_neT (a := 14) c20 rfl; have := lv_neT (a := 15) c25 rfl; have := lv_neT (a := 16) c28 rfl; have := lv_neT (a := 17) c31 rfl; have := lv_neT (a := 18) c34 rfl; have := lv_neT (a := 19) c38 rfl; have := lv_neT (a := 20) c41 rfl; have := lv_neT (a := 21) c44 rfl; have := lv_neT (a := 22) c47 rfl; have := lv_neT (a := 23) c50 rfl; have := lv_neT (a := 24) c53 rfl; have := lv_neT (a := 25) c56 rfl; have := lv_neT (a := 26) c59 rfl; have := lv_neT (a := 27) c62 rfl; have := lv_neT (a := 28) c65 rfl; omega) (by decide) ?_
  refine lv_aload_n hx hb d_Runner_operate_227 rfl (lv_at hl 1 rfl) ?_
  refine lv_iload_n hx hb d_Runner_operate_228 rfl (lv_at hl 2 rfl) ?_
  obtain ⟨σ72, h71, hm⟩ := rt_b1s hm
  refine rt_cvv (As := [.int a1]) (rest := []) (k := 21) rtC_Xo ⟨hx, hb, hml, hown, hts⟩ (k_C_Runner_reckon l D cI cZ A hO σ a1 _ h71) (cw_Runner_reckon hts (hts _ (rt_m rt_w782)) ⟨Nat.le_of_ble_eq_true rfl, Nat.le_of_ble_eq_true rfl⟩) hK hP hS hX rfl rfl rfl hl.1 rfl (Nat.le_of_ble_eq_true rfl) d_Runner_operate_229 ⟨Nat.zero_le _, Nat.zero_le _⟩ (fun H locs hP hS => ?_)
  exact W.vret hx hb hr (fun t ht hW => ⟨⟨_, rfl, Option.some.inj hm, rt_end rtC_Xo hK hP hS hX ht hW⟩, hS.F ht⟩) hS.2.2 d_Runner_operate_232
set_option maxHeartbeats 4000000 in
set_option maxRecDepth 100000 in
theorem k_C_Runner_call (l : Launch) (D : va_G) (cI cZ : ClassId) (A : Nat → Nat) (hO : rt_Ok (rtC_W cI cZ A)) (σ : rt_St) (a1 : Int32) (σ' : rt_St) (hm : M_C_Runner_call σ a1 = some σ') (sz : Nat) : Met l y_Runner_call (rt_ws y_Runner_call b_Runner_call 2 none) ({ frames := 1, cells := 0, slots := 0, locals := 23 } : Room) (va_Pc [.ref (A 21), .int a1] (rt_P D rt_cl (rt_t cI cZ) rtC_X (rtC_W cI cZ A) sz σ)) (va_Qv (fun u1 => u1 = σ') (rt_B D rt_cl (rt_t cI cZ) rtC_X (rtC_W cI cZ A)) (rt_A (rtC_W cI cZ A) sz)) 0 0 (rt_A (rtC_W cI cZ A) sz) := by
  refine Met.ofW (cc := b_Runner_call) (maxL := 2) (ret := none) (by decide) rfl ?_
  intro p e s m args below meth c s₁ B hml hv
  obtain ⟨rfl, rfl, hP, hK, hX⟩ := hv
  have hx := B.exec
  have hb := B.bytes
  have hr := B.returns
  have hts := atoms_spec (ws := (rt_ws y_Runner_call b_Runner_call 2 none)) B.pre
  have hown : s.vm.findClass "RangeTeller$Runner" = some m.cls := findClass_of_methodNamed B.named
  have hlocks := B.notSynchronized
  have hD := rt_hD hO s.heap.size
  have hS : va_S (rt_A (rtC_W cI cZ A) s.heap.size) s.heap s.heap [] := va_S.rf
  have hl := lv_entry ([.ref (A 21), .int a1]) (n := 2) (Nat.le_of_ble_eq_true rfl)
  rw [lg_entry_eq]
  generalize (lg_sl ([.ref (A 21), .int a1]) ++ List.replicate (2 - (lg_sl ([.ref (A 21), .int a1])).length) Slot.unset).toArray = ls at hl ⊢
  have hl : lv_has ls 2 [(0, .ref (A 21)), (1, .int a1)] := hl
  show W p l e ({ frames := 1, cells := 0, slots := 0, locals := 23 } : Room) s m ([.ref (A 21), .int a1] : List Value).toArray below meth c s.heap [] 0 0 (rt_Qv D rt_cl (rt_t cI cZ) rtC_X (rtC_W cI cZ A) below ([.ref (A 21), .int a1] : List Value).toArray s σ') (F0 m 0 ls [])
  unfold M_C_Runner_call at hm
  refine lv_aload_n hx hb d_Runner_call_0 rfl (lv_at hl 0 rfl) ?_
  refine va_get (D := D) (v := .int (σ 21 16)) (C := "RangeTeller$Runner") (T := rt_T4) (N := 18) hx hb hts rt_i4 hown hK hP 21 rfl rfl 16 (by decide) (hts _ (rt_m rt_w288)) (fun _ h9 => h9) rfl d_Runner_call_1 ?_
  refine lv_bipush (v := 6) hx hb d_Runner_call_4 (by decide) ?_
  refine lv_icmp_lt (tgt := 15) hx hb d_Runner_call_6 (by decide) (fun hc => ?_) (fun hc => ?_)
  · have hm := (if_pos hc).symm.trans hm
    refine lv_aload_n hx hb d_Runner_call_15 rfl (lv_at hl 0 rfl) ?_
    refine lv_dup hx hb d_Runner_call_16 rfl ?_
    refine va_get (D := D) (v := .int (σ 21 16)) (C := "RangeTeller$Runner") (T := rt_T4) (N := 18) hx hb hts rt_i4 hown hK hP 21 rfl rfl 16 (by decide) (hts _ (rt_m rt_w288)) (fun _ h9 => h9) rfl d_Runner_call_17 ?_
    refine lv_iconst (v := 1) hx hb d_Runner_call_20 (by decide) ?_
    refine lv_iadd hx hb d_Runner_call_21 ?_
    obtain ⟨σ1, h2, hm⟩ := rt_b1s hm
    refine rt_pf (D := D) (C := "RangeTeller$Runner") (T := rt_T4) (N := 18) (ty := .int) hx hb hts rt_i4 rt_y4 rt_o4 rt_n4 hown hK hP hD hS 21 rfl rfl 16 (by decide) (hts _ (rt_m rt_w288)) (fun _ h9 => h9) rfl (by decide +kernel) rfl rfl (Nat.le_of_ble_eq_true rfl) (rtC_s21_16 cI cZ A _ _) h2 d_Runner_call_22 (fun H locs hP hS => ?_)
    refine lv_aload_n hx hb d_Runner_call_25 rfl (lv_at hl 0 rfl) ?_
    refine va_get (D := D) (v := .ref (A 28)) (C := "RangeTeller$Runner") (T := rt_T4) (N := 18) hx hb hts rt_i4 hown hK hP 21 rfl rfl 15 (by decide) (hts _ (rt_m rt_w287)) (fun _ h9 => h9) rfl d_Runner_call_26 ?_
    refine lv_aload_n hx hb d_Runner_call_29 rfl (lv_at hl 0 rfl) ?_
    refine va_get (D := D) (v := .int (σ1 21 16)) (C := "RangeTeller$Runner") (T := rt_T4) (N := 18) hx hb hts rt_i4 hown hK hP 21 rfl rfl 16 (by decide) (hts _ (rt_m rt_w288)) (fun _ h9 => h9) rfl d_Runner_call_30 ?_
    refine lv_iload_n hx hb d_Runner_call_33 rfl (lv_at hl 1 rfl) ?_
    obtain ⟨σ3, h4, hm⟩ := rt_b1s hm
    refine rt_ast hx hb hK hP hD hS 28 0 rfl (rtC_a28 cI cZ A _) rfl h4 d_Runner_call_34 (fun H locs hP hS => ?_)
    refine lv_aload_n hx hb d_Runner_call_35 rfl (lv_at hl 0 rfl) ?_
    refine lv_aload_n hx hb d_Runner_call_36 rfl (lv_at hl 0 rfl) ?_
    refine va_get (D := D) (v := .ref (A 1)) (C := "RangeTeller$Runner") (T := rt_T4) (N := 18) hx hb hts rt_i4 hown hK hP 21 rfl rfl 0 (by decide) (hts _ (rt_m rt_w264)) (fun _ h9 => h9) rfl d_Runner_call_37 ?_
    refine va_get (D := D) (v := .ref (A 3)) (C := "RangeTeller$Program") (T := rt_T1) (N := 14) hx hb hts rt_i1 hown hK hP 1 rfl rfl 1 (by decide) (hts _ (rt_m rt_w128)) (fun _ h9 => h9) rfl d_Runner_call_40 ?_
    refine lv_iload_n hx hb d_Runner_call_43 rfl (lv_at hl 1 rfl) ?_
    obtain ⟨v5, h6, hm⟩ := rt_b1s hm
    refine rt_ald hx hb hK hP 3 0 rfl rfl h6 d_Runner_call_44 ?_
    obtain ⟨σ8, h7, hm⟩ := rt_b1s hm
    refine rt_cvv (As := [.int v5]) (rest := []) (k := 21) rtC_Xo ⟨hx, hb, hml, hown, hts⟩ (k_C_Runner_enter l D cI cZ A hO σ3 v5 _ h7) (cw_Runner_enter hts (hts _ (rt_m rt_w726)) ⟨Nat.le_of_ble_eq_true rfl, Nat.le_of_ble_eq_true rfl⟩) hK hP hS hX rfl rfl rfl hl.1 rfl (Nat.le_of_ble_eq_true rfl) d_Runner_call_45 ⟨Nat.zero_le _, Nat.zero_le _⟩ (fun H locs hP hS => ?_)
    exact W.vret hx hb hr (fun t ht hW => ⟨⟨_, rfl, Option.some.inj hm, rt_end rtC_Xo hK hP hS hX ht hW⟩, hS.F ht⟩) hS.2.2 d_Runner_call_48
  · have hm := (if_neg hc).symm.trans hm
    refine lv_aload_n hx hb d_Runner_call_9 rfl (lv_at hl 0 rfl) ?_
    refine lv_iconst (v := 4) hx hb d_Runner_call_10 (by decide) ?_
    obtain ⟨σ9, h10, hm⟩ := rt_b1s hm
    refine rt_pf (D := D) (C := "RangeTeller$Runner") (T := rt_T4) (N := 18) (ty := .int) hx hb hts rt_i4 rt_y4 rt_o4 rt_n4 hown hK hP hD hS 21 rfl rfl 8 (by decide) (hts _ (rt_m rt_w276)) (fun _ h9 => h9) rfl (by decide +kernel) rfl rfl (Nat.le_of_ble_eq_true rfl) (rtC_s21_8 cI cZ A _ _) h10 d_Runner_call_11 (fun H locs hP hS => ?_)
    exact W.vret hx hb hr (fun t ht hW => ⟨⟨_, rfl, Option.some.inj hm, rt_end rtC_Xo hK hP hS hX ht hW⟩, hS.F ht⟩) hS.2.2 d_Runner_call_14
set_option maxHeartbeats 4000000 in
set_option maxRecDepth 100000 in
theorem k_C_Runner_leave (l : Launch) (D : va_G) (cI cZ : ClassId) (A : Nat → Nat) (hO : rt_Ok (rtC_W cI cZ A)) (σ : rt_St) (a1 : Int32) (σ' : rt_St) (hm : M_C_Runner_leave σ a1 = some σ') (sz : Nat) : Met l y_Runner_leave (rt_ws y_Runner_leave b_Runner_leave 2 none) ({ frames := 1, cells := 0, slots := 0, locals := 20 } : Room) (va_Pc [.ref (A 21), .int a1] (rt_P D rt_cl (rt_t cI cZ) rtC_X (rtC_W cI cZ A) sz σ)) (va_Qv (fun u1 => u1 = σ') (rt_B D rt_cl (rt_t cI cZ) rtC_X (rtC_W cI cZ A)) (rt_A (rtC_W cI cZ A) sz)) 0 0 (rt_A (rtC_W cI cZ A) sz) := by
  refine Met.ofW (cc := b_Runner_leave) (maxL := 2) (ret := none) (by decide) rfl ?_
  intro p e s m args below meth c s₁ B hml hv
  obtain ⟨rfl, rfl, hP, hK, hX⟩ := hv
  have hx := B.exec
  have hb := B.bytes
  have hr := B.returns
  have hts := atoms_spec (ws := (rt_ws y_Runner_leave b_Runner_leave 2 none)) B.pre
  have hown : s.vm.findClass "RangeTeller$Runner" = some m.cls := findClass_of_methodNamed B.named
  have hlocks := B.notSynchronized
  have hD := rt_hD hO s.heap.size
  have hS : va_S (rt_A (rtC_W cI cZ A) s.heap.size) s.heap s.heap [] := va_S.rf
  have hl := lv_entry ([.ref (A 21), .int a1]) (n := 2) (Nat.le_of_ble_eq_true rfl)
  rw [lg_entry_eq]
  generalize (lg_sl ([.ref (A 21), .int a1]) ++ List.replicate (2 - (lg_sl ([.ref (A 21), .int a1])).length) Slot.unset).toArray = ls at hl ⊢
  have hl : lv_has ls 2 [(0, .ref (A 21)), (1, .int a1)] := hl
  show W p l e ({ frames := 1, cells := 0, slots := 0, locals := 20 } : Room) s m ([.ref (A 21), .int a1] : List Value).toArray below meth c s.heap [] 0 0 (rt_Qv D rt_cl (rt_t cI cZ) rtC_X (rtC_W cI cZ A) below ([.ref (A 21), .int a1] : List Value).toArray s σ') (F0 m 0 ls [])
  unfold M_C_Runner_leave at hm
  refine lv_aload_n hx hb d_Runner_leave_0 rfl (lv_at hl 0 rfl) ?_
  refine va_get (D := D) (v := .int (σ 21 16)) (C := "RangeTeller$Runner") (T := rt_T4) (N := 18) hx hb hts rt_i4 hown hK hP 21 rfl rfl 16 (by decide) (hts _ (rt_m rt_w288)) (fun _ h9 => h9) rfl d_Runner_leave_1 ?_
  refine lv_if_le (tgt := 33) hx hb d_Runner_leave_4 (by decide) (fun hc => ?_) (fun hc => ?_)
  · have hm := (if_pos hc).symm.trans hm
    refine lv_aload_n hx hb d_Runner_leave_33 rfl (lv_at hl 0 rfl) ?_
    refine lv_iconst (v := 0) hx hb d_Runner_leave_34 (by decide) ?_
    obtain ⟨σ1, h2, hm⟩ := rt_b1s hm
    refine rt_pf (D := D) (C := "RangeTeller$Runner") (T := rt_T4) (N := 18) (ty := .int) hx hb hts rt_i4 rt_y4 rt_o4 rt_n4 hown hK hP hD hS 21 rfl rfl 8 (by decide) (hts _ (rt_m rt_w276)) (fun _ h9 => h9) rfl (by decide +kernel) rfl rfl (Nat.le_of_ble_eq_true rfl) (rtC_s21_8 cI cZ A _ _) h2 d_Runner_leave_35 (fun H locs hP hS => ?_)
    refine lv_iload_n hx hb d_Runner_leave_38 rfl (lv_at hl 1 rfl) ?_
    refine lv_iconst (v := 1) hx hb d_Runner_leave_39 (by decide) ?_
    refine lv_icmp_ne (tgt := 51) hx hb d_Runner_leave_40 (by decide) (fun hc => ?_) (fun hc => ?_)
    · have hm := (if_neg hc).symm.trans hm
      exact W.vret hx hb hr (fun t ht hW => ⟨⟨_, rfl, Option.some.inj hm, rt_end rtC_Xo hK hP hS hX ht hW⟩, hS.F ht⟩) hS.2.2 d_Runner_leave_51
    · have hm := (if_pos hc).symm.trans hm
      refine lv_aload_n hx hb d_Runner_leave_43 rfl (lv_at hl 0 rfl) ?_
      refine lv_aload_n hx hb d_Runner_leave_44 rfl (lv_at hl 0 rfl) ?_
      obtain ⟨v5, σ4, h3, hm⟩ := rt_b2s hm
      refine rt_cvi (As := []) (rest := [.ref (A 21)]) (k := 21) rtC_Xo ⟨hx, hb, hml, hown, hts⟩ (k_C_Runner_pop l D cI cZ A hO σ1 _ _ h3) (cw_Runner_pop hts (hts _ (rt_m rt_w734)) ⟨Nat.le_of_ble_eq_true rfl, Nat.le_of_ble_eq_true rfl⟩) hK hP hS hX rfl rfl rfl hl.1 rfl (Nat.le_of_ble_eq_true rfl) d_Runner_leave_45 ⟨Nat.zero_le _, Nat.zero_le _⟩ (fun H locs hP hS => ?_)
      obtain ⟨σ6, h7, hm⟩ := rt_b1s hm
      refine rt_pf (D := D) (C := "RangeTeller$Runner") (T := rt_T4) (N := 18) (ty := .int) hx hb hts rt_i4 rt_y4 rt_o4 rt_n4 hown hK hP hD hS 21 rfl rfl 11 (by decide) (hts _ (rt_m rt_w282)) (fun _ h9 => h9) rfl (by decide +kernel) rfl rfl (Nat.le_of_ble_eq_true rfl) (rtC_s21_11 cI cZ A _ _) h7 d_Runner_leave_48 (fun H locs hP hS => ?_)
      exact W.vret hx hb hr (fun t ht hW => ⟨⟨_, rfl, Option.some.inj hm, rt_end rtC_Xo hK hP hS hX ht hW⟩, hS.F ht⟩) hS.2.2 d_Runner_leave_51
  · have hm := (if_neg hc).symm.trans hm
    refine lv_aload_n hx hb d_Runner_leave_7 rfl (lv_at hl 0 rfl) ?_
    refine lv_aload_n hx hb d_Runner_leave_8 rfl (lv_at hl 0 rfl) ?_
    refine va_get (D := D) (v := .ref (A 28)) (C := "RangeTeller$Runner") (T := rt_T4) (N := 18) hx hb hts rt_i4 hown hK hP 21 rfl rfl 15 (by decide) (hts _ (rt_m rt_w287)) (fun _ h9 => h9) rfl d_Runner_leave_9 ?_
    refine lv_aload_n hx hb d_Runner_leave_12 rfl (lv_at hl 0 rfl) ?_
    refine va_get (D := D) (v := .int (σ 21 16)) (C := "RangeTeller$Runner") (T := rt_T4) (N := 18) hx hb hts rt_i4 hown hK hP 21 rfl rfl 16 (by decide) (hts _ (rt_m rt_w288)) (fun _ h9 => h9) rfl d_Runner_leave_13 ?_
    obtain ⟨v8, h9, hm⟩ := rt_b1s hm
    refine rt_ald hx hb hK hP 28 0 rfl rfl h9 d_Runner_leave_16 ?_
    refine lv_iconst (v := 1) hx hb d_Runner_leave_17 (by decide) ?_
    refine lv_iadd hx hb d_Runner_leave_18 ?_
    obtain ⟨σ10, h11, hm⟩ := rt_b1s hm
    refine rt_pf (D := D) (C := "RangeTeller$Runner") (T := rt_T4) (N := 18) (ty := .int) hx hb hts rt_i4 rt_y4 rt_o4 rt_n4 hown hK hP hD hS 21 rfl rfl 9 (by decide) (hts _ (rt_m rt_w278)) (fun _ h9 => h9) rfl (by decide +kernel) rfl rfl (Nat.le_of_ble_eq_true rfl) (rtC_s21_9 cI cZ A _ _) h11 d_Runner_leave_19 (fun H locs hP hS => ?_)
    refine lv_aload_n hx hb d_Runner_leave_22 rfl (lv_at hl 0 rfl) ?_
    refine lv_dup hx hb d_Runner_leave_23 rfl ?_
    refine va_get (D := D) (v := .int (σ10 21 16)) (C := "RangeTeller$Runner") (T := rt_T4) (N := 18) hx hb hts rt_i4 hown hK hP 21 rfl rfl 16 (by decide) (hts _ (rt_m rt_w288)) (fun _ h9 => h9) rfl d_Runner_leave_24 ?_
    refine lv_iconst (v := 1) hx hb d_Runner_leave_27 (by decide) ?_
    refine lv_isub hx hb d_Runner_leave_28 ?_
    obtain ⟨σ12, h13, hm⟩ := rt_b1s hm
    refine rt_pf (D := D) (C := "RangeTeller$Runner") (T := rt_T4) (N := 18) (ty := .int) hx hb hts rt_i4 rt_y4 rt_o4 rt_n4 hown hK hP hD hS 21 rfl rfl 16 (by decide) (hts _ (rt_m rt_w288)) (fun _ h9 => h9) rfl (by decide +kernel) rfl rfl (Nat.le_of_ble_eq_true rfl) (rtC_s21_16 cI cZ A _ _) h13 d_Runner_leave_29 (fun H locs hP hS => ?_)
    exact W.vret hx hb hr (fun t ht hW => ⟨⟨_, rfl, Option.some.inj hm, rt_end rtC_Xo hK hP hS hX ht hW⟩, hS.F ht⟩) hS.2.2 d_Runner_leave_32
set_option maxHeartbeats 4000000 in
set_option maxRecDepth 100000 in
theorem k_C_Runner_jump (l : Launch) (D : va_G) (cI cZ : ClassId) (A : Nat → Nat) (hO : rt_Ok (rtC_W cI cZ A)) (σ : rt_St) (a1 : Int32) (σ' : rt_St) (hm : M_C_Runner_jump σ a1 = some σ') (sz : Nat) : Met l y_Runner_jump (rt_ws y_Runner_jump b_Runner_jump 3 none) ({ frames := 2, cells := 0, slots := 0, locals := 41 } : Room) (va_Pc [.ref (A 21), .int a1] (rt_P D rt_cl (rt_t cI cZ) rtC_X (rtC_W cI cZ A) sz σ)) (va_Qv (fun u1 => u1 = σ') (rt_B D rt_cl (rt_t cI cZ) rtC_X (rtC_W cI cZ A)) (rt_A (rtC_W cI cZ A) sz)) 0 0 (rt_A (rtC_W cI cZ A) sz) := by
  refine Met.ofW (cc := b_Runner_jump) (maxL := 3) (ret := none) (by decide) rfl ?_
  intro p e s m args below meth c s₁ B hml hv
  obtain ⟨rfl, rfl, hP, hK, hX⟩ := hv
  have hx := B.exec
  have hb := B.bytes
  have hr := B.returns
  have hts := atoms_spec (ws := (rt_ws y_Runner_jump b_Runner_jump 3 none)) B.pre
  have hown : s.vm.findClass "RangeTeller$Runner" = some m.cls := findClass_of_methodNamed B.named
  have hlocks := B.notSynchronized
  have hD := rt_hD hO s.heap.size
  have hS : va_S (rt_A (rtC_W cI cZ A) s.heap.size) s.heap s.heap [] := va_S.rf
  have hl := lv_entry ([.ref (A 21), .int a1]) (n := 3) (Nat.le_of_ble_eq_true rfl)
  rw [lg_entry_eq]
  generalize (lg_sl ([.ref (A 21), .int a1]) ++ List.replicate (3 - (lg_sl ([.ref (A 21), .int a1])).length) Slot.unset).toArray = ls at hl ⊢
  have hl : lv_has ls 3 [(0, .ref (A 21)), (1, .int a1)] := hl
  show W p l e ({ frames := 2, cells := 0, slots := 0, locals := 41 } : Room) s m ([.ref (A 21), .int a1] : List Value).toArray below meth c s.heap [] 0 0 (rt_Qv D rt_cl (rt_t cI cZ) rtC_X (rtC_W cI cZ A) below ([.ref (A 21), .int a1] : List Value).toArray s σ') (F0 m 0 ls [])
  have hB50 : ∀ (ls : Array Slot) (l1 l2 : Int32) (σ : rt_St) (H : Heap) (locs : List Loc), lv_has ls 3 [(0, .ref (A 21)), (1, .int l1), (2, .int l2)] → B_C_Runner_jump_50 l1 l2 σ = some σ' → va_P D rt_cl (rtC_W cI cZ A σ) H → va_S (rt_A (rtC_W cI cZ A) s.heap.size) s.heap H locs → W p l e ({ frames := 2, cells := 0, slots := 0, locals := 41 } : Room) s m ([.ref (A 21), .int a1] : List Value).toArray below meth c H locs 0 0 (rt_Qv D rt_cl (rt_t cI cZ) rtC_X (rtC_W cI cZ A) below ([.ref (A 21), .int a1] : List Value).toArray s σ') (F0 m 50 ls []) := by
    intro ls l1 l2 σ H locs hl hm hP hS
    unfold B_C_Runner_jump_50 at hm
    refine lv_aload_n hx hb d_Runner_jump_50 rfl (lv_at hl 0 rfl) ?_
    refine lv_iload_n hx hb d_Runner_jump_51 rfl (lv_at hl 2 rfl) ?_
    refine lv_aload_n hx hb d_Runner_jump_52 rfl (lv_at hl 0 rfl) ?_
    refine va_get (D := D) (v := .ref (A 1)) (C := "RangeTeller$Runner") (T := rt_T4) (N := 18) hx hb hts rt_i4 hown hK hP 21 rfl rfl 0 (by decide) (hts _ (rt_m rt_w264)) (fun _ h9 => h9) rfl d_Runner_jump_53 ?_
    refine va_get (D := D) (v := .ref (A 9)) (C := "RangeTeller$Program") (T := rt_T1) (N := 14) hx hb hts rt_i1 hown hK hP 1 rfl rfl 7 (by decide) (hts _ (rt_m rt_w146)) (fun _ h9 => h9) rfl d_Runner_jump_56 ?_
    refine lv_iload_n hx hb d_Runner_jump_59 rfl (lv_at hl 1 rfl) ?_
    obtain ⟨v1, h2, hm⟩ := rt_b1s hm
    refine rt_ald hx hb hK hP 9 0 rfl rfl h2 d_Runner_jump_60 ?_
    refine lv_iadd hx hb d_Runner_jump_61 ?_
    obtain ⟨σ3, h4, hm⟩ := rt_b1s hm
    refine rt_pf (D := D) (C := "RangeTeller$Runner") (T := rt_T4) (N := 18) (ty := .int) hx hb hts rt_i4 rt_y4 rt_o4 rt_n4 hown hK hP hD hS 21 rfl rfl 17 (by decide) (hts _ (rt_m rt_w289)) (fun _ h9 => h9) rfl (by decide +kernel) rfl rfl (Nat.le_of_ble_eq_true rfl) (rtC_s21_17 cI cZ A _ _) h4 d_Runner_jump_62 (fun H locs hP hS => ?_)
    refine lv_aload_n hx hb d_Runner_jump_65 rfl (lv_at hl 0 rfl) ?_
    refine va_get (D := D) (v := .ref (A 1)) (C := "RangeTeller$Runner") (T := rt_T4) (N := 18) hx hb hts rt_i4 hown hK hP 21 rfl rfl 0 (by decide) (hts _ (rt_m rt_w264)) (fun _ h9 => h9) rfl d_Runner_jump_66 ?_
    refine va_get (D := D) (v := .ref (A 7)) (C := "RangeTeller$Program") (T := rt_T1) (N := 14) hx hb hts rt_i1 hown hK hP 1 rfl rfl 5 (by decide) (hts _ (rt_m rt_w140)) (fun _ h9 => h9) rfl d_Runner_jump_69 ?_
    refine lv_iload_n hx hb d_Runner_jump_72 rfl (lv_at hl 1 rfl) ?_
    obtain ⟨v5, h6, hm⟩ := rt_b1s hm
    refine rt_ald hx hb hK hP 7 0 rfl rfl h6 d_Runner_jump_73 ?_
    refine lv_iconst (v := (-1)) hx hb d_Runner_jump_74 (by decide) ?_
    refine lv_icmp_ne (tgt := 94) hx hb d_Runner_jump_75 (by decide) (fun hc => ?_) (fun hc => ?_)
    · have hm := (if_neg hc).symm.trans hm
      refine lv_aload_n hx hb d_Runner_jump_94 rfl (lv_at hl 0 rfl) ?_
      refine lv_aload_n hx hb d_Runner_jump_95 rfl (lv_at hl 0 rfl) ?_
      refine va_get (D := D) (v := .ref (A 1)) (C := "RangeTeller$Runner") (T := rt_T4) (N := 18) hx hb hts rt_i4 hown hK hP 21 rfl rfl 0 (by decide) (hts _ (rt_m rt_w264)) (fun _ h9 => h9) rfl d_Runner_jump_96 ?_
      refine va_get (D := D) (v := .ref (A 7)) (C := "RangeTeller$Program") (T := rt_T1) (N := 14) hx hb hts rt_i1 hown hK hP 1 rfl rfl 5 (by decide) (hts _ (rt_m rt_w140)) (fun _ h9 => h9) rfl d_Runner_jump_99 ?_
      refine lv_iload_n hx hb d_Runner_jump_102 rfl (lv_at hl 1 rfl) ?_
      obtain ⟨v7, h8, hm⟩ := rt_b1s hm
      refine rt_ald hx hb hK hP 7 0 rfl rfl h8 d_Runner_jump_103 ?_
      obtain ⟨σ9, h10, hm⟩ := rt_b1s hm
      refine rt_pf (D := D) (C := "RangeTeller$Runner") (T := rt_T4) (N := 18) (ty := .int) hx hb hts rt_i4 rt_y4 rt_o4 rt_n4 hown hK hP hD hS 21 rfl rfl 9 (by decide) (hts _ (rt_m rt_w278)) (fun _ h9 => h9) rfl (by decide +kernel) rfl rfl (Nat.le_of_ble_eq_true rfl) (rtC_s21_9 cI cZ A _ _) h10 d_Runner_jump_104 (fun H locs hP hS => ?_)
      exact W.vret hx hb hr (fun t ht hW => ⟨⟨_, rfl, Option.some.inj hm, rt_end rtC_Xo hK hP hS hX ht hW⟩, hS.F ht⟩) hS.2.2 d_Runner_jump_107
    · have hm := (if_pos hc).symm.trans hm
      refine lv_aload_n hx hb d_Runner_jump_78 rfl (lv_at hl 0 rfl) ?_
      refine lv_aload_n hx hb d_Runner_jump_79 rfl (lv_at hl 0 rfl) ?_
      refine va_get (D := D) (v := .ref (A 1)) (C := "RangeTeller$Runner") (T := rt_T4) (N := 18) hx hb hts rt_i4 hown hK hP 21 rfl rfl 0 (by decide) (hts _ (rt_m rt_w264)) (fun _ h9 => h9) rfl d_Runner_jump_80 ?_
      refine va_get (D := D) (v := .ref (A 9)) (C := "RangeTeller$Program") (T := rt_T1) (N := 14) hx hb hts rt_i1 hown hK hP 1 rfl rfl 7 (by decide) (hts _ (rt_m rt_w146)) (fun _ h9 => h9) rfl d_Runner_jump_83 ?_
      refine lv_iload_n hx hb d_Runner_jump_86 rfl (lv_at hl 1 rfl) ?_
      obtain ⟨v11, h12, hm⟩ := rt_b1s hm
      refine rt_ald hx hb hK hP 9 0 rfl rfl h12 d_Runner_jump_87 ?_
      obtain ⟨σ14, h13, hm⟩ := rt_b1s hm
      refine rt_cvv (As := [.int v11]) (rest := []) (k := 21) rtC_Xo ⟨hx, hb, hml, hown, hts⟩ (k_C_Runner_leave l D cI cZ A hO σ3 v11 _ h13) (cw_Runner_leave hts (hts _ (rt_m rt_w746)) ⟨Nat.le_of_ble_eq_true rfl, Nat.le_of_ble_eq_true rfl⟩) hK hP hS hX rfl rfl rfl hl.1 rfl (Nat.le_of_ble_eq_true rfl) d_Runner_jump_88 ⟨Nat.zero_le _, Nat.zero_le _⟩ (fun H locs hP hS => ?_)
      refine lv_goto (tgt := 107) hx hb d_Runner_jump_91 (by decide) ?_
      exact W.vret hx hb hr (fun t ht hW => ⟨⟨_, rfl, Option.some.inj hm, rt_end rtC_Xo hK hP hS hX ht hW⟩, hS.F ht⟩) hS.2.2 d_Runner_jump_107
  unfold M_C_Runner_jump at hm
  refine lv_aload_n hx hb d_Runner_jump_0 rfl (lv_at hl 0 rfl) ?_
  refine va_get (D := D) (v := .ref (A 27)) (C := "RangeTeller$Runner") (T := rt_T4) (N := 18) hx hb hts rt_i4 hown hK hP 21 rfl rfl 14 (by decide) (hts _ (rt_m rt_w286)) (fun _ h9 => h9) rfl d_Runner_jump_1 ?_
  refine lv_aload_n hx hb d_Runner_jump_4 rfl (lv_at hl 0 rfl) ?_
  refine va_get (D := D) (v := .int (σ 21 16)) (C := "RangeTeller$Runner") (T := rt_T4) (N := 18) hx hb hts rt_i4 hown hK hP 21 rfl rfl 16 (by decide) (hts _ (rt_m rt_w288)) (fun _ h9 => h9) rfl d_Runner_jump_5 ?_
  obtain ⟨v15, h16, hm⟩ := rt_b1s hm
  refine rt_ald hx hb hK hP 27 0 rfl rfl h16 d_Runner_jump_8 ?_
  refine lv_aload_n hx hb d_Runner_jump_9 rfl (lv_at hl 0 rfl) ?_
  refine va_get (D := D) (v := .ref (A 1)) (C := "RangeTeller$Runner") (T := rt_T4) (N := 18) hx hb hts rt_i4 hown hK hP 21 rfl rfl 0 (by decide) (hts _ (rt_m rt_w264)) (fun _ h9 => h9) rfl d_Runner_jump_10 ?_
  refine va_get (D := D) (v := .ref (A 8)) (C := "RangeTeller$Program") (T := rt_T1) (N := 14) hx hb hts rt_i1 hown hK hP 1 rfl rfl 6 (by decide) (hts _ (rt_m rt_w143)) (fun _ h9 => h9) rfl d_Runner_jump_13 ?_
  refine lv_iload_n hx hb d_Runner_jump_16 rfl (lv_at hl 1 rfl) ?_
  obtain ⟨v17, h18, hm⟩ := rt_b1s hm
  refine rt_ald hx hb hK hP 8 0 rfl rfl h18 d_Runner_jump_17 ?_
  refine lv_iadd hx hb d_Runner_jump_18 ?_
  refine lv_istore_n hx hb d_Runner_jump_19 rfl hl (by decide) rfl (fun ls hl => ?_)
  have hl : lv_has ls 3 [(2, .int (v15 + v17)), (0, .ref (A 21)), (1, .int a1)] := hl
  refine lv_aload_n hx hb d_Runner_jump_20 rfl (lv_at hl 1 rfl) ?_
  refine va_get (D := D) (v := .ref (A 1)) (C := "RangeTeller$Runner") (T := rt_T4) (N := 18) hx hb hts rt_i4 hown hK hP 21 rfl rfl 0 (by decide) (hts _ (rt_m rt_w264)) (fun _ h9 => h9) rfl d_Runner_jump_21 ?_
  refine va_get (D := D) (v := .ref (A 9)) (C := "RangeTeller$Program") (T := rt_T1) (N := 14) hx hb hts rt_i1 hown hK hP 1 rfl rfl 7 (by decide) (hts _ (rt_m rt_w146)) (fun _ h9 => h9) rfl d_Runner_jump_24 ?_
  refine lv_iload_n hx hb d_Runner_jump_27 rfl (lv_at hl 2 rfl) ?_
  obtain ⟨v19, h20, hm⟩ := rt_b1s hm
  refine rt_ald hx hb hK hP 9 0 rfl rfl h20 d_Runner_jump_28 ?_
  refine lv_iconst (v := 1) hx hb d_Runner_jump_29 (by decide) ?_
  refine lv_icmp_ne (tgt := 50) hx hb d_Runner_jump_30 (by decide) (fun hc => ?_) (fun hc => ?_)
  · have hm := (if_neg hc).symm.trans hm
    exact hB50 ls a1 (v15 + v17) σ _ _ (lv_sub hl [1, 2, 0] rfl) hm hP hS
  · have hm := (if_pos hc).symm.trans hm
    refine lv_aload_n hx hb d_Runner_jump_33 rfl (lv_at hl 1 rfl) ?_
    refine va_get (D := D) (v := .ref (A 25)) (C := "RangeTeller$Runner") (T := rt_T4) (N := 18) hx hb hts rt_i4 hown hK hP 21 rfl rfl 12 (by decide) (hts _ (rt_m rt_w284)) (fun _ h9 => h9) rfl d_Runner_jump_34 ?_
    refine lv_iload_n hx hb d_Runner_jump_37 rfl (lv_at hl 0 rfl) ?_
    refine lv_aload_n hx hb d_Runner_jump_38 rfl (lv_at hl 1 rfl) ?_
    refine va_get (D := D) (v := .ref (A 25)) (C := "RangeTeller$Runner") (T := rt_T4) (N := 18) hx hb hts rt_i4 hown hK hP 21 rfl rfl 12 (by decide) (hts _ (rt_m rt_w284)) (fun _ h9 => h9) rfl d_Runner_jump_39 ?_
    refine lv_aload_n hx hb d_Runner_jump_42 rfl (lv_at hl 1 rfl) ?_
    refine va_get (D := D) (v := .int (σ 21 17)) (C := "RangeTeller$Runner") (T := rt_T4) (N := 18) hx hb hts rt_i4 hown hK hP 21 rfl rfl 17 (by decide) (hts _ (rt_m rt_w289)) (fun _ h9 => h9) rfl d_Runner_jump_43 ?_
    refine lv_iconst (v := 1) hx hb d_Runner_jump_46 (by decide) ?_
    refine lv_isub hx hb d_Runner_jump_47 ?_
    obtain ⟨v21, h22, hm⟩ := rt_b1s hm
    refine rt_ald hx hb hK hP 25 0 rfl rfl h22 d_Runner_jump_48 ?_
    obtain ⟨σ23, h24, hm⟩ := rt_b1s hm
    refine rt_ast hx hb hK hP hD hS 25 0 rfl (rtC_a25 cI cZ A _) rfl h24 d_Runner_jump_49 (fun H locs hP hS => ?_)
    exact hB50 ls a1 (v15 + v17) σ23 _ _ (lv_sub hl [1, 2, 0] rfl) hm hP hS
set_option maxHeartbeats 4000000 in
set_option maxRecDepth 100000 in
theorem k_C_Runner_jumpIf (l : Launch) (D : va_G) (cI cZ : ClassId) (A : Nat → Nat) (hO : rt_Ok (rtC_W cI cZ A)) (σ : rt_St) (a1 a2 : Int32) (σ' : rt_St) (hm : M_C_Runner_jumpIf σ a1 a2 = some σ') (sz : Nat) : Met l y_Runner_jumpIf (rt_ws y_Runner_jumpIf b_Runner_jumpIf 3 none) ({ frames := 3, cells := 0, slots := 0, locals := 63 } : Room) (va_Pc [.ref (A 21), .int a1, .int a2] (rt_P D rt_cl (rt_t cI cZ) rtC_X (rtC_W cI cZ A) sz σ)) (va_Qv (fun u1 => u1 = σ') (rt_B D rt_cl (rt_t cI cZ) rtC_X (rtC_W cI cZ A)) (rt_A (rtC_W cI cZ A) sz)) 0 0 (rt_A (rtC_W cI cZ A) sz) := by
  refine Met.ofW (cc := b_Runner_jumpIf) (maxL := 3) (ret := none) (by decide) rfl ?_
  intro p e s m args below meth c s₁ B hml hv
  obtain ⟨rfl, rfl, hP, hK, hX⟩ := hv
  have hx := B.exec
  have hb := B.bytes
  have hr := B.returns
  have hts := atoms_spec (ws := (rt_ws y_Runner_jumpIf b_Runner_jumpIf 3 none)) B.pre
  have hown : s.vm.findClass "RangeTeller$Runner" = some m.cls := findClass_of_methodNamed B.named
  have hlocks := B.notSynchronized
  have hD := rt_hD hO s.heap.size
  have hS : va_S (rt_A (rtC_W cI cZ A) s.heap.size) s.heap s.heap [] := va_S.rf
  have hl := lv_entry ([.ref (A 21), .int a1, .int a2]) (n := 3) (Nat.le_of_ble_eq_true rfl)
  rw [lg_entry_eq]
  generalize (lg_sl ([.ref (A 21), .int a1, .int a2]) ++ List.replicate (3 - (lg_sl ([.ref (A 21), .int a1, .int a2])).length) Slot.unset).toArray = ls at hl ⊢
  have hl : lv_has ls 3 [(0, .ref (A 21)), (1, .int a1), (2, .int a2)] := hl
  show W p l e ({ frames := 3, cells := 0, slots := 0, locals := 63 } : Room) s m ([.ref (A 21), .int a1, .int a2] : List Value).toArray below meth c s.heap [] 0 0 (rt_Qv D rt_cl (rt_t cI cZ) rtC_X (rtC_W cI cZ A) below ([.ref (A 21), .int a1, .int a2] : List Value).toArray s σ') (F0 m 0 ls [])
  unfold M_C_Runner_jumpIf at hm
  refine lv_iload_n hx hb d_Runner_jumpIf_0 rfl (lv_at hl 2 rfl) ?_
  refine lv_if_eq (tgt := 12) hx hb d_Runner_jumpIf_1 (by decide) (fun hc => ?_) (fun hc => ?_)
  · have hm := (if_pos hc).symm.trans hm
    refine lv_aload_n hx hb d_Runner_jumpIf_12 rfl (lv_at hl 0 rfl) ?_
    refine lv_dup hx hb d_Runner_jumpIf_13 rfl ?_
    refine va_get (D := D) (v := .int (σ 21 9)) (C := "RangeTeller$Runner") (T := rt_T4) (N := 18) hx hb hts rt_i4 hown hK hP 21 rfl rfl 9 (by decide) (hts _ (rt_m rt_w278)) (fun _ h9 => h9) rfl d_Runner_jumpIf_14 ?_
    refine lv_iconst (v := 1) hx hb d_Runner_jumpIf_17 (by decide) ?_
    refine lv_iadd hx hb d_Runner_jumpIf_18 ?_
    obtain ⟨σ1, h2, hm⟩ := rt_b1s hm
    refine rt_pf (D := D) (C := "RangeTeller$Runner") (T := rt_T4) (N := 18) (ty := .int) hx hb hts rt_i4 rt_y4 rt_o4 rt_n4 hown hK hP hD hS 21 rfl rfl 9 (by decide) (hts _ (rt_m rt_w278)) (fun _ h9 => h9) rfl (by decide +kernel) rfl rfl (Nat.le_of_ble_eq_true rfl) (rtC_s21_9 cI cZ A _ _) h2 d_Runner_jumpIf_19 (fun H locs hP hS => ?_)
    exact W.vret hx hb hr (fun t ht hW => ⟨⟨_, rfl, Option.some.inj hm, rt_end rtC_Xo hK hP hS hX ht hW⟩, hS.F ht⟩) hS.2.2 d_Runner_jumpIf_22
  · have hm := (if_neg hc).symm.trans hm
    refine lv_aload_n hx hb d_Runner_jumpIf_4 rfl (lv_at hl 0 rfl) ?_
    refine lv_iload_n hx hb d_Runner_jumpIf_5 rfl (lv_at hl 1 rfl) ?_
    obtain ⟨σ4, h3, hm⟩ := rt_b1s hm
    refine rt_cvv (As := [.int a1]) (rest := []) (k := 21) rtC_Xo ⟨hx, hb, hml, hown, hts⟩ (k_C_Runner_jump l D cI cZ A hO σ a1 _ h3) (cw_Runner_jump hts (hts _ (rt_m rt_w742)) ⟨Nat.le_of_ble_eq_true rfl, Nat.le_of_ble_eq_true rfl⟩) hK hP hS hX rfl rfl rfl hl.1 rfl (Nat.le_of_ble_eq_true rfl) d_Runner_jumpIf_6 ⟨Nat.zero_le _, Nat.zero_le _⟩ (fun H locs hP hS => ?_)
    refine lv_goto (tgt := 22) hx hb d_Runner_jumpIf_9 (by decide) ?_
    exact W.vret hx hb hr (fun t ht hW => ⟨⟨_, rfl, Option.some.inj hm, rt_end rtC_Xo hK hP hS hX ht hW⟩, hS.F ht⟩) hS.2.2 d_Runner_jumpIf_22
set_option maxHeartbeats 4000000 in
set_option maxRecDepth 100000 in
theorem k_C_Runner_step (l : Launch) (D : va_G) (cI cZ : ClassId) (A : Nat → Nat) (hO : rt_Ok (rtC_W cI cZ A)) (σ : rt_St) (a1 : Int32) (σ' : rt_St) (hm : M_C_Runner_step σ a1 = some σ') (sz : Nat) : Met l y_Runner_step (rt_ws y_Runner_step b_Runner_step 2 none) ({ frames := 4, cells := 0, slots := 0, locals := 85 } : Room) (va_Pc [.ref (A 21), .int a1] (rt_P D rt_cl (rt_t cI cZ) rtC_X (rtC_W cI cZ A) sz σ)) (va_Qv (fun u1 => u1 = σ') (rt_B D rt_cl (rt_t cI cZ) rtC_X (rtC_W cI cZ A)) (rt_A (rtC_W cI cZ A) sz)) 0 0 (rt_A (rtC_W cI cZ A) sz) := by
  refine Met.ofW (cc := b_Runner_step) (maxL := 2) (ret := none) (by decide) rfl ?_
  intro p e s m args below meth c s₁ B hml hv
  obtain ⟨rfl, rfl, hP, hK, hX⟩ := hv
  have hx := B.exec
  have hb := B.bytes
  have hr := B.returns
  have hts := atoms_spec (ws := (rt_ws y_Runner_step b_Runner_step 2 none)) B.pre
  have hown : s.vm.findClass "RangeTeller$Runner" = some m.cls := findClass_of_methodNamed B.named
  have hlocks := B.notSynchronized
  have hD := rt_hD hO s.heap.size
  have hS : va_S (rt_A (rtC_W cI cZ A) s.heap.size) s.heap s.heap [] := va_S.rf
  have hl := lv_entry ([.ref (A 21), .int a1]) (n := 2) (Nat.le_of_ble_eq_true rfl)
  rw [lg_entry_eq]
  generalize (lg_sl ([.ref (A 21), .int a1]) ++ List.replicate (2 - (lg_sl ([.ref (A 21), .int a1])).length) Slot.unset).toArray = ls at hl ⊢
  have hl : lv_has ls 2 [(0, .ref (A 21)), (1, .int a1)] := hl
  show W p l e ({ frames := 4, cells := 0, slots := 0, locals := 85 } : Room) s m ([.ref (A 21), .int a1] : List Value).toArray below meth c s.heap [] 0 0 (rt_Qv D rt_cl (rt_t cI cZ) rtC_X (rtC_W cI cZ A) below ([.ref (A 21), .int a1] : List Value).toArray s σ') (F0 m 0 ls [])
  have hB119 : ∀ (ls : Array Slot) (t0 t1 : Int32) (σ : rt_St) (H : Heap) (locs : List Loc), lv_has ls 2 [] → B_C_Runner_step_119 t0 t1 σ = some σ' → va_P D rt_cl (rtC_W cI cZ A σ) H → va_S (rt_A (rtC_W cI cZ A) s.heap.size) s.heap H locs → W p l e ({ frames := 4, cells := 0, slots := 0, locals := 85 } : Room) s m ([.ref (A 21), .int a1] : List Value).toArray below meth c H locs 0 0 (rt_Qv D rt_cl (rt_t cI cZ) rtC_X (rtC_W cI cZ A) below ([.ref (A 21), .int a1] : List Value).toArray s σ') (F0 m 119 ls [.int t0, .int t1, .ref (A 21)]) := by
    intro ls t0 t1 σ H locs hl hm hP hS
    unfold B_C_Runner_step_119 at hm
    obtain ⟨σ2, h1, hm⟩ := rt_b1s hm
    refine rt_cvv (As := [.int t1, .int t0]) (rest := []) (k := 21) rtC_Xo ⟨hx, hb, hml, hown, hts⟩ (k_C_Runner_jumpIf l D cI cZ A hO σ t1 t0 _ h1) (cw_Runner_jumpIf hts (hts _ (rt_m rt_w738)) ⟨Nat.le_of_ble_eq_true rfl, Nat.le_of_ble_eq_true rfl⟩) hK hP hS hX rfl rfl rfl hl.1 rfl (Nat.le_of_ble_eq_true rfl) d_Runner_step_119 ⟨Nat.zero_le _, Nat.zero_le _⟩ (fun H locs hP hS => ?_)
    refine lv_goto (tgt := 182) hx hb d_Runner_step_122 (by decide) ?_
    exact W.vret hx hb hr (fun t ht hW => ⟨⟨_, rfl, Option.some.inj hm, rt_end rtC_Xo hK hP hS hX ht hW⟩, hS.F ht⟩) hS.2.2 d_Runner_step_182
  have hB99 : ∀ (ls : Array Slot) (t0 t1 : Int32) (σ : rt_St) (H : Heap) (locs : List Loc), lv_has ls 2 [] → B_C_Runner_step_99 t0 t1 σ = some σ' → va_P D rt_cl (rtC_W cI cZ A σ) H → va_S (rt_A (rtC_W cI cZ A) s.heap.size) s.heap H locs → W p l e ({ frames := 4, cells := 0, slots := 0, locals := 85 } : Room) s m ([.ref (A 21), .int a1] : List Value).toArray below meth c H locs 0 0 (rt_Qv D rt_cl (rt_t cI cZ) rtC_X (rtC_W cI cZ A) below ([.ref (A 21), .int a1] : List Value).toArray s σ') (F0 m 99 ls [.int t0, .int t1, .ref (A 21)]) := by
    intro ls t0 t1 σ H locs hl hm hP hS
    unfold B_C_Runner_step_99 at hm
    obtain ⟨σ4, h3, hm⟩ := rt_b1s hm
    refine rt_cvv (As := [.int t1, .int t0]) (rest := []) (k := 21) rtC_Xo ⟨hx, hb, hml, hown, hts⟩ (k_C_Runner_jumpIf l D cI cZ A hO σ t1 t0 _ h3) (cw_Runner_jumpIf hts (hts _ (rt_m rt_w738)) ⟨Nat.le_of_ble_eq_true rfl, Nat.le_of_ble_eq_true rfl⟩) hK hP hS hX rfl rfl rfl hl.1 rfl (Nat.le_of_ble_eq_true rfl) d_Runner_step_99 ⟨Nat.zero_le _, Nat.zero_le _⟩ (fun H locs hP hS => ?_)
    refine lv_goto (tgt := 182) hx hb d_Runner_step_102 (by decide) ?_
    exact W.vret hx hb hr (fun t ht hW => ⟨⟨_, rfl, Option.some.inj hm, rt_end rtC_Xo hK hP hS hX ht hW⟩, hS.F ht⟩) hS.2.2 d_Runner_step_182
  unfold M_C_Runner_step at hm
  refine lv_aload_n hx hb d_Runner_step_0 rfl (lv_at hl 0 rfl) ?_
  refine va_get (D := D) (v := .ref (A 1)) (C := "RangeTeller$Runner") (T := rt_T4) (N := 18) hx hb hts rt_i4 hown hK hP 21 rfl rfl 0 (by decide) (hts _ (rt_m rt_w264)) (fun _ h9 => h9) rfl d_Runner_step_1 ?_
  refine va_get (D := D) (v := .ref (A 2)) (C := "RangeTeller$Program") (T := rt_T1) (N := 14) hx hb hts rt_i1 hown hK hP 1 rfl rfl 0 (by decide) (hts _ (rt_m rt_w123)) (fun _ h9 => h9) rfl d_Runner_step_4 ?_
  refine lv_iload_n hx hb d_Runner_step_7 rfl (lv_at hl 1 rfl) ?_
  obtain ⟨v5, h6, hm⟩ := rt_b1s hm
  refine rt_ald hx hb hK hP 2 0 rfl rfl h6 d_Runner_step_8 ?_
  by_cases c7 : v5 = 0
  · have hm := (if_pos c7).symm.trans hm
    refine lv_tableIn (off := 55) (tgt := 64) hx hb d_Runner_step_9 (by rw [c7]; decide) (by rw [c7]; decide) (by rw [c7]; rfl) (by decide) ?_
    refine lv_aload_n hx hb d_Runner_step_64 rfl (lv_at hl 0 rfl) ?_
    refine lv_iconst (v := 1) hx hb d_Runner_step_65 (by decide) ?_
    obtain ⟨σ8, h9, hm⟩ := rt_b1s hm
    refine rt_pf (D := D) (C := "RangeTeller$Runner") (T := rt_T4) (N := 18) (ty := .int) hx hb hts rt_i4 rt_y4 rt_o4 rt_n4 hown hK hP hD hS 21 rfl rfl 8 (by decide) (hts _ (rt_m rt_w276)) (fun _ h9 => h9) rfl (by decide +kernel) rfl rfl (Nat.le_of_ble_eq_true rfl) (rtC_s21_8 cI cZ A _ _) h9 d_Runner_step_66 (fun H locs hP hS => ?_)
    refine lv_goto (tgt := 182) hx hb d_Runner_step_69 (by decide) ?_
    exact W.vret hx hb hr (fun t ht hW => ⟨⟨_, rfl, Option.some.inj hm, rt_end rtC_Xo hK hP hS hX ht hW⟩, hS.F ht⟩) hS.2.2 d_Runner_step_182
  have hm := (if_neg c7).symm.trans hm
  by_cases c10 : v5 = 1
  · have hm := (if_pos c10).symm.trans hm
    refine lv_tableIn (off := 63) (tgt := 72) hx hb d_Runner_step_9 (by rw [c10]; decide) (by rw [c10]; decide) (by rw [c10]; rfl) (by decide) ?_
    refine lv_aload_n hx hb d_Runner_step_72 rfl (lv_at hl 0 rfl) ?_
    refine lv_dup hx hb d_Runner_step_73 rfl ?_
    refine va_get (D := D) (v := .int (σ 21 9)) (C := "RangeTeller$Runner") (T := rt_T4) (N := 18) hx hb hts rt_i4 hown hK hP 21 rfl rfl 9 (by decide) (hts _ (rt_m rt_w278)) (fun _ h9 => h9) rfl d_Runner_step_74 ?_
    refine lv_iconst (v := 1) hx hb d_Runner_step_77 (by decide) ?_
    refine lv_iadd hx hb d_Runner_step_78 ?_
    obtain ⟨σ11, h12, hm⟩ := rt_b1s hm
    refine rt_pf (D := D) (C := "RangeTeller$Runner") (T := rt_T4) (N := 18) (ty := .int) hx hb hts rt_i4 rt_y4 rt_o4 rt_n4 hown hK hP hD hS 21 rfl rfl 9 (by decide) (hts _ (rt_m rt_w278)) (fun _ h9 => h9) rfl (by decide +kernel) rfl rfl (Nat.le_of_ble_eq_true rfl) (rtC_s21_9 cI cZ A _ _) h12 d_Runner_step_79 (fun H locs hP hS => ?_)
    refine lv_goto (tgt := 182) hx hb d_Runner_step_82 (by decide) ?_
    exact W.vret hx hb hr (fun t ht hW => ⟨⟨_, rfl, Option.some.inj hm, rt_end rtC_Xo hK hP hS hX ht hW⟩, hS.F ht⟩) hS.2.2 d_Runner_step_182
  have hm := (if_neg c10).symm.trans hm
  by_cases c13 : v5 = 2
  · have hm := (if_pos c13).symm.trans hm
    refine lv_tableIn (off := 63) (tgt := 72) hx hb d_Runner_step_9 (by rw [c13]; decide) (by rw [c13]; decide) (by rw [c13]; rfl) (by decide) ?_
    refine lv_aload_n hx hb d_Runner_step_72 rfl (lv_at hl 0 rfl) ?_
    refine lv_dup hx hb d_Runner_step_73 rfl ?_
    refine va_get (D := D) (v := .int (σ 21 9)) (C := "RangeTeller$Runner") (T := rt_T4) (N := 18) hx hb hts rt_i4 hown hK hP 21 rfl rfl 9 (by decide) (hts _ (rt_m rt_w278)) (fun _ h9 => h9) rfl d_Runner_step_74 ?_
    refine lv_iconst (v := 1) hx hb d_Runner_step_77 (by decide) ?_
    refine lv_iadd hx hb d_Runner_step_78 ?_
    obtain ⟨σ14, h15, hm⟩ := rt_b1s hm
    refine rt_pf (D := D) (C := "RangeTeller$Runner") (T := rt_T4) (N := 18) (ty := .int) hx hb hts rt_i4 rt_y4 rt_o4 rt_n4 hown hK hP hD hS 21 rfl rfl 9 (by decide) (hts _ (rt_m rt_w278)) (fun _ h9 => h9) rfl (by decide +kernel) rfl rfl (Nat.le_of_ble_eq_true rfl) (rtC_s21_9 cI cZ A _ _) h15 d_Runner_step_79 (fun H locs hP hS => ?_)
    refine lv_goto (tgt := 182) hx hb d_Runner_step_82 (by decide) ?_
    exact W.vret hx hb hr (fun t ht hW => ⟨⟨_, rfl, Option.some.inj hm, rt_end rtC_Xo hK hP hS hX ht hW⟩, hS.F ht⟩) hS.2.2 d_Runner_step_182
  have hm := (if_neg c13).symm.trans hm
  by_cases c16 : v5 = 3
  · have hm := (if_pos c16).symm.trans hm
    refine lv_tableIn (off := 76) (tgt := 85) hx hb d_Runner_step_9 (by rw [c16]; decide) (by rw [c16]; decide) (by rw [c16]; rfl) (by decide) ?_
    refine lv_aload_n hx hb d_Runner_step_85 rfl (lv_at hl 0 rfl) ?_
    refine lv_iload_n hx hb d_Runner_step_86 rfl (lv_at hl 1 rfl) ?_
    refine lv_aload_n hx hb d_Runner_step_87 rfl (lv_at hl 0 rfl) ?_
    obtain ⟨v19, σ18, h17, hm⟩ := rt_b2s hm
    refine rt_cvi (As := []) (rest := [.int a1, .ref (A 21)]) (k := 21) rtC_Xo ⟨hx, hb, hml, hown, hts⟩ (k_C_Runner_pop l D cI cZ A hO σ _ _ h17) (cw_Runner_pop hts (hts _ (rt_m rt_w734)) ⟨Nat.le_of_ble_eq_true rfl, Nat.le_of_ble_eq_true rfl⟩) hK hP hS hX rfl rfl rfl hl.1 rfl (Nat.le_of_ble_eq_true rfl) d_Runner_step_88 ⟨Nat.zero_le _, Nat.zero_le _⟩ (fun H locs hP hS => ?_)
    refine lv_if_ne (tgt := 98) hx hb d_Runner_step_91 (by decide) (fun hc => ?_) (fun hc => ?_)
    · have hm := (if_neg hc).symm.trans hm
      refine lv_iconst (v := 0) hx hb d_Runner_step_98 (by decide) ?_
      exact hB99 ls 0 a1 σ18 _ _ (lv_sub hl [] rfl) hm hP hS
    · have hm := (if_pos hc).symm.trans hm
      refine lv_iconst (v := 1) hx hb d_Runner_step_94 (by decide) ?_
      refine lv_goto (tgt := 99) hx hb d_Runner_step_95 (by decide) ?_
      exact hB99 ls 1 a1 σ18 _ _ (lv_sub hl [] rfl) hm hP hS
  have hm := (if_neg c16).symm.trans hm
  by_cases c20 : v5 = 4
  · have hm := (if_pos c20).symm.trans hm
    refine lv_tableIn (off := 116) (tgt := 125) hx hb d_Runner_step_9 (by rw [c20]; decide) (by rw [c20]; decide) (by rw [c20]; rfl) (by decide) ?_
    refine lv_aload_n hx hb d_Runner_step_125 rfl (lv_at hl 0 rfl) ?_
    refine lv_iload_n hx hb d_Runner_step_126 rfl (lv_at hl 1 rfl) ?_
    obtain ⟨σ22, h21, hm⟩ := rt_b1s hm
    refine rt_cvv (As := [.int a1]) (rest := []) (k := 21) rtC_Xo ⟨hx, hb, hml, hown, hts⟩ (k_C_Runner_jump l D cI cZ A hO σ a1 _ h21) (cw_Runner_jump hts (hts _ (rt_m rt_w742)) ⟨Nat.le_of_ble_eq_true rfl, Nat.le_of_ble_eq_true rfl⟩) hK hP hS hX rfl rfl rfl hl.1 rfl (Nat.le_of_ble_eq_true rfl) d_Runner_step_127 ⟨Nat.zero_le _, Nat.zero_le _⟩ (fun H locs hP hS => ?_)
    refine lv_goto (tgt := 182) hx hb d_Runner_step_130 (by decide) ?_
    exact W.vret hx hb hr (fun t ht hW => ⟨⟨_, rfl, Option.some.inj hm, rt_end rtC_Xo hK hP hS hX ht hW⟩, hS.F ht⟩) hS.2.2 d_Runner_step_182
  have hm := (if_neg c20).symm.trans hm
  by_cases c23 : v5 = 5
  · have hm := (if_pos c23).symm.trans hm
    refine lv_tableIn (off := 116) (tgt := 125) hx hb d_Runner_step_9 (by rw [c23]; decide) (by rw [c23]; decide) (by rw [c23]; rfl) (by decide) ?_
    refine lv_aload_n hx hb d_Runner_step_125 rfl (lv_at hl 0 rfl) ?_
    refine lv_iload_n hx hb d_Runner_step_126 rfl (lv_at hl 1 rfl) ?_
    obtain ⟨σ25, h24, hm⟩ := rt_b1s hm
    refine rt_cvv (As := [.int a1]) (rest := []) (k := 21) rtC_Xo ⟨hx, hb, hml, hown, hts⟩ (k_C_Runner_jump l D cI cZ A hO σ a1 _ h24) (cw_Runner_jump hts (hts _ (rt_m rt_w742)) ⟨Nat.le_of_ble_eq_true rfl, Nat.le_of_ble_eq_true rfl⟩) hK hP hS hX rfl rfl rfl hl.1 rfl (Nat.le_of_ble_eq_true rfl) d_Runner_step_127 ⟨Nat.zero_le _, Nat.zero_le _⟩ (fun H locs hP hS => ?_)
    refine lv_goto (tgt := 182) hx hb d_Runner_step_130 (by decide) ?_
    exact W.vret hx hb hr (fun t ht hW => ⟨⟨_, rfl, Option.some.inj hm, rt_end rtC_Xo hK hP hS hX ht hW⟩, hS.F ht⟩) hS.2.2 d_Runner_step_182
  have hm := (if_neg c23).symm.trans hm
  by_cases c26 : v5 = 6
  · have hm := (if_pos c26).symm.trans hm
    refine lv_tableIn (off := 116) (tgt := 125) hx hb d_Runner_step_9 (by rw [c26]; decide) (by rw [c26]; decide) (by rw [c26]; rfl) (by decide) ?_
    refine lv_aload_n hx hb d_Runner_step_125 rfl (lv_at hl 0 rfl) ?_
    refine lv_iload_n hx hb d_Runner_step_126 rfl (lv_at hl 1 rfl) ?_
    obtain ⟨σ28, h27, hm⟩ := rt_b1s hm
    refine rt_cvv (As := [.int a1]) (rest := []) (k := 21) rtC_Xo ⟨hx, hb, hml, hown, hts⟩ (k_C_Runner_jump l D cI cZ A hO σ a1 _ h27) (cw_Runner_jump hts (hts _ (rt_m rt_w742)) ⟨Nat.le_of_ble_eq_true rfl, Nat.le_of_ble_eq_true rfl⟩) hK hP hS hX rfl rfl rfl hl.1 rfl (Nat.le_of_ble_eq_true rfl) d_Runner_step_127 ⟨Nat.zero_le _, Nat.zero_le _⟩ (fun H locs hP hS => ?_)
    refine lv_goto (tgt := 182) hx hb d_Runner_step_130 (by decide) ?_
    exact W.vret hx hb hr (fun t ht hW => ⟨⟨_, rfl, Option.some.inj hm, rt_end rtC_Xo hK hP hS hX ht hW⟩, hS.F ht⟩) hS.2.2 d_Runner_step_182
  have hm := (if_neg c26).symm.trans hm
  by_cases c29 : v5 = 7
  · have hm := (if_pos c29).symm.trans hm
    refine lv_tableIn (off := 96) (tgt := 105) hx hb d_Runner_step_9 (by rw [c29]; decide) (by rw [c29]; decide) (by rw [c29]; rfl) (by decide) ?_
    refine lv_aload_n hx hb d_Runner_step_105 rfl (lv_at hl 0 rfl) ?_
    refine lv_iload_n hx hb d_Runner_step_106 rfl (lv_at hl 1 rfl) ?_
    refine lv_aload_n hx hb d_Runner_step_107 rfl (lv_at hl 0 rfl) ?_
    obtain ⟨v32, σ31, h30, hm⟩ := rt_b2s hm
    refine rt_cvi (As := []) (rest := [.int a1, .ref (A 21)]) (k := 21) rtC_Xo ⟨hx, hb, hml, hown, hts⟩ (k_C_Runner_pop l D cI cZ A hO σ _ _ h30) (cw_Runner_pop hts (hts _ (rt_m rt_w734)) ⟨Nat.le_of_ble_eq_true rfl, Nat.le_of_ble_eq_true rfl⟩) hK hP hS hX rfl rfl rfl hl.1 rfl (Nat.le_of_ble_eq_true rfl) d_Runner_step_108 ⟨Nat.zero_le _, Nat.zero_le _⟩ (fun H locs hP hS => ?_)
    refine lv_if_eq (tgt := 118) hx hb d_Runner_step_111 (by decide) (fun hc => ?_) (fun hc => ?_)
    · have hm := (if_pos hc).symm.trans hm
      refine lv_iconst (v := 0) hx hb d_Runner_step_118 (by decide) ?_
      exact hB119 ls 0 a1 σ31 _ _ (lv_sub hl [] rfl) hm hP hS
    · have hm := (if_neg hc).symm.trans hm
      refine lv_iconst (v := 1) hx hb d_Runner_step_114 (by decide) ?_
      refine lv_goto (tgt := 119) hx hb d_Runner_step_115 (by decide) ?_
      exact hB119 ls 1 a1 σ31 _ _ (lv_sub hl [] rfl) hm hP hS
  have hm := (if_neg c29).symm.trans hm
  by_cases c33 : v5 = 8
  · have hm := (if_pos c33).symm.trans hm
    refine lv_tableIn (off := 116) (tgt := 125) hx hb d_Runner_step_9 (by rw [c33]; decide) (by rw [c33]; decide) (by rw [c33]; rfl) (by decide) ?_
    refine lv_aload_n hx hb d_Runner_step_125 rfl (lv_at hl 0 rfl) ?_
    refine lv_iload_n hx hb d_Runner_step_126 rfl (lv_at hl 1 rfl) ?_
    obtain ⟨σ35, h34, hm⟩ := rt_b1s hm
    refine rt_cvv (As := [.int a1]) (rest := []) (k := 21) rtC_Xo ⟨hx, hb, hml, hown, hts⟩ (k_C_Runner_jump l D cI cZ A hO σ a1 _ h34) (cw_Runner_jump hts (hts _ (rt_m rt_w742)) ⟨Nat.le_of_ble_eq_true rfl, Nat.le_of_ble_eq_true rfl⟩) hK hP hS hX rfl rfl rfl hl.1 rfl (Nat.le_of_ble_eq_true rfl) d_Runner_step_127 ⟨Nat.zero_le _, Nat.zero_le _⟩ (fun H locs hP hS => ?_)
    refine lv_goto (tgt := 182) hx hb d_Runner_step_130 (by decide) ?_
    exact W.vret hx hb hr (fun t ht hW => ⟨⟨_, rfl, Option.some.inj hm, rt_end rtC_Xo hK hP hS hX ht hW⟩, hS.F ht⟩) hS.2.2 d_Runner_step_182
  have hm := (if_neg c33).symm.trans hm
  by_cases c36 : v5 = 9
  · have hm := (if_pos c36).symm.trans hm
    refine lv_tableIn (off := 124) (tgt := 133) hx hb d_Runner_step_9 (by rw [c36]; decide) (by rw [c36]; decide) (by rw [c36]; rfl) (by decide) ?_
    refine lv_aload_n hx hb d_Runner_step_133 rfl (lv_at hl 0 rfl) ?_
    refine lv_iload_n hx hb d_Runner_step_134 rfl (lv_at hl 1 rfl) ?_
    obtain ⟨σ38, h37, hm⟩ := rt_b1s hm
    refine rt_cvv (As := [.int a1]) (rest := []) (k := 21) rtC_Xo ⟨hx, hb, hml, hown, hts⟩ (k_C_Runner_call l D cI cZ A hO σ a1 _ h37) (cw_Runner_call hts (hts _ (rt_m rt_w750)) ⟨Nat.le_of_ble_eq_true rfl, Nat.le_of_ble_eq_true rfl⟩) hK hP hS hX rfl rfl rfl hl.1 rfl (Nat.le_of_ble_eq_true rfl) d_Runner_step_135 ⟨Nat.zero_le _, Nat.zero_le _⟩ (fun H locs hP hS => ?_)
    refine lv_goto (tgt := 182) hx hb d_Runner_step_138 (by decide) ?_
    exact W.vret hx hb hr (fun t ht hW => ⟨⟨_, rfl, Option.some.inj hm, rt_end rtC_Xo hK hP hS hX ht hW⟩, hS.F ht⟩) hS.2.2 d_Runner_step_182
  have hm := (if_neg c36).symm.trans hm
  refine lv_tableOut (tgt := 141) hx hb d_Runner_step_9 (by have := lv_neT (a := 0) c7 rfl; have := lv_neT (a := 1) c10 rfl; have := lv_neT (a := 2) c13 rfl; have := lv_neT (a := 3) c16 rfl; have := lv_neT (a := 4) c20 rfl; have := lv_neT (a := 5) c23 rfl; have := lv_neT (a := 6) c26 rfl; have := lv_neT (a := 7) c29 rfl; have := lv_neT (a := 8) c33 rfl; have := lv_neT (a := 9) c36 rfl; omega) (by decide) ?_
  refine lv_aload_n hx hb d_Runner_step_141 rfl (lv_at hl 0 rfl) ?_
  refine lv_aload_n hx hb d_Runner_step_142 rfl (lv_at hl 0 rfl) ?_
  refine va_get (D := D) (v := .ref (A 1)) (C := "RangeTeller$Runner") (T := rt_T4) (N := 18) hx hb hts rt_i4 hown hK hP 21 rfl rfl 0 (by decide) (hts _ (rt_m rt_w264)) (fun _ h9 => h9) rfl d_Runner_step_143 ?_
  refine va_get (D := D) (v := .ref (A 2)) (C := "RangeTeller$Program") (T := rt_T1) (N := 14) hx hb hts rt_i1 hown hK hP 1 rfl rfl 0 (by decide) (hts _ (rt_m rt_w123)) (fun _ h9 => h9) rfl d_Runner_step_146 ?_
  refine lv_iload_n hx hb d_Runner_step_149 rfl (lv_at hl 1 rfl) ?_
  obtain ⟨v39, h40, hm⟩ := rt_b1s hm
  refine rt_ald hx hb hK hP 2 0 rfl rfl h40 d_Runner_step_150 ?_
  refine lv_aload_n hx hb d_Runner_step_151 rfl (lv_at hl 0 rfl) ?_
  refine va_get (D := D) (v := .ref (A 1)) (C := "RangeTeller$Runner") (T := rt_T4) (N := 18) hx hb hts rt_i4 hown hK hP 21 rfl rfl 0 (by decide) (hts _ (rt_m rt_w264)) (fun _ h9 => h9) rfl d_Runner_step_152 ?_
  refine va_get (D := D) (v := .ref (A 3)) (C := "RangeTeller$Program") (T := rt_T1) (N := 14) hx hb hts rt_i1 hown hK hP 1 rfl rfl 1 (by decide) (hts _ (rt_m rt_w128)) (fun _ h9 => h9) rfl d_Runner_step_155 ?_
  refine lv_iload_n hx hb d_Runner_step_158 rfl (lv_at hl 1 rfl) ?_
  obtain ⟨v41, h42, hm⟩ := rt_b1s hm
  refine rt_ald hx hb hK hP 3 0 rfl rfl h42 d_Runner_step_159 ?_
  obtain ⟨σ44, h43, hm⟩ := rt_b1s hm
  refine rt_cvv (As := [.int v39, .int v41]) (rest := []) (k := 21) rtC_Xo ⟨hx, hb, hml, hown, hts⟩ (k_C_Runner_operate l D cI cZ A hO σ v39 v41 _ h43) (cw_Runner_operate hts (hts _ (rt_m rt_w754)) ⟨Nat.le_of_ble_eq_true rfl, Nat.le_of_ble_eq_true rfl⟩) hK hP hS hX rfl rfl rfl hl.1 rfl (Nat.le_of_ble_eq_true rfl) d_Runner_step_160 ⟨Nat.zero_le _, Nat.zero_le _⟩ (fun H locs hP hS => ?_)
  refine lv_aload_n hx hb d_Runner_step_163 rfl (lv_at hl 0 rfl) ?_
  refine va_get (D := D) (v := .int (σ44 21 8)) (C := "RangeTeller$Runner") (T := rt_T4) (N := 18) hx hb hts rt_i4 hown hK hP 21 rfl rfl 8 (by decide) (hts _ (rt_m rt_w276)) (fun _ h9 => h9) rfl d_Runner_step_164 ?_
  refine lv_bipush (v := 6) hx hb d_Runner_step_167 (by decide) ?_
  refine lv_icmp_ne (tgt := 182) hx hb d_Runner_step_169 (by decide) (fun hc => ?_) (fun hc => ?_)
  · have hm := (if_neg hc).symm.trans hm
    exact W.vret hx hb hr (fun t ht hW => ⟨⟨_, rfl, Option.some.inj hm, rt_end rtC_Xo hK hP hS hX ht hW⟩, hS.F ht⟩) hS.2.2 d_Runner_step_182
  · have hm := (if_pos hc).symm.trans hm
    refine lv_aload_n hx hb d_Runner_step_172 rfl (lv_at hl 0 rfl) ?_
    refine lv_dup hx hb d_Runner_step_173 rfl ?_
    refine va_get (D := D) (v := .int (σ44 21 9)) (C := "RangeTeller$Runner") (T := rt_T4) (N := 18) hx hb hts rt_i4 hown hK hP 21 rfl rfl 9 (by decide) (hts _ (rt_m rt_w278)) (fun _ h9 => h9) rfl d_Runner_step_174 ?_
    refine lv_iconst (v := 1) hx hb d_Runner_step_177 (by decide) ?_
    refine lv_iadd hx hb d_Runner_step_178 ?_
    obtain ⟨σ45, h46, hm⟩ := rt_b1s hm
    refine rt_pf (D := D) (C := "RangeTeller$Runner") (T := rt_T4) (N := 18) (ty := .int) hx hb hts rt_i4 rt_y4 rt_o4 rt_n4 hown hK hP hD hS 21 rfl rfl 9 (by decide) (hts _ (rt_m rt_w278)) (fun _ h9 => h9) rfl (by decide +kernel) rfl rfl (Nat.le_of_ble_eq_true rfl) (rtC_s21_9 cI cZ A _ _) h46 d_Runner_step_179 (fun H locs hP hS => ?_)
    exact W.vret hx hb hr (fun t ht hW => ⟨⟨_, rfl, Option.some.inj hm, rt_end rtC_Xo hK hP hS hX ht hW⟩, hS.F ht⟩) hS.2.2 d_Runner_step_182
set_option maxHeartbeats 4000000 in
set_option maxRecDepth 100000 in
theorem k_C_Runner_runWith (l : Launch) (D : va_G) (cI cZ : ClassId) (A : Nat → Nat) (hO : rt_Ok (rtC_W cI cZ A)) (σ : rt_St) (a1 a2 a3 : Int32) (r' : Int32) (σ' : rt_St) (hm : M_C_Runner_runWith σ a1 a2 a3 = some (r', σ')) (sz : Nat) : Met l y_Runner_runWith (rt_ws y_Runner_runWith b_Runner_runWith 4 (some .int)) ({ frames := 5, cells := 0, slots := 0, locals := 106 } : Room) (va_Pc [.ref (A 21), .int a1, .int a2, .int a3] (rt_P D rt_cl (rt_t cI cZ) rtC_X (rtC_W cI cZ A) sz σ)) (va_Qi (fun r1 u1 => r1 = r' ∧ u1 = σ') (rt_B D rt_cl (rt_t cI cZ) rtC_X (rtC_W cI cZ A)) (rt_A (rtC_W cI cZ A) sz)) 0 0 (rt_A (rtC_W cI cZ A) sz) := by
  refine Met.ofW (cc := b_Runner_runWith) (maxL := 4) (ret := (some .int)) (by decide) rfl ?_
  intro p e s m args below meth c s₁ B hml hv
  obtain ⟨rfl, rfl, hP, hK, hX⟩ := hv
  have hx := B.exec
  have hb := B.bytes
  have hr := B.returns
  have hts := atoms_spec (ws := (rt_ws y_Runner_runWith b_Runner_runWith 4 (some .int))) B.pre
  have hown : s.vm.findClass "RangeTeller$Runner" = some m.cls := findClass_of_methodNamed B.named
  have hlocks := B.notSynchronized
  have hD := rt_hD hO s.heap.size
  have hS : va_S (rt_A (rtC_W cI cZ A) s.heap.size) s.heap s.heap [] := va_S.rf
  have hl := lv_entry ([.ref (A 21), .int a1, .int a2, .int a3]) (n := 4) (Nat.le_of_ble_eq_true rfl)
  rw [lg_entry_eq]
  generalize (lg_sl ([.ref (A 21), .int a1, .int a2, .int a3]) ++ List.replicate (4 - (lg_sl ([.ref (A 21), .int a1, .int a2, .int a3])).length) Slot.unset).toArray = ls at hl ⊢
  have hl : lv_has ls 4 [(0, .ref (A 21)), (1, .int a1), (2, .int a2), (3, .int a3)] := hl
  show W p l e ({ frames := 5, cells := 0, slots := 0, locals := 106 } : Room) s m ([.ref (A 21), .int a1, .int a2, .int a3] : List Value).toArray below meth c s.heap [] 0 0 (rt_Qi D rt_cl (rt_t cI cZ) rtC_X (rtC_W cI cZ A) below ([.ref (A 21), .int a1, .int a2, .int a3] : List Value).toArray s r' σ') (F0 m 0 ls [])
  have hB68 : ∀ (ls : Array Slot) (σ : rt_St) (H : Heap) (locs : List Loc), lv_has ls 4 [(0, .ref (A 21))] → B_C_Runner_runWith_68 σ = some (r', σ') → va_P D rt_cl (rtC_W cI cZ A σ) H → va_S (rt_A (rtC_W cI cZ A) s.heap.size) s.heap H locs → W p l e ({ frames := 5, cells := 0, slots := 0, locals := 106 } : Room) s m ([.ref (A 21), .int a1, .int a2, .int a3] : List Value).toArray below meth c H locs 0 0 (rt_Qi D rt_cl (rt_t cI cZ) rtC_X (rtC_W cI cZ A) below ([.ref (A 21), .int a1, .int a2, .int a3] : List Value).toArray s r' σ') (F0 m 68 ls []) := by
    intro ls σ H locs hl hm hP hS
    unfold B_C_Runner_runWith_68 at hm
    refine lv_aload_n hx hb d_Runner_runWith_68 rfl (lv_at hl 0 rfl) ?_
    refine lv_iconst (v := 0) hx hb d_Runner_runWith_69 (by decide) ?_
    obtain ⟨σ1, h2, hm⟩ := rt_b1s hm
    refine rt_pf (D := D) (C := "RangeTeller$Runner") (T := rt_T4) (N := 18) (ty := .int) hx hb hts rt_i4 rt_y4 rt_o4 rt_n4 hown hK hP hD hS 21 rfl rfl 2 (by decide) (hts _ (rt_m rt_w266)) (fun _ h9 => h9) rfl (by decide +kernel) rfl rfl (Nat.le_of_ble_eq_true rfl) (rtC_s21_2 cI cZ A _ _) h2 d_Runner_runWith_70 (fun H locs hP hS => ?_)
    refine lv_aload_n hx hb d_Runner_runWith_73 rfl (lv_at hl 0 rfl) ?_
    refine va_get (D := D) (v := .int (σ1 21 8)) (C := "RangeTeller$Runner") (T := rt_T4) (N := 18) hx hb hts rt_i4 hown hK hP 21 rfl rfl 8 (by decide) (hts _ (rt_m rt_w276)) (fun _ h9 => h9) rfl d_Runner_runWith_74 ?_
    exact W.iret hx hb hr (fun t ht hW => ⟨⟨_, _, rfl, rt_pr hm, rt_end rtC_Xo hK hP hS hX ht hW⟩, hS.F ht⟩) hS.2.2 d_Runner_runWith_77
  have hB54 : ∀ (ls : Array Slot) (σ : rt_St) (H : Heap) (locs : List Loc), lv_has ls 4 [(0, .ref (A 21))] → B_C_Runner_runWith_54 σ = some (r', σ') → va_P D rt_cl (rtC_W cI cZ A σ) H → va_S (rt_A (rtC_W cI cZ A) s.heap.size) s.heap H locs → W p l e ({ frames := 5, cells := 0, slots := 0, locals := 106 } : Room) s m ([.ref (A 21), .int a1, .int a2, .int a3] : List Value).toArray below meth c H locs 0 0 (rt_Qi D rt_cl (rt_t cI cZ) rtC_X (rtC_W cI cZ A) below ([.ref (A 21), .int a1, .int a2, .int a3] : List Value).toArray s r' σ') (F0 m 54 ls []) := by
    intro ls σ H locs hl hm hP hS
    unfold B_C_Runner_runWith_54 at hm
    refine lv_aload_n hx hb d_Runner_runWith_54 rfl (lv_at hl 0 rfl) ?_
    refine va_get (D := D) (v := .int (σ 21 8)) (C := "RangeTeller$Runner") (T := rt_T4) (N := 18) hx hb hts rt_i4 hown hK hP 21 rfl rfl 8 (by decide) (hts _ (rt_m rt_w276)) (fun _ h9 => h9) rfl d_Runner_runWith_55 ?_
    refine lv_bipush (v := 6) hx hb d_Runner_runWith_58 (by decide) ?_
    refine lv_icmp_ne (tgt := 68) hx hb d_Runner_runWith_60 (by decide) (fun hc => ?_) (fun hc => ?_)
    · have hm := (if_neg hc).symm.trans hm
      exact hB68 ls σ _ _ (lv_sub hl [0] rfl) hm hP hS
    · have hm := (if_pos hc).symm.trans hm
      refine lv_aload_n hx hb d_Runner_runWith_63 rfl (lv_at hl 0 rfl) ?_
      refine lv_iconst (v := 5) hx hb d_Runner_runWith_64 (by decide) ?_
      obtain ⟨σ3, h4, hm⟩ := rt_b1s hm
      refine rt_pf (D := D) (C := "RangeTeller$Runner") (T := rt_T4) (N := 18) (ty := .int) hx hb hts rt_i4 rt_y4 rt_o4 rt_n4 hown hK hP hD hS 21 rfl rfl 8 (by decide) (hts _ (rt_m rt_w276)) (fun _ h9 => h9) rfl (by decide +kernel) rfl rfl (Nat.le_of_ble_eq_true rfl) (rtC_s21_8 cI cZ A _ _) h4 d_Runner_runWith_65 (fun H locs hP hS => ?_)
      exact hB68 ls σ3 _ _ (lv_sub hl [0] rfl) hm hP hS
  have hB16 : ∀ (n16 : Nat) (ls : Array Slot) (l3 : Int32) (σ : rt_St) (H : Heap) (locs : List Loc), lv_has ls 4 [(0, .ref (A 21)), (3, .int l3)] → B_C_Runner_runWith_16 n16 l3 σ = some (r', σ') → va_P D rt_cl (rtC_W cI cZ A σ) H → va_S (rt_A (rtC_W cI cZ A) s.heap.size) s.heap H locs → W p l e ({ frames := 5, cells := 0, slots := 0, locals := 106 } : Room) s m ([.ref (A 21), .int a1, .int a2, .int a3] : List Value).toArray below meth c H locs 0 0 (rt_Qi D rt_cl (rt_t cI cZ) rtC_X (rtC_W cI cZ A) below ([.ref (A 21), .int a1, .int a2, .int a3] : List Value).toArray s r' σ') (F0 m 16 ls []) := by
    intro n16
    induction n16 with
    | zero => intro ls l3 σ H locs hl hm hP hS; rw [B_C_Runner_runWith_16] at hm; cases hm
    | succ n16 ih16 =>
      intro ls l3 σ H locs hl hm hP hS
      rw [B_C_Runner_runWith_16] at hm
      refine lv_aload_n hx hb d_Runner_runWith_16 rfl (lv_at hl 0 rfl) ?_
      refine va_get (D := D) (v := .int (σ 21 8)) (C := "RangeTeller$Runner") (T := rt_T4) (N := 18) hx hb hts rt_i4 hown hK hP 21 rfl rfl 8 (by decide) (hts _ (rt_m rt_w276)) (fun _ h9 => h9) rfl d_Runner_runWith_17 ?_
      refine lv_bipush (v := 6) hx hb d_Runner_runWith_20 (by decide) ?_
      refine lv_icmp_ne (tgt := 54) hx hb d_Runner_runWith_22 (by decide) (fun hc => ?_) (fun hc => ?_)
      · have hm := (if_neg hc).symm.trans hm
        exact hB54 ls σ _ _ (lv_sub hl [0] rfl) hm hP hS
      · have hm := (if_pos hc).symm.trans hm
        refine lv_aload_n hx hb d_Runner_runWith_25 rfl (lv_at hl 0 rfl) ?_
        refine va_get (D := D) (v := .int (σ 21 10)) (C := "RangeTeller$Runner") (T := rt_T4) (N := 18) hx hb hts rt_i4 hown hK hP 21 rfl rfl 10 (by decide) (hts _ (rt_m rt_w280)) (fun _ h9 => h9) rfl d_Runner_runWith_26 ?_
        refine lv_iload_n hx hb d_Runner_runWith_29 rfl (lv_at hl 1 rfl) ?_
        refine lv_icmp_ge (tgt := 54) hx hb d_Runner_runWith_30 (by decide) (fun hc => ?_) (fun hc => ?_)
        · have hm := (if_pos hc).symm.trans hm
          exact hB54 ls σ _ _ (lv_sub hl [0] rfl) hm hP hS
        · have hm := (if_neg hc).symm.trans hm
          refine lv_aload_n hx hb d_Runner_runWith_33 rfl (lv_at hl 0 rfl) ?_
          refine lv_dup hx hb d_Runner_runWith_34 rfl ?_
          refine va_get (D := D) (v := .int (σ 21 10)) (C := "RangeTeller$Runner") (T := rt_T4) (N := 18) hx hb hts rt_i4 hown hK hP 21 rfl rfl 10 (by decide) (hts _ (rt_m rt_w280)) (fun _ h9 => h9) rfl d_Runner_runWith_35 ?_
          refine lv_iconst (v := 1) hx hb d_Runner_runWith_38 (by decide) ?_
          refine lv_iadd hx hb d_Runner_runWith_39 ?_
          obtain ⟨σ5, h6, hm⟩ := rt_b1s hm
          refine rt_pf (D := D) (C := "RangeTeller$Runner") (T := rt_T4) (N := 18) (ty := .int) hx hb hts rt_i4 rt_y4 rt_o4 rt_n4 hown hK hP hD hS 21 rfl rfl 10 (by decide) (hts _ (rt_m rt_w280)) (fun _ h9 => h9) rfl (by decide +kernel) rfl rfl (Nat.le_of_ble_eq_true rfl) (rtC_s21_10 cI cZ A _ _) h6 d_Runner_runWith_40 (fun H locs hP hS => ?_)
          refine lv_aload_n hx hb d_Runner_runWith_43 rfl (lv_at hl 0 rfl) ?_
          refine lv_aload_n hx hb d_Runner_runWith_44 rfl (lv_at hl 0 rfl) ?_
          refine va_get (D := D) (v := .int (σ5 21 9)) (C := "RangeTeller$Runner") (T := rt_T4) (N := 18) hx hb hts rt_i4 hown hK hP 21 rfl rfl 9 (by decide) (hts _ (rt_m rt_w278)) (fun _ h9 => h9) rfl d_Runner_runWith_45 ?_
          obtain ⟨σ8, h7, hm⟩ := rt_b1s hm
          refine rt_cvv (As := [.int (σ5 21 9)]) (rest := []) (k := 21) rtC_Xo ⟨hx, hb, hml, hown, hts⟩ (k_C_Runner_step l D cI cZ A hO σ5 (σ5 21 9) _ h7) (cw_Runner_step hts (hts _ (rt_m rt_w730)) ⟨Nat.le_of_ble_eq_true rfl, Nat.le_of_ble_eq_true rfl⟩) hK hP hS hX rfl rfl rfl hl.1 rfl (Nat.le_of_ble_eq_true rfl) d_Runner_runWith_48 ⟨Nat.zero_le _, Nat.zero_le _⟩ (fun H locs hP hS => ?_)
          refine lv_goto (tgt := 16) hx hb d_Runner_runWith_51 (by decide) ?_
          exact ih16 ls l3 σ8 _ _ (lv_sub hl [0, 1] rfl) hm hP hS
  unfold M_C_Runner_runWith at hm
  refine lv_aload_n hx hb d_Runner_runWith_0 rfl (lv_at hl 0 rfl) ?_
  refine lv_iload_n hx hb d_Runner_runWith_1 rfl (lv_at hl 1 rfl) ?_
  refine lv_bipush (v := 64) hx hb d_Runner_runWith_2 (by decide) ?_
  obtain ⟨v10, h9, hm⟩ := rt_b1s hm
  refine rt_csi (As := [.int a1, .int 64]) (rest := [.ref (A 21)]) rt_X0o ⟨hx, hb, hml, hown, hts⟩ (k_C_Math_floorMod l a1 64 _ h9) (cw_Math_floorMod hts (hts _ (rt_m rt_w720)) ⟨Nat.le_of_ble_eq_true rfl, Nat.le_of_ble_eq_true rfl⟩) hS (fun _ h => Or.inr h) trivial rfl hl.1 rfl (Nat.le_of_ble_eq_true rfl) d_Runner_runWith_4 ⟨Nat.zero_le _, Nat.zero_le _⟩ (fun H locs hk hS => ?_)
  have hP := rt_keep hP hk
  clear hk
  refine lv_iload_n hx hb d_Runner_runWith_7 rfl (lv_at hl 2 rfl) ?_
  refine lv_bipush (v := 64) hx hb d_Runner_runWith_8 (by decide) ?_
  obtain ⟨v12, h11, hm⟩ := rt_b1s hm
  refine rt_csi (As := [.int a2, .int 64]) (rest := [.int v10, .ref (A 21)]) rt_X0o ⟨hx, hb, hml, hown, hts⟩ (k_C_Math_floorMod l a2 64 _ h11) (cw_Math_floorMod hts (hts _ (rt_m rt_w720)) ⟨Nat.le_of_ble_eq_true rfl, Nat.le_of_ble_eq_true rfl⟩) hS (fun _ h => Or.inr h) trivial rfl hl.1 rfl (Nat.le_of_ble_eq_true rfl) d_Runner_runWith_10 ⟨Nat.zero_le _, Nat.zero_le _⟩ (fun H locs hk hS => ?_)
  have hP := rt_keep hP hk
  clear hk
  obtain ⟨σ14, h13, hm⟩ := rt_b1s hm
  refine rt_cvv (As := [.int v10, .int v12]) (rest := []) (k := 21) rtC_Xo ⟨hx, hb, hml, hown, hts⟩ (k_C_Runner_begin l D cI cZ A hO σ v10 v12 _ h13) (cw_Runner_begin hts (hts _ (rt_m rt_w721)) ⟨Nat.le_of_ble_eq_true rfl, Nat.le_of_ble_eq_true rfl⟩) hK hP hS hX rfl rfl rfl hl.1 rfl (Nat.le_of_ble_eq_true rfl) d_Runner_runWith_13 ⟨Nat.zero_le _, Nat.zero_le _⟩ (fun H locs hP hS => ?_)
  exact hB16 _ ls a3 σ14 _ _ (lv_sub hl [0, 3] rfl) hm hP hS
set_option maxHeartbeats 4000000 in
set_option maxRecDepth 100000 in
theorem k_C_RangeTeller_run (l : Launch) (D : va_G) (cI cZ : ClassId) (A : Nat → Nat) (hO : rt_Ok (rtC_W cI cZ A)) (σ : rt_St) (a1 a2 a3 : Int32) (r' : Int32) (σ' : rt_St) (hm : M_C_RangeTeller_run σ a1 a2 a3 = some (r', σ')) (sz : Nat) : Met l y_RangeTeller_run (rt_ws y_RangeTeller_run b_RangeTeller_run 4 (some .int)) ({ frames := 6, cells := 0, slots := 0, locals := 129 } : Room) (va_Pc [.ref (A 0), .int a1, .int a2, .int a3] (rt_P D rt_cl (rt_t cI cZ) rtC_X (rtC_W cI cZ A) sz σ)) (va_Qi (fun r1 u1 => r1 = r' ∧ u1 = σ') (rt_B D rt_cl (rt_t cI cZ) rtC_X (rtC_W cI cZ A)) (rt_A (rtC_W cI cZ A) sz)) 0 0 (rt_A (rtC_W cI cZ A) sz) := by
  refine Met.ofW (cc := b_RangeTeller_run) (maxL := 4) (ret := (some .int)) (by decide) rfl ?_
  intro p e s m args below meth c s₁ B hml hv
  obtain ⟨rfl, rfl, hP, hK, hX⟩ := hv
  have hx := B.exec
  have hb := B.bytes
  have hr := B.returns
  have hts := atoms_spec (ws := (rt_ws y_RangeTeller_run b_RangeTeller_run 4 (some .int))) B.pre
  have hown : s.vm.findClass "RangeTeller" = some m.cls := findClass_of_methodNamed B.named
  have hlocks := B.notSynchronized
  have hD := rt_hD hO s.heap.size
  have hS : va_S (rt_A (rtC_W cI cZ A) s.heap.size) s.heap s.heap [] := va_S.rf
  have hl := lv_entry ([.ref (A 0), .int a1, .int a2, .int a3]) (n := 4) (Nat.le_of_ble_eq_true rfl)
  rw [lg_entry_eq]
  generalize (lg_sl ([.ref (A 0), .int a1, .int a2, .int a3]) ++ List.replicate (4 - (lg_sl ([.ref (A 0), .int a1, .int a2, .int a3])).length) Slot.unset).toArray = ls at hl ⊢
  have hl : lv_has ls 4 [(0, .ref (A 0)), (1, .int a1), (2, .int a2), (3, .int a3)] := hl
  show W p l e ({ frames := 6, cells := 0, slots := 0, locals := 129 } : Room) s m ([.ref (A 0), .int a1, .int a2, .int a3] : List Value).toArray below meth c s.heap [] 0 0 (rt_Qi D rt_cl (rt_t cI cZ) rtC_X (rtC_W cI cZ A) below ([.ref (A 0), .int a1, .int a2, .int a3] : List Value).toArray s r' σ') (F0 m 0 ls [])
  unfold M_C_RangeTeller_run at hm
  refine lv_aload_n hx hb d_RangeTeller_run_0 rfl (lv_at hl 0 rfl) ?_
  refine va_get (D := D) (v := .int (σ 0 5)) (C := "RangeTeller") (T := rt_T0) (N := 7) hx hb hts rt_i0 hown hK hP 0 rfl rfl 5 (by decide) (hts _ (rt_m rt_w383)) (fun _ h9 => h9) rfl d_RangeTeller_run_1 ?_
  refine lv_if_ne (tgt := 10) hx hb d_RangeTeller_run_4 (by decide) (fun hc => ?_) (fun hc => ?_)
  · have hm := (if_neg hc).symm.trans hm
    refine lv_aload_n hx hb d_RangeTeller_run_10 rfl (lv_at hl 0 rfl) ?_
    refine va_get (D := D) (v := .ref (A 21)) (C := "RangeTeller") (T := rt_T0) (N := 7) hx hb hts rt_i0 hown hK hP 0 rfl rfl 3 (by decide) (hts _ (rt_m rt_w381)) (fun _ h9 => h9) rfl d_RangeTeller_run_11 ?_
    refine lv_iload_n hx hb d_RangeTeller_run_14 rfl (lv_at hl 1 rfl) ?_
    refine lv_iload_n hx hb d_RangeTeller_run_15 rfl (lv_at hl 2 rfl) ?_
    refine lv_iconst (v := 0) hx hb d_RangeTeller_run_16 (by decide) ?_
    refine lv_iload_n hx hb d_RangeTeller_run_17 rfl (lv_at hl 3 rfl) ?_
    refine lv_sipush (v := 2000) hx hb d_RangeTeller_run_18 (by decide) ?_
    refine va_mmin hx hb (hml.trans hl.1.symm) hown (hts _ (rt_m rt_w714)) (hts _ (rt_m rt_w642)) (hts _ (rt_m rt_w104)) (hts _ (rt_m rt_w643)) (Nat.le_of_ble_eq_true rfl) (Nat.le_of_ble_eq_true rfl) (Nat.zero_le _) (Nat.zero_le _) d_RangeTeller_run_21 ?_
    refine va_mmax hx hb (hml.trans hl.1.symm) hown (hts _ (rt_m rt_w715)) (hts _ (rt_m rt_w684)) (hts _ (rt_m rt_w104)) (hts _ (rt_m rt_w685)) (Nat.le_of_ble_eq_true rfl) (Nat.le_of_ble_eq_true rfl) (Nat.zero_le _) (Nat.zero_le _) d_RangeTeller_run_24 ?_
    obtain ⟨v3, σ2, h1, hm⟩ := rt_b2s hm
    refine rt_cvi (As := [.int a1, .int a2, .int (rt_max 0 (rt_min a3 2000))]) (rest := []) (k := 21) rtC_Xo ⟨hx, hb, hml, hown, hts⟩ (k_C_Runner_runWith l D cI cZ A hO σ a1 a2 (rt_max 0 (rt_min a3 2000)) _ _ h1) (cw_Runner_runWith hts (hts _ (rt_m rt_w716)) ⟨Nat.le_of_ble_eq_true rfl, Nat.le_of_ble_eq_true rfl⟩) hK hP hS hX rfl rfl rfl hl.1 rfl (Nat.le_of_ble_eq_true rfl) d_RangeTeller_run_27 ⟨Nat.zero_le _, Nat.zero_le _⟩ (fun H locs hP hS => ?_)
    exact W.iret hx hb hr (fun t ht hW => ⟨⟨_, _, rfl, rt_pr hm, rt_end rtC_Xo hK hP hS hX ht hW⟩, hS.F ht⟩) hS.2.2 d_RangeTeller_run_30
  · have hm := (if_pos hc).symm.trans hm
    refine lv_bipush (v := (-3)) hx hb d_RangeTeller_run_7 (by decide) ?_
    exact W.iret hx hb hr (fun t ht hW => ⟨⟨_, _, rfl, rt_pr hm, rt_end rtC_Xo hK hP hS hX ht hW⟩, hS.F ht⟩) hS.2.2 d_RangeTeller_run_9
set_option maxHeartbeats 4000000 in
set_option maxRecDepth 100000 in
theorem k_C_RangeTeller_outcome (l : Launch) (D : va_G) (cI cZ : ClassId) (A : Nat → Nat) (hO : rt_Ok (rtC_W cI cZ A)) (σ : rt_St) (a1 : Int32) (r' : Int32) (σ' : rt_St) (hm : M_C_RangeTeller_outcome σ a1 = some (r', σ')) (sz : Nat) : Met l y_RangeTeller_outcome (rt_ws y_RangeTeller_outcome b_RangeTeller_outcome 2 (some .int)) ({ frames := 0, cells := 0, slots := 0, locals := 0 } : Room) (va_Pc [.ref (A 0), .int a1] (rt_P D rt_cl (rt_t cI cZ) rtC_X (rtC_W cI cZ A) sz σ)) (va_Qi (fun r1 u1 => r1 = r' ∧ u1 = σ') (rt_B D rt_cl (rt_t cI cZ) rtC_X (rtC_W cI cZ A)) (rt_A (rtC_W cI cZ A) sz)) 0 0 (rt_A (rtC_W cI cZ A) sz) := by
  refine Met.ofW (cc := b_RangeTeller_outcome) (maxL := 2) (ret := (some .int)) (by decide) rfl ?_
  intro p e s m args below meth c s₁ B hml hv
  obtain ⟨rfl, rfl, hP, hK, hX⟩ := hv
  have hx := B.exec
  have hb := B.bytes
  have hr := B.returns
  have hts := atoms_spec (ws := (rt_ws y_RangeTeller_outcome b_RangeTeller_outcome 2 (some .int))) B.pre
  have hown : s.vm.findClass "RangeTeller" = some m.cls := findClass_of_methodNamed B.named
  have hlocks := B.notSynchronized
  have hD := rt_hD hO s.heap.size
  have hS : va_S (rt_A (rtC_W cI cZ A) s.heap.size) s.heap s.heap [] := va_S.rf
  have hl := lv_entry ([.ref (A 0), .int a1]) (n := 2) (Nat.le_of_ble_eq_true rfl)
  rw [lg_entry_eq]
  generalize (lg_sl ([.ref (A 0), .int a1]) ++ List.replicate (2 - (lg_sl ([.ref (A 0), .int a1])).length) Slot.unset).toArray = ls at hl ⊢
  have hl : lv_has ls 2 [(0, .ref (A 0)), (1, .int a1)] := hl
  show W p l e ({ frames := 0, cells := 0, slots := 0, locals := 0 } : Room) s m ([.ref (A 0), .int a1] : List Value).toArray below meth c s.heap [] 0 0 (rt_Qi D rt_cl (rt_t cI cZ) rtC_X (rtC_W cI cZ A) below ([.ref (A 0), .int a1] : List Value).toArray s r' σ') (F0 m 0 ls [])
  unfold M_C_RangeTeller_outcome at hm
  refine lv_aload_n hx hb d_RangeTeller_outcome_0 rfl (lv_at hl 0 rfl) ?_
  refine va_get (D := D) (v := .ref (A 21)) (C := "RangeTeller") (T := rt_T0) (N := 7) hx hb hts rt_i0 hown hK hP 0 rfl rfl 3 (by decide) (hts _ (rt_m rt_w381)) (fun _ h9 => h9) rfl d_RangeTeller_outcome_1 ?_
  refine va_get (D := D) (v := .int (σ 21 7)) (C := "RangeTeller$Runner") (T := rt_T4) (N := 18) hx hb hts rt_i4 hown hK hP 21 rfl rfl 7 (by decide) (hts _ (rt_m rt_w275)) (fun _ h9 => h9) rfl d_RangeTeller_outcome_4 ?_
  refine lv_if_ne (tgt := 13) hx hb d_RangeTeller_outcome_7 (by decide) (fun hc => ?_) (fun hc => ?_)
  · have hm := (if_neg hc).symm.trans hm
    refine lv_iload_n hx hb d_RangeTeller_outcome_13 rfl (lv_at hl 1 rfl) ?_
    by_cases c1 : a1 = 0
    · have hm := (if_pos c1).symm.trans hm
      refine lv_tableIn (off := 30) (tgt := 44) hx hb d_RangeTeller_outcome_14 (by rw [c1]; decide) (by rw [c1]; decide) (by rw [c1]; rfl) (by decide) ?_
      refine lv_aload_n hx hb d_RangeTeller_outcome_44 rfl (lv_at hl 0 rfl) ?_
      refine va_get (D := D) (v := .ref (A 21)) (C := "RangeTeller") (T := rt_T0) (N := 7) hx hb hts rt_i0 hown hK hP 0 rfl rfl 3 (by decide) (hts _ (rt_m rt_w381)) (fun _ h9 => h9) rfl d_RangeTeller_outcome_45 ?_
      refine va_get (D := D) (v := .int (σ 21 11)) (C := "RangeTeller$Runner") (T := rt_T4) (N := 18) hx hb hts rt_i4 hown hK hP 21 rfl rfl 11 (by decide) (hts _ (rt_m rt_w283)) (fun _ h9 => h9) rfl d_RangeTeller_outcome_48 ?_
      exact W.iret hx hb hr (fun t ht hW => ⟨⟨_, _, rfl, rt_pr hm, rt_end rtC_Xo hK hP hS hX ht hW⟩, hS.F ht⟩) hS.2.2 d_RangeTeller_outcome_51
    have hm := (if_neg c1).symm.trans hm
    by_cases c2 : a1 = 1
    · have hm := (if_pos c2).symm.trans hm
      refine lv_tableIn (off := 38) (tgt := 52) hx hb d_RangeTeller_outcome_14 (by rw [c2]; decide) (by rw [c2]; decide) (by rw [c2]; rfl) (by decide) ?_
      refine lv_aload_n hx hb d_RangeTeller_outcome_52 rfl (lv_at hl 0 rfl) ?_
      refine va_get (D := D) (v := .ref (A 21)) (C := "RangeTeller") (T := rt_T0) (N := 7) hx hb hts rt_i0 hown hK hP 0 rfl rfl 3 (by decide) (hts _ (rt_m rt_w381)) (fun _ h9 => h9) rfl d_RangeTeller_outcome_53 ?_
      refine va_get (D := D) (v := .int (σ 21 8)) (C := "RangeTeller$Runner") (T := rt_T4) (N := 18) hx hb hts rt_i4 hown hK hP 21 rfl rfl 8 (by decide) (hts _ (rt_m rt_w277)) (fun _ h9 => h9) rfl d_RangeTeller_outcome_56 ?_
      refine lv_if_ne (tgt := 67) hx hb d_RangeTeller_outcome_59 (by decide) (fun hc => ?_) (fun hc => ?_)
      · have hm := (if_neg hc).symm.trans hm
        refine lv_aload_n hx hb d_RangeTeller_outcome_67 rfl (lv_at hl 0 rfl) ?_
        refine va_get (D := D) (v := .ref (A 21)) (C := "RangeTeller") (T := rt_T0) (N := 7) hx hb hts rt_i0 hown hK hP 0 rfl rfl 3 (by decide) (hts _ (rt_m rt_w381)) (fun _ h9 => h9) rfl d_RangeTeller_outcome_68 ?_
        refine va_get (D := D) (v := .int (σ 21 9)) (C := "RangeTeller$Runner") (T := rt_T4) (N := 18) hx hb hts rt_i4 hown hK hP 21 rfl rfl 9 (by decide) (hts _ (rt_m rt_w279)) (fun _ h9 => h9) rfl d_RangeTeller_outcome_71 ?_
        exact W.iret hx hb hr (fun t ht hW => ⟨⟨_, _, rfl, rt_pr hm, rt_end rtC_Xo hK hP hS hX ht hW⟩, hS.F ht⟩) hS.2.2 d_RangeTeller_outcome_74
      · have hm := (if_pos hc).symm.trans hm
        refine lv_bipush (v := (-3)) hx hb d_RangeTeller_outcome_62 (by decide) ?_
        refine lv_goto (tgt := 74) hx hb d_RangeTeller_outcome_64 (by decide) ?_
        exact W.iret hx hb hr (fun t ht hW => ⟨⟨_, _, rfl, rt_pr hm, rt_end rtC_Xo hK hP hS hX ht hW⟩, hS.F ht⟩) hS.2.2 d_RangeTeller_outcome_74
    have hm := (if_neg c2).symm.trans hm
    by_cases c3 : a1 = 2
    · have hm := (if_pos c3).symm.trans hm
      refine lv_tableIn (off := 61) (tgt := 75) hx hb d_RangeTeller_outcome_14 (by rw [c3]; decide) (by rw [c3]; decide) (by rw [c3]; rfl) (by decide) ?_
      refine lv_aload_n hx hb d_RangeTeller_outcome_75 rfl (lv_at hl 0 rfl) ?_
      refine va_get (D := D) (v := .ref (A 21)) (C := "RangeTeller") (T := rt_T0) (N := 7) hx hb hts rt_i0 hown hK hP 0 rfl rfl 3 (by decide) (hts _ (rt_m rt_w381)) (fun _ h9 => h9) rfl d_RangeTeller_outcome_76 ?_
      refine va_get (D := D) (v := .int (σ 21 10)) (C := "RangeTeller$Runner") (T := rt_T4) (N := 18) hx hb hts rt_i4 hown hK hP 21 rfl rfl 10 (by decide) (hts _ (rt_m rt_w281)) (fun _ h9 => h9) rfl d_RangeTeller_outcome_79 ?_
      exact W.iret hx hb hr (fun t ht hW => ⟨⟨_, _, rfl, rt_pr hm, rt_end rtC_Xo hK hP hS hX ht hW⟩, hS.F ht⟩) hS.2.2 d_RangeTeller_outcome_82
    have hm := (if_neg c3).symm.trans hm
    by_cases c4 : a1 = 3
    · have hm := (if_pos c4).symm.trans hm
      refine lv_tableIn (off := 69) (tgt := 83) hx hb d_RangeTeller_outcome_14 (by rw [c4]; decide) (by rw [c4]; decide) (by rw [c4]; rfl) (by decide) ?_
      refine lv_aload_n hx hb d_RangeTeller_outcome_83 rfl (lv_at hl 0 rfl) ?_
      refine va_get (D := D) (v := .ref (A 21)) (C := "RangeTeller") (T := rt_T0) (N := 7) hx hb hts rt_i0 hown hK hP 0 rfl rfl 3 (by decide) (hts _ (rt_m rt_w381)) (fun _ h9 => h9) rfl d_RangeTeller_outcome_84 ?_
      refine va_get (D := D) (v := .int (σ 21 6)) (C := "RangeTeller$Runner") (T := rt_T4) (N := 18) hx hb hts rt_i4 hown hK hP 21 rfl rfl 6 (by decide) (hts _ (rt_m rt_w273)) (fun _ h9 => h9) rfl d_RangeTeller_outcome_87 ?_
      exact W.iret hx hb hr (fun t ht hW => ⟨⟨_, _, rfl, rt_pr hm, rt_end rtC_Xo hK hP hS hX ht hW⟩, hS.F ht⟩) hS.2.2 d_RangeTeller_outcome_90
    have hm := (if_neg c4).symm.trans hm
    refine lv_tableOut (tgt := 91) hx hb d_RangeTeller_outcome_14 (by have := lv_neT (a := 0) c1 rfl; have := lv_neT (a := 1) c2 rfl; have := lv_neT (a := 2) c3 rfl; have := lv_neT (a := 3) c4 rfl; omega) (by decide) ?_
    refine lv_bipush (v := (-3)) hx hb d_RangeTeller_outcome_91 (by decide) ?_
    exact W.iret hx hb hr (fun t ht hW => ⟨⟨_, _, rfl, rt_pr hm, rt_end rtC_Xo hK hP hS hX ht hW⟩, hS.F ht⟩) hS.2.2 d_RangeTeller_outcome_93
  · have hm := (if_pos hc).symm.trans hm
    refine lv_bipush (v := (-3)) hx hb d_RangeTeller_outcome_10 (by decide) ?_
    exact W.iret hx hb hr (fun t ht hW => ⟨⟨_, _, rfl, rt_pr hm, rt_end rtC_Xo hK hP hS hX ht hW⟩, hS.F ht⟩) hS.2.2 d_RangeTeller_outcome_12
set_option maxHeartbeats 4000000 in
set_option maxRecDepth 100000 in
theorem k_C_RangeTeller_output (l : Launch) (D : va_G) (cI cZ : ClassId) (A : Nat → Nat) (hO : rt_Ok (rtC_W cI cZ A)) (σ : rt_St) (a1 : Int32) (r' : Int32) (σ' : rt_St) (hm : M_C_RangeTeller_output σ a1 = some (r', σ')) (sz : Nat) : Met l y_RangeTeller_output (rt_ws y_RangeTeller_output b_RangeTeller_output 2 (some .int)) ({ frames := 0, cells := 0, slots := 0, locals := 0 } : Room) (va_Pc [.ref (A 0), .int a1] (rt_P D rt_cl (rt_t cI cZ) rtC_X (rtC_W cI cZ A) sz σ)) (va_Qi (fun r1 u1 => r1 = r' ∧ u1 = σ') (rt_B D rt_cl (rt_t cI cZ) rtC_X (rtC_W cI cZ A)) (rt_A (rtC_W cI cZ A) sz)) 0 0 (rt_A (rtC_W cI cZ A) sz) := by
  refine Met.ofW (cc := b_RangeTeller_output) (maxL := 2) (ret := (some .int)) (by decide) rfl ?_
  intro p e s m args below meth c s₁ B hml hv
  obtain ⟨rfl, rfl, hP, hK, hX⟩ := hv
  have hx := B.exec
  have hb := B.bytes
  have hr := B.returns
  have hts := atoms_spec (ws := (rt_ws y_RangeTeller_output b_RangeTeller_output 2 (some .int))) B.pre
  have hown : s.vm.findClass "RangeTeller" = some m.cls := findClass_of_methodNamed B.named
  have hlocks := B.notSynchronized
  have hD := rt_hD hO s.heap.size
  have hS : va_S (rt_A (rtC_W cI cZ A) s.heap.size) s.heap s.heap [] := va_S.rf
  have hl := lv_entry ([.ref (A 0), .int a1]) (n := 2) (Nat.le_of_ble_eq_true rfl)
  rw [lg_entry_eq]
  generalize (lg_sl ([.ref (A 0), .int a1]) ++ List.replicate (2 - (lg_sl ([.ref (A 0), .int a1])).length) Slot.unset).toArray = ls at hl ⊢
  have hl : lv_has ls 2 [(0, .ref (A 0)), (1, .int a1)] := hl
  show W p l e ({ frames := 0, cells := 0, slots := 0, locals := 0 } : Room) s m ([.ref (A 0), .int a1] : List Value).toArray below meth c s.heap [] 0 0 (rt_Qi D rt_cl (rt_t cI cZ) rtC_X (rtC_W cI cZ A) below ([.ref (A 0), .int a1] : List Value).toArray s r' σ') (F0 m 0 ls [])
  unfold M_C_RangeTeller_output at hm
  refine lv_aload_n hx hb d_RangeTeller_output_0 rfl (lv_at hl 0 rfl) ?_
  refine va_get (D := D) (v := .ref (A 21)) (C := "RangeTeller") (T := rt_T0) (N := 7) hx hb hts rt_i0 hown hK hP 0 rfl rfl 3 (by decide) (hts _ (rt_m rt_w381)) (fun _ h9 => h9) rfl d_RangeTeller_output_1 ?_
  refine va_get (D := D) (v := .int (σ 21 7)) (C := "RangeTeller$Runner") (T := rt_T4) (N := 18) hx hb hts rt_i4 hown hK hP 21 rfl rfl 7 (by decide) (hts _ (rt_m rt_w275)) (fun _ h9 => h9) rfl d_RangeTeller_output_4 ?_
  refine lv_if_eq (tgt := 31) hx hb d_RangeTeller_output_7 (by decide) (fun hc => ?_) (fun hc => ?_)
  · have hm := (if_pos hc).symm.trans hm
    refine lv_bipush (v := (-3)) hx hb d_RangeTeller_output_31 (by decide) ?_
    exact W.iret hx hb hr (fun t ht hW => ⟨⟨_, _, rfl, rt_pr hm, rt_end rtC_Xo hK hP hS hX ht hW⟩, hS.F ht⟩) hS.2.2 d_RangeTeller_output_33
  · have hm := (if_neg hc).symm.trans hm
    refine lv_iload_n hx hb d_RangeTeller_output_10 rfl (lv_at hl 1 rfl) ?_
    refine lv_if_lt (tgt := 31) hx hb d_RangeTeller_output_11 (by decide) (fun hc => ?_) (fun hc => ?_)
    · have hm := (if_pos hc).symm.trans hm
      refine lv_bipush (v := (-3)) hx hb d_RangeTeller_output_31 (by decide) ?_
      exact W.iret hx hb hr (fun t ht hW => ⟨⟨_, _, rfl, rt_pr hm, rt_end rtC_Xo hK hP hS hX ht hW⟩, hS.F ht⟩) hS.2.2 d_RangeTeller_output_33
    · have hm := (if_neg hc).symm.trans hm
      refine lv_iload_n hx hb d_RangeTeller_output_14 rfl (lv_at hl 1 rfl) ?_
      refine lv_bipush (v := 20) hx hb d_RangeTeller_output_15 (by decide) ?_
      refine lv_icmp_ge (tgt := 31) hx hb d_RangeTeller_output_17 (by decide) (fun hc => ?_) (fun hc => ?_)
      · have hm := (if_pos hc).symm.trans hm
        refine lv_bipush (v := (-3)) hx hb d_RangeTeller_output_31 (by decide) ?_
        exact W.iret hx hb hr (fun t ht hW => ⟨⟨_, _, rfl, rt_pr hm, rt_end rtC_Xo hK hP hS hX ht hW⟩, hS.F ht⟩) hS.2.2 d_RangeTeller_output_33
      · have hm := (if_neg hc).symm.trans hm
        refine lv_iload_n hx hb d_RangeTeller_output_20 rfl (lv_at hl 1 rfl) ?_
        refine lv_aload_n hx hb d_RangeTeller_output_21 rfl (lv_at hl 0 rfl) ?_
        refine va_get (D := D) (v := .ref (A 21)) (C := "RangeTeller") (T := rt_T0) (N := 7) hx hb hts rt_i0 hown hK hP 0 rfl rfl 3 (by decide) (hts _ (rt_m rt_w381)) (fun _ h9 => h9) rfl d_RangeTeller_output_22 ?_
        refine va_get (D := D) (v := .int (σ 21 6)) (C := "RangeTeller$Runner") (T := rt_T4) (N := 18) hx hb hts rt_i4 hown hK hP 21 rfl rfl 6 (by decide) (hts _ (rt_m rt_w273)) (fun _ h9 => h9) rfl d_RangeTeller_output_25 ?_
        refine lv_icmp_lt (tgt := 34) hx hb d_RangeTeller_output_28 (by decide) (fun hc => ?_) (fun hc => ?_)
        · have hm := (if_pos hc).symm.trans hm
          refine lv_aload_n hx hb d_RangeTeller_output_34 rfl (lv_at hl 0 rfl) ?_
          refine va_get (D := D) (v := .ref (A 21)) (C := "RangeTeller") (T := rt_T0) (N := 7) hx hb hts rt_i0 hown hK hP 0 rfl rfl 3 (by decide) (hts _ (rt_m rt_w381)) (fun _ h9 => h9) rfl d_RangeTeller_output_35 ?_
          refine va_get (D := D) (v := .ref (A 24)) (C := "RangeTeller$Runner") (T := rt_T4) (N := 18) hx hb hts rt_i4 hown hK hP 21 rfl rfl 5 (by decide) (hts _ (rt_m rt_w271)) (fun _ h9 => h9) rfl d_RangeTeller_output_38 ?_
          refine lv_iload_n hx hb d_RangeTeller_output_41 rfl (lv_at hl 1 rfl) ?_
          obtain ⟨v1, h2, hm⟩ := rt_b1s hm
          refine rt_ald hx hb hK hP 24 0 rfl rfl h2 d_RangeTeller_output_42 ?_
          exact W.iret hx hb hr (fun t ht hW => ⟨⟨_, _, rfl, rt_pr hm, rt_end rtC_Xo hK hP hS hX ht hW⟩, hS.F ht⟩) hS.2.2 d_RangeTeller_output_43
        · have hm := (if_neg hc).symm.trans hm
          refine lv_bipush (v := (-3)) hx hb d_RangeTeller_output_31 (by decide) ?_
          exact W.iret hx hb hr (fun t ht hW => ⟨⟨_, _, rfl, rt_pr hm, rt_end rtC_Xo hK hP hS hX ht hW⟩, hS.F ht⟩) hS.2.2 d_RangeTeller_output_33
set_option maxHeartbeats 4000000 in
set_option maxRecDepth 100000 in
theorem k_C_RangeTeller_memory (l : Launch) (D : va_G) (cI cZ : ClassId) (A : Nat → Nat) (hO : rt_Ok (rtC_W cI cZ A)) (σ : rt_St) (a1 : Int32) (r' : Int32) (σ' : rt_St) (hm : M_C_RangeTeller_memory σ a1 = some (r', σ')) (sz : Nat) : Met l y_RangeTeller_memory (rt_ws y_RangeTeller_memory b_RangeTeller_memory 2 (some .int)) ({ frames := 0, cells := 0, slots := 0, locals := 0 } : Room) (va_Pc [.ref (A 0), .int a1] (rt_P D rt_cl (rt_t cI cZ) rtC_X (rtC_W cI cZ A) sz σ)) (va_Qi (fun r1 u1 => r1 = r' ∧ u1 = σ') (rt_B D rt_cl (rt_t cI cZ) rtC_X (rtC_W cI cZ A)) (rt_A (rtC_W cI cZ A) sz)) 0 0 (rt_A (rtC_W cI cZ A) sz) := by
  refine Met.ofW (cc := b_RangeTeller_memory) (maxL := 2) (ret := (some .int)) (by decide) rfl ?_
  intro p e s m args below meth c s₁ B hml hv
  obtain ⟨rfl, rfl, hP, hK, hX⟩ := hv
  have hx := B.exec
  have hb := B.bytes
  have hr := B.returns
  have hts := atoms_spec (ws := (rt_ws y_RangeTeller_memory b_RangeTeller_memory 2 (some .int))) B.pre
  have hown : s.vm.findClass "RangeTeller" = some m.cls := findClass_of_methodNamed B.named
  have hlocks := B.notSynchronized
  have hD := rt_hD hO s.heap.size
  have hS : va_S (rt_A (rtC_W cI cZ A) s.heap.size) s.heap s.heap [] := va_S.rf
  have hl := lv_entry ([.ref (A 0), .int a1]) (n := 2) (Nat.le_of_ble_eq_true rfl)
  rw [lg_entry_eq]
  generalize (lg_sl ([.ref (A 0), .int a1]) ++ List.replicate (2 - (lg_sl ([.ref (A 0), .int a1])).length) Slot.unset).toArray = ls at hl ⊢
  have hl : lv_has ls 2 [(0, .ref (A 0)), (1, .int a1)] := hl
  show W p l e ({ frames := 0, cells := 0, slots := 0, locals := 0 } : Room) s m ([.ref (A 0), .int a1] : List Value).toArray below meth c s.heap [] 0 0 (rt_Qi D rt_cl (rt_t cI cZ) rtC_X (rtC_W cI cZ A) below ([.ref (A 0), .int a1] : List Value).toArray s r' σ') (F0 m 0 ls [])
  unfold M_C_RangeTeller_memory at hm
  refine lv_aload_n hx hb d_RangeTeller_memory_0 rfl (lv_at hl 0 rfl) ?_
  refine va_get (D := D) (v := .ref (A 21)) (C := "RangeTeller") (T := rt_T0) (N := 7) hx hb hts rt_i0 hown hK hP 0 rfl rfl 3 (by decide) (hts _ (rt_m rt_w381)) (fun _ h9 => h9) rfl d_RangeTeller_memory_1 ?_
  refine va_get (D := D) (v := .int (σ 21 7)) (C := "RangeTeller$Runner") (T := rt_T4) (N := 18) hx hb hts rt_i4 hown hK hP 21 rfl rfl 7 (by decide) (hts _ (rt_m rt_w275)) (fun _ h9 => h9) rfl d_RangeTeller_memory_4 ?_
  refine lv_if_eq (tgt := 20) hx hb d_RangeTeller_memory_7 (by decide) (fun hc => ?_) (fun hc => ?_)
  · have hm := (if_pos hc).symm.trans hm
    refine lv_bipush (v := (-3)) hx hb d_RangeTeller_memory_20 (by decide) ?_
    exact W.iret hx hb hr (fun t ht hW => ⟨⟨_, _, rfl, rt_pr hm, rt_end rtC_Xo hK hP hS hX ht hW⟩, hS.F ht⟩) hS.2.2 d_RangeTeller_memory_22
  · have hm := (if_neg hc).symm.trans hm
    refine lv_iload_n hx hb d_RangeTeller_memory_10 rfl (lv_at hl 1 rfl) ?_
    refine lv_if_lt (tgt := 20) hx hb d_RangeTeller_memory_11 (by decide) (fun hc => ?_) (fun hc => ?_)
    · have hm := (if_pos hc).symm.trans hm
      refine lv_bipush (v := (-3)) hx hb d_RangeTeller_memory_20 (by decide) ?_
      exact W.iret hx hb hr (fun t ht hW => ⟨⟨_, _, rfl, rt_pr hm, rt_end rtC_Xo hK hP hS hX ht hW⟩, hS.F ht⟩) hS.2.2 d_RangeTeller_memory_22
    · have hm := (if_neg hc).symm.trans hm
      refine lv_iload_n hx hb d_RangeTeller_memory_14 rfl (lv_at hl 1 rfl) ?_
      refine lv_bipush (v := 16) hx hb d_RangeTeller_memory_15 (by decide) ?_
      refine lv_icmp_lt (tgt := 23) hx hb d_RangeTeller_memory_17 (by decide) (fun hc => ?_) (fun hc => ?_)
      · have hm := (if_pos hc).symm.trans hm
        refine lv_aload_n hx hb d_RangeTeller_memory_23 rfl (lv_at hl 0 rfl) ?_
        refine va_get (D := D) (v := .ref (A 21)) (C := "RangeTeller") (T := rt_T0) (N := 7) hx hb hts rt_i0 hown hK hP 0 rfl rfl 3 (by decide) (hts _ (rt_m rt_w381)) (fun _ h9 => h9) rfl d_RangeTeller_memory_24 ?_
        refine va_get (D := D) (v := .ref (A 23)) (C := "RangeTeller$Runner") (T := rt_T4) (N := 18) hx hb hts rt_i4 hown hK hP 21 rfl rfl 4 (by decide) (hts _ (rt_m rt_w269)) (fun _ h9 => h9) rfl d_RangeTeller_memory_27 ?_
        refine lv_iload_n hx hb d_RangeTeller_memory_30 rfl (lv_at hl 1 rfl) ?_
        obtain ⟨v1, h2, hm⟩ := rt_b1s hm
        refine rt_ald hx hb hK hP 23 0 rfl rfl h2 d_RangeTeller_memory_31 ?_
        exact W.iret hx hb hr (fun t ht hW => ⟨⟨_, _, rfl, rt_pr hm, rt_end rtC_Xo hK hP hS hX ht hW⟩, hS.F ht⟩) hS.2.2 d_RangeTeller_memory_32
      · have hm := (if_neg hc).symm.trans hm
        refine lv_bipush (v := (-3)) hx hb d_RangeTeller_memory_20 (by decide) ?_
        exact W.iret hx hb hr (fun t ht hW => ⟨⟨_, _, rfl, rt_pr hm, rt_end rtC_Xo hK hP hS hX ht hW⟩, hS.F ht⟩) hS.2.2 d_RangeTeller_memory_22
set_option maxHeartbeats 4000000 in
set_option maxRecDepth 100000 in
theorem k_C_RangeTeller_isInstruction (l : Launch) (D : va_G) (cI cZ : ClassId) (A : Nat → Nat) (hO : rt_Ok (rtC_W cI cZ A)) (σ : rt_St) (a1 : Int32) (r' : Int32) (σ' : rt_St) (hm : M_C_RangeTeller_isInstruction σ a1 = some (r', σ')) (sz : Nat) : Met l y_RangeTeller_isInstruction (rt_ws y_RangeTeller_isInstruction b_RangeTeller_isInstruction 2 (some .boolean)) ({ frames := 0, cells := 0, slots := 0, locals := 0 } : Room) (va_Pc [.ref (A 0), .int a1] (rt_P D rt_cl (rt_t cI cZ) rtC_X (rtC_W cI cZ A) sz σ)) (va_Qi (fun r1 u1 => r1 = r' ∧ u1 = σ') (rt_B D rt_cl (rt_t cI cZ) rtC_X (rtC_W cI cZ A)) (rt_A (rtC_W cI cZ A) sz)) 0 0 (rt_A (rtC_W cI cZ A) sz) := by
  refine Met.ofW (cc := b_RangeTeller_isInstruction) (maxL := 2) (ret := (some .boolean)) (by decide) rfl ?_
  intro p e s m args below meth c s₁ B hml hv
  obtain ⟨rfl, rfl, hP, hK, hX⟩ := hv
  have hx := B.exec
  have hb := B.bytes
  have hr := B.returns
  have hts := atoms_spec (ws := (rt_ws y_RangeTeller_isInstruction b_RangeTeller_isInstruction 2 (some .boolean))) B.pre
  have hown : s.vm.findClass "RangeTeller" = some m.cls := findClass_of_methodNamed B.named
  have hlocks := B.notSynchronized
  have hD := rt_hD hO s.heap.size
  have hS : va_S (rt_A (rtC_W cI cZ A) s.heap.size) s.heap s.heap [] := va_S.rf
  have hl := lv_entry ([.ref (A 0), .int a1]) (n := 2) (Nat.le_of_ble_eq_true rfl)
  rw [lg_entry_eq]
  generalize (lg_sl ([.ref (A 0), .int a1]) ++ List.replicate (2 - (lg_sl ([.ref (A 0), .int a1])).length) Slot.unset).toArray = ls at hl ⊢
  have hl : lv_has ls 2 [(0, .ref (A 0)), (1, .int a1)] := hl
  show W p l e ({ frames := 0, cells := 0, slots := 0, locals := 0 } : Room) s m ([.ref (A 0), .int a1] : List Value).toArray below meth c s.heap [] 0 0 (rt_Qi D rt_cl (rt_t cI cZ) rtC_X (rtC_W cI cZ A) below ([.ref (A 0), .int a1] : List Value).toArray s r' σ') (F0 m 0 ls [])
  unfold M_C_RangeTeller_isInstruction at hm
  refine lv_aload_n hx hb d_RangeTeller_isInstruction_0 rfl (lv_at hl 0 rfl) ?_
  refine va_get (D := D) (v := .int (σ 0 5)) (C := "RangeTeller") (T := rt_T0) (N := 7) hx hb hts rt_i0 hown hK hP 0 rfl rfl 5 (by decide) (hts _ (rt_m rt_w383)) (fun _ h9 => h9) rfl d_RangeTeller_isInstruction_1 ?_
  refine lv_if_eq (tgt := 26) hx hb d_RangeTeller_isInstruction_4 (by decide) (fun hc => ?_) (fun hc => ?_)
  · have hm := (if_pos hc).symm.trans hm
    refine lv_iconst (v := 0) hx hb d_RangeTeller_isInstruction_26 (by decide) ?_
    exact W.zret hx hb hr rfl (fun t ht hW => ⟨⟨_, _, rfl, rt_pr hm, rt_end rtC_Xo hK hP hS hX ht hW⟩, hS.F ht⟩) hS.2.2 d_RangeTeller_isInstruction_27
  · have hm := (if_neg hc).symm.trans hm
    refine lv_iload_n hx hb d_RangeTeller_isInstruction_7 rfl (lv_at hl 1 rfl) ?_
    refine lv_if_lt (tgt := 26) hx hb d_RangeTeller_isInstruction_8 (by decide) (fun hc => ?_) (fun hc => ?_)
    · have hm := (if_pos hc).symm.trans hm
      refine lv_iconst (v := 0) hx hb d_RangeTeller_isInstruction_26 (by decide) ?_
      exact W.zret hx hb hr rfl (fun t ht hW => ⟨⟨_, _, rfl, rt_pr hm, rt_end rtC_Xo hK hP hS hX ht hW⟩, hS.F ht⟩) hS.2.2 d_RangeTeller_isInstruction_27
    · have hm := (if_neg hc).symm.trans hm
      refine lv_iload_n hx hb d_RangeTeller_isInstruction_11 rfl (lv_at hl 1 rfl) ?_
      refine lv_aload_n hx hb d_RangeTeller_isInstruction_12 rfl (lv_at hl 0 rfl) ?_
      refine va_get (D := D) (v := .ref (A 1)) (C := "RangeTeller") (T := rt_T0) (N := 7) hx hb hts rt_i0 hown hK hP 0 rfl rfl 0 (by decide) (hts _ (rt_m rt_w378)) (fun _ h9 => h9) rfl d_RangeTeller_isInstruction_13 ?_
      refine va_get (D := D) (v := .int (σ 1 12)) (C := "RangeTeller$Program") (T := rt_T1) (N := 14) hx hb hts rt_i1 hown hK hP 1 rfl rfl 12 (by decide) (hts _ (rt_m rt_w167)) (fun _ h9 => h9) rfl d_RangeTeller_isInstruction_16 ?_
      refine lv_icmp_ge (tgt := 26) hx hb d_RangeTeller_isInstruction_19 (by decide) (fun hc => ?_) (fun hc => ?_)
      · have hm := (if_pos hc).symm.trans hm
        refine lv_iconst (v := 0) hx hb d_RangeTeller_isInstruction_26 (by decide) ?_
        exact W.zret hx hb hr rfl (fun t ht hW => ⟨⟨_, _, rfl, rt_pr hm, rt_end rtC_Xo hK hP hS hX ht hW⟩, hS.F ht⟩) hS.2.2 d_RangeTeller_isInstruction_27
      · have hm := (if_neg hc).symm.trans hm
        refine lv_iconst (v := 1) hx hb d_RangeTeller_isInstruction_22 (by decide) ?_
        refine lv_goto (tgt := 27) hx hb d_RangeTeller_isInstruction_23 (by decide) ?_
        exact W.zret hx hb hr rfl (fun t ht hW => ⟨⟨_, _, rfl, rt_pr hm, rt_end rtC_Xo hK hP hS hX ht hW⟩, hS.F ht⟩) hS.2.2 d_RangeTeller_isInstruction_27
set_option maxHeartbeats 4000000 in
set_option maxRecDepth 100000 in
theorem k_C_Foreteller_operandAt (l : Launch) (D : va_G) (cI cZ : ClassId) (A : Nat → Nat) (hO : rt_Ok (rtC_W cI cZ A)) (σ : rt_St) (a1 a2 : Int32) (r' : Int32) (σ' : rt_St) (hm : M_C_Foreteller_operandAt σ a1 a2 = some (r', σ')) (sz : Nat) : Met l y_Foreteller_operandAt (rt_ws y_Foreteller_operandAt b_Foreteller_operandAt 3 (some .int)) ({ frames := 0, cells := 0, slots := 0, locals := 0 } : Room) (va_Pc [.ref (A 29), .int a1, .int a2] (rt_P D rt_cl (rt_t cI cZ) rtC_X (rtC_W cI cZ A) sz σ)) (va_Qi (fun r1 u1 => r1 = r' ∧ u1 = σ') (rt_B D rt_cl (rt_t cI cZ) rtC_X (rtC_W cI cZ A)) (rt_A (rtC_W cI cZ A) sz)) 0 0 (rt_A (rtC_W cI cZ A) sz) := by
  refine Met.ofW (cc := b_Foreteller_operandAt) (maxL := 3) (ret := (some .int)) (by decide) rfl ?_
  intro p e s m args below meth c s₁ B hml hv
  obtain ⟨rfl, rfl, hP, hK, hX⟩ := hv
  have hx := B.exec
  have hb := B.bytes
  have hr := B.returns
  have hts := atoms_spec (ws := (rt_ws y_Foreteller_operandAt b_Foreteller_operandAt 3 (some .int))) B.pre
  have hown : s.vm.findClass "RangeTeller$Foreteller" = some m.cls := findClass_of_methodNamed B.named
  have hlocks := B.notSynchronized
  have hD := rt_hD hO s.heap.size
  have hS : va_S (rt_A (rtC_W cI cZ A) s.heap.size) s.heap s.heap [] := va_S.rf
  have hl := lv_entry ([.ref (A 29), .int a1, .int a2]) (n := 3) (Nat.le_of_ble_eq_true rfl)
  rw [lg_entry_eq]
  generalize (lg_sl ([.ref (A 29), .int a1, .int a2]) ++ List.replicate (3 - (lg_sl ([.ref (A 29), .int a1, .int a2])).length) Slot.unset).toArray = ls at hl ⊢
  have hl : lv_has ls 3 [(0, .ref (A 29)), (1, .int a1), (2, .int a2)] := hl
  show W p l e ({ frames := 0, cells := 0, slots := 0, locals := 0 } : Room) s m ([.ref (A 29), .int a1, .int a2] : List Value).toArray below meth c s.heap [] 0 0 (rt_Qi D rt_cl (rt_t cI cZ) rtC_X (rtC_W cI cZ A) below ([.ref (A 29), .int a1, .int a2] : List Value).toArray s r' σ') (F0 m 0 ls [])
  unfold M_C_Foreteller_operandAt at hm
  refine lv_aload_n hx hb d_Foreteller_operandAt_0 rfl (lv_at hl 0 rfl) ?_
  refine va_get (D := D) (v := .ref (A 30)) (C := "RangeTeller$Foreteller") (T := rt_T5) (N := 13) hx hb hts rt_i5 hown hK hP 29 rfl rfl 1 (by decide) (hts _ (rt_m rt_w334)) (fun _ h9 => h9) rfl d_Foreteller_operandAt_1 ?_
  refine lv_iload_n hx hb d_Foreteller_operandAt_4 rfl (lv_at hl 1 rfl) ?_
  obtain ⟨v1, h2, hm⟩ := rt_b1s hm
  refine rt_zld hx hb hK hP 30 1 rfl rfl h2 d_Foreteller_operandAt_5 ?_
  refine lv_if_eq (tgt := 23) hx hb d_Foreteller_operandAt_6 (by decide) (fun hc => ?_) (fun hc => ?_)
  · have hm := (if_pos hc).symm.trans hm
    refine lv_bipush (v := (-3)) hx hb d_Foreteller_operandAt_23 (by decide) ?_
    exact W.iret hx hb hr (fun t ht hW => ⟨⟨_, _, rfl, rt_pr hm, rt_end rtC_Xo hK hP hS hX ht hW⟩, hS.F ht⟩) hS.2.2 d_Foreteller_operandAt_25
  · have hm := (if_neg hc).symm.trans hm
    refine lv_iload_n hx hb d_Foreteller_operandAt_9 rfl (lv_at hl 2 rfl) ?_
    refine lv_if_lt (tgt := 23) hx hb d_Foreteller_operandAt_10 (by decide) (fun hc => ?_) (fun hc => ?_)
    · have hm := (if_pos hc).symm.trans hm
      refine lv_bipush (v := (-3)) hx hb d_Foreteller_operandAt_23 (by decide) ?_
      exact W.iret hx hb hr (fun t ht hW => ⟨⟨_, _, rfl, rt_pr hm, rt_end rtC_Xo hK hP hS hX ht hW⟩, hS.F ht⟩) hS.2.2 d_Foreteller_operandAt_25
    · have hm := (if_neg hc).symm.trans hm
      refine lv_iload_n hx hb d_Foreteller_operandAt_13 rfl (lv_at hl 2 rfl) ?_
      refine lv_aload_n hx hb d_Foreteller_operandAt_14 rfl (lv_at hl 0 rfl) ?_
      refine va_get (D := D) (v := .ref (A 31)) (C := "RangeTeller$Foreteller") (T := rt_T5) (N := 13) hx hb hts rt_i5 hown hK hP 29 rfl rfl 2 (by decide) (hts _ (rt_m rt_w336)) (fun _ h9 => h9) rfl d_Foreteller_operandAt_15 ?_
      refine lv_iload_n hx hb d_Foreteller_operandAt_18 rfl (lv_at hl 1 rfl) ?_
      obtain ⟨v3, h4, hm⟩ := rt_b1s hm
      refine rt_ald hx hb hK hP 31 0 rfl rfl h4 d_Foreteller_operandAt_19 ?_
      refine lv_icmp_lt (tgt := 26) hx hb d_Foreteller_operandAt_20 (by decide) (fun hc => ?_) (fun hc => ?_)
      · have hm := (if_pos hc).symm.trans hm
        refine lv_aload_n hx hb d_Foreteller_operandAt_26 rfl (lv_at hl 0 rfl) ?_
        refine va_get (D := D) (v := .ref (A 36)) (C := "RangeTeller$Foreteller") (T := rt_T5) (N := 13) hx hb hts rt_i5 hown hK hP 29 rfl rfl 7 (by decide) (hts _ (rt_m rt_w345)) (fun _ h9 => h9) rfl d_Foreteller_operandAt_27 ?_
        refine lv_iload_n hx hb d_Foreteller_operandAt_30 rfl (lv_at hl 1 rfl) ?_
        refine lv_bipush (v := 10) hx hb d_Foreteller_operandAt_31 (by decide) ?_
        refine lv_imul hx hb d_Foreteller_operandAt_33 ?_
        refine lv_aload_n hx hb d_Foreteller_operandAt_34 rfl (lv_at hl 0 rfl) ?_
        refine va_get (D := D) (v := .ref (A 31)) (C := "RangeTeller$Foreteller") (T := rt_T5) (N := 13) hx hb hts rt_i5 hown hK hP 29 rfl rfl 2 (by decide) (hts _ (rt_m rt_w336)) (fun _ h9 => h9) rfl d_Foreteller_operandAt_35 ?_
        refine lv_iload_n hx hb d_Foreteller_operandAt_38 rfl (lv_at hl 1 rfl) ?_
        obtain ⟨v5, h6, hm⟩ := rt_b1s hm
        refine rt_ald hx hb hK hP 31 0 rfl rfl h6 d_Foreteller_operandAt_39 ?_
        refine lv_iadd hx hb d_Foreteller_operandAt_40 ?_
        refine lv_iconst (v := 1) hx hb d_Foreteller_operandAt_41 (by decide) ?_
        refine lv_isub hx hb d_Foreteller_operandAt_42 ?_
        refine lv_iload_n hx hb d_Foreteller_operandAt_43 rfl (lv_at hl 2 rfl) ?_
        refine lv_isub hx hb d_Foreteller_operandAt_44 ?_
        obtain ⟨v7, h8, hm⟩ := rt_b1s hm
        refine rt_ald hx hb hK hP 36 0 rfl rfl h8 d_Foreteller_operandAt_45 ?_
        exact W.iret hx hb hr (fun t ht hW => ⟨⟨_, _, rfl, rt_pr hm, rt_end rtC_Xo hK hP hS hX ht hW⟩, hS.F ht⟩) hS.2.2 d_Foreteller_operandAt_46
      · have hm := (if_neg hc).symm.trans hm
        refine lv_bipush (v := (-3)) hx hb d_Foreteller_operandAt_23 (by decide) ?_
        exact W.iret hx hb hr (fun t ht hW => ⟨⟨_, _, rfl, rt_pr hm, rt_end rtC_Xo hK hP hS hX ht hW⟩, hS.F ht⟩) hS.2.2 d_Foreteller_operandAt_25
set_option maxHeartbeats 4000000 in
set_option maxRecDepth 100000 in
theorem k_C_Foreteller_canMiss (l : Launch) (a0 a1 : Int32) (r' : Int32) (hm : M_C_Foreteller_canMiss a0 a1 = some r') : rt_MS l y_Foreteller_canMiss b_Foreteller_canMiss 2 (some .boolean) ({ frames := 1, cells := 0, slots := 0, locals := 20 } : Room) rt_X0 [.int a0, .int a1] r' := by
  intro sz
  refine Met.ofW (cc := b_Foreteller_canMiss) (maxL := 2) (ret := (some .boolean)) (by decide) rfl ?_
  intro p e s m args below meth c s₁ B hml hv
  obtain ⟨rfl, rfl, hX⟩ := hv
  have hx := B.exec
  have hb := B.bytes
  have hr := B.returns
  have hts := atoms_spec (ws := (rt_ws y_Foreteller_canMiss b_Foreteller_canMiss 2 (some .boolean))) B.pre
  have hown : s.vm.findClass "RangeTeller$Foreteller" = some m.cls := findClass_of_methodNamed B.named
  have hlocks := B.notSynchronized
  have hS : va_S (fun q => s.heap.size ≤ q) s.heap s.heap [] := va_S.rf
  have hl := lv_entry ([.int a0, .int a1]) (n := 2) (Nat.le_of_ble_eq_true rfl)
  rw [lg_entry_eq]
  generalize (lg_sl ([.int a0, .int a1]) ++ List.replicate (2 - (lg_sl ([.int a0, .int a1])).length) Slot.unset).toArray = ls at hl ⊢
  have hl : lv_has ls 2 [(0, .int a0), (1, .int a1)] := hl
  show W p l e ({ frames := 1, cells := 0, slots := 0, locals := 20 } : Room) s m ([.int a0, .int a1] : List Value).toArray below meth c s.heap [] 0 0 (rt_Qs below ([.int a0, .int a1] : List Value).toArray s r') (F0 m 0 ls [])
  unfold M_C_Foreteller_canMiss at hm
  refine lv_iload_n hx hb d_Foreteller_canMiss_0 rfl (lv_at hl 0 rfl) ?_
  obtain ⟨v2, h1, hm⟩ := rt_b1s hm
  refine rt_csi (As := [.int a0]) (rest := []) rt_X0o ⟨hx, hb, hml, hown, hts⟩ (k_C_Ranges_greatest l a0 _ h1) (cw_Ranges_greatest hts (hts _ (rt_m rt_w640)) ⟨Nat.le_of_ble_eq_true rfl, Nat.le_of_ble_eq_true rfl⟩) hS (fun _ h => h) trivial rfl hl.1 rfl (Nat.le_of_ble_eq_true rfl) d_Foreteller_canMiss_1 ⟨Nat.zero_le _, Nat.zero_le _⟩ (fun H locs hk hS => ?_)
  clear hk
  refine lv_iload_n hx hb d_Foreteller_canMiss_4 rfl (lv_at hl 1 rfl) ?_
  refine lv_iadd hx hb d_Foreteller_canMiss_5 ?_
  refine lv_bipush (v := 16) hx hb d_Foreteller_canMiss_6 (by decide) ?_
  refine lv_icmp_lt (tgt := 15) hx hb d_Foreteller_canMiss_8 (by decide) (fun hc => ?_) (fun hc => ?_)
  · have hm := (if_pos hc).symm.trans hm
    refine lv_iconst (v := 0) hx hb d_Foreteller_canMiss_15 (by decide) ?_
    exact W.zret hx hb hr rfl (fun t ht hW => ⟨⟨_, (), rfl, Option.some.inj hm, trivial⟩, hS.F ht⟩) hS.2.2 d_Foreteller_canMiss_16
  · have hm := (if_neg hc).symm.trans hm
    refine lv_iconst (v := 1) hx hb d_Foreteller_canMiss_11 (by decide) ?_
    refine lv_goto (tgt := 16) hx hb d_Foreteller_canMiss_12 (by decide) ?_
    exact W.zret hx hb hr rfl (fun t ht hW => ⟨⟨_, (), rfl, Option.some.inj hm, trivial⟩, hS.F ht⟩) hS.2.2 d_Foreteller_canMiss_16
set_option maxHeartbeats 4000000 in
set_option maxRecDepth 100000 in
theorem k_C_Foreteller_flagsAt (l : Launch) (D : va_G) (cI cZ : ClassId) (A : Nat → Nat) (hO : rt_Ok (rtC_W cI cZ A)) (σ : rt_St) (a1 : Int32) (r' : Int32) (σ' : rt_St) (hm : M_C_Foreteller_flagsAt σ a1 = some (r', σ')) (sz : Nat) : Met l y_Foreteller_flagsAt (rt_ws y_Foreteller_flagsAt b_Foreteller_flagsAt 2 (some .int)) ({ frames := 2, cells := 0, slots := 0, locals := 41 } : Room) (va_Pc [.ref (A 29), .int a1] (rt_P D rt_cl (rt_t cI cZ) rtC_X (rtC_W cI cZ A) sz σ)) (va_Qi (fun r1 u1 => r1 = r' ∧ u1 = σ') (rt_B D rt_cl (rt_t cI cZ) rtC_X (rtC_W cI cZ A)) (rt_A (rtC_W cI cZ A) sz)) 0 0 (rt_A (rtC_W cI cZ A) sz) := by
  refine Met.ofW (cc := b_Foreteller_flagsAt) (maxL := 2) (ret := (some .int)) (by decide) rfl ?_
  intro p e s m args below meth c s₁ B hml hv
  obtain ⟨rfl, rfl, hP, hK, hX⟩ := hv
  have hx := B.exec
  have hb := B.bytes
  have hr := B.returns
  have hts := atoms_spec (ws := (rt_ws y_Foreteller_flagsAt b_Foreteller_flagsAt 2 (some .int))) B.pre
  have hown : s.vm.findClass "RangeTeller$Foreteller" = some m.cls := findClass_of_methodNamed B.named
  have hlocks := B.notSynchronized
  have hD := rt_hD hO s.heap.size
  have hS : va_S (rt_A (rtC_W cI cZ A) s.heap.size) s.heap s.heap [] := va_S.rf
  have hl := lv_entry ([.ref (A 29), .int a1]) (n := 2) (Nat.le_of_ble_eq_true rfl)
  rw [lg_entry_eq]
  generalize (lg_sl ([.ref (A 29), .int a1]) ++ List.replicate (2 - (lg_sl ([.ref (A 29), .int a1])).length) Slot.unset).toArray = ls at hl ⊢
  have hl : lv_has ls 2 [(0, .ref (A 29)), (1, .int a1)] := hl
  show W p l e ({ frames := 2, cells := 0, slots := 0, locals := 41 } : Room) s m ([.ref (A 29), .int a1] : List Value).toArray below meth c s.heap [] 0 0 (rt_Qi D rt_cl (rt_t cI cZ) rtC_X (rtC_W cI cZ A) below ([.ref (A 29), .int a1] : List Value).toArray s r' σ') (F0 m 0 ls [])
  unfold M_C_Foreteller_flagsAt at hm
  refine lv_aload_n hx hb d_Foreteller_flagsAt_0 rfl (lv_at hl 0 rfl) ?_
  refine va_get (D := D) (v := .ref (A 30)) (C := "RangeTeller$Foreteller") (T := rt_T5) (N := 13) hx hb hts rt_i5 hown hK hP 29 rfl rfl 1 (by decide) (hts _ (rt_m rt_w334)) (fun _ h9 => h9) rfl d_Foreteller_flagsAt_1 ?_
  refine lv_iload_n hx hb d_Foreteller_flagsAt_4 rfl (lv_at hl 1 rfl) ?_
  obtain ⟨v1, h2, hm⟩ := rt_b1s hm
  refine rt_zld hx hb hK hP 30 1 rfl rfl h2 d_Foreteller_flagsAt_5 ?_
  refine lv_if_ne (tgt := 11) hx hb d_Foreteller_flagsAt_6 (by decide) (fun hc => ?_) (fun hc => ?_)
  · have hm := (if_neg hc).symm.trans hm
    refine lv_aload_n hx hb d_Foreteller_flagsAt_11 rfl (lv_at hl 0 rfl) ?_
    refine va_get (D := D) (v := .ref (A 1)) (C := "RangeTeller$Foreteller") (T := rt_T5) (N := 13) hx hb hts rt_i5 hown hK hP 29 rfl rfl 0 (by decide) (hts _ (rt_m rt_w333)) (fun _ h9 => h9) rfl d_Foreteller_flagsAt_12 ?_
    refine va_get (D := D) (v := .ref (A 2)) (C := "RangeTeller$Program") (T := rt_T1) (N := 14) hx hb hts rt_i1 hown hK hP 1 rfl rfl 0 (by decide) (hts _ (rt_m rt_w121)) (fun _ h9 => h9) rfl d_Foreteller_flagsAt_15 ?_
    refine lv_iload_n hx hb d_Foreteller_flagsAt_18 rfl (lv_at hl 1 rfl) ?_
    obtain ⟨v3, h4, hm⟩ := rt_b1s hm
    refine rt_ald hx hb hK hP 2 0 rfl rfl h4 d_Foreteller_flagsAt_19 ?_
    by_cases c5 : v3 = 0
    · have hm := (if_pos c5).symm.trans hm
      refine lv_lookup (off := 60) (tgt := 80) hx hb d_Foreteller_flagsAt_20 (by decide) (by rw [c5]; rfl) (by decide) ?_
      refine lv_iconst (v := 1) hx hb d_Foreteller_flagsAt_80 (by decide) ?_
      exact W.iret hx hb hr (fun t ht hW => ⟨⟨_, _, rfl, rt_pr hm, rt_end rtC_Xo hK hP hS hX ht hW⟩, hS.F ht⟩) hS.2.2 d_Foreteller_flagsAt_81
    have hm := (if_neg c5).symm.trans hm
    by_cases c6 : v3 = 15
    · have hm := (if_pos c6).symm.trans hm
      refine lv_lookup (off := 62) (tgt := 82) hx hb d_Foreteller_flagsAt_20 (by decide) (Eq.trans (lv_osw (a := 0) c5 rfl) (by rw [c6]; rfl)) (by decide) ?_
      refine lv_aload_n hx hb d_Foreteller_flagsAt_82 rfl (lv_at hl 0 rfl) ?_
      refine lv_iload_n hx hb d_Foreteller_flagsAt_83 rfl (lv_at hl 1 rfl) ?_
      refine lv_iconst (v := 0) hx hb d_Foreteller_flagsAt_84 (by decide) ?_
      obtain ⟨v9, σ8, h7, hm⟩ := rt_b2s hm
      refine rt_cvi (As := [.int a1, .int 0]) (rest := []) (k := 29) rtC_Xo ⟨hx, hb, hml, hown, hts⟩ (k_C_Foreteller_operandAt l D cI cZ A hO σ a1 0 _ _ h7) (cw_Foreteller_operandAt hts (hts _ (rt_m rt_w813)) ⟨Nat.le_of_ble_eq_true rfl, Nat.le_of_ble_eq_true rfl⟩) hK hP hS hX rfl rfl rfl hl.1 rfl (Nat.le_of_ble_eq_true rfl) d_Foreteller_flagsAt_85 ⟨Nat.zero_le _, Nat.zero_le _⟩ (fun H locs hP hS => ?_)
      refine lv_aload_n hx hb d_Foreteller_flagsAt_88 rfl (lv_at hl 0 rfl) ?_
      refine va_get (D := D) (v := .ref (A 1)) (C := "RangeTeller$Foreteller") (T := rt_T5) (N := 13) hx hb hts rt_i5 hown hK hP 29 rfl rfl 0 (by decide) (hts _ (rt_m rt_w333)) (fun _ h9 => h9) rfl d_Foreteller_flagsAt_89 ?_
      refine va_get (D := D) (v := .ref (A 3)) (C := "RangeTeller$Program") (T := rt_T1) (N := 14) hx hb hts rt_i1 hown hK hP 1 rfl rfl 1 (by decide) (hts _ (rt_m rt_w127)) (fun _ h9 => h9) rfl d_Foreteller_flagsAt_92 ?_
      refine lv_iload_n hx hb d_Foreteller_flagsAt_95 rfl (lv_at hl 1 rfl) ?_
      obtain ⟨v10, h11, hm⟩ := rt_b1s hm
      refine rt_ald hx hb hK hP 3 0 rfl rfl h11 d_Foreteller_flagsAt_96 ?_
      obtain ⟨v13, h12, hm⟩ := rt_b1s hm
      refine rt_csi (As := [.int v9, .int v10]) (rest := []) rt_X0o ⟨hx, hb, hml, hown, hts⟩ (k_C_Foreteller_canMiss l v9 v10 _ h12) (cw_Foreteller_canMiss hts (hts _ (rt_m rt_w817)) ⟨Nat.le_of_ble_eq_true rfl, Nat.le_of_ble_eq_true rfl⟩) hS (fun _ h => Or.inr h) trivial rfl hl.1 rfl (Nat.le_of_ble_eq_true rfl) d_Foreteller_flagsAt_97 ⟨Nat.zero_le _, Nat.zero_le _⟩ (fun H locs hk hS => ?_)
      have hP := rt_keep hP hk
      clear hk
      refine lv_if_eq (tgt := 107) hx hb d_Foreteller_flagsAt_100 (by decide) (fun hc => ?_) (fun hc => ?_)
      · have hm := (if_pos hc).symm.trans hm
        refine lv_iconst (v := 0) hx hb d_Foreteller_flagsAt_107 (by decide) ?_
        exact W.iret hx hb hr (fun t ht hW => ⟨⟨_, _, rfl, rt_pr hm, rt_end rtC_Xo hK hP hS hX ht hW⟩, hS.F ht⟩) hS.2.2 d_Foreteller_flagsAt_108
      · have hm := (if_neg hc).symm.trans hm
        refine lv_iconst (v := 2) hx hb d_Foreteller_flagsAt_103 (by decide) ?_
        refine lv_goto (tgt := 108) hx hb d_Foreteller_flagsAt_104 (by decide) ?_
        exact W.iret hx hb hr (fun t ht hW => ⟨⟨_, _, rfl, rt_pr hm, rt_end rtC_Xo hK hP hS hX ht hW⟩, hS.F ht⟩) hS.2.2 d_Foreteller_flagsAt_108
    have hm := (if_neg c6).symm.trans hm
    by_cases c14 : v3 = 16
    · have hm := (if_pos c14).symm.trans hm
      refine lv_lookup (off := 89) (tgt := 109) hx hb d_Foreteller_flagsAt_20 (by decide) (Eq.trans (lv_osw (a := 0) c5 rfl) (Eq.trans (lv_osw (a := 15) c6 rfl) (by rw [c14]; rfl))) (by decide) ?_
      refine lv_aload_n hx hb d_Foreteller_flagsAt_109 rfl (lv_at hl 0 rfl) ?_
      refine lv_iload_n hx hb d_Foreteller_flagsAt_110 rfl (lv_at hl 1 rfl) ?_
      refine lv_iconst (v := 1) hx hb d_Foreteller_flagsAt_111 (by decide) ?_
      obtain ⟨v17, σ16, h15, hm⟩ := rt_b2s hm
      refine rt_cvi (As := [.int a1, .int 1]) (rest := []) (k := 29) rtC_Xo ⟨hx, hb, hml, hown, hts⟩ (k_C_Foreteller_operandAt l D cI cZ A hO σ a1 1 _ _ h15) (cw_Foreteller_operandAt hts (hts _ (rt_m rt_w813)) ⟨Nat.le_of_ble_eq_true rfl, Nat.le_of_ble_eq_true rfl⟩) hK hP hS hX rfl rfl rfl hl.1 rfl (Nat.le_of_ble_eq_true rfl) d_Foreteller_flagsAt_112 ⟨Nat.zero_le _, Nat.zero_le _⟩ (fun H locs hP hS => ?_)
      refine lv_aload_n hx hb d_Foreteller_flagsAt_115 rfl (lv_at hl 0 rfl) ?_
      refine va_get (D := D) (v := .ref (A 1)) (C := "RangeTeller$Foreteller") (T := rt_T5) (N := 13) hx hb hts rt_i5 hown hK hP 29 rfl rfl 0 (by decide) (hts _ (rt_m rt_w333)) (fun _ h9 => h9) rfl d_Foreteller_flagsAt_116 ?_
      refine va_get (D := D) (v := .ref (A 3)) (C := "RangeTeller$Program") (T := rt_T1) (N := 14) hx hb hts rt_i1 hown hK hP 1 rfl rfl 1 (by decide) (hts _ (rt_m rt_w127)) (fun _ h9 => h9) rfl d_Foreteller_flagsAt_119 ?_
      refine lv_iload_n hx hb d_Foreteller_flagsAt_122 rfl (lv_at hl 1 rfl) ?_
      obtain ⟨v18, h19, hm⟩ := rt_b1s hm
      refine rt_ald hx hb hK hP 3 0 rfl rfl h19 d_Foreteller_flagsAt_123 ?_
      obtain ⟨v21, h20, hm⟩ := rt_b1s hm
      refine rt_csi (As := [.int v17, .int v18]) (rest := []) rt_X0o ⟨hx, hb, hml, hown, hts⟩ (k_C_Foreteller_canMiss l v17 v18 _ h20) (cw_Foreteller_canMiss hts (hts _ (rt_m rt_w817)) ⟨Nat.le_of_ble_eq_true rfl, Nat.le_of_ble_eq_true rfl⟩) hS (fun _ h => Or.inr h) trivial rfl hl.1 rfl (Nat.le_of_ble_eq_true rfl) d_Foreteller_flagsAt_124 ⟨Nat.zero_le _, Nat.zero_le _⟩ (fun H locs hk hS => ?_)
      have hP := rt_keep hP hk
      clear hk
      refine lv_if_eq (tgt := 134) hx hb d_Foreteller_flagsAt_127 (by decide) (fun hc => ?_) (fun hc => ?_)
      · have hm := (if_pos hc).symm.trans hm
        refine lv_iconst (v := 0) hx hb d_Foreteller_flagsAt_134 (by decide) ?_
        exact W.iret hx hb hr (fun t ht hW => ⟨⟨_, _, rfl, rt_pr hm, rt_end rtC_Xo hK hP hS hX ht hW⟩, hS.F ht⟩) hS.2.2 d_Foreteller_flagsAt_135
      · have hm := (if_neg hc).symm.trans hm
        refine lv_iconst (v := 2) hx hb d_Foreteller_flagsAt_130 (by decide) ?_
        refine lv_goto (tgt := 135) hx hb d_Foreteller_flagsAt_131 (by decide) ?_
        exact W.iret hx hb hr (fun t ht hW => ⟨⟨_, _, rfl, rt_pr hm, rt_end rtC_Xo hK hP hS hX ht hW⟩, hS.F ht⟩) hS.2.2 d_Foreteller_flagsAt_135
    have hm := (if_neg c14).symm.trans hm
    by_cases c22 : v3 = 24
    · have hm := (if_pos c22).symm.trans hm
      refine lv_lookup (off := 116) (tgt := 136) hx hb d_Foreteller_flagsAt_20 (by decide) (Eq.trans (lv_osw (a := 0) c5 rfl) (Eq.trans (lv_osw (a := 15) c6 rfl) (Eq.trans (lv_osw (a := 16) c14 rfl) (by rw [c22]; rfl)))) (by decide) ?_
      refine lv_aload_n hx hb d_Foreteller_flagsAt_136 rfl (lv_at hl 0 rfl) ?_
      refine lv_iload_n hx hb d_Foreteller_flagsAt_137 rfl (lv_at hl 1 rfl) ?_
      refine lv_iconst (v := 0) hx hb d_Foreteller_flagsAt_138 (by decide) ?_
      obtain ⟨v25, σ24, h23, hm⟩ := rt_b2s hm
      refine rt_cvi (As := [.int a1, .int 0]) (rest := []) (k := 29) rtC_Xo ⟨hx, hb, hml, hown, hts⟩ (k_C_Foreteller_operandAt l D cI cZ A hO σ a1 0 _ _ h23) (cw_Foreteller_operandAt hts (hts _ (rt_m rt_w813)) ⟨Nat.le_of_ble_eq_true rfl, Nat.le_of_ble_eq_true rfl⟩) hK hP hS hX rfl rfl rfl hl.1 rfl (Nat.le_of_ble_eq_true rfl) d_Foreteller_flagsAt_139 ⟨Nat.zero_le _, Nat.zero_le _⟩ (fun H locs hP hS => ?_)
      obtain ⟨v27, h26, hm⟩ := rt_b1s hm
      refine rt_csi (As := [.int v25]) (rest := []) rt_X0o ⟨hx, hb, hml, hown, hts⟩ (k_C_Ranges_canBeZero l v25 _ h26) (cw_Ranges_canBeZero hts (hts _ (rt_m rt_w587)) ⟨Nat.le_of_ble_eq_true rfl, Nat.le_of_ble_eq_true rfl⟩) hS (fun _ h => Or.inr h) trivial rfl hl.1 rfl (Nat.le_of_ble_eq_true rfl) d_Foreteller_flagsAt_142 ⟨Nat.zero_le _, Nat.zero_le _⟩ (fun H locs hk hS => ?_)
      have hP := rt_keep hP hk
      clear hk
      refine lv_if_eq (tgt := 152) hx hb d_Foreteller_flagsAt_145 (by decide) (fun hc => ?_) (fun hc => ?_)
      · have hm := (if_pos hc).symm.trans hm
        refine lv_iconst (v := 0) hx hb d_Foreteller_flagsAt_152 (by decide) ?_
        exact W.iret hx hb hr (fun t ht hW => ⟨⟨_, _, rfl, rt_pr hm, rt_end rtC_Xo hK hP hS hX ht hW⟩, hS.F ht⟩) hS.2.2 d_Foreteller_flagsAt_153
      · have hm := (if_neg hc).symm.trans hm
        refine lv_iconst (v := 4) hx hb d_Foreteller_flagsAt_148 (by decide) ?_
        refine lv_goto (tgt := 153) hx hb d_Foreteller_flagsAt_149 (by decide) ?_
        exact W.iret hx hb hr (fun t ht hW => ⟨⟨_, _, rfl, rt_pr hm, rt_end rtC_Xo hK hP hS hX ht hW⟩, hS.F ht⟩) hS.2.2 d_Foreteller_flagsAt_153
    have hm := (if_neg c22).symm.trans hm
    by_cases c28 : v3 = 25
    · have hm := (if_pos c28).symm.trans hm
      refine lv_lookup (off := 116) (tgt := 136) hx hb d_Foreteller_flagsAt_20 (by decide) (Eq.trans (lv_osw (a := 0) c5 rfl) (Eq.trans (lv_osw (a := 15) c6 rfl) (Eq.trans (lv_osw (a := 16) c14 rfl) (Eq.trans (lv_osw (a := 24) c22 rfl) (by rw [c28]; rfl))))) (by decide) ?_
      refine lv_aload_n hx hb d_Foreteller_flagsAt_136 rfl (lv_at hl 0 rfl) ?_
      refine lv_iload_n hx hb d_Foreteller_flagsAt_137 rfl (lv_at hl 1 rfl) ?_
      refine lv_iconst (v := 0) hx hb d_Foreteller_flagsAt_138 (by decide) ?_
      obtain ⟨v31, σ30, h29, hm⟩ := rt_b2s hm
      refine rt_cvi (As := [.int a1, .int 0]) (rest := []) (k := 29) rtC_Xo ⟨hx, hb, hml, hown, hts⟩ (k_C_Foreteller_operandAt l D cI cZ A hO σ a1 0 _ _ h29) (cw_Foreteller_operandAt hts (hts _ (rt_m rt_w813)) ⟨Nat.le_of_ble_eq_true rfl, Nat.le_of_ble_eq_true rfl⟩) hK hP hS hX rfl rfl rfl hl.1 rfl (Nat.le_of_ble_eq_true rfl) d_Foreteller_flagsAt_139 ⟨Nat.zero_le _, Nat.zero_le _⟩ (fun H locs hP hS => ?_)
      obtain ⟨v33, h32, hm⟩ := rt_b1s hm
      refine rt_csi (As := [.int v31]) (rest := []) rt_X0o ⟨hx, hb, hml, hown, hts⟩ (k_C_Ranges_canBeZero l v31 _ h32) (cw_Ranges_canBeZero hts (hts _ (rt_m rt_w587)) ⟨Nat.le_of_ble_eq_true rfl, Nat.le_of_ble_eq_true rfl⟩) hS (fun _ h => Or.inr h) trivial rfl hl.1 rfl (Nat.le_of_ble_eq_true rfl) d_Foreteller_flagsAt_142 ⟨Nat.zero_le _, Nat.zero_le _⟩ (fun H locs hk hS => ?_)
      have hP := rt_keep hP hk
      clear hk
      refine lv_if_eq (tgt := 152) hx hb d_Foreteller_flagsAt_145 (by decide) (fun hc => ?_) (fun hc => ?_)
      · have hm := (if_pos hc).symm.trans hm
        refine lv_iconst (v := 0) hx hb d_Foreteller_flagsAt_152 (by decide) ?_
        exact W.iret hx hb hr (fun t ht hW => ⟨⟨_, _, rfl, rt_pr hm, rt_end rtC_Xo hK hP hS hX ht hW⟩, hS.F ht⟩) hS.2.2 d_Foreteller_flagsAt_153
      · have hm := (if_neg hc).symm.trans hm
        refine lv_iconst (v := 4) hx hb d_Foreteller_flagsAt_148 (by decide) ?_
        refine lv_goto (tgt := 153) hx hb d_Foreteller_flagsAt_149 (by decide) ?_
        exact W.iret hx hb hr (fun t ht hW => ⟨⟨_, _, rfl, rt_pr hm, rt_end rtC_Xo hK hP hS hX ht hW⟩, hS.F ht⟩) hS.2.2 d_Foreteller_flagsAt_153
    have hm := (if_neg c28).symm.trans hm
    by_cases c34 : v3 = 28
    · have hm := (if_pos c34).symm.trans hm
      refine lv_lookup (off := 134) (tgt := 154) hx hb d_Foreteller_flagsAt_20 (by decide) (Eq.trans (lv_osw (a := 0) c5 rfl) (Eq.trans (lv_osw (a := 15) c6 rfl) (Eq.trans (lv_osw (a := 16) c14 rfl) (Eq.trans (lv_osw (a := 24) c22 rfl) (Eq.trans (lv_osw (a := 25) c28 rfl) (by rw [c34]; rfl)))))) (by decide) ?_
      refine lv_aload_n hx hb d_Foreteller_flagsAt_154 rfl (lv_at hl 0 rfl) ?_
      refine lv_iload_n hx hb d_Foreteller_flagsAt_155 rfl (lv_at hl 1 rfl) ?_
      refine lv_iconst (v := 0) hx hb d_Foreteller_flagsAt_156 (by decide) ?_
      obtain ⟨v37, σ36, h35, hm⟩ := rt_b2s hm
      refine rt_cvi (As := [.int a1, .int 0]) (rest := []) (k := 29) rtC_Xo ⟨hx, hb, hml, hown, hts⟩ (k_C_Foreteller_operandAt l D cI cZ A hO σ a1 0 _ _ h35) (cw_Foreteller_operandAt hts (hts _ (rt_m rt_w813)) ⟨Nat.le_of_ble_eq_true rfl, Nat.le_of_ble_eq_true rfl⟩) hK hP hS hX rfl rfl rfl hl.1 rfl (Nat.le_of_ble_eq_true rfl) d_Foreteller_flagsAt_157 ⟨Nat.zero_le _, Nat.zero_le _⟩ (fun H locs hP hS => ?_)
      obtain ⟨v39, h38, hm⟩ := rt_b1s hm
      refine rt_csi (As := [.int v37]) (rest := []) rt_X0o ⟨hx, hb, hml, hown, hts⟩ (k_C_Ranges_taintOf l v37 _ h38) (cw_Ranges_taintOf hts (hts _ (rt_m rt_w645)) ⟨Nat.le_of_ble_eq_true rfl, Nat.le_of_ble_eq_true rfl⟩) hS (fun _ h => Or.inr h) trivial rfl hl.1 rfl (Nat.le_of_ble_eq_true rfl) d_Foreteller_flagsAt_160 ⟨Nat.zero_le _, Nat.zero_le _⟩ (fun H locs hk hS => ?_)
      have hP := rt_keep hP hk
      clear hk
      refine lv_if_eq (tgt := 171) hx hb d_Foreteller_flagsAt_163 (by decide) (fun hc => ?_) (fun hc => ?_)
      · have hm := (if_pos hc).symm.trans hm
        refine lv_iconst (v := 0) hx hb d_Foreteller_flagsAt_171 (by decide) ?_
        exact W.iret hx hb hr (fun t ht hW => ⟨⟨_, _, rfl, rt_pr hm, rt_end rtC_Xo hK hP hS hX ht hW⟩, hS.F ht⟩) hS.2.2 d_Foreteller_flagsAt_172
      · have hm := (if_neg hc).symm.trans hm
        refine lv_bipush (v := 8) hx hb d_Foreteller_flagsAt_166 (by decide) ?_
        refine lv_goto (tgt := 172) hx hb d_Foreteller_flagsAt_168 (by decide) ?_
        exact W.iret hx hb hr (fun t ht hW => ⟨⟨_, _, rfl, rt_pr hm, rt_end rtC_Xo hK hP hS hX ht hW⟩, hS.F ht⟩) hS.2.2 d_Foreteller_flagsAt_172
    have hm := (if_neg c34).symm.trans hm
    refine lv_lookup (off := 153) (tgt := 173) hx hb d_Foreteller_flagsAt_20 (by decide) (Eq.trans (lv_osw (a := 0) c5 rfl) (Eq.trans (lv_osw (a := 15) c6 rfl) (Eq.trans (lv_osw (a := 16) c14 rfl) (Eq.trans (lv_osw (a := 24) c22 rfl) (Eq.trans (lv_osw (a := 25) c28 rfl) (Eq.trans (lv_osw (a := 28) c34 rfl) (rfl))))))) (by decide) ?_
    refine lv_iconst (v := 0) hx hb d_Foreteller_flagsAt_173 (by decide) ?_
    exact W.iret hx hb hr (fun t ht hW => ⟨⟨_, _, rfl, rt_pr hm, rt_end rtC_Xo hK hP hS hX ht hW⟩, hS.F ht⟩) hS.2.2 d_Foreteller_flagsAt_174
  · have hm := (if_pos hc).symm.trans hm
    refine lv_iconst (v := 0) hx hb d_Foreteller_flagsAt_9 (by decide) ?_
    exact W.iret hx hb hr (fun t ht hW => ⟨⟨_, _, rfl, rt_pr hm, rt_end rtC_Xo hK hP hS hX ht hW⟩, hS.F ht⟩) hS.2.2 d_Foreteller_flagsAt_10
set_option maxHeartbeats 4000000 in
set_option maxRecDepth 100000 in
theorem k_C_RangeTeller_instruction (l : Launch) (D : va_G) (cI cZ : ClassId) (A : Nat → Nat) (hO : rt_Ok (rtC_W cI cZ A)) (σ : rt_St) (a1 a2 : Int32) (r' : Int32) (σ' : rt_St) (hm : M_C_RangeTeller_instruction σ a1 a2 = some (r', σ')) (sz : Nat) : Met l y_RangeTeller_instruction (rt_ws y_RangeTeller_instruction b_RangeTeller_instruction 3 (some .int)) ({ frames := 3, cells := 0, slots := 0, locals := 62 } : Room) (va_Pc [.ref (A 0), .int a1, .int a2] (rt_P D rt_cl (rt_t cI cZ) rtC_X (rtC_W cI cZ A) sz σ)) (va_Qi (fun r1 u1 => r1 = r' ∧ u1 = σ') (rt_B D rt_cl (rt_t cI cZ) rtC_X (rtC_W cI cZ A)) (rt_A (rtC_W cI cZ A) sz)) 0 0 (rt_A (rtC_W cI cZ A) sz) := by
  refine Met.ofW (cc := b_RangeTeller_instruction) (maxL := 3) (ret := (some .int)) (by decide) rfl ?_
  intro p e s m args below meth c s₁ B hml hv
  obtain ⟨rfl, rfl, hP, hK, hX⟩ := hv
  have hx := B.exec
  have hb := B.bytes
  have hr := B.returns
  have hts := atoms_spec (ws := (rt_ws y_RangeTeller_instruction b_RangeTeller_instruction 3 (some .int))) B.pre
  have hown : s.vm.findClass "RangeTeller" = some m.cls := findClass_of_methodNamed B.named
  have hlocks := B.notSynchronized
  have hD := rt_hD hO s.heap.size
  have hS : va_S (rt_A (rtC_W cI cZ A) s.heap.size) s.heap s.heap [] := va_S.rf
  have hl := lv_entry ([.ref (A 0), .int a1, .int a2]) (n := 3) (Nat.le_of_ble_eq_true rfl)
  rw [lg_entry_eq]
  generalize (lg_sl ([.ref (A 0), .int a1, .int a2]) ++ List.replicate (3 - (lg_sl ([.ref (A 0), .int a1, .int a2])).length) Slot.unset).toArray = ls at hl ⊢
  have hl : lv_has ls 3 [(0, .ref (A 0)), (1, .int a1), (2, .int a2)] := hl
  show W p l e ({ frames := 3, cells := 0, slots := 0, locals := 62 } : Room) s m ([.ref (A 0), .int a1, .int a2] : List Value).toArray below meth c s.heap [] 0 0 (rt_Qi D rt_cl (rt_t cI cZ) rtC_X (rtC_W cI cZ A) below ([.ref (A 0), .int a1, .int a2] : List Value).toArray s r' σ') (F0 m 0 ls [])
  unfold M_C_RangeTeller_instruction at hm
  refine lv_aload_n hx hb d_RangeTeller_instruction_0 rfl (lv_at hl 0 rfl) ?_
  refine lv_iload_n hx hb d_RangeTeller_instruction_1 rfl (lv_at hl 1 rfl) ?_
  obtain ⟨v3, σ2, h1, hm⟩ := rt_b2s hm
  refine rt_cvi (As := [.int a1]) (rest := []) (k := 0) rtC_Xo ⟨hx, hb, hml, hown, hts⟩ (k_C_RangeTeller_isInstruction l D cI cZ A hO σ a1 _ _ h1) (cw_RangeTeller_isInstruction hts (hts _ (rt_m rt_w805)) ⟨Nat.le_of_ble_eq_true rfl, Nat.le_of_ble_eq_true rfl⟩) hK hP hS hX rfl rfl rfl hl.1 rfl (Nat.le_of_ble_eq_true rfl) d_RangeTeller_instruction_2 ⟨Nat.zero_le _, Nat.zero_le _⟩ (fun H locs hP hS => ?_)
  refine lv_if_ne (tgt := 11) hx hb d_RangeTeller_instruction_5 (by decide) (fun hc => ?_) (fun hc => ?_)
  · have hm := (if_neg hc).symm.trans hm
    refine lv_iload_n hx hb d_RangeTeller_instruction_11 rfl (lv_at hl 2 rfl) ?_
    by_cases c4 : a2 = 0
    · have hm := (if_pos c4).symm.trans hm
      refine lv_tableIn (off := 40) (tgt := 52) hx hb d_RangeTeller_instruction_12 (by rw [c4]; decide) (by rw [c4]; decide) (by rw [c4]; rfl) (by decide) ?_
      refine lv_aload_n hx hb d_RangeTeller_instruction_52 rfl (lv_at hl 0 rfl) ?_
      refine va_get (D := D) (v := .ref (A 1)) (C := "RangeTeller") (T := rt_T0) (N := 7) hx hb hts rt_i0 hown hK hP 0 rfl rfl 0 (by decide) (hts _ (rt_m rt_w378)) (fun _ h9 => h9) rfl d_RangeTeller_instruction_53 ?_
      refine va_get (D := D) (v := .ref (A 2)) (C := "RangeTeller$Program") (T := rt_T1) (N := 14) hx hb hts rt_i1 hown hK hP 1 rfl rfl 0 (by decide) (hts _ (rt_m rt_w124)) (fun _ h9 => h9) rfl d_RangeTeller_instruction_56 ?_
      refine lv_iload_n hx hb d_RangeTeller_instruction_59 rfl (lv_at hl 1 rfl) ?_
      obtain ⟨v5, h6, hm⟩ := rt_b1s hm
      refine rt_ald hx hb hK hP 2 0 rfl rfl h6 d_RangeTeller_instruction_60 ?_
      exact W.iret hx hb hr (fun t ht hW => ⟨⟨_, _, rfl, rt_pr hm, rt_end rtC_Xo hK hP hS hX ht hW⟩, hS.F ht⟩) hS.2.2 d_RangeTeller_instruction_61
    have hm := (if_neg c4).symm.trans hm
    by_cases c7 : a2 = 1
    · have hm := (if_pos c7).symm.trans hm
      refine lv_tableIn (off := 50) (tgt := 62) hx hb d_RangeTeller_instruction_12 (by rw [c7]; decide) (by rw [c7]; decide) (by rw [c7]; rfl) (by decide) ?_
      refine lv_aload_n hx hb d_RangeTeller_instruction_62 rfl (lv_at hl 0 rfl) ?_
      refine va_get (D := D) (v := .ref (A 1)) (C := "RangeTeller") (T := rt_T0) (N := 7) hx hb hts rt_i0 hown hK hP 0 rfl rfl 0 (by decide) (hts _ (rt_m rt_w378)) (fun _ h9 => h9) rfl d_RangeTeller_instruction_63 ?_
      refine va_get (D := D) (v := .ref (A 3)) (C := "RangeTeller$Program") (T := rt_T1) (N := 14) hx hb hts rt_i1 hown hK hP 1 rfl rfl 1 (by decide) (hts _ (rt_m rt_w129)) (fun _ h9 => h9) rfl d_RangeTeller_instruction_66 ?_
      refine lv_iload_n hx hb d_RangeTeller_instruction_69 rfl (lv_at hl 1 rfl) ?_
      obtain ⟨v8, h9, hm⟩ := rt_b1s hm
      refine rt_ald hx hb hK hP 3 0 rfl rfl h9 d_RangeTeller_instruction_70 ?_
      exact W.iret hx hb hr (fun t ht hW => ⟨⟨_, _, rfl, rt_pr hm, rt_end rtC_Xo hK hP hS hX ht hW⟩, hS.F ht⟩) hS.2.2 d_RangeTeller_instruction_71
    have hm := (if_neg c7).symm.trans hm
    by_cases c10 : a2 = 2
    · have hm := (if_pos c10).symm.trans hm
      refine lv_tableIn (off := 60) (tgt := 72) hx hb d_RangeTeller_instruction_12 (by rw [c10]; decide) (by rw [c10]; decide) (by rw [c10]; rfl) (by decide) ?_
      refine lv_aload_n hx hb d_RangeTeller_instruction_72 rfl (lv_at hl 0 rfl) ?_
      refine va_get (D := D) (v := .ref (A 29)) (C := "RangeTeller") (T := rt_T0) (N := 7) hx hb hts rt_i0 hown hK hP 0 rfl rfl 4 (by decide) (hts _ (rt_m rt_w382)) (fun _ h9 => h9) rfl d_RangeTeller_instruction_73 ?_
      refine va_get (D := D) (v := .ref (A 30)) (C := "RangeTeller$Foreteller") (T := rt_T5) (N := 13) hx hb hts rt_i5 hown hK hP 29 rfl rfl 1 (by decide) (hts _ (rt_m rt_w335)) (fun _ h9 => h9) rfl d_RangeTeller_instruction_76 ?_
      refine lv_iload_n hx hb d_RangeTeller_instruction_79 rfl (lv_at hl 1 rfl) ?_
      obtain ⟨v11, h12, hm⟩ := rt_b1s hm
      refine rt_zld hx hb hK hP 30 1 rfl rfl h12 d_RangeTeller_instruction_80 ?_
      refine lv_if_eq (tgt := 88) hx hb d_RangeTeller_instruction_81 (by decide) (fun hc => ?_) (fun hc => ?_)
      · have hm := (if_pos hc).symm.trans hm
        refine lv_iconst (v := 0) hx hb d_RangeTeller_instruction_88 (by decide) ?_
        exact W.iret hx hb hr (fun t ht hW => ⟨⟨_, _, rfl, rt_pr hm, rt_end rtC_Xo hK hP hS hX ht hW⟩, hS.F ht⟩) hS.2.2 d_RangeTeller_instruction_89
      · have hm := (if_neg hc).symm.trans hm
        refine lv_iconst (v := 1) hx hb d_RangeTeller_instruction_84 (by decide) ?_
        refine lv_goto (tgt := 89) hx hb d_RangeTeller_instruction_85 (by decide) ?_
        exact W.iret hx hb hr (fun t ht hW => ⟨⟨_, _, rfl, rt_pr hm, rt_end rtC_Xo hK hP hS hX ht hW⟩, hS.F ht⟩) hS.2.2 d_RangeTeller_instruction_89
    have hm := (if_neg c10).symm.trans hm
    by_cases c13 : a2 = 3
    · have hm := (if_pos c13).symm.trans hm
      refine lv_tableIn (off := 78) (tgt := 90) hx hb d_RangeTeller_instruction_12 (by rw [c13]; decide) (by rw [c13]; decide) (by rw [c13]; rfl) (by decide) ?_
      refine lv_aload_n hx hb d_RangeTeller_instruction_90 rfl (lv_at hl 0 rfl) ?_
      refine va_get (D := D) (v := .ref (A 29)) (C := "RangeTeller") (T := rt_T0) (N := 7) hx hb hts rt_i0 hown hK hP 0 rfl rfl 4 (by decide) (hts _ (rt_m rt_w382)) (fun _ h9 => h9) rfl d_RangeTeller_instruction_91 ?_
      refine lv_iload_n hx hb d_RangeTeller_instruction_94 rfl (lv_at hl 1 rfl) ?_
      obtain ⟨v16, σ15, h14, hm⟩ := rt_b2s hm
      refine rt_cvi (As := [.int a1]) (rest := []) (k := 29) rtC_Xo ⟨hx, hb, hml, hown, hts⟩ (k_C_Foreteller_flagsAt l D cI cZ A hO σ2 a1 _ _ h14) (cw_Foreteller_flagsAt hts (hts _ (rt_m rt_w809)) ⟨Nat.le_of_ble_eq_true rfl, Nat.le_of_ble_eq_true rfl⟩) hK hP hS hX rfl rfl rfl hl.1 rfl (Nat.le_of_ble_eq_true rfl) d_RangeTeller_instruction_95 ⟨Nat.zero_le _, Nat.zero_le _⟩ (fun H locs hP hS => ?_)
      exact W.iret hx hb hr (fun t ht hW => ⟨⟨_, _, rfl, rt_pr hm, rt_end rtC_Xo hK hP hS hX ht hW⟩, hS.F ht⟩) hS.2.2 d_RangeTeller_instruction_98
    have hm := (if_neg c13).symm.trans hm
    by_cases c17 : a2 = 4
    · have hm := (if_pos c17).symm.trans hm
      refine lv_tableIn (off := 87) (tgt := 99) hx hb d_RangeTeller_instruction_12 (by rw [c17]; decide) (by rw [c17]; decide) (by rw [c17]; rfl) (by decide) ?_
      refine lv_aload_n hx hb d_RangeTeller_instruction_99 rfl (lv_at hl 0 rfl) ?_
      refine va_get (D := D) (v := .ref (A 1)) (C := "RangeTeller") (T := rt_T0) (N := 7) hx hb hts rt_i0 hown hK hP 0 rfl rfl 0 (by decide) (hts _ (rt_m rt_w378)) (fun _ h9 => h9) rfl d_RangeTeller_instruction_100 ?_
      refine va_get (D := D) (v := .ref (A 5)) (C := "RangeTeller$Program") (T := rt_T1) (N := 14) hx hb hts rt_i1 hown hK hP 1 rfl rfl 3 (by decide) (hts _ (rt_m rt_w135)) (fun _ h9 => h9) rfl d_RangeTeller_instruction_103 ?_
      refine lv_iload_n hx hb d_RangeTeller_instruction_106 rfl (lv_at hl 1 rfl) ?_
      obtain ⟨v18, h19, hm⟩ := rt_b1s hm
      refine rt_ald hx hb hK hP 5 0 rfl rfl h19 d_RangeTeller_instruction_107 ?_
      refine lv_bipush (v := (-3)) hx hb d_RangeTeller_instruction_108 (by decide) ?_
      refine lv_icmp_ne (tgt := 118) hx hb d_RangeTeller_instruction_110 (by decide) (fun hc => ?_) (fun hc => ?_)
      · have hm := (if_neg hc).symm.trans hm
        refine lv_aload_n hx hb d_RangeTeller_instruction_118 rfl (lv_at hl 0 rfl) ?_
        refine va_get (D := D) (v := .ref (A 1)) (C := "RangeTeller") (T := rt_T0) (N := 7) hx hb hts rt_i0 hown hK hP 0 rfl rfl 0 (by decide) (hts _ (rt_m rt_w378)) (fun _ h9 => h9) rfl d_RangeTeller_instruction_119 ?_
        refine va_get (D := D) (v := .ref (A 5)) (C := "RangeTeller$Program") (T := rt_T1) (N := 14) hx hb hts rt_i1 hown hK hP 1 rfl rfl 3 (by decide) (hts _ (rt_m rt_w135)) (fun _ h9 => h9) rfl d_RangeTeller_instruction_122 ?_
        refine lv_iload_n hx hb d_RangeTeller_instruction_125 rfl (lv_at hl 1 rfl) ?_
        obtain ⟨v20, h21, hm⟩ := rt_b1s hm
        refine rt_ald hx hb hK hP 5 0 rfl rfl h21 d_RangeTeller_instruction_126 ?_
        refine lv_iconst (v := 1) hx hb d_RangeTeller_instruction_127 (by decide) ?_
        refine lv_iadd hx hb d_RangeTeller_instruction_128 ?_
        exact W.iret hx hb hr (fun t ht hW => ⟨⟨_, _, rfl, rt_pr hm, rt_end rtC_Xo hK hP hS hX ht hW⟩, hS.F ht⟩) hS.2.2 d_RangeTeller_instruction_129
      · have hm := (if_pos hc).symm.trans hm
        refine lv_bipush (v := (-3)) hx hb d_RangeTeller_instruction_113 (by decide) ?_
        refine lv_goto (tgt := 129) hx hb d_RangeTeller_instruction_115 (by decide) ?_
        exact W.iret hx hb hr (fun t ht hW => ⟨⟨_, _, rfl, rt_pr hm, rt_end rtC_Xo hK hP hS hX ht hW⟩, hS.F ht⟩) hS.2.2 d_RangeTeller_instruction_129
    have hm := (if_neg c17).symm.trans hm
    by_cases c22 : a2 = 5
    · have hm := (if_pos c22).symm.trans hm
      refine lv_tableIn (off := 118) (tgt := 130) hx hb d_RangeTeller_instruction_12 (by rw [c22]; decide) (by rw [c22]; decide) (by rw [c22]; rfl) (by decide) ?_
      refine lv_aload_n hx hb d_RangeTeller_instruction_130 rfl (lv_at hl 0 rfl) ?_
      refine va_get (D := D) (v := .ref (A 29)) (C := "RangeTeller") (T := rt_T0) (N := 7) hx hb hts rt_i0 hown hK hP 0 rfl rfl 4 (by decide) (hts _ (rt_m rt_w382)) (fun _ h9 => h9) rfl d_RangeTeller_instruction_131 ?_
      refine va_get (D := D) (v := .ref (A 30)) (C := "RangeTeller$Foreteller") (T := rt_T5) (N := 13) hx hb hts rt_i5 hown hK hP 29 rfl rfl 1 (by decide) (hts _ (rt_m rt_w335)) (fun _ h9 => h9) rfl d_RangeTeller_instruction_134 ?_
      refine lv_iload_n hx hb d_RangeTeller_instruction_137 rfl (lv_at hl 1 rfl) ?_
      obtain ⟨v23, h24, hm⟩ := rt_b1s hm
      refine rt_zld hx hb hK hP 30 1 rfl rfl h24 d_RangeTeller_instruction_138 ?_
      refine lv_if_eq (tgt := 154) hx hb d_RangeTeller_instruction_139 (by decide) (fun hc => ?_) (fun hc => ?_)
      · have hm := (if_pos hc).symm.trans hm
        refine lv_bipush (v := (-3)) hx hb d_RangeTeller_instruction_154 (by decide) ?_
        exact W.iret hx hb hr (fun t ht hW => ⟨⟨_, _, rfl, rt_pr hm, rt_end rtC_Xo hK hP hS hX ht hW⟩, hS.F ht⟩) hS.2.2 d_RangeTeller_instruction_156
      · have hm := (if_neg hc).symm.trans hm
        refine lv_aload_n hx hb d_RangeTeller_instruction_142 rfl (lv_at hl 0 rfl) ?_
        refine va_get (D := D) (v := .ref (A 29)) (C := "RangeTeller") (T := rt_T0) (N := 7) hx hb hts rt_i0 hown hK hP 0 rfl rfl 4 (by decide) (hts _ (rt_m rt_w382)) (fun _ h9 => h9) rfl d_RangeTeller_instruction_143 ?_
        refine va_get (D := D) (v := .ref (A 31)) (C := "RangeTeller$Foreteller") (T := rt_T5) (N := 13) hx hb hts rt_i5 hown hK hP 29 rfl rfl 2 (by decide) (hts _ (rt_m rt_w337)) (fun _ h9 => h9) rfl d_RangeTeller_instruction_146 ?_
        refine lv_iload_n hx hb d_RangeTeller_instruction_149 rfl (lv_at hl 1 rfl) ?_
        obtain ⟨v25, h26, hm⟩ := rt_b1s hm
        refine rt_ald hx hb hK hP 31 0 rfl rfl h26 d_RangeTeller_instruction_150 ?_
        refine lv_goto (tgt := 156) hx hb d_RangeTeller_instruction_151 (by decide) ?_
        exact W.iret hx hb hr (fun t ht hW => ⟨⟨_, _, rfl, rt_pr hm, rt_end rtC_Xo hK hP hS hX ht hW⟩, hS.F ht⟩) hS.2.2 d_RangeTeller_instruction_156
    have hm := (if_neg c22).symm.trans hm
    refine lv_tableOut (tgt := 157) hx hb d_RangeTeller_instruction_12 (by have := lv_neT (a := 0) c4 rfl; have := lv_neT (a := 1) c7 rfl; have := lv_neT (a := 2) c10 rfl; have := lv_neT (a := 3) c13 rfl; have := lv_neT (a := 4) c17 rfl; have := lv_neT (a := 5) c22 rfl; omega) (by decide) ?_
    refine lv_bipush (v := (-3)) hx hb d_RangeTeller_instruction_157 (by decide) ?_
    exact W.iret hx hb hr (fun t ht hW => ⟨⟨_, _, rfl, rt_pr hm, rt_end rtC_Xo hK hP hS hX ht hW⟩, hS.F ht⟩) hS.2.2 d_RangeTeller_instruction_159
  · have hm := (if_pos hc).symm.trans hm
    refine lv_bipush (v := (-3)) hx hb d_RangeTeller_instruction_8 (by decide) ?_
    exact W.iret hx hb hr (fun t ht hW => ⟨⟨_, _, rfl, rt_pr hm, rt_end rtC_Xo hK hP hS hX ht hW⟩, hS.F ht⟩) hS.2.2 d_RangeTeller_instruction_10
set_option maxHeartbeats 4000000 in
set_option maxRecDepth 100000 in
theorem k_C_RangeTeller_operand (l : Launch) (D : va_G) (cI cZ : ClassId) (A : Nat → Nat) (hO : rt_Ok (rtC_W cI cZ A)) (σ : rt_St) (a1 a2 : Int32) (r' : Int32) (σ' : rt_St) (hm : M_C_RangeTeller_operand σ a1 a2 = some (r', σ')) (sz : Nat) : Met l y_RangeTeller_operand (rt_ws y_RangeTeller_operand b_RangeTeller_operand 3 (some .int)) ({ frames := 1, cells := 0, slots := 0, locals := 22 } : Room) (va_Pc [.ref (A 0), .int a1, .int a2] (rt_P D rt_cl (rt_t cI cZ) rtC_X (rtC_W cI cZ A) sz σ)) (va_Qi (fun r1 u1 => r1 = r' ∧ u1 = σ') (rt_B D rt_cl (rt_t cI cZ) rtC_X (rtC_W cI cZ A)) (rt_A (rtC_W cI cZ A) sz)) 0 0 (rt_A (rtC_W cI cZ A) sz) := by
  refine Met.ofW (cc := b_RangeTeller_operand) (maxL := 3) (ret := (some .int)) (by decide) rfl ?_
  intro p e s m args below meth c s₁ B hml hv
  obtain ⟨rfl, rfl, hP, hK, hX⟩ := hv
  have hx := B.exec
  have hb := B.bytes
  have hr := B.returns
  have hts := atoms_spec (ws := (rt_ws y_RangeTeller_operand b_RangeTeller_operand 3 (some .int))) B.pre
  have hown : s.vm.findClass "RangeTeller" = some m.cls := findClass_of_methodNamed B.named
  have hlocks := B.notSynchronized
  have hD := rt_hD hO s.heap.size
  have hS : va_S (rt_A (rtC_W cI cZ A) s.heap.size) s.heap s.heap [] := va_S.rf
  have hl := lv_entry ([.ref (A 0), .int a1, .int a2]) (n := 3) (Nat.le_of_ble_eq_true rfl)
  rw [lg_entry_eq]
  generalize (lg_sl ([.ref (A 0), .int a1, .int a2]) ++ List.replicate (3 - (lg_sl ([.ref (A 0), .int a1, .int a2])).length) Slot.unset).toArray = ls at hl ⊢
  have hl : lv_has ls 3 [(0, .ref (A 0)), (1, .int a1), (2, .int a2)] := hl
  show W p l e ({ frames := 1, cells := 0, slots := 0, locals := 22 } : Room) s m ([.ref (A 0), .int a1, .int a2] : List Value).toArray below meth c s.heap [] 0 0 (rt_Qi D rt_cl (rt_t cI cZ) rtC_X (rtC_W cI cZ A) below ([.ref (A 0), .int a1, .int a2] : List Value).toArray s r' σ') (F0 m 0 ls [])
  unfold M_C_RangeTeller_operand at hm
  refine lv_aload_n hx hb d_RangeTeller_operand_0 rfl (lv_at hl 0 rfl) ?_
  refine lv_iload_n hx hb d_RangeTeller_operand_1 rfl (lv_at hl 1 rfl) ?_
  obtain ⟨v3, σ2, h1, hm⟩ := rt_b2s hm
  refine rt_cvi (As := [.int a1]) (rest := []) (k := 0) rtC_Xo ⟨hx, hb, hml, hown, hts⟩ (k_C_RangeTeller_isInstruction l D cI cZ A hO σ a1 _ _ h1) (cw_RangeTeller_isInstruction hts (hts _ (rt_m rt_w805)) ⟨Nat.le_of_ble_eq_true rfl, Nat.le_of_ble_eq_true rfl⟩) hK hP hS hX rfl rfl rfl hl.1 rfl (Nat.le_of_ble_eq_true rfl) d_RangeTeller_operand_2 ⟨Nat.zero_le _, Nat.zero_le _⟩ (fun H locs hP hS => ?_)
  refine lv_if_eq (tgt := 20) hx hb d_RangeTeller_operand_5 (by decide) (fun hc => ?_) (fun hc => ?_)
  · have hm := (if_pos hc).symm.trans hm
    refine lv_bipush (v := (-3)) hx hb d_RangeTeller_operand_20 (by decide) ?_
    exact W.iret hx hb hr (fun t ht hW => ⟨⟨_, _, rfl, rt_pr hm, rt_end rtC_Xo hK hP hS hX ht hW⟩, hS.F ht⟩) hS.2.2 d_RangeTeller_operand_22
  · have hm := (if_neg hc).symm.trans hm
    refine lv_aload_n hx hb d_RangeTeller_operand_8 rfl (lv_at hl 0 rfl) ?_
    refine va_get (D := D) (v := .ref (A 29)) (C := "RangeTeller") (T := rt_T0) (N := 7) hx hb hts rt_i0 hown hK hP 0 rfl rfl 4 (by decide) (hts _ (rt_m rt_w382)) (fun _ h9 => h9) rfl d_RangeTeller_operand_9 ?_
    refine lv_iload_n hx hb d_RangeTeller_operand_12 rfl (lv_at hl 1 rfl) ?_
    refine lv_iload_n hx hb d_RangeTeller_operand_13 rfl (lv_at hl 2 rfl) ?_
    obtain ⟨v6, σ5, h4, hm⟩ := rt_b2s hm
    refine rt_cvi (As := [.int a1, .int a2]) (rest := []) (k := 29) rtC_Xo ⟨hx, hb, hml, hown, hts⟩ (k_C_Foreteller_operandAt l D cI cZ A hO σ2 a1 a2 _ _ h4) (cw_Foreteller_operandAt hts (hts _ (rt_m rt_w824)) ⟨Nat.le_of_ble_eq_true rfl, Nat.le_of_ble_eq_true rfl⟩) hK hP hS hX rfl rfl rfl hl.1 rfl (Nat.le_of_ble_eq_true rfl) d_RangeTeller_operand_14 ⟨Nat.zero_le _, Nat.zero_le _⟩ (fun H locs hP hS => ?_)
    refine lv_goto (tgt := 22) hx hb d_RangeTeller_operand_17 (by decide) ?_
    exact W.iret hx hb hr (fun t ht hW => ⟨⟨_, _, rfl, rt_pr hm, rt_end rtC_Xo hK hP hS hX ht hW⟩, hS.F ht⟩) hS.2.2 d_RangeTeller_operand_22
set_option maxHeartbeats 4000000 in
set_option maxRecDepth 100000 in
theorem k_C_Foreteller_localAt (l : Launch) (D : va_G) (cI cZ : ClassId) (A : Nat → Nat) (hO : rt_Ok (rtC_W cI cZ A)) (σ : rt_St) (a1 a2 : Int32) (r' : Int32) (σ' : rt_St) (hm : M_C_Foreteller_localAt σ a1 a2 = some (r', σ')) (sz : Nat) : Met l y_Foreteller_localAt (rt_ws y_Foreteller_localAt b_Foreteller_localAt 3 (some .int)) ({ frames := 1, cells := 0, slots := 0, locals := 21 } : Room) (va_Pc [.ref (A 29), .int a1, .int a2] (rt_P D rt_cl (rt_t cI cZ) rtC_X (rtC_W cI cZ A) sz σ)) (va_Qi (fun r1 u1 => r1 = r' ∧ u1 = σ') (rt_B D rt_cl (rt_t cI cZ) rtC_X (rtC_W cI cZ A)) (rt_A (rtC_W cI cZ A) sz)) 0 0 (rt_A (rtC_W cI cZ A) sz) := by
  refine Met.ofW (cc := b_Foreteller_localAt) (maxL := 3) (ret := (some .int)) (by decide) rfl ?_
  intro p e s m args below meth c s₁ B hml hv
  obtain ⟨rfl, rfl, hP, hK, hX⟩ := hv
  have hx := B.exec
  have hb := B.bytes
  have hr := B.returns
  have hts := atoms_spec (ws := (rt_ws y_Foreteller_localAt b_Foreteller_localAt 3 (some .int))) B.pre
  have hown : s.vm.findClass "RangeTeller$Foreteller" = some m.cls := findClass_of_methodNamed B.named
  have hlocks := B.notSynchronized
  have hD := rt_hD hO s.heap.size
  have hS : va_S (rt_A (rtC_W cI cZ A) s.heap.size) s.heap s.heap [] := va_S.rf
  have hl := lv_entry ([.ref (A 29), .int a1, .int a2]) (n := 3) (Nat.le_of_ble_eq_true rfl)
  rw [lg_entry_eq]
  generalize (lg_sl ([.ref (A 29), .int a1, .int a2]) ++ List.replicate (3 - (lg_sl ([.ref (A 29), .int a1, .int a2])).length) Slot.unset).toArray = ls at hl ⊢
  have hl : lv_has ls 3 [(0, .ref (A 29)), (1, .int a1), (2, .int a2)] := hl
  show W p l e ({ frames := 1, cells := 0, slots := 0, locals := 21 } : Room) s m ([.ref (A 29), .int a1, .int a2] : List Value).toArray below meth c s.heap [] 0 0 (rt_Qi D rt_cl (rt_t cI cZ) rtC_X (rtC_W cI cZ A) below ([.ref (A 29), .int a1, .int a2] : List Value).toArray s r' σ') (F0 m 0 ls [])
  unfold M_C_Foreteller_localAt at hm
  refine lv_aload_n hx hb d_Foreteller_localAt_0 rfl (lv_at hl 0 rfl) ?_
  refine va_get (D := D) (v := .ref (A 30)) (C := "RangeTeller$Foreteller") (T := rt_T5) (N := 13) hx hb hts rt_i5 hown hK hP 29 rfl rfl 1 (by decide) (hts _ (rt_m rt_w334)) (fun _ h9 => h9) rfl d_Foreteller_localAt_1 ?_
  refine lv_iload_n hx hb d_Foreteller_localAt_4 rfl (lv_at hl 1 rfl) ?_
  obtain ⟨v1, h2, hm⟩ := rt_b1s hm
  refine rt_zld hx hb hK hP 30 1 rfl rfl h2 d_Foreteller_localAt_5 ?_
  refine lv_if_eq (tgt := 33) hx hb d_Foreteller_localAt_6 (by decide) (fun hc => ?_) (fun hc => ?_)
  · have hm := (if_pos hc).symm.trans hm
    refine lv_bipush (v := (-3)) hx hb d_Foreteller_localAt_33 (by decide) ?_
    exact W.iret hx hb hr (fun t ht hW => ⟨⟨_, _, rfl, rt_pr hm, rt_end rtC_Xo hK hP hS hX ht hW⟩, hS.F ht⟩) hS.2.2 d_Foreteller_localAt_35
  · have hm := (if_neg hc).symm.trans hm
    refine lv_iload_n hx hb d_Foreteller_localAt_9 rfl (lv_at hl 2 rfl) ?_
    refine lv_if_lt (tgt := 33) hx hb d_Foreteller_localAt_10 (by decide) (fun hc => ?_) (fun hc => ?_)
    · have hm := (if_pos hc).symm.trans hm
      refine lv_bipush (v := (-3)) hx hb d_Foreteller_localAt_33 (by decide) ?_
      exact W.iret hx hb hr (fun t ht hW => ⟨⟨_, _, rfl, rt_pr hm, rt_end rtC_Xo hK hP hS hX ht hW⟩, hS.F ht⟩) hS.2.2 d_Foreteller_localAt_35
    · have hm := (if_neg hc).symm.trans hm
      refine lv_iload_n hx hb d_Foreteller_localAt_13 rfl (lv_at hl 2 rfl) ?_
      refine lv_aload_n hx hb d_Foreteller_localAt_14 rfl (lv_at hl 0 rfl) ?_
      refine va_get (D := D) (v := .ref (A 1)) (C := "RangeTeller$Foreteller") (T := rt_T5) (N := 13) hx hb hts rt_i5 hown hK hP 29 rfl rfl 0 (by decide) (hts _ (rt_m rt_w333)) (fun _ h9 => h9) rfl d_Foreteller_localAt_15 ?_
      refine lv_aload_n hx hb d_Foreteller_localAt_18 rfl (lv_at hl 0 rfl) ?_
      refine va_get (D := D) (v := .ref (A 1)) (C := "RangeTeller$Foreteller") (T := rt_T5) (N := 13) hx hb hts rt_i5 hown hK hP 29 rfl rfl 0 (by decide) (hts _ (rt_m rt_w333)) (fun _ h9 => h9) rfl d_Foreteller_localAt_19 ?_
      refine va_get (D := D) (v := .ref (A 4)) (C := "RangeTeller$Program") (T := rt_T1) (N := 14) hx hb hts rt_i1 hown hK hP 1 rfl rfl 2 (by decide) (hts _ (rt_m rt_w132)) (fun _ h9 => h9) rfl d_Foreteller_localAt_22 ?_
      refine lv_iload_n hx hb d_Foreteller_localAt_25 rfl (lv_at hl 1 rfl) ?_
      obtain ⟨v3, h4, hm⟩ := rt_b1s hm
      refine rt_ald hx hb hK hP 4 0 rfl rfl h4 d_Foreteller_localAt_26 ?_
      obtain ⟨v7, σ6, h5, hm⟩ := rt_b2s hm
      refine rt_cvi (As := [.int v3]) (rest := [.int a2]) (k := 1) rtC_Xo ⟨hx, hb, hml, hown, hts⟩ (k_C_Program_localCount l D cI cZ A hO σ v3 _ _ h5) (cw_Program_localCount hts (hts _ (rt_m rt_w560)) ⟨Nat.le_of_ble_eq_true rfl, Nat.le_of_ble_eq_true rfl⟩) hK hP hS hX rfl rfl rfl hl.1 rfl (Nat.le_of_ble_eq_true rfl) d_Foreteller_localAt_27 ⟨Nat.zero_le _, Nat.zero_le _⟩ (fun H locs hP hS => ?_)
      refine lv_icmp_lt (tgt := 36) hx hb d_Foreteller_localAt_30 (by decide) (fun hc => ?_) (fun hc => ?_)
      · have hm := (if_pos hc).symm.trans hm
        refine lv_aload_n hx hb d_Foreteller_localAt_36 rfl (lv_at hl 0 rfl) ?_
        refine va_get (D := D) (v := .ref (A 37)) (C := "RangeTeller$Foreteller") (T := rt_T5) (N := 13) hx hb hts rt_i5 hown hK hP 29 rfl rfl 8 (by decide) (hts _ (rt_m rt_w346)) (fun _ h9 => h9) rfl d_Foreteller_localAt_37 ?_
        refine lv_iload_n hx hb d_Foreteller_localAt_40 rfl (lv_at hl 1 rfl) ?_
        refine lv_iconst (v := 4) hx hb d_Foreteller_localAt_41 (by decide) ?_
        refine lv_imul hx hb d_Foreteller_localAt_42 ?_
        refine lv_iload_n hx hb d_Foreteller_localAt_43 rfl (lv_at hl 2 rfl) ?_
        refine lv_iadd hx hb d_Foreteller_localAt_44 ?_
        obtain ⟨v8, h9, hm⟩ := rt_b1s hm
        refine rt_ald hx hb hK hP 37 0 rfl rfl h9 d_Foreteller_localAt_45 ?_
        exact W.iret hx hb hr (fun t ht hW => ⟨⟨_, _, rfl, rt_pr hm, rt_end rtC_Xo hK hP hS hX ht hW⟩, hS.F ht⟩) hS.2.2 d_Foreteller_localAt_46
      · have hm := (if_neg hc).symm.trans hm
        refine lv_bipush (v := (-3)) hx hb d_Foreteller_localAt_33 (by decide) ?_
        exact W.iret hx hb hr (fun t ht hW => ⟨⟨_, _, rfl, rt_pr hm, rt_end rtC_Xo hK hP hS hX ht hW⟩, hS.F ht⟩) hS.2.2 d_Foreteller_localAt_35
set_option maxHeartbeats 4000000 in
set_option maxRecDepth 100000 in
theorem k_C_RangeTeller_local (l : Launch) (D : va_G) (cI cZ : ClassId) (A : Nat → Nat) (hO : rt_Ok (rtC_W cI cZ A)) (σ : rt_St) (a1 a2 : Int32) (r' : Int32) (σ' : rt_St) (hm : M_C_RangeTeller_local σ a1 a2 = some (r', σ')) (sz : Nat) : Met l y_RangeTeller_local (rt_ws y_RangeTeller_local b_RangeTeller_local 3 (some .int)) ({ frames := 2, cells := 0, slots := 0, locals := 43 } : Room) (va_Pc [.ref (A 0), .int a1, .int a2] (rt_P D rt_cl (rt_t cI cZ) rtC_X (rtC_W cI cZ A) sz σ)) (va_Qi (fun r1 u1 => r1 = r' ∧ u1 = σ') (rt_B D rt_cl (rt_t cI cZ) rtC_X (rtC_W cI cZ A)) (rt_A (rtC_W cI cZ A) sz)) 0 0 (rt_A (rtC_W cI cZ A) sz) := by
  refine Met.ofW (cc := b_RangeTeller_local) (maxL := 3) (ret := (some .int)) (by decide) rfl ?_
  intro p e s m args below meth c s₁ B hml hv
  obtain ⟨rfl, rfl, hP, hK, hX⟩ := hv
  have hx := B.exec
  have hb := B.bytes
  have hr := B.returns
  have hts := atoms_spec (ws := (rt_ws y_RangeTeller_local b_RangeTeller_local 3 (some .int))) B.pre
  have hown : s.vm.findClass "RangeTeller" = some m.cls := findClass_of_methodNamed B.named
  have hlocks := B.notSynchronized
  have hD := rt_hD hO s.heap.size
  have hS : va_S (rt_A (rtC_W cI cZ A) s.heap.size) s.heap s.heap [] := va_S.rf
  have hl := lv_entry ([.ref (A 0), .int a1, .int a2]) (n := 3) (Nat.le_of_ble_eq_true rfl)
  rw [lg_entry_eq]
  generalize (lg_sl ([.ref (A 0), .int a1, .int a2]) ++ List.replicate (3 - (lg_sl ([.ref (A 0), .int a1, .int a2])).length) Slot.unset).toArray = ls at hl ⊢
  have hl : lv_has ls 3 [(0, .ref (A 0)), (1, .int a1), (2, .int a2)] := hl
  show W p l e ({ frames := 2, cells := 0, slots := 0, locals := 43 } : Room) s m ([.ref (A 0), .int a1, .int a2] : List Value).toArray below meth c s.heap [] 0 0 (rt_Qi D rt_cl (rt_t cI cZ) rtC_X (rtC_W cI cZ A) below ([.ref (A 0), .int a1, .int a2] : List Value).toArray s r' σ') (F0 m 0 ls [])
  unfold M_C_RangeTeller_local at hm
  refine lv_aload_n hx hb d_RangeTeller_local_0 rfl (lv_at hl 0 rfl) ?_
  refine lv_iload_n hx hb d_RangeTeller_local_1 rfl (lv_at hl 1 rfl) ?_
  obtain ⟨v3, σ2, h1, hm⟩ := rt_b2s hm
  refine rt_cvi (As := [.int a1]) (rest := []) (k := 0) rtC_Xo ⟨hx, hb, hml, hown, hts⟩ (k_C_RangeTeller_isInstruction l D cI cZ A hO σ a1 _ _ h1) (cw_RangeTeller_isInstruction hts (hts _ (rt_m rt_w805)) ⟨Nat.le_of_ble_eq_true rfl, Nat.le_of_ble_eq_true rfl⟩) hK hP hS hX rfl rfl rfl hl.1 rfl (Nat.le_of_ble_eq_true rfl) d_RangeTeller_local_2 ⟨Nat.zero_le _, Nat.zero_le _⟩ (fun H locs hP hS => ?_)
  refine lv_if_eq (tgt := 20) hx hb d_RangeTeller_local_5 (by decide) (fun hc => ?_) (fun hc => ?_)
  · have hm := (if_pos hc).symm.trans hm
    refine lv_bipush (v := (-3)) hx hb d_RangeTeller_local_20 (by decide) ?_
    exact W.iret hx hb hr (fun t ht hW => ⟨⟨_, _, rfl, rt_pr hm, rt_end rtC_Xo hK hP hS hX ht hW⟩, hS.F ht⟩) hS.2.2 d_RangeTeller_local_22
  · have hm := (if_neg hc).symm.trans hm
    refine lv_aload_n hx hb d_RangeTeller_local_8 rfl (lv_at hl 0 rfl) ?_
    refine va_get (D := D) (v := .ref (A 29)) (C := "RangeTeller") (T := rt_T0) (N := 7) hx hb hts rt_i0 hown hK hP 0 rfl rfl 4 (by decide) (hts _ (rt_m rt_w382)) (fun _ h9 => h9) rfl d_RangeTeller_local_9 ?_
    refine lv_iload_n hx hb d_RangeTeller_local_12 rfl (lv_at hl 1 rfl) ?_
    refine lv_iload_n hx hb d_RangeTeller_local_13 rfl (lv_at hl 2 rfl) ?_
    obtain ⟨v6, σ5, h4, hm⟩ := rt_b2s hm
    refine rt_cvi (As := [.int a1, .int a2]) (rest := []) (k := 29) rtC_Xo ⟨hx, hb, hml, hown, hts⟩ (k_C_Foreteller_localAt l D cI cZ A hO σ2 a1 a2 _ _ h4) (cw_Foreteller_localAt hts (hts _ (rt_m rt_w829)) ⟨Nat.le_of_ble_eq_true rfl, Nat.le_of_ble_eq_true rfl⟩) hK hP hS hX rfl rfl rfl hl.1 rfl (Nat.le_of_ble_eq_true rfl) d_RangeTeller_local_14 ⟨Nat.zero_le _, Nat.zero_le _⟩ (fun H locs hP hS => ?_)
    refine lv_goto (tgt := 22) hx hb d_RangeTeller_local_17 (by decide) ?_
    exact W.iret hx hb hr (fun t ht hW => ⟨⟨_, _, rfl, rt_pr hm, rt_end rtC_Xo hK hP hS hX ht hW⟩, hS.F ht⟩) hS.2.2 d_RangeTeller_local_22
set_option maxHeartbeats 4000000 in
set_option maxRecDepth 100000 in
theorem k_C_RangeTeller_cell (l : Launch) (D : va_G) (cI cZ : ClassId) (A : Nat → Nat) (hO : rt_Ok (rtC_W cI cZ A)) (σ : rt_St) (a1 : Int32) (r' : Int32) (σ' : rt_St) (hm : M_C_RangeTeller_cell σ a1 = some (r', σ')) (sz : Nat) : Met l y_RangeTeller_cell (rt_ws y_RangeTeller_cell b_RangeTeller_cell 2 (some .int)) ({ frames := 0, cells := 0, slots := 0, locals := 0 } : Room) (va_Pc [.ref (A 0), .int a1] (rt_P D rt_cl (rt_t cI cZ) rtC_X (rtC_W cI cZ A) sz σ)) (va_Qi (fun r1 u1 => r1 = r' ∧ u1 = σ') (rt_B D rt_cl (rt_t cI cZ) rtC_X (rtC_W cI cZ A)) (rt_A (rtC_W cI cZ A) sz)) 0 0 (rt_A (rtC_W cI cZ A) sz) := by
  refine Met.ofW (cc := b_RangeTeller_cell) (maxL := 2) (ret := (some .int)) (by decide) rfl ?_
  intro p e s m args below meth c s₁ B hml hv
  obtain ⟨rfl, rfl, hP, hK, hX⟩ := hv
  have hx := B.exec
  have hb := B.bytes
  have hr := B.returns
  have hts := atoms_spec (ws := (rt_ws y_RangeTeller_cell b_RangeTeller_cell 2 (some .int))) B.pre
  have hown : s.vm.findClass "RangeTeller" = some m.cls := findClass_of_methodNamed B.named
  have hlocks := B.notSynchronized
  have hD := rt_hD hO s.heap.size
  have hS : va_S (rt_A (rtC_W cI cZ A) s.heap.size) s.heap s.heap [] := va_S.rf
  have hl := lv_entry ([.ref (A 0), .int a1]) (n := 2) (Nat.le_of_ble_eq_true rfl)
  rw [lg_entry_eq]
  generalize (lg_sl ([.ref (A 0), .int a1]) ++ List.replicate (2 - (lg_sl ([.ref (A 0), .int a1])).length) Slot.unset).toArray = ls at hl ⊢
  have hl : lv_has ls 2 [(0, .ref (A 0)), (1, .int a1)] := hl
  show W p l e ({ frames := 0, cells := 0, slots := 0, locals := 0 } : Room) s m ([.ref (A 0), .int a1] : List Value).toArray below meth c s.heap [] 0 0 (rt_Qi D rt_cl (rt_t cI cZ) rtC_X (rtC_W cI cZ A) below ([.ref (A 0), .int a1] : List Value).toArray s r' σ') (F0 m 0 ls [])
  unfold M_C_RangeTeller_cell at hm
  refine lv_aload_n hx hb d_RangeTeller_cell_0 rfl (lv_at hl 0 rfl) ?_
  refine va_get (D := D) (v := .int (σ 0 5)) (C := "RangeTeller") (T := rt_T0) (N := 7) hx hb hts rt_i0 hown hK hP 0 rfl rfl 5 (by decide) (hts _ (rt_m rt_w383)) (fun _ h9 => h9) rfl d_RangeTeller_cell_1 ?_
  refine lv_if_eq (tgt := 17) hx hb d_RangeTeller_cell_4 (by decide) (fun hc => ?_) (fun hc => ?_)
  · have hm := (if_pos hc).symm.trans hm
    refine lv_bipush (v := (-3)) hx hb d_RangeTeller_cell_17 (by decide) ?_
    exact W.iret hx hb hr (fun t ht hW => ⟨⟨_, _, rfl, rt_pr hm, rt_end rtC_Xo hK hP hS hX ht hW⟩, hS.F ht⟩) hS.2.2 d_RangeTeller_cell_19
  · have hm := (if_neg hc).symm.trans hm
    refine lv_iload_n hx hb d_RangeTeller_cell_7 rfl (lv_at hl 1 rfl) ?_
    refine lv_if_lt (tgt := 17) hx hb d_RangeTeller_cell_8 (by decide) (fun hc => ?_) (fun hc => ?_)
    · have hm := (if_pos hc).symm.trans hm
      refine lv_bipush (v := (-3)) hx hb d_RangeTeller_cell_17 (by decide) ?_
      exact W.iret hx hb hr (fun t ht hW => ⟨⟨_, _, rfl, rt_pr hm, rt_end rtC_Xo hK hP hS hX ht hW⟩, hS.F ht⟩) hS.2.2 d_RangeTeller_cell_19
    · have hm := (if_neg hc).symm.trans hm
      refine lv_iload_n hx hb d_RangeTeller_cell_11 rfl (lv_at hl 1 rfl) ?_
      refine lv_bipush (v := 16) hx hb d_RangeTeller_cell_12 (by decide) ?_
      refine lv_icmp_lt (tgt := 20) hx hb d_RangeTeller_cell_14 (by decide) (fun hc => ?_) (fun hc => ?_)
      · have hm := (if_pos hc).symm.trans hm
        refine lv_aload_n hx hb d_RangeTeller_cell_20 rfl (lv_at hl 0 rfl) ?_
        refine va_get (D := D) (v := .ref (A 29)) (C := "RangeTeller") (T := rt_T0) (N := 7) hx hb hts rt_i0 hown hK hP 0 rfl rfl 4 (by decide) (hts _ (rt_m rt_w382)) (fun _ h9 => h9) rfl d_RangeTeller_cell_21 ?_
        refine va_get (D := D) (v := .ref (A 32)) (C := "RangeTeller$Foreteller") (T := rt_T5) (N := 13) hx hb hts rt_i5 hown hK hP 29 rfl rfl 3 (by decide) (hts _ (rt_m rt_w339)) (fun _ h9 => h9) rfl d_RangeTeller_cell_24 ?_
        refine lv_iload_n hx hb d_RangeTeller_cell_27 rfl (lv_at hl 1 rfl) ?_
        obtain ⟨v1, h2, hm⟩ := rt_b1s hm
        refine rt_ald hx hb hK hP 32 0 rfl rfl h2 d_RangeTeller_cell_28 ?_
        exact W.iret hx hb hr (fun t ht hW => ⟨⟨_, _, rfl, rt_pr hm, rt_end rtC_Xo hK hP hS hX ht hW⟩, hS.F ht⟩) hS.2.2 d_RangeTeller_cell_29
      · have hm := (if_neg hc).symm.trans hm
        refine lv_bipush (v := (-3)) hx hb d_RangeTeller_cell_17 (by decide) ?_
        exact W.iret hx hb hr (fun t ht hW => ⟨⟨_, _, rfl, rt_pr hm, rt_end rtC_Xo hK hP hS hX ht hW⟩, hS.F ht⟩) hS.2.2 d_RangeTeller_cell_19
