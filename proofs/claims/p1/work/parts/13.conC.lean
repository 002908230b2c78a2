set_option maxHeartbeats 4000000 in
set_option maxRecDepth 100000 in
theorem k_C_RangeTeller_function (l : Launch) (D : va_G) (cI cZ : ClassId) (A : Nat → Nat) (hO : rt_Ok (rtC_W cI cZ A)) (σ : rt_St) (a1 a2 : Int32) (r' : Int32) (σ' : rt_St) (hm : M_C_RangeTeller_function σ a1 a2 = some (r', σ')) (sz : Nat) : Met l y_RangeTeller_function (rt_ws y_RangeTeller_function b_RangeTeller_function 3 (some .int)) ({ frames := 0, cells := 0, slots := 0, locals := 0 } : Room) (va_Pc [.ref (A 0), .int a1, .int a2] (rt_P D rt_cl (rt_t cI cZ) rtC_X (rtC_W cI cZ A) sz σ)) (va_Qi (fun r1 u1 => r1 = r' ∧ u1 = σ') (rt_B D rt_cl (rt_t cI cZ) rtC_X (rtC_W cI cZ A)) (rt_A (rtC_W cI cZ A) sz)) 0 0 (rt_A (rtC_W cI cZ A) sz) := by
  refine Met.ofW (cc := b_RangeTeller_function) (maxL := 3) (ret := (some .int)) (by decide) rfl ?_
  intro p e s m args below meth c s₁ B hml hv
  obtain ⟨rfl, rfl, hP, hK, hX⟩ := hv
  have hx := B.exec
  have hb := B.bytes
  have hr := B.returns
  have hts := atoms_spec (ws := (rt_ws y_RangeTeller_function b_RangeTeller_function 3 (some .int))) B.pre
  have hown : s.vm.findClass "RangeTeller" = some m.cls := findClass_of_methodNamed B.named
  have hlocks := B.notSynchronized
  have hD := rt_hD hO s.heap.size
  have hS : va_S (rt_A (rtC_W cI cZ A) s.heap.size) s.heap s.heap [] := va_S.rf
  have hl := lv_entry ([.ref (A 0), .int a1, .int a2]) (n := 3) (Nat.le_of_ble_eq_true rfl)
  rw [lg_entry_eq]
  generalize (lg_sl ([.ref (A 0), .int a1, .int a2]) ++ List.replicate (3 - (lg_sl ([.ref (A 0), .int a1, .int a2])).length) Slot.unset).toArray = ls at hl ⊢
  have hl : lv_has ls 3 [(0, .ref (A 0)), (1, .int a1), (2, .int a2)] := hl
  show W p l e ({ frames := 0, cells := 0, slots := 0, locals := 0 } : Room) s m ([.ref (A 0), .int a1, .int a2] : List Value).toArray below meth c s.heap [] 0 0 (rt_Qi D rt_cl (rt_t cI cZ) rtC_X (rtC_W cI cZ A) below ([.ref (A 0), .int a1, .int a2] : List Value).toArray s r' σ') (F0 m 0 ls [])
  unfold M_C_RangeTeller_function at hm
  refine lv_aload_n hx hb d_RangeTeller_function_0 rfl (lv_at hl 0 rfl) ?_
  refine va_get (D := D) (v := .int (σ 0 5)) (C := "RangeTeller") (T := rt_T0) (N := 7) hx hb hts rt_i0 hown hK hP 0 rfl rfl 5 (by decide) (hts _ (rt_m rt_w383)) (fun _ h9 => h9) rfl d_RangeTeller_function_1 ?_
  refine lv_if_eq (tgt := 22) hx hb d_RangeTeller_function_4 (by decide) (fun hc => ?_) (fun hc => ?_)
  · have hm := (if_pos hc).symm.trans hm
    refine lv_bipush (v := (-3)) hx hb d_RangeTeller_function_22 (by decide) ?_
    exact W.iret hx hb hr (fun t ht hW => ⟨⟨_, _, rfl, rt_pr hm, rt_end rtC_Xo hK hP hS hX ht hW⟩, hS.F ht⟩) hS.2.2 d_RangeTeller_function_24
  · have hm := (if_neg hc).symm.trans hm
    refine lv_iload_n hx hb d_RangeTeller_function_7 rfl (lv_at hl 1 rfl) ?_
    refine lv_if_lt (tgt := 22) hx hb d_RangeTeller_function_8 (by decide) (fun hc => ?_) (fun hc => ?_)
    · have hm := (if_pos hc).symm.trans hm
      refine lv_bipush (v := (-3)) hx hb d_RangeTeller_function_22 (by decide) ?_
      exact W.iret hx hb hr (fun t ht hW => ⟨⟨_, _, rfl, rt_pr hm, rt_end rtC_Xo hK hP hS hX ht hW⟩, hS.F ht⟩) hS.2.2 d_RangeTeller_function_24
    · have hm := (if_neg hc).symm.trans hm
      refine lv_iload_n hx hb d_RangeTeller_function_11 rfl (lv_at hl 1 rfl) ?_
      refine lv_aload_n hx hb d_RangeTeller_function_12 rfl (lv_at hl 0 rfl) ?_
      refine va_get (D := D) (v := .ref (A 1)) (C := "RangeTeller") (T := rt_T0) (N := 7) hx hb hts rt_i0 hown hK hP 0 rfl rfl 0 (by decide) (hts _ (rt_m rt_w378)) (fun _ h9 => h9) rfl d_RangeTeller_function_13 ?_
      refine va_get (D := D) (v := .int (σ 1 13)) (C := "RangeTeller$Program") (T := rt_T1) (N := 14) hx hb hts rt_i1 hown hK hP 1 rfl rfl 13 (by decide) (hts _ (rt_m rt_w170)) (fun _ h9 => h9) rfl d_RangeTeller_function_16 ?_
      refine lv_icmp_lt (tgt := 25) hx hb d_RangeTeller_function_19 (by decide) (fun hc => ?_) (fun hc => ?_)
      · have hm := (if_pos hc).symm.trans hm
        refine lv_iload_n hx hb d_RangeTeller_function_25 rfl (lv_at hl 2 rfl) ?_
        by_cases c1 : a2 = 0
        · have hm := (if_pos c1).symm.trans hm
          refine lv_tableIn (off := 38) (tgt := 64) hx hb d_RangeTeller_function_26 (by rw [c1]; decide) (by rw [c1]; decide) (by rw [c1]; rfl) (by decide) ?_
          refine lv_aload_n hx hb d_RangeTeller_function_64 rfl (lv_at hl 0 rfl) ?_
          refine va_get (D := D) (v := .ref (A 1)) (C := "RangeTeller") (T := rt_T0) (N := 7) hx hb hts rt_i0 hown hK hP 0 rfl rfl 0 (by decide) (hts _ (rt_m rt_w378)) (fun _ h9 => h9) rfl d_RangeTeller_function_65 ?_
          refine va_get (D := D) (v := .ref (A 10)) (C := "RangeTeller$Program") (T := rt_T1) (N := 14) hx hb hts rt_i1 hown hK hP 1 rfl rfl 8 (by decide) (hts _ (rt_m rt_w152)) (fun _ h9 => h9) rfl d_RangeTeller_function_68 ?_
          refine lv_iload_n hx hb d_RangeTeller_function_71 rfl (lv_at hl 1 rfl) ?_
          obtain ⟨v2, h3, hm⟩ := rt_b1s hm
          refine rt_ald hx hb hK hP 10 0 rfl rfl h3 d_RangeTeller_function_72 ?_
          exact W.iret hx hb hr (fun t ht hW => ⟨⟨_, _, rfl, rt_pr hm, rt_end rtC_Xo hK hP hS hX ht hW⟩, hS.F ht⟩) hS.2.2 d_RangeTeller_function_73
        have hm := (if_neg c1).symm.trans hm
        by_cases c4 : a2 = 1
        · have hm := (if_pos c4).symm.trans hm
          refine lv_tableIn (off := 48) (tgt := 74) hx hb d_RangeTeller_function_26 (by rw [c4]; decide) (by rw [c4]; decide) (by rw [c4]; rfl) (by decide) ?_
          refine lv_aload_n hx hb d_RangeTeller_function_74 rfl (lv_at hl 0 rfl) ?_
          refine va_get (D := D) (v := .ref (A 1)) (C := "RangeTeller") (T := rt_T0) (N := 7) hx hb hts rt_i0 hown hK hP 0 rfl rfl 0 (by decide) (hts _ (rt_m rt_w378)) (fun _ h9 => h9) rfl d_RangeTeller_function_75 ?_
          refine va_get (D := D) (v := .ref (A 11)) (C := "RangeTeller$Program") (T := rt_T1) (N := 14) hx hb hts rt_i1 hown hK hP 1 rfl rfl 9 (by decide) (hts _ (rt_m rt_w157)) (fun _ h9 => h9) rfl d_RangeTeller_function_78 ?_
          refine lv_iload_n hx hb d_RangeTeller_function_81 rfl (lv_at hl 1 rfl) ?_
          obtain ⟨v5, h6, hm⟩ := rt_b1s hm
          refine rt_ald hx hb hK hP 11 0 rfl rfl h6 d_RangeTeller_function_82 ?_
          exact W.iret hx hb hr (fun t ht hW => ⟨⟨_, _, rfl, rt_pr hm, rt_end rtC_Xo hK hP hS hX ht hW⟩, hS.F ht⟩) hS.2.2 d_RangeTeller_function_83
        have hm := (if_neg c4).symm.trans hm
        by_cases c7 : a2 = 2
        · have hm := (if_pos c7).symm.trans hm
          refine lv_tableIn (off := 58) (tgt := 84) hx hb d_RangeTeller_function_26 (by rw [c7]; decide) (by rw [c7]; decide) (by rw [c7]; rfl) (by decide) ?_
          refine lv_aload_n hx hb d_RangeTeller_function_84 rfl (lv_at hl 0 rfl) ?_
          refine va_get (D := D) (v := .ref (A 1)) (C := "RangeTeller") (T := rt_T0) (N := 7) hx hb hts rt_i0 hown hK hP 0 rfl rfl 0 (by decide) (hts _ (rt_m rt_w378)) (fun _ h9 => h9) rfl d_RangeTeller_function_85 ?_
          refine va_get (D := D) (v := .ref (A 12)) (C := "RangeTeller$Program") (T := rt_T1) (N := 14) hx hb hts rt_i1 hown hK hP 1 rfl rfl 10 (by decide) (hts _ (rt_m rt_w159)) (fun _ h9 => h9) rfl d_RangeTeller_function_88 ?_
          refine lv_iload_n hx hb d_RangeTeller_function_91 rfl (lv_at hl 1 rfl) ?_
          obtain ⟨v8, h9, hm⟩ := rt_b1s hm
          refine rt_ald hx hb hK hP 12 0 rfl rfl h9 d_RangeTeller_function_92 ?_
          exact W.iret hx hb hr (fun t ht hW => ⟨⟨_, _, rfl, rt_pr hm, rt_end rtC_Xo hK hP hS hX ht hW⟩, hS.F ht⟩) hS.2.2 d_RangeTeller_function_93
        have hm := (if_neg c7).symm.trans hm
        by_cases c10 : a2 = 3
        · have hm := (if_pos c10).symm.trans hm
          refine lv_tableIn (off := 68) (tgt := 94) hx hb d_RangeTeller_function_26 (by rw [c10]; decide) (by rw [c10]; decide) (by rw [c10]; rfl) (by decide) ?_
          refine lv_aload_n hx hb d_RangeTeller_function_94 rfl (lv_at hl 0 rfl) ?_
          refine va_get (D := D) (v := .ref (A 1)) (C := "RangeTeller") (T := rt_T0) (N := 7) hx hb hts rt_i0 hown hK hP 0 rfl rfl 0 (by decide) (hts _ (rt_m rt_w378)) (fun _ h9 => h9) rfl d_RangeTeller_function_95 ?_
          refine va_get (D := D) (v := .ref (A 13)) (C := "RangeTeller$Program") (T := rt_T1) (N := 14) hx hb hts rt_i1 hown hK hP 1 rfl rfl 11 (by decide) (hts _ (rt_m rt_w163)) (fun _ h9 => h9) rfl d_RangeTeller_function_98 ?_
          refine lv_iload_n hx hb d_RangeTeller_function_101 rfl (lv_at hl 1 rfl) ?_
          obtain ⟨v11, h12, hm⟩ := rt_b1s hm
          refine rt_ald hx hb hK hP 13 0 rfl rfl h12 d_RangeTeller_function_102 ?_
          exact W.iret hx hb hr (fun t ht hW => ⟨⟨_, _, rfl, rt_pr hm, rt_end rtC_Xo hK hP hS hX ht hW⟩, hS.F ht⟩) hS.2.2 d_RangeTeller_function_103
        have hm := (if_neg c10).symm.trans hm
        by_cases c13 : a2 = 4
        · have hm := (if_pos c13).symm.trans hm
          refine lv_tableIn (off := 78) (tgt := 104) hx hb d_RangeTeller_function_26 (by rw [c13]; decide) (by rw [c13]; decide) (by rw [c13]; rfl) (by decide) ?_
          refine lv_aload_n hx hb d_RangeTeller_function_104 rfl (lv_at hl 0 rfl) ?_
          refine va_get (D := D) (v := .ref (A 29)) (C := "RangeTeller") (T := rt_T0) (N := 7) hx hb hts rt_i0 hown hK hP 0 rfl rfl 4 (by decide) (hts _ (rt_m rt_w382)) (fun _ h9 => h9) rfl d_RangeTeller_function_105 ?_
          refine va_get (D := D) (v := .ref (A 33)) (C := "RangeTeller$Foreteller") (T := rt_T5) (N := 13) hx hb hts rt_i5 hown hK hP 29 rfl rfl 4 (by decide) (hts _ (rt_m rt_w341)) (fun _ h9 => h9) rfl d_RangeTeller_function_108 ?_
          refine lv_iload_n hx hb d_RangeTeller_function_111 rfl (lv_at hl 1 rfl) ?_
          obtain ⟨v14, h15, hm⟩ := rt_b1s hm
          refine rt_ald hx hb hK hP 33 0 rfl rfl h15 d_RangeTeller_function_112 ?_
          exact W.iret hx hb hr (fun t ht hW => ⟨⟨_, _, rfl, rt_pr hm, rt_end rtC_Xo hK hP hS hX ht hW⟩, hS.F ht⟩) hS.2.2 d_RangeTeller_function_113
        have hm := (if_neg c13).symm.trans hm
        by_cases c16 : a2 = 5
        · have hm := (if_pos c16).symm.trans hm
          refine lv_tableIn (off := 88) (tgt := 114) hx hb d_RangeTeller_function_26 (by rw [c16]; decide) (by rw [c16]; decide) (by rw [c16]; rfl) (by decide) ?_
          refine lv_aload_n hx hb d_RangeTeller_function_114 rfl (lv_at hl 0 rfl) ?_
          refine va_get (D := D) (v := .ref (A 29)) (C := "RangeTeller") (T := rt_T0) (N := 7) hx hb hts rt_i0 hown hK hP 0 rfl rfl 4 (by decide) (hts _ (rt_m rt_w382)) (fun _ h9 => h9) rfl d_RangeTeller_function_115 ?_
          refine va_get (D := D) (v := .ref (A 34)) (C := "RangeTeller$Foreteller") (T := rt_T5) (N := 13) hx hb hts rt_i5 hown hK hP 29 rfl rfl 5 (by decide) (hts _ (rt_m rt_w343)) (fun _ h9 => h9) rfl d_RangeTeller_function_118 ?_
          refine lv_iload_n hx hb d_RangeTeller_function_121 rfl (lv_at hl 1 rfl) ?_
          obtain ⟨v17, h18, hm⟩ := rt_b1s hm
          refine rt_zld hx hb hK hP 34 1 rfl rfl h18 d_RangeTeller_function_122 ?_
          refine lv_if_eq (tgt := 130) hx hb d_RangeTeller_function_123 (by decide) (fun hc => ?_) (fun hc => ?_)
          · have hm := (if_pos hc).symm.trans hm
            refine lv_iconst (v := 0) hx hb d_RangeTeller_function_130 (by decide) ?_
            exact W.iret hx hb hr (fun t ht hW => ⟨⟨_, _, rfl, rt_pr hm, rt_end rtC_Xo hK hP hS hX ht hW⟩, hS.F ht⟩) hS.2.2 d_RangeTeller_function_131
          · have hm := (if_neg hc).symm.trans hm
            refine lv_iconst (v := 1) hx hb d_RangeTeller_function_126 (by decide) ?_
            refine lv_goto (tgt := 131) hx hb d_RangeTeller_function_127 (by decide) ?_
            exact W.iret hx hb hr (fun t ht hW => ⟨⟨_, _, rfl, rt_pr hm, rt_end rtC_Xo hK hP hS hX ht hW⟩, hS.F ht⟩) hS.2.2 d_RangeTeller_function_131
        have hm := (if_neg c16).symm.trans hm
        refine lv_tableOut (tgt := 132) hx hb d_RangeTeller_function_26 (by have := lv_neT (a := 0) c1 rfl; have := lv_neT (a := 1) c4 rfl; have := lv_neT (a := 2) c7 rfl; have := lv_neT (a := 3) c10 rfl; have := lv_neT (a := 4) c13 rfl; have := lv_neT (a := 5) c16 rfl; omega) (by decide) ?_
        refine lv_bipush (v := (-3)) hx hb d_RangeTeller_function_132 (by decide) ?_
        exact W.iret hx hb hr (fun t ht hW => ⟨⟨_, _, rfl, rt_pr hm, rt_end rtC_Xo hK hP hS hX ht hW⟩, hS.F ht⟩) hS.2.2 d_RangeTeller_function_134
      · have hm := (if_neg hc).symm.trans hm
        refine lv_bipush (v := (-3)) hx hb d_RangeTeller_function_22 (by decide) ?_
        exact W.iret hx hb hr (fun t ht hW => ⟨⟨_, _, rfl, rt_pr hm, rt_end rtC_Xo hK hP hS hX ht hW⟩, hS.F ht⟩) hS.2.2 d_RangeTeller_function_24
