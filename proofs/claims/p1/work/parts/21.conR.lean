set_option maxHeartbeats 4000000 in
set_option maxRecDepth 100000 in
theorem k_R_RangeTellerModel_bring (l : Launch) (D : va_G) (cI cZ : ClassId) (A : Nat → Nat) (hO : rt_Ok (rtR_W cI cZ A)) (σ : rt_St) (a1 : Int32) (σ' : rt_St) (hm : M_R_RangeTellerModel_bring σ a1 = some σ') (sz : Nat) : Met l y_RangeTellerModel_bring (rt_ws y_RangeTellerModel_bring b_RangeTellerModel_bring 3 none) ({ frames := 0, cells := 0, slots := 0, locals := 0 } : Room) (va_Pc [.ref (A 0), .int a1] (rt_P D rt_cl (rt_t cI cZ) rtR_X (rtR_W cI cZ A) sz σ)) (va_Qv (fun u1 => u1 = σ') (rt_B D rt_cl (rt_t cI cZ) rtR_X (rtR_W cI cZ A)) (rt_A (rtR_W cI cZ A) sz)) 0 0 (rt_A (rtR_W cI cZ A) sz) := by
  refine Met.ofW (cc := b_RangeTellerModel_bring) (maxL := 3) (ret := none) (by decide) rfl ?_
  intro p e s m args below meth c s₁ B hml hv
  obtain ⟨rfl, rfl, hP, hK, hX⟩ := hv
  have hx := B.exec
  have hb := B.bytes
  have hr := B.returns
  have hts := atoms_spec (ws := (rt_ws y_RangeTellerModel_bring b_RangeTellerModel_bring 3 none)) B.pre
  have hown : s.vm.findClass "RangeTellerModel" = some m.cls := findClass_of_methodNamed B.named
  have hlocks := B.notSynchronized
  have hD := rt_hD hO s.heap.size
  have hS : va_S (rt_A (rtR_W cI cZ A) s.heap.size) s.heap s.heap [] := va_S.rf
  have hl := lv_entry ([.ref (A 0), .int a1]) (n := 3) (Nat.le_of_ble_eq_true rfl)
  rw [lg_entry_eq]
  generalize (lg_sl ([.ref (A 0), .int a1]) ++ List.replicate (3 - (lg_sl ([.ref (A 0), .int a1])).length) Slot.unset).toArray = ls at hl ⊢
  have hl : lv_has ls 3 [(0, .ref (A 0)), (1, .int a1)] := hl
  show W p l e ({ frames := 0, cells := 0, slots := 0, locals := 0 } : Room) s m ([.ref (A 0), .int a1] : List Value).toArray below meth c s.heap [] 0 0 (rt_Qv D rt_cl (rt_t cI cZ) rtR_X (rtR_W cI cZ A) below ([.ref (A 0), .int a1] : List Value).toArray s σ') (F0 m 0 ls [])
  have hB79 : ∀ (n79 : Nat) (ls : Array Slot) (l1 l2 : Int32) (σ : rt_St) (H : Heap) (locs : List Loc), lv_has ls 3 [(0, .ref (A 0)), (1, .int l1), (2, .int l2)] → B_R_RangeTellerModel_bring_79 n79 l1 l2 σ = some σ' → va_P D rt_cl (rtR_W cI cZ A σ) H → va_S (rt_A (rtR_W cI cZ A) s.heap.size) s.heap H locs → W p l e ({ frames := 0, cells := 0, slots := 0, locals := 0 } : Room) s m ([.ref (A 0), .int a1] : List Value).toArray below meth c H locs 0 0 (rt_Qv D rt_cl (rt_t cI cZ) rtR_X (rtR_W cI cZ A) below ([.ref (A 0), .int a1] : List Value).toArray s σ') (F0 m 79 ls []) := by
    intro n79
    induction n79 with
    | zero => intro ls l1 l2 σ H locs hl hm hP hS; rw [B_R_RangeTellerModel_bring_79] at hm; cases hm
    | succ n79 ih79 =>
      intro ls l1 l2 σ H locs hl hm hP hS
      rw [B_R_RangeTellerModel_bring_79] at hm
      refine lv_iload_n hx hb d_RangeTellerModel_bring_79 rfl (lv_at hl 2 rfl) ?_
      refine lv_iconst (v := 4) hx hb d_RangeTellerModel_bring_80 (by decide) ?_
      refine lv_icmp_ge (tgt := 138) hx hb d_RangeTellerModel_bring_81 (by decide) (fun hc => ?_) (fun hc => ?_)
      · have hm := (if_pos hc).symm.trans hm
        exact W.vret hx hb hr (fun t ht hW => ⟨⟨_, rfl, Option.some.inj hm, rt_end rtR_Xo hK hP hS hX ht hW⟩, hS.F ht⟩) hS.2.2 d_RangeTellerModel_bring_138
      · have hm := (if_neg hc).symm.trans hm
        refine lv_aload_n hx hb d_RangeTellerModel_bring_84 rfl (lv_at hl 0 rfl) ?_
        refine va_get (D := D) (v := .ref (A 44)) (C := "RangeTellerModel") (T := rt_T6) (N := 69) hx hb hts rt_i6 hown hK hP 0 rfl rfl 63 (by decide) (hts _ (rt_m rt_w910)) (fun _ h9 => h9) rfl d_RangeTellerModel_bring_85 ?_
        refine lv_iload_n hx hb d_RangeTellerModel_bring_88 rfl (lv_at hl 2 rfl) ?_
        refine lv_aload_n hx hb d_RangeTellerModel_bring_89 rfl (lv_at hl 0 rfl) ?_
        refine va_get (D := D) (v := .ref (A 31)) (C := "RangeTellerModel") (T := rt_T6) (N := 69) hx hb hts rt_i6 hown hK hP 0 rfl rfl 48 (by decide) (hts _ (rt_m rt_w895)) (fun _ h9 => h9) rfl d_RangeTellerModel_bring_90 ?_
        refine lv_iconst (v := 4) hx hb d_RangeTellerModel_bring_93 (by decide) ?_
        refine lv_iload_n hx hb d_RangeTellerModel_bring_94 rfl (lv_at hl 1 rfl) ?_
        refine lv_imul hx hb d_RangeTellerModel_bring_95 ?_
        refine lv_iload_n hx hb d_RangeTellerModel_bring_96 rfl (lv_at hl 2 rfl) ?_
        refine lv_iadd hx hb d_RangeTellerModel_bring_97 ?_
        obtain ⟨v1, h2, hm⟩ := rt_b1s hm
        refine rt_ald hx hb hK hP 31 0 rfl rfl h2 d_RangeTellerModel_bring_98 ?_
        obtain ⟨σ3, h4, hm⟩ := rt_b1s hm
        refine rt_ast hx hb hK hP hD hS 44 0 rfl (rtR_a44 cI cZ A _) rfl h4 d_RangeTellerModel_bring_99 (fun H locs hP hS => ?_)
        refine lv_aload_n hx hb d_RangeTellerModel_bring_100 rfl (lv_at hl 0 rfl) ?_
        refine va_get (D := D) (v := .ref (A 45)) (C := "RangeTellerModel") (T := rt_T6) (N := 69) hx hb hts rt_i6 hown hK hP 0 rfl rfl 64 (by decide) (hts _ (rt_m rt_w911)) (fun _ h9 => h9) rfl d_RangeTellerModel_bring_101 ?_
        refine lv_iload_n hx hb d_RangeTellerModel_bring_104 rfl (lv_at hl 2 rfl) ?_
        refine lv_aload_n hx hb d_RangeTellerModel_bring_105 rfl (lv_at hl 0 rfl) ?_
        refine va_get (D := D) (v := .ref (A 32)) (C := "RangeTellerModel") (T := rt_T6) (N := 69) hx hb hts rt_i6 hown hK hP 0 rfl rfl 49 (by decide) (hts _ (rt_m rt_w896)) (fun _ h9 => h9) rfl d_RangeTellerModel_bring_106 ?_
        refine lv_iconst (v := 4) hx hb d_RangeTellerModel_bring_109 (by decide) ?_
        refine lv_iload_n hx hb d_RangeTellerModel_bring_110 rfl (lv_at hl 1 rfl) ?_
        refine lv_imul hx hb d_RangeTellerModel_bring_111 ?_
        refine lv_iload_n hx hb d_RangeTellerModel_bring_112 rfl (lv_at hl 2 rfl) ?_
        refine lv_iadd hx hb d_RangeTellerModel_bring_113 ?_
        obtain ⟨v5, h6, hm⟩ := rt_b1s hm
        refine rt_ald hx hb hK hP 32 0 rfl rfl h6 d_RangeTellerModel_bring_114 ?_
        obtain ⟨σ7, h8, hm⟩ := rt_b1s hm
        refine rt_ast hx hb hK hP hD hS 45 0 rfl (rtR_a45 cI cZ A _) rfl h8 d_RangeTellerModel_bring_115 (fun H locs hP hS => ?_)
        refine lv_aload_n hx hb d_RangeTellerModel_bring_116 rfl (lv_at hl 0 rfl) ?_
        refine va_get (D := D) (v := .ref (A 46)) (C := "RangeTellerModel") (T := rt_T6) (N := 69) hx hb hts rt_i6 hown hK hP 0 rfl rfl 65 (by decide) (hts _ (rt_m rt_w912)) (fun _ h9 => h9) rfl d_RangeTellerModel_bring_117 ?_
        refine lv_iload_n hx hb d_RangeTellerModel_bring_120 rfl (lv_at hl 2 rfl) ?_
        refine lv_aload_n hx hb d_RangeTellerModel_bring_121 rfl (lv_at hl 0 rfl) ?_
        refine va_get (D := D) (v := .ref (A 33)) (C := "RangeTellerModel") (T := rt_T6) (N := 69) hx hb hts rt_i6 hown hK hP 0 rfl rfl 50 (by decide) (hts _ (rt_m rt_w897)) (fun _ h9 => h9) rfl d_RangeTellerModel_bring_122 ?_
        refine lv_iconst (v := 4) hx hb d_RangeTellerModel_bring_125 (by decide) ?_
        refine lv_iload_n hx hb d_RangeTellerModel_bring_126 rfl (lv_at hl 1 rfl) ?_
        refine lv_imul hx hb d_RangeTellerModel_bring_127 ?_
        refine lv_iload_n hx hb d_RangeTellerModel_bring_128 rfl (lv_at hl 2 rfl) ?_
        refine lv_iadd hx hb d_RangeTellerModel_bring_129 ?_
        obtain ⟨v9, h10, hm⟩ := rt_b1s hm
        refine rt_zld hx hb hK hP 33 1 rfl rfl h10 d_RangeTellerModel_bring_130 ?_
        obtain ⟨σ11, h12, hm⟩ := rt_b1s hm
        refine rt_zst hx hb hK hP hD hS 46 1 rfl (rtR_a46 cI cZ A _) rfl rfl h12 d_RangeTellerModel_bring_131 (fun H locs hP hS => ?_)
        refine lv_iinc (k := 2) (v := (l2 + 1)) hx hb d_RangeTellerModel_bring_132 hl rfl rfl (by decide) rfl (fun ls hl => ?_)
        have hl : lv_has ls 3 [(2, .int (l2 + 1)), (0, .ref (A 0)), (1, .int l1)] := hl
        refine lv_goto (tgt := 79) hx hb d_RangeTellerModel_bring_135 (by decide) ?_
        exact ih79 ls l1 (l2 + 1) σ11 _ _ (lv_sub hl [1, 2, 0] rfl) hm hP hS
  have hB12 : ∀ (n12 : Nat) (ls : Array Slot) (l1 l2 : Int32) (σ : rt_St) (H : Heap) (locs : List Loc), lv_has ls 3 [(0, .ref (A 0)), (1, .int l1), (2, .int l2)] → B_R_RangeTellerModel_bring_12 n12 l1 l2 σ = some σ' → va_P D rt_cl (rtR_W cI cZ A σ) H → va_S (rt_A (rtR_W cI cZ A) s.heap.size) s.heap H locs → W p l e ({ frames := 0, cells := 0, slots := 0, locals := 0 } : Room) s m ([.ref (A 0), .int a1] : List Value).toArray below meth c H locs 0 0 (rt_Qv D rt_cl (rt_t cI cZ) rtR_X (rtR_W cI cZ A) below ([.ref (A 0), .int a1] : List Value).toArray s σ') (F0 m 12 ls []) := by
    intro n12
    induction n12 with
    | zero => intro ls l1 l2 σ H locs hl hm hP hS; rw [B_R_RangeTellerModel_bring_12] at hm; cases hm
    | succ n12 ih12 =>
      intro ls l1 l2 σ H locs hl hm hP hS
      rw [B_R_RangeTellerModel_bring_12] at hm
      refine lv_iload_n hx hb d_RangeTellerModel_bring_12 rfl (lv_at hl 2 rfl) ?_
      refine lv_aload_n hx hb d_RangeTellerModel_bring_13 rfl (lv_at hl 0 rfl) ?_
      refine va_get (D := D) (v := .int (σ 0 59)) (C := "RangeTellerModel") (T := rt_T6) (N := 69) hx hb hts rt_i6 hown hK hP 0 rfl rfl 59 (by decide) (hts _ (rt_m rt_w906)) (fun _ h9 => h9) rfl d_RangeTellerModel_bring_14 ?_
      refine lv_icmp_ge (tgt := 77) hx hb d_RangeTellerModel_bring_17 (by decide) (fun hc => ?_) (fun hc => ?_)
      · have hm := (if_pos hc).symm.trans hm
        refine lv_iconst (v := 0) hx hb d_RangeTellerModel_bring_77 (by decide) ?_
        refine lv_istore_n hx hb d_RangeTellerModel_bring_78 rfl hl (by decide) rfl (fun ls hl => ?_)
        have hl : lv_has ls 3 [(2, .int 0), (0, .ref (A 0)), (1, .int l1)] := hl
        exact hB79 _ ls l1 0 σ _ _ (lv_sub hl [1, 2, 0] rfl) hm hP hS
      · have hm := (if_neg hc).symm.trans hm
        refine lv_aload_n hx hb d_RangeTellerModel_bring_20 rfl (lv_at hl 0 rfl) ?_
        refine va_get (D := D) (v := .ref (A 41)) (C := "RangeTellerModel") (T := rt_T6) (N := 69) hx hb hts rt_i6 hown hK hP 0 rfl rfl 60 (by decide) (hts _ (rt_m rt_w907)) (fun _ h9 => h9) rfl d_RangeTellerModel_bring_21 ?_
        refine lv_iload_n hx hb d_RangeTellerModel_bring_24 rfl (lv_at hl 2 rfl) ?_
        refine lv_aload_n hx hb d_RangeTellerModel_bring_25 rfl (lv_at hl 0 rfl) ?_
        refine va_get (D := D) (v := .ref (A 28)) (C := "RangeTellerModel") (T := rt_T6) (N := 69) hx hb hts rt_i6 hown hK hP 0 rfl rfl 45 (by decide) (hts _ (rt_m rt_w892)) (fun _ h9 => h9) rfl d_RangeTellerModel_bring_26 ?_
        refine lv_bipush (v := 10) hx hb d_RangeTellerModel_bring_29 (by decide) ?_
        refine lv_iload_n hx hb d_RangeTellerModel_bring_31 rfl (lv_at hl 1 rfl) ?_
        refine lv_imul hx hb d_RangeTellerModel_bring_32 ?_
        refine lv_iload_n hx hb d_RangeTellerModel_bring_33 rfl (lv_at hl 2 rfl) ?_
        refine lv_iadd hx hb d_RangeTellerModel_bring_34 ?_
        obtain ⟨v13, h14, hm⟩ := rt_b1s hm
        refine rt_ald hx hb hK hP 28 0 rfl rfl h14 d_RangeTellerModel_bring_35 ?_
        obtain ⟨σ15, h16, hm⟩ := rt_b1s hm
        refine rt_ast hx hb hK hP hD hS 41 0 rfl (rtR_a41 cI cZ A _) rfl h16 d_RangeTellerModel_bring_36 (fun H locs hP hS => ?_)
        refine lv_aload_n hx hb d_RangeTellerModel_bring_37 rfl (lv_at hl 0 rfl) ?_
        refine va_get (D := D) (v := .ref (A 42)) (C := "RangeTellerModel") (T := rt_T6) (N := 69) hx hb hts rt_i6 hown hK hP 0 rfl rfl 61 (by decide) (hts _ (rt_m rt_w908)) (fun _ h9 => h9) rfl d_RangeTellerModel_bring_38 ?_
        refine lv_iload_n hx hb d_RangeTellerModel_bring_41 rfl (lv_at hl 2 rfl) ?_
        refine lv_aload_n hx hb d_RangeTellerModel_bring_42 rfl (lv_at hl 0 rfl) ?_
        refine va_get (D := D) (v := .ref (A 29)) (C := "RangeTellerModel") (T := rt_T6) (N := 69) hx hb hts rt_i6 hown hK hP 0 rfl rfl 46 (by decide) (hts _ (rt_m rt_w893)) (fun _ h9 => h9) rfl d_RangeTellerModel_bring_43 ?_
        refine lv_bipush (v := 10) hx hb d_RangeTellerModel_bring_46 (by decide) ?_
        refine lv_iload_n hx hb d_RangeTellerModel_bring_48 rfl (lv_at hl 1 rfl) ?_
        refine lv_imul hx hb d_RangeTellerModel_bring_49 ?_
        refine lv_iload_n hx hb d_RangeTellerModel_bring_50 rfl (lv_at hl 2 rfl) ?_
        refine lv_iadd hx hb d_RangeTellerModel_bring_51 ?_
        obtain ⟨v17, h18, hm⟩ := rt_b1s hm
        refine rt_ald hx hb hK hP 29 0 rfl rfl h18 d_RangeTellerModel_bring_52 ?_
        obtain ⟨σ19, h20, hm⟩ := rt_b1s hm
        refine rt_ast hx hb hK hP hD hS 42 0 rfl (rtR_a42 cI cZ A _) rfl h20 d_RangeTellerModel_bring_53 (fun H locs hP hS => ?_)
        refine lv_aload_n hx hb d_RangeTellerModel_bring_54 rfl (lv_at hl 0 rfl) ?_
        refine va_get (D := D) (v := .ref (A 43)) (C := "RangeTellerModel") (T := rt_T6) (N := 69) hx hb hts rt_i6 hown hK hP 0 rfl rfl 62 (by decide) (hts _ (rt_m rt_w909)) (fun _ h9 => h9) rfl d_RangeTellerModel_bring_55 ?_
        refine lv_iload_n hx hb d_RangeTellerModel_bring_58 rfl (lv_at hl 2 rfl) ?_
        refine lv_aload_n hx hb d_RangeTellerModel_bring_59 rfl (lv_at hl 0 rfl) ?_
        refine va_get (D := D) (v := .ref (A 30)) (C := "RangeTellerModel") (T := rt_T6) (N := 69) hx hb hts rt_i6 hown hK hP 0 rfl rfl 47 (by decide) (hts _ (rt_m rt_w894)) (fun _ h9 => h9) rfl d_RangeTellerModel_bring_60 ?_
        refine lv_bipush (v := 10) hx hb d_RangeTellerModel_bring_63 (by decide) ?_
        refine lv_iload_n hx hb d_RangeTellerModel_bring_65 rfl (lv_at hl 1 rfl) ?_
        refine lv_imul hx hb d_RangeTellerModel_bring_66 ?_
        refine lv_iload_n hx hb d_RangeTellerModel_bring_67 rfl (lv_at hl 2 rfl) ?_
        refine lv_iadd hx hb d_RangeTellerModel_bring_68 ?_
        obtain ⟨v21, h22, hm⟩ := rt_b1s hm
        refine rt_zld hx hb hK hP 30 1 rfl rfl h22 d_RangeTellerModel_bring_69 ?_
        obtain ⟨σ23, h24, hm⟩ := rt_b1s hm
        refine rt_zst hx hb hK hP hD hS 43 1 rfl (rtR_a43 cI cZ A _) rfl rfl h24 d_RangeTellerModel_bring_70 (fun H locs hP hS => ?_)
        refine lv_iinc (k := 2) (v := (l2 + 1)) hx hb d_RangeTellerModel_bring_71 hl rfl rfl (by decide) rfl (fun ls hl => ?_)
        have hl : lv_has ls 3 [(2, .int (l2 + 1)), (0, .ref (A 0)), (1, .int l1)] := hl
        refine lv_goto (tgt := 12) hx hb d_RangeTellerModel_bring_74 (by decide) ?_
        exact ih12 ls l1 (l2 + 1) σ23 _ _ (lv_sub hl [1, 2, 0] rfl) hm hP hS
  unfold M_R_RangeTellerModel_bring at hm
  refine lv_aload_n hx hb d_RangeTellerModel_bring_0 rfl (lv_at hl 0 rfl) ?_
  refine lv_aload_n hx hb d_RangeTellerModel_bring_1 rfl (lv_at hl 0 rfl) ?_
  refine va_get (D := D) (v := .ref (A 7)) (C := "RangeTellerModel") (T := rt_T6) (N := 69) hx hb hts rt_i6 hown hK hP 0 rfl rfl 12 (by decide) (hts _ (rt_m rt_w859)) (fun _ h9 => h9) rfl d_RangeTellerModel_bring_2 ?_
  refine lv_iload_n hx hb d_RangeTellerModel_bring_5 rfl (lv_at hl 1 rfl) ?_
  obtain ⟨v25, h26, hm⟩ := rt_b1s hm
  refine rt_ald hx hb hK hP 7 0 rfl rfl h26 d_RangeTellerModel_bring_6 ?_
  obtain ⟨σ27, h28, hm⟩ := rt_b1s hm
  refine rt_pf (D := D) (C := "RangeTellerModel") (T := rt_T6) (N := 69) (ty := .int) hx hb hts rt_i6 rt_y6 rt_o6 rt_n6 hown hK hP hD hS 0 rfl rfl 59 (by decide) (hts _ (rt_m rt_w906)) (fun _ h9 => h9) rfl (by decide +kernel) rfl rfl (Nat.le_of_ble_eq_true rfl) (rtR_s0_59 cI cZ A _ _) h28 d_RangeTellerModel_bring_7 (fun H locs hP hS => ?_)
  refine lv_iconst (v := 0) hx hb d_RangeTellerModel_bring_10 (by decide) ?_
  refine lv_istore_n hx hb d_RangeTellerModel_bring_11 rfl hl (by decide) rfl (fun ls hl => ?_)
  have hl : lv_has ls 3 [(2, .int 0), (0, .ref (A 0)), (1, .int a1)] := hl
  exact hB12 _ ls a1 0 σ27 _ _ (lv_sub hl [1, 2, 0] rfl) hm hP hS
set_option maxHeartbeats 4000000 in
set_option maxRecDepth 100000 in
theorem k_R_RangeTellerModel_set (l : Launch) (D : va_G) (cI cZ : ClassId) (A : Nat → Nat) (hO : rt_Ok (rtR_W cI cZ A)) (σ : rt_St) (a1 a2 a3 a4 : Int32) (σ' : rt_St) (hm : M_R_RangeTellerModel_set σ a1 a2 a3 a4 = some σ') (sz : Nat) : Met l y_RangeTellerModel_set (rt_ws y_RangeTellerModel_set b_RangeTellerModel_set 5 none) ({ frames := 0, cells := 0, slots := 0, locals := 0 } : Room) (va_Pc [.ref (A 0), .int a1, .int a2, .int a3, .int a4] (rt_P D rt_cl (rt_t cI cZ) rtR_X (rtR_W cI cZ A) sz σ)) (va_Qv (fun u1 => u1 = σ') (rt_B D rt_cl (rt_t cI cZ) rtR_X (rtR_W cI cZ A)) (rt_A (rtR_W cI cZ A) sz)) 0 0 (rt_A (rtR_W cI cZ A) sz) := by
  refine Met.ofW (cc := b_RangeTellerModel_set) (maxL := 5) (ret := none) (by decide) rfl ?_
  intro p e s m args below meth c s₁ B hml hv
  obtain ⟨rfl, rfl, hP, hK, hX⟩ := hv
  have hx := B.exec
  have hb := B.bytes
  have hr := B.returns
  have hts := atoms_spec (ws := (rt_ws y_RangeTellerModel_set b_RangeTellerModel_set 5 none)) B.pre
  have hown : s.vm.findClass "RangeTellerModel" = some m.cls := findClass_of_methodNamed B.named
  have hlocks := B.notSynchronized
  have hD := rt_hD hO s.heap.size
  have hS : va_S (rt_A (rtR_W cI cZ A) s.heap.size) s.heap s.heap [] := va_S.rf
  have hl := lv_entry ([.ref (A 0), .int a1, .int a2, .int a3, .int a4]) (n := 5) (Nat.le_of_ble_eq_true rfl)
  rw [lg_entry_eq]
  generalize (lg_sl ([.ref (A 0), .int a1, .int a2, .int a3, .int a4]) ++ List.replicate (5 - (lg_sl ([.ref (A 0), .int a1, .int a2, .int a3, .int a4])).length) Slot.unset).toArray = ls at hl ⊢
  have hl : lv_has ls 5 [(0, .ref (A 0)), (1, .int a1), (2, .int a2), (3, .int a3), (4, .int a4)] := hl
  show W p l e ({ frames := 0, cells := 0, slots := 0, locals := 0 } : Room) s m ([.ref (A 0), .int a1, .int a2, .int a3, .int a4] : List Value).toArray below meth c s.heap [] 0 0 (rt_Qv D rt_cl (rt_t cI cZ) rtR_X (rtR_W cI cZ A) below ([.ref (A 0), .int a1, .int a2, .int a3, .int a4] : List Value).toArray s σ') (F0 m 0 ls [])
  unfold M_R_RangeTellerModel_set at hm
  refine lv_aload_n hx hb d_RangeTellerModel_set_0 rfl (lv_at hl 0 rfl) ?_
  refine va_get (D := D) (v := .ref (A 41)) (C := "RangeTellerModel") (T := rt_T6) (N := 69) hx hb hts rt_i6 hown hK hP 0 rfl rfl 60 (by decide) (hts _ (rt_m rt_w907)) (fun _ h9 => h9) rfl d_RangeTellerModel_set_1 ?_
  refine lv_iload_n hx hb d_RangeTellerModel_set_4 rfl (lv_at hl 1 rfl) ?_
  refine lv_iload_n hx hb d_RangeTellerModel_set_5 rfl (lv_at hl 2 rfl) ?_
  obtain ⟨σ1, h2, hm⟩ := rt_b1s hm
  refine rt_ast hx hb hK hP hD hS 41 0 rfl (rtR_a41 cI cZ A _) rfl h2 d_RangeTellerModel_set_6 (fun H locs hP hS => ?_)
  refine lv_aload_n hx hb d_RangeTellerModel_set_7 rfl (lv_at hl 0 rfl) ?_
  refine va_get (D := D) (v := .ref (A 42)) (C := "RangeTellerModel") (T := rt_T6) (N := 69) hx hb hts rt_i6 hown hK hP 0 rfl rfl 61 (by decide) (hts _ (rt_m rt_w908)) (fun _ h9 => h9) rfl d_RangeTellerModel_set_8 ?_
  refine lv_iload_n hx hb d_RangeTellerModel_set_11 rfl (lv_at hl 1 rfl) ?_
  refine lv_iload_n hx hb d_RangeTellerModel_set_12 rfl (lv_at hl 3 rfl) ?_
  obtain ⟨σ3, h4, hm⟩ := rt_b1s hm
  refine rt_ast hx hb hK hP hD hS 42 0 rfl (rtR_a42 cI cZ A _) rfl h4 d_RangeTellerModel_set_13 (fun H locs hP hS => ?_)
  refine lv_aload_n hx hb d_RangeTellerModel_set_14 rfl (lv_at hl 0 rfl) ?_
  refine va_get (D := D) (v := .ref (A 43)) (C := "RangeTellerModel") (T := rt_T6) (N := 69) hx hb hts rt_i6 hown hK hP 0 rfl rfl 62 (by decide) (hts _ (rt_m rt_w909)) (fun _ h9 => h9) rfl d_RangeTellerModel_set_15 ?_
  refine lv_iload_n hx hb d_RangeTellerModel_set_18 rfl (lv_at hl 1 rfl) ?_
  refine lv_iload hx hb d_RangeTellerModel_set_19 (lv_at hl 4 rfl) ?_
  obtain ⟨σ5, h6, hm⟩ := rt_b1s hm
  refine rt_zst hx hb hK hP hD hS 43 1 rfl (rtR_a43 cI cZ A _) rfl rfl h6 d_RangeTellerModel_set_21 (fun H locs hP hS => ?_)
  exact W.vret hx hb hr (fun t ht hW => ⟨⟨_, rfl, Option.some.inj hm, rt_end rtR_Xo hK hP hS hX ht hW⟩, hS.F ht⟩) hS.2.2 d_RangeTellerModel_set_22
set_option maxHeartbeats 4000000 in
set_option maxRecDepth 100000 in
theorem k_R_RangeTellerModel_wake (l : Launch) (D : va_G) (cI cZ : ClassId) (A : Nat → Nat) (hO : rt_Ok (rtR_W cI cZ A)) (σ : rt_St) (a1 a2 : Int32) (σ' : rt_St) (hm : M_R_RangeTellerModel_wake σ a1 a2 = some σ') (sz : Nat) : Met l y_RangeTellerModel_wake (rt_ws y_RangeTellerModel_wake b_RangeTellerModel_wake 4 none) ({ frames := 0, cells := 0, slots := 0, locals := 0 } : Room) (va_Pc [.ref (A 0), .int a1, .int a2] (rt_P D rt_cl (rt_t cI cZ) rtR_X (rtR_W cI cZ A) sz σ)) (va_Qv (fun u1 => u1 = σ') (rt_B D rt_cl (rt_t cI cZ) rtR_X (rtR_W cI cZ A)) (rt_A (rtR_W cI cZ A) sz)) 0 0 (rt_A (rtR_W cI cZ A) sz) := by
  refine Met.ofW (cc := b_RangeTellerModel_wake) (maxL := 4) (ret := none) (by decide) rfl ?_
  intro p e s m args below meth c s₁ B hml hv
  obtain ⟨rfl, rfl, hP, hK, hX⟩ := hv
  have hx := B.exec
  have hb := B.bytes
  have hr := B.returns
  have hts := atoms_spec (ws := (rt_ws y_RangeTellerModel_wake b_RangeTellerModel_wake 4 none)) B.pre
  have hown : s.vm.findClass "RangeTellerModel" = some m.cls := findClass_of_methodNamed B.named
  have hlocks := B.notSynchronized
  have hD := rt_hD hO s.heap.size
  have hS : va_S (rt_A (rtR_W cI cZ A) s.heap.size) s.heap s.heap [] := va_S.rf
  have hl := lv_entry ([.ref (A 0), .int a1, .int a2]) (n := 4) (Nat.le_of_ble_eq_true rfl)
  rw [lg_entry_eq]
  generalize (lg_sl ([.ref (A 0), .int a1, .int a2]) ++ List.replicate (4 - (lg_sl ([.ref (A 0), .int a1, .int a2])).length) Slot.unset).toArray = ls at hl ⊢
  have hl : lv_has ls 4 [(0, .ref (A 0)), (1, .int a1), (2, .int a2)] := hl
  show W p l e ({ frames := 0, cells := 0, slots := 0, locals := 0 } : Room) s m ([.ref (A 0), .int a1, .int a2] : List Value).toArray below meth c s.heap [] 0 0 (rt_Qv D rt_cl (rt_t cI cZ) rtR_X (rtR_W cI cZ A) below ([.ref (A 0), .int a1, .int a2] : List Value).toArray s σ') (F0 m 0 ls [])
  have hB2 : ∀ (n2 : Nat) (ls : Array Slot) (l1 l2 l3 : Int32) (σ : rt_St) (H : Heap) (locs : List Loc), lv_has ls 4 [(0, .ref (A 0)), (1, .int l1), (2, .int l2), (3, .int l3)] → B_R_RangeTellerModel_wake_2 n2 l1 l2 l3 σ = some σ' → va_P D rt_cl (rtR_W cI cZ A σ) H → va_S (rt_A (rtR_W cI cZ A) s.heap.size) s.heap H locs → W p l e ({ frames := 0, cells := 0, slots := 0, locals := 0 } : Room) s m ([.ref (A 0), .int a1, .int a2] : List Value).toArray below meth c H locs 0 0 (rt_Qv D rt_cl (rt_t cI cZ) rtR_X (rtR_W cI cZ A) below ([.ref (A 0), .int a1, .int a2] : List Value).toArray s σ') (F0 m 2 ls []) := by
    intro n2
    induction n2 with
    | zero => intro ls l1 l2 l3 σ H locs hl hm hP hS; rw [B_R_RangeTellerModel_wake_2] at hm; cases hm
    | succ n2 ih2 =>
      have hB50 : ∀ (ls : Array Slot) (l1 l2 l3 : Int32) (σ : rt_St) (H : Heap) (locs : List Loc), lv_has ls 4 [(0, .ref (A 0)), (1, .int l1), (2, .int l2), (3, .int l3)] → B_R_RangeTellerModel_wake_50 (B_R_RangeTellerModel_wake_2 n2) l1 l2 l3 σ = some σ' → va_P D rt_cl (rtR_W cI cZ A σ) H → va_S (rt_A (rtR_W cI cZ A) s.heap.size) s.heap H locs → W p l e ({ frames := 0, cells := 0, slots := 0, locals := 0 } : Room) s m ([.ref (A 0), .int a1, .int a2] : List Value).toArray below meth c H locs 0 0 (rt_Qv D rt_cl (rt_t cI cZ) rtR_X (rtR_W cI cZ A) below ([.ref (A 0), .int a1, .int a2] : List Value).toArray s σ') (F0 m 50 ls []) := by
        intro ls l1 l2 l3 σ H locs hl hm hP hS
        unfold B_R_RangeTellerModel_wake_50 at hm
        refine lv_iinc (k := 3) (v := (l3 + 1)) hx hb d_RangeTellerModel_wake_50 hl rfl rfl (by decide) rfl (fun ls hl => ?_)
        have hl : lv_has ls 4 [(3, .int (l3 + 1)), (0, .ref (A 0)), (1, .int l1), (2, .int l2)] := hl
        refine lv_goto (tgt := 2) hx hb d_RangeTellerModel_wake_53 (by decide) ?_
        exact ih2 ls l1 l2 (l3 + 1) σ _ _ (lv_sub hl [1, 2, 3, 0] rfl) hm hP hS
      have hB43 : ∀ (ls : Array Slot) (l1 l2 l3 : Int32) (σ : rt_St) (H : Heap) (locs : List Loc), lv_has ls 4 [(0, .ref (A 0)), (1, .int l1), (2, .int l2), (3, .int l3)] → B_R_RangeTellerModel_wake_43 (B_R_RangeTellerModel_wake_2 n2) l1 l2 l3 σ = some σ' → va_P D rt_cl (rtR_W cI cZ A σ) H → va_S (rt_A (rtR_W cI cZ A) s.heap.size) s.heap H locs → W p l e ({ frames := 0, cells := 0, slots := 0, locals := 0 } : Room) s m ([.ref (A 0), .int a1, .int a2] : List Value).toArray below meth c H locs 0 0 (rt_Qv D rt_cl (rt_t cI cZ) rtR_X (rtR_W cI cZ A) below ([.ref (A 0), .int a1, .int a2] : List Value).toArray s σ') (F0 m 43 ls []) := by
        intro ls l1 l2 l3 σ H locs hl hm hP hS
        unfold B_R_RangeTellerModel_wake_43 at hm
        refine lv_aload_n hx hb d_RangeTellerModel_wake_43 rfl (lv_at hl 0 rfl) ?_
        refine va_get (D := D) (v := .ref (A 27)) (C := "RangeTellerModel") (T := rt_T6) (N := 69) hx hb hts rt_i6 hown hK hP 0 rfl rfl 44 (by decide) (hts _ (rt_m rt_w891)) (fun _ h9 => h9) rfl d_RangeTellerModel_wake_44 ?_
        refine lv_iload_n hx hb d_RangeTellerModel_wake_47 rfl (lv_at hl 3 rfl) ?_
        refine lv_iconst (v := 1) hx hb d_RangeTellerModel_wake_48 (by decide) ?_
        obtain ⟨σ1, h2, hm⟩ := rt_b1s hm
        refine rt_zst hx hb hK hP hD hS 27 1 rfl (rtR_a27 cI cZ A _) rfl rfl h2 d_RangeTellerModel_wake_49 (fun H locs hP hS => ?_)
        exact hB50 ls l1 l2 l3 σ1 _ _ (lv_sub hl [0, 1, 2, 3] rfl) hm hP hS
      intro ls l1 l2 l3 σ H locs hl hm hP hS
      rw [B_R_RangeTellerModel_wake_2] at hm
      refine lv_iload_n hx hb d_RangeTellerModel_wake_2 rfl (lv_at hl 3 rfl) ?_
      refine lv_aload_n hx hb d_RangeTellerModel_wake_3 rfl (lv_at hl 0 rfl) ?_
      refine va_get (D := D) (v := .int (σ 0 6)) (C := "RangeTellerModel") (T := rt_T6) (N := 69) hx hb hts rt_i6 hown hK hP 0 rfl rfl 6 (by decide) (hts _ (rt_m rt_w853)) (fun _ h9 => h9) rfl d_RangeTellerModel_wake_4 ?_
      refine lv_icmp_ge (tgt := 56) hx hb d_RangeTellerModel_wake_7 (by decide) (fun hc => ?_) (fun hc => ?_)
      · have hm := (if_pos hc).symm.trans hm
        refine lv_aload_n hx hb d_RangeTellerModel_wake_56 rfl (lv_at hl 0 rfl) ?_
        refine lv_iconst (v := 1) hx hb d_RangeTellerModel_wake_57 (by decide) ?_
        obtain ⟨σ3, h4, hm⟩ := rt_b1s hm
        refine rt_pf (D := D) (C := "RangeTellerModel") (T := rt_T6) (N := 69) (ty := .boolean) hx hb hts rt_i6 rt_y6 rt_o6 rt_n6 hown hK hP hD hS 0 rfl rfl 58 (by decide) (hts _ (rt_m rt_w905)) (fun _ h9 => h9) rfl (by decide +kernel) rfl rfl (Nat.le_of_ble_eq_true rfl) (rtR_s0_58 cI cZ A _ _) h4 d_RangeTellerModel_wake_58 (fun H locs hP hS => ?_)
        exact W.vret hx hb hr (fun t ht hW => ⟨⟨_, rfl, Option.some.inj hm, rt_end rtR_Xo hK hP hS hX ht hW⟩, hS.F ht⟩) hS.2.2 d_RangeTellerModel_wake_61
      · have hm := (if_neg hc).symm.trans hm
        refine lv_aload_n hx hb d_RangeTellerModel_wake_10 rfl (lv_at hl 0 rfl) ?_
        refine va_get (D := D) (v := .ref (A 26)) (C := "RangeTellerModel") (T := rt_T6) (N := 69) hx hb hts rt_i6 hown hK hP 0 rfl rfl 43 (by decide) (hts _ (rt_m rt_w890)) (fun _ h9 => h9) rfl d_RangeTellerModel_wake_11 ?_
        refine lv_iload_n hx hb d_RangeTellerModel_wake_14 rfl (lv_at hl 3 rfl) ?_
        obtain ⟨v5, h6, hm⟩ := rt_b1s hm
        refine rt_zld hx hb hK hP 26 1 rfl rfl h6 d_RangeTellerModel_wake_15 ?_
        refine lv_if_eq (tgt := 50) hx hb d_RangeTellerModel_wake_16 (by decide) (fun hc => ?_) (fun hc => ?_)
        · have hm := (if_pos hc).symm.trans hm
          exact hB50 ls l1 l2 l3 σ _ _ (lv_sub hl [0, 1, 2, 3] rfl) hm hP hS
        · have hm := (if_neg hc).symm.trans hm
          refine lv_aload_n hx hb d_RangeTellerModel_wake_19 rfl (lv_at hl 0 rfl) ?_
          refine va_get (D := D) (v := .ref (A 2)) (C := "RangeTellerModel") (T := rt_T6) (N := 69) hx hb hts rt_i6 hown hK hP 0 rfl rfl 7 (by decide) (hts _ (rt_m rt_w854)) (fun _ h9 => h9) rfl d_RangeTellerModel_wake_20 ?_
          refine lv_iload_n hx hb d_RangeTellerModel_wake_23 rfl (lv_at hl 3 rfl) ?_
          obtain ⟨v7, h8, hm⟩ := rt_b1s hm
          refine rt_ald hx hb hK hP 2 0 rfl rfl h8 d_RangeTellerModel_wake_24 ?_
          refine lv_iload_n hx hb d_RangeTellerModel_wake_25 rfl (lv_at hl 1 rfl) ?_
          refine lv_icmp_ne (tgt := 50) hx hb d_RangeTellerModel_wake_26 (by decide) (fun hc => ?_) (fun hc => ?_)
          · have hm := (if_neg hc).symm.trans hm
            exact hB50 ls l1 l2 l3 σ _ _ (lv_sub hl [0, 1, 2, 3] rfl) hm hP hS
          · have hm := (if_pos hc).symm.trans hm
            refine lv_iload_n hx hb d_RangeTellerModel_wake_29 rfl (lv_at hl 2 rfl) ?_
            refine lv_if_lt (tgt := 43) hx hb d_RangeTellerModel_wake_30 (by decide) (fun hc => ?_) (fun hc => ?_)
            · have hm := (if_pos hc).symm.trans hm
              exact hB43 ls l1 l2 l3 σ _ _ (lv_sub hl [0, 1, 2, 3] rfl) hm hP hS
            · have hm := (if_neg hc).symm.trans hm
              refine lv_aload_n hx hb d_RangeTellerModel_wake_33 rfl (lv_at hl 0 rfl) ?_
              refine va_get (D := D) (v := .ref (A 3)) (C := "RangeTellerModel") (T := rt_T6) (N := 69) hx hb hts rt_i6 hown hK hP 0 rfl rfl 8 (by decide) (hts _ (rt_m rt_w855)) (fun _ h9 => h9) rfl d_RangeTellerModel_wake_34 ?_
              refine lv_iload_n hx hb d_RangeTellerModel_wake_37 rfl (lv_at hl 3 rfl) ?_
              obtain ⟨v9, h10, hm⟩ := rt_b1s hm
              refine rt_ald hx hb hK hP 3 0 rfl rfl h10 d_RangeTellerModel_wake_38 ?_
              refine lv_iload_n hx hb d_RangeTellerModel_wake_39 rfl (lv_at hl 2 rfl) ?_
              refine lv_icmp_ne (tgt := 50) hx hb d_RangeTellerModel_wake_40 (by decide) (fun hc => ?_) (fun hc => ?_)
              · have hm := (if_neg hc).symm.trans hm
                exact hB50 ls l1 l2 l3 σ _ _ (lv_sub hl [0, 1, 2, 3] rfl) hm hP hS
              · have hm := (if_pos hc).symm.trans hm
                exact hB43 ls l1 l2 l3 σ _ _ (lv_sub hl [0, 1, 2, 3] rfl) hm hP hS
  unfold M_R_RangeTellerModel_wake at hm
  refine lv_iconst (v := 0) hx hb d_RangeTellerModel_wake_0 (by decide) ?_
  refine lv_istore_n hx hb d_RangeTellerModel_wake_1 rfl hl (by decide) rfl (fun ls hl => ?_)
  have hl : lv_has ls 4 [(3, .int 0), (0, .ref (A 0)), (1, .int a1), (2, .int a2)] := hl
  exact hB2 _ ls a1 a2 0 σ _ _ (lv_sub hl [1, 2, 3, 0] rfl) hm hP hS
set_option maxHeartbeats 4000000 in
set_option maxRecDepth 100000 in
theorem k_R_RangeTellerModel_ending (l : Launch) (D : va_G) (cI cZ : ClassId) (A : Nat → Nat) (hO : rt_Ok (rtR_W cI cZ A)) (σ : rt_St) (a1 : Int32) (σ' : rt_St) (hm : M_R_RangeTellerModel_ending σ a1 = some σ') (sz : Nat) : Met l y_RangeTellerModel_ending (rt_ws y_RangeTellerModel_ending b_RangeTellerModel_ending 6 none) ({ frames := 1, cells := 0, slots := 0, locals := 23 } : Room) (va_Pc [.ref (A 0), .int a1] (rt_P D rt_cl (rt_t cI cZ) rtR_X (rtR_W cI cZ A) sz σ)) (va_Qv (fun u1 => u1 = σ') (rt_B D rt_cl (rt_t cI cZ) rtR_X (rtR_W cI cZ A)) (rt_A (rtR_W cI cZ A) sz)) 0 0 (rt_A (rtR_W cI cZ A) sz) := by
  refine Met.ofW (cc := b_RangeTellerModel_ending) (maxL := 6) (ret := none) (by decide) rfl ?_
  intro p e s m args below meth c s₁ B hml hv
  obtain ⟨rfl, rfl, hP, hK, hX⟩ := hv
  have hx := B.exec
  have hb := B.bytes
  have hr := B.returns
  have hts := atoms_spec (ws := (rt_ws y_RangeTellerModel_ending b_RangeTellerModel_ending 6 none)) B.pre
  have hown : s.vm.findClass "RangeTellerModel" = some m.cls := findClass_of_methodNamed B.named
  have hlocks := B.notSynchronized
  have hD := rt_hD hO s.heap.size
  have hS : va_S (rt_A (rtR_W cI cZ A) s.heap.size) s.heap s.heap [] := va_S.rf
  have hl := lv_entry ([.ref (A 0), .int a1]) (n := 6) (Nat.le_of_ble_eq_true rfl)
  rw [lg_entry_eq]
  generalize (lg_sl ([.ref (A 0), .int a1]) ++ List.replicate (6 - (lg_sl ([.ref (A 0), .int a1])).length) Slot.unset).toArray = ls at hl ⊢
  have hl : lv_has ls 6 [(0, .ref (A 0)), (1, .int a1)] := hl
  show W p l e ({ frames := 1, cells := 0, slots := 0, locals := 23 } : Room) s m ([.ref (A 0), .int a1] : List Value).toArray below meth c s.heap [] 0 0 (rt_Qv D rt_cl (rt_t cI cZ) rtR_X (rtR_W cI cZ A) below ([.ref (A 0), .int a1] : List Value).toArray s σ') (F0 m 0 ls [])
  have hB246 : ∀ (ls : Array Slot) (l2 l3 : Int32) (σ : rt_St) (H : Heap) (locs : List Loc), lv_has ls 6 [(0, .ref (A 0)), (2, .int l2), (3, .int l3)] → B_R_RangeTellerModel_ending_246 l2 l3 σ = some σ' → va_P D rt_cl (rtR_W cI cZ A σ) H → va_S (rt_A (rtR_W cI cZ A) s.heap.size) s.heap H locs → W p l e ({ frames := 1, cells := 0, slots := 0, locals := 23 } : Room) s m ([.ref (A 0), .int a1] : List Value).toArray below meth c H locs 0 0 (rt_Qv D rt_cl (rt_t cI cZ) rtR_X (rtR_W cI cZ A) below ([.ref (A 0), .int a1] : List Value).toArray s σ') (F0 m 246 ls []) := by
    intro ls l2 l3 σ H locs hl hm hP hS
    unfold B_R_RangeTellerModel_ending_246 at hm
    refine lv_iload_n hx hb d_RangeTellerModel_ending_246 rfl (lv_at hl 2 rfl) ?_
    refine lv_if_eq (tgt := 257) hx hb d_RangeTellerModel_ending_247 (by decide) (fun hc => ?_) (fun hc => ?_)
    · have hm := (if_pos hc).symm.trans hm
      exact W.vret hx hb hr (fun t ht hW => ⟨⟨_, rfl, Option.some.inj hm, rt_end rtR_Xo hK hP hS hX ht hW⟩, hS.F ht⟩) hS.2.2 d_RangeTellerModel_ending_257
    · have hm := (if_neg hc).symm.trans hm
      refine lv_aload_n hx hb d_RangeTellerModel_ending_250 rfl (lv_at hl 0 rfl) ?_
      refine lv_bipush (v := 9) hx hb d_RangeTellerModel_ending_251 (by decide) ?_
      refine lv_iload_n hx hb d_RangeTellerModel_ending_253 rfl (lv_at hl 1 rfl) ?_
      obtain ⟨σ2, h1, hm⟩ := rt_b1s hm
      refine rt_cvv (As := [.int 9, .int l2]) (rest := []) (k := 0) rtR_Xo ⟨hx, hb, hml, hown, hts⟩ (k_R_RangeTellerModel_wake l D cI cZ A hO σ 9 l2 _ h1) (cw_RangeTellerModel_wake hts (hts _ (rt_m rt_w1157)) ⟨Nat.le_of_ble_eq_true rfl, Nat.le_of_ble_eq_true rfl⟩) hK hP hS hX rfl rfl rfl hl.1 rfl (Nat.le_of_ble_eq_true rfl) d_RangeTellerModel_ending_254 ⟨Nat.zero_le _, Nat.zero_le _⟩ (fun H locs hP hS => ?_)
      exact W.vret hx hb hr (fun t ht hW => ⟨⟨_, rfl, Option.some.inj hm, rt_end rtR_Xo hK hP hS hX ht hW⟩, hS.F ht⟩) hS.2.2 d_RangeTellerModel_ending_257
  have hB245 : ∀ (ls : Array Slot) (l2 l3 t0 t1 : Int32) (σ : rt_St) (H : Heap) (locs : List Loc), lv_has ls 6 [(0, .ref (A 0)), (2, .int l2), (3, .int l3)] → B_R_RangeTellerModel_ending_245 l2 l3 t0 t1 σ = some σ' → va_P D rt_cl (rtR_W cI cZ A σ) H → va_S (rt_A (rtR_W cI cZ A) s.heap.size) s.heap H locs → W p l e ({ frames := 1, cells := 0, slots := 0, locals := 23 } : Room) s m ([.ref (A 0), .int a1] : List Value).toArray below meth c H locs 0 0 (rt_Qv D rt_cl (rt_t cI cZ) rtR_X (rtR_W cI cZ A) below ([.ref (A 0), .int a1] : List Value).toArray s σ') (F0 m 245 ls [.int t0, .int t1, .ref (A 39)]) := by
    intro ls l2 l3 t0 t1 σ H locs hl hm hP hS
    unfold B_R_RangeTellerModel_ending_245 at hm
    obtain ⟨σ3, h4, hm⟩ := rt_b1s hm
    refine rt_zst hx hb hK hP hD hS 39 1 rfl (rtR_a39 cI cZ A _) rfl rfl h4 d_RangeTellerModel_ending_245 (fun H locs hP hS => ?_)
    exact hB246 ls l2 l3 σ3 _ _ (lv_sub hl [0, 1, 2] rfl) hm hP hS
  have hB240 : ∀ (ls : Array Slot) (l2 l3 t0 : Int32) (σ : rt_St) (H : Heap) (locs : List Loc), lv_has ls 6 [(0, .ref (A 0)), (2, .int l2), (3, .int l3)] → B_R_RangeTellerModel_ending_240 l2 l3 t0 σ = some σ' → va_P D rt_cl (rtR_W cI cZ A σ) H → va_S (rt_A (rtR_W cI cZ A) s.heap.size) s.heap H locs → W p l e ({ frames := 1, cells := 0, slots := 0, locals := 23 } : Room) s m ([.ref (A 0), .int a1] : List Value).toArray below meth c H locs 0 0 (rt_Qv D rt_cl (rt_t cI cZ) rtR_X (rtR_W cI cZ A) below ([.ref (A 0), .int a1] : List Value).toArray s σ') (F0 m 240 ls [.int t0, .ref (A 39)]) := by
    intro ls l2 l3 t0 σ H locs hl hm hP hS
    unfold B_R_RangeTellerModel_ending_240 at hm
    refine lv_iconst (v := 1) hx hb d_RangeTellerModel_ending_240 (by decide) ?_
    refine lv_goto (tgt := 245) hx hb d_RangeTellerModel_ending_241 (by decide) ?_
    exact hB245 ls l2 l3 1 t0 σ _ _ (lv_sub hl [0, 1, 2] rfl) hm hP hS
  have hB215 : ∀ (ls : Array Slot) (l2 l3 l4 t0 t1 : Int32) (σ : rt_St) (H : Heap) (locs : List Loc), lv_has ls 6 [(0, .ref (A 0)), (2, .int l2), (3, .int l3), (4, .int l4)] → B_R_RangeTellerModel_ending_215 l2 l3 l4 t0 t1 σ = some σ' → va_P D rt_cl (rtR_W cI cZ A σ) H → va_S (rt_A (rtR_W cI cZ A) s.heap.size) s.heap H locs → W p l e ({ frames := 1, cells := 0, slots := 0, locals := 23 } : Room) s m ([.ref (A 0), .int a1] : List Value).toArray below meth c H locs 0 0 (rt_Qv D rt_cl (rt_t cI cZ) rtR_X (rtR_W cI cZ A) below ([.ref (A 0), .int a1] : List Value).toArray s σ') (F0 m 215 ls [.int t0, .int t1, .ref (A 38)]) := by
    intro ls l2 l3 l4 t0 t1 σ H locs hl hm hP hS
    unfold B_R_RangeTellerModel_ending_215 at hm
    obtain ⟨σ5, h6, hm⟩ := rt_b1s hm
    refine rt_ast hx hb hK hP hD hS 38 0 rfl (rtR_a38 cI cZ A _) rfl h6 d_RangeTellerModel_ending_215 (fun H locs hP hS => ?_)
    refine lv_aload_n hx hb d_RangeTellerModel_ending_216 rfl (lv_at hl 0 rfl) ?_
    refine va_get (D := D) (v := .ref (A 39)) (C := "RangeTellerModel") (T := rt_T6) (N := 69) hx hb hts rt_i6 hown hK hP 0 rfl rfl 56 (by decide) (hts _ (rt_m rt_w903)) (fun _ h9 => h9) rfl d_RangeTellerModel_ending_217 ?_
    refine lv_iload_n hx hb d_RangeTellerModel_ending_220 rfl (lv_at hl 1 rfl) ?_
    refine lv_aload_n hx hb d_RangeTellerModel_ending_221 rfl (lv_at hl 0 rfl) ?_
    refine va_get (D := D) (v := .ref (A 39)) (C := "RangeTellerModel") (T := rt_T6) (N := 69) hx hb hts rt_i6 hown hK hP 0 rfl rfl 56 (by decide) (hts _ (rt_m rt_w903)) (fun _ h9 => h9) rfl d_RangeTellerModel_ending_222 ?_
    refine lv_iload_n hx hb d_RangeTellerModel_ending_225 rfl (lv_at hl 1 rfl) ?_
    obtain ⟨v7, h8, hm⟩ := rt_b1s hm
    refine rt_zld hx hb hK hP 39 1 rfl rfl h8 d_RangeTellerModel_ending_226 ?_
    refine lv_if_ne (tgt := 240) hx hb d_RangeTellerModel_ending_227 (by decide) (fun hc => ?_) (fun hc => ?_)
    · have hm := (if_neg hc).symm.trans hm
      exact hB240 ls l2 l3 l2 σ5 _ _ (lv_sub hl [0, 1, 2] rfl) hm hP hS
    · have hm := (if_pos hc).symm.trans hm
      refine lv_aload_n hx hb d_RangeTellerModel_ending_230 rfl (lv_at hl 0 rfl) ?_
      refine va_get (D := D) (v := .ref (A 43)) (C := "RangeTellerModel") (T := rt_T6) (N := 69) hx hb hts rt_i6 hown hK hP 0 rfl rfl 62 (by decide) (hts _ (rt_m rt_w909)) (fun _ h9 => h9) rfl d_RangeTellerModel_ending_231 ?_
      refine lv_iload hx hb d_RangeTellerModel_ending_234 (lv_at hl 3 rfl) ?_
      obtain ⟨v9, h10, hm⟩ := rt_b1s hm
      refine rt_zld hx hb hK hP 43 1 rfl rfl h10 d_RangeTellerModel_ending_236 ?_
      refine lv_if_eq (tgt := 244) hx hb d_RangeTellerModel_ending_237 (by decide) (fun hc => ?_) (fun hc => ?_)
      · have hm := (if_pos hc).symm.trans hm
        refine lv_iconst (v := 0) hx hb d_RangeTellerModel_ending_244 (by decide) ?_
        exact hB245 ls l2 l3 0 l2 σ5 _ _ (lv_sub hl [0, 1, 2] rfl) hm hP hS
      · have hm := (if_neg hc).symm.trans hm
        exact hB240 ls l2 l3 l2 σ5 _ _ (lv_sub hl [0, 1, 2] rfl) hm hP hS
  have hB199 : ∀ (ls : Array Slot) (l2 l3 l4 t0 : Int32) (σ : rt_St) (H : Heap) (locs : List Loc), lv_has ls 6 [(0, .ref (A 0)), (2, .int l2), (3, .int l3), (4, .int l4)] → B_R_RangeTellerModel_ending_199 l2 l3 l4 t0 σ = some σ' → va_P D rt_cl (rtR_W cI cZ A σ) H → va_S (rt_A (rtR_W cI cZ A) s.heap.size) s.heap H locs → W p l e ({ frames := 1, cells := 0, slots := 0, locals := 23 } : Room) s m ([.ref (A 0), .int a1] : List Value).toArray below meth c H locs 0 0 (rt_Qv D rt_cl (rt_t cI cZ) rtR_X (rtR_W cI cZ A) below ([.ref (A 0), .int a1] : List Value).toArray s σ') (F0 m 199 ls [.int t0, .ref (A 38)]) := by
    intro ls l2 l3 l4 t0 σ H locs hl hm hP hS
    unfold B_R_RangeTellerModel_ending_199 at hm
    refine lv_aload_n hx hb d_RangeTellerModel_ending_199 rfl (lv_at hl 0 rfl) ?_
    refine va_get (D := D) (v := .ref (A 42)) (C := "RangeTellerModel") (T := rt_T6) (N := 69) hx hb hts rt_i6 hown hK hP 0 rfl rfl 61 (by decide) (hts _ (rt_m rt_w908)) (fun _ h9 => h9) rfl d_RangeTellerModel_ending_200 ?_
    refine lv_iload hx hb d_RangeTellerModel_ending_203 (lv_at hl 3 rfl) ?_
    obtain ⟨v11, h12, hm⟩ := rt_b1s hm
    refine rt_ald hx hb hK hP 42 0 rfl rfl h12 d_RangeTellerModel_ending_205 ?_
    refine lv_goto (tgt := 215) hx hb d_RangeTellerModel_ending_206 (by decide) ?_
    exact hB215 ls l2 l3 l4 v11 t0 σ _ _ (lv_sub hl [0, 1, 2, 3] rfl) hm hP hS
  have hB172 : ∀ (ls : Array Slot) (l2 l3 l4 l5 t0 t1 : Int32) (σ : rt_St) (H : Heap) (locs : List Loc), lv_has ls 6 [(0, .ref (A 0)), (2, .int l2), (3, .int l3), (4, .int l4), (5, .int l5)] → B_R_RangeTellerModel_ending_172 l2 l3 l4 l5 t0 t1 σ = some σ' → va_P D rt_cl (rtR_W cI cZ A σ) H → va_S (rt_A (rtR_W cI cZ A) s.heap.size) s.heap H locs → W p l e ({ frames := 1, cells := 0, slots := 0, locals := 23 } : Room) s m ([.ref (A 0), .int a1] : List Value).toArray below meth c H locs 0 0 (rt_Qv D rt_cl (rt_t cI cZ) rtR_X (rtR_W cI cZ A) below ([.ref (A 0), .int a1] : List Value).toArray s σ') (F0 m 172 ls [.int t0, .int t1, .ref (A 37)]) := by
    intro ls l2 l3 l4 l5 t0 t1 σ H locs hl hm hP hS
    unfold B_R_RangeTellerModel_ending_172 at hm
    obtain ⟨σ13, h14, hm⟩ := rt_b1s hm
    refine rt_ast hx hb hK hP hD hS 37 0 rfl (rtR_a37 cI cZ A _) rfl h14 d_RangeTellerModel_ending_172 (fun H locs hP hS => ?_)
    refine lv_aload_n hx hb d_RangeTellerModel_ending_173 rfl (lv_at hl 0 rfl) ?_
    refine va_get (D := D) (v := .ref (A 38)) (C := "RangeTellerModel") (T := rt_T6) (N := 69) hx hb hts rt_i6 hown hK hP 0 rfl rfl 55 (by decide) (hts _ (rt_m rt_w902)) (fun _ h9 => h9) rfl d_RangeTellerModel_ending_174 ?_
    refine lv_iload_n hx hb d_RangeTellerModel_ending_177 rfl (lv_at hl 1 rfl) ?_
    refine lv_iload hx hb d_RangeTellerModel_ending_178 (lv_at hl 4 rfl) ?_
    refine lv_if_ne (tgt := 199) hx hb d_RangeTellerModel_ending_180 (by decide) (fun hc => ?_) (fun hc => ?_)
    · have hm := (if_neg hc).symm.trans hm
      exact hB199 ls l2 l3 l4 l2 σ13 _ _ (lv_sub hl [0, 1, 2, 3] rfl) hm hP hS
    · have hm := (if_pos hc).symm.trans hm
      refine lv_aload_n hx hb d_RangeTellerModel_ending_183 rfl (lv_at hl 0 rfl) ?_
      refine va_get (D := D) (v := .ref (A 42)) (C := "RangeTellerModel") (T := rt_T6) (N := 69) hx hb hts rt_i6 hown hK hP 0 rfl rfl 61 (by decide) (hts _ (rt_m rt_w908)) (fun _ h9 => h9) rfl d_RangeTellerModel_ending_184 ?_
      refine lv_iload hx hb d_RangeTellerModel_ending_187 (lv_at hl 3 rfl) ?_
      obtain ⟨v15, h16, hm⟩ := rt_b1s hm
      refine rt_ald hx hb hK hP 42 0 rfl rfl h16 d_RangeTellerModel_ending_189 ?_
      refine lv_aload_n hx hb d_RangeTellerModel_ending_190 rfl (lv_at hl 0 rfl) ?_
      refine va_get (D := D) (v := .ref (A 38)) (C := "RangeTellerModel") (T := rt_T6) (N := 69) hx hb hts rt_i6 hown hK hP 0 rfl rfl 55 (by decide) (hts _ (rt_m rt_w902)) (fun _ h9 => h9) rfl d_RangeTellerModel_ending_191 ?_
      refine lv_iload_n hx hb d_RangeTellerModel_ending_194 rfl (lv_at hl 1 rfl) ?_
      obtain ⟨v17, h18, hm⟩ := rt_b1s hm
      refine rt_ald hx hb hK hP 38 0 rfl rfl h18 d_RangeTellerModel_ending_195 ?_
      refine lv_icmp_le (tgt := 209) hx hb d_RangeTellerModel_ending_196 (by decide) (fun hc => ?_) (fun hc => ?_)
      · have hm := (if_pos hc).symm.trans hm
        refine lv_aload_n hx hb d_RangeTellerModel_ending_209 rfl (lv_at hl 0 rfl) ?_
        refine va_get (D := D) (v := .ref (A 38)) (C := "RangeTellerModel") (T := rt_T6) (N := 69) hx hb hts rt_i6 hown hK hP 0 rfl rfl 55 (by decide) (hts _ (rt_m rt_w902)) (fun _ h9 => h9) rfl d_RangeTellerModel_ending_210 ?_
        refine lv_iload_n hx hb d_RangeTellerModel_ending_213 rfl (lv_at hl 1 rfl) ?_
        obtain ⟨v19, h20, hm⟩ := rt_b1s hm
        refine rt_ald hx hb hK hP 38 0 rfl rfl h20 d_RangeTellerModel_ending_214 ?_
        exact hB215 ls l2 l3 l4 v19 l2 σ13 _ _ (lv_sub hl [0, 1, 2, 3] rfl) hm hP hS
      · have hm := (if_neg hc).symm.trans hm
        exact hB199 ls l2 l3 l4 l2 σ13 _ _ (lv_sub hl [0, 1, 2, 3] rfl) hm hP hS
  have hB156 : ∀ (ls : Array Slot) (l2 l3 l4 l5 t0 : Int32) (σ : rt_St) (H : Heap) (locs : List Loc), lv_has ls 6 [(0, .ref (A 0)), (2, .int l2), (3, .int l3), (4, .int l4), (5, .int l5)] → B_R_RangeTellerModel_ending_156 l2 l3 l4 l5 t0 σ = some σ' → va_P D rt_cl (rtR_W cI cZ A σ) H → va_S (rt_A (rtR_W cI cZ A) s.heap.size) s.heap H locs → W p l e ({ frames := 1, cells := 0, slots := 0, locals := 23 } : Room) s m ([.ref (A 0), .int a1] : List Value).toArray below meth c H locs 0 0 (rt_Qv D rt_cl (rt_t cI cZ) rtR_X (rtR_W cI cZ A) below ([.ref (A 0), .int a1] : List Value).toArray s σ') (F0 m 156 ls [.int t0, .ref (A 37)]) := by
    intro ls l2 l3 l4 l5 t0 σ H locs hl hm hP hS
    unfold B_R_RangeTellerModel_ending_156 at hm
    refine lv_aload_n hx hb d_RangeTellerModel_ending_156 rfl (lv_at hl 0 rfl) ?_
    refine va_get (D := D) (v := .ref (A 41)) (C := "RangeTellerModel") (T := rt_T6) (N := 69) hx hb hts rt_i6 hown hK hP 0 rfl rfl 60 (by decide) (hts _ (rt_m rt_w907)) (fun _ h9 => h9) rfl d_RangeTellerModel_ending_157 ?_
    refine lv_iload hx hb d_RangeTellerModel_ending_160 (lv_at hl 3 rfl) ?_
    obtain ⟨v21, h22, hm⟩ := rt_b1s hm
    refine rt_ald hx hb hK hP 41 0 rfl rfl h22 d_RangeTellerModel_ending_162 ?_
    refine lv_goto (tgt := 172) hx hb d_RangeTellerModel_ending_163 (by decide) ?_
    exact hB172 ls l2 l3 l4 l5 v21 t0 σ _ _ (lv_sub hl [0, 1, 2, 3, 4] rfl) hm hP hS
  have hB129 : ∀ (ls : Array Slot) (l2 l4 l5 t0 : Int32) (σ : rt_St) (H : Heap) (locs : List Loc), lv_has ls 6 [(0, .ref (A 0)), (2, .int l2), (4, .int l4), (5, .int l5)] → B_R_RangeTellerModel_ending_129 l2 l4 l5 t0 σ = some σ' → va_P D rt_cl (rtR_W cI cZ A σ) H → va_S (rt_A (rtR_W cI cZ A) s.heap.size) s.heap H locs → W p l e ({ frames := 1, cells := 0, slots := 0, locals := 23 } : Room) s m ([.ref (A 0), .int a1] : List Value).toArray below meth c H locs 0 0 (rt_Qv D rt_cl (rt_t cI cZ) rtR_X (rtR_W cI cZ A) below ([.ref (A 0), .int a1] : List Value).toArray s σ') (F0 m 129 ls [.int t0]) := by
    intro ls l2 l4 l5 t0 σ H locs hl hm hP hS
    unfold B_R_RangeTellerModel_ending_129 at hm
    refine lv_istore_n hx hb d_RangeTellerModel_ending_129 rfl hl (by decide) rfl (fun ls hl => ?_)
    have hl : lv_has ls 6 [(3, .int t0), (0, .ref (A 0)), (2, .int l2), (4, .int l4), (5, .int l5)] := hl
    refine lv_aload_n hx hb d_RangeTellerModel_ending_130 rfl (lv_at hl 1 rfl) ?_
    refine va_get (D := D) (v := .ref (A 37)) (C := "RangeTellerModel") (T := rt_T6) (N := 69) hx hb hts rt_i6 hown hK hP 0 rfl rfl 54 (by decide) (hts _ (rt_m rt_w901)) (fun _ h9 => h9) rfl d_RangeTellerModel_ending_131 ?_
    refine lv_iload_n hx hb d_RangeTellerModel_ending_134 rfl (lv_at hl 2 rfl) ?_
    refine lv_iload hx hb d_RangeTellerModel_ending_135 (lv_at hl 4 rfl) ?_
    refine lv_if_ne (tgt := 156) hx hb d_RangeTellerModel_ending_137 (by decide) (fun hc => ?_) (fun hc => ?_)
    · have hm := (if_neg hc).symm.trans hm
      exact hB156 ls l2 t0 l4 l5 l2 σ _ _ (lv_sub hl [1, 2, 0, 3, 4] rfl) hm hP hS
    · have hm := (if_pos hc).symm.trans hm
      refine lv_aload_n hx hb d_RangeTellerModel_ending_140 rfl (lv_at hl 1 rfl) ?_
      refine va_get (D := D) (v := .ref (A 41)) (C := "RangeTellerModel") (T := rt_T6) (N := 69) hx hb hts rt_i6 hown hK hP 0 rfl rfl 60 (by decide) (hts _ (rt_m rt_w907)) (fun _ h9 => h9) rfl d_RangeTellerModel_ending_141 ?_
      refine lv_iload hx hb d_RangeTellerModel_ending_144 (lv_at hl 3 rfl) ?_
      obtain ⟨v23, h24, hm⟩ := rt_b1s hm
      refine rt_ald hx hb hK hP 41 0 rfl rfl h24 d_RangeTellerModel_ending_146 ?_
      refine lv_aload_n hx hb d_RangeTellerModel_ending_147 rfl (lv_at hl 1 rfl) ?_
      refine va_get (D := D) (v := .ref (A 37)) (C := "RangeTellerModel") (T := rt_T6) (N := 69) hx hb hts rt_i6 hown hK hP 0 rfl rfl 54 (by decide) (hts _ (rt_m rt_w901)) (fun _ h9 => h9) rfl d_RangeTellerModel_ending_148 ?_
      refine lv_iload_n hx hb d_RangeTellerModel_ending_151 rfl (lv_at hl 2 rfl) ?_
      obtain ⟨v25, h26, hm⟩ := rt_b1s hm
      refine rt_ald hx hb hK hP 37 0 rfl rfl h26 d_RangeTellerModel_ending_152 ?_
      refine lv_icmp_ge (tgt := 166) hx hb d_RangeTellerModel_ending_153 (by decide) (fun hc => ?_) (fun hc => ?_)
      · have hm := (if_pos hc).symm.trans hm
        refine lv_aload_n hx hb d_RangeTellerModel_ending_166 rfl (lv_at hl 1 rfl) ?_
        refine va_get (D := D) (v := .ref (A 37)) (C := "RangeTellerModel") (T := rt_T6) (N := 69) hx hb hts rt_i6 hown hK hP 0 rfl rfl 54 (by decide) (hts _ (rt_m rt_w901)) (fun _ h9 => h9) rfl d_RangeTellerModel_ending_167 ?_
        refine lv_iload_n hx hb d_RangeTellerModel_ending_170 rfl (lv_at hl 2 rfl) ?_
        obtain ⟨v27, h28, hm⟩ := rt_b1s hm
        refine rt_ald hx hb hK hP 37 0 rfl rfl h28 d_RangeTellerModel_ending_171 ?_
        exact hB172 ls l2 t0 l4 l5 v27 l2 σ _ _ (lv_sub hl [1, 2, 0, 3, 4] rfl) hm hP hS
      · have hm := (if_neg hc).symm.trans hm
        exact hB156 ls l2 t0 l4 l5 l2 σ _ _ (lv_sub hl [1, 2, 0, 3, 4] rfl) hm hP hS
  have hB124 : ∀ (ls : Array Slot) (l2 l4 l5 : Int32) (σ : rt_St) (H : Heap) (locs : List Loc), lv_has ls 6 [(0, .ref (A 0)), (2, .int l2), (4, .int l4), (5, .int l5)] → B_R_RangeTellerModel_ending_124 l2 l4 l5 σ = some σ' → va_P D rt_cl (rtR_W cI cZ A σ) H → va_S (rt_A (rtR_W cI cZ A) s.heap.size) s.heap H locs → W p l e ({ frames := 1, cells := 0, slots := 0, locals := 23 } : Room) s m ([.ref (A 0), .int a1] : List Value).toArray below meth c H locs 0 0 (rt_Qv D rt_cl (rt_t cI cZ) rtR_X (rtR_W cI cZ A) below ([.ref (A 0), .int a1] : List Value).toArray s σ') (F0 m 124 ls []) := by
    intro ls l2 l4 l5 σ H locs hl hm hP hS
    unfold B_R_RangeTellerModel_ending_124 at hm
    refine lv_iconst (v := 1) hx hb d_RangeTellerModel_ending_124 (by decide) ?_
    refine lv_goto (tgt := 129) hx hb d_RangeTellerModel_ending_125 (by decide) ?_
    exact hB129 ls l2 l4 l5 1 σ _ _ (lv_sub hl [0, 1, 2, 3] rfl) hm hP hS
  have hB128 : ∀ (ls : Array Slot) (l2 l4 l5 : Int32) (σ : rt_St) (H : Heap) (locs : List Loc), lv_has ls 6 [(0, .ref (A 0)), (2, .int l2), (4, .int l4), (5, .int l5)] → B_R_RangeTellerModel_ending_128 l2 l4 l5 σ = some σ' → va_P D rt_cl (rtR_W cI cZ A σ) H → va_S (rt_A (rtR_W cI cZ A) s.heap.size) s.heap H locs → W p l e ({ frames := 1, cells := 0, slots := 0, locals := 23 } : Room) s m ([.ref (A 0), .int a1] : List Value).toArray below meth c H locs 0 0 (rt_Qv D rt_cl (rt_t cI cZ) rtR_X (rtR_W cI cZ A) below ([.ref (A 0), .int a1] : List Value).toArray s σ') (F0 m 128 ls []) := by
    intro ls l2 l4 l5 σ H locs hl hm hP hS
    unfold B_R_RangeTellerModel_ending_128 at hm
    refine lv_iconst (v := 0) hx hb d_RangeTellerModel_ending_128 (by decide) ?_
    exact hB129 ls l2 l4 l5 0 σ _ _ (lv_sub hl [0, 1, 2, 3] rfl) hm hP hS
  have hB67 : ∀ (ls : Array Slot) (l2 l3 l4 t0 : Int32) (σ : rt_St) (H : Heap) (locs : List Loc), lv_has ls 6 [(0, .ref (A 0)), (2, .int l2), (3, .int l3), (4, .int l4)] → B_R_RangeTellerModel_ending_67 l2 l3 l4 t0 σ = some σ' → va_P D rt_cl (rtR_W cI cZ A σ) H → va_S (rt_A (rtR_W cI cZ A) s.heap.size) s.heap H locs → W p l e ({ frames := 1, cells := 0, slots := 0, locals := 23 } : Room) s m ([.ref (A 0), .int a1] : List Value).toArray below meth c H locs 0 0 (rt_Qv D rt_cl (rt_t cI cZ) rtR_X (rtR_W cI cZ A) below ([.ref (A 0), .int a1] : List Value).toArray s σ') (F0 m 67 ls [.int t0]) := by
    intro ls l2 l3 l4 t0 σ H locs hl hm hP hS
    unfold B_R_RangeTellerModel_ending_67 at hm
    refine lv_istore hx hb d_RangeTellerModel_ending_67 hl (by decide) rfl (fun ls hl => ?_)
    have hl : lv_has ls 6 [(5, .int t0), (0, .ref (A 0)), (2, .int l2), (3, .int l3), (4, .int l4)] := hl
    refine lv_iload_n hx hb d_RangeTellerModel_ending_69 rfl (lv_at hl 3 rfl) ?_
    refine lv_if_ne (tgt := 124) hx hb d_RangeTellerModel_ending_70 (by decide) (fun hc => ?_) (fun hc => ?_)
    · have hm := (if_neg hc).symm.trans hm
      exact hB124 ls l2 l4 t0 σ _ _ (lv_sub hl [1, 2, 4, 0] rfl) hm hP hS
    · have hm := (if_pos hc).symm.trans hm
      refine lv_aload_n hx hb d_RangeTellerModel_ending_73 rfl (lv_at hl 1 rfl) ?_
      refine va_get (D := D) (v := .ref (A 41)) (C := "RangeTellerModel") (T := rt_T6) (N := 69) hx hb hts rt_i6 hown hK hP 0 rfl rfl 60 (by decide) (hts _ (rt_m rt_w907)) (fun _ h9 => h9) rfl d_RangeTellerModel_ending_74 ?_
      refine lv_iload hx hb d_RangeTellerModel_ending_77 (lv_at hl 4 rfl) ?_
      obtain ⟨v29, h30, hm⟩ := rt_b1s hm
      refine rt_ald hx hb hK hP 41 0 rfl rfl h30 d_RangeTellerModel_ending_79 ?_
      refine lv_aload_n hx hb d_RangeTellerModel_ending_80 rfl (lv_at hl 1 rfl) ?_
      refine va_get (D := D) (v := .ref (A 37)) (C := "RangeTellerModel") (T := rt_T6) (N := 69) hx hb hts rt_i6 hown hK hP 0 rfl rfl 54 (by decide) (hts _ (rt_m rt_w901)) (fun _ h9 => h9) rfl d_RangeTellerModel_ending_81 ?_
      refine lv_iload_n hx hb d_RangeTellerModel_ending_84 rfl (lv_at hl 2 rfl) ?_
      obtain ⟨v31, h32, hm⟩ := rt_b1s hm
      refine rt_ald hx hb hK hP 37 0 rfl rfl h32 d_RangeTellerModel_ending_85 ?_
      refine lv_icmp_lt (tgt := 124) hx hb d_RangeTellerModel_ending_86 (by decide) (fun hc => ?_) (fun hc => ?_)
      · have hm := (if_pos hc).symm.trans hm
        exact hB124 ls l2 l4 t0 σ _ _ (lv_sub hl [1, 2, 4, 0] rfl) hm hP hS
      · have hm := (if_neg hc).symm.trans hm
        refine lv_aload_n hx hb d_RangeTellerModel_ending_89 rfl (lv_at hl 1 rfl) ?_
        refine va_get (D := D) (v := .ref (A 42)) (C := "RangeTellerModel") (T := rt_T6) (N := 69) hx hb hts rt_i6 hown hK hP 0 rfl rfl 61 (by decide) (hts _ (rt_m rt_w908)) (fun _ h9 => h9) rfl d_RangeTellerModel_ending_90 ?_
        refine lv_iload hx hb d_RangeTellerModel_ending_93 (lv_at hl 4 rfl) ?_
        obtain ⟨v33, h34, hm⟩ := rt_b1s hm
        refine rt_ald hx hb hK hP 42 0 rfl rfl h34 d_RangeTellerModel_ending_95 ?_
        refine lv_aload_n hx hb d_RangeTellerModel_ending_96 rfl (lv_at hl 1 rfl) ?_
        refine va_get (D := D) (v := .ref (A 38)) (C := "RangeTellerModel") (T := rt_T6) (N := 69) hx hb hts rt_i6 hown hK hP 0 rfl rfl 55 (by decide) (hts _ (rt_m rt_w902)) (fun _ h9 => h9) rfl d_RangeTellerModel_ending_97 ?_
        refine lv_iload_n hx hb d_RangeTellerModel_ending_100 rfl (lv_at hl 2 rfl) ?_
        obtain ⟨v35, h36, hm⟩ := rt_b1s hm
        refine rt_ald hx hb hK hP 38 0 rfl rfl h36 d_RangeTellerModel_ending_101 ?_
        refine lv_icmp_gt (tgt := 124) hx hb d_RangeTellerModel_ending_102 (by decide) (fun hc => ?_) (fun hc => ?_)
        · have hm := (if_pos hc).symm.trans hm
          exact hB124 ls l2 l4 t0 σ _ _ (lv_sub hl [1, 2, 4, 0] rfl) hm hP hS
        · have hm := (if_neg hc).symm.trans hm
          refine lv_aload_n hx hb d_RangeTellerModel_ending_105 rfl (lv_at hl 1 rfl) ?_
          refine va_get (D := D) (v := .ref (A 43)) (C := "RangeTellerModel") (T := rt_T6) (N := 69) hx hb hts rt_i6 hown hK hP 0 rfl rfl 62 (by decide) (hts _ (rt_m rt_w909)) (fun _ h9 => h9) rfl d_RangeTellerModel_ending_106 ?_
          refine lv_iload hx hb d_RangeTellerModel_ending_109 (lv_at hl 4 rfl) ?_
          obtain ⟨v37, h38, hm⟩ := rt_b1s hm
          refine rt_zld hx hb hK hP 43 1 rfl rfl h38 d_RangeTellerModel_ending_111 ?_
          refine lv_if_eq (tgt := 128) hx hb d_RangeTellerModel_ending_112 (by decide) (fun hc => ?_) (fun hc => ?_)
          · have hm := (if_pos hc).symm.trans hm
            exact hB128 ls l2 l4 t0 σ _ _ (lv_sub hl [1, 2, 4, 0] rfl) hm hP hS
          · have hm := (if_neg hc).symm.trans hm
            refine lv_aload_n hx hb d_RangeTellerModel_ending_115 rfl (lv_at hl 1 rfl) ?_
            refine va_get (D := D) (v := .ref (A 39)) (C := "RangeTellerModel") (T := rt_T6) (N := 69) hx hb hts rt_i6 hown hK hP 0 rfl rfl 56 (by decide) (hts _ (rt_m rt_w903)) (fun _ h9 => h9) rfl d_RangeTellerModel_ending_116 ?_
            refine lv_iload_n hx hb d_RangeTellerModel_ending_119 rfl (lv_at hl 2 rfl) ?_
            obtain ⟨v39, h40, hm⟩ := rt_b1s hm
            refine rt_zld hx hb hK hP 39 1 rfl rfl h40 d_RangeTellerModel_ending_120 ?_
            refine lv_if_ne (tgt := 128) hx hb d_RangeTellerModel_ending_121 (by decide) (fun hc => ?_) (fun hc => ?_)
            · have hm := (if_neg hc).symm.trans hm
              exact hB128 ls l2 l4 t0 σ _ _ (lv_sub hl [1, 2, 4, 0] rfl) hm hP hS
            · have hm := (if_pos hc).symm.trans hm
              exact hB124 ls l2 l4 t0 σ _ _ (lv_sub hl [1, 2, 4, 0] rfl) hm hP hS
  have hB21 : ∀ (ls : Array Slot) (l2 t0 : Int32) (σ : rt_St) (H : Heap) (locs : List Loc), lv_has ls 6 [(0, .ref (A 0)), (2, .int l2)] → B_R_RangeTellerModel_ending_21 l2 t0 σ = some σ' → va_P D rt_cl (rtR_W cI cZ A σ) H → va_S (rt_A (rtR_W cI cZ A) s.heap.size) s.heap H locs → W p l e ({ frames := 1, cells := 0, slots := 0, locals := 23 } : Room) s m ([.ref (A 0), .int a1] : List Value).toArray below meth c H locs 0 0 (rt_Qv D rt_cl (rt_t cI cZ) rtR_X (rtR_W cI cZ A) below ([.ref (A 0), .int a1] : List Value).toArray s σ') (F0 m 21 ls [.int t0]) := by
    intro ls l2 t0 σ H locs hl hm hP hS
    unfold B_R_RangeTellerModel_ending_21 at hm
    refine lv_istore_n hx hb d_RangeTellerModel_ending_21 rfl hl (by decide) rfl (fun ls hl => ?_)
    have hl : lv_has ls 6 [(3, .int t0), (0, .ref (A 0)), (2, .int l2)] := hl
    refine lv_aload_n hx hb d_RangeTellerModel_ending_22 rfl (lv_at hl 1 rfl) ?_
    refine va_get (D := D) (v := .ref (A 40)) (C := "RangeTellerModel") (T := rt_T6) (N := 69) hx hb hts rt_i6 hown hK hP 0 rfl rfl 57 (by decide) (hts _ (rt_m rt_w904)) (fun _ h9 => h9) rfl d_RangeTellerModel_ending_23 ?_
    refine lv_iload_n hx hb d_RangeTellerModel_ending_26 rfl (lv_at hl 2 rfl) ?_
    refine lv_iconst (v := 1) hx hb d_RangeTellerModel_ending_27 (by decide) ?_
    obtain ⟨σ41, h42, hm⟩ := rt_b1s hm
    refine rt_zst hx hb hK hP hD hS 40 1 rfl (rtR_a40 cI cZ A _) rfl rfl h42 d_RangeTellerModel_ending_28 (fun H locs hP hS => ?_)
    refine lv_aload_n hx hb d_RangeTellerModel_ending_29 rfl (lv_at hl 1 rfl) ?_
    refine va_get (D := D) (v := .ref (A 13)) (C := "RangeTellerModel") (T := rt_T6) (N := 69) hx hb hts rt_i6 hown hK hP 0 rfl rfl 19 (by decide) (hts _ (rt_m rt_w866)) (fun _ h9 => h9) rfl d_RangeTellerModel_ending_30 ?_
    refine lv_iload_n hx hb d_RangeTellerModel_ending_33 rfl (lv_at hl 2 rfl) ?_
    obtain ⟨v43, h44, hm⟩ := rt_b1s hm
    refine rt_ald hx hb hK hP 13 0 rfl rfl h44 d_RangeTellerModel_ending_34 ?_
    refine lv_iconst (v := 1) hx hb d_RangeTellerModel_ending_35 (by decide) ?_
    refine lv_icmp_ne (tgt := 246) hx hb d_RangeTellerModel_ending_36 (by decide) (fun hc => ?_) (fun hc => ?_)
    · have hm := (if_neg hc).symm.trans hm
      exact hB246 ls l2 t0 σ41 _ _ (lv_sub hl [1, 2, 0] rfl) hm hP hS
    · have hm := (if_pos hc).symm.trans hm
      refine lv_aload_n hx hb d_RangeTellerModel_ending_39 rfl (lv_at hl 1 rfl) ?_
      refine va_get (D := D) (v := .int (σ41 0 59)) (C := "RangeTellerModel") (T := rt_T6) (N := 69) hx hb hts rt_i6 hown hK hP 0 rfl rfl 59 (by decide) (hts _ (rt_m rt_w906)) (fun _ h9 => h9) rfl d_RangeTellerModel_ending_40 ?_
      refine lv_iconst (v := 1) hx hb d_RangeTellerModel_ending_43 (by decide) ?_
      refine lv_isub hx hb d_RangeTellerModel_ending_44 ?_
      refine lv_istore hx hb d_RangeTellerModel_ending_45 hl (by decide) rfl (fun ls hl => ?_)
      have hl : lv_has ls 6 [(4, .int ((σ41 0 59) - 1)), (3, .int t0), (0, .ref (A 0)), (2, .int l2)] := hl
      refine lv_aload_n hx hb d_RangeTellerModel_ending_47 rfl (lv_at hl 2 rfl) ?_
      refine va_get (D := D) (v := .ref (A 37)) (C := "RangeTellerModel") (T := rt_T6) (N := 69) hx hb hts rt_i6 hown hK hP 0 rfl rfl 54 (by decide) (hts _ (rt_m rt_w901)) (fun _ h9 => h9) rfl d_RangeTellerModel_ending_48 ?_
      refine lv_iload_n hx hb d_RangeTellerModel_ending_51 rfl (lv_at hl 3 rfl) ?_
      obtain ⟨v45, h46, hm⟩ := rt_b1s hm
      refine rt_ald hx hb hK hP 37 0 rfl rfl h46 d_RangeTellerModel_ending_52 ?_
      refine lv_aload_n hx hb d_RangeTellerModel_ending_53 rfl (lv_at hl 2 rfl) ?_
      refine va_get (D := D) (v := .ref (A 38)) (C := "RangeTellerModel") (T := rt_T6) (N := 69) hx hb hts rt_i6 hown hK hP 0 rfl rfl 55 (by decide) (hts _ (rt_m rt_w902)) (fun _ h9 => h9) rfl d_RangeTellerModel_ending_54 ?_
      refine lv_iload_n hx hb d_RangeTellerModel_ending_57 rfl (lv_at hl 3 rfl) ?_
      obtain ⟨v47, h48, hm⟩ := rt_b1s hm
      refine rt_ald hx hb hK hP 38 0 rfl rfl h48 d_RangeTellerModel_ending_58 ?_
      refine lv_icmp_le (tgt := 66) hx hb d_RangeTellerModel_ending_59 (by decide) (fun hc => ?_) (fun hc => ?_)
      · have hm := (if_pos hc).symm.trans hm
        refine lv_iconst (v := 0) hx hb d_RangeTellerModel_ending_66 (by decide) ?_
        exact hB67 ls l2 t0 ((σ41 0 59) - 1) 0 σ41 _ _ (lv_sub hl [2, 3, 1, 0] rfl) hm hP hS
      · have hm := (if_neg hc).symm.trans hm
        refine lv_iconst (v := 1) hx hb d_RangeTellerModel_ending_62 (by decide) ?_
        refine lv_goto (tgt := 67) hx hb d_RangeTellerModel_ending_63 (by decide) ?_
        exact hB67 ls l2 t0 ((σ41 0 59) - 1) 1 σ41 _ _ (lv_sub hl [2, 3, 1, 0] rfl) hm hP hS
  unfold M_R_RangeTellerModel_ending at hm
  refine lv_aload_n hx hb d_RangeTellerModel_ending_0 rfl (lv_at hl 0 rfl) ?_
  refine va_get (D := D) (v := .ref (A 4)) (C := "RangeTellerModel") (T := rt_T6) (N := 69) hx hb hts rt_i6 hown hK hP 0 rfl rfl 9 (by decide) (hts _ (rt_m rt_w856)) (fun _ h9 => h9) rfl d_RangeTellerModel_ending_1 ?_
  refine lv_iload_n hx hb d_RangeTellerModel_ending_4 rfl (lv_at hl 1 rfl) ?_
  obtain ⟨v49, h50, hm⟩ := rt_b1s hm
  refine rt_ald hx hb hK hP 4 0 rfl rfl h50 d_RangeTellerModel_ending_5 ?_
  refine lv_istore_n hx hb d_RangeTellerModel_ending_6 rfl hl (by decide) rfl (fun ls hl => ?_)
  have hl : lv_has ls 6 [(2, .int v49), (0, .ref (A 0)), (1, .int a1)] := hl
  refine lv_aload_n hx hb d_RangeTellerModel_ending_7 rfl (lv_at hl 1 rfl) ?_
  refine va_get (D := D) (v := .ref (A 40)) (C := "RangeTellerModel") (T := rt_T6) (N := 69) hx hb hts rt_i6 hown hK hP 0 rfl rfl 57 (by decide) (hts _ (rt_m rt_w904)) (fun _ h9 => h9) rfl d_RangeTellerModel_ending_8 ?_
  refine lv_iload_n hx hb d_RangeTellerModel_ending_11 rfl (lv_at hl 0 rfl) ?_
  obtain ⟨v51, h52, hm⟩ := rt_b1s hm
  refine rt_zld hx hb hK hP 40 1 rfl rfl h52 d_RangeTellerModel_ending_12 ?_
  refine lv_if_ne (tgt := 20) hx hb d_RangeTellerModel_ending_13 (by decide) (fun hc => ?_) (fun hc => ?_)
  · have hm := (if_neg hc).symm.trans hm
    refine lv_iconst (v := 0) hx hb d_RangeTellerModel_ending_20 (by decide) ?_
    exact hB21 ls v49 0 σ _ _ (lv_sub hl [1, 0] rfl) hm hP hS
  · have hm := (if_pos hc).symm.trans hm
    refine lv_iconst (v := 1) hx hb d_RangeTellerModel_ending_16 (by decide) ?_
    refine lv_goto (tgt := 21) hx hb d_RangeTellerModel_ending_17 (by decide) ?_
    exact hB21 ls v49 1 σ _ _ (lv_sub hl [1, 0] rfl) hm hP hS
set_option maxHeartbeats 4000000 in
set_option maxRecDepth 100000 in
theorem k_R_RangeTellerModel_passBranch (l : Launch) (D : va_G) (cI cZ : ClassId) (A : Nat → Nat) (hO : rt_Ok (rtR_W cI cZ A)) (σ : rt_St) (a1 : Int32) (σ' : rt_St) (hm : M_R_RangeTellerModel_passBranch σ a1 = some σ') (sz : Nat) : Met l y_RangeTellerModel_passBranch (rt_ws y_RangeTellerModel_passBranch b_RangeTellerModel_passBranch 3 none) ({ frames := 2, cells := 0, slots := 0, locals := 48 } : Room) (va_Pc [.ref (A 0), .int a1] (rt_P D rt_cl (rt_t cI cZ) rtR_X (rtR_W cI cZ A) sz σ)) (va_Qv (fun u1 => u1 = σ') (rt_B D rt_cl (rt_t cI cZ) rtR_X (rtR_W cI cZ A)) (rt_A (rtR_W cI cZ A) sz)) 0 0 (rt_A (rtR_W cI cZ A) sz) := by
  refine Met.ofW (cc := b_RangeTellerModel_passBranch) (maxL := 3) (ret := none) (by decide) rfl ?_
  intro p e s m args below meth c s₁ B hml hv
  obtain ⟨rfl, rfl, hP, hK, hX⟩ := hv
  have hx := B.exec
  have hb := B.bytes
  have hr := B.returns
  have hts := atoms_spec (ws := (rt_ws y_RangeTellerModel_passBranch b_RangeTellerModel_passBranch 3 none)) B.pre
  have hown : s.vm.findClass "RangeTellerModel" = some m.cls := findClass_of_methodNamed B.named
  have hlocks := B.notSynchronized
  have hD := rt_hD hO s.heap.size
  have hS : va_S (rt_A (rtR_W cI cZ A) s.heap.size) s.heap s.heap [] := va_S.rf
  have hl := lv_entry ([.ref (A 0), .int a1]) (n := 3) (Nat.le_of_ble_eq_true rfl)
  rw [lg_entry_eq]
  generalize (lg_sl ([.ref (A 0), .int a1]) ++ List.replicate (3 - (lg_sl ([.ref (A 0), .int a1])).length) Slot.unset).toArray = ls at hl ⊢
  have hl : lv_has ls 3 [(0, .ref (A 0)), (1, .int a1)] := hl
  show W p l e ({ frames := 2, cells := 0, slots := 0, locals := 48 } : Room) s m ([.ref (A 0), .int a1] : List Value).toArray below meth c s.heap [] 0 0 (rt_Qv D rt_cl (rt_t cI cZ) rtR_X (rtR_W cI cZ A) below ([.ref (A 0), .int a1] : List Value).toArray s σ') (F0 m 0 ls [])
  have hB122 : ∀ (ls : Array Slot) (t0 : Int32) (σ : rt_St) (H : Heap) (locs : List Loc), lv_has ls 3 [] → B_R_RangeTellerModel_passBranch_122 t0 σ = some σ' → va_P D rt_cl (rtR_W cI cZ A σ) H → va_S (rt_A (rtR_W cI cZ A) s.heap.size) s.heap H locs → W p l e ({ frames := 2, cells := 0, slots := 0, locals := 48 } : Room) s m ([.ref (A 0), .int a1] : List Value).toArray below meth c H locs 0 0 (rt_Qv D rt_cl (rt_t cI cZ) rtR_X (rtR_W cI cZ A) below ([.ref (A 0), .int a1] : List Value).toArray s σ') (F0 m 122 ls [.int t0, .ref (A 0)]) := by
    intro ls t0 σ H locs hl hm hP hS
    unfold B_R_RangeTellerModel_passBranch_122 at hm
    obtain ⟨σ2, h1, hm⟩ := rt_b1s hm
    refine rt_cvv (As := [.int t0]) (rest := []) (k := 0) rtR_Xo ⟨hx, hb, hml, hown, hts⟩ (k_R_RangeTellerModel_pass l D cI cZ A hO σ t0 _ h1) (cw_RangeTellerModel_pass hts (hts _ (rt_m rt_w1133)) ⟨Nat.le_of_ble_eq_true rfl, Nat.le_of_ble_eq_true rfl⟩) hK hP hS hX rfl rfl rfl hl.1 rfl (Nat.le_of_ble_eq_true rfl) d_RangeTellerModel_passBranch_122 ⟨Nat.zero_le _, Nat.zero_le _⟩ (fun H locs hP hS => ?_)
    exact W.vret hx hb hr (fun t ht hW => ⟨⟨_, rfl, Option.some.inj hm, rt_end rtR_Xo hK hP hS hX ht hW⟩, hS.F ht⟩) hS.2.2 d_RangeTellerModel_passBranch_125
  have hB70 : ∀ (ls : Array Slot) (l1 l2 : Int32) (σ : rt_St) (H : Heap) (locs : List Loc), lv_has ls 3 [(0, .ref (A 0)), (1, .int l1), (2, .int l2)] → B_R_RangeTellerModel_passBranch_70 l1 l2 σ = some σ' → va_P D rt_cl (rtR_W cI cZ A σ) H → va_S (rt_A (rtR_W cI cZ A) s.heap.size) s.heap H locs → W p l e ({ frames := 2, cells := 0, slots := 0, locals := 48 } : Room) s m ([.ref (A 0), .int a1] : List Value).toArray below meth c H locs 0 0 (rt_Qv D rt_cl (rt_t cI cZ) rtR_X (rtR_W cI cZ A) below ([.ref (A 0), .int a1] : List Value).toArray s σ') (F0 m 70 ls []) := by
    intro ls l1 l2 σ H locs hl hm hP hS
    unfold B_R_RangeTellerModel_passBranch_70 at hm
    refine lv_aload_n hx hb d_RangeTellerModel_passBranch_70 rfl (lv_at hl 0 rfl) ?_
    refine lv_iload_n hx hb d_RangeTellerModel_passBranch_71 rfl (lv_at hl 2 rfl) ?_
    refine lv_aload_n hx hb d_RangeTellerModel_passBranch_72 rfl (lv_at hl 0 rfl) ?_
    refine va_get (D := D) (v := .ref (A 10)) (C := "RangeTellerModel") (T := rt_T6) (N := 69) hx hb hts rt_i6 hown hK hP 0 rfl rfl 15 (by decide) (hts _ (rt_m rt_w862)) (fun _ h9 => h9) rfl d_RangeTellerModel_passBranch_73 ?_
    refine lv_iload_n hx hb d_RangeTellerModel_passBranch_76 rfl (lv_at hl 1 rfl) ?_
    obtain ⟨v3, h4, hm⟩ := rt_b1s hm
    refine rt_ald hx hb hK hP 10 0 rfl rfl h4 d_RangeTellerModel_passBranch_77 ?_
    refine lv_iadd hx hb d_RangeTellerModel_passBranch_78 ?_
    obtain ⟨σ5, h6, hm⟩ := rt_b1s hm
    refine rt_pf (D := D) (C := "RangeTellerModel") (T := rt_T6) (N := 69) (ty := .int) hx hb hts rt_i6 rt_y6 rt_o6 rt_n6 hown hK hP hD hS 0 rfl rfl 59 (by decide) (hts _ (rt_m rt_w906)) (fun _ h9 => h9) rfl (by decide +kernel) rfl rfl (Nat.le_of_ble_eq_true rfl) (rtR_s0_59 cI cZ A _ _) h6 d_RangeTellerModel_passBranch_79 (fun H locs hP hS => ?_)
    refine lv_aload_n hx hb d_RangeTellerModel_passBranch_82 rfl (lv_at hl 0 rfl) ?_
    refine lv_aload_n hx hb d_RangeTellerModel_passBranch_83 rfl (lv_at hl 0 rfl) ?_
    refine va_get (D := D) (v := .ref (A 2)) (C := "RangeTellerModel") (T := rt_T6) (N := 69) hx hb hts rt_i6 hown hK hP 0 rfl rfl 7 (by decide) (hts _ (rt_m rt_w854)) (fun _ h9 => h9) rfl d_RangeTellerModel_passBranch_84 ?_
    refine lv_aload_n hx hb d_RangeTellerModel_passBranch_87 rfl (lv_at hl 0 rfl) ?_
    refine va_get (D := D) (v := .ref (A 8)) (C := "RangeTellerModel") (T := rt_T6) (N := 69) hx hb hts rt_i6 hown hK hP 0 rfl rfl 13 (by decide) (hts _ (rt_m rt_w860)) (fun _ h9 => h9) rfl d_RangeTellerModel_passBranch_88 ?_
    refine lv_iload_n hx hb d_RangeTellerModel_passBranch_91 rfl (lv_at hl 1 rfl) ?_
    obtain ⟨v7, h8, hm⟩ := rt_b1s hm
    refine rt_ald hx hb hK hP 8 0 rfl rfl h8 d_RangeTellerModel_passBranch_92 ?_
    obtain ⟨v9, h10, hm⟩ := rt_b1s hm
    refine rt_ald hx hb hK hP 2 0 rfl rfl h10 d_RangeTellerModel_passBranch_93 ?_
    refine lv_iconst (v := 2) hx hb d_RangeTellerModel_passBranch_94 (by decide) ?_
    refine lv_icmp_ne (tgt := 109) hx hb d_RangeTellerModel_passBranch_95 (by decide) (fun hc => ?_) (fun hc => ?_)
    · have hm := (if_neg hc).symm.trans hm
      refine lv_aload_n hx hb d_RangeTellerModel_passBranch_109 rfl (lv_at hl 0 rfl) ?_
      refine va_get (D := D) (v := .ref (A 5)) (C := "RangeTellerModel") (T := rt_T6) (N := 69) hx hb hts rt_i6 hown hK hP 0 rfl rfl 10 (by decide) (hts _ (rt_m rt_w857)) (fun _ h9 => h9) rfl d_RangeTellerModel_passBranch_110 ?_
      refine lv_aload_n hx hb d_RangeTellerModel_passBranch_113 rfl (lv_at hl 0 rfl) ?_
      refine va_get (D := D) (v := .ref (A 8)) (C := "RangeTellerModel") (T := rt_T6) (N := 69) hx hb hts rt_i6 hown hK hP 0 rfl rfl 13 (by decide) (hts _ (rt_m rt_w860)) (fun _ h9 => h9) rfl d_RangeTellerModel_passBranch_114 ?_
      refine lv_iload_n hx hb d_RangeTellerModel_passBranch_117 rfl (lv_at hl 1 rfl) ?_
      obtain ⟨v11, h12, hm⟩ := rt_b1s hm
      refine rt_ald hx hb hK hP 8 0 rfl rfl h12 d_RangeTellerModel_passBranch_118 ?_
      obtain ⟨v13, h14, hm⟩ := rt_b1s hm
      refine rt_ald hx hb hK hP 5 0 rfl rfl h14 d_RangeTellerModel_passBranch_119 ?_
      refine lv_iconst (v := 1) hx hb d_RangeTellerModel_passBranch_120 (by decide) ?_
      refine lv_iadd hx hb d_RangeTellerModel_passBranch_121 ?_
      exact hB122 ls (v13 + 1) σ5 _ _ (lv_sub hl [] rfl) hm hP hS
    · have hm := (if_pos hc).symm.trans hm
      refine lv_aload_n hx hb d_RangeTellerModel_passBranch_98 rfl (lv_at hl 0 rfl) ?_
      refine va_get (D := D) (v := .ref (A 8)) (C := "RangeTellerModel") (T := rt_T6) (N := 69) hx hb hts rt_i6 hown hK hP 0 rfl rfl 13 (by decide) (hts _ (rt_m rt_w860)) (fun _ h9 => h9) rfl d_RangeTellerModel_passBranch_99 ?_
      refine lv_iload_n hx hb d_RangeTellerModel_passBranch_102 rfl (lv_at hl 1 rfl) ?_
      obtain ⟨v15, h16, hm⟩ := rt_b1s hm
      refine rt_ald hx hb hK hP 8 0 rfl rfl h16 d_RangeTellerModel_passBranch_103 ?_
      refine lv_iconst (v := 1) hx hb d_RangeTellerModel_passBranch_104 (by decide) ?_
      refine lv_iadd hx hb d_RangeTellerModel_passBranch_105 ?_
      refine lv_goto (tgt := 122) hx hb d_RangeTellerModel_passBranch_106 (by decide) ?_
      exact hB122 ls (v15 + 1) σ5 _ _ (lv_sub hl [] rfl) hm hP hS
  unfold M_R_RangeTellerModel_passBranch at hm
  refine lv_aload_n hx hb d_RangeTellerModel_passBranch_0 rfl (lv_at hl 0 rfl) ?_
  refine va_get (D := D) (v := .ref (A 8)) (C := "RangeTellerModel") (T := rt_T6) (N := 69) hx hb hts rt_i6 hown hK hP 0 rfl rfl 13 (by decide) (hts _ (rt_m rt_w860)) (fun _ h9 => h9) rfl d_RangeTellerModel_passBranch_1 ?_
  refine lv_iload_n hx hb d_RangeTellerModel_passBranch_4 rfl (lv_at hl 1 rfl) ?_
  obtain ⟨v17, h18, hm⟩ := rt_b1s hm
  refine rt_ald hx hb hK hP 8 0 rfl rfl h18 d_RangeTellerModel_passBranch_5 ?_
  refine lv_if_ge (tgt := 15) hx hb d_RangeTellerModel_passBranch_6 (by decide) (fun hc => ?_) (fun hc => ?_)
  · have hm := (if_pos hc).symm.trans hm
    refine lv_aload_n hx hb d_RangeTellerModel_passBranch_15 rfl (lv_at hl 0 rfl) ?_
    refine va_get (D := D) (v := .ref (A 9)) (C := "RangeTellerModel") (T := rt_T6) (N := 69) hx hb hts rt_i6 hown hK hP 0 rfl rfl 14 (by decide) (hts _ (rt_m rt_w861)) (fun _ h9 => h9) rfl d_RangeTellerModel_passBranch_16 ?_
    refine lv_iload_n hx hb d_RangeTellerModel_passBranch_19 rfl (lv_at hl 1 rfl) ?_
    obtain ⟨v19, h20, hm⟩ := rt_b1s hm
    refine rt_ald hx hb hK hP 9 0 rfl rfl h20 d_RangeTellerModel_passBranch_20 ?_
    refine lv_istore_n hx hb d_RangeTellerModel_passBranch_21 rfl hl (by decide) rfl (fun ls hl => ?_)
    have hl : lv_has ls 3 [(2, .int v19), (0, .ref (A 0)), (1, .int a1)] := hl
    refine lv_aload_n hx hb d_RangeTellerModel_passBranch_22 rfl (lv_at hl 1 rfl) ?_
    refine va_get (D := D) (v := .ref (A 10)) (C := "RangeTellerModel") (T := rt_T6) (N := 69) hx hb hts rt_i6 hown hK hP 0 rfl rfl 15 (by decide) (hts _ (rt_m rt_w862)) (fun _ h9 => h9) rfl d_RangeTellerModel_passBranch_23 ?_
    refine lv_iload_n hx hb d_RangeTellerModel_passBranch_26 rfl (lv_at hl 2 rfl) ?_
    obtain ⟨v21, h22, hm⟩ := rt_b1s hm
    refine rt_ald hx hb hK hP 10 0 rfl rfl h22 d_RangeTellerModel_passBranch_27 ?_
    refine lv_iconst (v := 1) hx hb d_RangeTellerModel_passBranch_28 (by decide) ?_
    refine lv_icmp_ne (tgt := 70) hx hb d_RangeTellerModel_passBranch_29 (by decide) (fun hc => ?_) (fun hc => ?_)
    · have hm := (if_neg hc).symm.trans hm
      exact hB70 ls a1 v19 σ _ _ (lv_sub hl [1, 2, 0] rfl) hm hP hS
    · have hm := (if_pos hc).symm.trans hm
      refine lv_aload_n hx hb d_RangeTellerModel_passBranch_32 rfl (lv_at hl 1 rfl) ?_
      refine lv_iload_n hx hb d_RangeTellerModel_passBranch_33 rfl (lv_at hl 0 rfl) ?_
      refine lv_aload_n hx hb d_RangeTellerModel_passBranch_34 rfl (lv_at hl 1 rfl) ?_
      refine va_get (D := D) (v := .ref (A 41)) (C := "RangeTellerModel") (T := rt_T6) (N := 69) hx hb hts rt_i6 hown hK hP 0 rfl rfl 60 (by decide) (hts _ (rt_m rt_w907)) (fun _ h9 => h9) rfl d_RangeTellerModel_passBranch_35 ?_
      refine lv_aload_n hx hb d_RangeTellerModel_passBranch_38 rfl (lv_at hl 1 rfl) ?_
      refine va_get (D := D) (v := .int (σ 0 59)) (C := "RangeTellerModel") (T := rt_T6) (N := 69) hx hb hts rt_i6 hown hK hP 0 rfl rfl 59 (by decide) (hts _ (rt_m rt_w906)) (fun _ h9 => h9) rfl d_RangeTellerModel_passBranch_39 ?_
      refine lv_iconst (v := 1) hx hb d_RangeTellerModel_passBranch_42 (by decide) ?_
      refine lv_isub hx hb d_RangeTellerModel_passBranch_43 ?_
      obtain ⟨v23, h24, hm⟩ := rt_b1s hm
      refine rt_ald hx hb hK hP 41 0 rfl rfl h24 d_RangeTellerModel_passBranch_44 ?_
      refine lv_aload_n hx hb d_RangeTellerModel_passBranch_45 rfl (lv_at hl 1 rfl) ?_
      refine va_get (D := D) (v := .ref (A 42)) (C := "RangeTellerModel") (T := rt_T6) (N := 69) hx hb hts rt_i6 hown hK hP 0 rfl rfl 61 (by decide) (hts _ (rt_m rt_w908)) (fun _ h9 => h9) rfl d_RangeTellerModel_passBranch_46 ?_
      refine lv_aload_n hx hb d_RangeTellerModel_passBranch_49 rfl (lv_at hl 1 rfl) ?_
      refine va_get (D := D) (v := .int (σ 0 59)) (C := "RangeTellerModel") (T := rt_T6) (N := 69) hx hb hts rt_i6 hown hK hP 0 rfl rfl 59 (by decide) (hts _ (rt_m rt_w906)) (fun _ h9 => h9) rfl d_RangeTellerModel_passBranch_50 ?_
      refine lv_iconst (v := 1) hx hb d_RangeTellerModel_passBranch_53 (by decide) ?_
      refine lv_isub hx hb d_RangeTellerModel_passBranch_54 ?_
      obtain ⟨v25, h26, hm⟩ := rt_b1s hm
      refine rt_ald hx hb hK hP 42 0 rfl rfl h26 d_RangeTellerModel_passBranch_55 ?_
      refine lv_aload_n hx hb d_RangeTellerModel_passBranch_56 rfl (lv_at hl 1 rfl) ?_
      refine va_get (D := D) (v := .ref (A 43)) (C := "RangeTellerModel") (T := rt_T6) (N := 69) hx hb hts rt_i6 hown hK hP 0 rfl rfl 62 (by decide) (hts _ (rt_m rt_w909)) (fun _ h9 => h9) rfl d_RangeTellerModel_passBranch_57 ?_
      refine lv_aload_n hx hb d_RangeTellerModel_passBranch_60 rfl (lv_at hl 1 rfl) ?_
      refine va_get (D := D) (v := .int (σ 0 59)) (C := "RangeTellerModel") (T := rt_T6) (N := 69) hx hb hts rt_i6 hown hK hP 0 rfl rfl 59 (by decide) (hts _ (rt_m rt_w906)) (fun _ h9 => h9) rfl d_RangeTellerModel_passBranch_61 ?_
      refine lv_iconst (v := 1) hx hb d_RangeTellerModel_passBranch_64 (by decide) ?_
      refine lv_isub hx hb d_RangeTellerModel_passBranch_65 ?_
      obtain ⟨v27, h28, hm⟩ := rt_b1s hm
      refine rt_zld hx hb hK hP 43 1 rfl rfl h28 d_RangeTellerModel_passBranch_66 ?_
      obtain ⟨σ30, h29, hm⟩ := rt_b1s hm
      refine rt_cvv (As := [.int v19, .int v23, .int v25, .int v27]) (rest := []) (k := 0) rtR_Xo ⟨hx, hb, hml, hown, hts⟩ (k_R_RangeTellerModel_set l D cI cZ A hO σ v19 v23 v25 v27 _ h29) (cw_RangeTellerModel_set hts (hts _ (rt_m rt_w1161)) ⟨Nat.le_of_ble_eq_true rfl, Nat.le_of_ble_eq_true rfl⟩) hK hP hS hX rfl rfl rfl hl.1 rfl (Nat.le_of_ble_eq_true rfl) d_RangeTellerModel_passBranch_67 ⟨Nat.zero_le _, Nat.zero_le _⟩ (fun H locs hP hS => ?_)
      exact hB70 ls a1 v19 σ30 _ _ (lv_sub hl [1, 2, 0] rfl) hm hP hS
  · have hm := (if_neg hc).symm.trans hm
    refine lv_aload_n hx hb d_RangeTellerModel_passBranch_9 rfl (lv_at hl 0 rfl) ?_
    refine lv_iload_n hx hb d_RangeTellerModel_passBranch_10 rfl (lv_at hl 1 rfl) ?_
    obtain ⟨σ32, h31, hm⟩ := rt_b1s hm
    refine rt_cvv (As := [.int a1]) (rest := []) (k := 0) rtR_Xo ⟨hx, hb, hml, hown, hts⟩ (k_R_RangeTellerModel_ending l D cI cZ A hO σ a1 _ h31) (cw_RangeTellerModel_ending hts (hts _ (rt_m rt_w1153)) ⟨Nat.le_of_ble_eq_true rfl, Nat.le_of_ble_eq_true rfl⟩) hK hP hS hX rfl rfl rfl hl.1 rfl (Nat.le_of_ble_eq_true rfl) d_RangeTellerModel_passBranch_11 ⟨Nat.zero_le _, Nat.zero_le _⟩ (fun H locs hP hS => ?_)
    exact W.vret hx hb hr (fun t ht hW => ⟨⟨_, rfl, Option.some.inj hm, rt_end rtR_Xo hK hP hS hX ht hW⟩, hS.F ht⟩) hS.2.2 d_RangeTellerModel_passBranch_14
set_option maxHeartbeats 4000000 in
set_option maxRecDepth 100000 in
theorem k_R_RangeTellerModel_passIf (l : Launch) (D : va_G) (cI cZ : ClassId) (A : Nat → Nat) (hO : rt_Ok (rtR_W cI cZ A)) (σ : rt_St) (a1 : Int32) (σ' : rt_St) (hm : M_R_RangeTellerModel_passIf σ a1 = some σ') (sz : Nat) : Met l y_RangeTellerModel_passIf (rt_ws y_RangeTellerModel_passIf b_RangeTellerModel_passIf 5 none) ({ frames := 3, cells := 0, slots := 0, locals := 70 } : Room) (va_Pc [.ref (A 0), .int a1] (rt_P D rt_cl (rt_t cI cZ) rtR_X (rtR_W cI cZ A) sz σ)) (va_Qv (fun u1 => u1 = σ') (rt_B D rt_cl (rt_t cI cZ) rtR_X (rtR_W cI cZ A)) (rt_A (rtR_W cI cZ A) sz)) 0 0 (rt_A (rtR_W cI cZ A) sz) := by
  refine Met.ofW (cc := b_RangeTellerModel_passIf) (maxL := 5) (ret := none) (by decide) rfl ?_
  intro p e s m args below meth c s₁ B hml hv
  obtain ⟨rfl, rfl, hP, hK, hX⟩ := hv
  have hx := B.exec
  have hb := B.bytes
  have hr := B.returns
  have hts := atoms_spec (ws := (rt_ws y_RangeTellerModel_passIf b_RangeTellerModel_passIf 5 none)) B.pre
  have hown : s.vm.findClass "RangeTellerModel" = some m.cls := findClass_of_methodNamed B.named
  have hlocks := B.notSynchronized
  have hD := rt_hD hO s.heap.size
  have hS : va_S (rt_A (rtR_W cI cZ A) s.heap.size) s.heap s.heap [] := va_S.rf
  have hl := lv_entry ([.ref (A 0), .int a1]) (n := 5) (Nat.le_of_ble_eq_true rfl)
  rw [lg_entry_eq]
  generalize (lg_sl ([.ref (A 0), .int a1]) ++ List.replicate (5 - (lg_sl ([.ref (A 0), .int a1])).length) Slot.unset).toArray = ls at hl ⊢
  have hl : lv_has ls 5 [(0, .ref (A 0)), (1, .int a1)] := hl
  show W p l e ({ frames := 3, cells := 0, slots := 0, locals := 70 } : Room) s m ([.ref (A 0), .int a1] : List Value).toArray below meth c s.heap [] 0 0 (rt_Qv D rt_cl (rt_t cI cZ) rtR_X (rtR_W cI cZ A) below ([.ref (A 0), .int a1] : List Value).toArray s σ') (F0 m 0 ls [])
  have hB84 : ∀ (ls : Array Slot) (l1 l3 : Int32) (σ : rt_St) (H : Heap) (locs : List Loc), lv_has ls 5 [(0, .ref (A 0)), (1, .int l1), (3, .int l3)] → B_R_RangeTellerModel_passIf_84 l1 l3 σ = some σ' → va_P D rt_cl (rtR_W cI cZ A σ) H → va_S (rt_A (rtR_W cI cZ A) s.heap.size) s.heap H locs → W p l e ({ frames := 3, cells := 0, slots := 0, locals := 70 } : Room) s m ([.ref (A 0), .int a1] : List Value).toArray below meth c H locs 0 0 (rt_Qv D rt_cl (rt_t cI cZ) rtR_X (rtR_W cI cZ A) below ([.ref (A 0), .int a1] : List Value).toArray s σ') (F0 m 84 ls []) := by
    intro ls l1 l3 σ H locs hl hm hP hS
    unfold B_R_RangeTellerModel_passIf_84 at hm
    refine lv_iload_n hx hb d_RangeTellerModel_passIf_84 rfl (lv_at hl 2 rfl) ?_
    refine lv_if_ne (tgt := 89) hx hb d_RangeTellerModel_passIf_85 (by decide) (fun hc => ?_) (fun hc => ?_)
    · have hm := (if_neg hc).symm.trans hm
      refine lv_aload_n hx hb d_RangeTellerModel_passIf_89 rfl (lv_at hl 0 rfl) ?_
      refine va_get (D := D) (v := .ref (A 2)) (C := "RangeTellerModel") (T := rt_T6) (N := 69) hx hb hts rt_i6 hown hK hP 0 rfl rfl 7 (by decide) (hts _ (rt_m rt_w854)) (fun _ h9 => h9) rfl d_RangeTellerModel_passIf_90 ?_
      refine lv_iload_n hx hb d_RangeTellerModel_passIf_93 rfl (lv_at hl 1 rfl) ?_
      obtain ⟨v1, h2, hm⟩ := rt_b1s hm
      refine rt_ald hx hb hK hP 2 0 rfl rfl h2 d_RangeTellerModel_passIf_94 ?_
      refine lv_iconst (v := 3) hx hb d_RangeTellerModel_passIf_95 (by decide) ?_
      refine lv_icmp_ne (tgt := 109) hx hb d_RangeTellerModel_passIf_96 (by decide) (fun hc => ?_) (fun hc => ?_)
      · have hm := (if_neg hc).symm.trans hm
        refine lv_aload_n hx hb d_RangeTellerModel_passIf_109 rfl (lv_at hl 0 rfl) ?_
        refine lv_iload_n hx hb d_RangeTellerModel_passIf_110 rfl (lv_at hl 1 rfl) ?_
        obtain ⟨σ4, h3, hm⟩ := rt_b1s hm
        refine rt_cvv (As := [.int l1]) (rest := []) (k := 0) rtR_Xo ⟨hx, hb, hml, hown, hts⟩ (k_R_RangeTellerModel_passBranch l D cI cZ A hO σ l1 _ h3) (cw_RangeTellerModel_passBranch hts (hts _ (rt_m rt_w1149)) ⟨Nat.le_of_ble_eq_true rfl, Nat.le_of_ble_eq_true rfl⟩) hK hP hS hX rfl rfl rfl hl.1 rfl (Nat.le_of_ble_eq_true rfl) d_RangeTellerModel_passIf_111 ⟨Nat.zero_le _, Nat.zero_le _⟩ (fun H locs hP hS => ?_)
        exact W.vret hx hb hr (fun t ht hW => ⟨⟨_, rfl, Option.some.inj hm, rt_end rtR_Xo hK hP hS hX ht hW⟩, hS.F ht⟩) hS.2.2 d_RangeTellerModel_passIf_114
      · have hm := (if_pos hc).symm.trans hm
        refine lv_aload_n hx hb d_RangeTellerModel_passIf_99 rfl (lv_at hl 0 rfl) ?_
        refine lv_iload_n hx hb d_RangeTellerModel_passIf_100 rfl (lv_at hl 1 rfl) ?_
        refine lv_iconst (v := 1) hx hb d_RangeTellerModel_passIf_101 (by decide) ?_
        refine lv_iadd hx hb d_RangeTellerModel_passIf_102 ?_
        obtain ⟨σ6, h5, hm⟩ := rt_b1s hm
        refine rt_cvv (As := [.int (l1 + 1)]) (rest := []) (k := 0) rtR_Xo ⟨hx, hb, hml, hown, hts⟩ (k_R_RangeTellerModel_pass l D cI cZ A hO σ (l1 + 1) _ h5) (cw_RangeTellerModel_pass hts (hts _ (rt_m rt_w1133)) ⟨Nat.le_of_ble_eq_true rfl, Nat.le_of_ble_eq_true rfl⟩) hK hP hS hX rfl rfl rfl hl.1 rfl (Nat.le_of_ble_eq_true rfl) d_RangeTellerModel_passIf_103 ⟨Nat.zero_le _, Nat.zero_le _⟩ (fun H locs hP hS => ?_)
        refine lv_goto (tgt := 114) hx hb d_RangeTellerModel_passIf_106 (by decide) ?_
        exact W.vret hx hb hr (fun t ht hW => ⟨⟨_, rfl, Option.some.inj hm, rt_end rtR_Xo hK hP hS hX ht hW⟩, hS.F ht⟩) hS.2.2 d_RangeTellerModel_passIf_114
    · have hm := (if_pos hc).symm.trans hm
      exact W.vret hx hb hr (fun t ht hW => ⟨⟨_, rfl, Option.some.inj hm, rt_end rtR_Xo hK hP hS hX ht hW⟩, hS.F ht⟩) hS.2.2 d_RangeTellerModel_passIf_88
  have hB72 : ∀ (ls : Array Slot) (l1 l2 l3 t0 : Int32) (σ : rt_St) (H : Heap) (locs : List Loc), lv_has ls 5 [(0, .ref (A 0)), (1, .int l1), (2, .int l2), (3, .int l3)] → B_R_RangeTellerModel_passIf_72 l1 l2 l3 t0 σ = some σ' → va_P D rt_cl (rtR_W cI cZ A σ) H → va_S (rt_A (rtR_W cI cZ A) s.heap.size) s.heap H locs → W p l e ({ frames := 3, cells := 0, slots := 0, locals := 70 } : Room) s m ([.ref (A 0), .int a1] : List Value).toArray below meth c H locs 0 0 (rt_Qv D rt_cl (rt_t cI cZ) rtR_X (rtR_W cI cZ A) below ([.ref (A 0), .int a1] : List Value).toArray s σ') (F0 m 72 ls [.int t0]) := by
    intro ls l1 l2 l3 t0 σ H locs hl hm hP hS
    unfold B_R_RangeTellerModel_passIf_72 at hm
    refine lv_istore hx hb d_RangeTellerModel_passIf_72 hl (by decide) rfl (fun ls hl => ?_)
    have hl : lv_has ls 5 [(4, .int t0), (0, .ref (A 0)), (1, .int l1), (2, .int l2), (3, .int l3)] := hl
    refine lv_iload_n hx hb d_RangeTellerModel_passIf_74 rfl (lv_at hl 3 rfl) ?_
    refine lv_if_ne (tgt := 84) hx hb d_RangeTellerModel_passIf_75 (by decide) (fun hc => ?_) (fun hc => ?_)
    · have hm := (if_neg hc).symm.trans hm
      exact hB84 ls l1 l3 σ _ _ (lv_sub hl [1, 2, 4] rfl) hm hP hS
    · have hm := (if_pos hc).symm.trans hm
      refine lv_aload_n hx hb d_RangeTellerModel_passIf_78 rfl (lv_at hl 1 rfl) ?_
      refine lv_iload hx hb d_RangeTellerModel_passIf_79 (lv_at hl 0 rfl) ?_
      obtain ⟨σ8, h7, hm⟩ := rt_b1s hm
      refine rt_cvv (As := [.int t0]) (rest := []) (k := 0) rtR_Xo ⟨hx, hb, hml, hown, hts⟩ (k_R_RangeTellerModel_pass l D cI cZ A hO σ t0 _ h7) (cw_RangeTellerModel_pass hts (hts _ (rt_m rt_w1133)) ⟨Nat.le_of_ble_eq_true rfl, Nat.le_of_ble_eq_true rfl⟩) hK hP hS hX rfl rfl rfl hl.1 rfl (Nat.le_of_ble_eq_true rfl) d_RangeTellerModel_passIf_81 ⟨Nat.zero_le _, Nat.zero_le _⟩ (fun H locs hP hS => ?_)
      exact hB84 ls l1 l3 σ8 _ _ (lv_sub hl [1, 2, 4] rfl) hm hP hS
  have hB64 : ∀ (ls : Array Slot) (l1 l2 l3 t0 : Int32) (σ : rt_St) (H : Heap) (locs : List Loc), lv_has ls 5 [(0, .ref (A 0)), (1, .int l1), (2, .int l2), (3, .int l3)] → B_R_RangeTellerModel_passIf_64 l1 l2 l3 t0 σ = some σ' → va_P D rt_cl (rtR_W cI cZ A σ) H → va_S (rt_A (rtR_W cI cZ A) s.heap.size) s.heap H locs → W p l e ({ frames := 3, cells := 0, slots := 0, locals := 70 } : Room) s m ([.ref (A 0), .int a1] : List Value).toArray below meth c H locs 0 0 (rt_Qv D rt_cl (rt_t cI cZ) rtR_X (rtR_W cI cZ A) below ([.ref (A 0), .int a1] : List Value).toArray s σ') (F0 m 64 ls [.int t0]) := by
    intro ls l1 l2 l3 t0 σ H locs hl hm hP hS
    unfold B_R_RangeTellerModel_passIf_64 at hm
    refine lv_iconst (v := 1) hx hb d_RangeTellerModel_passIf_64 (by decide) ?_
    refine lv_iadd hx hb d_RangeTellerModel_passIf_65 ?_
    refine lv_goto (tgt := 72) hx hb d_RangeTellerModel_passIf_66 (by decide) ?_
    exact hB72 ls l1 l2 l3 (t0 + 1) σ _ _ (lv_sub hl [0, 1, 2, 3] rfl) hm hP hS
  unfold M_R_RangeTellerModel_passIf at hm
  refine lv_aload_n hx hb d_RangeTellerModel_passIf_0 rfl (lv_at hl 0 rfl) ?_
  refine lv_dup hx hb d_RangeTellerModel_passIf_1 rfl ?_
  refine va_get (D := D) (v := .int (σ 0 59)) (C := "RangeTellerModel") (T := rt_T6) (N := 69) hx hb hts rt_i6 hown hK hP 0 rfl rfl 59 (by decide) (hts _ (rt_m rt_w906)) (fun _ h9 => h9) rfl d_RangeTellerModel_passIf_2 ?_
  refine lv_iconst (v := 1) hx hb d_RangeTellerModel_passIf_5 (by decide) ?_
  refine lv_isub hx hb d_RangeTellerModel_passIf_6 ?_
  obtain ⟨σ9, h10, hm⟩ := rt_b1s hm
  refine rt_pf (D := D) (C := "RangeTellerModel") (T := rt_T6) (N := 69) (ty := .int) hx hb hts rt_i6 rt_y6 rt_o6 rt_n6 hown hK hP hD hS 0 rfl rfl 59 (by decide) (hts _ (rt_m rt_w906)) (fun _ h9 => h9) rfl (by decide +kernel) rfl rfl (Nat.le_of_ble_eq_true rfl) (rtR_s0_59 cI cZ A _ _) h10 d_RangeTellerModel_passIf_7 (fun H locs hP hS => ?_)
  refine lv_aload_n hx hb d_RangeTellerModel_passIf_10 rfl (lv_at hl 0 rfl) ?_
  refine va_get (D := D) (v := .ref (A 41)) (C := "RangeTellerModel") (T := rt_T6) (N := 69) hx hb hts rt_i6 hown hK hP 0 rfl rfl 60 (by decide) (hts _ (rt_m rt_w907)) (fun _ h9 => h9) rfl d_RangeTellerModel_passIf_11 ?_
  refine lv_aload_n hx hb d_RangeTellerModel_passIf_14 rfl (lv_at hl 0 rfl) ?_
  refine va_get (D := D) (v := .int (σ9 0 59)) (C := "RangeTellerModel") (T := rt_T6) (N := 69) hx hb hts rt_i6 hown hK hP 0 rfl rfl 59 (by decide) (hts _ (rt_m rt_w906)) (fun _ h9 => h9) rfl d_RangeTellerModel_passIf_15 ?_
  obtain ⟨v11, h12, hm⟩ := rt_b1s hm
  refine rt_ald hx hb hK hP 41 0 rfl rfl h12 d_RangeTellerModel_passIf_18 ?_
  refine lv_istore_n hx hb d_RangeTellerModel_passIf_19 rfl hl (by decide) rfl (fun ls hl => ?_)
  have hl : lv_has ls 5 [(2, .int v11), (0, .ref (A 0)), (1, .int a1)] := hl
  refine lv_aload_n hx hb d_RangeTellerModel_passIf_20 rfl (lv_at hl 1 rfl) ?_
  refine va_get (D := D) (v := .ref (A 42)) (C := "RangeTellerModel") (T := rt_T6) (N := 69) hx hb hts rt_i6 hown hK hP 0 rfl rfl 61 (by decide) (hts _ (rt_m rt_w908)) (fun _ h9 => h9) rfl d_RangeTellerModel_passIf_21 ?_
  refine lv_aload_n hx hb d_RangeTellerModel_passIf_24 rfl (lv_at hl 1 rfl) ?_
  refine va_get (D := D) (v := .int (σ9 0 59)) (C := "RangeTellerModel") (T := rt_T6) (N := 69) hx hb hts rt_i6 hown hK hP 0 rfl rfl 59 (by decide) (hts _ (rt_m rt_w906)) (fun _ h9 => h9) rfl d_RangeTellerModel_passIf_25 ?_
  obtain ⟨v13, h14, hm⟩ := rt_b1s hm
  refine rt_ald hx hb hK hP 42 0 rfl rfl h14 d_RangeTellerModel_passIf_28 ?_
  refine lv_istore_n hx hb d_RangeTellerModel_passIf_29 rfl hl (by decide) rfl (fun ls hl => ?_)
  have hl : lv_has ls 5 [(3, .int v13), (2, .int v11), (0, .ref (A 0)), (1, .int a1)] := hl
  refine lv_aload_n hx hb d_RangeTellerModel_passIf_30 rfl (lv_at hl 2 rfl) ?_
  refine va_get (D := D) (v := .ref (A 2)) (C := "RangeTellerModel") (T := rt_T6) (N := 69) hx hb hts rt_i6 hown hK hP 0 rfl rfl 7 (by decide) (hts _ (rt_m rt_w854)) (fun _ h9 => h9) rfl d_RangeTellerModel_passIf_31 ?_
  refine lv_iload_n hx hb d_RangeTellerModel_passIf_34 rfl (lv_at hl 3 rfl) ?_
  obtain ⟨v15, h16, hm⟩ := rt_b1s hm
  refine rt_ald hx hb hK hP 2 0 rfl rfl h16 d_RangeTellerModel_passIf_35 ?_
  refine lv_iconst (v := 3) hx hb d_RangeTellerModel_passIf_36 (by decide) ?_
  refine lv_icmp_ne (tgt := 69) hx hb d_RangeTellerModel_passIf_37 (by decide) (fun hc => ?_) (fun hc => ?_)
  · have hm := (if_neg hc).symm.trans hm
    refine lv_iload_n hx hb d_RangeTellerModel_passIf_69 rfl (lv_at hl 3 rfl) ?_
    refine lv_iconst (v := 1) hx hb d_RangeTellerModel_passIf_70 (by decide) ?_
    refine lv_iadd hx hb d_RangeTellerModel_passIf_71 ?_
    exact hB72 ls a1 v11 v13 (a1 + 1) σ9 _ _ (lv_sub hl [2, 3, 1, 0] rfl) hm hP hS
  · have hm := (if_pos hc).symm.trans hm
    refine lv_aload_n hx hb d_RangeTellerModel_passIf_40 rfl (lv_at hl 2 rfl) ?_
    refine va_get (D := D) (v := .ref (A 6)) (C := "RangeTellerModel") (T := rt_T6) (N := 69) hx hb hts rt_i6 hown hK hP 0 rfl rfl 11 (by decide) (hts _ (rt_m rt_w858)) (fun _ h9 => h9) rfl d_RangeTellerModel_passIf_41 ?_
    refine lv_iload_n hx hb d_RangeTellerModel_passIf_44 rfl (lv_at hl 3 rfl) ?_
    obtain ⟨v17, h18, hm⟩ := rt_b1s hm
    refine rt_ald hx hb hK hP 6 0 rfl rfl h18 d_RangeTellerModel_passIf_45 ?_
    refine lv_if_lt (tgt := 58) hx hb d_RangeTellerModel_passIf_46 (by decide) (fun hc => ?_) (fun hc => ?_)
    · have hm := (if_pos hc).symm.trans hm
      refine lv_aload_n hx hb d_RangeTellerModel_passIf_58 rfl (lv_at hl 2 rfl) ?_
      refine va_get (D := D) (v := .ref (A 5)) (C := "RangeTellerModel") (T := rt_T6) (N := 69) hx hb hts rt_i6 hown hK hP 0 rfl rfl 10 (by decide) (hts _ (rt_m rt_w857)) (fun _ h9 => h9) rfl d_RangeTellerModel_passIf_59 ?_
      refine lv_iload_n hx hb d_RangeTellerModel_passIf_62 rfl (lv_at hl 3 rfl) ?_
      obtain ⟨v19, h20, hm⟩ := rt_b1s hm
      refine rt_ald hx hb hK hP 5 0 rfl rfl h20 d_RangeTellerModel_passIf_63 ?_
      exact hB64 ls a1 v11 v13 v19 σ9 _ _ (lv_sub hl [2, 3, 1, 0] rfl) hm hP hS
    · have hm := (if_neg hc).symm.trans hm
      refine lv_aload_n hx hb d_RangeTellerModel_passIf_49 rfl (lv_at hl 2 rfl) ?_
      refine va_get (D := D) (v := .ref (A 6)) (C := "RangeTellerModel") (T := rt_T6) (N := 69) hx hb hts rt_i6 hown hK hP 0 rfl rfl 11 (by decide) (hts _ (rt_m rt_w858)) (fun _ h9 => h9) rfl d_RangeTellerModel_passIf_50 ?_
      refine lv_iload_n hx hb d_RangeTellerModel_passIf_53 rfl (lv_at hl 3 rfl) ?_
      obtain ⟨v21, h22, hm⟩ := rt_b1s hm
      refine rt_ald hx hb hK hP 6 0 rfl rfl h22 d_RangeTellerModel_passIf_54 ?_
      refine lv_goto (tgt := 64) hx hb d_RangeTellerModel_passIf_55 (by decide) ?_
      exact hB64 ls a1 v11 v13 v21 σ9 _ _ (lv_sub hl [2, 3, 1, 0] rfl) hm hP hS
set_option maxHeartbeats 4000000 in
set_option maxRecDepth 100000 in
theorem k_R_RangeTellerModel_nothing (l : Launch) (D : va_G) (cI cZ : ClassId) (A : Nat → Nat) (hO : rt_Ok (rtR_W cI cZ A)) (σ : rt_St) (a1 : Int32) (σ' : rt_St) (hm : M_R_RangeTellerModel_nothing σ a1 = some σ') (sz : Nat) : Met l y_RangeTellerModel_nothing (rt_ws y_RangeTellerModel_nothing b_RangeTellerModel_nothing 2 none) ({ frames := 0, cells := 0, slots := 0, locals := 0 } : Room) (va_Pc [.ref (A 0), .int a1] (rt_P D rt_cl (rt_t cI cZ) rtR_X (rtR_W cI cZ A) sz σ)) (va_Qv (fun u1 => u1 = σ') (rt_B D rt_cl (rt_t cI cZ) rtR_X (rtR_W cI cZ A)) (rt_A (rtR_W cI cZ A) sz)) 0 0 (rt_A (rtR_W cI cZ A) sz) := by
  refine Met.ofW (cc := b_RangeTellerModel_nothing) (maxL := 2) (ret := none) (by decide) rfl ?_
  intro p e s m args below meth c s₁ B hml hv
  obtain ⟨rfl, rfl, hP, hK, hX⟩ := hv
  have hx := B.exec
  have hb := B.bytes
  have hr := B.returns
  have hts := atoms_spec (ws := (rt_ws y_RangeTellerModel_nothing b_RangeTellerModel_nothing 2 none)) B.pre
  have hown : s.vm.findClass "RangeTellerModel" = some m.cls := findClass_of_methodNamed B.named
  have hlocks := B.notSynchronized
  have hD := rt_hD hO s.heap.size
  have hS : va_S (rt_A (rtR_W cI cZ A) s.heap.size) s.heap s.heap [] := va_S.rf
  have hl := lv_entry ([.ref (A 0), .int a1]) (n := 2) (Nat.le_of_ble_eq_true rfl)
  rw [lg_entry_eq]
  generalize (lg_sl ([.ref (A 0), .int a1]) ++ List.replicate (2 - (lg_sl ([.ref (A 0), .int a1])).length) Slot.unset).toArray = ls at hl ⊢
  have hl : lv_has ls 2 [(0, .ref (A 0)), (1, .int a1)] := hl
  show W p l e ({ frames := 0, cells := 0, slots := 0, locals := 0 } : Room) s m ([.ref (A 0), .int a1] : List Value).toArray below meth c s.heap [] 0 0 (rt_Qv D rt_cl (rt_t cI cZ) rtR_X (rtR_W cI cZ A) below ([.ref (A 0), .int a1] : List Value).toArray s σ') (F0 m 0 ls [])
  unfold M_R_RangeTellerModel_nothing at hm
  refine lv_aload_n hx hb d_RangeTellerModel_nothing_0 rfl (lv_at hl 0 rfl) ?_
  refine lv_bipush (v := 64) hx hb d_RangeTellerModel_nothing_1 (by decide) ?_
  obtain ⟨σ1, h2, hm⟩ := rt_b1s hm
  refine rt_pf (D := D) (C := "RangeTellerModel") (T := rt_T6) (N := 69) (ty := .int) hx hb hts rt_i6 rt_y6 rt_o6 rt_n6 hown hK hP hD hS 0 rfl rfl 66 (by decide) (hts _ (rt_m rt_w913)) (fun _ h9 => h9) rfl (by decide +kernel) rfl rfl (Nat.le_of_ble_eq_true rfl) (rtR_s0_66 cI cZ A _ _) h2 d_RangeTellerModel_nothing_3 (fun H locs hP hS => ?_)
  refine lv_aload_n hx hb d_RangeTellerModel_nothing_6 rfl (lv_at hl 0 rfl) ?_
  refine lv_iconst (v := (-1)) hx hb d_RangeTellerModel_nothing_7 (by decide) ?_
  obtain ⟨σ3, h4, hm⟩ := rt_b1s hm
  refine rt_pf (D := D) (C := "RangeTellerModel") (T := rt_T6) (N := 69) (ty := .int) hx hb hts rt_i6 rt_y6 rt_o6 rt_n6 hown hK hP hD hS 0 rfl rfl 67 (by decide) (hts _ (rt_m rt_w914)) (fun _ h9 => h9) rfl (by decide +kernel) rfl rfl (Nat.le_of_ble_eq_true rfl) (rtR_s0_67 cI cZ A _ _) h4 d_RangeTellerModel_nothing_8 (fun H locs hP hS => ?_)
  refine lv_aload_n hx hb d_RangeTellerModel_nothing_11 rfl (lv_at hl 0 rfl) ?_
  refine lv_iload_n hx hb d_RangeTellerModel_nothing_12 rfl (lv_at hl 1 rfl) ?_
  obtain ⟨_, h7, hm⟩ := rt_b1s hm
  obtain ⟨σ5, h6, hm⟩ := rt_b1s hm
  refine rt_pf (D := D) (C := "RangeTellerModel") (T := rt_T6) (N := 69) (ty := .boolean) hx hb hts rt_i6 rt_y6 rt_o6 rt_n6 hown hK hP hD hS 0 rfl rfl 68 (by decide) (hts _ (rt_m rt_w915)) (fun _ h9 => h9) rfl (by decide +kernel) (rt_zoks h7) (rt_zokf h7) (Nat.le_of_ble_eq_true rfl) (rtR_s0_68 cI cZ A _ _) h6 d_RangeTellerModel_nothing_13 (fun H locs hP hS => ?_)
  exact W.vret hx hb hr (fun t ht hW => ⟨⟨_, rfl, Option.some.inj hm, rt_end rtR_Xo hK hP hS hX ht hW⟩, hS.F ht⟩) hS.2.2 d_RangeTellerModel_nothing_16
set_option maxHeartbeats 4000000 in
set_option maxRecDepth 100000 in
theorem k_R_RangeTellerModel_operate (l : Launch) (a0 a1 a2 : Int32) (r' : Int32) (hm : M_R_RangeTellerModel_operate a0 a1 a2 = some r') : rt_MS l y_RangeTellerModel_operate b_RangeTellerModel_operate 3 (some .int) ({ frames := 0, cells := 0, slots := 0, locals := 0 } : Room) rt_X0 [.int a0, .int a1, .int a2] r' := by
  intro sz
  refine Met.ofW (cc := b_RangeTellerModel_operate) (maxL := 3) (ret := (some .int)) (by decide) rfl ?_
  intro p e s m args below meth c s₁ B hml hv
  obtain ⟨rfl, rfl, hX⟩ := hv
  have hx := B.exec
  have hb := B.bytes
  have hr := B.returns
  have hts := atoms_spec (ws := (rt_ws y_RangeTellerModel_operate b_RangeTellerModel_operate 3 (some .int))) B.pre
  have hown : s.vm.findClass "RangeTellerModel" = some m.cls := findClass_of_methodNamed B.named
  have hlocks := B.notSynchronized
  have hS : va_S (fun q => s.heap.size ≤ q) s.heap s.heap [] := va_S.rf
  have hl := lv_entry ([.int a0, .int a1, .int a2]) (n := 3) (Nat.le_of_ble_eq_true rfl)
  rw [lg_entry_eq]
  generalize (lg_sl ([.int a0, .int a1, .int a2]) ++ List.replicate (3 - (lg_sl ([.int a0, .int a1, .int a2])).length) Slot.unset).toArray = ls at hl ⊢
  have hl : lv_has ls 3 [(0, .int a0), (1, .int a1), (2, .int a2)] := hl
  show W p l e ({ frames := 0, cells := 0, slots := 0, locals := 0 } : Room) s m ([.int a0, .int a1, .int a2] : List Value).toArray below meth c s.heap [] 0 0 (rt_Qs below ([.int a0, .int a1, .int a2] : List Value).toArray s r') (F0 m 0 ls [])
  unfold M_R_RangeTellerModel_operate at hm
  refine lv_iload_n hx hb d_RangeTellerModel_operate_0 rfl (lv_at hl 0 rfl) ?_
  by_cases c1 : a0 = 19
  · have hm := (if_pos c1).symm.trans hm
    refine lv_tableIn (off := 43) (tgt := 44) hx hb d_RangeTellerModel_operate_1 (by rw [c1]; decide) (by rw [c1]; decide) (by rw [c1]; rfl) (by decide) ?_
    refine lv_iload_n hx hb d_RangeTellerModel_operate_44 rfl (lv_at hl 1 rfl) ?_
    refine lv_iload_n hx hb d_RangeTellerModel_operate_45 rfl (lv_at hl 2 rfl) ?_
    refine lv_icmp_ne (tgt := 53) hx hb d_RangeTellerModel_operate_46 (by decide) (fun hc => ?_) (fun hc => ?_)
    · have hm := (if_neg hc).symm.trans hm
      refine lv_iconst (v := 0) hx hb d_RangeTellerModel_operate_53 (by decide) ?_
      exact W.iret hx hb hr (fun t ht hW => ⟨⟨_, (), rfl, Option.some.inj hm, trivial⟩, hS.F ht⟩) hS.2.2 d_RangeTellerModel_operate_54
    · have hm := (if_pos hc).symm.trans hm
      refine lv_iconst (v := 1) hx hb d_RangeTellerModel_operate_49 (by decide) ?_
      refine lv_goto (tgt := 54) hx hb d_RangeTellerModel_operate_50 (by decide) ?_
      exact W.iret hx hb hr (fun t ht hW => ⟨⟨_, (), rfl, Option.some.inj hm, trivial⟩, hS.F ht⟩) hS.2.2 d_RangeTellerModel_operate_54
  have hm := (if_neg c1).symm.trans hm
  by_cases c2 : a0 = 20
  · have hm := (if_pos c2).symm.trans hm
    refine lv_tableIn (off := 54) (tgt := 55) hx hb d_RangeTellerModel_operate_1 (by rw [c2]; decide) (by rw [c2]; decide) (by rw [c2]; rfl) (by decide) ?_
    refine lv_iload_n hx hb d_RangeTellerModel_operate_55 rfl (lv_at hl 1 rfl) ?_
    refine lv_iload_n hx hb d_RangeTellerModel_operate_56 rfl (lv_at hl 2 rfl) ?_
    refine lv_icmp_ge (tgt := 64) hx hb d_RangeTellerModel_operate_57 (by decide) (fun hc => ?_) (fun hc => ?_)
    · have hm := (if_pos hc).symm.trans hm
      refine lv_iconst (v := 0) hx hb d_RangeTellerModel_operate_64 (by decide) ?_
      exact W.iret hx hb hr (fun t ht hW => ⟨⟨_, (), rfl, Option.some.inj hm, trivial⟩, hS.F ht⟩) hS.2.2 d_RangeTellerModel_operate_65
    · have hm := (if_neg hc).symm.trans hm
      refine lv_iconst (v := 1) hx hb d_RangeTellerModel_operate_60 (by decide) ?_
      refine lv_goto (tgt := 65) hx hb d_RangeTellerModel_operate_61 (by decide) ?_
      exact W.iret hx hb hr (fun t ht hW => ⟨⟨_, (), rfl, Option.some.inj hm, trivial⟩, hS.F ht⟩) hS.2.2 d_RangeTellerModel_operate_65
  have hm := (if_neg c2).symm.trans hm
  by_cases c3 : a0 = 21
  · have hm := (if_pos c3).symm.trans hm
    refine lv_tableIn (off := 65) (tgt := 66) hx hb d_RangeTellerModel_operate_1 (by rw [c3]; decide) (by rw [c3]; decide) (by rw [c3]; rfl) (by decide) ?_
    refine lv_iload_n hx hb d_RangeTellerModel_operate_66 rfl (lv_at hl 1 rfl) ?_
    refine lv_iload_n hx hb d_RangeTellerModel_operate_67 rfl (lv_at hl 2 rfl) ?_
    refine lv_iadd hx hb d_RangeTellerModel_operate_68 ?_
    refine lv_bipush (v := 63) hx hb d_RangeTellerModel_operate_69 (by decide) ?_
    refine lv_iand hx hb d_RangeTellerModel_operate_71 ?_
    exact W.iret hx hb hr (fun t ht hW => ⟨⟨_, (), rfl, Option.some.inj hm, trivial⟩, hS.F ht⟩) hS.2.2 d_RangeTellerModel_operate_72
  have hm := (if_neg c3).symm.trans hm
  by_cases c4 : a0 = 22
  · have hm := (if_pos c4).symm.trans hm
    refine lv_tableIn (off := 72) (tgt := 73) hx hb d_RangeTellerModel_operate_1 (by rw [c4]; decide) (by rw [c4]; decide) (by rw [c4]; rfl) (by decide) ?_
    refine lv_iload_n hx hb d_RangeTellerModel_operate_73 rfl (lv_at hl 1 rfl) ?_
    refine lv_iload_n hx hb d_RangeTellerModel_operate_74 rfl (lv_at hl 2 rfl) ?_
    refine lv_isub hx hb d_RangeTellerModel_operate_75 ?_
    refine lv_bipush (v := 63) hx hb d_RangeTellerModel_operate_76 (by decide) ?_
    refine lv_iand hx hb d_RangeTellerModel_operate_78 ?_
    exact W.iret hx hb hr (fun t ht hW => ⟨⟨_, (), rfl, Option.some.inj hm, trivial⟩, hS.F ht⟩) hS.2.2 d_RangeTellerModel_operate_79
  have hm := (if_neg c4).symm.trans hm
  by_cases c5 : a0 = 23
  · have hm := (if_pos c5).symm.trans hm
    refine lv_tableIn (off := 79) (tgt := 80) hx hb d_RangeTellerModel_operate_1 (by rw [c5]; decide) (by rw [c5]; decide) (by rw [c5]; rfl) (by decide) ?_
    refine lv_iload_n hx hb d_RangeTellerModel_operate_80 rfl (lv_at hl 1 rfl) ?_
    refine lv_iload_n hx hb d_RangeTellerModel_operate_81 rfl (lv_at hl 2 rfl) ?_
    refine lv_imul hx hb d_RangeTellerModel_operate_82 ?_
    refine lv_bipush (v := 63) hx hb d_RangeTellerModel_operate_83 (by decide) ?_
    refine lv_iand hx hb d_RangeTellerModel_operate_85 ?_
    exact W.iret hx hb hr (fun t ht hW => ⟨⟨_, (), rfl, Option.some.inj hm, trivial⟩, hS.F ht⟩) hS.2.2 d_RangeTellerModel_operate_86
  have hm := (if_neg c5).symm.trans hm
  by_cases c6 : a0 = 24
  · have hm := (if_pos c6).symm.trans hm
    refine lv_tableIn (off := 86) (tgt := 87) hx hb d_RangeTellerModel_operate_1 (by rw [c6]; decide) (by rw [c6]; decide) (by rw [c6]; rfl) (by decide) ?_
    refine lv_iload_n hx hb d_RangeTellerModel_operate_87 rfl (lv_at hl 1 rfl) ?_
    refine lv_iload_n hx hb d_RangeTellerModel_operate_88 rfl (lv_at hl 2 rfl) ?_
    obtain ⟨v7, h8, hm⟩ := rt_b1s hm
    obtain ⟨h8a, rfl⟩ := rt_divs h8
    refine lv_idiv hx hb d_RangeTellerModel_operate_89 h8a ?_
    exact W.iret hx hb hr (fun t ht hW => ⟨⟨_, (), rfl, Option.some.inj hm, trivial⟩, hS.F ht⟩) hS.2.2 d_RangeTellerModel_operate_90
  have hm := (if_neg c6).symm.trans hm
  by_cases c9 : a0 = 25
  · have hm := (if_pos c9).symm.trans hm
    refine lv_tableIn (off := 90) (tgt := 91) hx hb d_RangeTellerModel_operate_1 (by rw [c9]; decide) (by rw [c9]; decide) (by rw [c9]; rfl) (by decide) ?_
    refine lv_iload_n hx hb d_RangeTellerModel_operate_91 rfl (lv_at hl 1 rfl) ?_
    refine lv_iload_n hx hb d_RangeTellerModel_operate_92 rfl (lv_at hl 2 rfl) ?_
    obtain ⟨v10, h11, hm⟩ := rt_b1s hm
    obtain ⟨h11a, rfl⟩ := rt_rems h11
    refine lv_irem hx hb d_RangeTellerModel_operate_93 h11a ?_
    exact W.iret hx hb hr (fun t ht hW => ⟨⟨_, (), rfl, Option.some.inj hm, trivial⟩, hS.F ht⟩) hS.2.2 d_RangeTellerModel_operate_94
  have hm := (if_neg c9).symm.trans hm
  refine lv_tableOut (tgt := 95) hx hb d_RangeTellerModel_operate_1 (by have := lv_neT (a := 19) c1 rfl; have := lv_neT (a := 20) c2 rfl; have := lv_neT (a := 21) c3 rfl; have := lv_neT (a := 22) c4 rfl; have := lv_neT (a := 23) c5 rfl; have := lv_neT (a := 24) c6 rfl; have := lv_neT (a := 25) c9 rfl; omega) (by decide) ?_
  refine lv_iload_n hx hb d_RangeTellerModel_operate_95 rfl (lv_at hl 1 rfl) ?_
  refine lv_iload_n hx hb d_RangeTellerModel_operate_96 rfl (lv_at hl 2 rfl) ?_
  refine lv_iand hx hb d_RangeTellerModel_operate_97 ?_
  exact W.iret hx hb hr (fun t ht hW => ⟨⟨_, (), rfl, Option.some.inj hm, trivial⟩, hS.F ht⟩) hS.2.2 d_RangeTellerModel_operate_98
set_option maxHeartbeats 4000000 in
set_option maxRecDepth 100000 in
theorem k_R_RangeTellerModel_join (l : Launch) (D : va_G) (cI cZ : ClassId) (A : Nat → Nat) (hO : rt_Ok (rtR_W cI cZ A)) (σ : rt_St) (a1 a2 : Int32) (σ' : rt_St) (hm : M_R_RangeTellerModel_join σ a1 a2 = some σ') (sz : Nat) : Met l y_RangeTellerModel_join (rt_ws y_RangeTellerModel_join b_RangeTellerModel_join 3 none) ({ frames := 0, cells := 0, slots := 0, locals := 0 } : Room) (va_Pc [.ref (A 0), .int a1, .int a2] (rt_P D rt_cl (rt_t cI cZ) rtR_X (rtR_W cI cZ A) sz σ)) (va_Qv (fun u1 => u1 = σ') (rt_B D rt_cl (rt_t cI cZ) rtR_X (rtR_W cI cZ A)) (rt_A (rtR_W cI cZ A) sz)) 0 0 (rt_A (rtR_W cI cZ A) sz) := by
  refine Met.ofW (cc := b_RangeTellerModel_join) (maxL := 3) (ret := none) (by decide) rfl ?_
  intro p e s m args below meth c s₁ B hml hv
  obtain ⟨rfl, rfl, hP, hK, hX⟩ := hv
  have hx := B.exec
  have hb := B.bytes
  have hr := B.returns
  have hts := atoms_spec (ws := (rt_ws y_RangeTellerModel_join b_RangeTellerModel_join 3 none)) B.pre
  have hown : s.vm.findClass "RangeTellerModel" = some m.cls := findClass_of_methodNamed B.named
  have hlocks := B.notSynchronized
  have hD := rt_hD hO s.heap.size
  have hS : va_S (rt_A (rtR_W cI cZ A) s.heap.size) s.heap s.heap [] := va_S.rf
  have hl := lv_entry ([.ref (A 0), .int a1, .int a2]) (n := 3) (Nat.le_of_ble_eq_true rfl)
  rw [lg_entry_eq]
  generalize (lg_sl ([.ref (A 0), .int a1, .int a2]) ++ List.replicate (3 - (lg_sl ([.ref (A 0), .int a1, .int a2])).length) Slot.unset).toArray = ls at hl ⊢
  have hl : lv_has ls 3 [(0, .ref (A 0)), (1, .int a1), (2, .int a2)] := hl
  show W p l e ({ frames := 0, cells := 0, slots := 0, locals := 0 } : Room) s m ([.ref (A 0), .int a1, .int a2] : List Value).toArray below meth c s.heap [] 0 0 (rt_Qv D rt_cl (rt_t cI cZ) rtR_X (rtR_W cI cZ A) below ([.ref (A 0), .int a1, .int a2] : List Value).toArray s σ') (F0 m 0 ls [])
  have hB17 : ∀ (ls : Array Slot) (l2 t0 : Int32) (σ : rt_St) (H : Heap) (locs : List Loc), lv_has ls 3 [(0, .ref (A 0)), (2, .int l2)] → B_R_RangeTellerModel_join_17 l2 t0 σ = some σ' → va_P D rt_cl (rtR_W cI cZ A σ) H → va_S (rt_A (rtR_W cI cZ A) s.heap.size) s.heap H locs → W p l e ({ frames := 0, cells := 0, slots := 0, locals := 0 } : Room) s m ([.ref (A 0), .int a1, .int a2] : List Value).toArray below meth c H locs 0 0 (rt_Qv D rt_cl (rt_t cI cZ) rtR_X (rtR_W cI cZ A) below ([.ref (A 0), .int a1, .int a2] : List Value).toArray s σ') (F0 m 17 ls [.int t0, .ref (A 0)]) := by
    intro ls l2 t0 σ H locs hl hm hP hS
    unfold B_R_RangeTellerModel_join_17 at hm
    obtain ⟨σ1, h2, hm⟩ := rt_b1s hm
    refine rt_pf (D := D) (C := "RangeTellerModel") (T := rt_T6) (N := 69) (ty := .int) hx hb hts rt_i6 rt_y6 rt_o6 rt_n6 hown hK hP hD hS 0 rfl rfl 66 (by decide) (hts _ (rt_m rt_w913)) (fun _ h9 => h9) rfl (by decide +kernel) rfl rfl (Nat.le_of_ble_eq_true rfl) (rtR_s0_66 cI cZ A _ _) h2 d_RangeTellerModel_join_17 (fun H locs hP hS => ?_)
    refine lv_aload_n hx hb d_RangeTellerModel_join_20 rfl (lv_at hl 0 rfl) ?_
    refine lv_iload_n hx hb d_RangeTellerModel_join_21 rfl (lv_at hl 1 rfl) ?_
    refine lv_aload_n hx hb d_RangeTellerModel_join_22 rfl (lv_at hl 0 rfl) ?_
    refine va_get (D := D) (v := .int (σ1 0 67)) (C := "RangeTellerModel") (T := rt_T6) (N := 69) hx hb hts rt_i6 hown hK hP 0 rfl rfl 67 (by decide) (hts _ (rt_m rt_w914)) (fun _ h9 => h9) rfl d_RangeTellerModel_join_23 ?_
    refine lv_icmp_le (tgt := 33) hx hb d_RangeTellerModel_join_26 (by decide) (fun hc => ?_) (fun hc => ?_)
    · have hm := (if_pos hc).symm.trans hm
      refine lv_aload_n hx hb d_RangeTellerModel_join_33 rfl (lv_at hl 0 rfl) ?_
      refine va_get (D := D) (v := .int (σ1 0 67)) (C := "RangeTellerModel") (T := rt_T6) (N := 69) hx hb hts rt_i6 hown hK hP 0 rfl rfl 67 (by decide) (hts _ (rt_m rt_w914)) (fun _ h9 => h9) rfl d_RangeTellerModel_join_34 ?_
      obtain ⟨σ3, h4, hm⟩ := rt_b1s hm
      refine rt_pf (D := D) (C := "RangeTellerModel") (T := rt_T6) (N := 69) (ty := .int) hx hb hts rt_i6 rt_y6 rt_o6 rt_n6 hown hK hP hD hS 0 rfl rfl 67 (by decide) (hts _ (rt_m rt_w914)) (fun _ h9 => h9) rfl (by decide +kernel) rfl rfl (Nat.le_of_ble_eq_true rfl) (rtR_s0_67 cI cZ A _ _) h4 d_RangeTellerModel_join_37 (fun H locs hP hS => ?_)
      exact W.vret hx hb hr (fun t ht hW => ⟨⟨_, rfl, Option.some.inj hm, rt_end rtR_Xo hK hP hS hX ht hW⟩, hS.F ht⟩) hS.2.2 d_RangeTellerModel_join_40
    · have hm := (if_neg hc).symm.trans hm
      refine lv_iload_n hx hb d_RangeTellerModel_join_29 rfl (lv_at hl 1 rfl) ?_
      refine lv_goto (tgt := 37) hx hb d_RangeTellerModel_join_30 (by decide) ?_
      obtain ⟨σ5, h6, hm⟩ := rt_b1s hm
      refine rt_pf (D := D) (C := "RangeTellerModel") (T := rt_T6) (N := 69) (ty := .int) hx hb hts rt_i6 rt_y6 rt_o6 rt_n6 hown hK hP hD hS 0 rfl rfl 67 (by decide) (hts _ (rt_m rt_w914)) (fun _ h9 => h9) rfl (by decide +kernel) rfl rfl (Nat.le_of_ble_eq_true rfl) (rtR_s0_67 cI cZ A _ _) h6 d_RangeTellerModel_join_37 (fun H locs hP hS => ?_)
      exact W.vret hx hb hr (fun t ht hW => ⟨⟨_, rfl, Option.some.inj hm, rt_end rtR_Xo hK hP hS hX ht hW⟩, hS.F ht⟩) hS.2.2 d_RangeTellerModel_join_40
  unfold M_R_RangeTellerModel_join at hm
  refine lv_aload_n hx hb d_RangeTellerModel_join_0 rfl (lv_at hl 0 rfl) ?_
  refine lv_iload_n hx hb d_RangeTellerModel_join_1 rfl (lv_at hl 1 rfl) ?_
  refine lv_aload_n hx hb d_RangeTellerModel_join_2 rfl (lv_at hl 0 rfl) ?_
  refine va_get (D := D) (v := .int (σ 0 66)) (C := "RangeTellerModel") (T := rt_T6) (N := 69) hx hb hts rt_i6 hown hK hP 0 rfl rfl 66 (by decide) (hts _ (rt_m rt_w913)) (fun _ h9 => h9) rfl d_RangeTellerModel_join_3 ?_
  refine lv_icmp_ge (tgt := 13) hx hb d_RangeTellerModel_join_6 (by decide) (fun hc => ?_) (fun hc => ?_)
  · have hm := (if_pos hc).symm.trans hm
    refine lv_aload_n hx hb d_RangeTellerModel_join_13 rfl (lv_at hl 0 rfl) ?_
    refine va_get (D := D) (v := .int (σ 0 66)) (C := "RangeTellerModel") (T := rt_T6) (N := 69) hx hb hts rt_i6 hown hK hP 0 rfl rfl 66 (by decide) (hts _ (rt_m rt_w913)) (fun _ h9 => h9) rfl d_RangeTellerModel_join_14 ?_
    exact hB17 ls a2 (σ 0 66) σ _ _ (lv_sub hl [0, 2] rfl) hm hP hS
  · have hm := (if_neg hc).symm.trans hm
    refine lv_iload_n hx hb d_RangeTellerModel_join_9 rfl (lv_at hl 1 rfl) ?_
    refine lv_goto (tgt := 17) hx hb d_RangeTellerModel_join_10 (by decide) ?_
    exact hB17 ls a2 a1 σ _ _ (lv_sub hl [0, 2] rfl) hm hP hS
set_option maxHeartbeats 4000000 in
set_option maxRecDepth 100000 in
theorem k_R_RangeTellerModel_pairs (l : Launch) (D : va_G) (cI cZ : ClassId) (A : Nat → Nat) (hO : rt_Ok (rtR_W cI cZ A)) (σ : rt_St) (a1 : Int32) (σ' : rt_St) (hm : M_R_RangeTellerModel_pairs σ a1 = some σ') (sz : Nat) : Met l y_RangeTellerModel_pairs (rt_ws y_RangeTellerModel_pairs b_RangeTellerModel_pairs 7 none) ({ frames := 1, cells := 0, slots := 0, locals := 22 } : Room) (va_Pc [.ref (A 0), .int a1] (rt_P D rt_cl (rt_t cI cZ) rtR_X (rtR_W cI cZ A) sz σ)) (va_Qv (fun u1 => u1 = σ') (rt_B D rt_cl (rt_t cI cZ) rtR_X (rtR_W cI cZ A)) (rt_A (rtR_W cI cZ A) sz)) 0 0 (rt_A (rtR_W cI cZ A) sz) := by
  refine Met.ofW (cc := b_RangeTellerModel_pairs) (maxL := 7) (ret := none) (by decide) rfl ?_
  intro p e s m args below meth c s₁ B hml hv
  obtain ⟨rfl, rfl, hP, hK, hX⟩ := hv
  have hx := B.exec
  have hb := B.bytes
  have hr := B.returns
  have hts := atoms_spec (ws := (rt_ws y_RangeTellerModel_pairs b_RangeTellerModel_pairs 7 none)) B.pre
  have hown : s.vm.findClass "RangeTellerModel" = some m.cls := findClass_of_methodNamed B.named
  have hlocks := B.notSynchronized
  have hD := rt_hD hO s.heap.size
  have hS : va_S (rt_A (rtR_W cI cZ A) s.heap.size) s.heap s.heap [] := va_S.rf
  have hl := lv_entry ([.ref (A 0), .int a1]) (n := 7) (Nat.le_of_ble_eq_true rfl)
  rw [lg_entry_eq]
  generalize (lg_sl ([.ref (A 0), .int a1]) ++ List.replicate (7 - (lg_sl ([.ref (A 0), .int a1])).length) Slot.unset).toArray = ls at hl ⊢
  have hl : lv_has ls 7 [(0, .ref (A 0)), (1, .int a1)] := hl
  show W p l e ({ frames := 1, cells := 0, slots := 0, locals := 22 } : Room) s m ([.ref (A 0), .int a1] : List Value).toArray below meth c s.heap [] 0 0 (rt_Qv D rt_cl (rt_t cI cZ) rtR_X (rtR_W cI cZ A) below ([.ref (A 0), .int a1] : List Value).toArray s σ') (F0 m 0 ls [])
  have hB49 : ∀ (n49 : Nat) (ls : Array Slot) (l1 l2 l3 l4 : Int32) (σ : rt_St) (H : Heap) (locs : List Loc), lv_has ls 7 [(0, .ref (A 0)), (1, .int l1), (2, .int l2), (3, .int l3), (4, .int l4)] → B_R_RangeTellerModel_pairs_49 n49 l1 l2 l3 l4 σ = some σ' → va_P D rt_cl (rtR_W cI cZ A σ) H → va_S (rt_A (rtR_W cI cZ A) s.heap.size) s.heap H locs → W p l e ({ frames := 1, cells := 0, slots := 0, locals := 22 } : Room) s m ([.ref (A 0), .int a1] : List Value).toArray below meth c H locs 0 0 (rt_Qv D rt_cl (rt_t cI cZ) rtR_X (rtR_W cI cZ A) below ([.ref (A 0), .int a1] : List Value).toArray s σ') (F0 m 49 ls []) := by
    intro n49
    induction n49 with
    | zero => intro ls l1 l2 l3 l4 σ H locs hl hm hP hS; rw [B_R_RangeTellerModel_pairs_49] at hm; cases hm
    | succ n49 ih49 =>
      have hB68 : ∀ (n68 : Nat) (ls : Array Slot) (l1 l2 l3 l4 l5 : Int32) (σ : rt_St) (H : Heap) (locs : List Loc), lv_has ls 7 [(0, .ref (A 0)), (1, .int l1), (2, .int l2), (3, .int l3), (4, .int l4), (5, .int l5)] → B_R_RangeTellerModel_pairs_68 (B_R_RangeTellerModel_pairs_49 n49) n68 l1 l2 l3 l4 l5 σ = some σ' → va_P D rt_cl (rtR_W cI cZ A σ) H → va_S (rt_A (rtR_W cI cZ A) s.heap.size) s.heap H locs → W p l e ({ frames := 1, cells := 0, slots := 0, locals := 22 } : Room) s m ([.ref (A 0), .int a1] : List Value).toArray below meth c H locs 0 0 (rt_Qv D rt_cl (rt_t cI cZ) rtR_X (rtR_W cI cZ A) below ([.ref (A 0), .int a1] : List Value).toArray s σ') (F0 m 68 ls []) := by
        intro n68
        induction n68 with
        | zero => intro ls l1 l2 l3 l4 l5 σ H locs hl hm hP hS; rw [B_R_RangeTellerModel_pairs_68] at hm; cases hm
        | succ n68 ih68 =>
          have hB117 : ∀ (ls : Array Slot) (l1 l2 l3 l4 l5 : Int32) (σ : rt_St) (H : Heap) (locs : List Loc), lv_has ls 7 [(0, .ref (A 0)), (1, .int l1), (2, .int l2), (3, .int l3), (4, .int l4), (5, .int l5)] → B_R_RangeTellerModel_pairs_117 (B_R_RangeTellerModel_pairs_49 n49) (B_R_RangeTellerModel_pairs_68 (B_R_RangeTellerModel_pairs_49 n49) n68) l1 l2 l3 l4 l5 σ = some σ' → va_P D rt_cl (rtR_W cI cZ A σ) H → va_S (rt_A (rtR_W cI cZ A) s.heap.size) s.heap H locs → W p l e ({ frames := 1, cells := 0, slots := 0, locals := 22 } : Room) s m ([.ref (A 0), .int a1] : List Value).toArray below meth c H locs 0 0 (rt_Qv D rt_cl (rt_t cI cZ) rtR_X (rtR_W cI cZ A) below ([.ref (A 0), .int a1] : List Value).toArray s σ') (F0 m 117 ls []) := by
            intro ls l1 l2 l3 l4 l5 σ H locs hl hm hP hS
            unfold B_R_RangeTellerModel_pairs_117 at hm
            refine lv_iinc (k := 5) (v := (l5 + 1)) hx hb d_RangeTellerModel_pairs_117 hl rfl rfl (by decide) rfl (fun ls hl => ?_)
            have hl : lv_has ls 7 [(5, .int (l5 + 1)), (0, .ref (A 0)), (1, .int l1), (2, .int l2), (3, .int l3), (4, .int l4)] := hl
            refine lv_goto (tgt := 68) hx hb d_RangeTellerModel_pairs_120 (by decide) ?_
            exact ih68 ls l1 l2 l3 l4 (l5 + 1) σ _ _ (lv_sub hl [1, 2, 3, 4, 5, 0] rfl) hm hP hS
          have hB99 : ∀ (ls : Array Slot) (l1 l2 l3 l4 l5 : Int32) (σ : rt_St) (H : Heap) (locs : List Loc), lv_has ls 7 [(0, .ref (A 0)), (1, .int l1), (2, .int l2), (3, .int l3), (4, .int l4), (5, .int l5)] → B_R_RangeTellerModel_pairs_99 (B_R_RangeTellerModel_pairs_49 n49) (B_R_RangeTellerModel_pairs_68 (B_R_RangeTellerModel_pairs_49 n49) n68) l1 l2 l3 l4 l5 σ = some σ' → va_P D rt_cl (rtR_W cI cZ A σ) H → va_S (rt_A (rtR_W cI cZ A) s.heap.size) s.heap H locs → W p l e ({ frames := 1, cells := 0, slots := 0, locals := 22 } : Room) s m ([.ref (A 0), .int a1] : List Value).toArray below meth c H locs 0 0 (rt_Qv D rt_cl (rt_t cI cZ) rtR_X (rtR_W cI cZ A) below ([.ref (A 0), .int a1] : List Value).toArray s σ') (F0 m 99 ls []) := by
            intro ls l1 l2 l3 l4 l5 σ H locs hl hm hP hS
            unfold B_R_RangeTellerModel_pairs_99 at hm
            refine lv_iload_n hx hb d_RangeTellerModel_pairs_99 rfl (lv_at hl 1 rfl) ?_
            refine lv_iload hx hb d_RangeTellerModel_pairs_100 (lv_at hl 4 rfl) ?_
            refine lv_iload hx hb d_RangeTellerModel_pairs_102 (lv_at hl 5 rfl) ?_
            obtain ⟨v2, h1, hm⟩ := rt_b1s hm
            refine rt_csi (As := [.int l1, .int l4, .int l5]) (rest := []) rt_X0o ⟨hx, hb, hml, hown, hts⟩ (k_R_RangeTellerModel_operate l l1 l4 l5 _ h1) (cw_RangeTellerModel_operate hts (hts _ (rt_m rt_w1197)) ⟨Nat.le_of_ble_eq_true rfl, Nat.le_of_ble_eq_true rfl⟩) hS (fun _ h => Or.inr h) trivial rfl hl.1 rfl (Nat.le_of_ble_eq_true rfl) d_RangeTellerModel_pairs_104 ⟨Nat.zero_le _, Nat.zero_le _⟩ (fun H locs hk hS => ?_)
            have hP := rt_keep hP hk
            clear hk
            refine lv_istore hx hb d_RangeTellerModel_pairs_107 hl (by decide) rfl (fun ls hl => ?_)
            have hl : lv_has ls 7 [(6, .int v2), (0, .ref (A 0)), (1, .int l1), (2, .int l2), (3, .int l3), (4, .int l4), (5, .int l5)] := hl
            refine lv_aload_n hx hb d_RangeTellerModel_pairs_109 rfl (lv_at hl 1 rfl) ?_
            refine lv_iload hx hb d_RangeTellerModel_pairs_110 (lv_at hl 0 rfl) ?_
            refine lv_iload hx hb d_RangeTellerModel_pairs_112 (lv_at hl 0 rfl) ?_
            obtain ⟨σ4, h3, hm⟩ := rt_b1s hm
            refine rt_cvv (As := [.int v2, .int v2]) (rest := []) (k := 0) rtR_Xo ⟨hx, hb, hml, hown, hts⟩ (k_R_RangeTellerModel_join l D cI cZ A hO σ v2 v2 _ h3) (cw_RangeTellerModel_join hts (hts _ (rt_m rt_w1177)) ⟨Nat.le_of_ble_eq_true rfl, Nat.le_of_ble_eq_true rfl⟩) hK hP hS hX rfl rfl rfl hl.1 rfl (Nat.le_of_ble_eq_true rfl) d_RangeTellerModel_pairs_114 ⟨Nat.zero_le _, Nat.zero_le _⟩ (fun H locs hP hS => ?_)
            exact hB117 ls l1 l2 l3 l4 l5 σ4 _ _ (lv_sub hl [1, 2, 3, 4, 5, 6] rfl) hm hP hS
          intro ls l1 l2 l3 l4 l5 σ H locs hl hm hP hS
          rw [B_R_RangeTellerModel_pairs_68] at hm
          refine lv_iload hx hb d_RangeTellerModel_pairs_68 (lv_at hl 5 rfl) ?_
          refine lv_aload_n hx hb d_RangeTellerModel_pairs_70 rfl (lv_at hl 0 rfl) ?_
          refine va_get (D := D) (v := .ref (A 42)) (C := "RangeTellerModel") (T := rt_T6) (N := 69) hx hb hts rt_i6 hown hK hP 0 rfl rfl 61 (by decide) (hts _ (rt_m rt_w908)) (fun _ h9 => h9) rfl d_RangeTellerModel_pairs_71 ?_
          refine lv_iload_n hx hb d_RangeTellerModel_pairs_74 rfl (lv_at hl 3 rfl) ?_
          obtain ⟨v5, h6, hm⟩ := rt_b1s hm
          refine rt_ald hx hb hK hP 42 0 rfl rfl h6 d_RangeTellerModel_pairs_75 ?_
          refine lv_icmp_gt (tgt := 123) hx hb d_RangeTellerModel_pairs_76 (by decide) (fun hc => ?_) (fun hc => ?_)
          · have hm := (if_pos hc).symm.trans hm
            refine lv_iinc (k := 4) (v := (l4 + 1)) hx hb d_RangeTellerModel_pairs_123 hl rfl rfl (by decide) rfl (fun ls hl => ?_)
            have hl : lv_has ls 7 [(4, .int (l4 + 1)), (0, .ref (A 0)), (1, .int l1), (2, .int l2), (3, .int l3), (5, .int l5)] := hl
            refine lv_goto (tgt := 49) hx hb d_RangeTellerModel_pairs_126 (by decide) ?_
            exact ih49 ls l1 l2 l3 (l4 + 1) σ _ _ (lv_sub hl [1, 2, 3, 4, 0] rfl) hm hP hS
          · have hm := (if_neg hc).symm.trans hm
            refine lv_iload hx hb d_RangeTellerModel_pairs_79 (lv_at hl 5 rfl) ?_
            refine lv_if_ne (tgt := 99) hx hb d_RangeTellerModel_pairs_81 (by decide) (fun hc => ?_) (fun hc => ?_)
            · have hm := (if_neg hc).symm.trans hm
              exact hB99 ls l1 l2 l3 l4 l5 σ _ _ (lv_sub hl [0, 1, 2, 3, 4, 5] rfl) hm hP hS
            · have hm := (if_pos hc).symm.trans hm
              refine lv_iload_n hx hb d_RangeTellerModel_pairs_84 rfl (lv_at hl 1 rfl) ?_
              refine lv_bipush (v := 24) hx hb d_RangeTellerModel_pairs_85 (by decide) ?_
              refine lv_icmp_eq (tgt := 117) hx hb d_RangeTellerModel_pairs_87 (by decide) (fun hc => ?_) (fun hc => ?_)
              · have hm := (if_pos hc).symm.trans hm
                exact hB117 ls l1 l2 l3 l4 l5 σ _ _ (lv_sub hl [0, 1, 2, 3, 4, 5] rfl) hm hP hS
              · have hm := (if_neg hc).symm.trans hm
                refine lv_iload_n hx hb d_RangeTellerModel_pairs_90 rfl (lv_at hl 1 rfl) ?_
                refine lv_bipush (v := 25) hx hb d_RangeTellerModel_pairs_91 (by decide) ?_
                refine lv_icmp_ne (tgt := 99) hx hb d_RangeTellerModel_pairs_93 (by decide) (fun hc => ?_) (fun hc => ?_)
                · have hm := (if_neg hc).symm.trans hm
                  exact hB99 ls l1 l2 l3 l4 l5 σ _ _ (lv_sub hl [0, 1, 2, 3, 4, 5] rfl) hm hP hS
                · have hm := (if_pos hc).symm.trans hm
                  refine lv_goto (tgt := 117) hx hb d_RangeTellerModel_pairs_96 (by decide) ?_
                  exact hB117 ls l1 l2 l3 l4 l5 σ _ _ (lv_sub hl [0, 1, 2, 3, 4, 5] rfl) hm hP hS
      intro ls l1 l2 l3 l4 σ H locs hl hm hP hS
      rw [B_R_RangeTellerModel_pairs_49] at hm
      refine lv_iload hx hb d_RangeTellerModel_pairs_49 (lv_at hl 4 rfl) ?_
      refine lv_aload_n hx hb d_RangeTellerModel_pairs_51 rfl (lv_at hl 0 rfl) ?_
      refine va_get (D := D) (v := .ref (A 42)) (C := "RangeTellerModel") (T := rt_T6) (N := 69) hx hb hts rt_i6 hown hK hP 0 rfl rfl 61 (by decide) (hts _ (rt_m rt_w908)) (fun _ h9 => h9) rfl d_RangeTellerModel_pairs_52 ?_
      refine lv_iload_n hx hb d_RangeTellerModel_pairs_55 rfl (lv_at hl 2 rfl) ?_
      obtain ⟨v7, h8, hm⟩ := rt_b1s hm
      refine rt_ald hx hb hK hP 42 0 rfl rfl h8 d_RangeTellerModel_pairs_56 ?_
      refine lv_icmp_gt (tgt := 129) hx hb d_RangeTellerModel_pairs_57 (by decide) (fun hc => ?_) (fun hc => ?_)
      · have hm := (if_pos hc).symm.trans hm
        exact W.vret hx hb hr (fun t ht hW => ⟨⟨_, rfl, Option.some.inj hm, rt_end rtR_Xo hK hP hS hX ht hW⟩, hS.F ht⟩) hS.2.2 d_RangeTellerModel_pairs_129
      · have hm := (if_neg hc).symm.trans hm
        refine lv_aload_n hx hb d_RangeTellerModel_pairs_60 rfl (lv_at hl 0 rfl) ?_
        refine va_get (D := D) (v := .ref (A 41)) (C := "RangeTellerModel") (T := rt_T6) (N := 69) hx hb hts rt_i6 hown hK hP 0 rfl rfl 60 (by decide) (hts _ (rt_m rt_w907)) (fun _ h9 => h9) rfl d_RangeTellerModel_pairs_61 ?_
        refine lv_iload_n hx hb d_RangeTellerModel_pairs_64 rfl (lv_at hl 3 rfl) ?_
        obtain ⟨v9, h10, hm⟩ := rt_b1s hm
        refine rt_ald hx hb hK hP 41 0 rfl rfl h10 d_RangeTellerModel_pairs_65 ?_
        refine lv_istore hx hb d_RangeTellerModel_pairs_66 hl (by decide) rfl (fun ls hl => ?_)
        have hl : lv_has ls 7 [(5, .int v9), (0, .ref (A 0)), (1, .int l1), (2, .int l2), (3, .int l3), (4, .int l4)] := hl
        exact hB68 _ ls l1 l2 l3 l4 v9 σ _ _ (lv_sub hl [1, 2, 3, 4, 5, 0] rfl) hm hP hS
  have hB38 : ∀ (ls : Array Slot) (l1 l2 l3 t0 : Int32) (σ : rt_St) (H : Heap) (locs : List Loc), lv_has ls 7 [(0, .ref (A 0)), (1, .int l1), (2, .int l2), (3, .int l3)] → B_R_RangeTellerModel_pairs_38 l1 l2 l3 t0 σ = some σ' → va_P D rt_cl (rtR_W cI cZ A σ) H → va_S (rt_A (rtR_W cI cZ A) s.heap.size) s.heap H locs → W p l e ({ frames := 1, cells := 0, slots := 0, locals := 22 } : Room) s m ([.ref (A 0), .int a1] : List Value).toArray below meth c H locs 0 0 (rt_Qv D rt_cl (rt_t cI cZ) rtR_X (rtR_W cI cZ A) below ([.ref (A 0), .int a1] : List Value).toArray s σ') (F0 m 38 ls [.int t0, .ref (A 0)]) := by
    intro ls l1 l2 l3 t0 σ H locs hl hm hP hS
    unfold B_R_RangeTellerModel_pairs_38 at hm
    obtain ⟨σ12, h11, hm⟩ := rt_b1s hm
    refine rt_cvv (As := [.int t0]) (rest := []) (k := 0) rtR_Xo ⟨hx, hb, hml, hown, hts⟩ (k_R_RangeTellerModel_nothing l D cI cZ A hO σ t0 _ h11) (cw_RangeTellerModel_nothing hts (hts _ (rt_m rt_w1173)) ⟨Nat.le_of_ble_eq_true rfl, Nat.le_of_ble_eq_true rfl⟩) hK hP hS hX rfl rfl rfl hl.1 rfl (Nat.le_of_ble_eq_true rfl) d_RangeTellerModel_pairs_38 ⟨Nat.zero_le _, Nat.zero_le _⟩ (fun H locs hP hS => ?_)
    refine lv_aload_n hx hb d_RangeTellerModel_pairs_41 rfl (lv_at hl 0 rfl) ?_
    refine va_get (D := D) (v := .ref (A 41)) (C := "RangeTellerModel") (T := rt_T6) (N := 69) hx hb hts rt_i6 hown hK hP 0 rfl rfl 60 (by decide) (hts _ (rt_m rt_w907)) (fun _ h9 => h9) rfl d_RangeTellerModel_pairs_42 ?_
    refine lv_iload_n hx hb d_RangeTellerModel_pairs_45 rfl (lv_at hl 2 rfl) ?_
    obtain ⟨v13, h14, hm⟩ := rt_b1s hm
    refine rt_ald hx hb hK hP 41 0 rfl rfl h14 d_RangeTellerModel_pairs_46 ?_
    refine lv_istore hx hb d_RangeTellerModel_pairs_47 hl (by decide) rfl (fun ls hl => ?_)
    have hl : lv_has ls 7 [(4, .int v13), (0, .ref (A 0)), (1, .int l1), (2, .int l2), (3, .int l3)] := hl
    exact hB49 _ ls l1 l2 l3 v13 σ12 _ _ (lv_sub hl [1, 2, 3, 4, 0] rfl) hm hP hS
  have hB33 : ∀ (ls : Array Slot) (l1 l2 l3 : Int32) (σ : rt_St) (H : Heap) (locs : List Loc), lv_has ls 7 [(0, .ref (A 0)), (1, .int l1), (2, .int l2), (3, .int l3)] → B_R_RangeTellerModel_pairs_33 l1 l2 l3 σ = some σ' → va_P D rt_cl (rtR_W cI cZ A σ) H → va_S (rt_A (rtR_W cI cZ A) s.heap.size) s.heap H locs → W p l e ({ frames := 1, cells := 0, slots := 0, locals := 22 } : Room) s m ([.ref (A 0), .int a1] : List Value).toArray below meth c H locs 0 0 (rt_Qv D rt_cl (rt_t cI cZ) rtR_X (rtR_W cI cZ A) below ([.ref (A 0), .int a1] : List Value).toArray s σ') (F0 m 33 ls [.ref (A 0)]) := by
    intro ls l1 l2 l3 σ H locs hl hm hP hS
    unfold B_R_RangeTellerModel_pairs_33 at hm
    refine lv_iconst (v := 1) hx hb d_RangeTellerModel_pairs_33 (by decide) ?_
    refine lv_goto (tgt := 38) hx hb d_RangeTellerModel_pairs_34 (by decide) ?_
    exact hB38 ls l1 l2 l3 1 σ _ _ (lv_sub hl [0, 1, 2, 3] rfl) hm hP hS
  unfold M_R_RangeTellerModel_pairs at hm
  refine lv_aload_n hx hb d_RangeTellerModel_pairs_0 rfl (lv_at hl 0 rfl) ?_
  refine va_get (D := D) (v := .int (σ 0 59)) (C := "RangeTellerModel") (T := rt_T6) (N := 69) hx hb hts rt_i6 hown hK hP 0 rfl rfl 59 (by decide) (hts _ (rt_m rt_w906)) (fun _ h9 => h9) rfl d_RangeTellerModel_pairs_1 ?_
  refine lv_iconst (v := 2) hx hb d_RangeTellerModel_pairs_4 (by decide) ?_
  refine lv_isub hx hb d_RangeTellerModel_pairs_5 ?_
  refine lv_istore_n hx hb d_RangeTellerModel_pairs_6 rfl hl (by decide) rfl (fun ls hl => ?_)
  have hl : lv_has ls 7 [(2, .int ((σ 0 59) - 2)), (0, .ref (A 0)), (1, .int a1)] := hl
  refine lv_aload_n hx hb d_RangeTellerModel_pairs_7 rfl (lv_at hl 1 rfl) ?_
  refine va_get (D := D) (v := .int (σ 0 59)) (C := "RangeTellerModel") (T := rt_T6) (N := 69) hx hb hts rt_i6 hown hK hP 0 rfl rfl 59 (by decide) (hts _ (rt_m rt_w906)) (fun _ h9 => h9) rfl d_RangeTellerModel_pairs_8 ?_
  refine lv_iconst (v := 1) hx hb d_RangeTellerModel_pairs_11 (by decide) ?_
  refine lv_isub hx hb d_RangeTellerModel_pairs_12 ?_
  refine lv_istore_n hx hb d_RangeTellerModel_pairs_13 rfl hl (by decide) rfl (fun ls hl => ?_)
  have hl : lv_has ls 7 [(3, .int ((σ 0 59) - 1)), (2, .int ((σ 0 59) - 2)), (0, .ref (A 0)), (1, .int a1)] := hl
  refine lv_aload_n hx hb d_RangeTellerModel_pairs_14 rfl (lv_at hl 2 rfl) ?_
  refine lv_aload_n hx hb d_RangeTellerModel_pairs_15 rfl (lv_at hl 2 rfl) ?_
  refine va_get (D := D) (v := .ref (A 43)) (C := "RangeTellerModel") (T := rt_T6) (N := 69) hx hb hts rt_i6 hown hK hP 0 rfl rfl 62 (by decide) (hts _ (rt_m rt_w909)) (fun _ h9 => h9) rfl d_RangeTellerModel_pairs_16 ?_
  refine lv_iload_n hx hb d_RangeTellerModel_pairs_19 rfl (lv_at hl 1 rfl) ?_
  obtain ⟨v15, h16, hm⟩ := rt_b1s hm
  refine rt_zld hx hb hK hP 43 1 rfl rfl h16 d_RangeTellerModel_pairs_20 ?_
  refine lv_if_ne (tgt := 33) hx hb d_RangeTellerModel_pairs_21 (by decide) (fun hc => ?_) (fun hc => ?_)
  · have hm := (if_neg hc).symm.trans hm
    exact hB33 ls a1 ((σ 0 59) - 2) ((σ 0 59) - 1) σ _ _ (lv_sub hl [2, 3, 1, 0] rfl) hm hP hS
  · have hm := (if_pos hc).symm.trans hm
    refine lv_aload_n hx hb d_RangeTellerModel_pairs_24 rfl (lv_at hl 2 rfl) ?_
    refine va_get (D := D) (v := .ref (A 43)) (C := "RangeTellerModel") (T := rt_T6) (N := 69) hx hb hts rt_i6 hown hK hP 0 rfl rfl 62 (by decide) (hts _ (rt_m rt_w909)) (fun _ h9 => h9) rfl d_RangeTellerModel_pairs_25 ?_
    refine lv_iload_n hx hb d_RangeTellerModel_pairs_28 rfl (lv_at hl 0 rfl) ?_
    obtain ⟨v17, h18, hm⟩ := rt_b1s hm
    refine rt_zld hx hb hK hP 43 1 rfl rfl h18 d_RangeTellerModel_pairs_29 ?_
    refine lv_if_eq (tgt := 37) hx hb d_RangeTellerModel_pairs_30 (by decide) (fun hc => ?_) (fun hc => ?_)
    · have hm := (if_pos hc).symm.trans hm
      refine lv_iconst (v := 0) hx hb d_RangeTellerModel_pairs_37 (by decide) ?_
      exact hB38 ls a1 ((σ 0 59) - 2) ((σ 0 59) - 1) 0 σ _ _ (lv_sub hl [2, 3, 1, 0] rfl) hm hP hS
    · have hm := (if_neg hc).symm.trans hm
      exact hB33 ls a1 ((σ 0 59) - 2) ((σ 0 59) - 1) σ _ _ (lv_sub hl [2, 3, 1, 0] rfl) hm hP hS
set_option maxHeartbeats 4000000 in
set_option maxRecDepth 100000 in
theorem k_R_RangeTellerModel_pick (l : Launch) (D : va_G) (cI cZ : ClassId) (A : Nat → Nat) (hO : rt_Ok (rtR_W cI cZ A)) (σ : rt_St) (σ' : rt_St) (hm : M_R_RangeTellerModel_pick σ = some σ') (sz : Nat) : Met l y_RangeTellerModel_pick (rt_ws y_RangeTellerModel_pick b_RangeTellerModel_pick 4 none) ({ frames := 1, cells := 0, slots := 0, locals := 24 } : Room) (va_Pc [.ref (A 0)] (rt_P D rt_cl (rt_t cI cZ) rtR_X (rtR_W cI cZ A) sz σ)) (va_Qv (fun u1 => u1 = σ') (rt_B D rt_cl (rt_t cI cZ) rtR_X (rtR_W cI cZ A)) (rt_A (rtR_W cI cZ A) sz)) 0 0 (rt_A (rtR_W cI cZ A) sz) := by
  refine Met.ofW (cc := b_RangeTellerModel_pick) (maxL := 4) (ret := none) (by decide) rfl ?_
  intro p e s m args below meth c s₁ B hml hv
  obtain ⟨rfl, rfl, hP, hK, hX⟩ := hv
  have hx := B.exec
  have hb := B.bytes
  have hr := B.returns
  have hts := atoms_spec (ws := (rt_ws y_RangeTellerModel_pick b_RangeTellerModel_pick 4 none)) B.pre
  have hown : s.vm.findClass "RangeTellerModel" = some m.cls := findClass_of_methodNamed B.named
  have hlocks := B.notSynchronized
  have hD := rt_hD hO s.heap.size
  have hS : va_S (rt_A (rtR_W cI cZ A) s.heap.size) s.heap s.heap [] := va_S.rf
  have hl := lv_entry ([.ref (A 0)]) (n := 4) (Nat.le_of_ble_eq_true rfl)
  rw [lg_entry_eq]
  generalize (lg_sl ([.ref (A 0)]) ++ List.replicate (4 - (lg_sl ([.ref (A 0)])).length) Slot.unset).toArray = ls at hl ⊢
  have hl : lv_has ls 4 [(0, .ref (A 0))] := hl
  show W p l e ({ frames := 1, cells := 0, slots := 0, locals := 24 } : Room) s m ([.ref (A 0)] : List Value).toArray below meth c s.heap [] 0 0 (rt_Qv D rt_cl (rt_t cI cZ) rtR_X (rtR_W cI cZ A) below ([.ref (A 0)] : List Value).toArray s σ') (F0 m 0 ls [])
  have hB131 : ∀ (ls : Array Slot) (σ : rt_St) (H : Heap) (locs : List Loc), lv_has ls 4 [(0, .ref (A 0))] → B_R_RangeTellerModel_pick_131 σ = some σ' → va_P D rt_cl (rtR_W cI cZ A σ) H → va_S (rt_A (rtR_W cI cZ A) s.heap.size) s.heap H locs → W p l e ({ frames := 1, cells := 0, slots := 0, locals := 24 } : Room) s m ([.ref (A 0)] : List Value).toArray below meth c H locs 0 0 (rt_Qv D rt_cl (rt_t cI cZ) rtR_X (rtR_W cI cZ A) below ([.ref (A 0)] : List Value).toArray s σ') (F0 m 131 ls []) := by
    intro ls σ H locs hl hm hP hS
    unfold B_R_RangeTellerModel_pick_131 at hm
    refine lv_aload_n hx hb d_RangeTellerModel_pick_131 rfl (lv_at hl 0 rfl) ?_
    refine lv_aload_n hx hb d_RangeTellerModel_pick_132 rfl (lv_at hl 0 rfl) ?_
    refine va_get (D := D) (v := .int (σ 0 59)) (C := "RangeTellerModel") (T := rt_T6) (N := 69) hx hb hts rt_i6 hown hK hP 0 rfl rfl 59 (by decide) (hts _ (rt_m rt_w906)) (fun _ h9 => h9) rfl d_RangeTellerModel_pick_133 ?_
    refine lv_iconst (v := 2) hx hb d_RangeTellerModel_pick_136 (by decide) ?_
    refine lv_isub hx hb d_RangeTellerModel_pick_137 ?_
    obtain ⟨σ1, h2, hm⟩ := rt_b1s hm
    refine rt_pf (D := D) (C := "RangeTellerModel") (T := rt_T6) (N := 69) (ty := .int) hx hb hts rt_i6 rt_y6 rt_o6 rt_n6 hown hK hP hD hS 0 rfl rfl 59 (by decide) (hts _ (rt_m rt_w906)) (fun _ h9 => h9) rfl (by decide +kernel) rfl rfl (Nat.le_of_ble_eq_true rfl) (rtR_s0_59 cI cZ A _ _) h2 d_RangeTellerModel_pick_138 (fun H locs hP hS => ?_)
    refine lv_aload_n hx hb d_RangeTellerModel_pick_141 rfl (lv_at hl 0 rfl) ?_
    refine lv_aload_n hx hb d_RangeTellerModel_pick_142 rfl (lv_at hl 0 rfl) ?_
    refine va_get (D := D) (v := .int (σ1 0 59)) (C := "RangeTellerModel") (T := rt_T6) (N := 69) hx hb hts rt_i6 hown hK hP 0 rfl rfl 59 (by decide) (hts _ (rt_m rt_w906)) (fun _ h9 => h9) rfl d_RangeTellerModel_pick_143 ?_
    refine lv_iconst (v := 1) hx hb d_RangeTellerModel_pick_146 (by decide) ?_
    refine lv_isub hx hb d_RangeTellerModel_pick_147 ?_
    refine lv_aload_n hx hb d_RangeTellerModel_pick_148 rfl (lv_at hl 0 rfl) ?_
    refine va_get (D := D) (v := .int (σ1 0 66)) (C := "RangeTellerModel") (T := rt_T6) (N := 69) hx hb hts rt_i6 hown hK hP 0 rfl rfl 66 (by decide) (hts _ (rt_m rt_w913)) (fun _ h9 => h9) rfl d_RangeTellerModel_pick_149 ?_
    refine lv_aload_n hx hb d_RangeTellerModel_pick_152 rfl (lv_at hl 0 rfl) ?_
    refine va_get (D := D) (v := .int (σ1 0 67)) (C := "RangeTellerModel") (T := rt_T6) (N := 69) hx hb hts rt_i6 hown hK hP 0 rfl rfl 67 (by decide) (hts _ (rt_m rt_w914)) (fun _ h9 => h9) rfl d_RangeTellerModel_pick_153 ?_
    refine lv_aload_n hx hb d_RangeTellerModel_pick_156 rfl (lv_at hl 0 rfl) ?_
    refine va_get (D := D) (v := .int (σ1 0 68)) (C := "RangeTellerModel") (T := rt_T6) (N := 69) hx hb hts rt_i6 hown hK hP 0 rfl rfl 68 (by decide) (hts _ (rt_m rt_w915)) (fun _ h9 => h9) rfl d_RangeTellerModel_pick_157 ?_
    obtain ⟨σ4, h3, hm⟩ := rt_b1s hm
    refine rt_cvv (As := [.int ((σ1 0 59) - 1), .int (σ1 0 66), .int (σ1 0 67), .int (σ1 0 68)]) (rest := []) (k := 0) rtR_Xo ⟨hx, hb, hml, hown, hts⟩ (k_R_RangeTellerModel_set l D cI cZ A hO σ1 ((σ1 0 59) - 1) (σ1 0 66) (σ1 0 67) (σ1 0 68) _ h3) (cw_RangeTellerModel_set hts (hts _ (rt_m rt_w1161)) ⟨Nat.le_of_ble_eq_true rfl, Nat.le_of_ble_eq_true rfl⟩) hK hP hS hX rfl rfl rfl hl.1 rfl (Nat.le_of_ble_eq_true rfl) d_RangeTellerModel_pick_160 ⟨Nat.zero_le _, Nat.zero_le _⟩ (fun H locs hP hS => ?_)
    exact W.vret hx hb hr (fun t ht hW => ⟨⟨_, rfl, Option.some.inj hm, rt_end rtR_Xo hK hP hS hX ht hW⟩, hS.F ht⟩) hS.2.2 d_RangeTellerModel_pick_163
  have hB128 : ∀ (ls : Array Slot) (t0 : Int32) (σ : rt_St) (H : Heap) (locs : List Loc), lv_has ls 4 [(0, .ref (A 0))] → B_R_RangeTellerModel_pick_128 t0 σ = some σ' → va_P D rt_cl (rtR_W cI cZ A σ) H → va_S (rt_A (rtR_W cI cZ A) s.heap.size) s.heap H locs → W p l e ({ frames := 1, cells := 0, slots := 0, locals := 24 } : Room) s m ([.ref (A 0)] : List Value).toArray below meth c H locs 0 0 (rt_Qv D rt_cl (rt_t cI cZ) rtR_X (rtR_W cI cZ A) below ([.ref (A 0)] : List Value).toArray s σ') (F0 m 128 ls [.int t0, .ref (A 0)]) := by
    intro ls t0 σ H locs hl hm hP hS
    unfold B_R_RangeTellerModel_pick_128 at hm
    obtain ⟨_, h7, hm⟩ := rt_b1s hm
    obtain ⟨σ5, h6, hm⟩ := rt_b1s hm
    refine rt_pf (D := D) (C := "RangeTellerModel") (T := rt_T6) (N := 69) (ty := .boolean) hx hb hts rt_i6 rt_y6 rt_o6 rt_n6 hown hK hP hD hS 0 rfl rfl 68 (by decide) (hts _ (rt_m rt_w915)) (fun _ h9 => h9) rfl (by decide +kernel) (rt_zoks h7) (rt_zokf h7) (Nat.le_of_ble_eq_true rfl) (rtR_s0_68 cI cZ A _ _) h6 d_RangeTellerModel_pick_128 (fun H locs hP hS => ?_)
    exact hB131 ls σ5 _ _ (lv_sub hl [0] rfl) hm hP hS
  have hB123 : ∀ (ls : Array Slot) (σ : rt_St) (H : Heap) (locs : List Loc), lv_has ls 4 [(0, .ref (A 0))] → B_R_RangeTellerModel_pick_123 σ = some σ' → va_P D rt_cl (rtR_W cI cZ A σ) H → va_S (rt_A (rtR_W cI cZ A) s.heap.size) s.heap H locs → W p l e ({ frames := 1, cells := 0, slots := 0, locals := 24 } : Room) s m ([.ref (A 0)] : List Value).toArray below meth c H locs 0 0 (rt_Qv D rt_cl (rt_t cI cZ) rtR_X (rtR_W cI cZ A) below ([.ref (A 0)] : List Value).toArray s σ') (F0 m 123 ls [.ref (A 0)]) := by
    intro ls σ H locs hl hm hP hS
    unfold B_R_RangeTellerModel_pick_123 at hm
    refine lv_iconst (v := 1) hx hb d_RangeTellerModel_pick_123 (by decide) ?_
    refine lv_goto (tgt := 128) hx hb d_RangeTellerModel_pick_124 (by decide) ?_
    exact hB128 ls 1 σ _ _ (lv_sub hl [0] rfl) hm hP hS
  have hB81 : ∀ (ls : Array Slot) (l1 l2 : Int32) (σ : rt_St) (H : Heap) (locs : List Loc), lv_has ls 4 [(0, .ref (A 0)), (1, .int l1), (2, .int l2)] → B_R_RangeTellerModel_pick_81 l1 l2 σ = some σ' → va_P D rt_cl (rtR_W cI cZ A σ) H → va_S (rt_A (rtR_W cI cZ A) s.heap.size) s.heap H locs → W p l e ({ frames := 1, cells := 0, slots := 0, locals := 24 } : Room) s m ([.ref (A 0)] : List Value).toArray below meth c H locs 0 0 (rt_Qv D rt_cl (rt_t cI cZ) rtR_X (rtR_W cI cZ A) below ([.ref (A 0)] : List Value).toArray s σ') (F0 m 81 ls []) := by
    intro ls l1 l2 σ H locs hl hm hP hS
    unfold B_R_RangeTellerModel_pick_81 at hm
    refine lv_aload_n hx hb d_RangeTellerModel_pick_81 rfl (lv_at hl 0 rfl) ?_
    refine va_get (D := D) (v := .ref (A 41)) (C := "RangeTellerModel") (T := rt_T6) (N := 69) hx hb hts rt_i6 hown hK hP 0 rfl rfl 60 (by decide) (hts _ (rt_m rt_w907)) (fun _ h9 => h9) rfl d_RangeTellerModel_pick_82 ?_
    refine lv_iload_n hx hb d_RangeTellerModel_pick_85 rfl (lv_at hl 1 rfl) ?_
    obtain ⟨v8, h9, hm⟩ := rt_b1s hm
    refine rt_ald hx hb hK hP 41 0 rfl rfl h9 d_RangeTellerModel_pick_86 ?_
    refine lv_if_ne (tgt := 131) hx hb d_RangeTellerModel_pick_87 (by decide) (fun hc => ?_) (fun hc => ?_)
    · have hm := (if_neg hc).symm.trans hm
      exact hB131 ls σ _ _ (lv_sub hl [0] rfl) hm hP hS
    · have hm := (if_pos hc).symm.trans hm
      refine lv_aload_n hx hb d_RangeTellerModel_pick_90 rfl (lv_at hl 0 rfl) ?_
      refine lv_aload_n hx hb d_RangeTellerModel_pick_91 rfl (lv_at hl 0 rfl) ?_
      refine va_get (D := D) (v := .ref (A 41)) (C := "RangeTellerModel") (T := rt_T6) (N := 69) hx hb hts rt_i6 hown hK hP 0 rfl rfl 60 (by decide) (hts _ (rt_m rt_w907)) (fun _ h9 => h9) rfl d_RangeTellerModel_pick_92 ?_
      refine lv_iload_n hx hb d_RangeTellerModel_pick_95 rfl (lv_at hl 2 rfl) ?_
      obtain ⟨v10, h11, hm⟩ := rt_b1s hm
      refine rt_ald hx hb hK hP 41 0 rfl rfl h11 d_RangeTellerModel_pick_96 ?_
      refine lv_aload_n hx hb d_RangeTellerModel_pick_97 rfl (lv_at hl 0 rfl) ?_
      refine va_get (D := D) (v := .ref (A 42)) (C := "RangeTellerModel") (T := rt_T6) (N := 69) hx hb hts rt_i6 hown hK hP 0 rfl rfl 61 (by decide) (hts _ (rt_m rt_w908)) (fun _ h9 => h9) rfl d_RangeTellerModel_pick_98 ?_
      refine lv_iload_n hx hb d_RangeTellerModel_pick_101 rfl (lv_at hl 2 rfl) ?_
      obtain ⟨v12, h13, hm⟩ := rt_b1s hm
      refine rt_ald hx hb hK hP 42 0 rfl rfl h13 d_RangeTellerModel_pick_102 ?_
      obtain ⟨σ15, h14, hm⟩ := rt_b1s hm
      refine rt_cvv (As := [.int v10, .int v12]) (rest := []) (k := 0) rtR_Xo ⟨hx, hb, hml, hown, hts⟩ (k_R_RangeTellerModel_join l D cI cZ A hO σ v10 v12 _ h14) (cw_RangeTellerModel_join hts (hts _ (rt_m rt_w1177)) ⟨Nat.le_of_ble_eq_true rfl, Nat.le_of_ble_eq_true rfl⟩) hK hP hS hX rfl rfl rfl hl.1 rfl (Nat.le_of_ble_eq_true rfl) d_RangeTellerModel_pick_103 ⟨Nat.zero_le _, Nat.zero_le _⟩ (fun H locs hP hS => ?_)
      refine lv_aload_n hx hb d_RangeTellerModel_pick_106 rfl (lv_at hl 0 rfl) ?_
      refine lv_aload_n hx hb d_RangeTellerModel_pick_107 rfl (lv_at hl 0 rfl) ?_
      refine va_get (D := D) (v := .int (σ15 0 68)) (C := "RangeTellerModel") (T := rt_T6) (N := 69) hx hb hts rt_i6 hown hK hP 0 rfl rfl 68 (by decide) (hts _ (rt_m rt_w915)) (fun _ h9 => h9) rfl d_RangeTellerModel_pick_108 ?_
      refine lv_if_ne (tgt := 123) hx hb d_RangeTellerModel_pick_111 (by decide) (fun hc => ?_) (fun hc => ?_)
      · have hm := (if_neg hc).symm.trans hm
        exact hB123 ls σ15 _ _ (lv_sub hl [0] rfl) hm hP hS
      · have hm := (if_pos hc).symm.trans hm
        refine lv_aload_n hx hb d_RangeTellerModel_pick_114 rfl (lv_at hl 0 rfl) ?_
        refine va_get (D := D) (v := .ref (A 43)) (C := "RangeTellerModel") (T := rt_T6) (N := 69) hx hb hts rt_i6 hown hK hP 0 rfl rfl 62 (by decide) (hts _ (rt_m rt_w909)) (fun _ h9 => h9) rfl d_RangeTellerModel_pick_115 ?_
        refine lv_iload_n hx hb d_RangeTellerModel_pick_118 rfl (lv_at hl 2 rfl) ?_
        obtain ⟨v16, h17, hm⟩ := rt_b1s hm
        refine rt_zld hx hb hK hP 43 1 rfl rfl h17 d_RangeTellerModel_pick_119 ?_
        refine lv_if_eq (tgt := 127) hx hb d_RangeTellerModel_pick_120 (by decide) (fun hc => ?_) (fun hc => ?_)
        · have hm := (if_pos hc).symm.trans hm
          refine lv_iconst (v := 0) hx hb d_RangeTellerModel_pick_127 (by decide) ?_
          exact hB128 ls 0 σ15 _ _ (lv_sub hl [0] rfl) hm hP hS
        · have hm := (if_neg hc).symm.trans hm
          exact hB123 ls σ15 _ _ (lv_sub hl [0] rfl) hm hP hS
  have hB78 : ∀ (ls : Array Slot) (l1 l2 t0 : Int32) (σ : rt_St) (H : Heap) (locs : List Loc), lv_has ls 4 [(0, .ref (A 0)), (1, .int l1), (2, .int l2)] → B_R_RangeTellerModel_pick_78 l1 l2 t0 σ = some σ' → va_P D rt_cl (rtR_W cI cZ A σ) H → va_S (rt_A (rtR_W cI cZ A) s.heap.size) s.heap H locs → W p l e ({ frames := 1, cells := 0, slots := 0, locals := 24 } : Room) s m ([.ref (A 0)] : List Value).toArray below meth c H locs 0 0 (rt_Qv D rt_cl (rt_t cI cZ) rtR_X (rtR_W cI cZ A) below ([.ref (A 0)] : List Value).toArray s σ') (F0 m 78 ls [.int t0, .ref (A 0)]) := by
    intro ls l1 l2 t0 σ H locs hl hm hP hS
    unfold B_R_RangeTellerModel_pick_78 at hm
    obtain ⟨_, h20, hm⟩ := rt_b1s hm
    obtain ⟨σ18, h19, hm⟩ := rt_b1s hm
    refine rt_pf (D := D) (C := "RangeTellerModel") (T := rt_T6) (N := 69) (ty := .boolean) hx hb hts rt_i6 rt_y6 rt_o6 rt_n6 hown hK hP hD hS 0 rfl rfl 68 (by decide) (hts _ (rt_m rt_w915)) (fun _ h9 => h9) rfl (by decide +kernel) (rt_zoks h20) (rt_zokf h20) (Nat.le_of_ble_eq_true rfl) (rtR_s0_68 cI cZ A _ _) h19 d_RangeTellerModel_pick_78 (fun H locs hP hS => ?_)
    exact hB81 ls l1 l2 σ18 _ _ (lv_sub hl [0, 1, 2] rfl) hm hP hS
  have hB73 : ∀ (ls : Array Slot) (l1 l2 : Int32) (σ : rt_St) (H : Heap) (locs : List Loc), lv_has ls 4 [(0, .ref (A 0)), (1, .int l1), (2, .int l2)] → B_R_RangeTellerModel_pick_73 l1 l2 σ = some σ' → va_P D rt_cl (rtR_W cI cZ A σ) H → va_S (rt_A (rtR_W cI cZ A) s.heap.size) s.heap H locs → W p l e ({ frames := 1, cells := 0, slots := 0, locals := 24 } : Room) s m ([.ref (A 0)] : List Value).toArray below meth c H locs 0 0 (rt_Qv D rt_cl (rt_t cI cZ) rtR_X (rtR_W cI cZ A) below ([.ref (A 0)] : List Value).toArray s σ') (F0 m 73 ls [.ref (A 0)]) := by
    intro ls l1 l2 σ H locs hl hm hP hS
    unfold B_R_RangeTellerModel_pick_73 at hm
    refine lv_iconst (v := 1) hx hb d_RangeTellerModel_pick_73 (by decide) ?_
    refine lv_goto (tgt := 78) hx hb d_RangeTellerModel_pick_74 (by decide) ?_
    exact hB78 ls l1 l2 1 σ _ _ (lv_sub hl [0, 1, 2] rfl) hm hP hS
  unfold M_R_RangeTellerModel_pick at hm
  refine lv_aload_n hx hb d_RangeTellerModel_pick_0 rfl (lv_at hl 0 rfl) ?_
  refine va_get (D := D) (v := .int (σ 0 59)) (C := "RangeTellerModel") (T := rt_T6) (N := 69) hx hb hts rt_i6 hown hK hP 0 rfl rfl 59 (by decide) (hts _ (rt_m rt_w906)) (fun _ h9 => h9) rfl d_RangeTellerModel_pick_1 ?_
  refine lv_iconst (v := 1) hx hb d_RangeTellerModel_pick_4 (by decide) ?_
  refine lv_isub hx hb d_RangeTellerModel_pick_5 ?_
  refine lv_istore_n hx hb d_RangeTellerModel_pick_6 rfl hl (by decide) rfl (fun ls hl => ?_)
  have hl : lv_has ls 4 [(1, .int ((σ 0 59) - 1)), (0, .ref (A 0))] := hl
  refine lv_aload_n hx hb d_RangeTellerModel_pick_7 rfl (lv_at hl 1 rfl) ?_
  refine va_get (D := D) (v := .int (σ 0 59)) (C := "RangeTellerModel") (T := rt_T6) (N := 69) hx hb hts rt_i6 hown hK hP 0 rfl rfl 59 (by decide) (hts _ (rt_m rt_w906)) (fun _ h9 => h9) rfl d_RangeTellerModel_pick_8 ?_
  refine lv_iconst (v := 2) hx hb d_RangeTellerModel_pick_11 (by decide) ?_
  refine lv_isub hx hb d_RangeTellerModel_pick_12 ?_
  refine lv_istore_n hx hb d_RangeTellerModel_pick_13 rfl hl (by decide) rfl (fun ls hl => ?_)
  have hl : lv_has ls 4 [(2, .int ((σ 0 59) - 2)), (1, .int ((σ 0 59) - 1)), (0, .ref (A 0))] := hl
  refine lv_aload_n hx hb d_RangeTellerModel_pick_14 rfl (lv_at hl 2 rfl) ?_
  refine va_get (D := D) (v := .int (σ 0 59)) (C := "RangeTellerModel") (T := rt_T6) (N := 69) hx hb hts rt_i6 hown hK hP 0 rfl rfl 59 (by decide) (hts _ (rt_m rt_w906)) (fun _ h9 => h9) rfl d_RangeTellerModel_pick_15 ?_
  refine lv_iconst (v := 3) hx hb d_RangeTellerModel_pick_18 (by decide) ?_
  refine lv_isub hx hb d_RangeTellerModel_pick_19 ?_
  refine lv_istore_n hx hb d_RangeTellerModel_pick_20 rfl hl (by decide) rfl (fun ls hl => ?_)
  have hl : lv_has ls 4 [(3, .int ((σ 0 59) - 3)), (2, .int ((σ 0 59) - 2)), (1, .int ((σ 0 59) - 1)), (0, .ref (A 0))] := hl
  refine lv_aload_n hx hb d_RangeTellerModel_pick_21 rfl (lv_at hl 3 rfl) ?_
  refine lv_aload_n hx hb d_RangeTellerModel_pick_22 rfl (lv_at hl 3 rfl) ?_
  refine va_get (D := D) (v := .ref (A 43)) (C := "RangeTellerModel") (T := rt_T6) (N := 69) hx hb hts rt_i6 hown hK hP 0 rfl rfl 62 (by decide) (hts _ (rt_m rt_w909)) (fun _ h9 => h9) rfl d_RangeTellerModel_pick_23 ?_
  refine lv_iload_n hx hb d_RangeTellerModel_pick_26 rfl (lv_at hl 2 rfl) ?_
  obtain ⟨v21, h22, hm⟩ := rt_b1s hm
  refine rt_zld hx hb hK hP 43 1 rfl rfl h22 d_RangeTellerModel_pick_27 ?_
  obtain ⟨σ24, h23, hm⟩ := rt_b1s hm
  refine rt_cvv (As := [.int v21]) (rest := []) (k := 0) rtR_Xo ⟨hx, hb, hml, hown, hts⟩ (k_R_RangeTellerModel_nothing l D cI cZ A hO σ v21 _ h23) (cw_RangeTellerModel_nothing hts (hts _ (rt_m rt_w1173)) ⟨Nat.le_of_ble_eq_true rfl, Nat.le_of_ble_eq_true rfl⟩) hK hP hS hX rfl rfl rfl hl.1 rfl (Nat.le_of_ble_eq_true rfl) d_RangeTellerModel_pick_28 ⟨Nat.zero_le _, Nat.zero_le _⟩ (fun H locs hP hS => ?_)
  refine lv_aload_n hx hb d_RangeTellerModel_pick_31 rfl (lv_at hl 3 rfl) ?_
  refine va_get (D := D) (v := .ref (A 42)) (C := "RangeTellerModel") (T := rt_T6) (N := 69) hx hb hts rt_i6 hown hK hP 0 rfl rfl 61 (by decide) (hts _ (rt_m rt_w908)) (fun _ h9 => h9) rfl d_RangeTellerModel_pick_32 ?_
  refine lv_iload_n hx hb d_RangeTellerModel_pick_35 rfl (lv_at hl 2 rfl) ?_
  obtain ⟨v25, h26, hm⟩ := rt_b1s hm
  refine rt_ald hx hb hK hP 42 0 rfl rfl h26 d_RangeTellerModel_pick_36 ?_
  refine lv_if_le (tgt := 81) hx hb d_RangeTellerModel_pick_37 (by decide) (fun hc => ?_) (fun hc => ?_)
  · have hm := (if_pos hc).symm.trans hm
    exact hB81 ls ((σ 0 59) - 1) ((σ 0 59) - 2) σ24 _ _ (lv_sub hl [3, 2, 1] rfl) hm hP hS
  · have hm := (if_neg hc).symm.trans hm
    refine lv_aload_n hx hb d_RangeTellerModel_pick_40 rfl (lv_at hl 3 rfl) ?_
    refine lv_aload_n hx hb d_RangeTellerModel_pick_41 rfl (lv_at hl 3 rfl) ?_
    refine va_get (D := D) (v := .ref (A 41)) (C := "RangeTellerModel") (T := rt_T6) (N := 69) hx hb hts rt_i6 hown hK hP 0 rfl rfl 60 (by decide) (hts _ (rt_m rt_w907)) (fun _ h9 => h9) rfl d_RangeTellerModel_pick_42 ?_
    refine lv_iload_n hx hb d_RangeTellerModel_pick_45 rfl (lv_at hl 0 rfl) ?_
    obtain ⟨v27, h28, hm⟩ := rt_b1s hm
    refine rt_ald hx hb hK hP 41 0 rfl rfl h28 d_RangeTellerModel_pick_46 ?_
    refine lv_aload_n hx hb d_RangeTellerModel_pick_47 rfl (lv_at hl 3 rfl) ?_
    refine va_get (D := D) (v := .ref (A 42)) (C := "RangeTellerModel") (T := rt_T6) (N := 69) hx hb hts rt_i6 hown hK hP 0 rfl rfl 61 (by decide) (hts _ (rt_m rt_w908)) (fun _ h9 => h9) rfl d_RangeTellerModel_pick_48 ?_
    refine lv_iload_n hx hb d_RangeTellerModel_pick_51 rfl (lv_at hl 0 rfl) ?_
    obtain ⟨v29, h30, hm⟩ := rt_b1s hm
    refine rt_ald hx hb hK hP 42 0 rfl rfl h30 d_RangeTellerModel_pick_52 ?_
    obtain ⟨σ32, h31, hm⟩ := rt_b1s hm
    refine rt_cvv (As := [.int v27, .int v29]) (rest := []) (k := 0) rtR_Xo ⟨hx, hb, hml, hown, hts⟩ (k_R_RangeTellerModel_join l D cI cZ A hO σ24 v27 v29 _ h31) (cw_RangeTellerModel_join hts (hts _ (rt_m rt_w1177)) ⟨Nat.le_of_ble_eq_true rfl, Nat.le_of_ble_eq_true rfl⟩) hK hP hS hX rfl rfl rfl hl.1 rfl (Nat.le_of_ble_eq_true rfl) d_RangeTellerModel_pick_53 ⟨Nat.zero_le _, Nat.zero_le _⟩ (fun H locs hP hS => ?_)
    refine lv_aload_n hx hb d_RangeTellerModel_pick_56 rfl (lv_at hl 3 rfl) ?_
    refine lv_aload_n hx hb d_RangeTellerModel_pick_57 rfl (lv_at hl 3 rfl) ?_
    refine va_get (D := D) (v := .int (σ32 0 68)) (C := "RangeTellerModel") (T := rt_T6) (N := 69) hx hb hts rt_i6 hown hK hP 0 rfl rfl 68 (by decide) (hts _ (rt_m rt_w915)) (fun _ h9 => h9) rfl d_RangeTellerModel_pick_58 ?_
    refine lv_if_ne (tgt := 73) hx hb d_RangeTellerModel_pick_61 (by decide) (fun hc => ?_) (fun hc => ?_)
    · have hm := (if_neg hc).symm.trans hm
      exact hB73 ls ((σ 0 59) - 1) ((σ 0 59) - 2) σ32 _ _ (lv_sub hl [3, 2, 1] rfl) hm hP hS
    · have hm := (if_pos hc).symm.trans hm
      refine lv_aload_n hx hb d_RangeTellerModel_pick_64 rfl (lv_at hl 3 rfl) ?_
      refine va_get (D := D) (v := .ref (A 43)) (C := "RangeTellerModel") (T := rt_T6) (N := 69) hx hb hts rt_i6 hown hK hP 0 rfl rfl 62 (by decide) (hts _ (rt_m rt_w909)) (fun _ h9 => h9) rfl d_RangeTellerModel_pick_65 ?_
      refine lv_iload_n hx hb d_RangeTellerModel_pick_68 rfl (lv_at hl 0 rfl) ?_
      obtain ⟨v33, h34, hm⟩ := rt_b1s hm
      refine rt_zld hx hb hK hP 43 1 rfl rfl h34 d_RangeTellerModel_pick_69 ?_
      refine lv_if_eq (tgt := 77) hx hb d_RangeTellerModel_pick_70 (by decide) (fun hc => ?_) (fun hc => ?_)
      · have hm := (if_pos hc).symm.trans hm
        refine lv_iconst (v := 0) hx hb d_RangeTellerModel_pick_77 (by decide) ?_
        exact hB78 ls ((σ 0 59) - 1) ((σ 0 59) - 2) 0 σ32 _ _ (lv_sub hl [3, 2, 1] rfl) hm hP hS
      · have hm := (if_neg hc).symm.trans hm
        exact hB73 ls ((σ 0 59) - 1) ((σ 0 59) - 2) σ32 _ _ (lv_sub hl [3, 2, 1] rfl) hm hP hS
set_option maxHeartbeats 4000000 in
set_option maxRecDepth 100000 in
theorem k_R_RangeTellerModel_leaves (l : Launch) (D : va_G) (cI cZ : ClassId) (A : Nat → Nat) (hO : rt_Ok (rtR_W cI cZ A)) (σ : rt_St) (a1 : Int32) (r' : Int32) (σ' : rt_St) (hm : M_R_RangeTellerModel_leaves σ a1 = some (r', σ')) (sz : Nat) : Met l y_RangeTellerModel_leaves (rt_ws y_RangeTellerModel_leaves b_RangeTellerModel_leaves 5 (some .boolean)) ({ frames := 2, cells := 0, slots := 0, locals := 48 } : Room) (va_Pc [.ref (A 0), .int a1] (rt_P D rt_cl (rt_t cI cZ) rtR_X (rtR_W cI cZ A) sz σ)) (va_Qi (fun r1 u1 => r1 = r' ∧ u1 = σ') (rt_B D rt_cl (rt_t cI cZ) rtR_X (rtR_W cI cZ A)) (rt_A (rtR_W cI cZ A) sz)) 0 0 (rt_A (rtR_W cI cZ A) sz) := by
  refine Met.ofW (cc := b_RangeTellerModel_leaves) (maxL := 5) (ret := (some .boolean)) (by decide) rfl ?_
  intro p e s m args below meth c s₁ B hml hv
  obtain ⟨rfl, rfl, hP, hK, hX⟩ := hv
  have hx := B.exec
  have hb := B.bytes
  have hr := B.returns
  have hts := atoms_spec (ws := (rt_ws y_RangeTellerModel_leaves b_RangeTellerModel_leaves 5 (some .boolean))) B.pre
  have hown : s.vm.findClass "RangeTellerModel" = some m.cls := findClass_of_methodNamed B.named
  have hlocks := B.notSynchronized
  have hD := rt_hD hO s.heap.size
  have hS : va_S (rt_A (rtR_W cI cZ A) s.heap.size) s.heap s.heap [] := va_S.rf
  have hl := lv_entry ([.ref (A 0), .int a1]) (n := 5) (Nat.le_of_ble_eq_true rfl)
  rw [lg_entry_eq]
  generalize (lg_sl ([.ref (A 0), .int a1]) ++ List.replicate (5 - (lg_sl ([.ref (A 0), .int a1])).length) Slot.unset).toArray = ls at hl ⊢
  have hl : lv_has ls 5 [(0, .ref (A 0)), (1, .int a1)] := hl
  show W p l e ({ frames := 2, cells := 0, slots := 0, locals := 48 } : Room) s m ([.ref (A 0), .int a1] : List Value).toArray below meth c s.heap [] 0 0 (rt_Qi D rt_cl (rt_t cI cZ) rtR_X (rtR_W cI cZ A) below ([.ref (A 0), .int a1] : List Value).toArray s r' σ') (F0 m 0 ls [])
  have hB34 : ∀ (ls : Array Slot) (σ : rt_St) (H : Heap) (locs : List Loc), lv_has ls 5 [(0, .ref (A 0))] → B_R_RangeTellerModel_leaves_34 σ = some (r', σ') → va_P D rt_cl (rtR_W cI cZ A σ) H → va_S (rt_A (rtR_W cI cZ A) s.heap.size) s.heap H locs → W p l e ({ frames := 2, cells := 0, slots := 0, locals := 48 } : Room) s m ([.ref (A 0), .int a1] : List Value).toArray below meth c H locs 0 0 (rt_Qi D rt_cl (rt_t cI cZ) rtR_X (rtR_W cI cZ A) below ([.ref (A 0), .int a1] : List Value).toArray s r' σ') (F0 m 34 ls []) := by
    intro ls σ H locs hl hm hP hS
    unfold B_R_RangeTellerModel_leaves_34 at hm
    refine lv_aload_n hx hb d_RangeTellerModel_leaves_34 rfl (lv_at hl 0 rfl) ?_
    refine lv_dup hx hb d_RangeTellerModel_leaves_35 rfl ?_
    refine va_get (D := D) (v := .int (σ 0 59)) (C := "RangeTellerModel") (T := rt_T6) (N := 69) hx hb hts rt_i6 hown hK hP 0 rfl rfl 59 (by decide) (hts _ (rt_m rt_w906)) (fun _ h9 => h9) rfl d_RangeTellerModel_leaves_36 ?_
    refine lv_iconst (v := 1) hx hb d_RangeTellerModel_leaves_39 (by decide) ?_
    refine lv_isub hx hb d_RangeTellerModel_leaves_40 ?_
    obtain ⟨σ1, h2, hm⟩ := rt_b1s hm
    refine rt_pf (D := D) (C := "RangeTellerModel") (T := rt_T6) (N := 69) (ty := .int) hx hb hts rt_i6 rt_y6 rt_o6 rt_n6 hown hK hP hD hS 0 rfl rfl 59 (by decide) (hts _ (rt_m rt_w906)) (fun _ h9 => h9) rfl (by decide +kernel) rfl rfl (Nat.le_of_ble_eq_true rfl) (rtR_s0_59 cI cZ A _ _) h2 d_RangeTellerModel_leaves_41 (fun H locs hP hS => ?_)
    refine lv_goto (tgt := 361) hx hb d_RangeTellerModel_leaves_44 (by decide) ?_
    refine lv_iconst (v := 1) hx hb d_RangeTellerModel_leaves_361 (by decide) ?_
    exact W.zret hx hb hr rfl (fun t ht hW => ⟨⟨_, _, rfl, rt_pr hm, rt_end rtR_Xo hK hP hS hX ht hW⟩, hS.F ht⟩) hS.2.2 d_RangeTellerModel_leaves_362
  have hB117 : ∀ (ls : Array Slot) (l2 l3 l4 : Int32) (σ : rt_St) (H : Heap) (locs : List Loc), lv_has ls 5 [(0, .ref (A 0)), (2, .int l2), (3, .int l3), (4, .int l4)] → B_R_RangeTellerModel_leaves_117 l2 l3 l4 σ = some (r', σ') → va_P D rt_cl (rtR_W cI cZ A σ) H → va_S (rt_A (rtR_W cI cZ A) s.heap.size) s.heap H locs → W p l e ({ frames := 2, cells := 0, slots := 0, locals := 48 } : Room) s m ([.ref (A 0), .int a1] : List Value).toArray below meth c H locs 0 0 (rt_Qi D rt_cl (rt_t cI cZ) rtR_X (rtR_W cI cZ A) below ([.ref (A 0), .int a1] : List Value).toArray s r' σ') (F0 m 117 ls []) := by
    intro ls l2 l3 l4 σ H locs hl hm hP hS
    unfold B_R_RangeTellerModel_leaves_117 at hm
    refine lv_aload_n hx hb d_RangeTellerModel_leaves_117 rfl (lv_at hl 0 rfl) ?_
    refine va_get (D := D) (v := .ref (A 44)) (C := "RangeTellerModel") (T := rt_T6) (N := 69) hx hb hts rt_i6 hown hK hP 0 rfl rfl 63 (by decide) (hts _ (rt_m rt_w910)) (fun _ h9 => h9) rfl d_RangeTellerModel_leaves_118 ?_
    refine lv_iload_n hx hb d_RangeTellerModel_leaves_121 rfl (lv_at hl 2 rfl) ?_
    refine lv_aload_n hx hb d_RangeTellerModel_leaves_122 rfl (lv_at hl 0 rfl) ?_
    refine va_get (D := D) (v := .ref (A 41)) (C := "RangeTellerModel") (T := rt_T6) (N := 69) hx hb hts rt_i6 hown hK hP 0 rfl rfl 60 (by decide) (hts _ (rt_m rt_w907)) (fun _ h9 => h9) rfl d_RangeTellerModel_leaves_123 ?_
    refine lv_iload hx hb d_RangeTellerModel_leaves_126 (lv_at hl 3 rfl) ?_
    obtain ⟨v3, h4, hm⟩ := rt_b1s hm
    refine rt_ald hx hb hK hP 41 0 rfl rfl h4 d_RangeTellerModel_leaves_128 ?_
    obtain ⟨σ5, h6, hm⟩ := rt_b1s hm
    refine rt_ast hx hb hK hP hD hS 44 0 rfl (rtR_a44 cI cZ A _) rfl h6 d_RangeTellerModel_leaves_129 (fun H locs hP hS => ?_)
    refine lv_aload_n hx hb d_RangeTellerModel_leaves_130 rfl (lv_at hl 0 rfl) ?_
    refine va_get (D := D) (v := .ref (A 45)) (C := "RangeTellerModel") (T := rt_T6) (N := 69) hx hb hts rt_i6 hown hK hP 0 rfl rfl 64 (by decide) (hts _ (rt_m rt_w911)) (fun _ h9 => h9) rfl d_RangeTellerModel_leaves_131 ?_
    refine lv_iload_n hx hb d_RangeTellerModel_leaves_134 rfl (lv_at hl 2 rfl) ?_
    refine lv_aload_n hx hb d_RangeTellerModel_leaves_135 rfl (lv_at hl 0 rfl) ?_
    refine va_get (D := D) (v := .ref (A 42)) (C := "RangeTellerModel") (T := rt_T6) (N := 69) hx hb hts rt_i6 hown hK hP 0 rfl rfl 61 (by decide) (hts _ (rt_m rt_w908)) (fun _ h9 => h9) rfl d_RangeTellerModel_leaves_136 ?_
    refine lv_iload hx hb d_RangeTellerModel_leaves_139 (lv_at hl 3 rfl) ?_
    obtain ⟨v7, h8, hm⟩ := rt_b1s hm
    refine rt_ald hx hb hK hP 42 0 rfl rfl h8 d_RangeTellerModel_leaves_141 ?_
    obtain ⟨σ9, h10, hm⟩ := rt_b1s hm
    refine rt_ast hx hb hK hP hD hS 45 0 rfl (rtR_a45 cI cZ A _) rfl h10 d_RangeTellerModel_leaves_142 (fun H locs hP hS => ?_)
    refine lv_aload_n hx hb d_RangeTellerModel_leaves_143 rfl (lv_at hl 0 rfl) ?_
    refine va_get (D := D) (v := .ref (A 46)) (C := "RangeTellerModel") (T := rt_T6) (N := 69) hx hb hts rt_i6 hown hK hP 0 rfl rfl 65 (by decide) (hts _ (rt_m rt_w912)) (fun _ h9 => h9) rfl d_RangeTellerModel_leaves_144 ?_
    refine lv_iload_n hx hb d_RangeTellerModel_leaves_147 rfl (lv_at hl 2 rfl) ?_
    refine lv_aload_n hx hb d_RangeTellerModel_leaves_148 rfl (lv_at hl 0 rfl) ?_
    refine va_get (D := D) (v := .ref (A 43)) (C := "RangeTellerModel") (T := rt_T6) (N := 69) hx hb hts rt_i6 hown hK hP 0 rfl rfl 62 (by decide) (hts _ (rt_m rt_w909)) (fun _ h9 => h9) rfl d_RangeTellerModel_leaves_149 ?_
    refine lv_iload hx hb d_RangeTellerModel_leaves_152 (lv_at hl 3 rfl) ?_
    obtain ⟨v11, h12, hm⟩ := rt_b1s hm
    refine rt_zld hx hb hK hP 43 1 rfl rfl h12 d_RangeTellerModel_leaves_154 ?_
    obtain ⟨σ13, h14, hm⟩ := rt_b1s hm
    refine rt_zst hx hb hK hP hD hS 46 1 rfl (rtR_a46 cI cZ A _) rfl rfl h14 d_RangeTellerModel_leaves_155 (fun H locs hP hS => ?_)
    refine lv_aload_n hx hb d_RangeTellerModel_leaves_156 rfl (lv_at hl 0 rfl) ?_
    refine lv_iload_n hx hb d_RangeTellerModel_leaves_157 rfl (lv_at hl 1 rfl) ?_
    refine lv_bipush (v := 13) hx hb d_RangeTellerModel_leaves_158 (by decide) ?_
    refine lv_icmp_ne (tgt := 172) hx hb d_RangeTellerModel_leaves_160 (by decide) (fun hc => ?_) (fun hc => ?_)
    · have hm := (if_neg hc).symm.trans hm
      refine lv_aload_n hx hb d_RangeTellerModel_leaves_172 rfl (lv_at hl 0 rfl) ?_
      refine va_get (D := D) (v := .int (σ13 0 59)) (C := "RangeTellerModel") (T := rt_T6) (N := 69) hx hb hts rt_i6 hown hK hP 0 rfl rfl 59 (by decide) (hts _ (rt_m rt_w906)) (fun _ h9 => h9) rfl d_RangeTellerModel_leaves_173 ?_
      obtain ⟨σ15, h16, hm⟩ := rt_b1s hm
      refine rt_pf (D := D) (C := "RangeTellerModel") (T := rt_T6) (N := 69) (ty := .int) hx hb hts rt_i6 rt_y6 rt_o6 rt_n6 hown hK hP hD hS 0 rfl rfl 59 (by decide) (hts _ (rt_m rt_w906)) (fun _ h9 => h9) rfl (by decide +kernel) rfl rfl (Nat.le_of_ble_eq_true rfl) (rtR_s0_59 cI cZ A _ _) h16 d_RangeTellerModel_leaves_176 (fun H locs hP hS => ?_)
      refine lv_goto (tgt := 361) hx hb d_RangeTellerModel_leaves_179 (by decide) ?_
      refine lv_iconst (v := 1) hx hb d_RangeTellerModel_leaves_361 (by decide) ?_
      exact W.zret hx hb hr rfl (fun t ht hW => ⟨⟨_, _, rfl, rt_pr hm, rt_end rtR_Xo hK hP hS hX ht hW⟩, hS.F ht⟩) hS.2.2 d_RangeTellerModel_leaves_362
    · have hm := (if_pos hc).symm.trans hm
      refine lv_aload_n hx hb d_RangeTellerModel_leaves_163 rfl (lv_at hl 0 rfl) ?_
      refine va_get (D := D) (v := .int (σ13 0 59)) (C := "RangeTellerModel") (T := rt_T6) (N := 69) hx hb hts rt_i6 hown hK hP 0 rfl rfl 59 (by decide) (hts _ (rt_m rt_w906)) (fun _ h9 => h9) rfl d_RangeTellerModel_leaves_164 ?_
      refine lv_iconst (v := 1) hx hb d_RangeTellerModel_leaves_167 (by decide) ?_
      refine lv_isub hx hb d_RangeTellerModel_leaves_168 ?_
      refine lv_goto (tgt := 176) hx hb d_RangeTellerModel_leaves_169 (by decide) ?_
      obtain ⟨σ17, h18, hm⟩ := rt_b1s hm
      refine rt_pf (D := D) (C := "RangeTellerModel") (T := rt_T6) (N := 69) (ty := .int) hx hb hts rt_i6 rt_y6 rt_o6 rt_n6 hown hK hP hD hS 0 rfl rfl 59 (by decide) (hts _ (rt_m rt_w906)) (fun _ h9 => h9) rfl (by decide +kernel) rfl rfl (Nat.le_of_ble_eq_true rfl) (rtR_s0_59 cI cZ A _ _) h18 d_RangeTellerModel_leaves_176 (fun H locs hP hS => ?_)
      refine lv_goto (tgt := 361) hx hb d_RangeTellerModel_leaves_179 (by decide) ?_
      refine lv_iconst (v := 1) hx hb d_RangeTellerModel_leaves_361 (by decide) ?_
      exact W.zret hx hb hr rfl (fun t ht hW => ⟨⟨_, _, rfl, rt_pr hm, rt_end rtR_Xo hK hP hS hX ht hW⟩, hS.F ht⟩) hS.2.2 d_RangeTellerModel_leaves_362
  have hB233 : ∀ (ls : Array Slot) (t0 t1 t2 t3 : Int32) (σ : rt_St) (H : Heap) (locs : List Loc), lv_has ls 5 [(0, .ref (A 0))] → B_R_RangeTellerModel_leaves_233 t0 t1 t2 t3 σ = some (r', σ') → va_P D rt_cl (rtR_W cI cZ A σ) H → va_S (rt_A (rtR_W cI cZ A) s.heap.size) s.heap H locs → W p l e ({ frames := 2, cells := 0, slots := 0, locals := 48 } : Room) s m ([.ref (A 0), .int a1] : List Value).toArray below meth c H locs 0 0 (rt_Qi D rt_cl (rt_t cI cZ) rtR_X (rtR_W cI cZ A) below ([.ref (A 0), .int a1] : List Value).toArray s r' σ') (F0 m 233 ls [.int t0, .int t1, .int t2, .int t3, .ref (A 0)]) := by
    intro ls t0 t1 t2 t3 σ H locs hl hm hP hS
    unfold B_R_RangeTellerModel_leaves_233 at hm
    obtain ⟨σ20, h19, hm⟩ := rt_b1s hm
    refine rt_cvv (As := [.int t3, .int t2, .int t1, .int t0]) (rest := []) (k := 0) rtR_Xo ⟨hx, hb, hml, hown, hts⟩ (k_R_RangeTellerModel_set l D cI cZ A hO σ t3 t2 t1 t0 _ h19) (cw_RangeTellerModel_set hts (hts _ (rt_m rt_w1161)) ⟨Nat.le_of_ble_eq_true rfl, Nat.le_of_ble_eq_true rfl⟩) hK hP hS hX rfl rfl rfl hl.1 rfl (Nat.le_of_ble_eq_true rfl) d_RangeTellerModel_leaves_233 ⟨Nat.zero_le _, Nat.zero_le _⟩ (fun H locs hP hS => ?_)
    refine lv_aload_n hx hb d_RangeTellerModel_leaves_236 rfl (lv_at hl 0 rfl) ?_
    refine lv_dup hx hb d_RangeTellerModel_leaves_237 rfl ?_
    refine va_get (D := D) (v := .int (σ20 0 59)) (C := "RangeTellerModel") (T := rt_T6) (N := 69) hx hb hts rt_i6 hown hK hP 0 rfl rfl 59 (by decide) (hts _ (rt_m rt_w906)) (fun _ h9 => h9) rfl d_RangeTellerModel_leaves_238 ?_
    refine lv_iconst (v := 1) hx hb d_RangeTellerModel_leaves_241 (by decide) ?_
    refine lv_iadd hx hb d_RangeTellerModel_leaves_242 ?_
    obtain ⟨σ21, h22, hm⟩ := rt_b1s hm
    refine rt_pf (D := D) (C := "RangeTellerModel") (T := rt_T6) (N := 69) (ty := .int) hx hb hts rt_i6 rt_y6 rt_o6 rt_n6 hown hK hP hD hS 0 rfl rfl 59 (by decide) (hts _ (rt_m rt_w906)) (fun _ h9 => h9) rfl (by decide +kernel) rfl rfl (Nat.le_of_ble_eq_true rfl) (rtR_s0_59 cI cZ A _ _) h22 d_RangeTellerModel_leaves_243 (fun H locs hP hS => ?_)
    refine lv_goto (tgt := 361) hx hb d_RangeTellerModel_leaves_246 (by decide) ?_
    refine lv_iconst (v := 1) hx hb d_RangeTellerModel_leaves_361 (by decide) ?_
    exact W.zret hx hb hr rfl (fun t ht hW => ⟨⟨_, _, rfl, rt_pr hm, rt_end rtR_Xo hK hP hS hX ht hW⟩, hS.F ht⟩) hS.2.2 d_RangeTellerModel_leaves_362
  have hB222 : ∀ (ls : Array Slot) (l2 t0 t1 t2 : Int32) (σ : rt_St) (H : Heap) (locs : List Loc), lv_has ls 5 [(0, .ref (A 0)), (2, .int l2)] → B_R_RangeTellerModel_leaves_222 l2 t0 t1 t2 σ = some (r', σ') → va_P D rt_cl (rtR_W cI cZ A σ) H → va_S (rt_A (rtR_W cI cZ A) s.heap.size) s.heap H locs → W p l e ({ frames := 2, cells := 0, slots := 0, locals := 48 } : Room) s m ([.ref (A 0), .int a1] : List Value).toArray below meth c H locs 0 0 (rt_Qi D rt_cl (rt_t cI cZ) rtR_X (rtR_W cI cZ A) below ([.ref (A 0), .int a1] : List Value).toArray s r' σ') (F0 m 222 ls [.int t0, .int t1, .int t2, .ref (A 0)]) := by
    intro ls l2 t0 t1 t2 σ H locs hl hm hP hS
    unfold B_R_RangeTellerModel_leaves_222 at hm
    refine lv_iload_n hx hb d_RangeTellerModel_leaves_222 rfl (lv_at hl 1 rfl) ?_
    refine lv_bipush (v := 27) hx hb d_RangeTellerModel_leaves_223 (by decide) ?_
    refine lv_icmp_ne (tgt := 232) hx hb d_RangeTellerModel_leaves_225 (by decide) (fun hc => ?_) (fun hc => ?_)
    · have hm := (if_neg hc).symm.trans hm
      refine lv_iconst (v := 0) hx hb d_RangeTellerModel_leaves_232 (by decide) ?_
      exact hB233 ls 0 t0 t1 t2 σ _ _ (lv_sub hl [0] rfl) hm hP hS
    · have hm := (if_pos hc).symm.trans hm
      refine lv_iconst (v := 1) hx hb d_RangeTellerModel_leaves_228 (by decide) ?_
      refine lv_goto (tgt := 233) hx hb d_RangeTellerModel_leaves_229 (by decide) ?_
      exact hB233 ls 1 t0 t1 t2 σ _ _ (lv_sub hl [0] rfl) hm hP hS
  have hB210 : ∀ (ls : Array Slot) (l2 l3 t0 t1 : Int32) (σ : rt_St) (H : Heap) (locs : List Loc), lv_has ls 5 [(0, .ref (A 0)), (2, .int l2), (3, .int l3)] → B_R_RangeTellerModel_leaves_210 l2 l3 t0 t1 σ = some (r', σ') → va_P D rt_cl (rtR_W cI cZ A σ) H → va_S (rt_A (rtR_W cI cZ A) s.heap.size) s.heap H locs → W p l e ({ frames := 2, cells := 0, slots := 0, locals := 48 } : Room) s m ([.ref (A 0), .int a1] : List Value).toArray below meth c H locs 0 0 (rt_Qi D rt_cl (rt_t cI cZ) rtR_X (rtR_W cI cZ A) below ([.ref (A 0), .int a1] : List Value).toArray s r' σ') (F0 m 210 ls [.int t0, .int t1, .ref (A 0)]) := by
    intro ls l2 l3 t0 t1 σ H locs hl hm hP hS
    unfold B_R_RangeTellerModel_leaves_210 at hm
    refine lv_iload_n hx hb d_RangeTellerModel_leaves_210 rfl (lv_at hl 1 rfl) ?_
    refine lv_bipush (v := 17) hx hb d_RangeTellerModel_leaves_211 (by decide) ?_
    refine lv_icmp_ne (tgt := 220) hx hb d_RangeTellerModel_leaves_213 (by decide) (fun hc => ?_) (fun hc => ?_)
    · have hm := (if_neg hc).symm.trans hm
      refine lv_bipush (v := 63) hx hb d_RangeTellerModel_leaves_220 (by decide) ?_
      exact hB222 ls l2 63 t0 t1 σ _ _ (lv_sub hl [0, 1] rfl) hm hP hS
    · have hm := (if_pos hc).symm.trans hm
      refine lv_iload_n hx hb d_RangeTellerModel_leaves_216 rfl (lv_at hl 2 rfl) ?_
      refine lv_goto (tgt := 222) hx hb d_RangeTellerModel_leaves_217 (by decide) ?_
      exact hB222 ls l2 l3 t0 t1 σ _ _ (lv_sub hl [0, 1] rfl) hm hP hS
  have hB194 : ∀ (ls : Array Slot) (l2 l3 : Int32) (σ : rt_St) (H : Heap) (locs : List Loc), lv_has ls 5 [(0, .ref (A 0)), (2, .int l2), (3, .int l3)] → B_R_RangeTellerModel_leaves_194 l2 l3 σ = some (r', σ') → va_P D rt_cl (rtR_W cI cZ A σ) H → va_S (rt_A (rtR_W cI cZ A) s.heap.size) s.heap H locs → W p l e ({ frames := 2, cells := 0, slots := 0, locals := 48 } : Room) s m ([.ref (A 0), .int a1] : List Value).toArray below meth c H locs 0 0 (rt_Qi D rt_cl (rt_t cI cZ) rtR_X (rtR_W cI cZ A) below ([.ref (A 0), .int a1] : List Value).toArray s r' σ') (F0 m 194 ls []) := by
    intro ls l2 l3 σ H locs hl hm hP hS
    unfold B_R_RangeTellerModel_leaves_194 at hm
    refine lv_aload_n hx hb d_RangeTellerModel_leaves_194 rfl (lv_at hl 0 rfl) ?_
    refine lv_aload_n hx hb d_RangeTellerModel_leaves_195 rfl (lv_at hl 0 rfl) ?_
    refine va_get (D := D) (v := .int (σ 0 59)) (C := "RangeTellerModel") (T := rt_T6) (N := 69) hx hb hts rt_i6 hown hK hP 0 rfl rfl 59 (by decide) (hts _ (rt_m rt_w906)) (fun _ h9 => h9) rfl d_RangeTellerModel_leaves_196 ?_
    refine lv_iload_n hx hb d_RangeTellerModel_leaves_199 rfl (lv_at hl 1 rfl) ?_
    refine lv_bipush (v := 17) hx hb d_RangeTellerModel_leaves_200 (by decide) ?_
    refine lv_icmp_ne (tgt := 209) hx hb d_RangeTellerModel_leaves_202 (by decide) (fun hc => ?_) (fun hc => ?_)
    · have hm := (if_neg hc).symm.trans hm
      refine lv_iconst (v := 0) hx hb d_RangeTellerModel_leaves_209 (by decide) ?_
      exact hB210 ls l2 l3 0 (σ 0 59) σ _ _ (lv_sub hl [0, 1, 2] rfl) hm hP hS
    · have hm := (if_pos hc).symm.trans hm
      refine lv_iload_n hx hb d_RangeTellerModel_leaves_205 rfl (lv_at hl 2 rfl) ?_
      refine lv_goto (tgt := 210) hx hb d_RangeTellerModel_leaves_206 (by decide) ?_
      exact hB210 ls l2 l3 l3 (σ 0 59) σ _ _ (lv_sub hl [0, 1, 2] rfl) hm hP hS
  have hB298 : ∀ (ls : Array Slot) (l4 t0 t1 t2 : Int32) (σ : rt_St) (H : Heap) (locs : List Loc), lv_has ls 5 [(0, .ref (A 0)), (4, .int l4)] → B_R_RangeTellerModel_leaves_298 l4 t0 t1 t2 σ = some (r', σ') → va_P D rt_cl (rtR_W cI cZ A σ) H → va_S (rt_A (rtR_W cI cZ A) s.heap.size) s.heap H locs → W p l e ({ frames := 2, cells := 0, slots := 0, locals := 48 } : Room) s m ([.ref (A 0), .int a1] : List Value).toArray below meth c H locs 0 0 (rt_Qi D rt_cl (rt_t cI cZ) rtR_X (rtR_W cI cZ A) below ([.ref (A 0), .int a1] : List Value).toArray s r' σ') (F0 m 298 ls [.int t0, .int t1, .int t2, .ref (A 0)]) := by
    intro ls l4 t0 t1 t2 σ H locs hl hm hP hS
    unfold B_R_RangeTellerModel_leaves_298 at hm
    refine lv_aload_n hx hb d_RangeTellerModel_leaves_298 rfl (lv_at hl 0 rfl) ?_
    refine va_get (D := D) (v := .ref (A 43)) (C := "RangeTellerModel") (T := rt_T6) (N := 69) hx hb hts rt_i6 hown hK hP 0 rfl rfl 62 (by decide) (hts _ (rt_m rt_w909)) (fun _ h9 => h9) rfl d_RangeTellerModel_leaves_299 ?_
    refine lv_iload hx hb d_RangeTellerModel_leaves_302 (lv_at hl 1 rfl) ?_
    obtain ⟨v23, h24, hm⟩ := rt_b1s hm
    refine rt_zld hx hb hK hP 43 1 rfl rfl h24 d_RangeTellerModel_leaves_304 ?_
    obtain ⟨σ26, h25, hm⟩ := rt_b1s hm
    refine rt_cvv (As := [.int t2, .int t1, .int t0, .int v23]) (rest := []) (k := 0) rtR_Xo ⟨hx, hb, hml, hown, hts⟩ (k_R_RangeTellerModel_set l D cI cZ A hO σ t2 t1 t0 v23 _ h25) (cw_RangeTellerModel_set hts (hts _ (rt_m rt_w1161)) ⟨Nat.le_of_ble_eq_true rfl, Nat.le_of_ble_eq_true rfl⟩) hK hP hS hX rfl rfl rfl hl.1 rfl (Nat.le_of_ble_eq_true rfl) d_RangeTellerModel_leaves_305 ⟨Nat.zero_le _, Nat.zero_le _⟩ (fun H locs hP hS => ?_)
    refine lv_goto (tgt := 361) hx hb d_RangeTellerModel_leaves_308 (by decide) ?_
    refine lv_iconst (v := 1) hx hb d_RangeTellerModel_leaves_361 (by decide) ?_
    exact W.zret hx hb hr rfl (fun t ht hW => ⟨⟨_, _, rfl, rt_pr hm, rt_end rtR_Xo hK hP hS hX ht hW⟩, hS.F ht⟩) hS.2.2 d_RangeTellerModel_leaves_362
  have hB283 : ∀ (ls : Array Slot) (l4 t0 t1 : Int32) (σ : rt_St) (H : Heap) (locs : List Loc), lv_has ls 5 [(0, .ref (A 0)), (4, .int l4)] → B_R_RangeTellerModel_leaves_283 l4 t0 t1 σ = some (r', σ') → va_P D rt_cl (rtR_W cI cZ A σ) H → va_S (rt_A (rtR_W cI cZ A) s.heap.size) s.heap H locs → W p l e ({ frames := 2, cells := 0, slots := 0, locals := 48 } : Room) s m ([.ref (A 0), .int a1] : List Value).toArray below meth c H locs 0 0 (rt_Qi D rt_cl (rt_t cI cZ) rtR_X (rtR_W cI cZ A) below ([.ref (A 0), .int a1] : List Value).toArray s r' σ') (F0 m 283 ls [.int t0, .int t1, .ref (A 0)]) := by
    intro ls l4 t0 t1 σ H locs hl hm hP hS
    unfold B_R_RangeTellerModel_leaves_283 at hm
    refine lv_aload_n hx hb d_RangeTellerModel_leaves_283 rfl (lv_at hl 0 rfl) ?_
    refine va_get (D := D) (v := .ref (A 41)) (C := "RangeTellerModel") (T := rt_T6) (N := 69) hx hb hts rt_i6 hown hK hP 0 rfl rfl 60 (by decide) (hts _ (rt_m rt_w907)) (fun _ h9 => h9) rfl d_RangeTellerModel_leaves_284 ?_
    refine lv_iload hx hb d_RangeTellerModel_leaves_287 (lv_at hl 1 rfl) ?_
    obtain ⟨v27, h28, hm⟩ := rt_b1s hm
    refine rt_ald hx hb hK hP 41 0 rfl rfl h28 d_RangeTellerModel_leaves_289 ?_
    refine lv_if_ne (tgt := 297) hx hb d_RangeTellerModel_leaves_290 (by decide) (fun hc => ?_) (fun hc => ?_)
    · have hm := (if_neg hc).symm.trans hm
      refine lv_iconst (v := 0) hx hb d_RangeTellerModel_leaves_297 (by decide) ?_
      exact hB298 ls l4 0 t0 t1 σ _ _ (lv_sub hl [0, 1] rfl) hm hP hS
    · have hm := (if_pos hc).symm.trans hm
      refine lv_iconst (v := 1) hx hb d_RangeTellerModel_leaves_293 (by decide) ?_
      refine lv_goto (tgt := 298) hx hb d_RangeTellerModel_leaves_294 (by decide) ?_
      exact hB298 ls l4 1 t0 t1 σ _ _ (lv_sub hl [0, 1] rfl) hm hP hS
  have hB282 : ∀ (ls : Array Slot) (l4 t0 : Int32) (σ : rt_St) (H : Heap) (locs : List Loc), lv_has ls 5 [(0, .ref (A 0)), (4, .int l4)] → B_R_RangeTellerModel_leaves_282 l4 t0 σ = some (r', σ') → va_P D rt_cl (rtR_W cI cZ A σ) H → va_S (rt_A (rtR_W cI cZ A) s.heap.size) s.heap H locs → W p l e ({ frames := 2, cells := 0, slots := 0, locals := 48 } : Room) s m ([.ref (A 0), .int a1] : List Value).toArray below meth c H locs 0 0 (rt_Qi D rt_cl (rt_t cI cZ) rtR_X (rtR_W cI cZ A) below ([.ref (A 0), .int a1] : List Value).toArray s r' σ') (F0 m 282 ls [.int t0, .ref (A 0)]) := by
    intro ls l4 t0 σ H locs hl hm hP hS
    unfold B_R_RangeTellerModel_leaves_282 at hm
    refine lv_iconst (v := 0) hx hb d_RangeTellerModel_leaves_282 (by decide) ?_
    exact hB283 ls l4 0 t0 σ _ _ (lv_sub hl [0, 1] rfl) hm hP hS
  unfold M_R_RangeTellerModel_leaves at hm
  refine lv_aload_n hx hb d_RangeTellerModel_leaves_0 rfl (lv_at hl 0 rfl) ?_
  refine va_get (D := D) (v := .ref (A 2)) (C := "RangeTellerModel") (T := rt_T6) (N := 69) hx hb hts rt_i6 hown hK hP 0 rfl rfl 7 (by decide) (hts _ (rt_m rt_w854)) (fun _ h9 => h9) rfl d_RangeTellerModel_leaves_1 ?_
  refine lv_iload_n hx hb d_RangeTellerModel_leaves_4 rfl (lv_at hl 1 rfl) ?_
  obtain ⟨v29, h30, hm⟩ := rt_b1s hm
  refine rt_ald hx hb hK hP 2 0 rfl rfl h30 d_RangeTellerModel_leaves_5 ?_
  refine lv_istore_n hx hb d_RangeTellerModel_leaves_6 rfl hl (by decide) rfl (fun ls hl => ?_)
  have hl : lv_has ls 5 [(2, .int v29), (0, .ref (A 0)), (1, .int a1)] := hl
  refine lv_aload_n hx hb d_RangeTellerModel_leaves_7 rfl (lv_at hl 1 rfl) ?_
  refine va_get (D := D) (v := .ref (A 3)) (C := "RangeTellerModel") (T := rt_T6) (N := 69) hx hb hts rt_i6 hown hK hP 0 rfl rfl 8 (by decide) (hts _ (rt_m rt_w855)) (fun _ h9 => h9) rfl d_RangeTellerModel_leaves_8 ?_
  refine lv_iload_n hx hb d_RangeTellerModel_leaves_11 rfl (lv_at hl 2 rfl) ?_
  obtain ⟨v31, h32, hm⟩ := rt_b1s hm
  refine rt_ald hx hb hK hP 3 0 rfl rfl h32 d_RangeTellerModel_leaves_12 ?_
  refine lv_istore_n hx hb d_RangeTellerModel_leaves_13 rfl hl (by decide) rfl (fun ls hl => ?_)
  have hl : lv_has ls 5 [(3, .int v31), (2, .int v29), (0, .ref (A 0)), (1, .int a1)] := hl
  refine lv_aload_n hx hb d_RangeTellerModel_leaves_14 rfl (lv_at hl 2 rfl) ?_
  refine va_get (D := D) (v := .int (σ 0 59)) (C := "RangeTellerModel") (T := rt_T6) (N := 69) hx hb hts rt_i6 hown hK hP 0 rfl rfl 59 (by decide) (hts _ (rt_m rt_w906)) (fun _ h9 => h9) rfl d_RangeTellerModel_leaves_15 ?_
  refine lv_iconst (v := 1) hx hb d_RangeTellerModel_leaves_18 (by decide) ?_
  refine lv_isub hx hb d_RangeTellerModel_leaves_19 ?_
  refine lv_istore hx hb d_RangeTellerModel_leaves_20 hl (by decide) rfl (fun ls hl => ?_)
  have hl : lv_has ls 5 [(4, .int ((σ 0 59) - 1)), (3, .int v31), (2, .int v29), (0, .ref (A 0)), (1, .int a1)] := hl
  refine lv_iload_n hx hb d_RangeTellerModel_leaves_22 rfl (lv_at hl 2 rfl) ?_
  refine lv_bipush (v := 10) hx hb d_RangeTellerModel_leaves_23 (by decide) ?_
  refine lv_icmp_eq (tgt := 34) hx hb d_RangeTellerModel_leaves_25 (by decide) (fun hc => ?_) (fun hc => ?_)
  · have hm := (if_pos hc).symm.trans hm
    exact hB34 ls σ _ _ (lv_sub hl [3] rfl) hm hP hS
  · have hm := (if_neg hc).symm.trans hm
    refine lv_iload_n hx hb d_RangeTellerModel_leaves_28 rfl (lv_at hl 2 rfl) ?_
    refine lv_bipush (v := 28) hx hb d_RangeTellerModel_leaves_29 (by decide) ?_
    refine lv_icmp_ne (tgt := 47) hx hb d_RangeTellerModel_leaves_31 (by decide) (fun hc => ?_) (fun hc => ?_)
    · have hm := (if_neg hc).symm.trans hm
      refine lv_iload_n hx hb d_RangeTellerModel_leaves_47 rfl (lv_at hl 2 rfl) ?_
      refine lv_bipush (v := 11) hx hb d_RangeTellerModel_leaves_48 (by decide) ?_
      refine lv_icmp_ne (tgt := 60) hx hb d_RangeTellerModel_leaves_50 (by decide) (fun hc => ?_) (fun hc => ?_)
      · have hm := (if_neg hc).symm.trans hm
        refine lv_iload_n hx hb d_RangeTellerModel_leaves_60 rfl (lv_at hl 2 rfl) ?_
        refine lv_bipush (v := 12) hx hb d_RangeTellerModel_leaves_61 (by decide) ?_
        refine lv_icmp_ne (tgt := 105) hx hb d_RangeTellerModel_leaves_63 (by decide) (fun hc => ?_) (fun hc => ?_)
        · have hm := (if_neg hc).symm.trans hm
          refine lv_iload_n hx hb d_RangeTellerModel_leaves_105 rfl (lv_at hl 2 rfl) ?_
          refine lv_bipush (v := 13) hx hb d_RangeTellerModel_leaves_106 (by decide) ?_
          refine lv_icmp_eq (tgt := 117) hx hb d_RangeTellerModel_leaves_108 (by decide) (fun hc => ?_) (fun hc => ?_)
          · have hm := (if_pos hc).symm.trans hm
            exact hB117 ls v29 v31 ((σ 0 59) - 1) σ _ _ (lv_sub hl [3, 2, 1, 0] rfl) hm hP hS
          · have hm := (if_neg hc).symm.trans hm
            refine lv_iload_n hx hb d_RangeTellerModel_leaves_111 rfl (lv_at hl 2 rfl) ?_
            refine lv_bipush (v := 14) hx hb d_RangeTellerModel_leaves_112 (by decide) ?_
            refine lv_icmp_ne (tgt := 182) hx hb d_RangeTellerModel_leaves_114 (by decide) (fun hc => ?_) (fun hc => ?_)
            · have hm := (if_neg hc).symm.trans hm
              refine lv_iload_n hx hb d_RangeTellerModel_leaves_182 rfl (lv_at hl 2 rfl) ?_
              refine lv_bipush (v := 17) hx hb d_RangeTellerModel_leaves_183 (by decide) ?_
              refine lv_icmp_eq (tgt := 194) hx hb d_RangeTellerModel_leaves_185 (by decide) (fun hc => ?_) (fun hc => ?_)
              · have hm := (if_pos hc).symm.trans hm
                exact hB194 ls v29 v31 σ _ _ (lv_sub hl [3, 2, 1] rfl) hm hP hS
              · have hm := (if_neg hc).symm.trans hm
                refine lv_iload_n hx hb d_RangeTellerModel_leaves_188 rfl (lv_at hl 2 rfl) ?_
                refine lv_bipush (v := 27) hx hb d_RangeTellerModel_leaves_189 (by decide) ?_
                refine lv_icmp_ne (tgt := 249) hx hb d_RangeTellerModel_leaves_191 (by decide) (fun hc => ?_) (fun hc => ?_)
                · have hm := (if_neg hc).symm.trans hm
                  refine lv_iload_n hx hb d_RangeTellerModel_leaves_249 rfl (lv_at hl 2 rfl) ?_
                  refine lv_bipush (v := 18) hx hb d_RangeTellerModel_leaves_250 (by decide) ?_
                  refine lv_icmp_ne (tgt := 311) hx hb d_RangeTellerModel_leaves_252 (by decide) (fun hc => ?_) (fun hc => ?_)
                  · have hm := (if_neg hc).symm.trans hm
                    refine lv_aload_n hx hb d_RangeTellerModel_leaves_311 rfl (lv_at hl 3 rfl) ?_
                    refine lv_iload_n hx hb d_RangeTellerModel_leaves_312 rfl (lv_at hl 2 rfl) ?_
                    obtain ⟨σ34, h33, hm⟩ := rt_b1s hm
                    refine rt_cvv (As := [.int v29]) (rest := []) (k := 0) rtR_Xo ⟨hx, hb, hml, hown, hts⟩ (k_R_RangeTellerModel_pairs l D cI cZ A hO σ v29 _ h33) (cw_RangeTellerModel_pairs hts (hts _ (rt_m rt_w1193)) ⟨Nat.le_of_ble_eq_true rfl, Nat.le_of_ble_eq_true rfl⟩) hK hP hS hX rfl rfl rfl hl.1 rfl (Nat.le_of_ble_eq_true rfl) d_RangeTellerModel_leaves_313 ⟨Nat.zero_le _, Nat.zero_le _⟩ (fun H locs hP hS => ?_)
                    refine lv_aload_n hx hb d_RangeTellerModel_leaves_316 rfl (lv_at hl 3 rfl) ?_
                    refine va_get (D := D) (v := .int (σ34 0 66)) (C := "RangeTellerModel") (T := rt_T6) (N := 69) hx hb hts rt_i6 hown hK hP 0 rfl rfl 66 (by decide) (hts _ (rt_m rt_w913)) (fun _ h9 => h9) rfl d_RangeTellerModel_leaves_317 ?_
                    refine lv_aload_n hx hb d_RangeTellerModel_leaves_320 rfl (lv_at hl 3 rfl) ?_
                    refine va_get (D := D) (v := .int (σ34 0 67)) (C := "RangeTellerModel") (T := rt_T6) (N := 69) hx hb hts rt_i6 hown hK hP 0 rfl rfl 67 (by decide) (hts _ (rt_m rt_w914)) (fun _ h9 => h9) rfl d_RangeTellerModel_leaves_321 ?_
                    refine lv_icmp_le (tgt := 329) hx hb d_RangeTellerModel_leaves_324 (by decide) (fun hc => ?_) (fun hc => ?_)
                    · have hm := (if_pos hc).symm.trans hm
                      refine lv_aload_n hx hb d_RangeTellerModel_leaves_329 rfl (lv_at hl 3 rfl) ?_
                      refine lv_dup hx hb d_RangeTellerModel_leaves_330 rfl ?_
                      refine va_get (D := D) (v := .int (σ34 0 59)) (C := "RangeTellerModel") (T := rt_T6) (N := 69) hx hb hts rt_i6 hown hK hP 0 rfl rfl 59 (by decide) (hts _ (rt_m rt_w906)) (fun _ h9 => h9) rfl d_RangeTellerModel_leaves_331 ?_
                      refine lv_iconst (v := 1) hx hb d_RangeTellerModel_leaves_334 (by decide) ?_
                      refine lv_isub hx hb d_RangeTellerModel_leaves_335 ?_
                      obtain ⟨σ35, h36, hm⟩ := rt_b1s hm
                      refine rt_pf (D := D) (C := "RangeTellerModel") (T := rt_T6) (N := 69) (ty := .int) hx hb hts rt_i6 rt_y6 rt_o6 rt_n6 hown hK hP hD hS 0 rfl rfl 59 (by decide) (hts _ (rt_m rt_w906)) (fun _ h9 => h9) rfl (by decide +kernel) rfl rfl (Nat.le_of_ble_eq_true rfl) (rtR_s0_59 cI cZ A _ _) h36 d_RangeTellerModel_leaves_336 (fun H locs hP hS => ?_)
                      refine lv_aload_n hx hb d_RangeTellerModel_leaves_339 rfl (lv_at hl 3 rfl) ?_
                      refine lv_aload_n hx hb d_RangeTellerModel_leaves_340 rfl (lv_at hl 3 rfl) ?_
                      refine va_get (D := D) (v := .int (σ35 0 59)) (C := "RangeTellerModel") (T := rt_T6) (N := 69) hx hb hts rt_i6 hown hK hP 0 rfl rfl 59 (by decide) (hts _ (rt_m rt_w906)) (fun _ h9 => h9) rfl d_RangeTellerModel_leaves_341 ?_
                      refine lv_iconst (v := 1) hx hb d_RangeTellerModel_leaves_344 (by decide) ?_
                      refine lv_isub hx hb d_RangeTellerModel_leaves_345 ?_
                      refine lv_aload_n hx hb d_RangeTellerModel_leaves_346 rfl (lv_at hl 3 rfl) ?_
                      refine va_get (D := D) (v := .int (σ35 0 66)) (C := "RangeTellerModel") (T := rt_T6) (N := 69) hx hb hts rt_i6 hown hK hP 0 rfl rfl 66 (by decide) (hts _ (rt_m rt_w913)) (fun _ h9 => h9) rfl d_RangeTellerModel_leaves_347 ?_
                      refine lv_aload_n hx hb d_RangeTellerModel_leaves_350 rfl (lv_at hl 3 rfl) ?_
                      refine va_get (D := D) (v := .int (σ35 0 67)) (C := "RangeTellerModel") (T := rt_T6) (N := 69) hx hb hts rt_i6 hown hK hP 0 rfl rfl 67 (by decide) (hts _ (rt_m rt_w914)) (fun _ h9 => h9) rfl d_RangeTellerModel_leaves_351 ?_
                      refine lv_aload_n hx hb d_RangeTellerModel_leaves_354 rfl (lv_at hl 3 rfl) ?_
                      refine va_get (D := D) (v := .int (σ35 0 68)) (C := "RangeTellerModel") (T := rt_T6) (N := 69) hx hb hts rt_i6 hown hK hP 0 rfl rfl 68 (by decide) (hts _ (rt_m rt_w915)) (fun _ h9 => h9) rfl d_RangeTellerModel_leaves_355 ?_
                      obtain ⟨σ38, h37, hm⟩ := rt_b1s hm
                      refine rt_cvv (As := [.int ((σ35 0 59) - 1), .int (σ35 0 66), .int (σ35 0 67), .int (σ35 0 68)]) (rest := []) (k := 0) rtR_Xo ⟨hx, hb, hml, hown, hts⟩ (k_R_RangeTellerModel_set l D cI cZ A hO σ35 ((σ35 0 59) - 1) (σ35 0 66) (σ35 0 67) (σ35 0 68) _ h37) (cw_RangeTellerModel_set hts (hts _ (rt_m rt_w1161)) ⟨Nat.le_of_ble_eq_true rfl, Nat.le_of_ble_eq_true rfl⟩) hK hP hS hX rfl rfl rfl hl.1 rfl (Nat.le_of_ble_eq_true rfl) d_RangeTellerModel_leaves_358 ⟨Nat.zero_le _, Nat.zero_le _⟩ (fun H locs hP hS => ?_)
                      refine lv_iconst (v := 1) hx hb d_RangeTellerModel_leaves_361 (by decide) ?_
                      exact W.zret hx hb hr rfl (fun t ht hW => ⟨⟨_, _, rfl, rt_pr hm, rt_end rtR_Xo hK hP hS hX ht hW⟩, hS.F ht⟩) hS.2.2 d_RangeTellerModel_leaves_362
                    · have hm := (if_neg hc).symm.trans hm
                      refine lv_iconst (v := 0) hx hb d_RangeTellerModel_leaves_327 (by decide) ?_
                      exact W.zret hx hb hr rfl (fun t ht hW => ⟨⟨_, _, rfl, rt_pr hm, rt_end rtR_Xo hK hP hS hX ht hW⟩, hS.F ht⟩) hS.2.2 d_RangeTellerModel_leaves_328
                  · have hm := (if_pos hc).symm.trans hm
                    refine lv_aload_n hx hb d_RangeTellerModel_leaves_255 rfl (lv_at hl 3 rfl) ?_
                    refine lv_iload hx hb d_RangeTellerModel_leaves_256 (lv_at hl 0 rfl) ?_
                    refine lv_aload_n hx hb d_RangeTellerModel_leaves_258 rfl (lv_at hl 3 rfl) ?_
                    refine va_get (D := D) (v := .ref (A 41)) (C := "RangeTellerModel") (T := rt_T6) (N := 69) hx hb hts rt_i6 hown hK hP 0 rfl rfl 60 (by decide) (hts _ (rt_m rt_w907)) (fun _ h9 => h9) rfl d_RangeTellerModel_leaves_259 ?_
                    refine lv_iload hx hb d_RangeTellerModel_leaves_262 (lv_at hl 0 rfl) ?_
                    obtain ⟨v39, h40, hm⟩ := rt_b1s hm
                    refine rt_ald hx hb hK hP 41 0 rfl rfl h40 d_RangeTellerModel_leaves_264 ?_
                    refine lv_if_ne (tgt := 282) hx hb d_RangeTellerModel_leaves_265 (by decide) (fun hc => ?_) (fun hc => ?_)
                    · have hm := (if_neg hc).symm.trans hm
                      exact hB282 ls ((σ 0 59) - 1) ((σ 0 59) - 1) σ _ _ (lv_sub hl [3, 0] rfl) hm hP hS
                    · have hm := (if_pos hc).symm.trans hm
                      refine lv_aload_n hx hb d_RangeTellerModel_leaves_268 rfl (lv_at hl 3 rfl) ?_
                      refine va_get (D := D) (v := .ref (A 42)) (C := "RangeTellerModel") (T := rt_T6) (N := 69) hx hb hts rt_i6 hown hK hP 0 rfl rfl 61 (by decide) (hts _ (rt_m rt_w908)) (fun _ h9 => h9) rfl d_RangeTellerModel_leaves_269 ?_
                      refine lv_iload hx hb d_RangeTellerModel_leaves_272 (lv_at hl 0 rfl) ?_
                      obtain ⟨v41, h42, hm⟩ := rt_b1s hm
                      refine rt_ald hx hb hK hP 42 0 rfl rfl h42 d_RangeTellerModel_leaves_274 ?_
                      refine lv_if_ne (tgt := 282) hx hb d_RangeTellerModel_leaves_275 (by decide) (fun hc => ?_) (fun hc => ?_)
                      · have hm := (if_neg hc).symm.trans hm
                        exact hB282 ls ((σ 0 59) - 1) ((σ 0 59) - 1) σ _ _ (lv_sub hl [3, 0] rfl) hm hP hS
                      · have hm := (if_pos hc).symm.trans hm
                        refine lv_iconst (v := 1) hx hb d_RangeTellerModel_leaves_278 (by decide) ?_
                        refine lv_goto (tgt := 283) hx hb d_RangeTellerModel_leaves_279 (by decide) ?_
                        exact hB283 ls ((σ 0 59) - 1) 1 ((σ 0 59) - 1) σ _ _ (lv_sub hl [3, 0] rfl) hm hP hS
                · have hm := (if_pos hc).symm.trans hm
                  exact hB194 ls v29 v31 σ _ _ (lv_sub hl [3, 2, 1] rfl) hm hP hS
            · have hm := (if_pos hc).symm.trans hm
              exact hB117 ls v29 v31 ((σ 0 59) - 1) σ _ _ (lv_sub hl [3, 2, 1, 0] rfl) hm hP hS
        · have hm := (if_pos hc).symm.trans hm
          refine lv_aload_n hx hb d_RangeTellerModel_leaves_66 rfl (lv_at hl 3 rfl) ?_
          refine lv_aload_n hx hb d_RangeTellerModel_leaves_67 rfl (lv_at hl 3 rfl) ?_
          refine va_get (D := D) (v := .int (σ 0 59)) (C := "RangeTellerModel") (T := rt_T6) (N := 69) hx hb hts rt_i6 hown hK hP 0 rfl rfl 59 (by decide) (hts _ (rt_m rt_w906)) (fun _ h9 => h9) rfl d_RangeTellerModel_leaves_68 ?_
          refine lv_aload_n hx hb d_RangeTellerModel_leaves_71 rfl (lv_at hl 3 rfl) ?_
          refine va_get (D := D) (v := .ref (A 44)) (C := "RangeTellerModel") (T := rt_T6) (N := 69) hx hb hts rt_i6 hown hK hP 0 rfl rfl 63 (by decide) (hts _ (rt_m rt_w910)) (fun _ h9 => h9) rfl d_RangeTellerModel_leaves_72 ?_
          refine lv_iload_n hx hb d_RangeTellerModel_leaves_75 rfl (lv_at hl 1 rfl) ?_
          obtain ⟨v43, h44, hm⟩ := rt_b1s hm
          refine rt_ald hx hb hK hP 44 0 rfl rfl h44 d_RangeTellerModel_leaves_76 ?_
          refine lv_aload_n hx hb d_RangeTellerModel_leaves_77 rfl (lv_at hl 3 rfl) ?_
          refine va_get (D := D) (v := .ref (A 45)) (C := "RangeTellerModel") (T := rt_T6) (N := 69) hx hb hts rt_i6 hown hK hP 0 rfl rfl 64 (by decide) (hts _ (rt_m rt_w911)) (fun _ h9 => h9) rfl d_RangeTellerModel_leaves_78 ?_
          refine lv_iload_n hx hb d_RangeTellerModel_leaves_81 rfl (lv_at hl 1 rfl) ?_
          obtain ⟨v45, h46, hm⟩ := rt_b1s hm
          refine rt_ald hx hb hK hP 45 0 rfl rfl h46 d_RangeTellerModel_leaves_82 ?_
          refine lv_aload_n hx hb d_RangeTellerModel_leaves_83 rfl (lv_at hl 3 rfl) ?_
          refine va_get (D := D) (v := .ref (A 46)) (C := "RangeTellerModel") (T := rt_T6) (N := 69) hx hb hts rt_i6 hown hK hP 0 rfl rfl 65 (by decide) (hts _ (rt_m rt_w912)) (fun _ h9 => h9) rfl d_RangeTellerModel_leaves_84 ?_
          refine lv_iload_n hx hb d_RangeTellerModel_leaves_87 rfl (lv_at hl 1 rfl) ?_
          obtain ⟨v47, h48, hm⟩ := rt_b1s hm
          refine rt_zld hx hb hK hP 46 1 rfl rfl h48 d_RangeTellerModel_leaves_88 ?_
          obtain ⟨σ50, h49, hm⟩ := rt_b1s hm
          refine rt_cvv (As := [.int (σ 0 59), .int v43, .int v45, .int v47]) (rest := []) (k := 0) rtR_Xo ⟨hx, hb, hml, hown, hts⟩ (k_R_RangeTellerModel_set l D cI cZ A hO σ (σ 0 59) v43 v45 v47 _ h49) (cw_RangeTellerModel_set hts (hts _ (rt_m rt_w1161)) ⟨Nat.le_of_ble_eq_true rfl, Nat.le_of_ble_eq_true rfl⟩) hK hP hS hX rfl rfl rfl hl.1 rfl (Nat.le_of_ble_eq_true rfl) d_RangeTellerModel_leaves_89 ⟨Nat.zero_le _, Nat.zero_le _⟩ (fun H locs hP hS => ?_)
          refine lv_aload_n hx hb d_RangeTellerModel_leaves_92 rfl (lv_at hl 3 rfl) ?_
          refine lv_dup hx hb d_RangeTellerModel_leaves_93 rfl ?_
          refine va_get (D := D) (v := .int (σ50 0 59)) (C := "RangeTellerModel") (T := rt_T6) (N := 69) hx hb hts rt_i6 hown hK hP 0 rfl rfl 59 (by decide) (hts _ (rt_m rt_w906)) (fun _ h9 => h9) rfl d_RangeTellerModel_leaves_94 ?_
          refine lv_iconst (v := 1) hx hb d_RangeTellerModel_leaves_97 (by decide) ?_
          refine lv_iadd hx hb d_RangeTellerModel_leaves_98 ?_
          obtain ⟨σ51, h52, hm⟩ := rt_b1s hm
          refine rt_pf (D := D) (C := "RangeTellerModel") (T := rt_T6) (N := 69) (ty := .int) hx hb hts rt_i6 rt_y6 rt_o6 rt_n6 hown hK hP hD hS 0 rfl rfl 59 (by decide) (hts _ (rt_m rt_w906)) (fun _ h9 => h9) rfl (by decide +kernel) rfl rfl (Nat.le_of_ble_eq_true rfl) (rtR_s0_59 cI cZ A _ _) h52 d_RangeTellerModel_leaves_99 (fun H locs hP hS => ?_)
          refine lv_goto (tgt := 361) hx hb d_RangeTellerModel_leaves_102 (by decide) ?_
          refine lv_iconst (v := 1) hx hb d_RangeTellerModel_leaves_361 (by decide) ?_
          exact W.zret hx hb hr rfl (fun t ht hW => ⟨⟨_, _, rfl, rt_pr hm, rt_end rtR_Xo hK hP hS hX ht hW⟩, hS.F ht⟩) hS.2.2 d_RangeTellerModel_leaves_362
      · have hm := (if_pos hc).symm.trans hm
        refine lv_aload_n hx hb d_RangeTellerModel_leaves_53 rfl (lv_at hl 3 rfl) ?_
        obtain ⟨σ54, h53, hm⟩ := rt_b1s hm
        refine rt_cvv (As := []) (rest := []) (k := 0) rtR_Xo ⟨hx, hb, hml, hown, hts⟩ (k_R_RangeTellerModel_pick l D cI cZ A hO σ _ h53) (cw_RangeTellerModel_pick hts (hts _ (rt_m rt_w1189)) ⟨Nat.le_of_ble_eq_true rfl, Nat.le_of_ble_eq_true rfl⟩) hK hP hS hX rfl rfl rfl hl.1 rfl (Nat.le_of_ble_eq_true rfl) d_RangeTellerModel_leaves_54 ⟨Nat.zero_le _, Nat.zero_le _⟩ (fun H locs hP hS => ?_)
        refine lv_goto (tgt := 361) hx hb d_RangeTellerModel_leaves_57 (by decide) ?_
        refine lv_iconst (v := 1) hx hb d_RangeTellerModel_leaves_361 (by decide) ?_
        exact W.zret hx hb hr rfl (fun t ht hW => ⟨⟨_, _, rfl, rt_pr hm, rt_end rtR_Xo hK hP hS hX ht hW⟩, hS.F ht⟩) hS.2.2 d_RangeTellerModel_leaves_362
    · have hm := (if_pos hc).symm.trans hm
      exact hB34 ls σ _ _ (lv_sub hl [3] rfl) hm hP hS
set_option maxHeartbeats 4000000 in
set_option maxRecDepth 100000 in
theorem k_R_RangeTellerModel_store1 (l : Launch) (D : va_G) (cI cZ : ClassId) (A : Nat → Nat) (hO : rt_Ok (rtR_W cI cZ A)) (σ : rt_St) (a1 : Int32) (σ' : rt_St) (hm : M_R_RangeTellerModel_store1 σ a1 = some σ') (sz : Nat) : Met l y_RangeTellerModel_store1 (rt_ws y_RangeTellerModel_store1 b_RangeTellerModel_store1 9 none) ({ frames := 1, cells := 0, slots := 0, locals := 25 } : Room) (va_Pc [.ref (A 0), .int a1] (rt_P D rt_cl (rt_t cI cZ) rtR_X (rtR_W cI cZ A) sz σ)) (va_Qv (fun u1 => u1 = σ') (rt_B D rt_cl (rt_t cI cZ) rtR_X (rtR_W cI cZ A)) (rt_A (rtR_W cI cZ A) sz)) 0 0 (rt_A (rtR_W cI cZ A) sz) := by
  refine Met.ofW (cc := b_RangeTellerModel_store1) (maxL := 9) (ret := none) (by decide) rfl ?_
  intro p e s m args below meth c s₁ B hml hv
  obtain ⟨rfl, rfl, hP, hK, hX⟩ := hv
  have hx := B.exec
  have hb := B.bytes
  have hr := B.returns
  have hts := atoms_spec (ws := (rt_ws y_RangeTellerModel_store1 b_RangeTellerModel_store1 9 none)) B.pre
  have hown : s.vm.findClass "RangeTellerModel" = some m.cls := findClass_of_methodNamed B.named
  have hlocks := B.notSynchronized
  have hD := rt_hD hO s.heap.size
  have hS : va_S (rt_A (rtR_W cI cZ A) s.heap.size) s.heap s.heap [] := va_S.rf
  have hl := lv_entry ([.ref (A 0), .int a1]) (n := 9) (Nat.le_of_ble_eq_true rfl)
  rw [lg_entry_eq]
  generalize (lg_sl ([.ref (A 0), .int a1]) ++ List.replicate (9 - (lg_sl ([.ref (A 0), .int a1])).length) Slot.unset).toArray = ls at hl ⊢
  have hl : lv_has ls 9 [(0, .ref (A 0)), (1, .int a1)] := hl
  show W p l e ({ frames := 1, cells := 0, slots := 0, locals := 25 } : Room) s m ([.ref (A 0), .int a1] : List Value).toArray below meth c s.heap [] 0 0 (rt_Qv D rt_cl (rt_t cI cZ) rtR_X (rtR_W cI cZ A) below ([.ref (A 0), .int a1] : List Value).toArray s σ') (F0 m 0 ls [])
  have hB274 : ∀ (ls : Array Slot) (l1 l5 : Int32) (σ : rt_St) (H : Heap) (locs : List Loc), lv_has ls 9 [(0, .ref (A 0)), (1, .int l1), (5, .int l5)] → B_R_RangeTellerModel_store1_274 l1 l5 σ = some σ' → va_P D rt_cl (rtR_W cI cZ A σ) H → va_S (rt_A (rtR_W cI cZ A) s.heap.size) s.heap H locs → W p l e ({ frames := 1, cells := 0, slots := 0, locals := 25 } : Room) s m ([.ref (A 0), .int a1] : List Value).toArray below meth c H locs 0 0 (rt_Qv D rt_cl (rt_t cI cZ) rtR_X (rtR_W cI cZ A) below ([.ref (A 0), .int a1] : List Value).toArray s σ') (F0 m 274 ls []) := by
    intro ls l1 l5 σ H locs hl hm hP hS
    unfold B_R_RangeTellerModel_store1_274 at hm
    refine lv_aload_n hx hb d_RangeTellerModel_store1_274 rfl (lv_at hl 0 rfl) ?_
    refine lv_aload_n hx hb d_RangeTellerModel_store1_275 rfl (lv_at hl 0 rfl) ?_
    refine va_get (D := D) (v := .int (σ 0 59)) (C := "RangeTellerModel") (T := rt_T6) (N := 69) hx hb hts rt_i6 hown hK hP 0 rfl rfl 59 (by decide) (hts _ (rt_m rt_w906)) (fun _ h9 => h9) rfl d_RangeTellerModel_store1_276 ?_
    refine lv_iconst (v := 2) hx hb d_RangeTellerModel_store1_279 (by decide) ?_
    refine lv_isub hx hb d_RangeTellerModel_store1_280 ?_
    obtain ⟨σ1, h2, hm⟩ := rt_b1s hm
    refine rt_pf (D := D) (C := "RangeTellerModel") (T := rt_T6) (N := 69) (ty := .int) hx hb hts rt_i6 rt_y6 rt_o6 rt_n6 hown hK hP hD hS 0 rfl rfl 59 (by decide) (hts _ (rt_m rt_w906)) (fun _ h9 => h9) rfl (by decide +kernel) rfl rfl (Nat.le_of_ble_eq_true rfl) (rtR_s0_59 cI cZ A _ _) h2 d_RangeTellerModel_store1_281 (fun H locs hP hS => ?_)
    refine lv_iload hx hb d_RangeTellerModel_store1_284 (lv_at hl 2 rfl) ?_
    refine lv_if_eq (tgt := 296) hx hb d_RangeTellerModel_store1_286 (by decide) (fun hc => ?_) (fun hc => ?_)
    · have hm := (if_pos hc).symm.trans hm
      exact W.vret hx hb hr (fun t ht hW => ⟨⟨_, rfl, Option.some.inj hm, rt_end rtR_Xo hK hP hS hX ht hW⟩, hS.F ht⟩) hS.2.2 d_RangeTellerModel_store1_296
    · have hm := (if_neg hc).symm.trans hm
      refine lv_aload_n hx hb d_RangeTellerModel_store1_289 rfl (lv_at hl 0 rfl) ?_
      refine lv_iload_n hx hb d_RangeTellerModel_store1_290 rfl (lv_at hl 1 rfl) ?_
      refine lv_iconst (v := 1) hx hb d_RangeTellerModel_store1_291 (by decide) ?_
      refine lv_iadd hx hb d_RangeTellerModel_store1_292 ?_
      obtain ⟨σ4, h3, hm⟩ := rt_b1s hm
      refine rt_cvv (As := [.int (l1 + 1)]) (rest := []) (k := 0) rtR_Xo ⟨hx, hb, hml, hown, hts⟩ (k_R_RangeTellerModel_pass l D cI cZ A hO σ1 (l1 + 1) _ h3) (cw_RangeTellerModel_pass hts (hts _ (rt_m rt_w1133)) ⟨Nat.le_of_ble_eq_true rfl, Nat.le_of_ble_eq_true rfl⟩) hK hP hS hX rfl rfl rfl hl.1 rfl (Nat.le_of_ble_eq_true rfl) d_RangeTellerModel_store1_293 ⟨Nat.zero_le _, Nat.zero_le _⟩ (fun H locs hP hS => ?_)
      exact W.vret hx hb hr (fun t ht hW => ⟨⟨_, rfl, Option.some.inj hm, rt_end rtR_Xo hK hP hS hX ht hW⟩, hS.F ht⟩) hS.2.2 d_RangeTellerModel_store1_296
  have hB262 : ∀ (ls : Array Slot) (l1 l5 l6 : Int32) (σ : rt_St) (H : Heap) (locs : List Loc), lv_has ls 9 [(0, .ref (A 0)), (1, .int l1), (5, .int l5), (6, .int l6)] → B_R_RangeTellerModel_store1_262 l1 l5 l6 σ = some σ' → va_P D rt_cl (rtR_W cI cZ A σ) H → va_S (rt_A (rtR_W cI cZ A) s.heap.size) s.heap H locs → W p l e ({ frames := 1, cells := 0, slots := 0, locals := 25 } : Room) s m ([.ref (A 0), .int a1] : List Value).toArray below meth c H locs 0 0 (rt_Qv D rt_cl (rt_t cI cZ) rtR_X (rtR_W cI cZ A) below ([.ref (A 0), .int a1] : List Value).toArray s σ') (F0 m 262 ls []) := by
    intro ls l1 l5 l6 σ H locs hl hm hP hS
    unfold B_R_RangeTellerModel_store1_262 at hm
    refine lv_iload hx hb d_RangeTellerModel_store1_262 (lv_at hl 3 rfl) ?_
    refine lv_if_eq (tgt := 274) hx hb d_RangeTellerModel_store1_264 (by decide) (fun hc => ?_) (fun hc => ?_)
    · have hm := (if_pos hc).symm.trans hm
      exact hB274 ls l1 l5 σ _ _ (lv_sub hl [0, 1, 2] rfl) hm hP hS
    · have hm := (if_neg hc).symm.trans hm
      refine lv_aload_n hx hb d_RangeTellerModel_store1_267 rfl (lv_at hl 0 rfl) ?_
      refine lv_bipush (v := 15) hx hb d_RangeTellerModel_store1_268 (by decide) ?_
      refine lv_iconst (v := (-1)) hx hb d_RangeTellerModel_store1_270 (by decide) ?_
      obtain ⟨σ6, h5, hm⟩ := rt_b1s hm
      refine rt_cvv (As := [.int 15, .int (-1)]) (rest := []) (k := 0) rtR_Xo ⟨hx, hb, hml, hown, hts⟩ (k_R_RangeTellerModel_wake l D cI cZ A hO σ 15 (-1) _ h5) (cw_RangeTellerModel_wake hts (hts _ (rt_m rt_w1157)) ⟨Nat.le_of_ble_eq_true rfl, Nat.le_of_ble_eq_true rfl⟩) hK hP hS hX rfl rfl rfl hl.1 rfl (Nat.le_of_ble_eq_true rfl) d_RangeTellerModel_store1_271 ⟨Nat.zero_le _, Nat.zero_le _⟩ (fun H locs hP hS => ?_)
      exact hB274 ls l1 l5 σ6 _ _ (lv_sub hl [0, 1, 2] rfl) hm hP hS
  have hB53 : ∀ (n53 : Nat) (ls : Array Slot) (l1 l2 l3 l4 l5 l6 l7 : Int32) (σ : rt_St) (H : Heap) (locs : List Loc), lv_has ls 9 [(0, .ref (A 0)), (1, .int l1), (2, .int l2), (3, .int l3), (4, .int l4), (5, .int l5), (6, .int l6), (7, .int l7)] → B_R_RangeTellerModel_store1_53 n53 l1 l2 l3 l4 l5 l6 l7 σ = some σ' → va_P D rt_cl (rtR_W cI cZ A σ) H → va_S (rt_A (rtR_W cI cZ A) s.heap.size) s.heap H locs → W p l e ({ frames := 1, cells := 0, slots := 0, locals := 25 } : Room) s m ([.ref (A 0), .int a1] : List Value).toArray below meth c H locs 0 0 (rt_Qv D rt_cl (rt_t cI cZ) rtR_X (rtR_W cI cZ A) below ([.ref (A 0), .int a1] : List Value).toArray s σ') (F0 m 53 ls []) := by
    intro n53
    induction n53 with
    | zero => intro ls l1 l2 l3 l4 l5 l6 l7 σ H locs hl hm hP hS; rw [B_R_RangeTellerModel_store1_53] at hm; cases hm
    | succ n53 ih53 =>
      have hB255 : ∀ (ls : Array Slot) (l1 l2 l3 l4 l5 l6 l7 t0 t1 : Int32) (σ : rt_St) (H : Heap) (locs : List Loc), lv_has ls 9 [(0, .ref (A 0)), (1, .int l1), (2, .int l2), (3, .int l3), (4, .int l4), (5, .int l5), (6, .int l6), (7, .int l7)] → B_R_RangeTellerModel_store1_255 (B_R_RangeTellerModel_store1_53 n53) l1 l2 l3 l4 l5 l6 l7 t0 t1 σ = some σ' → va_P D rt_cl (rtR_W cI cZ A σ) H → va_S (rt_A (rtR_W cI cZ A) s.heap.size) s.heap H locs → W p l e ({ frames := 1, cells := 0, slots := 0, locals := 25 } : Room) s m ([.ref (A 0), .int a1] : List Value).toArray below meth c H locs 0 0 (rt_Qv D rt_cl (rt_t cI cZ) rtR_X (rtR_W cI cZ A) below ([.ref (A 0), .int a1] : List Value).toArray s σ') (F0 m 255 ls [.int t0, .int t1, .ref (A 36)]) := by
        intro ls l1 l2 l3 l4 l5 l6 l7 t0 t1 σ H locs hl hm hP hS
        unfold B_R_RangeTellerModel_store1_255 at hm
        obtain ⟨σ7, h8, hm⟩ := rt_b1s hm
        refine rt_zst hx hb hK hP hD hS 36 1 rfl (rtR_a36 cI cZ A _) rfl rfl h8 d_RangeTellerModel_store1_255 (fun H locs hP hS => ?_)
        refine lv_iinc (k := 7) (v := (l7 + 1)) hx hb d_RangeTellerModel_store1_256 hl rfl rfl (by decide) rfl (fun ls hl => ?_)
        have hl : lv_has ls 9 [(7, .int (l7 + 1)), (0, .ref (A 0)), (1, .int l1), (2, .int l2), (3, .int l3), (4, .int l4), (5, .int l5), (6, .int l6)] := hl
        refine lv_goto (tgt := 53) hx hb d_RangeTellerModel_store1_259 (by decide) ?_
        exact ih53 ls l1 l2 l3 l4 l5 l6 (l7 + 1) σ7 _ _ (lv_sub hl [1, 2, 3, 4, 5, 6, 7, 0] rfl) hm hP hS
      have hB250 : ∀ (ls : Array Slot) (l1 l2 l3 l4 l5 l6 l7 t0 : Int32) (σ : rt_St) (H : Heap) (locs : List Loc), lv_has ls 9 [(0, .ref (A 0)), (1, .int l1), (2, .int l2), (3, .int l3), (4, .int l4), (5, .int l5), (6, .int l6), (7, .int l7)] → B_R_RangeTellerModel_store1_250 (B_R_RangeTellerModel_store1_53 n53) l1 l2 l3 l4 l5 l6 l7 t0 σ = some σ' → va_P D rt_cl (rtR_W cI cZ A σ) H → va_S (rt_A (rtR_W cI cZ A) s.heap.size) s.heap H locs → W p l e ({ frames := 1, cells := 0, slots := 0, locals := 25 } : Room) s m ([.ref (A 0), .int a1] : List Value).toArray below meth c H locs 0 0 (rt_Qv D rt_cl (rt_t cI cZ) rtR_X (rtR_W cI cZ A) below ([.ref (A 0), .int a1] : List Value).toArray s σ') (F0 m 250 ls [.int t0, .ref (A 36)]) := by
        intro ls l1 l2 l3 l4 l5 l6 l7 t0 σ H locs hl hm hP hS
        unfold B_R_RangeTellerModel_store1_250 at hm
        refine lv_iconst (v := 1) hx hb d_RangeTellerModel_store1_250 (by decide) ?_
        refine lv_goto (tgt := 255) hx hb d_RangeTellerModel_store1_251 (by decide) ?_
        exact hB255 ls l1 l2 l3 l4 l5 l6 l7 1 t0 σ _ _ (lv_sub hl [0, 1, 2, 3, 4, 5, 6, 7] rfl) hm hP hS
      have hB228 : ∀ (ls : Array Slot) (l1 l2 l3 l4 l5 l6 l7 l8 t0 t1 : Int32) (σ : rt_St) (H : Heap) (locs : List Loc), lv_has ls 9 [(0, .ref (A 0)), (1, .int l1), (2, .int l2), (3, .int l3), (4, .int l4), (5, .int l5), (6, .int l6), (7, .int l7), (8, .int l8)] → B_R_RangeTellerModel_store1_228 (B_R_RangeTellerModel_store1_53 n53) l1 l2 l3 l4 l5 l6 l7 l8 t0 t1 σ = some σ' → va_P D rt_cl (rtR_W cI cZ A σ) H → va_S (rt_A (rtR_W cI cZ A) s.heap.size) s.heap H locs → W p l e ({ frames := 1, cells := 0, slots := 0, locals := 25 } : Room) s m ([.ref (A 0), .int a1] : List Value).toArray below meth c H locs 0 0 (rt_Qv D rt_cl (rt_t cI cZ) rtR_X (rtR_W cI cZ A) below ([.ref (A 0), .int a1] : List Value).toArray s σ') (F0 m 228 ls [.int t0, .int t1, .ref (A 35)]) := by
        intro ls l1 l2 l3 l4 l5 l6 l7 l8 t0 t1 σ H locs hl hm hP hS
        unfold B_R_RangeTellerModel_store1_228 at hm
        obtain ⟨σ9, h10, hm⟩ := rt_b1s hm
        refine rt_ast hx hb hK hP hD hS 35 0 rfl (rtR_a35 cI cZ A _) rfl h10 d_RangeTellerModel_store1_228 (fun H locs hP hS => ?_)
        refine lv_aload_n hx hb d_RangeTellerModel_store1_229 rfl (lv_at hl 0 rfl) ?_
        refine va_get (D := D) (v := .ref (A 36)) (C := "RangeTellerModel") (T := rt_T6) (N := 69) hx hb hts rt_i6 hown hK hP 0 rfl rfl 53 (by decide) (hts _ (rt_m rt_w900)) (fun _ h9 => h9) rfl d_RangeTellerModel_store1_230 ?_
        refine lv_iload hx hb d_RangeTellerModel_store1_233 (lv_at hl 8 rfl) ?_
        refine lv_aload_n hx hb d_RangeTellerModel_store1_235 rfl (lv_at hl 0 rfl) ?_
        refine va_get (D := D) (v := .ref (A 36)) (C := "RangeTellerModel") (T := rt_T6) (N := 69) hx hb hts rt_i6 hown hK hP 0 rfl rfl 53 (by decide) (hts _ (rt_m rt_w900)) (fun _ h9 => h9) rfl d_RangeTellerModel_store1_236 ?_
        refine lv_iload hx hb d_RangeTellerModel_store1_239 (lv_at hl 8 rfl) ?_
        obtain ⟨v11, h12, hm⟩ := rt_b1s hm
        refine rt_zld hx hb hK hP 36 1 rfl rfl h12 d_RangeTellerModel_store1_241 ?_
        refine lv_if_ne (tgt := 250) hx hb d_RangeTellerModel_store1_242 (by decide) (fun hc => ?_) (fun hc => ?_)
        · have hm := (if_neg hc).symm.trans hm
          exact hB250 ls l1 l2 l3 l4 l5 l6 l7 l8 σ9 _ _ (lv_sub hl [0, 1, 2, 3, 4, 5, 6, 7] rfl) hm hP hS
        · have hm := (if_pos hc).symm.trans hm
          refine lv_iload hx hb d_RangeTellerModel_store1_245 (lv_at hl 4 rfl) ?_
          refine lv_if_eq (tgt := 254) hx hb d_RangeTellerModel_store1_247 (by decide) (fun hc => ?_) (fun hc => ?_)
          · have hm := (if_pos hc).symm.trans hm
            refine lv_iconst (v := 0) hx hb d_RangeTellerModel_store1_254 (by decide) ?_
            exact hB255 ls l1 l2 l3 l4 l5 l6 l7 0 l8 σ9 _ _ (lv_sub hl [0, 1, 2, 3, 4, 5, 6, 7] rfl) hm hP hS
          · have hm := (if_neg hc).symm.trans hm
            exact hB250 ls l1 l2 l3 l4 l5 l6 l7 l8 σ9 _ _ (lv_sub hl [0, 1, 2, 3, 4, 5, 6, 7] rfl) hm hP hS
      have hB189 : ∀ (ls : Array Slot) (l1 l2 l3 l4 l5 l6 l7 l8 t0 t1 : Int32) (σ : rt_St) (H : Heap) (locs : List Loc), lv_has ls 9 [(0, .ref (A 0)), (1, .int l1), (2, .int l2), (3, .int l3), (4, .int l4), (5, .int l5), (6, .int l6), (7, .int l7), (8, .int l8)] → B_R_RangeTellerModel_store1_189 (B_R_RangeTellerModel_store1_53 n53) l1 l2 l3 l4 l5 l6 l7 l8 t0 t1 σ = some σ' → va_P D rt_cl (rtR_W cI cZ A σ) H → va_S (rt_A (rtR_W cI cZ A) s.heap.size) s.heap H locs → W p l e ({ frames := 1, cells := 0, slots := 0, locals := 25 } : Room) s m ([.ref (A 0), .int a1] : List Value).toArray below meth c H locs 0 0 (rt_Qv D rt_cl (rt_t cI cZ) rtR_X (rtR_W cI cZ A) below ([.ref (A 0), .int a1] : List Value).toArray s σ') (F0 m 189 ls [.int t0, .int t1, .ref (A 34)]) := by
        intro ls l1 l2 l3 l4 l5 l6 l7 l8 t0 t1 σ H locs hl hm hP hS
        unfold B_R_RangeTellerModel_store1_189 at hm
        obtain ⟨σ13, h14, hm⟩ := rt_b1s hm
        refine rt_ast hx hb hK hP hD hS 34 0 rfl (rtR_a34 cI cZ A _) rfl h14 d_RangeTellerModel_store1_189 (fun H locs hP hS => ?_)
        refine lv_aload_n hx hb d_RangeTellerModel_store1_190 rfl (lv_at hl 0 rfl) ?_
        refine va_get (D := D) (v := .ref (A 35)) (C := "RangeTellerModel") (T := rt_T6) (N := 69) hx hb hts rt_i6 hown hK hP 0 rfl rfl 52 (by decide) (hts _ (rt_m rt_w899)) (fun _ h9 => h9) rfl d_RangeTellerModel_store1_191 ?_
        refine lv_iload hx hb d_RangeTellerModel_store1_194 (lv_at hl 8 rfl) ?_
        refine lv_aload_n hx hb d_RangeTellerModel_store1_196 rfl (lv_at hl 0 rfl) ?_
        refine va_get (D := D) (v := .ref (A 42)) (C := "RangeTellerModel") (T := rt_T6) (N := 69) hx hb hts rt_i6 hown hK hP 0 rfl rfl 61 (by decide) (hts _ (rt_m rt_w908)) (fun _ h9 => h9) rfl d_RangeTellerModel_store1_197 ?_
        refine lv_iload_n hx hb d_RangeTellerModel_store1_200 rfl (lv_at hl 2 rfl) ?_
        obtain ⟨v15, h16, hm⟩ := rt_b1s hm
        refine rt_ald hx hb hK hP 42 0 rfl rfl h16 d_RangeTellerModel_store1_201 ?_
        refine lv_aload_n hx hb d_RangeTellerModel_store1_202 rfl (lv_at hl 0 rfl) ?_
        refine va_get (D := D) (v := .ref (A 35)) (C := "RangeTellerModel") (T := rt_T6) (N := 69) hx hb hts rt_i6 hown hK hP 0 rfl rfl 52 (by decide) (hts _ (rt_m rt_w899)) (fun _ h9 => h9) rfl d_RangeTellerModel_store1_203 ?_
        refine lv_iload hx hb d_RangeTellerModel_store1_206 (lv_at hl 8 rfl) ?_
        obtain ⟨v17, h18, hm⟩ := rt_b1s hm
        refine rt_ald hx hb hK hP 35 0 rfl rfl h18 d_RangeTellerModel_store1_208 ?_
        refine lv_icmp_le (tgt := 221) hx hb d_RangeTellerModel_store1_209 (by decide) (fun hc => ?_) (fun hc => ?_)
        · have hm := (if_pos hc).symm.trans hm
          refine lv_aload_n hx hb d_RangeTellerModel_store1_221 rfl (lv_at hl 0 rfl) ?_
          refine va_get (D := D) (v := .ref (A 35)) (C := "RangeTellerModel") (T := rt_T6) (N := 69) hx hb hts rt_i6 hown hK hP 0 rfl rfl 52 (by decide) (hts _ (rt_m rt_w899)) (fun _ h9 => h9) rfl d_RangeTellerModel_store1_222 ?_
          refine lv_iload hx hb d_RangeTellerModel_store1_225 (lv_at hl 8 rfl) ?_
          obtain ⟨v19, h20, hm⟩ := rt_b1s hm
          refine rt_ald hx hb hK hP 35 0 rfl rfl h20 d_RangeTellerModel_store1_227 ?_
          exact hB228 ls l1 l2 l3 l4 l5 l6 l7 l8 v19 l8 σ13 _ _ (lv_sub hl [0, 1, 2, 3, 4, 5, 6, 7, 8] rfl) hm hP hS
        · have hm := (if_neg hc).symm.trans hm
          refine lv_aload_n hx hb d_RangeTellerModel_store1_212 rfl (lv_at hl 0 rfl) ?_
          refine va_get (D := D) (v := .ref (A 42)) (C := "RangeTellerModel") (T := rt_T6) (N := 69) hx hb hts rt_i6 hown hK hP 0 rfl rfl 61 (by decide) (hts _ (rt_m rt_w908)) (fun _ h9 => h9) rfl d_RangeTellerModel_store1_213 ?_
          refine lv_iload_n hx hb d_RangeTellerModel_store1_216 rfl (lv_at hl 2 rfl) ?_
          obtain ⟨v21, h22, hm⟩ := rt_b1s hm
          refine rt_ald hx hb hK hP 42 0 rfl rfl h22 d_RangeTellerModel_store1_217 ?_
          refine lv_goto (tgt := 228) hx hb d_RangeTellerModel_store1_218 (by decide) ?_
          exact hB228 ls l1 l2 l3 l4 l5 l6 l7 l8 v21 l8 σ13 _ _ (lv_sub hl [0, 1, 2, 3, 4, 5, 6, 7, 8] rfl) hm hP hS
      have hB149 : ∀ (ls : Array Slot) (l1 l2 l3 l4 l5 l7 l8 t0 : Int32) (σ : rt_St) (H : Heap) (locs : List Loc), lv_has ls 9 [(0, .ref (A 0)), (1, .int l1), (2, .int l2), (3, .int l3), (4, .int l4), (5, .int l5), (7, .int l7), (8, .int l8)] → B_R_RangeTellerModel_store1_149 (B_R_RangeTellerModel_store1_53 n53) l1 l2 l3 l4 l5 l7 l8 t0 σ = some σ' → va_P D rt_cl (rtR_W cI cZ A σ) H → va_S (rt_A (rtR_W cI cZ A) s.heap.size) s.heap H locs → W p l e ({ frames := 1, cells := 0, slots := 0, locals := 25 } : Room) s m ([.ref (A 0), .int a1] : List Value).toArray below meth c H locs 0 0 (rt_Qv D rt_cl (rt_t cI cZ) rtR_X (rtR_W cI cZ A) below ([.ref (A 0), .int a1] : List Value).toArray s σ') (F0 m 149 ls [.int t0]) := by
        intro ls l1 l2 l3 l4 l5 l7 l8 t0 σ H locs hl hm hP hS
        unfold B_R_RangeTellerModel_store1_149 at hm
        refine lv_istore hx hb d_RangeTellerModel_store1_149 hl (by decide) rfl (fun ls hl => ?_)
        have hl : lv_has ls 9 [(6, .int t0), (0, .ref (A 0)), (1, .int l1), (2, .int l2), (3, .int l3), (4, .int l4), (5, .int l5), (7, .int l7), (8, .int l8)] := hl
        refine lv_aload_n hx hb d_RangeTellerModel_store1_151 rfl (lv_at hl 1 rfl) ?_
        refine va_get (D := D) (v := .ref (A 34)) (C := "RangeTellerModel") (T := rt_T6) (N := 69) hx hb hts rt_i6 hown hK hP 0 rfl rfl 51 (by decide) (hts _ (rt_m rt_w898)) (fun _ h9 => h9) rfl d_RangeTellerModel_store1_152 ?_
        refine lv_iload hx hb d_RangeTellerModel_store1_155 (lv_at hl 8 rfl) ?_
        refine lv_aload_n hx hb d_RangeTellerModel_store1_157 rfl (lv_at hl 1 rfl) ?_
        refine va_get (D := D) (v := .ref (A 41)) (C := "RangeTellerModel") (T := rt_T6) (N := 69) hx hb hts rt_i6 hown hK hP 0 rfl rfl 60 (by decide) (hts _ (rt_m rt_w907)) (fun _ h9 => h9) rfl d_RangeTellerModel_store1_158 ?_
        refine lv_iload_n hx hb d_RangeTellerModel_store1_161 rfl (lv_at hl 3 rfl) ?_
        obtain ⟨v23, h24, hm⟩ := rt_b1s hm
        refine rt_ald hx hb hK hP 41 0 rfl rfl h24 d_RangeTellerModel_store1_162 ?_
        refine lv_aload_n hx hb d_RangeTellerModel_store1_163 rfl (lv_at hl 1 rfl) ?_
        refine va_get (D := D) (v := .ref (A 34)) (C := "RangeTellerModel") (T := rt_T6) (N := 69) hx hb hts rt_i6 hown hK hP 0 rfl rfl 51 (by decide) (hts _ (rt_m rt_w898)) (fun _ h9 => h9) rfl d_RangeTellerModel_store1_164 ?_
        refine lv_iload hx hb d_RangeTellerModel_store1_167 (lv_at hl 8 rfl) ?_
        obtain ⟨v25, h26, hm⟩ := rt_b1s hm
        refine rt_ald hx hb hK hP 34 0 rfl rfl h26 d_RangeTellerModel_store1_169 ?_
        refine lv_icmp_ge (tgt := 182) hx hb d_RangeTellerModel_store1_170 (by decide) (fun hc => ?_) (fun hc => ?_)
        · have hm := (if_pos hc).symm.trans hm
          refine lv_aload_n hx hb d_RangeTellerModel_store1_182 rfl (lv_at hl 1 rfl) ?_
          refine va_get (D := D) (v := .ref (A 34)) (C := "RangeTellerModel") (T := rt_T6) (N := 69) hx hb hts rt_i6 hown hK hP 0 rfl rfl 51 (by decide) (hts _ (rt_m rt_w898)) (fun _ h9 => h9) rfl d_RangeTellerModel_store1_183 ?_
          refine lv_iload hx hb d_RangeTellerModel_store1_186 (lv_at hl 8 rfl) ?_
          obtain ⟨v27, h28, hm⟩ := rt_b1s hm
          refine rt_ald hx hb hK hP 34 0 rfl rfl h28 d_RangeTellerModel_store1_188 ?_
          exact hB189 ls l1 l2 l3 l4 l5 t0 l7 l8 v27 l8 σ _ _ (lv_sub hl [1, 2, 3, 4, 5, 6, 0, 7, 8] rfl) hm hP hS
        · have hm := (if_neg hc).symm.trans hm
          refine lv_aload_n hx hb d_RangeTellerModel_store1_173 rfl (lv_at hl 1 rfl) ?_
          refine va_get (D := D) (v := .ref (A 41)) (C := "RangeTellerModel") (T := rt_T6) (N := 69) hx hb hts rt_i6 hown hK hP 0 rfl rfl 60 (by decide) (hts _ (rt_m rt_w907)) (fun _ h9 => h9) rfl d_RangeTellerModel_store1_174 ?_
          refine lv_iload_n hx hb d_RangeTellerModel_store1_177 rfl (lv_at hl 3 rfl) ?_
          obtain ⟨v29, h30, hm⟩ := rt_b1s hm
          refine rt_ald hx hb hK hP 41 0 rfl rfl h30 d_RangeTellerModel_store1_178 ?_
          refine lv_goto (tgt := 189) hx hb d_RangeTellerModel_store1_179 (by decide) ?_
          exact hB189 ls l1 l2 l3 l4 l5 t0 l7 l8 v29 l8 σ _ _ (lv_sub hl [1, 2, 3, 4, 5, 6, 0, 7, 8] rfl) hm hP hS
      have hB144 : ∀ (ls : Array Slot) (l1 l2 l3 l4 l5 l7 l8 : Int32) (σ : rt_St) (H : Heap) (locs : List Loc), lv_has ls 9 [(0, .ref (A 0)), (1, .int l1), (2, .int l2), (3, .int l3), (4, .int l4), (5, .int l5), (7, .int l7), (8, .int l8)] → B_R_RangeTellerModel_store1_144 (B_R_RangeTellerModel_store1_53 n53) l1 l2 l3 l4 l5 l7 l8 σ = some σ' → va_P D rt_cl (rtR_W cI cZ A σ) H → va_S (rt_A (rtR_W cI cZ A) s.heap.size) s.heap H locs → W p l e ({ frames := 1, cells := 0, slots := 0, locals := 25 } : Room) s m ([.ref (A 0), .int a1] : List Value).toArray below meth c H locs 0 0 (rt_Qv D rt_cl (rt_t cI cZ) rtR_X (rtR_W cI cZ A) below ([.ref (A 0), .int a1] : List Value).toArray s σ') (F0 m 144 ls []) := by
        intro ls l1 l2 l3 l4 l5 l7 l8 σ H locs hl hm hP hS
        unfold B_R_RangeTellerModel_store1_144 at hm
        refine lv_iconst (v := 1) hx hb d_RangeTellerModel_store1_144 (by decide) ?_
        refine lv_goto (tgt := 149) hx hb d_RangeTellerModel_store1_145 (by decide) ?_
        exact hB149 ls l1 l2 l3 l4 l5 l7 l8 1 σ _ _ (lv_sub hl [0, 1, 2, 3, 4, 5, 6, 7] rfl) hm hP hS
      have hB148 : ∀ (ls : Array Slot) (l1 l2 l3 l4 l5 l7 l8 : Int32) (σ : rt_St) (H : Heap) (locs : List Loc), lv_has ls 9 [(0, .ref (A 0)), (1, .int l1), (2, .int l2), (3, .int l3), (4, .int l4), (5, .int l5), (7, .int l7), (8, .int l8)] → B_R_RangeTellerModel_store1_148 (B_R_RangeTellerModel_store1_53 n53) l1 l2 l3 l4 l5 l7 l8 σ = some σ' → va_P D rt_cl (rtR_W cI cZ A σ) H → va_S (rt_A (rtR_W cI cZ A) s.heap.size) s.heap H locs → W p l e ({ frames := 1, cells := 0, slots := 0, locals := 25 } : Room) s m ([.ref (A 0), .int a1] : List Value).toArray below meth c H locs 0 0 (rt_Qv D rt_cl (rt_t cI cZ) rtR_X (rtR_W cI cZ A) below ([.ref (A 0), .int a1] : List Value).toArray s σ') (F0 m 148 ls []) := by
        intro ls l1 l2 l3 l4 l5 l7 l8 σ H locs hl hm hP hS
        unfold B_R_RangeTellerModel_store1_148 at hm
        refine lv_iconst (v := 0) hx hb d_RangeTellerModel_store1_148 (by decide) ?_
        exact hB149 ls l1 l2 l3 l4 l5 l7 l8 0 σ _ _ (lv_sub hl [0, 1, 2, 3, 4, 5, 6, 7] rfl) hm hP hS
      intro ls l1 l2 l3 l4 l5 l6 l7 σ H locs hl hm hP hS
      rw [B_R_RangeTellerModel_store1_53] at hm
      refine lv_iload hx hb d_RangeTellerModel_store1_53 (lv_at hl 7 rfl) ?_
      refine lv_aload_n hx hb d_RangeTellerModel_store1_55 rfl (lv_at hl 0 rfl) ?_
      refine va_get (D := D) (v := .ref (A 42)) (C := "RangeTellerModel") (T := rt_T6) (N := 69) hx hb hts rt_i6 hown hK hP 0 rfl rfl 61 (by decide) (hts _ (rt_m rt_w908)) (fun _ h9 => h9) rfl d_RangeTellerModel_store1_56 ?_
      refine lv_iload_n hx hb d_RangeTellerModel_store1_59 rfl (lv_at hl 3 rfl) ?_
      obtain ⟨v31, h32, hm⟩ := rt_b1s hm
      refine rt_ald hx hb hK hP 42 0 rfl rfl h32 d_RangeTellerModel_store1_60 ?_
      refine lv_icmp_gt (tgt := 262) hx hb d_RangeTellerModel_store1_61 (by decide) (fun hc => ?_) (fun hc => ?_)
      · have hm := (if_pos hc).symm.trans hm
        exact hB262 ls l1 l5 l6 σ _ _ (lv_sub hl [0, 1, 5, 6] rfl) hm hP hS
      · have hm := (if_neg hc).symm.trans hm
        refine lv_iload hx hb d_RangeTellerModel_store1_64 (lv_at hl 7 rfl) ?_
        refine lv_aload_n hx hb d_RangeTellerModel_store1_66 rfl (lv_at hl 0 rfl) ?_
        refine va_get (D := D) (v := .ref (A 3)) (C := "RangeTellerModel") (T := rt_T6) (N := 69) hx hb hts rt_i6 hown hK hP 0 rfl rfl 8 (by decide) (hts _ (rt_m rt_w855)) (fun _ h9 => h9) rfl d_RangeTellerModel_store1_67 ?_
        refine lv_iload_n hx hb d_RangeTellerModel_store1_70 rfl (lv_at hl 1 rfl) ?_
        obtain ⟨v33, h34, hm⟩ := rt_b1s hm
        refine rt_ald hx hb hK hP 3 0 rfl rfl h34 d_RangeTellerModel_store1_71 ?_
        refine lv_iadd hx hb d_RangeTellerModel_store1_72 ?_
        refine lv_bipush (v := 16) hx hb d_RangeTellerModel_store1_73 (by decide) ?_
        refine lv_icmp_ge (tgt := 262) hx hb d_RangeTellerModel_store1_75 (by decide) (fun hc => ?_) (fun hc => ?_)
        · have hm := (if_pos hc).symm.trans hm
          exact hB262 ls l1 l5 l6 σ _ _ (lv_sub hl [0, 1, 5, 6] rfl) hm hP hS
        · have hm := (if_neg hc).symm.trans hm
          refine lv_iload hx hb d_RangeTellerModel_store1_78 (lv_at hl 7 rfl) ?_
          refine lv_aload_n hx hb d_RangeTellerModel_store1_80 rfl (lv_at hl 0 rfl) ?_
          refine va_get (D := D) (v := .ref (A 3)) (C := "RangeTellerModel") (T := rt_T6) (N := 69) hx hb hts rt_i6 hown hK hP 0 rfl rfl 8 (by decide) (hts _ (rt_m rt_w855)) (fun _ h9 => h9) rfl d_RangeTellerModel_store1_81 ?_
          refine lv_iload_n hx hb d_RangeTellerModel_store1_84 rfl (lv_at hl 1 rfl) ?_
          obtain ⟨v35, h36, hm⟩ := rt_b1s hm
          refine rt_ald hx hb hK hP 3 0 rfl rfl h36 d_RangeTellerModel_store1_85 ?_
          refine lv_iadd hx hb d_RangeTellerModel_store1_86 ?_
          refine lv_istore hx hb d_RangeTellerModel_store1_87 hl (by decide) rfl (fun ls hl => ?_)
          have hl : lv_has ls 9 [(8, .int (l7 + v35)), (0, .ref (A 0)), (1, .int l1), (2, .int l2), (3, .int l3), (4, .int l4), (5, .int l5), (6, .int l6), (7, .int l7)] := hl
          refine lv_iconst (v := 1) hx hb d_RangeTellerModel_store1_89 (by decide) ?_
          refine lv_istore hx hb d_RangeTellerModel_store1_90 hl (by decide) rfl (fun ls hl => ?_)
          have hl : lv_has ls 9 [(5, .int 1), (8, .int (l7 + v35)), (0, .ref (A 0)), (1, .int l1), (2, .int l2), (3, .int l3), (4, .int l4), (6, .int l6), (7, .int l7)] := hl
          refine lv_iload hx hb d_RangeTellerModel_store1_92 (lv_at hl 7 rfl) ?_
          refine lv_if_ne (tgt := 144) hx hb d_RangeTellerModel_store1_94 (by decide) (fun hc => ?_) (fun hc => ?_)
          · have hm := (if_neg hc).symm.trans hm
            exact hB144 ls l1 l2 l3 l4 1 l7 (l7 + v35) σ _ _ (lv_sub hl [2, 3, 4, 5, 6, 0, 8, 1] rfl) hm hP hS
          · have hm := (if_pos hc).symm.trans hm
            refine lv_aload_n hx hb d_RangeTellerModel_store1_97 rfl (lv_at hl 2 rfl) ?_
            refine va_get (D := D) (v := .ref (A 41)) (C := "RangeTellerModel") (T := rt_T6) (N := 69) hx hb hts rt_i6 hown hK hP 0 rfl rfl 60 (by decide) (hts _ (rt_m rt_w907)) (fun _ h9 => h9) rfl d_RangeTellerModel_store1_98 ?_
            refine lv_iload_n hx hb d_RangeTellerModel_store1_101 rfl (lv_at hl 4 rfl) ?_
            obtain ⟨v37, h38, hm⟩ := rt_b1s hm
            refine rt_ald hx hb hK hP 41 0 rfl rfl h38 d_RangeTellerModel_store1_102 ?_
            refine lv_aload_n hx hb d_RangeTellerModel_store1_103 rfl (lv_at hl 2 rfl) ?_
            refine va_get (D := D) (v := .ref (A 34)) (C := "RangeTellerModel") (T := rt_T6) (N := 69) hx hb hts rt_i6 hown hK hP 0 rfl rfl 51 (by decide) (hts _ (rt_m rt_w898)) (fun _ h9 => h9) rfl d_RangeTellerModel_store1_104 ?_
            refine lv_iload hx hb d_RangeTellerModel_store1_107 (lv_at hl 1 rfl) ?_
            obtain ⟨v39, h40, hm⟩ := rt_b1s hm
            refine rt_ald hx hb hK hP 34 0 rfl rfl h40 d_RangeTellerModel_store1_109 ?_
            refine lv_icmp_lt (tgt := 144) hx hb d_RangeTellerModel_store1_110 (by decide) (fun hc => ?_) (fun hc => ?_)
            · have hm := (if_pos hc).symm.trans hm
              exact hB144 ls l1 l2 l3 l4 1 l7 (l7 + v35) σ _ _ (lv_sub hl [2, 3, 4, 5, 6, 0, 8, 1] rfl) hm hP hS
            · have hm := (if_neg hc).symm.trans hm
              refine lv_aload_n hx hb d_RangeTellerModel_store1_113 rfl (lv_at hl 2 rfl) ?_
              refine va_get (D := D) (v := .ref (A 42)) (C := "RangeTellerModel") (T := rt_T6) (N := 69) hx hb hts rt_i6 hown hK hP 0 rfl rfl 61 (by decide) (hts _ (rt_m rt_w908)) (fun _ h9 => h9) rfl d_RangeTellerModel_store1_114 ?_
              refine lv_iload_n hx hb d_RangeTellerModel_store1_117 rfl (lv_at hl 4 rfl) ?_
              obtain ⟨v41, h42, hm⟩ := rt_b1s hm
              refine rt_ald hx hb hK hP 42 0 rfl rfl h42 d_RangeTellerModel_store1_118 ?_
              refine lv_aload_n hx hb d_RangeTellerModel_store1_119 rfl (lv_at hl 2 rfl) ?_
              refine va_get (D := D) (v := .ref (A 35)) (C := "RangeTellerModel") (T := rt_T6) (N := 69) hx hb hts rt_i6 hown hK hP 0 rfl rfl 52 (by decide) (hts _ (rt_m rt_w899)) (fun _ h9 => h9) rfl d_RangeTellerModel_store1_120 ?_
              refine lv_iload hx hb d_RangeTellerModel_store1_123 (lv_at hl 1 rfl) ?_
              obtain ⟨v43, h44, hm⟩ := rt_b1s hm
              refine rt_ald hx hb hK hP 35 0 rfl rfl h44 d_RangeTellerModel_store1_125 ?_
              refine lv_icmp_gt (tgt := 144) hx hb d_RangeTellerModel_store1_126 (by decide) (fun hc => ?_) (fun hc => ?_)
              · have hm := (if_pos hc).symm.trans hm
                exact hB144 ls l1 l2 l3 l4 1 l7 (l7 + v35) σ _ _ (lv_sub hl [2, 3, 4, 5, 6, 0, 8, 1] rfl) hm hP hS
              · have hm := (if_neg hc).symm.trans hm
                refine lv_iload hx hb d_RangeTellerModel_store1_129 (lv_at hl 6 rfl) ?_
                refine lv_if_eq (tgt := 148) hx hb d_RangeTellerModel_store1_131 (by decide) (fun hc => ?_) (fun hc => ?_)
                · have hm := (if_pos hc).symm.trans hm
                  exact hB148 ls l1 l2 l3 l4 1 l7 (l7 + v35) σ _ _ (lv_sub hl [2, 3, 4, 5, 6, 0, 8, 1] rfl) hm hP hS
                · have hm := (if_neg hc).symm.trans hm
                  refine lv_aload_n hx hb d_RangeTellerModel_store1_134 rfl (lv_at hl 2 rfl) ?_
                  refine va_get (D := D) (v := .ref (A 36)) (C := "RangeTellerModel") (T := rt_T6) (N := 69) hx hb hts rt_i6 hown hK hP 0 rfl rfl 53 (by decide) (hts _ (rt_m rt_w900)) (fun _ h9 => h9) rfl d_RangeTellerModel_store1_135 ?_
                  refine lv_iload hx hb d_RangeTellerModel_store1_138 (lv_at hl 1 rfl) ?_
                  obtain ⟨v45, h46, hm⟩ := rt_b1s hm
                  refine rt_zld hx hb hK hP 36 1 rfl rfl h46 d_RangeTellerModel_store1_140 ?_
                  refine lv_if_ne (tgt := 148) hx hb d_RangeTellerModel_store1_141 (by decide) (fun hc => ?_) (fun hc => ?_)
                  · have hm := (if_neg hc).symm.trans hm
                    exact hB148 ls l1 l2 l3 l4 1 l7 (l7 + v35) σ _ _ (lv_sub hl [2, 3, 4, 5, 6, 0, 8, 1] rfl) hm hP hS
                  · have hm := (if_pos hc).symm.trans hm
                    exact hB144 ls l1 l2 l3 l4 1 l7 (l7 + v35) σ _ _ (lv_sub hl [2, 3, 4, 5, 6, 0, 8, 1] rfl) hm hP hS
  have hB37 : ∀ (ls : Array Slot) (l1 l2 l3 t0 : Int32) (σ : rt_St) (H : Heap) (locs : List Loc), lv_has ls 9 [(0, .ref (A 0)), (1, .int l1), (2, .int l2), (3, .int l3)] → B_R_RangeTellerModel_store1_37 l1 l2 l3 t0 σ = some σ' → va_P D rt_cl (rtR_W cI cZ A σ) H → va_S (rt_A (rtR_W cI cZ A) s.heap.size) s.heap H locs → W p l e ({ frames := 1, cells := 0, slots := 0, locals := 25 } : Room) s m ([.ref (A 0), .int a1] : List Value).toArray below meth c H locs 0 0 (rt_Qv D rt_cl (rt_t cI cZ) rtR_X (rtR_W cI cZ A) below ([.ref (A 0), .int a1] : List Value).toArray s σ') (F0 m 37 ls [.int t0]) := by
    intro ls l1 l2 l3 t0 σ H locs hl hm hP hS
    unfold B_R_RangeTellerModel_store1_37 at hm
    refine lv_istore hx hb d_RangeTellerModel_store1_37 hl (by decide) rfl (fun ls hl => ?_)
    have hl : lv_has ls 9 [(4, .int t0), (0, .ref (A 0)), (1, .int l1), (2, .int l2), (3, .int l3)] := hl
    refine lv_iconst (v := 0) hx hb d_RangeTellerModel_store1_39 (by decide) ?_
    refine lv_istore hx hb d_RangeTellerModel_store1_40 hl (by decide) rfl (fun ls hl => ?_)
    have hl : lv_has ls 9 [(5, .int 0), (4, .int t0), (0, .ref (A 0)), (1, .int l1), (2, .int l2), (3, .int l3)] := hl
    refine lv_iconst (v := 0) hx hb d_RangeTellerModel_store1_42 (by decide) ?_
    refine lv_istore hx hb d_RangeTellerModel_store1_43 hl (by decide) rfl (fun ls hl => ?_)
    have hl : lv_has ls 9 [(6, .int 0), (5, .int 0), (4, .int t0), (0, .ref (A 0)), (1, .int l1), (2, .int l2), (3, .int l3)] := hl
    refine lv_aload_n hx hb d_RangeTellerModel_store1_45 rfl (lv_at hl 3 rfl) ?_
    refine va_get (D := D) (v := .ref (A 41)) (C := "RangeTellerModel") (T := rt_T6) (N := 69) hx hb hts rt_i6 hown hK hP 0 rfl rfl 60 (by decide) (hts _ (rt_m rt_w907)) (fun _ h9 => h9) rfl d_RangeTellerModel_store1_46 ?_
    refine lv_iload_n hx hb d_RangeTellerModel_store1_49 rfl (lv_at hl 6 rfl) ?_
    obtain ⟨v47, h48, hm⟩ := rt_b1s hm
    refine rt_ald hx hb hK hP 41 0 rfl rfl h48 d_RangeTellerModel_store1_50 ?_
    refine lv_istore hx hb d_RangeTellerModel_store1_51 hl (by decide) rfl (fun ls hl => ?_)
    have hl : lv_has ls 9 [(7, .int v47), (6, .int 0), (5, .int 0), (4, .int t0), (0, .ref (A 0)), (1, .int l1), (2, .int l2), (3, .int l3)] := hl
    exact hB53 _ ls l1 l2 l3 t0 0 0 v47 σ _ _ (lv_sub hl [4, 5, 6, 7, 3, 2, 1, 0] rfl) hm hP hS
  have hB32 : ∀ (ls : Array Slot) (l1 l2 l3 : Int32) (σ : rt_St) (H : Heap) (locs : List Loc), lv_has ls 9 [(0, .ref (A 0)), (1, .int l1), (2, .int l2), (3, .int l3)] → B_R_RangeTellerModel_store1_32 l1 l2 l3 σ = some σ' → va_P D rt_cl (rtR_W cI cZ A σ) H → va_S (rt_A (rtR_W cI cZ A) s.heap.size) s.heap H locs → W p l e ({ frames := 1, cells := 0, slots := 0, locals := 25 } : Room) s m ([.ref (A 0), .int a1] : List Value).toArray below meth c H locs 0 0 (rt_Qv D rt_cl (rt_t cI cZ) rtR_X (rtR_W cI cZ A) below ([.ref (A 0), .int a1] : List Value).toArray s σ') (F0 m 32 ls []) := by
    intro ls l1 l2 l3 σ H locs hl hm hP hS
    unfold B_R_RangeTellerModel_store1_32 at hm
    refine lv_iconst (v := 1) hx hb d_RangeTellerModel_store1_32 (by decide) ?_
    refine lv_goto (tgt := 37) hx hb d_RangeTellerModel_store1_33 (by decide) ?_
    exact hB37 ls l1 l2 l3 1 σ _ _ (lv_sub hl [0, 1, 2, 3] rfl) hm hP hS
  unfold M_R_RangeTellerModel_store1 at hm
  refine lv_aload_n hx hb d_RangeTellerModel_store1_0 rfl (lv_at hl 0 rfl) ?_
  refine va_get (D := D) (v := .int (σ 0 59)) (C := "RangeTellerModel") (T := rt_T6) (N := 69) hx hb hts rt_i6 hown hK hP 0 rfl rfl 59 (by decide) (hts _ (rt_m rt_w906)) (fun _ h9 => h9) rfl d_RangeTellerModel_store1_1 ?_
  refine lv_iconst (v := 1) hx hb d_RangeTellerModel_store1_4 (by decide) ?_
  refine lv_isub hx hb d_RangeTellerModel_store1_5 ?_
  refine lv_istore_n hx hb d_RangeTellerModel_store1_6 rfl hl (by decide) rfl (fun ls hl => ?_)
  have hl : lv_has ls 9 [(2, .int ((σ 0 59) - 1)), (0, .ref (A 0)), (1, .int a1)] := hl
  refine lv_aload_n hx hb d_RangeTellerModel_store1_7 rfl (lv_at hl 1 rfl) ?_
  refine va_get (D := D) (v := .int (σ 0 59)) (C := "RangeTellerModel") (T := rt_T6) (N := 69) hx hb hts rt_i6 hown hK hP 0 rfl rfl 59 (by decide) (hts _ (rt_m rt_w906)) (fun _ h9 => h9) rfl d_RangeTellerModel_store1_8 ?_
  refine lv_iconst (v := 2) hx hb d_RangeTellerModel_store1_11 (by decide) ?_
  refine lv_isub hx hb d_RangeTellerModel_store1_12 ?_
  refine lv_istore_n hx hb d_RangeTellerModel_store1_13 rfl hl (by decide) rfl (fun ls hl => ?_)
  have hl : lv_has ls 9 [(3, .int ((σ 0 59) - 2)), (2, .int ((σ 0 59) - 1)), (0, .ref (A 0)), (1, .int a1)] := hl
  refine lv_aload_n hx hb d_RangeTellerModel_store1_14 rfl (lv_at hl 2 rfl) ?_
  refine va_get (D := D) (v := .ref (A 43)) (C := "RangeTellerModel") (T := rt_T6) (N := 69) hx hb hts rt_i6 hown hK hP 0 rfl rfl 62 (by decide) (hts _ (rt_m rt_w909)) (fun _ h9 => h9) rfl d_RangeTellerModel_store1_15 ?_
  refine lv_iload_n hx hb d_RangeTellerModel_store1_18 rfl (lv_at hl 1 rfl) ?_
  obtain ⟨v49, h50, hm⟩ := rt_b1s hm
  refine rt_zld hx hb hK hP 43 1 rfl rfl h50 d_RangeTellerModel_store1_19 ?_
  refine lv_if_ne (tgt := 32) hx hb d_RangeTellerModel_store1_20 (by decide) (fun hc => ?_) (fun hc => ?_)
  · have hm := (if_neg hc).symm.trans hm
    exact hB32 ls a1 ((σ 0 59) - 1) ((σ 0 59) - 2) σ _ _ (lv_sub hl [2, 3, 1, 0] rfl) hm hP hS
  · have hm := (if_pos hc).symm.trans hm
    refine lv_aload_n hx hb d_RangeTellerModel_store1_23 rfl (lv_at hl 2 rfl) ?_
    refine va_get (D := D) (v := .ref (A 43)) (C := "RangeTellerModel") (T := rt_T6) (N := 69) hx hb hts rt_i6 hown hK hP 0 rfl rfl 62 (by decide) (hts _ (rt_m rt_w909)) (fun _ h9 => h9) rfl d_RangeTellerModel_store1_24 ?_
    refine lv_iload_n hx hb d_RangeTellerModel_store1_27 rfl (lv_at hl 0 rfl) ?_
    obtain ⟨v51, h52, hm⟩ := rt_b1s hm
    refine rt_zld hx hb hK hP 43 1 rfl rfl h52 d_RangeTellerModel_store1_28 ?_
    refine lv_if_eq (tgt := 36) hx hb d_RangeTellerModel_store1_29 (by decide) (fun hc => ?_) (fun hc => ?_)
    · have hm := (if_pos hc).symm.trans hm
      refine lv_iconst (v := 0) hx hb d_RangeTellerModel_store1_36 (by decide) ?_
      exact hB37 ls a1 ((σ 0 59) - 1) ((σ 0 59) - 2) 0 σ _ _ (lv_sub hl [2, 3, 1, 0] rfl) hm hP hS
    · have hm := (if_neg hc).symm.trans hm
      exact hB32 ls a1 ((σ 0 59) - 1) ((σ 0 59) - 2) σ _ _ (lv_sub hl [2, 3, 1, 0] rfl) hm hP hS
set_option maxHeartbeats 4000000 in
set_option maxRecDepth 100000 in
theorem k_R_RangeTellerModel_load1 (l : Launch) (D : va_G) (cI cZ : ClassId) (A : Nat → Nat) (hO : rt_Ok (rtR_W cI cZ A)) (σ : rt_St) (a1 : Int32) (σ' : rt_St) (hm : M_R_RangeTellerModel_load1 σ a1 = some σ') (sz : Nat) : Met l y_RangeTellerModel_load1 (rt_ws y_RangeTellerModel_load1 b_RangeTellerModel_load1 5 none) ({ frames := 1, cells := 0, slots := 0, locals := 25 } : Room) (va_Pc [.ref (A 0), .int a1] (rt_P D rt_cl (rt_t cI cZ) rtR_X (rtR_W cI cZ A) sz σ)) (va_Qv (fun u1 => u1 = σ') (rt_B D rt_cl (rt_t cI cZ) rtR_X (rtR_W cI cZ A)) (rt_A (rtR_W cI cZ A) sz)) 0 0 (rt_A (rtR_W cI cZ A) sz) := by
  refine Met.ofW (cc := b_RangeTellerModel_load1) (maxL := 5) (ret := none) (by decide) rfl ?_
  intro p e s m args below meth c s₁ B hml hv
  obtain ⟨rfl, rfl, hP, hK, hX⟩ := hv
  have hx := B.exec
  have hb := B.bytes
  have hr := B.returns
  have hts := atoms_spec (ws := (rt_ws y_RangeTellerModel_load1 b_RangeTellerModel_load1 5 none)) B.pre
  have hown : s.vm.findClass "RangeTellerModel" = some m.cls := findClass_of_methodNamed B.named
  have hlocks := B.notSynchronized
  have hD := rt_hD hO s.heap.size
  have hS : va_S (rt_A (rtR_W cI cZ A) s.heap.size) s.heap s.heap [] := va_S.rf
  have hl := lv_entry ([.ref (A 0), .int a1]) (n := 5) (Nat.le_of_ble_eq_true rfl)
  rw [lg_entry_eq]
  generalize (lg_sl ([.ref (A 0), .int a1]) ++ List.replicate (5 - (lg_sl ([.ref (A 0), .int a1])).length) Slot.unset).toArray = ls at hl ⊢
  have hl : lv_has ls 5 [(0, .ref (A 0)), (1, .int a1)] := hl
  show W p l e ({ frames := 1, cells := 0, slots := 0, locals := 25 } : Room) s m ([.ref (A 0), .int a1] : List Value).toArray below meth c s.heap [] 0 0 (rt_Qv D rt_cl (rt_t cI cZ) rtR_X (rtR_W cI cZ A) below ([.ref (A 0), .int a1] : List Value).toArray s σ') (F0 m 0 ls [])
  have hB107 : ∀ (ls : Array Slot) (l1 l2 : Int32) (σ : rt_St) (H : Heap) (locs : List Loc), lv_has ls 5 [(0, .ref (A 0)), (1, .int l1), (2, .int l2)] → B_R_RangeTellerModel_load1_107 l1 l2 σ = some σ' → va_P D rt_cl (rtR_W cI cZ A σ) H → va_S (rt_A (rtR_W cI cZ A) s.heap.size) s.heap H locs → W p l e ({ frames := 1, cells := 0, slots := 0, locals := 25 } : Room) s m ([.ref (A 0), .int a1] : List Value).toArray below meth c H locs 0 0 (rt_Qv D rt_cl (rt_t cI cZ) rtR_X (rtR_W cI cZ A) below ([.ref (A 0), .int a1] : List Value).toArray s σ') (F0 m 107 ls []) := by
    intro ls l1 l2 σ H locs hl hm hP hS
    unfold B_R_RangeTellerModel_load1_107 at hm
    refine lv_aload_n hx hb d_RangeTellerModel_load1_107 rfl (lv_at hl 0 rfl) ?_
    refine va_get (D := D) (v := .int (σ 0 66)) (C := "RangeTellerModel") (T := rt_T6) (N := 69) hx hb hts rt_i6 hown hK hP 0 rfl rfl 66 (by decide) (hts _ (rt_m rt_w913)) (fun _ h9 => h9) rfl d_RangeTellerModel_load1_108 ?_
    refine lv_aload_n hx hb d_RangeTellerModel_load1_111 rfl (lv_at hl 0 rfl) ?_
    refine va_get (D := D) (v := .int (σ 0 67)) (C := "RangeTellerModel") (T := rt_T6) (N := 69) hx hb hts rt_i6 hown hK hP 0 rfl rfl 67 (by decide) (hts _ (rt_m rt_w914)) (fun _ h9 => h9) rfl d_RangeTellerModel_load1_112 ?_
    refine lv_icmp_le (tgt := 119) hx hb d_RangeTellerModel_load1_115 (by decide) (fun hc => ?_) (fun hc => ?_)
    · have hm := (if_pos hc).symm.trans hm
      refine lv_aload_n hx hb d_RangeTellerModel_load1_119 rfl (lv_at hl 0 rfl) ?_
      refine lv_iload_n hx hb d_RangeTellerModel_load1_120 rfl (lv_at hl 2 rfl) ?_
      refine lv_aload_n hx hb d_RangeTellerModel_load1_121 rfl (lv_at hl 0 rfl) ?_
      refine va_get (D := D) (v := .int (σ 0 66)) (C := "RangeTellerModel") (T := rt_T6) (N := 69) hx hb hts rt_i6 hown hK hP 0 rfl rfl 66 (by decide) (hts _ (rt_m rt_w913)) (fun _ h9 => h9) rfl d_RangeTellerModel_load1_122 ?_
      refine lv_aload_n hx hb d_RangeTellerModel_load1_125 rfl (lv_at hl 0 rfl) ?_
      refine va_get (D := D) (v := .int (σ 0 67)) (C := "RangeTellerModel") (T := rt_T6) (N := 69) hx hb hts rt_i6 hown hK hP 0 rfl rfl 67 (by decide) (hts _ (rt_m rt_w914)) (fun _ h9 => h9) rfl d_RangeTellerModel_load1_126 ?_
      refine lv_aload_n hx hb d_RangeTellerModel_load1_129 rfl (lv_at hl 0 rfl) ?_
      refine va_get (D := D) (v := .int (σ 0 68)) (C := "RangeTellerModel") (T := rt_T6) (N := 69) hx hb hts rt_i6 hown hK hP 0 rfl rfl 68 (by decide) (hts _ (rt_m rt_w915)) (fun _ h9 => h9) rfl d_RangeTellerModel_load1_130 ?_
      obtain ⟨σ2, h1, hm⟩ := rt_b1s hm
      refine rt_cvv (As := [.int l2, .int (σ 0 66), .int (σ 0 67), .int (σ 0 68)]) (rest := []) (k := 0) rtR_Xo ⟨hx, hb, hml, hown, hts⟩ (k_R_RangeTellerModel_set l D cI cZ A hO σ l2 (σ 0 66) (σ 0 67) (σ 0 68) _ h1) (cw_RangeTellerModel_set hts (hts _ (rt_m rt_w1161)) ⟨Nat.le_of_ble_eq_true rfl, Nat.le_of_ble_eq_true rfl⟩) hK hP hS hX rfl rfl rfl hl.1 rfl (Nat.le_of_ble_eq_true rfl) d_RangeTellerModel_load1_133 ⟨Nat.zero_le _, Nat.zero_le _⟩ (fun H locs hP hS => ?_)
      refine lv_aload_n hx hb d_RangeTellerModel_load1_136 rfl (lv_at hl 0 rfl) ?_
      refine lv_iload_n hx hb d_RangeTellerModel_load1_137 rfl (lv_at hl 1 rfl) ?_
      refine lv_iconst (v := 1) hx hb d_RangeTellerModel_load1_138 (by decide) ?_
      refine lv_iadd hx hb d_RangeTellerModel_load1_139 ?_
      obtain ⟨σ4, h3, hm⟩ := rt_b1s hm
      refine rt_cvv (As := [.int (l1 + 1)]) (rest := []) (k := 0) rtR_Xo ⟨hx, hb, hml, hown, hts⟩ (k_R_RangeTellerModel_pass l D cI cZ A hO σ2 (l1 + 1) _ h3) (cw_RangeTellerModel_pass hts (hts _ (rt_m rt_w1133)) ⟨Nat.le_of_ble_eq_true rfl, Nat.le_of_ble_eq_true rfl⟩) hK hP hS hX rfl rfl rfl hl.1 rfl (Nat.le_of_ble_eq_true rfl) d_RangeTellerModel_load1_140 ⟨Nat.zero_le _, Nat.zero_le _⟩ (fun H locs hP hS => ?_)
      exact W.vret hx hb hr (fun t ht hW => ⟨⟨_, rfl, Option.some.inj hm, rt_end rtR_Xo hK hP hS hX ht hW⟩, hS.F ht⟩) hS.2.2 d_RangeTellerModel_load1_143
    · have hm := (if_neg hc).symm.trans hm
      exact W.vret hx hb hr (fun t ht hW => ⟨⟨_, rfl, Option.some.inj hm, rt_end rtR_Xo hK hP hS hX ht hW⟩, hS.F ht⟩) hS.2.2 d_RangeTellerModel_load1_118
  have hB24 : ∀ (n24 : Nat) (ls : Array Slot) (l1 l2 l3 : Int32) (σ : rt_St) (H : Heap) (locs : List Loc), lv_has ls 5 [(0, .ref (A 0)), (1, .int l1), (2, .int l2), (3, .int l3)] → B_R_RangeTellerModel_load1_24 n24 l1 l2 l3 σ = some σ' → va_P D rt_cl (rtR_W cI cZ A σ) H → va_S (rt_A (rtR_W cI cZ A) s.heap.size) s.heap H locs → W p l e ({ frames := 1, cells := 0, slots := 0, locals := 25 } : Room) s m ([.ref (A 0), .int a1] : List Value).toArray below meth c H locs 0 0 (rt_Qv D rt_cl (rt_t cI cZ) rtR_X (rtR_W cI cZ A) below ([.ref (A 0), .int a1] : List Value).toArray s σ') (F0 m 24 ls []) := by
    intro n24
    induction n24 with
    | zero => intro ls l1 l2 l3 σ H locs hl hm hP hS; rw [B_R_RangeTellerModel_load1_24] at hm; cases hm
    | succ n24 ih24 =>
      have hB98 : ∀ (ls : Array Slot) (l1 l2 l3 t0 : Int32) (σ : rt_St) (H : Heap) (locs : List Loc), lv_has ls 5 [(0, .ref (A 0)), (1, .int l1), (2, .int l2), (3, .int l3)] → B_R_RangeTellerModel_load1_98 (B_R_RangeTellerModel_load1_24 n24) l1 l2 l3 t0 σ = some σ' → va_P D rt_cl (rtR_W cI cZ A σ) H → va_S (rt_A (rtR_W cI cZ A) s.heap.size) s.heap H locs → W p l e ({ frames := 1, cells := 0, slots := 0, locals := 25 } : Room) s m ([.ref (A 0), .int a1] : List Value).toArray below meth c H locs 0 0 (rt_Qv D rt_cl (rt_t cI cZ) rtR_X (rtR_W cI cZ A) below ([.ref (A 0), .int a1] : List Value).toArray s σ') (F0 m 98 ls [.int t0, .ref (A 0)]) := by
        intro ls l1 l2 l3 t0 σ H locs hl hm hP hS
        unfold B_R_RangeTellerModel_load1_98 at hm
        obtain ⟨_, h7, hm⟩ := rt_b1s hm
        obtain ⟨σ5, h6, hm⟩ := rt_b1s hm
        refine rt_pf (D := D) (C := "RangeTellerModel") (T := rt_T6) (N := 69) (ty := .boolean) hx hb hts rt_i6 rt_y6 rt_o6 rt_n6 hown hK hP hD hS 0 rfl rfl 68 (by decide) (hts _ (rt_m rt_w915)) (fun _ h9 => h9) rfl (by decide +kernel) (rt_zoks h7) (rt_zokf h7) (Nat.le_of_ble_eq_true rfl) (rtR_s0_68 cI cZ A _ _) h6 d_RangeTellerModel_load1_98 (fun H locs hP hS => ?_)
        refine lv_iinc (k := 3) (v := (l3 + 1)) hx hb d_RangeTellerModel_load1_101 hl rfl rfl (by decide) rfl (fun ls hl => ?_)
        have hl : lv_has ls 5 [(3, .int (l3 + 1)), (0, .ref (A 0)), (1, .int l1), (2, .int l2)] := hl
        refine lv_goto (tgt := 24) hx hb d_RangeTellerModel_load1_104 (by decide) ?_
        exact ih24 ls l1 l2 (l3 + 1) σ5 _ _ (lv_sub hl [1, 2, 3, 0] rfl) hm hP hS
      have hB93 : ∀ (ls : Array Slot) (l1 l2 l3 : Int32) (σ : rt_St) (H : Heap) (locs : List Loc), lv_has ls 5 [(0, .ref (A 0)), (1, .int l1), (2, .int l2), (3, .int l3)] → B_R_RangeTellerModel_load1_93 (B_R_RangeTellerModel_load1_24 n24) l1 l2 l3 σ = some σ' → va_P D rt_cl (rtR_W cI cZ A σ) H → va_S (rt_A (rtR_W cI cZ A) s.heap.size) s.heap H locs → W p l e ({ frames := 1, cells := 0, slots := 0, locals := 25 } : Room) s m ([.ref (A 0), .int a1] : List Value).toArray below meth c H locs 0 0 (rt_Qv D rt_cl (rt_t cI cZ) rtR_X (rtR_W cI cZ A) below ([.ref (A 0), .int a1] : List Value).toArray s σ') (F0 m 93 ls [.ref (A 0)]) := by
        intro ls l1 l2 l3 σ H locs hl hm hP hS
        unfold B_R_RangeTellerModel_load1_93 at hm
        refine lv_iconst (v := 1) hx hb d_RangeTellerModel_load1_93 (by decide) ?_
        refine lv_goto (tgt := 98) hx hb d_RangeTellerModel_load1_94 (by decide) ?_
        exact hB98 ls l1 l2 l3 1 σ _ _ (lv_sub hl [0, 1, 2, 3] rfl) hm hP hS
      intro ls l1 l2 l3 σ H locs hl hm hP hS
      rw [B_R_RangeTellerModel_load1_24] at hm
      refine lv_iload_n hx hb d_RangeTellerModel_load1_24 rfl (lv_at hl 3 rfl) ?_
      refine lv_aload_n hx hb d_RangeTellerModel_load1_25 rfl (lv_at hl 0 rfl) ?_
      refine va_get (D := D) (v := .ref (A 42)) (C := "RangeTellerModel") (T := rt_T6) (N := 69) hx hb hts rt_i6 hown hK hP 0 rfl rfl 61 (by decide) (hts _ (rt_m rt_w908)) (fun _ h9 => h9) rfl d_RangeTellerModel_load1_26 ?_
      refine lv_iload_n hx hb d_RangeTellerModel_load1_29 rfl (lv_at hl 2 rfl) ?_
      obtain ⟨v8, h9, hm⟩ := rt_b1s hm
      refine rt_ald hx hb hK hP 42 0 rfl rfl h9 d_RangeTellerModel_load1_30 ?_
      refine lv_icmp_gt (tgt := 107) hx hb d_RangeTellerModel_load1_31 (by decide) (fun hc => ?_) (fun hc => ?_)
      · have hm := (if_pos hc).symm.trans hm
        exact hB107 ls l1 l2 σ _ _ (lv_sub hl [0, 1, 2] rfl) hm hP hS
      · have hm := (if_neg hc).symm.trans hm
        refine lv_iload_n hx hb d_RangeTellerModel_load1_34 rfl (lv_at hl 3 rfl) ?_
        refine lv_aload_n hx hb d_RangeTellerModel_load1_35 rfl (lv_at hl 0 rfl) ?_
        refine va_get (D := D) (v := .ref (A 3)) (C := "RangeTellerModel") (T := rt_T6) (N := 69) hx hb hts rt_i6 hown hK hP 0 rfl rfl 8 (by decide) (hts _ (rt_m rt_w855)) (fun _ h9 => h9) rfl d_RangeTellerModel_load1_36 ?_
        refine lv_iload_n hx hb d_RangeTellerModel_load1_39 rfl (lv_at hl 1 rfl) ?_
        obtain ⟨v10, h11, hm⟩ := rt_b1s hm
        refine rt_ald hx hb hK hP 3 0 rfl rfl h11 d_RangeTellerModel_load1_40 ?_
        refine lv_iadd hx hb d_RangeTellerModel_load1_41 ?_
        refine lv_bipush (v := 16) hx hb d_RangeTellerModel_load1_42 (by decide) ?_
        refine lv_icmp_ge (tgt := 107) hx hb d_RangeTellerModel_load1_44 (by decide) (fun hc => ?_) (fun hc => ?_)
        · have hm := (if_pos hc).symm.trans hm
          exact hB107 ls l1 l2 σ _ _ (lv_sub hl [0, 1, 2] rfl) hm hP hS
        · have hm := (if_neg hc).symm.trans hm
          refine lv_iload_n hx hb d_RangeTellerModel_load1_47 rfl (lv_at hl 3 rfl) ?_
          refine lv_aload_n hx hb d_RangeTellerModel_load1_48 rfl (lv_at hl 0 rfl) ?_
          refine va_get (D := D) (v := .ref (A 3)) (C := "RangeTellerModel") (T := rt_T6) (N := 69) hx hb hts rt_i6 hown hK hP 0 rfl rfl 8 (by decide) (hts _ (rt_m rt_w855)) (fun _ h9 => h9) rfl d_RangeTellerModel_load1_49 ?_
          refine lv_iload_n hx hb d_RangeTellerModel_load1_52 rfl (lv_at hl 1 rfl) ?_
          obtain ⟨v12, h13, hm⟩ := rt_b1s hm
          refine rt_ald hx hb hK hP 3 0 rfl rfl h13 d_RangeTellerModel_load1_53 ?_
          refine lv_iadd hx hb d_RangeTellerModel_load1_54 ?_
          refine lv_istore hx hb d_RangeTellerModel_load1_55 hl (by decide) rfl (fun ls hl => ?_)
          have hl : lv_has ls 5 [(4, .int (l3 + v12)), (0, .ref (A 0)), (1, .int l1), (2, .int l2), (3, .int l3)] := hl
          refine lv_aload_n hx hb d_RangeTellerModel_load1_57 rfl (lv_at hl 1 rfl) ?_
          refine lv_aload_n hx hb d_RangeTellerModel_load1_58 rfl (lv_at hl 1 rfl) ?_
          refine va_get (D := D) (v := .ref (A 34)) (C := "RangeTellerModel") (T := rt_T6) (N := 69) hx hb hts rt_i6 hown hK hP 0 rfl rfl 51 (by decide) (hts _ (rt_m rt_w898)) (fun _ h9 => h9) rfl d_RangeTellerModel_load1_59 ?_
          refine lv_iload hx hb d_RangeTellerModel_load1_62 (lv_at hl 0 rfl) ?_
          obtain ⟨v14, h15, hm⟩ := rt_b1s hm
          refine rt_ald hx hb hK hP 34 0 rfl rfl h15 d_RangeTellerModel_load1_64 ?_
          refine lv_aload_n hx hb d_RangeTellerModel_load1_65 rfl (lv_at hl 1 rfl) ?_
          refine va_get (D := D) (v := .ref (A 35)) (C := "RangeTellerModel") (T := rt_T6) (N := 69) hx hb hts rt_i6 hown hK hP 0 rfl rfl 52 (by decide) (hts _ (rt_m rt_w899)) (fun _ h9 => h9) rfl d_RangeTellerModel_load1_66 ?_
          refine lv_iload hx hb d_RangeTellerModel_load1_69 (lv_at hl 0 rfl) ?_
          obtain ⟨v16, h17, hm⟩ := rt_b1s hm
          refine rt_ald hx hb hK hP 35 0 rfl rfl h17 d_RangeTellerModel_load1_71 ?_
          obtain ⟨σ19, h18, hm⟩ := rt_b1s hm
          refine rt_cvv (As := [.int v14, .int v16]) (rest := []) (k := 0) rtR_Xo ⟨hx, hb, hml, hown, hts⟩ (k_R_RangeTellerModel_join l D cI cZ A hO σ v14 v16 _ h18) (cw_RangeTellerModel_join hts (hts _ (rt_m rt_w1177)) ⟨Nat.le_of_ble_eq_true rfl, Nat.le_of_ble_eq_true rfl⟩) hK hP hS hX rfl rfl rfl hl.1 rfl (Nat.le_of_ble_eq_true rfl) d_RangeTellerModel_load1_72 ⟨Nat.zero_le _, Nat.zero_le _⟩ (fun H locs hP hS => ?_)
          refine lv_aload_n hx hb d_RangeTellerModel_load1_75 rfl (lv_at hl 1 rfl) ?_
          refine lv_aload_n hx hb d_RangeTellerModel_load1_76 rfl (lv_at hl 1 rfl) ?_
          refine va_get (D := D) (v := .int (σ19 0 68)) (C := "RangeTellerModel") (T := rt_T6) (N := 69) hx hb hts rt_i6 hown hK hP 0 rfl rfl 68 (by decide) (hts _ (rt_m rt_w915)) (fun _ h9 => h9) rfl d_RangeTellerModel_load1_77 ?_
          refine lv_if_ne (tgt := 93) hx hb d_RangeTellerModel_load1_80 (by decide) (fun hc => ?_) (fun hc => ?_)
          · have hm := (if_neg hc).symm.trans hm
            exact hB93 ls l1 l2 l3 σ19 _ _ (lv_sub hl [1, 2, 3, 4] rfl) hm hP hS
          · have hm := (if_pos hc).symm.trans hm
            refine lv_aload_n hx hb d_RangeTellerModel_load1_83 rfl (lv_at hl 1 rfl) ?_
            refine va_get (D := D) (v := .ref (A 36)) (C := "RangeTellerModel") (T := rt_T6) (N := 69) hx hb hts rt_i6 hown hK hP 0 rfl rfl 53 (by decide) (hts _ (rt_m rt_w900)) (fun _ h9 => h9) rfl d_RangeTellerModel_load1_84 ?_
            refine lv_iload hx hb d_RangeTellerModel_load1_87 (lv_at hl 0 rfl) ?_
            obtain ⟨v20, h21, hm⟩ := rt_b1s hm
            refine rt_zld hx hb hK hP 36 1 rfl rfl h21 d_RangeTellerModel_load1_89 ?_
            refine lv_if_eq (tgt := 97) hx hb d_RangeTellerModel_load1_90 (by decide) (fun hc => ?_) (fun hc => ?_)
            · have hm := (if_pos hc).symm.trans hm
              refine lv_iconst (v := 0) hx hb d_RangeTellerModel_load1_97 (by decide) ?_
              exact hB98 ls l1 l2 l3 0 σ19 _ _ (lv_sub hl [1, 2, 3, 4] rfl) hm hP hS
            · have hm := (if_neg hc).symm.trans hm
              exact hB93 ls l1 l2 l3 σ19 _ _ (lv_sub hl [1, 2, 3, 4] rfl) hm hP hS
  unfold M_R_RangeTellerModel_load1 at hm
  refine lv_aload_n hx hb d_RangeTellerModel_load1_0 rfl (lv_at hl 0 rfl) ?_
  refine va_get (D := D) (v := .int (σ 0 59)) (C := "RangeTellerModel") (T := rt_T6) (N := 69) hx hb hts rt_i6 hown hK hP 0 rfl rfl 59 (by decide) (hts _ (rt_m rt_w906)) (fun _ h9 => h9) rfl d_RangeTellerModel_load1_1 ?_
  refine lv_iconst (v := 1) hx hb d_RangeTellerModel_load1_4 (by decide) ?_
  refine lv_isub hx hb d_RangeTellerModel_load1_5 ?_
  refine lv_istore_n hx hb d_RangeTellerModel_load1_6 rfl hl (by decide) rfl (fun ls hl => ?_)
  have hl : lv_has ls 5 [(2, .int ((σ 0 59) - 1)), (0, .ref (A 0)), (1, .int a1)] := hl
  refine lv_aload_n hx hb d_RangeTellerModel_load1_7 rfl (lv_at hl 1 rfl) ?_
  refine lv_aload_n hx hb d_RangeTellerModel_load1_8 rfl (lv_at hl 1 rfl) ?_
  refine va_get (D := D) (v := .ref (A 43)) (C := "RangeTellerModel") (T := rt_T6) (N := 69) hx hb hts rt_i6 hown hK hP 0 rfl rfl 62 (by decide) (hts _ (rt_m rt_w909)) (fun _ h9 => h9) rfl d_RangeTellerModel_load1_9 ?_
  refine lv_iload_n hx hb d_RangeTellerModel_load1_12 rfl (lv_at hl 0 rfl) ?_
  obtain ⟨v22, h23, hm⟩ := rt_b1s hm
  refine rt_zld hx hb hK hP 43 1 rfl rfl h23 d_RangeTellerModel_load1_13 ?_
  obtain ⟨σ25, h24, hm⟩ := rt_b1s hm
  refine rt_cvv (As := [.int v22]) (rest := []) (k := 0) rtR_Xo ⟨hx, hb, hml, hown, hts⟩ (k_R_RangeTellerModel_nothing l D cI cZ A hO σ v22 _ h24) (cw_RangeTellerModel_nothing hts (hts _ (rt_m rt_w1173)) ⟨Nat.le_of_ble_eq_true rfl, Nat.le_of_ble_eq_true rfl⟩) hK hP hS hX rfl rfl rfl hl.1 rfl (Nat.le_of_ble_eq_true rfl) d_RangeTellerModel_load1_14 ⟨Nat.zero_le _, Nat.zero_le _⟩ (fun H locs hP hS => ?_)
  refine lv_aload_n hx hb d_RangeTellerModel_load1_17 rfl (lv_at hl 1 rfl) ?_
  refine va_get (D := D) (v := .ref (A 41)) (C := "RangeTellerModel") (T := rt_T6) (N := 69) hx hb hts rt_i6 hown hK hP 0 rfl rfl 60 (by decide) (hts _ (rt_m rt_w907)) (fun _ h9 => h9) rfl d_RangeTellerModel_load1_18 ?_
  refine lv_iload_n hx hb d_RangeTellerModel_load1_21 rfl (lv_at hl 0 rfl) ?_
  obtain ⟨v26, h27, hm⟩ := rt_b1s hm
  refine rt_ald hx hb hK hP 41 0 rfl rfl h27 d_RangeTellerModel_load1_22 ?_
  refine lv_istore_n hx hb d_RangeTellerModel_load1_23 rfl hl (by decide) rfl (fun ls hl => ?_)
  have hl : lv_has ls 5 [(3, .int v26), (2, .int ((σ 0 59) - 1)), (0, .ref (A 0)), (1, .int a1)] := hl
  exact hB24 _ ls a1 ((σ 0 59) - 1) v26 σ25 _ _ (lv_sub hl [2, 3, 1, 0] rfl) hm hP hS
set_option maxHeartbeats 4000000 in
set_option maxRecDepth 100000 in
theorem k_R_RangeTellerModel_passCall (l : Launch) (D : va_G) (cI cZ : ClassId) (A : Nat → Nat) (hO : rt_Ok (rtR_W cI cZ A)) (σ : rt_St) (a1 : Int32) (σ' : rt_St) (hm : M_R_RangeTellerModel_passCall σ a1 = some σ') (sz : Nat) : Met l y_RangeTellerModel_passCall (rt_ws y_RangeTellerModel_passCall b_RangeTellerModel_passCall 7 none) ({ frames := 1, cells := 0, slots := 0, locals := 25 } : Room) (va_Pc [.ref (A 0), .int a1] (rt_P D rt_cl (rt_t cI cZ) rtR_X (rtR_W cI cZ A) sz σ)) (va_Qv (fun u1 => u1 = σ') (rt_B D rt_cl (rt_t cI cZ) rtR_X (rtR_W cI cZ A)) (rt_A (rtR_W cI cZ A) sz)) 0 0 (rt_A (rtR_W cI cZ A) sz) := by
  refine Met.ofW (cc := b_RangeTellerModel_passCall) (maxL := 7) (ret := none) (by decide) rfl ?_
  intro p e s m args below meth c s₁ B hml hv
  obtain ⟨rfl, rfl, hP, hK, hX⟩ := hv
  have hx := B.exec
  have hb := B.bytes
  have hr := B.returns
  have hts := atoms_spec (ws := (rt_ws y_RangeTellerModel_passCall b_RangeTellerModel_passCall 7 none)) B.pre
  have hown : s.vm.findClass "RangeTellerModel" = some m.cls := findClass_of_methodNamed B.named
  have hlocks := B.notSynchronized
  have hD := rt_hD hO s.heap.size
  have hS : va_S (rt_A (rtR_W cI cZ A) s.heap.size) s.heap s.heap [] := va_S.rf
  have hl := lv_entry ([.ref (A 0), .int a1]) (n := 7) (Nat.le_of_ble_eq_true rfl)
  rw [lg_entry_eq]
  generalize (lg_sl ([.ref (A 0), .int a1]) ++ List.replicate (7 - (lg_sl ([.ref (A 0), .int a1])).length) Slot.unset).toArray = ls at hl ⊢
  have hl : lv_has ls 7 [(0, .ref (A 0)), (1, .int a1)] := hl
  show W p l e ({ frames := 1, cells := 0, slots := 0, locals := 25 } : Room) s m ([.ref (A 0), .int a1] : List Value).toArray below meth c s.heap [] 0 0 (rt_Qv D rt_cl (rt_t cI cZ) rtR_X (rtR_W cI cZ A) below ([.ref (A 0), .int a1] : List Value).toArray s σ') (F0 m 0 ls [])
  have hB209 : ∀ (ls : Array Slot) (l1 : Int32) (σ : rt_St) (H : Heap) (locs : List Loc), lv_has ls 7 [(0, .ref (A 0)), (1, .int l1)] → B_R_RangeTellerModel_passCall_209 l1 σ = some σ' → va_P D rt_cl (rtR_W cI cZ A σ) H → va_S (rt_A (rtR_W cI cZ A) s.heap.size) s.heap H locs → W p l e ({ frames := 1, cells := 0, slots := 0, locals := 25 } : Room) s m ([.ref (A 0), .int a1] : List Value).toArray below meth c H locs 0 0 (rt_Qv D rt_cl (rt_t cI cZ) rtR_X (rtR_W cI cZ A) below ([.ref (A 0), .int a1] : List Value).toArray s σ') (F0 m 209 ls []) := by
    intro ls l1 σ H locs hl hm hP hS
    unfold B_R_RangeTellerModel_passCall_209 at hm
    refine lv_aload_n hx hb d_RangeTellerModel_passCall_209 rfl (lv_at hl 0 rfl) ?_
    refine lv_iload_n hx hb d_RangeTellerModel_passCall_210 rfl (lv_at hl 1 rfl) ?_
    refine lv_iconst (v := 1) hx hb d_RangeTellerModel_passCall_211 (by decide) ?_
    refine lv_iadd hx hb d_RangeTellerModel_passCall_212 ?_
    obtain ⟨σ2, h1, hm⟩ := rt_b1s hm
    refine rt_cvv (As := [.int (l1 + 1)]) (rest := []) (k := 0) rtR_Xo ⟨hx, hb, hml, hown, hts⟩ (k_R_RangeTellerModel_pass l D cI cZ A hO σ (l1 + 1) _ h1) (cw_RangeTellerModel_pass hts (hts _ (rt_m rt_w1133)) ⟨Nat.le_of_ble_eq_true rfl, Nat.le_of_ble_eq_true rfl⟩) hK hP hS hX rfl rfl rfl hl.1 rfl (Nat.le_of_ble_eq_true rfl) d_RangeTellerModel_passCall_213 ⟨Nat.zero_le _, Nat.zero_le _⟩ (fun H locs hP hS => ?_)
    exact W.vret hx hb hr (fun t ht hW => ⟨⟨_, rfl, Option.some.inj hm, rt_end rtR_Xo hK hP hS hX ht hW⟩, hS.F ht⟩) hS.2.2 d_RangeTellerModel_passCall_216
  have hB25 : ∀ (n25 : Nat) (ls : Array Slot) (l1 l2 l3 l4 l5 : Int32) (σ : rt_St) (H : Heap) (locs : List Loc), lv_has ls 7 [(0, .ref (A 0)), (1, .int l1), (2, .int l2), (3, .int l3), (4, .int l4), (5, .int l5)] → B_R_RangeTellerModel_passCall_25 n25 l1 l2 l3 l4 l5 σ = some σ' → va_P D rt_cl (rtR_W cI cZ A σ) H → va_S (rt_A (rtR_W cI cZ A) s.heap.size) s.heap H locs → W p l e ({ frames := 1, cells := 0, slots := 0, locals := 25 } : Room) s m ([.ref (A 0), .int a1] : List Value).toArray below meth c H locs 0 0 (rt_Qv D rt_cl (rt_t cI cZ) rtR_X (rtR_W cI cZ A) below ([.ref (A 0), .int a1] : List Value).toArray s σ') (F0 m 25 ls []) := by
    intro n25
    induction n25 with
    | zero => intro ls l1 l2 l3 l4 l5 σ H locs hl hm hP hS; rw [B_R_RangeTellerModel_passCall_25] at hm; cases hm
    | succ n25 ih25 =>
      have hB125 : ∀ (ls : Array Slot) (l1 l2 l3 l4 l5 t0 t1 : Int32) (σ : rt_St) (H : Heap) (locs : List Loc), lv_has ls 7 [(0, .ref (A 0)), (1, .int l1), (2, .int l2), (3, .int l3), (4, .int l4), (5, .int l5)] → B_R_RangeTellerModel_passCall_125 (B_R_RangeTellerModel_passCall_25 n25) l1 l2 l3 l4 l5 t0 t1 σ = some σ' → va_P D rt_cl (rtR_W cI cZ A σ) H → va_S (rt_A (rtR_W cI cZ A) s.heap.size) s.heap H locs → W p l e ({ frames := 1, cells := 0, slots := 0, locals := 25 } : Room) s m ([.ref (A 0), .int a1] : List Value).toArray below meth c H locs 0 0 (rt_Qv D rt_cl (rt_t cI cZ) rtR_X (rtR_W cI cZ A) below ([.ref (A 0), .int a1] : List Value).toArray s σ') (F0 m 125 ls [.int t0, .int t1, .ref (A 46)]) := by
        intro ls l1 l2 l3 l4 l5 t0 t1 σ H locs hl hm hP hS
        unfold B_R_RangeTellerModel_passCall_125 at hm
        obtain ⟨σ3, h4, hm⟩ := rt_b1s hm
        refine rt_zst hx hb hK hP hD hS 46 1 rfl (rtR_a46 cI cZ A _) rfl rfl h4 d_RangeTellerModel_passCall_125 (fun H locs hP hS => ?_)
        refine lv_iinc (k := 5) (v := (l5 + 1)) hx hb d_RangeTellerModel_passCall_126 hl rfl rfl (by decide) rfl (fun ls hl => ?_)
        have hl : lv_has ls 7 [(5, .int (l5 + 1)), (0, .ref (A 0)), (1, .int l1), (2, .int l2), (3, .int l3), (4, .int l4)] := hl
        refine lv_goto (tgt := 25) hx hb d_RangeTellerModel_passCall_129 (by decide) ?_
        exact ih25 ls l1 l2 l3 l4 (l5 + 1) σ3 _ _ (lv_sub hl [1, 2, 3, 4, 5, 0] rfl) hm hP hS
      have hB124 : ∀ (ls : Array Slot) (l1 l2 l3 l4 l5 t0 : Int32) (σ : rt_St) (H : Heap) (locs : List Loc), lv_has ls 7 [(0, .ref (A 0)), (1, .int l1), (2, .int l2), (3, .int l3), (4, .int l4), (5, .int l5)] → B_R_RangeTellerModel_passCall_124 (B_R_RangeTellerModel_passCall_25 n25) l1 l2 l3 l4 l5 t0 σ = some σ' → va_P D rt_cl (rtR_W cI cZ A σ) H → va_S (rt_A (rtR_W cI cZ A) s.heap.size) s.heap H locs → W p l e ({ frames := 1, cells := 0, slots := 0, locals := 25 } : Room) s m ([.ref (A 0), .int a1] : List Value).toArray below meth c H locs 0 0 (rt_Qv D rt_cl (rt_t cI cZ) rtR_X (rtR_W cI cZ A) below ([.ref (A 0), .int a1] : List Value).toArray s σ') (F0 m 124 ls [.int t0, .ref (A 46)]) := by
        intro ls l1 l2 l3 l4 l5 t0 σ H locs hl hm hP hS
        unfold B_R_RangeTellerModel_passCall_124 at hm
        refine lv_iconst (v := 0) hx hb d_RangeTellerModel_passCall_124 (by decide) ?_
        exact hB125 ls l1 l2 l3 l4 l5 0 t0 σ _ _ (lv_sub hl [0, 1, 2, 3, 4, 5] rfl) hm hP hS
      have hB95 : ∀ (ls : Array Slot) (l1 l2 l3 l4 l5 l6 t0 t1 : Int32) (σ : rt_St) (H : Heap) (locs : List Loc), lv_has ls 7 [(0, .ref (A 0)), (1, .int l1), (2, .int l2), (3, .int l3), (4, .int l4), (5, .int l5), (6, .int l6)] → B_R_RangeTellerModel_passCall_95 (B_R_RangeTellerModel_passCall_25 n25) l1 l2 l3 l4 l5 l6 t0 t1 σ = some σ' → va_P D rt_cl (rtR_W cI cZ A σ) H → va_S (rt_A (rtR_W cI cZ A) s.heap.size) s.heap H locs → W p l e ({ frames := 1, cells := 0, slots := 0, locals := 25 } : Room) s m ([.ref (A 0), .int a1] : List Value).toArray below meth c H locs 0 0 (rt_Qv D rt_cl (rt_t cI cZ) rtR_X (rtR_W cI cZ A) below ([.ref (A 0), .int a1] : List Value).toArray s σ') (F0 m 95 ls [.int t0, .int t1, .ref (A 45)]) := by
        intro ls l1 l2 l3 l4 l5 l6 t0 t1 σ H locs hl hm hP hS
        unfold B_R_RangeTellerModel_passCall_95 at hm
        obtain ⟨σ5, h6, hm⟩ := rt_b1s hm
        refine rt_ast hx hb hK hP hD hS 45 0 rfl (rtR_a45 cI cZ A _) rfl h6 d_RangeTellerModel_passCall_95 (fun H locs hP hS => ?_)
        refine lv_aload_n hx hb d_RangeTellerModel_passCall_96 rfl (lv_at hl 0 rfl) ?_
        refine va_get (D := D) (v := .ref (A 46)) (C := "RangeTellerModel") (T := rt_T6) (N := 69) hx hb hts rt_i6 hown hK hP 0 rfl rfl 65 (by decide) (hts _ (rt_m rt_w912)) (fun _ h9 => h9) rfl d_RangeTellerModel_passCall_97 ?_
        refine lv_iload hx hb d_RangeTellerModel_passCall_100 (lv_at hl 5 rfl) ?_
        refine lv_iload hx hb d_RangeTellerModel_passCall_102 (lv_at hl 6 rfl) ?_
        refine lv_if_eq (tgt := 124) hx hb d_RangeTellerModel_passCall_104 (by decide) (fun hc => ?_) (fun hc => ?_)
        · have hm := (if_pos hc).symm.trans hm
          exact hB124 ls l1 l2 l3 l4 l5 l5 σ5 _ _ (lv_sub hl [0, 1, 2, 3, 4, 5] rfl) hm hP hS
        · have hm := (if_neg hc).symm.trans hm
          refine lv_aload_n hx hb d_RangeTellerModel_passCall_107 rfl (lv_at hl 0 rfl) ?_
          refine va_get (D := D) (v := .ref (A 43)) (C := "RangeTellerModel") (T := rt_T6) (N := 69) hx hb hts rt_i6 hown hK hP 0 rfl rfl 62 (by decide) (hts _ (rt_m rt_w909)) (fun _ h9 => h9) rfl d_RangeTellerModel_passCall_108 ?_
          refine lv_iload hx hb d_RangeTellerModel_passCall_111 (lv_at hl 4 rfl) ?_
          refine lv_iload hx hb d_RangeTellerModel_passCall_113 (lv_at hl 5 rfl) ?_
          refine lv_iadd hx hb d_RangeTellerModel_passCall_115 ?_
          obtain ⟨v7, h8, hm⟩ := rt_b1s hm
          refine rt_zld hx hb hK hP 43 1 rfl rfl h8 d_RangeTellerModel_passCall_116 ?_
          refine lv_if_eq (tgt := 124) hx hb d_RangeTellerModel_passCall_117 (by decide) (fun hc => ?_) (fun hc => ?_)
          · have hm := (if_pos hc).symm.trans hm
            exact hB124 ls l1 l2 l3 l4 l5 l5 σ5 _ _ (lv_sub hl [0, 1, 2, 3, 4, 5] rfl) hm hP hS
          · have hm := (if_neg hc).symm.trans hm
            refine lv_iconst (v := 1) hx hb d_RangeTellerModel_passCall_120 (by decide) ?_
            refine lv_goto (tgt := 125) hx hb d_RangeTellerModel_passCall_121 (by decide) ?_
            exact hB125 ls l1 l2 l3 l4 l5 1 l5 σ5 _ _ (lv_sub hl [0, 1, 2, 3, 4, 5] rfl) hm hP hS
      have hB69 : ∀ (ls : Array Slot) (l1 l2 l3 l4 l5 l6 t0 t1 : Int32) (σ : rt_St) (H : Heap) (locs : List Loc), lv_has ls 7 [(0, .ref (A 0)), (1, .int l1), (2, .int l2), (3, .int l3), (4, .int l4), (5, .int l5), (6, .int l6)] → B_R_RangeTellerModel_passCall_69 (B_R_RangeTellerModel_passCall_25 n25) l1 l2 l3 l4 l5 l6 t0 t1 σ = some σ' → va_P D rt_cl (rtR_W cI cZ A σ) H → va_S (rt_A (rtR_W cI cZ A) s.heap.size) s.heap H locs → W p l e ({ frames := 1, cells := 0, slots := 0, locals := 25 } : Room) s m ([.ref (A 0), .int a1] : List Value).toArray below meth c H locs 0 0 (rt_Qv D rt_cl (rt_t cI cZ) rtR_X (rtR_W cI cZ A) below ([.ref (A 0), .int a1] : List Value).toArray s σ') (F0 m 69 ls [.int t0, .int t1, .ref (A 44)]) := by
        intro ls l1 l2 l3 l4 l5 l6 t0 t1 σ H locs hl hm hP hS
        unfold B_R_RangeTellerModel_passCall_69 at hm
        obtain ⟨σ9, h10, hm⟩ := rt_b1s hm
        refine rt_ast hx hb hK hP hD hS 44 0 rfl (rtR_a44 cI cZ A _) rfl h10 d_RangeTellerModel_passCall_69 (fun H locs hP hS => ?_)
        refine lv_aload_n hx hb d_RangeTellerModel_passCall_70 rfl (lv_at hl 0 rfl) ?_
        refine va_get (D := D) (v := .ref (A 45)) (C := "RangeTellerModel") (T := rt_T6) (N := 69) hx hb hts rt_i6 hown hK hP 0 rfl rfl 64 (by decide) (hts _ (rt_m rt_w911)) (fun _ h9 => h9) rfl d_RangeTellerModel_passCall_71 ?_
        refine lv_iload hx hb d_RangeTellerModel_passCall_74 (lv_at hl 5 rfl) ?_
        refine lv_iload hx hb d_RangeTellerModel_passCall_76 (lv_at hl 6 rfl) ?_
        refine lv_if_eq (tgt := 94) hx hb d_RangeTellerModel_passCall_78 (by decide) (fun hc => ?_) (fun hc => ?_)
        · have hm := (if_pos hc).symm.trans hm
          refine lv_iconst (v := 0) hx hb d_RangeTellerModel_passCall_94 (by decide) ?_
          exact hB95 ls l1 l2 l3 l4 l5 l6 0 l5 σ9 _ _ (lv_sub hl [0, 1, 2, 3, 4, 5, 6] rfl) hm hP hS
        · have hm := (if_neg hc).symm.trans hm
          refine lv_aload_n hx hb d_RangeTellerModel_passCall_81 rfl (lv_at hl 0 rfl) ?_
          refine va_get (D := D) (v := .ref (A 42)) (C := "RangeTellerModel") (T := rt_T6) (N := 69) hx hb hts rt_i6 hown hK hP 0 rfl rfl 61 (by decide) (hts _ (rt_m rt_w908)) (fun _ h9 => h9) rfl d_RangeTellerModel_passCall_82 ?_
          refine lv_iload hx hb d_RangeTellerModel_passCall_85 (lv_at hl 4 rfl) ?_
          refine lv_iload hx hb d_RangeTellerModel_passCall_87 (lv_at hl 5 rfl) ?_
          refine lv_iadd hx hb d_RangeTellerModel_passCall_89 ?_
          obtain ⟨v11, h12, hm⟩ := rt_b1s hm
          refine rt_ald hx hb hK hP 42 0 rfl rfl h12 d_RangeTellerModel_passCall_90 ?_
          refine lv_goto (tgt := 95) hx hb d_RangeTellerModel_passCall_91 (by decide) ?_
          exact hB95 ls l1 l2 l3 l4 l5 l6 v11 l5 σ9 _ _ (lv_sub hl [0, 1, 2, 3, 4, 5, 6] rfl) hm hP hS
      have hB42 : ∀ (ls : Array Slot) (l1 l2 l3 l4 l5 t0 : Int32) (σ : rt_St) (H : Heap) (locs : List Loc), lv_has ls 7 [(0, .ref (A 0)), (1, .int l1), (2, .int l2), (3, .int l3), (4, .int l4), (5, .int l5)] → B_R_RangeTellerModel_passCall_42 (B_R_RangeTellerModel_passCall_25 n25) l1 l2 l3 l4 l5 t0 σ = some σ' → va_P D rt_cl (rtR_W cI cZ A σ) H → va_S (rt_A (rtR_W cI cZ A) s.heap.size) s.heap H locs → W p l e ({ frames := 1, cells := 0, slots := 0, locals := 25 } : Room) s m ([.ref (A 0), .int a1] : List Value).toArray below meth c H locs 0 0 (rt_Qv D rt_cl (rt_t cI cZ) rtR_X (rtR_W cI cZ A) below ([.ref (A 0), .int a1] : List Value).toArray s σ') (F0 m 42 ls [.int t0]) := by
        intro ls l1 l2 l3 l4 l5 t0 σ H locs hl hm hP hS
        unfold B_R_RangeTellerModel_passCall_42 at hm
        refine lv_istore hx hb d_RangeTellerModel_passCall_42 hl (by decide) rfl (fun ls hl => ?_)
        have hl : lv_has ls 7 [(6, .int t0), (0, .ref (A 0)), (1, .int l1), (2, .int l2), (3, .int l3), (4, .int l4), (5, .int l5)] := hl
        refine lv_aload_n hx hb d_RangeTellerModel_passCall_44 rfl (lv_at hl 1 rfl) ?_
        refine va_get (D := D) (v := .ref (A 44)) (C := "RangeTellerModel") (T := rt_T6) (N := 69) hx hb hts rt_i6 hown hK hP 0 rfl rfl 63 (by decide) (hts _ (rt_m rt_w910)) (fun _ h9 => h9) rfl d_RangeTellerModel_passCall_45 ?_
        refine lv_iload hx hb d_RangeTellerModel_passCall_48 (lv_at hl 6 rfl) ?_
        refine lv_iload hx hb d_RangeTellerModel_passCall_50 (lv_at hl 0 rfl) ?_
        refine lv_if_eq (tgt := 68) hx hb d_RangeTellerModel_passCall_52 (by decide) (fun hc => ?_) (fun hc => ?_)
        · have hm := (if_pos hc).symm.trans hm
          refine lv_iconst (v := 0) hx hb d_RangeTellerModel_passCall_68 (by decide) ?_
          exact hB69 ls l1 l2 l3 l4 l5 t0 0 l5 σ _ _ (lv_sub hl [1, 2, 3, 4, 5, 6, 0] rfl) hm hP hS
        · have hm := (if_neg hc).symm.trans hm
          refine lv_aload_n hx hb d_RangeTellerModel_passCall_55 rfl (lv_at hl 1 rfl) ?_
          refine va_get (D := D) (v := .ref (A 41)) (C := "RangeTellerModel") (T := rt_T6) (N := 69) hx hb hts rt_i6 hown hK hP 0 rfl rfl 60 (by decide) (hts _ (rt_m rt_w907)) (fun _ h9 => h9) rfl d_RangeTellerModel_passCall_56 ?_
          refine lv_iload hx hb d_RangeTellerModel_passCall_59 (lv_at hl 5 rfl) ?_
          refine lv_iload hx hb d_RangeTellerModel_passCall_61 (lv_at hl 6 rfl) ?_
          refine lv_iadd hx hb d_RangeTellerModel_passCall_63 ?_
          obtain ⟨v13, h14, hm⟩ := rt_b1s hm
          refine rt_ald hx hb hK hP 41 0 rfl rfl h14 d_RangeTellerModel_passCall_64 ?_
          refine lv_goto (tgt := 69) hx hb d_RangeTellerModel_passCall_65 (by decide) ?_
          exact hB69 ls l1 l2 l3 l4 l5 t0 v13 l5 σ _ _ (lv_sub hl [1, 2, 3, 4, 5, 6, 0] rfl) hm hP hS
      intro ls l1 l2 l3 l4 l5 σ H locs hl hm hP hS
      rw [B_R_RangeTellerModel_passCall_25] at hm
      refine lv_iload hx hb d_RangeTellerModel_passCall_25 (lv_at hl 5 rfl) ?_
      refine lv_iconst (v := 4) hx hb d_RangeTellerModel_passCall_27 (by decide) ?_
      refine lv_icmp_ge (tgt := 132) hx hb d_RangeTellerModel_passCall_28 (by decide) (fun hc => ?_) (fun hc => ?_)
      · have hm := (if_pos hc).symm.trans hm
        refine lv_aload_n hx hb d_RangeTellerModel_passCall_132 rfl (lv_at hl 0 rfl) ?_
        refine lv_aload_n hx hb d_RangeTellerModel_passCall_133 rfl (lv_at hl 0 rfl) ?_
        refine va_get (D := D) (v := .ref (A 14)) (C := "RangeTellerModel") (T := rt_T6) (N := 69) hx hb hts rt_i6 hown hK hP 0 rfl rfl 20 (by decide) (hts _ (rt_m rt_w867)) (fun _ h9 => h9) rfl d_RangeTellerModel_passCall_134 ?_
        refine lv_iload_n hx hb d_RangeTellerModel_passCall_137 rfl (lv_at hl 2 rfl) ?_
        obtain ⟨v15, h16, hm⟩ := rt_b1s hm
        refine rt_ald hx hb hK hP 14 0 rfl rfl h16 d_RangeTellerModel_passCall_138 ?_
        obtain ⟨σ18, h17, hm⟩ := rt_b1s hm
        refine rt_cvv (As := [.int v15]) (rest := []) (k := 0) rtR_Xo ⟨hx, hb, hml, hown, hts⟩ (k_R_RangeTellerModel_pass l D cI cZ A hO σ v15 _ h17) (cw_RangeTellerModel_pass hts (hts _ (rt_m rt_w1133)) ⟨Nat.le_of_ble_eq_true rfl, Nat.le_of_ble_eq_true rfl⟩) hK hP hS hX rfl rfl rfl hl.1 rfl (Nat.le_of_ble_eq_true rfl) d_RangeTellerModel_passCall_139 ⟨Nat.zero_le _, Nat.zero_le _⟩ (fun H locs hP hS => ?_)
        refine lv_aload_n hx hb d_RangeTellerModel_passCall_142 rfl (lv_at hl 0 rfl) ?_
        refine lv_iload_n hx hb d_RangeTellerModel_passCall_143 rfl (lv_at hl 1 rfl) ?_
        obtain ⟨σ20, h19, hm⟩ := rt_b1s hm
        refine rt_cvv (As := [.int l1]) (rest := []) (k := 0) rtR_Xo ⟨hx, hb, hml, hown, hts⟩ (k_R_RangeTellerModel_bring l D cI cZ A hO σ18 l1 _ h19) (cw_RangeTellerModel_bring hts (hts _ (rt_m rt_w1141)) ⟨Nat.le_of_ble_eq_true rfl, Nat.le_of_ble_eq_true rfl⟩) hK hP hS hX rfl rfl rfl hl.1 rfl (Nat.le_of_ble_eq_true rfl) d_RangeTellerModel_passCall_144 ⟨Nat.zero_le _, Nat.zero_le _⟩ (fun H locs hP hS => ?_)
        refine lv_aload_n hx hb d_RangeTellerModel_passCall_147 rfl (lv_at hl 0 rfl) ?_
        refine lv_iload hx hb d_RangeTellerModel_passCall_148 (lv_at hl 4 rfl) ?_
        obtain ⟨σ21, h22, hm⟩ := rt_b1s hm
        refine rt_pf (D := D) (C := "RangeTellerModel") (T := rt_T6) (N := 69) (ty := .int) hx hb hts rt_i6 rt_y6 rt_o6 rt_n6 hown hK hP hD hS 0 rfl rfl 59 (by decide) (hts _ (rt_m rt_w906)) (fun _ h9 => h9) rfl (by decide +kernel) rfl rfl (Nat.le_of_ble_eq_true rfl) (rtR_s0_59 cI cZ A _ _) h22 d_RangeTellerModel_passCall_150 (fun H locs hP hS => ?_)
        refine lv_aload_n hx hb d_RangeTellerModel_passCall_153 rfl (lv_at hl 0 rfl) ?_
        refine va_get (D := D) (v := .ref (A 40)) (C := "RangeTellerModel") (T := rt_T6) (N := 69) hx hb hts rt_i6 hown hK hP 0 rfl rfl 57 (by decide) (hts _ (rt_m rt_w904)) (fun _ h9 => h9) rfl d_RangeTellerModel_passCall_154 ?_
        refine lv_iload_n hx hb d_RangeTellerModel_passCall_157 rfl (lv_at hl 2 rfl) ?_
        obtain ⟨v23, h24, hm⟩ := rt_b1s hm
        refine rt_zld hx hb hK hP 40 1 rfl rfl h24 d_RangeTellerModel_passCall_158 ?_
        refine lv_if_ne (tgt := 163) hx hb d_RangeTellerModel_passCall_159 (by decide) (fun hc => ?_) (fun hc => ?_)
        · have hm := (if_neg hc).symm.trans hm
          refine lv_aload_n hx hb d_RangeTellerModel_passCall_163 rfl (lv_at hl 0 rfl) ?_
          refine va_get (D := D) (v := .ref (A 13)) (C := "RangeTellerModel") (T := rt_T6) (N := 69) hx hb hts rt_i6 hown hK hP 0 rfl rfl 19 (by decide) (hts _ (rt_m rt_w866)) (fun _ h9 => h9) rfl d_RangeTellerModel_passCall_164 ?_
          refine lv_iload_n hx hb d_RangeTellerModel_passCall_167 rfl (lv_at hl 2 rfl) ?_
          obtain ⟨v25, h26, hm⟩ := rt_b1s hm
          refine rt_ald hx hb hK hP 13 0 rfl rfl h26 d_RangeTellerModel_passCall_168 ?_
          refine lv_iconst (v := 1) hx hb d_RangeTellerModel_passCall_169 (by decide) ?_
          refine lv_icmp_ne (tgt := 209) hx hb d_RangeTellerModel_passCall_170 (by decide) (fun hc => ?_) (fun hc => ?_)
          · have hm := (if_neg hc).symm.trans hm
            exact hB209 ls l1 σ21 _ _ (lv_sub hl [0, 1] rfl) hm hP hS
          · have hm := (if_pos hc).symm.trans hm
            refine lv_aload_n hx hb d_RangeTellerModel_passCall_173 rfl (lv_at hl 0 rfl) ?_
            refine lv_aload_n hx hb d_RangeTellerModel_passCall_174 rfl (lv_at hl 0 rfl) ?_
            refine va_get (D := D) (v := .int (σ21 0 59)) (C := "RangeTellerModel") (T := rt_T6) (N := 69) hx hb hts rt_i6 hown hK hP 0 rfl rfl 59 (by decide) (hts _ (rt_m rt_w906)) (fun _ h9 => h9) rfl d_RangeTellerModel_passCall_175 ?_
            refine lv_aload_n hx hb d_RangeTellerModel_passCall_178 rfl (lv_at hl 0 rfl) ?_
            refine va_get (D := D) (v := .ref (A 37)) (C := "RangeTellerModel") (T := rt_T6) (N := 69) hx hb hts rt_i6 hown hK hP 0 rfl rfl 54 (by decide) (hts _ (rt_m rt_w901)) (fun _ h9 => h9) rfl d_RangeTellerModel_passCall_179 ?_
            refine lv_iload_n hx hb d_RangeTellerModel_passCall_182 rfl (lv_at hl 2 rfl) ?_
            obtain ⟨v27, h28, hm⟩ := rt_b1s hm
            refine rt_ald hx hb hK hP 37 0 rfl rfl h28 d_RangeTellerModel_passCall_183 ?_
            refine lv_aload_n hx hb d_RangeTellerModel_passCall_184 rfl (lv_at hl 0 rfl) ?_
            refine va_get (D := D) (v := .ref (A 38)) (C := "RangeTellerModel") (T := rt_T6) (N := 69) hx hb hts rt_i6 hown hK hP 0 rfl rfl 55 (by decide) (hts _ (rt_m rt_w902)) (fun _ h9 => h9) rfl d_RangeTellerModel_passCall_185 ?_
            refine lv_iload_n hx hb d_RangeTellerModel_passCall_188 rfl (lv_at hl 2 rfl) ?_
            obtain ⟨v29, h30, hm⟩ := rt_b1s hm
            refine rt_ald hx hb hK hP 38 0 rfl rfl h30 d_RangeTellerModel_passCall_189 ?_
            refine lv_aload_n hx hb d_RangeTellerModel_passCall_190 rfl (lv_at hl 0 rfl) ?_
            refine va_get (D := D) (v := .ref (A 39)) (C := "RangeTellerModel") (T := rt_T6) (N := 69) hx hb hts rt_i6 hown hK hP 0 rfl rfl 56 (by decide) (hts _ (rt_m rt_w903)) (fun _ h9 => h9) rfl d_RangeTellerModel_passCall_191 ?_
            refine lv_iload_n hx hb d_RangeTellerModel_passCall_194 rfl (lv_at hl 2 rfl) ?_
            obtain ⟨v31, h32, hm⟩ := rt_b1s hm
            refine rt_zld hx hb hK hP 39 1 rfl rfl h32 d_RangeTellerModel_passCall_195 ?_
            obtain ⟨σ34, h33, hm⟩ := rt_b1s hm
            refine rt_cvv (As := [.int (σ21 0 59), .int v27, .int v29, .int v31]) (rest := []) (k := 0) rtR_Xo ⟨hx, hb, hml, hown, hts⟩ (k_R_RangeTellerModel_set l D cI cZ A hO σ21 (σ21 0 59) v27 v29 v31 _ h33) (cw_RangeTellerModel_set hts (hts _ (rt_m rt_w1161)) ⟨Nat.le_of_ble_eq_true rfl, Nat.le_of_ble_eq_true rfl⟩) hK hP hS hX rfl rfl rfl hl.1 rfl (Nat.le_of_ble_eq_true rfl) d_RangeTellerModel_passCall_196 ⟨Nat.zero_le _, Nat.zero_le _⟩ (fun H locs hP hS => ?_)
            refine lv_aload_n hx hb d_RangeTellerModel_passCall_199 rfl (lv_at hl 0 rfl) ?_
            refine lv_dup hx hb d_RangeTellerModel_passCall_200 rfl ?_
            refine va_get (D := D) (v := .int (σ34 0 59)) (C := "RangeTellerModel") (T := rt_T6) (N := 69) hx hb hts rt_i6 hown hK hP 0 rfl rfl 59 (by decide) (hts _ (rt_m rt_w906)) (fun _ h9 => h9) rfl d_RangeTellerModel_passCall_201 ?_
            refine lv_iconst (v := 1) hx hb d_RangeTellerModel_passCall_204 (by decide) ?_
            refine lv_iadd hx hb d_RangeTellerModel_passCall_205 ?_
            obtain ⟨σ35, h36, hm⟩ := rt_b1s hm
            refine rt_pf (D := D) (C := "RangeTellerModel") (T := rt_T6) (N := 69) (ty := .int) hx hb hts rt_i6 rt_y6 rt_o6 rt_n6 hown hK hP hD hS 0 rfl rfl 59 (by decide) (hts _ (rt_m rt_w906)) (fun _ h9 => h9) rfl (by decide +kernel) rfl rfl (Nat.le_of_ble_eq_true rfl) (rtR_s0_59 cI cZ A _ _) h36 d_RangeTellerModel_passCall_206 (fun H locs hP hS => ?_)
            exact hB209 ls l1 σ35 _ _ (lv_sub hl [0, 1] rfl) hm hP hS
        · have hm := (if_pos hc).symm.trans hm
          exact W.vret hx hb hr (fun t ht hW => ⟨⟨_, rfl, Option.some.inj hm, rt_end rtR_Xo hK hP hS hX ht hW⟩, hS.F ht⟩) hS.2.2 d_RangeTellerModel_passCall_162
      · have hm := (if_neg hc).symm.trans hm
        refine lv_iload hx hb d_RangeTellerModel_passCall_31 (lv_at hl 5 rfl) ?_
        refine lv_iload_n hx hb d_RangeTellerModel_passCall_33 rfl (lv_at hl 3 rfl) ?_
        refine lv_icmp_ge (tgt := 41) hx hb d_RangeTellerModel_passCall_34 (by decide) (fun hc => ?_) (fun hc => ?_)
        · have hm := (if_pos hc).symm.trans hm
          refine lv_iconst (v := 0) hx hb d_RangeTellerModel_passCall_41 (by decide) ?_
          exact hB42 ls l1 l2 l3 l4 l5 0 σ _ _ (lv_sub hl [0, 1, 2, 3, 4, 5] rfl) hm hP hS
        · have hm := (if_neg hc).symm.trans hm
          refine lv_iconst (v := 1) hx hb d_RangeTellerModel_passCall_37 (by decide) ?_
          refine lv_goto (tgt := 42) hx hb d_RangeTellerModel_passCall_38 (by decide) ?_
          exact hB42 ls l1 l2 l3 l4 l5 1 σ _ _ (lv_sub hl [0, 1, 2, 3, 4, 5] rfl) hm hP hS
  unfold M_R_RangeTellerModel_passCall at hm
  refine lv_aload_n hx hb d_RangeTellerModel_passCall_0 rfl (lv_at hl 0 rfl) ?_
  refine va_get (D := D) (v := .ref (A 3)) (C := "RangeTellerModel") (T := rt_T6) (N := 69) hx hb hts rt_i6 hown hK hP 0 rfl rfl 8 (by decide) (hts _ (rt_m rt_w855)) (fun _ h9 => h9) rfl d_RangeTellerModel_passCall_1 ?_
  refine lv_iload_n hx hb d_RangeTellerModel_passCall_4 rfl (lv_at hl 1 rfl) ?_
  obtain ⟨v37, h38, hm⟩ := rt_b1s hm
  refine rt_ald hx hb hK hP 3 0 rfl rfl h38 d_RangeTellerModel_passCall_5 ?_
  refine lv_istore_n hx hb d_RangeTellerModel_passCall_6 rfl hl (by decide) rfl (fun ls hl => ?_)
  have hl : lv_has ls 7 [(2, .int v37), (0, .ref (A 0)), (1, .int a1)] := hl
  refine lv_aload_n hx hb d_RangeTellerModel_passCall_7 rfl (lv_at hl 1 rfl) ?_
  refine va_get (D := D) (v := .ref (A 11)) (C := "RangeTellerModel") (T := rt_T6) (N := 69) hx hb hts rt_i6 hown hK hP 0 rfl rfl 17 (by decide) (hts _ (rt_m rt_w864)) (fun _ h9 => h9) rfl d_RangeTellerModel_passCall_8 ?_
  refine lv_iload_n hx hb d_RangeTellerModel_passCall_11 rfl (lv_at hl 0 rfl) ?_
  obtain ⟨v39, h40, hm⟩ := rt_b1s hm
  refine rt_ald hx hb hK hP 11 0 rfl rfl h40 d_RangeTellerModel_passCall_12 ?_
  refine lv_istore_n hx hb d_RangeTellerModel_passCall_13 rfl hl (by decide) rfl (fun ls hl => ?_)
  have hl : lv_has ls 7 [(3, .int v39), (2, .int v37), (0, .ref (A 0)), (1, .int a1)] := hl
  refine lv_aload_n hx hb d_RangeTellerModel_passCall_14 rfl (lv_at hl 2 rfl) ?_
  refine va_get (D := D) (v := .int (σ 0 59)) (C := "RangeTellerModel") (T := rt_T6) (N := 69) hx hb hts rt_i6 hown hK hP 0 rfl rfl 59 (by decide) (hts _ (rt_m rt_w906)) (fun _ h9 => h9) rfl d_RangeTellerModel_passCall_15 ?_
  refine lv_iload_n hx hb d_RangeTellerModel_passCall_18 rfl (lv_at hl 0 rfl) ?_
  refine lv_isub hx hb d_RangeTellerModel_passCall_19 ?_
  refine lv_istore hx hb d_RangeTellerModel_passCall_20 hl (by decide) rfl (fun ls hl => ?_)
  have hl : lv_has ls 7 [(4, .int ((σ 0 59) - v39)), (3, .int v39), (2, .int v37), (0, .ref (A 0)), (1, .int a1)] := hl
  refine lv_iconst (v := 0) hx hb d_RangeTellerModel_passCall_22 (by decide) ?_
  refine lv_istore hx hb d_RangeTellerModel_passCall_23 hl (by decide) rfl (fun ls hl => ?_)
  have hl : lv_has ls 7 [(5, .int 0), (4, .int ((σ 0 59) - v39)), (3, .int v39), (2, .int v37), (0, .ref (A 0)), (1, .int a1)] := hl
  exact hB25 _ ls a1 v37 v39 ((σ 0 59) - v39) 0 σ _ _ (lv_sub hl [4, 5, 3, 2, 1, 0] rfl) hm hP hS
set_option maxHeartbeats 4000000 in
set_option maxRecDepth 100000 in
theorem k_R_RangeTellerModel_giveOn (l : Launch) (D : va_G) (cI cZ : ClassId) (A : Nat → Nat) (hO : rt_Ok (rtR_W cI cZ A)) (σ : rt_St) (a1 : Int32) (σ' : rt_St) (hm : M_R_RangeTellerModel_giveOn σ a1 = some σ') (sz : Nat) : Met l y_RangeTellerModel_giveOn (rt_ws y_RangeTellerModel_giveOn b_RangeTellerModel_giveOn 3 none) ({ frames := 4, cells := 0, slots := 0, locals := 94 } : Room) (va_Pc [.ref (A 0), .int a1] (rt_P D rt_cl (rt_t cI cZ) rtR_X (rtR_W cI cZ A) sz σ)) (va_Qv (fun u1 => u1 = σ') (rt_B D rt_cl (rt_t cI cZ) rtR_X (rtR_W cI cZ A)) (rt_A (rtR_W cI cZ A) sz)) 0 0 (rt_A (rtR_W cI cZ A) sz) := by
  refine Met.ofW (cc := b_RangeTellerModel_giveOn) (maxL := 3) (ret := none) (by decide) rfl ?_
  intro p e s m args below meth c s₁ B hml hv
  obtain ⟨rfl, rfl, hP, hK, hX⟩ := hv
  have hx := B.exec
  have hb := B.bytes
  have hr := B.returns
  have hts := atoms_spec (ws := (rt_ws y_RangeTellerModel_giveOn b_RangeTellerModel_giveOn 3 none)) B.pre
  have hown : s.vm.findClass "RangeTellerModel" = some m.cls := findClass_of_methodNamed B.named
  have hlocks := B.notSynchronized
  have hD := rt_hD hO s.heap.size
  have hS : va_S (rt_A (rtR_W cI cZ A) s.heap.size) s.heap s.heap [] := va_S.rf
  have hl := lv_entry ([.ref (A 0), .int a1]) (n := 3) (Nat.le_of_ble_eq_true rfl)
  rw [lg_entry_eq]
  generalize (lg_sl ([.ref (A 0), .int a1]) ++ List.replicate (3 - (lg_sl ([.ref (A 0), .int a1])).length) Slot.unset).toArray = ls at hl ⊢
  have hl : lv_has ls 3 [(0, .ref (A 0)), (1, .int a1)] := hl
  show W p l e ({ frames := 4, cells := 0, slots := 0, locals := 94 } : Room) s m ([.ref (A 0), .int a1] : List Value).toArray below meth c s.heap [] 0 0 (rt_Qv D rt_cl (rt_t cI cZ) rtR_X (rtR_W cI cZ A) below ([.ref (A 0), .int a1] : List Value).toArray s σ') (F0 m 0 ls [])
  have hB28 : ∀ (ls : Array Slot) (l1 : Int32) (σ : rt_St) (H : Heap) (locs : List Loc), lv_has ls 3 [(0, .ref (A 0)), (1, .int l1)] → B_R_RangeTellerModel_giveOn_28 l1 σ = some σ' → va_P D rt_cl (rtR_W cI cZ A σ) H → va_S (rt_A (rtR_W cI cZ A) s.heap.size) s.heap H locs → W p l e ({ frames := 4, cells := 0, slots := 0, locals := 94 } : Room) s m ([.ref (A 0), .int a1] : List Value).toArray below meth c H locs 0 0 (rt_Qv D rt_cl (rt_t cI cZ) rtR_X (rtR_W cI cZ A) below ([.ref (A 0), .int a1] : List Value).toArray s σ') (F0 m 28 ls []) := by
    intro ls l1 σ H locs hl hm hP hS
    unfold B_R_RangeTellerModel_giveOn_28 at hm
    refine lv_aload_n hx hb d_RangeTellerModel_giveOn_28 rfl (lv_at hl 0 rfl) ?_
    refine lv_iload_n hx hb d_RangeTellerModel_giveOn_29 rfl (lv_at hl 1 rfl) ?_
    obtain ⟨σ2, h1, hm⟩ := rt_b1s hm
    refine rt_cvv (As := [.int l1]) (rest := []) (k := 0) rtR_Xo ⟨hx, hb, hml, hown, hts⟩ (k_R_RangeTellerModel_passIf l D cI cZ A hO σ l1 _ h1) (cw_RangeTellerModel_passIf hts (hts _ (rt_m rt_w1145)) ⟨Nat.le_of_ble_eq_true rfl, Nat.le_of_ble_eq_true rfl⟩) hK hP hS hX rfl rfl rfl hl.1 rfl (Nat.le_of_ble_eq_true rfl) d_RangeTellerModel_giveOn_30 ⟨Nat.zero_le _, Nat.zero_le _⟩ (fun H locs hP hS => ?_)
    refine lv_goto (tgt := 197) hx hb d_RangeTellerModel_giveOn_33 (by decide) ?_
    exact W.vret hx hb hr (fun t ht hW => ⟨⟨_, rfl, Option.some.inj hm, rt_end rtR_Xo hK hP hS hX ht hW⟩, hS.F ht⟩) hS.2.2 d_RangeTellerModel_giveOn_197
  have hB146 : ∀ (ls : Array Slot) (l1 l2 : Int32) (σ : rt_St) (H : Heap) (locs : List Loc), lv_has ls 3 [(0, .ref (A 0)), (1, .int l1), (2, .int l2)] → B_R_RangeTellerModel_giveOn_146 l1 l2 σ = some σ' → va_P D rt_cl (rtR_W cI cZ A σ) H → va_S (rt_A (rtR_W cI cZ A) s.heap.size) s.heap H locs → W p l e ({ frames := 4, cells := 0, slots := 0, locals := 94 } : Room) s m ([.ref (A 0), .int a1] : List Value).toArray below meth c H locs 0 0 (rt_Qv D rt_cl (rt_t cI cZ) rtR_X (rtR_W cI cZ A) below ([.ref (A 0), .int a1] : List Value).toArray s σ') (F0 m 146 ls []) := by
    intro ls l1 l2 σ H locs hl hm hP hS
    unfold B_R_RangeTellerModel_giveOn_146 at hm
    refine lv_iload_n hx hb d_RangeTellerModel_giveOn_146 rfl (lv_at hl 2 rfl) ?_
    refine lv_iconst (v := 4) hx hb d_RangeTellerModel_giveOn_147 (by decide) ?_
    refine lv_icmp_ne (tgt := 166) hx hb d_RangeTellerModel_giveOn_148 (by decide) (fun hc => ?_) (fun hc => ?_)
    · have hm := (if_neg hc).symm.trans hm
      refine lv_iload_n hx hb d_RangeTellerModel_giveOn_166 rfl (lv_at hl 2 rfl) ?_
      refine lv_bipush (v := 6) hx hb d_RangeTellerModel_giveOn_167 (by decide) ?_
      refine lv_icmp_ge (tgt := 182) hx hb d_RangeTellerModel_giveOn_169 (by decide) (fun hc => ?_) (fun hc => ?_)
      · have hm := (if_pos hc).symm.trans hm
        refine lv_aload_n hx hb d_RangeTellerModel_giveOn_182 rfl (lv_at hl 0 rfl) ?_
        refine lv_iload_n hx hb d_RangeTellerModel_giveOn_183 rfl (lv_at hl 1 rfl) ?_
        obtain ⟨v5, σ4, h3, hm⟩ := rt_b2s hm
        refine rt_cvi (As := [.int l1]) (rest := []) (k := 0) rtR_Xo ⟨hx, hb, hml, hown, hts⟩ (k_R_RangeTellerModel_leaves l D cI cZ A hO σ l1 _ _ h3) (cw_RangeTellerModel_leaves hts (hts _ (rt_m rt_w1185)) ⟨Nat.le_of_ble_eq_true rfl, Nat.le_of_ble_eq_true rfl⟩) hK hP hS hX rfl rfl rfl hl.1 rfl (Nat.le_of_ble_eq_true rfl) d_RangeTellerModel_giveOn_184 ⟨Nat.zero_le _, Nat.zero_le _⟩ (fun H locs hP hS => ?_)
        refine lv_if_eq (tgt := 197) hx hb d_RangeTellerModel_giveOn_187 (by decide) (fun hc => ?_) (fun hc => ?_)
        · have hm := (if_pos hc).symm.trans hm
          exact W.vret hx hb hr (fun t ht hW => ⟨⟨_, rfl, Option.some.inj hm, rt_end rtR_Xo hK hP hS hX ht hW⟩, hS.F ht⟩) hS.2.2 d_RangeTellerModel_giveOn_197
        · have hm := (if_neg hc).symm.trans hm
          refine lv_aload_n hx hb d_RangeTellerModel_giveOn_190 rfl (lv_at hl 0 rfl) ?_
          refine lv_iload_n hx hb d_RangeTellerModel_giveOn_191 rfl (lv_at hl 1 rfl) ?_
          refine lv_iconst (v := 1) hx hb d_RangeTellerModel_giveOn_192 (by decide) ?_
          refine lv_iadd hx hb d_RangeTellerModel_giveOn_193 ?_
          obtain ⟨σ7, h6, hm⟩ := rt_b1s hm
          refine rt_cvv (As := [.int (l1 + 1)]) (rest := []) (k := 0) rtR_Xo ⟨hx, hb, hml, hown, hts⟩ (k_R_RangeTellerModel_pass l D cI cZ A hO σ4 (l1 + 1) _ h6) (cw_RangeTellerModel_pass hts (hts _ (rt_m rt_w1133)) ⟨Nat.le_of_ble_eq_true rfl, Nat.le_of_ble_eq_true rfl⟩) hK hP hS hX rfl rfl rfl hl.1 rfl (Nat.le_of_ble_eq_true rfl) d_RangeTellerModel_giveOn_194 ⟨Nat.zero_le _, Nat.zero_le _⟩ (fun H locs hP hS => ?_)
          exact W.vret hx hb hr (fun t ht hW => ⟨⟨_, rfl, Option.some.inj hm, rt_end rtR_Xo hK hP hS hX ht hW⟩, hS.F ht⟩) hS.2.2 d_RangeTellerModel_giveOn_197
      · have hm := (if_neg hc).symm.trans hm
        refine lv_aload_n hx hb d_RangeTellerModel_giveOn_172 rfl (lv_at hl 0 rfl) ?_
        refine lv_iload_n hx hb d_RangeTellerModel_giveOn_173 rfl (lv_at hl 1 rfl) ?_
        refine lv_iconst (v := 1) hx hb d_RangeTellerModel_giveOn_174 (by decide) ?_
        refine lv_iadd hx hb d_RangeTellerModel_giveOn_175 ?_
        obtain ⟨σ9, h8, hm⟩ := rt_b1s hm
        refine rt_cvv (As := [.int (l1 + 1)]) (rest := []) (k := 0) rtR_Xo ⟨hx, hb, hml, hown, hts⟩ (k_R_RangeTellerModel_pass l D cI cZ A hO σ (l1 + 1) _ h8) (cw_RangeTellerModel_pass hts (hts _ (rt_m rt_w1133)) ⟨Nat.le_of_ble_eq_true rfl, Nat.le_of_ble_eq_true rfl⟩) hK hP hS hX rfl rfl rfl hl.1 rfl (Nat.le_of_ble_eq_true rfl) d_RangeTellerModel_giveOn_176 ⟨Nat.zero_le _, Nat.zero_le _⟩ (fun H locs hP hS => ?_)
        refine lv_goto (tgt := 197) hx hb d_RangeTellerModel_giveOn_179 (by decide) ?_
        exact W.vret hx hb hr (fun t ht hW => ⟨⟨_, rfl, Option.some.inj hm, rt_end rtR_Xo hK hP hS hX ht hW⟩, hS.F ht⟩) hS.2.2 d_RangeTellerModel_giveOn_197
    · have hm := (if_pos hc).symm.trans hm
      refine lv_aload_n hx hb d_RangeTellerModel_giveOn_151 rfl (lv_at hl 0 rfl) ?_
      refine lv_aload_n hx hb d_RangeTellerModel_giveOn_152 rfl (lv_at hl 0 rfl) ?_
      refine va_get (D := D) (v := .ref (A 5)) (C := "RangeTellerModel") (T := rt_T6) (N := 69) hx hb hts rt_i6 hown hK hP 0 rfl rfl 10 (by decide) (hts _ (rt_m rt_w857)) (fun _ h9 => h9) rfl d_RangeTellerModel_giveOn_153 ?_
      refine lv_iload_n hx hb d_RangeTellerModel_giveOn_156 rfl (lv_at hl 1 rfl) ?_
      obtain ⟨v10, h11, hm⟩ := rt_b1s hm
      refine rt_ald hx hb hK hP 5 0 rfl rfl h11 d_RangeTellerModel_giveOn_157 ?_
      refine lv_iconst (v := 1) hx hb d_RangeTellerModel_giveOn_158 (by decide) ?_
      refine lv_iadd hx hb d_RangeTellerModel_giveOn_159 ?_
      obtain ⟨σ13, h12, hm⟩ := rt_b1s hm
      refine rt_cvv (As := [.int (v10 + 1)]) (rest := []) (k := 0) rtR_Xo ⟨hx, hb, hml, hown, hts⟩ (k_R_RangeTellerModel_pass l D cI cZ A hO σ (v10 + 1) _ h12) (cw_RangeTellerModel_pass hts (hts _ (rt_m rt_w1133)) ⟨Nat.le_of_ble_eq_true rfl, Nat.le_of_ble_eq_true rfl⟩) hK hP hS hX rfl rfl rfl hl.1 rfl (Nat.le_of_ble_eq_true rfl) d_RangeTellerModel_giveOn_160 ⟨Nat.zero_le _, Nat.zero_le _⟩ (fun H locs hP hS => ?_)
      refine lv_goto (tgt := 197) hx hb d_RangeTellerModel_giveOn_163 (by decide) ?_
      exact W.vret hx hb hr (fun t ht hW => ⟨⟨_, rfl, Option.some.inj hm, rt_end rtR_Xo hK hP hS hX ht hW⟩, hS.F ht⟩) hS.2.2 d_RangeTellerModel_giveOn_197
  have hB138 : ∀ (ls : Array Slot) (l1 : Int32) (σ : rt_St) (H : Heap) (locs : List Loc), lv_has ls 3 [(0, .ref (A 0)), (1, .int l1)] → B_R_RangeTellerModel_giveOn_138 l1 σ = some σ' → va_P D rt_cl (rtR_W cI cZ A σ) H → va_S (rt_A (rtR_W cI cZ A) s.heap.size) s.heap H locs → W p l e ({ frames := 4, cells := 0, slots := 0, locals := 94 } : Room) s m ([.ref (A 0), .int a1] : List Value).toArray below meth c H locs 0 0 (rt_Qv D rt_cl (rt_t cI cZ) rtR_X (rtR_W cI cZ A) below ([.ref (A 0), .int a1] : List Value).toArray s σ') (F0 m 138 ls []) := by
    intro ls l1 σ H locs hl hm hP hS
    unfold B_R_RangeTellerModel_giveOn_138 at hm
    refine lv_aload_n hx hb d_RangeTellerModel_giveOn_138 rfl (lv_at hl 0 rfl) ?_
    refine lv_iload_n hx hb d_RangeTellerModel_giveOn_139 rfl (lv_at hl 1 rfl) ?_
    obtain ⟨σ15, h14, hm⟩ := rt_b1s hm
    refine rt_cvv (As := [.int l1]) (rest := []) (k := 0) rtR_Xo ⟨hx, hb, hml, hown, hts⟩ (k_R_RangeTellerModel_ending l D cI cZ A hO σ l1 _ h14) (cw_RangeTellerModel_ending hts (hts _ (rt_m rt_w1153)) ⟨Nat.le_of_ble_eq_true rfl, Nat.le_of_ble_eq_true rfl⟩) hK hP hS hX rfl rfl rfl hl.1 rfl (Nat.le_of_ble_eq_true rfl) d_RangeTellerModel_giveOn_140 ⟨Nat.zero_le _, Nat.zero_le _⟩ (fun H locs hP hS => ?_)
    refine lv_goto (tgt := 197) hx hb d_RangeTellerModel_giveOn_143 (by decide) ?_
    exact W.vret hx hb hr (fun t ht hW => ⟨⟨_, rfl, Option.some.inj hm, rt_end rtR_Xo hK hP hS hX ht hW⟩, hS.F ht⟩) hS.2.2 d_RangeTellerModel_giveOn_197
  unfold M_R_RangeTellerModel_giveOn at hm
  refine lv_aload_n hx hb d_RangeTellerModel_giveOn_0 rfl (lv_at hl 0 rfl) ?_
  refine lv_iload_n hx hb d_RangeTellerModel_giveOn_1 rfl (lv_at hl 1 rfl) ?_
  obtain ⟨σ17, h16, hm⟩ := rt_b1s hm
  refine rt_cvv (As := [.int a1]) (rest := []) (k := 0) rtR_Xo ⟨hx, hb, hml, hown, hts⟩ (k_R_RangeTellerModel_bring l D cI cZ A hO σ a1 _ h16) (cw_RangeTellerModel_bring hts (hts _ (rt_m rt_w1141)) ⟨Nat.le_of_ble_eq_true rfl, Nat.le_of_ble_eq_true rfl⟩) hK hP hS hX rfl rfl rfl hl.1 rfl (Nat.le_of_ble_eq_true rfl) d_RangeTellerModel_giveOn_2 ⟨Nat.zero_le _, Nat.zero_le _⟩ (fun H locs hP hS => ?_)
  refine lv_aload_n hx hb d_RangeTellerModel_giveOn_5 rfl (lv_at hl 0 rfl) ?_
  refine va_get (D := D) (v := .ref (A 2)) (C := "RangeTellerModel") (T := rt_T6) (N := 69) hx hb hts rt_i6 hown hK hP 0 rfl rfl 7 (by decide) (hts _ (rt_m rt_w854)) (fun _ h9 => h9) rfl d_RangeTellerModel_giveOn_6 ?_
  refine lv_iload_n hx hb d_RangeTellerModel_giveOn_9 rfl (lv_at hl 1 rfl) ?_
  obtain ⟨v18, h19, hm⟩ := rt_b1s hm
  refine rt_ald hx hb hK hP 2 0 rfl rfl h19 d_RangeTellerModel_giveOn_10 ?_
  refine lv_istore_n hx hb d_RangeTellerModel_giveOn_11 rfl hl (by decide) rfl (fun ls hl => ?_)
  have hl : lv_has ls 3 [(2, .int v18), (0, .ref (A 0)), (1, .int a1)] := hl
  refine lv_iload_n hx hb d_RangeTellerModel_giveOn_12 rfl (lv_at hl 0 rfl) ?_
  refine lv_if_ne (tgt := 17) hx hb d_RangeTellerModel_giveOn_13 (by decide) (fun hc => ?_) (fun hc => ?_)
  · have hm := (if_neg hc).symm.trans hm
    refine lv_iload_n hx hb d_RangeTellerModel_giveOn_17 rfl (lv_at hl 0 rfl) ?_
    refine lv_iconst (v := 3) hx hb d_RangeTellerModel_giveOn_18 (by decide) ?_
    refine lv_icmp_eq (tgt := 28) hx hb d_RangeTellerModel_giveOn_19 (by decide) (fun hc => ?_) (fun hc => ?_)
    · have hm := (if_pos hc).symm.trans hm
      exact hB28 ls a1 σ17 _ _ (lv_sub hl [1, 2] rfl) hm hP hS
    · have hm := (if_neg hc).symm.trans hm
      refine lv_iload_n hx hb d_RangeTellerModel_giveOn_22 rfl (lv_at hl 0 rfl) ?_
      refine lv_bipush (v := 7) hx hb d_RangeTellerModel_giveOn_23 (by decide) ?_
      refine lv_icmp_ne (tgt := 36) hx hb d_RangeTellerModel_giveOn_25 (by decide) (fun hc => ?_) (fun hc => ?_)
      · have hm := (if_neg hc).symm.trans hm
        refine lv_iload_n hx hb d_RangeTellerModel_giveOn_36 rfl (lv_at hl 0 rfl) ?_
        refine lv_bipush (v := 6) hx hb d_RangeTellerModel_giveOn_37 (by decide) ?_
        refine lv_icmp_ne (tgt := 50) hx hb d_RangeTellerModel_giveOn_39 (by decide) (fun hc => ?_) (fun hc => ?_)
        · have hm := (if_neg hc).symm.trans hm
          refine lv_iload_n hx hb d_RangeTellerModel_giveOn_50 rfl (lv_at hl 0 rfl) ?_
          refine lv_bipush (v := 8) hx hb d_RangeTellerModel_giveOn_51 (by decide) ?_
          refine lv_icmp_ne (tgt := 64) hx hb d_RangeTellerModel_giveOn_53 (by decide) (fun hc => ?_) (fun hc => ?_)
          · have hm := (if_neg hc).symm.trans hm
            refine lv_iload_n hx hb d_RangeTellerModel_giveOn_64 rfl (lv_at hl 0 rfl) ?_
            refine lv_bipush (v := 9) hx hb d_RangeTellerModel_giveOn_65 (by decide) ?_
            refine lv_icmp_ne (tgt := 78) hx hb d_RangeTellerModel_giveOn_67 (by decide) (fun hc => ?_) (fun hc => ?_)
            · have hm := (if_neg hc).symm.trans hm
              refine lv_iload_n hx hb d_RangeTellerModel_giveOn_78 rfl (lv_at hl 0 rfl) ?_
              refine lv_bipush (v := 15) hx hb d_RangeTellerModel_giveOn_79 (by decide) ?_
              refine lv_icmp_ne (tgt := 92) hx hb d_RangeTellerModel_giveOn_81 (by decide) (fun hc => ?_) (fun hc => ?_)
              · have hm := (if_neg hc).symm.trans hm
                refine lv_iload_n hx hb d_RangeTellerModel_giveOn_92 rfl (lv_at hl 0 rfl) ?_
                refine lv_bipush (v := 16) hx hb d_RangeTellerModel_giveOn_93 (by decide) ?_
                refine lv_icmp_ne (tgt := 106) hx hb d_RangeTellerModel_giveOn_95 (by decide) (fun hc => ?_) (fun hc => ?_)
                · have hm := (if_neg hc).symm.trans hm
                  refine lv_iload_n hx hb d_RangeTellerModel_giveOn_106 rfl (lv_at hl 0 rfl) ?_
                  refine lv_iconst (v := 5) hx hb d_RangeTellerModel_giveOn_107 (by decide) ?_
                  refine lv_icmp_ne (tgt := 146) hx hb d_RangeTellerModel_giveOn_108 (by decide) (fun hc => ?_) (fun hc => ?_)
                  · have hm := (if_neg hc).symm.trans hm
                    exact hB146 ls a1 v18 σ17 _ _ (lv_sub hl [1, 2, 0] rfl) hm hP hS
                  · have hm := (if_pos hc).symm.trans hm
                    refine lv_iload_n hx hb d_RangeTellerModel_giveOn_111 rfl (lv_at hl 2 rfl) ?_
                    refine lv_iconst (v := 1) hx hb d_RangeTellerModel_giveOn_112 (by decide) ?_
                    refine lv_iadd hx hb d_RangeTellerModel_giveOn_113 ?_
                    refine lv_aload_n hx hb d_RangeTellerModel_giveOn_114 rfl (lv_at hl 1 rfl) ?_
                    refine va_get (D := D) (v := .int (σ17 0 6)) (C := "RangeTellerModel") (T := rt_T6) (N := 69) hx hb hts rt_i6 hown hK hP 0 rfl rfl 6 (by decide) (hts _ (rt_m rt_w853)) (fun _ h9 => h9) rfl d_RangeTellerModel_giveOn_115 ?_
                    refine lv_icmp_eq (tgt := 138) hx hb d_RangeTellerModel_giveOn_118 (by decide) (fun hc => ?_) (fun hc => ?_)
                    · have hm := (if_pos hc).symm.trans hm
                      exact hB138 ls a1 σ17 _ _ (lv_sub hl [1, 2] rfl) hm hP hS
                    · have hm := (if_neg hc).symm.trans hm
                      refine lv_aload_n hx hb d_RangeTellerModel_giveOn_121 rfl (lv_at hl 1 rfl) ?_
                      refine va_get (D := D) (v := .ref (A 4)) (C := "RangeTellerModel") (T := rt_T6) (N := 69) hx hb hts rt_i6 hown hK hP 0 rfl rfl 9 (by decide) (hts _ (rt_m rt_w856)) (fun _ h9 => h9) rfl d_RangeTellerModel_giveOn_122 ?_
                      refine lv_iload_n hx hb d_RangeTellerModel_giveOn_125 rfl (lv_at hl 2 rfl) ?_
                      refine lv_iconst (v := 1) hx hb d_RangeTellerModel_giveOn_126 (by decide) ?_
                      refine lv_iadd hx hb d_RangeTellerModel_giveOn_127 ?_
                      obtain ⟨v20, h21, hm⟩ := rt_b1s hm
                      refine rt_ald hx hb hK hP 4 0 rfl rfl h21 d_RangeTellerModel_giveOn_128 ?_
                      refine lv_aload_n hx hb d_RangeTellerModel_giveOn_129 rfl (lv_at hl 1 rfl) ?_
                      refine va_get (D := D) (v := .ref (A 4)) (C := "RangeTellerModel") (T := rt_T6) (N := 69) hx hb hts rt_i6 hown hK hP 0 rfl rfl 9 (by decide) (hts _ (rt_m rt_w856)) (fun _ h9 => h9) rfl d_RangeTellerModel_giveOn_130 ?_
                      refine lv_iload_n hx hb d_RangeTellerModel_giveOn_133 rfl (lv_at hl 2 rfl) ?_
                      obtain ⟨v22, h23, hm⟩ := rt_b1s hm
                      refine rt_ald hx hb hK hP 4 0 rfl rfl h23 d_RangeTellerModel_giveOn_134 ?_
                      refine lv_icmp_eq (tgt := 146) hx hb d_RangeTellerModel_giveOn_135 (by decide) (fun hc => ?_) (fun hc => ?_)
                      · have hm := (if_pos hc).symm.trans hm
                        exact hB146 ls a1 v18 σ17 _ _ (lv_sub hl [1, 2, 0] rfl) hm hP hS
                      · have hm := (if_neg hc).symm.trans hm
                        exact hB138 ls a1 σ17 _ _ (lv_sub hl [1, 2] rfl) hm hP hS
                · have hm := (if_pos hc).symm.trans hm
                  refine lv_aload_n hx hb d_RangeTellerModel_giveOn_98 rfl (lv_at hl 1 rfl) ?_
                  refine lv_iload_n hx hb d_RangeTellerModel_giveOn_99 rfl (lv_at hl 2 rfl) ?_
                  obtain ⟨σ25, h24, hm⟩ := rt_b1s hm
                  refine rt_cvv (As := [.int a1]) (rest := []) (k := 0) rtR_Xo ⟨hx, hb, hml, hown, hts⟩ (k_R_RangeTellerModel_store1 l D cI cZ A hO σ17 a1 _ h24) (cw_RangeTellerModel_store1 hts (hts _ (rt_m rt_w1181)) ⟨Nat.le_of_ble_eq_true rfl, Nat.le_of_ble_eq_true rfl⟩) hK hP hS hX rfl rfl rfl hl.1 rfl (Nat.le_of_ble_eq_true rfl) d_RangeTellerModel_giveOn_100 ⟨Nat.zero_le _, Nat.zero_le _⟩ (fun H locs hP hS => ?_)
                  refine lv_goto (tgt := 197) hx hb d_RangeTellerModel_giveOn_103 (by decide) ?_
                  exact W.vret hx hb hr (fun t ht hW => ⟨⟨_, rfl, Option.some.inj hm, rt_end rtR_Xo hK hP hS hX ht hW⟩, hS.F ht⟩) hS.2.2 d_RangeTellerModel_giveOn_197
              · have hm := (if_pos hc).symm.trans hm
                refine lv_aload_n hx hb d_RangeTellerModel_giveOn_84 rfl (lv_at hl 1 rfl) ?_
                refine lv_iload_n hx hb d_RangeTellerModel_giveOn_85 rfl (lv_at hl 2 rfl) ?_
                obtain ⟨σ27, h26, hm⟩ := rt_b1s hm
                refine rt_cvv (As := [.int a1]) (rest := []) (k := 0) rtR_Xo ⟨hx, hb, hml, hown, hts⟩ (k_R_RangeTellerModel_load1 l D cI cZ A hO σ17 a1 _ h26) (cw_RangeTellerModel_load1 hts (hts _ (rt_m rt_w1169)) ⟨Nat.le_of_ble_eq_true rfl, Nat.le_of_ble_eq_true rfl⟩) hK hP hS hX rfl rfl rfl hl.1 rfl (Nat.le_of_ble_eq_true rfl) d_RangeTellerModel_giveOn_86 ⟨Nat.zero_le _, Nat.zero_le _⟩ (fun H locs hP hS => ?_)
                refine lv_goto (tgt := 197) hx hb d_RangeTellerModel_giveOn_89 (by decide) ?_
                exact W.vret hx hb hr (fun t ht hW => ⟨⟨_, rfl, Option.some.inj hm, rt_end rtR_Xo hK hP hS hX ht hW⟩, hS.F ht⟩) hS.2.2 d_RangeTellerModel_giveOn_197
            · have hm := (if_pos hc).symm.trans hm
              refine lv_aload_n hx hb d_RangeTellerModel_giveOn_70 rfl (lv_at hl 1 rfl) ?_
              refine lv_iload_n hx hb d_RangeTellerModel_giveOn_71 rfl (lv_at hl 2 rfl) ?_
              obtain ⟨σ29, h28, hm⟩ := rt_b1s hm
              refine rt_cvv (As := [.int a1]) (rest := []) (k := 0) rtR_Xo ⟨hx, hb, hml, hown, hts⟩ (k_R_RangeTellerModel_passCall l D cI cZ A hO σ17 a1 _ h28) (cw_RangeTellerModel_passCall hts (hts _ (rt_m rt_w1165)) ⟨Nat.le_of_ble_eq_true rfl, Nat.le_of_ble_eq_true rfl⟩) hK hP hS hX rfl rfl rfl hl.1 rfl (Nat.le_of_ble_eq_true rfl) d_RangeTellerModel_giveOn_72 ⟨Nat.zero_le _, Nat.zero_le _⟩ (fun H locs hP hS => ?_)
              refine lv_goto (tgt := 197) hx hb d_RangeTellerModel_giveOn_75 (by decide) ?_
              exact W.vret hx hb hr (fun t ht hW => ⟨⟨_, rfl, Option.some.inj hm, rt_end rtR_Xo hK hP hS hX ht hW⟩, hS.F ht⟩) hS.2.2 d_RangeTellerModel_giveOn_197
          · have hm := (if_pos hc).symm.trans hm
            refine lv_aload_n hx hb d_RangeTellerModel_giveOn_56 rfl (lv_at hl 1 rfl) ?_
            refine lv_iload_n hx hb d_RangeTellerModel_giveOn_57 rfl (lv_at hl 2 rfl) ?_
            obtain ⟨σ31, h30, hm⟩ := rt_b1s hm
            refine rt_cvv (As := [.int a1]) (rest := []) (k := 0) rtR_Xo ⟨hx, hb, hml, hown, hts⟩ (k_R_RangeTellerModel_ending l D cI cZ A hO σ17 a1 _ h30) (cw_RangeTellerModel_ending hts (hts _ (rt_m rt_w1153)) ⟨Nat.le_of_ble_eq_true rfl, Nat.le_of_ble_eq_true rfl⟩) hK hP hS hX rfl rfl rfl hl.1 rfl (Nat.le_of_ble_eq_true rfl) d_RangeTellerModel_giveOn_58 ⟨Nat.zero_le _, Nat.zero_le _⟩ (fun H locs hP hS => ?_)
            refine lv_goto (tgt := 197) hx hb d_RangeTellerModel_giveOn_61 (by decide) ?_
            exact W.vret hx hb hr (fun t ht hW => ⟨⟨_, rfl, Option.some.inj hm, rt_end rtR_Xo hK hP hS hX ht hW⟩, hS.F ht⟩) hS.2.2 d_RangeTellerModel_giveOn_197
        · have hm := (if_pos hc).symm.trans hm
          refine lv_aload_n hx hb d_RangeTellerModel_giveOn_42 rfl (lv_at hl 1 rfl) ?_
          refine lv_iload_n hx hb d_RangeTellerModel_giveOn_43 rfl (lv_at hl 2 rfl) ?_
          obtain ⟨σ33, h32, hm⟩ := rt_b1s hm
          refine rt_cvv (As := [.int a1]) (rest := []) (k := 0) rtR_Xo ⟨hx, hb, hml, hown, hts⟩ (k_R_RangeTellerModel_passBranch l D cI cZ A hO σ17 a1 _ h32) (cw_RangeTellerModel_passBranch hts (hts _ (rt_m rt_w1149)) ⟨Nat.le_of_ble_eq_true rfl, Nat.le_of_ble_eq_true rfl⟩) hK hP hS hX rfl rfl rfl hl.1 rfl (Nat.le_of_ble_eq_true rfl) d_RangeTellerModel_giveOn_44 ⟨Nat.zero_le _, Nat.zero_le _⟩ (fun H locs hP hS => ?_)
          refine lv_goto (tgt := 197) hx hb d_RangeTellerModel_giveOn_47 (by decide) ?_
          exact W.vret hx hb hr (fun t ht hW => ⟨⟨_, rfl, Option.some.inj hm, rt_end rtR_Xo hK hP hS hX ht hW⟩, hS.F ht⟩) hS.2.2 d_RangeTellerModel_giveOn_197
      · have hm := (if_pos hc).symm.trans hm
        exact hB28 ls a1 σ17 _ _ (lv_sub hl [1, 2] rfl) hm hP hS
  · have hm := (if_pos hc).symm.trans hm
    exact W.vret hx hb hr (fun t ht hW => ⟨⟨_, rfl, Option.some.inj hm, rt_end rtR_Xo hK hP hS hX ht hW⟩, hS.F ht⟩) hS.2.2 d_RangeTellerModel_giveOn_16
