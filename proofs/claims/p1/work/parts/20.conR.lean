set_option maxHeartbeats 4000000 in
set_option maxRecDepth 100000 in
theorem k_R_RangeTellerModel_feed (l : Launch) (D : va_G) (cI cZ : ClassId) (A : Nat → Nat) (hO : rt_Ok (rtR_W cI cZ A)) (σ : rt_St) (a1 : Int32) (r' : Int32) (σ' : rt_St) (hm : M_R_RangeTellerModel_feed σ a1 = some (r', σ')) (sz : Nat) : Met l y_RangeTellerModel_feed (rt_ws y_RangeTellerModel_feed b_RangeTellerModel_feed 2 (some .boolean)) ({ frames := 0, cells := 0, slots := 0, locals := 0 } : Room) (va_Pc [.ref (A 0), .int a1] (rt_P D rt_cl (rt_t cI cZ) rtR_X (rtR_W cI cZ A) sz σ)) (va_Qi (fun r1 u1 => r1 = r' ∧ u1 = σ') (rt_B D rt_cl (rt_t cI cZ) rtR_X (rtR_W cI cZ A)) (rt_A (rtR_W cI cZ A) sz)) 0 0 (rt_A (rtR_W cI cZ A) sz) := by
  refine Met.ofW (cc := b_RangeTellerModel_feed) (maxL := 2) (ret := (some .boolean)) (by decide) rfl ?_
  intro p e s m args below meth c s₁ B hml hv
  obtain ⟨rfl, rfl, hP, hK, hX⟩ := hv
  have hx := B.exec
  have hb := B.bytes
  have hr := B.returns
  have hts := atoms_spec (ws := (rt_ws y_RangeTellerModel_feed b_RangeTellerModel_feed 2 (some .boolean))) B.pre
  have hown : s.vm.findClass "RangeTellerModel" = some m.cls := findClass_of_methodNamed B.named
  have hlocks := B.notSynchronized
  have hD := rt_hD hO s.heap.size
  have hS : va_S (rt_A (rtR_W cI cZ A) s.heap.size) s.heap s.heap [] := va_S.rf
  have hl := lv_entry ([.ref (A 0), .int a1]) (n := 2) (Nat.le_of_ble_eq_true rfl)
  rw [lg_entry_eq]
  generalize (lg_sl ([.ref (A 0), .int a1]) ++ List.replicate (2 - (lg_sl ([.ref (A 0), .int a1])).length) Slot.unset).toArray = ls at hl ⊢
  have hl : lv_has ls 2 [(0, .ref (A 0)), (1, .int a1)] := hl
  show W p l e ({ frames := 0, cells := 0, slots := 0, locals := 0 } : Room) s m ([.ref (A 0), .int a1] : List Value).toArray below meth c s.heap [] 0 0 (rt_Qi D rt_cl (rt_t cI cZ) rtR_X (rtR_W cI cZ A) below ([.ref (A 0), .int a1] : List Value).toArray s r' σ') (F0 m 0 ls [])
  unfold M_R_RangeTellerModel_feed at hm
  refine lv_iload_n hx hb d_RangeTellerModel_feed_0 rfl (lv_at hl 1 rfl) ?_
  refine lv_if_lt (tgt := 19) hx hb d_RangeTellerModel_feed_1 (by decide) (fun hc => ?_) (fun hc => ?_)
  · have hm := (if_pos hc).symm.trans hm
    refine lv_iconst (v := 0) hx hb d_RangeTellerModel_feed_19 (by decide) ?_
    exact W.zret hx hb hr rfl (fun t ht hW => ⟨⟨_, _, rfl, rt_pr hm, rt_end rtR_Xo hK hP hS hX ht hW⟩, hS.F ht⟩) hS.2.2 d_RangeTellerModel_feed_20
  · have hm := (if_neg hc).symm.trans hm
    refine lv_iload_n hx hb d_RangeTellerModel_feed_4 rfl (lv_at hl 1 rfl) ?_
    refine lv_bipush (v := 63) hx hb d_RangeTellerModel_feed_5 (by decide) ?_
    refine lv_icmp_gt (tgt := 19) hx hb d_RangeTellerModel_feed_7 (by decide) (fun hc => ?_) (fun hc => ?_)
    · have hm := (if_pos hc).symm.trans hm
      refine lv_iconst (v := 0) hx hb d_RangeTellerModel_feed_19 (by decide) ?_
      exact W.zret hx hb hr rfl (fun t ht hW => ⟨⟨_, _, rfl, rt_pr hm, rt_end rtR_Xo hK hP hS hX ht hW⟩, hS.F ht⟩) hS.2.2 d_RangeTellerModel_feed_20
    · have hm := (if_neg hc).symm.trans hm
      refine lv_aload_n hx hb d_RangeTellerModel_feed_10 rfl (lv_at hl 0 rfl) ?_
      refine va_get (D := D) (v := .int (σ 0 0)) (C := "RangeTellerModel") (T := rt_T6) (N := 69) hx hb hts rt_i6 hown hK hP 0 rfl rfl 0 (by decide) (hts _ (rt_m rt_w847)) (fun _ h9 => h9) rfl d_RangeTellerModel_feed_11 ?_
      refine lv_bipush (v := 100) hx hb d_RangeTellerModel_feed_14 (by decide) ?_
      refine lv_icmp_ne (tgt := 21) hx hb d_RangeTellerModel_feed_16 (by decide) (fun hc => ?_) (fun hc => ?_)
      · have hm := (if_neg hc).symm.trans hm
        refine lv_aload_n hx hb d_RangeTellerModel_feed_21 rfl (lv_at hl 0 rfl) ?_
        refine va_get (D := D) (v := .ref (A 1)) (C := "RangeTellerModel") (T := rt_T6) (N := 69) hx hb hts rt_i6 hown hK hP 0 rfl rfl 1 (by decide) (hts _ (rt_m rt_w848)) (fun _ h9 => h9) rfl d_RangeTellerModel_feed_22 ?_
        refine lv_aload_n hx hb d_RangeTellerModel_feed_25 rfl (lv_at hl 0 rfl) ?_
        refine va_get (D := D) (v := .int (σ 0 0)) (C := "RangeTellerModel") (T := rt_T6) (N := 69) hx hb hts rt_i6 hown hK hP 0 rfl rfl 0 (by decide) (hts _ (rt_m rt_w847)) (fun _ h9 => h9) rfl d_RangeTellerModel_feed_26 ?_
        refine lv_iload_n hx hb d_RangeTellerModel_feed_29 rfl (lv_at hl 1 rfl) ?_
        obtain ⟨σ1, h2, hm⟩ := rt_b1s hm
        refine rt_ast hx hb hK hP hD hS 1 0 rfl (rtR_a1 cI cZ A _) rfl h2 d_RangeTellerModel_feed_30 (fun H locs hP hS => ?_)
        refine lv_aload_n hx hb d_RangeTellerModel_feed_31 rfl (lv_at hl 0 rfl) ?_
        refine lv_dup hx hb d_RangeTellerModel_feed_32 rfl ?_
        refine va_get (D := D) (v := .int (σ1 0 0)) (C := "RangeTellerModel") (T := rt_T6) (N := 69) hx hb hts rt_i6 hown hK hP 0 rfl rfl 0 (by decide) (hts _ (rt_m rt_w847)) (fun _ h9 => h9) rfl d_RangeTellerModel_feed_33 ?_
        refine lv_iconst (v := 1) hx hb d_RangeTellerModel_feed_36 (by decide) ?_
        refine lv_iadd hx hb d_RangeTellerModel_feed_37 ?_
        obtain ⟨σ3, h4, hm⟩ := rt_b1s hm
        refine rt_pf (D := D) (C := "RangeTellerModel") (T := rt_T6) (N := 69) (ty := .int) hx hb hts rt_i6 rt_y6 rt_o6 rt_n6 hown hK hP hD hS 0 rfl rfl 0 (by decide) (hts _ (rt_m rt_w847)) (fun _ h9 => h9) rfl (by decide +kernel) rfl rfl (Nat.le_of_ble_eq_true rfl) (rtR_s0_0 cI cZ A _ _) h4 d_RangeTellerModel_feed_38 (fun H locs hP hS => ?_)
        refine lv_iconst (v := 1) hx hb d_RangeTellerModel_feed_41 (by decide) ?_
        exact W.zret hx hb hr rfl (fun t ht hW => ⟨⟨_, _, rfl, rt_pr hm, rt_end rtR_Xo hK hP hS hX ht hW⟩, hS.F ht⟩) hS.2.2 d_RangeTellerModel_feed_42
      · have hm := (if_pos hc).symm.trans hm
        refine lv_iconst (v := 0) hx hb d_RangeTellerModel_feed_19 (by decide) ?_
        exact W.zret hx hb hr rfl (fun t ht hW => ⟨⟨_, _, rfl, rt_pr hm, rt_end rtR_Xo hK hP hS hX ht hW⟩, hS.F ht⟩) hS.2.2 d_RangeTellerModel_feed_20
set_option maxHeartbeats 4000000 in
set_option maxRecDepth 100000 in
theorem k_R_RangeTellerModel_take (l : Launch) (D : va_G) (cI cZ : ClassId) (A : Nat → Nat) (hO : rt_Ok (rtR_W cI cZ A)) (σ : rt_St) (r' : Int32) (σ' : rt_St) (hm : M_R_RangeTellerModel_take σ = some (r', σ')) (sz : Nat) : Met l y_RangeTellerModel_take (rt_ws y_RangeTellerModel_take b_RangeTellerModel_take 1 (some .int)) ({ frames := 0, cells := 0, slots := 0, locals := 0 } : Room) (va_Pc [.ref (A 0)] (rt_P D rt_cl (rt_t cI cZ) rtR_X (rtR_W cI cZ A) sz σ)) (va_Qi (fun r1 u1 => r1 = r' ∧ u1 = σ') (rt_B D rt_cl (rt_t cI cZ) rtR_X (rtR_W cI cZ A)) (rt_A (rtR_W cI cZ A) sz)) 0 0 (rt_A (rtR_W cI cZ A) sz) := by
  refine Met.ofW (cc := b_RangeTellerModel_take) (maxL := 1) (ret := (some .int)) (by decide) rfl ?_
  intro p e s m args below meth c s₁ B hml hv
  obtain ⟨rfl, rfl, hP, hK, hX⟩ := hv
  have hx := B.exec
  have hb := B.bytes
  have hr := B.returns
  have hts := atoms_spec (ws := (rt_ws y_RangeTellerModel_take b_RangeTellerModel_take 1 (some .int))) B.pre
  have hown : s.vm.findClass "RangeTellerModel" = some m.cls := findClass_of_methodNamed B.named
  have hlocks := B.notSynchronized
  have hD := rt_hD hO s.heap.size
  have hS : va_S (rt_A (rtR_W cI cZ A) s.heap.size) s.heap s.heap [] := va_S.rf
  have hl := lv_entry ([.ref (A 0)]) (n := 1) (Nat.le_of_ble_eq_true rfl)
  rw [lg_entry_eq]
  generalize (lg_sl ([.ref (A 0)]) ++ List.replicate (1 - (lg_sl ([.ref (A 0)])).length) Slot.unset).toArray = ls at hl ⊢
  have hl : lv_has ls 1 [(0, .ref (A 0))] := hl
  show W p l e ({ frames := 0, cells := 0, slots := 0, locals := 0 } : Room) s m ([.ref (A 0)] : List Value).toArray below meth c s.heap [] 0 0 (rt_Qi D rt_cl (rt_t cI cZ) rtR_X (rtR_W cI cZ A) below ([.ref (A 0)] : List Value).toArray s r' σ') (F0 m 0 ls [])
  unfold M_R_RangeTellerModel_take at hm
  refine lv_aload_n hx hb d_RangeTellerModel_take_0 rfl (lv_at hl 0 rfl) ?_
  refine va_get (D := D) (v := .int (σ 0 2)) (C := "RangeTellerModel") (T := rt_T6) (N := 69) hx hb hts rt_i6 hown hK hP 0 rfl rfl 2 (by decide) (hts _ (rt_m rt_w849)) (fun _ h9 => h9) rfl d_RangeTellerModel_take_1 ?_
  refine lv_aload_n hx hb d_RangeTellerModel_take_4 rfl (lv_at hl 0 rfl) ?_
  refine va_get (D := D) (v := .int (σ 0 0)) (C := "RangeTellerModel") (T := rt_T6) (N := 69) hx hb hts rt_i6 hown hK hP 0 rfl rfl 0 (by decide) (hts _ (rt_m rt_w847)) (fun _ h9 => h9) rfl d_RangeTellerModel_take_5 ?_
  refine lv_icmp_lt (tgt := 18) hx hb d_RangeTellerModel_take_8 (by decide) (fun hc => ?_) (fun hc => ?_)
  · have hm := (if_pos hc).symm.trans hm
    refine lv_aload_n hx hb d_RangeTellerModel_take_18 rfl (lv_at hl 0 rfl) ?_
    refine lv_dup hx hb d_RangeTellerModel_take_19 rfl ?_
    refine va_get (D := D) (v := .int (σ 0 2)) (C := "RangeTellerModel") (T := rt_T6) (N := 69) hx hb hts rt_i6 hown hK hP 0 rfl rfl 2 (by decide) (hts _ (rt_m rt_w849)) (fun _ h9 => h9) rfl d_RangeTellerModel_take_20 ?_
    refine lv_iconst (v := 1) hx hb d_RangeTellerModel_take_23 (by decide) ?_
    refine lv_iadd hx hb d_RangeTellerModel_take_24 ?_
    obtain ⟨σ1, h2, hm⟩ := rt_b1s hm
    refine rt_pf (D := D) (C := "RangeTellerModel") (T := rt_T6) (N := 69) (ty := .int) hx hb hts rt_i6 rt_y6 rt_o6 rt_n6 hown hK hP hD hS 0 rfl rfl 2 (by decide) (hts _ (rt_m rt_w849)) (fun _ h9 => h9) rfl (by decide +kernel) rfl rfl (Nat.le_of_ble_eq_true rfl) (rtR_s0_2 cI cZ A _ _) h2 d_RangeTellerModel_take_25 (fun H locs hP hS => ?_)
    refine lv_aload_n hx hb d_RangeTellerModel_take_28 rfl (lv_at hl 0 rfl) ?_
    refine va_get (D := D) (v := .ref (A 1)) (C := "RangeTellerModel") (T := rt_T6) (N := 69) hx hb hts rt_i6 hown hK hP 0 rfl rfl 1 (by decide) (hts _ (rt_m rt_w848)) (fun _ h9 => h9) rfl d_RangeTellerModel_take_29 ?_
    refine lv_aload_n hx hb d_RangeTellerModel_take_32 rfl (lv_at hl 0 rfl) ?_
    refine va_get (D := D) (v := .int (σ1 0 2)) (C := "RangeTellerModel") (T := rt_T6) (N := 69) hx hb hts rt_i6 hown hK hP 0 rfl rfl 2 (by decide) (hts _ (rt_m rt_w849)) (fun _ h9 => h9) rfl d_RangeTellerModel_take_33 ?_
    refine lv_iconst (v := 1) hx hb d_RangeTellerModel_take_36 (by decide) ?_
    refine lv_isub hx hb d_RangeTellerModel_take_37 ?_
    obtain ⟨v3, h4, hm⟩ := rt_b1s hm
    refine rt_ald hx hb hK hP 1 0 rfl rfl h4 d_RangeTellerModel_take_38 ?_
    exact W.iret hx hb hr (fun t ht hW => ⟨⟨_, _, rfl, rt_pr hm, rt_end rtR_Xo hK hP hS hX ht hW⟩, hS.F ht⟩) hS.2.2 d_RangeTellerModel_take_39
  · have hm := (if_neg hc).symm.trans hm
    refine lv_aload_n hx hb d_RangeTellerModel_take_11 rfl (lv_at hl 0 rfl) ?_
    refine lv_iconst (v := 1) hx hb d_RangeTellerModel_take_12 (by decide) ?_
    obtain ⟨σ5, h6, hm⟩ := rt_b1s hm
    refine rt_pf (D := D) (C := "RangeTellerModel") (T := rt_T6) (N := 69) (ty := .boolean) hx hb hts rt_i6 rt_y6 rt_o6 rt_n6 hown hK hP hD hS 0 rfl rfl 3 (by decide) (hts _ (rt_m rt_w850)) (fun _ h9 => h9) rfl (by decide +kernel) rfl rfl (Nat.le_of_ble_eq_true rfl) (rtR_s0_3 cI cZ A _ _) h6 d_RangeTellerModel_take_13 (fun H locs hP hS => ?_)
    refine lv_iconst (v := 0) hx hb d_RangeTellerModel_take_16 (by decide) ?_
    exact W.iret hx hb hr (fun t ht hW => ⟨⟨_, _, rfl, rt_pr hm, rt_end rtR_Xo hK hP hS hX ht hW⟩, hS.F ht⟩) hS.2.2 d_RangeTellerModel_take_17
set_option maxHeartbeats 4000000 in
set_option maxRecDepth 100000 in
theorem k_R_RangeTellerModel_number (l : Launch) (D : va_G) (cI cZ : ClassId) (A : Nat → Nat) (hO : rt_Ok (rtR_W cI cZ A)) (σ : rt_St) (a1 a2 : Int32) (r' : Int32) (σ' : rt_St) (hm : M_R_RangeTellerModel_number σ a1 a2 = some (r', σ')) (sz : Nat) : Met l y_RangeTellerModel_number (rt_ws y_RangeTellerModel_number b_RangeTellerModel_number 6 (some .int)) ({ frames := 1, cells := 0, slots := 0, locals := 20 } : Room) (va_Pc [.ref (A 0), .int a1, .int a2] (rt_P D rt_cl (rt_t cI cZ) rtR_X (rtR_W cI cZ A) sz σ)) (va_Qi (fun r1 u1 => r1 = r' ∧ u1 = σ') (rt_B D rt_cl (rt_t cI cZ) rtR_X (rtR_W cI cZ A)) (rt_A (rtR_W cI cZ A) sz)) 0 0 (rt_A (rtR_W cI cZ A) sz) := by
  refine Met.ofW (cc := b_RangeTellerModel_number) (maxL := 6) (ret := (some .int)) (by decide) rfl ?_
  intro p e s m args below meth c s₁ B hml hv
  obtain ⟨rfl, rfl, hP, hK, hX⟩ := hv
  have hx := B.exec
  have hb := B.bytes
  have hr := B.returns
  have hts := atoms_spec (ws := (rt_ws y_RangeTellerModel_number b_RangeTellerModel_number 6 (some .int))) B.pre
  have hown : s.vm.findClass "RangeTellerModel" = some m.cls := findClass_of_methodNamed B.named
  have hlocks := B.notSynchronized
  have hD := rt_hD hO s.heap.size
  have hS : va_S (rt_A (rtR_W cI cZ A) s.heap.size) s.heap s.heap [] := va_S.rf
  have hl := lv_entry ([.ref (A 0), .int a1, .int a2]) (n := 6) (Nat.le_of_ble_eq_true rfl)
  rw [lg_entry_eq]
  generalize (lg_sl ([.ref (A 0), .int a1, .int a2]) ++ List.replicate (6 - (lg_sl ([.ref (A 0), .int a1, .int a2])).length) Slot.unset).toArray = ls at hl ⊢
  have hl : lv_has ls 6 [(0, .ref (A 0)), (1, .int a1), (2, .int a2)] := hl
  show W p l e ({ frames := 1, cells := 0, slots := 0, locals := 20 } : Room) s m ([.ref (A 0), .int a1, .int a2] : List Value).toArray below meth c s.heap [] 0 0 (rt_Qi D rt_cl (rt_t cI cZ) rtR_X (rtR_W cI cZ A) below ([.ref (A 0), .int a1, .int a2] : List Value).toArray s r' σ') (F0 m 0 ls [])
  have hB85 : ∀ (ls : Array Slot) (l4 : Int32) (σ : rt_St) (H : Heap) (locs : List Loc), lv_has ls 6 [(0, .ref (A 0)), (4, .int l4)] → B_R_RangeTellerModel_number_85 l4 σ = some (r', σ') → va_P D rt_cl (rtR_W cI cZ A σ) H → va_S (rt_A (rtR_W cI cZ A) s.heap.size) s.heap H locs → W p l e ({ frames := 1, cells := 0, slots := 0, locals := 20 } : Room) s m ([.ref (A 0), .int a1, .int a2] : List Value).toArray below meth c H locs 0 0 (rt_Qi D rt_cl (rt_t cI cZ) rtR_X (rtR_W cI cZ A) below ([.ref (A 0), .int a1, .int a2] : List Value).toArray s r' σ') (F0 m 85 ls []) := by
    intro ls l4 σ H locs hl hm hP hS
    unfold B_R_RangeTellerModel_number_85 at hm
    refine lv_aload_n hx hb d_RangeTellerModel_number_85 rfl (lv_at hl 0 rfl) ?_
    refine lv_iconst (v := 1) hx hb d_RangeTellerModel_number_86 (by decide) ?_
    obtain ⟨σ1, h2, hm⟩ := rt_b1s hm
    refine rt_pf (D := D) (C := "RangeTellerModel") (T := rt_T6) (N := 69) (ty := .boolean) hx hb hts rt_i6 rt_y6 rt_o6 rt_n6 hown hK hP hD hS 0 rfl rfl 3 (by decide) (hts _ (rt_m rt_w850)) (fun _ h9 => h9) rfl (by decide +kernel) rfl rfl (Nat.le_of_ble_eq_true rfl) (rtR_s0_3 cI cZ A _ _) h2 d_RangeTellerModel_number_87 (fun H locs hP hS => ?_)
    refine lv_aload_n hx hb d_RangeTellerModel_number_90 rfl (lv_at hl 0 rfl) ?_
    refine lv_dup hx hb d_RangeTellerModel_number_91 rfl ?_
    refine va_get (D := D) (v := .int (σ1 0 2)) (C := "RangeTellerModel") (T := rt_T6) (N := 69) hx hb hts rt_i6 hown hK hP 0 rfl rfl 2 (by decide) (hts _ (rt_m rt_w849)) (fun _ h9 => h9) rfl d_RangeTellerModel_number_92 ?_
    refine lv_iconst (v := 1) hx hb d_RangeTellerModel_number_95 (by decide) ?_
    refine lv_isub hx hb d_RangeTellerModel_number_96 ?_
    obtain ⟨σ3, h4, hm⟩ := rt_b1s hm
    refine rt_pf (D := D) (C := "RangeTellerModel") (T := rt_T6) (N := 69) (ty := .int) hx hb hts rt_i6 rt_y6 rt_o6 rt_n6 hown hK hP hD hS 0 rfl rfl 2 (by decide) (hts _ (rt_m rt_w849)) (fun _ h9 => h9) rfl (by decide +kernel) rfl rfl (Nat.le_of_ble_eq_true rfl) (rtR_s0_2 cI cZ A _ _) h4 d_RangeTellerModel_number_97 (fun H locs hP hS => ?_)
    refine lv_iload hx hb d_RangeTellerModel_number_100 (lv_at hl 1 rfl) ?_
    exact W.iret hx hb hr (fun t ht hW => ⟨⟨_, _, rfl, rt_pr hm, rt_end rtR_Xo hK hP hS hX ht hW⟩, hS.F ht⟩) hS.2.2 d_RangeTellerModel_number_102
  have hB73 : ∀ (ls : Array Slot) (l1 l2 l4 : Int32) (σ : rt_St) (H : Heap) (locs : List Loc), lv_has ls 6 [(0, .ref (A 0)), (1, .int l1), (2, .int l2), (4, .int l4)] → B_R_RangeTellerModel_number_73 l1 l2 l4 σ = some (r', σ') → va_P D rt_cl (rtR_W cI cZ A σ) H → va_S (rt_A (rtR_W cI cZ A) s.heap.size) s.heap H locs → W p l e ({ frames := 1, cells := 0, slots := 0, locals := 20 } : Room) s m ([.ref (A 0), .int a1, .int a2] : List Value).toArray below meth c H locs 0 0 (rt_Qi D rt_cl (rt_t cI cZ) rtR_X (rtR_W cI cZ A) below ([.ref (A 0), .int a1, .int a2] : List Value).toArray s r' σ') (F0 m 73 ls []) := by
    intro ls l1 l2 l4 σ H locs hl hm hP hS
    unfold B_R_RangeTellerModel_number_73 at hm
    refine lv_iload hx hb d_RangeTellerModel_number_73 (lv_at hl 3 rfl) ?_
    refine lv_iload_n hx hb d_RangeTellerModel_number_75 rfl (lv_at hl 1 rfl) ?_
    refine lv_icmp_lt (tgt := 85) hx hb d_RangeTellerModel_number_76 (by decide) (fun hc => ?_) (fun hc => ?_)
    · have hm := (if_pos hc).symm.trans hm
      exact hB85 ls l4 σ _ _ (lv_sub hl [0, 3] rfl) hm hP hS
    · have hm := (if_neg hc).symm.trans hm
      refine lv_iload hx hb d_RangeTellerModel_number_79 (lv_at hl 3 rfl) ?_
      refine lv_iload_n hx hb d_RangeTellerModel_number_81 rfl (lv_at hl 2 rfl) ?_
      refine lv_icmp_le (tgt := 100) hx hb d_RangeTellerModel_number_82 (by decide) (fun hc => ?_) (fun hc => ?_)
      · have hm := (if_pos hc).symm.trans hm
        refine lv_iload hx hb d_RangeTellerModel_number_100 (lv_at hl 3 rfl) ?_
        exact W.iret hx hb hr (fun t ht hW => ⟨⟨_, _, rfl, rt_pr hm, rt_end rtR_Xo hK hP hS hX ht hW⟩, hS.F ht⟩) hS.2.2 d_RangeTellerModel_number_102
      · have hm := (if_neg hc).symm.trans hm
        exact hB85 ls l4 σ _ _ (lv_sub hl [0, 3] rfl) hm hP hS
  unfold M_R_RangeTellerModel_number at hm
  refine lv_aload_n hx hb d_RangeTellerModel_number_0 rfl (lv_at hl 0 rfl) ?_
  obtain ⟨v7, σ6, h5, hm⟩ := rt_b2s hm
  refine rt_cvi (As := []) (rest := []) (k := 0) rtR_Xo ⟨hx, hb, hml, hown, hts⟩ (k_R_RangeTellerModel_take l D cI cZ A hO σ _ _ h5) (cw_RangeTellerModel_take hts (hts _ (rt_m rt_w1071)) ⟨Nat.le_of_ble_eq_true rfl, Nat.le_of_ble_eq_true rfl⟩) hK hP hS hX rfl rfl rfl hl.1 rfl (Nat.le_of_ble_eq_true rfl) d_RangeTellerModel_number_1 ⟨Nat.zero_le _, Nat.zero_le _⟩ (fun H locs hP hS => ?_)
  refine lv_istore_n hx hb d_RangeTellerModel_number_4 rfl hl (by decide) rfl (fun ls hl => ?_)
  have hl : lv_has ls 6 [(3, .int v7), (0, .ref (A 0)), (1, .int a1), (2, .int a2)] := hl
  refine lv_aload_n hx hb d_RangeTellerModel_number_5 rfl (lv_at hl 1 rfl) ?_
  refine va_get (D := D) (v := .int (σ6 0 3)) (C := "RangeTellerModel") (T := rt_T6) (N := 69) hx hb hts rt_i6 hown hK hP 0 rfl rfl 3 (by decide) (hts _ (rt_m rt_w850)) (fun _ h9 => h9) rfl d_RangeTellerModel_number_6 ?_
  refine lv_if_eq (tgt := 14) hx hb d_RangeTellerModel_number_9 (by decide) (fun hc => ?_) (fun hc => ?_)
  · have hm := (if_pos hc).symm.trans hm
    refine lv_iload_n hx hb d_RangeTellerModel_number_14 rfl (lv_at hl 0 rfl) ?_
    refine lv_istore hx hb d_RangeTellerModel_number_15 hl (by decide) rfl (fun ls hl => ?_)
    have hl : lv_has ls 6 [(4, .int v7), (3, .int v7), (0, .ref (A 0)), (1, .int a1), (2, .int a2)] := hl
    refine lv_iload_n hx hb d_RangeTellerModel_number_17 rfl (lv_at hl 1 rfl) ?_
    refine lv_bipush (v := 32) hx hb d_RangeTellerModel_number_18 (by decide) ?_
    refine lv_icmp_lt (tgt := 73) hx hb d_RangeTellerModel_number_20 (by decide) (fun hc => ?_) (fun hc => ?_)
    · have hm := (if_pos hc).symm.trans hm
      exact hB73 ls a1 a2 v7 σ6 _ _ (lv_sub hl [2, 3, 4, 0] rfl) hm hP hS
    · have hm := (if_neg hc).symm.trans hm
      refine lv_aload_n hx hb d_RangeTellerModel_number_23 rfl (lv_at hl 2 rfl) ?_
      obtain ⟨v10, σ9, h8, hm⟩ := rt_b2s hm
      refine rt_cvi (As := []) (rest := []) (k := 0) rtR_Xo ⟨hx, hb, hml, hown, hts⟩ (k_R_RangeTellerModel_take l D cI cZ A hO σ6 _ _ h8) (cw_RangeTellerModel_take hts (hts _ (rt_m rt_w1071)) ⟨Nat.le_of_ble_eq_true rfl, Nat.le_of_ble_eq_true rfl⟩) hK hP hS hX rfl rfl rfl hl.1 rfl (Nat.le_of_ble_eq_true rfl) d_RangeTellerModel_number_24 ⟨Nat.zero_le _, Nat.zero_le _⟩ (fun H locs hP hS => ?_)
      refine lv_istore hx hb d_RangeTellerModel_number_27 hl (by decide) rfl (fun ls hl => ?_)
      have hl : lv_has ls 6 [(5, .int v10), (4, .int v7), (3, .int v7), (0, .ref (A 0)), (1, .int a1), (2, .int a2)] := hl
      refine lv_aload_n hx hb d_RangeTellerModel_number_29 rfl (lv_at hl 3 rfl) ?_
      refine va_get (D := D) (v := .int (σ9 0 3)) (C := "RangeTellerModel") (T := rt_T6) (N := 69) hx hb hts rt_i6 hown hK hP 0 rfl rfl 3 (by decide) (hts _ (rt_m rt_w850)) (fun _ h9 => h9) rfl d_RangeTellerModel_number_30 ?_
      refine lv_if_eq (tgt := 38) hx hb d_RangeTellerModel_number_33 (by decide) (fun hc => ?_) (fun hc => ?_)
      · have hm := (if_pos hc).symm.trans hm
        refine lv_iload hx hb d_RangeTellerModel_number_38 (lv_at hl 0 rfl) ?_
        refine lv_iconst (v := 1) hx hb d_RangeTellerModel_number_40 (by decide) ?_
        refine lv_icmp_le (tgt := 61) hx hb d_RangeTellerModel_number_41 (by decide) (fun hc => ?_) (fun hc => ?_)
        · have hm := (if_pos hc).symm.trans hm
          refine lv_iload_n hx hb d_RangeTellerModel_number_61 rfl (lv_at hl 2 rfl) ?_
          refine lv_bipush (v := 32) hx hb d_RangeTellerModel_number_62 (by decide) ?_
          refine lv_isub hx hb d_RangeTellerModel_number_64 ?_
          refine lv_bipush (v := 32) hx hb d_RangeTellerModel_number_65 (by decide) ?_
          refine lv_iload hx hb d_RangeTellerModel_number_67 (lv_at hl 0 rfl) ?_
          refine lv_imul hx hb d_RangeTellerModel_number_69 ?_
          refine lv_iadd hx hb d_RangeTellerModel_number_70 ?_
          refine lv_istore hx hb d_RangeTellerModel_number_71 hl (by decide) rfl (fun ls hl => ?_)
          have hl : lv_has ls 6 [(4, .int ((v7 - 32) + (32 * v10))), (5, .int v10), (3, .int v7), (0, .ref (A 0)), (1, .int a1), (2, .int a2)] := hl
          exact hB73 ls a1 a2 ((v7 - 32) + (32 * v10)) σ9 _ _ (lv_sub hl [3, 4, 5, 0] rfl) hm hP hS
        · have hm := (if_neg hc).symm.trans hm
          refine lv_aload_n hx hb d_RangeTellerModel_number_44 rfl (lv_at hl 3 rfl) ?_
          refine lv_iconst (v := 1) hx hb d_RangeTellerModel_number_45 (by decide) ?_
          obtain ⟨σ11, h12, hm⟩ := rt_b1s hm
          refine rt_pf (D := D) (C := "RangeTellerModel") (T := rt_T6) (N := 69) (ty := .boolean) hx hb hts rt_i6 rt_y6 rt_o6 rt_n6 hown hK hP hD hS 0 rfl rfl 3 (by decide) (hts _ (rt_m rt_w850)) (fun _ h9 => h9) rfl (by decide +kernel) rfl rfl (Nat.le_of_ble_eq_true rfl) (rtR_s0_3 cI cZ A _ _) h12 d_RangeTellerModel_number_46 (fun H locs hP hS => ?_)
          refine lv_aload_n hx hb d_RangeTellerModel_number_49 rfl (lv_at hl 3 rfl) ?_
          refine lv_dup hx hb d_RangeTellerModel_number_50 rfl ?_
          refine va_get (D := D) (v := .int (σ11 0 2)) (C := "RangeTellerModel") (T := rt_T6) (N := 69) hx hb hts rt_i6 hown hK hP 0 rfl rfl 2 (by decide) (hts _ (rt_m rt_w849)) (fun _ h9 => h9) rfl d_RangeTellerModel_number_51 ?_
          refine lv_iconst (v := 1) hx hb d_RangeTellerModel_number_54 (by decide) ?_
          refine lv_isub hx hb d_RangeTellerModel_number_55 ?_
          obtain ⟨σ13, h14, hm⟩ := rt_b1s hm
          refine rt_pf (D := D) (C := "RangeTellerModel") (T := rt_T6) (N := 69) (ty := .int) hx hb hts rt_i6 rt_y6 rt_o6 rt_n6 hown hK hP hD hS 0 rfl rfl 2 (by decide) (hts _ (rt_m rt_w849)) (fun _ h9 => h9) rfl (by decide +kernel) rfl rfl (Nat.le_of_ble_eq_true rfl) (rtR_s0_2 cI cZ A _ _) h14 d_RangeTellerModel_number_56 (fun H locs hP hS => ?_)
          refine lv_iconst (v := 0) hx hb d_RangeTellerModel_number_59 (by decide) ?_
          exact W.iret hx hb hr (fun t ht hW => ⟨⟨_, _, rfl, rt_pr hm, rt_end rtR_Xo hK hP hS hX ht hW⟩, hS.F ht⟩) hS.2.2 d_RangeTellerModel_number_60
      · have hm := (if_neg hc).symm.trans hm
        refine lv_iconst (v := 0) hx hb d_RangeTellerModel_number_36 (by decide) ?_
        exact W.iret hx hb hr (fun t ht hW => ⟨⟨_, _, rfl, rt_pr hm, rt_end rtR_Xo hK hP hS hX ht hW⟩, hS.F ht⟩) hS.2.2 d_RangeTellerModel_number_37
  · have hm := (if_neg hc).symm.trans hm
    refine lv_iconst (v := 0) hx hb d_RangeTellerModel_number_12 (by decide) ?_
    exact W.iret hx hb hr (fun t ht hW => ⟨⟨_, _, rfl, rt_pr hm, rt_end rtR_Xo hK hP hS hX ht hW⟩, hS.F ht⟩) hS.2.2 d_RangeTellerModel_number_13
set_option maxHeartbeats 4000000 in
set_option maxRecDepth 100000 in
theorem k_R_RangeTellerModel_hasArgument (l : Launch) (a0 : Int32) (r' : Int32) (hm : M_R_RangeTellerModel_hasArgument a0 = some r') : rt_MS l y_RangeTellerModel_hasArgument b_RangeTellerModel_hasArgument 1 (some .boolean) ({ frames := 0, cells := 0, slots := 0, locals := 0 } : Room) rt_X0 [.int a0] r' := by
  intro sz
  refine Met.ofW (cc := b_RangeTellerModel_hasArgument) (maxL := 1) (ret := (some .boolean)) (by decide) rfl ?_
  intro p e s m args below meth c s₁ B hml hv
  obtain ⟨rfl, rfl, hX⟩ := hv
  have hx := B.exec
  have hb := B.bytes
  have hr := B.returns
  have hts := atoms_spec (ws := (rt_ws y_RangeTellerModel_hasArgument b_RangeTellerModel_hasArgument 1 (some .boolean))) B.pre
  have hown : s.vm.findClass "RangeTellerModel" = some m.cls := findClass_of_methodNamed B.named
  have hlocks := B.notSynchronized
  have hS : va_S (fun q => s.heap.size ≤ q) s.heap s.heap [] := va_S.rf
  have hl := lv_entry ([.int a0]) (n := 1) (Nat.le_of_ble_eq_true rfl)
  rw [lg_entry_eq]
  generalize (lg_sl ([.int a0]) ++ List.replicate (1 - (lg_sl ([.int a0])).length) Slot.unset).toArray = ls at hl ⊢
  have hl : lv_has ls 1 [(0, .int a0)] := hl
  show W p l e ({ frames := 0, cells := 0, slots := 0, locals := 0 } : Room) s m ([.int a0] : List Value).toArray below meth c s.heap [] 0 0 (rt_Qs below ([.int a0] : List Value).toArray s r') (F0 m 0 ls [])
  have hB9 : ∀ (ls : Array Slot) (l0 : Int32) (H : Heap) (locs : List Loc), lv_has ls 1 [(0, .int l0)] → B_R_RangeTellerModel_hasArgument_9 l0 = some r' → va_S (fun q => s.heap.size ≤ q) s.heap H locs → W p l e ({ frames := 0, cells := 0, slots := 0, locals := 0 } : Room) s m ([.int a0] : List Value).toArray below meth c H locs 0 0 (rt_Qs below ([.int a0] : List Value).toArray s r') (F0 m 9 ls []) := by
    intro ls l0 H locs hl hm hS
    unfold B_R_RangeTellerModel_hasArgument_9 at hm
    refine lv_iload_n hx hb d_RangeTellerModel_hasArgument_9 rfl (lv_at hl 0 rfl) ?_
    refine lv_bipush (v := 6) hx hb d_RangeTellerModel_hasArgument_10 (by decide) ?_
    refine lv_icmp_eq (tgt := 39) hx hb d_RangeTellerModel_hasArgument_12 (by decide) (fun hc => ?_) (fun hc => ?_)
    · have hm := (if_pos hc).symm.trans hm
      refine lv_iconst (v := 1) hx hb d_RangeTellerModel_hasArgument_39 (by decide) ?_
      refine lv_goto (tgt := 44) hx hb d_RangeTellerModel_hasArgument_40 (by decide) ?_
      exact W.zret hx hb hr rfl (fun t ht hW => ⟨⟨_, (), rfl, Option.some.inj hm, trivial⟩, hS.F ht⟩) hS.2.2 d_RangeTellerModel_hasArgument_44
    · have hm := (if_neg hc).symm.trans hm
      refine lv_iload_n hx hb d_RangeTellerModel_hasArgument_15 rfl (lv_at hl 0 rfl) ?_
      refine lv_bipush (v := 7) hx hb d_RangeTellerModel_hasArgument_16 (by decide) ?_
      refine lv_icmp_eq (tgt := 39) hx hb d_RangeTellerModel_hasArgument_18 (by decide) (fun hc => ?_) (fun hc => ?_)
      · have hm := (if_pos hc).symm.trans hm
        refine lv_iconst (v := 1) hx hb d_RangeTellerModel_hasArgument_39 (by decide) ?_
        refine lv_goto (tgt := 44) hx hb d_RangeTellerModel_hasArgument_40 (by decide) ?_
        exact W.zret hx hb hr rfl (fun t ht hW => ⟨⟨_, (), rfl, Option.some.inj hm, trivial⟩, hS.F ht⟩) hS.2.2 d_RangeTellerModel_hasArgument_44
      · have hm := (if_neg hc).symm.trans hm
        refine lv_iload_n hx hb d_RangeTellerModel_hasArgument_21 rfl (lv_at hl 0 rfl) ?_
        refine lv_bipush (v := 9) hx hb d_RangeTellerModel_hasArgument_22 (by decide) ?_
        refine lv_icmp_eq (tgt := 39) hx hb d_RangeTellerModel_hasArgument_24 (by decide) (fun hc => ?_) (fun hc => ?_)
        · have hm := (if_pos hc).symm.trans hm
          refine lv_iconst (v := 1) hx hb d_RangeTellerModel_hasArgument_39 (by decide) ?_
          refine lv_goto (tgt := 44) hx hb d_RangeTellerModel_hasArgument_40 (by decide) ?_
          exact W.zret hx hb hr rfl (fun t ht hW => ⟨⟨_, (), rfl, Option.some.inj hm, trivial⟩, hS.F ht⟩) hS.2.2 d_RangeTellerModel_hasArgument_44
        · have hm := (if_neg hc).symm.trans hm
          refine lv_iload_n hx hb d_RangeTellerModel_hasArgument_27 rfl (lv_at hl 0 rfl) ?_
          refine lv_bipush (v := 11) hx hb d_RangeTellerModel_hasArgument_28 (by decide) ?_
          refine lv_icmp_le (tgt := 43) hx hb d_RangeTellerModel_hasArgument_30 (by decide) (fun hc => ?_) (fun hc => ?_)
          · have hm := (if_pos hc).symm.trans hm
            refine lv_iconst (v := 0) hx hb d_RangeTellerModel_hasArgument_43 (by decide) ?_
            exact W.zret hx hb hr rfl (fun t ht hW => ⟨⟨_, (), rfl, Option.some.inj hm, trivial⟩, hS.F ht⟩) hS.2.2 d_RangeTellerModel_hasArgument_44
          · have hm := (if_neg hc).symm.trans hm
            refine lv_iload_n hx hb d_RangeTellerModel_hasArgument_33 rfl (lv_at hl 0 rfl) ?_
            refine lv_bipush (v := 18) hx hb d_RangeTellerModel_hasArgument_34 (by decide) ?_
            refine lv_icmp_ge (tgt := 43) hx hb d_RangeTellerModel_hasArgument_36 (by decide) (fun hc => ?_) (fun hc => ?_)
            · have hm := (if_pos hc).symm.trans hm
              refine lv_iconst (v := 0) hx hb d_RangeTellerModel_hasArgument_43 (by decide) ?_
              exact W.zret hx hb hr rfl (fun t ht hW => ⟨⟨_, (), rfl, Option.some.inj hm, trivial⟩, hS.F ht⟩) hS.2.2 d_RangeTellerModel_hasArgument_44
            · have hm := (if_neg hc).symm.trans hm
              refine lv_iconst (v := 1) hx hb d_RangeTellerModel_hasArgument_39 (by decide) ?_
              refine lv_goto (tgt := 44) hx hb d_RangeTellerModel_hasArgument_40 (by decide) ?_
              exact W.zret hx hb hr rfl (fun t ht hW => ⟨⟨_, (), rfl, Option.some.inj hm, trivial⟩, hS.F ht⟩) hS.2.2 d_RangeTellerModel_hasArgument_44
  unfold M_R_RangeTellerModel_hasArgument at hm
  refine lv_iload_n hx hb d_RangeTellerModel_hasArgument_0 rfl (lv_at hl 0 rfl) ?_
  refine lv_if_le (tgt := 9) hx hb d_RangeTellerModel_hasArgument_1 (by decide) (fun hc => ?_) (fun hc => ?_)
  · have hm := (if_pos hc).symm.trans hm
    exact hB9 ls a0 _ _ (lv_sub hl [0] rfl) hm hS
  · have hm := (if_neg hc).symm.trans hm
    refine lv_iload_n hx hb d_RangeTellerModel_hasArgument_4 rfl (lv_at hl 0 rfl) ?_
    refine lv_iconst (v := 4) hx hb d_RangeTellerModel_hasArgument_5 (by decide) ?_
    refine lv_icmp_lt (tgt := 39) hx hb d_RangeTellerModel_hasArgument_6 (by decide) (fun hc => ?_) (fun hc => ?_)
    · have hm := (if_pos hc).symm.trans hm
      refine lv_iconst (v := 1) hx hb d_RangeTellerModel_hasArgument_39 (by decide) ?_
      refine lv_goto (tgt := 44) hx hb d_RangeTellerModel_hasArgument_40 (by decide) ?_
      exact W.zret hx hb hr rfl (fun t ht hW => ⟨⟨_, (), rfl, Option.some.inj hm, trivial⟩, hS.F ht⟩) hS.2.2 d_RangeTellerModel_hasArgument_44
    · have hm := (if_neg hc).symm.trans hm
      exact hB9 ls a0 _ _ (lv_sub hl [0] rfl) hm hS
set_option maxHeartbeats 4000000 in
set_option maxRecDepth 100000 in
theorem k_R_RangeTellerModel_close (l : Launch) (D : va_G) (cI cZ : ClassId) (A : Nat → Nat) (hO : rt_Ok (rtR_W cI cZ A)) (σ : rt_St) (a1 : Int32) (σ' : rt_St) (hm : M_R_RangeTellerModel_close σ a1 = some σ') (sz : Nat) : Met l y_RangeTellerModel_close (rt_ws y_RangeTellerModel_close b_RangeTellerModel_close 3 none) ({ frames := 0, cells := 0, slots := 0, locals := 0 } : Room) (va_Pc [.ref (A 0), .int a1] (rt_P D rt_cl (rt_t cI cZ) rtR_X (rtR_W cI cZ A) sz σ)) (va_Qv (fun u1 => u1 = σ') (rt_B D rt_cl (rt_t cI cZ) rtR_X (rtR_W cI cZ A)) (rt_A (rtR_W cI cZ A) sz)) 0 0 (rt_A (rtR_W cI cZ A) sz) := by
  refine Met.ofW (cc := b_RangeTellerModel_close) (maxL := 3) (ret := none) (by decide) rfl ?_
  intro p e s m args below meth c s₁ B hml hv
  obtain ⟨rfl, rfl, hP, hK, hX⟩ := hv
  have hx := B.exec
  have hb := B.bytes
  have hr := B.returns
  have hts := atoms_spec (ws := (rt_ws y_RangeTellerModel_close b_RangeTellerModel_close 3 none)) B.pre
  have hown : s.vm.findClass "RangeTellerModel" = some m.cls := findClass_of_methodNamed B.named
  have hlocks := B.notSynchronized
  have hD := rt_hD hO s.heap.size
  have hS : va_S (rt_A (rtR_W cI cZ A) s.heap.size) s.heap s.heap [] := va_S.rf
  have hl := lv_entry ([.ref (A 0), .int a1]) (n := 3) (Nat.le_of_ble_eq_true rfl)
  rw [lg_entry_eq]
  generalize (lg_sl ([.ref (A 0), .int a1]) ++ List.replicate (3 - (lg_sl ([.ref (A 0), .int a1])).length) Slot.unset).toArray = ls at hl ⊢
  have hl : lv_has ls 3 [(0, .ref (A 0)), (1, .int a1)] := hl
  show W p l e ({ frames := 0, cells := 0, slots := 0, locals := 0 } : Room) s m ([.ref (A 0), .int a1] : List Value).toArray below meth c s.heap [] 0 0 (rt_Qv D rt_cl (rt_t cI cZ) rtR_X (rtR_W cI cZ A) below ([.ref (A 0), .int a1] : List Value).toArray s σ') (F0 m 0 ls [])
  unfold M_R_RangeTellerModel_close at hm
  refine lv_aload_n hx hb d_RangeTellerModel_close_0 rfl (lv_at hl 0 rfl) ?_
  refine lv_dup hx hb d_RangeTellerModel_close_1 rfl ?_
  refine va_get (D := D) (v := .int (σ 0 21)) (C := "RangeTellerModel") (T := rt_T6) (N := 69) hx hb hts rt_i6 hown hK hP 0 rfl rfl 21 (by decide) (hts _ (rt_m rt_w868)) (fun _ h9 => h9) rfl d_RangeTellerModel_close_2 ?_
  refine lv_iconst (v := 1) hx hb d_RangeTellerModel_close_5 (by decide) ?_
  refine lv_isub hx hb d_RangeTellerModel_close_6 ?_
  obtain ⟨σ1, h2, hm⟩ := rt_b1s hm
  refine rt_pf (D := D) (C := "RangeTellerModel") (T := rt_T6) (N := 69) (ty := .int) hx hb hts rt_i6 rt_y6 rt_o6 rt_n6 hown hK hP hD hS 0 rfl rfl 21 (by decide) (hts _ (rt_m rt_w868)) (fun _ h9 => h9) rfl (by decide +kernel) rfl rfl (Nat.le_of_ble_eq_true rfl) (rtR_s0_21 cI cZ A _ _) h2 d_RangeTellerModel_close_7 (fun H locs hP hS => ?_)
  refine lv_aload_n hx hb d_RangeTellerModel_close_10 rfl (lv_at hl 0 rfl) ?_
  refine va_get (D := D) (v := .ref (A 15)) (C := "RangeTellerModel") (T := rt_T6) (N := 69) hx hb hts rt_i6 hown hK hP 0 rfl rfl 22 (by decide) (hts _ (rt_m rt_w869)) (fun _ h9 => h9) rfl d_RangeTellerModel_close_11 ?_
  refine lv_aload_n hx hb d_RangeTellerModel_close_14 rfl (lv_at hl 0 rfl) ?_
  refine va_get (D := D) (v := .int (σ1 0 21)) (C := "RangeTellerModel") (T := rt_T6) (N := 69) hx hb hts rt_i6 hown hK hP 0 rfl rfl 21 (by decide) (hts _ (rt_m rt_w868)) (fun _ h9 => h9) rfl d_RangeTellerModel_close_15 ?_
  obtain ⟨v3, h4, hm⟩ := rt_b1s hm
  refine rt_ald hx hb hK hP 15 0 rfl rfl h4 d_RangeTellerModel_close_18 ?_
  refine lv_istore_n hx hb d_RangeTellerModel_close_19 rfl hl (by decide) rfl (fun ls hl => ?_)
  have hl : lv_has ls 3 [(2, .int v3), (0, .ref (A 0)), (1, .int a1)] := hl
  refine lv_aload_n hx hb d_RangeTellerModel_close_20 rfl (lv_at hl 1 rfl) ?_
  refine va_get (D := D) (v := .ref (A 5)) (C := "RangeTellerModel") (T := rt_T6) (N := 69) hx hb hts rt_i6 hown hK hP 0 rfl rfl 10 (by decide) (hts _ (rt_m rt_w857)) (fun _ h9 => h9) rfl d_RangeTellerModel_close_21 ?_
  refine lv_iload_n hx hb d_RangeTellerModel_close_24 rfl (lv_at hl 0 rfl) ?_
  refine lv_iload_n hx hb d_RangeTellerModel_close_25 rfl (lv_at hl 2 rfl) ?_
  obtain ⟨σ5, h6, hm⟩ := rt_b1s hm
  refine rt_ast hx hb hK hP hD hS 5 0 rfl (rtR_a5 cI cZ A _) rfl h6 d_RangeTellerModel_close_26 (fun H locs hP hS => ?_)
  refine lv_aload_n hx hb d_RangeTellerModel_close_27 rfl (lv_at hl 1 rfl) ?_
  refine va_get (D := D) (v := .ref (A 6)) (C := "RangeTellerModel") (T := rt_T6) (N := 69) hx hb hts rt_i6 hown hK hP 0 rfl rfl 11 (by decide) (hts _ (rt_m rt_w858)) (fun _ h9 => h9) rfl d_RangeTellerModel_close_28 ?_
  refine lv_iload_n hx hb d_RangeTellerModel_close_31 rfl (lv_at hl 0 rfl) ?_
  obtain ⟨v7, h8, hm⟩ := rt_b1s hm
  refine rt_ald hx hb hK hP 6 0 rfl rfl h8 d_RangeTellerModel_close_32 ?_
  refine lv_if_lt (tgt := 48) hx hb d_RangeTellerModel_close_33 (by decide) (fun hc => ?_) (fun hc => ?_)
  · have hm := (if_pos hc).symm.trans hm
    exact W.vret hx hb hr (fun t ht hW => ⟨⟨_, rfl, Option.some.inj hm, rt_end rtR_Xo hK hP hS hX ht hW⟩, hS.F ht⟩) hS.2.2 d_RangeTellerModel_close_48
  · have hm := (if_neg hc).symm.trans hm
    refine lv_aload_n hx hb d_RangeTellerModel_close_36 rfl (lv_at hl 1 rfl) ?_
    refine va_get (D := D) (v := .ref (A 5)) (C := "RangeTellerModel") (T := rt_T6) (N := 69) hx hb hts rt_i6 hown hK hP 0 rfl rfl 10 (by decide) (hts _ (rt_m rt_w857)) (fun _ h9 => h9) rfl d_RangeTellerModel_close_37 ?_
    refine lv_aload_n hx hb d_RangeTellerModel_close_40 rfl (lv_at hl 1 rfl) ?_
    refine va_get (D := D) (v := .ref (A 6)) (C := "RangeTellerModel") (T := rt_T6) (N := 69) hx hb hts rt_i6 hown hK hP 0 rfl rfl 11 (by decide) (hts _ (rt_m rt_w858)) (fun _ h9 => h9) rfl d_RangeTellerModel_close_41 ?_
    refine lv_iload_n hx hb d_RangeTellerModel_close_44 rfl (lv_at hl 0 rfl) ?_
    obtain ⟨v9, h10, hm⟩ := rt_b1s hm
    refine rt_ald hx hb hK hP 6 0 rfl rfl h10 d_RangeTellerModel_close_45 ?_
    refine lv_iload_n hx hb d_RangeTellerModel_close_46 rfl (lv_at hl 2 rfl) ?_
    obtain ⟨σ11, h12, hm⟩ := rt_b1s hm
    refine rt_ast hx hb hK hP hD hS 5 0 rfl (rtR_a5 cI cZ A _) rfl h12 d_RangeTellerModel_close_47 (fun H locs hP hS => ?_)
    exact W.vret hx hb hr (fun t ht hW => ⟨⟨_, rfl, Option.some.inj hm, rt_end rtR_Xo hK hP hS hX ht hW⟩, hS.F ht⟩) hS.2.2 d_RangeTellerModel_close_48
set_option maxHeartbeats 4000000 in
set_option maxRecDepth 100000 in
theorem k_R_RangeTellerModel_readFunction (l : Launch) (D : va_G) (cI cZ : ClassId) (A : Nat → Nat) (hO : rt_Ok (rtR_W cI cZ A)) (σ : rt_St) (a1 : Int32) (σ' : rt_St) (hm : M_R_RangeTellerModel_readFunction σ a1 = some σ') (sz : Nat) : Met l y_RangeTellerModel_readFunction (rt_ws y_RangeTellerModel_readFunction b_RangeTellerModel_readFunction 6 none) ({ frames := 2, cells := 0, slots := 0, locals := 45 } : Room) (va_Pc [.ref (A 0), .int a1] (rt_P D rt_cl (rt_t cI cZ) rtR_X (rtR_W cI cZ A) sz σ)) (va_Qv (fun u1 => u1 = σ') (rt_B D rt_cl (rt_t cI cZ) rtR_X (rtR_W cI cZ A)) (rt_A (rtR_W cI cZ A) sz)) 0 0 (rt_A (rtR_W cI cZ A) sz) := by
  refine Met.ofW (cc := b_RangeTellerModel_readFunction) (maxL := 6) (ret := none) (by decide) rfl ?_
  intro p e s m args below meth c s₁ B hml hv
  obtain ⟨rfl, rfl, hP, hK, hX⟩ := hv
  have hx := B.exec
  have hb := B.bytes
  have hr := B.returns
  have hts := atoms_spec (ws := (rt_ws y_RangeTellerModel_readFunction b_RangeTellerModel_readFunction 6 none)) B.pre
  have hown : s.vm.findClass "RangeTellerModel" = some m.cls := findClass_of_methodNamed B.named
  have hlocks := B.notSynchronized
  have hD := rt_hD hO s.heap.size
  have hS : va_S (rt_A (rtR_W cI cZ A) s.heap.size) s.heap s.heap [] := va_S.rf
  have hl := lv_entry ([.ref (A 0), .int a1]) (n := 6) (Nat.le_of_ble_eq_true rfl)
  rw [lg_entry_eq]
  generalize (lg_sl ([.ref (A 0), .int a1]) ++ List.replicate (6 - (lg_sl ([.ref (A 0), .int a1])).length) Slot.unset).toArray = ls at hl ⊢
  have hl : lv_has ls 6 [(0, .ref (A 0)), (1, .int a1)] := hl
  show W p l e ({ frames := 2, cells := 0, slots := 0, locals := 45 } : Room) s m ([.ref (A 0), .int a1] : List Value).toArray below meth c s.heap [] 0 0 (rt_Qv D rt_cl (rt_t cI cZ) rtR_X (rtR_W cI cZ A) below ([.ref (A 0), .int a1] : List Value).toArray s σ') (F0 m 0 ls [])
  have hB75 : ∀ (n75 : Nat) (ls : Array Slot) (l1 l2 : Int32) (σ : rt_St) (H : Heap) (locs : List Loc), lv_has ls 6 [(0, .ref (A 0)), (1, .int l1), (2, .int l2)] → B_R_RangeTellerModel_readFunction_75 n75 l1 l2 σ = some σ' → va_P D rt_cl (rtR_W cI cZ A σ) H → va_S (rt_A (rtR_W cI cZ A) s.heap.size) s.heap H locs → W p l e ({ frames := 2, cells := 0, slots := 0, locals := 45 } : Room) s m ([.ref (A 0), .int a1] : List Value).toArray below meth c H locs 0 0 (rt_Qv D rt_cl (rt_t cI cZ) rtR_X (rtR_W cI cZ A) below ([.ref (A 0), .int a1] : List Value).toArray s σ') (F0 m 75 ls []) := by
    intro n75
    induction n75 with
    | zero => intro ls l1 l2 σ H locs hl hm hP hS; rw [B_R_RangeTellerModel_readFunction_75] at hm; cases hm
    | succ n75 ih75 =>
      have hB360 : ∀ (ls : Array Slot) (l1 l2 : Int32) (σ : rt_St) (H : Heap) (locs : List Loc), lv_has ls 6 [(0, .ref (A 0)), (1, .int l1), (2, .int l2)] → B_R_RangeTellerModel_readFunction_360 (B_R_RangeTellerModel_readFunction_75 n75) l1 l2 σ = some σ' → va_P D rt_cl (rtR_W cI cZ A σ) H → va_S (rt_A (rtR_W cI cZ A) s.heap.size) s.heap H locs → W p l e ({ frames := 2, cells := 0, slots := 0, locals := 45 } : Room) s m ([.ref (A 0), .int a1] : List Value).toArray below meth c H locs 0 0 (rt_Qv D rt_cl (rt_t cI cZ) rtR_X (rtR_W cI cZ A) below ([.ref (A 0), .int a1] : List Value).toArray s σ') (F0 m 360 ls []) := by
        intro ls l1 l2 σ H locs hl hm hP hS
        unfold B_R_RangeTellerModel_readFunction_360 at hm
        refine lv_goto (tgt := 75) hx hb d_RangeTellerModel_readFunction_360 (by decide) ?_
        exact ih75 ls l1 l2 σ _ _ (lv_sub hl [0, 1, 2] rfl) hm hP hS
      have hB345 : ∀ (ls : Array Slot) (l1 l2 l3 l5 : Int32) (σ : rt_St) (H : Heap) (locs : List Loc), lv_has ls 6 [(0, .ref (A 0)), (1, .int l1), (2, .int l2), (3, .int l3), (5, .int l5)] → B_R_RangeTellerModel_readFunction_345 (B_R_RangeTellerModel_readFunction_75 n75) l1 l2 l3 l5 σ = some σ' → va_P D rt_cl (rtR_W cI cZ A σ) H → va_S (rt_A (rtR_W cI cZ A) s.heap.size) s.heap H locs → W p l e ({ frames := 2, cells := 0, slots := 0, locals := 45 } : Room) s m ([.ref (A 0), .int a1] : List Value).toArray below meth c H locs 0 0 (rt_Qv D rt_cl (rt_t cI cZ) rtR_X (rtR_W cI cZ A) below ([.ref (A 0), .int a1] : List Value).toArray s σ') (F0 m 345 ls []) := by
        intro ls l1 l2 l3 l5 σ H locs hl hm hP hS
        unfold B_R_RangeTellerModel_readFunction_345 at hm
        refine lv_iload_n hx hb d_RangeTellerModel_readFunction_345 rfl (lv_at hl 3 rfl) ?_
        refine lv_iconst (v := 5) hx hb d_RangeTellerModel_readFunction_346 (by decide) ?_
        refine lv_icmp_ne (tgt := 360) hx hb d_RangeTellerModel_readFunction_347 (by decide) (fun hc => ?_) (fun hc => ?_)
        · have hm := (if_neg hc).symm.trans hm
          exact hB360 ls l1 l2 σ _ _ (lv_sub hl [0, 1, 2] rfl) hm hP hS
        · have hm := (if_pos hc).symm.trans hm
          refine lv_iload_n hx hb d_RangeTellerModel_readFunction_350 rfl (lv_at hl 2 rfl) ?_
          refine lv_if_ne (tgt := 360) hx hb d_RangeTellerModel_readFunction_351 (by decide) (fun hc => ?_) (fun hc => ?_)
          · have hm := (if_neg hc).symm.trans hm
            exact hB360 ls l1 l2 σ _ _ (lv_sub hl [0, 1, 2] rfl) hm hP hS
          · have hm := (if_pos hc).symm.trans hm
            refine lv_aload_n hx hb d_RangeTellerModel_readFunction_354 rfl (lv_at hl 0 rfl) ?_
            refine lv_iload hx hb d_RangeTellerModel_readFunction_355 (lv_at hl 4 rfl) ?_
            obtain ⟨σ2, h1, hm⟩ := rt_b1s hm
            refine rt_cvv (As := [.int l5]) (rest := []) (k := 0) rtR_Xo ⟨hx, hb, hml, hown, hts⟩ (k_R_RangeTellerModel_close l D cI cZ A hO σ l5 _ h1) (cw_RangeTellerModel_close hts (hts _ (rt_m rt_w1082)) ⟨Nat.le_of_ble_eq_true rfl, Nat.le_of_ble_eq_true rfl⟩) hK hP hS hX rfl rfl rfl hl.1 rfl (Nat.le_of_ble_eq_true rfl) d_RangeTellerModel_readFunction_357 ⟨Nat.zero_le _, Nat.zero_le _⟩ (fun H locs hP hS => ?_)
            exact hB360 ls l1 l2 σ2 _ _ (lv_sub hl [0, 1, 2] rfl) hm hP hS
      have hB315 : ∀ (ls : Array Slot) (l1 l2 l3 l5 : Int32) (σ : rt_St) (H : Heap) (locs : List Loc), lv_has ls 6 [(0, .ref (A 0)), (1, .int l1), (2, .int l2), (3, .int l3), (5, .int l5)] → B_R_RangeTellerModel_readFunction_315 (B_R_RangeTellerModel_readFunction_75 n75) l1 l2 l3 l5 σ = some σ' → va_P D rt_cl (rtR_W cI cZ A σ) H → va_S (rt_A (rtR_W cI cZ A) s.heap.size) s.heap H locs → W p l e ({ frames := 2, cells := 0, slots := 0, locals := 45 } : Room) s m ([.ref (A 0), .int a1] : List Value).toArray below meth c H locs 0 0 (rt_Qv D rt_cl (rt_t cI cZ) rtR_X (rtR_W cI cZ A) below ([.ref (A 0), .int a1] : List Value).toArray s σ') (F0 m 315 ls []) := by
        intro ls l1 l2 l3 l5 σ H locs hl hm hP hS
        unfold B_R_RangeTellerModel_readFunction_315 at hm
        refine lv_iload_n hx hb d_RangeTellerModel_readFunction_315 rfl (lv_at hl 3 rfl) ?_
        refine lv_if_le (tgt := 345) hx hb d_RangeTellerModel_readFunction_316 (by decide) (fun hc => ?_) (fun hc => ?_)
        · have hm := (if_pos hc).symm.trans hm
          exact hB345 ls l1 l2 l3 l5 σ _ _ (lv_sub hl [0, 1, 2, 3, 4] rfl) hm hP hS
        · have hm := (if_neg hc).symm.trans hm
          refine lv_iload_n hx hb d_RangeTellerModel_readFunction_319 rfl (lv_at hl 3 rfl) ?_
          refine lv_iconst (v := 4) hx hb d_RangeTellerModel_readFunction_320 (by decide) ?_
          refine lv_icmp_ge (tgt := 345) hx hb d_RangeTellerModel_readFunction_321 (by decide) (fun hc => ?_) (fun hc => ?_)
          · have hm := (if_pos hc).symm.trans hm
            exact hB345 ls l1 l2 l3 l5 σ _ _ (lv_sub hl [0, 1, 2, 3, 4] rfl) hm hP hS
          · have hm := (if_neg hc).symm.trans hm
            refine lv_aload_n hx hb d_RangeTellerModel_readFunction_324 rfl (lv_at hl 0 rfl) ?_
            refine va_get (D := D) (v := .ref (A 15)) (C := "RangeTellerModel") (T := rt_T6) (N := 69) hx hb hts rt_i6 hown hK hP 0 rfl rfl 22 (by decide) (hts _ (rt_m rt_w869)) (fun _ h9 => h9) rfl d_RangeTellerModel_readFunction_325 ?_
            refine lv_aload_n hx hb d_RangeTellerModel_readFunction_328 rfl (lv_at hl 0 rfl) ?_
            refine va_get (D := D) (v := .int (σ 0 21)) (C := "RangeTellerModel") (T := rt_T6) (N := 69) hx hb hts rt_i6 hown hK hP 0 rfl rfl 21 (by decide) (hts _ (rt_m rt_w868)) (fun _ h9 => h9) rfl d_RangeTellerModel_readFunction_329 ?_
            refine lv_iload hx hb d_RangeTellerModel_readFunction_332 (lv_at hl 4 rfl) ?_
            obtain ⟨σ3, h4, hm⟩ := rt_b1s hm
            refine rt_ast hx hb hK hP hD hS 15 0 rfl (rtR_a15 cI cZ A _) rfl h4 d_RangeTellerModel_readFunction_334 (fun H locs hP hS => ?_)
            refine lv_aload_n hx hb d_RangeTellerModel_readFunction_335 rfl (lv_at hl 0 rfl) ?_
            refine lv_dup hx hb d_RangeTellerModel_readFunction_336 rfl ?_
            refine va_get (D := D) (v := .int (σ3 0 21)) (C := "RangeTellerModel") (T := rt_T6) (N := 69) hx hb hts rt_i6 hown hK hP 0 rfl rfl 21 (by decide) (hts _ (rt_m rt_w868)) (fun _ h9 => h9) rfl d_RangeTellerModel_readFunction_337 ?_
            refine lv_iconst (v := 1) hx hb d_RangeTellerModel_readFunction_340 (by decide) ?_
            refine lv_iadd hx hb d_RangeTellerModel_readFunction_341 ?_
            obtain ⟨σ5, h6, hm⟩ := rt_b1s hm
            refine rt_pf (D := D) (C := "RangeTellerModel") (T := rt_T6) (N := 69) (ty := .int) hx hb hts rt_i6 rt_y6 rt_o6 rt_n6 hown hK hP hD hS 0 rfl rfl 21 (by decide) (hts _ (rt_m rt_w868)) (fun _ h9 => h9) rfl (by decide +kernel) rfl rfl (Nat.le_of_ble_eq_true rfl) (rtR_s0_21 cI cZ A _ _) h6 d_RangeTellerModel_readFunction_342 (fun H locs hP hS => ?_)
            exact hB345 ls l1 l2 l3 l5 σ5 _ _ (lv_sub hl [0, 1, 2, 3, 4] rfl) hm hP hS
      have hB291 : ∀ (ls : Array Slot) (l1 l3 l5 t0 : Int32) (σ : rt_St) (H : Heap) (locs : List Loc), lv_has ls 6 [(0, .ref (A 0)), (1, .int l1), (3, .int l3), (5, .int l5)] → B_R_RangeTellerModel_readFunction_291 (B_R_RangeTellerModel_readFunction_75 n75) l1 l3 l5 t0 σ = some σ' → va_P D rt_cl (rtR_W cI cZ A σ) H → va_S (rt_A (rtR_W cI cZ A) s.heap.size) s.heap H locs → W p l e ({ frames := 2, cells := 0, slots := 0, locals := 45 } : Room) s m ([.ref (A 0), .int a1] : List Value).toArray below meth c H locs 0 0 (rt_Qv D rt_cl (rt_t cI cZ) rtR_X (rtR_W cI cZ A) below ([.ref (A 0), .int a1] : List Value).toArray s σ') (F0 m 291 ls [.int t0]) := by
        intro ls l1 l3 l5 t0 σ H locs hl hm hP hS
        unfold B_R_RangeTellerModel_readFunction_291 at hm
        refine lv_istore_n hx hb d_RangeTellerModel_readFunction_291 rfl hl (by decide) rfl (fun ls hl => ?_)
        have hl : lv_has ls 6 [(2, .int t0), (0, .ref (A 0)), (1, .int l1), (3, .int l3), (5, .int l5)] := hl
        refine lv_iload_n hx hb d_RangeTellerModel_readFunction_292 rfl (lv_at hl 3 rfl) ?_
        refine lv_iconst (v := 4) hx hb d_RangeTellerModel_readFunction_293 (by decide) ?_
        refine lv_icmp_ne (tgt := 315) hx hb d_RangeTellerModel_readFunction_294 (by decide) (fun hc => ?_) (fun hc => ?_)
        · have hm := (if_neg hc).symm.trans hm
          exact hB315 ls l1 t0 l3 l5 σ _ _ (lv_sub hl [1, 2, 0, 3, 4] rfl) hm hP hS
        · have hm := (if_pos hc).symm.trans hm
          refine lv_aload_n hx hb d_RangeTellerModel_readFunction_297 rfl (lv_at hl 1 rfl) ?_
          refine va_get (D := D) (v := .ref (A 6)) (C := "RangeTellerModel") (T := rt_T6) (N := 69) hx hb hts rt_i6 hown hK hP 0 rfl rfl 11 (by decide) (hts _ (rt_m rt_w858)) (fun _ h9 => h9) rfl d_RangeTellerModel_readFunction_298 ?_
          refine lv_aload_n hx hb d_RangeTellerModel_readFunction_301 rfl (lv_at hl 1 rfl) ?_
          refine va_get (D := D) (v := .ref (A 15)) (C := "RangeTellerModel") (T := rt_T6) (N := 69) hx hb hts rt_i6 hown hK hP 0 rfl rfl 22 (by decide) (hts _ (rt_m rt_w869)) (fun _ h9 => h9) rfl d_RangeTellerModel_readFunction_302 ?_
          refine lv_aload_n hx hb d_RangeTellerModel_readFunction_305 rfl (lv_at hl 1 rfl) ?_
          refine va_get (D := D) (v := .int (σ 0 21)) (C := "RangeTellerModel") (T := rt_T6) (N := 69) hx hb hts rt_i6 hown hK hP 0 rfl rfl 21 (by decide) (hts _ (rt_m rt_w868)) (fun _ h9 => h9) rfl d_RangeTellerModel_readFunction_306 ?_
          refine lv_iconst (v := 1) hx hb d_RangeTellerModel_readFunction_309 (by decide) ?_
          refine lv_isub hx hb d_RangeTellerModel_readFunction_310 ?_
          obtain ⟨v7, h8, hm⟩ := rt_b1s hm
          refine rt_ald hx hb hK hP 15 0 rfl rfl h8 d_RangeTellerModel_readFunction_311 ?_
          refine lv_iload hx hb d_RangeTellerModel_readFunction_312 (lv_at hl 4 rfl) ?_
          obtain ⟨σ9, h10, hm⟩ := rt_b1s hm
          refine rt_ast hx hb hK hP hD hS 6 0 rfl (rtR_a6 cI cZ A _) rfl h10 d_RangeTellerModel_readFunction_314 (fun H locs hP hS => ?_)
          exact hB315 ls l1 t0 l3 l5 σ9 _ _ (lv_sub hl [1, 2, 0, 3, 4] rfl) hm hP hS
      have hB290 : ∀ (ls : Array Slot) (l1 l3 l5 : Int32) (σ : rt_St) (H : Heap) (locs : List Loc), lv_has ls 6 [(0, .ref (A 0)), (1, .int l1), (3, .int l3), (5, .int l5)] → B_R_RangeTellerModel_readFunction_290 (B_R_RangeTellerModel_readFunction_75 n75) l1 l3 l5 σ = some σ' → va_P D rt_cl (rtR_W cI cZ A σ) H → va_S (rt_A (rtR_W cI cZ A) s.heap.size) s.heap H locs → W p l e ({ frames := 2, cells := 0, slots := 0, locals := 45 } : Room) s m ([.ref (A 0), .int a1] : List Value).toArray below meth c H locs 0 0 (rt_Qv D rt_cl (rt_t cI cZ) rtR_X (rtR_W cI cZ A) below ([.ref (A 0), .int a1] : List Value).toArray s σ') (F0 m 290 ls []) := by
        intro ls l1 l3 l5 σ H locs hl hm hP hS
        unfold B_R_RangeTellerModel_readFunction_290 at hm
        refine lv_iconst (v := 0) hx hb d_RangeTellerModel_readFunction_290 (by decide) ?_
        exact hB291 ls l1 l3 l5 0 σ _ _ (lv_sub hl [0, 1, 2, 3] rfl) hm hP hS
      have hB255 : ∀ (ls : Array Slot) (l1 l3 l5 t0 t1 : Int32) (σ : rt_St) (H : Heap) (locs : List Loc), lv_has ls 6 [(0, .ref (A 0)), (1, .int l1), (3, .int l3), (5, .int l5)] → B_R_RangeTellerModel_readFunction_255 (B_R_RangeTellerModel_readFunction_75 n75) l1 l3 l5 t0 t1 σ = some σ' → va_P D rt_cl (rtR_W cI cZ A σ) H → va_S (rt_A (rtR_W cI cZ A) s.heap.size) s.heap H locs → W p l e ({ frames := 2, cells := 0, slots := 0, locals := 45 } : Room) s m ([.ref (A 0), .int a1] : List Value).toArray below meth c H locs 0 0 (rt_Qv D rt_cl (rt_t cI cZ) rtR_X (rtR_W cI cZ A) below ([.ref (A 0), .int a1] : List Value).toArray s σ') (F0 m 255 ls [.int t0, .int t1, .ref (A 3)]) := by
        intro ls l1 l3 l5 t0 t1 σ H locs hl hm hP hS
        unfold B_R_RangeTellerModel_readFunction_255 at hm
        obtain ⟨σ11, h12, hm⟩ := rt_b1s hm
        refine rt_ast hx hb hK hP hD hS 3 0 rfl (rtR_a3 cI cZ A _) rfl h12 d_RangeTellerModel_readFunction_255 (fun H locs hP hS => ?_)
        refine lv_aload_n hx hb d_RangeTellerModel_readFunction_256 rfl (lv_at hl 0 rfl) ?_
        refine va_get (D := D) (v := .int (σ11 0 3)) (C := "RangeTellerModel") (T := rt_T6) (N := 69) hx hb hts rt_i6 hown hK hP 0 rfl rfl 3 (by decide) (hts _ (rt_m rt_w850)) (fun _ h9 => h9) rfl d_RangeTellerModel_readFunction_257 ?_
        refine lv_if_eq (tgt := 264) hx hb d_RangeTellerModel_readFunction_260 (by decide) (fun hc => ?_) (fun hc => ?_)
        · have hm := (if_pos hc).symm.trans hm
          refine lv_aload_n hx hb d_RangeTellerModel_readFunction_264 rfl (lv_at hl 0 rfl) ?_
          refine lv_dup hx hb d_RangeTellerModel_readFunction_265 rfl ?_
          refine va_get (D := D) (v := .int (σ11 0 6)) (C := "RangeTellerModel") (T := rt_T6) (N := 69) hx hb hts rt_i6 hown hK hP 0 rfl rfl 6 (by decide) (hts _ (rt_m rt_w853)) (fun _ h9 => h9) rfl d_RangeTellerModel_readFunction_266 ?_
          refine lv_iconst (v := 1) hx hb d_RangeTellerModel_readFunction_269 (by decide) ?_
          refine lv_iadd hx hb d_RangeTellerModel_readFunction_270 ?_
          obtain ⟨σ13, h14, hm⟩ := rt_b1s hm
          refine rt_pf (D := D) (C := "RangeTellerModel") (T := rt_T6) (N := 69) (ty := .int) hx hb hts rt_i6 rt_y6 rt_o6 rt_n6 hown hK hP hD hS 0 rfl rfl 6 (by decide) (hts _ (rt_m rt_w853)) (fun _ h9 => h9) rfl (by decide +kernel) rfl rfl (Nat.le_of_ble_eq_true rfl) (rtR_s0_6 cI cZ A _ _) h14 d_RangeTellerModel_readFunction_271 (fun H locs hP hS => ?_)
          refine lv_iload_n hx hb d_RangeTellerModel_readFunction_274 rfl (lv_at hl 2 rfl) ?_
          refine lv_iconst (v := 5) hx hb d_RangeTellerModel_readFunction_275 (by decide) ?_
          refine lv_icmp_ne (tgt := 290) hx hb d_RangeTellerModel_readFunction_276 (by decide) (fun hc => ?_) (fun hc => ?_)
          · have hm := (if_neg hc).symm.trans hm
            exact hB290 ls l1 l3 l5 σ13 _ _ (lv_sub hl [0, 1, 2, 3] rfl) hm hP hS
          · have hm := (if_pos hc).symm.trans hm
            refine lv_aload_n hx hb d_RangeTellerModel_readFunction_279 rfl (lv_at hl 0 rfl) ?_
            refine va_get (D := D) (v := .int (σ13 0 21)) (C := "RangeTellerModel") (T := rt_T6) (N := 69) hx hb hts rt_i6 hown hK hP 0 rfl rfl 21 (by decide) (hts _ (rt_m rt_w868)) (fun _ h9 => h9) rfl d_RangeTellerModel_readFunction_280 ?_
            refine lv_if_ne (tgt := 290) hx hb d_RangeTellerModel_readFunction_283 (by decide) (fun hc => ?_) (fun hc => ?_)
            · have hm := (if_neg hc).symm.trans hm
              exact hB290 ls l1 l3 l5 σ13 _ _ (lv_sub hl [0, 1, 2, 3] rfl) hm hP hS
            · have hm := (if_pos hc).symm.trans hm
              refine lv_iconst (v := 1) hx hb d_RangeTellerModel_readFunction_286 (by decide) ?_
              refine lv_goto (tgt := 291) hx hb d_RangeTellerModel_readFunction_287 (by decide) ?_
              exact hB291 ls l1 l3 l5 1 σ13 _ _ (lv_sub hl [0, 1, 2, 3] rfl) hm hP hS
        · have hm := (if_neg hc).symm.trans hm
          exact W.vret hx hb hr (fun t ht hW => ⟨⟨_, rfl, Option.some.inj hm, rt_end rtR_Xo hK hP hS hX ht hW⟩, hS.F ht⟩) hS.2.2 d_RangeTellerModel_readFunction_263
      have hB248 : ∀ (ls : Array Slot) (l1 l3 l5 t0 t1 t2 : Int32) (σ : rt_St) (H : Heap) (locs : List Loc), lv_has ls 6 [(0, .ref (A 0)), (1, .int l1), (3, .int l3), (5, .int l5)] → B_R_RangeTellerModel_readFunction_248 (B_R_RangeTellerModel_readFunction_75 n75) l1 l3 l5 t0 t1 t2 σ = some σ' → va_P D rt_cl (rtR_W cI cZ A σ) H → va_S (rt_A (rtR_W cI cZ A) s.heap.size) s.heap H locs → W p l e ({ frames := 2, cells := 0, slots := 0, locals := 45 } : Room) s m ([.ref (A 0), .int a1] : List Value).toArray below meth c H locs 0 0 (rt_Qv D rt_cl (rt_t cI cZ) rtR_X (rtR_W cI cZ A) below ([.ref (A 0), .int a1] : List Value).toArray s σ') (F0 m 248 ls [.int t0, .int t1, .ref (A 0), .int t2, .ref (A 3)]) := by
        intro ls l1 l3 l5 t0 t1 t2 σ H locs hl hm hP hS
        unfold B_R_RangeTellerModel_readFunction_248 at hm
        obtain ⟨v17, σ16, h15, hm⟩ := rt_b2s hm
        refine rt_cvi (As := [.int t1, .int t0]) (rest := [.int t2, .ref (A 3)]) (k := 0) rtR_Xo ⟨hx, hb, hml, hown, hts⟩ (k_R_RangeTellerModel_number l D cI cZ A hO σ t1 t0 _ _ h15) (cw_RangeTellerModel_number hts (hts _ (rt_m rt_w1067)) ⟨Nat.le_of_ble_eq_true rfl, Nat.le_of_ble_eq_true rfl⟩) hK hP hS hX rfl rfl rfl hl.1 rfl (Nat.le_of_ble_eq_true rfl) d_RangeTellerModel_readFunction_248 ⟨Nat.zero_le _, Nat.zero_le _⟩ (fun H locs hP hS => ?_)
        refine lv_goto (tgt := 255) hx hb d_RangeTellerModel_readFunction_251 (by decide) ?_
        exact hB255 ls l1 l3 l5 v17 t2 σ16 _ _ (lv_sub hl [0, 1, 2, 3] rfl) hm hP hS
      have hB163 : ∀ (ls : Array Slot) (l1 l3 l4 : Int32) (σ : rt_St) (H : Heap) (locs : List Loc), lv_has ls 6 [(0, .ref (A 0)), (1, .int l1), (3, .int l3), (4, .int l4)] → B_R_RangeTellerModel_readFunction_163 (B_R_RangeTellerModel_readFunction_75 n75) l1 l3 l4 σ = some σ' → va_P D rt_cl (rtR_W cI cZ A σ) H → va_S (rt_A (rtR_W cI cZ A) s.heap.size) s.heap H locs → W p l e ({ frames := 2, cells := 0, slots := 0, locals := 45 } : Room) s m ([.ref (A 0), .int a1] : List Value).toArray below meth c H locs 0 0 (rt_Qv D rt_cl (rt_t cI cZ) rtR_X (rtR_W cI cZ A) below ([.ref (A 0), .int a1] : List Value).toArray s σ') (F0 m 163 ls []) := by
        intro ls l1 l3 l4 σ H locs hl hm hP hS
        unfold B_R_RangeTellerModel_readFunction_163 at hm
        refine lv_iload hx hb d_RangeTellerModel_readFunction_163 (lv_at hl 3 rfl) ?_
        refine lv_if_ne (tgt := 184) hx hb d_RangeTellerModel_readFunction_165 (by decide) (fun hc => ?_) (fun hc => ?_)
        · have hm := (if_neg hc).symm.trans hm
          refine lv_aload_n hx hb d_RangeTellerModel_readFunction_184 rfl (lv_at hl 0 rfl) ?_
          refine va_get (D := D) (v := .int (σ 0 6)) (C := "RangeTellerModel") (T := rt_T6) (N := 69) hx hb hts rt_i6 hown hK hP 0 rfl rfl 6 (by decide) (hts _ (rt_m rt_w853)) (fun _ h9 => h9) rfl d_RangeTellerModel_readFunction_185 ?_
          refine lv_istore hx hb d_RangeTellerModel_readFunction_188 hl (by decide) rfl (fun ls hl => ?_)
          have hl : lv_has ls 6 [(5, .int (σ 0 6)), (0, .ref (A 0)), (1, .int l1), (3, .int l3), (4, .int l4)] := hl
          refine lv_aload_n hx hb d_RangeTellerModel_readFunction_190 rfl (lv_at hl 1 rfl) ?_
          refine va_get (D := D) (v := .ref (A 2)) (C := "RangeTellerModel") (T := rt_T6) (N := 69) hx hb hts rt_i6 hown hK hP 0 rfl rfl 7 (by decide) (hts _ (rt_m rt_w854)) (fun _ h9 => h9) rfl d_RangeTellerModel_readFunction_191 ?_
          refine lv_iload hx hb d_RangeTellerModel_readFunction_194 (lv_at hl 0 rfl) ?_
          refine lv_iload_n hx hb d_RangeTellerModel_readFunction_196 rfl (lv_at hl 3 rfl) ?_
          obtain ⟨σ18, h19, hm⟩ := rt_b1s hm
          refine rt_ast hx hb hK hP hD hS 2 0 rfl (rtR_a2 cI cZ A _) rfl h19 d_RangeTellerModel_readFunction_197 (fun H locs hP hS => ?_)
          refine lv_aload_n hx hb d_RangeTellerModel_readFunction_198 rfl (lv_at hl 1 rfl) ?_
          refine va_get (D := D) (v := .ref (A 4)) (C := "RangeTellerModel") (T := rt_T6) (N := 69) hx hb hts rt_i6 hown hK hP 0 rfl rfl 9 (by decide) (hts _ (rt_m rt_w856)) (fun _ h9 => h9) rfl d_RangeTellerModel_readFunction_199 ?_
          refine lv_iload hx hb d_RangeTellerModel_readFunction_202 (lv_at hl 0 rfl) ?_
          refine lv_iload_n hx hb d_RangeTellerModel_readFunction_204 rfl (lv_at hl 2 rfl) ?_
          obtain ⟨σ20, h21, hm⟩ := rt_b1s hm
          refine rt_ast hx hb hK hP hD hS 4 0 rfl (rtR_a4 cI cZ A _) rfl h21 d_RangeTellerModel_readFunction_205 (fun H locs hP hS => ?_)
          refine lv_aload_n hx hb d_RangeTellerModel_readFunction_206 rfl (lv_at hl 1 rfl) ?_
          refine va_get (D := D) (v := .ref (A 5)) (C := "RangeTellerModel") (T := rt_T6) (N := 69) hx hb hts rt_i6 hown hK hP 0 rfl rfl 10 (by decide) (hts _ (rt_m rt_w857)) (fun _ h9 => h9) rfl d_RangeTellerModel_readFunction_207 ?_
          refine lv_iload hx hb d_RangeTellerModel_readFunction_210 (lv_at hl 0 rfl) ?_
          refine lv_iconst (v := (-1)) hx hb d_RangeTellerModel_readFunction_212 (by decide) ?_
          obtain ⟨σ22, h23, hm⟩ := rt_b1s hm
          refine rt_ast hx hb hK hP hD hS 5 0 rfl (rtR_a5 cI cZ A _) rfl h23 d_RangeTellerModel_readFunction_213 (fun H locs hP hS => ?_)
          refine lv_aload_n hx hb d_RangeTellerModel_readFunction_214 rfl (lv_at hl 1 rfl) ?_
          refine va_get (D := D) (v := .ref (A 6)) (C := "RangeTellerModel") (T := rt_T6) (N := 69) hx hb hts rt_i6 hown hK hP 0 rfl rfl 11 (by decide) (hts _ (rt_m rt_w858)) (fun _ h9 => h9) rfl d_RangeTellerModel_readFunction_215 ?_
          refine lv_iload hx hb d_RangeTellerModel_readFunction_218 (lv_at hl 0 rfl) ?_
          refine lv_iconst (v := (-1)) hx hb d_RangeTellerModel_readFunction_220 (by decide) ?_
          obtain ⟨σ24, h25, hm⟩ := rt_b1s hm
          refine rt_ast hx hb hK hP hD hS 6 0 rfl (rtR_a6 cI cZ A _) rfl h25 d_RangeTellerModel_readFunction_221 (fun H locs hP hS => ?_)
          refine lv_aload_n hx hb d_RangeTellerModel_readFunction_222 rfl (lv_at hl 1 rfl) ?_
          refine va_get (D := D) (v := .ref (A 3)) (C := "RangeTellerModel") (T := rt_T6) (N := 69) hx hb hts rt_i6 hown hK hP 0 rfl rfl 8 (by decide) (hts _ (rt_m rt_w855)) (fun _ h9 => h9) rfl d_RangeTellerModel_readFunction_223 ?_
          refine lv_iload hx hb d_RangeTellerModel_readFunction_226 (lv_at hl 0 rfl) ?_
          refine lv_iload_n hx hb d_RangeTellerModel_readFunction_228 rfl (lv_at hl 3 rfl) ?_
          obtain ⟨v27, h26, hm⟩ := rt_b1s hm
          refine rt_csi (As := [.int l3]) (rest := [.int (σ 0 6), .ref (A 3)]) rt_X0o ⟨hx, hb, hml, hown, hts⟩ (k_R_RangeTellerModel_hasArgument l l3 _ h26) (cw_RangeTellerModel_hasArgument hts (hts _ (rt_m rt_w1079)) ⟨Nat.le_of_ble_eq_true rfl, Nat.le_of_ble_eq_true rfl⟩) hS (fun _ h => Or.inr h) trivial rfl hl.1 rfl (Nat.le_of_ble_eq_true rfl) d_RangeTellerModel_readFunction_229 ⟨Nat.zero_le _, Nat.zero_le _⟩ (fun H locs hk hS => ?_)
          have hP := rt_keep hP hk
          clear hk
          refine lv_if_eq (tgt := 254) hx hb d_RangeTellerModel_readFunction_232 (by decide) (fun hc => ?_) (fun hc => ?_)
          · have hm := (if_pos hc).symm.trans hm
            refine lv_iconst (v := 0) hx hb d_RangeTellerModel_readFunction_254 (by decide) ?_
            exact hB255 ls l1 l3 (σ 0 6) 0 (σ 0 6) σ24 _ _ (lv_sub hl [1, 2, 3, 0] rfl) hm hP hS
          · have hm := (if_neg hc).symm.trans hm
            refine lv_aload_n hx hb d_RangeTellerModel_readFunction_235 rfl (lv_at hl 1 rfl) ?_
            refine lv_iconst (v := 0) hx hb d_RangeTellerModel_readFunction_236 (by decide) ?_
            refine lv_iload_n hx hb d_RangeTellerModel_readFunction_237 rfl (lv_at hl 3 rfl) ?_
            refine lv_iconst (v := 4) hx hb d_RangeTellerModel_readFunction_238 (by decide) ?_
            refine lv_icmp_ge (tgt := 246) hx hb d_RangeTellerModel_readFunction_239 (by decide) (fun hc => ?_) (fun hc => ?_)
            · have hm := (if_pos hc).symm.trans hm
              refine lv_bipush (v := 63) hx hb d_RangeTellerModel_readFunction_246 (by decide) ?_
              exact hB248 ls l1 l3 (σ 0 6) 63 0 (σ 0 6) σ24 _ _ (lv_sub hl [1, 2, 3, 0] rfl) hm hP hS
            · have hm := (if_neg hc).symm.trans hm
              refine lv_iconst (v := 1) hx hb d_RangeTellerModel_readFunction_242 (by decide) ?_
              refine lv_goto (tgt := 248) hx hb d_RangeTellerModel_readFunction_243 (by decide) ?_
              exact hB248 ls l1 l3 (σ 0 6) 1 0 (σ 0 6) σ24 _ _ (lv_sub hl [1, 2, 3, 0] rfl) hm hP hS
        · have hm := (if_pos hc).symm.trans hm
          refine lv_aload_n hx hb d_RangeTellerModel_readFunction_168 rfl (lv_at hl 0 rfl) ?_
          refine lv_iconst (v := 1) hx hb d_RangeTellerModel_readFunction_169 (by decide) ?_
          obtain ⟨σ28, h29, hm⟩ := rt_b1s hm
          refine rt_pf (D := D) (C := "RangeTellerModel") (T := rt_T6) (N := 69) (ty := .boolean) hx hb hts rt_i6 rt_y6 rt_o6 rt_n6 hown hK hP hD hS 0 rfl rfl 3 (by decide) (hts _ (rt_m rt_w850)) (fun _ h9 => h9) rfl (by decide +kernel) rfl rfl (Nat.le_of_ble_eq_true rfl) (rtR_s0_3 cI cZ A _ _) h29 d_RangeTellerModel_readFunction_170 (fun H locs hP hS => ?_)
          refine lv_aload_n hx hb d_RangeTellerModel_readFunction_173 rfl (lv_at hl 0 rfl) ?_
          refine lv_dup hx hb d_RangeTellerModel_readFunction_174 rfl ?_
          refine va_get (D := D) (v := .int (σ28 0 2)) (C := "RangeTellerModel") (T := rt_T6) (N := 69) hx hb hts rt_i6 hown hK hP 0 rfl rfl 2 (by decide) (hts _ (rt_m rt_w849)) (fun _ h9 => h9) rfl d_RangeTellerModel_readFunction_175 ?_
          refine lv_iconst (v := 1) hx hb d_RangeTellerModel_readFunction_178 (by decide) ?_
          refine lv_isub hx hb d_RangeTellerModel_readFunction_179 ?_
          obtain ⟨σ30, h31, hm⟩ := rt_b1s hm
          refine rt_pf (D := D) (C := "RangeTellerModel") (T := rt_T6) (N := 69) (ty := .int) hx hb hts rt_i6 rt_y6 rt_o6 rt_n6 hown hK hP hD hS 0 rfl rfl 2 (by decide) (hts _ (rt_m rt_w849)) (fun _ h9 => h9) rfl (by decide +kernel) rfl rfl (Nat.le_of_ble_eq_true rfl) (rtR_s0_2 cI cZ A _ _) h31 d_RangeTellerModel_readFunction_180 (fun H locs hP hS => ?_)
          exact W.vret hx hb hr (fun t ht hW => ⟨⟨_, rfl, Option.some.inj hm, rt_end rtR_Xo hK hP hS hX ht hW⟩, hS.F ht⟩) hS.2.2 d_RangeTellerModel_readFunction_183
      have hB161 : ∀ (ls : Array Slot) (l1 l3 t0 : Int32) (σ : rt_St) (H : Heap) (locs : List Loc), lv_has ls 6 [(0, .ref (A 0)), (1, .int l1), (3, .int l3)] → B_R_RangeTellerModel_readFunction_161 (B_R_RangeTellerModel_readFunction_75 n75) l1 l3 t0 σ = some σ' → va_P D rt_cl (rtR_W cI cZ A σ) H → va_S (rt_A (rtR_W cI cZ A) s.heap.size) s.heap H locs → W p l e ({ frames := 2, cells := 0, slots := 0, locals := 45 } : Room) s m ([.ref (A 0), .int a1] : List Value).toArray below meth c H locs 0 0 (rt_Qv D rt_cl (rt_t cI cZ) rtR_X (rtR_W cI cZ A) below ([.ref (A 0), .int a1] : List Value).toArray s σ') (F0 m 161 ls [.int t0]) := by
        intro ls l1 l3 t0 σ H locs hl hm hP hS
        unfold B_R_RangeTellerModel_readFunction_161 at hm
        refine lv_istore hx hb d_RangeTellerModel_readFunction_161 hl (by decide) rfl (fun ls hl => ?_)
        have hl : lv_has ls 6 [(4, .int t0), (0, .ref (A 0)), (1, .int l1), (3, .int l3)] := hl
        exact hB163 ls l1 l3 t0 σ _ _ (lv_sub hl [1, 2, 3, 0] rfl) hm hP hS
      have hB160 : ∀ (ls : Array Slot) (l1 l3 : Int32) (σ : rt_St) (H : Heap) (locs : List Loc), lv_has ls 6 [(0, .ref (A 0)), (1, .int l1), (3, .int l3)] → B_R_RangeTellerModel_readFunction_160 (B_R_RangeTellerModel_readFunction_75 n75) l1 l3 σ = some σ' → va_P D rt_cl (rtR_W cI cZ A σ) H → va_S (rt_A (rtR_W cI cZ A) s.heap.size) s.heap H locs → W p l e ({ frames := 2, cells := 0, slots := 0, locals := 45 } : Room) s m ([.ref (A 0), .int a1] : List Value).toArray below meth c H locs 0 0 (rt_Qv D rt_cl (rt_t cI cZ) rtR_X (rtR_W cI cZ A) below ([.ref (A 0), .int a1] : List Value).toArray s σ') (F0 m 160 ls []) := by
        intro ls l1 l3 σ H locs hl hm hP hS
        unfold B_R_RangeTellerModel_readFunction_160 at hm
        refine lv_iconst (v := 0) hx hb d_RangeTellerModel_readFunction_160 (by decide) ?_
        exact hB161 ls l1 l3 0 σ _ _ (lv_sub hl [0, 1, 2] rfl) hm hP hS
      have hB103 : ∀ (ls : Array Slot) (l1 l3 t0 : Int32) (σ : rt_St) (H : Heap) (locs : List Loc), lv_has ls 6 [(0, .ref (A 0)), (1, .int l1), (3, .int l3)] → B_R_RangeTellerModel_readFunction_103 (B_R_RangeTellerModel_readFunction_75 n75) l1 l3 t0 σ = some σ' → va_P D rt_cl (rtR_W cI cZ A σ) H → va_S (rt_A (rtR_W cI cZ A) s.heap.size) s.heap H locs → W p l e ({ frames := 2, cells := 0, slots := 0, locals := 45 } : Room) s m ([.ref (A 0), .int a1] : List Value).toArray below meth c H locs 0 0 (rt_Qv D rt_cl (rt_t cI cZ) rtR_X (rtR_W cI cZ A) below ([.ref (A 0), .int a1] : List Value).toArray s σ') (F0 m 103 ls [.int t0]) := by
        intro ls l1 l3 t0 σ H locs hl hm hP hS
        unfold B_R_RangeTellerModel_readFunction_103 at hm
        refine lv_istore hx hb d_RangeTellerModel_readFunction_103 hl (by decide) rfl (fun ls hl => ?_)
        have hl : lv_has ls 6 [(4, .int t0), (0, .ref (A 0)), (1, .int l1), (3, .int l3)] := hl
        refine lv_iload_n hx hb d_RangeTellerModel_readFunction_105 rfl (lv_at hl 3 rfl) ?_
        refine lv_iconst (v := 4) hx hb d_RangeTellerModel_readFunction_106 (by decide) ?_
        refine lv_icmp_ne (tgt := 163) hx hb d_RangeTellerModel_readFunction_107 (by decide) (fun hc => ?_) (fun hc => ?_)
        · have hm := (if_neg hc).symm.trans hm
          exact hB163 ls l1 l3 t0 σ _ _ (lv_sub hl [1, 2, 3, 0] rfl) hm hP hS
        · have hm := (if_pos hc).symm.trans hm
          refine lv_aload_n hx hb d_RangeTellerModel_readFunction_110 rfl (lv_at hl 1 rfl) ?_
          refine va_get (D := D) (v := .int (σ 0 21)) (C := "RangeTellerModel") (T := rt_T6) (N := 69) hx hb hts rt_i6 hown hK hP 0 rfl rfl 21 (by decide) (hts _ (rt_m rt_w868)) (fun _ h9 => h9) rfl d_RangeTellerModel_readFunction_111 ?_
          refine lv_if_le (tgt := 160) hx hb d_RangeTellerModel_readFunction_114 (by decide) (fun hc => ?_) (fun hc => ?_)
          · have hm := (if_pos hc).symm.trans hm
            exact hB160 ls l1 l3 σ _ _ (lv_sub hl [1, 2, 3] rfl) hm hP hS
          · have hm := (if_neg hc).symm.trans hm
            refine lv_aload_n hx hb d_RangeTellerModel_readFunction_117 rfl (lv_at hl 1 rfl) ?_
            refine va_get (D := D) (v := .ref (A 2)) (C := "RangeTellerModel") (T := rt_T6) (N := 69) hx hb hts rt_i6 hown hK hP 0 rfl rfl 7 (by decide) (hts _ (rt_m rt_w854)) (fun _ h9 => h9) rfl d_RangeTellerModel_readFunction_118 ?_
            refine lv_aload_n hx hb d_RangeTellerModel_readFunction_121 rfl (lv_at hl 1 rfl) ?_
            refine va_get (D := D) (v := .ref (A 15)) (C := "RangeTellerModel") (T := rt_T6) (N := 69) hx hb hts rt_i6 hown hK hP 0 rfl rfl 22 (by decide) (hts _ (rt_m rt_w869)) (fun _ h9 => h9) rfl d_RangeTellerModel_readFunction_122 ?_
            refine lv_aload_n hx hb d_RangeTellerModel_readFunction_125 rfl (lv_at hl 1 rfl) ?_
            refine va_get (D := D) (v := .int (σ 0 21)) (C := "RangeTellerModel") (T := rt_T6) (N := 69) hx hb hts rt_i6 hown hK hP 0 rfl rfl 21 (by decide) (hts _ (rt_m rt_w868)) (fun _ h9 => h9) rfl d_RangeTellerModel_readFunction_126 ?_
            refine lv_iconst (v := 1) hx hb d_RangeTellerModel_readFunction_129 (by decide) ?_
            refine lv_isub hx hb d_RangeTellerModel_readFunction_130 ?_
            obtain ⟨v32, h33, hm⟩ := rt_b1s hm
            refine rt_ald hx hb hK hP 15 0 rfl rfl h33 d_RangeTellerModel_readFunction_131 ?_
            obtain ⟨v34, h35, hm⟩ := rt_b1s hm
            refine rt_ald hx hb hK hP 2 0 rfl rfl h35 d_RangeTellerModel_readFunction_132 ?_
            refine lv_iconst (v := 3) hx hb d_RangeTellerModel_readFunction_133 (by decide) ?_
            refine lv_icmp_ne (tgt := 160) hx hb d_RangeTellerModel_readFunction_134 (by decide) (fun hc => ?_) (fun hc => ?_)
            · have hm := (if_neg hc).symm.trans hm
              exact hB160 ls l1 l3 σ _ _ (lv_sub hl [1, 2, 3] rfl) hm hP hS
            · have hm := (if_pos hc).symm.trans hm
              refine lv_aload_n hx hb d_RangeTellerModel_readFunction_137 rfl (lv_at hl 1 rfl) ?_
              refine va_get (D := D) (v := .ref (A 6)) (C := "RangeTellerModel") (T := rt_T6) (N := 69) hx hb hts rt_i6 hown hK hP 0 rfl rfl 11 (by decide) (hts _ (rt_m rt_w858)) (fun _ h9 => h9) rfl d_RangeTellerModel_readFunction_138 ?_
              refine lv_aload_n hx hb d_RangeTellerModel_readFunction_141 rfl (lv_at hl 1 rfl) ?_
              refine va_get (D := D) (v := .ref (A 15)) (C := "RangeTellerModel") (T := rt_T6) (N := 69) hx hb hts rt_i6 hown hK hP 0 rfl rfl 22 (by decide) (hts _ (rt_m rt_w869)) (fun _ h9 => h9) rfl d_RangeTellerModel_readFunction_142 ?_
              refine lv_aload_n hx hb d_RangeTellerModel_readFunction_145 rfl (lv_at hl 1 rfl) ?_
              refine va_get (D := D) (v := .int (σ 0 21)) (C := "RangeTellerModel") (T := rt_T6) (N := 69) hx hb hts rt_i6 hown hK hP 0 rfl rfl 21 (by decide) (hts _ (rt_m rt_w868)) (fun _ h9 => h9) rfl d_RangeTellerModel_readFunction_146 ?_
              refine lv_iconst (v := 1) hx hb d_RangeTellerModel_readFunction_149 (by decide) ?_
              refine lv_isub hx hb d_RangeTellerModel_readFunction_150 ?_
              obtain ⟨v36, h37, hm⟩ := rt_b1s hm
              refine rt_ald hx hb hK hP 15 0 rfl rfl h37 d_RangeTellerModel_readFunction_151 ?_
              obtain ⟨v38, h39, hm⟩ := rt_b1s hm
              refine rt_ald hx hb hK hP 6 0 rfl rfl h39 d_RangeTellerModel_readFunction_152 ?_
              refine lv_if_ge (tgt := 160) hx hb d_RangeTellerModel_readFunction_153 (by decide) (fun hc => ?_) (fun hc => ?_)
              · have hm := (if_pos hc).symm.trans hm
                exact hB160 ls l1 l3 σ _ _ (lv_sub hl [1, 2, 3] rfl) hm hP hS
              · have hm := (if_neg hc).symm.trans hm
                refine lv_iconst (v := 1) hx hb d_RangeTellerModel_readFunction_156 (by decide) ?_
                refine lv_goto (tgt := 161) hx hb d_RangeTellerModel_readFunction_157 (by decide) ?_
                exact hB161 ls l1 l3 1 σ _ _ (lv_sub hl [1, 2, 3] rfl) hm hP hS
      intro ls l1 l2 σ H locs hl hm hP hS
      rw [B_R_RangeTellerModel_readFunction_75] at hm
      refine lv_iload_n hx hb d_RangeTellerModel_readFunction_75 rfl (lv_at hl 2 rfl) ?_
      refine lv_if_ne (tgt := 363) hx hb d_RangeTellerModel_readFunction_76 (by decide) (fun hc => ?_) (fun hc => ?_)
      · have hm := (if_neg hc).symm.trans hm
        exact W.vret hx hb hr (fun t ht hW => ⟨⟨_, rfl, Option.some.inj hm, rt_end rtR_Xo hK hP hS hX ht hW⟩, hS.F ht⟩) hS.2.2 d_RangeTellerModel_readFunction_363
      · have hm := (if_pos hc).symm.trans hm
        refine lv_aload_n hx hb d_RangeTellerModel_readFunction_79 rfl (lv_at hl 0 rfl) ?_
        obtain ⟨v42, σ41, h40, hm⟩ := rt_b2s hm
        refine rt_cvi (As := []) (rest := []) (k := 0) rtR_Xo ⟨hx, hb, hml, hown, hts⟩ (k_R_RangeTellerModel_take l D cI cZ A hO σ _ _ h40) (cw_RangeTellerModel_take hts (hts _ (rt_m rt_w1071)) ⟨Nat.le_of_ble_eq_true rfl, Nat.le_of_ble_eq_true rfl⟩) hK hP hS hX rfl rfl rfl hl.1 rfl (Nat.le_of_ble_eq_true rfl) d_RangeTellerModel_readFunction_80 ⟨Nat.zero_le _, Nat.zero_le _⟩ (fun H locs hP hS => ?_)
        refine lv_istore_n hx hb d_RangeTellerModel_readFunction_83 rfl hl (by decide) rfl (fun ls hl => ?_)
        have hl : lv_has ls 6 [(3, .int v42), (0, .ref (A 0)), (1, .int l1), (2, .int l2)] := hl
        refine lv_aload_n hx hb d_RangeTellerModel_readFunction_84 rfl (lv_at hl 1 rfl) ?_
        refine va_get (D := D) (v := .int (σ41 0 3)) (C := "RangeTellerModel") (T := rt_T6) (N := 69) hx hb hts rt_i6 hown hK hP 0 rfl rfl 3 (by decide) (hts _ (rt_m rt_w850)) (fun _ h9 => h9) rfl d_RangeTellerModel_readFunction_85 ?_
        refine lv_if_eq (tgt := 92) hx hb d_RangeTellerModel_readFunction_88 (by decide) (fun hc => ?_) (fun hc => ?_)
        · have hm := (if_pos hc).symm.trans hm
          refine lv_iload_n hx hb d_RangeTellerModel_readFunction_92 rfl (lv_at hl 0 rfl) ?_
          refine lv_bipush (v := 29) hx hb d_RangeTellerModel_readFunction_93 (by decide) ?_
          refine lv_icmp_ge (tgt := 102) hx hb d_RangeTellerModel_readFunction_95 (by decide) (fun hc => ?_) (fun hc => ?_)
          · have hm := (if_pos hc).symm.trans hm
            refine lv_iconst (v := 0) hx hb d_RangeTellerModel_readFunction_102 (by decide) ?_
            exact hB103 ls l1 v42 0 σ41 _ _ (lv_sub hl [1, 2, 0] rfl) hm hP hS
          · have hm := (if_neg hc).symm.trans hm
            refine lv_iconst (v := 1) hx hb d_RangeTellerModel_readFunction_98 (by decide) ?_
            refine lv_goto (tgt := 103) hx hb d_RangeTellerModel_readFunction_99 (by decide) ?_
            exact hB103 ls l1 v42 1 σ41 _ _ (lv_sub hl [1, 2, 0] rfl) hm hP hS
        · have hm := (if_neg hc).symm.trans hm
          exact W.vret hx hb hr (fun t ht hW => ⟨⟨_, rfl, Option.some.inj hm, rt_end rtR_Xo hK hP hS hX ht hW⟩, hS.F ht⟩) hS.2.2 d_RangeTellerModel_readFunction_91
  have hB50 : ∀ (ls : Array Slot) (l1 : Int32) (σ : rt_St) (H : Heap) (locs : List Loc), lv_has ls 6 [(0, .ref (A 0)), (1, .int l1)] → B_R_RangeTellerModel_readFunction_50 l1 σ = some σ' → va_P D rt_cl (rtR_W cI cZ A σ) H → va_S (rt_A (rtR_W cI cZ A) s.heap.size) s.heap H locs → W p l e ({ frames := 2, cells := 0, slots := 0, locals := 45 } : Room) s m ([.ref (A 0), .int a1] : List Value).toArray below meth c H locs 0 0 (rt_Qv D rt_cl (rt_t cI cZ) rtR_X (rtR_W cI cZ A) below ([.ref (A 0), .int a1] : List Value).toArray s σ') (F0 m 50 ls []) := by
    intro ls l1 σ H locs hl hm hP hS
    unfold B_R_RangeTellerModel_readFunction_50 at hm
    refine lv_aload_n hx hb d_RangeTellerModel_readFunction_50 rfl (lv_at hl 0 rfl) ?_
    refine va_get (D := D) (v := .int (σ 0 3)) (C := "RangeTellerModel") (T := rt_T6) (N := 69) hx hb hts rt_i6 hown hK hP 0 rfl rfl 3 (by decide) (hts _ (rt_m rt_w850)) (fun _ h9 => h9) rfl d_RangeTellerModel_readFunction_51 ?_
    refine lv_if_eq (tgt := 58) hx hb d_RangeTellerModel_readFunction_54 (by decide) (fun hc => ?_) (fun hc => ?_)
    · have hm := (if_pos hc).symm.trans hm
      refine lv_aload_n hx hb d_RangeTellerModel_readFunction_58 rfl (lv_at hl 0 rfl) ?_
      refine va_get (D := D) (v := .ref (A 14)) (C := "RangeTellerModel") (T := rt_T6) (N := 69) hx hb hts rt_i6 hown hK hP 0 rfl rfl 20 (by decide) (hts _ (rt_m rt_w867)) (fun _ h9 => h9) rfl d_RangeTellerModel_readFunction_59 ?_
      refine lv_iload_n hx hb d_RangeTellerModel_readFunction_62 rfl (lv_at hl 1 rfl) ?_
      refine lv_aload_n hx hb d_RangeTellerModel_readFunction_63 rfl (lv_at hl 0 rfl) ?_
      refine va_get (D := D) (v := .int (σ 0 6)) (C := "RangeTellerModel") (T := rt_T6) (N := 69) hx hb hts rt_i6 hown hK hP 0 rfl rfl 6 (by decide) (hts _ (rt_m rt_w853)) (fun _ h9 => h9) rfl d_RangeTellerModel_readFunction_64 ?_
      obtain ⟨σ43, h44, hm⟩ := rt_b1s hm
      refine rt_ast hx hb hK hP hD hS 14 0 rfl (rtR_a14 cI cZ A _) rfl h44 d_RangeTellerModel_readFunction_67 (fun H locs hP hS => ?_)
      refine lv_aload_n hx hb d_RangeTellerModel_readFunction_68 rfl (lv_at hl 0 rfl) ?_
      refine lv_iconst (v := 0) hx hb d_RangeTellerModel_readFunction_69 (by decide) ?_
      obtain ⟨σ45, h46, hm⟩ := rt_b1s hm
      refine rt_pf (D := D) (C := "RangeTellerModel") (T := rt_T6) (N := 69) (ty := .int) hx hb hts rt_i6 rt_y6 rt_o6 rt_n6 hown hK hP hD hS 0 rfl rfl 21 (by decide) (hts _ (rt_m rt_w868)) (fun _ h9 => h9) rfl (by decide +kernel) rfl rfl (Nat.le_of_ble_eq_true rfl) (rtR_s0_21 cI cZ A _ _) h46 d_RangeTellerModel_readFunction_70 (fun H locs hP hS => ?_)
      refine lv_iconst (v := 0) hx hb d_RangeTellerModel_readFunction_73 (by decide) ?_
      refine lv_istore_n hx hb d_RangeTellerModel_readFunction_74 rfl hl (by decide) rfl (fun ls hl => ?_)
      have hl : lv_has ls 6 [(2, .int 0), (0, .ref (A 0)), (1, .int l1)] := hl
      exact hB75 _ ls l1 0 σ45 _ _ (lv_sub hl [1, 2, 0] rfl) hm hP hS
    · have hm := (if_neg hc).symm.trans hm
      exact W.vret hx hb hr (fun t ht hW => ⟨⟨_, rfl, Option.some.inj hm, rt_end rtR_Xo hK hP hS hX ht hW⟩, hS.F ht⟩) hS.2.2 d_RangeTellerModel_readFunction_57
  have hB31 : ∀ (ls : Array Slot) (l1 : Int32) (σ : rt_St) (H : Heap) (locs : List Loc), lv_has ls 6 [(0, .ref (A 0)), (1, .int l1)] → B_R_RangeTellerModel_readFunction_31 l1 σ = some σ' → va_P D rt_cl (rtR_W cI cZ A σ) H → va_S (rt_A (rtR_W cI cZ A) s.heap.size) s.heap H locs → W p l e ({ frames := 2, cells := 0, slots := 0, locals := 45 } : Room) s m ([.ref (A 0), .int a1] : List Value).toArray below meth c H locs 0 0 (rt_Qv D rt_cl (rt_t cI cZ) rtR_X (rtR_W cI cZ A) below ([.ref (A 0), .int a1] : List Value).toArray s σ') (F0 m 31 ls []) := by
    intro ls l1 σ H locs hl hm hP hS
    unfold B_R_RangeTellerModel_readFunction_31 at hm
    refine lv_aload_n hx hb d_RangeTellerModel_readFunction_31 rfl (lv_at hl 0 rfl) ?_
    refine va_get (D := D) (v := .int (σ 0 3)) (C := "RangeTellerModel") (T := rt_T6) (N := 69) hx hb hts rt_i6 hown hK hP 0 rfl rfl 3 (by decide) (hts _ (rt_m rt_w850)) (fun _ h9 => h9) rfl d_RangeTellerModel_readFunction_32 ?_
    refine lv_if_ne (tgt := 50) hx hb d_RangeTellerModel_readFunction_35 (by decide) (fun hc => ?_) (fun hc => ?_)
    · have hm := (if_neg hc).symm.trans hm
      exact hB50 ls l1 σ _ _ (lv_sub hl [0, 1] rfl) hm hP hS
    · have hm := (if_pos hc).symm.trans hm
      refine lv_aload_n hx hb d_RangeTellerModel_readFunction_38 rfl (lv_at hl 0 rfl) ?_
      refine va_get (D := D) (v := .ref (A 13)) (C := "RangeTellerModel") (T := rt_T6) (N := 69) hx hb hts rt_i6 hown hK hP 0 rfl rfl 19 (by decide) (hts _ (rt_m rt_w866)) (fun _ h9 => h9) rfl d_RangeTellerModel_readFunction_39 ?_
      refine lv_iload_n hx hb d_RangeTellerModel_readFunction_42 rfl (lv_at hl 1 rfl) ?_
      refine lv_aload_n hx hb d_RangeTellerModel_readFunction_43 rfl (lv_at hl 0 rfl) ?_
      refine lv_iconst (v := 0) hx hb d_RangeTellerModel_readFunction_44 (by decide) ?_
      refine lv_iconst (v := 1) hx hb d_RangeTellerModel_readFunction_45 (by decide) ?_
      obtain ⟨v49, σ48, h47, hm⟩ := rt_b2s hm
      refine rt_cvi (As := [.int 0, .int 1]) (rest := [.int l1, .ref (A 13)]) (k := 0) rtR_Xo ⟨hx, hb, hml, hown, hts⟩ (k_R_RangeTellerModel_number l D cI cZ A hO σ 0 1 _ _ h47) (cw_RangeTellerModel_number hts (hts _ (rt_m rt_w1067)) ⟨Nat.le_of_ble_eq_true rfl, Nat.le_of_ble_eq_true rfl⟩) hK hP hS hX rfl rfl rfl hl.1 rfl (Nat.le_of_ble_eq_true rfl) d_RangeTellerModel_readFunction_46 ⟨Nat.zero_le _, Nat.zero_le _⟩ (fun H locs hP hS => ?_)
      obtain ⟨σ50, h51, hm⟩ := rt_b1s hm
      refine rt_ast hx hb hK hP hD hS 13 0 rfl (rtR_a13 cI cZ A _) rfl h51 d_RangeTellerModel_readFunction_49 (fun H locs hP hS => ?_)
      exact hB50 ls l1 σ50 _ _ (lv_sub hl [0, 1] rfl) hm hP hS
  unfold M_R_RangeTellerModel_readFunction at hm
  refine lv_aload_n hx hb d_RangeTellerModel_readFunction_0 rfl (lv_at hl 0 rfl) ?_
  refine va_get (D := D) (v := .ref (A 11)) (C := "RangeTellerModel") (T := rt_T6) (N := 69) hx hb hts rt_i6 hown hK hP 0 rfl rfl 17 (by decide) (hts _ (rt_m rt_w864)) (fun _ h9 => h9) rfl d_RangeTellerModel_readFunction_1 ?_
  refine lv_iload_n hx hb d_RangeTellerModel_readFunction_4 rfl (lv_at hl 1 rfl) ?_
  refine lv_aload_n hx hb d_RangeTellerModel_readFunction_5 rfl (lv_at hl 0 rfl) ?_
  refine lv_iconst (v := 0) hx hb d_RangeTellerModel_readFunction_6 (by decide) ?_
  refine lv_iconst (v := 2) hx hb d_RangeTellerModel_readFunction_7 (by decide) ?_
  obtain ⟨v54, σ53, h52, hm⟩ := rt_b2s hm
  refine rt_cvi (As := [.int 0, .int 2]) (rest := [.int a1, .ref (A 11)]) (k := 0) rtR_Xo ⟨hx, hb, hml, hown, hts⟩ (k_R_RangeTellerModel_number l D cI cZ A hO σ 0 2 _ _ h52) (cw_RangeTellerModel_number hts (hts _ (rt_m rt_w1067)) ⟨Nat.le_of_ble_eq_true rfl, Nat.le_of_ble_eq_true rfl⟩) hK hP hS hX rfl rfl rfl hl.1 rfl (Nat.le_of_ble_eq_true rfl) d_RangeTellerModel_readFunction_8 ⟨Nat.zero_le _, Nat.zero_le _⟩ (fun H locs hP hS => ?_)
  obtain ⟨σ55, h56, hm⟩ := rt_b1s hm
  refine rt_ast hx hb hK hP hD hS 11 0 rfl (rtR_a11 cI cZ A _) rfl h56 d_RangeTellerModel_readFunction_11 (fun H locs hP hS => ?_)
  refine lv_aload_n hx hb d_RangeTellerModel_readFunction_12 rfl (lv_at hl 0 rfl) ?_
  refine va_get (D := D) (v := .int (σ55 0 3)) (C := "RangeTellerModel") (T := rt_T6) (N := 69) hx hb hts rt_i6 hown hK hP 0 rfl rfl 3 (by decide) (hts _ (rt_m rt_w850)) (fun _ h9 => h9) rfl d_RangeTellerModel_readFunction_13 ?_
  refine lv_if_ne (tgt := 31) hx hb d_RangeTellerModel_readFunction_16 (by decide) (fun hc => ?_) (fun hc => ?_)
  · have hm := (if_neg hc).symm.trans hm
    exact hB31 ls a1 σ55 _ _ (lv_sub hl [0, 1] rfl) hm hP hS
  · have hm := (if_pos hc).symm.trans hm
    refine lv_aload_n hx hb d_RangeTellerModel_readFunction_19 rfl (lv_at hl 0 rfl) ?_
    refine va_get (D := D) (v := .ref (A 12)) (C := "RangeTellerModel") (T := rt_T6) (N := 69) hx hb hts rt_i6 hown hK hP 0 rfl rfl 18 (by decide) (hts _ (rt_m rt_w865)) (fun _ h9 => h9) rfl d_RangeTellerModel_readFunction_20 ?_
    refine lv_iload_n hx hb d_RangeTellerModel_readFunction_23 rfl (lv_at hl 1 rfl) ?_
    refine lv_aload_n hx hb d_RangeTellerModel_readFunction_24 rfl (lv_at hl 0 rfl) ?_
    refine lv_iconst (v := 0) hx hb d_RangeTellerModel_readFunction_25 (by decide) ?_
    refine lv_iconst (v := 2) hx hb d_RangeTellerModel_readFunction_26 (by decide) ?_
    obtain ⟨v59, σ58, h57, hm⟩ := rt_b2s hm
    refine rt_cvi (As := [.int 0, .int 2]) (rest := [.int a1, .ref (A 12)]) (k := 0) rtR_Xo ⟨hx, hb, hml, hown, hts⟩ (k_R_RangeTellerModel_number l D cI cZ A hO σ55 0 2 _ _ h57) (cw_RangeTellerModel_number hts (hts _ (rt_m rt_w1067)) ⟨Nat.le_of_ble_eq_true rfl, Nat.le_of_ble_eq_true rfl⟩) hK hP hS hX rfl rfl rfl hl.1 rfl (Nat.le_of_ble_eq_true rfl) d_RangeTellerModel_readFunction_27 ⟨Nat.zero_le _, Nat.zero_le _⟩ (fun H locs hP hS => ?_)
    obtain ⟨σ60, h61, hm⟩ := rt_b1s hm
    refine rt_ast hx hb hK hP hD hS 12 0 rfl (rtR_a12 cI cZ A _) rfl h61 d_RangeTellerModel_readFunction_30 (fun H locs hP hS => ?_)
    exact hB31 ls a1 σ60 _ _ (lv_sub hl [0, 1] rfl) hm hP hS
set_option maxHeartbeats 4000000 in
set_option maxRecDepth 100000 in
theorem k_R_RangeTellerModel_read (l : Launch) (D : va_G) (cI cZ : ClassId) (A : Nat → Nat) (hO : rt_Ok (rtR_W cI cZ A)) (σ : rt_St) (r' : Int32) (σ' : rt_St) (hm : M_R_RangeTellerModel_read σ = some (r', σ')) (sz : Nat) : Met l y_RangeTellerModel_read (rt_ws y_RangeTellerModel_read b_RangeTellerModel_read 2 (some .boolean)) ({ frames := 3, cells := 0, slots := 0, locals := 70 } : Room) (va_Pc [.ref (A 0)] (rt_P D rt_cl (rt_t cI cZ) rtR_X (rtR_W cI cZ A) sz σ)) (va_Qi (fun r1 u1 => r1 = r' ∧ u1 = σ') (rt_B D rt_cl (rt_t cI cZ) rtR_X (rtR_W cI cZ A)) (rt_A (rtR_W cI cZ A) sz)) 0 0 (rt_A (rtR_W cI cZ A) sz) := by
  refine Met.ofW (cc := b_RangeTellerModel_read) (maxL := 2) (ret := (some .boolean)) (by decide) rfl ?_
  intro p e s m args below meth c s₁ B hml hv
  obtain ⟨rfl, rfl, hP, hK, hX⟩ := hv
  have hx := B.exec
  have hb := B.bytes
  have hr := B.returns
  have hts := atoms_spec (ws := (rt_ws y_RangeTellerModel_read b_RangeTellerModel_read 2 (some .boolean))) B.pre
  have hown : s.vm.findClass "RangeTellerModel" = some m.cls := findClass_of_methodNamed B.named
  have hlocks := B.notSynchronized
  have hD := rt_hD hO s.heap.size
  have hS : va_S (rt_A (rtR_W cI cZ A) s.heap.size) s.heap s.heap [] := va_S.rf
  have hl := lv_entry ([.ref (A 0)]) (n := 2) (Nat.le_of_ble_eq_true rfl)
  rw [lg_entry_eq]
  generalize (lg_sl ([.ref (A 0)]) ++ List.replicate (2 - (lg_sl ([.ref (A 0)])).length) Slot.unset).toArray = ls at hl ⊢
  have hl : lv_has ls 2 [(0, .ref (A 0))] := hl
  show W p l e ({ frames := 3, cells := 0, slots := 0, locals := 70 } : Room) s m ([.ref (A 0)] : List Value).toArray below meth c s.heap [] 0 0 (rt_Qi D rt_cl (rt_t cI cZ) rtR_X (rtR_W cI cZ A) below ([.ref (A 0)] : List Value).toArray s r' σ') (F0 m 0 ls [])
  have hB76 : ∀ (ls : Array Slot) (σ : rt_St) (H : Heap) (locs : List Loc), lv_has ls 2 [(0, .ref (A 0))] → B_R_RangeTellerModel_read_76 σ = some (r', σ') → va_P D rt_cl (rtR_W cI cZ A σ) H → va_S (rt_A (rtR_W cI cZ A) s.heap.size) s.heap H locs → W p l e ({ frames := 3, cells := 0, slots := 0, locals := 70 } : Room) s m ([.ref (A 0)] : List Value).toArray below meth c H locs 0 0 (rt_Qi D rt_cl (rt_t cI cZ) rtR_X (rtR_W cI cZ A) below ([.ref (A 0)] : List Value).toArray s r' σ') (F0 m 76 ls []) := by
    intro ls σ H locs hl hm hP hS
    unfold B_R_RangeTellerModel_read_76 at hm
    refine lv_aload_n hx hb d_RangeTellerModel_read_76 rfl (lv_at hl 0 rfl) ?_
    refine va_get (D := D) (v := .int (σ 0 3)) (C := "RangeTellerModel") (T := rt_T6) (N := 69) hx hb hts rt_i6 hown hK hP 0 rfl rfl 3 (by decide) (hts _ (rt_m rt_w850)) (fun _ h9 => h9) rfl d_RangeTellerModel_read_77 ?_
    refine lv_if_ne (tgt := 87) hx hb d_RangeTellerModel_read_80 (by decide) (fun hc => ?_) (fun hc => ?_)
    · have hm := (if_neg hc).symm.trans hm
      refine lv_iconst (v := 0) hx hb d_RangeTellerModel_read_87 (by decide) ?_
      exact W.zret hx hb hr rfl (fun t ht hW => ⟨⟨_, _, rfl, rt_pr hm, rt_end rtR_Xo hK hP hS hX ht hW⟩, hS.F ht⟩) hS.2.2 d_RangeTellerModel_read_88
    · have hm := (if_pos hc).symm.trans hm
      refine lv_iconst (v := 1) hx hb d_RangeTellerModel_read_83 (by decide) ?_
      refine lv_goto (tgt := 88) hx hb d_RangeTellerModel_read_84 (by decide) ?_
      exact W.zret hx hb hr rfl (fun t ht hW => ⟨⟨_, _, rfl, rt_pr hm, rt_end rtR_Xo hK hP hS hX ht hW⟩, hS.F ht⟩) hS.2.2 d_RangeTellerModel_read_88
  have hB53 : ∀ (ls : Array Slot) (σ : rt_St) (H : Heap) (locs : List Loc), lv_has ls 2 [(0, .ref (A 0))] → B_R_RangeTellerModel_read_53 σ = some (r', σ') → va_P D rt_cl (rtR_W cI cZ A σ) H → va_S (rt_A (rtR_W cI cZ A) s.heap.size) s.heap H locs → W p l e ({ frames := 3, cells := 0, slots := 0, locals := 70 } : Room) s m ([.ref (A 0)] : List Value).toArray below meth c H locs 0 0 (rt_Qi D rt_cl (rt_t cI cZ) rtR_X (rtR_W cI cZ A) below ([.ref (A 0)] : List Value).toArray s r' σ') (F0 m 53 ls []) := by
    intro ls σ H locs hl hm hP hS
    unfold B_R_RangeTellerModel_read_53 at hm
    refine lv_aload_n hx hb d_RangeTellerModel_read_53 rfl (lv_at hl 0 rfl) ?_
    refine va_get (D := D) (v := .int (σ 0 3)) (C := "RangeTellerModel") (T := rt_T6) (N := 69) hx hb hts rt_i6 hown hK hP 0 rfl rfl 3 (by decide) (hts _ (rt_m rt_w850)) (fun _ h9 => h9) rfl d_RangeTellerModel_read_54 ?_
    refine lv_if_ne (tgt := 76) hx hb d_RangeTellerModel_read_57 (by decide) (fun hc => ?_) (fun hc => ?_)
    · have hm := (if_neg hc).symm.trans hm
      exact hB76 ls σ _ _ (lv_sub hl [0] rfl) hm hP hS
    · have hm := (if_pos hc).symm.trans hm
      refine lv_aload_n hx hb d_RangeTellerModel_read_60 rfl (lv_at hl 0 rfl) ?_
      refine va_get (D := D) (v := .int (σ 0 2)) (C := "RangeTellerModel") (T := rt_T6) (N := 69) hx hb hts rt_i6 hown hK hP 0 rfl rfl 2 (by decide) (hts _ (rt_m rt_w849)) (fun _ h9 => h9) rfl d_RangeTellerModel_read_61 ?_
      refine lv_aload_n hx hb d_RangeTellerModel_read_64 rfl (lv_at hl 0 rfl) ?_
      refine va_get (D := D) (v := .int (σ 0 0)) (C := "RangeTellerModel") (T := rt_T6) (N := 69) hx hb hts rt_i6 hown hK hP 0 rfl rfl 0 (by decide) (hts _ (rt_m rt_w847)) (fun _ h9 => h9) rfl d_RangeTellerModel_read_65 ?_
      refine lv_icmp_ge (tgt := 76) hx hb d_RangeTellerModel_read_68 (by decide) (fun hc => ?_) (fun hc => ?_)
      · have hm := (if_pos hc).symm.trans hm
        exact hB76 ls σ _ _ (lv_sub hl [0] rfl) hm hP hS
      · have hm := (if_neg hc).symm.trans hm
        refine lv_aload_n hx hb d_RangeTellerModel_read_71 rfl (lv_at hl 0 rfl) ?_
        refine lv_iconst (v := 1) hx hb d_RangeTellerModel_read_72 (by decide) ?_
        obtain ⟨σ1, h2, hm⟩ := rt_b1s hm
        refine rt_pf (D := D) (C := "RangeTellerModel") (T := rt_T6) (N := 69) (ty := .boolean) hx hb hts rt_i6 rt_y6 rt_o6 rt_n6 hown hK hP hD hS 0 rfl rfl 3 (by decide) (hts _ (rt_m rt_w850)) (fun _ h9 => h9) rfl (by decide +kernel) rfl rfl (Nat.le_of_ble_eq_true rfl) (rtR_s0_3 cI cZ A _ _) h2 d_RangeTellerModel_read_73 (fun H locs hP hS => ?_)
        exact hB76 ls σ1 _ _ (lv_sub hl [0] rfl) hm hP hS
  have hB27 : ∀ (n27 : Nat) (ls : Array Slot) (l1 : Int32) (σ : rt_St) (H : Heap) (locs : List Loc), lv_has ls 2 [(0, .ref (A 0)), (1, .int l1)] → B_R_RangeTellerModel_read_27 n27 l1 σ = some (r', σ') → va_P D rt_cl (rtR_W cI cZ A σ) H → va_S (rt_A (rtR_W cI cZ A) s.heap.size) s.heap H locs → W p l e ({ frames := 3, cells := 0, slots := 0, locals := 70 } : Room) s m ([.ref (A 0)] : List Value).toArray below meth c H locs 0 0 (rt_Qi D rt_cl (rt_t cI cZ) rtR_X (rtR_W cI cZ A) below ([.ref (A 0)] : List Value).toArray s r' σ') (F0 m 27 ls []) := by
    intro n27
    induction n27 with
    | zero => intro ls l1 σ H locs hl hm hP hS; rw [B_R_RangeTellerModel_read_27] at hm; cases hm
    | succ n27 ih27 =>
      intro ls l1 σ H locs hl hm hP hS
      rw [B_R_RangeTellerModel_read_27] at hm
      refine lv_iload_n hx hb d_RangeTellerModel_read_27 rfl (lv_at hl 1 rfl) ?_
      refine lv_aload_n hx hb d_RangeTellerModel_read_28 rfl (lv_at hl 0 rfl) ?_
      refine va_get (D := D) (v := .int (σ 0 16)) (C := "RangeTellerModel") (T := rt_T6) (N := 69) hx hb hts rt_i6 hown hK hP 0 rfl rfl 16 (by decide) (hts _ (rt_m rt_w863)) (fun _ h9 => h9) rfl d_RangeTellerModel_read_29 ?_
      refine lv_icmp_ge (tgt := 53) hx hb d_RangeTellerModel_read_32 (by decide) (fun hc => ?_) (fun hc => ?_)
      · have hm := (if_pos hc).symm.trans hm
        exact hB53 ls σ _ _ (lv_sub hl [0] rfl) hm hP hS
      · have hm := (if_neg hc).symm.trans hm
        refine lv_aload_n hx hb d_RangeTellerModel_read_35 rfl (lv_at hl 0 rfl) ?_
        refine va_get (D := D) (v := .int (σ 0 3)) (C := "RangeTellerModel") (T := rt_T6) (N := 69) hx hb hts rt_i6 hown hK hP 0 rfl rfl 3 (by decide) (hts _ (rt_m rt_w850)) (fun _ h9 => h9) rfl d_RangeTellerModel_read_36 ?_
        refine lv_if_ne (tgt := 53) hx hb d_RangeTellerModel_read_39 (by decide) (fun hc => ?_) (fun hc => ?_)
        · have hm := (if_neg hc).symm.trans hm
          exact hB53 ls σ _ _ (lv_sub hl [0] rfl) hm hP hS
        · have hm := (if_pos hc).symm.trans hm
          refine lv_aload_n hx hb d_RangeTellerModel_read_42 rfl (lv_at hl 0 rfl) ?_
          refine lv_iload_n hx hb d_RangeTellerModel_read_43 rfl (lv_at hl 1 rfl) ?_
          obtain ⟨σ4, h3, hm⟩ := rt_b1s hm
          refine rt_cvv (As := [.int l1]) (rest := []) (k := 0) rtR_Xo ⟨hx, hb, hml, hown, hts⟩ (k_R_RangeTellerModel_readFunction l D cI cZ A hO σ l1 _ h3) (cw_RangeTellerModel_readFunction hts (hts _ (rt_m rt_w1075)) ⟨Nat.le_of_ble_eq_true rfl, Nat.le_of_ble_eq_true rfl⟩) hK hP hS hX rfl rfl rfl hl.1 rfl (Nat.le_of_ble_eq_true rfl) d_RangeTellerModel_read_44 ⟨Nat.zero_le _, Nat.zero_le _⟩ (fun H locs hP hS => ?_)
          refine lv_iinc (k := 1) (v := (l1 + 1)) hx hb d_RangeTellerModel_read_47 hl rfl rfl (by decide) rfl (fun ls hl => ?_)
          have hl : lv_has ls 2 [(1, .int (l1 + 1)), (0, .ref (A 0))] := hl
          refine lv_goto (tgt := 27) hx hb d_RangeTellerModel_read_50 (by decide) ?_
          exact ih27 ls (l1 + 1) σ4 _ _ (lv_sub hl [1, 0] rfl) hm hP hS
  unfold M_R_RangeTellerModel_read at hm
  refine lv_aload_n hx hb d_RangeTellerModel_read_0 rfl (lv_at hl 0 rfl) ?_
  refine lv_iconst (v := 0) hx hb d_RangeTellerModel_read_1 (by decide) ?_
  obtain ⟨σ5, h6, hm⟩ := rt_b1s hm
  refine rt_pf (D := D) (C := "RangeTellerModel") (T := rt_T6) (N := 69) (ty := .int) hx hb hts rt_i6 rt_y6 rt_o6 rt_n6 hown hK hP hD hS 0 rfl rfl 2 (by decide) (hts _ (rt_m rt_w849)) (fun _ h9 => h9) rfl (by decide +kernel) rfl rfl (Nat.le_of_ble_eq_true rfl) (rtR_s0_2 cI cZ A _ _) h6 d_RangeTellerModel_read_2 (fun H locs hP hS => ?_)
  refine lv_aload_n hx hb d_RangeTellerModel_read_5 rfl (lv_at hl 0 rfl) ?_
  refine lv_iconst (v := 0) hx hb d_RangeTellerModel_read_6 (by decide) ?_
  obtain ⟨σ7, h8, hm⟩ := rt_b1s hm
  refine rt_pf (D := D) (C := "RangeTellerModel") (T := rt_T6) (N := 69) (ty := .boolean) hx hb hts rt_i6 rt_y6 rt_o6 rt_n6 hown hK hP hD hS 0 rfl rfl 3 (by decide) (hts _ (rt_m rt_w850)) (fun _ h9 => h9) rfl (by decide +kernel) rfl rfl (Nat.le_of_ble_eq_true rfl) (rtR_s0_3 cI cZ A _ _) h8 d_RangeTellerModel_read_7 (fun H locs hP hS => ?_)
  refine lv_aload_n hx hb d_RangeTellerModel_read_10 rfl (lv_at hl 0 rfl) ?_
  refine lv_iconst (v := 0) hx hb d_RangeTellerModel_read_11 (by decide) ?_
  obtain ⟨σ9, h10, hm⟩ := rt_b1s hm
  refine rt_pf (D := D) (C := "RangeTellerModel") (T := rt_T6) (N := 69) (ty := .int) hx hb hts rt_i6 rt_y6 rt_o6 rt_n6 hown hK hP hD hS 0 rfl rfl 6 (by decide) (hts _ (rt_m rt_w853)) (fun _ h9 => h9) rfl (by decide +kernel) rfl rfl (Nat.le_of_ble_eq_true rfl) (rtR_s0_6 cI cZ A _ _) h10 d_RangeTellerModel_read_12 (fun H locs hP hS => ?_)
  refine lv_aload_n hx hb d_RangeTellerModel_read_15 rfl (lv_at hl 0 rfl) ?_
  refine lv_aload_n hx hb d_RangeTellerModel_read_16 rfl (lv_at hl 0 rfl) ?_
  refine lv_iconst (v := 1) hx hb d_RangeTellerModel_read_17 (by decide) ?_
  refine lv_iconst (v := 3) hx hb d_RangeTellerModel_read_18 (by decide) ?_
  obtain ⟨v13, σ12, h11, hm⟩ := rt_b2s hm
  refine rt_cvi (As := [.int 1, .int 3]) (rest := [.ref (A 0)]) (k := 0) rtR_Xo ⟨hx, hb, hml, hown, hts⟩ (k_R_RangeTellerModel_number l D cI cZ A hO σ9 1 3 _ _ h11) (cw_RangeTellerModel_number hts (hts _ (rt_m rt_w1067)) ⟨Nat.le_of_ble_eq_true rfl, Nat.le_of_ble_eq_true rfl⟩) hK hP hS hX rfl rfl rfl hl.1 rfl (Nat.le_of_ble_eq_true rfl) d_RangeTellerModel_read_19 ⟨Nat.zero_le _, Nat.zero_le _⟩ (fun H locs hP hS => ?_)
  obtain ⟨σ14, h15, hm⟩ := rt_b1s hm
  refine rt_pf (D := D) (C := "RangeTellerModel") (T := rt_T6) (N := 69) (ty := .int) hx hb hts rt_i6 rt_y6 rt_o6 rt_n6 hown hK hP hD hS 0 rfl rfl 16 (by decide) (hts _ (rt_m rt_w863)) (fun _ h9 => h9) rfl (by decide +kernel) rfl rfl (Nat.le_of_ble_eq_true rfl) (rtR_s0_16 cI cZ A _ _) h15 d_RangeTellerModel_read_22 (fun H locs hP hS => ?_)
  refine lv_iconst (v := 0) hx hb d_RangeTellerModel_read_25 (by decide) ?_
  refine lv_istore_n hx hb d_RangeTellerModel_read_26 rfl hl (by decide) rfl (fun ls hl => ?_)
  have hl : lv_has ls 2 [(1, .int 0), (0, .ref (A 0))] := hl
  exact hB27 _ ls 0 σ14 _ _ (lv_sub hl [1, 0] rfl) hm hP hS
set_option maxHeartbeats 4000000 in
set_option maxRecDepth 100000 in
theorem k_R_RangeTellerModel_drop (l : Launch) (D : va_G) (cI cZ : ClassId) (A : Nat → Nat) (hO : rt_Ok (rtR_W cI cZ A)) (σ : rt_St) (a1 : Int32) (r' : Int32) (σ' : rt_St) (hm : M_R_RangeTellerModel_drop σ a1 = some (r', σ')) (sz : Nat) : Met l y_RangeTellerModel_drop (rt_ws y_RangeTellerModel_drop b_RangeTellerModel_drop 4 (some .boolean)) ({ frames := 0, cells := 0, slots := 0, locals := 0 } : Room) (va_Pc [.ref (A 0), .int a1] (rt_P D rt_cl (rt_t cI cZ) rtR_X (rtR_W cI cZ A) sz σ)) (va_Qi (fun r1 u1 => r1 = r' ∧ u1 = σ') (rt_B D rt_cl (rt_t cI cZ) rtR_X (rtR_W cI cZ A)) (rt_A (rtR_W cI cZ A) sz)) 0 0 (rt_A (rtR_W cI cZ A) sz) := by
  refine Met.ofW (cc := b_RangeTellerModel_drop) (maxL := 4) (ret := (some .boolean)) (by decide) rfl ?_
  intro p e s m args below meth c s₁ B hml hv
  obtain ⟨rfl, rfl, hP, hK, hX⟩ := hv
  have hx := B.exec
  have hb := B.bytes
  have hr := B.returns
  have hts := atoms_spec (ws := (rt_ws y_RangeTellerModel_drop b_RangeTellerModel_drop 4 (some .boolean))) B.pre
  have hown : s.vm.findClass "RangeTellerModel" = some m.cls := findClass_of_methodNamed B.named
  have hlocks := B.notSynchronized
  have hD := rt_hD hO s.heap.size
  have hS : va_S (rt_A (rtR_W cI cZ A) s.heap.size) s.heap s.heap [] := va_S.rf
  have hl := lv_entry ([.ref (A 0), .int a1]) (n := 4) (Nat.le_of_ble_eq_true rfl)
  rw [lg_entry_eq]
  generalize (lg_sl ([.ref (A 0), .int a1]) ++ List.replicate (4 - (lg_sl ([.ref (A 0), .int a1])).length) Slot.unset).toArray = ls at hl ⊢
  have hl : lv_has ls 4 [(0, .ref (A 0)), (1, .int a1)] := hl
  show W p l e ({ frames := 0, cells := 0, slots := 0, locals := 0 } : Room) s m ([.ref (A 0), .int a1] : List Value).toArray below meth c s.heap [] 0 0 (rt_Qi D rt_cl (rt_t cI cZ) rtR_X (rtR_W cI cZ A) below ([.ref (A 0), .int a1] : List Value).toArray s r' σ') (F0 m 0 ls [])
  have hB4 : ∀ (n4 : Nat) (ls : Array Slot) (l1 l2 l3 : Int32) (σ : rt_St) (H : Heap) (locs : List Loc), lv_has ls 4 [(0, .ref (A 0)), (1, .int l1), (2, .int l2), (3, .int l3)] → B_R_RangeTellerModel_drop_4 n4 l1 l2 l3 σ = some (r', σ') → va_P D rt_cl (rtR_W cI cZ A σ) H → va_S (rt_A (rtR_W cI cZ A) s.heap.size) s.heap H locs → W p l e ({ frames := 0, cells := 0, slots := 0, locals := 0 } : Room) s m ([.ref (A 0), .int a1] : List Value).toArray below meth c H locs 0 0 (rt_Qi D rt_cl (rt_t cI cZ) rtR_X (rtR_W cI cZ A) below ([.ref (A 0), .int a1] : List Value).toArray s r' σ') (F0 m 4 ls []) := by
    intro n4
    induction n4 with
    | zero => intro ls l1 l2 l3 σ H locs hl hm hP hS; rw [B_R_RangeTellerModel_drop_4] at hm; cases hm
    | succ n4 ih4 =>
      have hB64 : ∀ (ls : Array Slot) (l1 l2 l3 : Int32) (σ : rt_St) (H : Heap) (locs : List Loc), lv_has ls 4 [(0, .ref (A 0)), (1, .int l1), (2, .int l2), (3, .int l3)] → B_R_RangeTellerModel_drop_64 (B_R_RangeTellerModel_drop_4 n4) l1 l2 l3 σ = some (r', σ') → va_P D rt_cl (rtR_W cI cZ A σ) H → va_S (rt_A (rtR_W cI cZ A) s.heap.size) s.heap H locs → W p l e ({ frames := 0, cells := 0, slots := 0, locals := 0 } : Room) s m ([.ref (A 0), .int a1] : List Value).toArray below meth c H locs 0 0 (rt_Qi D rt_cl (rt_t cI cZ) rtR_X (rtR_W cI cZ A) below ([.ref (A 0), .int a1] : List Value).toArray s r' σ') (F0 m 64 ls []) := by
        intro ls l1 l2 l3 σ H locs hl hm hP hS
        unfold B_R_RangeTellerModel_drop_64 at hm
        refine lv_iinc (k := 3) (v := (l3 + 1)) hx hb d_RangeTellerModel_drop_64 hl rfl rfl (by decide) rfl (fun ls hl => ?_)
        have hl : lv_has ls 4 [(3, .int (l3 + 1)), (0, .ref (A 0)), (1, .int l1), (2, .int l2)] := hl
        refine lv_goto (tgt := 4) hx hb d_RangeTellerModel_drop_67 (by decide) ?_
        exact ih4 ls l1 l2 (l3 + 1) σ _ _ (lv_sub hl [1, 2, 3, 0] rfl) hm hP hS
      have hB63 : ∀ (ls : Array Slot) (l1 l3 t0 : Int32) (σ : rt_St) (H : Heap) (locs : List Loc), lv_has ls 4 [(0, .ref (A 0)), (1, .int l1), (3, .int l3)] → B_R_RangeTellerModel_drop_63 (B_R_RangeTellerModel_drop_4 n4) l1 l3 t0 σ = some (r', σ') → va_P D rt_cl (rtR_W cI cZ A σ) H → va_S (rt_A (rtR_W cI cZ A) s.heap.size) s.heap H locs → W p l e ({ frames := 0, cells := 0, slots := 0, locals := 0 } : Room) s m ([.ref (A 0), .int a1] : List Value).toArray below meth c H locs 0 0 (rt_Qi D rt_cl (rt_t cI cZ) rtR_X (rtR_W cI cZ A) below ([.ref (A 0), .int a1] : List Value).toArray s r' σ') (F0 m 63 ls [.int t0]) := by
        intro ls l1 l3 t0 σ H locs hl hm hP hS
        unfold B_R_RangeTellerModel_drop_63 at hm
        refine lv_istore_n hx hb d_RangeTellerModel_drop_63 rfl hl (by decide) rfl (fun ls hl => ?_)
        have hl : lv_has ls 4 [(2, .int t0), (0, .ref (A 0)), (1, .int l1), (3, .int l3)] := hl
        exact hB64 ls l1 t0 l3 σ _ _ (lv_sub hl [1, 2, 0, 3] rfl) hm hP hS
      intro ls l1 l2 l3 σ H locs hl hm hP hS
      rw [B_R_RangeTellerModel_drop_4] at hm
      refine lv_iload_n hx hb d_RangeTellerModel_drop_4 rfl (lv_at hl 3 rfl) ?_
      refine lv_iload_n hx hb d_RangeTellerModel_drop_5 rfl (lv_at hl 1 rfl) ?_
      refine lv_icmp_ge (tgt := 70) hx hb d_RangeTellerModel_drop_6 (by decide) (fun hc => ?_) (fun hc => ?_)
      · have hm := (if_pos hc).symm.trans hm
        refine lv_iload_n hx hb d_RangeTellerModel_drop_70 rfl (lv_at hl 2 rfl) ?_
        obtain ⟨_, h1, hm⟩ := rt_b1s hm
        exact W.zret hx hb hr (rt_zoks h1) (fun t ht hW => ⟨⟨_, _, rfl, rt_pr hm, rt_end rtR_Xo hK hP hS hX ht hW⟩, hS.F ht⟩) hS.2.2 d_RangeTellerModel_drop_71
      · have hm := (if_neg hc).symm.trans hm
        refine lv_iload_n hx hb d_RangeTellerModel_drop_9 rfl (lv_at hl 2 rfl) ?_
        refine lv_if_eq (tgt := 70) hx hb d_RangeTellerModel_drop_10 (by decide) (fun hc => ?_) (fun hc => ?_)
        · have hm := (if_pos hc).symm.trans hm
          refine lv_iload_n hx hb d_RangeTellerModel_drop_70 rfl (lv_at hl 2 rfl) ?_
          obtain ⟨_, h2, hm⟩ := rt_b1s hm
          exact W.zret hx hb hr (rt_zoks h2) (fun t ht hW => ⟨⟨_, _, rfl, rt_pr hm, rt_end rtR_Xo hK hP hS hX ht hW⟩, hS.F ht⟩) hS.2.2 d_RangeTellerModel_drop_71
        · have hm := (if_neg hc).symm.trans hm
          refine lv_aload_n hx hb d_RangeTellerModel_drop_13 rfl (lv_at hl 0 rfl) ?_
          refine va_get (D := D) (v := .int (σ 0 26)) (C := "RangeTellerModel") (T := rt_T6) (N := 69) hx hb hts rt_i6 hown hK hP 0 rfl rfl 26 (by decide) (hts _ (rt_m rt_w873)) (fun _ h9 => h9) rfl d_RangeTellerModel_drop_14 ?_
          refine lv_aload_n hx hb d_RangeTellerModel_drop_17 rfl (lv_at hl 0 rfl) ?_
          refine va_get (D := D) (v := .ref (A 16)) (C := "RangeTellerModel") (T := rt_T6) (N := 69) hx hb hts rt_i6 hown hK hP 0 rfl rfl 23 (by decide) (hts _ (rt_m rt_w870)) (fun _ h9 => h9) rfl d_RangeTellerModel_drop_18 ?_
          refine lv_aload_n hx hb d_RangeTellerModel_drop_21 rfl (lv_at hl 0 rfl) ?_
          refine va_get (D := D) (v := .int (σ 0 21)) (C := "RangeTellerModel") (T := rt_T6) (N := 69) hx hb hts rt_i6 hown hK hP 0 rfl rfl 21 (by decide) (hts _ (rt_m rt_w868)) (fun _ h9 => h9) rfl d_RangeTellerModel_drop_22 ?_
          refine lv_iconst (v := 1) hx hb d_RangeTellerModel_drop_25 (by decide) ?_
          refine lv_isub hx hb d_RangeTellerModel_drop_26 ?_
          obtain ⟨v3, h4, hm⟩ := rt_b1s hm
          refine rt_ald hx hb hK hP 16 0 rfl rfl h4 d_RangeTellerModel_drop_27 ?_
          refine lv_icmp_le (tgt := 44) hx hb d_RangeTellerModel_drop_28 (by decide) (fun hc => ?_) (fun hc => ?_)
          · have hm := (if_pos hc).symm.trans hm
            refine lv_aload_n hx hb d_RangeTellerModel_drop_44 rfl (lv_at hl 0 rfl) ?_
            refine va_get (D := D) (v := .ref (A 18)) (C := "RangeTellerModel") (T := rt_T6) (N := 69) hx hb hts rt_i6 hown hK hP 0 rfl rfl 25 (by decide) (hts _ (rt_m rt_w872)) (fun _ h9 => h9) rfl d_RangeTellerModel_drop_45 ?_
            refine lv_aload_n hx hb d_RangeTellerModel_drop_48 rfl (lv_at hl 0 rfl) ?_
            refine va_get (D := D) (v := .int (σ 0 21)) (C := "RangeTellerModel") (T := rt_T6) (N := 69) hx hb hts rt_i6 hown hK hP 0 rfl rfl 21 (by decide) (hts _ (rt_m rt_w868)) (fun _ h9 => h9) rfl d_RangeTellerModel_drop_49 ?_
            refine lv_iconst (v := 1) hx hb d_RangeTellerModel_drop_52 (by decide) ?_
            refine lv_isub hx hb d_RangeTellerModel_drop_53 ?_
            obtain ⟨v5, h6, hm⟩ := rt_b1s hm
            refine rt_zld hx hb hK hP 18 1 rfl rfl h6 d_RangeTellerModel_drop_54 ?_
            refine lv_if_ne (tgt := 62) hx hb d_RangeTellerModel_drop_55 (by decide) (fun hc => ?_) (fun hc => ?_)
            · have hm := (if_neg hc).symm.trans hm
              refine lv_iconst (v := 0) hx hb d_RangeTellerModel_drop_62 (by decide) ?_
              exact hB63 ls l1 l3 0 σ _ _ (lv_sub hl [0, 1, 3] rfl) hm hP hS
            · have hm := (if_pos hc).symm.trans hm
              refine lv_iconst (v := 1) hx hb d_RangeTellerModel_drop_58 (by decide) ?_
              refine lv_goto (tgt := 63) hx hb d_RangeTellerModel_drop_59 (by decide) ?_
              exact hB63 ls l1 l3 1 σ _ _ (lv_sub hl [0, 1, 3] rfl) hm hP hS
          · have hm := (if_neg hc).symm.trans hm
            refine lv_aload_n hx hb d_RangeTellerModel_drop_31 rfl (lv_at hl 0 rfl) ?_
            refine lv_dup hx hb d_RangeTellerModel_drop_32 rfl ?_
            refine va_get (D := D) (v := .int (σ 0 26)) (C := "RangeTellerModel") (T := rt_T6) (N := 69) hx hb hts rt_i6 hown hK hP 0 rfl rfl 26 (by decide) (hts _ (rt_m rt_w873)) (fun _ h9 => h9) rfl d_RangeTellerModel_drop_33 ?_
            refine lv_iconst (v := 1) hx hb d_RangeTellerModel_drop_36 (by decide) ?_
            refine lv_isub hx hb d_RangeTellerModel_drop_37 ?_
            obtain ⟨σ7, h8, hm⟩ := rt_b1s hm
            refine rt_pf (D := D) (C := "RangeTellerModel") (T := rt_T6) (N := 69) (ty := .int) hx hb hts rt_i6 rt_y6 rt_o6 rt_n6 hown hK hP hD hS 0 rfl rfl 26 (by decide) (hts _ (rt_m rt_w873)) (fun _ h9 => h9) rfl (by decide +kernel) rfl rfl (Nat.le_of_ble_eq_true rfl) (rtR_s0_26 cI cZ A _ _) h8 d_RangeTellerModel_drop_38 (fun H locs hP hS => ?_)
            refine lv_goto (tgt := 64) hx hb d_RangeTellerModel_drop_41 (by decide) ?_
            exact hB64 ls l1 l2 l3 σ7 _ _ (lv_sub hl [0, 1, 2, 3] rfl) hm hP hS
  unfold M_R_RangeTellerModel_drop at hm
  refine lv_iconst (v := 1) hx hb d_RangeTellerModel_drop_0 (by decide) ?_
  refine lv_istore_n hx hb d_RangeTellerModel_drop_1 rfl hl (by decide) rfl (fun ls hl => ?_)
  have hl : lv_has ls 4 [(2, .int 1), (0, .ref (A 0)), (1, .int a1)] := hl
  refine lv_iconst (v := 0) hx hb d_RangeTellerModel_drop_2 (by decide) ?_
  refine lv_istore_n hx hb d_RangeTellerModel_drop_3 rfl hl (by decide) rfl (fun ls hl => ?_)
  have hl : lv_has ls 4 [(3, .int 0), (2, .int 1), (0, .ref (A 0)), (1, .int a1)] := hl
  exact hB4 _ ls a1 1 0 σ _ _ (lv_sub hl [2, 3, 1, 0] rfl) hm hP hS
set_option maxHeartbeats 4000000 in
set_option maxRecDepth 100000 in
theorem k_R_RangeTellerModel_give (l : Launch) (D : va_G) (cI cZ : ClassId) (A : Nat → Nat) (hO : rt_Ok (rtR_W cI cZ A)) (σ : rt_St) (a1 : Int32) (r' : Int32) (σ' : rt_St) (hm : M_R_RangeTellerModel_give σ a1 = some (r', σ')) (sz : Nat) : Met l y_RangeTellerModel_give (rt_ws y_RangeTellerModel_give b_RangeTellerModel_give 2 (some .boolean)) ({ frames := 0, cells := 0, slots := 0, locals := 0 } : Room) (va_Pc [.ref (A 0), .int a1] (rt_P D rt_cl (rt_t cI cZ) rtR_X (rtR_W cI cZ A) sz σ)) (va_Qi (fun r1 u1 => r1 = r' ∧ u1 = σ') (rt_B D rt_cl (rt_t cI cZ) rtR_X (rtR_W cI cZ A)) (rt_A (rtR_W cI cZ A) sz)) 0 0 (rt_A (rtR_W cI cZ A) sz) := by
  refine Met.ofW (cc := b_RangeTellerModel_give) (maxL := 2) (ret := (some .boolean)) (by decide) rfl ?_
  intro p e s m args below meth c s₁ B hml hv
  obtain ⟨rfl, rfl, hP, hK, hX⟩ := hv
  have hx := B.exec
  have hb := B.bytes
  have hr := B.returns
  have hts := atoms_spec (ws := (rt_ws y_RangeTellerModel_give b_RangeTellerModel_give 2 (some .boolean))) B.pre
  have hown : s.vm.findClass "RangeTellerModel" = some m.cls := findClass_of_methodNamed B.named
  have hlocks := B.notSynchronized
  have hD := rt_hD hO s.heap.size
  have hS : va_S (rt_A (rtR_W cI cZ A) s.heap.size) s.heap s.heap [] := va_S.rf
  have hl := lv_entry ([.ref (A 0), .int a1]) (n := 2) (Nat.le_of_ble_eq_true rfl)
  rw [lg_entry_eq]
  generalize (lg_sl ([.ref (A 0), .int a1]) ++ List.replicate (2 - (lg_sl ([.ref (A 0), .int a1])).length) Slot.unset).toArray = ls at hl ⊢
  have hl : lv_has ls 2 [(0, .ref (A 0)), (1, .int a1)] := hl
  show W p l e ({ frames := 0, cells := 0, slots := 0, locals := 0 } : Room) s m ([.ref (A 0), .int a1] : List Value).toArray below meth c s.heap [] 0 0 (rt_Qi D rt_cl (rt_t cI cZ) rtR_X (rtR_W cI cZ A) below ([.ref (A 0), .int a1] : List Value).toArray s r' σ') (F0 m 0 ls [])
  unfold M_R_RangeTellerModel_give at hm
  refine lv_aload_n hx hb d_RangeTellerModel_give_0 rfl (lv_at hl 0 rfl) ?_
  refine lv_aload_n hx hb d_RangeTellerModel_give_1 rfl (lv_at hl 0 rfl) ?_
  refine va_get (D := D) (v := .int (σ 0 26)) (C := "RangeTellerModel") (T := rt_T6) (N := 69) hx hb hts rt_i6 hown hK hP 0 rfl rfl 26 (by decide) (hts _ (rt_m rt_w873)) (fun _ h9 => h9) rfl d_RangeTellerModel_give_2 ?_
  refine lv_iload_n hx hb d_RangeTellerModel_give_5 rfl (lv_at hl 1 rfl) ?_
  refine lv_iadd hx hb d_RangeTellerModel_give_6 ?_
  obtain ⟨σ1, h2, hm⟩ := rt_b1s hm
  refine rt_pf (D := D) (C := "RangeTellerModel") (T := rt_T6) (N := 69) (ty := .int) hx hb hts rt_i6 rt_y6 rt_o6 rt_n6 hown hK hP hD hS 0 rfl rfl 26 (by decide) (hts _ (rt_m rt_w873)) (fun _ h9 => h9) rfl (by decide +kernel) rfl rfl (Nat.le_of_ble_eq_true rfl) (rtR_s0_26 cI cZ A _ _) h2 d_RangeTellerModel_give_7 (fun H locs hP hS => ?_)
  refine lv_aload_n hx hb d_RangeTellerModel_give_10 rfl (lv_at hl 0 rfl) ?_
  refine va_get (D := D) (v := .int (σ1 0 26)) (C := "RangeTellerModel") (T := rt_T6) (N := 69) hx hb hts rt_i6 hown hK hP 0 rfl rfl 26 (by decide) (hts _ (rt_m rt_w873)) (fun _ h9 => h9) rfl d_RangeTellerModel_give_11 ?_
  refine lv_bipush (v := 10) hx hb d_RangeTellerModel_give_14 (by decide) ?_
  refine lv_icmp_gt (tgt := 23) hx hb d_RangeTellerModel_give_16 (by decide) (fun hc => ?_) (fun hc => ?_)
  · have hm := (if_pos hc).symm.trans hm
    refine lv_iconst (v := 0) hx hb d_RangeTellerModel_give_23 (by decide) ?_
    exact W.zret hx hb hr rfl (fun t ht hW => ⟨⟨_, _, rfl, rt_pr hm, rt_end rtR_Xo hK hP hS hX ht hW⟩, hS.F ht⟩) hS.2.2 d_RangeTellerModel_give_24
  · have hm := (if_neg hc).symm.trans hm
    refine lv_iconst (v := 1) hx hb d_RangeTellerModel_give_19 (by decide) ?_
    refine lv_goto (tgt := 24) hx hb d_RangeTellerModel_give_20 (by decide) ?_
    exact W.zret hx hb hr rfl (fun t ht hW => ⟨⟨_, _, rfl, rt_pr hm, rt_end rtR_Xo hK hP hS hX ht hW⟩, hS.F ht⟩) hS.2.2 d_RangeTellerModel_give_24
set_option maxHeartbeats 4000000 in
set_option maxRecDepth 100000 in
theorem k_R_RangeTellerModel_open (l : Launch) (D : va_G) (cI cZ : ClassId) (A : Nat → Nat) (hO : rt_Ok (rtR_W cI cZ A)) (σ : rt_St) (a1 a2 : Int32) (σ' : rt_St) (hm : M_R_RangeTellerModel_open σ a1 a2 = some σ') (sz : Nat) : Met l y_RangeTellerModel_open (rt_ws y_RangeTellerModel_open b_RangeTellerModel_open 3 none) ({ frames := 0, cells := 0, slots := 0, locals := 0 } : Room) (va_Pc [.ref (A 0), .int a1, .int a2] (rt_P D rt_cl (rt_t cI cZ) rtR_X (rtR_W cI cZ A) sz σ)) (va_Qv (fun u1 => u1 = σ') (rt_B D rt_cl (rt_t cI cZ) rtR_X (rtR_W cI cZ A)) (rt_A (rtR_W cI cZ A) sz)) 0 0 (rt_A (rtR_W cI cZ A) sz) := by
  refine Met.ofW (cc := b_RangeTellerModel_open) (maxL := 3) (ret := none) (by decide) rfl ?_
  intro p e s m args below meth c s₁ B hml hv
  obtain ⟨rfl, rfl, hP, hK, hX⟩ := hv
  have hx := B.exec
  have hb := B.bytes
  have hr := B.returns
  have hts := atoms_spec (ws := (rt_ws y_RangeTellerModel_open b_RangeTellerModel_open 3 none)) B.pre
  have hown : s.vm.findClass "RangeTellerModel" = some m.cls := findClass_of_methodNamed B.named
  have hlocks := B.notSynchronized
  have hD := rt_hD hO s.heap.size
  have hS : va_S (rt_A (rtR_W cI cZ A) s.heap.size) s.heap s.heap [] := va_S.rf
  have hl := lv_entry ([.ref (A 0), .int a1, .int a2]) (n := 3) (Nat.le_of_ble_eq_true rfl)
  rw [lg_entry_eq]
  generalize (lg_sl ([.ref (A 0), .int a1, .int a2]) ++ List.replicate (3 - (lg_sl ([.ref (A 0), .int a1, .int a2])).length) Slot.unset).toArray = ls at hl ⊢
  have hl : lv_has ls 3 [(0, .ref (A 0)), (1, .int a1), (2, .int a2)] := hl
  show W p l e ({ frames := 0, cells := 0, slots := 0, locals := 0 } : Room) s m ([.ref (A 0), .int a1, .int a2] : List Value).toArray below meth c s.heap [] 0 0 (rt_Qv D rt_cl (rt_t cI cZ) rtR_X (rtR_W cI cZ A) below ([.ref (A 0), .int a1, .int a2] : List Value).toArray s σ') (F0 m 0 ls [])
  unfold M_R_RangeTellerModel_open at hm
  refine lv_aload_n hx hb d_RangeTellerModel_open_0 rfl (lv_at hl 0 rfl) ?_
  refine va_get (D := D) (v := .ref (A 15)) (C := "RangeTellerModel") (T := rt_T6) (N := 69) hx hb hts rt_i6 hown hK hP 0 rfl rfl 22 (by decide) (hts _ (rt_m rt_w869)) (fun _ h9 => h9) rfl d_RangeTellerModel_open_1 ?_
  refine lv_aload_n hx hb d_RangeTellerModel_open_4 rfl (lv_at hl 0 rfl) ?_
  refine va_get (D := D) (v := .int (σ 0 21)) (C := "RangeTellerModel") (T := rt_T6) (N := 69) hx hb hts rt_i6 hown hK hP 0 rfl rfl 21 (by decide) (hts _ (rt_m rt_w868)) (fun _ h9 => h9) rfl d_RangeTellerModel_open_5 ?_
  refine lv_iload_n hx hb d_RangeTellerModel_open_8 rfl (lv_at hl 1 rfl) ?_
  obtain ⟨σ1, h2, hm⟩ := rt_b1s hm
  refine rt_ast hx hb hK hP hD hS 15 0 rfl (rtR_a15 cI cZ A _) rfl h2 d_RangeTellerModel_open_9 (fun H locs hP hS => ?_)
  refine lv_aload_n hx hb d_RangeTellerModel_open_10 rfl (lv_at hl 0 rfl) ?_
  refine va_get (D := D) (v := .ref (A 16)) (C := "RangeTellerModel") (T := rt_T6) (N := 69) hx hb hts rt_i6 hown hK hP 0 rfl rfl 23 (by decide) (hts _ (rt_m rt_w870)) (fun _ h9 => h9) rfl d_RangeTellerModel_open_11 ?_
  refine lv_aload_n hx hb d_RangeTellerModel_open_14 rfl (lv_at hl 0 rfl) ?_
  refine va_get (D := D) (v := .int (σ1 0 21)) (C := "RangeTellerModel") (T := rt_T6) (N := 69) hx hb hts rt_i6 hown hK hP 0 rfl rfl 21 (by decide) (hts _ (rt_m rt_w868)) (fun _ h9 => h9) rfl d_RangeTellerModel_open_15 ?_
  refine lv_aload_n hx hb d_RangeTellerModel_open_18 rfl (lv_at hl 0 rfl) ?_
  refine va_get (D := D) (v := .int (σ1 0 26)) (C := "RangeTellerModel") (T := rt_T6) (N := 69) hx hb hts rt_i6 hown hK hP 0 rfl rfl 26 (by decide) (hts _ (rt_m rt_w873)) (fun _ h9 => h9) rfl d_RangeTellerModel_open_19 ?_
  obtain ⟨σ3, h4, hm⟩ := rt_b1s hm
  refine rt_ast hx hb hK hP hD hS 16 0 rfl (rtR_a16 cI cZ A _) rfl h4 d_RangeTellerModel_open_22 (fun H locs hP hS => ?_)
  refine lv_aload_n hx hb d_RangeTellerModel_open_23 rfl (lv_at hl 0 rfl) ?_
  refine va_get (D := D) (v := .ref (A 17)) (C := "RangeTellerModel") (T := rt_T6) (N := 69) hx hb hts rt_i6 hown hK hP 0 rfl rfl 24 (by decide) (hts _ (rt_m rt_w871)) (fun _ h9 => h9) rfl d_RangeTellerModel_open_24 ?_
  refine lv_aload_n hx hb d_RangeTellerModel_open_27 rfl (lv_at hl 0 rfl) ?_
  refine va_get (D := D) (v := .int (σ3 0 21)) (C := "RangeTellerModel") (T := rt_T6) (N := 69) hx hb hts rt_i6 hown hK hP 0 rfl rfl 21 (by decide) (hts _ (rt_m rt_w868)) (fun _ h9 => h9) rfl d_RangeTellerModel_open_28 ?_
  refine lv_iload_n hx hb d_RangeTellerModel_open_31 rfl (lv_at hl 2 rfl) ?_
  obtain ⟨σ5, h6, hm⟩ := rt_b1s hm
  refine rt_ast hx hb hK hP hD hS 17 0 rfl (rtR_a17 cI cZ A _) rfl h6 d_RangeTellerModel_open_32 (fun H locs hP hS => ?_)
  refine lv_aload_n hx hb d_RangeTellerModel_open_33 rfl (lv_at hl 0 rfl) ?_
  refine va_get (D := D) (v := .ref (A 18)) (C := "RangeTellerModel") (T := rt_T6) (N := 69) hx hb hts rt_i6 hown hK hP 0 rfl rfl 25 (by decide) (hts _ (rt_m rt_w872)) (fun _ h9 => h9) rfl d_RangeTellerModel_open_34 ?_
  refine lv_aload_n hx hb d_RangeTellerModel_open_37 rfl (lv_at hl 0 rfl) ?_
  refine va_get (D := D) (v := .int (σ5 0 21)) (C := "RangeTellerModel") (T := rt_T6) (N := 69) hx hb hts rt_i6 hown hK hP 0 rfl rfl 21 (by decide) (hts _ (rt_m rt_w868)) (fun _ h9 => h9) rfl d_RangeTellerModel_open_38 ?_
  refine lv_iconst (v := 1) hx hb d_RangeTellerModel_open_41 (by decide) ?_
  obtain ⟨σ7, h8, hm⟩ := rt_b1s hm
  refine rt_zst hx hb hK hP hD hS 18 1 rfl (rtR_a18 cI cZ A _) rfl rfl h8 d_RangeTellerModel_open_42 (fun H locs hP hS => ?_)
  refine lv_aload_n hx hb d_RangeTellerModel_open_43 rfl (lv_at hl 0 rfl) ?_
  refine lv_dup hx hb d_RangeTellerModel_open_44 rfl ?_
  refine va_get (D := D) (v := .int (σ7 0 21)) (C := "RangeTellerModel") (T := rt_T6) (N := 69) hx hb hts rt_i6 hown hK hP 0 rfl rfl 21 (by decide) (hts _ (rt_m rt_w868)) (fun _ h9 => h9) rfl d_RangeTellerModel_open_45 ?_
  refine lv_iconst (v := 1) hx hb d_RangeTellerModel_open_48 (by decide) ?_
  refine lv_iadd hx hb d_RangeTellerModel_open_49 ?_
  obtain ⟨σ9, h10, hm⟩ := rt_b1s hm
  refine rt_pf (D := D) (C := "RangeTellerModel") (T := rt_T6) (N := 69) (ty := .int) hx hb hts rt_i6 rt_y6 rt_o6 rt_n6 hown hK hP hD hS 0 rfl rfl 21 (by decide) (hts _ (rt_m rt_w868)) (fun _ h9 => h9) rfl (by decide +kernel) rfl rfl (Nat.le_of_ble_eq_true rfl) (rtR_s0_21 cI cZ A _ _) h10 d_RangeTellerModel_open_50 (fun H locs hP hS => ?_)
  exact W.vret hx hb hr (fun t ht hW => ⟨⟨_, rfl, Option.some.inj hm, rt_end rtR_Xo hK hP hS hX ht hW⟩, hS.F ht⟩) hS.2.2 d_RangeTellerModel_open_53
set_option maxHeartbeats 4000000 in
set_option maxRecDepth 100000 in
theorem k_R_RangeTellerModel_deaden (l : Launch) (D : va_G) (cI cZ : ClassId) (A : Nat → Nat) (hO : rt_Ok (rtR_W cI cZ A)) (σ : rt_St) (r' : Int32) (σ' : rt_St) (hm : M_R_RangeTellerModel_deaden σ = some (r', σ')) (sz : Nat) : Met l y_RangeTellerModel_deaden (rt_ws y_RangeTellerModel_deaden b_RangeTellerModel_deaden 1 (some .boolean)) ({ frames := 0, cells := 0, slots := 0, locals := 0 } : Room) (va_Pc [.ref (A 0)] (rt_P D rt_cl (rt_t cI cZ) rtR_X (rtR_W cI cZ A) sz σ)) (va_Qi (fun r1 u1 => r1 = r' ∧ u1 = σ') (rt_B D rt_cl (rt_t cI cZ) rtR_X (rtR_W cI cZ A)) (rt_A (rtR_W cI cZ A) sz)) 0 0 (rt_A (rtR_W cI cZ A) sz) := by
  refine Met.ofW (cc := b_RangeTellerModel_deaden) (maxL := 1) (ret := (some .boolean)) (by decide) rfl ?_
  intro p e s m args below meth c s₁ B hml hv
  obtain ⟨rfl, rfl, hP, hK, hX⟩ := hv
  have hx := B.exec
  have hb := B.bytes
  have hr := B.returns
  have hts := atoms_spec (ws := (rt_ws y_RangeTellerModel_deaden b_RangeTellerModel_deaden 1 (some .boolean))) B.pre
  have hown : s.vm.findClass "RangeTellerModel" = some m.cls := findClass_of_methodNamed B.named
  have hlocks := B.notSynchronized
  have hD := rt_hD hO s.heap.size
  have hS : va_S (rt_A (rtR_W cI cZ A) s.heap.size) s.heap s.heap [] := va_S.rf
  have hl := lv_entry ([.ref (A 0)]) (n := 1) (Nat.le_of_ble_eq_true rfl)
  rw [lg_entry_eq]
  generalize (lg_sl ([.ref (A 0)]) ++ List.replicate (1 - (lg_sl ([.ref (A 0)])).length) Slot.unset).toArray = ls at hl ⊢
  have hl : lv_has ls 1 [(0, .ref (A 0))] := hl
  show W p l e ({ frames := 0, cells := 0, slots := 0, locals := 0 } : Room) s m ([.ref (A 0)] : List Value).toArray below meth c s.heap [] 0 0 (rt_Qi D rt_cl (rt_t cI cZ) rtR_X (rtR_W cI cZ A) below ([.ref (A 0)] : List Value).toArray s r' σ') (F0 m 0 ls [])
  unfold M_R_RangeTellerModel_deaden at hm
  refine lv_aload_n hx hb d_RangeTellerModel_deaden_0 rfl (lv_at hl 0 rfl) ?_
  refine va_get (D := D) (v := .ref (A 18)) (C := "RangeTellerModel") (T := rt_T6) (N := 69) hx hb hts rt_i6 hown hK hP 0 rfl rfl 25 (by decide) (hts _ (rt_m rt_w872)) (fun _ h9 => h9) rfl d_RangeTellerModel_deaden_1 ?_
  refine lv_aload_n hx hb d_RangeTellerModel_deaden_4 rfl (lv_at hl 0 rfl) ?_
  refine va_get (D := D) (v := .int (σ 0 21)) (C := "RangeTellerModel") (T := rt_T6) (N := 69) hx hb hts rt_i6 hown hK hP 0 rfl rfl 21 (by decide) (hts _ (rt_m rt_w868)) (fun _ h9 => h9) rfl d_RangeTellerModel_deaden_5 ?_
  refine lv_iconst (v := 1) hx hb d_RangeTellerModel_deaden_8 (by decide) ?_
  refine lv_isub hx hb d_RangeTellerModel_deaden_9 ?_
  refine lv_iconst (v := 0) hx hb d_RangeTellerModel_deaden_10 (by decide) ?_
  obtain ⟨σ1, h2, hm⟩ := rt_b1s hm
  refine rt_zst hx hb hK hP hD hS 18 1 rfl (rtR_a18 cI cZ A _) rfl rfl h2 d_RangeTellerModel_deaden_11 (fun H locs hP hS => ?_)
  refine lv_aload_n hx hb d_RangeTellerModel_deaden_12 rfl (lv_at hl 0 rfl) ?_
  refine lv_aload_n hx hb d_RangeTellerModel_deaden_13 rfl (lv_at hl 0 rfl) ?_
  refine va_get (D := D) (v := .ref (A 16)) (C := "RangeTellerModel") (T := rt_T6) (N := 69) hx hb hts rt_i6 hown hK hP 0 rfl rfl 23 (by decide) (hts _ (rt_m rt_w870)) (fun _ h9 => h9) rfl d_RangeTellerModel_deaden_14 ?_
  refine lv_aload_n hx hb d_RangeTellerModel_deaden_17 rfl (lv_at hl 0 rfl) ?_
  refine va_get (D := D) (v := .int (σ1 0 21)) (C := "RangeTellerModel") (T := rt_T6) (N := 69) hx hb hts rt_i6 hown hK hP 0 rfl rfl 21 (by decide) (hts _ (rt_m rt_w868)) (fun _ h9 => h9) rfl d_RangeTellerModel_deaden_18 ?_
  refine lv_iconst (v := 1) hx hb d_RangeTellerModel_deaden_21 (by decide) ?_
  refine lv_isub hx hb d_RangeTellerModel_deaden_22 ?_
  obtain ⟨v3, h4, hm⟩ := rt_b1s hm
  refine rt_ald hx hb hK hP 16 0 rfl rfl h4 d_RangeTellerModel_deaden_23 ?_
  obtain ⟨σ5, h6, hm⟩ := rt_b1s hm
  refine rt_pf (D := D) (C := "RangeTellerModel") (T := rt_T6) (N := 69) (ty := .int) hx hb hts rt_i6 rt_y6 rt_o6 rt_n6 hown hK hP hD hS 0 rfl rfl 26 (by decide) (hts _ (rt_m rt_w873)) (fun _ h9 => h9) rfl (by decide +kernel) rfl rfl (Nat.le_of_ble_eq_true rfl) (rtR_s0_26 cI cZ A _ _) h6 d_RangeTellerModel_deaden_24 (fun H locs hP hS => ?_)
  refine lv_iconst (v := 1) hx hb d_RangeTellerModel_deaden_27 (by decide) ?_
  exact W.zret hx hb hr rfl (fun t ht hW => ⟨⟨_, _, rfl, rt_pr hm, rt_end rtR_Xo hK hP hS hX ht hW⟩, hS.F ht⟩) hS.2.2 d_RangeTellerModel_deaden_28
set_option maxHeartbeats 4000000 in
set_option maxRecDepth 100000 in
theorem k_R_RangeTellerModel_needs (l : Launch) (D : va_G) (cI cZ : ClassId) (A : Nat → Nat) (hO : rt_Ok (rtR_W cI cZ A)) (σ : rt_St) (a1 a2 : Int32) (r' : Int32) (σ' : rt_St) (hm : M_R_RangeTellerModel_needs σ a1 a2 = some (r', σ')) (sz : Nat) : Met l y_RangeTellerModel_needs (rt_ws y_RangeTellerModel_needs b_RangeTellerModel_needs 6 (some .int)) ({ frames := 0, cells := 0, slots := 0, locals := 0 } : Room) (va_Pc [.ref (A 0), .int a1, .int a2] (rt_P D rt_cl (rt_t cI cZ) rtR_X (rtR_W cI cZ A) sz σ)) (va_Qi (fun r1 u1 => r1 = r' ∧ u1 = σ') (rt_B D rt_cl (rt_t cI cZ) rtR_X (rtR_W cI cZ A)) (rt_A (rtR_W cI cZ A) sz)) 0 0 (rt_A (rtR_W cI cZ A) sz) := by
  refine Met.ofW (cc := b_RangeTellerModel_needs) (maxL := 6) (ret := (some .int)) (by decide) rfl ?_
  intro p e s m args below meth c s₁ B hml hv
  obtain ⟨rfl, rfl, hP, hK, hX⟩ := hv
  have hx := B.exec
  have hb := B.bytes
  have hr := B.returns
  have hts := atoms_spec (ws := (rt_ws y_RangeTellerModel_needs b_RangeTellerModel_needs 6 (some .int))) B.pre
  have hown : s.vm.findClass "RangeTellerModel" = some m.cls := findClass_of_methodNamed B.named
  have hlocks := B.notSynchronized
  have hD := rt_hD hO s.heap.size
  have hS : va_S (rt_A (rtR_W cI cZ A) s.heap.size) s.heap s.heap [] := va_S.rf
  have hl := lv_entry ([.ref (A 0), .int a1, .int a2]) (n := 6) (Nat.le_of_ble_eq_true rfl)
  rw [lg_entry_eq]
  generalize (lg_sl ([.ref (A 0), .int a1, .int a2]) ++ List.replicate (6 - (lg_sl ([.ref (A 0), .int a1, .int a2])).length) Slot.unset).toArray = ls at hl ⊢
  have hl : lv_has ls 6 [(0, .ref (A 0)), (1, .int a1), (2, .int a2)] := hl
  show W p l e ({ frames := 0, cells := 0, slots := 0, locals := 0 } : Room) s m ([.ref (A 0), .int a1, .int a2] : List Value).toArray below meth c s.heap [] 0 0 (rt_Qi D rt_cl (rt_t cI cZ) rtR_X (rtR_W cI cZ A) below ([.ref (A 0), .int a1, .int a2] : List Value).toArray s r' σ') (F0 m 0 ls [])
  have hB86 : ∀ (ls : Array Slot) (l1 t0 t1 : Int32) (σ : rt_St) (H : Heap) (locs : List Loc), lv_has ls 6 [(0, .ref (A 0)), (1, .int l1)] → B_R_RangeTellerModel_needs_86 l1 t0 t1 σ = some (r', σ') → va_P D rt_cl (rtR_W cI cZ A σ) H → va_S (rt_A (rtR_W cI cZ A) s.heap.size) s.heap H locs → W p l e ({ frames := 0, cells := 0, slots := 0, locals := 0 } : Room) s m ([.ref (A 0), .int a1, .int a2] : List Value).toArray below meth c H locs 0 0 (rt_Qi D rt_cl (rt_t cI cZ) rtR_X (rtR_W cI cZ A) below ([.ref (A 0), .int a1, .int a2] : List Value).toArray s r' σ') (F0 m 86 ls [.int t0, .int t1, .ref (A 10)]) := by
    intro ls l1 t0 t1 σ H locs hl hm hP hS
    unfold B_R_RangeTellerModel_needs_86 at hm
    obtain ⟨σ1, h2, hm⟩ := rt_b1s hm
    refine rt_ast hx hb hK hP hD hS 10 0 rfl (rtR_a10 cI cZ A _) rfl h2 d_RangeTellerModel_needs_86 (fun H locs hP hS => ?_)
    refine lv_aload_n hx hb d_RangeTellerModel_needs_87 rfl (lv_at hl 0 rfl) ?_
    refine va_get (D := D) (v := .ref (A 10)) (C := "RangeTellerModel") (T := rt_T6) (N := 69) hx hb hts rt_i6 hown hK hP 0 rfl rfl 15 (by decide) (hts _ (rt_m rt_w862)) (fun _ h9 => h9) rfl d_RangeTellerModel_needs_88 ?_
    refine lv_iload_n hx hb d_RangeTellerModel_needs_91 rfl (lv_at hl 1 rfl) ?_
    obtain ⟨v3, h4, hm⟩ := rt_b1s hm
    refine rt_ald hx hb hK hP 10 0 rfl rfl h4 d_RangeTellerModel_needs_92 ?_
    exact W.iret hx hb hr (fun t ht hW => ⟨⟨_, _, rfl, rt_pr hm, rt_end rtR_Xo hK hP hS hX ht hW⟩, hS.F ht⟩) hS.2.2 d_RangeTellerModel_needs_93
  have hB44 : ∀ (ls : Array Slot) (l1 l3 l4 t0 : Int32) (σ : rt_St) (H : Heap) (locs : List Loc), lv_has ls 6 [(0, .ref (A 0)), (1, .int l1), (3, .int l3), (4, .int l4)] → B_R_RangeTellerModel_needs_44 l1 l3 l4 t0 σ = some (r', σ') → va_P D rt_cl (rtR_W cI cZ A σ) H → va_S (rt_A (rtR_W cI cZ A) s.heap.size) s.heap H locs → W p l e ({ frames := 0, cells := 0, slots := 0, locals := 0 } : Room) s m ([.ref (A 0), .int a1, .int a2] : List Value).toArray below meth c H locs 0 0 (rt_Qi D rt_cl (rt_t cI cZ) rtR_X (rtR_W cI cZ A) below ([.ref (A 0), .int a1, .int a2] : List Value).toArray s r' σ') (F0 m 44 ls [.int t0]) := by
    intro ls l1 l3 l4 t0 σ H locs hl hm hP hS
    unfold B_R_RangeTellerModel_needs_44 at hm
    refine lv_istore hx hb d_RangeTellerModel_needs_44 hl (by decide) rfl (fun ls hl => ?_)
    have hl : lv_has ls 6 [(5, .int t0), (0, .ref (A 0)), (1, .int l1), (3, .int l3), (4, .int l4)] := hl
    refine lv_aload_n hx hb d_RangeTellerModel_needs_46 rfl (lv_at hl 1 rfl) ?_
    refine va_get (D := D) (v := .ref (A 8)) (C := "RangeTellerModel") (T := rt_T6) (N := 69) hx hb hts rt_i6 hown hK hP 0 rfl rfl 13 (by decide) (hts _ (rt_m rt_w860)) (fun _ h9 => h9) rfl d_RangeTellerModel_needs_47 ?_
    refine lv_iload_n hx hb d_RangeTellerModel_needs_50 rfl (lv_at hl 2 rfl) ?_
    refine lv_iload hx hb d_RangeTellerModel_needs_51 (lv_at hl 4 rfl) ?_
    obtain ⟨σ5, h6, hm⟩ := rt_b1s hm
    refine rt_ast hx hb hK hP hD hS 8 0 rfl (rtR_a8 cI cZ A _) rfl h6 d_RangeTellerModel_needs_53 (fun H locs hP hS => ?_)
    refine lv_aload_n hx hb d_RangeTellerModel_needs_54 rfl (lv_at hl 1 rfl) ?_
    refine va_get (D := D) (v := .ref (A 9)) (C := "RangeTellerModel") (T := rt_T6) (N := 69) hx hb hts rt_i6 hown hK hP 0 rfl rfl 14 (by decide) (hts _ (rt_m rt_w861)) (fun _ h9 => h9) rfl d_RangeTellerModel_needs_55 ?_
    refine lv_iload_n hx hb d_RangeTellerModel_needs_58 rfl (lv_at hl 2 rfl) ?_
    refine lv_aload_n hx hb d_RangeTellerModel_needs_59 rfl (lv_at hl 1 rfl) ?_
    refine va_get (D := D) (v := .ref (A 16)) (C := "RangeTellerModel") (T := rt_T6) (N := 69) hx hb hts rt_i6 hown hK hP 0 rfl rfl 23 (by decide) (hts _ (rt_m rt_w870)) (fun _ h9 => h9) rfl d_RangeTellerModel_needs_60 ?_
    refine lv_iload_n hx hb d_RangeTellerModel_needs_63 rfl (lv_at hl 3 rfl) ?_
    obtain ⟨v7, h8, hm⟩ := rt_b1s hm
    refine rt_ald hx hb hK hP 16 0 rfl rfl h8 d_RangeTellerModel_needs_64 ?_
    obtain ⟨σ9, h10, hm⟩ := rt_b1s hm
    refine rt_ast hx hb hK hP hD hS 9 0 rfl (rtR_a9 cI cZ A _) rfl h10 d_RangeTellerModel_needs_65 (fun H locs hP hS => ?_)
    refine lv_aload_n hx hb d_RangeTellerModel_needs_66 rfl (lv_at hl 1 rfl) ?_
    refine va_get (D := D) (v := .ref (A 10)) (C := "RangeTellerModel") (T := rt_T6) (N := 69) hx hb hts rt_i6 hown hK hP 0 rfl rfl 15 (by decide) (hts _ (rt_m rt_w862)) (fun _ h9 => h9) rfl d_RangeTellerModel_needs_67 ?_
    refine lv_iload_n hx hb d_RangeTellerModel_needs_70 rfl (lv_at hl 2 rfl) ?_
    refine lv_iload hx hb d_RangeTellerModel_needs_71 (lv_at hl 0 rfl) ?_
    refine lv_if_eq (tgt := 80) hx hb d_RangeTellerModel_needs_73 (by decide) (fun hc => ?_) (fun hc => ?_)
    · have hm := (if_pos hc).symm.trans hm
      refine lv_aload_n hx hb d_RangeTellerModel_needs_80 rfl (lv_at hl 1 rfl) ?_
      refine va_get (D := D) (v := .ref (A 17)) (C := "RangeTellerModel") (T := rt_T6) (N := 69) hx hb hts rt_i6 hown hK hP 0 rfl rfl 24 (by decide) (hts _ (rt_m rt_w871)) (fun _ h9 => h9) rfl d_RangeTellerModel_needs_81 ?_
      refine lv_iload_n hx hb d_RangeTellerModel_needs_84 rfl (lv_at hl 3 rfl) ?_
      obtain ⟨v11, h12, hm⟩ := rt_b1s hm
      refine rt_ald hx hb hK hP 17 0 rfl rfl h12 d_RangeTellerModel_needs_85 ?_
      exact hB86 ls l1 v11 l1 σ9 _ _ (lv_sub hl [1, 2] rfl) hm hP hS
    · have hm := (if_neg hc).symm.trans hm
      refine lv_iconst (v := 0) hx hb d_RangeTellerModel_needs_76 (by decide) ?_
      refine lv_goto (tgt := 86) hx hb d_RangeTellerModel_needs_77 (by decide) ?_
      exact hB86 ls l1 0 l1 σ9 _ _ (lv_sub hl [1, 2] rfl) hm hP hS
  have hB43 : ∀ (ls : Array Slot) (l1 l3 l4 : Int32) (σ : rt_St) (H : Heap) (locs : List Loc), lv_has ls 6 [(0, .ref (A 0)), (1, .int l1), (3, .int l3), (4, .int l4)] → B_R_RangeTellerModel_needs_43 l1 l3 l4 σ = some (r', σ') → va_P D rt_cl (rtR_W cI cZ A σ) H → va_S (rt_A (rtR_W cI cZ A) s.heap.size) s.heap H locs → W p l e ({ frames := 0, cells := 0, slots := 0, locals := 0 } : Room) s m ([.ref (A 0), .int a1, .int a2] : List Value).toArray below meth c H locs 0 0 (rt_Qi D rt_cl (rt_t cI cZ) rtR_X (rtR_W cI cZ A) below ([.ref (A 0), .int a1, .int a2] : List Value).toArray s r' σ') (F0 m 43 ls []) := by
    intro ls l1 l3 l4 σ H locs hl hm hP hS
    unfold B_R_RangeTellerModel_needs_43 at hm
    refine lv_iconst (v := 0) hx hb d_RangeTellerModel_needs_43 (by decide) ?_
    exact hB44 ls l1 l3 l4 0 σ _ _ (lv_sub hl [0, 1, 2, 3] rfl) hm hP hS
  unfold M_R_RangeTellerModel_needs at hm
  refine lv_aload_n hx hb d_RangeTellerModel_needs_0 rfl (lv_at hl 0 rfl) ?_
  refine va_get (D := D) (v := .int (σ 0 21)) (C := "RangeTellerModel") (T := rt_T6) (N := 69) hx hb hts rt_i6 hown hK hP 0 rfl rfl 21 (by decide) (hts _ (rt_m rt_w868)) (fun _ h9 => h9) rfl d_RangeTellerModel_needs_1 ?_
  refine lv_iconst (v := 1) hx hb d_RangeTellerModel_needs_4 (by decide) ?_
  refine lv_isub hx hb d_RangeTellerModel_needs_5 ?_
  refine lv_iload_n hx hb d_RangeTellerModel_needs_6 rfl (lv_at hl 2 rfl) ?_
  refine lv_isub hx hb d_RangeTellerModel_needs_7 ?_
  refine lv_istore_n hx hb d_RangeTellerModel_needs_8 rfl hl (by decide) rfl (fun ls hl => ?_)
  have hl : lv_has ls 6 [(3, .int (((σ 0 21) - 1) - a2)), (0, .ref (A 0)), (1, .int a1), (2, .int a2)] := hl
  refine lv_iload_n hx hb d_RangeTellerModel_needs_9 rfl (lv_at hl 0 rfl) ?_
  refine lv_if_ge (tgt := 15) hx hb d_RangeTellerModel_needs_10 (by decide) (fun hc => ?_) (fun hc => ?_)
  · have hm := (if_pos hc).symm.trans hm
    refine lv_aload_n hx hb d_RangeTellerModel_needs_15 rfl (lv_at hl 1 rfl) ?_
    refine va_get (D := D) (v := .ref (A 15)) (C := "RangeTellerModel") (T := rt_T6) (N := 69) hx hb hts rt_i6 hown hK hP 0 rfl rfl 22 (by decide) (hts _ (rt_m rt_w869)) (fun _ h9 => h9) rfl d_RangeTellerModel_needs_16 ?_
    refine lv_iload_n hx hb d_RangeTellerModel_needs_19 rfl (lv_at hl 0 rfl) ?_
    obtain ⟨v13, h14, hm⟩ := rt_b1s hm
    refine rt_ald hx hb hK hP 15 0 rfl rfl h14 d_RangeTellerModel_needs_20 ?_
    refine lv_istore hx hb d_RangeTellerModel_needs_21 hl (by decide) rfl (fun ls hl => ?_)
    have hl : lv_has ls 6 [(4, .int v13), (3, .int (((σ 0 21) - 1) - a2)), (0, .ref (A 0)), (1, .int a1), (2, .int a2)] := hl
    refine lv_iload hx hb d_RangeTellerModel_needs_23 (lv_at hl 0 rfl) ?_
    refine lv_if_lt (tgt := 43) hx hb d_RangeTellerModel_needs_25 (by decide) (fun hc => ?_) (fun hc => ?_)
    · have hm := (if_pos hc).symm.trans hm
      exact hB43 ls a1 (((σ 0 21) - 1) - a2) v13 σ _ _ (lv_sub hl [2, 3, 1, 0] rfl) hm hP hS
    · have hm := (if_neg hc).symm.trans hm
      refine lv_aload_n hx hb d_RangeTellerModel_needs_28 rfl (lv_at hl 2 rfl) ?_
      refine va_get (D := D) (v := .ref (A 2)) (C := "RangeTellerModel") (T := rt_T6) (N := 69) hx hb hts rt_i6 hown hK hP 0 rfl rfl 7 (by decide) (hts _ (rt_m rt_w854)) (fun _ h9 => h9) rfl d_RangeTellerModel_needs_29 ?_
      refine lv_iload hx hb d_RangeTellerModel_needs_32 (lv_at hl 0 rfl) ?_
      obtain ⟨v15, h16, hm⟩ := rt_b1s hm
      refine rt_ald hx hb hK hP 2 0 rfl rfl h16 d_RangeTellerModel_needs_34 ?_
      refine lv_iconst (v := 2) hx hb d_RangeTellerModel_needs_35 (by decide) ?_
      refine lv_icmp_ne (tgt := 43) hx hb d_RangeTellerModel_needs_36 (by decide) (fun hc => ?_) (fun hc => ?_)
      · have hm := (if_neg hc).symm.trans hm
        exact hB43 ls a1 (((σ 0 21) - 1) - a2) v13 σ _ _ (lv_sub hl [2, 3, 1, 0] rfl) hm hP hS
      · have hm := (if_pos hc).symm.trans hm
        refine lv_iconst (v := 1) hx hb d_RangeTellerModel_needs_39 (by decide) ?_
        refine lv_goto (tgt := 44) hx hb d_RangeTellerModel_needs_40 (by decide) ?_
        exact hB44 ls a1 (((σ 0 21) - 1) - a2) v13 1 σ _ _ (lv_sub hl [2, 3, 1, 0] rfl) hm hP hS
  · have hm := (if_neg hc).symm.trans hm
    refine lv_iconst (v := (-1)) hx hb d_RangeTellerModel_needs_13 (by decide) ?_
    exact W.iret hx hb hr (fun t ht hW => ⟨⟨_, _, rfl, rt_pr hm, rt_end rtR_Xo hK hP hS hX ht hW⟩, hS.F ht⟩) hS.2.2 d_RangeTellerModel_needs_14
set_option maxHeartbeats 4000000 in
set_option maxRecDepth 100000 in
theorem k_R_RangeTellerModel_checkEnd (l : Launch) (D : va_G) (cI cZ : ClassId) (A : Nat → Nat) (hO : rt_Ok (rtR_W cI cZ A)) (σ : rt_St) (a1 : Int32) (r' : Int32) (σ' : rt_St) (hm : M_R_RangeTellerModel_checkEnd σ a1 = some (r', σ')) (sz : Nat) : Met l y_RangeTellerModel_checkEnd (rt_ws y_RangeTellerModel_checkEnd b_RangeTellerModel_checkEnd 5 (some .boolean)) ({ frames := 1, cells := 0, slots := 0, locals := 23 } : Room) (va_Pc [.ref (A 0), .int a1] (rt_P D rt_cl (rt_t cI cZ) rtR_X (rtR_W cI cZ A) sz σ)) (va_Qi (fun r1 u1 => r1 = r' ∧ u1 = σ') (rt_B D rt_cl (rt_t cI cZ) rtR_X (rtR_W cI cZ A)) (rt_A (rtR_W cI cZ A) sz)) 0 0 (rt_A (rtR_W cI cZ A) sz) := by
  refine Met.ofW (cc := b_RangeTellerModel_checkEnd) (maxL := 5) (ret := (some .boolean)) (by decide) rfl ?_
  intro p e s m args below meth c s₁ B hml hv
  obtain ⟨rfl, rfl, hP, hK, hX⟩ := hv
  have hx := B.exec
  have hb := B.bytes
  have hr := B.returns
  have hts := atoms_spec (ws := (rt_ws y_RangeTellerModel_checkEnd b_RangeTellerModel_checkEnd 5 (some .boolean))) B.pre
  have hown : s.vm.findClass "RangeTellerModel" = some m.cls := findClass_of_methodNamed B.named
  have hlocks := B.notSynchronized
  have hD := rt_hD hO s.heap.size
  have hS : va_S (rt_A (rtR_W cI cZ A) s.heap.size) s.heap s.heap [] := va_S.rf
  have hl := lv_entry ([.ref (A 0), .int a1]) (n := 5) (Nat.le_of_ble_eq_true rfl)
  rw [lg_entry_eq]
  generalize (lg_sl ([.ref (A 0), .int a1]) ++ List.replicate (5 - (lg_sl ([.ref (A 0), .int a1])).length) Slot.unset).toArray = ls at hl ⊢
  have hl : lv_has ls 5 [(0, .ref (A 0)), (1, .int a1)] := hl
  show W p l e ({ frames := 1, cells := 0, slots := 0, locals := 23 } : Room) s m ([.ref (A 0), .int a1] : List Value).toArray below meth c s.heap [] 0 0 (rt_Qi D rt_cl (rt_t cI cZ) rtR_X (rtR_W cI cZ A) below ([.ref (A 0), .int a1] : List Value).toArray s r' σ') (F0 m 0 ls [])
  have hB77 : ∀ (ls : Array Slot) (l4 : Int32) (σ : rt_St) (H : Heap) (locs : List Loc), lv_has ls 5 [(0, .ref (A 0)), (4, .int l4)] → B_R_RangeTellerModel_checkEnd_77 l4 σ = some (r', σ') → va_P D rt_cl (rtR_W cI cZ A σ) H → va_S (rt_A (rtR_W cI cZ A) s.heap.size) s.heap H locs → W p l e ({ frames := 1, cells := 0, slots := 0, locals := 23 } : Room) s m ([.ref (A 0), .int a1] : List Value).toArray below meth c H locs 0 0 (rt_Qi D rt_cl (rt_t cI cZ) rtR_X (rtR_W cI cZ A) below ([.ref (A 0), .int a1] : List Value).toArray s r' σ') (F0 m 77 ls []) := by
    intro ls l4 σ H locs hl hm hP hS
    unfold B_R_RangeTellerModel_checkEnd_77 at hm
    refine lv_aload_n hx hb d_RangeTellerModel_checkEnd_77 rfl (lv_at hl 0 rfl) ?_
    refine lv_dup hx hb d_RangeTellerModel_checkEnd_78 rfl ?_
    refine va_get (D := D) (v := .int (σ 0 21)) (C := "RangeTellerModel") (T := rt_T6) (N := 69) hx hb hts rt_i6 hown hK hP 0 rfl rfl 21 (by decide) (hts _ (rt_m rt_w868)) (fun _ h9 => h9) rfl d_RangeTellerModel_checkEnd_79 ?_
    refine lv_iconst (v := 1) hx hb d_RangeTellerModel_checkEnd_82 (by decide) ?_
    refine lv_isub hx hb d_RangeTellerModel_checkEnd_83 ?_
    obtain ⟨σ1, h2, hm⟩ := rt_b1s hm
    refine rt_pf (D := D) (C := "RangeTellerModel") (T := rt_T6) (N := 69) (ty := .int) hx hb hts rt_i6 rt_y6 rt_o6 rt_n6 hown hK hP hD hS 0 rfl rfl 21 (by decide) (hts _ (rt_m rt_w868)) (fun _ h9 => h9) rfl (by decide +kernel) rfl rfl (Nat.le_of_ble_eq_true rfl) (rtR_s0_21 cI cZ A _ _) h2 d_RangeTellerModel_checkEnd_84 (fun H locs hP hS => ?_)
    refine lv_aload_n hx hb d_RangeTellerModel_checkEnd_87 rfl (lv_at hl 0 rfl) ?_
    refine va_get (D := D) (v := .int (σ1 0 21)) (C := "RangeTellerModel") (T := rt_T6) (N := 69) hx hb hts rt_i6 hown hK hP 0 rfl rfl 21 (by decide) (hts _ (rt_m rt_w868)) (fun _ h9 => h9) rfl d_RangeTellerModel_checkEnd_88 ?_
    refine lv_if_eq (tgt := 103) hx hb d_RangeTellerModel_checkEnd_91 (by decide) (fun hc => ?_) (fun hc => ?_)
    · have hm := (if_pos hc).symm.trans hm
      refine lv_iconst (v := 1) hx hb d_RangeTellerModel_checkEnd_103 (by decide) ?_
      refine lv_goto (tgt := 108) hx hb d_RangeTellerModel_checkEnd_104 (by decide) ?_
      exact W.zret hx hb hr rfl (fun t ht hW => ⟨⟨_, _, rfl, rt_pr hm, rt_end rtR_Xo hK hP hS hX ht hW⟩, hS.F ht⟩) hS.2.2 d_RangeTellerModel_checkEnd_108
    · have hm := (if_neg hc).symm.trans hm
      refine lv_aload_n hx hb d_RangeTellerModel_checkEnd_94 rfl (lv_at hl 0 rfl) ?_
      refine lv_iload hx hb d_RangeTellerModel_checkEnd_95 (lv_at hl 1 rfl) ?_
      obtain ⟨v5, σ4, h3, hm⟩ := rt_b2s hm
      refine rt_cvi (As := [.int l4]) (rest := []) (k := 0) rtR_Xo ⟨hx, hb, hml, hown, hts⟩ (k_R_RangeTellerModel_give l D cI cZ A hO σ1 l4 _ _ h3) (cw_RangeTellerModel_give hts (hts _ (rt_m rt_w1114)) ⟨Nat.le_of_ble_eq_true rfl, Nat.le_of_ble_eq_true rfl⟩) hK hP hS hX rfl rfl rfl hl.1 rfl (Nat.le_of_ble_eq_true rfl) d_RangeTellerModel_checkEnd_97 ⟨Nat.zero_le _, Nat.zero_le _⟩ (fun H locs hP hS => ?_)
      refine lv_if_eq (tgt := 107) hx hb d_RangeTellerModel_checkEnd_100 (by decide) (fun hc => ?_) (fun hc => ?_)
      · have hm := (if_pos hc).symm.trans hm
        refine lv_iconst (v := 0) hx hb d_RangeTellerModel_checkEnd_107 (by decide) ?_
        exact W.zret hx hb hr rfl (fun t ht hW => ⟨⟨_, _, rfl, rt_pr hm, rt_end rtR_Xo hK hP hS hX ht hW⟩, hS.F ht⟩) hS.2.2 d_RangeTellerModel_checkEnd_108
      · have hm := (if_neg hc).symm.trans hm
        refine lv_iconst (v := 1) hx hb d_RangeTellerModel_checkEnd_103 (by decide) ?_
        refine lv_goto (tgt := 108) hx hb d_RangeTellerModel_checkEnd_104 (by decide) ?_
        exact W.zret hx hb hr rfl (fun t ht hW => ⟨⟨_, _, rfl, rt_pr hm, rt_end rtR_Xo hK hP hS hX ht hW⟩, hS.F ht⟩) hS.2.2 d_RangeTellerModel_checkEnd_108
  unfold M_R_RangeTellerModel_checkEnd at hm
  refine lv_aload_n hx hb d_RangeTellerModel_checkEnd_0 rfl (lv_at hl 0 rfl) ?_
  refine va_get (D := D) (v := .int (σ 0 21)) (C := "RangeTellerModel") (T := rt_T6) (N := 69) hx hb hts rt_i6 hown hK hP 0 rfl rfl 21 (by decide) (hts _ (rt_m rt_w868)) (fun _ h9 => h9) rfl d_RangeTellerModel_checkEnd_1 ?_
  refine lv_iconst (v := 1) hx hb d_RangeTellerModel_checkEnd_4 (by decide) ?_
  refine lv_isub hx hb d_RangeTellerModel_checkEnd_5 ?_
  refine lv_istore_n hx hb d_RangeTellerModel_checkEnd_6 rfl hl (by decide) rfl (fun ls hl => ?_)
  have hl : lv_has ls 5 [(2, .int ((σ 0 21) - 1)), (0, .ref (A 0)), (1, .int a1)] := hl
  refine lv_aload_n hx hb d_RangeTellerModel_checkEnd_7 rfl (lv_at hl 1 rfl) ?_
  refine va_get (D := D) (v := .ref (A 15)) (C := "RangeTellerModel") (T := rt_T6) (N := 69) hx hb hts rt_i6 hown hK hP 0 rfl rfl 22 (by decide) (hts _ (rt_m rt_w869)) (fun _ h9 => h9) rfl d_RangeTellerModel_checkEnd_8 ?_
  refine lv_iload_n hx hb d_RangeTellerModel_checkEnd_11 rfl (lv_at hl 0 rfl) ?_
  obtain ⟨v6, h7, hm⟩ := rt_b1s hm
  refine rt_ald hx hb hK hP 15 0 rfl rfl h7 d_RangeTellerModel_checkEnd_12 ?_
  refine lv_istore_n hx hb d_RangeTellerModel_checkEnd_13 rfl hl (by decide) rfl (fun ls hl => ?_)
  have hl : lv_has ls 5 [(3, .int v6), (2, .int ((σ 0 21) - 1)), (0, .ref (A 0)), (1, .int a1)] := hl
  refine lv_aload_n hx hb d_RangeTellerModel_checkEnd_14 rfl (lv_at hl 2 rfl) ?_
  refine va_get (D := D) (v := .ref (A 17)) (C := "RangeTellerModel") (T := rt_T6) (N := 69) hx hb hts rt_i6 hown hK hP 0 rfl rfl 24 (by decide) (hts _ (rt_m rt_w871)) (fun _ h9 => h9) rfl d_RangeTellerModel_checkEnd_15 ?_
  refine lv_iload_n hx hb d_RangeTellerModel_checkEnd_18 rfl (lv_at hl 1 rfl) ?_
  obtain ⟨v8, h9, hm⟩ := rt_b1s hm
  refine rt_ald hx hb hK hP 17 0 rfl rfl h9 d_RangeTellerModel_checkEnd_19 ?_
  refine lv_istore hx hb d_RangeTellerModel_checkEnd_20 hl (by decide) rfl (fun ls hl => ?_)
  have hl : lv_has ls 5 [(4, .int v8), (3, .int v6), (2, .int ((σ 0 21) - 1)), (0, .ref (A 0)), (1, .int a1)] := hl
  refine lv_aload_n hx hb d_RangeTellerModel_checkEnd_22 rfl (lv_at hl 3 rfl) ?_
  refine lv_iload hx hb d_RangeTellerModel_checkEnd_23 (lv_at hl 0 rfl) ?_
  obtain ⟨v12, σ11, h10, hm⟩ := rt_b2s hm
  refine rt_cvi (As := [.int v8]) (rest := []) (k := 0) rtR_Xo ⟨hx, hb, hml, hown, hts⟩ (k_R_RangeTellerModel_drop l D cI cZ A hO σ v8 _ _ h10) (cw_RangeTellerModel_drop hts (hts _ (rt_m rt_w1106)) ⟨Nat.le_of_ble_eq_true rfl, Nat.le_of_ble_eq_true rfl⟩) hK hP hS hX rfl rfl rfl hl.1 rfl (Nat.le_of_ble_eq_true rfl) d_RangeTellerModel_checkEnd_25 ⟨Nat.zero_le _, Nat.zero_le _⟩ (fun H locs hP hS => ?_)
  refine lv_if_eq (tgt := 44) hx hb d_RangeTellerModel_checkEnd_28 (by decide) (fun hc => ?_) (fun hc => ?_)
  · have hm := (if_pos hc).symm.trans hm
    refine lv_iconst (v := 0) hx hb d_RangeTellerModel_checkEnd_44 (by decide) ?_
    exact W.zret hx hb hr rfl (fun t ht hW => ⟨⟨_, _, rfl, rt_pr hm, rt_end rtR_Xo hK hP hS hX ht hW⟩, hS.F ht⟩) hS.2.2 d_RangeTellerModel_checkEnd_45
  · have hm := (if_neg hc).symm.trans hm
    refine lv_aload_n hx hb d_RangeTellerModel_checkEnd_31 rfl (lv_at hl 3 rfl) ?_
    refine va_get (D := D) (v := .int (σ11 0 26)) (C := "RangeTellerModel") (T := rt_T6) (N := 69) hx hb hts rt_i6 hown hK hP 0 rfl rfl 26 (by decide) (hts _ (rt_m rt_w873)) (fun _ h9 => h9) rfl d_RangeTellerModel_checkEnd_32 ?_
    refine lv_aload_n hx hb d_RangeTellerModel_checkEnd_35 rfl (lv_at hl 3 rfl) ?_
    refine va_get (D := D) (v := .ref (A 16)) (C := "RangeTellerModel") (T := rt_T6) (N := 69) hx hb hts rt_i6 hown hK hP 0 rfl rfl 23 (by decide) (hts _ (rt_m rt_w870)) (fun _ h9 => h9) rfl d_RangeTellerModel_checkEnd_36 ?_
    refine lv_iload_n hx hb d_RangeTellerModel_checkEnd_39 rfl (lv_at hl 2 rfl) ?_
    obtain ⟨v13, h14, hm⟩ := rt_b1s hm
    refine rt_ald hx hb hK hP 16 0 rfl rfl h14 d_RangeTellerModel_checkEnd_40 ?_
    refine lv_icmp_eq (tgt := 46) hx hb d_RangeTellerModel_checkEnd_41 (by decide) (fun hc => ?_) (fun hc => ?_)
    · have hm := (if_pos hc).symm.trans hm
      refine lv_iload_n hx hb d_RangeTellerModel_checkEnd_46 rfl (lv_at hl 1 rfl) ?_
      refine lv_if_lt (tgt := 77) hx hb d_RangeTellerModel_checkEnd_47 (by decide) (fun hc => ?_) (fun hc => ?_)
      · have hm := (if_pos hc).symm.trans hm
        exact hB77 ls v8 σ11 _ _ (lv_sub hl [3, 0] rfl) hm hP hS
      · have hm := (if_neg hc).symm.trans hm
        refine lv_aload_n hx hb d_RangeTellerModel_checkEnd_50 rfl (lv_at hl 3 rfl) ?_
        refine va_get (D := D) (v := .ref (A 2)) (C := "RangeTellerModel") (T := rt_T6) (N := 69) hx hb hts rt_i6 hown hK hP 0 rfl rfl 7 (by decide) (hts _ (rt_m rt_w854)) (fun _ h9 => h9) rfl d_RangeTellerModel_checkEnd_51 ?_
        refine lv_iload_n hx hb d_RangeTellerModel_checkEnd_54 rfl (lv_at hl 1 rfl) ?_
        obtain ⟨v15, h16, hm⟩ := rt_b1s hm
        refine rt_ald hx hb hK hP 2 0 rfl rfl h16 d_RangeTellerModel_checkEnd_55 ?_
        refine lv_iconst (v := 3) hx hb d_RangeTellerModel_checkEnd_56 (by decide) ?_
        refine lv_icmp_ne (tgt := 77) hx hb d_RangeTellerModel_checkEnd_57 (by decide) (fun hc => ?_) (fun hc => ?_)
        · have hm := (if_neg hc).symm.trans hm
          exact hB77 ls v8 σ11 _ _ (lv_sub hl [3, 0] rfl) hm hP hS
        · have hm := (if_pos hc).symm.trans hm
          refine lv_iload hx hb d_RangeTellerModel_checkEnd_60 (lv_at hl 0 rfl) ?_
          refine lv_iconst (v := 1) hx hb d_RangeTellerModel_checkEnd_62 (by decide) ?_
          refine lv_icmp_ne (tgt := 77) hx hb d_RangeTellerModel_checkEnd_63 (by decide) (fun hc => ?_) (fun hc => ?_)
          · have hm := (if_neg hc).symm.trans hm
            exact hB77 ls v8 σ11 _ _ (lv_sub hl [3, 0] rfl) hm hP hS
          · have hm := (if_pos hc).symm.trans hm
            refine lv_aload_n hx hb d_RangeTellerModel_checkEnd_66 rfl (lv_at hl 3 rfl) ?_
            refine va_get (D := D) (v := .ref (A 6)) (C := "RangeTellerModel") (T := rt_T6) (N := 69) hx hb hts rt_i6 hown hK hP 0 rfl rfl 11 (by decide) (hts _ (rt_m rt_w858)) (fun _ h9 => h9) rfl d_RangeTellerModel_checkEnd_67 ?_
            refine lv_iload_n hx hb d_RangeTellerModel_checkEnd_70 rfl (lv_at hl 1 rfl) ?_
            obtain ⟨v17, h18, hm⟩ := rt_b1s hm
            refine rt_ald hx hb hK hP 6 0 rfl rfl h18 d_RangeTellerModel_checkEnd_71 ?_
            refine lv_if_ge (tgt := 77) hx hb d_RangeTellerModel_checkEnd_72 (by decide) (fun hc => ?_) (fun hc => ?_)
            · have hm := (if_pos hc).symm.trans hm
              exact hB77 ls v8 σ11 _ _ (lv_sub hl [3, 0] rfl) hm hP hS
            · have hm := (if_neg hc).symm.trans hm
              refine lv_iconst (v := 0) hx hb d_RangeTellerModel_checkEnd_75 (by decide) ?_
              exact W.zret hx hb hr rfl (fun t ht hW => ⟨⟨_, _, rfl, rt_pr hm, rt_end rtR_Xo hK hP hS hX ht hW⟩, hS.F ht⟩) hS.2.2 d_RangeTellerModel_checkEnd_76
    · have hm := (if_neg hc).symm.trans hm
      refine lv_iconst (v := 0) hx hb d_RangeTellerModel_checkEnd_44 (by decide) ?_
      exact W.zret hx hb hr rfl (fun t ht hW => ⟨⟨_, _, rfl, rt_pr hm, rt_end rtR_Xo hK hP hS hX ht hW⟩, hS.F ht⟩) hS.2.2 d_RangeTellerModel_checkEnd_45
set_option maxHeartbeats 4000000 in
set_option maxRecDepth 100000 in
theorem k_R_RangeTellerModel_checkFlow (l : Launch) (D : va_G) (cI cZ : ClassId) (A : Nat → Nat) (hO : rt_Ok (rtR_W cI cZ A)) (σ : rt_St) (a1 : Int32) (r' : Int32) (σ' : rt_St) (hm : M_R_RangeTellerModel_checkFlow σ a1 = some (r', σ')) (sz : Nat) : Met l y_RangeTellerModel_checkFlow (rt_ws y_RangeTellerModel_checkFlow b_RangeTellerModel_checkFlow 6 (some .boolean)) ({ frames := 2, cells := 0, slots := 0, locals := 47 } : Room) (va_Pc [.ref (A 0), .int a1] (rt_P D rt_cl (rt_t cI cZ) rtR_X (rtR_W cI cZ A) sz σ)) (va_Qi (fun r1 u1 => r1 = r' ∧ u1 = σ') (rt_B D rt_cl (rt_t cI cZ) rtR_X (rtR_W cI cZ A)) (rt_A (rtR_W cI cZ A) sz)) 0 0 (rt_A (rtR_W cI cZ A) sz) := by
  refine Met.ofW (cc := b_RangeTellerModel_checkFlow) (maxL := 6) (ret := (some .boolean)) (by decide) rfl ?_
  intro p e s m args below meth c s₁ B hml hv
  obtain ⟨rfl, rfl, hP, hK, hX⟩ := hv
  have hx := B.exec
  have hb := B.bytes
  have hr := B.returns
  have hts := atoms_spec (ws := (rt_ws y_RangeTellerModel_checkFlow b_RangeTellerModel_checkFlow 6 (some .boolean))) B.pre
  have hown : s.vm.findClass "RangeTellerModel" = some m.cls := findClass_of_methodNamed B.named
  have hlocks := B.notSynchronized
  have hD := rt_hD hO s.heap.size
  have hS : va_S (rt_A (rtR_W cI cZ A) s.heap.size) s.heap s.heap [] := va_S.rf
  have hl := lv_entry ([.ref (A 0), .int a1]) (n := 6) (Nat.le_of_ble_eq_true rfl)
  rw [lg_entry_eq]
  generalize (lg_sl ([.ref (A 0), .int a1]) ++ List.replicate (6 - (lg_sl ([.ref (A 0), .int a1])).length) Slot.unset).toArray = ls at hl ⊢
  have hl : lv_has ls 6 [(0, .ref (A 0)), (1, .int a1)] := hl
  show W p l e ({ frames := 2, cells := 0, slots := 0, locals := 47 } : Room) s m ([.ref (A 0), .int a1] : List Value).toArray below meth c s.heap [] 0 0 (rt_Qi D rt_cl (rt_t cI cZ) rtR_X (rtR_W cI cZ A) below ([.ref (A 0), .int a1] : List Value).toArray s r' σ') (F0 m 0 ls [])
  unfold M_R_RangeTellerModel_checkFlow at hm
  refine lv_aload_n hx hb d_RangeTellerModel_checkFlow_0 rfl (lv_at hl 0 rfl) ?_
  refine va_get (D := D) (v := .ref (A 3)) (C := "RangeTellerModel") (T := rt_T6) (N := 69) hx hb hts rt_i6 hown hK hP 0 rfl rfl 8 (by decide) (hts _ (rt_m rt_w855)) (fun _ h9 => h9) rfl d_RangeTellerModel_checkFlow_1 ?_
  refine lv_iload_n hx hb d_RangeTellerModel_checkFlow_4 rfl (lv_at hl 1 rfl) ?_
  obtain ⟨v1, h2, hm⟩ := rt_b1s hm
  refine rt_ald hx hb hK hP 3 0 rfl rfl h2 d_RangeTellerModel_checkFlow_5 ?_
  refine lv_istore_n hx hb d_RangeTellerModel_checkFlow_6 rfl hl (by decide) rfl (fun ls hl => ?_)
  have hl : lv_has ls 6 [(2, .int v1), (0, .ref (A 0)), (1, .int a1)] := hl
  refine lv_aload_n hx hb d_RangeTellerModel_checkFlow_7 rfl (lv_at hl 1 rfl) ?_
  refine va_get (D := D) (v := .ref (A 4)) (C := "RangeTellerModel") (T := rt_T6) (N := 69) hx hb hts rt_i6 hown hK hP 0 rfl rfl 9 (by decide) (hts _ (rt_m rt_w856)) (fun _ h9 => h9) rfl d_RangeTellerModel_checkFlow_8 ?_
  refine lv_iload_n hx hb d_RangeTellerModel_checkFlow_11 rfl (lv_at hl 2 rfl) ?_
  obtain ⟨v3, h4, hm⟩ := rt_b1s hm
  refine rt_ald hx hb hK hP 4 0 rfl rfl h4 d_RangeTellerModel_checkFlow_12 ?_
  refine lv_istore_n hx hb d_RangeTellerModel_checkFlow_13 rfl hl (by decide) rfl (fun ls hl => ?_)
  have hl : lv_has ls 6 [(3, .int v3), (2, .int v1), (0, .ref (A 0)), (1, .int a1)] := hl
  refine lv_aload_n hx hb d_RangeTellerModel_checkFlow_14 rfl (lv_at hl 2 rfl) ?_
  refine va_get (D := D) (v := .ref (A 2)) (C := "RangeTellerModel") (T := rt_T6) (N := 69) hx hb hts rt_i6 hown hK hP 0 rfl rfl 7 (by decide) (hts _ (rt_m rt_w854)) (fun _ h9 => h9) rfl d_RangeTellerModel_checkFlow_15 ?_
  refine lv_iload_n hx hb d_RangeTellerModel_checkFlow_18 rfl (lv_at hl 3 rfl) ?_
  obtain ⟨v5, h6, hm⟩ := rt_b1s hm
  refine rt_ald hx hb hK hP 2 0 rfl rfl h6 d_RangeTellerModel_checkFlow_19 ?_
  by_cases c7 : v5 = 0
  · have hm := (if_pos c7).symm.trans hm
    refine lv_tableIn (off := 52) (tgt := 72) hx hb d_RangeTellerModel_checkFlow_20 (by rw [c7]; decide) (by rw [c7]; decide) (by rw [c7]; rfl) (by decide) ?_
    refine lv_aload_n hx hb d_RangeTellerModel_checkFlow_72 rfl (lv_at hl 2 rfl) ?_
    obtain ⟨v10, σ9, h8, hm⟩ := rt_b2s hm
    refine rt_cvi (As := []) (rest := []) (k := 0) rtR_Xo ⟨hx, hb, hml, hown, hts⟩ (k_R_RangeTellerModel_deaden l D cI cZ A hO σ _ _ h8) (cw_RangeTellerModel_deaden hts (hts _ (rt_m rt_w1102)) ⟨Nat.le_of_ble_eq_true rfl, Nat.le_of_ble_eq_true rfl⟩) hK hP hS hX rfl rfl rfl hl.1 rfl (Nat.le_of_ble_eq_true rfl) d_RangeTellerModel_checkFlow_73 ⟨Nat.zero_le _, Nat.zero_le _⟩ (fun H locs hP hS => ?_)
    obtain ⟨_, h11, hm⟩ := rt_b1s hm
    exact W.zret hx hb hr (rt_zoks h11) (fun t ht hW => ⟨⟨_, _, rfl, rt_pr hm, rt_end rtR_Xo hK hP hS hX ht hW⟩, hS.F ht⟩) hS.2.2 d_RangeTellerModel_checkFlow_76
  have hm := (if_neg c7).symm.trans hm
  by_cases c12 : v5 = 1
  · have hm := (if_pos c12).symm.trans hm
    refine lv_tableIn (off := 57) (tgt := 77) hx hb d_RangeTellerModel_checkFlow_20 (by rw [c12]; decide) (by rw [c12]; decide) (by rw [c12]; rfl) (by decide) ?_
    refine lv_aload_n hx hb d_RangeTellerModel_checkFlow_77 rfl (lv_at hl 2 rfl) ?_
    refine lv_iload_n hx hb d_RangeTellerModel_checkFlow_78 rfl (lv_at hl 3 rfl) ?_
    refine lv_iload_n hx hb d_RangeTellerModel_checkFlow_79 rfl (lv_at hl 1 rfl) ?_
    obtain ⟨σ14, h13, hm⟩ := rt_b1s hm
    refine rt_cvv (As := [.int a1, .int v1]) (rest := []) (k := 0) rtR_Xo ⟨hx, hb, hml, hown, hts⟩ (k_R_RangeTellerModel_open l D cI cZ A hO σ a1 v1 _ h13) (cw_RangeTellerModel_open hts (hts _ (rt_m rt_w1090)) ⟨Nat.le_of_ble_eq_true rfl, Nat.le_of_ble_eq_true rfl⟩) hK hP hS hX rfl rfl rfl hl.1 rfl (Nat.le_of_ble_eq_true rfl) d_RangeTellerModel_checkFlow_80 ⟨Nat.zero_le _, Nat.zero_le _⟩ (fun H locs hP hS => ?_)
    refine lv_iconst (v := 1) hx hb d_RangeTellerModel_checkFlow_83 (by decide) ?_
    exact W.zret hx hb hr rfl (fun t ht hW => ⟨⟨_, _, rfl, rt_pr hm, rt_end rtR_Xo hK hP hS hX ht hW⟩, hS.F ht⟩) hS.2.2 d_RangeTellerModel_checkFlow_84
  have hm := (if_neg c12).symm.trans hm
  by_cases c15 : v5 = 2
  · have hm := (if_pos c15).symm.trans hm
    refine lv_tableIn (off := 57) (tgt := 77) hx hb d_RangeTellerModel_checkFlow_20 (by rw [c15]; decide) (by rw [c15]; decide) (by rw [c15]; rfl) (by decide) ?_
    refine lv_aload_n hx hb d_RangeTellerModel_checkFlow_77 rfl (lv_at hl 2 rfl) ?_
    refine lv_iload_n hx hb d_RangeTellerModel_checkFlow_78 rfl (lv_at hl 3 rfl) ?_
    refine lv_iload_n hx hb d_RangeTellerModel_checkFlow_79 rfl (lv_at hl 1 rfl) ?_
    obtain ⟨σ17, h16, hm⟩ := rt_b1s hm
    refine rt_cvv (As := [.int a1, .int v1]) (rest := []) (k := 0) rtR_Xo ⟨hx, hb, hml, hown, hts⟩ (k_R_RangeTellerModel_open l D cI cZ A hO σ a1 v1 _ h16) (cw_RangeTellerModel_open hts (hts _ (rt_m rt_w1090)) ⟨Nat.le_of_ble_eq_true rfl, Nat.le_of_ble_eq_true rfl⟩) hK hP hS hX rfl rfl rfl hl.1 rfl (Nat.le_of_ble_eq_true rfl) d_RangeTellerModel_checkFlow_80 ⟨Nat.zero_le _, Nat.zero_le _⟩ (fun H locs hP hS => ?_)
    refine lv_iconst (v := 1) hx hb d_RangeTellerModel_checkFlow_83 (by decide) ?_
    exact W.zret hx hb hr rfl (fun t ht hW => ⟨⟨_, _, rfl, rt_pr hm, rt_end rtR_Xo hK hP hS hX ht hW⟩, hS.F ht⟩) hS.2.2 d_RangeTellerModel_checkFlow_84
  have hm := (if_neg c15).symm.trans hm
  by_cases c18 : v5 = 3
  · have hm := (if_pos c18).symm.trans hm
    refine lv_tableIn (off := 65) (tgt := 85) hx hb d_RangeTellerModel_checkFlow_20 (by rw [c18]; decide) (by rw [c18]; decide) (by rw [c18]; rfl) (by decide) ?_
    refine lv_aload_n hx hb d_RangeTellerModel_checkFlow_85 rfl (lv_at hl 2 rfl) ?_
    refine lv_iconst (v := 1) hx hb d_RangeTellerModel_checkFlow_86 (by decide) ?_
    obtain ⟨v21, σ20, h19, hm⟩ := rt_b2s hm
    refine rt_cvi (As := [.int 1]) (rest := []) (k := 0) rtR_Xo ⟨hx, hb, hml, hown, hts⟩ (k_R_RangeTellerModel_drop l D cI cZ A hO σ 1 _ _ h19) (cw_RangeTellerModel_drop hts (hts _ (rt_m rt_w1106)) ⟨Nat.le_of_ble_eq_true rfl, Nat.le_of_ble_eq_true rfl⟩) hK hP hS hX rfl rfl rfl hl.1 rfl (Nat.le_of_ble_eq_true rfl) d_RangeTellerModel_checkFlow_87 ⟨Nat.zero_le _, Nat.zero_le _⟩ (fun H locs hP hS => ?_)
    refine lv_if_ne (tgt := 95) hx hb d_RangeTellerModel_checkFlow_90 (by decide) (fun hc => ?_) (fun hc => ?_)
    · have hm := (if_neg hc).symm.trans hm
      refine lv_aload_n hx hb d_RangeTellerModel_checkFlow_95 rfl (lv_at hl 2 rfl) ?_
      refine lv_iload_n hx hb d_RangeTellerModel_checkFlow_96 rfl (lv_at hl 3 rfl) ?_
      refine lv_iload_n hx hb d_RangeTellerModel_checkFlow_97 rfl (lv_at hl 1 rfl) ?_
      obtain ⟨σ23, h22, hm⟩ := rt_b1s hm
      refine rt_cvv (As := [.int a1, .int v1]) (rest := []) (k := 0) rtR_Xo ⟨hx, hb, hml, hown, hts⟩ (k_R_RangeTellerModel_open l D cI cZ A hO σ20 a1 v1 _ h22) (cw_RangeTellerModel_open hts (hts _ (rt_m rt_w1090)) ⟨Nat.le_of_ble_eq_true rfl, Nat.le_of_ble_eq_true rfl⟩) hK hP hS hX rfl rfl rfl hl.1 rfl (Nat.le_of_ble_eq_true rfl) d_RangeTellerModel_checkFlow_98 ⟨Nat.zero_le _, Nat.zero_le _⟩ (fun H locs hP hS => ?_)
      refine lv_iconst (v := 1) hx hb d_RangeTellerModel_checkFlow_101 (by decide) ?_
      exact W.zret hx hb hr rfl (fun t ht hW => ⟨⟨_, _, rfl, rt_pr hm, rt_end rtR_Xo hK hP hS hX ht hW⟩, hS.F ht⟩) hS.2.2 d_RangeTellerModel_checkFlow_102
    · have hm := (if_pos hc).symm.trans hm
      refine lv_iconst (v := 0) hx hb d_RangeTellerModel_checkFlow_93 (by decide) ?_
      exact W.zret hx hb hr rfl (fun t ht hW => ⟨⟨_, _, rfl, rt_pr hm, rt_end rtR_Xo hK hP hS hX ht hW⟩, hS.F ht⟩) hS.2.2 d_RangeTellerModel_checkFlow_94
  have hm := (if_neg c18).symm.trans hm
  by_cases c24 : v5 = 4
  · have hm := (if_pos c24).symm.trans hm
    refine lv_tableIn (off := 83) (tgt := 103) hx hb d_RangeTellerModel_checkFlow_20 (by rw [c24]; decide) (by rw [c24]; decide) (by rw [c24]; rfl) (by decide) ?_
    refine lv_aload_n hx hb d_RangeTellerModel_checkFlow_103 rfl (lv_at hl 2 rfl) ?_
    refine lv_aload_n hx hb d_RangeTellerModel_checkFlow_104 rfl (lv_at hl 2 rfl) ?_
    refine va_get (D := D) (v := .ref (A 17)) (C := "RangeTellerModel") (T := rt_T6) (N := 69) hx hb hts rt_i6 hown hK hP 0 rfl rfl 24 (by decide) (hts _ (rt_m rt_w871)) (fun _ h9 => h9) rfl d_RangeTellerModel_checkFlow_105 ?_
    refine lv_aload_n hx hb d_RangeTellerModel_checkFlow_108 rfl (lv_at hl 2 rfl) ?_
    refine va_get (D := D) (v := .int (σ 0 21)) (C := "RangeTellerModel") (T := rt_T6) (N := 69) hx hb hts rt_i6 hown hK hP 0 rfl rfl 21 (by decide) (hts _ (rt_m rt_w868)) (fun _ h9 => h9) rfl d_RangeTellerModel_checkFlow_109 ?_
    refine lv_iconst (v := 1) hx hb d_RangeTellerModel_checkFlow_112 (by decide) ?_
    refine lv_isub hx hb d_RangeTellerModel_checkFlow_113 ?_
    obtain ⟨v25, h26, hm⟩ := rt_b1s hm
    refine rt_ald hx hb hK hP 17 0 rfl rfl h26 d_RangeTellerModel_checkFlow_114 ?_
    obtain ⟨v29, σ28, h27, hm⟩ := rt_b2s hm
    refine rt_cvi (As := [.int v25]) (rest := []) (k := 0) rtR_Xo ⟨hx, hb, hml, hown, hts⟩ (k_R_RangeTellerModel_drop l D cI cZ A hO σ v25 _ _ h27) (cw_RangeTellerModel_drop hts (hts _ (rt_m rt_w1106)) ⟨Nat.le_of_ble_eq_true rfl, Nat.le_of_ble_eq_true rfl⟩) hK hP hS hX rfl rfl rfl hl.1 rfl (Nat.le_of_ble_eq_true rfl) d_RangeTellerModel_checkFlow_115 ⟨Nat.zero_le _, Nat.zero_le _⟩ (fun H locs hP hS => ?_)
    refine lv_if_eq (tgt := 139) hx hb d_RangeTellerModel_checkFlow_118 (by decide) (fun hc => ?_) (fun hc => ?_)
    · have hm := (if_pos hc).symm.trans hm
      refine lv_iconst (v := 0) hx hb d_RangeTellerModel_checkFlow_139 (by decide) ?_
      exact W.zret hx hb hr rfl (fun t ht hW => ⟨⟨_, _, rfl, rt_pr hm, rt_end rtR_Xo hK hP hS hX ht hW⟩, hS.F ht⟩) hS.2.2 d_RangeTellerModel_checkFlow_140
    · have hm := (if_neg hc).symm.trans hm
      refine lv_aload_n hx hb d_RangeTellerModel_checkFlow_121 rfl (lv_at hl 2 rfl) ?_
      refine va_get (D := D) (v := .int (σ28 0 26)) (C := "RangeTellerModel") (T := rt_T6) (N := 69) hx hb hts rt_i6 hown hK hP 0 rfl rfl 26 (by decide) (hts _ (rt_m rt_w873)) (fun _ h9 => h9) rfl d_RangeTellerModel_checkFlow_122 ?_
      refine lv_aload_n hx hb d_RangeTellerModel_checkFlow_125 rfl (lv_at hl 2 rfl) ?_
      refine va_get (D := D) (v := .ref (A 16)) (C := "RangeTellerModel") (T := rt_T6) (N := 69) hx hb hts rt_i6 hown hK hP 0 rfl rfl 23 (by decide) (hts _ (rt_m rt_w870)) (fun _ h9 => h9) rfl d_RangeTellerModel_checkFlow_126 ?_
      refine lv_aload_n hx hb d_RangeTellerModel_checkFlow_129 rfl (lv_at hl 2 rfl) ?_
      refine va_get (D := D) (v := .int (σ28 0 21)) (C := "RangeTellerModel") (T := rt_T6) (N := 69) hx hb hts rt_i6 hown hK hP 0 rfl rfl 21 (by decide) (hts _ (rt_m rt_w868)) (fun _ h9 => h9) rfl d_RangeTellerModel_checkFlow_130 ?_
      refine lv_iconst (v := 1) hx hb d_RangeTellerModel_checkFlow_133 (by decide) ?_
      refine lv_isub hx hb d_RangeTellerModel_checkFlow_134 ?_
      obtain ⟨v30, h31, hm⟩ := rt_b1s hm
      refine rt_ald hx hb hK hP 16 0 rfl rfl h31 d_RangeTellerModel_checkFlow_135 ?_
      refine lv_icmp_eq (tgt := 141) hx hb d_RangeTellerModel_checkFlow_136 (by decide) (fun hc => ?_) (fun hc => ?_)
      · have hm := (if_pos hc).symm.trans hm
        refine lv_aload_n hx hb d_RangeTellerModel_checkFlow_141 rfl (lv_at hl 2 rfl) ?_
        refine va_get (D := D) (v := .ref (A 18)) (C := "RangeTellerModel") (T := rt_T6) (N := 69) hx hb hts rt_i6 hown hK hP 0 rfl rfl 25 (by decide) (hts _ (rt_m rt_w872)) (fun _ h9 => h9) rfl d_RangeTellerModel_checkFlow_142 ?_
        refine lv_aload_n hx hb d_RangeTellerModel_checkFlow_145 rfl (lv_at hl 2 rfl) ?_
        refine va_get (D := D) (v := .int (σ28 0 21)) (C := "RangeTellerModel") (T := rt_T6) (N := 69) hx hb hts rt_i6 hown hK hP 0 rfl rfl 21 (by decide) (hts _ (rt_m rt_w868)) (fun _ h9 => h9) rfl d_RangeTellerModel_checkFlow_146 ?_
        refine lv_iconst (v := 1) hx hb d_RangeTellerModel_checkFlow_149 (by decide) ?_
        refine lv_isub hx hb d_RangeTellerModel_checkFlow_150 ?_
        refine lv_iconst (v := 1) hx hb d_RangeTellerModel_checkFlow_151 (by decide) ?_
        obtain ⟨σ32, h33, hm⟩ := rt_b1s hm
        refine rt_zst hx hb hK hP hD hS 18 1 rfl (rtR_a18 cI cZ A _) rfl rfl h33 d_RangeTellerModel_checkFlow_152 (fun H locs hP hS => ?_)
        refine lv_iconst (v := 1) hx hb d_RangeTellerModel_checkFlow_153 (by decide) ?_
        exact W.zret hx hb hr rfl (fun t ht hW => ⟨⟨_, _, rfl, rt_pr hm, rt_end rtR_Xo hK hP hS hX ht hW⟩, hS.F ht⟩) hS.2.2 d_RangeTellerModel_checkFlow_154
      · have hm := (if_neg hc).symm.trans hm
        refine lv_iconst (v := 0) hx hb d_RangeTellerModel_checkFlow_139 (by decide) ?_
        exact W.zret hx hb hr rfl (fun t ht hW => ⟨⟨_, _, rfl, rt_pr hm, rt_end rtR_Xo hK hP hS hX ht hW⟩, hS.F ht⟩) hS.2.2 d_RangeTellerModel_checkFlow_140
  have hm := (if_neg c24).symm.trans hm
  by_cases c34 : v5 = 5
  · have hm := (if_pos c34).symm.trans hm
    refine lv_tableIn (off := 135) (tgt := 155) hx hb d_RangeTellerModel_checkFlow_20 (by rw [c34]; decide) (by rw [c34]; decide) (by rw [c34]; rfl) (by decide) ?_
    refine lv_aload_n hx hb d_RangeTellerModel_checkFlow_155 rfl (lv_at hl 2 rfl) ?_
    refine lv_iload_n hx hb d_RangeTellerModel_checkFlow_156 rfl (lv_at hl 3 rfl) ?_
    obtain ⟨v37, σ36, h35, hm⟩ := rt_b2s hm
    refine rt_cvi (As := [.int a1]) (rest := []) (k := 0) rtR_Xo ⟨hx, hb, hml, hown, hts⟩ (k_R_RangeTellerModel_checkEnd l D cI cZ A hO σ a1 _ _ h35) (cw_RangeTellerModel_checkEnd hts (hts _ (rt_m rt_w1110)) ⟨Nat.le_of_ble_eq_true rfl, Nat.le_of_ble_eq_true rfl⟩) hK hP hS hX rfl rfl rfl hl.1 rfl (Nat.le_of_ble_eq_true rfl) d_RangeTellerModel_checkFlow_157 ⟨Nat.zero_le _, Nat.zero_le _⟩ (fun H locs hP hS => ?_)
    obtain ⟨_, h38, hm⟩ := rt_b1s hm
    exact W.zret hx hb hr (rt_zoks h38) (fun t ht hW => ⟨⟨_, _, rfl, rt_pr hm, rt_end rtR_Xo hK hP hS hX ht hW⟩, hS.F ht⟩) hS.2.2 d_RangeTellerModel_checkFlow_160
  have hm := (if_neg c34).symm.trans hm
  by_cases c39 : v5 = 6
  · have hm := (if_pos c39).symm.trans hm
    refine lv_tableIn (off := 141) (tgt := 161) hx hb d_RangeTellerModel_checkFlow_20 (by rw [c39]; decide) (by rw [c39]; decide) (by rw [c39]; rfl) (by decide) ?_
    refine lv_aload_n hx hb d_RangeTellerModel_checkFlow_161 rfl (lv_at hl 2 rfl) ?_
    refine lv_iload_n hx hb d_RangeTellerModel_checkFlow_162 rfl (lv_at hl 3 rfl) ?_
    refine lv_iload_n hx hb d_RangeTellerModel_checkFlow_163 rfl (lv_at hl 1 rfl) ?_
    obtain ⟨v42, σ41, h40, hm⟩ := rt_b2s hm
    refine rt_cvi (As := [.int a1, .int v1]) (rest := []) (k := 0) rtR_Xo ⟨hx, hb, hml, hown, hts⟩ (k_R_RangeTellerModel_needs l D cI cZ A hO σ a1 v1 _ _ h40) (cw_RangeTellerModel_needs hts (hts _ (rt_m rt_w1118)) ⟨Nat.le_of_ble_eq_true rfl, Nat.le_of_ble_eq_true rfl⟩) hK hP hS hX rfl rfl rfl hl.1 rfl (Nat.le_of_ble_eq_true rfl) d_RangeTellerModel_checkFlow_164 ⟨Nat.zero_le _, Nat.zero_le _⟩ (fun H locs hP hS => ?_)
    refine lv_istore hx hb d_RangeTellerModel_checkFlow_167 hl (by decide) rfl (fun ls hl => ?_)
    have hl : lv_has ls 6 [(4, .int v42), (3, .int v3), (2, .int v1), (0, .ref (A 0)), (1, .int a1)] := hl
    refine lv_iload hx hb d_RangeTellerModel_checkFlow_169 (lv_at hl 0 rfl) ?_
    refine lv_if_lt (tgt := 194) hx hb d_RangeTellerModel_checkFlow_171 (by decide) (fun hc => ?_) (fun hc => ?_)
    · have hm := (if_pos hc).symm.trans hm
      refine lv_iconst (v := 0) hx hb d_RangeTellerModel_checkFlow_194 (by decide) ?_
      exact W.zret hx hb hr rfl (fun t ht hW => ⟨⟨_, _, rfl, rt_pr hm, rt_end rtR_Xo hK hP hS hX ht hW⟩, hS.F ht⟩) hS.2.2 d_RangeTellerModel_checkFlow_195
    · have hm := (if_neg hc).symm.trans hm
      refine lv_aload_n hx hb d_RangeTellerModel_checkFlow_174 rfl (lv_at hl 3 rfl) ?_
      refine lv_iload hx hb d_RangeTellerModel_checkFlow_175 (lv_at hl 0 rfl) ?_
      obtain ⟨v45, σ44, h43, hm⟩ := rt_b2s hm
      refine rt_cvi (As := [.int v42]) (rest := []) (k := 0) rtR_Xo ⟨hx, hb, hml, hown, hts⟩ (k_R_RangeTellerModel_drop l D cI cZ A hO σ41 v42 _ _ h43) (cw_RangeTellerModel_drop hts (hts _ (rt_m rt_w1106)) ⟨Nat.le_of_ble_eq_true rfl, Nat.le_of_ble_eq_true rfl⟩) hK hP hS hX rfl rfl rfl hl.1 rfl (Nat.le_of_ble_eq_true rfl) d_RangeTellerModel_checkFlow_177 ⟨Nat.zero_le _, Nat.zero_le _⟩ (fun H locs hP hS => ?_)
      refine lv_if_eq (tgt := 194) hx hb d_RangeTellerModel_checkFlow_180 (by decide) (fun hc => ?_) (fun hc => ?_)
      · have hm := (if_pos hc).symm.trans hm
        refine lv_iconst (v := 0) hx hb d_RangeTellerModel_checkFlow_194 (by decide) ?_
        exact W.zret hx hb hr rfl (fun t ht hW => ⟨⟨_, _, rfl, rt_pr hm, rt_end rtR_Xo hK hP hS hX ht hW⟩, hS.F ht⟩) hS.2.2 d_RangeTellerModel_checkFlow_195
      · have hm := (if_neg hc).symm.trans hm
        refine lv_aload_n hx hb d_RangeTellerModel_checkFlow_183 rfl (lv_at hl 3 rfl) ?_
        obtain ⟨v48, σ47, h46, hm⟩ := rt_b2s hm
        refine rt_cvi (As := []) (rest := []) (k := 0) rtR_Xo ⟨hx, hb, hml, hown, hts⟩ (k_R_RangeTellerModel_deaden l D cI cZ A hO σ44 _ _ h46) (cw_RangeTellerModel_deaden hts (hts _ (rt_m rt_w1102)) ⟨Nat.le_of_ble_eq_true rfl, Nat.le_of_ble_eq_true rfl⟩) hK hP hS hX rfl rfl rfl hl.1 rfl (Nat.le_of_ble_eq_true rfl) d_RangeTellerModel_checkFlow_184 ⟨Nat.zero_le _, Nat.zero_le _⟩ (fun H locs hP hS => ?_)
        refine lv_if_eq (tgt := 194) hx hb d_RangeTellerModel_checkFlow_187 (by decide) (fun hc => ?_) (fun hc => ?_)
        · have hm := (if_pos hc).symm.trans hm
          refine lv_iconst (v := 0) hx hb d_RangeTellerModel_checkFlow_194 (by decide) ?_
          exact W.zret hx hb hr rfl (fun t ht hW => ⟨⟨_, _, rfl, rt_pr hm, rt_end rtR_Xo hK hP hS hX ht hW⟩, hS.F ht⟩) hS.2.2 d_RangeTellerModel_checkFlow_195
        · have hm := (if_neg hc).symm.trans hm
          refine lv_iconst (v := 1) hx hb d_RangeTellerModel_checkFlow_190 (by decide) ?_
          refine lv_goto (tgt := 195) hx hb d_RangeTellerModel_checkFlow_191 (by decide) ?_
          exact W.zret hx hb hr rfl (fun t ht hW => ⟨⟨_, _, rfl, rt_pr hm, rt_end rtR_Xo hK hP hS hX ht hW⟩, hS.F ht⟩) hS.2.2 d_RangeTellerModel_checkFlow_195
  have hm := (if_neg c39).symm.trans hm
  by_cases c49 : v5 = 7
  · have hm := (if_pos c49).symm.trans hm
    refine lv_tableIn (off := 176) (tgt := 196) hx hb d_RangeTellerModel_checkFlow_20 (by rw [c49]; decide) (by rw [c49]; decide) (by rw [c49]; rfl) (by decide) ?_
    refine lv_aload_n hx hb d_RangeTellerModel_checkFlow_196 rfl (lv_at hl 2 rfl) ?_
    refine lv_iconst (v := 1) hx hb d_RangeTellerModel_checkFlow_197 (by decide) ?_
    obtain ⟨v52, σ51, h50, hm⟩ := rt_b2s hm
    refine rt_cvi (As := [.int 1]) (rest := []) (k := 0) rtR_Xo ⟨hx, hb, hml, hown, hts⟩ (k_R_RangeTellerModel_drop l D cI cZ A hO σ 1 _ _ h50) (cw_RangeTellerModel_drop hts (hts _ (rt_m rt_w1106)) ⟨Nat.le_of_ble_eq_true rfl, Nat.le_of_ble_eq_true rfl⟩) hK hP hS hX rfl rfl rfl hl.1 rfl (Nat.le_of_ble_eq_true rfl) d_RangeTellerModel_checkFlow_198 ⟨Nat.zero_le _, Nat.zero_le _⟩ (fun H locs hP hS => ?_)
    refine lv_istore hx hb d_RangeTellerModel_checkFlow_201 hl (by decide) rfl (fun ls hl => ?_)
    have hl : lv_has ls 6 [(4, .int v52), (3, .int v3), (2, .int v1), (0, .ref (A 0)), (1, .int a1)] := hl
    refine lv_aload_n hx hb d_RangeTellerModel_checkFlow_203 rfl (lv_at hl 3 rfl) ?_
    refine lv_iload_n hx hb d_RangeTellerModel_checkFlow_204 rfl (lv_at hl 4 rfl) ?_
    refine lv_iload_n hx hb d_RangeTellerModel_checkFlow_205 rfl (lv_at hl 2 rfl) ?_
    obtain ⟨v55, σ54, h53, hm⟩ := rt_b2s hm
    refine rt_cvi (As := [.int a1, .int v1]) (rest := []) (k := 0) rtR_Xo ⟨hx, hb, hml, hown, hts⟩ (k_R_RangeTellerModel_needs l D cI cZ A hO σ51 a1 v1 _ _ h53) (cw_RangeTellerModel_needs hts (hts _ (rt_m rt_w1118)) ⟨Nat.le_of_ble_eq_true rfl, Nat.le_of_ble_eq_true rfl⟩) hK hP hS hX rfl rfl rfl hl.1 rfl (Nat.le_of_ble_eq_true rfl) d_RangeTellerModel_checkFlow_206 ⟨Nat.zero_le _, Nat.zero_le _⟩ (fun H locs hP hS => ?_)
    refine lv_istore hx hb d_RangeTellerModel_checkFlow_209 hl (by decide) rfl (fun ls hl => ?_)
    have hl : lv_has ls 6 [(5, .int v55), (4, .int v52), (3, .int v3), (2, .int v1), (0, .ref (A 0)), (1, .int a1)] := hl
    refine lv_iload hx hb d_RangeTellerModel_checkFlow_211 (lv_at hl 1 rfl) ?_
    refine lv_if_eq (tgt := 243) hx hb d_RangeTellerModel_checkFlow_213 (by decide) (fun hc => ?_) (fun hc => ?_)
    · have hm := (if_pos hc).symm.trans hm
      refine lv_iconst (v := 0) hx hb d_RangeTellerModel_checkFlow_243 (by decide) ?_
      exact W.zret hx hb hr rfl (fun t ht hW => ⟨⟨_, _, rfl, rt_pr hm, rt_end rtR_Xo hK hP hS hX ht hW⟩, hS.F ht⟩) hS.2.2 d_RangeTellerModel_checkFlow_244
    · have hm := (if_neg hc).symm.trans hm
      refine lv_iload hx hb d_RangeTellerModel_checkFlow_216 (lv_at hl 0 rfl) ?_
      refine lv_if_lt (tgt := 243) hx hb d_RangeTellerModel_checkFlow_218 (by decide) (fun hc => ?_) (fun hc => ?_)
      · have hm := (if_pos hc).symm.trans hm
        refine lv_iconst (v := 0) hx hb d_RangeTellerModel_checkFlow_243 (by decide) ?_
        exact W.zret hx hb hr rfl (fun t ht hW => ⟨⟨_, _, rfl, rt_pr hm, rt_end rtR_Xo hK hP hS hX ht hW⟩, hS.F ht⟩) hS.2.2 d_RangeTellerModel_checkFlow_244
      · have hm := (if_neg hc).symm.trans hm
        refine lv_aload_n hx hb d_RangeTellerModel_checkFlow_221 rfl (lv_at hl 4 rfl) ?_
        refine lv_iload hx hb d_RangeTellerModel_checkFlow_222 (lv_at hl 0 rfl) ?_
        obtain ⟨v58, σ57, h56, hm⟩ := rt_b2s hm
        refine rt_cvi (As := [.int v55]) (rest := []) (k := 0) rtR_Xo ⟨hx, hb, hml, hown, hts⟩ (k_R_RangeTellerModel_drop l D cI cZ A hO σ54 v55 _ _ h56) (cw_RangeTellerModel_drop hts (hts _ (rt_m rt_w1106)) ⟨Nat.le_of_ble_eq_true rfl, Nat.le_of_ble_eq_true rfl⟩) hK hP hS hX rfl rfl rfl hl.1 rfl (Nat.le_of_ble_eq_true rfl) d_RangeTellerModel_checkFlow_224 ⟨Nat.zero_le _, Nat.zero_le _⟩ (fun H locs hP hS => ?_)
        refine lv_if_eq (tgt := 243) hx hb d_RangeTellerModel_checkFlow_227 (by decide) (fun hc => ?_) (fun hc => ?_)
        · have hm := (if_pos hc).symm.trans hm
          refine lv_iconst (v := 0) hx hb d_RangeTellerModel_checkFlow_243 (by decide) ?_
          exact W.zret hx hb hr rfl (fun t ht hW => ⟨⟨_, _, rfl, rt_pr hm, rt_end rtR_Xo hK hP hS hX ht hW⟩, hS.F ht⟩) hS.2.2 d_RangeTellerModel_checkFlow_244
        · have hm := (if_neg hc).symm.trans hm
          refine lv_aload_n hx hb d_RangeTellerModel_checkFlow_230 rfl (lv_at hl 4 rfl) ?_
          refine lv_iload hx hb d_RangeTellerModel_checkFlow_231 (lv_at hl 0 rfl) ?_
          obtain ⟨v61, σ60, h59, hm⟩ := rt_b2s hm
          refine rt_cvi (As := [.int v55]) (rest := []) (k := 0) rtR_Xo ⟨hx, hb, hml, hown, hts⟩ (k_R_RangeTellerModel_give l D cI cZ A hO σ57 v55 _ _ h59) (cw_RangeTellerModel_give hts (hts _ (rt_m rt_w1114)) ⟨Nat.le_of_ble_eq_true rfl, Nat.le_of_ble_eq_true rfl⟩) hK hP hS hX rfl rfl rfl hl.1 rfl (Nat.le_of_ble_eq_true rfl) d_RangeTellerModel_checkFlow_233 ⟨Nat.zero_le _, Nat.zero_le _⟩ (fun H locs hP hS => ?_)
          refine lv_if_eq (tgt := 243) hx hb d_RangeTellerModel_checkFlow_236 (by decide) (fun hc => ?_) (fun hc => ?_)
          · have hm := (if_pos hc).symm.trans hm
            refine lv_iconst (v := 0) hx hb d_RangeTellerModel_checkFlow_243 (by decide) ?_
            exact W.zret hx hb hr rfl (fun t ht hW => ⟨⟨_, _, rfl, rt_pr hm, rt_end rtR_Xo hK hP hS hX ht hW⟩, hS.F ht⟩) hS.2.2 d_RangeTellerModel_checkFlow_244
          · have hm := (if_neg hc).symm.trans hm
            refine lv_iconst (v := 1) hx hb d_RangeTellerModel_checkFlow_239 (by decide) ?_
            refine lv_goto (tgt := 244) hx hb d_RangeTellerModel_checkFlow_240 (by decide) ?_
            exact W.zret hx hb hr rfl (fun t ht hW => ⟨⟨_, _, rfl, rt_pr hm, rt_end rtR_Xo hK hP hS hX ht hW⟩, hS.F ht⟩) hS.2.2 d_RangeTellerModel_checkFlow_244
  have hm := (if_neg c49).symm.trans hm
  by_cases c62 : v5 = 8
  · have hm := (if_pos c62).symm.trans hm
    refine lv_tableIn (off := 225) (tgt := 245) hx hb d_RangeTellerModel_checkFlow_20 (by rw [c62]; decide) (by rw [c62]; decide) (by rw [c62]; rfl) (by decide) ?_
    refine lv_aload_n hx hb d_RangeTellerModel_checkFlow_245 rfl (lv_at hl 2 rfl) ?_
    refine va_get (D := D) (v := .ref (A 8)) (C := "RangeTellerModel") (T := rt_T6) (N := 69) hx hb hts rt_i6 hown hK hP 0 rfl rfl 13 (by decide) (hts _ (rt_m rt_w860)) (fun _ h9 => h9) rfl d_RangeTellerModel_checkFlow_246 ?_
    refine lv_iload_n hx hb d_RangeTellerModel_checkFlow_249 rfl (lv_at hl 3 rfl) ?_
    refine lv_iconst (v := (-1)) hx hb d_RangeTellerModel_checkFlow_250 (by decide) ?_
    obtain ⟨σ63, h64, hm⟩ := rt_b1s hm
    refine rt_ast hx hb hK hP hD hS 8 0 rfl (rtR_a8 cI cZ A _) rfl h64 d_RangeTellerModel_checkFlow_251 (fun H locs hP hS => ?_)
    refine lv_aload_n hx hb d_RangeTellerModel_checkFlow_252 rfl (lv_at hl 2 rfl) ?_
    refine va_get (D := D) (v := .ref (A 9)) (C := "RangeTellerModel") (T := rt_T6) (N := 69) hx hb hts rt_i6 hown hK hP 0 rfl rfl 14 (by decide) (hts _ (rt_m rt_w861)) (fun _ h9 => h9) rfl d_RangeTellerModel_checkFlow_253 ?_
    refine lv_iload_n hx hb d_RangeTellerModel_checkFlow_256 rfl (lv_at hl 3 rfl) ?_
    refine lv_iconst (v := 0) hx hb d_RangeTellerModel_checkFlow_257 (by decide) ?_
    obtain ⟨σ65, h66, hm⟩ := rt_b1s hm
    refine rt_ast hx hb hK hP hD hS 9 0 rfl (rtR_a9 cI cZ A _) rfl h66 d_RangeTellerModel_checkFlow_258 (fun H locs hP hS => ?_)
    refine lv_aload_n hx hb d_RangeTellerModel_checkFlow_259 rfl (lv_at hl 2 rfl) ?_
    refine va_get (D := D) (v := .ref (A 10)) (C := "RangeTellerModel") (T := rt_T6) (N := 69) hx hb hts rt_i6 hown hK hP 0 rfl rfl 15 (by decide) (hts _ (rt_m rt_w862)) (fun _ h9 => h9) rfl d_RangeTellerModel_checkFlow_260 ?_
    refine lv_iload_n hx hb d_RangeTellerModel_checkFlow_263 rfl (lv_at hl 3 rfl) ?_
    refine lv_aload_n hx hb d_RangeTellerModel_checkFlow_264 rfl (lv_at hl 2 rfl) ?_
    refine va_get (D := D) (v := .ref (A 13)) (C := "RangeTellerModel") (T := rt_T6) (N := 69) hx hb hts rt_i6 hown hK hP 0 rfl rfl 19 (by decide) (hts _ (rt_m rt_w866)) (fun _ h9 => h9) rfl d_RangeTellerModel_checkFlow_265 ?_
    refine lv_iload_n hx hb d_RangeTellerModel_checkFlow_268 rfl (lv_at hl 0 rfl) ?_
    obtain ⟨v67, h68, hm⟩ := rt_b1s hm
    refine rt_ald hx hb hK hP 13 0 rfl rfl h68 d_RangeTellerModel_checkFlow_269 ?_
    obtain ⟨σ69, h70, hm⟩ := rt_b1s hm
    refine rt_ast hx hb hK hP hD hS 10 0 rfl (rtR_a10 cI cZ A _) rfl h70 d_RangeTellerModel_checkFlow_270 (fun H locs hP hS => ?_)
    refine lv_aload_n hx hb d_RangeTellerModel_checkFlow_271 rfl (lv_at hl 2 rfl) ?_
    refine lv_aload_n hx hb d_RangeTellerModel_checkFlow_272 rfl (lv_at hl 2 rfl) ?_
    refine va_get (D := D) (v := .ref (A 13)) (C := "RangeTellerModel") (T := rt_T6) (N := 69) hx hb hts rt_i6 hown hK hP 0 rfl rfl 19 (by decide) (hts _ (rt_m rt_w866)) (fun _ h9 => h9) rfl d_RangeTellerModel_checkFlow_273 ?_
    refine lv_iload_n hx hb d_RangeTellerModel_checkFlow_276 rfl (lv_at hl 0 rfl) ?_
    obtain ⟨v71, h72, hm⟩ := rt_b1s hm
    refine rt_ald hx hb hK hP 13 0 rfl rfl h72 d_RangeTellerModel_checkFlow_277 ?_
    obtain ⟨v75, σ74, h73, hm⟩ := rt_b2s hm
    refine rt_cvi (As := [.int v71]) (rest := []) (k := 0) rtR_Xo ⟨hx, hb, hml, hown, hts⟩ (k_R_RangeTellerModel_drop l D cI cZ A hO σ69 v71 _ _ h73) (cw_RangeTellerModel_drop hts (hts _ (rt_m rt_w1106)) ⟨Nat.le_of_ble_eq_true rfl, Nat.le_of_ble_eq_true rfl⟩) hK hP hS hX rfl rfl rfl hl.1 rfl (Nat.le_of_ble_eq_true rfl) d_RangeTellerModel_checkFlow_278 ⟨Nat.zero_le _, Nat.zero_le _⟩ (fun H locs hP hS => ?_)
    refine lv_if_eq (tgt := 295) hx hb d_RangeTellerModel_checkFlow_281 (by decide) (fun hc => ?_) (fun hc => ?_)
    · have hm := (if_pos hc).symm.trans hm
      refine lv_iconst (v := 0) hx hb d_RangeTellerModel_checkFlow_295 (by decide) ?_
      exact W.zret hx hb hr rfl (fun t ht hW => ⟨⟨_, _, rfl, rt_pr hm, rt_end rtR_Xo hK hP hS hX ht hW⟩, hS.F ht⟩) hS.2.2 d_RangeTellerModel_checkFlow_296
    · have hm := (if_neg hc).symm.trans hm
      refine lv_aload_n hx hb d_RangeTellerModel_checkFlow_284 rfl (lv_at hl 2 rfl) ?_
      obtain ⟨v78, σ77, h76, hm⟩ := rt_b2s hm
      refine rt_cvi (As := []) (rest := []) (k := 0) rtR_Xo ⟨hx, hb, hml, hown, hts⟩ (k_R_RangeTellerModel_deaden l D cI cZ A hO σ74 _ _ h76) (cw_RangeTellerModel_deaden hts (hts _ (rt_m rt_w1102)) ⟨Nat.le_of_ble_eq_true rfl, Nat.le_of_ble_eq_true rfl⟩) hK hP hS hX rfl rfl rfl hl.1 rfl (Nat.le_of_ble_eq_true rfl) d_RangeTellerModel_checkFlow_285 ⟨Nat.zero_le _, Nat.zero_le _⟩ (fun H locs hP hS => ?_)
      refine lv_if_eq (tgt := 295) hx hb d_RangeTellerModel_checkFlow_288 (by decide) (fun hc => ?_) (fun hc => ?_)
      · have hm := (if_pos hc).symm.trans hm
        refine lv_iconst (v := 0) hx hb d_RangeTellerModel_checkFlow_295 (by decide) ?_
        exact W.zret hx hb hr rfl (fun t ht hW => ⟨⟨_, _, rfl, rt_pr hm, rt_end rtR_Xo hK hP hS hX ht hW⟩, hS.F ht⟩) hS.2.2 d_RangeTellerModel_checkFlow_296
      · have hm := (if_neg hc).symm.trans hm
        refine lv_iconst (v := 1) hx hb d_RangeTellerModel_checkFlow_291 (by decide) ?_
        refine lv_goto (tgt := 296) hx hb d_RangeTellerModel_checkFlow_292 (by decide) ?_
        exact W.zret hx hb hr rfl (fun t ht hW => ⟨⟨_, _, rfl, rt_pr hm, rt_end rtR_Xo hK hP hS hX ht hW⟩, hS.F ht⟩) hS.2.2 d_RangeTellerModel_checkFlow_296
  have hm := (if_neg c62).symm.trans hm
  refine lv_tableOut (tgt := 297) hx hb d_RangeTellerModel_checkFlow_20 (by have := lv_neT (a := 0) c7 rfl; have := lv_neT (a := 1) c12 rfl; have := lv_neT (a := 2) c15 rfl; have := lv_neT (a := 3) c18 rfl; have := lv_neT (a := 4) c24 rfl; have := lv_neT (a := 5) c34 rfl; have := lv_neT (a := 6) c39 rfl; have := lv_neT (a := 7) c49 rfl; have := lv_neT (a := 8) c62 rfl; omega) (by decide) ?_
  refine lv_iload_n hx hb d_RangeTellerModel_checkFlow_297 rfl (lv_at hl 1 rfl) ?_
  refine lv_aload_n hx hb d_RangeTellerModel_checkFlow_298 rfl (lv_at hl 2 rfl) ?_
  refine va_get (D := D) (v := .int (σ 0 16)) (C := "RangeTellerModel") (T := rt_T6) (N := 69) hx hb hts rt_i6 hown hK hP 0 rfl rfl 16 (by decide) (hts _ (rt_m rt_w863)) (fun _ h9 => h9) rfl d_RangeTellerModel_checkFlow_299 ?_
  refine lv_icmp_ge (tgt := 335) hx hb d_RangeTellerModel_checkFlow_302 (by decide) (fun hc => ?_) (fun hc => ?_)
  · have hm := (if_pos hc).symm.trans hm
    refine lv_iconst (v := 0) hx hb d_RangeTellerModel_checkFlow_335 (by decide) ?_
    exact W.zret hx hb hr rfl (fun t ht hW => ⟨⟨_, _, rfl, rt_pr hm, rt_end rtR_Xo hK hP hS hX ht hW⟩, hS.F ht⟩) hS.2.2 d_RangeTellerModel_checkFlow_336
  · have hm := (if_neg hc).symm.trans hm
    refine lv_aload_n hx hb d_RangeTellerModel_checkFlow_305 rfl (lv_at hl 2 rfl) ?_
    refine lv_aload_n hx hb d_RangeTellerModel_checkFlow_306 rfl (lv_at hl 2 rfl) ?_
    refine va_get (D := D) (v := .ref (A 11)) (C := "RangeTellerModel") (T := rt_T6) (N := 69) hx hb hts rt_i6 hown hK hP 0 rfl rfl 17 (by decide) (hts _ (rt_m rt_w864)) (fun _ h9 => h9) rfl d_RangeTellerModel_checkFlow_307 ?_
    refine lv_iload_n hx hb d_RangeTellerModel_checkFlow_310 rfl (lv_at hl 1 rfl) ?_
    obtain ⟨v79, h80, hm⟩ := rt_b1s hm
    refine rt_ald hx hb hK hP 11 0 rfl rfl h80 d_RangeTellerModel_checkFlow_311 ?_
    obtain ⟨v83, σ82, h81, hm⟩ := rt_b2s hm
    refine rt_cvi (As := [.int v79]) (rest := []) (k := 0) rtR_Xo ⟨hx, hb, hml, hown, hts⟩ (k_R_RangeTellerModel_drop l D cI cZ A hO σ v79 _ _ h81) (cw_RangeTellerModel_drop hts (hts _ (rt_m rt_w1106)) ⟨Nat.le_of_ble_eq_true rfl, Nat.le_of_ble_eq_true rfl⟩) hK hP hS hX rfl rfl rfl hl.1 rfl (Nat.le_of_ble_eq_true rfl) d_RangeTellerModel_checkFlow_312 ⟨Nat.zero_le _, Nat.zero_le _⟩ (fun H locs hP hS => ?_)
    refine lv_if_eq (tgt := 335) hx hb d_RangeTellerModel_checkFlow_315 (by decide) (fun hc => ?_) (fun hc => ?_)
    · have hm := (if_pos hc).symm.trans hm
      refine lv_iconst (v := 0) hx hb d_RangeTellerModel_checkFlow_335 (by decide) ?_
      exact W.zret hx hb hr rfl (fun t ht hW => ⟨⟨_, _, rfl, rt_pr hm, rt_end rtR_Xo hK hP hS hX ht hW⟩, hS.F ht⟩) hS.2.2 d_RangeTellerModel_checkFlow_336
    · have hm := (if_neg hc).symm.trans hm
      refine lv_aload_n hx hb d_RangeTellerModel_checkFlow_318 rfl (lv_at hl 2 rfl) ?_
      refine lv_aload_n hx hb d_RangeTellerModel_checkFlow_319 rfl (lv_at hl 2 rfl) ?_
      refine va_get (D := D) (v := .ref (A 13)) (C := "RangeTellerModel") (T := rt_T6) (N := 69) hx hb hts rt_i6 hown hK hP 0 rfl rfl 19 (by decide) (hts _ (rt_m rt_w866)) (fun _ h9 => h9) rfl d_RangeTellerModel_checkFlow_320 ?_
      refine lv_iload_n hx hb d_RangeTellerModel_checkFlow_323 rfl (lv_at hl 1 rfl) ?_
      obtain ⟨v84, h85, hm⟩ := rt_b1s hm
      refine rt_ald hx hb hK hP 13 0 rfl rfl h85 d_RangeTellerModel_checkFlow_324 ?_
      obtain ⟨v88, σ87, h86, hm⟩ := rt_b2s hm
      refine rt_cvi (As := [.int v84]) (rest := []) (k := 0) rtR_Xo ⟨hx, hb, hml, hown, hts⟩ (k_R_RangeTellerModel_give l D cI cZ A hO σ82 v84 _ _ h86) (cw_RangeTellerModel_give hts (hts _ (rt_m rt_w1114)) ⟨Nat.le_of_ble_eq_true rfl, Nat.le_of_ble_eq_true rfl⟩) hK hP hS hX rfl rfl rfl hl.1 rfl (Nat.le_of_ble_eq_true rfl) d_RangeTellerModel_checkFlow_325 ⟨Nat.zero_le _, Nat.zero_le _⟩ (fun H locs hP hS => ?_)
      refine lv_if_eq (tgt := 335) hx hb d_RangeTellerModel_checkFlow_328 (by decide) (fun hc => ?_) (fun hc => ?_)
      · have hm := (if_pos hc).symm.trans hm
        refine lv_iconst (v := 0) hx hb d_RangeTellerModel_checkFlow_335 (by decide) ?_
        exact W.zret hx hb hr rfl (fun t ht hW => ⟨⟨_, _, rfl, rt_pr hm, rt_end rtR_Xo hK hP hS hX ht hW⟩, hS.F ht⟩) hS.2.2 d_RangeTellerModel_checkFlow_336
      · have hm := (if_neg hc).symm.trans hm
        refine lv_iconst (v := 1) hx hb d_RangeTellerModel_checkFlow_331 (by decide) ?_
        refine lv_goto (tgt := 336) hx hb d_RangeTellerModel_checkFlow_332 (by decide) ?_
        exact W.zret hx hb hr rfl (fun t ht hW => ⟨⟨_, _, rfl, rt_pr hm, rt_end rtR_Xo hK hP hS hX ht hW⟩, hS.F ht⟩) hS.2.2 d_RangeTellerModel_checkFlow_336
set_option maxHeartbeats 4000000 in
set_option maxRecDepth 100000 in
theorem k_R_RangeTellerModel_takes (l : Launch) (a0 : Int32) (r' : Int32) (hm : M_R_RangeTellerModel_takes a0 = some r') : rt_MS l y_RangeTellerModel_takes b_RangeTellerModel_takes 1 (some .int) ({ frames := 0, cells := 0, slots := 0, locals := 0 } : Room) rt_X0 [.int a0] r' := by
  intro sz
  refine Met.ofW (cc := b_RangeTellerModel_takes) (maxL := 1) (ret := (some .int)) (by decide) rfl ?_
  intro p e s m args below meth c s₁ B hml hv
  obtain ⟨rfl, rfl, hX⟩ := hv
  have hx := B.exec
  have hb := B.bytes
  have hr := B.returns
  have hts := atoms_spec (ws := (rt_ws y_RangeTellerModel_takes b_RangeTellerModel_takes 1 (some .int))) B.pre
  have hown : s.vm.findClass "RangeTellerModel" = some m.cls := findClass_of_methodNamed B.named
  have hlocks := B.notSynchronized
  have hS : va_S (fun q => s.heap.size ≤ q) s.heap s.heap [] := va_S.rf
  have hl := lv_entry ([.int a0]) (n := 1) (Nat.le_of_ble_eq_true rfl)
  rw [lg_entry_eq]
  generalize (lg_sl ([.int a0]) ++ List.replicate (1 - (lg_sl ([.int a0])).length) Slot.unset).toArray = ls at hl ⊢
  have hl : lv_has ls 1 [(0, .int a0)] := hl
  show W p l e ({ frames := 0, cells := 0, slots := 0, locals := 0 } : Room) s m ([.int a0] : List Value).toArray below meth c s.heap [] 0 0 (rt_Qs below ([.int a0] : List Value).toArray s r') (F0 m 0 ls [])
  have hB28 : ∀ (ls : Array Slot) (l0 : Int32) (H : Heap) (locs : List Loc), lv_has ls 1 [(0, .int l0)] → B_R_RangeTellerModel_takes_28 l0 = some r' → va_S (fun q => s.heap.size ≤ q) s.heap H locs → W p l e ({ frames := 0, cells := 0, slots := 0, locals := 0 } : Room) s m ([.int a0] : List Value).toArray below meth c H locs 0 0 (rt_Qs below ([.int a0] : List Value).toArray s r') (F0 m 28 ls []) := by
    intro ls l0 H locs hl hm hS
    unfold B_R_RangeTellerModel_takes_28 at hm
    refine lv_iload_n hx hb d_RangeTellerModel_takes_28 rfl (lv_at hl 0 rfl) ?_
    refine lv_bipush (v := 10) hx hb d_RangeTellerModel_takes_29 (by decide) ?_
    refine lv_icmp_eq (tgt := 64) hx hb d_RangeTellerModel_takes_31 (by decide) (fun hc => ?_) (fun hc => ?_)
    · have hm := (if_pos hc).symm.trans hm
      refine lv_iconst (v := 1) hx hb d_RangeTellerModel_takes_64 (by decide) ?_
      refine lv_goto (tgt := 69) hx hb d_RangeTellerModel_takes_65 (by decide) ?_
      exact W.iret hx hb hr (fun t ht hW => ⟨⟨_, (), rfl, Option.some.inj hm, trivial⟩, hS.F ht⟩) hS.2.2 d_RangeTellerModel_takes_69
    · have hm := (if_neg hc).symm.trans hm
      refine lv_iload_n hx hb d_RangeTellerModel_takes_34 rfl (lv_at hl 0 rfl) ?_
      refine lv_bipush (v := 13) hx hb d_RangeTellerModel_takes_35 (by decide) ?_
      refine lv_icmp_eq (tgt := 64) hx hb d_RangeTellerModel_takes_37 (by decide) (fun hc => ?_) (fun hc => ?_)
      · have hm := (if_pos hc).symm.trans hm
        refine lv_iconst (v := 1) hx hb d_RangeTellerModel_takes_64 (by decide) ?_
        refine lv_goto (tgt := 69) hx hb d_RangeTellerModel_takes_65 (by decide) ?_
        exact W.iret hx hb hr (fun t ht hW => ⟨⟨_, (), rfl, Option.some.inj hm, trivial⟩, hS.F ht⟩) hS.2.2 d_RangeTellerModel_takes_69
      · have hm := (if_neg hc).symm.trans hm
        refine lv_iload_n hx hb d_RangeTellerModel_takes_40 rfl (lv_at hl 0 rfl) ?_
        refine lv_bipush (v := 14) hx hb d_RangeTellerModel_takes_41 (by decide) ?_
        refine lv_icmp_eq (tgt := 64) hx hb d_RangeTellerModel_takes_43 (by decide) (fun hc => ?_) (fun hc => ?_)
        · have hm := (if_pos hc).symm.trans hm
          refine lv_iconst (v := 1) hx hb d_RangeTellerModel_takes_64 (by decide) ?_
          refine lv_goto (tgt := 69) hx hb d_RangeTellerModel_takes_65 (by decide) ?_
          exact W.iret hx hb hr (fun t ht hW => ⟨⟨_, (), rfl, Option.some.inj hm, trivial⟩, hS.F ht⟩) hS.2.2 d_RangeTellerModel_takes_69
        · have hm := (if_neg hc).symm.trans hm
          refine lv_iload_n hx hb d_RangeTellerModel_takes_46 rfl (lv_at hl 0 rfl) ?_
          refine lv_bipush (v := 15) hx hb d_RangeTellerModel_takes_47 (by decide) ?_
          refine lv_icmp_eq (tgt := 64) hx hb d_RangeTellerModel_takes_49 (by decide) (fun hc => ?_) (fun hc => ?_)
          · have hm := (if_pos hc).symm.trans hm
            refine lv_iconst (v := 1) hx hb d_RangeTellerModel_takes_64 (by decide) ?_
            refine lv_goto (tgt := 69) hx hb d_RangeTellerModel_takes_65 (by decide) ?_
            exact W.iret hx hb hr (fun t ht hW => ⟨⟨_, (), rfl, Option.some.inj hm, trivial⟩, hS.F ht⟩) hS.2.2 d_RangeTellerModel_takes_69
          · have hm := (if_neg hc).symm.trans hm
            refine lv_iload_n hx hb d_RangeTellerModel_takes_52 rfl (lv_at hl 0 rfl) ?_
            refine lv_bipush (v := 18) hx hb d_RangeTellerModel_takes_53 (by decide) ?_
            refine lv_icmp_eq (tgt := 64) hx hb d_RangeTellerModel_takes_55 (by decide) (fun hc => ?_) (fun hc => ?_)
            · have hm := (if_pos hc).symm.trans hm
              refine lv_iconst (v := 1) hx hb d_RangeTellerModel_takes_64 (by decide) ?_
              refine lv_goto (tgt := 69) hx hb d_RangeTellerModel_takes_65 (by decide) ?_
              exact W.iret hx hb hr (fun t ht hW => ⟨⟨_, (), rfl, Option.some.inj hm, trivial⟩, hS.F ht⟩) hS.2.2 d_RangeTellerModel_takes_69
            · have hm := (if_neg hc).symm.trans hm
              refine lv_iload_n hx hb d_RangeTellerModel_takes_58 rfl (lv_at hl 0 rfl) ?_
              refine lv_bipush (v := 28) hx hb d_RangeTellerModel_takes_59 (by decide) ?_
              refine lv_icmp_ne (tgt := 68) hx hb d_RangeTellerModel_takes_61 (by decide) (fun hc => ?_) (fun hc => ?_)
              · have hm := (if_neg hc).symm.trans hm
                refine lv_iconst (v := 0) hx hb d_RangeTellerModel_takes_68 (by decide) ?_
                exact W.iret hx hb hr (fun t ht hW => ⟨⟨_, (), rfl, Option.some.inj hm, trivial⟩, hS.F ht⟩) hS.2.2 d_RangeTellerModel_takes_69
              · have hm := (if_pos hc).symm.trans hm
                refine lv_iconst (v := 1) hx hb d_RangeTellerModel_takes_64 (by decide) ?_
                refine lv_goto (tgt := 69) hx hb d_RangeTellerModel_takes_65 (by decide) ?_
                exact W.iret hx hb hr (fun t ht hW => ⟨⟨_, (), rfl, Option.some.inj hm, trivial⟩, hS.F ht⟩) hS.2.2 d_RangeTellerModel_takes_69
  unfold M_R_RangeTellerModel_takes at hm
  refine lv_iload_n hx hb d_RangeTellerModel_takes_0 rfl (lv_at hl 0 rfl) ?_
  refine lv_bipush (v := 11) hx hb d_RangeTellerModel_takes_1 (by decide) ?_
  refine lv_icmp_ne (tgt := 8) hx hb d_RangeTellerModel_takes_3 (by decide) (fun hc => ?_) (fun hc => ?_)
  · have hm := (if_neg hc).symm.trans hm
    refine lv_iload_n hx hb d_RangeTellerModel_takes_8 rfl (lv_at hl 0 rfl) ?_
    refine lv_bipush (v := 16) hx hb d_RangeTellerModel_takes_9 (by decide) ?_
    refine lv_icmp_eq (tgt := 26) hx hb d_RangeTellerModel_takes_11 (by decide) (fun hc => ?_) (fun hc => ?_)
    · have hm := (if_pos hc).symm.trans hm
      refine lv_iconst (v := 2) hx hb d_RangeTellerModel_takes_26 (by decide) ?_
      exact W.iret hx hb hr (fun t ht hW => ⟨⟨_, (), rfl, Option.some.inj hm, trivial⟩, hS.F ht⟩) hS.2.2 d_RangeTellerModel_takes_27
    · have hm := (if_neg hc).symm.trans hm
      refine lv_iload_n hx hb d_RangeTellerModel_takes_14 rfl (lv_at hl 0 rfl) ?_
      refine lv_bipush (v := 18) hx hb d_RangeTellerModel_takes_15 (by decide) ?_
      refine lv_icmp_le (tgt := 28) hx hb d_RangeTellerModel_takes_17 (by decide) (fun hc => ?_) (fun hc => ?_)
      · have hm := (if_pos hc).symm.trans hm
        exact hB28 ls a0 _ _ (lv_sub hl [0] rfl) hm hS
      · have hm := (if_neg hc).symm.trans hm
        refine lv_iload_n hx hb d_RangeTellerModel_takes_20 rfl (lv_at hl 0 rfl) ?_
        refine lv_bipush (v := 27) hx hb d_RangeTellerModel_takes_21 (by decide) ?_
        refine lv_icmp_ge (tgt := 28) hx hb d_RangeTellerModel_takes_23 (by decide) (fun hc => ?_) (fun hc => ?_)
        · have hm := (if_pos hc).symm.trans hm
          exact hB28 ls a0 _ _ (lv_sub hl [0] rfl) hm hS
        · have hm := (if_neg hc).symm.trans hm
          refine lv_iconst (v := 2) hx hb d_RangeTellerModel_takes_26 (by decide) ?_
          exact W.iret hx hb hr (fun t ht hW => ⟨⟨_, (), rfl, Option.some.inj hm, trivial⟩, hS.F ht⟩) hS.2.2 d_RangeTellerModel_takes_27
  · have hm := (if_pos hc).symm.trans hm
    refine lv_iconst (v := 3) hx hb d_RangeTellerModel_takes_6 (by decide) ?_
    exact W.iret hx hb hr (fun t ht hW => ⟨⟨_, (), rfl, Option.some.inj hm, trivial⟩, hS.F ht⟩) hS.2.2 d_RangeTellerModel_takes_7
set_option maxHeartbeats 4000000 in
set_option maxRecDepth 100000 in
theorem k_R_RangeTellerModel_checkOne (l : Launch) (D : va_G) (cI cZ : ClassId) (A : Nat → Nat) (hO : rt_Ok (rtR_W cI cZ A)) (σ : rt_St) (a1 : Int32) (r' : Int32) (σ' : rt_St) (hm : M_R_RangeTellerModel_checkOne σ a1 = some (r', σ')) (sz : Nat) : Met l y_RangeTellerModel_checkOne (rt_ws y_RangeTellerModel_checkOne b_RangeTellerModel_checkOne 4 (some .boolean)) ({ frames := 3, cells := 0, slots := 0, locals := 72 } : Room) (va_Pc [.ref (A 0), .int a1] (rt_P D rt_cl (rt_t cI cZ) rtR_X (rtR_W cI cZ A) sz σ)) (va_Qi (fun r1 u1 => r1 = r' ∧ u1 = σ') (rt_B D rt_cl (rt_t cI cZ) rtR_X (rtR_W cI cZ A)) (rt_A (rtR_W cI cZ A) sz)) 0 0 (rt_A (rtR_W cI cZ A) sz) := by
  refine Met.ofW (cc := b_RangeTellerModel_checkOne) (maxL := 4) (ret := (some .boolean)) (by decide) rfl ?_
  intro p e s m args below meth c s₁ B hml hv
  obtain ⟨rfl, rfl, hP, hK, hX⟩ := hv
  have hx := B.exec
  have hb := B.bytes
  have hr := B.returns
  have hts := atoms_spec (ws := (rt_ws y_RangeTellerModel_checkOne b_RangeTellerModel_checkOne 4 (some .boolean))) B.pre
  have hown : s.vm.findClass "RangeTellerModel" = some m.cls := findClass_of_methodNamed B.named
  have hlocks := B.notSynchronized
  have hD := rt_hD hO s.heap.size
  have hS : va_S (rt_A (rtR_W cI cZ A) s.heap.size) s.heap s.heap [] := va_S.rf
  have hl := lv_entry ([.ref (A 0), .int a1]) (n := 4) (Nat.le_of_ble_eq_true rfl)
  rw [lg_entry_eq]
  generalize (lg_sl ([.ref (A 0), .int a1]) ++ List.replicate (4 - (lg_sl ([.ref (A 0), .int a1])).length) Slot.unset).toArray = ls at hl ⊢
  have hl : lv_has ls 4 [(0, .ref (A 0)), (1, .int a1)] := hl
  show W p l e ({ frames := 3, cells := 0, slots := 0, locals := 72 } : Room) s m ([.ref (A 0), .int a1] : List Value).toArray below meth c s.heap [] 0 0 (rt_Qi D rt_cl (rt_t cI cZ) rtR_X (rtR_W cI cZ A) below ([.ref (A 0), .int a1] : List Value).toArray s r' σ') (F0 m 0 ls [])
  have hB116 : ∀ (ls : Array Slot) (t0 : Int32) (σ : rt_St) (H : Heap) (locs : List Loc), lv_has ls 4 [] → B_R_RangeTellerModel_checkOne_116 t0 σ = some (r', σ') → va_P D rt_cl (rtR_W cI cZ A σ) H → va_S (rt_A (rtR_W cI cZ A) s.heap.size) s.heap H locs → W p l e ({ frames := 3, cells := 0, slots := 0, locals := 72 } : Room) s m ([.ref (A 0), .int a1] : List Value).toArray below meth c H locs 0 0 (rt_Qi D rt_cl (rt_t cI cZ) rtR_X (rtR_W cI cZ A) below ([.ref (A 0), .int a1] : List Value).toArray s r' σ') (F0 m 116 ls [.int t0, .ref (A 0)]) := by
    intro ls t0 σ H locs hl hm hP hS
    unfold B_R_RangeTellerModel_checkOne_116 at hm
    obtain ⟨v3, σ2, h1, hm⟩ := rt_b2s hm
    refine rt_cvi (As := [.int t0]) (rest := []) (k := 0) rtR_Xo ⟨hx, hb, hml, hown, hts⟩ (k_R_RangeTellerModel_give l D cI cZ A hO σ t0 _ _ h1) (cw_RangeTellerModel_give hts (hts _ (rt_m rt_w1114)) ⟨Nat.le_of_ble_eq_true rfl, Nat.le_of_ble_eq_true rfl⟩) hK hP hS hX rfl rfl rfl hl.1 rfl (Nat.le_of_ble_eq_true rfl) d_RangeTellerModel_checkOne_116 ⟨Nat.zero_le _, Nat.zero_le _⟩ (fun H locs hP hS => ?_)
    refine lv_if_eq (tgt := 126) hx hb d_RangeTellerModel_checkOne_119 (by decide) (fun hc => ?_) (fun hc => ?_)
    · have hm := (if_pos hc).symm.trans hm
      refine lv_iconst (v := 0) hx hb d_RangeTellerModel_checkOne_126 (by decide) ?_
      exact W.zret hx hb hr rfl (fun t ht hW => ⟨⟨_, _, rfl, rt_pr hm, rt_end rtR_Xo hK hP hS hX ht hW⟩, hS.F ht⟩) hS.2.2 d_RangeTellerModel_checkOne_127
    · have hm := (if_neg hc).symm.trans hm
      refine lv_iconst (v := 1) hx hb d_RangeTellerModel_checkOne_122 (by decide) ?_
      refine lv_goto (tgt := 127) hx hb d_RangeTellerModel_checkOne_123 (by decide) ?_
      exact W.zret hx hb hr rfl (fun t ht hW => ⟨⟨_, _, rfl, rt_pr hm, rt_end rtR_Xo hK hP hS hX ht hW⟩, hS.F ht⟩) hS.2.2 d_RangeTellerModel_checkOne_127
  have hB94 : ∀ (ls : Array Slot) (l2 t0 : Int32) (σ : rt_St) (H : Heap) (locs : List Loc), lv_has ls 4 [(0, .ref (A 0)), (2, .int l2)] → B_R_RangeTellerModel_checkOne_94 l2 t0 σ = some (r', σ') → va_P D rt_cl (rtR_W cI cZ A σ) H → va_S (rt_A (rtR_W cI cZ A) s.heap.size) s.heap H locs → W p l e ({ frames := 3, cells := 0, slots := 0, locals := 72 } : Room) s m ([.ref (A 0), .int a1] : List Value).toArray below meth c H locs 0 0 (rt_Qi D rt_cl (rt_t cI cZ) rtR_X (rtR_W cI cZ A) below ([.ref (A 0), .int a1] : List Value).toArray s r' σ') (F0 m 94 ls [.int t0]) := by
    intro ls l2 t0 σ H locs hl hm hP hS
    unfold B_R_RangeTellerModel_checkOne_94 at hm
    refine lv_istore_n hx hb d_RangeTellerModel_checkOne_94 rfl hl (by decide) rfl (fun ls hl => ?_)
    have hl : lv_has ls 4 [(3, .int t0), (0, .ref (A 0)), (2, .int l2)] := hl
    refine lv_aload_n hx hb d_RangeTellerModel_checkOne_95 rfl (lv_at hl 1 rfl) ?_
    refine lv_iload_n hx hb d_RangeTellerModel_checkOne_96 rfl (lv_at hl 2 rfl) ?_
    obtain ⟨v5, h4, hm⟩ := rt_b1s hm
    refine rt_csi (As := [.int l2]) (rest := [.ref (A 0)]) rt_X0o ⟨hx, hb, hml, hown, hts⟩ (k_R_RangeTellerModel_takes l l2 _ h4) (cw_RangeTellerModel_takes hts (hts _ (rt_m rt_w1122)) ⟨Nat.le_of_ble_eq_true rfl, Nat.le_of_ble_eq_true rfl⟩) hS (fun _ h => Or.inr h) trivial rfl hl.1 rfl (Nat.le_of_ble_eq_true rfl) d_RangeTellerModel_checkOne_97 ⟨Nat.zero_le _, Nat.zero_le _⟩ (fun H locs hk hS => ?_)
    have hP := rt_keep hP hk
    clear hk
    obtain ⟨v8, σ7, h6, hm⟩ := rt_b2s hm
    refine rt_cvi (As := [.int v5]) (rest := []) (k := 0) rtR_Xo ⟨hx, hb, hml, hown, hts⟩ (k_R_RangeTellerModel_drop l D cI cZ A hO σ v5 _ _ h6) (cw_RangeTellerModel_drop hts (hts _ (rt_m rt_w1106)) ⟨Nat.le_of_ble_eq_true rfl, Nat.le_of_ble_eq_true rfl⟩) hK hP hS hX rfl rfl rfl hl.1 rfl (Nat.le_of_ble_eq_true rfl) d_RangeTellerModel_checkOne_100 ⟨Nat.zero_le _, Nat.zero_le _⟩ (fun H locs hP hS => ?_)
    refine lv_if_eq (tgt := 126) hx hb d_RangeTellerModel_checkOne_103 (by decide) (fun hc => ?_) (fun hc => ?_)
    · have hm := (if_pos hc).symm.trans hm
      refine lv_iconst (v := 0) hx hb d_RangeTellerModel_checkOne_126 (by decide) ?_
      exact W.zret hx hb hr rfl (fun t ht hW => ⟨⟨_, _, rfl, rt_pr hm, rt_end rtR_Xo hK hP hS hX ht hW⟩, hS.F ht⟩) hS.2.2 d_RangeTellerModel_checkOne_127
    · have hm := (if_neg hc).symm.trans hm
      refine lv_aload_n hx hb d_RangeTellerModel_checkOne_106 rfl (lv_at hl 1 rfl) ?_
      refine lv_iload_n hx hb d_RangeTellerModel_checkOne_107 rfl (lv_at hl 0 rfl) ?_
      refine lv_if_eq (tgt := 115) hx hb d_RangeTellerModel_checkOne_108 (by decide) (fun hc => ?_) (fun hc => ?_)
      · have hm := (if_pos hc).symm.trans hm
        refine lv_iconst (v := 0) hx hb d_RangeTellerModel_checkOne_115 (by decide) ?_
        exact hB116 ls 0 σ7 _ _ (lv_sub hl [] rfl) hm hP hS
      · have hm := (if_neg hc).symm.trans hm
        refine lv_iconst (v := 1) hx hb d_RangeTellerModel_checkOne_111 (by decide) ?_
        refine lv_goto (tgt := 116) hx hb d_RangeTellerModel_checkOne_112 (by decide) ?_
        exact hB116 ls 1 σ7 _ _ (lv_sub hl [] rfl) hm hP hS
  have hB93 : ∀ (ls : Array Slot) (l2 : Int32) (σ : rt_St) (H : Heap) (locs : List Loc), lv_has ls 4 [(0, .ref (A 0)), (2, .int l2)] → B_R_RangeTellerModel_checkOne_93 l2 σ = some (r', σ') → va_P D rt_cl (rtR_W cI cZ A σ) H → va_S (rt_A (rtR_W cI cZ A) s.heap.size) s.heap H locs → W p l e ({ frames := 3, cells := 0, slots := 0, locals := 72 } : Room) s m ([.ref (A 0), .int a1] : List Value).toArray below meth c H locs 0 0 (rt_Qi D rt_cl (rt_t cI cZ) rtR_X (rtR_W cI cZ A) below ([.ref (A 0), .int a1] : List Value).toArray s r' σ') (F0 m 93 ls []) := by
    intro ls l2 σ H locs hl hm hP hS
    unfold B_R_RangeTellerModel_checkOne_93 at hm
    refine lv_iconst (v := 0) hx hb d_RangeTellerModel_checkOne_93 (by decide) ?_
    exact hB94 ls l2 0 σ _ _ (lv_sub hl [0, 1] rfl) hm hP hS
  have hB65 : ∀ (ls : Array Slot) (l2 : Int32) (σ : rt_St) (H : Heap) (locs : List Loc), lv_has ls 4 [(0, .ref (A 0)), (2, .int l2)] → B_R_RangeTellerModel_checkOne_65 l2 σ = some (r', σ') → va_P D rt_cl (rtR_W cI cZ A σ) H → va_S (rt_A (rtR_W cI cZ A) s.heap.size) s.heap H locs → W p l e ({ frames := 3, cells := 0, slots := 0, locals := 72 } : Room) s m ([.ref (A 0), .int a1] : List Value).toArray below meth c H locs 0 0 (rt_Qi D rt_cl (rt_t cI cZ) rtR_X (rtR_W cI cZ A) below ([.ref (A 0), .int a1] : List Value).toArray s r' σ') (F0 m 65 ls []) := by
    intro ls l2 σ H locs hl hm hP hS
    unfold B_R_RangeTellerModel_checkOne_65 at hm
    refine lv_iload_n hx hb d_RangeTellerModel_checkOne_65 rfl (lv_at hl 1 rfl) ?_
    refine lv_bipush (v := 10) hx hb d_RangeTellerModel_checkOne_66 (by decide) ?_
    refine lv_icmp_eq (tgt := 93) hx hb d_RangeTellerModel_checkOne_68 (by decide) (fun hc => ?_) (fun hc => ?_)
    · have hm := (if_pos hc).symm.trans hm
      exact hB93 ls l2 σ _ _ (lv_sub hl [0, 1] rfl) hm hP hS
    · have hm := (if_neg hc).symm.trans hm
      refine lv_iload_n hx hb d_RangeTellerModel_checkOne_71 rfl (lv_at hl 1 rfl) ?_
      refine lv_bipush (v := 13) hx hb d_RangeTellerModel_checkOne_72 (by decide) ?_
      refine lv_icmp_eq (tgt := 93) hx hb d_RangeTellerModel_checkOne_74 (by decide) (fun hc => ?_) (fun hc => ?_)
      · have hm := (if_pos hc).symm.trans hm
        exact hB93 ls l2 σ _ _ (lv_sub hl [0, 1] rfl) hm hP hS
      · have hm := (if_neg hc).symm.trans hm
        refine lv_iload_n hx hb d_RangeTellerModel_checkOne_77 rfl (lv_at hl 1 rfl) ?_
        refine lv_bipush (v := 16) hx hb d_RangeTellerModel_checkOne_78 (by decide) ?_
        refine lv_icmp_eq (tgt := 93) hx hb d_RangeTellerModel_checkOne_80 (by decide) (fun hc => ?_) (fun hc => ?_)
        · have hm := (if_pos hc).symm.trans hm
          exact hB93 ls l2 σ _ _ (lv_sub hl [0, 1] rfl) hm hP hS
        · have hm := (if_neg hc).symm.trans hm
          refine lv_iload_n hx hb d_RangeTellerModel_checkOne_83 rfl (lv_at hl 1 rfl) ?_
          refine lv_bipush (v := 28) hx hb d_RangeTellerModel_checkOne_84 (by decide) ?_
          refine lv_icmp_eq (tgt := 93) hx hb d_RangeTellerModel_checkOne_86 (by decide) (fun hc => ?_) (fun hc => ?_)
          · have hm := (if_pos hc).symm.trans hm
            exact hB93 ls l2 σ _ _ (lv_sub hl [0, 1] rfl) hm hP hS
          · have hm := (if_neg hc).symm.trans hm
            refine lv_iconst (v := 1) hx hb d_RangeTellerModel_checkOne_89 (by decide) ?_
            refine lv_goto (tgt := 94) hx hb d_RangeTellerModel_checkOne_90 (by decide) ?_
            exact hB94 ls l2 1 σ _ _ (lv_sub hl [0, 1] rfl) hm hP hS
  unfold M_R_RangeTellerModel_checkOne at hm
  refine lv_aload_n hx hb d_RangeTellerModel_checkOne_0 rfl (lv_at hl 0 rfl) ?_
  refine va_get (D := D) (v := .ref (A 2)) (C := "RangeTellerModel") (T := rt_T6) (N := 69) hx hb hts rt_i6 hown hK hP 0 rfl rfl 7 (by decide) (hts _ (rt_m rt_w854)) (fun _ h9 => h9) rfl d_RangeTellerModel_checkOne_1 ?_
  refine lv_iload_n hx hb d_RangeTellerModel_checkOne_4 rfl (lv_at hl 1 rfl) ?_
  obtain ⟨v9, h10, hm⟩ := rt_b1s hm
  refine rt_ald hx hb hK hP 2 0 rfl rfl h10 d_RangeTellerModel_checkOne_5 ?_
  refine lv_istore_n hx hb d_RangeTellerModel_checkOne_6 rfl hl (by decide) rfl (fun ls hl => ?_)
  have hl : lv_has ls 4 [(2, .int v9), (0, .ref (A 0)), (1, .int a1)] := hl
  refine lv_iload_n hx hb d_RangeTellerModel_checkOne_7 rfl (lv_at hl 0 rfl) ?_
  refine lv_bipush (v := 10) hx hb d_RangeTellerModel_checkOne_8 (by decide) ?_
  refine lv_icmp_ge (tgt := 19) hx hb d_RangeTellerModel_checkOne_10 (by decide) (fun hc => ?_) (fun hc => ?_)
  · have hm := (if_pos hc).symm.trans hm
    refine lv_iload_n hx hb d_RangeTellerModel_checkOne_19 rfl (lv_at hl 0 rfl) ?_
    refine lv_bipush (v := 11) hx hb d_RangeTellerModel_checkOne_20 (by decide) ?_
    refine lv_icmp_le (tgt := 65) hx hb d_RangeTellerModel_checkOne_22 (by decide) (fun hc => ?_) (fun hc => ?_)
    · have hm := (if_pos hc).symm.trans hm
      exact hB65 ls v9 σ _ _ (lv_sub hl [1, 0] rfl) hm hP hS
    · have hm := (if_neg hc).symm.trans hm
      refine lv_iload_n hx hb d_RangeTellerModel_checkOne_25 rfl (lv_at hl 0 rfl) ?_
      refine lv_bipush (v := 15) hx hb d_RangeTellerModel_checkOne_26 (by decide) ?_
      refine lv_icmp_ge (tgt := 65) hx hb d_RangeTellerModel_checkOne_28 (by decide) (fun hc => ?_) (fun hc => ?_)
      · have hm := (if_pos hc).symm.trans hm
        exact hB65 ls v9 σ _ _ (lv_sub hl [1, 0] rfl) hm hP hS
      · have hm := (if_neg hc).symm.trans hm
        refine lv_aload_n hx hb d_RangeTellerModel_checkOne_31 rfl (lv_at hl 1 rfl) ?_
        refine va_get (D := D) (v := .ref (A 3)) (C := "RangeTellerModel") (T := rt_T6) (N := 69) hx hb hts rt_i6 hown hK hP 0 rfl rfl 8 (by decide) (hts _ (rt_m rt_w855)) (fun _ h9 => h9) rfl d_RangeTellerModel_checkOne_32 ?_
        refine lv_iload_n hx hb d_RangeTellerModel_checkOne_35 rfl (lv_at hl 2 rfl) ?_
        obtain ⟨v11, h12, hm⟩ := rt_b1s hm
        refine rt_ald hx hb hK hP 3 0 rfl rfl h12 d_RangeTellerModel_checkOne_36 ?_
        refine lv_aload_n hx hb d_RangeTellerModel_checkOne_37 rfl (lv_at hl 1 rfl) ?_
        refine va_get (D := D) (v := .ref (A 11)) (C := "RangeTellerModel") (T := rt_T6) (N := 69) hx hb hts rt_i6 hown hK hP 0 rfl rfl 17 (by decide) (hts _ (rt_m rt_w864)) (fun _ h9 => h9) rfl d_RangeTellerModel_checkOne_38 ?_
        refine lv_aload_n hx hb d_RangeTellerModel_checkOne_41 rfl (lv_at hl 1 rfl) ?_
        refine va_get (D := D) (v := .ref (A 4)) (C := "RangeTellerModel") (T := rt_T6) (N := 69) hx hb hts rt_i6 hown hK hP 0 rfl rfl 9 (by decide) (hts _ (rt_m rt_w856)) (fun _ h9 => h9) rfl d_RangeTellerModel_checkOne_42 ?_
        refine lv_iload_n hx hb d_RangeTellerModel_checkOne_45 rfl (lv_at hl 2 rfl) ?_
        obtain ⟨v13, h14, hm⟩ := rt_b1s hm
        refine rt_ald hx hb hK hP 4 0 rfl rfl h14 d_RangeTellerModel_checkOne_46 ?_
        obtain ⟨v15, h16, hm⟩ := rt_b1s hm
        refine rt_ald hx hb hK hP 11 0 rfl rfl h16 d_RangeTellerModel_checkOne_47 ?_
        refine lv_aload_n hx hb d_RangeTellerModel_checkOne_48 rfl (lv_at hl 1 rfl) ?_
        refine va_get (D := D) (v := .ref (A 12)) (C := "RangeTellerModel") (T := rt_T6) (N := 69) hx hb hts rt_i6 hown hK hP 0 rfl rfl 18 (by decide) (hts _ (rt_m rt_w865)) (fun _ h9 => h9) rfl d_RangeTellerModel_checkOne_49 ?_
        refine lv_aload_n hx hb d_RangeTellerModel_checkOne_52 rfl (lv_at hl 1 rfl) ?_
        refine va_get (D := D) (v := .ref (A 4)) (C := "RangeTellerModel") (T := rt_T6) (N := 69) hx hb hts rt_i6 hown hK hP 0 rfl rfl 9 (by decide) (hts _ (rt_m rt_w856)) (fun _ h9 => h9) rfl d_RangeTellerModel_checkOne_53 ?_
        refine lv_iload_n hx hb d_RangeTellerModel_checkOne_56 rfl (lv_at hl 2 rfl) ?_
        obtain ⟨v17, h18, hm⟩ := rt_b1s hm
        refine rt_ald hx hb hK hP 4 0 rfl rfl h18 d_RangeTellerModel_checkOne_57 ?_
        obtain ⟨v19, h20, hm⟩ := rt_b1s hm
        refine rt_ald hx hb hK hP 12 0 rfl rfl h20 d_RangeTellerModel_checkOne_58 ?_
        refine lv_iadd hx hb d_RangeTellerModel_checkOne_59 ?_
        refine lv_icmp_lt (tgt := 65) hx hb d_RangeTellerModel_checkOne_60 (by decide) (fun hc => ?_) (fun hc => ?_)
        · have hm := (if_pos hc).symm.trans hm
          exact hB65 ls v9 σ _ _ (lv_sub hl [1, 0] rfl) hm hP hS
        · have hm := (if_neg hc).symm.trans hm
          refine lv_iconst (v := 0) hx hb d_RangeTellerModel_checkOne_63 (by decide) ?_
          exact W.zret hx hb hr rfl (fun t ht hW => ⟨⟨_, _, rfl, rt_pr hm, rt_end rtR_Xo hK hP hS hX ht hW⟩, hS.F ht⟩) hS.2.2 d_RangeTellerModel_checkOne_64
  · have hm := (if_neg hc).symm.trans hm
    refine lv_aload_n hx hb d_RangeTellerModel_checkOne_13 rfl (lv_at hl 1 rfl) ?_
    refine lv_iload_n hx hb d_RangeTellerModel_checkOne_14 rfl (lv_at hl 2 rfl) ?_
    obtain ⟨v23, σ22, h21, hm⟩ := rt_b2s hm
    refine rt_cvi (As := [.int a1]) (rest := []) (k := 0) rtR_Xo ⟨hx, hb, hml, hown, hts⟩ (k_R_RangeTellerModel_checkFlow l D cI cZ A hO σ a1 _ _ h21) (cw_RangeTellerModel_checkFlow hts (hts _ (rt_m rt_w1098)) ⟨Nat.le_of_ble_eq_true rfl, Nat.le_of_ble_eq_true rfl⟩) hK hP hS hX rfl rfl rfl hl.1 rfl (Nat.le_of_ble_eq_true rfl) d_RangeTellerModel_checkOne_15 ⟨Nat.zero_le _, Nat.zero_le _⟩ (fun H locs hP hS => ?_)
    obtain ⟨_, h24, hm⟩ := rt_b1s hm
    exact W.zret hx hb hr (rt_zoks h24) (fun t ht hW => ⟨⟨_, _, rfl, rt_pr hm, rt_end rtR_Xo hK hP hS hX ht hW⟩, hS.F ht⟩) hS.2.2 d_RangeTellerModel_checkOne_18
set_option maxHeartbeats 4000000 in
set_option maxRecDepth 100000 in
theorem k_R_RangeTellerModel_check (l : Launch) (D : va_G) (cI cZ : ClassId) (A : Nat → Nat) (hO : rt_Ok (rtR_W cI cZ A)) (σ : rt_St) (r' : Int32) (σ' : rt_St) (hm : M_R_RangeTellerModel_check σ = some (r', σ')) (sz : Nat) : Met l y_RangeTellerModel_check (rt_ws y_RangeTellerModel_check b_RangeTellerModel_check 2 (some .boolean)) ({ frames := 4, cells := 0, slots := 0, locals := 95 } : Room) (va_Pc [.ref (A 0)] (rt_P D rt_cl (rt_t cI cZ) rtR_X (rtR_W cI cZ A) sz σ)) (va_Qi (fun r1 u1 => r1 = r' ∧ u1 = σ') (rt_B D rt_cl (rt_t cI cZ) rtR_X (rtR_W cI cZ A)) (rt_A (rtR_W cI cZ A) sz)) 0 0 (rt_A (rtR_W cI cZ A) sz) := by
  refine Met.ofW (cc := b_RangeTellerModel_check) (maxL := 2) (ret := (some .boolean)) (by decide) rfl ?_
  intro p e s m args below meth c s₁ B hml hv
  obtain ⟨rfl, rfl, hP, hK, hX⟩ := hv
  have hx := B.exec
  have hb := B.bytes
  have hr := B.returns
  have hts := atoms_spec (ws := (rt_ws y_RangeTellerModel_check b_RangeTellerModel_check 2 (some .boolean))) B.pre
  have hown : s.vm.findClass "RangeTellerModel" = some m.cls := findClass_of_methodNamed B.named
  have hlocks := B.notSynchronized
  have hD := rt_hD hO s.heap.size
  have hS : va_S (rt_A (rtR_W cI cZ A) s.heap.size) s.heap s.heap [] := va_S.rf
  have hl := lv_entry ([.ref (A 0)]) (n := 2) (Nat.le_of_ble_eq_true rfl)
  rw [lg_entry_eq]
  generalize (lg_sl ([.ref (A 0)]) ++ List.replicate (2 - (lg_sl ([.ref (A 0)])).length) Slot.unset).toArray = ls at hl ⊢
  have hl : lv_has ls 2 [(0, .ref (A 0))] := hl
  show W p l e ({ frames := 4, cells := 0, slots := 0, locals := 95 } : Room) s m ([.ref (A 0)] : List Value).toArray below meth c s.heap [] 0 0 (rt_Qi D rt_cl (rt_t cI cZ) rtR_X (rtR_W cI cZ A) below ([.ref (A 0)] : List Value).toArray s r' σ') (F0 m 0 ls [])
  have hB2 : ∀ (n2 : Nat) (ls : Array Slot) (l1 : Int32) (σ : rt_St) (H : Heap) (locs : List Loc), lv_has ls 2 [(0, .ref (A 0)), (1, .int l1)] → B_R_RangeTellerModel_check_2 n2 l1 σ = some (r', σ') → va_P D rt_cl (rtR_W cI cZ A σ) H → va_S (rt_A (rtR_W cI cZ A) s.heap.size) s.heap H locs → W p l e ({ frames := 4, cells := 0, slots := 0, locals := 95 } : Room) s m ([.ref (A 0)] : List Value).toArray below meth c H locs 0 0 (rt_Qi D rt_cl (rt_t cI cZ) rtR_X (rtR_W cI cZ A) below ([.ref (A 0)] : List Value).toArray s r' σ') (F0 m 2 ls []) := by
    intro n2
    induction n2 with
    | zero => intro ls l1 σ H locs hl hm hP hS; rw [B_R_RangeTellerModel_check_2] at hm; cases hm
    | succ n2 ih2 =>
      have hB51 : ∀ (ls : Array Slot) (l1 : Int32) (σ : rt_St) (H : Heap) (locs : List Loc), lv_has ls 2 [(0, .ref (A 0)), (1, .int l1)] → B_R_RangeTellerModel_check_51 (B_R_RangeTellerModel_check_2 n2) l1 σ = some (r', σ') → va_P D rt_cl (rtR_W cI cZ A σ) H → va_S (rt_A (rtR_W cI cZ A) s.heap.size) s.heap H locs → W p l e ({ frames := 4, cells := 0, slots := 0, locals := 95 } : Room) s m ([.ref (A 0)] : List Value).toArray below meth c H locs 0 0 (rt_Qi D rt_cl (rt_t cI cZ) rtR_X (rtR_W cI cZ A) below ([.ref (A 0)] : List Value).toArray s r' σ') (F0 m 51 ls []) := by
        intro ls l1 σ H locs hl hm hP hS
        unfold B_R_RangeTellerModel_check_51 at hm
        refine lv_aload_n hx hb d_RangeTellerModel_check_51 rfl (lv_at hl 0 rfl) ?_
        refine va_get (D := D) (v := .ref (A 7)) (C := "RangeTellerModel") (T := rt_T6) (N := 69) hx hb hts rt_i6 hown hK hP 0 rfl rfl 12 (by decide) (hts _ (rt_m rt_w859)) (fun _ h9 => h9) rfl d_RangeTellerModel_check_52 ?_
        refine lv_iload_n hx hb d_RangeTellerModel_check_55 rfl (lv_at hl 1 rfl) ?_
        refine lv_aload_n hx hb d_RangeTellerModel_check_56 rfl (lv_at hl 0 rfl) ?_
        refine va_get (D := D) (v := .int (σ 0 26)) (C := "RangeTellerModel") (T := rt_T6) (N := 69) hx hb hts rt_i6 hown hK hP 0 rfl rfl 26 (by decide) (hts _ (rt_m rt_w873)) (fun _ h9 => h9) rfl d_RangeTellerModel_check_57 ?_
        obtain ⟨σ1, h2, hm⟩ := rt_b1s hm
        refine rt_ast hx hb hK hP hD hS 7 0 rfl (rtR_a7 cI cZ A _) rfl h2 d_RangeTellerModel_check_60 (fun H locs hP hS => ?_)
        refine lv_aload_n hx hb d_RangeTellerModel_check_61 rfl (lv_at hl 0 rfl) ?_
        refine lv_iload_n hx hb d_RangeTellerModel_check_62 rfl (lv_at hl 1 rfl) ?_
        obtain ⟨v5, σ4, h3, hm⟩ := rt_b2s hm
        refine rt_cvi (As := [.int l1]) (rest := []) (k := 0) rtR_Xo ⟨hx, hb, hml, hown, hts⟩ (k_R_RangeTellerModel_checkOne l D cI cZ A hO σ1 l1 _ _ h3) (cw_RangeTellerModel_checkOne hts (hts _ (rt_m rt_w1094)) ⟨Nat.le_of_ble_eq_true rfl, Nat.le_of_ble_eq_true rfl⟩) hK hP hS hX rfl rfl rfl hl.1 rfl (Nat.le_of_ble_eq_true rfl) d_RangeTellerModel_check_63 ⟨Nat.zero_le _, Nat.zero_le _⟩ (fun H locs hP hS => ?_)
        refine lv_if_ne (tgt := 76) hx hb d_RangeTellerModel_check_66 (by decide) (fun hc => ?_) (fun hc => ?_)
        · have hm := (if_neg hc).symm.trans hm
          refine lv_iinc (k := 1) (v := (l1 + 1)) hx hb d_RangeTellerModel_check_76 hl rfl rfl (by decide) rfl (fun ls hl => ?_)
          have hl : lv_has ls 2 [(1, .int (l1 + 1)), (0, .ref (A 0))] := hl
          refine lv_goto (tgt := 2) hx hb d_RangeTellerModel_check_79 (by decide) ?_
          exact ih2 ls (l1 + 1) σ4 _ _ (lv_sub hl [1, 0] rfl) hm hP hS
        · have hm := (if_pos hc).symm.trans hm
          refine lv_aload_n hx hb d_RangeTellerModel_check_69 rfl (lv_at hl 0 rfl) ?_
          refine lv_iload_n hx hb d_RangeTellerModel_check_70 rfl (lv_at hl 1 rfl) ?_
          obtain ⟨σ6, h7, hm⟩ := rt_b1s hm
          refine rt_pf (D := D) (C := "RangeTellerModel") (T := rt_T6) (N := 69) (ty := .int) hx hb hts rt_i6 rt_y6 rt_o6 rt_n6 hown hK hP hD hS 0 rfl rfl 5 (by decide) (hts _ (rt_m rt_w852)) (fun _ h9 => h9) rfl (by decide +kernel) rfl rfl (Nat.le_of_ble_eq_true rfl) (rtR_s0_5 cI cZ A _ _) h7 d_RangeTellerModel_check_71 (fun H locs hP hS => ?_)
          refine lv_iconst (v := 0) hx hb d_RangeTellerModel_check_74 (by decide) ?_
          exact W.zret hx hb hr rfl (fun t ht hW => ⟨⟨_, _, rfl, rt_pr hm, rt_end rtR_Xo hK hP hS hX ht hW⟩, hS.F ht⟩) hS.2.2 d_RangeTellerModel_check_75
      intro ls l1 σ H locs hl hm hP hS
      rw [B_R_RangeTellerModel_check_2] at hm
      refine lv_iload_n hx hb d_RangeTellerModel_check_2 rfl (lv_at hl 1 rfl) ?_
      refine lv_aload_n hx hb d_RangeTellerModel_check_3 rfl (lv_at hl 0 rfl) ?_
      refine va_get (D := D) (v := .int (σ 0 6)) (C := "RangeTellerModel") (T := rt_T6) (N := 69) hx hb hts rt_i6 hown hK hP 0 rfl rfl 6 (by decide) (hts _ (rt_m rt_w853)) (fun _ h9 => h9) rfl d_RangeTellerModel_check_4 ?_
      refine lv_icmp_ge (tgt := 82) hx hb d_RangeTellerModel_check_7 (by decide) (fun hc => ?_) (fun hc => ?_)
      · have hm := (if_pos hc).symm.trans hm
        refine lv_iconst (v := 1) hx hb d_RangeTellerModel_check_82 (by decide) ?_
        exact W.zret hx hb hr rfl (fun t ht hW => ⟨⟨_, _, rfl, rt_pr hm, rt_end rtR_Xo hK hP hS hX ht hW⟩, hS.F ht⟩) hS.2.2 d_RangeTellerModel_check_83
      · have hm := (if_neg hc).symm.trans hm
        refine lv_iload_n hx hb d_RangeTellerModel_check_10 rfl (lv_at hl 1 rfl) ?_
        refine lv_aload_n hx hb d_RangeTellerModel_check_11 rfl (lv_at hl 0 rfl) ?_
        refine va_get (D := D) (v := .ref (A 14)) (C := "RangeTellerModel") (T := rt_T6) (N := 69) hx hb hts rt_i6 hown hK hP 0 rfl rfl 20 (by decide) (hts _ (rt_m rt_w867)) (fun _ h9 => h9) rfl d_RangeTellerModel_check_12 ?_
        refine lv_aload_n hx hb d_RangeTellerModel_check_15 rfl (lv_at hl 0 rfl) ?_
        refine va_get (D := D) (v := .ref (A 4)) (C := "RangeTellerModel") (T := rt_T6) (N := 69) hx hb hts rt_i6 hown hK hP 0 rfl rfl 9 (by decide) (hts _ (rt_m rt_w856)) (fun _ h9 => h9) rfl d_RangeTellerModel_check_16 ?_
        refine lv_iload_n hx hb d_RangeTellerModel_check_19 rfl (lv_at hl 1 rfl) ?_
        obtain ⟨v8, h9, hm⟩ := rt_b1s hm
        refine rt_ald hx hb hK hP 4 0 rfl rfl h9 d_RangeTellerModel_check_20 ?_
        obtain ⟨v10, h11, hm⟩ := rt_b1s hm
        refine rt_ald hx hb hK hP 14 0 rfl rfl h11 d_RangeTellerModel_check_21 ?_
        refine lv_icmp_ne (tgt := 51) hx hb d_RangeTellerModel_check_22 (by decide) (fun hc => ?_) (fun hc => ?_)
        · have hm := (if_neg hc).symm.trans hm
          exact hB51 ls l1 σ _ _ (lv_sub hl [0, 1] rfl) hm hP hS
        · have hm := (if_pos hc).symm.trans hm
          refine lv_aload_n hx hb d_RangeTellerModel_check_25 rfl (lv_at hl 0 rfl) ?_
          refine lv_iconst (v := 0) hx hb d_RangeTellerModel_check_26 (by decide) ?_
          obtain ⟨σ12, h13, hm⟩ := rt_b1s hm
          refine rt_pf (D := D) (C := "RangeTellerModel") (T := rt_T6) (N := 69) (ty := .int) hx hb hts rt_i6 rt_y6 rt_o6 rt_n6 hown hK hP hD hS 0 rfl rfl 21 (by decide) (hts _ (rt_m rt_w868)) (fun _ h9 => h9) rfl (by decide +kernel) rfl rfl (Nat.le_of_ble_eq_true rfl) (rtR_s0_21 cI cZ A _ _) h13 d_RangeTellerModel_check_27 (fun H locs hP hS => ?_)
          refine lv_aload_n hx hb d_RangeTellerModel_check_30 rfl (lv_at hl 0 rfl) ?_
          refine lv_iconst (v := 0) hx hb d_RangeTellerModel_check_31 (by decide) ?_
          obtain ⟨σ14, h15, hm⟩ := rt_b1s hm
          refine rt_pf (D := D) (C := "RangeTellerModel") (T := rt_T6) (N := 69) (ty := .int) hx hb hts rt_i6 rt_y6 rt_o6 rt_n6 hown hK hP hD hS 0 rfl rfl 26 (by decide) (hts _ (rt_m rt_w873)) (fun _ h9 => h9) rfl (by decide +kernel) rfl rfl (Nat.le_of_ble_eq_true rfl) (rtR_s0_26 cI cZ A _ _) h15 d_RangeTellerModel_check_32 (fun H locs hP hS => ?_)
          refine lv_aload_n hx hb d_RangeTellerModel_check_35 rfl (lv_at hl 0 rfl) ?_
          refine lv_iconst (v := (-1)) hx hb d_RangeTellerModel_check_36 (by decide) ?_
          refine lv_aload_n hx hb d_RangeTellerModel_check_37 rfl (lv_at hl 0 rfl) ?_
          refine va_get (D := D) (v := .ref (A 13)) (C := "RangeTellerModel") (T := rt_T6) (N := 69) hx hb hts rt_i6 hown hK hP 0 rfl rfl 19 (by decide) (hts _ (rt_m rt_w866)) (fun _ h9 => h9) rfl d_RangeTellerModel_check_38 ?_
          refine lv_aload_n hx hb d_RangeTellerModel_check_41 rfl (lv_at hl 0 rfl) ?_
          refine va_get (D := D) (v := .ref (A 4)) (C := "RangeTellerModel") (T := rt_T6) (N := 69) hx hb hts rt_i6 hown hK hP 0 rfl rfl 9 (by decide) (hts _ (rt_m rt_w856)) (fun _ h9 => h9) rfl d_RangeTellerModel_check_42 ?_
          refine lv_iload_n hx hb d_RangeTellerModel_check_45 rfl (lv_at hl 1 rfl) ?_
          obtain ⟨v16, h17, hm⟩ := rt_b1s hm
          refine rt_ald hx hb hK hP 4 0 rfl rfl h17 d_RangeTellerModel_check_46 ?_
          obtain ⟨v18, h19, hm⟩ := rt_b1s hm
          refine rt_ald hx hb hK hP 13 0 rfl rfl h19 d_RangeTellerModel_check_47 ?_
          obtain ⟨σ21, h20, hm⟩ := rt_b1s hm
          refine rt_cvv (As := [.int (-1), .int v18]) (rest := []) (k := 0) rtR_Xo ⟨hx, hb, hml, hown, hts⟩ (k_R_RangeTellerModel_open l D cI cZ A hO σ14 (-1) v18 _ h20) (cw_RangeTellerModel_open hts (hts _ (rt_m rt_w1090)) ⟨Nat.le_of_ble_eq_true rfl, Nat.le_of_ble_eq_true rfl⟩) hK hP hS hX rfl rfl rfl hl.1 rfl (Nat.le_of_ble_eq_true rfl) d_RangeTellerModel_check_48 ⟨Nat.zero_le _, Nat.zero_le _⟩ (fun H locs hP hS => ?_)
          exact hB51 ls l1 σ21 _ _ (lv_sub hl [0, 1] rfl) hm hP hS
  unfold M_R_RangeTellerModel_check at hm
  refine lv_iconst (v := 0) hx hb d_RangeTellerModel_check_0 (by decide) ?_
  refine lv_istore_n hx hb d_RangeTellerModel_check_1 rfl hl (by decide) rfl (fun ls hl => ?_)
  have hl : lv_has ls 2 [(1, .int 0), (0, .ref (A 0))] := hl
  exact hB2 _ ls 0 σ _ _ (lv_sub hl [1, 0] rfl) hm hP hS
set_option maxHeartbeats 4000000 in
set_option maxRecDepth 100000 in
theorem k_R_RangeTellerModel_clear (l : Launch) (D : va_G) (cI cZ : ClassId) (A : Nat → Nat) (hO : rt_Ok (rtR_W cI cZ A)) (σ : rt_St) (σ' : rt_St) (hm : M_R_RangeTellerModel_clear σ = some σ') (sz : Nat) : Met l y_RangeTellerModel_clear (rt_ws y_RangeTellerModel_clear b_RangeTellerModel_clear 2 none) ({ frames := 0, cells := 0, slots := 0, locals := 0 } : Room) (va_Pc [.ref (A 0)] (rt_P D rt_cl (rt_t cI cZ) rtR_X (rtR_W cI cZ A) sz σ)) (va_Qv (fun u1 => u1 = σ') (rt_B D rt_cl (rt_t cI cZ) rtR_X (rtR_W cI cZ A)) (rt_A (rtR_W cI cZ A) sz)) 0 0 (rt_A (rtR_W cI cZ A) sz) := by
  refine Met.ofW (cc := b_RangeTellerModel_clear) (maxL := 2) (ret := none) (by decide) rfl ?_
  intro p e s m args below meth c s₁ B hml hv
  obtain ⟨rfl, rfl, hP, hK, hX⟩ := hv
  have hx := B.exec
  have hb := B.bytes
  have hr := B.returns
  have hts := atoms_spec (ws := (rt_ws y_RangeTellerModel_clear b_RangeTellerModel_clear 2 none)) B.pre
  have hown : s.vm.findClass "RangeTellerModel" = some m.cls := findClass_of_methodNamed B.named
  have hlocks := B.notSynchronized
  have hD := rt_hD hO s.heap.size
  have hS : va_S (rt_A (rtR_W cI cZ A) s.heap.size) s.heap s.heap [] := va_S.rf
  have hl := lv_entry ([.ref (A 0)]) (n := 2) (Nat.le_of_ble_eq_true rfl)
  rw [lg_entry_eq]
  generalize (lg_sl ([.ref (A 0)]) ++ List.replicate (2 - (lg_sl ([.ref (A 0)])).length) Slot.unset).toArray = ls at hl ⊢
  have hl : lv_has ls 2 [(0, .ref (A 0))] := hl
  show W p l e ({ frames := 0, cells := 0, slots := 0, locals := 0 } : Room) s m ([.ref (A 0)] : List Value).toArray below meth c s.heap [] 0 0 (rt_Qv D rt_cl (rt_t cI cZ) rtR_X (rtR_W cI cZ A) below ([.ref (A 0)] : List Value).toArray s σ') (F0 m 0 ls [])
  have hB65 : ∀ (n65 : Nat) (ls : Array Slot) (l1 : Int32) (σ : rt_St) (H : Heap) (locs : List Loc), lv_has ls 2 [(0, .ref (A 0)), (1, .int l1)] → B_R_RangeTellerModel_clear_65 n65 l1 σ = some σ' → va_P D rt_cl (rtR_W cI cZ A σ) H → va_S (rt_A (rtR_W cI cZ A) s.heap.size) s.heap H locs → W p l e ({ frames := 0, cells := 0, slots := 0, locals := 0 } : Room) s m ([.ref (A 0)] : List Value).toArray below meth c H locs 0 0 (rt_Qv D rt_cl (rt_t cI cZ) rtR_X (rtR_W cI cZ A) below ([.ref (A 0)] : List Value).toArray s σ') (F0 m 65 ls []) := by
    intro n65
    induction n65 with
    | zero => intro ls l1 σ H locs hl hm hP hS; rw [B_R_RangeTellerModel_clear_65] at hm; cases hm
    | succ n65 ih65 =>
      intro ls l1 σ H locs hl hm hP hS
      rw [B_R_RangeTellerModel_clear_65] at hm
      refine lv_iload_n hx hb d_RangeTellerModel_clear_65 rfl (lv_at hl 1 rfl) ?_
      refine lv_iconst (v := 3) hx hb d_RangeTellerModel_clear_66 (by decide) ?_
      refine lv_icmp_ge (tgt := 104) hx hb d_RangeTellerModel_clear_67 (by decide) (fun hc => ?_) (fun hc => ?_)
      · have hm := (if_pos hc).symm.trans hm
        exact W.vret hx hb hr (fun t ht hW => ⟨⟨_, rfl, Option.some.inj hm, rt_end rtR_Xo hK hP hS hX ht hW⟩, hS.F ht⟩) hS.2.2 d_RangeTellerModel_clear_104
      · have hm := (if_neg hc).symm.trans hm
        refine lv_aload_n hx hb d_RangeTellerModel_clear_70 rfl (lv_at hl 0 rfl) ?_
        refine va_get (D := D) (v := .ref (A 37)) (C := "RangeTellerModel") (T := rt_T6) (N := 69) hx hb hts rt_i6 hown hK hP 0 rfl rfl 54 (by decide) (hts _ (rt_m rt_w901)) (fun _ h9 => h9) rfl d_RangeTellerModel_clear_71 ?_
        refine lv_iload_n hx hb d_RangeTellerModel_clear_74 rfl (lv_at hl 1 rfl) ?_
        refine lv_iconst (v := 1) hx hb d_RangeTellerModel_clear_75 (by decide) ?_
        obtain ⟨σ1, h2, hm⟩ := rt_b1s hm
        refine rt_ast hx hb hK hP hD hS 37 0 rfl (rtR_a37 cI cZ A _) rfl h2 d_RangeTellerModel_clear_76 (fun H locs hP hS => ?_)
        refine lv_aload_n hx hb d_RangeTellerModel_clear_77 rfl (lv_at hl 0 rfl) ?_
        refine va_get (D := D) (v := .ref (A 38)) (C := "RangeTellerModel") (T := rt_T6) (N := 69) hx hb hts rt_i6 hown hK hP 0 rfl rfl 55 (by decide) (hts _ (rt_m rt_w902)) (fun _ h9 => h9) rfl d_RangeTellerModel_clear_78 ?_
        refine lv_iload_n hx hb d_RangeTellerModel_clear_81 rfl (lv_at hl 1 rfl) ?_
        refine lv_iconst (v := 0) hx hb d_RangeTellerModel_clear_82 (by decide) ?_
        obtain ⟨σ3, h4, hm⟩ := rt_b1s hm
        refine rt_ast hx hb hK hP hD hS 38 0 rfl (rtR_a38 cI cZ A _) rfl h4 d_RangeTellerModel_clear_83 (fun H locs hP hS => ?_)
        refine lv_aload_n hx hb d_RangeTellerModel_clear_84 rfl (lv_at hl 0 rfl) ?_
        refine va_get (D := D) (v := .ref (A 39)) (C := "RangeTellerModel") (T := rt_T6) (N := 69) hx hb hts rt_i6 hown hK hP 0 rfl rfl 56 (by decide) (hts _ (rt_m rt_w903)) (fun _ h9 => h9) rfl d_RangeTellerModel_clear_85 ?_
        refine lv_iload_n hx hb d_RangeTellerModel_clear_88 rfl (lv_at hl 1 rfl) ?_
        refine lv_iconst (v := 0) hx hb d_RangeTellerModel_clear_89 (by decide) ?_
        obtain ⟨σ5, h6, hm⟩ := rt_b1s hm
        refine rt_zst hx hb hK hP hD hS 39 1 rfl (rtR_a39 cI cZ A _) rfl rfl h6 d_RangeTellerModel_clear_90 (fun H locs hP hS => ?_)
        refine lv_aload_n hx hb d_RangeTellerModel_clear_91 rfl (lv_at hl 0 rfl) ?_
        refine va_get (D := D) (v := .ref (A 40)) (C := "RangeTellerModel") (T := rt_T6) (N := 69) hx hb hts rt_i6 hown hK hP 0 rfl rfl 57 (by decide) (hts _ (rt_m rt_w904)) (fun _ h9 => h9) rfl d_RangeTellerModel_clear_92 ?_
        refine lv_iload_n hx hb d_RangeTellerModel_clear_95 rfl (lv_at hl 1 rfl) ?_
        refine lv_iconst (v := 0) hx hb d_RangeTellerModel_clear_96 (by decide) ?_
        obtain ⟨σ7, h8, hm⟩ := rt_b1s hm
        refine rt_zst hx hb hK hP hD hS 40 1 rfl (rtR_a40 cI cZ A _) rfl rfl h8 d_RangeTellerModel_clear_97 (fun H locs hP hS => ?_)
        refine lv_iinc (k := 1) (v := (l1 + 1)) hx hb d_RangeTellerModel_clear_98 hl rfl rfl (by decide) rfl (fun ls hl => ?_)
        have hl : lv_has ls 2 [(1, .int (l1 + 1)), (0, .ref (A 0))] := hl
        refine lv_goto (tgt := 65) hx hb d_RangeTellerModel_clear_101 (by decide) ?_
        exact ih65 ls (l1 + 1) σ7 _ _ (lv_sub hl [1, 0] rfl) hm hP hS
  have hB30 : ∀ (n30 : Nat) (ls : Array Slot) (l1 : Int32) (σ : rt_St) (H : Heap) (locs : List Loc), lv_has ls 2 [(0, .ref (A 0)), (1, .int l1)] → B_R_RangeTellerModel_clear_30 n30 l1 σ = some σ' → va_P D rt_cl (rtR_W cI cZ A σ) H → va_S (rt_A (rtR_W cI cZ A) s.heap.size) s.heap H locs → W p l e ({ frames := 0, cells := 0, slots := 0, locals := 0 } : Room) s m ([.ref (A 0)] : List Value).toArray below meth c H locs 0 0 (rt_Qv D rt_cl (rt_t cI cZ) rtR_X (rtR_W cI cZ A) below ([.ref (A 0)] : List Value).toArray s σ') (F0 m 30 ls []) := by
    intro n30
    induction n30 with
    | zero => intro ls l1 σ H locs hl hm hP hS; rw [B_R_RangeTellerModel_clear_30] at hm; cases hm
    | succ n30 ih30 =>
      intro ls l1 σ H locs hl hm hP hS
      rw [B_R_RangeTellerModel_clear_30] at hm
      refine lv_iload_n hx hb d_RangeTellerModel_clear_30 rfl (lv_at hl 1 rfl) ?_
      refine lv_bipush (v := 16) hx hb d_RangeTellerModel_clear_31 (by decide) ?_
      refine lv_icmp_ge (tgt := 63) hx hb d_RangeTellerModel_clear_33 (by decide) (fun hc => ?_) (fun hc => ?_)
      · have hm := (if_pos hc).symm.trans hm
        refine lv_iconst (v := 0) hx hb d_RangeTellerModel_clear_63 (by decide) ?_
        refine lv_istore_n hx hb d_RangeTellerModel_clear_64 rfl hl (by decide) rfl (fun ls hl => ?_)
        have hl : lv_has ls 2 [(1, .int 0), (0, .ref (A 0))] := hl
        exact hB65 _ ls 0 σ _ _ (lv_sub hl [1, 0] rfl) hm hP hS
      · have hm := (if_neg hc).symm.trans hm
        refine lv_aload_n hx hb d_RangeTellerModel_clear_36 rfl (lv_at hl 0 rfl) ?_
        refine va_get (D := D) (v := .ref (A 34)) (C := "RangeTellerModel") (T := rt_T6) (N := 69) hx hb hts rt_i6 hown hK hP 0 rfl rfl 51 (by decide) (hts _ (rt_m rt_w898)) (fun _ h9 => h9) rfl d_RangeTellerModel_clear_37 ?_
        refine lv_iload_n hx hb d_RangeTellerModel_clear_40 rfl (lv_at hl 1 rfl) ?_
        refine lv_iconst (v := 0) hx hb d_RangeTellerModel_clear_41 (by decide) ?_
        obtain ⟨σ9, h10, hm⟩ := rt_b1s hm
        refine rt_ast hx hb hK hP hD hS 34 0 rfl (rtR_a34 cI cZ A _) rfl h10 d_RangeTellerModel_clear_42 (fun H locs hP hS => ?_)
        refine lv_aload_n hx hb d_RangeTellerModel_clear_43 rfl (lv_at hl 0 rfl) ?_
        refine va_get (D := D) (v := .ref (A 35)) (C := "RangeTellerModel") (T := rt_T6) (N := 69) hx hb hts rt_i6 hown hK hP 0 rfl rfl 52 (by decide) (hts _ (rt_m rt_w899)) (fun _ h9 => h9) rfl d_RangeTellerModel_clear_44 ?_
        refine lv_iload_n hx hb d_RangeTellerModel_clear_47 rfl (lv_at hl 1 rfl) ?_
        refine lv_iconst (v := 0) hx hb d_RangeTellerModel_clear_48 (by decide) ?_
        obtain ⟨σ11, h12, hm⟩ := rt_b1s hm
        refine rt_ast hx hb hK hP hD hS 35 0 rfl (rtR_a35 cI cZ A _) rfl h12 d_RangeTellerModel_clear_49 (fun H locs hP hS => ?_)
        refine lv_aload_n hx hb d_RangeTellerModel_clear_50 rfl (lv_at hl 0 rfl) ?_
        refine va_get (D := D) (v := .ref (A 36)) (C := "RangeTellerModel") (T := rt_T6) (N := 69) hx hb hts rt_i6 hown hK hP 0 rfl rfl 53 (by decide) (hts _ (rt_m rt_w900)) (fun _ h9 => h9) rfl d_RangeTellerModel_clear_51 ?_
        refine lv_iload_n hx hb d_RangeTellerModel_clear_54 rfl (lv_at hl 1 rfl) ?_
        refine lv_iconst (v := 0) hx hb d_RangeTellerModel_clear_55 (by decide) ?_
        obtain ⟨σ13, h14, hm⟩ := rt_b1s hm
        refine rt_zst hx hb hK hP hD hS 36 1 rfl (rtR_a36 cI cZ A _) rfl rfl h14 d_RangeTellerModel_clear_56 (fun H locs hP hS => ?_)
        refine lv_iinc (k := 1) (v := (l1 + 1)) hx hb d_RangeTellerModel_clear_57 hl rfl rfl (by decide) rfl (fun ls hl => ?_)
        have hl : lv_has ls 2 [(1, .int (l1 + 1)), (0, .ref (A 0))] := hl
        refine lv_goto (tgt := 30) hx hb d_RangeTellerModel_clear_60 (by decide) ?_
        exact ih30 ls (l1 + 1) σ13 _ _ (lv_sub hl [1, 0] rfl) hm hP hS
  have hB2 : ∀ (n2 : Nat) (ls : Array Slot) (l1 : Int32) (σ : rt_St) (H : Heap) (locs : List Loc), lv_has ls 2 [(0, .ref (A 0)), (1, .int l1)] → B_R_RangeTellerModel_clear_2 n2 l1 σ = some σ' → va_P D rt_cl (rtR_W cI cZ A σ) H → va_S (rt_A (rtR_W cI cZ A) s.heap.size) s.heap H locs → W p l e ({ frames := 0, cells := 0, slots := 0, locals := 0 } : Room) s m ([.ref (A 0)] : List Value).toArray below meth c H locs 0 0 (rt_Qv D rt_cl (rt_t cI cZ) rtR_X (rtR_W cI cZ A) below ([.ref (A 0)] : List Value).toArray s σ') (F0 m 2 ls []) := by
    intro n2
    induction n2 with
    | zero => intro ls l1 σ H locs hl hm hP hS; rw [B_R_RangeTellerModel_clear_2] at hm; cases hm
    | succ n2 ih2 =>
      intro ls l1 σ H locs hl hm hP hS
      rw [B_R_RangeTellerModel_clear_2] at hm
      refine lv_iload_n hx hb d_RangeTellerModel_clear_2 rfl (lv_at hl 1 rfl) ?_
      refine lv_bipush (v := 101) hx hb d_RangeTellerModel_clear_3 (by decide) ?_
      refine lv_icmp_ge (tgt := 28) hx hb d_RangeTellerModel_clear_5 (by decide) (fun hc => ?_) (fun hc => ?_)
      · have hm := (if_pos hc).symm.trans hm
        refine lv_iconst (v := 0) hx hb d_RangeTellerModel_clear_28 (by decide) ?_
        refine lv_istore_n hx hb d_RangeTellerModel_clear_29 rfl hl (by decide) rfl (fun ls hl => ?_)
        have hl : lv_has ls 2 [(1, .int 0), (0, .ref (A 0))] := hl
        exact hB30 _ ls 0 σ _ _ (lv_sub hl [1, 0] rfl) hm hP hS
      · have hm := (if_neg hc).symm.trans hm
        refine lv_aload_n hx hb d_RangeTellerModel_clear_8 rfl (lv_at hl 0 rfl) ?_
        refine va_get (D := D) (v := .ref (A 26)) (C := "RangeTellerModel") (T := rt_T6) (N := 69) hx hb hts rt_i6 hown hK hP 0 rfl rfl 43 (by decide) (hts _ (rt_m rt_w890)) (fun _ h9 => h9) rfl d_RangeTellerModel_clear_9 ?_
        refine lv_iload_n hx hb d_RangeTellerModel_clear_12 rfl (lv_at hl 1 rfl) ?_
        refine lv_iconst (v := 0) hx hb d_RangeTellerModel_clear_13 (by decide) ?_
        obtain ⟨σ15, h16, hm⟩ := rt_b1s hm
        refine rt_zst hx hb hK hP hD hS 26 1 rfl (rtR_a26 cI cZ A _) rfl rfl h16 d_RangeTellerModel_clear_14 (fun H locs hP hS => ?_)
        refine lv_aload_n hx hb d_RangeTellerModel_clear_15 rfl (lv_at hl 0 rfl) ?_
        refine va_get (D := D) (v := .ref (A 27)) (C := "RangeTellerModel") (T := rt_T6) (N := 69) hx hb hts rt_i6 hown hK hP 0 rfl rfl 44 (by decide) (hts _ (rt_m rt_w891)) (fun _ h9 => h9) rfl d_RangeTellerModel_clear_16 ?_
        refine lv_iload_n hx hb d_RangeTellerModel_clear_19 rfl (lv_at hl 1 rfl) ?_
        refine lv_iconst (v := 0) hx hb d_RangeTellerModel_clear_20 (by decide) ?_
        obtain ⟨σ17, h18, hm⟩ := rt_b1s hm
        refine rt_zst hx hb hK hP hD hS 27 1 rfl (rtR_a27 cI cZ A _) rfl rfl h18 d_RangeTellerModel_clear_21 (fun H locs hP hS => ?_)
        refine lv_iinc (k := 1) (v := (l1 + 1)) hx hb d_RangeTellerModel_clear_22 hl rfl rfl (by decide) rfl (fun ls hl => ?_)
        have hl : lv_has ls 2 [(1, .int (l1 + 1)), (0, .ref (A 0))] := hl
        refine lv_goto (tgt := 2) hx hb d_RangeTellerModel_clear_25 (by decide) ?_
        exact ih2 ls (l1 + 1) σ17 _ _ (lv_sub hl [1, 0] rfl) hm hP hS
  unfold M_R_RangeTellerModel_clear at hm
  refine lv_iconst (v := 0) hx hb d_RangeTellerModel_clear_0 (by decide) ?_
  refine lv_istore_n hx hb d_RangeTellerModel_clear_1 rfl hl (by decide) rfl (fun ls hl => ?_)
  have hl : lv_has ls 2 [(1, .int 0), (0, .ref (A 0))] := hl
  exact hB2 _ ls 0 σ _ _ (lv_sub hl [1, 0] rfl) hm hP hS
set_option maxHeartbeats 4000000 in
set_option maxRecDepth 100000 in
theorem k_R_RangeTellerModel_pass (l : Launch) (D : va_G) (cI cZ : ClassId) (A : Nat → Nat) (hO : rt_Ok (rtR_W cI cZ A)) (σ : rt_St) (a1 : Int32) (σ' : rt_St) (hm : M_R_RangeTellerModel_pass σ a1 = some σ') (sz : Nat) : Met l y_RangeTellerModel_pass (rt_ws y_RangeTellerModel_pass b_RangeTellerModel_pass 6 none) ({ frames := 0, cells := 0, slots := 0, locals := 0 } : Room) (va_Pc [.ref (A 0), .int a1] (rt_P D rt_cl (rt_t cI cZ) rtR_X (rtR_W cI cZ A) sz σ)) (va_Qv (fun u1 => u1 = σ') (rt_B D rt_cl (rt_t cI cZ) rtR_X (rtR_W cI cZ A)) (rt_A (rtR_W cI cZ A) sz)) 0 0 (rt_A (rtR_W cI cZ A) sz) := by
  refine Met.ofW (cc := b_RangeTellerModel_pass) (maxL := 6) (ret := none) (by decide) rfl ?_
  intro p e s m args below meth c s₁ B hml hv
  obtain ⟨rfl, rfl, hP, hK, hX⟩ := hv
  have hx := B.exec
  have hb := B.bytes
  have hr := B.returns
  have hts := atoms_spec (ws := (rt_ws y_RangeTellerModel_pass b_RangeTellerModel_pass 6 none)) B.pre
  have hown : s.vm.findClass "RangeTellerModel" = some m.cls := findClass_of_methodNamed B.named
  have hlocks := B.notSynchronized
  have hD := rt_hD hO s.heap.size
  have hS : va_S (rt_A (rtR_W cI cZ A) s.heap.size) s.heap s.heap [] := va_S.rf
  have hl := lv_entry ([.ref (A 0), .int a1]) (n := 6) (Nat.le_of_ble_eq_true rfl)
  rw [lg_entry_eq]
  generalize (lg_sl ([.ref (A 0), .int a1]) ++ List.replicate (6 - (lg_sl ([.ref (A 0), .int a1])).length) Slot.unset).toArray = ls at hl ⊢
  have hl : lv_has ls 6 [(0, .ref (A 0)), (1, .int a1)] := hl
  show W p l e ({ frames := 0, cells := 0, slots := 0, locals := 0 } : Room) s m ([.ref (A 0), .int a1] : List Value).toArray below meth c s.heap [] 0 0 (rt_Qv D rt_cl (rt_t cI cZ) rtR_X (rtR_W cI cZ A) below ([.ref (A 0), .int a1] : List Value).toArray s σ') (F0 m 0 ls [])
  have hB511 : ∀ (ls : Array Slot) (l2 t0 t1 : Int32) (σ : rt_St) (H : Heap) (locs : List Loc), lv_has ls 6 [(0, .ref (A 0)), (2, .int l2)] → B_R_RangeTellerModel_pass_511 l2 t0 t1 σ = some σ' → va_P D rt_cl (rtR_W cI cZ A σ) H → va_S (rt_A (rtR_W cI cZ A) s.heap.size) s.heap H locs → W p l e ({ frames := 0, cells := 0, slots := 0, locals := 0 } : Room) s m ([.ref (A 0), .int a1] : List Value).toArray below meth c H locs 0 0 (rt_Qv D rt_cl (rt_t cI cZ) rtR_X (rtR_W cI cZ A) below ([.ref (A 0), .int a1] : List Value).toArray s σ') (F0 m 511 ls [.int t0, .int t1, .ref (A 27)]) := by
    intro ls l2 t0 t1 σ H locs hl hm hP hS
    unfold B_R_RangeTellerModel_pass_511 at hm
    obtain ⟨σ1, h2, hm⟩ := rt_b1s hm
    refine rt_zst hx hb hK hP hD hS 27 1 rfl (rtR_a27 cI cZ A _) rfl rfl h2 d_RangeTellerModel_pass_511 (fun H locs hP hS => ?_)
    refine lv_aload_n hx hb d_RangeTellerModel_pass_512 rfl (lv_at hl 0 rfl) ?_
    refine lv_aload_n hx hb d_RangeTellerModel_pass_513 rfl (lv_at hl 0 rfl) ?_
    refine va_get (D := D) (v := .int (σ1 0 58)) (C := "RangeTellerModel") (T := rt_T6) (N := 69) hx hb hts rt_i6 hown hK hP 0 rfl rfl 58 (by decide) (hts _ (rt_m rt_w905)) (fun _ h9 => h9) rfl d_RangeTellerModel_pass_514 ?_
    refine lv_if_ne (tgt := 524) hx hb d_RangeTellerModel_pass_517 (by decide) (fun hc => ?_) (fun hc => ?_)
    · have hm := (if_neg hc).symm.trans hm
      refine lv_iconst (v := 1) hx hb d_RangeTellerModel_pass_524 (by decide) ?_
      refine lv_goto (tgt := 529) hx hb d_RangeTellerModel_pass_525 (by decide) ?_
      obtain ⟨σ3, h4, hm⟩ := rt_b1s hm
      refine rt_pf (D := D) (C := "RangeTellerModel") (T := rt_T6) (N := 69) (ty := .boolean) hx hb hts rt_i6 rt_y6 rt_o6 rt_n6 hown hK hP hD hS 0 rfl rfl 58 (by decide) (hts _ (rt_m rt_w905)) (fun _ h9 => h9) rfl (by decide +kernel) rfl rfl (Nat.le_of_ble_eq_true rfl) (rtR_s0_58 cI cZ A _ _) h4 d_RangeTellerModel_pass_529 (fun H locs hP hS => ?_)
      exact W.vret hx hb hr (fun t ht hW => ⟨⟨_, rfl, Option.some.inj hm, rt_end rtR_Xo hK hP hS hX ht hW⟩, hS.F ht⟩) hS.2.2 d_RangeTellerModel_pass_532
    · have hm := (if_pos hc).symm.trans hm
      refine lv_iload_n hx hb d_RangeTellerModel_pass_520 rfl (lv_at hl 1 rfl) ?_
      refine lv_if_eq (tgt := 528) hx hb d_RangeTellerModel_pass_521 (by decide) (fun hc => ?_) (fun hc => ?_)
      · have hm := (if_pos hc).symm.trans hm
        refine lv_iconst (v := 0) hx hb d_RangeTellerModel_pass_528 (by decide) ?_
        obtain ⟨σ5, h6, hm⟩ := rt_b1s hm
        refine rt_pf (D := D) (C := "RangeTellerModel") (T := rt_T6) (N := 69) (ty := .boolean) hx hb hts rt_i6 rt_y6 rt_o6 rt_n6 hown hK hP hD hS 0 rfl rfl 58 (by decide) (hts _ (rt_m rt_w905)) (fun _ h9 => h9) rfl (by decide +kernel) rfl rfl (Nat.le_of_ble_eq_true rfl) (rtR_s0_58 cI cZ A _ _) h6 d_RangeTellerModel_pass_529 (fun H locs hP hS => ?_)
        exact W.vret hx hb hr (fun t ht hW => ⟨⟨_, rfl, Option.some.inj hm, rt_end rtR_Xo hK hP hS hX ht hW⟩, hS.F ht⟩) hS.2.2 d_RangeTellerModel_pass_532
      · have hm := (if_neg hc).symm.trans hm
        refine lv_iconst (v := 1) hx hb d_RangeTellerModel_pass_524 (by decide) ?_
        refine lv_goto (tgt := 529) hx hb d_RangeTellerModel_pass_525 (by decide) ?_
        obtain ⟨σ7, h8, hm⟩ := rt_b1s hm
        refine rt_pf (D := D) (C := "RangeTellerModel") (T := rt_T6) (N := 69) (ty := .boolean) hx hb hts rt_i6 rt_y6 rt_o6 rt_n6 hown hK hP hD hS 0 rfl rfl 58 (by decide) (hts _ (rt_m rt_w905)) (fun _ h9 => h9) rfl (by decide +kernel) rfl rfl (Nat.le_of_ble_eq_true rfl) (rtR_s0_58 cI cZ A _ _) h8 d_RangeTellerModel_pass_529 (fun H locs hP hS => ?_)
        exact W.vret hx hb hr (fun t ht hW => ⟨⟨_, rfl, Option.some.inj hm, rt_end rtR_Xo hK hP hS hX ht hW⟩, hS.F ht⟩) hS.2.2 d_RangeTellerModel_pass_532
  have hB506 : ∀ (ls : Array Slot) (l2 t0 : Int32) (σ : rt_St) (H : Heap) (locs : List Loc), lv_has ls 6 [(0, .ref (A 0)), (2, .int l2)] → B_R_RangeTellerModel_pass_506 l2 t0 σ = some σ' → va_P D rt_cl (rtR_W cI cZ A σ) H → va_S (rt_A (rtR_W cI cZ A) s.heap.size) s.heap H locs → W p l e ({ frames := 0, cells := 0, slots := 0, locals := 0 } : Room) s m ([.ref (A 0), .int a1] : List Value).toArray below meth c H locs 0 0 (rt_Qv D rt_cl (rt_t cI cZ) rtR_X (rtR_W cI cZ A) below ([.ref (A 0), .int a1] : List Value).toArray s σ') (F0 m 506 ls [.int t0, .ref (A 27)]) := by
    intro ls l2 t0 σ H locs hl hm hP hS
    unfold B_R_RangeTellerModel_pass_506 at hm
    refine lv_iconst (v := 1) hx hb d_RangeTellerModel_pass_506 (by decide) ?_
    refine lv_goto (tgt := 511) hx hb d_RangeTellerModel_pass_507 (by decide) ?_
    exact hB511 ls l2 1 t0 σ _ _ (lv_sub hl [0, 1] rfl) hm hP hS
  have hB255 : ∀ (n255 : Nat) (ls : Array Slot) (l1 l2 l4 : Int32) (σ : rt_St) (H : Heap) (locs : List Loc), lv_has ls 6 [(0, .ref (A 0)), (1, .int l1), (2, .int l2), (4, .int l4)] → B_R_RangeTellerModel_pass_255 n255 l1 l2 l4 σ = some σ' → va_P D rt_cl (rtR_W cI cZ A σ) H → va_S (rt_A (rtR_W cI cZ A) s.heap.size) s.heap H locs → W p l e ({ frames := 0, cells := 0, slots := 0, locals := 0 } : Room) s m ([.ref (A 0), .int a1] : List Value).toArray below meth c H locs 0 0 (rt_Qv D rt_cl (rt_t cI cZ) rtR_X (rtR_W cI cZ A) below ([.ref (A 0), .int a1] : List Value).toArray s σ') (F0 m 255 ls []) := by
    intro n255
    induction n255 with
    | zero => intro ls l1 l2 l4 σ H locs hl hm hP hS; rw [B_R_RangeTellerModel_pass_255] at hm; cases hm
    | succ n255 ih255 =>
      have hB474 : ∀ (ls : Array Slot) (l1 l2 l4 t0 t1 : Int32) (σ : rt_St) (H : Heap) (locs : List Loc), lv_has ls 6 [(0, .ref (A 0)), (1, .int l1), (2, .int l2), (4, .int l4)] → B_R_RangeTellerModel_pass_474 (B_R_RangeTellerModel_pass_255 n255) l1 l2 l4 t0 t1 σ = some σ' → va_P D rt_cl (rtR_W cI cZ A σ) H → va_S (rt_A (rtR_W cI cZ A) s.heap.size) s.heap H locs → W p l e ({ frames := 0, cells := 0, slots := 0, locals := 0 } : Room) s m ([.ref (A 0), .int a1] : List Value).toArray below meth c H locs 0 0 (rt_Qv D rt_cl (rt_t cI cZ) rtR_X (rtR_W cI cZ A) below ([.ref (A 0), .int a1] : List Value).toArray s σ') (F0 m 474 ls [.int t0, .int t1, .ref (A 33)]) := by
        intro ls l1 l2 l4 t0 t1 σ H locs hl hm hP hS
        unfold B_R_RangeTellerModel_pass_474 at hm
        obtain ⟨σ9, h10, hm⟩ := rt_b1s hm
        refine rt_zst hx hb hK hP hD hS 33 1 rfl (rtR_a33 cI cZ A _) rfl rfl h10 d_RangeTellerModel_pass_474 (fun H locs hP hS => ?_)
        refine lv_iinc (k := 3) (v := (l4 + 1)) hx hb d_RangeTellerModel_pass_475 hl rfl rfl (by decide) rfl (fun ls hl => ?_)
        have hl : lv_has ls 6 [(4, .int (l4 + 1)), (0, .ref (A 0)), (1, .int l1), (2, .int l2)] := hl
        refine lv_goto (tgt := 255) hx hb d_RangeTellerModel_pass_478 (by decide) ?_
        exact ih255 ls l1 l2 (l4 + 1) σ9 _ _ (lv_sub hl [1, 2, 3, 0] rfl) hm hP hS
      have hB469 : ∀ (ls : Array Slot) (l1 l2 l4 t0 : Int32) (σ : rt_St) (H : Heap) (locs : List Loc), lv_has ls 6 [(0, .ref (A 0)), (1, .int l1), (2, .int l2), (4, .int l4)] → B_R_RangeTellerModel_pass_469 (B_R_RangeTellerModel_pass_255 n255) l1 l2 l4 t0 σ = some σ' → va_P D rt_cl (rtR_W cI cZ A σ) H → va_S (rt_A (rtR_W cI cZ A) s.heap.size) s.heap H locs → W p l e ({ frames := 0, cells := 0, slots := 0, locals := 0 } : Room) s m ([.ref (A 0), .int a1] : List Value).toArray below meth c H locs 0 0 (rt_Qv D rt_cl (rt_t cI cZ) rtR_X (rtR_W cI cZ A) below ([.ref (A 0), .int a1] : List Value).toArray s σ') (F0 m 469 ls [.int t0, .ref (A 33)]) := by
        intro ls l1 l2 l4 t0 σ H locs hl hm hP hS
        unfold B_R_RangeTellerModel_pass_469 at hm
        refine lv_iconst (v := 1) hx hb d_RangeTellerModel_pass_469 (by decide) ?_
        refine lv_goto (tgt := 474) hx hb d_RangeTellerModel_pass_470 (by decide) ?_
        exact hB474 ls l1 l2 l4 1 t0 σ _ _ (lv_sub hl [0, 1, 2, 3] rfl) hm hP hS
      have hB459 : ∀ (ls : Array Slot) (l1 l2 l4 t0 : Int32) (σ : rt_St) (H : Heap) (locs : List Loc), lv_has ls 6 [(0, .ref (A 0)), (1, .int l1), (2, .int l2), (4, .int l4)] → B_R_RangeTellerModel_pass_459 (B_R_RangeTellerModel_pass_255 n255) l1 l2 l4 t0 σ = some σ' → va_P D rt_cl (rtR_W cI cZ A σ) H → va_S (rt_A (rtR_W cI cZ A) s.heap.size) s.heap H locs → W p l e ({ frames := 0, cells := 0, slots := 0, locals := 0 } : Room) s m ([.ref (A 0), .int a1] : List Value).toArray below meth c H locs 0 0 (rt_Qv D rt_cl (rt_t cI cZ) rtR_X (rtR_W cI cZ A) below ([.ref (A 0), .int a1] : List Value).toArray s σ') (F0 m 459 ls [.int t0, .ref (A 33)]) := by
        intro ls l1 l2 l4 t0 σ H locs hl hm hP hS
        unfold B_R_RangeTellerModel_pass_459 at hm
        refine lv_aload_n hx hb d_RangeTellerModel_pass_459 rfl (lv_at hl 0 rfl) ?_
        refine va_get (D := D) (v := .ref (A 46)) (C := "RangeTellerModel") (T := rt_T6) (N := 69) hx hb hts rt_i6 hown hK hP 0 rfl rfl 65 (by decide) (hts _ (rt_m rt_w912)) (fun _ h9 => h9) rfl d_RangeTellerModel_pass_460 ?_
        refine lv_iload hx hb d_RangeTellerModel_pass_463 (lv_at hl 3 rfl) ?_
        obtain ⟨v11, h12, hm⟩ := rt_b1s hm
        refine rt_zld hx hb hK hP 46 1 rfl rfl h12 d_RangeTellerModel_pass_465 ?_
        refine lv_if_eq (tgt := 473) hx hb d_RangeTellerModel_pass_466 (by decide) (fun hc => ?_) (fun hc => ?_)
        · have hm := (if_pos hc).symm.trans hm
          refine lv_iconst (v := 0) hx hb d_RangeTellerModel_pass_473 (by decide) ?_
          exact hB474 ls l1 l2 l4 0 t0 σ _ _ (lv_sub hl [0, 1, 2, 3] rfl) hm hP hS
        · have hm := (if_neg hc).symm.trans hm
          exact hB469 ls l1 l2 l4 t0 σ _ _ (lv_sub hl [0, 1, 2, 3] rfl) hm hP hS
      have hB433 : ∀ (ls : Array Slot) (l1 l2 l4 l5 t0 t1 : Int32) (σ : rt_St) (H : Heap) (locs : List Loc), lv_has ls 6 [(0, .ref (A 0)), (1, .int l1), (2, .int l2), (4, .int l4), (5, .int l5)] → B_R_RangeTellerModel_pass_433 (B_R_RangeTellerModel_pass_255 n255) l1 l2 l4 l5 t0 t1 σ = some σ' → va_P D rt_cl (rtR_W cI cZ A σ) H → va_S (rt_A (rtR_W cI cZ A) s.heap.size) s.heap H locs → W p l e ({ frames := 0, cells := 0, slots := 0, locals := 0 } : Room) s m ([.ref (A 0), .int a1] : List Value).toArray below meth c H locs 0 0 (rt_Qv D rt_cl (rt_t cI cZ) rtR_X (rtR_W cI cZ A) below ([.ref (A 0), .int a1] : List Value).toArray s σ') (F0 m 433 ls [.int t0, .int t1, .ref (A 32)]) := by
        intro ls l1 l2 l4 l5 t0 t1 σ H locs hl hm hP hS
        unfold B_R_RangeTellerModel_pass_433 at hm
        obtain ⟨σ13, h14, hm⟩ := rt_b1s hm
        refine rt_ast hx hb hK hP hD hS 32 0 rfl (rtR_a32 cI cZ A _) rfl h14 d_RangeTellerModel_pass_433 (fun H locs hP hS => ?_)
        refine lv_aload_n hx hb d_RangeTellerModel_pass_434 rfl (lv_at hl 0 rfl) ?_
        refine va_get (D := D) (v := .ref (A 33)) (C := "RangeTellerModel") (T := rt_T6) (N := 69) hx hb hts rt_i6 hown hK hP 0 rfl rfl 50 (by decide) (hts _ (rt_m rt_w897)) (fun _ h9 => h9) rfl d_RangeTellerModel_pass_435 ?_
        refine lv_iload hx hb d_RangeTellerModel_pass_438 (lv_at hl 4 rfl) ?_
        refine lv_aload_n hx hb d_RangeTellerModel_pass_440 rfl (lv_at hl 0 rfl) ?_
        refine va_get (D := D) (v := .ref (A 26)) (C := "RangeTellerModel") (T := rt_T6) (N := 69) hx hb hts rt_i6 hown hK hP 0 rfl rfl 43 (by decide) (hts _ (rt_m rt_w890)) (fun _ h9 => h9) rfl d_RangeTellerModel_pass_441 ?_
        refine lv_iload_n hx hb d_RangeTellerModel_pass_444 rfl (lv_at hl 1 rfl) ?_
        obtain ⟨v15, h16, hm⟩ := rt_b1s hm
        refine rt_zld hx hb hK hP 26 1 rfl rfl h16 d_RangeTellerModel_pass_445 ?_
        refine lv_if_eq (tgt := 459) hx hb d_RangeTellerModel_pass_446 (by decide) (fun hc => ?_) (fun hc => ?_)
        · have hm := (if_pos hc).symm.trans hm
          exact hB459 ls l1 l2 l4 l5 σ13 _ _ (lv_sub hl [0, 1, 2, 3] rfl) hm hP hS
        · have hm := (if_neg hc).symm.trans hm
          refine lv_aload_n hx hb d_RangeTellerModel_pass_449 rfl (lv_at hl 0 rfl) ?_
          refine va_get (D := D) (v := .ref (A 33)) (C := "RangeTellerModel") (T := rt_T6) (N := 69) hx hb hts rt_i6 hown hK hP 0 rfl rfl 50 (by decide) (hts _ (rt_m rt_w897)) (fun _ h9 => h9) rfl d_RangeTellerModel_pass_450 ?_
          refine lv_iload hx hb d_RangeTellerModel_pass_453 (lv_at hl 4 rfl) ?_
          obtain ⟨v17, h18, hm⟩ := rt_b1s hm
          refine rt_zld hx hb hK hP 33 1 rfl rfl h18 d_RangeTellerModel_pass_455 ?_
          refine lv_if_ne (tgt := 469) hx hb d_RangeTellerModel_pass_456 (by decide) (fun hc => ?_) (fun hc => ?_)
          · have hm := (if_neg hc).symm.trans hm
            exact hB469 ls l1 l2 l4 l5 σ13 _ _ (lv_sub hl [0, 1, 2, 3] rfl) hm hP hS
          · have hm := (if_pos hc).symm.trans hm
            exact hB459 ls l1 l2 l4 l5 σ13 _ _ (lv_sub hl [0, 1, 2, 3] rfl) hm hP hS
      have hB426 : ∀ (ls : Array Slot) (l1 l2 l4 l5 t0 : Int32) (σ : rt_St) (H : Heap) (locs : List Loc), lv_has ls 6 [(0, .ref (A 0)), (1, .int l1), (2, .int l2), (4, .int l4), (5, .int l5)] → B_R_RangeTellerModel_pass_426 (B_R_RangeTellerModel_pass_255 n255) l1 l2 l4 l5 t0 σ = some σ' → va_P D rt_cl (rtR_W cI cZ A σ) H → va_S (rt_A (rtR_W cI cZ A) s.heap.size) s.heap H locs → W p l e ({ frames := 0, cells := 0, slots := 0, locals := 0 } : Room) s m ([.ref (A 0), .int a1] : List Value).toArray below meth c H locs 0 0 (rt_Qv D rt_cl (rt_t cI cZ) rtR_X (rtR_W cI cZ A) below ([.ref (A 0), .int a1] : List Value).toArray s σ') (F0 m 426 ls [.int t0, .ref (A 32)]) := by
        intro ls l1 l2 l4 l5 t0 σ H locs hl hm hP hS
        unfold B_R_RangeTellerModel_pass_426 at hm
        refine lv_aload_n hx hb d_RangeTellerModel_pass_426 rfl (lv_at hl 0 rfl) ?_
        refine va_get (D := D) (v := .ref (A 45)) (C := "RangeTellerModel") (T := rt_T6) (N := 69) hx hb hts rt_i6 hown hK hP 0 rfl rfl 64 (by decide) (hts _ (rt_m rt_w911)) (fun _ h9 => h9) rfl d_RangeTellerModel_pass_427 ?_
        refine lv_iload hx hb d_RangeTellerModel_pass_430 (lv_at hl 3 rfl) ?_
        obtain ⟨v19, h20, hm⟩ := rt_b1s hm
        refine rt_ald hx hb hK hP 45 0 rfl rfl h20 d_RangeTellerModel_pass_432 ?_
        exact hB433 ls l1 l2 l4 l5 v19 t0 σ _ _ (lv_sub hl [0, 1, 2, 3, 4] rfl) hm hP hS
      have hB383 : ∀ (ls : Array Slot) (l1 l2 l4 l5 t0 t1 : Int32) (σ : rt_St) (H : Heap) (locs : List Loc), lv_has ls 6 [(0, .ref (A 0)), (1, .int l1), (2, .int l2), (4, .int l4), (5, .int l5)] → B_R_RangeTellerModel_pass_383 (B_R_RangeTellerModel_pass_255 n255) l1 l2 l4 l5 t0 t1 σ = some σ' → va_P D rt_cl (rtR_W cI cZ A σ) H → va_S (rt_A (rtR_W cI cZ A) s.heap.size) s.heap H locs → W p l e ({ frames := 0, cells := 0, slots := 0, locals := 0 } : Room) s m ([.ref (A 0), .int a1] : List Value).toArray below meth c H locs 0 0 (rt_Qv D rt_cl (rt_t cI cZ) rtR_X (rtR_W cI cZ A) below ([.ref (A 0), .int a1] : List Value).toArray s σ') (F0 m 383 ls [.int t0, .int t1, .ref (A 31)]) := by
        intro ls l1 l2 l4 l5 t0 t1 σ H locs hl hm hP hS
        unfold B_R_RangeTellerModel_pass_383 at hm
        obtain ⟨σ21, h22, hm⟩ := rt_b1s hm
        refine rt_ast hx hb hK hP hD hS 31 0 rfl (rtR_a31 cI cZ A _) rfl h22 d_RangeTellerModel_pass_383 (fun H locs hP hS => ?_)
        refine lv_aload_n hx hb d_RangeTellerModel_pass_384 rfl (lv_at hl 0 rfl) ?_
        refine va_get (D := D) (v := .ref (A 32)) (C := "RangeTellerModel") (T := rt_T6) (N := 69) hx hb hts rt_i6 hown hK hP 0 rfl rfl 49 (by decide) (hts _ (rt_m rt_w896)) (fun _ h9 => h9) rfl d_RangeTellerModel_pass_385 ?_
        refine lv_iload hx hb d_RangeTellerModel_pass_388 (lv_at hl 4 rfl) ?_
        refine lv_aload_n hx hb d_RangeTellerModel_pass_390 rfl (lv_at hl 0 rfl) ?_
        refine va_get (D := D) (v := .ref (A 26)) (C := "RangeTellerModel") (T := rt_T6) (N := 69) hx hb hts rt_i6 hown hK hP 0 rfl rfl 43 (by decide) (hts _ (rt_m rt_w890)) (fun _ h9 => h9) rfl d_RangeTellerModel_pass_391 ?_
        refine lv_iload_n hx hb d_RangeTellerModel_pass_394 rfl (lv_at hl 1 rfl) ?_
        obtain ⟨v23, h24, hm⟩ := rt_b1s hm
        refine rt_zld hx hb hK hP 26 1 rfl rfl h24 d_RangeTellerModel_pass_395 ?_
        refine lv_if_eq (tgt := 426) hx hb d_RangeTellerModel_pass_396 (by decide) (fun hc => ?_) (fun hc => ?_)
        · have hm := (if_pos hc).symm.trans hm
          exact hB426 ls l1 l2 l4 l5 l5 σ21 _ _ (lv_sub hl [0, 1, 2, 3, 4] rfl) hm hP hS
        · have hm := (if_neg hc).symm.trans hm
          refine lv_aload_n hx hb d_RangeTellerModel_pass_399 rfl (lv_at hl 0 rfl) ?_
          refine va_get (D := D) (v := .ref (A 32)) (C := "RangeTellerModel") (T := rt_T6) (N := 69) hx hb hts rt_i6 hown hK hP 0 rfl rfl 49 (by decide) (hts _ (rt_m rt_w896)) (fun _ h9 => h9) rfl d_RangeTellerModel_pass_400 ?_
          refine lv_iload hx hb d_RangeTellerModel_pass_403 (lv_at hl 4 rfl) ?_
          obtain ⟨v25, h26, hm⟩ := rt_b1s hm
          refine rt_ald hx hb hK hP 32 0 rfl rfl h26 d_RangeTellerModel_pass_405 ?_
          refine lv_aload_n hx hb d_RangeTellerModel_pass_406 rfl (lv_at hl 0 rfl) ?_
          refine va_get (D := D) (v := .ref (A 45)) (C := "RangeTellerModel") (T := rt_T6) (N := 69) hx hb hts rt_i6 hown hK hP 0 rfl rfl 64 (by decide) (hts _ (rt_m rt_w911)) (fun _ h9 => h9) rfl d_RangeTellerModel_pass_407 ?_
          refine lv_iload hx hb d_RangeTellerModel_pass_410 (lv_at hl 3 rfl) ?_
          obtain ⟨v27, h28, hm⟩ := rt_b1s hm
          refine rt_ald hx hb hK hP 45 0 rfl rfl h28 d_RangeTellerModel_pass_412 ?_
          refine lv_icmp_le (tgt := 426) hx hb d_RangeTellerModel_pass_413 (by decide) (fun hc => ?_) (fun hc => ?_)
          · have hm := (if_pos hc).symm.trans hm
            exact hB426 ls l1 l2 l4 l5 l5 σ21 _ _ (lv_sub hl [0, 1, 2, 3, 4] rfl) hm hP hS
          · have hm := (if_neg hc).symm.trans hm
            refine lv_aload_n hx hb d_RangeTellerModel_pass_416 rfl (lv_at hl 0 rfl) ?_
            refine va_get (D := D) (v := .ref (A 32)) (C := "RangeTellerModel") (T := rt_T6) (N := 69) hx hb hts rt_i6 hown hK hP 0 rfl rfl 49 (by decide) (hts _ (rt_m rt_w896)) (fun _ h9 => h9) rfl d_RangeTellerModel_pass_417 ?_
            refine lv_iload hx hb d_RangeTellerModel_pass_420 (lv_at hl 4 rfl) ?_
            obtain ⟨v29, h30, hm⟩ := rt_b1s hm
            refine rt_ald hx hb hK hP 32 0 rfl rfl h30 d_RangeTellerModel_pass_422 ?_
            refine lv_goto (tgt := 433) hx hb d_RangeTellerModel_pass_423 (by decide) ?_
            exact hB433 ls l1 l2 l4 l5 v29 l5 σ21 _ _ (lv_sub hl [0, 1, 2, 3, 4] rfl) hm hP hS
      have hB376 : ∀ (ls : Array Slot) (l1 l2 l4 l5 t0 : Int32) (σ : rt_St) (H : Heap) (locs : List Loc), lv_has ls 6 [(0, .ref (A 0)), (1, .int l1), (2, .int l2), (4, .int l4), (5, .int l5)] → B_R_RangeTellerModel_pass_376 (B_R_RangeTellerModel_pass_255 n255) l1 l2 l4 l5 t0 σ = some σ' → va_P D rt_cl (rtR_W cI cZ A σ) H → va_S (rt_A (rtR_W cI cZ A) s.heap.size) s.heap H locs → W p l e ({ frames := 0, cells := 0, slots := 0, locals := 0 } : Room) s m ([.ref (A 0), .int a1] : List Value).toArray below meth c H locs 0 0 (rt_Qv D rt_cl (rt_t cI cZ) rtR_X (rtR_W cI cZ A) below ([.ref (A 0), .int a1] : List Value).toArray s σ') (F0 m 376 ls [.int t0, .ref (A 31)]) := by
        intro ls l1 l2 l4 l5 t0 σ H locs hl hm hP hS
        unfold B_R_RangeTellerModel_pass_376 at hm
        refine lv_aload_n hx hb d_RangeTellerModel_pass_376 rfl (lv_at hl 0 rfl) ?_
        refine va_get (D := D) (v := .ref (A 44)) (C := "RangeTellerModel") (T := rt_T6) (N := 69) hx hb hts rt_i6 hown hK hP 0 rfl rfl 63 (by decide) (hts _ (rt_m rt_w910)) (fun _ h9 => h9) rfl d_RangeTellerModel_pass_377 ?_
        refine lv_iload hx hb d_RangeTellerModel_pass_380 (lv_at hl 3 rfl) ?_
        obtain ⟨v31, h32, hm⟩ := rt_b1s hm
        refine rt_ald hx hb hK hP 44 0 rfl rfl h32 d_RangeTellerModel_pass_382 ?_
        exact hB383 ls l1 l2 l4 l5 v31 t0 σ _ _ (lv_sub hl [0, 1, 2, 3, 4] rfl) hm hP hS
      have hB334 : ∀ (ls : Array Slot) (l1 l2 l4 l5 : Int32) (σ : rt_St) (H : Heap) (locs : List Loc), lv_has ls 6 [(0, .ref (A 0)), (1, .int l1), (2, .int l2), (4, .int l4), (5, .int l5)] → B_R_RangeTellerModel_pass_334 (B_R_RangeTellerModel_pass_255 n255) l1 l2 l4 l5 σ = some σ' → va_P D rt_cl (rtR_W cI cZ A σ) H → va_S (rt_A (rtR_W cI cZ A) s.heap.size) s.heap H locs → W p l e ({ frames := 0, cells := 0, slots := 0, locals := 0 } : Room) s m ([.ref (A 0), .int a1] : List Value).toArray below meth c H locs 0 0 (rt_Qv D rt_cl (rt_t cI cZ) rtR_X (rtR_W cI cZ A) below ([.ref (A 0), .int a1] : List Value).toArray s σ') (F0 m 334 ls []) := by
        intro ls l1 l2 l4 l5 σ H locs hl hm hP hS
        unfold B_R_RangeTellerModel_pass_334 at hm
        refine lv_aload_n hx hb d_RangeTellerModel_pass_334 rfl (lv_at hl 0 rfl) ?_
        refine va_get (D := D) (v := .ref (A 31)) (C := "RangeTellerModel") (T := rt_T6) (N := 69) hx hb hts rt_i6 hown hK hP 0 rfl rfl 48 (by decide) (hts _ (rt_m rt_w895)) (fun _ h9 => h9) rfl d_RangeTellerModel_pass_335 ?_
        refine lv_iload hx hb d_RangeTellerModel_pass_338 (lv_at hl 4 rfl) ?_
        refine lv_aload_n hx hb d_RangeTellerModel_pass_340 rfl (lv_at hl 0 rfl) ?_
        refine va_get (D := D) (v := .ref (A 26)) (C := "RangeTellerModel") (T := rt_T6) (N := 69) hx hb hts rt_i6 hown hK hP 0 rfl rfl 43 (by decide) (hts _ (rt_m rt_w890)) (fun _ h9 => h9) rfl d_RangeTellerModel_pass_341 ?_
        refine lv_iload_n hx hb d_RangeTellerModel_pass_344 rfl (lv_at hl 1 rfl) ?_
        obtain ⟨v33, h34, hm⟩ := rt_b1s hm
        refine rt_zld hx hb hK hP 26 1 rfl rfl h34 d_RangeTellerModel_pass_345 ?_
        refine lv_if_eq (tgt := 376) hx hb d_RangeTellerModel_pass_346 (by decide) (fun hc => ?_) (fun hc => ?_)
        · have hm := (if_pos hc).symm.trans hm
          exact hB376 ls l1 l2 l4 l5 l5 σ _ _ (lv_sub hl [0, 1, 2, 3, 4] rfl) hm hP hS
        · have hm := (if_neg hc).symm.trans hm
          refine lv_aload_n hx hb d_RangeTellerModel_pass_349 rfl (lv_at hl 0 rfl) ?_
          refine va_get (D := D) (v := .ref (A 31)) (C := "RangeTellerModel") (T := rt_T6) (N := 69) hx hb hts rt_i6 hown hK hP 0 rfl rfl 48 (by decide) (hts _ (rt_m rt_w895)) (fun _ h9 => h9) rfl d_RangeTellerModel_pass_350 ?_
          refine lv_iload hx hb d_RangeTellerModel_pass_353 (lv_at hl 4 rfl) ?_
          obtain ⟨v35, h36, hm⟩ := rt_b1s hm
          refine rt_ald hx hb hK hP 31 0 rfl rfl h36 d_RangeTellerModel_pass_355 ?_
          refine lv_aload_n hx hb d_RangeTellerModel_pass_356 rfl (lv_at hl 0 rfl) ?_
          refine va_get (D := D) (v := .ref (A 44)) (C := "RangeTellerModel") (T := rt_T6) (N := 69) hx hb hts rt_i6 hown hK hP 0 rfl rfl 63 (by decide) (hts _ (rt_m rt_w910)) (fun _ h9 => h9) rfl d_RangeTellerModel_pass_357 ?_
          refine lv_iload hx hb d_RangeTellerModel_pass_360 (lv_at hl 3 rfl) ?_
          obtain ⟨v37, h38, hm⟩ := rt_b1s hm
          refine rt_ald hx hb hK hP 44 0 rfl rfl h38 d_RangeTellerModel_pass_362 ?_
          refine lv_icmp_ge (tgt := 376) hx hb d_RangeTellerModel_pass_363 (by decide) (fun hc => ?_) (fun hc => ?_)
          · have hm := (if_pos hc).symm.trans hm
            exact hB376 ls l1 l2 l4 l5 l5 σ _ _ (lv_sub hl [0, 1, 2, 3, 4] rfl) hm hP hS
          · have hm := (if_neg hc).symm.trans hm
            refine lv_aload_n hx hb d_RangeTellerModel_pass_366 rfl (lv_at hl 0 rfl) ?_
            refine va_get (D := D) (v := .ref (A 31)) (C := "RangeTellerModel") (T := rt_T6) (N := 69) hx hb hts rt_i6 hown hK hP 0 rfl rfl 48 (by decide) (hts _ (rt_m rt_w895)) (fun _ h9 => h9) rfl d_RangeTellerModel_pass_367 ?_
            refine lv_iload hx hb d_RangeTellerModel_pass_370 (lv_at hl 4 rfl) ?_
            obtain ⟨v39, h40, hm⟩ := rt_b1s hm
            refine rt_ald hx hb hK hP 31 0 rfl rfl h40 d_RangeTellerModel_pass_372 ?_
            refine lv_goto (tgt := 383) hx hb d_RangeTellerModel_pass_373 (by decide) ?_
            exact hB383 ls l1 l2 l4 l5 v39 l5 σ _ _ (lv_sub hl [0, 1, 2, 3, 4] rfl) hm hP hS
      have hB332 : ∀ (ls : Array Slot) (l1 l4 l5 : Int32) (σ : rt_St) (H : Heap) (locs : List Loc), lv_has ls 6 [(0, .ref (A 0)), (1, .int l1), (4, .int l4), (5, .int l5)] → B_R_RangeTellerModel_pass_332 (B_R_RangeTellerModel_pass_255 n255) l1 l4 l5 σ = some σ' → va_P D rt_cl (rtR_W cI cZ A σ) H → va_S (rt_A (rtR_W cI cZ A) s.heap.size) s.heap H locs → W p l e ({ frames := 0, cells := 0, slots := 0, locals := 0 } : Room) s m ([.ref (A 0), .int a1] : List Value).toArray below meth c H locs 0 0 (rt_Qv D rt_cl (rt_t cI cZ) rtR_X (rtR_W cI cZ A) below ([.ref (A 0), .int a1] : List Value).toArray s σ') (F0 m 332 ls []) := by
        intro ls l1 l4 l5 σ H locs hl hm hP hS
        unfold B_R_RangeTellerModel_pass_332 at hm
        refine lv_iconst (v := 1) hx hb d_RangeTellerModel_pass_332 (by decide) ?_
        refine lv_istore_n hx hb d_RangeTellerModel_pass_333 rfl hl (by decide) rfl (fun ls hl => ?_)
        have hl : lv_has ls 6 [(2, .int 1), (0, .ref (A 0)), (1, .int l1), (4, .int l4), (5, .int l5)] := hl
        exact hB334 ls l1 1 l4 l5 σ _ _ (lv_sub hl [1, 2, 0, 3, 4] rfl) hm hP hS
      intro ls l1 l2 l4 σ H locs hl hm hP hS
      rw [B_R_RangeTellerModel_pass_255] at hm
      refine lv_iload hx hb d_RangeTellerModel_pass_255 (lv_at hl 3 rfl) ?_
      refine lv_iconst (v := 4) hx hb d_RangeTellerModel_pass_257 (by decide) ?_
      refine lv_icmp_ge (tgt := 481) hx hb d_RangeTellerModel_pass_258 (by decide) (fun hc => ?_) (fun hc => ?_)
      · have hm := (if_pos hc).symm.trans hm
        refine lv_aload_n hx hb d_RangeTellerModel_pass_481 rfl (lv_at hl 0 rfl) ?_
        refine va_get (D := D) (v := .ref (A 26)) (C := "RangeTellerModel") (T := rt_T6) (N := 69) hx hb hts rt_i6 hown hK hP 0 rfl rfl 43 (by decide) (hts _ (rt_m rt_w890)) (fun _ h9 => h9) rfl d_RangeTellerModel_pass_482 ?_
        refine lv_iload_n hx hb d_RangeTellerModel_pass_485 rfl (lv_at hl 1 rfl) ?_
        refine lv_iconst (v := 1) hx hb d_RangeTellerModel_pass_486 (by decide) ?_
        obtain ⟨σ41, h42, hm⟩ := rt_b1s hm
        refine rt_zst hx hb hK hP hD hS 26 1 rfl (rtR_a26 cI cZ A _) rfl rfl h42 d_RangeTellerModel_pass_487 (fun H locs hP hS => ?_)
        refine lv_aload_n hx hb d_RangeTellerModel_pass_488 rfl (lv_at hl 0 rfl) ?_
        refine va_get (D := D) (v := .ref (A 27)) (C := "RangeTellerModel") (T := rt_T6) (N := 69) hx hb hts rt_i6 hown hK hP 0 rfl rfl 44 (by decide) (hts _ (rt_m rt_w891)) (fun _ h9 => h9) rfl d_RangeTellerModel_pass_489 ?_
        refine lv_iload_n hx hb d_RangeTellerModel_pass_492 rfl (lv_at hl 1 rfl) ?_
        refine lv_aload_n hx hb d_RangeTellerModel_pass_493 rfl (lv_at hl 0 rfl) ?_
        refine va_get (D := D) (v := .ref (A 27)) (C := "RangeTellerModel") (T := rt_T6) (N := 69) hx hb hts rt_i6 hown hK hP 0 rfl rfl 44 (by decide) (hts _ (rt_m rt_w891)) (fun _ h9 => h9) rfl d_RangeTellerModel_pass_494 ?_
        refine lv_iload_n hx hb d_RangeTellerModel_pass_497 rfl (lv_at hl 1 rfl) ?_
        obtain ⟨v43, h44, hm⟩ := rt_b1s hm
        refine rt_zld hx hb hK hP 27 1 rfl rfl h44 d_RangeTellerModel_pass_498 ?_
        refine lv_if_ne (tgt := 506) hx hb d_RangeTellerModel_pass_499 (by decide) (fun hc => ?_) (fun hc => ?_)
        · have hm := (if_neg hc).symm.trans hm
          exact hB506 ls l2 l1 σ41 _ _ (lv_sub hl [0, 2] rfl) hm hP hS
        · have hm := (if_pos hc).symm.trans hm
          refine lv_iload_n hx hb d_RangeTellerModel_pass_502 rfl (lv_at hl 2 rfl) ?_
          refine lv_if_eq (tgt := 510) hx hb d_RangeTellerModel_pass_503 (by decide) (fun hc => ?_) (fun hc => ?_)
          · have hm := (if_pos hc).symm.trans hm
            refine lv_iconst (v := 0) hx hb d_RangeTellerModel_pass_510 (by decide) ?_
            exact hB511 ls l2 0 l1 σ41 _ _ (lv_sub hl [0, 2] rfl) hm hP hS
          · have hm := (if_neg hc).symm.trans hm
            exact hB506 ls l2 l1 σ41 _ _ (lv_sub hl [0, 2] rfl) hm hP hS
      · have hm := (if_neg hc).symm.trans hm
        refine lv_iconst (v := 4) hx hb d_RangeTellerModel_pass_261 (by decide) ?_
        refine lv_iload_n hx hb d_RangeTellerModel_pass_262 rfl (lv_at hl 1 rfl) ?_
        refine lv_imul hx hb d_RangeTellerModel_pass_263 ?_
        refine lv_iload hx hb d_RangeTellerModel_pass_264 (lv_at hl 3 rfl) ?_
        refine lv_iadd hx hb d_RangeTellerModel_pass_266 ?_
        refine lv_istore hx hb d_RangeTellerModel_pass_267 hl (by decide) rfl (fun ls hl => ?_)
        have hl : lv_has ls 6 [(5, .int ((4 * l1) + l4)), (0, .ref (A 0)), (1, .int l1), (2, .int l2), (4, .int l4)] := hl
        refine lv_aload_n hx hb d_RangeTellerModel_pass_269 rfl (lv_at hl 1 rfl) ?_
        refine va_get (D := D) (v := .ref (A 26)) (C := "RangeTellerModel") (T := rt_T6) (N := 69) hx hb hts rt_i6 hown hK hP 0 rfl rfl 43 (by decide) (hts _ (rt_m rt_w890)) (fun _ h9 => h9) rfl d_RangeTellerModel_pass_270 ?_
        refine lv_iload_n hx hb d_RangeTellerModel_pass_273 rfl (lv_at hl 2 rfl) ?_
        obtain ⟨v45, h46, hm⟩ := rt_b1s hm
        refine rt_zld hx hb hK hP 26 1 rfl rfl h46 d_RangeTellerModel_pass_274 ?_
        refine lv_if_eq (tgt := 332) hx hb d_RangeTellerModel_pass_275 (by decide) (fun hc => ?_) (fun hc => ?_)
        · have hm := (if_pos hc).symm.trans hm
          exact hB332 ls l1 l4 ((4 * l1) + l4) σ _ _ (lv_sub hl [1, 2, 4, 0] rfl) hm hP hS
        · have hm := (if_neg hc).symm.trans hm
          refine lv_aload_n hx hb d_RangeTellerModel_pass_278 rfl (lv_at hl 1 rfl) ?_
          refine va_get (D := D) (v := .ref (A 44)) (C := "RangeTellerModel") (T := rt_T6) (N := 69) hx hb hts rt_i6 hown hK hP 0 rfl rfl 63 (by decide) (hts _ (rt_m rt_w910)) (fun _ h9 => h9) rfl d_RangeTellerModel_pass_279 ?_
          refine lv_iload hx hb d_RangeTellerModel_pass_282 (lv_at hl 4 rfl) ?_
          obtain ⟨v47, h48, hm⟩ := rt_b1s hm
          refine rt_ald hx hb hK hP 44 0 rfl rfl h48 d_RangeTellerModel_pass_284 ?_
          refine lv_aload_n hx hb d_RangeTellerModel_pass_285 rfl (lv_at hl 1 rfl) ?_
          refine va_get (D := D) (v := .ref (A 31)) (C := "RangeTellerModel") (T := rt_T6) (N := 69) hx hb hts rt_i6 hown hK hP 0 rfl rfl 48 (by decide) (hts _ (rt_m rt_w895)) (fun _ h9 => h9) rfl d_RangeTellerModel_pass_286 ?_
          refine lv_iload hx hb d_RangeTellerModel_pass_289 (lv_at hl 0 rfl) ?_
          obtain ⟨v49, h50, hm⟩ := rt_b1s hm
          refine rt_ald hx hb hK hP 31 0 rfl rfl h50 d_RangeTellerModel_pass_291 ?_
          refine lv_icmp_lt (tgt := 332) hx hb d_RangeTellerModel_pass_292 (by decide) (fun hc => ?_) (fun hc => ?_)
          · have hm := (if_pos hc).symm.trans hm
            exact hB332 ls l1 l4 ((4 * l1) + l4) σ _ _ (lv_sub hl [1, 2, 4, 0] rfl) hm hP hS
          · have hm := (if_neg hc).symm.trans hm
            refine lv_aload_n hx hb d_RangeTellerModel_pass_295 rfl (lv_at hl 1 rfl) ?_
            refine va_get (D := D) (v := .ref (A 45)) (C := "RangeTellerModel") (T := rt_T6) (N := 69) hx hb hts rt_i6 hown hK hP 0 rfl rfl 64 (by decide) (hts _ (rt_m rt_w911)) (fun _ h9 => h9) rfl d_RangeTellerModel_pass_296 ?_
            refine lv_iload hx hb d_RangeTellerModel_pass_299 (lv_at hl 4 rfl) ?_
            obtain ⟨v51, h52, hm⟩ := rt_b1s hm
            refine rt_ald hx hb hK hP 45 0 rfl rfl h52 d_RangeTellerModel_pass_301 ?_
            refine lv_aload_n hx hb d_RangeTellerModel_pass_302 rfl (lv_at hl 1 rfl) ?_
            refine va_get (D := D) (v := .ref (A 32)) (C := "RangeTellerModel") (T := rt_T6) (N := 69) hx hb hts rt_i6 hown hK hP 0 rfl rfl 49 (by decide) (hts _ (rt_m rt_w896)) (fun _ h9 => h9) rfl d_RangeTellerModel_pass_303 ?_
            refine lv_iload hx hb d_RangeTellerModel_pass_306 (lv_at hl 0 rfl) ?_
            obtain ⟨v53, h54, hm⟩ := rt_b1s hm
            refine rt_ald hx hb hK hP 32 0 rfl rfl h54 d_RangeTellerModel_pass_308 ?_
            refine lv_icmp_gt (tgt := 332) hx hb d_RangeTellerModel_pass_309 (by decide) (fun hc => ?_) (fun hc => ?_)
            · have hm := (if_pos hc).symm.trans hm
              exact hB332 ls l1 l4 ((4 * l1) + l4) σ _ _ (lv_sub hl [1, 2, 4, 0] rfl) hm hP hS
            · have hm := (if_neg hc).symm.trans hm
              refine lv_aload_n hx hb d_RangeTellerModel_pass_312 rfl (lv_at hl 1 rfl) ?_
              refine va_get (D := D) (v := .ref (A 46)) (C := "RangeTellerModel") (T := rt_T6) (N := 69) hx hb hts rt_i6 hown hK hP 0 rfl rfl 65 (by decide) (hts _ (rt_m rt_w912)) (fun _ h9 => h9) rfl d_RangeTellerModel_pass_313 ?_
              refine lv_iload hx hb d_RangeTellerModel_pass_316 (lv_at hl 4 rfl) ?_
              obtain ⟨v55, h56, hm⟩ := rt_b1s hm
              refine rt_zld hx hb hK hP 46 1 rfl rfl h56 d_RangeTellerModel_pass_318 ?_
              refine lv_if_eq (tgt := 334) hx hb d_RangeTellerModel_pass_319 (by decide) (fun hc => ?_) (fun hc => ?_)
              · have hm := (if_pos hc).symm.trans hm
                exact hB334 ls l1 l2 l4 ((4 * l1) + l4) σ _ _ (lv_sub hl [1, 2, 3, 4, 0] rfl) hm hP hS
              · have hm := (if_neg hc).symm.trans hm
                refine lv_aload_n hx hb d_RangeTellerModel_pass_322 rfl (lv_at hl 1 rfl) ?_
                refine va_get (D := D) (v := .ref (A 33)) (C := "RangeTellerModel") (T := rt_T6) (N := 69) hx hb hts rt_i6 hown hK hP 0 rfl rfl 50 (by decide) (hts _ (rt_m rt_w897)) (fun _ h9 => h9) rfl d_RangeTellerModel_pass_323 ?_
                refine lv_iload hx hb d_RangeTellerModel_pass_326 (lv_at hl 0 rfl) ?_
                obtain ⟨v57, h58, hm⟩ := rt_b1s hm
                refine rt_zld hx hb hK hP 33 1 rfl rfl h58 d_RangeTellerModel_pass_328 ?_
                refine lv_if_ne (tgt := 334) hx hb d_RangeTellerModel_pass_329 (by decide) (fun hc => ?_) (fun hc => ?_)
                · have hm := (if_neg hc).symm.trans hm
                  exact hB334 ls l1 l2 l4 ((4 * l1) + l4) σ _ _ (lv_sub hl [1, 2, 3, 4, 0] rfl) hm hP hS
                · have hm := (if_pos hc).symm.trans hm
                  exact hB332 ls l1 l4 ((4 * l1) + l4) σ _ _ (lv_sub hl [1, 2, 4, 0] rfl) hm hP hS
  have hB25 : ∀ (n25 : Nat) (ls : Array Slot) (l1 l2 l3 l4 : Int32) (σ : rt_St) (H : Heap) (locs : List Loc), lv_has ls 6 [(0, .ref (A 0)), (1, .int l1), (2, .int l2), (3, .int l3), (4, .int l4)] → B_R_RangeTellerModel_pass_25 n25 l1 l2 l3 l4 σ = some σ' → va_P D rt_cl (rtR_W cI cZ A σ) H → va_S (rt_A (rtR_W cI cZ A) s.heap.size) s.heap H locs → W p l e ({ frames := 0, cells := 0, slots := 0, locals := 0 } : Room) s m ([.ref (A 0), .int a1] : List Value).toArray below meth c H locs 0 0 (rt_Qv D rt_cl (rt_t cI cZ) rtR_X (rtR_W cI cZ A) below ([.ref (A 0), .int a1] : List Value).toArray s σ') (F0 m 25 ls []) := by
    intro n25
    induction n25 with
    | zero => intro ls l1 l2 l3 l4 σ H locs hl hm hP hS; rw [B_R_RangeTellerModel_pass_25] at hm; cases hm
    | succ n25 ih25 =>
      have hB245 : ∀ (ls : Array Slot) (l1 l2 l3 l4 t0 t1 : Int32) (σ : rt_St) (H : Heap) (locs : List Loc), lv_has ls 6 [(0, .ref (A 0)), (1, .int l1), (2, .int l2), (3, .int l3), (4, .int l4)] → B_R_RangeTellerModel_pass_245 (B_R_RangeTellerModel_pass_25 n25) l1 l2 l3 l4 t0 t1 σ = some σ' → va_P D rt_cl (rtR_W cI cZ A σ) H → va_S (rt_A (rtR_W cI cZ A) s.heap.size) s.heap H locs → W p l e ({ frames := 0, cells := 0, slots := 0, locals := 0 } : Room) s m ([.ref (A 0), .int a1] : List Value).toArray below meth c H locs 0 0 (rt_Qv D rt_cl (rt_t cI cZ) rtR_X (rtR_W cI cZ A) below ([.ref (A 0), .int a1] : List Value).toArray s σ') (F0 m 245 ls [.int t0, .int t1, .ref (A 30)]) := by
        intro ls l1 l2 l3 l4 t0 t1 σ H locs hl hm hP hS
        unfold B_R_RangeTellerModel_pass_245 at hm
        obtain ⟨σ59, h60, hm⟩ := rt_b1s hm
        refine rt_zst hx hb hK hP hD hS 30 1 rfl (rtR_a30 cI cZ A _) rfl rfl h60 d_RangeTellerModel_pass_245 (fun H locs hP hS => ?_)
        refine lv_iinc (k := 4) (v := (l4 + 1)) hx hb d_RangeTellerModel_pass_246 hl rfl rfl (by decide) rfl (fun ls hl => ?_)
        have hl : lv_has ls 6 [(4, .int (l4 + 1)), (0, .ref (A 0)), (1, .int l1), (2, .int l2), (3, .int l3)] := hl
        refine lv_goto (tgt := 25) hx hb d_RangeTellerModel_pass_249 (by decide) ?_
        exact ih25 ls l1 l2 l3 (l4 + 1) σ59 _ _ (lv_sub hl [1, 2, 3, 4, 0] rfl) hm hP hS
      have hB240 : ∀ (ls : Array Slot) (l1 l2 l3 l4 t0 : Int32) (σ : rt_St) (H : Heap) (locs : List Loc), lv_has ls 6 [(0, .ref (A 0)), (1, .int l1), (2, .int l2), (3, .int l3), (4, .int l4)] → B_R_RangeTellerModel_pass_240 (B_R_RangeTellerModel_pass_25 n25) l1 l2 l3 l4 t0 σ = some σ' → va_P D rt_cl (rtR_W cI cZ A σ) H → va_S (rt_A (rtR_W cI cZ A) s.heap.size) s.heap H locs → W p l e ({ frames := 0, cells := 0, slots := 0, locals := 0 } : Room) s m ([.ref (A 0), .int a1] : List Value).toArray below meth c H locs 0 0 (rt_Qv D rt_cl (rt_t cI cZ) rtR_X (rtR_W cI cZ A) below ([.ref (A 0), .int a1] : List Value).toArray s σ') (F0 m 240 ls [.int t0, .ref (A 30)]) := by
        intro ls l1 l2 l3 l4 t0 σ H locs hl hm hP hS
        unfold B_R_RangeTellerModel_pass_240 at hm
        refine lv_iconst (v := 1) hx hb d_RangeTellerModel_pass_240 (by decide) ?_
        refine lv_goto (tgt := 245) hx hb d_RangeTellerModel_pass_241 (by decide) ?_
        exact hB245 ls l1 l2 l3 l4 1 t0 σ _ _ (lv_sub hl [0, 1, 2, 3, 4] rfl) hm hP hS
      have hB230 : ∀ (ls : Array Slot) (l1 l2 l3 l4 t0 : Int32) (σ : rt_St) (H : Heap) (locs : List Loc), lv_has ls 6 [(0, .ref (A 0)), (1, .int l1), (2, .int l2), (3, .int l3), (4, .int l4)] → B_R_RangeTellerModel_pass_230 (B_R_RangeTellerModel_pass_25 n25) l1 l2 l3 l4 t0 σ = some σ' → va_P D rt_cl (rtR_W cI cZ A σ) H → va_S (rt_A (rtR_W cI cZ A) s.heap.size) s.heap H locs → W p l e ({ frames := 0, cells := 0, slots := 0, locals := 0 } : Room) s m ([.ref (A 0), .int a1] : List Value).toArray below meth c H locs 0 0 (rt_Qv D rt_cl (rt_t cI cZ) rtR_X (rtR_W cI cZ A) below ([.ref (A 0), .int a1] : List Value).toArray s σ') (F0 m 230 ls [.int t0, .ref (A 30)]) := by
        intro ls l1 l2 l3 l4 t0 σ H locs hl hm hP hS
        unfold B_R_RangeTellerModel_pass_230 at hm
        refine lv_aload_n hx hb d_RangeTellerModel_pass_230 rfl (lv_at hl 0 rfl) ?_
        refine va_get (D := D) (v := .ref (A 43)) (C := "RangeTellerModel") (T := rt_T6) (N := 69) hx hb hts rt_i6 hown hK hP 0 rfl rfl 62 (by decide) (hts _ (rt_m rt_w909)) (fun _ h9 => h9) rfl d_RangeTellerModel_pass_231 ?_
        refine lv_iload hx hb d_RangeTellerModel_pass_234 (lv_at hl 4 rfl) ?_
        obtain ⟨v61, h62, hm⟩ := rt_b1s hm
        refine rt_zld hx hb hK hP 43 1 rfl rfl h62 d_RangeTellerModel_pass_236 ?_
        refine lv_if_eq (tgt := 244) hx hb d_RangeTellerModel_pass_237 (by decide) (fun hc => ?_) (fun hc => ?_)
        · have hm := (if_pos hc).symm.trans hm
          refine lv_iconst (v := 0) hx hb d_RangeTellerModel_pass_244 (by decide) ?_
          exact hB245 ls l1 l2 l3 l4 0 t0 σ _ _ (lv_sub hl [0, 1, 2, 3, 4] rfl) hm hP hS
        · have hm := (if_neg hc).symm.trans hm
          exact hB240 ls l1 l2 l3 l4 t0 σ _ _ (lv_sub hl [0, 1, 2, 3, 4] rfl) hm hP hS
      have hB204 : ∀ (ls : Array Slot) (l1 l2 l3 l4 l5 t0 t1 : Int32) (σ : rt_St) (H : Heap) (locs : List Loc), lv_has ls 6 [(0, .ref (A 0)), (1, .int l1), (2, .int l2), (3, .int l3), (4, .int l4), (5, .int l5)] → B_R_RangeTellerModel_pass_204 (B_R_RangeTellerModel_pass_25 n25) l1 l2 l3 l4 l5 t0 t1 σ = some σ' → va_P D rt_cl (rtR_W cI cZ A σ) H → va_S (rt_A (rtR_W cI cZ A) s.heap.size) s.heap H locs → W p l e ({ frames := 0, cells := 0, slots := 0, locals := 0 } : Room) s m ([.ref (A 0), .int a1] : List Value).toArray below meth c H locs 0 0 (rt_Qv D rt_cl (rt_t cI cZ) rtR_X (rtR_W cI cZ A) below ([.ref (A 0), .int a1] : List Value).toArray s σ') (F0 m 204 ls [.int t0, .int t1, .ref (A 29)]) := by
        intro ls l1 l2 l3 l4 l5 t0 t1 σ H locs hl hm hP hS
        unfold B_R_RangeTellerModel_pass_204 at hm
        obtain ⟨σ63, h64, hm⟩ := rt_b1s hm
        refine rt_ast hx hb hK hP hD hS 29 0 rfl (rtR_a29 cI cZ A _) rfl h64 d_RangeTellerModel_pass_204 (fun H locs hP hS => ?_)
        refine lv_aload_n hx hb d_RangeTellerModel_pass_205 rfl (lv_at hl 0 rfl) ?_
        refine va_get (D := D) (v := .ref (A 30)) (C := "RangeTellerModel") (T := rt_T6) (N := 69) hx hb hts rt_i6 hown hK hP 0 rfl rfl 47 (by decide) (hts _ (rt_m rt_w894)) (fun _ h9 => h9) rfl d_RangeTellerModel_pass_206 ?_
        refine lv_iload hx hb d_RangeTellerModel_pass_209 (lv_at hl 5 rfl) ?_
        refine lv_aload_n hx hb d_RangeTellerModel_pass_211 rfl (lv_at hl 0 rfl) ?_
        refine va_get (D := D) (v := .ref (A 26)) (C := "RangeTellerModel") (T := rt_T6) (N := 69) hx hb hts rt_i6 hown hK hP 0 rfl rfl 43 (by decide) (hts _ (rt_m rt_w890)) (fun _ h9 => h9) rfl d_RangeTellerModel_pass_212 ?_
        refine lv_iload_n hx hb d_RangeTellerModel_pass_215 rfl (lv_at hl 1 rfl) ?_
        obtain ⟨v65, h66, hm⟩ := rt_b1s hm
        refine rt_zld hx hb hK hP 26 1 rfl rfl h66 d_RangeTellerModel_pass_216 ?_
        refine lv_if_eq (tgt := 230) hx hb d_RangeTellerModel_pass_217 (by decide) (fun hc => ?_) (fun hc => ?_)
        · have hm := (if_pos hc).symm.trans hm
          exact hB230 ls l1 l2 l3 l4 l5 σ63 _ _ (lv_sub hl [0, 1, 2, 3, 4] rfl) hm hP hS
        · have hm := (if_neg hc).symm.trans hm
          refine lv_aload_n hx hb d_RangeTellerModel_pass_220 rfl (lv_at hl 0 rfl) ?_
          refine va_get (D := D) (v := .ref (A 30)) (C := "RangeTellerModel") (T := rt_T6) (N := 69) hx hb hts rt_i6 hown hK hP 0 rfl rfl 47 (by decide) (hts _ (rt_m rt_w894)) (fun _ h9 => h9) rfl d_RangeTellerModel_pass_221 ?_
          refine lv_iload hx hb d_RangeTellerModel_pass_224 (lv_at hl 5 rfl) ?_
          obtain ⟨v67, h68, hm⟩ := rt_b1s hm
          refine rt_zld hx hb hK hP 30 1 rfl rfl h68 d_RangeTellerModel_pass_226 ?_
          refine lv_if_ne (tgt := 240) hx hb d_RangeTellerModel_pass_227 (by decide) (fun hc => ?_) (fun hc => ?_)
          · have hm := (if_neg hc).symm.trans hm
            exact hB240 ls l1 l2 l3 l4 l5 σ63 _ _ (lv_sub hl [0, 1, 2, 3, 4] rfl) hm hP hS
          · have hm := (if_pos hc).symm.trans hm
            exact hB230 ls l1 l2 l3 l4 l5 σ63 _ _ (lv_sub hl [0, 1, 2, 3, 4] rfl) hm hP hS
      have hB197 : ∀ (ls : Array Slot) (l1 l2 l3 l4 l5 t0 : Int32) (σ : rt_St) (H : Heap) (locs : List Loc), lv_has ls 6 [(0, .ref (A 0)), (1, .int l1), (2, .int l2), (3, .int l3), (4, .int l4), (5, .int l5)] → B_R_RangeTellerModel_pass_197 (B_R_RangeTellerModel_pass_25 n25) l1 l2 l3 l4 l5 t0 σ = some σ' → va_P D rt_cl (rtR_W cI cZ A σ) H → va_S (rt_A (rtR_W cI cZ A) s.heap.size) s.heap H locs → W p l e ({ frames := 0, cells := 0, slots := 0, locals := 0 } : Room) s m ([.ref (A 0), .int a1] : List Value).toArray below meth c H locs 0 0 (rt_Qv D rt_cl (rt_t cI cZ) rtR_X (rtR_W cI cZ A) below ([.ref (A 0), .int a1] : List Value).toArray s σ') (F0 m 197 ls [.int t0, .ref (A 29)]) := by
        intro ls l1 l2 l3 l4 l5 t0 σ H locs hl hm hP hS
        unfold B_R_RangeTellerModel_pass_197 at hm
        refine lv_aload_n hx hb d_RangeTellerModel_pass_197 rfl (lv_at hl 0 rfl) ?_
        refine va_get (D := D) (v := .ref (A 42)) (C := "RangeTellerModel") (T := rt_T6) (N := 69) hx hb hts rt_i6 hown hK hP 0 rfl rfl 61 (by decide) (hts _ (rt_m rt_w908)) (fun _ h9 => h9) rfl d_RangeTellerModel_pass_198 ?_
        refine lv_iload hx hb d_RangeTellerModel_pass_201 (lv_at hl 4 rfl) ?_
        obtain ⟨v69, h70, hm⟩ := rt_b1s hm
        refine rt_ald hx hb hK hP 42 0 rfl rfl h70 d_RangeTellerModel_pass_203 ?_
        exact hB204 ls l1 l2 l3 l4 l5 v69 t0 σ _ _ (lv_sub hl [0, 1, 2, 3, 4, 5] rfl) hm hP hS
      have hB154 : ∀ (ls : Array Slot) (l1 l2 l3 l4 l5 t0 t1 : Int32) (σ : rt_St) (H : Heap) (locs : List Loc), lv_has ls 6 [(0, .ref (A 0)), (1, .int l1), (2, .int l2), (3, .int l3), (4, .int l4), (5, .int l5)] → B_R_RangeTellerModel_pass_154 (B_R_RangeTellerModel_pass_25 n25) l1 l2 l3 l4 l5 t0 t1 σ = some σ' → va_P D rt_cl (rtR_W cI cZ A σ) H → va_S (rt_A (rtR_W cI cZ A) s.heap.size) s.heap H locs → W p l e ({ frames := 0, cells := 0, slots := 0, locals := 0 } : Room) s m ([.ref (A 0), .int a1] : List Value).toArray below meth c H locs 0 0 (rt_Qv D rt_cl (rt_t cI cZ) rtR_X (rtR_W cI cZ A) below ([.ref (A 0), .int a1] : List Value).toArray s σ') (F0 m 154 ls [.int t0, .int t1, .ref (A 28)]) := by
        intro ls l1 l2 l3 l4 l5 t0 t1 σ H locs hl hm hP hS
        unfold B_R_RangeTellerModel_pass_154 at hm
        obtain ⟨σ71, h72, hm⟩ := rt_b1s hm
        refine rt_ast hx hb hK hP hD hS 28 0 rfl (rtR_a28 cI cZ A _) rfl h72 d_RangeTellerModel_pass_154 (fun H locs hP hS => ?_)
        refine lv_aload_n hx hb d_RangeTellerModel_pass_155 rfl (lv_at hl 0 rfl) ?_
        refine va_get (D := D) (v := .ref (A 29)) (C := "RangeTellerModel") (T := rt_T6) (N := 69) hx hb hts rt_i6 hown hK hP 0 rfl rfl 46 (by decide) (hts _ (rt_m rt_w893)) (fun _ h9 => h9) rfl d_RangeTellerModel_pass_156 ?_
        refine lv_iload hx hb d_RangeTellerModel_pass_159 (lv_at hl 5 rfl) ?_
        refine lv_aload_n hx hb d_RangeTellerModel_pass_161 rfl (lv_at hl 0 rfl) ?_
        refine va_get (D := D) (v := .ref (A 26)) (C := "RangeTellerModel") (T := rt_T6) (N := 69) hx hb hts rt_i6 hown hK hP 0 rfl rfl 43 (by decide) (hts _ (rt_m rt_w890)) (fun _ h9 => h9) rfl d_RangeTellerModel_pass_162 ?_
        refine lv_iload_n hx hb d_RangeTellerModel_pass_165 rfl (lv_at hl 1 rfl) ?_
        obtain ⟨v73, h74, hm⟩ := rt_b1s hm
        refine rt_zld hx hb hK hP 26 1 rfl rfl h74 d_RangeTellerModel_pass_166 ?_
        refine lv_if_eq (tgt := 197) hx hb d_RangeTellerModel_pass_167 (by decide) (fun hc => ?_) (fun hc => ?_)
        · have hm := (if_pos hc).symm.trans hm
          exact hB197 ls l1 l2 l3 l4 l5 l5 σ71 _ _ (lv_sub hl [0, 1, 2, 3, 4, 5] rfl) hm hP hS
        · have hm := (if_neg hc).symm.trans hm
          refine lv_aload_n hx hb d_RangeTellerModel_pass_170 rfl (lv_at hl 0 rfl) ?_
          refine va_get (D := D) (v := .ref (A 29)) (C := "RangeTellerModel") (T := rt_T6) (N := 69) hx hb hts rt_i6 hown hK hP 0 rfl rfl 46 (by decide) (hts _ (rt_m rt_w893)) (fun _ h9 => h9) rfl d_RangeTellerModel_pass_171 ?_
          refine lv_iload hx hb d_RangeTellerModel_pass_174 (lv_at hl 5 rfl) ?_
          obtain ⟨v75, h76, hm⟩ := rt_b1s hm
          refine rt_ald hx hb hK hP 29 0 rfl rfl h76 d_RangeTellerModel_pass_176 ?_
          refine lv_aload_n hx hb d_RangeTellerModel_pass_177 rfl (lv_at hl 0 rfl) ?_
          refine va_get (D := D) (v := .ref (A 42)) (C := "RangeTellerModel") (T := rt_T6) (N := 69) hx hb hts rt_i6 hown hK hP 0 rfl rfl 61 (by decide) (hts _ (rt_m rt_w908)) (fun _ h9 => h9) rfl d_RangeTellerModel_pass_178 ?_
          refine lv_iload hx hb d_RangeTellerModel_pass_181 (lv_at hl 4 rfl) ?_
          obtain ⟨v77, h78, hm⟩ := rt_b1s hm
          refine rt_ald hx hb hK hP 42 0 rfl rfl h78 d_RangeTellerModel_pass_183 ?_
          refine lv_icmp_le (tgt := 197) hx hb d_RangeTellerModel_pass_184 (by decide) (fun hc => ?_) (fun hc => ?_)
          · have hm := (if_pos hc).symm.trans hm
            exact hB197 ls l1 l2 l3 l4 l5 l5 σ71 _ _ (lv_sub hl [0, 1, 2, 3, 4, 5] rfl) hm hP hS
          · have hm := (if_neg hc).symm.trans hm
            refine lv_aload_n hx hb d_RangeTellerModel_pass_187 rfl (lv_at hl 0 rfl) ?_
            refine va_get (D := D) (v := .ref (A 29)) (C := "RangeTellerModel") (T := rt_T6) (N := 69) hx hb hts rt_i6 hown hK hP 0 rfl rfl 46 (by decide) (hts _ (rt_m rt_w893)) (fun _ h9 => h9) rfl d_RangeTellerModel_pass_188 ?_
            refine lv_iload hx hb d_RangeTellerModel_pass_191 (lv_at hl 5 rfl) ?_
            obtain ⟨v79, h80, hm⟩ := rt_b1s hm
            refine rt_ald hx hb hK hP 29 0 rfl rfl h80 d_RangeTellerModel_pass_193 ?_
            refine lv_goto (tgt := 204) hx hb d_RangeTellerModel_pass_194 (by decide) ?_
            exact hB204 ls l1 l2 l3 l4 l5 v79 l5 σ71 _ _ (lv_sub hl [0, 1, 2, 3, 4, 5] rfl) hm hP hS
      have hB147 : ∀ (ls : Array Slot) (l1 l2 l3 l4 l5 t0 : Int32) (σ : rt_St) (H : Heap) (locs : List Loc), lv_has ls 6 [(0, .ref (A 0)), (1, .int l1), (2, .int l2), (3, .int l3), (4, .int l4), (5, .int l5)] → B_R_RangeTellerModel_pass_147 (B_R_RangeTellerModel_pass_25 n25) l1 l2 l3 l4 l5 t0 σ = some σ' → va_P D rt_cl (rtR_W cI cZ A σ) H → va_S (rt_A (rtR_W cI cZ A) s.heap.size) s.heap H locs → W p l e ({ frames := 0, cells := 0, slots := 0, locals := 0 } : Room) s m ([.ref (A 0), .int a1] : List Value).toArray below meth c H locs 0 0 (rt_Qv D rt_cl (rt_t cI cZ) rtR_X (rtR_W cI cZ A) below ([.ref (A 0), .int a1] : List Value).toArray s σ') (F0 m 147 ls [.int t0, .ref (A 28)]) := by
        intro ls l1 l2 l3 l4 l5 t0 σ H locs hl hm hP hS
        unfold B_R_RangeTellerModel_pass_147 at hm
        refine lv_aload_n hx hb d_RangeTellerModel_pass_147 rfl (lv_at hl 0 rfl) ?_
        refine va_get (D := D) (v := .ref (A 41)) (C := "RangeTellerModel") (T := rt_T6) (N := 69) hx hb hts rt_i6 hown hK hP 0 rfl rfl 60 (by decide) (hts _ (rt_m rt_w907)) (fun _ h9 => h9) rfl d_RangeTellerModel_pass_148 ?_
        refine lv_iload hx hb d_RangeTellerModel_pass_151 (lv_at hl 4 rfl) ?_
        obtain ⟨v81, h82, hm⟩ := rt_b1s hm
        refine rt_ald hx hb hK hP 41 0 rfl rfl h82 d_RangeTellerModel_pass_153 ?_
        exact hB154 ls l1 l2 l3 l4 l5 v81 t0 σ _ _ (lv_sub hl [0, 1, 2, 3, 4, 5] rfl) hm hP hS
      have hB105 : ∀ (ls : Array Slot) (l1 l2 l3 l4 l5 : Int32) (σ : rt_St) (H : Heap) (locs : List Loc), lv_has ls 6 [(0, .ref (A 0)), (1, .int l1), (2, .int l2), (3, .int l3), (4, .int l4), (5, .int l5)] → B_R_RangeTellerModel_pass_105 (B_R_RangeTellerModel_pass_25 n25) l1 l2 l3 l4 l5 σ = some σ' → va_P D rt_cl (rtR_W cI cZ A σ) H → va_S (rt_A (rtR_W cI cZ A) s.heap.size) s.heap H locs → W p l e ({ frames := 0, cells := 0, slots := 0, locals := 0 } : Room) s m ([.ref (A 0), .int a1] : List Value).toArray below meth c H locs 0 0 (rt_Qv D rt_cl (rt_t cI cZ) rtR_X (rtR_W cI cZ A) below ([.ref (A 0), .int a1] : List Value).toArray s σ') (F0 m 105 ls []) := by
        intro ls l1 l2 l3 l4 l5 σ H locs hl hm hP hS
        unfold B_R_RangeTellerModel_pass_105 at hm
        refine lv_aload_n hx hb d_RangeTellerModel_pass_105 rfl (lv_at hl 0 rfl) ?_
        refine va_get (D := D) (v := .ref (A 28)) (C := "RangeTellerModel") (T := rt_T6) (N := 69) hx hb hts rt_i6 hown hK hP 0 rfl rfl 45 (by decide) (hts _ (rt_m rt_w892)) (fun _ h9 => h9) rfl d_RangeTellerModel_pass_106 ?_
        refine lv_iload hx hb d_RangeTellerModel_pass_109 (lv_at hl 5 rfl) ?_
        refine lv_aload_n hx hb d_RangeTellerModel_pass_111 rfl (lv_at hl 0 rfl) ?_
        refine va_get (D := D) (v := .ref (A 26)) (C := "RangeTellerModel") (T := rt_T6) (N := 69) hx hb hts rt_i6 hown hK hP 0 rfl rfl 43 (by decide) (hts _ (rt_m rt_w890)) (fun _ h9 => h9) rfl d_RangeTellerModel_pass_112 ?_
        refine lv_iload_n hx hb d_RangeTellerModel_pass_115 rfl (lv_at hl 1 rfl) ?_
        obtain ⟨v83, h84, hm⟩ := rt_b1s hm
        refine rt_zld hx hb hK hP 26 1 rfl rfl h84 d_RangeTellerModel_pass_116 ?_
        refine lv_if_eq (tgt := 147) hx hb d_RangeTellerModel_pass_117 (by decide) (fun hc => ?_) (fun hc => ?_)
        · have hm := (if_pos hc).symm.trans hm
          exact hB147 ls l1 l2 l3 l4 l5 l5 σ _ _ (lv_sub hl [0, 1, 2, 3, 4, 5] rfl) hm hP hS
        · have hm := (if_neg hc).symm.trans hm
          refine lv_aload_n hx hb d_RangeTellerModel_pass_120 rfl (lv_at hl 0 rfl) ?_
          refine va_get (D := D) (v := .ref (A 28)) (C := "RangeTellerModel") (T := rt_T6) (N := 69) hx hb hts rt_i6 hown hK hP 0 rfl rfl 45 (by decide) (hts _ (rt_m rt_w892)) (fun _ h9 => h9) rfl d_RangeTellerModel_pass_121 ?_
          refine lv_iload hx hb d_RangeTellerModel_pass_124 (lv_at hl 5 rfl) ?_
          obtain ⟨v85, h86, hm⟩ := rt_b1s hm
          refine rt_ald hx hb hK hP 28 0 rfl rfl h86 d_RangeTellerModel_pass_126 ?_
          refine lv_aload_n hx hb d_RangeTellerModel_pass_127 rfl (lv_at hl 0 rfl) ?_
          refine va_get (D := D) (v := .ref (A 41)) (C := "RangeTellerModel") (T := rt_T6) (N := 69) hx hb hts rt_i6 hown hK hP 0 rfl rfl 60 (by decide) (hts _ (rt_m rt_w907)) (fun _ h9 => h9) rfl d_RangeTellerModel_pass_128 ?_
          refine lv_iload hx hb d_RangeTellerModel_pass_131 (lv_at hl 4 rfl) ?_
          obtain ⟨v87, h88, hm⟩ := rt_b1s hm
          refine rt_ald hx hb hK hP 41 0 rfl rfl h88 d_RangeTellerModel_pass_133 ?_
          refine lv_icmp_ge (tgt := 147) hx hb d_RangeTellerModel_pass_134 (by decide) (fun hc => ?_) (fun hc => ?_)
          · have hm := (if_pos hc).symm.trans hm
            exact hB147 ls l1 l2 l3 l4 l5 l5 σ _ _ (lv_sub hl [0, 1, 2, 3, 4, 5] rfl) hm hP hS
          · have hm := (if_neg hc).symm.trans hm
            refine lv_aload_n hx hb d_RangeTellerModel_pass_137 rfl (lv_at hl 0 rfl) ?_
            refine va_get (D := D) (v := .ref (A 28)) (C := "RangeTellerModel") (T := rt_T6) (N := 69) hx hb hts rt_i6 hown hK hP 0 rfl rfl 45 (by decide) (hts _ (rt_m rt_w892)) (fun _ h9 => h9) rfl d_RangeTellerModel_pass_138 ?_
            refine lv_iload hx hb d_RangeTellerModel_pass_141 (lv_at hl 5 rfl) ?_
            obtain ⟨v89, h90, hm⟩ := rt_b1s hm
            refine rt_ald hx hb hK hP 28 0 rfl rfl h90 d_RangeTellerModel_pass_143 ?_
            refine lv_goto (tgt := 154) hx hb d_RangeTellerModel_pass_144 (by decide) ?_
            exact hB154 ls l1 l2 l3 l4 l5 v89 l5 σ _ _ (lv_sub hl [0, 1, 2, 3, 4, 5] rfl) hm hP hS
      have hB103 : ∀ (ls : Array Slot) (l1 l3 l4 l5 : Int32) (σ : rt_St) (H : Heap) (locs : List Loc), lv_has ls 6 [(0, .ref (A 0)), (1, .int l1), (3, .int l3), (4, .int l4), (5, .int l5)] → B_R_RangeTellerModel_pass_103 (B_R_RangeTellerModel_pass_25 n25) l1 l3 l4 l5 σ = some σ' → va_P D rt_cl (rtR_W cI cZ A σ) H → va_S (rt_A (rtR_W cI cZ A) s.heap.size) s.heap H locs → W p l e ({ frames := 0, cells := 0, slots := 0, locals := 0 } : Room) s m ([.ref (A 0), .int a1] : List Value).toArray below meth c H locs 0 0 (rt_Qv D rt_cl (rt_t cI cZ) rtR_X (rtR_W cI cZ A) below ([.ref (A 0), .int a1] : List Value).toArray s σ') (F0 m 103 ls []) := by
        intro ls l1 l3 l4 l5 σ H locs hl hm hP hS
        unfold B_R_RangeTellerModel_pass_103 at hm
        refine lv_iconst (v := 1) hx hb d_RangeTellerModel_pass_103 (by decide) ?_
        refine lv_istore_n hx hb d_RangeTellerModel_pass_104 rfl hl (by decide) rfl (fun ls hl => ?_)
        have hl : lv_has ls 6 [(2, .int 1), (0, .ref (A 0)), (1, .int l1), (3, .int l3), (4, .int l4), (5, .int l5)] := hl
        exact hB105 ls l1 1 l3 l4 l5 σ _ _ (lv_sub hl [1, 2, 0, 3, 4, 5] rfl) hm hP hS
      intro ls l1 l2 l3 l4 σ H locs hl hm hP hS
      rw [B_R_RangeTellerModel_pass_25] at hm
      refine lv_iload hx hb d_RangeTellerModel_pass_25 (lv_at hl 4 rfl) ?_
      refine lv_iload_n hx hb d_RangeTellerModel_pass_27 rfl (lv_at hl 3 rfl) ?_
      refine lv_icmp_ge (tgt := 252) hx hb d_RangeTellerModel_pass_28 (by decide) (fun hc => ?_) (fun hc => ?_)
      · have hm := (if_pos hc).symm.trans hm
        refine lv_iconst (v := 0) hx hb d_RangeTellerModel_pass_252 (by decide) ?_
        refine lv_istore hx hb d_RangeTellerModel_pass_253 hl (by decide) rfl (fun ls hl => ?_)
        have hl : lv_has ls 6 [(4, .int 0), (0, .ref (A 0)), (1, .int l1), (2, .int l2), (3, .int l3)] := hl
        exact hB255 _ ls l1 l2 0 σ _ _ (lv_sub hl [1, 2, 3, 0] rfl) hm hP hS
      · have hm := (if_neg hc).symm.trans hm
        refine lv_bipush (v := 10) hx hb d_RangeTellerModel_pass_31 (by decide) ?_
        refine lv_iload_n hx hb d_RangeTellerModel_pass_33 rfl (lv_at hl 1 rfl) ?_
        refine lv_imul hx hb d_RangeTellerModel_pass_34 ?_
        refine lv_iload hx hb d_RangeTellerModel_pass_35 (lv_at hl 4 rfl) ?_
        refine lv_iadd hx hb d_RangeTellerModel_pass_37 ?_
        refine lv_istore hx hb d_RangeTellerModel_pass_38 hl (by decide) rfl (fun ls hl => ?_)
        have hl : lv_has ls 6 [(5, .int ((10 * l1) + l4)), (0, .ref (A 0)), (1, .int l1), (2, .int l2), (3, .int l3), (4, .int l4)] := hl
        refine lv_aload_n hx hb d_RangeTellerModel_pass_40 rfl (lv_at hl 1 rfl) ?_
        refine va_get (D := D) (v := .ref (A 26)) (C := "RangeTellerModel") (T := rt_T6) (N := 69) hx hb hts rt_i6 hown hK hP 0 rfl rfl 43 (by decide) (hts _ (rt_m rt_w890)) (fun _ h9 => h9) rfl d_RangeTellerModel_pass_41 ?_
        refine lv_iload_n hx hb d_RangeTellerModel_pass_44 rfl (lv_at hl 2 rfl) ?_
        obtain ⟨v91, h92, hm⟩ := rt_b1s hm
        refine rt_zld hx hb hK hP 26 1 rfl rfl h92 d_RangeTellerModel_pass_45 ?_
        refine lv_if_eq (tgt := 103) hx hb d_RangeTellerModel_pass_46 (by decide) (fun hc => ?_) (fun hc => ?_)
        · have hm := (if_pos hc).symm.trans hm
          exact hB103 ls l1 l3 l4 ((10 * l1) + l4) σ _ _ (lv_sub hl [1, 2, 4, 5, 0] rfl) hm hP hS
        · have hm := (if_neg hc).symm.trans hm
          refine lv_aload_n hx hb d_RangeTellerModel_pass_49 rfl (lv_at hl 1 rfl) ?_
          refine va_get (D := D) (v := .ref (A 41)) (C := "RangeTellerModel") (T := rt_T6) (N := 69) hx hb hts rt_i6 hown hK hP 0 rfl rfl 60 (by decide) (hts _ (rt_m rt_w907)) (fun _ h9 => h9) rfl d_RangeTellerModel_pass_50 ?_
          refine lv_iload hx hb d_RangeTellerModel_pass_53 (lv_at hl 5 rfl) ?_
          obtain ⟨v93, h94, hm⟩ := rt_b1s hm
          refine rt_ald hx hb hK hP 41 0 rfl rfl h94 d_RangeTellerModel_pass_55 ?_
          refine lv_aload_n hx hb d_RangeTellerModel_pass_56 rfl (lv_at hl 1 rfl) ?_
          refine va_get (D := D) (v := .ref (A 28)) (C := "RangeTellerModel") (T := rt_T6) (N := 69) hx hb hts rt_i6 hown hK hP 0 rfl rfl 45 (by decide) (hts _ (rt_m rt_w892)) (fun _ h9 => h9) rfl d_RangeTellerModel_pass_57 ?_
          refine lv_iload hx hb d_RangeTellerModel_pass_60 (lv_at hl 0 rfl) ?_
          obtain ⟨v95, h96, hm⟩ := rt_b1s hm
          refine rt_ald hx hb hK hP 28 0 rfl rfl h96 d_RangeTellerModel_pass_62 ?_
          refine lv_icmp_lt (tgt := 103) hx hb d_RangeTellerModel_pass_63 (by decide) (fun hc => ?_) (fun hc => ?_)
          · have hm := (if_pos hc).symm.trans hm
            exact hB103 ls l1 l3 l4 ((10 * l1) + l4) σ _ _ (lv_sub hl [1, 2, 4, 5, 0] rfl) hm hP hS
          · have hm := (if_neg hc).symm.trans hm
            refine lv_aload_n hx hb d_RangeTellerModel_pass_66 rfl (lv_at hl 1 rfl) ?_
            refine va_get (D := D) (v := .ref (A 42)) (C := "RangeTellerModel") (T := rt_T6) (N := 69) hx hb hts rt_i6 hown hK hP 0 rfl rfl 61 (by decide) (hts _ (rt_m rt_w908)) (fun _ h9 => h9) rfl d_RangeTellerModel_pass_67 ?_
            refine lv_iload hx hb d_RangeTellerModel_pass_70 (lv_at hl 5 rfl) ?_
            obtain ⟨v97, h98, hm⟩ := rt_b1s hm
            refine rt_ald hx hb hK hP 42 0 rfl rfl h98 d_RangeTellerModel_pass_72 ?_
            refine lv_aload_n hx hb d_RangeTellerModel_pass_73 rfl (lv_at hl 1 rfl) ?_
            refine va_get (D := D) (v := .ref (A 29)) (C := "RangeTellerModel") (T := rt_T6) (N := 69) hx hb hts rt_i6 hown hK hP 0 rfl rfl 46 (by decide) (hts _ (rt_m rt_w893)) (fun _ h9 => h9) rfl d_RangeTellerModel_pass_74 ?_
            refine lv_iload hx hb d_RangeTellerModel_pass_77 (lv_at hl 0 rfl) ?_
            obtain ⟨v99, h100, hm⟩ := rt_b1s hm
            refine rt_ald hx hb hK hP 29 0 rfl rfl h100 d_RangeTellerModel_pass_79 ?_
            refine lv_icmp_gt (tgt := 103) hx hb d_RangeTellerModel_pass_80 (by decide) (fun hc => ?_) (fun hc => ?_)
            · have hm := (if_pos hc).symm.trans hm
              exact hB103 ls l1 l3 l4 ((10 * l1) + l4) σ _ _ (lv_sub hl [1, 2, 4, 5, 0] rfl) hm hP hS
            · have hm := (if_neg hc).symm.trans hm
              refine lv_aload_n hx hb d_RangeTellerModel_pass_83 rfl (lv_at hl 1 rfl) ?_
              refine va_get (D := D) (v := .ref (A 43)) (C := "RangeTellerModel") (T := rt_T6) (N := 69) hx hb hts rt_i6 hown hK hP 0 rfl rfl 62 (by decide) (hts _ (rt_m rt_w909)) (fun _ h9 => h9) rfl d_RangeTellerModel_pass_84 ?_
              refine lv_iload hx hb d_RangeTellerModel_pass_87 (lv_at hl 5 rfl) ?_
              obtain ⟨v101, h102, hm⟩ := rt_b1s hm
              refine rt_zld hx hb hK hP 43 1 rfl rfl h102 d_RangeTellerModel_pass_89 ?_
              refine lv_if_eq (tgt := 105) hx hb d_RangeTellerModel_pass_90 (by decide) (fun hc => ?_) (fun hc => ?_)
              · have hm := (if_pos hc).symm.trans hm
                exact hB105 ls l1 l2 l3 l4 ((10 * l1) + l4) σ _ _ (lv_sub hl [1, 2, 3, 4, 5, 0] rfl) hm hP hS
              · have hm := (if_neg hc).symm.trans hm
                refine lv_aload_n hx hb d_RangeTellerModel_pass_93 rfl (lv_at hl 1 rfl) ?_
                refine va_get (D := D) (v := .ref (A 30)) (C := "RangeTellerModel") (T := rt_T6) (N := 69) hx hb hts rt_i6 hown hK hP 0 rfl rfl 47 (by decide) (hts _ (rt_m rt_w894)) (fun _ h9 => h9) rfl d_RangeTellerModel_pass_94 ?_
                refine lv_iload hx hb d_RangeTellerModel_pass_97 (lv_at hl 0 rfl) ?_
                obtain ⟨v103, h104, hm⟩ := rt_b1s hm
                refine rt_zld hx hb hK hP 30 1 rfl rfl h104 d_RangeTellerModel_pass_99 ?_
                refine lv_if_ne (tgt := 105) hx hb d_RangeTellerModel_pass_100 (by decide) (fun hc => ?_) (fun hc => ?_)
                · have hm := (if_neg hc).symm.trans hm
                  exact hB105 ls l1 l2 l3 l4 ((10 * l1) + l4) σ _ _ (lv_sub hl [1, 2, 3, 4, 5, 0] rfl) hm hP hS
                · have hm := (if_pos hc).symm.trans hm
                  exact hB103 ls l1 l3 l4 ((10 * l1) + l4) σ _ _ (lv_sub hl [1, 2, 4, 5, 0] rfl) hm hP hS
  have hB14 : ∀ (ls : Array Slot) (l1 t0 : Int32) (σ : rt_St) (H : Heap) (locs : List Loc), lv_has ls 6 [(0, .ref (A 0)), (1, .int l1)] → B_R_RangeTellerModel_pass_14 l1 t0 σ = some σ' → va_P D rt_cl (rtR_W cI cZ A σ) H → va_S (rt_A (rtR_W cI cZ A) s.heap.size) s.heap H locs → W p l e ({ frames := 0, cells := 0, slots := 0, locals := 0 } : Room) s m ([.ref (A 0), .int a1] : List Value).toArray below meth c H locs 0 0 (rt_Qv D rt_cl (rt_t cI cZ) rtR_X (rtR_W cI cZ A) below ([.ref (A 0), .int a1] : List Value).toArray s σ') (F0 m 14 ls [.int t0]) := by
    intro ls l1 t0 σ H locs hl hm hP hS
    unfold B_R_RangeTellerModel_pass_14 at hm
    refine lv_istore_n hx hb d_RangeTellerModel_pass_14 rfl hl (by decide) rfl (fun ls hl => ?_)
    have hl : lv_has ls 6 [(2, .int t0), (0, .ref (A 0)), (1, .int l1)] := hl
    refine lv_aload_n hx hb d_RangeTellerModel_pass_15 rfl (lv_at hl 1 rfl) ?_
    refine va_get (D := D) (v := .ref (A 7)) (C := "RangeTellerModel") (T := rt_T6) (N := 69) hx hb hts rt_i6 hown hK hP 0 rfl rfl 12 (by decide) (hts _ (rt_m rt_w859)) (fun _ h9 => h9) rfl d_RangeTellerModel_pass_16 ?_
    refine lv_iload_n hx hb d_RangeTellerModel_pass_19 rfl (lv_at hl 2 rfl) ?_
    obtain ⟨v105, h106, hm⟩ := rt_b1s hm
    refine rt_ald hx hb hK hP 7 0 rfl rfl h106 d_RangeTellerModel_pass_20 ?_
    refine lv_istore_n hx hb d_RangeTellerModel_pass_21 rfl hl (by decide) rfl (fun ls hl => ?_)
    have hl : lv_has ls 6 [(3, .int v105), (2, .int t0), (0, .ref (A 0)), (1, .int l1)] := hl
    refine lv_iconst (v := 0) hx hb d_RangeTellerModel_pass_22 (by decide) ?_
    refine lv_istore hx hb d_RangeTellerModel_pass_23 hl (by decide) rfl (fun ls hl => ?_)
    have hl : lv_has ls 6 [(4, .int 0), (3, .int v105), (2, .int t0), (0, .ref (A 0)), (1, .int l1)] := hl
    exact hB25 _ ls l1 t0 v105 0 σ _ _ (lv_sub hl [3, 4, 2, 1, 0] rfl) hm hP hS
  unfold M_R_RangeTellerModel_pass at hm
  refine lv_aload_n hx hb d_RangeTellerModel_pass_0 rfl (lv_at hl 0 rfl) ?_
  refine va_get (D := D) (v := .ref (A 26)) (C := "RangeTellerModel") (T := rt_T6) (N := 69) hx hb hts rt_i6 hown hK hP 0 rfl rfl 43 (by decide) (hts _ (rt_m rt_w890)) (fun _ h9 => h9) rfl d_RangeTellerModel_pass_1 ?_
  refine lv_iload_n hx hb d_RangeTellerModel_pass_4 rfl (lv_at hl 1 rfl) ?_
  obtain ⟨v107, h108, hm⟩ := rt_b1s hm
  refine rt_zld hx hb hK hP 26 1 rfl rfl h108 d_RangeTellerModel_pass_5 ?_
  refine lv_if_ne (tgt := 13) hx hb d_RangeTellerModel_pass_6 (by decide) (fun hc => ?_) (fun hc => ?_)
  · have hm := (if_neg hc).symm.trans hm
    refine lv_iconst (v := 0) hx hb d_RangeTellerModel_pass_13 (by decide) ?_
    exact hB14 ls a1 0 σ _ _ (lv_sub hl [0, 1] rfl) hm hP hS
  · have hm := (if_pos hc).symm.trans hm
    refine lv_iconst (v := 1) hx hb d_RangeTellerModel_pass_9 (by decide) ?_
    refine lv_goto (tgt := 14) hx hb d_RangeTellerModel_pass_10 (by decide) ?_
    exact hB14 ls a1 1 σ _ _ (lv_sub hl [0, 1] rfl) hm hP hS
