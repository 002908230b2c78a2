set_option maxHeartbeats 4000000 in
set_option maxRecDepth 100000 in
theorem k_C_Reader_append (l : Launch) (D : va_G) (cI cZ : ClassId) (A : Nat → Nat) (hO : rt_Ok (rtC_W cI cZ A)) (σ : rt_St) (a1 : Int32) (r' : Int32) (σ' : rt_St) (hm : M_C_Reader_append σ a1 = some (r', σ')) (sz : Nat) : Met l y_Reader_append (rt_ws y_Reader_append b_Reader_append 2 (some .boolean)) ({ frames := 0, cells := 0, slots := 0, locals := 0 } : Room) (va_Pc [.ref (A 14), .int a1] (rt_P D rt_cl (rt_t cI cZ) rtC_X (rtC_W cI cZ A) sz σ)) (va_Qi (fun r1 u1 => r1 = r' ∧ u1 = σ') (rt_B D rt_cl (rt_t cI cZ) rtC_X (rtC_W cI cZ A)) (rt_A (rtC_W cI cZ A) sz)) 0 0 (rt_A (rtC_W cI cZ A) sz) := by
  refine Met.ofW (cc := b_Reader_append) (maxL := 2) (ret := (some .boolean)) (by decide) rfl ?_
  intro p e s m args below meth c s₁ B hml hv
  obtain ⟨rfl, rfl, hP, hK, hX⟩ := hv
  have hx := B.exec
  have hb := B.bytes
  have hr := B.returns
  have hts := atoms_spec (ws := (rt_ws y_Reader_append b_Reader_append 2 (some .boolean))) B.pre
  have hown : s.vm.findClass "RangeTeller$Reader" = some m.cls := findClass_of_methodNamed B.named
  have hlocks := B.notSynchronized
  have hD := rt_hD hO s.heap.size
  have hS : va_S (rt_A (rtC_W cI cZ A) s.heap.size) s.heap s.heap [] := va_S.rf
  have hl := lv_entry ([.ref (A 14), .int a1]) (n := 2) (Nat.le_of_ble_eq_true rfl)
  rw [lg_entry_eq]
  generalize (lg_sl ([.ref (A 14), .int a1]) ++ List.replicate (2 - (lg_sl ([.ref (A 14), .int a1])).length) Slot.unset).toArray = ls at hl ⊢
  have hl : lv_has ls 2 [(0, .ref (A 14)), (1, .int a1)] := hl
  show W p l e ({ frames := 0, cells := 0, slots := 0, locals := 0 } : Room) s m ([.ref (A 14), .int a1] : List Value).toArray below meth c s.heap [] 0 0 (rt_Qi D rt_cl (rt_t cI cZ) rtC_X (rtC_W cI cZ A) below ([.ref (A 14), .int a1] : List Value).toArray s r' σ') (F0 m 0 ls [])
  unfold M_C_Reader_append at hm
  refine lv_iload_n hx hb d_Reader_append_0 rfl (lv_at hl 1 rfl) ?_
  refine lv_if_lt (tgt := 19) hx hb d_Reader_append_1 (by decide) (fun hc => ?_) (fun hc => ?_)
  · have hm := (if_pos hc).symm.trans hm
    refine lv_iconst (v := 0) hx hb d_Reader_append_19 (by decide) ?_
    exact W.zret hx hb hr rfl (fun t ht hW => ⟨⟨_, _, rfl, rt_pr hm, rt_end rtC_Xo hK hP hS hX ht hW⟩, hS.F ht⟩) hS.2.2 d_Reader_append_20
  · have hm := (if_neg hc).symm.trans hm
    refine lv_iload_n hx hb d_Reader_append_4 rfl (lv_at hl 1 rfl) ?_
    refine lv_bipush (v := 64) hx hb d_Reader_append_5 (by decide) ?_
    refine lv_icmp_ge (tgt := 19) hx hb d_Reader_append_7 (by decide) (fun hc => ?_) (fun hc => ?_)
    · have hm := (if_pos hc).symm.trans hm
      refine lv_iconst (v := 0) hx hb d_Reader_append_19 (by decide) ?_
      exact W.zret hx hb hr rfl (fun t ht hW => ⟨⟨_, _, rfl, rt_pr hm, rt_end rtC_Xo hK hP hS hX ht hW⟩, hS.F ht⟩) hS.2.2 d_Reader_append_20
    · have hm := (if_neg hc).symm.trans hm
      refine lv_aload_n hx hb d_Reader_append_10 rfl (lv_at hl 0 rfl) ?_
      refine va_get (D := D) (v := .int (σ 14 3)) (C := "RangeTeller$Reader") (T := rt_T2) (N := 7) hx hb hts rt_i2 hown hK hP 14 rfl rfl 3 (by decide) (hts _ (rt_m rt_w210)) (fun _ h9 => h9) rfl d_Reader_append_11 ?_
      refine lv_bipush (v := 100) hx hb d_Reader_append_14 (by decide) ?_
      refine lv_icmp_lt (tgt := 21) hx hb d_Reader_append_16 (by decide) (fun hc => ?_) (fun hc => ?_)
      · have hm := (if_pos hc).symm.trans hm
        refine lv_aload_n hx hb d_Reader_append_21 rfl (lv_at hl 0 rfl) ?_
        refine va_get (D := D) (v := .ref (A 15)) (C := "RangeTeller$Reader") (T := rt_T2) (N := 7) hx hb hts rt_i2 hown hK hP 14 rfl rfl 1 (by decide) (hts _ (rt_m rt_w208)) (fun _ h9 => h9) rfl d_Reader_append_22 ?_
        refine lv_aload_n hx hb d_Reader_append_25 rfl (lv_at hl 0 rfl) ?_
        refine va_get (D := D) (v := .int (σ 14 3)) (C := "RangeTeller$Reader") (T := rt_T2) (N := 7) hx hb hts rt_i2 hown hK hP 14 rfl rfl 3 (by decide) (hts _ (rt_m rt_w210)) (fun _ h9 => h9) rfl d_Reader_append_26 ?_
        refine lv_iload_n hx hb d_Reader_append_29 rfl (lv_at hl 1 rfl) ?_
        obtain ⟨σ1, h2, hm⟩ := rt_b1s hm
        refine rt_ast hx hb hK hP hD hS 15 0 rfl (rtC_a15 cI cZ A _) rfl h2 d_Reader_append_30 (fun H locs hP hS => ?_)
        refine lv_aload_n hx hb d_Reader_append_31 rfl (lv_at hl 0 rfl) ?_
        refine lv_dup hx hb d_Reader_append_32 rfl ?_
        refine va_get (D := D) (v := .int (σ1 14 3)) (C := "RangeTeller$Reader") (T := rt_T2) (N := 7) hx hb hts rt_i2 hown hK hP 14 rfl rfl 3 (by decide) (hts _ (rt_m rt_w210)) (fun _ h9 => h9) rfl d_Reader_append_33 ?_
        refine lv_iconst (v := 1) hx hb d_Reader_append_36 (by decide) ?_
        refine lv_iadd hx hb d_Reader_append_37 ?_
        obtain ⟨σ3, h4, hm⟩ := rt_b1s hm
        refine rt_pf (D := D) (C := "RangeTeller$Reader") (T := rt_T2) (N := 7) (ty := .int) hx hb hts rt_i2 rt_y2 rt_o2 rt_n2 hown hK hP hD hS 14 rfl rfl 3 (by decide) (hts _ (rt_m rt_w210)) (fun _ h9 => h9) rfl (by decide +kernel) rfl rfl (Nat.le_of_ble_eq_true rfl) (rtC_s14_3 cI cZ A _ _) h4 d_Reader_append_38 (fun H locs hP hS => ?_)
        refine lv_iconst (v := 1) hx hb d_Reader_append_41 (by decide) ?_
        exact W.zret hx hb hr rfl (fun t ht hW => ⟨⟨_, _, rfl, rt_pr hm, rt_end rtC_Xo hK hP hS hX ht hW⟩, hS.F ht⟩) hS.2.2 d_Reader_append_42
      · have hm := (if_neg hc).symm.trans hm
        refine lv_iconst (v := 0) hx hb d_Reader_append_19 (by decide) ?_
        exact W.zret hx hb hr rfl (fun t ht hW => ⟨⟨_, _, rfl, rt_pr hm, rt_end rtC_Xo hK hP hS hX ht hW⟩, hS.F ht⟩) hS.2.2 d_Reader_append_20
set_option maxHeartbeats 4000000 in
set_option maxRecDepth 100000 in
theorem k_C_RangeTeller_feed (l : Launch) (D : va_G) (cI cZ : ClassId) (A : Nat → Nat) (hO : rt_Ok (rtC_W cI cZ A)) (σ : rt_St) (a1 : Int32) (r' : Int32) (σ' : rt_St) (hm : M_C_RangeTeller_feed σ a1 = some (r', σ')) (sz : Nat) : Met l y_RangeTeller_feed (rt_ws y_RangeTeller_feed b_RangeTeller_feed 2 (some .boolean)) ({ frames := 1, cells := 0, slots := 0, locals := 21 } : Room) (va_Pc [.ref (A 0), .int a1] (rt_P D rt_cl (rt_t cI cZ) rtC_X (rtC_W cI cZ A) sz σ)) (va_Qi (fun r1 u1 => r1 = r' ∧ u1 = σ') (rt_B D rt_cl (rt_t cI cZ) rtC_X (rtC_W cI cZ A)) (rt_A (rtC_W cI cZ A) sz)) 0 0 (rt_A (rtC_W cI cZ A) sz) := by
  refine Met.ofW (cc := b_RangeTeller_feed) (maxL := 2) (ret := (some .boolean)) (by decide) rfl ?_
  intro p e s m args below meth c s₁ B hml hv
  obtain ⟨rfl, rfl, hP, hK, hX⟩ := hv
  have hx := B.exec
  have hb := B.bytes
  have hr := B.returns
  have hts := atoms_spec (ws := (rt_ws y_RangeTeller_feed b_RangeTeller_feed 2 (some .boolean))) B.pre
  have hown : s.vm.findClass "RangeTeller" = some m.cls := findClass_of_methodNamed B.named
  have hlocks := B.notSynchronized
  have hD := rt_hD hO s.heap.size
  have hS : va_S (rt_A (rtC_W cI cZ A) s.heap.size) s.heap s.heap [] := va_S.rf
  have hl := lv_entry ([.ref (A 0), .int a1]) (n := 2) (Nat.le_of_ble_eq_true rfl)
  rw [lg_entry_eq]
  generalize (lg_sl ([.ref (A 0), .int a1]) ++ List.replicate (2 - (lg_sl ([.ref (A 0), .int a1])).length) Slot.unset).toArray = ls at hl ⊢
  have hl : lv_has ls 2 [(0, .ref (A 0)), (1, .int a1)] := hl
  show W p l e ({ frames := 1, cells := 0, slots := 0, locals := 21 } : Room) s m ([.ref (A 0), .int a1] : List Value).toArray below meth c s.heap [] 0 0 (rt_Qi D rt_cl (rt_t cI cZ) rtC_X (rtC_W cI cZ A) below ([.ref (A 0), .int a1] : List Value).toArray s r' σ') (F0 m 0 ls [])
  unfold M_C_RangeTeller_feed at hm
  refine lv_aload_n hx hb d_RangeTeller_feed_0 rfl (lv_at hl 0 rfl) ?_
  refine va_get (D := D) (v := .ref (A 14)) (C := "RangeTeller") (T := rt_T0) (N := 7) hx hb hts rt_i0 hown hK hP 0 rfl rfl 1 (by decide) (hts _ (rt_m rt_w379)) (fun _ h9 => h9) rfl d_RangeTeller_feed_1 ?_
  refine lv_iload_n hx hb d_RangeTeller_feed_4 rfl (lv_at hl 1 rfl) ?_
  obtain ⟨v3, σ2, h1, hm⟩ := rt_b2s hm
  refine rt_cvi (As := [.int a1]) (rest := []) (k := 14) rtC_Xo ⟨hx, hb, hml, hown, hts⟩ (k_C_Reader_append l D cI cZ A hO σ a1 _ _ h1) (cw_Reader_append hts (hts _ (rt_m rt_w404)) ⟨Nat.le_of_ble_eq_true rfl, Nat.le_of_ble_eq_true rfl⟩) hK hP hS hX rfl rfl rfl hl.1 rfl (Nat.le_of_ble_eq_true rfl) d_RangeTeller_feed_5 ⟨Nat.zero_le _, Nat.zero_le _⟩ (fun H locs hP hS => ?_)
  obtain ⟨_, h4, hm⟩ := rt_b1s hm
  exact W.zret hx hb hr (rt_zoks h4) (fun t ht hW => ⟨⟨_, _, rfl, rt_pr hm, rt_end rtC_Xo hK hP hS hX ht hW⟩, hS.F ht⟩) hS.2.2 d_RangeTeller_feed_8
set_option maxHeartbeats 4000000 in
set_option maxRecDepth 100000 in
theorem k_C_Runner_forget (l : Launch) (D : va_G) (cI cZ : ClassId) (A : Nat → Nat) (hO : rt_Ok (rtC_W cI cZ A)) (σ : rt_St) (σ' : rt_St) (hm : M_C_Runner_forget σ = some σ') (sz : Nat) : Met l y_Runner_forget (rt_ws y_Runner_forget b_Runner_forget 1 none) ({ frames := 0, cells := 0, slots := 0, locals := 0 } : Room) (va_Pc [.ref (A 21)] (rt_P D rt_cl (rt_t cI cZ) rtC_X (rtC_W cI cZ A) sz σ)) (va_Qv (fun u1 => u1 = σ') (rt_B D rt_cl (rt_t cI cZ) rtC_X (rtC_W cI cZ A)) (rt_A (rtC_W cI cZ A) sz)) 0 0 (rt_A (rtC_W cI cZ A) sz) := by
  refine Met.ofW (cc := b_Runner_forget) (maxL := 1) (ret := none) (by decide) rfl ?_
  intro p e s m args below meth c s₁ B hml hv
  obtain ⟨rfl, rfl, hP, hK, hX⟩ := hv
  have hx := B.exec
  have hb := B.bytes
  have hr := B.returns
  have hts := atoms_spec (ws := (rt_ws y_Runner_forget b_Runner_forget 1 none)) B.pre
  have hown : s.vm.findClass "RangeTeller$Runner" = some m.cls := findClass_of_methodNamed B.named
  have hlocks := B.notSynchronized
  have hD := rt_hD hO s.heap.size
  have hS : va_S (rt_A (rtC_W cI cZ A) s.heap.size) s.heap s.heap [] := va_S.rf
  have hl := lv_entry ([.ref (A 21)]) (n := 1) (Nat.le_of_ble_eq_true rfl)
  rw [lg_entry_eq]
  generalize (lg_sl ([.ref (A 21)]) ++ List.replicate (1 - (lg_sl ([.ref (A 21)])).length) Slot.unset).toArray = ls at hl ⊢
  have hl : lv_has ls 1 [(0, .ref (A 21))] := hl
  show W p l e ({ frames := 0, cells := 0, slots := 0, locals := 0 } : Room) s m ([.ref (A 21)] : List Value).toArray below meth c s.heap [] 0 0 (rt_Qv D rt_cl (rt_t cI cZ) rtC_X (rtC_W cI cZ A) below ([.ref (A 21)] : List Value).toArray s σ') (F0 m 0 ls [])
  unfold M_C_Runner_forget at hm
  refine lv_aload_n hx hb d_Runner_forget_0 rfl (lv_at hl 0 rfl) ?_
  refine lv_iconst (v := 0) hx hb d_Runner_forget_1 (by decide) ?_
  obtain ⟨σ1, h2, hm⟩ := rt_b1s hm
  refine rt_pf (D := D) (C := "RangeTeller$Runner") (T := rt_T4) (N := 18) (ty := .boolean) hx hb hts rt_i4 rt_y4 rt_o4 rt_n4 hown hK hP hD hS 21 rfl rfl 7 (by decide) (hts _ (rt_m rt_w274)) (fun _ h9 => h9) rfl (by decide +kernel) rfl rfl (Nat.le_of_ble_eq_true rfl) (rtC_s21_7 cI cZ A _ _) h2 d_Runner_forget_2 (fun H locs hP hS => ?_)
  exact W.vret hx hb hr (fun t ht hW => ⟨⟨_, rfl, Option.some.inj hm, rt_end rtC_Xo hK hP hS hX ht hW⟩, hS.F ht⟩) hS.2.2 d_Runner_forget_5
set_option maxHeartbeats 4000000 in
set_option maxRecDepth 100000 in
theorem k_C_Program_clear (l : Launch) (D : va_G) (cI cZ : ClassId) (A : Nat → Nat) (hO : rt_Ok (rtC_W cI cZ A)) (σ : rt_St) (σ' : rt_St) (hm : M_C_Program_clear σ = some σ') (sz : Nat) : Met l y_Program_clear (rt_ws y_Program_clear b_Program_clear 1 none) ({ frames := 0, cells := 0, slots := 0, locals := 0 } : Room) (va_Pc [.ref (A 1)] (rt_P D rt_cl (rt_t cI cZ) rtC_X (rtC_W cI cZ A) sz σ)) (va_Qv (fun u1 => u1 = σ') (rt_B D rt_cl (rt_t cI cZ) rtC_X (rtC_W cI cZ A)) (rt_A (rtC_W cI cZ A) sz)) 0 0 (rt_A (rtC_W cI cZ A) sz) := by
  refine Met.ofW (cc := b_Program_clear) (maxL := 1) (ret := none) (by decide) rfl ?_
  intro p e s m args below meth c s₁ B hml hv
  obtain ⟨rfl, rfl, hP, hK, hX⟩ := hv
  have hx := B.exec
  have hb := B.bytes
  have hr := B.returns
  have hts := atoms_spec (ws := (rt_ws y_Program_clear b_Program_clear 1 none)) B.pre
  have hown : s.vm.findClass "RangeTeller$Program" = some m.cls := findClass_of_methodNamed B.named
  have hlocks := B.notSynchronized
  have hD := rt_hD hO s.heap.size
  have hS : va_S (rt_A (rtC_W cI cZ A) s.heap.size) s.heap s.heap [] := va_S.rf
  have hl := lv_entry ([.ref (A 1)]) (n := 1) (Nat.le_of_ble_eq_true rfl)
  rw [lg_entry_eq]
  generalize (lg_sl ([.ref (A 1)]) ++ List.replicate (1 - (lg_sl ([.ref (A 1)])).length) Slot.unset).toArray = ls at hl ⊢
  have hl : lv_has ls 1 [(0, .ref (A 1))] := hl
  show W p l e ({ frames := 0, cells := 0, slots := 0, locals := 0 } : Room) s m ([.ref (A 1)] : List Value).toArray below meth c s.heap [] 0 0 (rt_Qv D rt_cl (rt_t cI cZ) rtC_X (rtC_W cI cZ A) below ([.ref (A 1)] : List Value).toArray s σ') (F0 m 0 ls [])
  unfold M_C_Program_clear at hm
  refine lv_aload_n hx hb d_Program_clear_0 rfl (lv_at hl 0 rfl) ?_
  refine lv_iconst (v := 0) hx hb d_Program_clear_1 (by decide) ?_
  obtain ⟨σ1, h2, hm⟩ := rt_b1s hm
  refine rt_pf (D := D) (C := "RangeTeller$Program") (T := rt_T1) (N := 14) (ty := .int) hx hb hts rt_i1 rt_y1 rt_o1 rt_n1 hown hK hP hD hS 1 rfl rfl 12 (by decide) (hts _ (rt_m rt_w164)) (fun _ h9 => h9) rfl (by decide +kernel) rfl rfl (Nat.le_of_ble_eq_true rfl) (rtC_s1_12 cI cZ A _ _) h2 d_Program_clear_2 (fun H locs hP hS => ?_)
  refine lv_aload_n hx hb d_Program_clear_5 rfl (lv_at hl 0 rfl) ?_
  refine lv_iconst (v := 0) hx hb d_Program_clear_6 (by decide) ?_
  obtain ⟨σ3, h4, hm⟩ := rt_b1s hm
  refine rt_pf (D := D) (C := "RangeTeller$Program") (T := rt_T1) (N := 14) (ty := .int) hx hb hts rt_i1 rt_y1 rt_o1 rt_n1 hown hK hP hD hS 1 rfl rfl 13 (by decide) (hts _ (rt_m rt_w168)) (fun _ h9 => h9) rfl (by decide +kernel) rfl rfl (Nat.le_of_ble_eq_true rfl) (rtC_s1_13 cI cZ A _ _) h4 d_Program_clear_7 (fun H locs hP hS => ?_)
  exact W.vret hx hb hr (fun t ht hW => ⟨⟨_, rfl, Option.some.inj hm, rt_end rtC_Xo hK hP hS hX ht hW⟩, hS.F ht⟩) hS.2.2 d_Program_clear_10
set_option maxHeartbeats 4000000 in
set_option maxRecDepth 100000 in
theorem k_C_Reader_readNumber (l : Launch) (D : va_G) (cI cZ : ClassId) (A : Nat → Nat) (hO : rt_Ok (rtC_W cI cZ A)) (σ : rt_St) (a1 a2 : Int32) (r' : Int32) (σ' : rt_St) (hm : M_C_Reader_readNumber σ a1 a2 = some (r', σ')) (sz : Nat) : Met l y_Reader_readNumber (rt_ws y_Reader_readNumber b_Reader_readNumber 4 (some .int)) ({ frames := 0, cells := 0, slots := 0, locals := 0 } : Room) (va_Pc [.ref (A 14), .int a1, .int a2] (rt_P D rt_cl (rt_t cI cZ) rtC_X (rtC_W cI cZ A) sz σ)) (va_Qi (fun r1 u1 => r1 = r' ∧ u1 = σ') (rt_B D rt_cl (rt_t cI cZ) rtC_X (rtC_W cI cZ A)) (rt_A (rtC_W cI cZ A) sz)) 0 0 (rt_A (rtC_W cI cZ A) sz) := by
  refine Met.ofW (cc := b_Reader_readNumber) (maxL := 4) (ret := (some .int)) (by decide) rfl ?_
  intro p e s m args below meth c s₁ B hml hv
  obtain ⟨rfl, rfl, hP, hK, hX⟩ := hv
  have hx := B.exec
  have hb := B.bytes
  have hr := B.returns
  have hts := atoms_spec (ws := (rt_ws y_Reader_readNumber b_Reader_readNumber 4 (some .int))) B.pre
  have hown : s.vm.findClass "RangeTeller$Reader" = some m.cls := findClass_of_methodNamed B.named
  have hlocks := B.notSynchronized
  have hD := rt_hD hO s.heap.size
  have hS : va_S (rt_A (rtC_W cI cZ A) s.heap.size) s.heap s.heap [] := va_S.rf
  have hl := lv_entry ([.ref (A 14), .int a1, .int a2]) (n := 4) (Nat.le_of_ble_eq_true rfl)
  rw [lg_entry_eq]
  generalize (lg_sl ([.ref (A 14), .int a1, .int a2]) ++ List.replicate (4 - (lg_sl ([.ref (A 14), .int a1, .int a2])).length) Slot.unset).toArray = ls at hl ⊢
  have hl : lv_has ls 4 [(0, .ref (A 14)), (1, .int a1), (2, .int a2)] := hl
  show W p l e ({ frames := 0, cells := 0, slots := 0, locals := 0 } : Room) s m ([.ref (A 14), .int a1, .int a2] : List Value).toArray below meth c s.heap [] 0 0 (rt_Qi D rt_cl (rt_t cI cZ) rtC_X (rtC_W cI cZ A) below ([.ref (A 14), .int a1, .int a2] : List Value).toArray s r' σ') (F0 m 0 ls [])
  have hB129 : ∀ (ls : Array Slot) (σ : rt_St) (H : Heap) (locs : List Loc), lv_has ls 4 [(0, .ref (A 14))] → B_C_Reader_readNumber_129 σ = some (r', σ') → va_P D rt_cl (rtC_W cI cZ A σ) H → va_S (rt_A (rtC_W cI cZ A) s.heap.size) s.heap H locs → W p l e ({ frames := 0, cells := 0, slots := 0, locals := 0 } : Room) s m ([.ref (A 14), .int a1, .int a2] : List Value).toArray below meth c H locs 0 0 (rt_Qi D rt_cl (rt_t cI cZ) rtC_X (rtC_W cI cZ A) below ([.ref (A 14), .int a1, .int a2] : List Value).toArray s r' σ') (F0 m 129 ls []) := by
    intro ls σ H locs hl hm hP hS
    unfold B_C_Reader_readNumber_129 at hm
    refine lv_aload_n hx hb d_Reader_readNumber_129 rfl (lv_at hl 0 rfl) ?_
    refine lv_aload_n hx hb d_Reader_readNumber_130 rfl (lv_at hl 0 rfl) ?_
    refine va_get (D := D) (v := .int (σ 14 4)) (C := "RangeTeller$Reader") (T := rt_T2) (N := 7) hx hb hts rt_i2 hown hK hP 14 rfl rfl 4 (by decide) (hts _ (rt_m rt_w211)) (fun _ h9 => h9) rfl d_Reader_readNumber_131 ?_
    refine lv_iconst (v := 1) hx hb d_Reader_readNumber_134 (by decide) ?_
    refine lv_isub hx hb d_Reader_readNumber_135 ?_
    obtain ⟨σ1, h2, hm⟩ := rt_b1s hm
    refine rt_pf (D := D) (C := "RangeTeller$Reader") (T := rt_T2) (N := 7) (ty := .int) hx hb hts rt_i2 rt_y2 rt_o2 rt_n2 hown hK hP hD hS 14 rfl rfl 6 (by decide) (hts _ (rt_m rt_w213)) (fun _ h9 => h9) rfl (by decide +kernel) rfl rfl (Nat.le_of_ble_eq_true rfl) (rtC_s14_6 cI cZ A _ _) h2 d_Reader_readNumber_136 (fun H locs hP hS => ?_)
    refine lv_iconst (v := 0) hx hb d_Reader_readNumber_139 (by decide) ?_
    exact W.iret hx hb hr (fun t ht hW => ⟨⟨_, _, rfl, rt_pr hm, rt_end rtC_Xo hK hP hS hX ht hW⟩, hS.F ht⟩) hS.2.2 d_Reader_readNumber_140
  have hB119 : ∀ (ls : Array Slot) (l1 l2 l3 : Int32) (σ : rt_St) (H : Heap) (locs : List Loc), lv_has ls 4 [(0, .ref (A 14)), (1, .int l1), (2, .int l2), (3, .int l3)] → B_C_Reader_readNumber_119 l1 l2 l3 σ = some (r', σ') → va_P D rt_cl (rtC_W cI cZ A σ) H → va_S (rt_A (rtC_W cI cZ A) s.heap.size) s.heap H locs → W p l e ({ frames := 0, cells := 0, slots := 0, locals := 0 } : Room) s m ([.ref (A 14), .int a1, .int a2] : List Value).toArray below meth c H locs 0 0 (rt_Qi D rt_cl (rt_t cI cZ) rtC_X (rtC_W cI cZ A) below ([.ref (A 14), .int a1, .int a2] : List Value).toArray s r' σ') (F0 m 119 ls []) := by
    intro ls l1 l2 l3 σ H locs hl hm hP hS
    unfold B_C_Reader_readNumber_119 at hm
    refine lv_iload_n hx hb d_Reader_readNumber_119 rfl (lv_at hl 3 rfl) ?_
    refine lv_iload_n hx hb d_Reader_readNumber_120 rfl (lv_at hl 1 rfl) ?_
    refine lv_icmp_lt (tgt := 129) hx hb d_Reader_readNumber_121 (by decide) (fun hc => ?_) (fun hc => ?_)
    · have hm := (if_pos hc).symm.trans hm
      exact hB129 ls σ _ _ (lv_sub hl [0] rfl) hm hP hS
    · have hm := (if_neg hc).symm.trans hm
      refine lv_iload_n hx hb d_Reader_readNumber_124 rfl (lv_at hl 3 rfl) ?_
      refine lv_iload_n hx hb d_Reader_readNumber_125 rfl (lv_at hl 2 rfl) ?_
      refine lv_icmp_le (tgt := 141) hx hb d_Reader_readNumber_126 (by decide) (fun hc => ?_) (fun hc => ?_)
      · have hm := (if_pos hc).symm.trans hm
        refine lv_iload_n hx hb d_Reader_readNumber_141 rfl (lv_at hl 3 rfl) ?_
        exact W.iret hx hb hr (fun t ht hW => ⟨⟨_, _, rfl, rt_pr hm, rt_end rtC_Xo hK hP hS hX ht hW⟩, hS.F ht⟩) hS.2.2 d_Reader_readNumber_142
      · have hm := (if_neg hc).symm.trans hm
        exact hB129 ls σ _ _ (lv_sub hl [0] rfl) hm hP hS
  have hB82 : ∀ (ls : Array Slot) (σ : rt_St) (H : Heap) (locs : List Loc), lv_has ls 4 [(0, .ref (A 14))] → B_C_Reader_readNumber_82 σ = some (r', σ') → va_P D rt_cl (rtC_W cI cZ A σ) H → va_S (rt_A (rtC_W cI cZ A) s.heap.size) s.heap H locs → W p l e ({ frames := 0, cells := 0, slots := 0, locals := 0 } : Room) s m ([.ref (A 14), .int a1, .int a2] : List Value).toArray below meth c H locs 0 0 (rt_Qi D rt_cl (rt_t cI cZ) rtC_X (rtC_W cI cZ A) below ([.ref (A 14), .int a1, .int a2] : List Value).toArray s r' σ') (F0 m 82 ls []) := by
    intro ls σ H locs hl hm hP hS
    unfold B_C_Reader_readNumber_82 at hm
    refine lv_aload_n hx hb d_Reader_readNumber_82 rfl (lv_at hl 0 rfl) ?_
    refine lv_aload_n hx hb d_Reader_readNumber_83 rfl (lv_at hl 0 rfl) ?_
    refine va_get (D := D) (v := .int (σ 14 4)) (C := "RangeTeller$Reader") (T := rt_T2) (N := 7) hx hb hts rt_i2 hown hK hP 14 rfl rfl 4 (by decide) (hts _ (rt_m rt_w211)) (fun _ h9 => h9) rfl d_Reader_readNumber_84 ?_
    obtain ⟨σ3, h4, hm⟩ := rt_b1s hm
    refine rt_pf (D := D) (C := "RangeTeller$Reader") (T := rt_T2) (N := 7) (ty := .int) hx hb hts rt_i2 rt_y2 rt_o2 rt_n2 hown hK hP hD hS 14 rfl rfl 6 (by decide) (hts _ (rt_m rt_w213)) (fun _ h9 => h9) rfl (by decide +kernel) rfl rfl (Nat.le_of_ble_eq_true rfl) (rtC_s14_6 cI cZ A _ _) h4 d_Reader_readNumber_87 (fun H locs hP hS => ?_)
    refine lv_iconst (v := 0) hx hb d_Reader_readNumber_90 (by decide) ?_
    exact W.iret hx hb hr (fun t ht hW => ⟨⟨_, _, rfl, rt_pr hm, rt_end rtC_Xo hK hP hS hX ht hW⟩, hS.F ht⟩) hS.2.2 d_Reader_readNumber_91
  unfold M_C_Reader_readNumber at hm
  refine lv_aload_n hx hb d_Reader_readNumber_0 rfl (lv_at hl 0 rfl) ?_
  refine va_get (D := D) (v := .int (σ 14 6)) (C := "RangeTeller$Reader") (T := rt_T2) (N := 7) hx hb hts rt_i2 hown hK hP 14 rfl rfl 6 (by decide) (hts _ (rt_m rt_w213)) (fun _ h9 => h9) rfl d_Reader_readNumber_1 ?_
  refine lv_bipush (v := (-3)) hx hb d_Reader_readNumber_4 (by decide) ?_
  refine lv_icmp_eq (tgt := 11) hx hb d_Reader_readNumber_6 (by decide) (fun hc => ?_) (fun hc => ?_)
  · have hm := (if_pos hc).symm.trans hm
    refine lv_aload_n hx hb d_Reader_readNumber_11 rfl (lv_at hl 0 rfl) ?_
    refine va_get (D := D) (v := .int (σ 14 4)) (C := "RangeTeller$Reader") (T := rt_T2) (N := 7) hx hb hts rt_i2 hown hK hP 14 rfl rfl 4 (by decide) (hts _ (rt_m rt_w211)) (fun _ h9 => h9) rfl d_Reader_readNumber_12 ?_
    refine lv_aload_n hx hb d_Reader_readNumber_15 rfl (lv_at hl 0 rfl) ?_
    refine va_get (D := D) (v := .int (σ 14 3)) (C := "RangeTeller$Reader") (T := rt_T2) (N := 7) hx hb hts rt_i2 hown hK hP 14 rfl rfl 3 (by decide) (hts _ (rt_m rt_w210)) (fun _ h9 => h9) rfl d_Reader_readNumber_16 ?_
    refine lv_icmp_lt (tgt := 32) hx hb d_Reader_readNumber_19 (by decide) (fun hc => ?_) (fun hc => ?_)
    · have hm := (if_pos hc).symm.trans hm
      refine lv_aload_n hx hb d_Reader_readNumber_32 rfl (lv_at hl 0 rfl) ?_
      refine va_get (D := D) (v := .ref (A 15)) (C := "RangeTeller$Reader") (T := rt_T2) (N := 7) hx hb hts rt_i2 hown hK hP 14 rfl rfl 1 (by decide) (hts _ (rt_m rt_w208)) (fun _ h9 => h9) rfl d_Reader_readNumber_33 ?_
      refine lv_aload_n hx hb d_Reader_readNumber_36 rfl (lv_at hl 0 rfl) ?_
      refine va_get (D := D) (v := .int (σ 14 4)) (C := "RangeTeller$Reader") (T := rt_T2) (N := 7) hx hb hts rt_i2 hown hK hP 14 rfl rfl 4 (by decide) (hts _ (rt_m rt_w211)) (fun _ h9 => h9) rfl d_Reader_readNumber_37 ?_
      obtain ⟨v5, h6, hm⟩ := rt_b1s hm
      refine rt_ald hx hb hK hP 15 0 rfl rfl h6 d_Reader_readNumber_40 ?_
      refine lv_istore_n hx hb d_Reader_readNumber_41 rfl hl (by decide) rfl (fun ls hl => ?_)
      have hl : lv_has ls 4 [(3, .int v5), (0, .ref (A 14)), (1, .int a1), (2, .int a2)] := hl
      refine lv_aload_n hx hb d_Reader_readNumber_42 rfl (lv_at hl 1 rfl) ?_
      refine lv_dup hx hb d_Reader_readNumber_43 rfl ?_
      refine va_get (D := D) (v := .int (σ 14 4)) (C := "RangeTeller$Reader") (T := rt_T2) (N := 7) hx hb hts rt_i2 hown hK hP 14 rfl rfl 4 (by decide) (hts _ (rt_m rt_w211)) (fun _ h9 => h9) rfl d_Reader_readNumber_44 ?_
      refine lv_iconst (v := 1) hx hb d_Reader_readNumber_47 (by decide) ?_
      refine lv_iadd hx hb d_Reader_readNumber_48 ?_
      obtain ⟨σ7, h8, hm⟩ := rt_b1s hm
      refine rt_pf (D := D) (C := "RangeTeller$Reader") (T := rt_T2) (N := 7) (ty := .int) hx hb hts rt_i2 rt_y2 rt_o2 rt_n2 hown hK hP hD hS 14 rfl rfl 4 (by decide) (hts _ (rt_m rt_w211)) (fun _ h9 => h9) rfl (by decide +kernel) rfl rfl (Nat.le_of_ble_eq_true rfl) (rtC_s14_4 cI cZ A _ _) h8 d_Reader_readNumber_49 (fun H locs hP hS => ?_)
      refine lv_iload_n hx hb d_Reader_readNumber_52 rfl (lv_at hl 0 rfl) ?_
      refine lv_bipush (v := 32) hx hb d_Reader_readNumber_53 (by decide) ?_
      refine lv_icmp_lt (tgt := 119) hx hb d_Reader_readNumber_55 (by decide) (fun hc => ?_) (fun hc => ?_)
      · have hm := (if_pos hc).symm.trans hm
        exact hB119 ls a1 a2 v5 σ7 _ _ (lv_sub hl [1, 2, 3, 0] rfl) hm hP hS
      · have hm := (if_neg hc).symm.trans hm
        refine lv_aload_n hx hb d_Reader_readNumber_58 rfl (lv_at hl 1 rfl) ?_
        refine va_get (D := D) (v := .int (σ7 14 4)) (C := "RangeTeller$Reader") (T := rt_T2) (N := 7) hx hb hts rt_i2 hown hK hP 14 rfl rfl 4 (by decide) (hts _ (rt_m rt_w211)) (fun _ h9 => h9) rfl d_Reader_readNumber_59 ?_
        refine lv_aload_n hx hb d_Reader_readNumber_62 rfl (lv_at hl 1 rfl) ?_
        refine va_get (D := D) (v := .int (σ7 14 3)) (C := "RangeTeller$Reader") (T := rt_T2) (N := 7) hx hb hts rt_i2 hown hK hP 14 rfl rfl 3 (by decide) (hts _ (rt_m rt_w210)) (fun _ h9 => h9) rfl d_Reader_readNumber_63 ?_
        refine lv_icmp_ge (tgt := 82) hx hb d_Reader_readNumber_66 (by decide) (fun hc => ?_) (fun hc => ?_)
        · have hm := (if_pos hc).symm.trans hm
          exact hB82 ls σ7 _ _ (lv_sub hl [1] rfl) hm hP hS
        · have hm := (if_neg hc).symm.trans hm
          refine lv_aload_n hx hb d_Reader_readNumber_69 rfl (lv_at hl 1 rfl) ?_
          refine va_get (D := D) (v := .ref (A 15)) (C := "RangeTeller$Reader") (T := rt_T2) (N := 7) hx hb hts rt_i2 hown hK hP 14 rfl rfl 1 (by decide) (hts _ (rt_m rt_w208)) (fun _ h9 => h9) rfl d_Reader_readNumber_70 ?_
          refine lv_aload_n hx hb d_Reader_readNumber_73 rfl (lv_at hl 1 rfl) ?_
          refine va_get (D := D) (v := .int (σ7 14 4)) (C := "RangeTeller$Reader") (T := rt_T2) (N := 7) hx hb hts rt_i2 hown hK hP 14 rfl rfl 4 (by decide) (hts _ (rt_m rt_w211)) (fun _ h9 => h9) rfl d_Reader_readNumber_74 ?_
          obtain ⟨v9, h10, hm⟩ := rt_b1s hm
          refine rt_ald hx hb hK hP 15 0 rfl rfl h10 d_Reader_readNumber_77 ?_
          refine lv_iconst (v := 1) hx hb d_Reader_readNumber_78 (by decide) ?_
          refine lv_icmp_le (tgt := 92) hx hb d_Reader_readNumber_79 (by decide) (fun hc => ?_) (fun hc => ?_)
          · have hm := (if_pos hc).symm.trans hm
            refine lv_iload_n hx hb d_Reader_readNumber_92 rfl (lv_at hl 0 rfl) ?_
            refine lv_bipush (v := 32) hx hb d_Reader_readNumber_93 (by decide) ?_
            refine lv_aload_n hx hb d_Reader_readNumber_95 rfl (lv_at hl 1 rfl) ?_
            refine va_get (D := D) (v := .ref (A 15)) (C := "RangeTeller$Reader") (T := rt_T2) (N := 7) hx hb hts rt_i2 hown hK hP 14 rfl rfl 1 (by decide) (hts _ (rt_m rt_w208)) (fun _ h9 => h9) rfl d_Reader_readNumber_96 ?_
            refine lv_aload_n hx hb d_Reader_readNumber_99 rfl (lv_at hl 1 rfl) ?_
            refine va_get (D := D) (v := .int (σ7 14 4)) (C := "RangeTeller$Reader") (T := rt_T2) (N := 7) hx hb hts rt_i2 hown hK hP 14 rfl rfl 4 (by decide) (hts _ (rt_m rt_w211)) (fun _ h9 => h9) rfl d_Reader_readNumber_100 ?_
            obtain ⟨v11, h12, hm⟩ := rt_b1s hm
            refine rt_ald hx hb hK hP 15 0 rfl rfl h12 d_Reader_readNumber_103 ?_
            refine lv_iconst (v := 1) hx hb d_Reader_readNumber_104 (by decide) ?_
            refine lv_isub hx hb d_Reader_readNumber_105 ?_
            refine lv_imul hx hb d_Reader_readNumber_106 ?_
            refine lv_iadd hx hb d_Reader_readNumber_107 ?_
            refine lv_istore_n hx hb d_Reader_readNumber_108 rfl hl (by decide) rfl (fun ls hl => ?_)
            have hl : lv_has ls 4 [(3, .int (v5 + (32 * (v11 - 1)))), (0, .ref (A 14)), (1, .int a1), (2, .int a2)] := hl
            refine lv_aload_n hx hb d_Reader_readNumber_109 rfl (lv_at hl 1 rfl) ?_
            refine lv_dup hx hb d_Reader_readNumber_110 rfl ?_
            refine va_get (D := D) (v := .int (σ7 14 4)) (C := "RangeTeller$Reader") (T := rt_T2) (N := 7) hx hb hts rt_i2 hown hK hP 14 rfl rfl 4 (by decide) (hts _ (rt_m rt_w211)) (fun _ h9 => h9) rfl d_Reader_readNumber_111 ?_
            refine lv_iconst (v := 1) hx hb d_Reader_readNumber_114 (by decide) ?_
            refine lv_iadd hx hb d_Reader_readNumber_115 ?_
            obtain ⟨σ13, h14, hm⟩ := rt_b1s hm
            refine rt_pf (D := D) (C := "RangeTeller$Reader") (T := rt_T2) (N := 7) (ty := .int) hx hb hts rt_i2 rt_y2 rt_o2 rt_n2 hown hK hP hD hS 14 rfl rfl 4 (by decide) (hts _ (rt_m rt_w211)) (fun _ h9 => h9) rfl (by decide +kernel) rfl rfl (Nat.le_of_ble_eq_true rfl) (rtC_s14_4 cI cZ A _ _) h14 d_Reader_readNumber_116 (fun H locs hP hS => ?_)
            exact hB119 ls a1 a2 (v5 + (32 * (v11 - 1))) σ13 _ _ (lv_sub hl [1, 2, 3, 0] rfl) hm hP hS
          · have hm := (if_neg hc).symm.trans hm
            exact hB82 ls σ7 _ _ (lv_sub hl [1] rfl) hm hP hS
    · have hm := (if_neg hc).symm.trans hm
      refine lv_aload_n hx hb d_Reader_readNumber_22 rfl (lv_at hl 0 rfl) ?_
      refine lv_aload_n hx hb d_Reader_readNumber_23 rfl (lv_at hl 0 rfl) ?_
      refine va_get (D := D) (v := .int (σ 14 4)) (C := "RangeTeller$Reader") (T := rt_T2) (N := 7) hx hb hts rt_i2 hown hK hP 14 rfl rfl 4 (by decide) (hts _ (rt_m rt_w211)) (fun _ h9 => h9) rfl d_Reader_readNumber_24 ?_
      obtain ⟨σ15, h16, hm⟩ := rt_b1s hm
      refine rt_pf (D := D) (C := "RangeTeller$Reader") (T := rt_T2) (N := 7) (ty := .int) hx hb hts rt_i2 rt_y2 rt_o2 rt_n2 hown hK hP hD hS 14 rfl rfl 6 (by decide) (hts _ (rt_m rt_w213)) (fun _ h9 => h9) rfl (by decide +kernel) rfl rfl (Nat.le_of_ble_eq_true rfl) (rtC_s14_6 cI cZ A _ _) h16 d_Reader_readNumber_27 (fun H locs hP hS => ?_)
      refine lv_iconst (v := 0) hx hb d_Reader_readNumber_30 (by decide) ?_
      exact W.iret hx hb hr (fun t ht hW => ⟨⟨_, _, rfl, rt_pr hm, rt_end rtC_Xo hK hP hS hX ht hW⟩, hS.F ht⟩) hS.2.2 d_Reader_readNumber_31
  · have hm := (if_neg hc).symm.trans hm
    refine lv_iconst (v := 0) hx hb d_Reader_readNumber_9 (by decide) ?_
    exact W.iret hx hb hr (fun t ht hW => ⟨⟨_, _, rfl, rt_pr hm, rt_end rtC_Xo hK hP hS hX ht hW⟩, hS.F ht⟩) hS.2.2 d_Reader_readNumber_10
set_option maxHeartbeats 4000000 in
set_option maxRecDepth 100000 in
theorem k_C_Program_addFunction (l : Launch) (D : va_G) (cI cZ : ClassId) (A : Nat → Nat) (hO : rt_Ok (rtC_W cI cZ A)) (σ : rt_St) (a1 a2 a3 : Int32) (σ' : rt_St) (hm : M_C_Program_addFunction σ a1 a2 a3 = some σ') (sz : Nat) : Met l y_Program_addFunction (rt_ws y_Program_addFunction b_Program_addFunction 4 none) ({ frames := 0, cells := 0, slots := 0, locals := 0 } : Room) (va_Pc [.ref (A 1), .int a1, .int a2, .int a3] (rt_P D rt_cl (rt_t cI cZ) rtC_X (rtC_W cI cZ A) sz σ)) (va_Qv (fun u1 => u1 = σ') (rt_B D rt_cl (rt_t cI cZ) rtC_X (rtC_W cI cZ A)) (rt_A (rtC_W cI cZ A) sz)) 0 0 (rt_A (rtC_W cI cZ A) sz) := by
  refine Met.ofW (cc := b_Program_addFunction) (maxL := 4) (ret := none) (by decide) rfl ?_
  intro p e s m args below meth c s₁ B hml hv
  obtain ⟨rfl, rfl, hP, hK, hX⟩ := hv
  have hx := B.exec
  have hb := B.bytes
  have hr := B.returns
  have hts := atoms_spec (ws := (rt_ws y_Program_addFunction b_Program_addFunction 4 none)) B.pre
  have hown : s.vm.findClass "RangeTeller$Program" = some m.cls := findClass_of_methodNamed B.named
  have hlocks := B.notSynchronized
  have hD := rt_hD hO s.heap.size
  have hS : va_S (rt_A (rtC_W cI cZ A) s.heap.size) s.heap s.heap [] := va_S.rf
  have hl := lv_entry ([.ref (A 1), .int a1, .int a2, .int a3]) (n := 4) (Nat.le_of_ble_eq_true rfl)
  rw [lg_entry_eq]
  generalize (lg_sl ([.ref (A 1), .int a1, .int a2, .int a3]) ++ List.replicate (4 - (lg_sl ([.ref (A 1), .int a1, .int a2, .int a3])).length) Slot.unset).toArray = ls at hl ⊢
  have hl : lv_has ls 4 [(0, .ref (A 1)), (1, .int a1), (2, .int a2), (3, .int a3)] := hl
  show W p l e ({ frames := 0, cells := 0, slots := 0, locals := 0 } : Room) s m ([.ref (A 1), .int a1, .int a2, .int a3] : List Value).toArray below meth c s.heap [] 0 0 (rt_Qv D rt_cl (rt_t cI cZ) rtC_X (rtC_W cI cZ A) below ([.ref (A 1), .int a1, .int a2, .int a3] : List Value).toArray s σ') (F0 m 0 ls [])
  unfold M_C_Program_addFunction at hm
  refine lv_aload_n hx hb d_Program_addFunction_0 rfl (lv_at hl 0 rfl) ?_
  refine va_get (D := D) (v := .ref (A 10)) (C := "RangeTeller$Program") (T := rt_T1) (N := 14) hx hb hts rt_i1 hown hK hP 1 rfl rfl 8 (by decide) (hts _ (rt_m rt_w148)) (fun _ h9 => h9) rfl d_Program_addFunction_1 ?_
  refine lv_aload_n hx hb d_Program_addFunction_4 rfl (lv_at hl 0 rfl) ?_
  refine va_get (D := D) (v := .int (σ 1 13)) (C := "RangeTeller$Program") (T := rt_T1) (N := 14) hx hb hts rt_i1 hown hK hP 1 rfl rfl 13 (by decide) (hts _ (rt_m rt_w168)) (fun _ h9 => h9) rfl d_Program_addFunction_5 ?_
  refine lv_aload_n hx hb d_Program_addFunction_8 rfl (lv_at hl 0 rfl) ?_
  refine va_get (D := D) (v := .int (σ 1 12)) (C := "RangeTeller$Program") (T := rt_T1) (N := 14) hx hb hts rt_i1 hown hK hP 1 rfl rfl 12 (by decide) (hts _ (rt_m rt_w164)) (fun _ h9 => h9) rfl d_Program_addFunction_9 ?_
  obtain ⟨σ1, h2, hm⟩ := rt_b1s hm
  refine rt_ast hx hb hK hP hD hS 10 0 rfl (rtC_a10 cI cZ A _) rfl h2 d_Program_addFunction_12 (fun H locs hP hS => ?_)
  refine lv_aload_n hx hb d_Program_addFunction_13 rfl (lv_at hl 0 rfl) ?_
  refine va_get (D := D) (v := .ref (A 11)) (C := "RangeTeller$Program") (T := rt_T1) (N := 14) hx hb hts rt_i1 hown hK hP 1 rfl rfl 9 (by decide) (hts _ (rt_m rt_w153)) (fun _ h9 => h9) rfl d_Program_addFunction_14 ?_
  refine lv_aload_n hx hb d_Program_addFunction_17 rfl (lv_at hl 0 rfl) ?_
  refine va_get (D := D) (v := .int (σ1 1 13)) (C := "RangeTeller$Program") (T := rt_T1) (N := 14) hx hb hts rt_i1 hown hK hP 1 rfl rfl 13 (by decide) (hts _ (rt_m rt_w168)) (fun _ h9 => h9) rfl d_Program_addFunction_18 ?_
  refine lv_iload_n hx hb d_Program_addFunction_21 rfl (lv_at hl 1 rfl) ?_
  obtain ⟨σ3, h4, hm⟩ := rt_b1s hm
  refine rt_ast hx hb hK hP hD hS 11 0 rfl (rtC_a11 cI cZ A _) rfl h4 d_Program_addFunction_22 (fun H locs hP hS => ?_)
  refine lv_aload_n hx hb d_Program_addFunction_23 rfl (lv_at hl 0 rfl) ?_
  refine va_get (D := D) (v := .ref (A 12)) (C := "RangeTeller$Program") (T := rt_T1) (N := 14) hx hb hts rt_i1 hown hK hP 1 rfl rfl 10 (by decide) (hts _ (rt_m rt_w158)) (fun _ h9 => h9) rfl d_Program_addFunction_24 ?_
  refine lv_aload_n hx hb d_Program_addFunction_27 rfl (lv_at hl 0 rfl) ?_
  refine va_get (D := D) (v := .int (σ3 1 13)) (C := "RangeTeller$Program") (T := rt_T1) (N := 14) hx hb hts rt_i1 hown hK hP 1 rfl rfl 13 (by decide) (hts _ (rt_m rt_w168)) (fun _ h9 => h9) rfl d_Program_addFunction_28 ?_
  refine lv_iload_n hx hb d_Program_addFunction_31 rfl (lv_at hl 2 rfl) ?_
  obtain ⟨σ5, h6, hm⟩ := rt_b1s hm
  refine rt_ast hx hb hK hP hD hS 12 0 rfl (rtC_a12 cI cZ A _) rfl h6 d_Program_addFunction_32 (fun H locs hP hS => ?_)
  refine lv_aload_n hx hb d_Program_addFunction_33 rfl (lv_at hl 0 rfl) ?_
  refine va_get (D := D) (v := .ref (A 13)) (C := "RangeTeller$Program") (T := rt_T1) (N := 14) hx hb hts rt_i1 hown hK hP 1 rfl rfl 11 (by decide) (hts _ (rt_m rt_w160)) (fun _ h9 => h9) rfl d_Program_addFunction_34 ?_
  refine lv_aload_n hx hb d_Program_addFunction_37 rfl (lv_at hl 0 rfl) ?_
  refine va_get (D := D) (v := .int (σ5 1 13)) (C := "RangeTeller$Program") (T := rt_T1) (N := 14) hx hb hts rt_i1 hown hK hP 1 rfl rfl 13 (by decide) (hts _ (rt_m rt_w168)) (fun _ h9 => h9) rfl d_Program_addFunction_38 ?_
  refine lv_iload_n hx hb d_Program_addFunction_41 rfl (lv_at hl 3 rfl) ?_
  obtain ⟨σ7, h8, hm⟩ := rt_b1s hm
  refine rt_ast hx hb hK hP hD hS 13 0 rfl (rtC_a13 cI cZ A _) rfl h8 d_Program_addFunction_42 (fun H locs hP hS => ?_)
  refine lv_aload_n hx hb d_Program_addFunction_43 rfl (lv_at hl 0 rfl) ?_
  refine lv_dup hx hb d_Program_addFunction_44 rfl ?_
  refine va_get (D := D) (v := .int (σ7 1 13)) (C := "RangeTeller$Program") (T := rt_T1) (N := 14) hx hb hts rt_i1 hown hK hP 1 rfl rfl 13 (by decide) (hts _ (rt_m rt_w168)) (fun _ h9 => h9) rfl d_Program_addFunction_45 ?_
  refine lv_iconst (v := 1) hx hb d_Program_addFunction_48 (by decide) ?_
  refine lv_iadd hx hb d_Program_addFunction_49 ?_
  obtain ⟨σ9, h10, hm⟩ := rt_b1s hm
  refine rt_pf (D := D) (C := "RangeTeller$Program") (T := rt_T1) (N := 14) (ty := .int) hx hb hts rt_i1 rt_y1 rt_o1 rt_n1 hown hK hP hD hS 1 rfl rfl 13 (by decide) (hts _ (rt_m rt_w168)) (fun _ h9 => h9) rfl (by decide +kernel) rfl rfl (Nat.le_of_ble_eq_true rfl) (rtC_s1_13 cI cZ A _ _) h10 d_Program_addFunction_50 (fun H locs hP hS => ?_)
  exact W.vret hx hb hr (fun t ht hW => ⟨⟨_, rfl, Option.some.inj hm, rt_end rtC_Xo hK hP hS hX ht hW⟩, hS.F ht⟩) hS.2.2 d_Program_addFunction_53
set_option maxHeartbeats 4000000 in
set_option maxRecDepth 100000 in
theorem k_C_Ops_isOp (l : Launch) (a0 : Int32) (r' : Int32) (hm : M_C_Ops_isOp a0 = some r') : rt_MS l y_Ops_isOp b_Ops_isOp 1 (some .boolean) ({ frames := 0, cells := 0, slots := 0, locals := 0 } : Room) rt_X0 [.int a0] r' := by
  intro sz
  refine Met.ofW (cc := b_Ops_isOp) (maxL := 1) (ret := (some .boolean)) (by decide) rfl ?_
  intro p e s m args below meth c s₁ B hml hv
  obtain ⟨rfl, rfl, hX⟩ := hv
  have hx := B.exec
  have hb := B.bytes
  have hr := B.returns
  have hts := atoms_spec (ws := (rt_ws y_Ops_isOp b_Ops_isOp 1 (some .boolean))) B.pre
  have hown : s.vm.findClass "RangeTeller$Ops" = some m.cls := findClass_of_methodNamed B.named
  have hlocks := B.notSynchronized
  have hS : va_S (fun q => s.heap.size ≤ q) s.heap s.heap [] := va_S.rf
  have hl := lv_entry ([.int a0]) (n := 1) (Nat.le_of_ble_eq_true rfl)
  rw [lg_entry_eq]
  generalize (lg_sl ([.int a0]) ++ List.replicate (1 - (lg_sl ([.int a0])).length) Slot.unset).toArray = ls at hl ⊢
  have hl : lv_has ls 1 [(0, .int a0)] := hl
  show W p l e ({ frames := 0, cells := 0, slots := 0, locals := 0 } : Room) s m ([.int a0] : List Value).toArray below meth c s.heap [] 0 0 (rt_Qs below ([.int a0] : List Value).toArray s r') (F0 m 0 ls [])
  unfold M_C_Ops_isOp at hm
  refine lv_iload_n hx hb d_Ops_isOp_0 rfl (lv_at hl 0 rfl) ?_
  refine lv_if_lt (tgt := 14) hx hb d_Ops_isOp_1 (by decide) (fun hc => ?_) (fun hc => ?_)
  · have hm := (if_pos hc).symm.trans hm
    refine lv_iconst (v := 0) hx hb d_Ops_isOp_14 (by decide) ?_
    exact W.zret hx hb hr rfl (fun t ht hW => ⟨⟨_, (), rfl, Option.some.inj hm, trivial⟩, hS.F ht⟩) hS.2.2 d_Ops_isOp_15
  · have hm := (if_neg hc).symm.trans hm
    refine lv_iload_n hx hb d_Ops_isOp_4 rfl (lv_at hl 0 rfl) ?_
    refine lv_bipush (v := 28) hx hb d_Ops_isOp_5 (by decide) ?_
    refine lv_icmp_gt (tgt := 14) hx hb d_Ops_isOp_7 (by decide) (fun hc => ?_) (fun hc => ?_)
    · have hm := (if_pos hc).symm.trans hm
      refine lv_iconst (v := 0) hx hb d_Ops_isOp_14 (by decide) ?_
      exact W.zret hx hb hr rfl (fun t ht hW => ⟨⟨_, (), rfl, Option.some.inj hm, trivial⟩, hS.F ht⟩) hS.2.2 d_Ops_isOp_15
    · have hm := (if_neg hc).symm.trans hm
      refine lv_iconst (v := 1) hx hb d_Ops_isOp_10 (by decide) ?_
      refine lv_goto (tgt := 15) hx hb d_Ops_isOp_11 (by decide) ?_
      exact W.zret hx hb hr rfl (fun t ht hW => ⟨⟨_, (), rfl, Option.some.inj hm, trivial⟩, hS.F ht⟩) hS.2.2 d_Ops_isOp_15
set_option maxHeartbeats 4000000 in
set_option maxRecDepth 100000 in
theorem k_C_Ops_opens (l : Launch) (a0 : Int32) (r' : Int32) (hm : M_C_Ops_opens a0 = some r') : rt_MS l y_Ops_opens b_Ops_opens 1 (some .boolean) ({ frames := 0, cells := 0, slots := 0, locals := 0 } : Room) rt_X0 [.int a0] r' := by
  intro sz
  refine Met.ofW (cc := b_Ops_opens) (maxL := 1) (ret := (some .boolean)) (by decide) rfl ?_
  intro p e s m args below meth c s₁ B hml hv
  obtain ⟨rfl, rfl, hX⟩ := hv
  have hx := B.exec
  have hb := B.bytes
  have hr := B.returns
  have hts := atoms_spec (ws := (rt_ws y_Ops_opens b_Ops_opens 1 (some .boolean))) B.pre
  have hown : s.vm.findClass "RangeTeller$Ops" = some m.cls := findClass_of_methodNamed B.named
  have hlocks := B.notSynchronized
  have hS : va_S (fun q => s.heap.size ≤ q) s.heap s.heap [] := va_S.rf
  have hl := lv_entry ([.int a0]) (n := 1) (Nat.le_of_ble_eq_true rfl)
  rw [lg_entry_eq]
  generalize (lg_sl ([.int a0]) ++ List.replicate (1 - (lg_sl ([.int a0])).length) Slot.unset).toArray = ls at hl ⊢
  have hl : lv_has ls 1 [(0, .int a0)] := hl
  show W p l e ({ frames := 0, cells := 0, slots := 0, locals := 0 } : Room) s m ([.int a0] : List Value).toArray below meth c s.heap [] 0 0 (rt_Qs below ([.int a0] : List Value).toArray s r') (F0 m 0 ls [])
  unfold M_C_Ops_opens at hm
  refine lv_iload_n hx hb d_Ops_opens_0 rfl (lv_at hl 0 rfl) ?_
  refine lv_iconst (v := 1) hx hb d_Ops_opens_1 (by decide) ?_
  refine lv_icmp_eq (tgt := 15) hx hb d_Ops_opens_2 (by decide) (fun hc => ?_) (fun hc => ?_)
  · have hm := (if_pos hc).symm.trans hm
    refine lv_iconst (v := 1) hx hb d_Ops_opens_15 (by decide) ?_
    refine lv_goto (tgt := 20) hx hb d_Ops_opens_16 (by decide) ?_
    exact W.zret hx hb hr rfl (fun t ht hW => ⟨⟨_, (), rfl, Option.some.inj hm, trivial⟩, hS.F ht⟩) hS.2.2 d_Ops_opens_20
  · have hm := (if_neg hc).symm.trans hm
    refine lv_iload_n hx hb d_Ops_opens_5 rfl (lv_at hl 0 rfl) ?_
    refine lv_iconst (v := 2) hx hb d_Ops_opens_6 (by decide) ?_
    refine lv_icmp_eq (tgt := 15) hx hb d_Ops_opens_7 (by decide) (fun hc => ?_) (fun hc => ?_)
    · have hm := (if_pos hc).symm.trans hm
      refine lv_iconst (v := 1) hx hb d_Ops_opens_15 (by decide) ?_
      refine lv_goto (tgt := 20) hx hb d_Ops_opens_16 (by decide) ?_
      exact W.zret hx hb hr rfl (fun t ht hW => ⟨⟨_, (), rfl, Option.some.inj hm, trivial⟩, hS.F ht⟩) hS.2.2 d_Ops_opens_20
    · have hm := (if_neg hc).symm.trans hm
      refine lv_iload_n hx hb d_Ops_opens_10 rfl (lv_at hl 0 rfl) ?_
      refine lv_iconst (v := 3) hx hb d_Ops_opens_11 (by decide) ?_
      refine lv_icmp_ne (tgt := 19) hx hb d_Ops_opens_12 (by decide) (fun hc => ?_) (fun hc => ?_)
      · have hm := (if_neg hc).symm.trans hm
        refine lv_iconst (v := 0) hx hb d_Ops_opens_19 (by decide) ?_
        exact W.zret hx hb hr rfl (fun t ht hW => ⟨⟨_, (), rfl, Option.some.inj hm, trivial⟩, hS.F ht⟩) hS.2.2 d_Ops_opens_20
      · have hm := (if_pos hc).symm.trans hm
        refine lv_iconst (v := 1) hx hb d_Ops_opens_15 (by decide) ?_
        refine lv_goto (tgt := 20) hx hb d_Ops_opens_16 (by decide) ?_
        exact W.zret hx hb hr rfl (fun t ht hW => ⟨⟨_, (), rfl, Option.some.inj hm, trivial⟩, hS.F ht⟩) hS.2.2 d_Ops_opens_20
set_option maxHeartbeats 4000000 in
set_option maxRecDepth 100000 in
theorem k_C_Ops_namesLocal (l : Launch) (a0 : Int32) (r' : Int32) (hm : M_C_Ops_namesLocal a0 = some r') : rt_MS l y_Ops_namesLocal b_Ops_namesLocal 1 (some .boolean) ({ frames := 0, cells := 0, slots := 0, locals := 0 } : Room) rt_X0 [.int a0] r' := by
  intro sz
  refine Met.ofW (cc := b_Ops_namesLocal) (maxL := 1) (ret := (some .boolean)) (by decide) rfl ?_
  intro p e s m args below meth c s₁ B hml hv
  obtain ⟨rfl, rfl, hX⟩ := hv
  have hx := B.exec
  have hb := B.bytes
  have hr := B.returns
  have hts := atoms_spec (ws := (rt_ws y_Ops_namesLocal b_Ops_namesLocal 1 (some .boolean))) B.pre
  have hown : s.vm.findClass "RangeTeller$Ops" = some m.cls := findClass_of_methodNamed B.named
  have hlocks := B.notSynchronized
  have hS : va_S (fun q => s.heap.size ≤ q) s.heap s.heap [] := va_S.rf
  have hl := lv_entry ([.int a0]) (n := 1) (Nat.le_of_ble_eq_true rfl)
  rw [lg_entry_eq]
  generalize (lg_sl ([.int a0]) ++ List.replicate (1 - (lg_sl ([.int a0])).length) Slot.unset).toArray = ls at hl ⊢
  have hl : lv_has ls 1 [(0, .int a0)] := hl
  show W p l e ({ frames := 0, cells := 0, slots := 0, locals := 0 } : Room) s m ([.int a0] : List Value).toArray below meth c s.heap [] 0 0 (rt_Qs below ([.int a0] : List Value).toArray s r') (F0 m 0 ls [])
  unfold M_C_Ops_namesLocal at hm
  refine lv_iload_n hx hb d_Ops_namesLocal_0 rfl (lv_at hl 0 rfl) ?_
  refine lv_bipush (v := 12) hx hb d_Ops_namesLocal_1 (by decide) ?_
  refine lv_icmp_eq (tgt := 18) hx hb d_Ops_namesLocal_3 (by decide) (fun hc => ?_) (fun hc => ?_)
  · have hm := (if_pos hc).symm.trans hm
    refine lv_iconst (v := 1) hx hb d_Ops_namesLocal_18 (by decide) ?_
    refine lv_goto (tgt := 23) hx hb d_Ops_namesLocal_19 (by decide) ?_
    exact W.zret hx hb hr rfl (fun t ht hW => ⟨⟨_, (), rfl, Option.some.inj hm, trivial⟩, hS.F ht⟩) hS.2.2 d_Ops_namesLocal_23
  · have hm := (if_neg hc).symm.trans hm
    refine lv_iload_n hx hb d_Ops_namesLocal_6 rfl (lv_at hl 0 rfl) ?_
    refine lv_bipush (v := 13) hx hb d_Ops_namesLocal_7 (by decide) ?_
    refine lv_icmp_eq (tgt := 18) hx hb d_Ops_namesLocal_9 (by decide) (fun hc => ?_) (fun hc => ?_)
    · have hm := (if_pos hc).symm.trans hm
      refine lv_iconst (v := 1) hx hb d_Ops_namesLocal_18 (by decide) ?_
      refine lv_goto (tgt := 23) hx hb d_Ops_namesLocal_19 (by decide) ?_
      exact W.zret hx hb hr rfl (fun t ht hW => ⟨⟨_, (), rfl, Option.some.inj hm, trivial⟩, hS.F ht⟩) hS.2.2 d_Ops_namesLocal_23
    · have hm := (if_neg hc).symm.trans hm
      refine lv_iload_n hx hb d_Ops_namesLocal_12 rfl (lv_at hl 0 rfl) ?_
      refine lv_bipush (v := 14) hx hb d_Ops_namesLocal_13 (by decide) ?_
      refine lv_icmp_ne (tgt := 22) hx hb d_Ops_namesLocal_15 (by decide) (fun hc => ?_) (fun hc => ?_)
      · have hm := (if_neg hc).symm.trans hm
        refine lv_iconst (v := 0) hx hb d_Ops_namesLocal_22 (by decide) ?_
        exact W.zret hx hb hr rfl (fun t ht hW => ⟨⟨_, (), rfl, Option.some.inj hm, trivial⟩, hS.F ht⟩) hS.2.2 d_Ops_namesLocal_23
      · have hm := (if_pos hc).symm.trans hm
        refine lv_iconst (v := 1) hx hb d_Ops_namesLocal_18 (by decide) ?_
        refine lv_goto (tgt := 23) hx hb d_Ops_namesLocal_19 (by decide) ?_
        exact W.zret hx hb hr rfl (fun t ht hW => ⟨⟨_, (), rfl, Option.some.inj hm, trivial⟩, hS.F ht⟩) hS.2.2 d_Ops_namesLocal_23
set_option maxHeartbeats 4000000 in
set_option maxRecDepth 100000 in
theorem k_C_Ops_hasArgument (l : Launch) (a0 : Int32) (r' : Int32) (hm : M_C_Ops_hasArgument a0 = some r') : rt_MS l y_Ops_hasArgument b_Ops_hasArgument 1 (some .boolean) ({ frames := 1, cells := 0, slots := 0, locals := 20 } : Room) rt_X0 [.int a0] r' := by
  intro sz
  refine Met.ofW (cc := b_Ops_hasArgument) (maxL := 1) (ret := (some .boolean)) (by decide) rfl ?_
  intro p e s m args below meth c s₁ B hml hv
  obtain ⟨rfl, rfl, hX⟩ := hv
  have hx := B.exec
  have hb := B.bytes
  have hr := B.returns
  have hts := atoms_spec (ws := (rt_ws y_Ops_hasArgument b_Ops_hasArgument 1 (some .boolean))) B.pre
  have hown : s.vm.findClass "RangeTeller$Ops" = some m.cls := findClass_of_methodNamed B.named
  have hlocks := B.notSynchronized
  have hS : va_S (fun q => s.heap.size ≤ q) s.heap s.heap [] := va_S.rf
  have hl := lv_entry ([.int a0]) (n := 1) (Nat.le_of_ble_eq_true rfl)
  rw [lg_entry_eq]
  generalize (lg_sl ([.int a0]) ++ List.replicate (1 - (lg_sl ([.int a0])).length) Slot.unset).toArray = ls at hl ⊢
  have hl : lv_has ls 1 [(0, .int a0)] := hl
  show W p l e ({ frames := 1, cells := 0, slots := 0, locals := 20 } : Room) s m ([.int a0] : List Value).toArray below meth c s.heap [] 0 0 (rt_Qs below ([.int a0] : List Value).toArray s r') (F0 m 0 ls [])
  unfold M_C_Ops_hasArgument at hm
  refine lv_iload_n hx hb d_Ops_hasArgument_0 rfl (lv_at hl 0 rfl) ?_
  obtain ⟨v2, h1, hm⟩ := rt_b1s hm
  refine rt_csi (As := [.int a0]) (rest := []) rt_X0o ⟨hx, hb, hml, hown, hts⟩ (k_C_Ops_opens l a0 _ h1) (cw_Ops_opens hts (hts _ (rt_m rt_w450)) ⟨Nat.le_of_ble_eq_true rfl, Nat.le_of_ble_eq_true rfl⟩) hS (fun _ h => h) trivial rfl hl.1 rfl (Nat.le_of_ble_eq_true rfl) d_Ops_hasArgument_1 ⟨Nat.zero_le _, Nat.zero_le _⟩ (fun H locs hk hS => ?_)
  clear hk
  refine lv_if_ne (tgt := 50) hx hb d_Ops_hasArgument_4 (by decide) (fun hc => ?_) (fun hc => ?_)
  · have hm := (if_neg hc).symm.trans hm
    refine lv_iconst (v := 1) hx hb d_Ops_hasArgument_50 (by decide) ?_
    refine lv_goto (tgt := 55) hx hb d_Ops_hasArgument_51 (by decide) ?_
    exact W.zret hx hb hr rfl (fun t ht hW => ⟨⟨_, (), rfl, Option.some.inj hm, trivial⟩, hS.F ht⟩) hS.2.2 d_Ops_hasArgument_55
  · have hm := (if_pos hc).symm.trans hm
    refine lv_iload_n hx hb d_Ops_hasArgument_7 rfl (lv_at hl 0 rfl) ?_
    refine lv_bipush (v := 6) hx hb d_Ops_hasArgument_8 (by decide) ?_
    refine lv_icmp_eq (tgt := 50) hx hb d_Ops_hasArgument_10 (by decide) (fun hc => ?_) (fun hc => ?_)
    · have hm := (if_pos hc).symm.trans hm
      refine lv_iconst (v := 1) hx hb d_Ops_hasArgument_50 (by decide) ?_
      refine lv_goto (tgt := 55) hx hb d_Ops_hasArgument_51 (by decide) ?_
      exact W.zret hx hb hr rfl (fun t ht hW => ⟨⟨_, (), rfl, Option.some.inj hm, trivial⟩, hS.F ht⟩) hS.2.2 d_Ops_hasArgument_55
    · have hm := (if_neg hc).symm.trans hm
      refine lv_iload_n hx hb d_Ops_hasArgument_13 rfl (lv_at hl 0 rfl) ?_
      refine lv_bipush (v := 7) hx hb d_Ops_hasArgument_14 (by decide) ?_
      refine lv_icmp_eq (tgt := 50) hx hb d_Ops_hasArgument_16 (by decide) (fun hc => ?_) (fun hc => ?_)
      · have hm := (if_pos hc).symm.trans hm
        refine lv_iconst (v := 1) hx hb d_Ops_hasArgument_50 (by decide) ?_
        refine lv_goto (tgt := 55) hx hb d_Ops_hasArgument_51 (by decide) ?_
        exact W.zret hx hb hr rfl (fun t ht hW => ⟨⟨_, (), rfl, Option.some.inj hm, trivial⟩, hS.F ht⟩) hS.2.2 d_Ops_hasArgument_55
      · have hm := (if_neg hc).symm.trans hm
        refine lv_iload_n hx hb d_Ops_hasArgument_19 rfl (lv_at hl 0 rfl) ?_
        refine lv_bipush (v := 9) hx hb d_Ops_hasArgument_20 (by decide) ?_
        refine lv_icmp_eq (tgt := 50) hx hb d_Ops_hasArgument_22 (by decide) (fun hc => ?_) (fun hc => ?_)
        · have hm := (if_pos hc).symm.trans hm
          refine lv_iconst (v := 1) hx hb d_Ops_hasArgument_50 (by decide) ?_
          refine lv_goto (tgt := 55) hx hb d_Ops_hasArgument_51 (by decide) ?_
          exact W.zret hx hb hr rfl (fun t ht hW => ⟨⟨_, (), rfl, Option.some.inj hm, trivial⟩, hS.F ht⟩) hS.2.2 d_Ops_hasArgument_55
        · have hm := (if_neg hc).symm.trans hm
          refine lv_iload_n hx hb d_Ops_hasArgument_25 rfl (lv_at hl 0 rfl) ?_
          obtain ⟨v4, h3, hm⟩ := rt_b1s hm
          refine rt_csi (As := [.int a0]) (rest := []) rt_X0o ⟨hx, hb, hml, hown, hts⟩ (k_C_Ops_namesLocal l a0 _ h3) (cw_Ops_namesLocal hts (hts _ (rt_m rt_w453)) ⟨Nat.le_of_ble_eq_true rfl, Nat.le_of_ble_eq_true rfl⟩) hS (fun _ h => h) trivial rfl hl.1 rfl (Nat.le_of_ble_eq_true rfl) d_Ops_hasArgument_26 ⟨Nat.zero_le _, Nat.zero_le _⟩ (fun H locs hk hS => ?_)
          clear hk
          refine lv_if_ne (tgt := 50) hx hb d_Ops_hasArgument_29 (by decide) (fun hc => ?_) (fun hc => ?_)
          · have hm := (if_neg hc).symm.trans hm
            refine lv_iconst (v := 1) hx hb d_Ops_hasArgument_50 (by decide) ?_
            refine lv_goto (tgt := 55) hx hb d_Ops_hasArgument_51 (by decide) ?_
            exact W.zret hx hb hr rfl (fun t ht hW => ⟨⟨_, (), rfl, Option.some.inj hm, trivial⟩, hS.F ht⟩) hS.2.2 d_Ops_hasArgument_55
          · have hm := (if_pos hc).symm.trans hm
            refine lv_iload_n hx hb d_Ops_hasArgument_32 rfl (lv_at hl 0 rfl) ?_
            refine lv_bipush (v := 15) hx hb d_Ops_hasArgument_33 (by decide) ?_
            refine lv_icmp_eq (tgt := 50) hx hb d_Ops_hasArgument_35 (by decide) (fun hc => ?_) (fun hc => ?_)
            · have hm := (if_pos hc).symm.trans hm
              refine lv_iconst (v := 1) hx hb d_Ops_hasArgument_50 (by decide) ?_
              refine lv_goto (tgt := 55) hx hb d_Ops_hasArgument_51 (by decide) ?_
              exact W.zret hx hb hr rfl (fun t ht hW => ⟨⟨_, (), rfl, Option.some.inj hm, trivial⟩, hS.F ht⟩) hS.2.2 d_Ops_hasArgument_55
            · have hm := (if_neg hc).symm.trans hm
              refine lv_iload_n hx hb d_Ops_hasArgument_38 rfl (lv_at hl 0 rfl) ?_
              refine lv_bipush (v := 16) hx hb d_Ops_hasArgument_39 (by decide) ?_
              refine lv_icmp_eq (tgt := 50) hx hb d_Ops_hasArgument_41 (by decide) (fun hc => ?_) (fun hc => ?_)
              · have hm := (if_pos hc).symm.trans hm
                refine lv_iconst (v := 1) hx hb d_Ops_hasArgument_50 (by decide) ?_
                refine lv_goto (tgt := 55) hx hb d_Ops_hasArgument_51 (by decide) ?_
                exact W.zret hx hb hr rfl (fun t ht hW => ⟨⟨_, (), rfl, Option.some.inj hm, trivial⟩, hS.F ht⟩) hS.2.2 d_Ops_hasArgument_55
              · have hm := (if_neg hc).symm.trans hm
                refine lv_iload_n hx hb d_Ops_hasArgument_44 rfl (lv_at hl 0 rfl) ?_
                refine lv_bipush (v := 17) hx hb d_Ops_hasArgument_45 (by decide) ?_
                refine lv_icmp_ne (tgt := 54) hx hb d_Ops_hasArgument_47 (by decide) (fun hc => ?_) (fun hc => ?_)
                · have hm := (if_neg hc).symm.trans hm
                  refine lv_iconst (v := 0) hx hb d_Ops_hasArgument_54 (by decide) ?_
                  exact W.zret hx hb hr rfl (fun t ht hW => ⟨⟨_, (), rfl, Option.some.inj hm, trivial⟩, hS.F ht⟩) hS.2.2 d_Ops_hasArgument_55
                · have hm := (if_pos hc).symm.trans hm
                  refine lv_iconst (v := 1) hx hb d_Ops_hasArgument_50 (by decide) ?_
                  refine lv_goto (tgt := 55) hx hb d_Ops_hasArgument_51 (by decide) ?_
                  exact W.zret hx hb hr rfl (fun t ht hW => ⟨⟨_, (), rfl, Option.some.inj hm, trivial⟩, hS.F ht⟩) hS.2.2 d_Ops_hasArgument_55
set_option maxHeartbeats 4000000 in
set_option maxRecDepth 100000 in
theorem k_C_Program_addInstruction (l : Launch) (D : va_G) (cI cZ : ClassId) (A : Nat → Nat) (hO : rt_Ok (rtC_W cI cZ A)) (σ : rt_St) (a1 a2 : Int32) (r' : Int32) (σ' : rt_St) (hm : M_C_Program_addInstruction σ a1 a2 = some (r', σ')) (sz : Nat) : Met l y_Program_addInstruction (rt_ws y_Program_addInstruction b_Program_addInstruction 4 (some .int)) ({ frames := 0, cells := 0, slots := 0, locals := 0 } : Room) (va_Pc [.ref (A 1), .int a1, .int a2] (rt_P D rt_cl (rt_t cI cZ) rtC_X (rtC_W cI cZ A) sz σ)) (va_Qi (fun r1 u1 => r1 = r' ∧ u1 = σ') (rt_B D rt_cl (rt_t cI cZ) rtC_X (rtC_W cI cZ A)) (rt_A (rtC_W cI cZ A) sz)) 0 0 (rt_A (rtC_W cI cZ A) sz) := by
  refine Met.ofW (cc := b_Program_addInstruction) (maxL := 4) (ret := (some .int)) (by decide) rfl ?_
  intro p e s m args below meth c s₁ B hml hv
  obtain ⟨rfl, rfl, hP, hK, hX⟩ := hv
  have hx := B.exec
  have hb := B.bytes
  have hr := B.returns
  have hts := atoms_spec (ws := (rt_ws y_Program_addInstruction b_Program_addInstruction 4 (some .int))) B.pre
  have hown : s.vm.findClass "RangeTeller$Program" = some m.cls := findClass_of_methodNamed B.named
  have hlocks := B.notSynchronized
  have hD := rt_hD hO s.heap.size
  have hS : va_S (rt_A (rtC_W cI cZ A) s.heap.size) s.heap s.heap [] := va_S.rf
  have hl := lv_entry ([.ref (A 1), .int a1, .int a2]) (n := 4) (Nat.le_of_ble_eq_true rfl)
  rw [lg_entry_eq]
  generalize (lg_sl ([.ref (A 1), .int a1, .int a2]) ++ List.replicate (4 - (lg_sl ([.ref (A 1), .int a1, .int a2])).length) Slot.unset).toArray = ls at hl ⊢
  have hl : lv_has ls 4 [(0, .ref (A 1)), (1, .int a1), (2, .int a2)] := hl
  show W p l e ({ frames := 0, cells := 0, slots := 0, locals := 0 } : Room) s m ([.ref (A 1), .int a1, .int a2] : List Value).toArray below meth c s.heap [] 0 0 (rt_Qi D rt_cl (rt_t cI cZ) rtC_X (rtC_W cI cZ A) below ([.ref (A 1), .int a1, .int a2] : List Value).toArray s r' σ') (F0 m 0 ls [])
  unfold M_C_Program_addInstruction at hm
  refine lv_aload_n hx hb d_Program_addInstruction_0 rfl (lv_at hl 0 rfl) ?_
  refine va_get (D := D) (v := .int (σ 1 12)) (C := "RangeTeller$Program") (T := rt_T1) (N := 14) hx hb hts rt_i1 hown hK hP 1 rfl rfl 12 (by decide) (hts _ (rt_m rt_w164)) (fun _ h9 => h9) rfl d_Program_addInstruction_1 ?_
  refine lv_istore_n hx hb d_Program_addInstruction_4 rfl hl (by decide) rfl (fun ls hl => ?_)
  have hl : lv_has ls 4 [(3, .int (σ 1 12)), (0, .ref (A 1)), (1, .int a1), (2, .int a2)] := hl
  refine lv_aload_n hx hb d_Program_addInstruction_5 rfl (lv_at hl 1 rfl) ?_
  refine va_get (D := D) (v := .ref (A 2)) (C := "RangeTeller$Program") (T := rt_T1) (N := 14) hx hb hts rt_i1 hown hK hP 1 rfl rfl 0 (by decide) (hts _ (rt_m rt_w119)) (fun _ h9 => h9) rfl d_Program_addInstruction_6 ?_
  refine lv_iload_n hx hb d_Program_addInstruction_9 rfl (lv_at hl 0 rfl) ?_
  refine lv_iload_n hx hb d_Program_addInstruction_10 rfl (lv_at hl 2 rfl) ?_
  obtain ⟨σ1, h2, hm⟩ := rt_b1s hm
  refine rt_ast hx hb hK hP hD hS 2 0 rfl (rtC_a2 cI cZ A _) rfl h2 d_Program_addInstruction_11 (fun H locs hP hS => ?_)
  refine lv_aload_n hx hb d_Program_addInstruction_12 rfl (lv_at hl 1 rfl) ?_
  refine va_get (D := D) (v := .ref (A 3)) (C := "RangeTeller$Program") (T := rt_T1) (N := 14) hx hb hts rt_i1 hown hK hP 1 rfl rfl 1 (by decide) (hts _ (rt_m rt_w125)) (fun _ h9 => h9) rfl d_Program_addInstruction_13 ?_
  refine lv_iload_n hx hb d_Program_addInstruction_16 rfl (lv_at hl 0 rfl) ?_
  refine lv_iload_n hx hb d_Program_addInstruction_17 rfl (lv_at hl 3 rfl) ?_
  obtain ⟨σ3, h4, hm⟩ := rt_b1s hm
  refine rt_ast hx hb hK hP hD hS 3 0 rfl (rtC_a3 cI cZ A _) rfl h4 d_Program_addInstruction_18 (fun H locs hP hS => ?_)
  refine lv_aload_n hx hb d_Program_addInstruction_19 rfl (lv_at hl 1 rfl) ?_
  refine va_get (D := D) (v := .ref (A 4)) (C := "RangeTeller$Program") (T := rt_T1) (N := 14) hx hb hts rt_i1 hown hK hP 1 rfl rfl 2 (by decide) (hts _ (rt_m rt_w130)) (fun _ h9 => h9) rfl d_Program_addInstruction_20 ?_
  refine lv_iload_n hx hb d_Program_addInstruction_23 rfl (lv_at hl 0 rfl) ?_
  refine lv_aload_n hx hb d_Program_addInstruction_24 rfl (lv_at hl 1 rfl) ?_
  refine va_get (D := D) (v := .int (σ3 1 13)) (C := "RangeTeller$Program") (T := rt_T1) (N := 14) hx hb hts rt_i1 hown hK hP 1 rfl rfl 13 (by decide) (hts _ (rt_m rt_w168)) (fun _ h9 => h9) rfl d_Program_addInstruction_25 ?_
  refine lv_iconst (v := 1) hx hb d_Program_addInstruction_28 (by decide) ?_
  refine lv_isub hx hb d_Program_addInstruction_29 ?_
  obtain ⟨σ5, h6, hm⟩ := rt_b1s hm
  refine rt_ast hx hb hK hP hD hS 4 0 rfl (rtC_a4 cI cZ A _) rfl h6 d_Program_addInstruction_30 (fun H locs hP hS => ?_)
  refine lv_aload_n hx hb d_Program_addInstruction_31 rfl (lv_at hl 1 rfl) ?_
  refine va_get (D := D) (v := .ref (A 5)) (C := "RangeTeller$Program") (T := rt_T1) (N := 14) hx hb hts rt_i1 hown hK hP 1 rfl rfl 3 (by decide) (hts _ (rt_m rt_w133)) (fun _ h9 => h9) rfl d_Program_addInstruction_32 ?_
  refine lv_iload_n hx hb d_Program_addInstruction_35 rfl (lv_at hl 0 rfl) ?_
  refine lv_bipush (v := (-3)) hx hb d_Program_addInstruction_36 (by decide) ?_
  obtain ⟨σ7, h8, hm⟩ := rt_b1s hm
  refine rt_ast hx hb hK hP hD hS 5 0 rfl (rtC_a5 cI cZ A _) rfl h8 d_Program_addInstruction_38 (fun H locs hP hS => ?_)
  refine lv_aload_n hx hb d_Program_addInstruction_39 rfl (lv_at hl 1 rfl) ?_
  refine va_get (D := D) (v := .ref (A 6)) (C := "RangeTeller$Program") (T := rt_T1) (N := 14) hx hb hts rt_i1 hown hK hP 1 rfl rfl 4 (by decide) (hts _ (rt_m rt_w136)) (fun _ h9 => h9) rfl d_Program_addInstruction_40 ?_
  refine lv_iload_n hx hb d_Program_addInstruction_43 rfl (lv_at hl 0 rfl) ?_
  refine lv_bipush (v := (-3)) hx hb d_Program_addInstruction_44 (by decide) ?_
  obtain ⟨σ9, h10, hm⟩ := rt_b1s hm
  refine rt_ast hx hb hK hP hD hS 6 0 rfl (rtC_a6 cI cZ A _) rfl h10 d_Program_addInstruction_46 (fun H locs hP hS => ?_)
  refine lv_aload_n hx hb d_Program_addInstruction_47 rfl (lv_at hl 1 rfl) ?_
  refine lv_dup hx hb d_Program_addInstruction_48 rfl ?_
  refine va_get (D := D) (v := .int (σ9 1 12)) (C := "RangeTeller$Program") (T := rt_T1) (N := 14) hx hb hts rt_i1 hown hK hP 1 rfl rfl 12 (by decide) (hts _ (rt_m rt_w164)) (fun _ h9 => h9) rfl d_Program_addInstruction_49 ?_
  refine lv_iconst (v := 1) hx hb d_Program_addInstruction_52 (by decide) ?_
  refine lv_iadd hx hb d_Program_addInstruction_53 ?_
  obtain ⟨σ11, h12, hm⟩ := rt_b1s hm
  refine rt_pf (D := D) (C := "RangeTeller$Program") (T := rt_T1) (N := 14) (ty := .int) hx hb hts rt_i1 rt_y1 rt_o1 rt_n1 hown hK hP hD hS 1 rfl rfl 12 (by decide) (hts _ (rt_m rt_w164)) (fun _ h9 => h9) rfl (by decide +kernel) rfl rfl (Nat.le_of_ble_eq_true rfl) (rtC_s1_12 cI cZ A _ _) h12 d_Program_addInstruction_54 (fun H locs hP hS => ?_)
  refine lv_iload_n hx hb d_Program_addInstruction_57 rfl (lv_at hl 0 rfl) ?_
  exact W.iret hx hb hr (fun t ht hW => ⟨⟨_, _, rfl, rt_pr hm, rt_end rtC_Xo hK hP hS hX ht hW⟩, hS.F ht⟩) hS.2.2 d_Program_addInstruction_58
set_option maxHeartbeats 4000000 in
set_option maxRecDepth 100000 in
theorem k_C_Program_close (l : Launch) (D : va_G) (cI cZ : ClassId) (A : Nat → Nat) (hO : rt_Ok (rtC_W cI cZ A)) (σ : rt_St) (a1 a2 : Int32) (σ' : rt_St) (hm : M_C_Program_close σ a1 a2 = some σ') (sz : Nat) : Met l y_Program_close (rt_ws y_Program_close b_Program_close 3 none) ({ frames := 0, cells := 0, slots := 0, locals := 0 } : Room) (va_Pc [.ref (A 1), .int a1, .int a2] (rt_P D rt_cl (rt_t cI cZ) rtC_X (rtC_W cI cZ A) sz σ)) (va_Qv (fun u1 => u1 = σ') (rt_B D rt_cl (rt_t cI cZ) rtC_X (rtC_W cI cZ A)) (rt_A (rtC_W cI cZ A) sz)) 0 0 (rt_A (rtC_W cI cZ A) sz) := by
  refine Met.ofW (cc := b_Program_close) (maxL := 3) (ret := none) (by decide) rfl ?_
  intro p e s m args below meth c s₁ B hml hv
  obtain ⟨rfl, rfl, hP, hK, hX⟩ := hv
  have hx := B.exec
  have hb := B.bytes
  have hr := B.returns
  have hts := atoms_spec (ws := (rt_ws y_Program_close b_Program_close 3 none)) B.pre
  have hown : s.vm.findClass "RangeTeller$Program" = some m.cls := findClass_of_methodNamed B.named
  have hlocks := B.notSynchronized
  have hD := rt_hD hO s.heap.size
  have hS : va_S (rt_A (rtC_W cI cZ A) s.heap.size) s.heap s.heap [] := va_S.rf
  have hl := lv_entry ([.ref (A 1), .int a1, .int a2]) (n := 3) (Nat.le_of_ble_eq_true rfl)
  rw [lg_entry_eq]
  generalize (lg_sl ([.ref (A 1), .int a1, .int a2]) ++ List.replicate (3 - (lg_sl ([.ref (A 1), .int a1, .int a2])).length) Slot.unset).toArray = ls at hl ⊢
  have hl : lv_has ls 3 [(0, .ref (A 1)), (1, .int a1), (2, .int a2)] := hl
  show W p l e ({ frames := 0, cells := 0, slots := 0, locals := 0 } : Room) s m ([.ref (A 1), .int a1, .int a2] : List Value).toArray below meth c s.heap [] 0 0 (rt_Qv D rt_cl (rt_t cI cZ) rtC_X (rtC_W cI cZ A) below ([.ref (A 1), .int a1, .int a2] : List Value).toArray s σ') (F0 m 0 ls [])
  unfold M_C_Program_close at hm
  refine lv_aload_n hx hb d_Program_close_0 rfl (lv_at hl 0 rfl) ?_
  refine va_get (D := D) (v := .ref (A 5)) (C := "RangeTeller$Program") (T := rt_T1) (N := 14) hx hb hts rt_i1 hown hK hP 1 rfl rfl 3 (by decide) (hts _ (rt_m rt_w133)) (fun _ h9 => h9) rfl d_Program_close_1 ?_
  refine lv_iload_n hx hb d_Program_close_4 rfl (lv_at hl 1 rfl) ?_
  refine lv_iload_n hx hb d_Program_close_5 rfl (lv_at hl 2 rfl) ?_
  obtain ⟨σ1, h2, hm⟩ := rt_b1s hm
  refine rt_ast hx hb hK hP hD hS 5 0 rfl (rtC_a5 cI cZ A _) rfl h2 d_Program_close_6 (fun H locs hP hS => ?_)
  refine lv_aload_n hx hb d_Program_close_7 rfl (lv_at hl 0 rfl) ?_
  refine va_get (D := D) (v := .ref (A 6)) (C := "RangeTeller$Program") (T := rt_T1) (N := 14) hx hb hts rt_i1 hown hK hP 1 rfl rfl 4 (by decide) (hts _ (rt_m rt_w136)) (fun _ h9 => h9) rfl d_Program_close_8 ?_
  refine lv_iload_n hx hb d_Program_close_11 rfl (lv_at hl 1 rfl) ?_
  obtain ⟨v3, h4, hm⟩ := rt_b1s hm
  refine rt_ald hx hb hK hP 6 0 rfl rfl h4 d_Program_close_12 ?_
  refine lv_bipush (v := (-3)) hx hb d_Program_close_13 (by decide) ?_
  refine lv_icmp_eq (tgt := 30) hx hb d_Program_close_15 (by decide) (fun hc => ?_) (fun hc => ?_)
  · have hm := (if_pos hc).symm.trans hm
    exact W.vret hx hb hr (fun t ht hW => ⟨⟨_, rfl, Option.some.inj hm, rt_end rtC_Xo hK hP hS hX ht hW⟩, hS.F ht⟩) hS.2.2 d_Program_close_30
  · have hm := (if_neg hc).symm.trans hm
    refine lv_aload_n hx hb d_Program_close_18 rfl (lv_at hl 0 rfl) ?_
    refine va_get (D := D) (v := .ref (A 5)) (C := "RangeTeller$Program") (T := rt_T1) (N := 14) hx hb hts rt_i1 hown hK hP 1 rfl rfl 3 (by decide) (hts _ (rt_m rt_w133)) (fun _ h9 => h9) rfl d_Program_close_19 ?_
    refine lv_aload_n hx hb d_Program_close_22 rfl (lv_at hl 0 rfl) ?_
    refine va_get (D := D) (v := .ref (A 6)) (C := "RangeTeller$Program") (T := rt_T1) (N := 14) hx hb hts rt_i1 hown hK hP 1 rfl rfl 4 (by decide) (hts _ (rt_m rt_w136)) (fun _ h9 => h9) rfl d_Program_close_23 ?_
    refine lv_iload_n hx hb d_Program_close_26 rfl (lv_at hl 1 rfl) ?_
    obtain ⟨v5, h6, hm⟩ := rt_b1s hm
    refine rt_ald hx hb hK hP 6 0 rfl rfl h6 d_Program_close_27 ?_
    refine lv_iload_n hx hb d_Program_close_28 rfl (lv_at hl 2 rfl) ?_
    obtain ⟨σ7, h8, hm⟩ := rt_b1s hm
    refine rt_ast hx hb hK hP hD hS 5 0 rfl (rtC_a5 cI cZ A _) rfl h8 d_Program_close_29 (fun H locs hP hS => ?_)
    exact W.vret hx hb hr (fun t ht hW => ⟨⟨_, rfl, Option.some.inj hm, rt_end rtC_Xo hK hP hS hX ht hW⟩, hS.F ht⟩) hS.2.2 d_Program_close_30
set_option maxHeartbeats 4000000 in
set_option maxRecDepth 100000 in
theorem k_C_Reader_nest (l : Launch) (D : va_G) (cI cZ : ClassId) (A : Nat → Nat) (hO : rt_Ok (rtC_W cI cZ A)) (σ : rt_St) (a1 a2 : Int32) (r' : Int32) (σ' : rt_St) (hm : M_C_Reader_nest σ a1 a2 = some (r', σ')) (sz : Nat) : Met l y_Reader_nest (rt_ws y_Reader_nest b_Reader_nest 3 (some .boolean)) ({ frames := 1, cells := 0, slots := 0, locals := 22 } : Room) (va_Pc [.ref (A 14), .int a1, .int a2] (rt_P D rt_cl (rt_t cI cZ) rtC_X (rtC_W cI cZ A) sz σ)) (va_Qi (fun r1 u1 => r1 = r' ∧ u1 = σ') (rt_B D rt_cl (rt_t cI cZ) rtC_X (rtC_W cI cZ A)) (rt_A (rtC_W cI cZ A) sz)) 0 0 (rt_A (rtC_W cI cZ A) sz) := by
  refine Met.ofW (cc := b_Reader_nest) (maxL := 3) (ret := (some .boolean)) (by decide) rfl ?_
  intro p e s m args below meth c s₁ B hml hv
  obtain ⟨rfl, rfl, hP, hK, hX⟩ := hv
  have hx := B.exec
  have hb := B.bytes
  have hr := B.returns
  have hts := atoms_spec (ws := (rt_ws y_Reader_nest b_Reader_nest 3 (some .boolean))) B.pre
  have hown : s.vm.findClass "RangeTeller$Reader" = some m.cls := findClass_of_methodNamed B.named
  have hlocks := B.notSynchronized
  have hD := rt_hD hO s.heap.size
  have hS : va_S (rt_A (rtC_W cI cZ A) s.heap.size) s.heap s.heap [] := va_S.rf
  have hl := lv_entry ([.ref (A 14), .int a1, .int a2]) (n := 3) (Nat.le_of_ble_eq_true rfl)
  rw [lg_entry_eq]
  generalize (lg_sl ([.ref (A 14), .int a1, .int a2]) ++ List.replicate (3 - (lg_sl ([.ref (A 14), .int a1, .int a2])).length) Slot.unset).toArray = ls at hl ⊢
  have hl : lv_has ls 3 [(0, .ref (A 14)), (1, .int a1), (2, .int a2)] := hl
  show W p l e ({ frames := 1, cells := 0, slots := 0, locals := 22 } : Room) s m ([.ref (A 14), .int a1, .int a2] : List Value).toArray below meth c s.heap [] 0 0 (rt_Qi D rt_cl (rt_t cI cZ) rtC_X (rtC_W cI cZ A) below ([.ref (A 14), .int a1, .int a2] : List Value).toArray s r' σ') (F0 m 0 ls [])
  have hB65 : ∀ (ls : Array Slot) (l1 l2 : Int32) (σ : rt_St) (H : Heap) (locs : List Loc), lv_has ls 3 [(0, .ref (A 14)), (1, .int l1), (2, .int l2)] → B_C_Reader_nest_65 l1 l2 σ = some (r', σ') → va_P D rt_cl (rtC_W cI cZ A σ) H → va_S (rt_A (rtC_W cI cZ A) s.heap.size) s.heap H locs → W p l e ({ frames := 1, cells := 0, slots := 0, locals := 22 } : Room) s m ([.ref (A 14), .int a1, .int a2] : List Value).toArray below meth c H locs 0 0 (rt_Qi D rt_cl (rt_t cI cZ) rtC_X (rtC_W cI cZ A) below ([.ref (A 14), .int a1, .int a2] : List Value).toArray s r' σ') (F0 m 65 ls []) := by
    intro ls l1 l2 σ H locs hl hm hP hS
    unfold B_C_Reader_nest_65 at hm
    refine lv_iload_n hx hb d_Reader_nest_65 rfl (lv_at hl 1 rfl) ?_
    refine lv_iconst (v := 5) hx hb d_Reader_nest_66 (by decide) ?_
    refine lv_icmp_ne (tgt := 106) hx hb d_Reader_nest_67 (by decide) (fun hc => ?_) (fun hc => ?_)
    · have hm := (if_neg hc).symm.trans hm
      refine lv_iconst (v := 0) hx hb d_Reader_nest_106 (by decide) ?_
      exact W.zret hx hb hr rfl (fun t ht hW => ⟨⟨_, _, rfl, rt_pr hm, rt_end rtC_Xo hK hP hS hX ht hW⟩, hS.F ht⟩) hS.2.2 d_Reader_nest_107
    · have hm := (if_pos hc).symm.trans hm
      refine lv_aload_n hx hb d_Reader_nest_70 rfl (lv_at hl 0 rfl) ?_
      refine va_get (D := D) (v := .int (σ 14 5)) (C := "RangeTeller$Reader") (T := rt_T2) (N := 7) hx hb hts rt_i2 hown hK hP 14 rfl rfl 5 (by decide) (hts _ (rt_m rt_w212)) (fun _ h9 => h9) rfl d_Reader_nest_71 ?_
      refine lv_if_ne (tgt := 79) hx hb d_Reader_nest_74 (by decide) (fun hc => ?_) (fun hc => ?_)
      · have hm := (if_neg hc).symm.trans hm
        refine lv_aload_n hx hb d_Reader_nest_79 rfl (lv_at hl 0 rfl) ?_
        refine lv_dup hx hb d_Reader_nest_80 rfl ?_
        refine va_get (D := D) (v := .int (σ 14 5)) (C := "RangeTeller$Reader") (T := rt_T2) (N := 7) hx hb hts rt_i2 hown hK hP 14 rfl rfl 5 (by decide) (hts _ (rt_m rt_w212)) (fun _ h9 => h9) rfl d_Reader_nest_81 ?_
        refine lv_iconst (v := 1) hx hb d_Reader_nest_84 (by decide) ?_
        refine lv_isub hx hb d_Reader_nest_85 ?_
        obtain ⟨σ1, h2, hm⟩ := rt_b1s hm
        refine rt_pf (D := D) (C := "RangeTeller$Reader") (T := rt_T2) (N := 7) (ty := .int) hx hb hts rt_i2 rt_y2 rt_o2 rt_n2 hown hK hP hD hS 14 rfl rfl 5 (by decide) (hts _ (rt_m rt_w212)) (fun _ h9 => h9) rfl (by decide +kernel) rfl rfl (Nat.le_of_ble_eq_true rfl) (rtC_s14_5 cI cZ A _ _) h2 d_Reader_nest_86 (fun H locs hP hS => ?_)
        refine lv_aload_n hx hb d_Reader_nest_89 rfl (lv_at hl 0 rfl) ?_
        refine va_get (D := D) (v := .ref (A 1)) (C := "RangeTeller$Reader") (T := rt_T2) (N := 7) hx hb hts rt_i2 hown hK hP 14 rfl rfl 0 (by decide) (hts _ (rt_m rt_w207)) (fun _ h9 => h9) rfl d_Reader_nest_90 ?_
        refine lv_aload_n hx hb d_Reader_nest_93 rfl (lv_at hl 0 rfl) ?_
        refine va_get (D := D) (v := .ref (A 16)) (C := "RangeTeller$Reader") (T := rt_T2) (N := 7) hx hb hts rt_i2 hown hK hP 14 rfl rfl 2 (by decide) (hts _ (rt_m rt_w209)) (fun _ h9 => h9) rfl d_Reader_nest_94 ?_
        refine lv_aload_n hx hb d_Reader_nest_97 rfl (lv_at hl 0 rfl) ?_
        refine va_get (D := D) (v := .int (σ1 14 5)) (C := "RangeTeller$Reader") (T := rt_T2) (N := 7) hx hb hts rt_i2 hown hK hP 14 rfl rfl 5 (by decide) (hts _ (rt_m rt_w212)) (fun _ h9 => h9) rfl d_Reader_nest_98 ?_
        obtain ⟨v3, h4, hm⟩ := rt_b1s hm
        refine rt_ald hx hb hK hP 16 0 rfl rfl h4 d_Reader_nest_101 ?_
        refine lv_iload_n hx hb d_Reader_nest_102 rfl (lv_at hl 2 rfl) ?_
        obtain ⟨σ6, h5, hm⟩ := rt_b1s hm
        refine rt_cvv (As := [.int v3, .int l2]) (rest := []) (k := 1) rtC_Xo ⟨hx, hb, hml, hown, hts⟩ (k_C_Program_close l D cI cZ A hO σ1 v3 l2 _ h5) (cw_Program_close hts (hts _ (rt_m rt_w465)) ⟨Nat.le_of_ble_eq_true rfl, Nat.le_of_ble_eq_true rfl⟩) hK hP hS hX rfl rfl rfl hl.1 rfl (Nat.le_of_ble_eq_true rfl) d_Reader_nest_103 ⟨Nat.zero_le _, Nat.zero_le _⟩ (fun H locs hP hS => ?_)
        refine lv_iconst (v := 0) hx hb d_Reader_nest_106 (by decide) ?_
        exact W.zret hx hb hr rfl (fun t ht hW => ⟨⟨_, _, rfl, rt_pr hm, rt_end rtC_Xo hK hP hS hX ht hW⟩, hS.F ht⟩) hS.2.2 d_Reader_nest_107
      · have hm := (if_pos hc).symm.trans hm
        refine lv_iconst (v := 1) hx hb d_Reader_nest_77 (by decide) ?_
        exact W.zret hx hb hr rfl (fun t ht hW => ⟨⟨_, _, rfl, rt_pr hm, rt_end rtC_Xo hK hP hS hX ht hW⟩, hS.F ht⟩) hS.2.2 d_Reader_nest_78
  unfold M_C_Reader_nest at hm
  refine lv_iload_n hx hb d_Reader_nest_0 rfl (lv_at hl 1 rfl) ?_
  obtain ⟨v8, h7, hm⟩ := rt_b1s hm
  refine rt_csi (As := [.int a1]) (rest := []) rt_X0o ⟨hx, hb, hml, hown, hts⟩ (k_C_Ops_opens l a1 _ h7) (cw_Ops_opens hts (hts _ (rt_m rt_w456)) ⟨Nat.le_of_ble_eq_true rfl, Nat.le_of_ble_eq_true rfl⟩) hS (fun _ h => Or.inr h) trivial rfl hl.1 rfl (Nat.le_of_ble_eq_true rfl) d_Reader_nest_1 ⟨Nat.zero_le _, Nat.zero_le _⟩ (fun H locs hk hS => ?_)
  have hP := rt_keep hP hk
  clear hk
  refine lv_if_eq (tgt := 30) hx hb d_Reader_nest_4 (by decide) (fun hc => ?_) (fun hc => ?_)
  · have hm := (if_pos hc).symm.trans hm
    refine lv_iload_n hx hb d_Reader_nest_30 rfl (lv_at hl 1 rfl) ?_
    refine lv_iconst (v := 4) hx hb d_Reader_nest_31 (by decide) ?_
    refine lv_icmp_ne (tgt := 65) hx hb d_Reader_nest_32 (by decide) (fun hc => ?_) (fun hc => ?_)
    · have hm := (if_neg hc).symm.trans hm
      exact hB65 ls a1 a2 σ _ _ (lv_sub hl [0, 1, 2] rfl) hm hP hS
    · have hm := (if_pos hc).symm.trans hm
      refine lv_aload_n hx hb d_Reader_nest_35 rfl (lv_at hl 0 rfl) ?_
      refine va_get (D := D) (v := .int (σ 14 5)) (C := "RangeTeller$Reader") (T := rt_T2) (N := 7) hx hb hts rt_i2 hown hK hP 14 rfl rfl 5 (by decide) (hts _ (rt_m rt_w212)) (fun _ h9 => h9) rfl d_Reader_nest_36 ?_
      refine lv_if_le (tgt := 65) hx hb d_Reader_nest_39 (by decide) (fun hc => ?_) (fun hc => ?_)
      · have hm := (if_pos hc).symm.trans hm
        exact hB65 ls a1 a2 σ _ _ (lv_sub hl [0, 1, 2] rfl) hm hP hS
      · have hm := (if_neg hc).symm.trans hm
        refine lv_aload_n hx hb d_Reader_nest_42 rfl (lv_at hl 0 rfl) ?_
        refine va_get (D := D) (v := .ref (A 1)) (C := "RangeTeller$Reader") (T := rt_T2) (N := 7) hx hb hts rt_i2 hown hK hP 14 rfl rfl 0 (by decide) (hts _ (rt_m rt_w207)) (fun _ h9 => h9) rfl d_Reader_nest_43 ?_
        refine va_get (D := D) (v := .ref (A 6)) (C := "RangeTeller$Program") (T := rt_T1) (N := 14) hx hb hts rt_i1 hown hK hP 1 rfl rfl 4 (by decide) (hts _ (rt_m rt_w138)) (fun _ h9 => h9) rfl d_Reader_nest_46 ?_
        refine lv_aload_n hx hb d_Reader_nest_49 rfl (lv_at hl 0 rfl) ?_
        refine va_get (D := D) (v := .ref (A 16)) (C := "RangeTeller$Reader") (T := rt_T2) (N := 7) hx hb hts rt_i2 hown hK hP 14 rfl rfl 2 (by decide) (hts _ (rt_m rt_w209)) (fun _ h9 => h9) rfl d_Reader_nest_50 ?_
        refine lv_aload_n hx hb d_Reader_nest_53 rfl (lv_at hl 0 rfl) ?_
        refine va_get (D := D) (v := .int (σ 14 5)) (C := "RangeTeller$Reader") (T := rt_T2) (N := 7) hx hb hts rt_i2 hown hK hP 14 rfl rfl 5 (by decide) (hts _ (rt_m rt_w212)) (fun _ h9 => h9) rfl d_Reader_nest_54 ?_
        refine lv_iconst (v := 1) hx hb d_Reader_nest_57 (by decide) ?_
        refine lv_isub hx hb d_Reader_nest_58 ?_
        obtain ⟨v9, h10, hm⟩ := rt_b1s hm
        refine rt_ald hx hb hK hP 16 0 rfl rfl h10 d_Reader_nest_59 ?_
        refine lv_iload_n hx hb d_Reader_nest_60 rfl (lv_at hl 2 rfl) ?_
        obtain ⟨σ11, h12, hm⟩ := rt_b1s hm
        refine rt_ast hx hb hK hP hD hS 6 0 rfl (rtC_a6 cI cZ A _) rfl h12 d_Reader_nest_61 (fun H locs hP hS => ?_)
        refine lv_goto (tgt := 106) hx hb d_Reader_nest_62 (by decide) ?_
        refine lv_iconst (v := 0) hx hb d_Reader_nest_106 (by decide) ?_
        exact W.zret hx hb hr rfl (fun t ht hW => ⟨⟨_, _, rfl, rt_pr hm, rt_end rtC_Xo hK hP hS hX ht hW⟩, hS.F ht⟩) hS.2.2 d_Reader_nest_107
  · have hm := (if_neg hc).symm.trans hm
    refine lv_aload_n hx hb d_Reader_nest_7 rfl (lv_at hl 0 rfl) ?_
    refine va_get (D := D) (v := .ref (A 16)) (C := "RangeTeller$Reader") (T := rt_T2) (N := 7) hx hb hts rt_i2 hown hK hP 14 rfl rfl 2 (by decide) (hts _ (rt_m rt_w209)) (fun _ h9 => h9) rfl d_Reader_nest_8 ?_
    refine lv_aload_n hx hb d_Reader_nest_11 rfl (lv_at hl 0 rfl) ?_
    refine va_get (D := D) (v := .int (σ 14 5)) (C := "RangeTeller$Reader") (T := rt_T2) (N := 7) hx hb hts rt_i2 hown hK hP 14 rfl rfl 5 (by decide) (hts _ (rt_m rt_w212)) (fun _ h9 => h9) rfl d_Reader_nest_12 ?_
    refine lv_iload_n hx hb d_Reader_nest_15 rfl (lv_at hl 2 rfl) ?_
    obtain ⟨σ13, h14, hm⟩ := rt_b1s hm
    refine rt_ast hx hb hK hP hD hS 16 0 rfl (rtC_a16 cI cZ A _) rfl h14 d_Reader_nest_16 (fun H locs hP hS => ?_)
    refine lv_aload_n hx hb d_Reader_nest_17 rfl (lv_at hl 0 rfl) ?_
    refine lv_dup hx hb d_Reader_nest_18 rfl ?_
    refine va_get (D := D) (v := .int (σ13 14 5)) (C := "RangeTeller$Reader") (T := rt_T2) (N := 7) hx hb hts rt_i2 hown hK hP 14 rfl rfl 5 (by decide) (hts _ (rt_m rt_w212)) (fun _ h9 => h9) rfl d_Reader_nest_19 ?_
    refine lv_iconst (v := 1) hx hb d_Reader_nest_22 (by decide) ?_
    refine lv_iadd hx hb d_Reader_nest_23 ?_
    obtain ⟨σ15, h16, hm⟩ := rt_b1s hm
    refine rt_pf (D := D) (C := "RangeTeller$Reader") (T := rt_T2) (N := 7) (ty := .int) hx hb hts rt_i2 rt_y2 rt_o2 rt_n2 hown hK hP hD hS 14 rfl rfl 5 (by decide) (hts _ (rt_m rt_w212)) (fun _ h9 => h9) rfl (by decide +kernel) rfl rfl (Nat.le_of_ble_eq_true rfl) (rtC_s14_5 cI cZ A _ _) h16 d_Reader_nest_24 (fun H locs hP hS => ?_)
    refine lv_goto (tgt := 106) hx hb d_Reader_nest_27 (by decide) ?_
    refine lv_iconst (v := 0) hx hb d_Reader_nest_106 (by decide) ?_
    exact W.zret hx hb hr rfl (fun t ht hW => ⟨⟨_, _, rfl, rt_pr hm, rt_end rtC_Xo hK hP hS hX ht hW⟩, hS.F ht⟩) hS.2.2 d_Reader_nest_107
set_option maxHeartbeats 4000000 in
set_option maxRecDepth 100000 in
theorem k_C_Reader_elseFits (l : Launch) (D : va_G) (cI cZ : ClassId) (A : Nat → Nat) (hO : rt_Ok (rtC_W cI cZ A)) (σ : rt_St) (r' : Int32) (σ' : rt_St) (hm : M_C_Reader_elseFits σ = some (r', σ')) (sz : Nat) : Met l y_Reader_elseFits (rt_ws y_Reader_elseFits b_Reader_elseFits 2 (some .boolean)) ({ frames := 0, cells := 0, slots := 0, locals := 0 } : Room) (va_Pc [.ref (A 14)] (rt_P D rt_cl (rt_t cI cZ) rtC_X (rtC_W cI cZ A) sz σ)) (va_Qi (fun r1 u1 => r1 = r' ∧ u1 = σ') (rt_B D rt_cl (rt_t cI cZ) rtC_X (rtC_W cI cZ A)) (rt_A (rtC_W cI cZ A) sz)) 0 0 (rt_A (rtC_W cI cZ A) sz) := by
  refine Met.ofW (cc := b_Reader_elseFits) (maxL := 2) (ret := (some .boolean)) (by decide) rfl ?_
  intro p e s m args below meth c s₁ B hml hv
  obtain ⟨rfl, rfl, hP, hK, hX⟩ := hv
  have hx := B.exec
  have hb := B.bytes
  have hr := B.returns
  have hts := atoms_spec (ws := (rt_ws y_Reader_elseFits b_Reader_elseFits 2 (some .boolean))) B.pre
  have hown : s.vm.findClass "RangeTeller$Reader" = some m.cls := findClass_of_methodNamed B.named
  have hlocks := B.notSynchronized
  have hD := rt_hD hO s.heap.size
  have hS : va_S (rt_A (rtC_W cI cZ A) s.heap.size) s.heap s.heap [] := va_S.rf
  have hl := lv_entry ([.ref (A 14)]) (n := 2) (Nat.le_of_ble_eq_true rfl)
  rw [lg_entry_eq]
  generalize (lg_sl ([.ref (A 14)]) ++ List.replicate (2 - (lg_sl ([.ref (A 14)])).length) Slot.unset).toArray = ls at hl ⊢
  have hl : lv_has ls 2 [(0, .ref (A 14))] := hl
  show W p l e ({ frames := 0, cells := 0, slots := 0, locals := 0 } : Room) s m ([.ref (A 14)] : List Value).toArray below meth c s.heap [] 0 0 (rt_Qi D rt_cl (rt_t cI cZ) rtC_X (rtC_W cI cZ A) below ([.ref (A 14)] : List Value).toArray s r' σ') (F0 m 0 ls [])
  unfold M_C_Reader_elseFits at hm
  refine lv_aload_n hx hb d_Reader_elseFits_0 rfl (lv_at hl 0 rfl) ?_
  refine va_get (D := D) (v := .int (σ 14 5)) (C := "RangeTeller$Reader") (T := rt_T2) (N := 7) hx hb hts rt_i2 hown hK hP 14 rfl rfl 5 (by decide) (hts _ (rt_m rt_w212)) (fun _ h9 => h9) rfl d_Reader_elseFits_1 ?_
  refine lv_if_ne (tgt := 9) hx hb d_Reader_elseFits_4 (by decide) (fun hc => ?_) (fun hc => ?_)
  · have hm := (if_neg hc).symm.trans hm
    refine lv_aload_n hx hb d_Reader_elseFits_9 rfl (lv_at hl 0 rfl) ?_
    refine va_get (D := D) (v := .ref (A 16)) (C := "RangeTeller$Reader") (T := rt_T2) (N := 7) hx hb hts rt_i2 hown hK hP 14 rfl rfl 2 (by decide) (hts _ (rt_m rt_w209)) (fun _ h9 => h9) rfl d_Reader_elseFits_10 ?_
    refine lv_aload_n hx hb d_Reader_elseFits_13 rfl (lv_at hl 0 rfl) ?_
    refine va_get (D := D) (v := .int (σ 14 5)) (C := "RangeTeller$Reader") (T := rt_T2) (N := 7) hx hb hts rt_i2 hown hK hP 14 rfl rfl 5 (by decide) (hts _ (rt_m rt_w212)) (fun _ h9 => h9) rfl d_Reader_elseFits_14 ?_
    refine lv_iconst (v := 1) hx hb d_Reader_elseFits_17 (by decide) ?_
    refine lv_isub hx hb d_Reader_elseFits_18 ?_
    obtain ⟨v1, h2, hm⟩ := rt_b1s hm
    refine rt_ald hx hb hK hP 16 0 rfl rfl h2 d_Reader_elseFits_19 ?_
    refine lv_istore_n hx hb d_Reader_elseFits_20 rfl hl (by decide) rfl (fun ls hl => ?_)
    have hl : lv_has ls 2 [(1, .int v1), (0, .ref (A 14))] := hl
    refine lv_aload_n hx hb d_Reader_elseFits_21 rfl (lv_at hl 1 rfl) ?_
    refine va_get (D := D) (v := .ref (A 1)) (C := "RangeTeller$Reader") (T := rt_T2) (N := 7) hx hb hts rt_i2 hown hK hP 14 rfl rfl 0 (by decide) (hts _ (rt_m rt_w207)) (fun _ h9 => h9) rfl d_Reader_elseFits_22 ?_
    refine va_get (D := D) (v := .ref (A 2)) (C := "RangeTeller$Program") (T := rt_T1) (N := 14) hx hb hts rt_i1 hown hK hP 1 rfl rfl 0 (by decide) (hts _ (rt_m rt_w122)) (fun _ h9 => h9) rfl d_Reader_elseFits_25 ?_
    refine lv_iload_n hx hb d_Reader_elseFits_28 rfl (lv_at hl 0 rfl) ?_
    obtain ⟨v3, h4, hm⟩ := rt_b1s hm
    refine rt_ald hx hb hK hP 2 0 rfl rfl h4 d_Reader_elseFits_29 ?_
    refine lv_iconst (v := 3) hx hb d_Reader_elseFits_30 (by decide) ?_
    refine lv_icmp_ne (tgt := 52) hx hb d_Reader_elseFits_31 (by decide) (fun hc => ?_) (fun hc => ?_)
    · have hm := (if_neg hc).symm.trans hm
      refine lv_iconst (v := 0) hx hb d_Reader_elseFits_52 (by decide) ?_
      exact W.zret hx hb hr rfl (fun t ht hW => ⟨⟨_, _, rfl, rt_pr hm, rt_end rtC_Xo hK hP hS hX ht hW⟩, hS.F ht⟩) hS.2.2 d_Reader_elseFits_53
    · have hm := (if_pos hc).symm.trans hm
      refine lv_aload_n hx hb d_Reader_elseFits_34 rfl (lv_at hl 1 rfl) ?_
      refine va_get (D := D) (v := .ref (A 1)) (C := "RangeTeller$Reader") (T := rt_T2) (N := 7) hx hb hts rt_i2 hown hK hP 14 rfl rfl 0 (by decide) (hts _ (rt_m rt_w207)) (fun _ h9 => h9) rfl d_Reader_elseFits_35 ?_
      refine va_get (D := D) (v := .ref (A 6)) (C := "RangeTeller$Program") (T := rt_T1) (N := 14) hx hb hts rt_i1 hown hK hP 1 rfl rfl 4 (by decide) (hts _ (rt_m rt_w138)) (fun _ h9 => h9) rfl d_Reader_elseFits_38 ?_
      refine lv_iload_n hx hb d_Reader_elseFits_41 rfl (lv_at hl 0 rfl) ?_
      obtain ⟨v5, h6, hm⟩ := rt_b1s hm
      refine rt_ald hx hb hK hP 6 0 rfl rfl h6 d_Reader_elseFits_42 ?_
      refine lv_bipush (v := (-3)) hx hb d_Reader_elseFits_43 (by decide) ?_
      refine lv_icmp_ne (tgt := 52) hx hb d_Reader_elseFits_45 (by decide) (fun hc => ?_) (fun hc => ?_)
      · have hm := (if_neg hc).symm.trans hm
        refine lv_iconst (v := 0) hx hb d_Reader_elseFits_52 (by decide) ?_
        exact W.zret hx hb hr rfl (fun t ht hW => ⟨⟨_, _, rfl, rt_pr hm, rt_end rtC_Xo hK hP hS hX ht hW⟩, hS.F ht⟩) hS.2.2 d_Reader_elseFits_53
      · have hm := (if_pos hc).symm.trans hm
        refine lv_iconst (v := 1) hx hb d_Reader_elseFits_48 (by decide) ?_
        refine lv_goto (tgt := 53) hx hb d_Reader_elseFits_49 (by decide) ?_
        exact W.zret hx hb hr rfl (fun t ht hW => ⟨⟨_, _, rfl, rt_pr hm, rt_end rtC_Xo hK hP hS hX ht hW⟩, hS.F ht⟩) hS.2.2 d_Reader_elseFits_53
  · have hm := (if_pos hc).symm.trans hm
    refine lv_iconst (v := 0) hx hb d_Reader_elseFits_7 (by decide) ?_
    exact W.zret hx hb hr rfl (fun t ht hW => ⟨⟨_, _, rfl, rt_pr hm, rt_end rtC_Xo hK hP hS hX ht hW⟩, hS.F ht⟩) hS.2.2 d_Reader_elseFits_8
set_option maxHeartbeats 4000000 in
set_option maxRecDepth 100000 in
theorem k_C_Reader_readInstruction (l : Launch) (D : va_G) (cI cZ : ClassId) (A : Nat → Nat) (hO : rt_Ok (rtC_W cI cZ A)) (σ : rt_St) (r' : Int32) (σ' : rt_St) (hm : M_C_Reader_readInstruction σ = some (r', σ')) (sz : Nat) : Met l y_Reader_readInstruction (rt_ws y_Reader_readInstruction b_Reader_readInstruction 3 (some .boolean)) ({ frames := 2, cells := 0, slots := 0, locals := 44 } : Room) (va_Pc [.ref (A 14)] (rt_P D rt_cl (rt_t cI cZ) rtC_X (rtC_W cI cZ A) sz σ)) (va_Qi (fun r1 u1 => r1 = r' ∧ u1 = σ') (rt_B D rt_cl (rt_t cI cZ) rtC_X (rtC_W cI cZ A)) (rt_A (rtC_W cI cZ A) sz)) 0 0 (rt_A (rtC_W cI cZ A) sz) := by
  refine Met.ofW (cc := b_Reader_readInstruction) (maxL := 3) (ret := (some .boolean)) (by decide) rfl ?_
  intro p e s m args below meth c s₁ B hml hv
  obtain ⟨rfl, rfl, hP, hK, hX⟩ := hv
  have hx := B.exec
  have hb := B.bytes
  have hr := B.returns
  have hts := atoms_spec (ws := (rt_ws y_Reader_readInstruction b_Reader_readInstruction 3 (some .boolean))) B.pre
  have hown : s.vm.findClass "RangeTeller$Reader" = some m.cls := findClass_of_methodNamed B.named
  have hlocks := B.notSynchronized
  have hD := rt_hD hO s.heap.size
  have hS : va_S (rt_A (rtC_W cI cZ A) s.heap.size) s.heap s.heap [] := va_S.rf
  have hl := lv_entry ([.ref (A 14)]) (n := 3) (Nat.le_of_ble_eq_true rfl)
  rw [lg_entry_eq]
  generalize (lg_sl ([.ref (A 14)]) ++ List.replicate (3 - (lg_sl ([.ref (A 14)])).length) Slot.unset).toArray = ls at hl ⊢
  have hl : lv_has ls 3 [(0, .ref (A 14))] := hl
  show W p l e ({ frames := 2, cells := 0, slots := 0, locals := 44 } : Room) s m ([.ref (A 14)] : List Value).toArray below meth c s.heap [] 0 0 (rt_Qi D rt_cl (rt_t cI cZ) rtC_X (rtC_W cI cZ A) below ([.ref (A 14)] : List Value).toArray s r' σ') (F0 m 0 ls [])
  have hB46 : ∀ (ls : Array Slot) (σ : rt_St) (H : Heap) (locs : List Loc), lv_has ls 3 [(0, .ref (A 14))] → B_C_Reader_readInstruction_46 σ = some (r', σ') → va_P D rt_cl (rtC_W cI cZ A σ) H → va_S (rt_A (rtC_W cI cZ A) s.heap.size) s.heap H locs → W p l e ({ frames := 2, cells := 0, slots := 0, locals := 44 } : Room) s m ([.ref (A 14)] : List Value).toArray below meth c H locs 0 0 (rt_Qi D rt_cl (rt_t cI cZ) rtC_X (rtC_W cI cZ A) below ([.ref (A 14)] : List Value).toArray s r' σ') (F0 m 46 ls []) := by
    intro ls σ H locs hl hm hP hS
    unfold B_C_Reader_readInstruction_46 at hm
    refine lv_aload_n hx hb d_Reader_readInstruction_46 rfl (lv_at hl 0 rfl) ?_
    refine lv_aload_n hx hb d_Reader_readInstruction_47 rfl (lv_at hl 0 rfl) ?_
    refine va_get (D := D) (v := .int (σ 14 4)) (C := "RangeTeller$Reader") (T := rt_T2) (N := 7) hx hb hts rt_i2 hown hK hP 14 rfl rfl 4 (by decide) (hts _ (rt_m rt_w211)) (fun _ h9 => h9) rfl d_Reader_readInstruction_48 ?_
    obtain ⟨σ1, h2, hm⟩ := rt_b1s hm
    refine rt_pf (D := D) (C := "RangeTeller$Reader") (T := rt_T2) (N := 7) (ty := .int) hx hb hts rt_i2 rt_y2 rt_o2 rt_n2 hown hK hP hD hS 14 rfl rfl 6 (by decide) (hts _ (rt_m rt_w213)) (fun _ h9 => h9) rfl (by decide +kernel) rfl rfl (Nat.le_of_ble_eq_true rfl) (rtC_s14_6 cI cZ A _ _) h2 d_Reader_readInstruction_51 (fun H locs hP hS => ?_)
    refine lv_iconst (v := 0) hx hb d_Reader_readInstruction_54 (by decide) ?_
    exact W.zret hx hb hr rfl (fun t ht hW => ⟨⟨_, _, rfl, rt_pr hm, rt_end rtC_Xo hK hP hS hX ht hW⟩, hS.F ht⟩) hS.2.2 d_Reader_readInstruction_55
  have hB104 : ∀ (ls : Array Slot) (l1 l2 : Int32) (σ : rt_St) (H : Heap) (locs : List Loc), lv_has ls 3 [(0, .ref (A 14)), (1, .int l1), (2, .int l2)] → B_C_Reader_readInstruction_104 l1 l2 σ = some (r', σ') → va_P D rt_cl (rtC_W cI cZ A σ) H → va_S (rt_A (rtC_W cI cZ A) s.heap.size) s.heap H locs → W p l e ({ frames := 2, cells := 0, slots := 0, locals := 44 } : Room) s m ([.ref (A 14)] : List Value).toArray below meth c H locs 0 0 (rt_Qi D rt_cl (rt_t cI cZ) rtC_X (rtC_W cI cZ A) below ([.ref (A 14)] : List Value).toArray s r' σ') (F0 m 104 ls []) := by
    intro ls l1 l2 σ H locs hl hm hP hS
    unfold B_C_Reader_readInstruction_104 at hm
    refine lv_aload_n hx hb d_Reader_readInstruction_104 rfl (lv_at hl 0 rfl) ?_
    refine va_get (D := D) (v := .int (σ 14 6)) (C := "RangeTeller$Reader") (T := rt_T2) (N := 7) hx hb hts rt_i2 hown hK hP 14 rfl rfl 6 (by decide) (hts _ (rt_m rt_w213)) (fun _ h9 => h9) rfl d_Reader_readInstruction_105 ?_
    refine lv_bipush (v := (-3)) hx hb d_Reader_readInstruction_108 (by decide) ?_
    refine lv_icmp_eq (tgt := 115) hx hb d_Reader_readInstruction_110 (by decide) (fun hc => ?_) (fun hc => ?_)
    · have hm := (if_pos hc).symm.trans hm
      refine lv_aload_n hx hb d_Reader_readInstruction_115 rfl (lv_at hl 0 rfl) ?_
      refine lv_iload_n hx hb d_Reader_readInstruction_116 rfl (lv_at hl 1 rfl) ?_
      refine lv_aload_n hx hb d_Reader_readInstruction_117 rfl (lv_at hl 0 rfl) ?_
      refine va_get (D := D) (v := .ref (A 1)) (C := "RangeTeller$Reader") (T := rt_T2) (N := 7) hx hb hts rt_i2 hown hK hP 14 rfl rfl 0 (by decide) (hts _ (rt_m rt_w207)) (fun _ h9 => h9) rfl d_Reader_readInstruction_118 ?_
      refine lv_iload_n hx hb d_Reader_readInstruction_121 rfl (lv_at hl 1 rfl) ?_
      refine lv_iload_n hx hb d_Reader_readInstruction_122 rfl (lv_at hl 2 rfl) ?_
      obtain ⟨v5, σ4, h3, hm⟩ := rt_b2s hm
      refine rt_cvi (As := [.int l1, .int l2]) (rest := [.int l1, .ref (A 14)]) (k := 1) rtC_Xo ⟨hx, hb, hml, hown, hts⟩ (k_C_Program_addInstruction l D cI cZ A hO σ l1 l2 _ _ h3) (cw_Program_addInstruction hts (hts _ (rt_m rt_w457)) ⟨Nat.le_of_ble_eq_true rfl, Nat.le_of_ble_eq_true rfl⟩) hK hP hS hX rfl rfl rfl hl.1 rfl (Nat.le_of_ble_eq_true rfl) d_Reader_readInstruction_123 ⟨Nat.zero_le _, Nat.zero_le _⟩ (fun H locs hP hS => ?_)
      obtain ⟨v8, σ7, h6, hm⟩ := rt_b2s hm
      refine rt_cvi (As := [.int l1, .int v5]) (rest := []) (k := 14) rtC_Xo ⟨hx, hb, hml, hown, hts⟩ (k_C_Reader_nest l D cI cZ A hO σ4 l1 v5 _ _ h6) (cw_Reader_nest hts (hts _ (rt_m rt_w461)) ⟨Nat.le_of_ble_eq_true rfl, Nat.le_of_ble_eq_true rfl⟩) hK hP hS hX rfl rfl rfl hl.1 rfl (Nat.le_of_ble_eq_true rfl) d_Reader_readInstruction_126 ⟨Nat.zero_le _, Nat.zero_le _⟩ (fun H locs hP hS => ?_)
      obtain ⟨_, h9, hm⟩ := rt_b1s hm
      exact W.zret hx hb hr (rt_zoks h9) (fun t ht hW => ⟨⟨_, _, rfl, rt_pr hm, rt_end rtC_Xo hK hP hS hX ht hW⟩, hS.F ht⟩) hS.2.2 d_Reader_readInstruction_129
    · have hm := (if_neg hc).symm.trans hm
      refine lv_iconst (v := 0) hx hb d_Reader_readInstruction_113 (by decide) ?_
      exact W.zret hx hb hr rfl (fun t ht hW => ⟨⟨_, _, rfl, rt_pr hm, rt_end rtC_Xo hK hP hS hX ht hW⟩, hS.F ht⟩) hS.2.2 d_Reader_readInstruction_114
  have hB100 : ∀ (ls : Array Slot) (l1 t0 t1 : Int32) (σ : rt_St) (H : Heap) (locs : List Loc), lv_has ls 3 [(0, .ref (A 14)), (1, .int l1)] → B_C_Reader_readInstruction_100 l1 t0 t1 σ = some (r', σ') → va_P D rt_cl (rtC_W cI cZ A σ) H → va_S (rt_A (rtC_W cI cZ A) s.heap.size) s.heap H locs → W p l e ({ frames := 2, cells := 0, slots := 0, locals := 44 } : Room) s m ([.ref (A 14)] : List Value).toArray below meth c H locs 0 0 (rt_Qi D rt_cl (rt_t cI cZ) rtC_X (rtC_W cI cZ A) below ([.ref (A 14)] : List Value).toArray s r' σ') (F0 m 100 ls [.int t0, .int t1, .ref (A 14)]) := by
    intro ls l1 t0 t1 σ H locs hl hm hP hS
    unfold B_C_Reader_readInstruction_100 at hm
    obtain ⟨v12, σ11, h10, hm⟩ := rt_b2s hm
    refine rt_cvi (As := [.int t1, .int t0]) (rest := []) (k := 14) rtC_Xo ⟨hx, hb, hml, hown, hts⟩ (k_C_Reader_readNumber l D cI cZ A hO σ t1 t0 _ _ h10) (cw_Reader_readNumber hts (hts _ (rt_m rt_w424)) ⟨Nat.le_of_ble_eq_true rfl, Nat.le_of_ble_eq_true rfl⟩) hK hP hS hX rfl rfl rfl hl.1 rfl (Nat.le_of_ble_eq_true rfl) d_Reader_readInstruction_100 ⟨Nat.zero_le _, Nat.zero_le _⟩ (fun H locs hP hS => ?_)
    refine lv_istore_n hx hb d_Reader_readInstruction_103 rfl hl (by decide) rfl (fun ls hl => ?_)
    have hl : lv_has ls 3 [(2, .int v12), (0, .ref (A 14)), (1, .int l1)] := hl
    exact hB104 ls l1 v12 σ11 _ _ (lv_sub hl [1, 2, 0] rfl) hm hP hS
  have hB56 : ∀ (ls : Array Slot) (σ : rt_St) (H : Heap) (locs : List Loc), lv_has ls 3 [(0, .ref (A 14))] → B_C_Reader_readInstruction_56 σ = some (r', σ') → va_P D rt_cl (rtC_W cI cZ A σ) H → va_S (rt_A (rtC_W cI cZ A) s.heap.size) s.heap H locs → W p l e ({ frames := 2, cells := 0, slots := 0, locals := 44 } : Room) s m ([.ref (A 14)] : List Value).toArray below meth c H locs 0 0 (rt_Qi D rt_cl (rt_t cI cZ) rtC_X (rtC_W cI cZ A) below ([.ref (A 14)] : List Value).toArray s r' σ') (F0 m 56 ls []) := by
    intro ls σ H locs hl hm hP hS
    unfold B_C_Reader_readInstruction_56 at hm
    refine lv_aload_n hx hb d_Reader_readInstruction_56 rfl (lv_at hl 0 rfl) ?_
    refine va_get (D := D) (v := .ref (A 15)) (C := "RangeTeller$Reader") (T := rt_T2) (N := 7) hx hb hts rt_i2 hown hK hP 14 rfl rfl 1 (by decide) (hts _ (rt_m rt_w208)) (fun _ h9 => h9) rfl d_Reader_readInstruction_57 ?_
    refine lv_aload_n hx hb d_Reader_readInstruction_60 rfl (lv_at hl 0 rfl) ?_
    refine va_get (D := D) (v := .int (σ 14 4)) (C := "RangeTeller$Reader") (T := rt_T2) (N := 7) hx hb hts rt_i2 hown hK hP 14 rfl rfl 4 (by decide) (hts _ (rt_m rt_w211)) (fun _ h9 => h9) rfl d_Reader_readInstruction_61 ?_
    obtain ⟨v13, h14, hm⟩ := rt_b1s hm
    refine rt_ald hx hb hK hP 15 0 rfl rfl h14 d_Reader_readInstruction_64 ?_
    refine lv_istore_n hx hb d_Reader_readInstruction_65 rfl hl (by decide) rfl (fun ls hl => ?_)
    have hl : lv_has ls 3 [(1, .int v13), (0, .ref (A 14))] := hl
    refine lv_aload_n hx hb d_Reader_readInstruction_66 rfl (lv_at hl 1 rfl) ?_
    refine lv_dup hx hb d_Reader_readInstruction_67 rfl ?_
    refine va_get (D := D) (v := .int (σ 14 4)) (C := "RangeTeller$Reader") (T := rt_T2) (N := 7) hx hb hts rt_i2 hown hK hP 14 rfl rfl 4 (by decide) (hts _ (rt_m rt_w211)) (fun _ h9 => h9) rfl d_Reader_readInstruction_68 ?_
    refine lv_iconst (v := 1) hx hb d_Reader_readInstruction_71 (by decide) ?_
    refine lv_iadd hx hb d_Reader_readInstruction_72 ?_
    obtain ⟨σ15, h16, hm⟩ := rt_b1s hm
    refine rt_pf (D := D) (C := "RangeTeller$Reader") (T := rt_T2) (N := 7) (ty := .int) hx hb hts rt_i2 rt_y2 rt_o2 rt_n2 hown hK hP hD hS 14 rfl rfl 4 (by decide) (hts _ (rt_m rt_w211)) (fun _ h9 => h9) rfl (by decide +kernel) rfl rfl (Nat.le_of_ble_eq_true rfl) (rtC_s14_4 cI cZ A _ _) h16 d_Reader_readInstruction_73 (fun H locs hP hS => ?_)
    refine lv_iconst (v := 0) hx hb d_Reader_readInstruction_76 (by decide) ?_
    refine lv_istore_n hx hb d_Reader_readInstruction_77 rfl hl (by decide) rfl (fun ls hl => ?_)
    have hl : lv_has ls 3 [(2, .int 0), (1, .int v13), (0, .ref (A 14))] := hl
    refine lv_iload_n hx hb d_Reader_readInstruction_78 rfl (lv_at hl 1 rfl) ?_
    obtain ⟨v18, h17, hm⟩ := rt_b1s hm
    refine rt_csi (As := [.int v13]) (rest := []) rt_X0o ⟨hx, hb, hml, hown, hts⟩ (k_C_Ops_hasArgument l v13 _ h17) (cw_Ops_hasArgument hts (hts _ (rt_m rt_w447)) ⟨Nat.le_of_ble_eq_true rfl, Nat.le_of_ble_eq_true rfl⟩) hS (fun _ h => Or.inr h) trivial rfl hl.1 rfl (Nat.le_of_ble_eq_true rfl) d_Reader_readInstruction_79 ⟨Nat.zero_le _, Nat.zero_le _⟩ (fun H locs hk hS => ?_)
    have hP := rt_keep hP hk
    clear hk
    refine lv_if_eq (tgt := 104) hx hb d_Reader_readInstruction_82 (by decide) (fun hc => ?_) (fun hc => ?_)
    · have hm := (if_pos hc).symm.trans hm
      exact hB104 ls v13 0 σ15 _ _ (lv_sub hl [2, 1, 0] rfl) hm hP hS
    · have hm := (if_neg hc).symm.trans hm
      refine lv_aload_n hx hb d_Reader_readInstruction_85 rfl (lv_at hl 2 rfl) ?_
      refine lv_iconst (v := 0) hx hb d_Reader_readInstruction_86 (by decide) ?_
      refine lv_iload_n hx hb d_Reader_readInstruction_87 rfl (lv_at hl 1 rfl) ?_
      obtain ⟨v20, h19, hm⟩ := rt_b1s hm
      refine rt_csi (As := [.int v13]) (rest := [.int 0, .ref (A 14)]) rt_X0o ⟨hx, hb, hml, hown, hts⟩ (k_C_Ops_opens l v13 _ h19) (cw_Ops_opens hts (hts _ (rt_m rt_w456)) ⟨Nat.le_of_ble_eq_true rfl, Nat.le_of_ble_eq_true rfl⟩) hS (fun _ h => Or.inr h) trivial rfl hl.1 rfl (Nat.le_of_ble_eq_true rfl) d_Reader_readInstruction_88 ⟨Nat.zero_le _, Nat.zero_le _⟩ (fun H locs hk hS => ?_)
      have hP := rt_keep hP hk
      clear hk
      refine lv_if_eq (tgt := 98) hx hb d_Reader_readInstruction_91 (by decide) (fun hc => ?_) (fun hc => ?_)
      · have hm := (if_pos hc).symm.trans hm
        refine lv_bipush (v := 63) hx hb d_Reader_readInstruction_98 (by decide) ?_
        exact hB100 ls v13 63 0 σ15 _ _ (lv_sub hl [2, 1] rfl) hm hP hS
      · have hm := (if_neg hc).symm.trans hm
        refine lv_iconst (v := 1) hx hb d_Reader_readInstruction_94 (by decide) ?_
        refine lv_goto (tgt := 100) hx hb d_Reader_readInstruction_95 (by decide) ?_
        exact hB100 ls v13 1 0 σ15 _ _ (lv_sub hl [2, 1] rfl) hm hP hS
  unfold M_C_Reader_readInstruction at hm
  refine lv_aload_n hx hb d_Reader_readInstruction_0 rfl (lv_at hl 0 rfl) ?_
  refine va_get (D := D) (v := .int (σ 14 4)) (C := "RangeTeller$Reader") (T := rt_T2) (N := 7) hx hb hts rt_i2 hown hK hP 14 rfl rfl 4 (by decide) (hts _ (rt_m rt_w211)) (fun _ h9 => h9) rfl d_Reader_readInstruction_1 ?_
  refine lv_aload_n hx hb d_Reader_readInstruction_4 rfl (lv_at hl 0 rfl) ?_
  refine va_get (D := D) (v := .int (σ 14 3)) (C := "RangeTeller$Reader") (T := rt_T2) (N := 7) hx hb hts rt_i2 hown hK hP 14 rfl rfl 3 (by decide) (hts _ (rt_m rt_w210)) (fun _ h9 => h9) rfl d_Reader_readInstruction_5 ?_
  refine lv_icmp_ge (tgt := 46) hx hb d_Reader_readInstruction_8 (by decide) (fun hc => ?_) (fun hc => ?_)
  · have hm := (if_pos hc).symm.trans hm
    exact hB46 ls σ _ _ (lv_sub hl [0] rfl) hm hP hS
  · have hm := (if_neg hc).symm.trans hm
    refine lv_aload_n hx hb d_Reader_readInstruction_11 rfl (lv_at hl 0 rfl) ?_
    refine va_get (D := D) (v := .ref (A 15)) (C := "RangeTeller$Reader") (T := rt_T2) (N := 7) hx hb hts rt_i2 hown hK hP 14 rfl rfl 1 (by decide) (hts _ (rt_m rt_w208)) (fun _ h9 => h9) rfl d_Reader_readInstruction_12 ?_
    refine lv_aload_n hx hb d_Reader_readInstruction_15 rfl (lv_at hl 0 rfl) ?_
    refine va_get (D := D) (v := .int (σ 14 4)) (C := "RangeTeller$Reader") (T := rt_T2) (N := 7) hx hb hts rt_i2 hown hK hP 14 rfl rfl 4 (by decide) (hts _ (rt_m rt_w211)) (fun _ h9 => h9) rfl d_Reader_readInstruction_16 ?_
    obtain ⟨v21, h22, hm⟩ := rt_b1s hm
    refine rt_ald hx hb hK hP 15 0 rfl rfl h22 d_Reader_readInstruction_19 ?_
    obtain ⟨v24, h23, hm⟩ := rt_b1s hm
    refine rt_csi (As := [.int v21]) (rest := []) rt_X0o ⟨hx, hb, hml, hown, hts⟩ (k_C_Ops_isOp l v21 _ h23) (cw_Ops_isOp hts (hts _ (rt_m rt_w440)) ⟨Nat.le_of_ble_eq_true rfl, Nat.le_of_ble_eq_true rfl⟩) hS (fun _ h => Or.inr h) trivial rfl hl.1 rfl (Nat.le_of_ble_eq_true rfl) d_Reader_readInstruction_20 ⟨Nat.zero_le _, Nat.zero_le _⟩ (fun H locs hk hS => ?_)
    have hP := rt_keep hP hk
    clear hk
    refine lv_if_eq (tgt := 46) hx hb d_Reader_readInstruction_23 (by decide) (fun hc => ?_) (fun hc => ?_)
    · have hm := (if_pos hc).symm.trans hm
      exact hB46 ls σ _ _ (lv_sub hl [0] rfl) hm hP hS
    · have hm := (if_neg hc).symm.trans hm
      refine lv_aload_n hx hb d_Reader_readInstruction_26 rfl (lv_at hl 0 rfl) ?_
      refine va_get (D := D) (v := .ref (A 15)) (C := "RangeTeller$Reader") (T := rt_T2) (N := 7) hx hb hts rt_i2 hown hK hP 14 rfl rfl 1 (by decide) (hts _ (rt_m rt_w208)) (fun _ h9 => h9) rfl d_Reader_readInstruction_27 ?_
      refine lv_aload_n hx hb d_Reader_readInstruction_30 rfl (lv_at hl 0 rfl) ?_
      refine va_get (D := D) (v := .int (σ 14 4)) (C := "RangeTeller$Reader") (T := rt_T2) (N := 7) hx hb hts rt_i2 hown hK hP 14 rfl rfl 4 (by decide) (hts _ (rt_m rt_w211)) (fun _ h9 => h9) rfl d_Reader_readInstruction_31 ?_
      obtain ⟨v25, h26, hm⟩ := rt_b1s hm
      refine rt_ald hx hb hK hP 15 0 rfl rfl h26 d_Reader_readInstruction_34 ?_
      refine lv_iconst (v := 4) hx hb d_Reader_readInstruction_35 (by decide) ?_
      refine lv_icmp_ne (tgt := 56) hx hb d_Reader_readInstruction_36 (by decide) (fun hc => ?_) (fun hc => ?_)
      · have hm := (if_neg hc).symm.trans hm
        exact hB56 ls σ _ _ (lv_sub hl [0] rfl) hm hP hS
      · have hm := (if_pos hc).symm.trans hm
        refine lv_aload_n hx hb d_Reader_readInstruction_39 rfl (lv_at hl 0 rfl) ?_
        obtain ⟨v29, σ28, h27, hm⟩ := rt_b2s hm
        refine rt_cvi (As := []) (rest := []) (k := 14) rtC_Xo ⟨hx, hb, hml, hown, hts⟩ (k_C_Reader_elseFits l D cI cZ A hO σ _ _ h27) (cw_Reader_elseFits hts (hts _ (rt_m rt_w443)) ⟨Nat.le_of_ble_eq_true rfl, Nat.le_of_ble_eq_true rfl⟩) hK hP hS hX rfl rfl rfl hl.1 rfl (Nat.le_of_ble_eq_true rfl) d_Reader_readInstruction_40 ⟨Nat.zero_le _, Nat.zero_le _⟩ (fun H locs hP hS => ?_)
        refine lv_if_ne (tgt := 56) hx hb d_Reader_readInstruction_43 (by decide) (fun hc => ?_) (fun hc => ?_)
        · have hm := (if_neg hc).symm.trans hm
          exact hB56 ls σ28 _ _ (lv_sub hl [0] rfl) hm hP hS
        · have hm := (if_pos hc).symm.trans hm
          exact hB46 ls σ28 _ _ (lv_sub hl [0] rfl) hm hP hS
set_option maxHeartbeats 4000000 in
set_option maxRecDepth 100000 in
theorem k_C_Reader_readFunction (l : Launch) (D : va_G) (cI cZ : ClassId) (A : Nat → Nat) (hO : rt_Ok (rtC_W cI cZ A)) (σ : rt_St) (σ' : rt_St) (hm : M_C_Reader_readFunction σ = some σ') (sz : Nat) : Met l y_Reader_readFunction (rt_ws y_Reader_readFunction b_Reader_readFunction 6 none) ({ frames := 3, cells := 0, slots := 0, locals := 66 } : Room) (va_Pc [.ref (A 14)] (rt_P D rt_cl (rt_t cI cZ) rtC_X (rtC_W cI cZ A) sz σ)) (va_Qv (fun u1 => u1 = σ') (rt_B D rt_cl (rt_t cI cZ) rtC_X (rtC_W cI cZ A)) (rt_A (rtC_W cI cZ A) sz)) 0 0 (rt_A (rtC_W cI cZ A) sz) := by
  refine Met.ofW (cc := b_Reader_readFunction) (maxL := 6) (ret := none) (by decide) rfl ?_
  intro p e s m args below meth c s₁ B hml hv
  obtain ⟨rfl, rfl, hP, hK, hX⟩ := hv
  have hx := B.exec
  have hb := B.bytes
  have hr := B.returns
  have hts := atoms_spec (ws := (rt_ws y_Reader_readFunction b_Reader_readFunction 6 none)) B.pre
  have hown : s.vm.findClass "RangeTeller$Reader" = some m.cls := findClass_of_methodNamed B.named
  have hlocks := B.notSynchronized
  have hD := rt_hD hO s.heap.size
  have hS : va_S (rt_A (rtC_W cI cZ A) s.heap.size) s.heap s.heap [] := va_S.rf
  have hl := lv_entry ([.ref (A 14)]) (n := 6) (Nat.le_of_ble_eq_true rfl)
  rw [lg_entry_eq]
  generalize (lg_sl ([.ref (A 14)]) ++ List.replicate (6 - (lg_sl ([.ref (A 14)])).length) Slot.unset).toArray = ls at hl ⊢
  have hl : lv_has ls 6 [(0, .ref (A 14))] := hl
  show W p l e ({ frames := 3, cells := 0, slots := 0, locals := 66 } : Room) s m ([.ref (A 14)] : List Value).toArray below meth c s.heap [] 0 0 (rt_Qv D rt_cl (rt_t cI cZ) rtC_X (rtC_W cI cZ A) below ([.ref (A 14)] : List Value).toArray s σ') (F0 m 0 ls [])
  have hB52 : ∀ (n52 : Nat) (ls : Array Slot) (l4 l5 : Int32) (σ : rt_St) (H : Heap) (locs : List Loc), lv_has ls 6 [(0, .ref (A 14)), (4, .int l4), (5, .int l5)] → B_C_Reader_readFunction_52 n52 l4 l5 σ = some σ' → va_P D rt_cl (rtC_W cI cZ A σ) H → va_S (rt_A (rtC_W cI cZ A) s.heap.size) s.heap H locs → W p l e ({ frames := 3, cells := 0, slots := 0, locals := 66 } : Room) s m ([.ref (A 14)] : List Value).toArray below meth c H locs 0 0 (rt_Qv D rt_cl (rt_t cI cZ) rtC_X (rtC_W cI cZ A) below ([.ref (A 14)] : List Value).toArray s σ') (F0 m 52 ls []) := by
    intro n52
    induction n52 with
    | zero => intro ls l4 l5 σ H locs hl hm hP hS; rw [B_C_Reader_readFunction_52] at hm; cases hm
    | succ n52 ih52 =>
      intro ls l4 l5 σ H locs hl hm hP hS
      rw [B_C_Reader_readFunction_52] at hm
      refine lv_iload hx hb d_Reader_readFunction_52 (lv_at hl 2 rfl) ?_
      refine lv_bipush (v := 100) hx hb d_Reader_readFunction_54 (by decide) ?_
      refine lv_icmp_ge (tgt := 85) hx hb d_Reader_readFunction_56 (by decide) (fun hc => ?_) (fun hc => ?_)
      · have hm := (if_pos hc).symm.trans hm
        exact W.vret hx hb hr (fun t ht hW => ⟨⟨_, rfl, Option.some.inj hm, rt_end rtC_Xo hK hP hS hX ht hW⟩, hS.F ht⟩) hS.2.2 d_Reader_readFunction_85
      · have hm := (if_neg hc).symm.trans hm
        refine lv_iload hx hb d_Reader_readFunction_59 (lv_at hl 1 rfl) ?_
        refine lv_if_ne (tgt := 85) hx hb d_Reader_readFunction_61 (by decide) (fun hc => ?_) (fun hc => ?_)
        · have hm := (if_neg hc).symm.trans hm
          exact W.vret hx hb hr (fun t ht hW => ⟨⟨_, rfl, Option.some.inj hm, rt_end rtC_Xo hK hP hS hX ht hW⟩, hS.F ht⟩) hS.2.2 d_Reader_readFunction_85
        · have hm := (if_pos hc).symm.trans hm
          refine lv_aload_n hx hb d_Reader_readFunction_64 rfl (lv_at hl 0 rfl) ?_
          refine va_get (D := D) (v := .int (σ 14 6)) (C := "RangeTeller$Reader") (T := rt_T2) (N := 7) hx hb hts rt_i2 hown hK hP 14 rfl rfl 6 (by decide) (hts _ (rt_m rt_w213)) (fun _ h9 => h9) rfl d_Reader_readFunction_65 ?_
          refine lv_bipush (v := (-3)) hx hb d_Reader_readFunction_68 (by decide) ?_
          refine lv_icmp_ne (tgt := 85) hx hb d_Reader_readFunction_70 (by decide) (fun hc => ?_) (fun hc => ?_)
          · have hm := (if_neg hc).symm.trans hm
            exact W.vret hx hb hr (fun t ht hW => ⟨⟨_, rfl, Option.some.inj hm, rt_end rtC_Xo hK hP hS hX ht hW⟩, hS.F ht⟩) hS.2.2 d_Reader_readFunction_85
          · have hm := (if_pos hc).symm.trans hm
            refine lv_aload_n hx hb d_Reader_readFunction_73 rfl (lv_at hl 0 rfl) ?_
            obtain ⟨v3, σ2, h1, hm⟩ := rt_b2s hm
            refine rt_cvi (As := []) (rest := []) (k := 14) rtC_Xo ⟨hx, hb, hml, hown, hts⟩ (k_C_Reader_readInstruction l D cI cZ A hO σ _ _ h1) (cw_Reader_readInstruction hts (hts _ (rt_m rt_w436)) ⟨Nat.le_of_ble_eq_true rfl, Nat.le_of_ble_eq_true rfl⟩) hK hP hS hX rfl rfl rfl hl.1 rfl (Nat.le_of_ble_eq_true rfl) d_Reader_readFunction_74 ⟨Nat.zero_le _, Nat.zero_le _⟩ (fun H locs hP hS => ?_)
            refine lv_istore hx hb d_Reader_readFunction_77 hl (by decide) rfl (fun ls hl => ?_)
            have hl : lv_has ls 6 [(4, .int v3), (0, .ref (A 14)), (5, .int l5)] := hl
            refine lv_iinc (k := 2) (v := (l5 + 1)) hx hb d_Reader_readFunction_79 hl rfl rfl (by decide) rfl (fun ls hl => ?_)
            have hl : lv_has ls 6 [(5, .int (l5 + 1)), (4, .int v3), (0, .ref (A 14))] := hl
            refine lv_goto (tgt := 52) hx hb d_Reader_readFunction_82 (by decide) ?_
            exact ih52 ls v3 (l5 + 1) σ2 _ _ (lv_sub hl [2, 1, 0] rfl) hm hP hS
  unfold M_C_Reader_readFunction at hm
  refine lv_aload_n hx hb d_Reader_readFunction_0 rfl (lv_at hl 0 rfl) ?_
  refine lv_iconst (v := 0) hx hb d_Reader_readFunction_1 (by decide) ?_
  refine lv_iconst (v := 2) hx hb d_Reader_readFunction_2 (by decide) ?_
  obtain ⟨v6, σ5, h4, hm⟩ := rt_b2s hm
  refine rt_cvi (As := [.int 0, .int 2]) (rest := []) (k := 14) rtC_Xo ⟨hx, hb, hml, hown, hts⟩ (k_C_Reader_readNumber l D cI cZ A hO σ 0 2 _ _ h4) (cw_Reader_readNumber hts (hts _ (rt_m rt_w424)) ⟨Nat.le_of_ble_eq_true rfl, Nat.le_of_ble_eq_true rfl⟩) hK hP hS hX rfl rfl rfl hl.1 rfl (Nat.le_of_ble_eq_true rfl) d_Reader_readFunction_3 ⟨Nat.zero_le _, Nat.zero_le _⟩ (fun H locs hP hS => ?_)
  refine lv_istore_n hx hb d_Reader_readFunction_6 rfl hl (by decide) rfl (fun ls hl => ?_)
  have hl : lv_has ls 6 [(1, .int v6), (0, .ref (A 14))] := hl
  refine lv_aload_n hx hb d_Reader_readFunction_7 rfl (lv_at hl 1 rfl) ?_
  refine lv_iconst (v := 0) hx hb d_Reader_readFunction_8 (by decide) ?_
  refine lv_iconst (v := 2) hx hb d_Reader_readFunction_9 (by decide) ?_
  obtain ⟨v9, σ8, h7, hm⟩ := rt_b2s hm
  refine rt_cvi (As := [.int 0, .int 2]) (rest := []) (k := 14) rtC_Xo ⟨hx, hb, hml, hown, hts⟩ (k_C_Reader_readNumber l D cI cZ A hO σ5 0 2 _ _ h7) (cw_Reader_readNumber hts (hts _ (rt_m rt_w424)) ⟨Nat.le_of_ble_eq_true rfl, Nat.le_of_ble_eq_true rfl⟩) hK hP hS hX rfl rfl rfl hl.1 rfl (Nat.le_of_ble_eq_true rfl) d_Reader_readFunction_10 ⟨Nat.zero_le _, Nat.zero_le _⟩ (fun H locs hP hS => ?_)
  refine lv_istore_n hx hb d_Reader_readFunction_13 rfl hl (by decide) rfl (fun ls hl => ?_)
  have hl : lv_has ls 6 [(2, .int v9), (1, .int v6), (0, .ref (A 14))] := hl
  refine lv_aload_n hx hb d_Reader_readFunction_14 rfl (lv_at hl 2 rfl) ?_
  refine lv_iconst (v := 0) hx hb d_Reader_readFunction_15 (by decide) ?_
  refine lv_iconst (v := 1) hx hb d_Reader_readFunction_16 (by decide) ?_
  obtain ⟨v12, σ11, h10, hm⟩ := rt_b2s hm
  refine rt_cvi (As := [.int 0, .int 1]) (rest := []) (k := 14) rtC_Xo ⟨hx, hb, hml, hown, hts⟩ (k_C_Reader_readNumber l D cI cZ A hO σ8 0 1 _ _ h10) (cw_Reader_readNumber hts (hts _ (rt_m rt_w424)) ⟨Nat.le_of_ble_eq_true rfl, Nat.le_of_ble_eq_true rfl⟩) hK hP hS hX rfl rfl rfl hl.1 rfl (Nat.le_of_ble_eq_true rfl) d_Reader_readFunction_17 ⟨Nat.zero_le _, Nat.zero_le _⟩ (fun H locs hP hS => ?_)
  refine lv_istore_n hx hb d_Reader_readFunction_20 rfl hl (by decide) rfl (fun ls hl => ?_)
  have hl : lv_has ls 6 [(3, .int v12), (2, .int v9), (1, .int v6), (0, .ref (A 14))] := hl
  refine lv_aload_n hx hb d_Reader_readFunction_21 rfl (lv_at hl 3 rfl) ?_
  refine va_get (D := D) (v := .int (σ11 14 6)) (C := "RangeTeller$Reader") (T := rt_T2) (N := 7) hx hb hts rt_i2 hown hK hP 14 rfl rfl 6 (by decide) (hts _ (rt_m rt_w213)) (fun _ h9 => h9) rfl d_Reader_readFunction_22 ?_
  refine lv_bipush (v := (-3)) hx hb d_Reader_readFunction_25 (by decide) ?_
  refine lv_icmp_eq (tgt := 31) hx hb d_Reader_readFunction_27 (by decide) (fun hc => ?_) (fun hc => ?_)
  · have hm := (if_pos hc).symm.trans hm
    refine lv_aload_n hx hb d_Reader_readFunction_31 rfl (lv_at hl 3 rfl) ?_
    refine va_get (D := D) (v := .ref (A 1)) (C := "RangeTeller$Reader") (T := rt_T2) (N := 7) hx hb hts rt_i2 hown hK hP 14 rfl rfl 0 (by decide) (hts _ (rt_m rt_w207)) (fun _ h9 => h9) rfl d_Reader_readFunction_32 ?_
    refine lv_iload_n hx hb d_Reader_readFunction_35 rfl (lv_at hl 2 rfl) ?_
    refine lv_iload_n hx hb d_Reader_readFunction_36 rfl (lv_at hl 1 rfl) ?_
    refine lv_iload_n hx hb d_Reader_readFunction_37 rfl (lv_at hl 0 rfl) ?_
    obtain ⟨σ14, h13, hm⟩ := rt_b1s hm
    refine rt_cvv (As := [.int v6, .int v9, .int v12]) (rest := []) (k := 1) rtC_Xo ⟨hx, hb, hml, hown, hts⟩ (k_C_Program_addFunction l D cI cZ A hO σ11 v6 v9 v12 _ h13) (cw_Program_addFunction hts (hts _ (rt_m rt_w432)) ⟨Nat.le_of_ble_eq_true rfl, Nat.le_of_ble_eq_true rfl⟩) hK hP hS hX rfl rfl rfl hl.1 rfl (Nat.le_of_ble_eq_true rfl) d_Reader_readFunction_38 ⟨Nat.zero_le _, Nat.zero_le _⟩ (fun H locs hP hS => ?_)
    refine lv_aload_n hx hb d_Reader_readFunction_41 rfl (lv_at hl 3 rfl) ?_
    refine lv_iconst (v := 0) hx hb d_Reader_readFunction_42 (by decide) ?_
    obtain ⟨σ15, h16, hm⟩ := rt_b1s hm
    refine rt_pf (D := D) (C := "RangeTeller$Reader") (T := rt_T2) (N := 7) (ty := .int) hx hb hts rt_i2 rt_y2 rt_o2 rt_n2 hown hK hP hD hS 14 rfl rfl 5 (by decide) (hts _ (rt_m rt_w212)) (fun _ h9 => h9) rfl (by decide +kernel) rfl rfl (Nat.le_of_ble_eq_true rfl) (rtC_s14_5 cI cZ A _ _) h16 d_Reader_readFunction_43 (fun H locs hP hS => ?_)
    refine lv_iconst (v := 0) hx hb d_Reader_readFunction_46 (by decide) ?_
    refine lv_istore hx hb d_Reader_readFunction_47 hl (by decide) rfl (fun ls hl => ?_)
    have hl : lv_has ls 6 [(4, .int 0), (3, .int v12), (2, .int v9), (1, .int v6), (0, .ref (A 14))] := hl
    refine lv_iconst (v := 0) hx hb d_Reader_readFunction_49 (by decide) ?_
    refine lv_istore hx hb d_Reader_readFunction_50 hl (by decide) rfl (fun ls hl => ?_)
    have hl : lv_has ls 6 [(5, .int 0), (4, .int 0), (3, .int v12), (2, .int v9), (1, .int v6), (0, .ref (A 14))] := hl
    exact hB52 _ ls 0 0 σ15 _ _ (lv_sub hl [5, 1, 0] rfl) hm hP hS
  · have hm := (if_neg hc).symm.trans hm
    exact W.vret hx hb hr (fun t ht hW => ⟨⟨_, rfl, Option.some.inj hm, rt_end rtC_Xo hK hP hS hX ht hW⟩, hS.F ht⟩) hS.2.2 d_Reader_readFunction_30
set_option maxHeartbeats 4000000 in
set_option maxRecDepth 100000 in
theorem k_C_Reader_readModule (l : Launch) (D : va_G) (cI cZ : ClassId) (A : Nat → Nat) (hO : rt_Ok (rtC_W cI cZ A)) (σ : rt_St) (r' : Int32) (σ' : rt_St) (hm : M_C_Reader_readModule σ = some (r', σ')) (sz : Nat) : Met l y_Reader_readModule (rt_ws y_Reader_readModule b_Reader_readModule 3 (some .int)) ({ frames := 4, cells := 0, slots := 0, locals := 91 } : Room) (va_Pc [.ref (A 14)] (rt_P D rt_cl (rt_t cI cZ) rtC_X (rtC_W cI cZ A) sz σ)) (va_Qi (fun r1 u1 => r1 = r' ∧ u1 = σ') (rt_B D rt_cl (rt_t cI cZ) rtC_X (rtC_W cI cZ A)) (rt_A (rtC_W cI cZ A) sz)) 0 0 (rt_A (rtC_W cI cZ A) sz) := by
  refine Met.ofW (cc := b_Reader_readModule) (maxL := 3) (ret := (some .int)) (by decide) rfl ?_
  intro p e s m args below meth c s₁ B hml hv
  obtain ⟨rfl, rfl, hP, hK, hX⟩ := hv
  have hx := B.exec
  have hb := B.bytes
  have hr := B.returns
  have hts := atoms_spec (ws := (rt_ws y_Reader_readModule b_Reader_readModule 3 (some .int))) B.pre
  have hown : s.vm.findClass "RangeTeller$Reader" = some m.cls := findClass_of_methodNamed B.named
  have hlocks := B.notSynchronized
  have hD := rt_hD hO s.heap.size
  have hS : va_S (rt_A (rtC_W cI cZ A) s.heap.size) s.heap s.heap [] := va_S.rf
  have hl := lv_entry ([.ref (A 14)]) (n := 3) (Nat.le_of_ble_eq_true rfl)
  rw [lg_entry_eq]
  generalize (lg_sl ([.ref (A 14)]) ++ List.replicate (3 - (lg_sl ([.ref (A 14)])).length) Slot.unset).toArray = ls at hl ⊢
  have hl : lv_has ls 3 [(0, .ref (A 14))] := hl
  show W p l e ({ frames := 4, cells := 0, slots := 0, locals := 91 } : Room) s m ([.ref (A 14)] : List Value).toArray below meth c s.heap [] 0 0 (rt_Qi D rt_cl (rt_t cI cZ) rtC_X (rtC_W cI cZ A) below ([.ref (A 14)] : List Value).toArray s r' σ') (F0 m 0 ls [])
  have hB79 : ∀ (ls : Array Slot) (σ : rt_St) (H : Heap) (locs : List Loc), lv_has ls 3 [(0, .ref (A 14))] → B_C_Reader_readModule_79 σ = some (r', σ') → va_P D rt_cl (rtC_W cI cZ A σ) H → va_S (rt_A (rtC_W cI cZ A) s.heap.size) s.heap H locs → W p l e ({ frames := 4, cells := 0, slots := 0, locals := 91 } : Room) s m ([.ref (A 14)] : List Value).toArray below meth c H locs 0 0 (rt_Qi D rt_cl (rt_t cI cZ) rtC_X (rtC_W cI cZ A) below ([.ref (A 14)] : List Value).toArray s r' σ') (F0 m 79 ls []) := by
    intro ls σ H locs hl hm hP hS
    unfold B_C_Reader_readModule_79 at hm
    refine lv_aload_n hx hb d_Reader_readModule_79 rfl (lv_at hl 0 rfl) ?_
    refine lv_iconst (v := 0) hx hb d_Reader_readModule_80 (by decide) ?_
    obtain ⟨σ1, h2, hm⟩ := rt_b1s hm
    refine rt_pf (D := D) (C := "RangeTeller$Reader") (T := rt_T2) (N := 7) (ty := .int) hx hb hts rt_i2 rt_y2 rt_o2 rt_n2 hown hK hP hD hS 14 rfl rfl 3 (by decide) (hts _ (rt_m rt_w210)) (fun _ h9 => h9) rfl (by decide +kernel) rfl rfl (Nat.le_of_ble_eq_true rfl) (rtC_s14_3 cI cZ A _ _) h2 d_Reader_readModule_81 (fun H locs hP hS => ?_)
    refine lv_aload_n hx hb d_Reader_readModule_84 rfl (lv_at hl 0 rfl) ?_
    refine va_get (D := D) (v := .int (σ1 14 6)) (C := "RangeTeller$Reader") (T := rt_T2) (N := 7) hx hb hts rt_i2 hown hK hP 14 rfl rfl 6 (by decide) (hts _ (rt_m rt_w213)) (fun _ h9 => h9) rfl d_Reader_readModule_85 ?_
    exact W.iret hx hb hr (fun t ht hW => ⟨⟨_, _, rfl, rt_pr hm, rt_end rtC_Xo hK hP hS hX ht hW⟩, hS.F ht⟩) hS.2.2 d_Reader_readModule_88
  have hB51 : ∀ (ls : Array Slot) (σ : rt_St) (H : Heap) (locs : List Loc), lv_has ls 3 [(0, .ref (A 14))] → B_C_Reader_readModule_51 σ = some (r', σ') → va_P D rt_cl (rtC_W cI cZ A σ) H → va_S (rt_A (rtC_W cI cZ A) s.heap.size) s.heap H locs → W p l e ({ frames := 4, cells := 0, slots := 0, locals := 91 } : Room) s m ([.ref (A 14)] : List Value).toArray below meth c H locs 0 0 (rt_Qi D rt_cl (rt_t cI cZ) rtC_X (rtC_W cI cZ A) below ([.ref (A 14)] : List Value).toArray s r' σ') (F0 m 51 ls []) := by
    intro ls σ H locs hl hm hP hS
    unfold B_C_Reader_readModule_51 at hm
    refine lv_aload_n hx hb d_Reader_readModule_51 rfl (lv_at hl 0 rfl) ?_
    refine va_get (D := D) (v := .int (σ 14 6)) (C := "RangeTeller$Reader") (T := rt_T2) (N := 7) hx hb hts rt_i2 hown hK hP 14 rfl rfl 6 (by decide) (hts _ (rt_m rt_w213)) (fun _ h9 => h9) rfl d_Reader_readModule_52 ?_
    refine lv_bipush (v := (-3)) hx hb d_Reader_readModule_55 (by decide) ?_
    refine lv_icmp_ne (tgt := 79) hx hb d_Reader_readModule_57 (by decide) (fun hc => ?_) (fun hc => ?_)
    · have hm := (if_neg hc).symm.trans hm
      exact hB79 ls σ _ _ (lv_sub hl [0] rfl) hm hP hS
    · have hm := (if_pos hc).symm.trans hm
      refine lv_aload_n hx hb d_Reader_readModule_60 rfl (lv_at hl 0 rfl) ?_
      refine va_get (D := D) (v := .int (σ 14 4)) (C := "RangeTeller$Reader") (T := rt_T2) (N := 7) hx hb hts rt_i2 hown hK hP 14 rfl rfl 4 (by decide) (hts _ (rt_m rt_w211)) (fun _ h9 => h9) rfl d_Reader_readModule_61 ?_
      refine lv_aload_n hx hb d_Reader_readModule_64 rfl (lv_at hl 0 rfl) ?_
      refine va_get (D := D) (v := .int (σ 14 3)) (C := "RangeTeller$Reader") (T := rt_T2) (N := 7) hx hb hts rt_i2 hown hK hP 14 rfl rfl 3 (by decide) (hts _ (rt_m rt_w210)) (fun _ h9 => h9) rfl d_Reader_readModule_65 ?_
      refine lv_icmp_ge (tgt := 79) hx hb d_Reader_readModule_68 (by decide) (fun hc => ?_) (fun hc => ?_)
      · have hm := (if_pos hc).symm.trans hm
        exact hB79 ls σ _ _ (lv_sub hl [0] rfl) hm hP hS
      · have hm := (if_neg hc).symm.trans hm
        refine lv_aload_n hx hb d_Reader_readModule_71 rfl (lv_at hl 0 rfl) ?_
        refine lv_aload_n hx hb d_Reader_readModule_72 rfl (lv_at hl 0 rfl) ?_
        refine va_get (D := D) (v := .int (σ 14 4)) (C := "RangeTeller$Reader") (T := rt_T2) (N := 7) hx hb hts rt_i2 hown hK hP 14 rfl rfl 4 (by decide) (hts _ (rt_m rt_w211)) (fun _ h9 => h9) rfl d_Reader_readModule_73 ?_
        obtain ⟨σ3, h4, hm⟩ := rt_b1s hm
        refine rt_pf (D := D) (C := "RangeTeller$Reader") (T := rt_T2) (N := 7) (ty := .int) hx hb hts rt_i2 rt_y2 rt_o2 rt_n2 hown hK hP hD hS 14 rfl rfl 6 (by decide) (hts _ (rt_m rt_w213)) (fun _ h9 => h9) rfl (by decide +kernel) rfl rfl (Nat.le_of_ble_eq_true rfl) (rtC_s14_6 cI cZ A _ _) h4 d_Reader_readModule_76 (fun H locs hP hS => ?_)
        exact hB79 ls σ3 _ _ (lv_sub hl [0] rfl) hm hP hS
  have hB27 : ∀ (n27 : Nat) (ls : Array Slot) (l1 l2 : Int32) (σ : rt_St) (H : Heap) (locs : List Loc), lv_has ls 3 [(0, .ref (A 14)), (1, .int l1), (2, .int l2)] → B_C_Reader_readModule_27 n27 l1 l2 σ = some (r', σ') → va_P D rt_cl (rtC_W cI cZ A σ) H → va_S (rt_A (rtC_W cI cZ A) s.heap.size) s.heap H locs → W p l e ({ frames := 4, cells := 0, slots := 0, locals := 91 } : Room) s m ([.ref (A 14)] : List Value).toArray below meth c H locs 0 0 (rt_Qi D rt_cl (rt_t cI cZ) rtC_X (rtC_W cI cZ A) below ([.ref (A 14)] : List Value).toArray s r' σ') (F0 m 27 ls []) := by
    intro n27
    induction n27 with
    | zero => intro ls l1 l2 σ H locs hl hm hP hS; rw [B_C_Reader_readModule_27] at hm; cases hm
    | succ n27 ih27 =>
      intro ls l1 l2 σ H locs hl hm hP hS
      rw [B_C_Reader_readModule_27] at hm
      refine lv_iload_n hx hb d_Reader_readModule_27 rfl (lv_at hl 2 rfl) ?_
      refine lv_iload_n hx hb d_Reader_readModule_28 rfl (lv_at hl 1 rfl) ?_
      refine lv_icmp_ge (tgt := 51) hx hb d_Reader_readModule_29 (by decide) (fun hc => ?_) (fun hc => ?_)
      · have hm := (if_pos hc).symm.trans hm
        exact hB51 ls σ _ _ (lv_sub hl [0] rfl) hm hP hS
      · have hm := (if_neg hc).symm.trans hm
        refine lv_aload_n hx hb d_Reader_readModule_32 rfl (lv_at hl 0 rfl) ?_
        refine va_get (D := D) (v := .int (σ 14 6)) (C := "RangeTeller$Reader") (T := rt_T2) (N := 7) hx hb hts rt_i2 hown hK hP 14 rfl rfl 6 (by decide) (hts _ (rt_m rt_w213)) (fun _ h9 => h9) rfl d_Reader_readModule_33 ?_
        refine lv_bipush (v := (-3)) hx hb d_Reader_readModule_36 (by decide) ?_
        refine lv_icmp_ne (tgt := 51) hx hb d_Reader_readModule_38 (by decide) (fun hc => ?_) (fun hc => ?_)
        · have hm := (if_neg hc).symm.trans hm
          exact hB51 ls σ _ _ (lv_sub hl [0] rfl) hm hP hS
        · have hm := (if_pos hc).symm.trans hm
          refine lv_aload_n hx hb d_Reader_readModule_41 rfl (lv_at hl 0 rfl) ?_
          obtain ⟨σ6, h5, hm⟩ := rt_b1s hm
          refine rt_cvv (As := []) (rest := []) (k := 14) rtC_Xo ⟨hx, hb, hml, hown, hts⟩ (k_C_Reader_readFunction l D cI cZ A hO σ _ h5) (cw_Reader_readFunction hts (hts _ (rt_m rt_w428)) ⟨Nat.le_of_ble_eq_true rfl, Nat.le_of_ble_eq_true rfl⟩) hK hP hS hX rfl rfl rfl hl.1 rfl (Nat.le_of_ble_eq_true rfl) d_Reader_readModule_42 ⟨Nat.zero_le _, Nat.zero_le _⟩ (fun H locs hP hS => ?_)
          refine lv_iinc (k := 2) (v := (l2 + 1)) hx hb d_Reader_readModule_45 hl rfl rfl (by decide) rfl (fun ls hl => ?_)
          have hl : lv_has ls 3 [(2, .int (l2 + 1)), (0, .ref (A 14)), (1, .int l1)] := hl
          refine lv_goto (tgt := 27) hx hb d_Reader_readModule_48 (by decide) ?_
          exact ih27 ls l1 (l2 + 1) σ6 _ _ (lv_sub hl [1, 2, 0] rfl) hm hP hS
  unfold M_C_Reader_readModule at hm
  refine lv_aload_n hx hb d_Reader_readModule_0 rfl (lv_at hl 0 rfl) ?_
  refine va_get (D := D) (v := .ref (A 1)) (C := "RangeTeller$Reader") (T := rt_T2) (N := 7) hx hb hts rt_i2 hown hK hP 14 rfl rfl 0 (by decide) (hts _ (rt_m rt_w207)) (fun _ h9 => h9) rfl d_Reader_readModule_1 ?_
  obtain ⟨σ8, h7, hm⟩ := rt_b1s hm
  refine rt_cvv (As := []) (rest := []) (k := 1) rtC_Xo ⟨hx, hb, hml, hown, hts⟩ (k_C_Program_clear l D cI cZ A hO σ _ h7) (cw_Program_clear hts (hts _ (rt_m rt_w420)) ⟨Nat.le_of_ble_eq_true rfl, Nat.le_of_ble_eq_true rfl⟩) hK hP hS hX rfl rfl rfl hl.1 rfl (Nat.le_of_ble_eq_true rfl) d_Reader_readModule_4 ⟨Nat.zero_le _, Nat.zero_le _⟩ (fun H locs hP hS => ?_)
  refine lv_aload_n hx hb d_Reader_readModule_7 rfl (lv_at hl 0 rfl) ?_
  refine lv_iconst (v := 0) hx hb d_Reader_readModule_8 (by decide) ?_
  obtain ⟨σ9, h10, hm⟩ := rt_b1s hm
  refine rt_pf (D := D) (C := "RangeTeller$Reader") (T := rt_T2) (N := 7) (ty := .int) hx hb hts rt_i2 rt_y2 rt_o2 rt_n2 hown hK hP hD hS 14 rfl rfl 4 (by decide) (hts _ (rt_m rt_w211)) (fun _ h9 => h9) rfl (by decide +kernel) rfl rfl (Nat.le_of_ble_eq_true rfl) (rtC_s14_4 cI cZ A _ _) h10 d_Reader_readModule_9 (fun H locs hP hS => ?_)
  refine lv_aload_n hx hb d_Reader_readModule_12 rfl (lv_at hl 0 rfl) ?_
  refine lv_bipush (v := (-3)) hx hb d_Reader_readModule_13 (by decide) ?_
  obtain ⟨σ11, h12, hm⟩ := rt_b1s hm
  refine rt_pf (D := D) (C := "RangeTeller$Reader") (T := rt_T2) (N := 7) (ty := .int) hx hb hts rt_i2 rt_y2 rt_o2 rt_n2 hown hK hP hD hS 14 rfl rfl 6 (by decide) (hts _ (rt_m rt_w213)) (fun _ h9 => h9) rfl (by decide +kernel) rfl rfl (Nat.le_of_ble_eq_true rfl) (rtC_s14_6 cI cZ A _ _) h12 d_Reader_readModule_15 (fun H locs hP hS => ?_)
  refine lv_aload_n hx hb d_Reader_readModule_18 rfl (lv_at hl 0 rfl) ?_
  refine lv_iconst (v := 1) hx hb d_Reader_readModule_19 (by decide) ?_
  refine lv_iconst (v := 3) hx hb d_Reader_readModule_20 (by decide) ?_
  obtain ⟨v15, σ14, h13, hm⟩ := rt_b2s hm
  refine rt_cvi (As := [.int 1, .int 3]) (rest := []) (k := 14) rtC_Xo ⟨hx, hb, hml, hown, hts⟩ (k_C_Reader_readNumber l D cI cZ A hO σ11 1 3 _ _ h13) (cw_Reader_readNumber hts (hts _ (rt_m rt_w424)) ⟨Nat.le_of_ble_eq_true rfl, Nat.le_of_ble_eq_true rfl⟩) hK hP hS hX rfl rfl rfl hl.1 rfl (Nat.le_of_ble_eq_true rfl) d_Reader_readModule_21 ⟨Nat.zero_le _, Nat.zero_le _⟩ (fun H locs hP hS => ?_)
  refine lv_istore_n hx hb d_Reader_readModule_24 rfl hl (by decide) rfl (fun ls hl => ?_)
  have hl : lv_has ls 3 [(1, .int v15), (0, .ref (A 14))] := hl
  refine lv_iconst (v := 0) hx hb d_Reader_readModule_25 (by decide) ?_
  refine lv_istore_n hx hb d_Reader_readModule_26 rfl hl (by decide) rfl (fun ls hl => ?_)
  have hl : lv_has ls 3 [(2, .int 0), (1, .int v15), (0, .ref (A 14))] := hl
  exact hB27 _ ls v15 0 σ14 _ _ (lv_sub hl [2, 1, 0] rfl) hm hP hS
set_option maxHeartbeats 4000000 in
set_option maxRecDepth 100000 in
theorem k_C_Ops_taken (l : Launch) (a0 : Int32) (r' : Int32) (hm : M_C_Ops_taken a0 = some r') : rt_MS l y_Ops_taken b_Ops_taken 1 (some .int) ({ frames := 1, cells := 0, slots := 0, locals := 20 } : Room) rtC_X [.int a0] r' := by
  intro sz
  refine Met.ofW (cc := b_Ops_taken) (maxL := 1) (ret := (some .int)) (by decide) rfl ?_
  intro p e s m args below meth c s₁ B hml hv
  obtain ⟨rfl, rfl, hX⟩ := hv
  have hx := B.exec
  have hb := B.bytes
  have hr := B.returns
  have hts := atoms_spec (ws := (rt_ws y_Ops_taken b_Ops_taken 1 (some .int))) B.pre
  have hown : s.vm.findClass "RangeTeller$Ops" = some m.cls := findClass_of_methodNamed B.named
  have hlocks := B.notSynchronized
  have hS : va_S (fun q => s.heap.size ≤ q) s.heap s.heap [] := va_S.rf
  have hl := lv_entry ([.int a0]) (n := 1) (Nat.le_of_ble_eq_true rfl)
  rw [lg_entry_eq]
  generalize (lg_sl ([.int a0]) ++ List.replicate (1 - (lg_sl ([.int a0])).length) Slot.unset).toArray = ls at hl ⊢
  have hl : lv_has ls 1 [(0, .int a0)] := hl
  show W p l e ({ frames := 1, cells := 0, slots := 0, locals := 20 } : Room) s m ([.int a0] : List Value).toArray below meth c s.heap [] 0 0 (rt_Qs below ([.int a0] : List Value).toArray s r') (F0 m 0 ls [])
  unfold M_C_Ops_taken at hm
  refine lv_iload_n hx hb d_Ops_taken_0 rfl (lv_at hl 0 rfl) ?_
  obtain ⟨v2, h1, hm⟩ := rt_b1s hm
  refine rt_csi (As := [.int a0]) (rest := []) rt_X0o ⟨hx, hb, hml, hown, hts⟩ (k_C_Ops_isOp l a0 _ h1) (cw_Ops_isOp hts (hts _ (rt_m rt_w533)) ⟨Nat.le_of_ble_eq_true rfl, Nat.le_of_ble_eq_true rfl⟩) hS (fun _ h => h) trivial rfl hl.1 rfl (Nat.le_of_ble_eq_true rfl) d_Ops_taken_1 ⟨Nat.zero_le _, Nat.zero_le _⟩ (fun H locs hk hS => ?_)
  clear hk
  refine lv_if_eq (tgt := 15) hx hb d_Ops_taken_4 (by decide) (fun hc => ?_) (fun hc => ?_)
  · have hm := (if_pos hc).symm.trans hm
    refine lv_iconst (v := 0) hx hb d_Ops_taken_15 (by decide) ?_
    exact W.iret hx hb hr (fun t ht hW => ⟨⟨_, (), rfl, Option.some.inj hm, trivial⟩, hS.F ht⟩) hS.2.2 d_Ops_taken_16
  · have hm := (if_neg hc).symm.trans hm
    obtain ⟨t_S_Ops_TAKES, hZ_S_Ops_TAKES, hT_S_Ops_TAKES⟩ := rtC_X_TAKES hX
    refine va_gets hx hb hZ_S_Ops_TAKES hS hown (hts _ (rt_m rt_w534)) (fun _ h9 => h9) d_Ops_taken_7 ?_
    refine lv_iload_n hx hb d_Ops_taken_10 rfl (lv_at hl 0 rfl) ?_
    obtain ⟨v3, h4, hm⟩ := rt_b1s hm
    refine rt_sld hx hb hT_S_Ops_TAKES hS h4 d_Ops_taken_11 ?_
    refine lv_goto (tgt := 16) hx hb d_Ops_taken_12 (by decide) ?_
    exact W.iret hx hb hr (fun t ht hW => ⟨⟨_, (), rfl, Option.some.inj hm, trivial⟩, hS.F ht⟩) hS.2.2 d_Ops_taken_16
set_option maxHeartbeats 4000000 in
set_option maxRecDepth 100000 in
theorem k_C_Checker_take (l : Launch) (D : va_G) (cI cZ : ClassId) (A : Nat → Nat) (hO : rt_Ok (rtC_W cI cZ A)) (σ : rt_St) (a1 : Int32) (σ' : rt_St) (hm : M_C_Checker_take σ a1 = some σ') (sz : Nat) : Met l y_Checker_take (rt_ws y_Checker_take b_Checker_take 3 none) ({ frames := 0, cells := 0, slots := 0, locals := 0 } : Room) (va_Pc [.ref (A 17), .int a1] (rt_P D rt_cl (rt_t cI cZ) rtC_X (rtC_W cI cZ A) sz σ)) (va_Qv (fun u1 => u1 = σ') (rt_B D rt_cl (rt_t cI cZ) rtC_X (rtC_W cI cZ A)) (rt_A (rtC_W cI cZ A) sz)) 0 0 (rt_A (rtC_W cI cZ A) sz) := by
  refine Met.ofW (cc := b_Checker_take) (maxL := 3) (ret := none) (by decide) rfl ?_
  intro p e s m args below meth c s₁ B hml hv
  obtain ⟨rfl, rfl, hP, hK, hX⟩ := hv
  have hx := B.exec
  have hb := B.bytes
  have hr := B.returns
  have hts := atoms_spec (ws := (rt_ws y_Checker_take b_Checker_take 3 none)) B.pre
  have hown : s.vm.findClass "RangeTeller$Checker" = some m.cls := findClass_of_methodNamed B.named
  have hlocks := B.notSynchronized
  have hD := rt_hD hO s.heap.size
  have hS : va_S (rt_A (rtC_W cI cZ A) s.heap.size) s.heap s.heap [] := va_S.rf
  have hl := lv_entry ([.ref (A 17), .int a1]) (n := 3) (Nat.le_of_ble_eq_true rfl)
  rw [lg_entry_eq]
  generalize (lg_sl ([.ref (A 17), .int a1]) ++ List.replicate (3 - (lg_sl ([.ref (A 17), .int a1])).length) Slot.unset).toArray = ls at hl ⊢
  have hl : lv_has ls 3 [(0, .ref (A 17)), (1, .int a1)] := hl
  show W p l e ({ frames := 0, cells := 0, slots := 0, locals := 0 } : Room) s m ([.ref (A 17), .int a1] : List Value).toArray below meth c s.heap [] 0 0 (rt_Qv D rt_cl (rt_t cI cZ) rtC_X (rtC_W cI cZ A) below ([.ref (A 17), .int a1] : List Value).toArray s σ') (F0 m 0 ls [])
  have hB2 : ∀ (n2 : Nat) (ls : Array Slot) (l1 l2 : Int32) (σ : rt_St) (H : Heap) (locs : List Loc), lv_has ls 3 [(0, .ref (A 17)), (1, .int l1), (2, .int l2)] → B_C_Checker_take_2 n2 l1 l2 σ = some σ' → va_P D rt_cl (rtC_W cI cZ A σ) H → va_S (rt_A (rtC_W cI cZ A) s.heap.size) s.heap H locs → W p l e ({ frames := 0, cells := 0, slots := 0, locals := 0 } : Room) s m ([.ref (A 17), .int a1] : List Value).toArray below meth c H locs 0 0 (rt_Qv D rt_cl (rt_t cI cZ) rtC_X (rtC_W cI cZ A) below ([.ref (A 17), .int a1] : List Value).toArray s σ') (F0 m 2 ls []) := by
    intro n2
    induction n2 with
    | zero => intro ls l1 l2 σ H locs hl hm hP hS; rw [B_C_Checker_take_2] at hm; cases hm
    | succ n2 ih2 =>
      have hB53 : ∀ (ls : Array Slot) (l1 l2 : Int32) (σ : rt_St) (H : Heap) (locs : List Loc), lv_has ls 3 [(0, .ref (A 17)), (1, .int l1), (2, .int l2)] → B_C_Checker_take_53 (B_C_Checker_take_2 n2) l1 l2 σ = some σ' → va_P D rt_cl (rtC_W cI cZ A σ) H → va_S (rt_A (rtC_W cI cZ A) s.heap.size) s.heap H locs → W p l e ({ frames := 0, cells := 0, slots := 0, locals := 0 } : Room) s m ([.ref (A 17), .int a1] : List Value).toArray below meth c H locs 0 0 (rt_Qv D rt_cl (rt_t cI cZ) rtC_X (rtC_W cI cZ A) below ([.ref (A 17), .int a1] : List Value).toArray s σ') (F0 m 53 ls []) := by
        intro ls l1 l2 σ H locs hl hm hP hS
        unfold B_C_Checker_take_53 at hm
        refine lv_iinc (k := 2) (v := (l2 + 1)) hx hb d_Checker_take_53 hl rfl rfl (by decide) rfl (fun ls hl => ?_)
        have hl : lv_has ls 3 [(2, .int (l2 + 1)), (0, .ref (A 17)), (1, .int l1)] := hl
        refine lv_goto (tgt := 2) hx hb d_Checker_take_56 (by decide) ?_
        exact ih2 ls l1 (l2 + 1) σ _ _ (lv_sub hl [1, 2, 0] rfl) hm hP hS
      intro ls l1 l2 σ H locs hl hm hP hS
      rw [B_C_Checker_take_2] at hm
      refine lv_iload_n hx hb d_Checker_take_2 rfl (lv_at hl 2 rfl) ?_
      refine lv_iload_n hx hb d_Checker_take_3 rfl (lv_at hl 1 rfl) ?_
      refine lv_icmp_ge (tgt := 59) hx hb d_Checker_take_4 (by decide) (fun hc => ?_) (fun hc => ?_)
      · have hm := (if_pos hc).symm.trans hm
        exact W.vret hx hb hr (fun t ht hW => ⟨⟨_, rfl, Option.some.inj hm, rt_end rtC_Xo hK hP hS hX ht hW⟩, hS.F ht⟩) hS.2.2 d_Checker_take_59
      · have hm := (if_neg hc).symm.trans hm
        refine lv_aload_n hx hb d_Checker_take_7 rfl (lv_at hl 0 rfl) ?_
        refine va_get (D := D) (v := .int (σ 17 5)) (C := "RangeTeller$Checker") (T := rt_T3) (N := 7) hx hb hts rt_i3 hown hK hP 17 rfl rfl 5 (by decide) (hts _ (rt_m rt_w240)) (fun _ h9 => h9) rfl d_Checker_take_8 ?_
        refine lv_aload_n hx hb d_Checker_take_11 rfl (lv_at hl 0 rfl) ?_
        refine va_get (D := D) (v := .ref (A 19)) (C := "RangeTeller$Checker") (T := rt_T3) (N := 7) hx hb hts rt_i3 hown hK hP 17 rfl rfl 2 (by decide) (hts _ (rt_m rt_w237)) (fun _ h9 => h9) rfl d_Checker_take_12 ?_
        refine lv_aload_n hx hb d_Checker_take_15 rfl (lv_at hl 0 rfl) ?_
        refine va_get (D := D) (v := .int (σ 17 4)) (C := "RangeTeller$Checker") (T := rt_T3) (N := 7) hx hb hts rt_i3 hown hK hP 17 rfl rfl 4 (by decide) (hts _ (rt_m rt_w239)) (fun _ h9 => h9) rfl d_Checker_take_16 ?_
        obtain ⟨v1, h2, hm⟩ := rt_b1s hm
        refine rt_ald hx hb hK hP 19 0 rfl rfl h2 d_Checker_take_19 ?_
        refine lv_icmp_le (tgt := 36) hx hb d_Checker_take_20 (by decide) (fun hc => ?_) (fun hc => ?_)
        · have hm := (if_pos hc).symm.trans hm
          refine lv_aload_n hx hb d_Checker_take_36 rfl (lv_at hl 0 rfl) ?_
          refine va_get (D := D) (v := .ref (A 20)) (C := "RangeTeller$Checker") (T := rt_T3) (N := 7) hx hb hts rt_i3 hown hK hP 17 rfl rfl 3 (by decide) (hts _ (rt_m rt_w238)) (fun _ h9 => h9) rfl d_Checker_take_37 ?_
          refine lv_aload_n hx hb d_Checker_take_40 rfl (lv_at hl 0 rfl) ?_
          refine va_get (D := D) (v := .int (σ 17 4)) (C := "RangeTeller$Checker") (T := rt_T3) (N := 7) hx hb hts rt_i3 hown hK hP 17 rfl rfl 4 (by decide) (hts _ (rt_m rt_w239)) (fun _ h9 => h9) rfl d_Checker_take_41 ?_
          obtain ⟨v3, h4, hm⟩ := rt_b1s hm
          refine rt_zld hx hb hK hP 20 1 rfl rfl h4 d_Checker_take_44 ?_
          refine lv_if_eq (tgt := 53) hx hb d_Checker_take_45 (by decide) (fun hc => ?_) (fun hc => ?_)
          · have hm := (if_pos hc).symm.trans hm
            exact hB53 ls l1 l2 σ _ _ (lv_sub hl [0, 1, 2] rfl) hm hP hS
          · have hm := (if_neg hc).symm.trans hm
            refine lv_aload_n hx hb d_Checker_take_48 rfl (lv_at hl 0 rfl) ?_
            refine lv_iconst (v := 1) hx hb d_Checker_take_49 (by decide) ?_
            obtain ⟨σ5, h6, hm⟩ := rt_b1s hm
            refine rt_pf (D := D) (C := "RangeTeller$Checker") (T := rt_T3) (N := 7) (ty := .boolean) hx hb hts rt_i3 rt_y3 rt_o3 rt_n3 hown hK hP hD hS 17 rfl rfl 6 (by decide) (hts _ (rt_m rt_w241)) (fun _ h9 => h9) rfl (by decide +kernel) rfl rfl (Nat.le_of_ble_eq_true rfl) (rtC_s17_6 cI cZ A _ _) h6 d_Checker_take_50 (fun H locs hP hS => ?_)
            exact hB53 ls l1 l2 σ5 _ _ (lv_sub hl [0, 1, 2] rfl) hm hP hS
        · have hm := (if_neg hc).symm.trans hm
          refine lv_aload_n hx hb d_Checker_take_23 rfl (lv_at hl 0 rfl) ?_
          refine lv_dup hx hb d_Checker_take_24 rfl ?_
          refine va_get (D := D) (v := .int (σ 17 5)) (C := "RangeTeller$Checker") (T := rt_T3) (N := 7) hx hb hts rt_i3 hown hK hP 17 rfl rfl 5 (by decide) (hts _ (rt_m rt_w240)) (fun _ h9 => h9) rfl d_Checker_take_25 ?_
          refine lv_iconst (v := 1) hx hb d_Checker_take_28 (by decide) ?_
          refine lv_isub hx hb d_Checker_take_29 ?_
          obtain ⟨σ7, h8, hm⟩ := rt_b1s hm
          refine rt_pf (D := D) (C := "RangeTeller$Checker") (T := rt_T3) (N := 7) (ty := .int) hx hb hts rt_i3 rt_y3 rt_o3 rt_n3 hown hK hP hD hS 17 rfl rfl 5 (by decide) (hts _ (rt_m rt_w240)) (fun _ h9 => h9) rfl (by decide +kernel) rfl rfl (Nat.le_of_ble_eq_true rfl) (rtC_s17_5 cI cZ A _ _) h8 d_Checker_take_30 (fun H locs hP hS => ?_)
          refine lv_goto (tgt := 53) hx hb d_Checker_take_33 (by decide) ?_
          exact hB53 ls l1 l2 σ7 _ _ (lv_sub hl [0, 1, 2] rfl) hm hP hS
  unfold M_C_Checker_take at hm
  refine lv_iconst (v := 0) hx hb d_Checker_take_0 (by decide) ?_
  refine lv_istore_n hx hb d_Checker_take_1 rfl hl (by decide) rfl (fun ls hl => ?_)
  have hl : lv_has ls 3 [(2, .int 0), (0, .ref (A 17)), (1, .int a1)] := hl
  exact hB2 _ ls a1 0 σ _ _ (lv_sub hl [1, 2, 0] rfl) hm hP hS
set_option maxHeartbeats 4000000 in
set_option maxRecDepth 100000 in
theorem k_C_Ops_given (l : Launch) (a0 : Int32) (r' : Int32) (hm : M_C_Ops_given a0 = some r') : rt_MS l y_Ops_given b_Ops_given 1 (some .int) ({ frames := 1, cells := 0, slots := 0, locals := 20 } : Room) rtC_X [.int a0] r' := by
  intro sz
  refine Met.ofW (cc := b_Ops_given) (maxL := 1) (ret := (some .int)) (by decide) rfl ?_
  intro p e s m args below meth c s₁ B hml hv
  obtain ⟨rfl, rfl, hX⟩ := hv
  have hx := B.exec
  have hb := B.bytes
  have hr := B.returns
  have hts := atoms_spec (ws := (rt_ws y_Ops_given b_Ops_given 1 (some .int))) B.pre
  have hown : s.vm.findClass "RangeTeller$Ops" = some m.cls := findClass_of_methodNamed B.named
  have hlocks := B.notSynchronized
  have hS : va_S (fun q => s.heap.size ≤ q) s.heap s.heap [] := va_S.rf
  have hl := lv_entry ([.int a0]) (n := 1) (Nat.le_of_ble_eq_true rfl)
  rw [lg_entry_eq]
  generalize (lg_sl ([.int a0]) ++ List.replicate (1 - (lg_sl ([.int a0])).length) Slot.unset).toArray = ls at hl ⊢
  have hl : lv_has ls 1 [(0, .int a0)] := hl
  show W p l e ({ frames := 1, cells := 0, slots := 0, locals := 20 } : Room) s m ([.int a0] : List Value).toArray below meth c s.heap [] 0 0 (rt_Qs below ([.int a0] : List Value).toArray s r') (F0 m 0 ls [])
  unfold M_C_Ops_given at hm
  refine lv_iload_n hx hb d_Ops_given_0 rfl (lv_at hl 0 rfl) ?_
  obtain ⟨v2, h1, hm⟩ := rt_b1s hm
  refine rt_csi (As := [.int a0]) (rest := []) rt_X0o ⟨hx, hb, hml, hown, hts⟩ (k_C_Ops_isOp l a0 _ h1) (cw_Ops_isOp hts (hts _ (rt_m rt_w533)) ⟨Nat.le_of_ble_eq_true rfl, Nat.le_of_ble_eq_true rfl⟩) hS (fun _ h => h) trivial rfl hl.1 rfl (Nat.le_of_ble_eq_true rfl) d_Ops_given_1 ⟨Nat.zero_le _, Nat.zero_le _⟩ (fun H locs hk hS => ?_)
  clear hk
  refine lv_if_eq (tgt := 15) hx hb d_Ops_given_4 (by decide) (fun hc => ?_) (fun hc => ?_)
  · have hm := (if_pos hc).symm.trans hm
    refine lv_iconst (v := 0) hx hb d_Ops_given_15 (by decide) ?_
    exact W.iret hx hb hr (fun t ht hW => ⟨⟨_, (), rfl, Option.some.inj hm, trivial⟩, hS.F ht⟩) hS.2.2 d_Ops_given_16
  · have hm := (if_neg hc).symm.trans hm
    obtain ⟨t_S_Ops_GIVES, hZ_S_Ops_GIVES, hT_S_Ops_GIVES⟩ := rtC_X_GIVES hX
    refine va_gets hx hb hZ_S_Ops_GIVES hS hown (hts _ (rt_m rt_w539)) (fun _ h9 => h9) d_Ops_given_7 ?_
    refine lv_iload_n hx hb d_Ops_given_10 rfl (lv_at hl 0 rfl) ?_
    obtain ⟨v3, h4, hm⟩ := rt_b1s hm
    refine rt_sld hx hb hT_S_Ops_GIVES hS h4 d_Ops_given_11 ?_
    refine lv_goto (tgt := 16) hx hb d_Ops_given_12 (by decide) ?_
    exact W.iret hx hb hr (fun t ht hW => ⟨⟨_, (), rfl, Option.some.inj hm, trivial⟩, hS.F ht⟩) hS.2.2 d_Ops_given_16
set_option maxHeartbeats 4000000 in
set_option maxRecDepth 100000 in
theorem k_C_Checker_give (l : Launch) (D : va_G) (cI cZ : ClassId) (A : Nat → Nat) (hO : rt_Ok (rtC_W cI cZ A)) (σ : rt_St) (a1 : Int32) (σ' : rt_St) (hm : M_C_Checker_give σ a1 = some σ') (sz : Nat) : Met l y_Checker_give (rt_ws y_Checker_give b_Checker_give 2 none) ({ frames := 0, cells := 0, slots := 0, locals := 0 } : Room) (va_Pc [.ref (A 17), .int a1] (rt_P D rt_cl (rt_t cI cZ) rtC_X (rtC_W cI cZ A) sz σ)) (va_Qv (fun u1 => u1 = σ') (rt_B D rt_cl (rt_t cI cZ) rtC_X (rtC_W cI cZ A)) (rt_A (rtC_W cI cZ A) sz)) 0 0 (rt_A (rtC_W cI cZ A) sz) := by
  refine Met.ofW (cc := b_Checker_give) (maxL := 2) (ret := none) (by decide) rfl ?_
  intro p e s m args below meth c s₁ B hml hv
  obtain ⟨rfl, rfl, hP, hK, hX⟩ := hv
  have hx := B.exec
  have hb := B.bytes
  have hr := B.returns
  have hts := atoms_spec (ws := (rt_ws y_Checker_give b_Checker_give 2 none)) B.pre
  have hown : s.vm.findClass "RangeTeller$Checker" = some m.cls := findClass_of_methodNamed B.named
  have hlocks := B.notSynchronized
  have hD := rt_hD hO s.heap.size
  have hS : va_S (rt_A (rtC_W cI cZ A) s.heap.size) s.heap s.heap [] := va_S.rf
  have hl := lv_entry ([.ref (A 17), .int a1]) (n := 2) (Nat.le_of_ble_eq_true rfl)
  rw [lg_entry_eq]
  generalize (lg_sl ([.ref (A 17), .int a1]) ++ List.replicate (2 - (lg_sl ([.ref (A 17), .int a1])).length) Slot.unset).toArray = ls at hl ⊢
  have hl : lv_has ls 2 [(0, .ref (A 17)), (1, .int a1)] := hl
  show W p l e ({ frames := 0, cells := 0, slots := 0, locals := 0 } : Room) s m ([.ref (A 17), .int a1] : List Value).toArray below meth c s.heap [] 0 0 (rt_Qv D rt_cl (rt_t cI cZ) rtC_X (rtC_W cI cZ A) below ([.ref (A 17), .int a1] : List Value).toArray s σ') (F0 m 0 ls [])
  unfold M_C_Checker_give at hm
  refine lv_aload_n hx hb d_Checker_give_0 rfl (lv_at hl 0 rfl) ?_
  refine lv_dup hx hb d_Checker_give_1 rfl ?_
  refine va_get (D := D) (v := .int (σ 17 5)) (C := "RangeTeller$Checker") (T := rt_T3) (N := 7) hx hb hts rt_i3 hown hK hP 17 rfl rfl 5 (by decide) (hts _ (rt_m rt_w240)) (fun _ h9 => h9) rfl d_Checker_give_2 ?_
  refine lv_iload_n hx hb d_Checker_give_5 rfl (lv_at hl 1 rfl) ?_
  refine lv_iadd hx hb d_Checker_give_6 ?_
  obtain ⟨σ1, h2, hm⟩ := rt_b1s hm
  refine rt_pf (D := D) (C := "RangeTeller$Checker") (T := rt_T3) (N := 7) (ty := .int) hx hb hts rt_i3 rt_y3 rt_o3 rt_n3 hown hK hP hD hS 17 rfl rfl 5 (by decide) (hts _ (rt_m rt_w240)) (fun _ h9 => h9) rfl (by decide +kernel) rfl rfl (Nat.le_of_ble_eq_true rfl) (rtC_s17_5 cI cZ A _ _) h2 d_Checker_give_7 (fun H locs hP hS => ?_)
  refine lv_aload_n hx hb d_Checker_give_10 rfl (lv_at hl 0 rfl) ?_
  refine va_get (D := D) (v := .int (σ1 17 5)) (C := "RangeTeller$Checker") (T := rt_T3) (N := 7) hx hb hts rt_i3 hown hK hP 17 rfl rfl 5 (by decide) (hts _ (rt_m rt_w240)) (fun _ h9 => h9) rfl d_Checker_give_11 ?_
  refine lv_bipush (v := 10) hx hb d_Checker_give_14 (by decide) ?_
  refine lv_icmp_le (tgt := 24) hx hb d_Checker_give_16 (by decide) (fun hc => ?_) (fun hc => ?_)
  · have hm := (if_pos hc).symm.trans hm
    exact W.vret hx hb hr (fun t ht hW => ⟨⟨_, rfl, Option.some.inj hm, rt_end rtC_Xo hK hP hS hX ht hW⟩, hS.F ht⟩) hS.2.2 d_Checker_give_24
  · have hm := (if_neg hc).symm.trans hm
    refine lv_aload_n hx hb d_Checker_give_19 rfl (lv_at hl 0 rfl) ?_
    refine lv_iconst (v := 1) hx hb d_Checker_give_20 (by decide) ?_
    obtain ⟨σ3, h4, hm⟩ := rt_b1s hm
    refine rt_pf (D := D) (C := "RangeTeller$Checker") (T := rt_T3) (N := 7) (ty := .boolean) hx hb hts rt_i3 rt_y3 rt_o3 rt_n3 hown hK hP hD hS 17 rfl rfl 6 (by decide) (hts _ (rt_m rt_w241)) (fun _ h9 => h9) rfl (by decide +kernel) rfl rfl (Nat.le_of_ble_eq_true rfl) (rtC_s17_6 cI cZ A _ _) h4 d_Checker_give_21 (fun H locs hP hS => ?_)
    exact W.vret hx hb hr (fun t ht hW => ⟨⟨_, rfl, Option.some.inj hm, rt_end rtC_Xo hK hP hS hX ht hW⟩, hS.F ht⟩) hS.2.2 d_Checker_give_24
set_option maxHeartbeats 4000000 in
set_option maxRecDepth 100000 in
theorem k_C_Program_localCount (l : Launch) (D : va_G) (cI cZ : ClassId) (A : Nat → Nat) (hO : rt_Ok (rtC_W cI cZ A)) (σ : rt_St) (a1 : Int32) (r' : Int32) (σ' : rt_St) (hm : M_C_Program_localCount σ a1 = some (r', σ')) (sz : Nat) : Met l y_Program_localCount (rt_ws y_Program_localCount b_Program_localCount 2 (some .int)) ({ frames := 0, cells := 0, slots := 0, locals := 0 } : Room) (va_Pc [.ref (A 1), .int a1] (rt_P D rt_cl (rt_t cI cZ) rtC_X (rtC_W cI cZ A) sz σ)) (va_Qi (fun r1 u1 => r1 = r' ∧ u1 = σ') (rt_B D rt_cl (rt_t cI cZ) rtC_X (rtC_W cI cZ A)) (rt_A (rtC_W cI cZ A) sz)) 0 0 (rt_A (rtC_W cI cZ A) sz) := by
  refine Met.ofW (cc := b_Program_localCount) (maxL := 2) (ret := (some .int)) (by decide) rfl ?_
  intro p e s m args below meth c s₁ B hml hv
  obtain ⟨rfl, rfl, hP, hK, hX⟩ := hv
  have hx := B.exec
  have hb := B.bytes
  have hr := B.returns
  have hts := atoms_spec (ws := (rt_ws y_Program_localCount b_Program_localCount 2 (some .int))) B.pre
  have hown : s.vm.findClass "RangeTeller$Program" = some m.cls := findClass_of_methodNamed B.named
  have hlocks := B.notSynchronized
  have hD := rt_hD hO s.heap.size
  have hS : va_S (rt_A (rtC_W cI cZ A) s.heap.size) s.heap s.heap [] := va_S.rf
  have hl := lv_entry ([.ref (A 1), .int a1]) (n := 2) (Nat.le_of_ble_eq_true rfl)
  rw [lg_entry_eq]
  generalize (lg_sl ([.ref (A 1), .int a1]) ++ List.replicate (2 - (lg_sl ([.ref (A 1), .int a1])).length) Slot.unset).toArray = ls at hl ⊢
  have hl : lv_has ls 2 [(0, .ref (A 1)), (1, .int a1)] := hl
  show W p l e ({ frames := 0, cells := 0, slots := 0, locals := 0 } : Room) s m ([.ref (A 1), .int a1] : List Value).toArray below meth c s.heap [] 0 0 (rt_Qi D rt_cl (rt_t cI cZ) rtC_X (rtC_W cI cZ A) below ([.ref (A 1), .int a1] : List Value).toArray s r' σ') (F0 m 0 ls [])
  unfold M_C_Program_localCount at hm
  refine lv_aload_n hx hb d_Program_localCount_0 rfl (lv_at hl 0 rfl) ?_
  refine va_get (D := D) (v := .ref (A 11)) (C := "RangeTeller$Program") (T := rt_T1) (N := 14) hx hb hts rt_i1 hown hK hP 1 rfl rfl 9 (by decide) (hts _ (rt_m rt_w153)) (fun _ h9 => h9) rfl d_Program_localCount_1 ?_
  refine lv_iload_n hx hb d_Program_localCount_4 rfl (lv_at hl 1 rfl) ?_
  obtain ⟨v1, h2, hm⟩ := rt_b1s hm
  refine rt_ald hx hb hK hP 11 0 rfl rfl h2 d_Program_localCount_5 ?_
  refine lv_aload_n hx hb d_Program_localCount_6 rfl (lv_at hl 0 rfl) ?_
  refine va_get (D := D) (v := .ref (A 12)) (C := "RangeTeller$Program") (T := rt_T1) (N := 14) hx hb hts rt_i1 hown hK hP 1 rfl rfl 10 (by decide) (hts _ (rt_m rt_w158)) (fun _ h9 => h9) rfl d_Program_localCount_7 ?_
  refine lv_iload_n hx hb d_Program_localCount_10 rfl (lv_at hl 1 rfl) ?_
  obtain ⟨v3, h4, hm⟩ := rt_b1s hm
  refine rt_ald hx hb hK hP 12 0 rfl rfl h4 d_Program_localCount_11 ?_
  refine lv_iadd hx hb d_Program_localCount_12 ?_
  exact W.iret hx hb hr (fun t ht hW => ⟨⟨_, _, rfl, rt_pr hm, rt_end rtC_Xo hK hP hS hX ht hW⟩, hS.F ht⟩) hS.2.2 d_Program_localCount_13
set_option maxHeartbeats 4000000 in
set_option maxRecDepth 100000 in
theorem k_C_Checker_checkPlain (l : Launch) (D : va_G) (cI cZ : ClassId) (A : Nat → Nat) (hO : rt_Ok (rtC_W cI cZ A)) (σ : rt_St) (a1 a2 : Int32) (σ' : rt_St) (hm : M_C_Checker_checkPlain σ a1 a2 = some σ') (sz : Nat) : Met l y_Checker_checkPlain (rt_ws y_Checker_checkPlain b_Checker_checkPlain 3 none) ({ frames := 2, cells := 0, slots := 0, locals := 40 } : Room) (va_Pc [.ref (A 17), .int a1, .int a2] (rt_P D rt_cl (rt_t cI cZ) rtC_X (rtC_W cI cZ A) sz σ)) (va_Qv (fun u1 => u1 = σ') (rt_B D rt_cl (rt_t cI cZ) rtC_X (rtC_W cI cZ A)) (rt_A (rtC_W cI cZ A) sz)) 0 0 (rt_A (rtC_W cI cZ A) sz) := by
  refine Met.ofW (cc := b_Checker_checkPlain) (maxL := 3) (ret := none) (by decide) rfl ?_
  intro p e s m args below meth c s₁ B hml hv
  obtain ⟨rfl, rfl, hP, hK, hX⟩ := hv
  have hx := B.exec
  have hb := B.bytes
  have hr := B.returns
  have hts := atoms_spec (ws := (rt_ws y_Checker_checkPlain b_Checker_checkPlain 3 none)) B.pre
  have hown : s.vm.findClass "RangeTeller$Checker" = some m.cls := findClass_of_methodNamed B.named
  have hlocks := B.notSynchronized
  have hD := rt_hD hO s.heap.size
  have hS : va_S (rt_A (rtC_W cI cZ A) s.heap.size) s.heap s.heap [] := va_S.rf
  have hl := lv_entry ([.ref (A 17), .int a1, .int a2]) (n := 3) (Nat.le_of_ble_eq_true rfl)
  rw [lg_entry_eq]
  generalize (lg_sl ([.ref (A 17), .int a1, .int a2]) ++ List.replicate (3 - (lg_sl ([.ref (A 17), .int a1, .int a2])).length) Slot.unset).toArray = ls at hl ⊢
  have hl : lv_has ls 3 [(0, .ref (A 17)), (1, .int a1), (2, .int a2)] := hl
  show W p l e ({ frames := 2, cells := 0, slots := 0, locals := 40 } : Room) s m ([.ref (A 17), .int a1, .int a2] : List Value).toArray below meth c s.heap [] 0 0 (rt_Qv D rt_cl (rt_t cI cZ) rtC_X (rtC_W cI cZ A) below ([.ref (A 17), .int a1, .int a2] : List Value).toArray s σ') (F0 m 0 ls [])
  have hB40 : ∀ (ls : Array Slot) (l2 : Int32) (σ : rt_St) (H : Heap) (locs : List Loc), lv_has ls 3 [(0, .ref (A 17)), (2, .int l2)] → B_C_Checker_checkPlain_40 l2 σ = some σ' → va_P D rt_cl (rtC_W cI cZ A σ) H → va_S (rt_A (rtC_W cI cZ A) s.heap.size) s.heap H locs → W p l e ({ frames := 2, cells := 0, slots := 0, locals := 40 } : Room) s m ([.ref (A 17), .int a1, .int a2] : List Value).toArray below meth c H locs 0 0 (rt_Qv D rt_cl (rt_t cI cZ) rtC_X (rtC_W cI cZ A) below ([.ref (A 17), .int a1, .int a2] : List Value).toArray s σ') (F0 m 40 ls []) := by
    intro ls l2 σ H locs hl hm hP hS
    unfold B_C_Checker_checkPlain_40 at hm
    refine lv_aload_n hx hb d_Checker_checkPlain_40 rfl (lv_at hl 0 rfl) ?_
    refine lv_iload_n hx hb d_Checker_checkPlain_41 rfl (lv_at hl 1 rfl) ?_
    obtain ⟨v2, h1, hm⟩ := rt_b1s hm
    refine rt_csi (As := [.int l2]) (rest := [.ref (A 17)]) rtC_Xo ⟨hx, hb, hml, hown, hts⟩ (k_C_Ops_taken l l2 _ h1) (cw_Ops_taken hts (hts _ (rt_m rt_w530)) ⟨Nat.le_of_ble_eq_true rfl, Nat.le_of_ble_eq_true rfl⟩) hS (fun _ h => Or.inr h) hX rfl hl.1 rfl (Nat.le_of_ble_eq_true rfl) d_Checker_checkPlain_42 ⟨Nat.zero_le _, Nat.zero_le _⟩ (fun H locs hk hS => ?_)
    have hP := rt_keep hP hk
    clear hk
    obtain ⟨σ4, h3, hm⟩ := rt_b1s hm
    refine rt_cvv (As := [.int v2]) (rest := []) (k := 17) rtC_Xo ⟨hx, hb, hml, hown, hts⟩ (k_C_Checker_take l D cI cZ A hO σ v2 _ h3) (cw_Checker_take hts (hts _ (rt_m rt_w485)) ⟨Nat.le_of_ble_eq_true rfl, Nat.le_of_ble_eq_true rfl⟩) hK hP hS hX rfl rfl rfl hl.1 rfl (Nat.le_of_ble_eq_true rfl) d_Checker_checkPlain_45 ⟨Nat.zero_le _, Nat.zero_le _⟩ (fun H locs hP hS => ?_)
    refine lv_aload_n hx hb d_Checker_checkPlain_48 rfl (lv_at hl 0 rfl) ?_
    refine lv_iload_n hx hb d_Checker_checkPlain_49 rfl (lv_at hl 1 rfl) ?_
    obtain ⟨v6, h5, hm⟩ := rt_b1s hm
    refine rt_csi (As := [.int l2]) (rest := [.ref (A 17)]) rtC_Xo ⟨hx, hb, hml, hown, hts⟩ (k_C_Ops_given l l2 _ h5) (cw_Ops_given hts (hts _ (rt_m rt_w536)) ⟨Nat.le_of_ble_eq_true rfl, Nat.le_of_ble_eq_true rfl⟩) hS (fun _ h => Or.inr h) hX rfl hl.1 rfl (Nat.le_of_ble_eq_true rfl) d_Checker_checkPlain_50 ⟨Nat.zero_le _, Nat.zero_le _⟩ (fun H locs hk hS => ?_)
    have hP := rt_keep hP hk
    clear hk
    obtain ⟨σ8, h7, hm⟩ := rt_b1s hm
    refine rt_cvv (As := [.int v6]) (rest := []) (k := 17) rtC_Xo ⟨hx, hb, hml, hown, hts⟩ (k_C_Checker_give l D cI cZ A hO σ4 v6 _ h7) (cw_Checker_give hts (hts _ (rt_m rt_w509)) ⟨Nat.le_of_ble_eq_true rfl, Nat.le_of_ble_eq_true rfl⟩) hK hP hS hX rfl rfl rfl hl.1 rfl (Nat.le_of_ble_eq_true rfl) d_Checker_checkPlain_53 ⟨Nat.zero_le _, Nat.zero_le _⟩ (fun H locs hP hS => ?_)
    exact W.vret hx hb hr (fun t ht hW => ⟨⟨_, rfl, Option.some.inj hm, rt_end rtC_Xo hK hP hS hX ht hW⟩, hS.F ht⟩) hS.2.2 d_Checker_checkPlain_56
  unfold M_C_Checker_checkPlain at hm
  refine lv_iload_n hx hb d_Checker_checkPlain_0 rfl (lv_at hl 2 rfl) ?_
  obtain ⟨v10, h9, hm⟩ := rt_b1s hm
  refine rt_csi (As := [.int a2]) (rest := []) rt_X0o ⟨hx, hb, hml, hown, hts⟩ (k_C_Ops_namesLocal l a2 _ h9) (cw_Ops_namesLocal hts (hts _ (rt_m rt_w525)) ⟨Nat.le_of_ble_eq_true rfl, Nat.le_of_ble_eq_true rfl⟩) hS (fun _ h => Or.inr h) trivial rfl hl.1 rfl (Nat.le_of_ble_eq_true rfl) d_Checker_checkPlain_1 ⟨Nat.zero_le _, Nat.zero_le _⟩ (fun H locs hk hS => ?_)
  have hP := rt_keep hP hk
  clear hk
  refine lv_if_eq (tgt := 40) hx hb d_Checker_checkPlain_4 (by decide) (fun hc => ?_) (fun hc => ?_)
  · have hm := (if_pos hc).symm.trans hm
    exact hB40 ls a2 σ _ _ (lv_sub hl [0, 2] rfl) hm hP hS
  · have hm := (if_neg hc).symm.trans hm
    refine lv_aload_n hx hb d_Checker_checkPlain_7 rfl (lv_at hl 0 rfl) ?_
    refine va_get (D := D) (v := .ref (A 1)) (C := "RangeTeller$Checker") (T := rt_T3) (N := 7) hx hb hts rt_i3 hown hK hP 17 rfl rfl 0 (by decide) (hts _ (rt_m rt_w235)) (fun _ h9 => h9) rfl d_Checker_checkPlain_8 ?_
    refine va_get (D := D) (v := .ref (A 3)) (C := "RangeTeller$Program") (T := rt_T1) (N := 14) hx hb hts rt_i1 hown hK hP 1 rfl rfl 1 (by decide) (hts _ (rt_m rt_w126)) (fun _ h9 => h9) rfl d_Checker_checkPlain_11 ?_
    refine lv_iload_n hx hb d_Checker_checkPlain_14 rfl (lv_at hl 1 rfl) ?_
    obtain ⟨v11, h12, hm⟩ := rt_b1s hm
    refine rt_ald hx hb hK hP 3 0 rfl rfl h12 d_Checker_checkPlain_15 ?_
    refine lv_aload_n hx hb d_Checker_checkPlain_16 rfl (lv_at hl 0 rfl) ?_
    refine va_get (D := D) (v := .ref (A 1)) (C := "RangeTeller$Checker") (T := rt_T3) (N := 7) hx hb hts rt_i3 hown hK hP 17 rfl rfl 0 (by decide) (hts _ (rt_m rt_w235)) (fun _ h9 => h9) rfl d_Checker_checkPlain_17 ?_
    refine lv_aload_n hx hb d_Checker_checkPlain_20 rfl (lv_at hl 0 rfl) ?_
    refine va_get (D := D) (v := .ref (A 1)) (C := "RangeTeller$Checker") (T := rt_T3) (N := 7) hx hb hts rt_i3 hown hK hP 17 rfl rfl 0 (by decide) (hts _ (rt_m rt_w235)) (fun _ h9 => h9) rfl d_Checker_checkPlain_21 ?_
    refine va_get (D := D) (v := .ref (A 4)) (C := "RangeTeller$Program") (T := rt_T1) (N := 14) hx hb hts rt_i1 hown hK hP 1 rfl rfl 2 (by decide) (hts _ (rt_m rt_w131)) (fun _ h9 => h9) rfl d_Checker_checkPlain_24 ?_
    refine lv_iload_n hx hb d_Checker_checkPlain_27 rfl (lv_at hl 1 rfl) ?_
    obtain ⟨v13, h14, hm⟩ := rt_b1s hm
    refine rt_ald hx hb hK hP 4 0 rfl rfl h14 d_Checker_checkPlain_28 ?_
    obtain ⟨v17, σ16, h15, hm⟩ := rt_b2s hm
    refine rt_cvi (As := [.int v13]) (rest := [.int v11]) (k := 1) rtC_Xo ⟨hx, hb, hml, hown, hts⟩ (k_C_Program_localCount l D cI cZ A hO σ v13 _ _ h15) (cw_Program_localCount hts (hts _ (rt_m rt_w526)) ⟨Nat.le_of_ble_eq_true rfl, Nat.le_of_ble_eq_true rfl⟩) hK hP hS hX rfl rfl rfl hl.1 rfl (Nat.le_of_ble_eq_true rfl) d_Checker_checkPlain_29 ⟨Nat.zero_le _, Nat.zero_le _⟩ (fun H locs hP hS => ?_)
    refine lv_icmp_lt (tgt := 40) hx hb d_Checker_checkPlain_32 (by decide) (fun hc => ?_) (fun hc => ?_)
    · have hm := (if_pos hc).symm.trans hm
      exact hB40 ls a2 σ16 _ _ (lv_sub hl [0, 2] rfl) hm hP hS
    · have hm := (if_neg hc).symm.trans hm
      refine lv_aload_n hx hb d_Checker_checkPlain_35 rfl (lv_at hl 0 rfl) ?_
      refine lv_iconst (v := 1) hx hb d_Checker_checkPlain_36 (by decide) ?_
      obtain ⟨σ18, h19, hm⟩ := rt_b1s hm
      refine rt_pf (D := D) (C := "RangeTeller$Checker") (T := rt_T3) (N := 7) (ty := .boolean) hx hb hts rt_i3 rt_y3 rt_o3 rt_n3 hown hK hP hD hS 17 rfl rfl 6 (by decide) (hts _ (rt_m rt_w241)) (fun _ h9 => h9) rfl (by decide +kernel) rfl rfl (Nat.le_of_ble_eq_true rfl) (rtC_s17_6 cI cZ A _ _) h19 d_Checker_checkPlain_37 (fun H locs hP hS => ?_)
      exact hB40 ls a2 σ18 _ _ (lv_sub hl [0, 2] rfl) hm hP hS
set_option maxHeartbeats 4000000 in
set_option maxRecDepth 100000 in
theorem k_C_Checker_checkCall (l : Launch) (D : va_G) (cI cZ : ClassId) (A : Nat → Nat) (hO : rt_Ok (rtC_W cI cZ A)) (σ : rt_St) (a1 : Int32) (σ' : rt_St) (hm : M_C_Checker_checkCall σ a1 = some σ') (sz : Nat) : Met l y_Checker_checkCall (rt_ws y_Checker_checkCall b_Checker_checkCall 2 none) ({ frames := 1, cells := 0, slots := 0, locals := 22 } : Room) (va_Pc [.ref (A 17), .int a1] (rt_P D rt_cl (rt_t cI cZ) rtC_X (rtC_W cI cZ A) sz σ)) (va_Qv (fun u1 => u1 = σ') (rt_B D rt_cl (rt_t cI cZ) rtC_X (rtC_W cI cZ A)) (rt_A (rtC_W cI cZ A) sz)) 0 0 (rt_A (rtC_W cI cZ A) sz) := by
  refine Met.ofW (cc := b_Checker_checkCall) (maxL := 2) (ret := none) (by decide) rfl ?_
  intro p e s m args below meth c s₁ B hml hv
  obtain ⟨rfl, rfl, hP, hK, hX⟩ := hv
  have hx := B.exec
  have hb := B.bytes
  have hr := B.returns
  have hts := atoms_spec (ws := (rt_ws y_Checker_checkCall b_Checker_checkCall 2 none)) B.pre
  have hown : s.vm.findClass "RangeTeller$Checker" = some m.cls := findClass_of_methodNamed B.named
  have hlocks := B.notSynchronized
  have hD := rt_hD hO s.heap.size
  have hS : va_S (rt_A (rtC_W cI cZ A) s.heap.size) s.heap s.heap [] := va_S.rf
  have hl := lv_entry ([.ref (A 17), .int a1]) (n := 2) (Nat.le_of_ble_eq_true rfl)
  rw [lg_entry_eq]
  generalize (lg_sl ([.ref (A 17), .int a1]) ++ List.replicate (2 - (lg_sl ([.ref (A 17), .int a1])).length) Slot.unset).toArray = ls at hl ⊢
  have hl : lv_has ls 2 [(0, .ref (A 17)), (1, .int a1)] := hl
  show W p l e ({ frames := 1, cells := 0, slots := 0, locals := 22 } : Room) s m ([.ref (A 17), .int a1] : List Value).toArray below meth c s.heap [] 0 0 (rt_Qv D rt_cl (rt_t cI cZ) rtC_X (rtC_W cI cZ A) below ([.ref (A 17), .int a1] : List Value).toArray s σ') (F0 m 0 ls [])
  unfold M_C_Checker_checkCall at hm
  refine lv_iload_n hx hb d_Checker_checkCall_0 rfl (lv_at hl 1 rfl) ?_
  refine lv_aload_n hx hb d_Checker_checkCall_1 rfl (lv_at hl 0 rfl) ?_
  refine va_get (D := D) (v := .ref (A 1)) (C := "RangeTeller$Checker") (T := rt_T3) (N := 7) hx hb hts rt_i3 hown hK hP 17 rfl rfl 0 (by decide) (hts _ (rt_m rt_w235)) (fun _ h9 => h9) rfl d_Checker_checkCall_2 ?_
  refine va_get (D := D) (v := .int (σ 1 13)) (C := "RangeTeller$Program") (T := rt_T1) (N := 14) hx hb hts rt_i1 hown hK hP 1 rfl rfl 13 (by decide) (hts _ (rt_m rt_w169)) (fun _ h9 => h9) rfl d_Checker_checkCall_5 ?_
  refine lv_icmp_lt (tgt := 17) hx hb d_Checker_checkCall_8 (by decide) (fun hc => ?_) (fun hc => ?_)
  · have hm := (if_pos hc).symm.trans hm
    refine lv_aload_n hx hb d_Checker_checkCall_17 rfl (lv_at hl 0 rfl) ?_
    refine lv_aload_n hx hb d_Checker_checkCall_18 rfl (lv_at hl 0 rfl) ?_
    refine va_get (D := D) (v := .ref (A 1)) (C := "RangeTeller$Checker") (T := rt_T3) (N := 7) hx hb hts rt_i3 hown hK hP 17 rfl rfl 0 (by decide) (hts _ (rt_m rt_w235)) (fun _ h9 => h9) rfl d_Checker_checkCall_19 ?_
    refine va_get (D := D) (v := .ref (A 11)) (C := "RangeTeller$Program") (T := rt_T1) (N := 14) hx hb hts rt_i1 hown hK hP 1 rfl rfl 9 (by decide) (hts _ (rt_m rt_w155)) (fun _ h9 => h9) rfl d_Checker_checkCall_22 ?_
    refine lv_iload_n hx hb d_Checker_checkCall_25 rfl (lv_at hl 1 rfl) ?_
    obtain ⟨v1, h2, hm⟩ := rt_b1s hm
    refine rt_ald hx hb hK hP 11 0 rfl rfl h2 d_Checker_checkCall_26 ?_
    obtain ⟨σ4, h3, hm⟩ := rt_b1s hm
    refine rt_cvv (As := [.int v1]) (rest := []) (k := 17) rtC_Xo ⟨hx, hb, hml, hown, hts⟩ (k_C_Checker_take l D cI cZ A hO σ v1 _ h3) (cw_Checker_take hts (hts _ (rt_m rt_w485)) ⟨Nat.le_of_ble_eq_true rfl, Nat.le_of_ble_eq_true rfl⟩) hK hP hS hX rfl rfl rfl hl.1 rfl (Nat.le_of_ble_eq_true rfl) d_Checker_checkCall_27 ⟨Nat.zero_le _, Nat.zero_le _⟩ (fun H locs hP hS => ?_)
    refine lv_aload_n hx hb d_Checker_checkCall_30 rfl (lv_at hl 0 rfl) ?_
    refine lv_aload_n hx hb d_Checker_checkCall_31 rfl (lv_at hl 0 rfl) ?_
    refine va_get (D := D) (v := .ref (A 1)) (C := "RangeTeller$Checker") (T := rt_T3) (N := 7) hx hb hts rt_i3 hown hK hP 17 rfl rfl 0 (by decide) (hts _ (rt_m rt_w235)) (fun _ h9 => h9) rfl d_Checker_checkCall_32 ?_
    refine va_get (D := D) (v := .ref (A 13)) (C := "RangeTeller$Program") (T := rt_T1) (N := 14) hx hb hts rt_i1 hown hK hP 1 rfl rfl 11 (by decide) (hts _ (rt_m rt_w161)) (fun _ h9 => h9) rfl d_Checker_checkCall_35 ?_
    refine lv_iload_n hx hb d_Checker_checkCall_38 rfl (lv_at hl 1 rfl) ?_
    obtain ⟨v5, h6, hm⟩ := rt_b1s hm
    refine rt_ald hx hb hK hP 13 0 rfl rfl h6 d_Checker_checkCall_39 ?_
    obtain ⟨σ8, h7, hm⟩ := rt_b1s hm
    refine rt_cvv (As := [.int v5]) (rest := []) (k := 17) rtC_Xo ⟨hx, hb, hml, hown, hts⟩ (k_C_Checker_give l D cI cZ A hO σ4 v5 _ h7) (cw_Checker_give hts (hts _ (rt_m rt_w509)) ⟨Nat.le_of_ble_eq_true rfl, Nat.le_of_ble_eq_true rfl⟩) hK hP hS hX rfl rfl rfl hl.1 rfl (Nat.le_of_ble_eq_true rfl) d_Checker_checkCall_40 ⟨Nat.zero_le _, Nat.zero_le _⟩ (fun H locs hP hS => ?_)
    exact W.vret hx hb hr (fun t ht hW => ⟨⟨_, rfl, Option.some.inj hm, rt_end rtC_Xo hK hP hS hX ht hW⟩, hS.F ht⟩) hS.2.2 d_Checker_checkCall_43
  · have hm := (if_neg hc).symm.trans hm
    refine lv_aload_n hx hb d_Checker_checkCall_11 rfl (lv_at hl 0 rfl) ?_
    refine lv_iconst (v := 1) hx hb d_Checker_checkCall_12 (by decide) ?_
    obtain ⟨σ9, h10, hm⟩ := rt_b1s hm
    refine rt_pf (D := D) (C := "RangeTeller$Checker") (T := rt_T3) (N := 7) (ty := .boolean) hx hb hts rt_i3 rt_y3 rt_o3 rt_n3 hown hK hP hD hS 17 rfl rfl 6 (by decide) (hts _ (rt_m rt_w241)) (fun _ h9 => h9) rfl (by decide +kernel) rfl rfl (Nat.le_of_ble_eq_true rfl) (rtC_s17_6 cI cZ A _ _) h10 d_Checker_checkCall_13 (fun H locs hP hS => ?_)
    exact W.vret hx hb hr (fun t ht hW => ⟨⟨_, rfl, Option.some.inj hm, rt_end rtC_Xo hK hP hS hX ht hW⟩, hS.F ht⟩) hS.2.2 d_Checker_checkCall_16
set_option maxHeartbeats 4000000 in
set_option maxRecDepth 100000 in
theorem k_C_Checker_deaden (l : Launch) (D : va_G) (cI cZ : ClassId) (A : Nat → Nat) (hO : rt_Ok (rtC_W cI cZ A)) (σ : rt_St) (σ' : rt_St) (hm : M_C_Checker_deaden σ = some σ') (sz : Nat) : Met l y_Checker_deaden (rt_ws y_Checker_deaden b_Checker_deaden 1 none) ({ frames := 0, cells := 0, slots := 0, locals := 0 } : Room) (va_Pc [.ref (A 17)] (rt_P D rt_cl (rt_t cI cZ) rtC_X (rtC_W cI cZ A) sz σ)) (va_Qv (fun u1 => u1 = σ') (rt_B D rt_cl (rt_t cI cZ) rtC_X (rtC_W cI cZ A)) (rt_A (rtC_W cI cZ A) sz)) 0 0 (rt_A (rtC_W cI cZ A) sz) := by
  refine Met.ofW (cc := b_Checker_deaden) (maxL := 1) (ret := none) (by decide) rfl ?_
  intro p e s m args below meth c s₁ B hml hv
  obtain ⟨rfl, rfl, hP, hK, hX⟩ := hv
  have hx := B.exec
  have hb := B.bytes
  have hr := B.returns
  have hts := atoms_spec (ws := (rt_ws y_Checker_deaden b_Checker_deaden 1 none)) B.pre
  have hown : s.vm.findClass "RangeTeller$Checker" = some m.cls := findClass_of_methodNamed B.named
  have hlocks := B.notSynchronized
  have hD := rt_hD hO s.heap.size
  have hS : va_S (rt_A (rtC_W cI cZ A) s.heap.size) s.heap s.heap [] := va_S.rf
  have hl := lv_entry ([.ref (A 17)]) (n := 1) (Nat.le_of_ble_eq_true rfl)
  rw [lg_entry_eq]
  generalize (lg_sl ([.ref (A 17)]) ++ List.replicate (1 - (lg_sl ([.ref (A 17)])).length) Slot.unset).toArray = ls at hl ⊢
  have hl : lv_has ls 1 [(0, .ref (A 17))] := hl
  show W p l e ({ frames := 0, cells := 0, slots := 0, locals := 0 } : Room) s m ([.ref (A 17)] : List Value).toArray below meth c s.heap [] 0 0 (rt_Qv D rt_cl (rt_t cI cZ) rtC_X (rtC_W cI cZ A) below ([.ref (A 17)] : List Value).toArray s σ') (F0 m 0 ls [])
  unfold M_C_Checker_deaden at hm
  refine lv_aload_n hx hb d_Checker_deaden_0 rfl (lv_at hl 0 rfl) ?_
  refine va_get (D := D) (v := .ref (A 20)) (C := "RangeTeller$Checker") (T := rt_T3) (N := 7) hx hb hts rt_i3 hown hK hP 17 rfl rfl 3 (by decide) (hts _ (rt_m rt_w238)) (fun _ h9 => h9) rfl d_Checker_deaden_1 ?_
  refine lv_aload_n hx hb d_Checker_deaden_4 rfl (lv_at hl 0 rfl) ?_
  refine va_get (D := D) (v := .int (σ 17 4)) (C := "RangeTeller$Checker") (T := rt_T3) (N := 7) hx hb hts rt_i3 hown hK hP 17 rfl rfl 4 (by decide) (hts _ (rt_m rt_w239)) (fun _ h9 => h9) rfl d_Checker_deaden_5 ?_
  refine lv_iconst (v := 0) hx hb d_Checker_deaden_8 (by decide) ?_
  obtain ⟨σ1, h2, hm⟩ := rt_b1s hm
  refine rt_zst hx hb hK hP hD hS 20 1 rfl (rtC_a20 cI cZ A _) rfl rfl h2 d_Checker_deaden_9 (fun H locs hP hS => ?_)
  refine lv_aload_n hx hb d_Checker_deaden_10 rfl (lv_at hl 0 rfl) ?_
  refine lv_aload_n hx hb d_Checker_deaden_11 rfl (lv_at hl 0 rfl) ?_
  refine va_get (D := D) (v := .ref (A 19)) (C := "RangeTeller$Checker") (T := rt_T3) (N := 7) hx hb hts rt_i3 hown hK hP 17 rfl rfl 2 (by decide) (hts _ (rt_m rt_w237)) (fun _ h9 => h9) rfl d_Checker_deaden_12 ?_
  refine lv_aload_n hx hb d_Checker_deaden_15 rfl (lv_at hl 0 rfl) ?_
  refine va_get (D := D) (v := .int (σ1 17 4)) (C := "RangeTeller$Checker") (T := rt_T3) (N := 7) hx hb hts rt_i3 hown hK hP 17 rfl rfl 4 (by decide) (hts _ (rt_m rt_w239)) (fun _ h9 => h9) rfl d_Checker_deaden_16 ?_
  obtain ⟨v3, h4, hm⟩ := rt_b1s hm
  refine rt_ald hx hb hK hP 19 0 rfl rfl h4 d_Checker_deaden_19 ?_
  obtain ⟨σ5, h6, hm⟩ := rt_b1s hm
  refine rt_pf (D := D) (C := "RangeTeller$Checker") (T := rt_T3) (N := 7) (ty := .int) hx hb hts rt_i3 rt_y3 rt_o3 rt_n3 hown hK hP hD hS 17 rfl rfl 5 (by decide) (hts _ (rt_m rt_w240)) (fun _ h9 => h9) rfl (by decide +kernel) rfl rfl (Nat.le_of_ble_eq_true rfl) (rtC_s17_5 cI cZ A _ _) h6 d_Checker_deaden_20 (fun H locs hP hS => ?_)
  exact W.vret hx hb hr (fun t ht hW => ⟨⟨_, rfl, Option.some.inj hm, rt_end rtC_Xo hK hP hS hX ht hW⟩, hS.F ht⟩) hS.2.2 d_Checker_deaden_23
set_option maxHeartbeats 4000000 in
set_option maxRecDepth 100000 in
theorem k_C_Program_setJump (l : Launch) (D : va_G) (cI cZ : ClassId) (A : Nat → Nat) (hO : rt_Ok (rtC_W cI cZ A)) (σ : rt_St) (a1 a2 a3 a4 : Int32) (σ' : rt_St) (hm : M_C_Program_setJump σ a1 a2 a3 a4 = some σ') (sz : Nat) : Met l y_Program_setJump (rt_ws y_Program_setJump b_Program_setJump 5 none) ({ frames := 0, cells := 0, slots := 0, locals := 0 } : Room) (va_Pc [.ref (A 1), .int a1, .int a2, .int a3, .int a4] (rt_P D rt_cl (rt_t cI cZ) rtC_X (rtC_W cI cZ A) sz σ)) (va_Qv (fun u1 => u1 = σ') (rt_B D rt_cl (rt_t cI cZ) rtC_X (rtC_W cI cZ A)) (rt_A (rtC_W cI cZ A) sz)) 0 0 (rt_A (rtC_W cI cZ A) sz) := by
  refine Met.ofW (cc := b_Program_setJump) (maxL := 5) (ret := none) (by decide) rfl ?_
  intro p e s m args below meth c s₁ B hml hv
  obtain ⟨rfl, rfl, hP, hK, hX⟩ := hv
  have hx := B.exec
  have hb := B.bytes
  have hr := B.returns
  have hts := atoms_spec (ws := (rt_ws y_Program_setJump b_Program_setJump 5 none)) B.pre
  have hown : s.vm.findClass "RangeTeller$Program" = some m.cls := findClass_of_methodNamed B.named
  have hlocks := B.notSynchronized
  have hD := rt_hD hO s.heap.size
  have hS : va_S (rt_A (rtC_W cI cZ A) s.heap.size) s.heap s.heap [] := va_S.rf
  have hl := lv_entry ([.ref (A 1), .int a1, .int a2, .int a3, .int a4]) (n := 5) (Nat.le_of_ble_eq_true rfl)
  rw [lg_entry_eq]
  generalize (lg_sl ([.ref (A 1), .int a1, .int a2, .int a3, .int a4]) ++ List.replicate (5 - (lg_sl ([.ref (A 1), .int a1, .int a2, .int a3, .int a4])).length) Slot.unset).toArray = ls at hl ⊢
  have hl : lv_has ls 5 [(0, .ref (A 1)), (1, .int a1), (2, .int a2), (3, .int a3), (4, .int a4)] := hl
  show W p l e ({ frames := 0, cells := 0, slots := 0, locals := 0 } : Room) s m ([.ref (A 1), .int a1, .int a2, .int a3, .int a4] : List Value).toArray below meth c s.heap [] 0 0 (rt_Qv D rt_cl (rt_t cI cZ) rtC_X (rtC_W cI cZ A) below ([.ref (A 1), .int a1, .int a2, .int a3, .int a4] : List Value).toArray s σ') (F0 m 0 ls [])
  unfold M_C_Program_setJump at hm
  refine lv_aload_n hx hb d_Program_setJump_0 rfl (lv_at hl 0 rfl) ?_
  refine va_get (D := D) (v := .ref (A 7)) (C := "RangeTeller$Program") (T := rt_T1) (N := 14) hx hb hts rt_i1 hown hK hP 1 rfl rfl 5 (by decide) (hts _ (rt_m rt_w139)) (fun _ h9 => h9) rfl d_Program_setJump_1 ?_
  refine lv_iload_n hx hb d_Program_setJump_4 rfl (lv_at hl 1 rfl) ?_
  refine lv_iload_n hx hb d_Program_setJump_5 rfl (lv_at hl 2 rfl) ?_
  obtain ⟨σ1, h2, hm⟩ := rt_b1s hm
  refine rt_ast hx hb hK hP hD hS 7 0 rfl (rtC_a7 cI cZ A _) rfl h2 d_Program_setJump_6 (fun H locs hP hS => ?_)
  refine lv_aload_n hx hb d_Program_setJump_7 rfl (lv_at hl 0 rfl) ?_
  refine va_get (D := D) (v := .ref (A 8)) (C := "RangeTeller$Program") (T := rt_T1) (N := 14) hx hb hts rt_i1 hown hK hP 1 rfl rfl 6 (by decide) (hts _ (rt_m rt_w142)) (fun _ h9 => h9) rfl d_Program_setJump_8 ?_
  refine lv_iload_n hx hb d_Program_setJump_11 rfl (lv_at hl 1 rfl) ?_
  refine lv_iload_n hx hb d_Program_setJump_12 rfl (lv_at hl 3 rfl) ?_
  obtain ⟨σ3, h4, hm⟩ := rt_b1s hm
  refine rt_ast hx hb hK hP hD hS 8 0 rfl (rtC_a8 cI cZ A _) rfl h4 d_Program_setJump_13 (fun H locs hP hS => ?_)
  refine lv_aload_n hx hb d_Program_setJump_14 rfl (lv_at hl 0 rfl) ?_
  refine va_get (D := D) (v := .ref (A 9)) (C := "RangeTeller$Program") (T := rt_T1) (N := 14) hx hb hts rt_i1 hown hK hP 1 rfl rfl 7 (by decide) (hts _ (rt_m rt_w145)) (fun _ h9 => h9) rfl d_Program_setJump_15 ?_
  refine lv_iload_n hx hb d_Program_setJump_18 rfl (lv_at hl 1 rfl) ?_
  refine lv_iload hx hb d_Program_setJump_19 (lv_at hl 4 rfl) ?_
  obtain ⟨σ5, h6, hm⟩ := rt_b1s hm
  refine rt_ast hx hb hK hP hD hS 9 0 rfl (rtC_a9 cI cZ A _) rfl h6 d_Program_setJump_21 (fun H locs hP hS => ?_)
  exact W.vret hx hb hr (fun t ht hW => ⟨⟨_, rfl, Option.some.inj hm, rt_end rtC_Xo hK hP hS hX ht hW⟩, hS.F ht⟩) hS.2.2 d_Program_setJump_22
set_option maxHeartbeats 4000000 in
set_option maxRecDepth 100000 in
theorem k_C_Checker_checkBranch (l : Launch) (D : va_G) (cI cZ : ClassId) (A : Nat → Nat) (hO : rt_Ok (rtC_W cI cZ A)) (σ : rt_St) (a1 a2 : Int32) (σ' : rt_St) (hm : M_C_Checker_checkBranch σ a1 a2 = some σ') (sz : Nat) : Met l y_Checker_checkBranch (rt_ws y_Checker_checkBranch b_Checker_checkBranch 8 none) ({ frames := 1, cells := 0, slots := 0, locals := 24 } : Room) (va_Pc [.ref (A 17), .int a1, .int a2] (rt_P D rt_cl (rt_t cI cZ) rtC_X (rtC_W cI cZ A) sz σ)) (va_Qv (fun u1 => u1 = σ') (rt_B D rt_cl (rt_t cI cZ) rtC_X (rtC_W cI cZ A)) (rt_A (rtC_W cI cZ A) sz)) 0 0 (rt_A (rtC_W cI cZ A) sz) := by
  refine Met.ofW (cc := b_Checker_checkBranch) (maxL := 8) (ret := none) (by decide) rfl ?_
  intro p e s m args below meth c s₁ B hml hv
  obtain ⟨rfl, rfl, hP, hK, hX⟩ := hv
  have hx := B.exec
  have hb := B.bytes
  have hr := B.returns
  have hts := atoms_spec (ws := (rt_ws y_Checker_checkBranch b_Checker_checkBranch 8 none)) B.pre
  have hown : s.vm.findClass "RangeTeller$Checker" = some m.cls := findClass_of_methodNamed B.named
  have hlocks := B.notSynchronized
  have hD := rt_hD hO s.heap.size
  have hS : va_S (rt_A (rtC_W cI cZ A) s.heap.size) s.heap s.heap [] := va_S.rf
  have hl := lv_entry ([.ref (A 17), .int a1, .int a2]) (n := 8) (Nat.le_of_ble_eq_true rfl)
  rw [lg_entry_eq]
  generalize (lg_sl ([.ref (A 17), .int a1, .int a2]) ++ List.replicate (8 - (lg_sl ([.ref (A 17), .int a1, .int a2])).length) Slot.unset).toArray = ls at hl ⊢
  have hl : lv_has ls 8 [(0, .ref (A 17)), (1, .int a1), (2, .int a2)] := hl
  show W p l e ({ frames := 1, cells := 0, slots := 0, locals := 24 } : Room) s m ([.ref (A 17), .int a1, .int a2] : List Value).toArray below meth c s.heap [] 0 0 (rt_Qv D rt_cl (rt_t cI cZ) rtC_X (rtC_W cI cZ A) below ([.ref (A 17), .int a1, .int a2] : List Value).toArray s σ') (F0 m 0 ls [])
  have hB138 : ∀ (ls : Array Slot) (l1 l3 l5 l6 : Int32) (σ : rt_St) (H : Heap) (locs : List Loc), lv_has ls 8 [(0, .ref (A 17)), (1, .int l1), (3, .int l3), (5, .int l5), (6, .int l6)] → B_C_Checker_checkBranch_138 l1 l3 l5 l6 σ = some σ' → va_P D rt_cl (rtC_W cI cZ A σ) H → va_S (rt_A (rtC_W cI cZ A) s.heap.size) s.heap H locs → W p l e ({ frames := 1, cells := 0, slots := 0, locals := 24 } : Room) s m ([.ref (A 17), .int a1, .int a2] : List Value).toArray below meth c H locs 0 0 (rt_Qv D rt_cl (rt_t cI cZ) rtC_X (rtC_W cI cZ A) below ([.ref (A 17), .int a1, .int a2] : List Value).toArray s σ') (F0 m 138 ls []) := by
    intro ls l1 l3 l5 l6 σ H locs hl hm hP hS
    unfold B_C_Checker_checkBranch_138 at hm
    refine lv_aload_n hx hb d_Checker_checkBranch_138 rfl (lv_at hl 0 rfl) ?_
    refine va_get (D := D) (v := .ref (A 1)) (C := "RangeTeller$Checker") (T := rt_T3) (N := 7) hx hb hts rt_i3 hown hK hP 17 rfl rfl 0 (by decide) (hts _ (rt_m rt_w235)) (fun _ h9 => h9) rfl d_Checker_checkBranch_139 ?_
    refine lv_iload_n hx hb d_Checker_checkBranch_142 rfl (lv_at hl 1 rfl) ?_
    refine lv_iload hx hb d_Checker_checkBranch_143 (lv_at hl 4 rfl) ?_
    refine lv_aload_n hx hb d_Checker_checkBranch_145 rfl (lv_at hl 0 rfl) ?_
    refine va_get (D := D) (v := .ref (A 19)) (C := "RangeTeller$Checker") (T := rt_T3) (N := 7) hx hb hts rt_i3 hown hK hP 17 rfl rfl 2 (by decide) (hts _ (rt_m rt_w237)) (fun _ h9 => h9) rfl d_Checker_checkBranch_146 ?_
    refine lv_iload_n hx hb d_Checker_checkBranch_149 rfl (lv_at hl 2 rfl) ?_
    obtain ⟨v1, h2, hm⟩ := rt_b1s hm
    refine rt_ald hx hb hK hP 19 0 rfl rfl h2 d_Checker_checkBranch_150 ?_
    refine lv_iload hx hb d_Checker_checkBranch_151 (lv_at hl 3 rfl) ?_
    obtain ⟨σ4, h3, hm⟩ := rt_b1s hm
    refine rt_cvv (As := [.int l1, .int l6, .int v1, .int l5]) (rest := []) (k := 1) rtC_Xo ⟨hx, hb, hml, hown, hts⟩ (k_C_Program_setJump l D cI cZ A hO σ l1 l6 v1 l5 _ h3) (cw_Program_setJump hts (hts _ (rt_m rt_w493)) ⟨Nat.le_of_ble_eq_true rfl, Nat.le_of_ble_eq_true rfl⟩) hK hP hS hX rfl rfl rfl hl.1 rfl (Nat.le_of_ble_eq_true rfl) d_Checker_checkBranch_153 ⟨Nat.zero_le _, Nat.zero_le _⟩ (fun H locs hP hS => ?_)
    exact W.vret hx hb hr (fun t ht hW => ⟨⟨_, rfl, Option.some.inj hm, rt_end rtC_Xo hK hP hS hX ht hW⟩, hS.F ht⟩) hS.2.2 d_Checker_checkBranch_156
  have hB112 : ∀ (ls : Array Slot) (l1 l3 l5 l6 : Int32) (σ : rt_St) (H : Heap) (locs : List Loc), lv_has ls 8 [(0, .ref (A 17)), (1, .int l1), (3, .int l3), (5, .int l5), (6, .int l6)] → B_C_Checker_checkBranch_112 l1 l3 l5 l6 σ = some σ' → va_P D rt_cl (rtC_W cI cZ A σ) H → va_S (rt_A (rtC_W cI cZ A) s.heap.size) s.heap H locs → W p l e ({ frames := 1, cells := 0, slots := 0, locals := 24 } : Room) s m ([.ref (A 17), .int a1, .int a2] : List Value).toArray below meth c H locs 0 0 (rt_Qv D rt_cl (rt_t cI cZ) rtC_X (rtC_W cI cZ A) below ([.ref (A 17), .int a1, .int a2] : List Value).toArray s σ') (F0 m 112 ls []) := by
    intro ls l1 l3 l5 l6 σ H locs hl hm hP hS
    unfold B_C_Checker_checkBranch_112 at hm
    refine lv_aload_n hx hb d_Checker_checkBranch_112 rfl (lv_at hl 0 rfl) ?_
    refine lv_iload hx hb d_Checker_checkBranch_113 (lv_at hl 3 rfl) ?_
    obtain ⟨σ6, h5, hm⟩ := rt_b1s hm
    refine rt_cvv (As := [.int l5]) (rest := []) (k := 17) rtC_Xo ⟨hx, hb, hml, hown, hts⟩ (k_C_Checker_take l D cI cZ A hO σ l5 _ h5) (cw_Checker_take hts (hts _ (rt_m rt_w485)) ⟨Nat.le_of_ble_eq_true rfl, Nat.le_of_ble_eq_true rfl⟩) hK hP hS hX rfl rfl rfl hl.1 rfl (Nat.le_of_ble_eq_true rfl) d_Checker_checkBranch_115 ⟨Nat.zero_le _, Nat.zero_le _⟩ (fun H locs hP hS => ?_)
    refine lv_aload_n hx hb d_Checker_checkBranch_118 rfl (lv_at hl 0 rfl) ?_
    refine va_get (D := D) (v := .ref (A 1)) (C := "RangeTeller$Checker") (T := rt_T3) (N := 7) hx hb hts rt_i3 hown hK hP 17 rfl rfl 0 (by decide) (hts _ (rt_m rt_w235)) (fun _ h9 => h9) rfl d_Checker_checkBranch_119 ?_
    refine va_get (D := D) (v := .ref (A 2)) (C := "RangeTeller$Program") (T := rt_T1) (N := 14) hx hb hts rt_i1 hown hK hP 1 rfl rfl 0 (by decide) (hts _ (rt_m rt_w120)) (fun _ h9 => h9) rfl d_Checker_checkBranch_122 ?_
    refine lv_iload_n hx hb d_Checker_checkBranch_125 rfl (lv_at hl 1 rfl) ?_
    obtain ⟨v7, h8, hm⟩ := rt_b1s hm
    refine rt_ald hx hb hK hP 2 0 rfl rfl h8 d_Checker_checkBranch_126 ?_
    refine lv_bipush (v := 7) hx hb d_Checker_checkBranch_127 (by decide) ?_
    refine lv_icmp_ne (tgt := 138) hx hb d_Checker_checkBranch_129 (by decide) (fun hc => ?_) (fun hc => ?_)
    · have hm := (if_neg hc).symm.trans hm
      exact hB138 ls l1 l3 l5 l6 σ6 _ _ (lv_sub hl [0, 1, 2, 3, 4] rfl) hm hP hS
    · have hm := (if_pos hc).symm.trans hm
      refine lv_aload_n hx hb d_Checker_checkBranch_132 rfl (lv_at hl 0 rfl) ?_
      refine lv_iload hx hb d_Checker_checkBranch_133 (lv_at hl 3 rfl) ?_
      obtain ⟨σ10, h9, hm⟩ := rt_b1s hm
      refine rt_cvv (As := [.int l5]) (rest := []) (k := 17) rtC_Xo ⟨hx, hb, hml, hown, hts⟩ (k_C_Checker_give l D cI cZ A hO σ6 l5 _ h9) (cw_Checker_give hts (hts _ (rt_m rt_w509)) ⟨Nat.le_of_ble_eq_true rfl, Nat.le_of_ble_eq_true rfl⟩) hK hP hS hX rfl rfl rfl hl.1 rfl (Nat.le_of_ble_eq_true rfl) d_Checker_checkBranch_135 ⟨Nat.zero_le _, Nat.zero_le _⟩ (fun H locs hP hS => ?_)
      exact hB138 ls l1 l3 l5 l6 σ10 _ _ (lv_sub hl [0, 1, 2, 3, 4] rfl) hm hP hS
  have hB108 : ∀ (ls : Array Slot) (l1 l3 l5 t0 : Int32) (σ : rt_St) (H : Heap) (locs : List Loc), lv_has ls 8 [(0, .ref (A 17)), (1, .int l1), (3, .int l3), (5, .int l5)] → B_C_Checker_checkBranch_108 l1 l3 l5 t0 σ = some σ' → va_P D rt_cl (rtC_W cI cZ A σ) H → va_S (rt_A (rtC_W cI cZ A) s.heap.size) s.heap H locs → W p l e ({ frames := 1, cells := 0, slots := 0, locals := 24 } : Room) s m ([.ref (A 17), .int a1, .int a2] : List Value).toArray below meth c H locs 0 0 (rt_Qv D rt_cl (rt_t cI cZ) rtC_X (rtC_W cI cZ A) below ([.ref (A 17), .int a1, .int a2] : List Value).toArray s σ') (F0 m 108 ls [.int t0]) := by
    intro ls l1 l3 l5 t0 σ H locs hl hm hP hS
    unfold B_C_Checker_checkBranch_108 at hm
    refine lv_iconst (v := 1) hx hb d_Checker_checkBranch_108 (by decide) ?_
    refine lv_iadd hx hb d_Checker_checkBranch_109 ?_
    refine lv_istore hx hb d_Checker_checkBranch_110 hl (by decide) rfl (fun ls hl => ?_)
    have hl : lv_has ls 8 [(6, .int (t0 + 1)), (0, .ref (A 17)), (1, .int l1), (3, .int l3), (5, .int l5)] := hl
    exact hB112 ls l1 l3 l5 (t0 + 1) σ _ _ (lv_sub hl [1, 2, 3, 4, 0] rfl) hm hP hS
  have hB86 : ∀ (ls : Array Slot) (l1 l3 l4 l7 t0 : Int32) (σ : rt_St) (H : Heap) (locs : List Loc), lv_has ls 8 [(0, .ref (A 17)), (1, .int l1), (3, .int l3), (4, .int l4), (7, .int l7)] → B_C_Checker_checkBranch_86 l1 l3 l4 l7 t0 σ = some σ' → va_P D rt_cl (rtC_W cI cZ A σ) H → va_S (rt_A (rtC_W cI cZ A) s.heap.size) s.heap H locs → W p l e ({ frames := 1, cells := 0, slots := 0, locals := 24 } : Room) s m ([.ref (A 17), .int a1, .int a2] : List Value).toArray below meth c H locs 0 0 (rt_Qv D rt_cl (rt_t cI cZ) rtC_X (rtC_W cI cZ A) below ([.ref (A 17), .int a1, .int a2] : List Value).toArray s σ') (F0 m 86 ls [.int t0]) := by
    intro ls l1 l3 l4 l7 t0 σ H locs hl hm hP hS
    unfold B_C_Checker_checkBranch_86 at hm
    refine lv_istore hx hb d_Checker_checkBranch_86 hl (by decide) rfl (fun ls hl => ?_)
    have hl : lv_has ls 8 [(5, .int t0), (0, .ref (A 17)), (1, .int l1), (3, .int l3), (4, .int l4), (7, .int l7)] := hl
    refine lv_iload hx hb d_Checker_checkBranch_88 (lv_at hl 5 rfl) ?_
    refine lv_if_eq (tgt := 98) hx hb d_Checker_checkBranch_90 (by decide) (fun hc => ?_) (fun hc => ?_)
    · have hm := (if_pos hc).symm.trans hm
      refine lv_aload_n hx hb d_Checker_checkBranch_98 rfl (lv_at hl 1 rfl) ?_
      refine va_get (D := D) (v := .ref (A 1)) (C := "RangeTeller$Checker") (T := rt_T3) (N := 7) hx hb hts rt_i3 hown hK hP 17 rfl rfl 0 (by decide) (hts _ (rt_m rt_w235)) (fun _ h9 => h9) rfl d_Checker_checkBranch_99 ?_
      refine va_get (D := D) (v := .ref (A 5)) (C := "RangeTeller$Program") (T := rt_T1) (N := 14) hx hb hts rt_i1 hown hK hP 1 rfl rfl 3 (by decide) (hts _ (rt_m rt_w134)) (fun _ h9 => h9) rfl d_Checker_checkBranch_102 ?_
      refine lv_iload hx hb d_Checker_checkBranch_105 (lv_at hl 4 rfl) ?_
      obtain ⟨v11, h12, hm⟩ := rt_b1s hm
      refine rt_ald hx hb hK hP 5 0 rfl rfl h12 d_Checker_checkBranch_107 ?_
      exact hB108 ls l1 l3 t0 v11 σ _ _ (lv_sub hl [1, 2, 3, 0] rfl) hm hP hS
    · have hm := (if_neg hc).symm.trans hm
      refine lv_iload hx hb d_Checker_checkBranch_93 (lv_at hl 4 rfl) ?_
      refine lv_goto (tgt := 108) hx hb d_Checker_checkBranch_95 (by decide) ?_
      exact hB108 ls l1 l3 t0 l4 σ _ _ (lv_sub hl [1, 2, 3, 0] rfl) hm hP hS
  have hB65 : ∀ (ls : Array Slot) (l1 l3 l4 t0 : Int32) (σ : rt_St) (H : Heap) (locs : List Loc), lv_has ls 8 [(0, .ref (A 17)), (1, .int l1), (3, .int l3), (4, .int l4)] → B_C_Checker_checkBranch_65 l1 l3 l4 t0 σ = some σ' → va_P D rt_cl (rtC_W cI cZ A σ) H → va_S (rt_A (rtC_W cI cZ A) s.heap.size) s.heap H locs → W p l e ({ frames := 1, cells := 0, slots := 0, locals := 24 } : Room) s m ([.ref (A 17), .int a1, .int a2] : List Value).toArray below meth c H locs 0 0 (rt_Qv D rt_cl (rt_t cI cZ) rtC_X (rtC_W cI cZ A) below ([.ref (A 17), .int a1, .int a2] : List Value).toArray s σ') (F0 m 65 ls [.int t0]) := by
    intro ls l1 l3 l4 t0 σ H locs hl hm hP hS
    unfold B_C_Checker_checkBranch_65 at hm
    refine lv_istore hx hb d_Checker_checkBranch_65 hl (by decide) rfl (fun ls hl => ?_)
    have hl : lv_has ls 8 [(7, .int t0), (0, .ref (A 17)), (1, .int l1), (3, .int l3), (4, .int l4)] := hl
    refine lv_iload hx hb d_Checker_checkBranch_67 (lv_at hl 0 rfl) ?_
    refine lv_if_eq (tgt := 76) hx hb d_Checker_checkBranch_69 (by decide) (fun hc => ?_) (fun hc => ?_)
    · have hm := (if_pos hc).symm.trans hm
      refine lv_aload_n hx hb d_Checker_checkBranch_76 rfl (lv_at hl 1 rfl) ?_
      refine va_get (D := D) (v := .ref (A 1)) (C := "RangeTeller$Checker") (T := rt_T3) (N := 7) hx hb hts rt_i3 hown hK hP 17 rfl rfl 0 (by decide) (hts _ (rt_m rt_w235)) (fun _ h9 => h9) rfl d_Checker_checkBranch_77 ?_
      refine va_get (D := D) (v := .ref (A 3)) (C := "RangeTeller$Program") (T := rt_T1) (N := 14) hx hb hts rt_i1 hown hK hP 1 rfl rfl 1 (by decide) (hts _ (rt_m rt_w126)) (fun _ h9 => h9) rfl d_Checker_checkBranch_80 ?_
      refine lv_iload hx hb d_Checker_checkBranch_83 (lv_at hl 4 rfl) ?_
      obtain ⟨v13, h14, hm⟩ := rt_b1s hm
      refine rt_ald hx hb hK hP 3 0 rfl rfl h14 d_Checker_checkBranch_85 ?_
      exact hB86 ls l1 l3 l4 t0 v13 σ _ _ (lv_sub hl [1, 2, 3, 4, 0] rfl) hm hP hS
    · have hm := (if_neg hc).symm.trans hm
      refine lv_iconst (v := 0) hx hb d_Checker_checkBranch_72 (by decide) ?_
      refine lv_goto (tgt := 86) hx hb d_Checker_checkBranch_73 (by decide) ?_
      exact hB86 ls l1 l3 l4 t0 0 σ _ _ (lv_sub hl [1, 2, 3, 4, 0] rfl) hm hP hS
  unfold M_C_Checker_checkBranch at hm
  refine lv_aload_n hx hb d_Checker_checkBranch_0 rfl (lv_at hl 0 rfl) ?_
  refine va_get (D := D) (v := .int (σ 17 4)) (C := "RangeTeller$Checker") (T := rt_T3) (N := 7) hx hb hts rt_i3 hown hK hP 17 rfl rfl 4 (by decide) (hts _ (rt_m rt_w239)) (fun _ h9 => h9) rfl d_Checker_checkBranch_1 ?_
  refine lv_aload_n hx hb d_Checker_checkBranch_4 rfl (lv_at hl 0 rfl) ?_
  refine va_get (D := D) (v := .ref (A 1)) (C := "RangeTeller$Checker") (T := rt_T3) (N := 7) hx hb hts rt_i3 hown hK hP 17 rfl rfl 0 (by decide) (hts _ (rt_m rt_w235)) (fun _ h9 => h9) rfl d_Checker_checkBranch_5 ?_
  refine va_get (D := D) (v := .ref (A 3)) (C := "RangeTeller$Program") (T := rt_T1) (N := 14) hx hb hts rt_i1 hown hK hP 1 rfl rfl 1 (by decide) (hts _ (rt_m rt_w126)) (fun _ h9 => h9) rfl d_Checker_checkBranch_8 ?_
  refine lv_iload_n hx hb d_Checker_checkBranch_11 rfl (lv_at hl 1 rfl) ?_
  obtain ⟨v15, h16, hm⟩ := rt_b1s hm
  refine rt_ald hx hb hK hP 3 0 rfl rfl h16 d_Checker_checkBranch_12 ?_
  refine lv_isub hx hb d_Checker_checkBranch_13 ?_
  refine lv_istore_n hx hb d_Checker_checkBranch_14 rfl hl (by decide) rfl (fun ls hl => ?_)
  have hl : lv_has ls 8 [(3, .int ((σ 17 4) - v15)), (0, .ref (A 17)), (1, .int a1), (2, .int a2)] := hl
  refine lv_iload_n hx hb d_Checker_checkBranch_15 rfl (lv_at hl 0 rfl) ?_
  refine lv_if_ge (tgt := 25) hx hb d_Checker_checkBranch_16 (by decide) (fun hc => ?_) (fun hc => ?_)
  · have hm := (if_pos hc).symm.trans hm
    refine lv_aload_n hx hb d_Checker_checkBranch_25 rfl (lv_at hl 1 rfl) ?_
    refine va_get (D := D) (v := .ref (A 18)) (C := "RangeTeller$Checker") (T := rt_T3) (N := 7) hx hb hts rt_i3 hown hK hP 17 rfl rfl 1 (by decide) (hts _ (rt_m rt_w236)) (fun _ h9 => h9) rfl d_Checker_checkBranch_26 ?_
    refine lv_iload_n hx hb d_Checker_checkBranch_29 rfl (lv_at hl 0 rfl) ?_
    obtain ⟨v17, h18, hm⟩ := rt_b1s hm
    refine rt_ald hx hb hK hP 18 0 rfl rfl h18 d_Checker_checkBranch_30 ?_
    refine lv_istore hx hb d_Checker_checkBranch_31 hl (by decide) rfl (fun ls hl => ?_)
    have hl : lv_has ls 8 [(4, .int v17), (3, .int ((σ 17 4) - v15)), (0, .ref (A 17)), (1, .int a1), (2, .int a2)] := hl
    refine lv_iload_n hx hb d_Checker_checkBranch_33 rfl (lv_at hl 4 rfl) ?_
    refine lv_istore hx hb d_Checker_checkBranch_34 hl (by decide) rfl (fun ls hl => ?_)
    have hl : lv_has ls 8 [(5, .int a2), (4, .int v17), (3, .int ((σ 17 4) - v15)), (0, .ref (A 17)), (1, .int a1), (2, .int a2)] := hl
    refine lv_iconst (v := (-1)) hx hb d_Checker_checkBranch_36 (by decide) ?_
    refine lv_istore hx hb d_Checker_checkBranch_37 hl (by decide) rfl (fun ls hl => ?_)
    have hl : lv_has ls 8 [(6, .int (-1)), (5, .int a2), (4, .int v17), (3, .int ((σ 17 4) - v15)), (0, .ref (A 17)), (1, .int a1), (2, .int a2)] := hl
    refine lv_iload hx hb d_Checker_checkBranch_39 (lv_at hl 2 rfl) ?_
    refine lv_bipush (v := (-3)) hx hb d_Checker_checkBranch_41 (by decide) ?_
    refine lv_icmp_eq (tgt := 112) hx hb d_Checker_checkBranch_43 (by decide) (fun hc => ?_) (fun hc => ?_)
    · have hm := (if_pos hc).symm.trans hm
      exact hB112 ls a1 ((σ 17 4) - v15) a2 (-1) σ _ _ (lv_sub hl [4, 5, 3, 1, 0] rfl) hm hP hS
    · have hm := (if_neg hc).symm.trans hm
      refine lv_aload_n hx hb d_Checker_checkBranch_46 rfl (lv_at hl 4 rfl) ?_
      refine va_get (D := D) (v := .ref (A 1)) (C := "RangeTeller$Checker") (T := rt_T3) (N := 7) hx hb hts rt_i3 hown hK hP 17 rfl rfl 0 (by decide) (hts _ (rt_m rt_w235)) (fun _ h9 => h9) rfl d_Checker_checkBranch_47 ?_
      refine va_get (D := D) (v := .ref (A 2)) (C := "RangeTeller$Program") (T := rt_T1) (N := 14) hx hb hts rt_i1 hown hK hP 1 rfl rfl 0 (by decide) (hts _ (rt_m rt_w120)) (fun _ h9 => h9) rfl d_Checker_checkBranch_50 ?_
      refine lv_iload hx hb d_Checker_checkBranch_53 (lv_at hl 2 rfl) ?_
      obtain ⟨v19, h20, hm⟩ := rt_b1s hm
      refine rt_ald hx hb hK hP 2 0 rfl rfl h20 d_Checker_checkBranch_55 ?_
      refine lv_iconst (v := 2) hx hb d_Checker_checkBranch_56 (by decide) ?_
      refine lv_icmp_ne (tgt := 64) hx hb d_Checker_checkBranch_57 (by decide) (fun hc => ?_) (fun hc => ?_)
      · have hm := (if_neg hc).symm.trans hm
        refine lv_iconst (v := 0) hx hb d_Checker_checkBranch_64 (by decide) ?_
        exact hB65 ls a1 ((σ 17 4) - v15) v17 0 σ _ _ (lv_sub hl [4, 5, 3, 2] rfl) hm hP hS
      · have hm := (if_pos hc).symm.trans hm
        refine lv_iconst (v := 1) hx hb d_Checker_checkBranch_60 (by decide) ?_
        refine lv_goto (tgt := 65) hx hb d_Checker_checkBranch_61 (by decide) ?_
        exact hB65 ls a1 ((σ 17 4) - v15) v17 1 σ _ _ (lv_sub hl [4, 5, 3, 2] rfl) hm hP hS
  · have hm := (if_neg hc).symm.trans hm
    refine lv_aload_n hx hb d_Checker_checkBranch_19 rfl (lv_at hl 1 rfl) ?_
    refine lv_iconst (v := 1) hx hb d_Checker_checkBranch_20 (by decide) ?_
    obtain ⟨σ21, h22, hm⟩ := rt_b1s hm
    refine rt_pf (D := D) (C := "RangeTeller$Checker") (T := rt_T3) (N := 7) (ty := .boolean) hx hb hts rt_i3 rt_y3 rt_o3 rt_n3 hown hK hP hD hS 17 rfl rfl 6 (by decide) (hts _ (rt_m rt_w241)) (fun _ h9 => h9) rfl (by decide +kernel) rfl rfl (Nat.le_of_ble_eq_true rfl) (rtC_s17_6 cI cZ A _ _) h22 d_Checker_checkBranch_21 (fun H locs hP hS => ?_)
    exact W.vret hx hb hr (fun t ht hW => ⟨⟨_, rfl, Option.some.inj hm, rt_end rtC_Xo hK hP hS hX ht hW⟩, hS.F ht⟩) hS.2.2 d_Checker_checkBranch_24
set_option maxHeartbeats 4000000 in
set_option maxRecDepth 100000 in
theorem k_C_Checker_mustBeAtBase (l : Launch) (D : va_G) (cI cZ : ClassId) (A : Nat → Nat) (hO : rt_Ok (rtC_W cI cZ A)) (σ : rt_St) (σ' : rt_St) (hm : M_C_Checker_mustBeAtBase σ = some σ') (sz : Nat) : Met l y_Checker_mustBeAtBase (rt_ws y_Checker_mustBeAtBase b_Checker_mustBeAtBase 1 none) ({ frames := 0, cells := 0, slots := 0, locals := 0 } : Room) (va_Pc [.ref (A 17)] (rt_P D rt_cl (rt_t cI cZ) rtC_X (rtC_W cI cZ A) sz σ)) (va_Qv (fun u1 => u1 = σ') (rt_B D rt_cl (rt_t cI cZ) rtC_X (rtC_W cI cZ A)) (rt_A (rtC_W cI cZ A) sz)) 0 0 (rt_A (rtC_W cI cZ A) sz) := by
  refine Met.ofW (cc := b_Checker_mustBeAtBase) (maxL := 1) (ret := none) (by decide) rfl ?_
  intro p e s m args below meth c s₁ B hml hv
  obtain ⟨rfl, rfl, hP, hK, hX⟩ := hv
  have hx := B.exec
  have hb := B.bytes
  have hr := B.returns
  have hts := atoms_spec (ws := (rt_ws y_Checker_mustBeAtBase b_Checker_mustBeAtBase 1 none)) B.pre
  have hown : s.vm.findClass "RangeTeller$Checker" = some m.cls := findClass_of_methodNamed B.named
  have hlocks := B.notSynchronized
  have hD := rt_hD hO s.heap.size
  have hS : va_S (rt_A (rtC_W cI cZ A) s.heap.size) s.heap s.heap [] := va_S.rf
  have hl := lv_entry ([.ref (A 17)]) (n := 1) (Nat.le_of_ble_eq_true rfl)
  rw [lg_entry_eq]
  generalize (lg_sl ([.ref (A 17)]) ++ List.replicate (1 - (lg_sl ([.ref (A 17)])).length) Slot.unset).toArray = ls at hl ⊢
  have hl : lv_has ls 1 [(0, .ref (A 17))] := hl
  show W p l e ({ frames := 0, cells := 0, slots := 0, locals := 0 } : Room) s m ([.ref (A 17)] : List Value).toArray below meth c s.heap [] 0 0 (rt_Qv D rt_cl (rt_t cI cZ) rtC_X (rtC_W cI cZ A) below ([.ref (A 17)] : List Value).toArray s σ') (F0 m 0 ls [])
  unfold M_C_Checker_mustBeAtBase at hm
  refine lv_aload_n hx hb d_Checker_mustBeAtBase_0 rfl (lv_at hl 0 rfl) ?_
  refine va_get (D := D) (v := .int (σ 17 5)) (C := "RangeTeller$Checker") (T := rt_T3) (N := 7) hx hb hts rt_i3 hown hK hP 17 rfl rfl 5 (by decide) (hts _ (rt_m rt_w240)) (fun _ h9 => h9) rfl d_Checker_mustBeAtBase_1 ?_
  refine lv_aload_n hx hb d_Checker_mustBeAtBase_4 rfl (lv_at hl 0 rfl) ?_
  refine va_get (D := D) (v := .ref (A 19)) (C := "RangeTeller$Checker") (T := rt_T3) (N := 7) hx hb hts rt_i3 hown hK hP 17 rfl rfl 2 (by decide) (hts _ (rt_m rt_w237)) (fun _ h9 => h9) rfl d_Checker_mustBeAtBase_5 ?_
  refine lv_aload_n hx hb d_Checker_mustBeAtBase_8 rfl (lv_at hl 0 rfl) ?_
  refine va_get (D := D) (v := .int (σ 17 4)) (C := "RangeTeller$Checker") (T := rt_T3) (N := 7) hx hb hts rt_i3 hown hK hP 17 rfl rfl 4 (by decide) (hts _ (rt_m rt_w239)) (fun _ h9 => h9) rfl d_Checker_mustBeAtBase_9 ?_
  obtain ⟨v1, h2, hm⟩ := rt_b1s hm
  refine rt_ald hx hb hK hP 19 0 rfl rfl h2 d_Checker_mustBeAtBase_12 ?_
  refine lv_icmp_eq (tgt := 21) hx hb d_Checker_mustBeAtBase_13 (by decide) (fun hc => ?_) (fun hc => ?_)
  · have hm := (if_pos hc).symm.trans hm
    exact W.vret hx hb hr (fun t ht hW => ⟨⟨_, rfl, Option.some.inj hm, rt_end rtC_Xo hK hP hS hX ht hW⟩, hS.F ht⟩) hS.2.2 d_Checker_mustBeAtBase_21
  · have hm := (if_neg hc).symm.trans hm
    refine lv_aload_n hx hb d_Checker_mustBeAtBase_16 rfl (lv_at hl 0 rfl) ?_
    refine lv_iconst (v := 1) hx hb d_Checker_mustBeAtBase_17 (by decide) ?_
    obtain ⟨σ3, h4, hm⟩ := rt_b1s hm
    refine rt_pf (D := D) (C := "RangeTeller$Checker") (T := rt_T3) (N := 7) (ty := .boolean) hx hb hts rt_i3 rt_y3 rt_o3 rt_n3 hown hK hP hD hS 17 rfl rfl 6 (by decide) (hts _ (rt_m rt_w241)) (fun _ h9 => h9) rfl (by decide +kernel) rfl rfl (Nat.le_of_ble_eq_true rfl) (rtC_s17_6 cI cZ A _ _) h4 d_Checker_mustBeAtBase_18 (fun H locs hP hS => ?_)
    exact W.vret hx hb hr (fun t ht hW => ⟨⟨_, rfl, Option.some.inj hm, rt_end rtC_Xo hK hP hS hX ht hW⟩, hS.F ht⟩) hS.2.2 d_Checker_mustBeAtBase_21
set_option maxHeartbeats 4000000 in
set_option maxRecDepth 100000 in
theorem k_C_Checker_checkEnd (l : Launch) (D : va_G) (cI cZ : ClassId) (A : Nat → Nat) (hO : rt_Ok (rtC_W cI cZ A)) (σ : rt_St) (a1 a2 : Int32) (σ' : rt_St) (hm : M_C_Checker_checkEnd σ a1 a2 = some σ') (sz : Nat) : Met l y_Checker_checkEnd (rt_ws y_Checker_checkEnd b_Checker_checkEnd 6 none) ({ frames := 1, cells := 0, slots := 0, locals := 24 } : Room) (va_Pc [.ref (A 17), .int a1, .int a2] (rt_P D rt_cl (rt_t cI cZ) rtC_X (rtC_W cI cZ A) sz σ)) (va_Qv (fun u1 => u1 = σ') (rt_B D rt_cl (rt_t cI cZ) rtC_X (rtC_W cI cZ A)) (rt_A (rtC_W cI cZ A) sz)) 0 0 (rt_A (rtC_W cI cZ A) sz) := by
  refine Met.ofW (cc := b_Checker_checkEnd) (maxL := 6) (ret := none) (by decide) rfl ?_
  intro p e s m args below meth c s₁ B hml hv
  obtain ⟨rfl, rfl, hP, hK, hX⟩ := hv
  have hx := B.exec
  have hb := B.bytes
  have hr := B.returns
  have hts := atoms_spec (ws := (rt_ws y_Checker_checkEnd b_Checker_checkEnd 6 none)) B.pre
  have hown : s.vm.findClass "RangeTeller$Checker" = some m.cls := findClass_of_methodNamed B.named
  have hlocks := B.notSynchronized
  have hD := rt_hD hO s.heap.size
  have hS : va_S (rt_A (rtC_W cI cZ A) s.heap.size) s.heap s.heap [] := va_S.rf
  have hl := lv_entry ([.ref (A 17), .int a1, .int a2]) (n := 6) (Nat.le_of_ble_eq_true rfl)
  rw [lg_entry_eq]
  generalize (lg_sl ([.ref (A 17), .int a1, .int a2]) ++ List.replicate (6 - (lg_sl ([.ref (A 17), .int a1, .int a2])).length) Slot.unset).toArray = ls at hl ⊢
  have hl : lv_has ls 6 [(0, .ref (A 17)), (1, .int a1), (2, .int a2)] := hl
  show W p l e ({ frames := 1, cells := 0, slots := 0, locals := 24 } : Room) s m ([.ref (A 17), .int a1, .int a2] : List Value).toArray below meth c s.heap [] 0 0 (rt_Qv D rt_cl (rt_t cI cZ) rtC_X (rtC_W cI cZ A) below ([.ref (A 17), .int a1, .int a2] : List Value).toArray s σ') (F0 m 0 ls [])
  have hB119 : ∀ (ls : Array Slot) (l1 l4 l5 : Int32) (σ : rt_St) (H : Heap) (locs : List Loc), lv_has ls 6 [(0, .ref (A 17)), (1, .int l1), (4, .int l4), (5, .int l5)] → B_C_Checker_checkEnd_119 l1 l4 l5 σ = some σ' → va_P D rt_cl (rtC_W cI cZ A σ) H → va_S (rt_A (rtC_W cI cZ A) s.heap.size) s.heap H locs → W p l e ({ frames := 1, cells := 0, slots := 0, locals := 24 } : Room) s m ([.ref (A 17), .int a1, .int a2] : List Value).toArray below meth c H locs 0 0 (rt_Qv D rt_cl (rt_t cI cZ) rtC_X (rtC_W cI cZ A) below ([.ref (A 17), .int a1, .int a2] : List Value).toArray s σ') (F0 m 119 ls []) := by
    intro ls l1 l4 l5 σ H locs hl hm hP hS
    unfold B_C_Checker_checkEnd_119 at hm
    refine lv_aload_n hx hb d_Checker_checkEnd_119 rfl (lv_at hl 0 rfl) ?_
    refine lv_iload hx hb d_Checker_checkEnd_120 (lv_at hl 3 rfl) ?_
    obtain ⟨σ2, h1, hm⟩ := rt_b1s hm
    refine rt_cvv (As := [.int l5]) (rest := []) (k := 17) rtC_Xo ⟨hx, hb, hml, hown, hts⟩ (k_C_Checker_give l D cI cZ A hO σ l5 _ h1) (cw_Checker_give hts (hts _ (rt_m rt_w509)) ⟨Nat.le_of_ble_eq_true rfl, Nat.le_of_ble_eq_true rfl⟩) hK hP hS hX rfl rfl rfl hl.1 rfl (Nat.le_of_ble_eq_true rfl) d_Checker_checkEnd_122 ⟨Nat.zero_le _, Nat.zero_le _⟩ (fun H locs hP hS => ?_)
    refine lv_aload_n hx hb d_Checker_checkEnd_125 rfl (lv_at hl 0 rfl) ?_
    refine va_get (D := D) (v := .ref (A 1)) (C := "RangeTeller$Checker") (T := rt_T3) (N := 7) hx hb hts rt_i3 hown hK hP 17 rfl rfl 0 (by decide) (hts _ (rt_m rt_w235)) (fun _ h9 => h9) rfl d_Checker_checkEnd_126 ?_
    refine lv_iload_n hx hb d_Checker_checkEnd_129 rfl (lv_at hl 1 rfl) ?_
    refine lv_iload_n hx hb d_Checker_checkEnd_130 rfl (lv_at hl 1 rfl) ?_
    refine lv_iconst (v := 1) hx hb d_Checker_checkEnd_131 (by decide) ?_
    refine lv_iadd hx hb d_Checker_checkEnd_132 ?_
    refine lv_iload hx hb d_Checker_checkEnd_133 (lv_at hl 2 rfl) ?_
    refine lv_iload hx hb d_Checker_checkEnd_135 (lv_at hl 3 rfl) ?_
    obtain ⟨σ4, h3, hm⟩ := rt_b1s hm
    refine rt_cvv (As := [.int l1, .int (l1 + 1), .int l4, .int l5]) (rest := []) (k := 1) rtC_Xo ⟨hx, hb, hml, hown, hts⟩ (k_C_Program_setJump l D cI cZ A hO σ2 l1 (l1 + 1) l4 l5 _ h3) (cw_Program_setJump hts (hts _ (rt_m rt_w493)) ⟨Nat.le_of_ble_eq_true rfl, Nat.le_of_ble_eq_true rfl⟩) hK hP hS hX rfl rfl rfl hl.1 rfl (Nat.le_of_ble_eq_true rfl) d_Checker_checkEnd_137 ⟨Nat.zero_le _, Nat.zero_le _⟩ (fun H locs hP hS => ?_)
    exact W.vret hx hb hr (fun t ht hW => ⟨⟨_, rfl, Option.some.inj hm, rt_end rtC_Xo hK hP hS hX ht hW⟩, hS.F ht⟩) hS.2.2 d_Checker_checkEnd_140
  have hB40 : ∀ (ls : Array Slot) (l1 l3 l4 t0 : Int32) (σ : rt_St) (H : Heap) (locs : List Loc), lv_has ls 6 [(0, .ref (A 17)), (1, .int l1), (3, .int l3), (4, .int l4)] → B_C_Checker_checkEnd_40 l1 l3 l4 t0 σ = some σ' → va_P D rt_cl (rtC_W cI cZ A σ) H → va_S (rt_A (rtC_W cI cZ A) s.heap.size) s.heap H locs → W p l e ({ frames := 1, cells := 0, slots := 0, locals := 24 } : Room) s m ([.ref (A 17), .int a1, .int a2] : List Value).toArray below meth c H locs 0 0 (rt_Qv D rt_cl (rt_t cI cZ) rtC_X (rtC_W cI cZ A) below ([.ref (A 17), .int a1, .int a2] : List Value).toArray s σ') (F0 m 40 ls [.int t0]) := by
    intro ls l1 l3 l4 t0 σ H locs hl hm hP hS
    unfold B_C_Checker_checkEnd_40 at hm
    refine lv_istore hx hb d_Checker_checkEnd_40 hl (by decide) rfl (fun ls hl => ?_)
    have hl : lv_has ls 6 [(5, .int t0), (0, .ref (A 17)), (1, .int l1), (3, .int l3), (4, .int l4)] := hl
    refine lv_aload_n hx hb d_Checker_checkEnd_42 rfl (lv_at hl 1 rfl) ?_
    refine lv_iload hx hb d_Checker_checkEnd_43 (lv_at hl 0 rfl) ?_
    obtain ⟨σ6, h5, hm⟩ := rt_b1s hm
    refine rt_cvv (As := [.int t0]) (rest := []) (k := 17) rtC_Xo ⟨hx, hb, hml, hown, hts⟩ (k_C_Checker_take l D cI cZ A hO σ t0 _ h5) (cw_Checker_take hts (hts _ (rt_m rt_w485)) ⟨Nat.le_of_ble_eq_true rfl, Nat.le_of_ble_eq_true rfl⟩) hK hP hS hX rfl rfl rfl hl.1 rfl (Nat.le_of_ble_eq_true rfl) d_Checker_checkEnd_45 ⟨Nat.zero_le _, Nat.zero_le _⟩ (fun H locs hP hS => ?_)
    refine lv_aload_n hx hb d_Checker_checkEnd_48 rfl (lv_at hl 1 rfl) ?_
    obtain ⟨σ8, h7, hm⟩ := rt_b1s hm
    refine rt_cvv (As := []) (rest := []) (k := 17) rtC_Xo ⟨hx, hb, hml, hown, hts⟩ (k_C_Checker_mustBeAtBase l D cI cZ A hO σ6 _ h7) (cw_Checker_mustBeAtBase hts (hts _ (rt_m rt_w501)) ⟨Nat.le_of_ble_eq_true rfl, Nat.le_of_ble_eq_true rfl⟩) hK hP hS hX rfl rfl rfl hl.1 rfl (Nat.le_of_ble_eq_true rfl) d_Checker_checkEnd_49 ⟨Nat.zero_le _, Nat.zero_le _⟩ (fun H locs hP hS => ?_)
    refine lv_aload_n hx hb d_Checker_checkEnd_52 rfl (lv_at hl 1 rfl) ?_
    refine lv_dup hx hb d_Checker_checkEnd_53 rfl ?_
    refine va_get (D := D) (v := .int (σ8 17 4)) (C := "RangeTeller$Checker") (T := rt_T3) (N := 7) hx hb hts rt_i3 hown hK hP 17 rfl rfl 4 (by decide) (hts _ (rt_m rt_w239)) (fun _ h9 => h9) rfl d_Checker_checkEnd_54 ?_
    refine lv_iconst (v := 1) hx hb d_Checker_checkEnd_57 (by decide) ?_
    refine lv_isub hx hb d_Checker_checkEnd_58 ?_
    obtain ⟨σ9, h10, hm⟩ := rt_b1s hm
    refine rt_pf (D := D) (C := "RangeTeller$Checker") (T := rt_T3) (N := 7) (ty := .int) hx hb hts rt_i3 rt_y3 rt_o3 rt_n3 hown hK hP hD hS 17 rfl rfl 4 (by decide) (hts _ (rt_m rt_w239)) (fun _ h9 => h9) rfl (by decide +kernel) rfl rfl (Nat.le_of_ble_eq_true rfl) (rtC_s17_4 cI cZ A _ _) h10 d_Checker_checkEnd_59 (fun H locs hP hS => ?_)
    refine lv_iload_n hx hb d_Checker_checkEnd_62 rfl (lv_at hl 3 rfl) ?_
    refine lv_bipush (v := (-3)) hx hb d_Checker_checkEnd_63 (by decide) ?_
    refine lv_icmp_ne (tgt := 81) hx hb d_Checker_checkEnd_65 (by decide) (fun hc => ?_) (fun hc => ?_)
    · have hm := (if_neg hc).symm.trans hm
      refine lv_aload_n hx hb d_Checker_checkEnd_81 rfl (lv_at hl 1 rfl) ?_
      refine va_get (D := D) (v := .ref (A 1)) (C := "RangeTeller$Checker") (T := rt_T3) (N := 7) hx hb hts rt_i3 hown hK hP 17 rfl rfl 0 (by decide) (hts _ (rt_m rt_w235)) (fun _ h9 => h9) rfl d_Checker_checkEnd_82 ?_
      refine va_get (D := D) (v := .ref (A 2)) (C := "RangeTeller$Program") (T := rt_T1) (N := 14) hx hb hts rt_i1 hown hK hP 1 rfl rfl 0 (by decide) (hts _ (rt_m rt_w120)) (fun _ h9 => h9) rfl d_Checker_checkEnd_85 ?_
      refine lv_iload_n hx hb d_Checker_checkEnd_88 rfl (lv_at hl 3 rfl) ?_
      obtain ⟨v11, h12, hm⟩ := rt_b1s hm
      refine rt_ald hx hb hK hP 2 0 rfl rfl h12 d_Checker_checkEnd_89 ?_
      refine lv_iconst (v := 3) hx hb d_Checker_checkEnd_90 (by decide) ?_
      refine lv_icmp_ne (tgt := 119) hx hb d_Checker_checkEnd_91 (by decide) (fun hc => ?_) (fun hc => ?_)
      · have hm := (if_neg hc).symm.trans hm
        exact hB119 ls l1 l4 t0 σ9 _ _ (lv_sub hl [1, 2, 4, 0] rfl) hm hP hS
      · have hm := (if_pos hc).symm.trans hm
        refine lv_iload hx hb d_Checker_checkEnd_94 (lv_at hl 0 rfl) ?_
        refine lv_iconst (v := 1) hx hb d_Checker_checkEnd_96 (by decide) ?_
        refine lv_icmp_ne (tgt := 119) hx hb d_Checker_checkEnd_97 (by decide) (fun hc => ?_) (fun hc => ?_)
        · have hm := (if_neg hc).symm.trans hm
          exact hB119 ls l1 l4 t0 σ9 _ _ (lv_sub hl [1, 2, 4, 0] rfl) hm hP hS
        · have hm := (if_pos hc).symm.trans hm
          refine lv_aload_n hx hb d_Checker_checkEnd_100 rfl (lv_at hl 1 rfl) ?_
          refine va_get (D := D) (v := .ref (A 1)) (C := "RangeTeller$Checker") (T := rt_T3) (N := 7) hx hb hts rt_i3 hown hK hP 17 rfl rfl 0 (by decide) (hts _ (rt_m rt_w235)) (fun _ h9 => h9) rfl d_Checker_checkEnd_101 ?_
          refine va_get (D := D) (v := .ref (A 6)) (C := "RangeTeller$Program") (T := rt_T1) (N := 14) hx hb hts rt_i1 hown hK hP 1 rfl rfl 4 (by decide) (hts _ (rt_m rt_w137)) (fun _ h9 => h9) rfl d_Checker_checkEnd_104 ?_
          refine lv_iload_n hx hb d_Checker_checkEnd_107 rfl (lv_at hl 3 rfl) ?_
          obtain ⟨v13, h14, hm⟩ := rt_b1s hm
          refine rt_ald hx hb hK hP 6 0 rfl rfl h14 d_Checker_checkEnd_108 ?_
          refine lv_bipush (v := (-3)) hx hb d_Checker_checkEnd_109 (by decide) ?_
          refine lv_icmp_ne (tgt := 119) hx hb d_Checker_checkEnd_111 (by decide) (fun hc => ?_) (fun hc => ?_)
          · have hm := (if_neg hc).symm.trans hm
            exact hB119 ls l1 l4 t0 σ9 _ _ (lv_sub hl [1, 2, 4, 0] rfl) hm hP hS
          · have hm := (if_pos hc).symm.trans hm
            refine lv_aload_n hx hb d_Checker_checkEnd_114 rfl (lv_at hl 1 rfl) ?_
            refine lv_iconst (v := 1) hx hb d_Checker_checkEnd_115 (by decide) ?_
            obtain ⟨σ15, h16, hm⟩ := rt_b1s hm
            refine rt_pf (D := D) (C := "RangeTeller$Checker") (T := rt_T3) (N := 7) (ty := .boolean) hx hb hts rt_i3 rt_y3 rt_o3 rt_n3 hown hK hP hD hS 17 rfl rfl 6 (by decide) (hts _ (rt_m rt_w241)) (fun _ h9 => h9) rfl (by decide +kernel) rfl rfl (Nat.le_of_ble_eq_true rfl) (rtC_s17_6 cI cZ A _ _) h16 d_Checker_checkEnd_116 (fun H locs hP hS => ?_)
            exact hB119 ls l1 l4 t0 σ15 _ _ (lv_sub hl [1, 2, 4, 0] rfl) hm hP hS
    · have hm := (if_pos hc).symm.trans hm
      refine lv_aload_n hx hb d_Checker_checkEnd_68 rfl (lv_at hl 1 rfl) ?_
      refine va_get (D := D) (v := .ref (A 1)) (C := "RangeTeller$Checker") (T := rt_T3) (N := 7) hx hb hts rt_i3 hown hK hP 17 rfl rfl 0 (by decide) (hts _ (rt_m rt_w235)) (fun _ h9 => h9) rfl d_Checker_checkEnd_69 ?_
      refine lv_iload_n hx hb d_Checker_checkEnd_72 rfl (lv_at hl 2 rfl) ?_
      refine lv_iconst (v := (-1)) hx hb d_Checker_checkEnd_73 (by decide) ?_
      refine lv_iconst (v := 0) hx hb d_Checker_checkEnd_74 (by decide) ?_
      refine lv_iload hx hb d_Checker_checkEnd_75 (lv_at hl 0 rfl) ?_
      obtain ⟨σ18, h17, hm⟩ := rt_b1s hm
      refine rt_cvv (As := [.int l1, .int (-1), .int 0, .int t0]) (rest := []) (k := 1) rtC_Xo ⟨hx, hb, hml, hown, hts⟩ (k_C_Program_setJump l D cI cZ A hO σ9 l1 (-1) 0 t0 _ h17) (cw_Program_setJump hts (hts _ (rt_m rt_w493)) ⟨Nat.le_of_ble_eq_true rfl, Nat.le_of_ble_eq_true rfl⟩) hK hP hS hX rfl rfl rfl hl.1 rfl (Nat.le_of_ble_eq_true rfl) d_Checker_checkEnd_77 ⟨Nat.zero_le _, Nat.zero_le _⟩ (fun H locs hP hS => ?_)
      exact W.vret hx hb hr (fun t ht hW => ⟨⟨_, rfl, Option.some.inj hm, rt_end rtC_Xo hK hP hS hX ht hW⟩, hS.F ht⟩) hS.2.2 d_Checker_checkEnd_80
  unfold M_C_Checker_checkEnd at hm
  refine lv_aload_n hx hb d_Checker_checkEnd_0 rfl (lv_at hl 0 rfl) ?_
  refine va_get (D := D) (v := .ref (A 18)) (C := "RangeTeller$Checker") (T := rt_T3) (N := 7) hx hb hts rt_i3 hown hK hP 17 rfl rfl 1 (by decide) (hts _ (rt_m rt_w236)) (fun _ h9 => h9) rfl d_Checker_checkEnd_1 ?_
  refine lv_aload_n hx hb d_Checker_checkEnd_4 rfl (lv_at hl 0 rfl) ?_
  refine va_get (D := D) (v := .int (σ 17 4)) (C := "RangeTeller$Checker") (T := rt_T3) (N := 7) hx hb hts rt_i3 hown hK hP 17 rfl rfl 4 (by decide) (hts _ (rt_m rt_w239)) (fun _ h9 => h9) rfl d_Checker_checkEnd_5 ?_
  obtain ⟨v19, h20, hm⟩ := rt_b1s hm
  refine rt_ald hx hb hK hP 18 0 rfl rfl h20 d_Checker_checkEnd_8 ?_
  refine lv_istore_n hx hb d_Checker_checkEnd_9 rfl hl (by decide) rfl (fun ls hl => ?_)
  have hl : lv_has ls 6 [(3, .int v19), (0, .ref (A 17)), (1, .int a1), (2, .int a2)] := hl
  refine lv_aload_n hx hb d_Checker_checkEnd_10 rfl (lv_at hl 1 rfl) ?_
  refine va_get (D := D) (v := .ref (A 19)) (C := "RangeTeller$Checker") (T := rt_T3) (N := 7) hx hb hts rt_i3 hown hK hP 17 rfl rfl 2 (by decide) (hts _ (rt_m rt_w237)) (fun _ h9 => h9) rfl d_Checker_checkEnd_11 ?_
  refine lv_aload_n hx hb d_Checker_checkEnd_14 rfl (lv_at hl 1 rfl) ?_
  refine va_get (D := D) (v := .int (σ 17 4)) (C := "RangeTeller$Checker") (T := rt_T3) (N := 7) hx hb hts rt_i3 hown hK hP 17 rfl rfl 4 (by decide) (hts _ (rt_m rt_w239)) (fun _ h9 => h9) rfl d_Checker_checkEnd_15 ?_
  obtain ⟨v21, h22, hm⟩ := rt_b1s hm
  refine rt_ald hx hb hK hP 19 0 rfl rfl h22 d_Checker_checkEnd_18 ?_
  refine lv_istore hx hb d_Checker_checkEnd_19 hl (by decide) rfl (fun ls hl => ?_)
  have hl : lv_has ls 6 [(4, .int v21), (3, .int v19), (0, .ref (A 17)), (1, .int a1), (2, .int a2)] := hl
  refine lv_iload_n hx hb d_Checker_checkEnd_21 rfl (lv_at hl 1 rfl) ?_
  refine lv_bipush (v := (-3)) hx hb d_Checker_checkEnd_22 (by decide) ?_
  refine lv_icmp_ne (tgt := 31) hx hb d_Checker_checkEnd_24 (by decide) (fun hc => ?_) (fun hc => ?_)
  · have hm := (if_neg hc).symm.trans hm
    refine lv_aload_n hx hb d_Checker_checkEnd_31 rfl (lv_at hl 2 rfl) ?_
    refine va_get (D := D) (v := .ref (A 1)) (C := "RangeTeller$Checker") (T := rt_T3) (N := 7) hx hb hts rt_i3 hown hK hP 17 rfl rfl 0 (by decide) (hts _ (rt_m rt_w235)) (fun _ h9 => h9) rfl d_Checker_checkEnd_32 ?_
    refine va_get (D := D) (v := .ref (A 3)) (C := "RangeTeller$Program") (T := rt_T1) (N := 14) hx hb hts rt_i1 hown hK hP 1 rfl rfl 1 (by decide) (hts _ (rt_m rt_w126)) (fun _ h9 => h9) rfl d_Checker_checkEnd_35 ?_
    refine lv_iload_n hx hb d_Checker_checkEnd_38 rfl (lv_at hl 1 rfl) ?_
    obtain ⟨v23, h24, hm⟩ := rt_b1s hm
    refine rt_ald hx hb hK hP 3 0 rfl rfl h24 d_Checker_checkEnd_39 ?_
    exact hB40 ls a1 v19 v21 v23 σ _ _ (lv_sub hl [2, 3, 1, 0] rfl) hm hP hS
  · have hm := (if_pos hc).symm.trans hm
    refine lv_iload_n hx hb d_Checker_checkEnd_27 rfl (lv_at hl 4 rfl) ?_
    refine lv_goto (tgt := 40) hx hb d_Checker_checkEnd_28 (by decide) ?_
    exact hB40 ls a1 v19 v21 a2 σ _ _ (lv_sub hl [2, 3, 1, 0] rfl) hm hP hS
set_option maxHeartbeats 4000000 in
set_option maxRecDepth 100000 in
theorem k_C_Checker_checkElse (l : Launch) (D : va_G) (cI cZ : ClassId) (A : Nat → Nat) (hO : rt_Ok (rtC_W cI cZ A)) (σ : rt_St) (a1 : Int32) (σ' : rt_St) (hm : M_C_Checker_checkElse σ a1 = some σ') (sz : Nat) : Met l y_Checker_checkElse (rt_ws y_Checker_checkElse b_Checker_checkElse 4 none) ({ frames := 1, cells := 0, slots := 0, locals := 24 } : Room) (va_Pc [.ref (A 17), .int a1] (rt_P D rt_cl (rt_t cI cZ) rtC_X (rtC_W cI cZ A) sz σ)) (va_Qv (fun u1 => u1 = σ') (rt_B D rt_cl (rt_t cI cZ) rtC_X (rtC_W cI cZ A)) (rt_A (rtC_W cI cZ A) sz)) 0 0 (rt_A (rtC_W cI cZ A) sz) := by
  refine Met.ofW (cc := b_Checker_checkElse) (maxL := 4) (ret := none) (by decide) rfl ?_
  intro p e s m args below meth c s₁ B hml hv
  obtain ⟨rfl, rfl, hP, hK, hX⟩ := hv
  have hx := B.exec
  have hb := B.bytes
  have hr := B.returns
  have hts := atoms_spec (ws := (rt_ws y_Checker_checkElse b_Checker_checkElse 4 none)) B.pre
  have hown : s.vm.findClass "RangeTeller$Checker" = some m.cls := findClass_of_methodNamed B.named
  have hlocks := B.notSynchronized
  have hD := rt_hD hO s.heap.size
  have hS : va_S (rt_A (rtC_W cI cZ A) s.heap.size) s.heap s.heap [] := va_S.rf
  have hl := lv_entry ([.ref (A 17), .int a1]) (n := 4) (Nat.le_of_ble_eq_true rfl)
  rw [lg_entry_eq]
  generalize (lg_sl ([.ref (A 17), .int a1]) ++ List.replicate (4 - (lg_sl ([.ref (A 17), .int a1])).length) Slot.unset).toArray = ls at hl ⊢
  have hl : lv_has ls 4 [(0, .ref (A 17)), (1, .int a1)] := hl
  show W p l e ({ frames := 1, cells := 0, slots := 0, locals := 24 } : Room) s m ([.ref (A 17), .int a1] : List Value).toArray below meth c s.heap [] 0 0 (rt_Qv D rt_cl (rt_t cI cZ) rtC_X (rtC_W cI cZ A) below ([.ref (A 17), .int a1] : List Value).toArray s σ') (F0 m 0 ls [])
  unfold M_C_Checker_checkElse at hm
  refine lv_aload_n hx hb d_Checker_checkElse_0 rfl (lv_at hl 0 rfl) ?_
  refine va_get (D := D) (v := .ref (A 18)) (C := "RangeTeller$Checker") (T := rt_T3) (N := 7) hx hb hts rt_i3 hown hK hP 17 rfl rfl 1 (by decide) (hts _ (rt_m rt_w236)) (fun _ h9 => h9) rfl d_Checker_checkElse_1 ?_
  refine lv_aload_n hx hb d_Checker_checkElse_4 rfl (lv_at hl 0 rfl) ?_
  refine va_get (D := D) (v := .int (σ 17 4)) (C := "RangeTeller$Checker") (T := rt_T3) (N := 7) hx hb hts rt_i3 hown hK hP 17 rfl rfl 4 (by decide) (hts _ (rt_m rt_w239)) (fun _ h9 => h9) rfl d_Checker_checkElse_5 ?_
  obtain ⟨v1, h2, hm⟩ := rt_b1s hm
  refine rt_ald hx hb hK hP 18 0 rfl rfl h2 d_Checker_checkElse_8 ?_
  refine lv_istore_n hx hb d_Checker_checkElse_9 rfl hl (by decide) rfl (fun ls hl => ?_)
  have hl : lv_has ls 4 [(2, .int v1), (0, .ref (A 17)), (1, .int a1)] := hl
  refine lv_aload_n hx hb d_Checker_checkElse_10 rfl (lv_at hl 1 rfl) ?_
  refine va_get (D := D) (v := .ref (A 1)) (C := "RangeTeller$Checker") (T := rt_T3) (N := 7) hx hb hts rt_i3 hown hK hP 17 rfl rfl 0 (by decide) (hts _ (rt_m rt_w235)) (fun _ h9 => h9) rfl d_Checker_checkElse_11 ?_
  refine va_get (D := D) (v := .ref (A 3)) (C := "RangeTeller$Program") (T := rt_T1) (N := 14) hx hb hts rt_i1 hown hK hP 1 rfl rfl 1 (by decide) (hts _ (rt_m rt_w126)) (fun _ h9 => h9) rfl d_Checker_checkElse_14 ?_
  refine lv_iload_n hx hb d_Checker_checkElse_17 rfl (lv_at hl 0 rfl) ?_
  obtain ⟨v3, h4, hm⟩ := rt_b1s hm
  refine rt_ald hx hb hK hP 3 0 rfl rfl h4 d_Checker_checkElse_18 ?_
  refine lv_istore_n hx hb d_Checker_checkElse_19 rfl hl (by decide) rfl (fun ls hl => ?_)
  have hl : lv_has ls 4 [(3, .int v3), (2, .int v1), (0, .ref (A 17)), (1, .int a1)] := hl
  refine lv_aload_n hx hb d_Checker_checkElse_20 rfl (lv_at hl 2 rfl) ?_
  refine lv_iload_n hx hb d_Checker_checkElse_21 rfl (lv_at hl 0 rfl) ?_
  obtain ⟨σ6, h5, hm⟩ := rt_b1s hm
  refine rt_cvv (As := [.int v3]) (rest := []) (k := 17) rtC_Xo ⟨hx, hb, hml, hown, hts⟩ (k_C_Checker_take l D cI cZ A hO σ v3 _ h5) (cw_Checker_take hts (hts _ (rt_m rt_w485)) ⟨Nat.le_of_ble_eq_true rfl, Nat.le_of_ble_eq_true rfl⟩) hK hP hS hX rfl rfl rfl hl.1 rfl (Nat.le_of_ble_eq_true rfl) d_Checker_checkElse_22 ⟨Nat.zero_le _, Nat.zero_le _⟩ (fun H locs hP hS => ?_)
  refine lv_aload_n hx hb d_Checker_checkElse_25 rfl (lv_at hl 2 rfl) ?_
  obtain ⟨σ8, h7, hm⟩ := rt_b1s hm
  refine rt_cvv (As := []) (rest := []) (k := 17) rtC_Xo ⟨hx, hb, hml, hown, hts⟩ (k_C_Checker_mustBeAtBase l D cI cZ A hO σ6 _ h7) (cw_Checker_mustBeAtBase hts (hts _ (rt_m rt_w501)) ⟨Nat.le_of_ble_eq_true rfl, Nat.le_of_ble_eq_true rfl⟩) hK hP hS hX rfl rfl rfl hl.1 rfl (Nat.le_of_ble_eq_true rfl) d_Checker_checkElse_26 ⟨Nat.zero_le _, Nat.zero_le _⟩ (fun H locs hP hS => ?_)
  refine lv_aload_n hx hb d_Checker_checkElse_29 rfl (lv_at hl 2 rfl) ?_
  refine va_get (D := D) (v := .ref (A 20)) (C := "RangeTeller$Checker") (T := rt_T3) (N := 7) hx hb hts rt_i3 hown hK hP 17 rfl rfl 3 (by decide) (hts _ (rt_m rt_w238)) (fun _ h9 => h9) rfl d_Checker_checkElse_30 ?_
  refine lv_aload_n hx hb d_Checker_checkElse_33 rfl (lv_at hl 2 rfl) ?_
  refine va_get (D := D) (v := .int (σ8 17 4)) (C := "RangeTeller$Checker") (T := rt_T3) (N := 7) hx hb hts rt_i3 hown hK hP 17 rfl rfl 4 (by decide) (hts _ (rt_m rt_w239)) (fun _ h9 => h9) rfl d_Checker_checkElse_34 ?_
  refine lv_iconst (v := 1) hx hb d_Checker_checkElse_37 (by decide) ?_
  obtain ⟨σ9, h10, hm⟩ := rt_b1s hm
  refine rt_zst hx hb hK hP hD hS 20 1 rfl (rtC_a20 cI cZ A _) rfl rfl h10 d_Checker_checkElse_38 (fun H locs hP hS => ?_)
  refine lv_aload_n hx hb d_Checker_checkElse_39 rfl (lv_at hl 2 rfl) ?_
  refine va_get (D := D) (v := .ref (A 1)) (C := "RangeTeller$Checker") (T := rt_T3) (N := 7) hx hb hts rt_i3 hown hK hP 17 rfl rfl 0 (by decide) (hts _ (rt_m rt_w235)) (fun _ h9 => h9) rfl d_Checker_checkElse_40 ?_
  refine lv_iload_n hx hb d_Checker_checkElse_43 rfl (lv_at hl 3 rfl) ?_
  refine lv_aload_n hx hb d_Checker_checkElse_44 rfl (lv_at hl 2 rfl) ?_
  refine va_get (D := D) (v := .ref (A 1)) (C := "RangeTeller$Checker") (T := rt_T3) (N := 7) hx hb hts rt_i3 hown hK hP 17 rfl rfl 0 (by decide) (hts _ (rt_m rt_w235)) (fun _ h9 => h9) rfl d_Checker_checkElse_45 ?_
  refine va_get (D := D) (v := .ref (A 5)) (C := "RangeTeller$Program") (T := rt_T1) (N := 14) hx hb hts rt_i1 hown hK hP 1 rfl rfl 3 (by decide) (hts _ (rt_m rt_w134)) (fun _ h9 => h9) rfl d_Checker_checkElse_48 ?_
  refine lv_iload_n hx hb d_Checker_checkElse_51 rfl (lv_at hl 1 rfl) ?_
  obtain ⟨v11, h12, hm⟩ := rt_b1s hm
  refine rt_ald hx hb hK hP 5 0 rfl rfl h12 d_Checker_checkElse_52 ?_
  refine lv_iconst (v := 1) hx hb d_Checker_checkElse_53 (by decide) ?_
  refine lv_iadd hx hb d_Checker_checkElse_54 ?_
  refine lv_aload_n hx hb d_Checker_checkElse_55 rfl (lv_at hl 2 rfl) ?_
  refine va_get (D := D) (v := .ref (A 19)) (C := "RangeTeller$Checker") (T := rt_T3) (N := 7) hx hb hts rt_i3 hown hK hP 17 rfl rfl 2 (by decide) (hts _ (rt_m rt_w237)) (fun _ h9 => h9) rfl d_Checker_checkElse_56 ?_
  refine lv_aload_n hx hb d_Checker_checkElse_59 rfl (lv_at hl 2 rfl) ?_
  refine va_get (D := D) (v := .int (σ9 17 4)) (C := "RangeTeller$Checker") (T := rt_T3) (N := 7) hx hb hts rt_i3 hown hK hP 17 rfl rfl 4 (by decide) (hts _ (rt_m rt_w239)) (fun _ h9 => h9) rfl d_Checker_checkElse_60 ?_
  obtain ⟨v13, h14, hm⟩ := rt_b1s hm
  refine rt_ald hx hb hK hP 19 0 rfl rfl h14 d_Checker_checkElse_63 ?_
  refine lv_iload_n hx hb d_Checker_checkElse_64 rfl (lv_at hl 0 rfl) ?_
  obtain ⟨σ16, h15, hm⟩ := rt_b1s hm
  refine rt_cvv (As := [.int a1, .int (v11 + 1), .int v13, .int v3]) (rest := []) (k := 1) rtC_Xo ⟨hx, hb, hml, hown, hts⟩ (k_C_Program_setJump l D cI cZ A hO σ9 a1 (v11 + 1) v13 v3 _ h15) (cw_Program_setJump hts (hts _ (rt_m rt_w493)) ⟨Nat.le_of_ble_eq_true rfl, Nat.le_of_ble_eq_true rfl⟩) hK hP hS hX rfl rfl rfl hl.1 rfl (Nat.le_of_ble_eq_true rfl) d_Checker_checkElse_65 ⟨Nat.zero_le _, Nat.zero_le _⟩ (fun H locs hP hS => ?_)
  exact W.vret hx hb hr (fun t ht hW => ⟨⟨_, rfl, Option.some.inj hm, rt_end rtC_Xo hK hP hS hX ht hW⟩, hS.F ht⟩) hS.2.2 d_Checker_checkElse_68
set_option maxHeartbeats 4000000 in
set_option maxRecDepth 100000 in
theorem k_C_Checker_open (l : Launch) (D : va_G) (cI cZ : ClassId) (A : Nat → Nat) (hO : rt_Ok (rtC_W cI cZ A)) (σ : rt_St) (a1 : Int32) (σ' : rt_St) (hm : M_C_Checker_open σ a1 = some σ') (sz : Nat) : Met l y_Checker_open (rt_ws y_Checker_open b_Checker_open 2 none) ({ frames := 0, cells := 0, slots := 0, locals := 0 } : Room) (va_Pc [.ref (A 17), .int a1] (rt_P D rt_cl (rt_t cI cZ) rtC_X (rtC_W cI cZ A) sz σ)) (va_Qv (fun u1 => u1 = σ') (rt_B D rt_cl (rt_t cI cZ) rtC_X (rtC_W cI cZ A)) (rt_A (rtC_W cI cZ A) sz)) 0 0 (rt_A (rtC_W cI cZ A) sz) := by
  refine Met.ofW (cc := b_Checker_open) (maxL := 2) (ret := none) (by decide) rfl ?_
  intro p e s m args below meth c s₁ B hml hv
  obtain ⟨rfl, rfl, hP, hK, hX⟩ := hv
  have hx := B.exec
  have hb := B.bytes
  have hr := B.returns
  have hts := atoms_spec (ws := (rt_ws y_Checker_open b_Checker_open 2 none)) B.pre
  have hown : s.vm.findClass "RangeTeller$Checker" = some m.cls := findClass_of_methodNamed B.named
  have hlocks := B.notSynchronized
  have hD := rt_hD hO s.heap.size
  have hS : va_S (rt_A (rtC_W cI cZ A) s.heap.size) s.heap s.heap [] := va_S.rf
  have hl := lv_entry ([.ref (A 17), .int a1]) (n := 2) (Nat.le_of_ble_eq_true rfl)
  rw [lg_entry_eq]
  generalize (lg_sl ([.ref (A 17), .int a1]) ++ List.replicate (2 - (lg_sl ([.ref (A 17), .int a1])).length) Slot.unset).toArray = ls at hl ⊢
  have hl : lv_has ls 2 [(0, .ref (A 17)), (1, .int a1)] := hl
  show W p l e ({ frames := 0, cells := 0, slots := 0, locals := 0 } : Room) s m ([.ref (A 17), .int a1] : List Value).toArray below meth c s.heap [] 0 0 (rt_Qv D rt_cl (rt_t cI cZ) rtC_X (rtC_W cI cZ A) below ([.ref (A 17), .int a1] : List Value).toArray s σ') (F0 m 0 ls [])
  unfold M_C_Checker_open at hm
  refine lv_aload_n hx hb d_Checker_open_0 rfl (lv_at hl 0 rfl) ?_
  refine lv_dup hx hb d_Checker_open_1 rfl ?_
  refine va_get (D := D) (v := .int (σ 17 4)) (C := "RangeTeller$Checker") (T := rt_T3) (N := 7) hx hb hts rt_i3 hown hK hP 17 rfl rfl 4 (by decide) (hts _ (rt_m rt_w239)) (fun _ h9 => h9) rfl d_Checker_open_2 ?_
  refine lv_iconst (v := 1) hx hb d_Checker_open_5 (by decide) ?_
  refine lv_iadd hx hb d_Checker_open_6 ?_
  obtain ⟨σ1, h2, hm⟩ := rt_b1s hm
  refine rt_pf (D := D) (C := "RangeTeller$Checker") (T := rt_T3) (N := 7) (ty := .int) hx hb hts rt_i3 rt_y3 rt_o3 rt_n3 hown hK hP hD hS 17 rfl rfl 4 (by decide) (hts _ (rt_m rt_w239)) (fun _ h9 => h9) rfl (by decide +kernel) rfl rfl (Nat.le_of_ble_eq_true rfl) (rtC_s17_4 cI cZ A _ _) h2 d_Checker_open_7 (fun H locs hP hS => ?_)
  refine lv_aload_n hx hb d_Checker_open_10 rfl (lv_at hl 0 rfl) ?_
  refine va_get (D := D) (v := .ref (A 18)) (C := "RangeTeller$Checker") (T := rt_T3) (N := 7) hx hb hts rt_i3 hown hK hP 17 rfl rfl 1 (by decide) (hts _ (rt_m rt_w236)) (fun _ h9 => h9) rfl d_Checker_open_11 ?_
  refine lv_aload_n hx hb d_Checker_open_14 rfl (lv_at hl 0 rfl) ?_
  refine va_get (D := D) (v := .int (σ1 17 4)) (C := "RangeTeller$Checker") (T := rt_T3) (N := 7) hx hb hts rt_i3 hown hK hP 17 rfl rfl 4 (by decide) (hts _ (rt_m rt_w239)) (fun _ h9 => h9) rfl d_Checker_open_15 ?_
  refine lv_iload_n hx hb d_Checker_open_18 rfl (lv_at hl 1 rfl) ?_
  obtain ⟨σ3, h4, hm⟩ := rt_b1s hm
  refine rt_ast hx hb hK hP hD hS 18 0 rfl (rtC_a18 cI cZ A _) rfl h4 d_Checker_open_19 (fun H locs hP hS => ?_)
  refine lv_aload_n hx hb d_Checker_open_20 rfl (lv_at hl 0 rfl) ?_
  refine va_get (D := D) (v := .ref (A 19)) (C := "RangeTeller$Checker") (T := rt_T3) (N := 7) hx hb hts rt_i3 hown hK hP 17 rfl rfl 2 (by decide) (hts _ (rt_m rt_w237)) (fun _ h9 => h9) rfl d_Checker_open_21 ?_
  refine lv_aload_n hx hb d_Checker_open_24 rfl (lv_at hl 0 rfl) ?_
  refine va_get (D := D) (v := .int (σ3 17 4)) (C := "RangeTeller$Checker") (T := rt_T3) (N := 7) hx hb hts rt_i3 hown hK hP 17 rfl rfl 4 (by decide) (hts _ (rt_m rt_w239)) (fun _ h9 => h9) rfl d_Checker_open_25 ?_
  refine lv_aload_n hx hb d_Checker_open_28 rfl (lv_at hl 0 rfl) ?_
  refine va_get (D := D) (v := .int (σ3 17 5)) (C := "RangeTeller$Checker") (T := rt_T3) (N := 7) hx hb hts rt_i3 hown hK hP 17 rfl rfl 5 (by decide) (hts _ (rt_m rt_w240)) (fun _ h9 => h9) rfl d_Checker_open_29 ?_
  obtain ⟨σ5, h6, hm⟩ := rt_b1s hm
  refine rt_ast hx hb hK hP hD hS 19 0 rfl (rtC_a19 cI cZ A _) rfl h6 d_Checker_open_32 (fun H locs hP hS => ?_)
  refine lv_aload_n hx hb d_Checker_open_33 rfl (lv_at hl 0 rfl) ?_
  refine va_get (D := D) (v := .ref (A 20)) (C := "RangeTeller$Checker") (T := rt_T3) (N := 7) hx hb hts rt_i3 hown hK hP 17 rfl rfl 3 (by decide) (hts _ (rt_m rt_w238)) (fun _ h9 => h9) rfl d_Checker_open_34 ?_
  refine lv_aload_n hx hb d_Checker_open_37 rfl (lv_at hl 0 rfl) ?_
  refine va_get (D := D) (v := .int (σ5 17 4)) (C := "RangeTeller$Checker") (T := rt_T3) (N := 7) hx hb hts rt_i3 hown hK hP 17 rfl rfl 4 (by decide) (hts _ (rt_m rt_w239)) (fun _ h9 => h9) rfl d_Checker_open_38 ?_
  refine lv_iconst (v := 1) hx hb d_Checker_open_41 (by decide) ?_
  obtain ⟨σ7, h8, hm⟩ := rt_b1s hm
  refine rt_zst hx hb hK hP hD hS 20 1 rfl (rtC_a20 cI cZ A _) rfl rfl h8 d_Checker_open_42 (fun H locs hP hS => ?_)
  exact W.vret hx hb hr (fun t ht hW => ⟨⟨_, rfl, Option.some.inj hm, rt_end rtC_Xo hK hP hS hX ht hW⟩, hS.F ht⟩) hS.2.2 d_Checker_open_43
set_option maxHeartbeats 4000000 in
set_option maxRecDepth 100000 in
theorem k_C_Program_otherwise (l : Launch) (D : va_G) (cI cZ : ClassId) (A : Nat → Nat) (hO : rt_Ok (rtC_W cI cZ A)) (σ : rt_St) (a1 : Int32) (r' : Int32) (σ' : rt_St) (hm : M_C_Program_otherwise σ a1 = some (r', σ')) (sz : Nat) : Met l y_Program_otherwise (rt_ws y_Program_otherwise b_Program_otherwise 2 (some .int)) ({ frames := 0, cells := 0, slots := 0, locals := 0 } : Room) (va_Pc [.ref (A 1), .int a1] (rt_P D rt_cl (rt_t cI cZ) rtC_X (rtC_W cI cZ A) sz σ)) (va_Qi (fun r1 u1 => r1 = r' ∧ u1 = σ') (rt_B D rt_cl (rt_t cI cZ) rtC_X (rtC_W cI cZ A)) (rt_A (rtC_W cI cZ A) sz)) 0 0 (rt_A (rtC_W cI cZ A) sz) := by
  refine Met.ofW (cc := b_Program_otherwise) (maxL := 2) (ret := (some .int)) (by decide) rfl ?_
  intro p e s m args below meth c s₁ B hml hv
  obtain ⟨rfl, rfl, hP, hK, hX⟩ := hv
  have hx := B.exec
  have hb := B.bytes
  have hr := B.returns
  have hts := atoms_spec (ws := (rt_ws y_Program_otherwise b_Program_otherwise 2 (some .int))) B.pre
  have hown : s.vm.findClass "RangeTeller$Program" = some m.cls := findClass_of_methodNamed B.named
  have hlocks := B.notSynchronized
  have hD := rt_hD hO s.heap.size
  have hS : va_S (rt_A (rtC_W cI cZ A) s.heap.size) s.heap s.heap [] := va_S.rf
  have hl := lv_entry ([.ref (A 1), .int a1]) (n := 2) (Nat.le_of_ble_eq_true rfl)
  rw [lg_entry_eq]
  generalize (lg_sl ([.ref (A 1), .int a1]) ++ List.replicate (2 - (lg_sl ([.ref (A 1), .int a1])).length) Slot.unset).toArray = ls at hl ⊢
  have hl : lv_has ls 2 [(0, .ref (A 1)), (1, .int a1)] := hl
  show W p l e ({ frames := 0, cells := 0, slots := 0, locals := 0 } : Room) s m ([.ref (A 1), .int a1] : List Value).toArray below meth c s.heap [] 0 0 (rt_Qi D rt_cl (rt_t cI cZ) rtC_X (rtC_W cI cZ A) below ([.ref (A 1), .int a1] : List Value).toArray s r' σ') (F0 m 0 ls [])
  unfold M_C_Program_otherwise at hm
  refine lv_aload_n hx hb d_Program_otherwise_0 rfl (lv_at hl 0 rfl) ?_
  refine va_get (D := D) (v := .ref (A 6)) (C := "RangeTeller$Program") (T := rt_T1) (N := 14) hx hb hts rt_i1 hown hK hP 1 rfl rfl 4 (by decide) (hts _ (rt_m rt_w136)) (fun _ h9 => h9) rfl d_Program_otherwise_1 ?_
  refine lv_iload_n hx hb d_Program_otherwise_4 rfl (lv_at hl 1 rfl) ?_
  obtain ⟨v1, h2, hm⟩ := rt_b1s hm
  refine rt_ald hx hb hK hP 6 0 rfl rfl h2 d_Program_otherwise_5 ?_
  refine lv_bipush (v := (-3)) hx hb d_Program_otherwise_6 (by decide) ?_
  refine lv_icmp_ne (tgt := 20) hx hb d_Program_otherwise_8 (by decide) (fun hc => ?_) (fun hc => ?_)
  · have hm := (if_neg hc).symm.trans hm
    refine lv_aload_n hx hb d_Program_otherwise_20 rfl (lv_at hl 0 rfl) ?_
    refine va_get (D := D) (v := .ref (A 6)) (C := "RangeTeller$Program") (T := rt_T1) (N := 14) hx hb hts rt_i1 hown hK hP 1 rfl rfl 4 (by decide) (hts _ (rt_m rt_w136)) (fun _ h9 => h9) rfl d_Program_otherwise_21 ?_
    refine lv_iload_n hx hb d_Program_otherwise_24 rfl (lv_at hl 1 rfl) ?_
    obtain ⟨v3, h4, hm⟩ := rt_b1s hm
    refine rt_ald hx hb hK hP 6 0 rfl rfl h4 d_Program_otherwise_25 ?_
    refine lv_iconst (v := 1) hx hb d_Program_otherwise_26 (by decide) ?_
    refine lv_iadd hx hb d_Program_otherwise_27 ?_
    exact W.iret hx hb hr (fun t ht hW => ⟨⟨_, _, rfl, rt_pr hm, rt_end rtC_Xo hK hP hS hX ht hW⟩, hS.F ht⟩) hS.2.2 d_Program_otherwise_28
  · have hm := (if_pos hc).symm.trans hm
    refine lv_aload_n hx hb d_Program_otherwise_11 rfl (lv_at hl 0 rfl) ?_
    refine va_get (D := D) (v := .ref (A 5)) (C := "RangeTeller$Program") (T := rt_T1) (N := 14) hx hb hts rt_i1 hown hK hP 1 rfl rfl 3 (by decide) (hts _ (rt_m rt_w133)) (fun _ h9 => h9) rfl d_Program_otherwise_12 ?_
    refine lv_iload_n hx hb d_Program_otherwise_15 rfl (lv_at hl 1 rfl) ?_
    obtain ⟨v5, h6, hm⟩ := rt_b1s hm
    refine rt_ald hx hb hK hP 5 0 rfl rfl h6 d_Program_otherwise_16 ?_
    refine lv_goto (tgt := 26) hx hb d_Program_otherwise_17 (by decide) ?_
    refine lv_iconst (v := 1) hx hb d_Program_otherwise_26 (by decide) ?_
    refine lv_iadd hx hb d_Program_otherwise_27 ?_
    exact W.iret hx hb hr (fun t ht hW => ⟨⟨_, _, rfl, rt_pr hm, rt_end rtC_Xo hK hP hS hX ht hW⟩, hS.F ht⟩) hS.2.2 d_Program_otherwise_28
set_option maxHeartbeats 4000000 in
set_option maxRecDepth 100000 in
theorem k_C_Checker_checkInstruction (l : Launch) (D : va_G) (cI cZ : ClassId) (A : Nat → Nat) (hO : rt_Ok (rtC_W cI cZ A)) (σ : rt_St) (a1 : Int32) (σ' : rt_St) (hm : M_C_Checker_checkInstruction σ a1 = some σ') (sz : Nat) : Met l y_Checker_checkInstruction (rt_ws y_Checker_checkInstruction b_Checker_checkInstruction 4 none) ({ frames := 3, cells := 0, slots := 0, locals := 62 } : Room) (va_Pc [.ref (A 17), .int a1] (rt_P D rt_cl (rt_t cI cZ) rtC_X (rtC_W cI cZ A) sz σ)) (va_Qv (fun u1 => u1 = σ') (rt_B D rt_cl (rt_t cI cZ) rtC_X (rtC_W cI cZ A)) (rt_A (rtC_W cI cZ A) sz)) 0 0 (rt_A (rtC_W cI cZ A) sz) := by
  refine Met.ofW (cc := b_Checker_checkInstruction) (maxL := 4) (ret := none) (by decide) rfl ?_
  intro p e s m args below meth c s₁ B hml hv
  obtain ⟨rfl, rfl, hP, hK, hX⟩ := hv
  have hx := B.exec
  have hb := B.bytes
  have hr := B.returns
  have hts := atoms_spec (ws := (rt_ws y_Checker_checkInstruction b_Checker_checkInstruction 4 none)) B.pre
  have hown : s.vm.findClass "RangeTeller$Checker" = some m.cls := findClass_of_methodNamed B.named
  have hlocks := B.notSynchronized
  have hD := rt_hD hO s.heap.size
  have hS : va_S (rt_A (rtC_W cI cZ A) s.heap.size) s.heap s.heap [] := va_S.rf
  have hl := lv_entry ([.ref (A 17), .int a1]) (n := 4) (Nat.le_of_ble_eq_true rfl)
  rw [lg_entry_eq]
  generalize (lg_sl ([.ref (A 17), .int a1]) ++ List.replicate (4 - (lg_sl ([.ref (A 17), .int a1])).length) Slot.unset).toArray = ls at hl ⊢
  have hl : lv_has ls 4 [(0, .ref (A 17)), (1, .int a1)] := hl
  show W p l e ({ frames := 3, cells := 0, slots := 0, locals := 62 } : Room) s m ([.ref (A 17), .int a1] : List Value).toArray below meth c s.heap [] 0 0 (rt_Qv D rt_cl (rt_t cI cZ) rtC_X (rtC_W cI cZ A) below ([.ref (A 17), .int a1] : List Value).toArray s σ') (F0 m 0 ls [])
  unfold M_C_Checker_checkInstruction at hm
  refine lv_aload_n hx hb d_Checker_checkInstruction_0 rfl (lv_at hl 0 rfl) ?_
  refine va_get (D := D) (v := .ref (A 1)) (C := "RangeTeller$Checker") (T := rt_T3) (N := 7) hx hb hts rt_i3 hown hK hP 17 rfl rfl 0 (by decide) (hts _ (rt_m rt_w235)) (fun _ h9 => h9) rfl d_Checker_checkInstruction_1 ?_
  refine va_get (D := D) (v := .ref (A 2)) (C := "RangeTeller$Program") (T := rt_T1) (N := 14) hx hb hts rt_i1 hown hK hP 1 rfl rfl 0 (by decide) (hts _ (rt_m rt_w120)) (fun _ h9 => h9) rfl d_Checker_checkInstruction_4 ?_
  refine lv_iload_n hx hb d_Checker_checkInstruction_7 rfl (lv_at hl 1 rfl) ?_
  obtain ⟨v1, h2, hm⟩ := rt_b1s hm
  refine rt_ald hx hb hK hP 2 0 rfl rfl h2 d_Checker_checkInstruction_8 ?_
  refine lv_istore_n hx hb d_Checker_checkInstruction_9 rfl hl (by decide) rfl (fun ls hl => ?_)
  have hl : lv_has ls 4 [(2, .int v1), (0, .ref (A 17)), (1, .int a1)] := hl
  refine lv_aload_n hx hb d_Checker_checkInstruction_10 rfl (lv_at hl 1 rfl) ?_
  refine va_get (D := D) (v := .ref (A 1)) (C := "RangeTeller$Checker") (T := rt_T3) (N := 7) hx hb hts rt_i3 hown hK hP 17 rfl rfl 0 (by decide) (hts _ (rt_m rt_w235)) (fun _ h9 => h9) rfl d_Checker_checkInstruction_11 ?_
  refine va_get (D := D) (v := .ref (A 13)) (C := "RangeTeller$Program") (T := rt_T1) (N := 14) hx hb hts rt_i1 hown hK hP 1 rfl rfl 11 (by decide) (hts _ (rt_m rt_w161)) (fun _ h9 => h9) rfl d_Checker_checkInstruction_14 ?_
  refine lv_aload_n hx hb d_Checker_checkInstruction_17 rfl (lv_at hl 1 rfl) ?_
  refine va_get (D := D) (v := .ref (A 1)) (C := "RangeTeller$Checker") (T := rt_T3) (N := 7) hx hb hts rt_i3 hown hK hP 17 rfl rfl 0 (by decide) (hts _ (rt_m rt_w235)) (fun _ h9 => h9) rfl d_Checker_checkInstruction_18 ?_
  refine va_get (D := D) (v := .ref (A 4)) (C := "RangeTeller$Program") (T := rt_T1) (N := 14) hx hb hts rt_i1 hown hK hP 1 rfl rfl 2 (by decide) (hts _ (rt_m rt_w131)) (fun _ h9 => h9) rfl d_Checker_checkInstruction_21 ?_
  refine lv_iload_n hx hb d_Checker_checkInstruction_24 rfl (lv_at hl 2 rfl) ?_
  obtain ⟨v3, h4, hm⟩ := rt_b1s hm
  refine rt_ald hx hb hK hP 4 0 rfl rfl h4 d_Checker_checkInstruction_25 ?_
  obtain ⟨v5, h6, hm⟩ := rt_b1s hm
  refine rt_ald hx hb hK hP 13 0 rfl rfl h6 d_Checker_checkInstruction_26 ?_
  refine lv_istore_n hx hb d_Checker_checkInstruction_27 rfl hl (by decide) rfl (fun ls hl => ?_)
  have hl : lv_has ls 4 [(3, .int v5), (2, .int v1), (0, .ref (A 17)), (1, .int a1)] := hl
  refine lv_iload_n hx hb d_Checker_checkInstruction_28 rfl (lv_at hl 1 rfl) ?_
  by_cases c7 : v1 = 0
  · have hm := (if_pos c7).symm.trans hm
    refine lv_tableIn (off := 55) (tgt := 84) hx hb d_Checker_checkInstruction_29 (by rw [c7]; decide) (by rw [c7]; decide) (by rw [c7]; rfl) (by decide) ?_
    refine lv_aload_n hx hb d_Checker_checkInstruction_84 rfl (lv_at hl 2 rfl) ?_
    obtain ⟨σ9, h8, hm⟩ := rt_b1s hm
    refine rt_cvv (As := []) (rest := []) (k := 17) rtC_Xo ⟨hx, hb, hml, hown, hts⟩ (k_C_Checker_deaden l D cI cZ A hO σ _ h8) (cw_Checker_deaden hts (hts _ (rt_m rt_w481)) ⟨Nat.le_of_ble_eq_true rfl, Nat.le_of_ble_eq_true rfl⟩) hK hP hS hX rfl rfl rfl hl.1 rfl (Nat.le_of_ble_eq_true rfl) d_Checker_checkInstruction_85 ⟨Nat.zero_le _, Nat.zero_le _⟩ (fun H locs hP hS => ?_)
    refine lv_goto (tgt := 222) hx hb d_Checker_checkInstruction_88 (by decide) ?_
    exact W.vret hx hb hr (fun t ht hW => ⟨⟨_, rfl, Option.some.inj hm, rt_end rtC_Xo hK hP hS hX ht hW⟩, hS.F ht⟩) hS.2.2 d_Checker_checkInstruction_222
  have hm := (if_neg c7).symm.trans hm
  by_cases c10 : v1 = 1
  · have hm := (if_pos c10).symm.trans hm
    refine lv_tableIn (off := 62) (tgt := 91) hx hb d_Checker_checkInstruction_29 (by rw [c10]; decide) (by rw [c10]; decide) (by rw [c10]; rfl) (by decide) ?_
    refine lv_aload_n hx hb d_Checker_checkInstruction_91 rfl (lv_at hl 2 rfl) ?_
    refine lv_iload_n hx hb d_Checker_checkInstruction_92 rfl (lv_at hl 3 rfl) ?_
    obtain ⟨σ12, h11, hm⟩ := rt_b1s hm
    refine rt_cvv (As := [.int a1]) (rest := []) (k := 17) rtC_Xo ⟨hx, hb, hml, hown, hts⟩ (k_C_Checker_open l D cI cZ A hO σ a1 _ h11) (cw_Checker_open hts (hts _ (rt_m rt_w473)) ⟨Nat.le_of_ble_eq_true rfl, Nat.le_of_ble_eq_true rfl⟩) hK hP hS hX rfl rfl rfl hl.1 rfl (Nat.le_of_ble_eq_true rfl) d_Checker_checkInstruction_93 ⟨Nat.zero_le _, Nat.zero_le _⟩ (fun H locs hP hS => ?_)
    refine lv_goto (tgt := 222) hx hb d_Checker_checkInstruction_96 (by decide) ?_
    exact W.vret hx hb hr (fun t ht hW => ⟨⟨_, rfl, Option.some.inj hm, rt_end rtC_Xo hK hP hS hX ht hW⟩, hS.F ht⟩) hS.2.2 d_Checker_checkInstruction_222
  have hm := (if_neg c10).symm.trans hm
  by_cases c13 : v1 = 2
  · have hm := (if_pos c13).symm.trans hm
    refine lv_tableIn (off := 62) (tgt := 91) hx hb d_Checker_checkInstruction_29 (by rw [c13]; decide) (by rw [c13]; decide) (by rw [c13]; rfl) (by decide) ?_
    refine lv_aload_n hx hb d_Checker_checkInstruction_91 rfl (lv_at hl 2 rfl) ?_
    refine lv_iload_n hx hb d_Checker_checkInstruction_92 rfl (lv_at hl 3 rfl) ?_
    obtain ⟨σ15, h14, hm⟩ := rt_b1s hm
    refine rt_cvv (As := [.int a1]) (rest := []) (k := 17) rtC_Xo ⟨hx, hb, hml, hown, hts⟩ (k_C_Checker_open l D cI cZ A hO σ a1 _ h14) (cw_Checker_open hts (hts _ (rt_m rt_w473)) ⟨Nat.le_of_ble_eq_true rfl, Nat.le_of_ble_eq_true rfl⟩) hK hP hS hX rfl rfl rfl hl.1 rfl (Nat.le_of_ble_eq_true rfl) d_Checker_checkInstruction_93 ⟨Nat.zero_le _, Nat.zero_le _⟩ (fun H locs hP hS => ?_)
    refine lv_goto (tgt := 222) hx hb d_Checker_checkInstruction_96 (by decide) ?_
    exact W.vret hx hb hr (fun t ht hW => ⟨⟨_, rfl, Option.some.inj hm, rt_end rtC_Xo hK hP hS hX ht hW⟩, hS.F ht⟩) hS.2.2 d_Checker_checkInstruction_222
  have hm := (if_neg c13).symm.trans hm
  by_cases c16 : v1 = 3
  · have hm := (if_pos c16).symm.trans hm
    refine lv_tableIn (off := 70) (tgt := 99) hx hb d_Checker_checkInstruction_29 (by rw [c16]; decide) (by rw [c16]; decide) (by rw [c16]; rfl) (by decide) ?_
    refine lv_aload_n hx hb d_Checker_checkInstruction_99 rfl (lv_at hl 2 rfl) ?_
    refine lv_iconst (v := 1) hx hb d_Checker_checkInstruction_100 (by decide) ?_
    obtain ⟨σ18, h17, hm⟩ := rt_b1s hm
    refine rt_cvv (As := [.int 1]) (rest := []) (k := 17) rtC_Xo ⟨hx, hb, hml, hown, hts⟩ (k_C_Checker_take l D cI cZ A hO σ 1 _ h17) (cw_Checker_take hts (hts _ (rt_m rt_w485)) ⟨Nat.le_of_ble_eq_true rfl, Nat.le_of_ble_eq_true rfl⟩) hK hP hS hX rfl rfl rfl hl.1 rfl (Nat.le_of_ble_eq_true rfl) d_Checker_checkInstruction_101 ⟨Nat.zero_le _, Nat.zero_le _⟩ (fun H locs hP hS => ?_)
    refine lv_aload_n hx hb d_Checker_checkInstruction_104 rfl (lv_at hl 2 rfl) ?_
    refine lv_iload_n hx hb d_Checker_checkInstruction_105 rfl (lv_at hl 3 rfl) ?_
    obtain ⟨σ20, h19, hm⟩ := rt_b1s hm
    refine rt_cvv (As := [.int a1]) (rest := []) (k := 17) rtC_Xo ⟨hx, hb, hml, hown, hts⟩ (k_C_Checker_open l D cI cZ A hO σ18 a1 _ h19) (cw_Checker_open hts (hts _ (rt_m rt_w473)) ⟨Nat.le_of_ble_eq_true rfl, Nat.le_of_ble_eq_true rfl⟩) hK hP hS hX rfl rfl rfl hl.1 rfl (Nat.le_of_ble_eq_true rfl) d_Checker_checkInstruction_106 ⟨Nat.zero_le _, Nat.zero_le _⟩ (fun H locs hP hS => ?_)
    refine lv_aload_n hx hb d_Checker_checkInstruction_109 rfl (lv_at hl 2 rfl) ?_
    refine va_get (D := D) (v := .ref (A 1)) (C := "RangeTeller$Checker") (T := rt_T3) (N := 7) hx hb hts rt_i3 hown hK hP 17 rfl rfl 0 (by decide) (hts _ (rt_m rt_w235)) (fun _ h9 => h9) rfl d_Checker_checkInstruction_110 ?_
    refine lv_iload_n hx hb d_Checker_checkInstruction_113 rfl (lv_at hl 3 rfl) ?_
    refine lv_aload_n hx hb d_Checker_checkInstruction_114 rfl (lv_at hl 2 rfl) ?_
    refine va_get (D := D) (v := .ref (A 1)) (C := "RangeTeller$Checker") (T := rt_T3) (N := 7) hx hb hts rt_i3 hown hK hP 17 rfl rfl 0 (by decide) (hts _ (rt_m rt_w235)) (fun _ h9 => h9) rfl d_Checker_checkInstruction_115 ?_
    refine lv_iload_n hx hb d_Checker_checkInstruction_118 rfl (lv_at hl 3 rfl) ?_
    obtain ⟨v23, σ22, h21, hm⟩ := rt_b2s hm
    refine rt_cvi (As := [.int a1]) (rest := [.int a1, .ref (A 1)]) (k := 1) rtC_Xo ⟨hx, hb, hml, hown, hts⟩ (k_C_Program_otherwise l D cI cZ A hO σ20 a1 _ _ h21) (cw_Program_otherwise hts (hts _ (rt_m rt_w489)) ⟨Nat.le_of_ble_eq_true rfl, Nat.le_of_ble_eq_true rfl⟩) hK hP hS hX rfl rfl rfl hl.1 rfl (Nat.le_of_ble_eq_true rfl) d_Checker_checkInstruction_119 ⟨Nat.zero_le _, Nat.zero_le _⟩ (fun H locs hP hS => ?_)
    refine lv_aload_n hx hb d_Checker_checkInstruction_122 rfl (lv_at hl 2 rfl) ?_
    refine va_get (D := D) (v := .int (σ22 17 5)) (C := "RangeTeller$Checker") (T := rt_T3) (N := 7) hx hb hts rt_i3 hown hK hP 17 rfl rfl 5 (by decide) (hts _ (rt_m rt_w240)) (fun _ h9 => h9) rfl d_Checker_checkInstruction_123 ?_
    refine lv_iconst (v := 0) hx hb d_Checker_checkInstruction_126 (by decide) ?_
    obtain ⟨σ25, h24, hm⟩ := rt_b1s hm
    refine rt_cvv (As := [.int a1, .int v23, .int (σ22 17 5), .int 0]) (rest := []) (k := 1) rtC_Xo ⟨hx, hb, hml, hown, hts⟩ (k_C_Program_setJump l D cI cZ A hO σ22 a1 v23 (σ22 17 5) 0 _ h24) (cw_Program_setJump hts (hts _ (rt_m rt_w493)) ⟨Nat.le_of_ble_eq_true rfl, Nat.le_of_ble_eq_true rfl⟩) hK hP hS hX rfl rfl rfl hl.1 rfl (Nat.le_of_ble_eq_true rfl) d_Checker_checkInstruction_127 ⟨Nat.zero_le _, Nat.zero_le _⟩ (fun H locs hP hS => ?_)
    refine lv_goto (tgt := 222) hx hb d_Checker_checkInstruction_130 (by decide) ?_
    exact W.vret hx hb hr (fun t ht hW => ⟨⟨_, rfl, Option.some.inj hm, rt_end rtC_Xo hK hP hS hX ht hW⟩, hS.F ht⟩) hS.2.2 d_Checker_checkInstruction_222
  have hm := (if_neg c16).symm.trans hm
  by_cases c26 : v1 = 4
  · have hm := (if_pos c26).symm.trans hm
    refine lv_tableIn (off := 104) (tgt := 133) hx hb d_Checker_checkInstruction_29 (by rw [c26]; decide) (by rw [c26]; decide) (by rw [c26]; rfl) (by decide) ?_
    refine lv_aload_n hx hb d_Checker_checkInstruction_133 rfl (lv_at hl 2 rfl) ?_
    refine lv_iload_n hx hb d_Checker_checkInstruction_134 rfl (lv_at hl 3 rfl) ?_
    obtain ⟨σ28, h27, hm⟩ := rt_b1s hm
    refine rt_cvv (As := [.int a1]) (rest := []) (k := 17) rtC_Xo ⟨hx, hb, hml, hown, hts⟩ (k_C_Checker_checkElse l D cI cZ A hO σ a1 _ h27) (cw_Checker_checkElse hts (hts _ (rt_m rt_w497)) ⟨Nat.le_of_ble_eq_true rfl, Nat.le_of_ble_eq_true rfl⟩) hK hP hS hX rfl rfl rfl hl.1 rfl (Nat.le_of_ble_eq_true rfl) d_Checker_checkInstruction_135 ⟨Nat.zero_le _, Nat.zero_le _⟩ (fun H locs hP hS => ?_)
    refine lv_goto (tgt := 222) hx hb d_Checker_checkInstruction_138 (by decide) ?_
    exact W.vret hx hb hr (fun t ht hW => ⟨⟨_, rfl, Option.some.inj hm, rt_end rtC_Xo hK hP hS hX ht hW⟩, hS.F ht⟩) hS.2.2 d_Checker_checkInstruction_222
  have hm := (if_neg c26).symm.trans hm
  by_cases c29 : v1 = 5
  · have hm := (if_pos c29).symm.trans hm
    refine lv_tableIn (off := 112) (tgt := 141) hx hb d_Checker_checkInstruction_29 (by rw [c29]; decide) (by rw [c29]; decide) (by rw [c29]; rfl) (by decide) ?_
    refine lv_aload_n hx hb d_Checker_checkInstruction_141 rfl (lv_at hl 2 rfl) ?_
    refine lv_iload_n hx hb d_Checker_checkInstruction_142 rfl (lv_at hl 3 rfl) ?_
    refine lv_iload_n hx hb d_Checker_checkInstruction_143 rfl (lv_at hl 0 rfl) ?_
    obtain ⟨σ31, h30, hm⟩ := rt_b1s hm
    refine rt_cvv (As := [.int a1, .int v5]) (rest := []) (k := 17) rtC_Xo ⟨hx, hb, hml, hown, hts⟩ (k_C_Checker_checkEnd l D cI cZ A hO σ a1 v5 _ h30) (cw_Checker_checkEnd hts (hts _ (rt_m rt_w505)) ⟨Nat.le_of_ble_eq_true rfl, Nat.le_of_ble_eq_true rfl⟩) hK hP hS hX rfl rfl rfl hl.1 rfl (Nat.le_of_ble_eq_true rfl) d_Checker_checkInstruction_144 ⟨Nat.zero_le _, Nat.zero_le _⟩ (fun H locs hP hS => ?_)
    refine lv_goto (tgt := 222) hx hb d_Checker_checkInstruction_147 (by decide) ?_
    exact W.vret hx hb hr (fun t ht hW => ⟨⟨_, rfl, Option.some.inj hm, rt_end rtC_Xo hK hP hS hX ht hW⟩, hS.F ht⟩) hS.2.2 d_Checker_checkInstruction_222
  have hm := (if_neg c29).symm.trans hm
  by_cases c32 : v1 = 6
  · have hm := (if_pos c32).symm.trans hm
    refine lv_tableIn (off := 121) (tgt := 150) hx hb d_Checker_checkInstruction_29 (by rw [c32]; decide) (by rw [c32]; decide) (by rw [c32]; rfl) (by decide) ?_
    refine lv_aload_n hx hb d_Checker_checkInstruction_150 rfl (lv_at hl 2 rfl) ?_
    refine lv_iload_n hx hb d_Checker_checkInstruction_151 rfl (lv_at hl 3 rfl) ?_
    refine lv_iload_n hx hb d_Checker_checkInstruction_152 rfl (lv_at hl 0 rfl) ?_
    obtain ⟨σ34, h33, hm⟩ := rt_b1s hm
    refine rt_cvv (As := [.int a1, .int v5]) (rest := []) (k := 17) rtC_Xo ⟨hx, hb, hml, hown, hts⟩ (k_C_Checker_checkBranch l D cI cZ A hO σ a1 v5 _ h33) (cw_Checker_checkBranch hts (hts _ (rt_m rt_w513)) ⟨Nat.le_of_ble_eq_true rfl, Nat.le_of_ble_eq_true rfl⟩) hK hP hS hX rfl rfl rfl hl.1 rfl (Nat.le_of_ble_eq_true rfl) d_Checker_checkInstruction_153 ⟨Nat.zero_le _, Nat.zero_le _⟩ (fun H locs hP hS => ?_)
    refine lv_aload_n hx hb d_Checker_checkInstruction_156 rfl (lv_at hl 2 rfl) ?_
    obtain ⟨σ36, h35, hm⟩ := rt_b1s hm
    refine rt_cvv (As := []) (rest := []) (k := 17) rtC_Xo ⟨hx, hb, hml, hown, hts⟩ (k_C_Checker_deaden l D cI cZ A hO σ34 _ h35) (cw_Checker_deaden hts (hts _ (rt_m rt_w481)) ⟨Nat.le_of_ble_eq_true rfl, Nat.le_of_ble_eq_true rfl⟩) hK hP hS hX rfl rfl rfl hl.1 rfl (Nat.le_of_ble_eq_true rfl) d_Checker_checkInstruction_157 ⟨Nat.zero_le _, Nat.zero_le _⟩ (fun H locs hP hS => ?_)
    refine lv_goto (tgt := 222) hx hb d_Checker_checkInstruction_160 (by decide) ?_
    exact W.vret hx hb hr (fun t ht hW => ⟨⟨_, rfl, Option.some.inj hm, rt_end rtC_Xo hK hP hS hX ht hW⟩, hS.F ht⟩) hS.2.2 d_Checker_checkInstruction_222
  have hm := (if_neg c32).symm.trans hm
  by_cases c37 : v1 = 7
  · have hm := (if_pos c37).symm.trans hm
    refine lv_tableIn (off := 134) (tgt := 163) hx hb d_Checker_checkInstruction_29 (by rw [c37]; decide) (by rw [c37]; decide) (by rw [c37]; rfl) (by decide) ?_
    refine lv_aload_n hx hb d_Checker_checkInstruction_163 rfl (lv_at hl 2 rfl) ?_
    refine lv_iconst (v := 1) hx hb d_Checker_checkInstruction_164 (by decide) ?_
    obtain ⟨σ39, h38, hm⟩ := rt_b1s hm
    refine rt_cvv (As := [.int 1]) (rest := []) (k := 17) rtC_Xo ⟨hx, hb, hml, hown, hts⟩ (k_C_Checker_take l D cI cZ A hO σ 1 _ h38) (cw_Checker_take hts (hts _ (rt_m rt_w485)) ⟨Nat.le_of_ble_eq_true rfl, Nat.le_of_ble_eq_true rfl⟩) hK hP hS hX rfl rfl rfl hl.1 rfl (Nat.le_of_ble_eq_true rfl) d_Checker_checkInstruction_165 ⟨Nat.zero_le _, Nat.zero_le _⟩ (fun H locs hP hS => ?_)
    refine lv_aload_n hx hb d_Checker_checkInstruction_168 rfl (lv_at hl 2 rfl) ?_
    refine lv_iload_n hx hb d_Checker_checkInstruction_169 rfl (lv_at hl 3 rfl) ?_
    refine lv_iload_n hx hb d_Checker_checkInstruction_170 rfl (lv_at hl 0 rfl) ?_
    obtain ⟨σ41, h40, hm⟩ := rt_b1s hm
    refine rt_cvv (As := [.int a1, .int v5]) (rest := []) (k := 17) rtC_Xo ⟨hx, hb, hml, hown, hts⟩ (k_C_Checker_checkBranch l D cI cZ A hO σ39 a1 v5 _ h40) (cw_Checker_checkBranch hts (hts _ (rt_m rt_w513)) ⟨Nat.le_of_ble_eq_true rfl, Nat.le_of_ble_eq_true rfl⟩) hK hP hS hX rfl rfl rfl hl.1 rfl (Nat.le_of_ble_eq_true rfl) d_Checker_checkInstruction_171 ⟨Nat.zero_le _, Nat.zero_le _⟩ (fun H locs hP hS => ?_)
    refine lv_goto (tgt := 222) hx hb d_Checker_checkInstruction_174 (by decide) ?_
    exact W.vret hx hb hr (fun t ht hW => ⟨⟨_, rfl, Option.some.inj hm, rt_end rtC_Xo hK hP hS hX ht hW⟩, hS.F ht⟩) hS.2.2 d_Checker_checkInstruction_222
  have hm := (if_neg c37).symm.trans hm
  by_cases c42 : v1 = 8
  · have hm := (if_pos c42).symm.trans hm
    refine lv_tableIn (off := 148) (tgt := 177) hx hb d_Checker_checkInstruction_29 (by rw [c42]; decide) (by rw [c42]; decide) (by rw [c42]; rfl) (by decide) ?_
    refine lv_aload_n hx hb d_Checker_checkInstruction_177 rfl (lv_at hl 2 rfl) ?_
    refine lv_iload_n hx hb d_Checker_checkInstruction_178 rfl (lv_at hl 0 rfl) ?_
    obtain ⟨σ44, h43, hm⟩ := rt_b1s hm
    refine rt_cvv (As := [.int v5]) (rest := []) (k := 17) rtC_Xo ⟨hx, hb, hml, hown, hts⟩ (k_C_Checker_take l D cI cZ A hO σ v5 _ h43) (cw_Checker_take hts (hts _ (rt_m rt_w485)) ⟨Nat.le_of_ble_eq_true rfl, Nat.le_of_ble_eq_true rfl⟩) hK hP hS hX rfl rfl rfl hl.1 rfl (Nat.le_of_ble_eq_true rfl) d_Checker_checkInstruction_179 ⟨Nat.zero_le _, Nat.zero_le _⟩ (fun H locs hP hS => ?_)
    refine lv_aload_n hx hb d_Checker_checkInstruction_182 rfl (lv_at hl 2 rfl) ?_
    obtain ⟨σ46, h45, hm⟩ := rt_b1s hm
    refine rt_cvv (As := []) (rest := []) (k := 17) rtC_Xo ⟨hx, hb, hml, hown, hts⟩ (k_C_Checker_deaden l D cI cZ A hO σ44 _ h45) (cw_Checker_deaden hts (hts _ (rt_m rt_w481)) ⟨Nat.le_of_ble_eq_true rfl, Nat.le_of_ble_eq_true rfl⟩) hK hP hS hX rfl rfl rfl hl.1 rfl (Nat.le_of_ble_eq_true rfl) d_Checker_checkInstruction_183 ⟨Nat.zero_le _, Nat.zero_le _⟩ (fun H locs hP hS => ?_)
    refine lv_aload_n hx hb d_Checker_checkInstruction_186 rfl (lv_at hl 2 rfl) ?_
    refine va_get (D := D) (v := .ref (A 1)) (C := "RangeTeller$Checker") (T := rt_T3) (N := 7) hx hb hts rt_i3 hown hK hP 17 rfl rfl 0 (by decide) (hts _ (rt_m rt_w235)) (fun _ h9 => h9) rfl d_Checker_checkInstruction_187 ?_
    refine lv_iload_n hx hb d_Checker_checkInstruction_190 rfl (lv_at hl 3 rfl) ?_
    refine lv_iconst (v := (-1)) hx hb d_Checker_checkInstruction_191 (by decide) ?_
    refine lv_iconst (v := 0) hx hb d_Checker_checkInstruction_192 (by decide) ?_
    refine lv_iload_n hx hb d_Checker_checkInstruction_193 rfl (lv_at hl 0 rfl) ?_
    obtain ⟨σ48, h47, hm⟩ := rt_b1s hm
    refine rt_cvv (As := [.int a1, .int (-1), .int 0, .int v5]) (rest := []) (k := 1) rtC_Xo ⟨hx, hb, hml, hown, hts⟩ (k_C_Program_setJump l D cI cZ A hO σ46 a1 (-1) 0 v5 _ h47) (cw_Program_setJump hts (hts _ (rt_m rt_w493)) ⟨Nat.le_of_ble_eq_true rfl, Nat.le_of_ble_eq_true rfl⟩) hK hP hS hX rfl rfl rfl hl.1 rfl (Nat.le_of_ble_eq_true rfl) d_Checker_checkInstruction_194 ⟨Nat.zero_le _, Nat.zero_le _⟩ (fun H locs hP hS => ?_)
    refine lv_goto (tgt := 222) hx hb d_Checker_checkInstruction_197 (by decide) ?_
    exact W.vret hx hb hr (fun t ht hW => ⟨⟨_, rfl, Option.some.inj hm, rt_end rtC_Xo hK hP hS hX ht hW⟩, hS.F ht⟩) hS.2.2 d_Checker_checkInstruction_222
  have hm := (if_neg c42).symm.trans hm
  by_cases c49 : v1 = 9
  · have hm := (if_pos c49).symm.trans hm
    refine lv_tableIn (off := 171) (tgt := 200) hx hb d_Checker_checkInstruction_29 (by rw [c49]; decide) (by rw [c49]; decide) (by rw [c49]; rfl) (by decide) ?_
    refine lv_aload_n hx hb d_Checker_checkInstruction_200 rfl (lv_at hl 2 rfl) ?_
    refine lv_aload_n hx hb d_Checker_checkInstruction_201 rfl (lv_at hl 2 rfl) ?_
    refine va_get (D := D) (v := .ref (A 1)) (C := "RangeTeller$Checker") (T := rt_T3) (N := 7) hx hb hts rt_i3 hown hK hP 17 rfl rfl 0 (by decide) (hts _ (rt_m rt_w235)) (fun _ h9 => h9) rfl d_Checker_checkInstruction_202 ?_
    refine va_get (D := D) (v := .ref (A 3)) (C := "RangeTeller$Program") (T := rt_T1) (N := 14) hx hb hts rt_i1 hown hK hP 1 rfl rfl 1 (by decide) (hts _ (rt_m rt_w126)) (fun _ h9 => h9) rfl d_Checker_checkInstruction_205 ?_
    refine lv_iload_n hx hb d_Checker_checkInstruction_208 rfl (lv_at hl 3 rfl) ?_
    obtain ⟨v50, h51, hm⟩ := rt_b1s hm
    refine rt_ald hx hb hK hP 3 0 rfl rfl h51 d_Checker_checkInstruction_209 ?_
    obtain ⟨σ53, h52, hm⟩ := rt_b1s hm
    refine rt_cvv (As := [.int v50]) (rest := []) (k := 17) rtC_Xo ⟨hx, hb, hml, hown, hts⟩ (k_C_Checker_checkCall l D cI cZ A hO σ v50 _ h52) (cw_Checker_checkCall hts (hts _ (rt_m rt_w517)) ⟨Nat.le_of_ble_eq_true rfl, Nat.le_of_ble_eq_true rfl⟩) hK hP hS hX rfl rfl rfl hl.1 rfl (Nat.le_of_ble_eq_true rfl) d_Checker_checkInstruction_210 ⟨Nat.zero_le _, Nat.zero_le _⟩ (fun H locs hP hS => ?_)
    refine lv_goto (tgt := 222) hx hb d_Checker_checkInstruction_213 (by decide) ?_
    exact W.vret hx hb hr (fun t ht hW => ⟨⟨_, rfl, Option.some.inj hm, rt_end rtC_Xo hK hP hS hX ht hW⟩, hS.F ht⟩) hS.2.2 d_Checker_checkInstruction_222
  have hm := (if_neg c49).symm.trans hm
  refine lv_tableOut (tgt := 216) hx hb d_Checker_checkInstruction_29 (by have := lv_neT (a := 0) c7 rfl; have := lv_neT (a := 1) c10 rfl; have := lv_neT (a := 2) c13 rfl; have := lv_neT (a := 3) c16 rfl; have := lv_neT (a := 4) c26 rfl; have := lv_neT (a := 5) c29 rfl; have := lv_neT (a := 6) c32 rfl; have := lv_neT (a := 7) c37 rfl; have := lv_neT (a := 8) c42 rfl; have := lv_neT (a := 9) c49 rfl; omega) (by decide) ?_
  refine lv_aload_n hx hb d_Checker_checkInstruction_216 rfl (lv_at hl 2 rfl) ?_
  refine lv_iload_n hx hb d_Checker_checkInstruction_217 rfl (lv_at hl 3 rfl) ?_
  refine lv_iload_n hx hb d_Checker_checkInstruction_218 rfl (lv_at hl 1 rfl) ?_
  obtain ⟨σ55, h54, hm⟩ := rt_b1s hm
  refine rt_cvv (As := [.int a1, .int v1]) (rest := []) (k := 17) rtC_Xo ⟨hx, hb, hml, hown, hts⟩ (k_C_Checker_checkPlain l D cI cZ A hO σ a1 v1 _ h54) (cw_Checker_checkPlain hts (hts _ (rt_m rt_w521)) ⟨Nat.le_of_ble_eq_true rfl, Nat.le_of_ble_eq_true rfl⟩) hK hP hS hX rfl rfl rfl hl.1 rfl (Nat.le_of_ble_eq_true rfl) d_Checker_checkInstruction_219 ⟨Nat.zero_le _, Nat.zero_le _⟩ (fun H locs hP hS => ?_)
  exact W.vret hx hb hr (fun t ht hW => ⟨⟨_, rfl, Option.some.inj hm, rt_end rtC_Xo hK hP hS hX ht hW⟩, hS.F ht⟩) hS.2.2 d_Checker_checkInstruction_222
set_option maxHeartbeats 4000000 in
set_option maxRecDepth 100000 in
theorem k_C_Checker_firstInvalid (l : Launch) (D : va_G) (cI cZ : ClassId) (A : Nat → Nat) (hO : rt_Ok (rtC_W cI cZ A)) (σ : rt_St) (r' : Int32) (σ' : rt_St) (hm : M_C_Checker_firstInvalid σ = some (r', σ')) (sz : Nat) : Met l y_Checker_firstInvalid (rt_ws y_Checker_firstInvalid b_Checker_firstInvalid 2 (some .int)) ({ frames := 4, cells := 0, slots := 0, locals := 85 } : Room) (va_Pc [.ref (A 17)] (rt_P D rt_cl (rt_t cI cZ) rtC_X (rtC_W cI cZ A) sz σ)) (va_Qi (fun r1 u1 => r1 = r' ∧ u1 = σ') (rt_B D rt_cl (rt_t cI cZ) rtC_X (rtC_W cI cZ A)) (rt_A (rtC_W cI cZ A) sz)) 0 0 (rt_A (rtC_W cI cZ A) sz) := by
  refine Met.ofW (cc := b_Checker_firstInvalid) (maxL := 2) (ret := (some .int)) (by decide) rfl ?_
  intro p e s m args below meth c s₁ B hml hv
  obtain ⟨rfl, rfl, hP, hK, hX⟩ := hv
  have hx := B.exec
  have hb := B.bytes
  have hr := B.returns
  have hts := atoms_spec (ws := (rt_ws y_Checker_firstInvalid b_Checker_firstInvalid 2 (some .int))) B.pre
  have hown : s.vm.findClass "RangeTeller$Checker" = some m.cls := findClass_of_methodNamed B.named
  have hlocks := B.notSynchronized
  have hD := rt_hD hO s.heap.size
  have hS : va_S (rt_A (rtC_W cI cZ A) s.heap.size) s.heap s.heap [] := va_S.rf
  have hl := lv_entry ([.ref (A 17)]) (n := 2) (Nat.le_of_ble_eq_true rfl)
  rw [lg_entry_eq]
  generalize (lg_sl ([.ref (A 17)]) ++ List.replicate (2 - (lg_sl ([.ref (A 17)])).length) Slot.unset).toArray = ls at hl ⊢
  have hl : lv_has ls 2 [(0, .ref (A 17))] := hl
  show W p l e ({ frames := 4, cells := 0, slots := 0, locals := 85 } : Room) s m ([.ref (A 17)] : List Value).toArray below meth c s.heap [] 0 0 (rt_Qi D rt_cl (rt_t cI cZ) rtC_X (rtC_W cI cZ A) below ([.ref (A 17)] : List Value).toArray s r' σ') (F0 m 0 ls [])
  have hB7 : ∀ (n7 : Nat) (ls : Array Slot) (l1 : Int32) (σ : rt_St) (H : Heap) (locs : List Loc), lv_has ls 2 [(0, .ref (A 17)), (1, .int l1)] → B_C_Checker_firstInvalid_7 n7 l1 σ = some (r', σ') → va_P D rt_cl (rtC_W cI cZ A σ) H → va_S (rt_A (rtC_W cI cZ A) s.heap.size) s.heap H locs → W p l e ({ frames := 4, cells := 0, slots := 0, locals := 85 } : Room) s m ([.ref (A 17)] : List Value).toArray below meth c H locs 0 0 (rt_Qi D rt_cl (rt_t cI cZ) rtC_X (rtC_W cI cZ A) below ([.ref (A 17)] : List Value).toArray s r' σ') (F0 m 7 ls []) := by
    intro n7
    induction n7 with
    | zero => intro ls l1 σ H locs hl hm hP hS; rw [B_C_Checker_firstInvalid_7] at hm; cases hm
    | succ n7 ih7 =>
      have hB55 : ∀ (ls : Array Slot) (l1 : Int32) (σ : rt_St) (H : Heap) (locs : List Loc), lv_has ls 2 [(0, .ref (A 17)), (1, .int l1)] → B_C_Checker_firstInvalid_55 (B_C_Checker_firstInvalid_7 n7) l1 σ = some (r', σ') → va_P D rt_cl (rtC_W cI cZ A σ) H → va_S (rt_A (rtC_W cI cZ A) s.heap.size) s.heap H locs → W p l e ({ frames := 4, cells := 0, slots := 0, locals := 85 } : Room) s m ([.ref (A 17)] : List Value).toArray below meth c H locs 0 0 (rt_Qi D rt_cl (rt_t cI cZ) rtC_X (rtC_W cI cZ A) below ([.ref (A 17)] : List Value).toArray s r' σ') (F0 m 55 ls []) := by
        intro ls l1 σ H locs hl hm hP hS
        unfold B_C_Checker_firstInvalid_55 at hm
        refine lv_aload_n hx hb d_Checker_firstInvalid_55 rfl (lv_at hl 0 rfl) ?_
        refine lv_iload_n hx hb d_Checker_firstInvalid_56 rfl (lv_at hl 1 rfl) ?_
        obtain ⟨σ2, h1, hm⟩ := rt_b1s hm
        refine rt_cvv (As := [.int l1]) (rest := []) (k := 17) rtC_Xo ⟨hx, hb, hml, hown, hts⟩ (k_C_Checker_checkInstruction l D cI cZ A hO σ l1 _ h1) (cw_Checker_checkInstruction hts (hts _ (rt_m rt_w477)) ⟨Nat.le_of_ble_eq_true rfl, Nat.le_of_ble_eq_true rfl⟩) hK hP hS hX rfl rfl rfl hl.1 rfl (Nat.le_of_ble_eq_true rfl) d_Checker_firstInvalid_57 ⟨Nat.zero_le _, Nat.zero_le _⟩ (fun H locs hP hS => ?_)
        refine lv_aload_n hx hb d_Checker_firstInvalid_60 rfl (lv_at hl 0 rfl) ?_
        refine va_get (D := D) (v := .int (σ2 17 6)) (C := "RangeTeller$Checker") (T := rt_T3) (N := 7) hx hb hts rt_i3 hown hK hP 17 rfl rfl 6 (by decide) (hts _ (rt_m rt_w241)) (fun _ h9 => h9) rfl d_Checker_firstInvalid_61 ?_
        refine lv_if_eq (tgt := 69) hx hb d_Checker_firstInvalid_64 (by decide) (fun hc => ?_) (fun hc => ?_)
        · have hm := (if_pos hc).symm.trans hm
          refine lv_iinc (k := 1) (v := (l1 + 1)) hx hb d_Checker_firstInvalid_69 hl rfl rfl (by decide) rfl (fun ls hl => ?_)
          have hl : lv_has ls 2 [(1, .int (l1 + 1)), (0, .ref (A 17))] := hl
          refine lv_goto (tgt := 7) hx hb d_Checker_firstInvalid_72 (by decide) ?_
          exact ih7 ls (l1 + 1) σ2 _ _ (lv_sub hl [1, 0] rfl) hm hP hS
        · have hm := (if_neg hc).symm.trans hm
          refine lv_iload_n hx hb d_Checker_firstInvalid_67 rfl (lv_at hl 1 rfl) ?_
          exact W.iret hx hb hr (fun t ht hW => ⟨⟨_, _, rfl, rt_pr hm, rt_end rtC_Xo hK hP hS hX ht hW⟩, hS.F ht⟩) hS.2.2 d_Checker_firstInvalid_68
      intro ls l1 σ H locs hl hm hP hS
      rw [B_C_Checker_firstInvalid_7] at hm
      refine lv_iload_n hx hb d_Checker_firstInvalid_7 rfl (lv_at hl 1 rfl) ?_
      refine lv_aload_n hx hb d_Checker_firstInvalid_8 rfl (lv_at hl 0 rfl) ?_
      refine va_get (D := D) (v := .ref (A 1)) (C := "RangeTeller$Checker") (T := rt_T3) (N := 7) hx hb hts rt_i3 hown hK hP 17 rfl rfl 0 (by decide) (hts _ (rt_m rt_w235)) (fun _ h9 => h9) rfl d_Checker_firstInvalid_9 ?_
      refine va_get (D := D) (v := .int (σ 1 12)) (C := "RangeTeller$Program") (T := rt_T1) (N := 14) hx hb hts rt_i1 hown hK hP 1 rfl rfl 12 (by decide) (hts _ (rt_m rt_w165)) (fun _ h9 => h9) rfl d_Checker_firstInvalid_12 ?_
      refine lv_icmp_ge (tgt := 75) hx hb d_Checker_firstInvalid_15 (by decide) (fun hc => ?_) (fun hc => ?_)
      · have hm := (if_pos hc).symm.trans hm
        refine lv_bipush (v := (-3)) hx hb d_Checker_firstInvalid_75 (by decide) ?_
        exact W.iret hx hb hr (fun t ht hW => ⟨⟨_, _, rfl, rt_pr hm, rt_end rtC_Xo hK hP hS hX ht hW⟩, hS.F ht⟩) hS.2.2 d_Checker_firstInvalid_77
      · have hm := (if_neg hc).symm.trans hm
        refine lv_iload_n hx hb d_Checker_firstInvalid_18 rfl (lv_at hl 1 rfl) ?_
        refine lv_aload_n hx hb d_Checker_firstInvalid_19 rfl (lv_at hl 0 rfl) ?_
        refine va_get (D := D) (v := .ref (A 1)) (C := "RangeTeller$Checker") (T := rt_T3) (N := 7) hx hb hts rt_i3 hown hK hP 17 rfl rfl 0 (by decide) (hts _ (rt_m rt_w235)) (fun _ h9 => h9) rfl d_Checker_firstInvalid_20 ?_
        refine va_get (D := D) (v := .ref (A 10)) (C := "RangeTeller$Program") (T := rt_T1) (N := 14) hx hb hts rt_i1 hown hK hP 1 rfl rfl 8 (by decide) (hts _ (rt_m rt_w149)) (fun _ h9 => h9) rfl d_Checker_firstInvalid_23 ?_
        refine lv_aload_n hx hb d_Checker_firstInvalid_26 rfl (lv_at hl 0 rfl) ?_
        refine va_get (D := D) (v := .ref (A 1)) (C := "RangeTeller$Checker") (T := rt_T3) (N := 7) hx hb hts rt_i3 hown hK hP 17 rfl rfl 0 (by decide) (hts _ (rt_m rt_w235)) (fun _ h9 => h9) rfl d_Checker_firstInvalid_27 ?_
        refine va_get (D := D) (v := .ref (A 4)) (C := "RangeTeller$Program") (T := rt_T1) (N := 14) hx hb hts rt_i1 hown hK hP 1 rfl rfl 2 (by decide) (hts _ (rt_m rt_w131)) (fun _ h9 => h9) rfl d_Checker_firstInvalid_30 ?_
        refine lv_iload_n hx hb d_Checker_firstInvalid_33 rfl (lv_at hl 1 rfl) ?_
        obtain ⟨v3, h4, hm⟩ := rt_b1s hm
        refine rt_ald hx hb hK hP 4 0 rfl rfl h4 d_Checker_firstInvalid_34 ?_
        obtain ⟨v5, h6, hm⟩ := rt_b1s hm
        refine rt_ald hx hb hK hP 10 0 rfl rfl h6 d_Checker_firstInvalid_35 ?_
        refine lv_icmp_ne (tgt := 55) hx hb d_Checker_firstInvalid_36 (by decide) (fun hc => ?_) (fun hc => ?_)
        · have hm := (if_neg hc).symm.trans hm
          exact hB55 ls l1 σ _ _ (lv_sub hl [0, 1] rfl) hm hP hS
        · have hm := (if_pos hc).symm.trans hm
          refine lv_aload_n hx hb d_Checker_firstInvalid_39 rfl (lv_at hl 0 rfl) ?_
          refine lv_iconst (v := (-1)) hx hb d_Checker_firstInvalid_40 (by decide) ?_
          obtain ⟨σ7, h8, hm⟩ := rt_b1s hm
          refine rt_pf (D := D) (C := "RangeTeller$Checker") (T := rt_T3) (N := 7) (ty := .int) hx hb hts rt_i3 rt_y3 rt_o3 rt_n3 hown hK hP hD hS 17 rfl rfl 4 (by decide) (hts _ (rt_m rt_w239)) (fun _ h9 => h9) rfl (by decide +kernel) rfl rfl (Nat.le_of_ble_eq_true rfl) (rtC_s17_4 cI cZ A _ _) h8 d_Checker_firstInvalid_41 (fun H locs hP hS => ?_)
          refine lv_aload_n hx hb d_Checker_firstInvalid_44 rfl (lv_at hl 0 rfl) ?_
          refine lv_iconst (v := 0) hx hb d_Checker_firstInvalid_45 (by decide) ?_
          obtain ⟨σ9, h10, hm⟩ := rt_b1s hm
          refine rt_pf (D := D) (C := "RangeTeller$Checker") (T := rt_T3) (N := 7) (ty := .int) hx hb hts rt_i3 rt_y3 rt_o3 rt_n3 hown hK hP hD hS 17 rfl rfl 5 (by decide) (hts _ (rt_m rt_w240)) (fun _ h9 => h9) rfl (by decide +kernel) rfl rfl (Nat.le_of_ble_eq_true rfl) (rtC_s17_5 cI cZ A _ _) h10 d_Checker_firstInvalid_46 (fun H locs hP hS => ?_)
          refine lv_aload_n hx hb d_Checker_firstInvalid_49 rfl (lv_at hl 0 rfl) ?_
          refine lv_bipush (v := (-3)) hx hb d_Checker_firstInvalid_50 (by decide) ?_
          obtain ⟨σ12, h11, hm⟩ := rt_b1s hm
          refine rt_cvv (As := [.int (-3)]) (rest := []) (k := 17) rtC_Xo ⟨hx, hb, hml, hown, hts⟩ (k_C_Checker_open l D cI cZ A hO σ9 (-3) _ h11) (cw_Checker_open hts (hts _ (rt_m rt_w473)) ⟨Nat.le_of_ble_eq_true rfl, Nat.le_of_ble_eq_true rfl⟩) hK hP hS hX rfl rfl rfl hl.1 rfl (Nat.le_of_ble_eq_true rfl) d_Checker_firstInvalid_52 ⟨Nat.zero_le _, Nat.zero_le _⟩ (fun H locs hP hS => ?_)
          exact hB55 ls l1 σ12 _ _ (lv_sub hl [0, 1] rfl) hm hP hS
  unfold M_C_Checker_firstInvalid at hm
  refine lv_aload_n hx hb d_Checker_firstInvalid_0 rfl (lv_at hl 0 rfl) ?_
  refine lv_iconst (v := 0) hx hb d_Checker_firstInvalid_1 (by decide) ?_
  obtain ⟨σ13, h14, hm⟩ := rt_b1s hm
  refine rt_pf (D := D) (C := "RangeTeller$Checker") (T := rt_T3) (N := 7) (ty := .boolean) hx hb hts rt_i3 rt_y3 rt_o3 rt_n3 hown hK hP hD hS 17 rfl rfl 6 (by decide) (hts _ (rt_m rt_w241)) (fun _ h9 => h9) rfl (by decide +kernel) rfl rfl (Nat.le_of_ble_eq_true rfl) (rtC_s17_6 cI cZ A _ _) h14 d_Checker_firstInvalid_2 (fun H locs hP hS => ?_)
  refine lv_iconst (v := 0) hx hb d_Checker_firstInvalid_5 (by decide) ?_
  refine lv_istore_n hx hb d_Checker_firstInvalid_6 rfl hl (by decide) rfl (fun ls hl => ?_)
  have hl : lv_has ls 2 [(1, .int 0), (0, .ref (A 17))] := hl
  exact hB7 _ ls 0 σ13 _ _ (lv_sub hl [1, 0] rfl) hm hP hS
set_option maxHeartbeats 4000000 in
set_option maxRecDepth 100000 in
theorem k_C_Arrays_fill_36 (l : Launch) (D : va_G) (cI cZ : ClassId) (A : Nat → Nat) (hO : rt_Ok (rtC_W cI cZ A)) (σ : rt_St) (a1 : Int32) (σ' : rt_St) (hm : M_C_Arrays_fill_36 σ a1 = some σ') (sz : Nat) : Met l y_Arrays_fill (rt_ws y_Arrays_fill b_Arrays_fill 4 none) ({ frames := 0, cells := 0, slots := 0, locals := 0 } : Room) (va_Pc [.ref (A 36), .int a1] (rt_P D rt_cl (rt_t cI cZ) rtC_X (rtC_W cI cZ A) sz σ)) (va_Qv (fun u1 => u1 = σ') (rt_B D rt_cl (rt_t cI cZ) rtC_X (rtC_W cI cZ A)) (rt_A (rtC_W cI cZ A) sz)) 0 0 (rt_A (rtC_W cI cZ A) sz) := by
  refine rt_ofW (cc := b_Arrays_fill) (maxL := 4) (ret := none) (by decide +kernel) rfl ?_
  intro p e s m args below meth c s₁ B hml hv
  obtain ⟨rfl, rfl, hP, hK, hX⟩ := hv
  have hx := B.exec
  have hb := B.bytes
  have hr := B.returns
  have hts := atoms_spec (ws := (rt_ws y_Arrays_fill b_Arrays_fill 4 none)) B.pre
  have hown : s.vm.findClass "java/util/Arrays" = some m.cls := findClass_of_methodNamed B.named
  have hlocks := B.notSynchronized
  have hD := rt_hD hO s.heap.size
  have hS : va_S (rt_A (rtC_W cI cZ A) s.heap.size) s.heap s.heap [] := va_S.rf
  have hl := lv_entry ([.ref (A 36), .int a1]) (n := 4) (Nat.le_of_ble_eq_true rfl)
  rw [lg_entry_eq]
  generalize (lg_sl ([.ref (A 36), .int a1]) ++ List.replicate (4 - (lg_sl ([.ref (A 36), .int a1])).length) Slot.unset).toArray = ls at hl ⊢
  have hl : lv_has ls 4 [(0, .ref (A 36)), (1, .int a1)] := hl
  show W p l e ({ frames := 0, cells := 0, slots := 0, locals := 0 } : Room) s m ([.ref (A 36), .int a1] : List Value).toArray below meth c s.heap [] 0 0 (rt_Qv D rt_cl (rt_t cI cZ) rtC_X (rtC_W cI cZ A) below ([.ref (A 36), .int a1] : List Value).toArray s σ') (F0 m 0 ls [])
  have hB5 : ∀ (n5 : Nat) (ls : Array Slot) (l1 l2 l3 : Int32) (σ : rt_St) (H : Heap) (locs : List Loc), lv_has ls 4 [(0, .ref (A 36)), (1, .int l1), (2, .int l2), (3, .int l3)] → B_C_Arrays_fill_36_5 n5 l1 l2 l3 σ = some σ' → va_P D rt_cl (rtC_W cI cZ A σ) H → va_S (rt_A (rtC_W cI cZ A) s.heap.size) s.heap H locs → W p l e ({ frames := 0, cells := 0, slots := 0, locals := 0 } : Room) s m ([.ref (A 36), .int a1] : List Value).toArray below meth c H locs 0 0 (rt_Qv D rt_cl (rt_t cI cZ) rtC_X (rtC_W cI cZ A) below ([.ref (A 36), .int a1] : List Value).toArray s σ') (F0 m 5 ls []) := by
    intro n5
    induction n5 with
    | zero => intro ls l1 l2 l3 σ H locs hl hm hP hS; rw [B_C_Arrays_fill_36_5] at hm; cases hm
    | succ n5 ih5 =>
      intro ls l1 l2 l3 σ H locs hl hm hP hS
      rw [B_C_Arrays_fill_36_5] at hm
      refine lv_iload_n hx hb d_Arrays_fill_5 rfl (lv_at hl 2 rfl) ?_
      refine lv_iload_n hx hb d_Arrays_fill_6 rfl (lv_at hl 3 rfl) ?_
      refine lv_icmp_ge (tgt := 20) hx hb d_Arrays_fill_7 (by decide) (fun hc => ?_) (fun hc => ?_)
      · have hm := (if_pos hc).symm.trans hm
        exact W.vret hx hb hr (fun t ht hW => ⟨⟨_, rfl, Option.some.inj hm, rt_end rtC_Xo hK hP hS hX ht hW⟩, hS.F ht⟩) hS.2.2 d_Arrays_fill_20
      · have hm := (if_neg hc).symm.trans hm
        refine lv_aload_n hx hb d_Arrays_fill_10 rfl (lv_at hl 0 rfl) ?_
        refine lv_iload_n hx hb d_Arrays_fill_11 rfl (lv_at hl 2 rfl) ?_
        refine lv_iload_n hx hb d_Arrays_fill_12 rfl (lv_at hl 1 rfl) ?_
        obtain ⟨σ1, h2, hm⟩ := rt_b1s hm
        refine rt_ast hx hb hK hP hD hS 36 0 rfl (rtC_a36 cI cZ A _) rfl h2 d_Arrays_fill_13 (fun H locs hP hS => ?_)
        refine lv_iinc (k := 2) (v := (l2 + 1)) hx hb d_Arrays_fill_14 hl rfl rfl (by decide) rfl (fun ls hl => ?_)
        have hl : lv_has ls 4 [(2, .int (l2 + 1)), (0, .ref (A 36)), (1, .int l1), (3, .int l3)] := hl
        refine lv_goto (tgt := 5) hx hb d_Arrays_fill_17 (by decide) ?_
        exact ih5 ls l1 (l2 + 1) l3 σ1 _ _ (lv_sub hl [1, 2, 0, 3] rfl) hm hP hS
  unfold M_C_Arrays_fill_36 at hm
  refine lv_iconst (v := 0) hx hb d_Arrays_fill_0 (by decide) ?_
  refine lv_istore_n hx hb d_Arrays_fill_1 rfl hl (by decide) rfl (fun ls hl => ?_)
  have hl : lv_has ls 4 [(2, .int 0), (0, .ref (A 36)), (1, .int a1)] := hl
  refine lv_aload_n hx hb d_Arrays_fill_2 rfl (lv_at hl 1 rfl) ?_
  refine va_alen (v := 1000) hx hb hK hP 36 0 rfl rfl rfl d_Arrays_fill_3 ?_
  refine lv_istore_n hx hb d_Arrays_fill_4 rfl hl (by decide) rfl (fun ls hl => ?_)
  have hl : lv_has ls 4 [(3, .int 1000), (2, .int 0), (0, .ref (A 36)), (1, .int a1)] := hl
  exact hB5 _ ls a1 0 1000 σ _ _ (lv_sub hl [2, 3, 1, 0] rfl) hm hP hS
set_option maxHeartbeats 4000000 in
set_option maxRecDepth 100000 in
theorem k_C_Arrays_fill_37 (l : Launch) (D : va_G) (cI cZ : ClassId) (A : Nat → Nat) (hO : rt_Ok (rtC_W cI cZ A)) (σ : rt_St) (a1 : Int32) (σ' : rt_St) (hm : M_C_Arrays_fill_37 σ a1 = some σ') (sz : Nat) : Met l y_Arrays_fill (rt_ws y_Arrays_fill b_Arrays_fill 4 none) ({ frames := 0, cells := 0, slots := 0, locals := 0 } : Room) (va_Pc [.ref (A 37), .int a1] (rt_P D rt_cl (rt_t cI cZ) rtC_X (rtC_W cI cZ A) sz σ)) (va_Qv (fun u1 => u1 = σ') (rt_B D rt_cl (rt_t cI cZ) rtC_X (rtC_W cI cZ A)) (rt_A (rtC_W cI cZ A) sz)) 0 0 (rt_A (rtC_W cI cZ A) sz) := by
  refine rt_ofW (cc := b_Arrays_fill) (maxL := 4) (ret := none) (by decide +kernel) rfl ?_
  intro p e s m args below meth c s₁ B hml hv
  obtain ⟨rfl, rfl, hP, hK, hX⟩ := hv
  have hx := B.exec
  have hb := B.bytes
  have hr := B.returns
  have hts := atoms_spec (ws := (rt_ws y_Arrays_fill b_Arrays_fill 4 none)) B.pre
  have hown : s.vm.findClass "java/util/Arrays" = some m.cls := findClass_of_methodNamed B.named
  have hlocks := B.notSynchronized
  have hD := rt_hD hO s.heap.size
  have hS : va_S (rt_A (rtC_W cI cZ A) s.heap.size) s.heap s.heap [] := va_S.rf
  have hl := lv_entry ([.ref (A 37), .int a1]) (n := 4) (Nat.le_of_ble_eq_true rfl)
  rw [lg_entry_eq]
  generalize (lg_sl ([.ref (A 37), .int a1]) ++ List.replicate (4 - (lg_sl ([.ref (A 37), .int a1])).length) Slot.unset).toArray = ls at hl ⊢
  have hl : lv_has ls 4 [(0, .ref (A 37)), (1, .int a1)] := hl
  show W p l e ({ frames := 0, cells := 0, slots := 0, locals := 0 } : Room) s m ([.ref (A 37), .int a1] : List Value).toArray below meth c s.heap [] 0 0 (rt_Qv D rt_cl (rt_t cI cZ) rtC_X (rtC_W cI cZ A) below ([.ref (A 37), .int a1] : List Value).toArray s σ') (F0 m 0 ls [])
  have hB5 : ∀ (n5 : Nat) (ls : Array Slot) (l1 l2 l3 : Int32) (σ : rt_St) (H : Heap) (locs : List Loc), lv_has ls 4 [(0, .ref (A 37)), (1, .int l1), (2, .int l2), (3, .int l3)] → B_C_Arrays_fill_37_5 n5 l1 l2 l3 σ = some σ' → va_P D rt_cl (rtC_W cI cZ A σ) H → va_S (rt_A (rtC_W cI cZ A) s.heap.size) s.heap H locs → W p l e ({ frames := 0, cells := 0, slots := 0, locals := 0 } : Room) s m ([.ref (A 37), .int a1] : List Value).toArray below meth c H locs 0 0 (rt_Qv D rt_cl (rt_t cI cZ) rtC_X (rtC_W cI cZ A) below ([.ref (A 37), .int a1] : List Value).toArray s σ') (F0 m 5 ls []) := by
    intro n5
    induction n5 with
    | zero => intro ls l1 l2 l3 σ H locs hl hm hP hS; rw [B_C_Arrays_fill_37_5] at hm; cases hm
    | succ n5 ih5 =>
      intro ls l1 l2 l3 σ H locs hl hm hP hS
      rw [B_C_Arrays_fill_37_5] at hm
      refine lv_iload_n hx hb d_Arrays_fill_5 rfl (lv_at hl 2 rfl) ?_
      refine lv_iload_n hx hb d_Arrays_fill_6 rfl (lv_at hl 3 rfl) ?_
      refine lv_icmp_ge (tgt := 20) hx hb d_Arrays_fill_7 (by decide) (fun hc => ?_) (fun hc => ?_)
      · have hm := (if_pos hc).symm.trans hm
        exact W.vret hx hb hr (fun t ht hW => ⟨⟨_, rfl, Option.some.inj hm, rt_end rtC_Xo hK hP hS hX ht hW⟩, hS.F ht⟩) hS.2.2 d_Arrays_fill_20
      · have hm := (if_neg hc).symm.trans hm
        refine lv_aload_n hx hb d_Arrays_fill_10 rfl (lv_at hl 0 rfl) ?_
        refine lv_iload_n hx hb d_Arrays_fill_11 rfl (lv_at hl 2 rfl) ?_
        refine lv_iload_n hx hb d_Arrays_fill_12 rfl (lv_at hl 1 rfl) ?_
        obtain ⟨σ1, h2, hm⟩ := rt_b1s hm
        refine rt_ast hx hb hK hP hD hS 37 0 rfl (rtC_a37 cI cZ A _) rfl h2 d_Arrays_fill_13 (fun H locs hP hS => ?_)
        refine lv_iinc (k := 2) (v := (l2 + 1)) hx hb d_Arrays_fill_14 hl rfl rfl (by decide) rfl (fun ls hl => ?_)
        have hl : lv_has ls 4 [(2, .int (l2 + 1)), (0, .ref (A 37)), (1, .int l1), (3, .int l3)] := hl
        refine lv_goto (tgt := 5) hx hb d_Arrays_fill_17 (by decide) ?_
        exact ih5 ls l1 (l2 + 1) l3 σ1 _ _ (lv_sub hl [1, 2, 0, 3] rfl) hm hP hS
  unfold M_C_Arrays_fill_37 at hm
  refine lv_iconst (v := 0) hx hb d_Arrays_fill_0 (by decide) ?_
  refine lv_istore_n hx hb d_Arrays_fill_1 rfl hl (by decide) rfl (fun ls hl => ?_)
  have hl : lv_has ls 4 [(2, .int 0), (0, .ref (A 37)), (1, .int a1)] := hl
  refine lv_aload_n hx hb d_Arrays_fill_2 rfl (lv_at hl 1 rfl) ?_
  refine va_alen (v := 400) hx hb hK hP 37 0 rfl rfl rfl d_Arrays_fill_3 ?_
  refine lv_istore_n hx hb d_Arrays_fill_4 rfl hl (by decide) rfl (fun ls hl => ?_)
  have hl : lv_has ls 4 [(3, .int 400), (2, .int 0), (0, .ref (A 37)), (1, .int a1)] := hl
  exact hB5 _ ls a1 0 400 σ _ _ (lv_sub hl [2, 3, 1, 0] rfl) hm hP hS
set_option maxHeartbeats 4000000 in
set_option maxRecDepth 100000 in
theorem k_C_Arrays_fill_38 (l : Launch) (D : va_G) (cI cZ : ClassId) (A : Nat → Nat) (hO : rt_Ok (rtC_W cI cZ A)) (σ : rt_St) (a1 : Int32) (σ' : rt_St) (hm : M_C_Arrays_fill_38 σ a1 = some σ') (sz : Nat) : Met l y_Arrays_fill (rt_ws y_Arrays_fill b_Arrays_fill 4 none) ({ frames := 0, cells := 0, slots := 0, locals := 0 } : Room) (va_Pc [.ref (A 38), .int a1] (rt_P D rt_cl (rt_t cI cZ) rtC_X (rtC_W cI cZ A) sz σ)) (va_Qv (fun u1 => u1 = σ') (rt_B D rt_cl (rt_t cI cZ) rtC_X (rtC_W cI cZ A)) (rt_A (rtC_W cI cZ A) sz)) 0 0 (rt_A (rtC_W cI cZ A) sz) := by
  refine rt_ofW (cc := b_Arrays_fill) (maxL := 4) (ret := none) (by decide +kernel) rfl ?_
  intro p e s m args below meth c s₁ B hml hv
  obtain ⟨rfl, rfl, hP, hK, hX⟩ := hv
  have hx := B.exec
  have hb := B.bytes
  have hr := B.returns
  have hts := atoms_spec (ws := (rt_ws y_Arrays_fill b_Arrays_fill 4 none)) B.pre
  have hown : s.vm.findClass "java/util/Arrays" = some m.cls := findClass_of_methodNamed B.named
  have hlocks := B.notSynchronized
  have hD := rt_hD hO s.heap.size
  have hS : va_S (rt_A (rtC_W cI cZ A) s.heap.size) s.heap s.heap [] := va_S.rf
  have hl := lv_entry ([.ref (A 38), .int a1]) (n := 4) (Nat.le_of_ble_eq_true rfl)
  rw [lg_entry_eq]
  generalize (lg_sl ([.ref (A 38), .int a1]) ++ List.replicate (4 - (lg_sl ([.ref (A 38), .int a1])).length) Slot.unset).toArray = ls at hl ⊢
  have hl : lv_has ls 4 [(0, .ref (A 38)), (1, .int a1)] := hl
  show W p l e ({ frames := 0, cells := 0, slots := 0, locals := 0 } : Room) s m ([.ref (A 38), .int a1] : List Value).toArray below meth c s.heap [] 0 0 (rt_Qv D rt_cl (rt_t cI cZ) rtC_X (rtC_W cI cZ A) below ([.ref (A 38), .int a1] : List Value).toArray s σ') (F0 m 0 ls [])
  have hB5 : ∀ (n5 : Nat) (ls : Array Slot) (l1 l2 l3 : Int32) (σ : rt_St) (H : Heap) (locs : List Loc), lv_has ls 4 [(0, .ref (A 38)), (1, .int l1), (2, .int l2), (3, .int l3)] → B_C_Arrays_fill_38_5 n5 l1 l2 l3 σ = some σ' → va_P D rt_cl (rtC_W cI cZ A σ) H → va_S (rt_A (rtC_W cI cZ A) s.heap.size) s.heap H locs → W p l e ({ frames := 0, cells := 0, slots := 0, locals := 0 } : Room) s m ([.ref (A 38), .int a1] : List Value).toArray below meth c H locs 0 0 (rt_Qv D rt_cl (rt_t cI cZ) rtC_X (rtC_W cI cZ A) below ([.ref (A 38), .int a1] : List Value).toArray s σ') (F0 m 5 ls []) := by
    intro n5
    induction n5 with
    | zero => intro ls l1 l2 l3 σ H locs hl hm hP hS; rw [B_C_Arrays_fill_38_5] at hm; cases hm
    | succ n5 ih5 =>
      intro ls l1 l2 l3 σ H locs hl hm hP hS
      rw [B_C_Arrays_fill_38_5] at hm
      refine lv_iload_n hx hb d_Arrays_fill_5 rfl (lv_at hl 2 rfl) ?_
      refine lv_iload_n hx hb d_Arrays_fill_6 rfl (lv_at hl 3 rfl) ?_
      refine lv_icmp_ge (tgt := 20) hx hb d_Arrays_fill_7 (by decide) (fun hc => ?_) (fun hc => ?_)
      · have hm := (if_pos hc).symm.trans hm
        exact W.vret hx hb hr (fun t ht hW => ⟨⟨_, rfl, Option.some.inj hm, rt_end rtC_Xo hK hP hS hX ht hW⟩, hS.F ht⟩) hS.2.2 d_Arrays_fill_20
      · have hm := (if_neg hc).symm.trans hm
        refine lv_aload_n hx hb d_Arrays_fill_10 rfl (lv_at hl 0 rfl) ?_
        refine lv_iload_n hx hb d_Arrays_fill_11 rfl (lv_at hl 2 rfl) ?_
        refine lv_iload_n hx hb d_Arrays_fill_12 rfl (lv_at hl 1 rfl) ?_
        obtain ⟨σ1, h2, hm⟩ := rt_b1s hm
        refine rt_ast hx hb hK hP hD hS 38 0 rfl (rtC_a38 cI cZ A _) rfl h2 d_Arrays_fill_13 (fun H locs hP hS => ?_)
        refine lv_iinc (k := 2) (v := (l2 + 1)) hx hb d_Arrays_fill_14 hl rfl rfl (by decide) rfl (fun ls hl => ?_)
        have hl : lv_has ls 4 [(2, .int (l2 + 1)), (0, .ref (A 38)), (1, .int l1), (3, .int l3)] := hl
        refine lv_goto (tgt := 5) hx hb d_Arrays_fill_17 (by decide) ?_
        exact ih5 ls l1 (l2 + 1) l3 σ1 _ _ (lv_sub hl [1, 2, 0, 3] rfl) hm hP hS
  unfold M_C_Arrays_fill_38 at hm
  refine lv_iconst (v := 0) hx hb d_Arrays_fill_0 (by decide) ?_
  refine lv_istore_n hx hb d_Arrays_fill_1 rfl hl (by decide) rfl (fun ls hl => ?_)
  have hl : lv_has ls 4 [(2, .int 0), (0, .ref (A 38)), (1, .int a1)] := hl
  refine lv_aload_n hx hb d_Arrays_fill_2 rfl (lv_at hl 1 rfl) ?_
  refine va_alen (v := 6) hx hb hK hP 38 0 rfl rfl rfl d_Arrays_fill_3 ?_
  refine lv_istore_n hx hb d_Arrays_fill_4 rfl hl (by decide) rfl (fun ls hl => ?_)
  have hl : lv_has ls 4 [(3, .int 6), (2, .int 0), (0, .ref (A 38)), (1, .int a1)] := hl
  exact hB5 _ ls a1 0 6 σ _ _ (lv_sub hl [2, 3, 1, 0] rfl) hm hP hS
set_option maxHeartbeats 4000000 in
set_option maxRecDepth 100000 in
theorem k_C_Arrays_fill_33 (l : Launch) (D : va_G) (cI cZ : ClassId) (A : Nat → Nat) (hO : rt_Ok (rtC_W cI cZ A)) (σ : rt_St) (a1 : Int32) (σ' : rt_St) (hm : M_C_Arrays_fill_33 σ a1 = some σ') (sz : Nat) : Met l y_Arrays_fill (rt_ws y_Arrays_fill b_Arrays_fill 4 none) ({ frames := 0, cells := 0, slots := 0, locals := 0 } : Room) (va_Pc [.ref (A 33), .int a1] (rt_P D rt_cl (rt_t cI cZ) rtC_X (rtC_W cI cZ A) sz σ)) (va_Qv (fun u1 => u1 = σ') (rt_B D rt_cl (rt_t cI cZ) rtC_X (rtC_W cI cZ A)) (rt_A (rtC_W cI cZ A) sz)) 0 0 (rt_A (rtC_W cI cZ A) sz) := by
  refine rt_ofW (cc := b_Arrays_fill) (maxL := 4) (ret := none) (by decide +kernel) rfl ?_
  intro p e s m args below meth c s₁ B hml hv
  obtain ⟨rfl, rfl, hP, hK, hX⟩ := hv
  have hx := B.exec
  have hb := B.bytes
  have hr := B.returns
  have hts := atoms_spec (ws := (rt_ws y_Arrays_fill b_Arrays_fill 4 none)) B.pre
  have hown : s.vm.findClass "java/util/Arrays" = some m.cls := findClass_of_methodNamed B.named
  have hlocks := B.notSynchronized
  have hD := rt_hD hO s.heap.size
  have hS : va_S (rt_A (rtC_W cI cZ A) s.heap.size) s.heap s.heap [] := va_S.rf
  have hl := lv_entry ([.ref (A 33), .int a1]) (n := 4) (Nat.le_of_ble_eq_true rfl)
  rw [lg_entry_eq]
  generalize (lg_sl ([.ref (A 33), .int a1]) ++ List.replicate (4 - (lg_sl ([.ref (A 33), .int a1])).length) Slot.unset).toArray = ls at hl ⊢
  have hl : lv_has ls 4 [(0, .ref (A 33)), (1, .int a1)] := hl
  show W p l e ({ frames := 0, cells := 0, slots := 0, locals := 0 } : Room) s m ([.ref (A 33), .int a1] : List Value).toArray below meth c s.heap [] 0 0 (rt_Qv D rt_cl (rt_t cI cZ) rtC_X (rtC_W cI cZ A) below ([.ref (A 33), .int a1] : List Value).toArray s σ') (F0 m 0 ls [])
  have hB5 : ∀ (n5 : Nat) (ls : Array Slot) (l1 l2 l3 : Int32) (σ : rt_St) (H : Heap) (locs : List Loc), lv_has ls 4 [(0, .ref (A 33)), (1, .int l1), (2, .int l2), (3, .int l3)] → B_C_Arrays_fill_33_5 n5 l1 l2 l3 σ = some σ' → va_P D rt_cl (rtC_W cI cZ A σ) H → va_S (rt_A (rtC_W cI cZ A) s.heap.size) s.heap H locs → W p l e ({ frames := 0, cells := 0, slots := 0, locals := 0 } : Room) s m ([.ref (A 33), .int a1] : List Value).toArray below meth c H locs 0 0 (rt_Qv D rt_cl (rt_t cI cZ) rtC_X (rtC_W cI cZ A) below ([.ref (A 33), .int a1] : List Value).toArray s σ') (F0 m 5 ls []) := by
    intro n5
    induction n5 with
    | zero => intro ls l1 l2 l3 σ H locs hl hm hP hS; rw [B_C_Arrays_fill_33_5] at hm; cases hm
    | succ n5 ih5 =>
      intro ls l1 l2 l3 σ H locs hl hm hP hS
      rw [B_C_Arrays_fill_33_5] at hm
      refine lv_iload_n hx hb d_Arrays_fill_5 rfl (lv_at hl 2 rfl) ?_
      refine lv_iload_n hx hb d_Arrays_fill_6 rfl (lv_at hl 3 rfl) ?_
      refine lv_icmp_ge (tgt := 20) hx hb d_Arrays_fill_7 (by decide) (fun hc => ?_) (fun hc => ?_)
      · have hm := (if_pos hc).symm.trans hm
        exact W.vret hx hb hr (fun t ht hW => ⟨⟨_, rfl, Option.some.inj hm, rt_end rtC_Xo hK hP hS hX ht hW⟩, hS.F ht⟩) hS.2.2 d_Arrays_fill_20
      · have hm := (if_neg hc).symm.trans hm
        refine lv_aload_n hx hb d_Arrays_fill_10 rfl (lv_at hl 0 rfl) ?_
        refine lv_iload_n hx hb d_Arrays_fill_11 rfl (lv_at hl 2 rfl) ?_
        refine lv_iload_n hx hb d_Arrays_fill_12 rfl (lv_at hl 1 rfl) ?_
        obtain ⟨σ1, h2, hm⟩ := rt_b1s hm
        refine rt_ast hx hb hK hP hD hS 33 0 rfl (rtC_a33 cI cZ A _) rfl h2 d_Arrays_fill_13 (fun H locs hP hS => ?_)
        refine lv_iinc (k := 2) (v := (l2 + 1)) hx hb d_Arrays_fill_14 hl rfl rfl (by decide) rfl (fun ls hl => ?_)
        have hl : lv_has ls 4 [(2, .int (l2 + 1)), (0, .ref (A 33)), (1, .int l1), (3, .int l3)] := hl
        refine lv_goto (tgt := 5) hx hb d_Arrays_fill_17 (by decide) ?_
        exact ih5 ls l1 (l2 + 1) l3 σ1 _ _ (lv_sub hl [1, 2, 0, 3] rfl) hm hP hS
  unfold M_C_Arrays_fill_33 at hm
  refine lv_iconst (v := 0) hx hb d_Arrays_fill_0 (by decide) ?_
  refine lv_istore_n hx hb d_Arrays_fill_1 rfl hl (by decide) rfl (fun ls hl => ?_)
  have hl : lv_has ls 4 [(2, .int 0), (0, .ref (A 33)), (1, .int a1)] := hl
  refine lv_aload_n hx hb d_Arrays_fill_2 rfl (lv_at hl 1 rfl) ?_
  refine va_alen (v := 3) hx hb hK hP 33 0 rfl rfl rfl d_Arrays_fill_3 ?_
  refine lv_istore_n hx hb d_Arrays_fill_4 rfl hl (by decide) rfl (fun ls hl => ?_)
  have hl : lv_has ls 4 [(3, .int 3), (2, .int 0), (0, .ref (A 33)), (1, .int a1)] := hl
  exact hB5 _ ls a1 0 3 σ _ _ (lv_sub hl [2, 3, 1, 0] rfl) hm hP hS
set_option maxHeartbeats 4000000 in
set_option maxRecDepth 100000 in
theorem k_C_Arrays_fill_32 (l : Launch) (D : va_G) (cI cZ : ClassId) (A : Nat → Nat) (hO : rt_Ok (rtC_W cI cZ A)) (σ : rt_St) (a1 : Int32) (σ' : rt_St) (hm : M_C_Arrays_fill_32 σ a1 = some σ') (sz : Nat) : Met l y_Arrays_fill (rt_ws y_Arrays_fill b_Arrays_fill 4 none) ({ frames := 0, cells := 0, slots := 0, locals := 0 } : Room) (va_Pc [.ref (A 32), .int a1] (rt_P D rt_cl (rt_t cI cZ) rtC_X (rtC_W cI cZ A) sz σ)) (va_Qv (fun u1 => u1 = σ') (rt_B D rt_cl (rt_t cI cZ) rtC_X (rtC_W cI cZ A)) (rt_A (rtC_W cI cZ A) sz)) 0 0 (rt_A (rtC_W cI cZ A) sz) := by
  refine rt_ofW (cc := b_Arrays_fill) (maxL := 4) (ret := none) (by decide +kernel) rfl ?_
  intro p e s m args below meth c s₁ B hml hv
  obtain ⟨rfl, rfl, hP, hK, hX⟩ := hv
  have hx := B.exec
  have hb := B.bytes
  have hr := B.returns
  have hts := atoms_spec (ws := (rt_ws y_Arrays_fill b_Arrays_fill 4 none)) B.pre
  have hown : s.vm.findClass "java/util/Arrays" = some m.cls := findClass_of_methodNamed B.named
  have hlocks := B.notSynchronized
  have hD := rt_hD hO s.heap.size
  have hS : va_S (rt_A (rtC_W cI cZ A) s.heap.size) s.heap s.heap [] := va_S.rf
  have hl := lv_entry ([.ref (A 32), .int a1]) (n := 4) (Nat.le_of_ble_eq_true rfl)
  rw [lg_entry_eq]
  generalize (lg_sl ([.ref (A 32), .int a1]) ++ List.replicate (4 - (lg_sl ([.ref (A 32), .int a1])).length) Slot.unset).toArray = ls at hl ⊢
  have hl : lv_has ls 4 [(0, .ref (A 32)), (1, .int a1)] := hl
  show W p l e ({ frames := 0, cells := 0, slots := 0, locals := 0 } : Room) s m ([.ref (A 32), .int a1] : List Value).toArray below meth c s.heap [] 0 0 (rt_Qv D rt_cl (rt_t cI cZ) rtC_X (rtC_W cI cZ A) below ([.ref (A 32), .int a1] : List Value).toArray s σ') (F0 m 0 ls [])
  have hB5 : ∀ (n5 : Nat) (ls : Array Slot) (l1 l2 l3 : Int32) (σ : rt_St) (H : Heap) (locs : List Loc), lv_has ls 4 [(0, .ref (A 32)), (1, .int l1), (2, .int l2), (3, .int l3)] → B_C_Arrays_fill_32_5 n5 l1 l2 l3 σ = some σ' → va_P D rt_cl (rtC_W cI cZ A σ) H → va_S (rt_A (rtC_W cI cZ A) s.heap.size) s.heap H locs → W p l e ({ frames := 0, cells := 0, slots := 0, locals := 0 } : Room) s m ([.ref (A 32), .int a1] : List Value).toArray below meth c H locs 0 0 (rt_Qv D rt_cl (rt_t cI cZ) rtC_X (rtC_W cI cZ A) below ([.ref (A 32), .int a1] : List Value).toArray s σ') (F0 m 5 ls []) := by
    intro n5
    induction n5 with
    | zero => intro ls l1 l2 l3 σ H locs hl hm hP hS; rw [B_C_Arrays_fill_32_5] at hm; cases hm
    | succ n5 ih5 =>
      intro ls l1 l2 l3 σ H locs hl hm hP hS
      rw [B_C_Arrays_fill_32_5] at hm
      refine lv_iload_n hx hb d_Arrays_fill_5 rfl (lv_at hl 2 rfl) ?_
      refine lv_iload_n hx hb d_Arrays_fill_6 rfl (lv_at hl 3 rfl) ?_
      refine lv_icmp_ge (tgt := 20) hx hb d_Arrays_fill_7 (by decide) (fun hc => ?_) (fun hc => ?_)
      · have hm := (if_pos hc).symm.trans hm
        exact W.vret hx hb hr (fun t ht hW => ⟨⟨_, rfl, Option.some.inj hm, rt_end rtC_Xo hK hP hS hX ht hW⟩, hS.F ht⟩) hS.2.2 d_Arrays_fill_20
      · have hm := (if_neg hc).symm.trans hm
        refine lv_aload_n hx hb d_Arrays_fill_10 rfl (lv_at hl 0 rfl) ?_
        refine lv_iload_n hx hb d_Arrays_fill_11 rfl (lv_at hl 2 rfl) ?_
        refine lv_iload_n hx hb d_Arrays_fill_12 rfl (lv_at hl 1 rfl) ?_
        obtain ⟨σ1, h2, hm⟩ := rt_b1s hm
        refine rt_ast hx hb hK hP hD hS 32 0 rfl (rtC_a32 cI cZ A _) rfl h2 d_Arrays_fill_13 (fun H locs hP hS => ?_)
        refine lv_iinc (k := 2) (v := (l2 + 1)) hx hb d_Arrays_fill_14 hl rfl rfl (by decide) rfl (fun ls hl => ?_)
        have hl : lv_has ls 4 [(2, .int (l2 + 1)), (0, .ref (A 32)), (1, .int l1), (3, .int l3)] := hl
        refine lv_goto (tgt := 5) hx hb d_Arrays_fill_17 (by decide) ?_
        exact ih5 ls l1 (l2 + 1) l3 σ1 _ _ (lv_sub hl [1, 2, 0, 3] rfl) hm hP hS
  unfold M_C_Arrays_fill_32 at hm
  refine lv_iconst (v := 0) hx hb d_Arrays_fill_0 (by decide) ?_
  refine lv_istore_n hx hb d_Arrays_fill_1 rfl hl (by decide) rfl (fun ls hl => ?_)
  have hl : lv_has ls 4 [(2, .int 0), (0, .ref (A 32)), (1, .int a1)] := hl
  refine lv_aload_n hx hb d_Arrays_fill_2 rfl (lv_at hl 1 rfl) ?_
  refine va_alen (v := 16) hx hb hK hP 32 0 rfl rfl rfl d_Arrays_fill_3 ?_
  refine lv_istore_n hx hb d_Arrays_fill_4 rfl hl (by decide) rfl (fun ls hl => ?_)
  have hl : lv_has ls 4 [(3, .int 16), (2, .int 0), (0, .ref (A 32)), (1, .int a1)] := hl
  exact hB5 _ ls a1 0 16 σ _ _ (lv_sub hl [2, 3, 1, 0] rfl) hm hP hS
set_option maxHeartbeats 4000000 in
set_option maxRecDepth 100000 in
theorem k_C_Foreteller_clear (l : Launch) (D : va_G) (cI cZ : ClassId) (A : Nat → Nat) (hO : rt_Ok (rtC_W cI cZ A)) (σ : rt_St) (σ' : rt_St) (hm : M_C_Foreteller_clear σ = some σ') (sz : Nat) : Met l y_Foreteller_clear (rt_ws y_Foreteller_clear b_Foreteller_clear 2 none) ({ frames := 1, cells := 0, slots := 0, locals := 23 } : Room) (va_Pc [.ref (A 29)] (rt_P D rt_cl (rt_t cI cZ) rtC_X (rtC_W cI cZ A) sz σ)) (va_Qv (fun u1 => u1 = σ') (rt_B D rt_cl (rt_t cI cZ) rtC_X (rtC_W cI cZ A)) (rt_A (rtC_W cI cZ A) sz)) 0 0 (rt_A (rtC_W cI cZ A) sz) := by
  refine Met.ofW (cc := b_Foreteller_clear) (maxL := 2) (ret := none) (by decide) rfl ?_
  intro p e s m args below meth c s₁ B hml hv
  obtain ⟨rfl, rfl, hP, hK, hX⟩ := hv
  have hx := B.exec
  have hb := B.bytes
  have hr := B.returns
  have hts := atoms_spec (ws := (rt_ws y_Foreteller_clear b_Foreteller_clear 2 none)) B.pre
  have hown : s.vm.findClass "RangeTeller$Foreteller" = some m.cls := findClass_of_methodNamed B.named
  have hlocks := B.notSynchronized
  have hD := rt_hD hO s.heap.size
  have hS : va_S (rt_A (rtC_W cI cZ A) s.heap.size) s.heap s.heap [] := va_S.rf
  have hl := lv_entry ([.ref (A 29)]) (n := 2) (Nat.le_of_ble_eq_true rfl)
  rw [lg_entry_eq]
  generalize (lg_sl ([.ref (A 29)]) ++ List.replicate (2 - (lg_sl ([.ref (A 29)])).length) Slot.unset).toArray = ls at hl ⊢
  have hl : lv_has ls 2 [(0, .ref (A 29))] := hl
  show W p l e ({ frames := 1, cells := 0, slots := 0, locals := 23 } : Room) s m ([.ref (A 29)] : List Value).toArray below meth c s.heap [] 0 0 (rt_Qv D rt_cl (rt_t cI cZ) rtC_X (rtC_W cI cZ A) below ([.ref (A 29)] : List Value).toArray s σ') (F0 m 0 ls [])
  have hB30 : ∀ (n30 : Nat) (ls : Array Slot) (l1 : Int32) (σ : rt_St) (H : Heap) (locs : List Loc), lv_has ls 2 [(0, .ref (A 29)), (1, .int l1)] → B_C_Foreteller_clear_30 n30 l1 σ = some σ' → va_P D rt_cl (rtC_W cI cZ A σ) H → va_S (rt_A (rtC_W cI cZ A) s.heap.size) s.heap H locs → W p l e ({ frames := 1, cells := 0, slots := 0, locals := 23 } : Room) s m ([.ref (A 29)] : List Value).toArray below meth c H locs 0 0 (rt_Qv D rt_cl (rt_t cI cZ) rtC_X (rtC_W cI cZ A) below ([.ref (A 29)] : List Value).toArray s σ') (F0 m 30 ls []) := by
    intro n30
    induction n30 with
    | zero => intro ls l1 σ H locs hl hm hP hS; rw [B_C_Foreteller_clear_30] at hm; cases hm
    | succ n30 ih30 =>
      intro ls l1 σ H locs hl hm hP hS
      rw [B_C_Foreteller_clear_30] at hm
      refine lv_iload_n hx hb d_Foreteller_clear_30 rfl (lv_at hl 1 rfl) ?_
      refine lv_iconst (v := 3) hx hb d_Foreteller_clear_31 (by decide) ?_
      refine lv_icmp_ge (tgt := 48) hx hb d_Foreteller_clear_32 (by decide) (fun hc => ?_) (fun hc => ?_)
      · have hm := (if_pos hc).symm.trans hm
        refine lv_aload_n hx hb d_Foreteller_clear_48 rfl (lv_at hl 0 rfl) ?_
        refine va_get (D := D) (v := .ref (A 36)) (C := "RangeTeller$Foreteller") (T := rt_T5) (N := 13) hx hb hts rt_i5 hown hK hP 29 rfl rfl 7 (by decide) (hts _ (rt_m rt_w345)) (fun _ h9 => h9) rfl d_Foreteller_clear_49 ?_
        refine lv_bipush (v := (-3)) hx hb d_Foreteller_clear_52 (by decide) ?_
        obtain ⟨σ2, h1, hm⟩ := rt_b1s hm
        refine rt_cwv (As := [.ref (A 36), .int (-3)]) (rest := []) rtC_Xo ⟨hx, hb, hml, hown, hts⟩ (k_C_Arrays_fill_36 l D cI cZ A hO σ (-3) _ h1) (cw_Arrays_fill hts (hts _ (rt_m rt_w549)) ⟨Nat.le_of_ble_eq_true rfl, Nat.le_of_ble_eq_true rfl⟩) hK hP hS hX rfl hl.1 rfl (Nat.le_of_ble_eq_true rfl) d_Foreteller_clear_54 ⟨Nat.zero_le _, Nat.zero_le _⟩ (fun H locs hP hS => ?_)
        refine lv_aload_n hx hb d_Foreteller_clear_57 rfl (lv_at hl 0 rfl) ?_
        refine va_get (D := D) (v := .ref (A 37)) (C := "RangeTeller$Foreteller") (T := rt_T5) (N := 13) hx hb hts rt_i5 hown hK hP 29 rfl rfl 8 (by decide) (hts _ (rt_m rt_w346)) (fun _ h9 => h9) rfl d_Foreteller_clear_58 ?_
        refine lv_bipush (v := (-3)) hx hb d_Foreteller_clear_61 (by decide) ?_
        obtain ⟨σ4, h3, hm⟩ := rt_b1s hm
        refine rt_cwv (As := [.ref (A 37), .int (-3)]) (rest := []) rtC_Xo ⟨hx, hb, hml, hown, hts⟩ (k_C_Arrays_fill_37 l D cI cZ A hO σ2 (-3) _ h3) (cw_Arrays_fill hts (hts _ (rt_m rt_w549)) ⟨Nat.le_of_ble_eq_true rfl, Nat.le_of_ble_eq_true rfl⟩) hK hP hS hX rfl hl.1 rfl (Nat.le_of_ble_eq_true rfl) d_Foreteller_clear_63 ⟨Nat.zero_le _, Nat.zero_le _⟩ (fun H locs hP hS => ?_)
        refine lv_aload_n hx hb d_Foreteller_clear_66 rfl (lv_at hl 0 rfl) ?_
        refine va_get (D := D) (v := .ref (A 38)) (C := "RangeTeller$Foreteller") (T := rt_T5) (N := 13) hx hb hts rt_i5 hown hK hP 29 rfl rfl 9 (by decide) (hts _ (rt_m rt_w347)) (fun _ h9 => h9) rfl d_Foreteller_clear_67 ?_
        refine lv_bipush (v := (-3)) hx hb d_Foreteller_clear_70 (by decide) ?_
        obtain ⟨σ6, h5, hm⟩ := rt_b1s hm
        refine rt_cwv (As := [.ref (A 38), .int (-3)]) (rest := []) rtC_Xo ⟨hx, hb, hml, hown, hts⟩ (k_C_Arrays_fill_38 l D cI cZ A hO σ4 (-3) _ h5) (cw_Arrays_fill hts (hts _ (rt_m rt_w549)) ⟨Nat.le_of_ble_eq_true rfl, Nat.le_of_ble_eq_true rfl⟩) hK hP hS hX rfl hl.1 rfl (Nat.le_of_ble_eq_true rfl) d_Foreteller_clear_72 ⟨Nat.zero_le _, Nat.zero_le _⟩ (fun H locs hP hS => ?_)
        refine lv_aload_n hx hb d_Foreteller_clear_75 rfl (lv_at hl 0 rfl) ?_
        refine va_get (D := D) (v := .ref (A 33)) (C := "RangeTeller$Foreteller") (T := rt_T5) (N := 13) hx hb hts rt_i5 hown hK hP 29 rfl rfl 4 (by decide) (hts _ (rt_m rt_w340)) (fun _ h9 => h9) rfl d_Foreteller_clear_76 ?_
        refine lv_bipush (v := (-3)) hx hb d_Foreteller_clear_79 (by decide) ?_
        obtain ⟨σ8, h7, hm⟩ := rt_b1s hm
        refine rt_cwv (As := [.ref (A 33), .int (-3)]) (rest := []) rtC_Xo ⟨hx, hb, hml, hown, hts⟩ (k_C_Arrays_fill_33 l D cI cZ A hO σ6 (-3) _ h7) (cw_Arrays_fill hts (hts _ (rt_m rt_w549)) ⟨Nat.le_of_ble_eq_true rfl, Nat.le_of_ble_eq_true rfl⟩) hK hP hS hX rfl hl.1 rfl (Nat.le_of_ble_eq_true rfl) d_Foreteller_clear_81 ⟨Nat.zero_le _, Nat.zero_le _⟩ (fun H locs hP hS => ?_)
        refine lv_aload_n hx hb d_Foreteller_clear_84 rfl (lv_at hl 0 rfl) ?_
        refine va_get (D := D) (v := .ref (A 32)) (C := "RangeTeller$Foreteller") (T := rt_T5) (N := 13) hx hb hts rt_i5 hown hK hP 29 rfl rfl 3 (by decide) (hts _ (rt_m rt_w338)) (fun _ h9 => h9) rfl d_Foreteller_clear_85 ?_
        refine lv_iconst (v := 0) hx hb d_Foreteller_clear_88 (by decide) ?_
        obtain ⟨σ10, h9, hm⟩ := rt_b1s hm
        refine rt_cwv (As := [.ref (A 32), .int 0]) (rest := []) rtC_Xo ⟨hx, hb, hml, hown, hts⟩ (k_C_Arrays_fill_32 l D cI cZ A hO σ8 0 _ h9) (cw_Arrays_fill hts (hts _ (rt_m rt_w549)) ⟨Nat.le_of_ble_eq_true rfl, Nat.le_of_ble_eq_true rfl⟩) hK hP hS hX rfl hl.1 rfl (Nat.le_of_ble_eq_true rfl) d_Foreteller_clear_89 ⟨Nat.zero_le _, Nat.zero_le _⟩ (fun H locs hP hS => ?_)
        exact W.vret hx hb hr (fun t ht hW => ⟨⟨_, rfl, Option.some.inj hm, rt_end rtC_Xo hK hP hS hX ht hW⟩, hS.F ht⟩) hS.2.2 d_Foreteller_clear_92
      · have hm := (if_neg hc).symm.trans hm
        refine lv_aload_n hx hb d_Foreteller_clear_35 rfl (lv_at hl 0 rfl) ?_
        refine va_get (D := D) (v := .ref (A 34)) (C := "RangeTeller$Foreteller") (T := rt_T5) (N := 13) hx hb hts rt_i5 hown hK hP 29 rfl rfl 5 (by decide) (hts _ (rt_m rt_w342)) (fun _ h9 => h9) rfl d_Foreteller_clear_36 ?_
        refine lv_iload_n hx hb d_Foreteller_clear_39 rfl (lv_at hl 1 rfl) ?_
        refine lv_iconst (v := 0) hx hb d_Foreteller_clear_40 (by decide) ?_
        obtain ⟨σ11, h12, hm⟩ := rt_b1s hm
        refine rt_zst hx hb hK hP hD hS 34 1 rfl (rtC_a34 cI cZ A _) rfl rfl h12 d_Foreteller_clear_41 (fun H locs hP hS => ?_)
        refine lv_iinc (k := 1) (v := (l1 + 1)) hx hb d_Foreteller_clear_42 hl rfl rfl (by decide) rfl (fun ls hl => ?_)
        have hl : lv_has ls 2 [(1, .int (l1 + 1)), (0, .ref (A 29))] := hl
        refine lv_goto (tgt := 30) hx hb d_Foreteller_clear_45 (by decide) ?_
        exact ih30 ls (l1 + 1) σ11 _ _ (lv_sub hl [1, 0] rfl) hm hP hS
  have hB2 : ∀ (n2 : Nat) (ls : Array Slot) (l1 : Int32) (σ : rt_St) (H : Heap) (locs : List Loc), lv_has ls 2 [(0, .ref (A 29)), (1, .int l1)] → B_C_Foreteller_clear_2 n2 l1 σ = some σ' → va_P D rt_cl (rtC_W cI cZ A σ) H → va_S (rt_A (rtC_W cI cZ A) s.heap.size) s.heap H locs → W p l e ({ frames := 1, cells := 0, slots := 0, locals := 23 } : Room) s m ([.ref (A 29)] : List Value).toArray below meth c H locs 0 0 (rt_Qv D rt_cl (rt_t cI cZ) rtC_X (rtC_W cI cZ A) below ([.ref (A 29)] : List Value).toArray s σ') (F0 m 2 ls []) := by
    intro n2
    induction n2 with
    | zero => intro ls l1 σ H locs hl hm hP hS; rw [B_C_Foreteller_clear_2] at hm; cases hm
    | succ n2 ih2 =>
      intro ls l1 σ H locs hl hm hP hS
      rw [B_C_Foreteller_clear_2] at hm
      refine lv_iload_n hx hb d_Foreteller_clear_2 rfl (lv_at hl 1 rfl) ?_
      refine lv_bipush (v := 100) hx hb d_Foreteller_clear_3 (by decide) ?_
      refine lv_icmp_ge (tgt := 28) hx hb d_Foreteller_clear_5 (by decide) (fun hc => ?_) (fun hc => ?_)
      · have hm := (if_pos hc).symm.trans hm
        refine lv_iconst (v := 0) hx hb d_Foreteller_clear_28 (by decide) ?_
        refine lv_istore_n hx hb d_Foreteller_clear_29 rfl hl (by decide) rfl (fun ls hl => ?_)
        have hl : lv_has ls 2 [(1, .int 0), (0, .ref (A 29))] := hl
        exact hB30 _ ls 0 σ _ _ (lv_sub hl [1, 0] rfl) hm hP hS
      · have hm := (if_neg hc).symm.trans hm
        refine lv_aload_n hx hb d_Foreteller_clear_8 rfl (lv_at hl 0 rfl) ?_
        refine va_get (D := D) (v := .ref (A 30)) (C := "RangeTeller$Foreteller") (T := rt_T5) (N := 13) hx hb hts rt_i5 hown hK hP 29 rfl rfl 1 (by decide) (hts _ (rt_m rt_w334)) (fun _ h9 => h9) rfl d_Foreteller_clear_9 ?_
        refine lv_iload_n hx hb d_Foreteller_clear_12 rfl (lv_at hl 1 rfl) ?_
        refine lv_iconst (v := 0) hx hb d_Foreteller_clear_13 (by decide) ?_
        obtain ⟨σ13, h14, hm⟩ := rt_b1s hm
        refine rt_zst hx hb hK hP hD hS 30 1 rfl (rtC_a30 cI cZ A _) rfl rfl h14 d_Foreteller_clear_14 (fun H locs hP hS => ?_)
        refine lv_aload_n hx hb d_Foreteller_clear_15 rfl (lv_at hl 0 rfl) ?_
        refine va_get (D := D) (v := .ref (A 35)) (C := "RangeTeller$Foreteller") (T := rt_T5) (N := 13) hx hb hts rt_i5 hown hK hP 29 rfl rfl 6 (by decide) (hts _ (rt_m rt_w344)) (fun _ h9 => h9) rfl d_Foreteller_clear_16 ?_
        refine lv_iload_n hx hb d_Foreteller_clear_19 rfl (lv_at hl 1 rfl) ?_
        refine lv_iconst (v := 0) hx hb d_Foreteller_clear_20 (by decide) ?_
        obtain ⟨σ15, h16, hm⟩ := rt_b1s hm
        refine rt_zst hx hb hK hP hD hS 35 1 rfl (rtC_a35 cI cZ A _) rfl rfl h16 d_Foreteller_clear_21 (fun H locs hP hS => ?_)
        refine lv_iinc (k := 1) (v := (l1 + 1)) hx hb d_Foreteller_clear_22 hl rfl rfl (by decide) rfl (fun ls hl => ?_)
        have hl : lv_has ls 2 [(1, .int (l1 + 1)), (0, .ref (A 29))] := hl
        refine lv_goto (tgt := 2) hx hb d_Foreteller_clear_25 (by decide) ?_
        exact ih2 ls (l1 + 1) σ15 _ _ (lv_sub hl [1, 0] rfl) hm hP hS
  unfold M_C_Foreteller_clear at hm
  refine lv_iconst (v := 0) hx hb d_Foreteller_clear_0 (by decide) ?_
  refine lv_istore_n hx hb d_Foreteller_clear_1 rfl hl (by decide) rfl (fun ls hl => ?_)
  have hl : lv_has ls 2 [(1, .int 0), (0, .ref (A 29))] := hl
  exact hB2 _ ls 0 σ _ _ (lv_sub hl [1, 0] rfl) hm hP hS
set_option maxHeartbeats 4000000 in
set_option maxRecDepth 100000 in
theorem k_C_Ranges_join (l : Launch) (a0 a1 : Int32) (r' : Int32) (hm : M_C_Ranges_join a0 a1 = some r') : rt_MS l y_Ranges_join b_Ranges_join 4 (some .int) ({ frames := 0, cells := 0, slots := 0, locals := 0 } : Room) rt_X0 [.int a0, .int a1] r' := by
  intro sz
  refine Met.ofW (cc := b_Ranges_join) (maxL := 4) (ret := (some .int)) (by decide) rfl ?_
  intro p e s m args below meth c s₁ B hml hv
  obtain ⟨rfl, rfl, hX⟩ := hv
  have hx := B.exec
  have hb := B.bytes
  have hr := B.returns
  have hts := atoms_spec (ws := (rt_ws y_Ranges_join b_Ranges_join 4 (some .int))) B.pre
  have hown : s.vm.findClass "RangeTeller$Ranges" = some m.cls := findClass_of_methodNamed B.named
  have hlocks := B.notSynchronized
  have hS : va_S (fun q => s.heap.size ≤ q) s.heap s.heap [] := va_S.rf
  have hl := lv_entry ([.int a0, .int a1]) (n := 4) (Nat.le_of_ble_eq_true rfl)
  rw [lg_entry_eq]
  generalize (lg_sl ([.int a0, .int a1]) ++ List.replicate (4 - (lg_sl ([.int a0, .int a1])).length) Slot.unset).toArray = ls at hl ⊢
  have hl : lv_has ls 4 [(0, .int a0), (1, .int a1)] := hl
  show W p l e ({ frames := 0, cells := 0, slots := 0, locals := 0 } : Room) s m ([.int a0, .int a1] : List Value).toArray below meth c s.heap [] 0 0 (rt_Qs below ([.int a0, .int a1] : List Value).toArray s r') (F0 m 0 ls [])
  have hB70 : ∀ (ls : Array Slot) (l0 l1 l2 t0 : Int32) (H : Heap) (locs : List Loc), lv_has ls 4 [(0, .int l0), (1, .int l1), (2, .int l2)] → B_C_Ranges_join_70 l0 l1 l2 t0 = some r' → va_S (fun q => s.heap.size ≤ q) s.heap H locs → W p l e ({ frames := 0, cells := 0, slots := 0, locals := 0 } : Room) s m ([.int a0, .int a1] : List Value).toArray below meth c H locs 0 0 (rt_Qs below ([.int a0, .int a1] : List Value).toArray s r') (F0 m 70 ls [.int t0]) := by
    intro ls l0 l1 l2 t0 H locs hl hm hS
    unfold B_C_Ranges_join_70 at hm
    refine lv_istore_n hx hb d_Ranges_join_70 rfl hl (by decide) rfl (fun ls hl => ?_)
    have hl : lv_has ls 4 [(3, .int t0), (0, .int l0), (1, .int l1), (2, .int l2)] := hl
    refine lv_iload_n hx hb d_Ranges_join_71 rfl (lv_at hl 3 rfl) ?_
    refine lv_iload_n hx hb d_Ranges_join_72 rfl (lv_at hl 0 rfl) ?_
    refine lv_ior hx hb d_Ranges_join_73 ?_
    refine lv_iload_n hx hb d_Ranges_join_74 rfl (lv_at hl 1 rfl) ?_
    refine lv_iload_n hx hb d_Ranges_join_75 rfl (lv_at hl 2 rfl) ?_
    refine lv_ior hx hb d_Ranges_join_76 ?_
    refine lv_sipush (v := 4096) hx hb d_Ranges_join_77 (by decide) ?_
    refine lv_iand hx hb d_Ranges_join_80 ?_
    refine lv_ior hx hb d_Ranges_join_81 ?_
    exact W.iret hx hb hr (fun t ht hW => ⟨⟨_, (), rfl, Option.some.inj hm, trivial⟩, hS.F ht⟩) hS.2.2 d_Ranges_join_82
  have hB43 : ∀ (ls : Array Slot) (l0 l1 t0 : Int32) (H : Heap) (locs : List Loc), lv_has ls 4 [(0, .int l0), (1, .int l1)] → B_C_Ranges_join_43 l0 l1 t0 = some r' → va_S (fun q => s.heap.size ≤ q) s.heap H locs → W p l e ({ frames := 0, cells := 0, slots := 0, locals := 0 } : Room) s m ([.int a0, .int a1] : List Value).toArray below meth c H locs 0 0 (rt_Qs below ([.int a0, .int a1] : List Value).toArray s r') (F0 m 43 ls [.int t0]) := by
    intro ls l0 l1 t0 H locs hl hm hS
    unfold B_C_Ranges_join_43 at hm
    refine lv_istore_n hx hb d_Ranges_join_43 rfl hl (by decide) rfl (fun ls hl => ?_)
    have hl : lv_has ls 4 [(2, .int t0), (0, .int l0), (1, .int l1)] := hl
    refine lv_iload_n hx hb d_Ranges_join_44 rfl (lv_at hl 1 rfl) ?_
    refine lv_sipush (v := 4032) hx hb d_Ranges_join_45 (by decide) ?_
    refine lv_iand hx hb d_Ranges_join_48 ?_
    refine lv_iload_n hx hb d_Ranges_join_49 rfl (lv_at hl 2 rfl) ?_
    refine lv_sipush (v := 4032) hx hb d_Ranges_join_50 (by decide) ?_
    refine lv_iand hx hb d_Ranges_join_53 ?_
    refine lv_icmp_le (tgt := 65) hx hb d_Ranges_join_54 (by decide) (fun hc => ?_) (fun hc => ?_)
    · have hm := (if_pos hc).symm.trans hm
      refine lv_iload_n hx hb d_Ranges_join_65 rfl (lv_at hl 2 rfl) ?_
      refine lv_sipush (v := 4032) hx hb d_Ranges_join_66 (by decide) ?_
      refine lv_iand hx hb d_Ranges_join_69 ?_
      exact hB70 ls l0 l1 t0 (l1 &&& 4032) _ _ (lv_sub hl [1, 2, 0] rfl) hm hS
    · have hm := (if_neg hc).symm.trans hm
      refine lv_iload_n hx hb d_Ranges_join_57 rfl (lv_at hl 1 rfl) ?_
      refine lv_sipush (v := 4032) hx hb d_Ranges_join_58 (by decide) ?_
      refine lv_iand hx hb d_Ranges_join_61 ?_
      refine lv_goto (tgt := 70) hx hb d_Ranges_join_62 (by decide) ?_
      exact hB70 ls l0 l1 t0 (l0 &&& 4032) _ _ (lv_sub hl [1, 2, 0] rfl) hm hS
  unfold M_C_Ranges_join at hm
  refine lv_iload_n hx hb d_Ranges_join_0 rfl (lv_at hl 0 rfl) ?_
  refine lv_bipush (v := (-3)) hx hb d_Ranges_join_1 (by decide) ?_
  refine lv_icmp_ne (tgt := 8) hx hb d_Ranges_join_3 (by decide) (fun hc => ?_) (fun hc => ?_)
  · have hm := (if_neg hc).symm.trans hm
    refine lv_iload_n hx hb d_Ranges_join_8 rfl (lv_at hl 1 rfl) ?_
    refine lv_bipush (v := (-3)) hx hb d_Ranges_join_9 (by decide) ?_
    refine lv_icmp_eq (tgt := 19) hx hb d_Ranges_join_11 (by decide) (fun hc => ?_) (fun hc => ?_)
    · have hm := (if_pos hc).symm.trans hm
      refine lv_iload_n hx hb d_Ranges_join_19 rfl (lv_at hl 0 rfl) ?_
      exact W.iret hx hb hr (fun t ht hW => ⟨⟨_, (), rfl, Option.some.inj hm, trivial⟩, hS.F ht⟩) hS.2.2 d_Ranges_join_20
    · have hm := (if_neg hc).symm.trans hm
      refine lv_iload_n hx hb d_Ranges_join_14 rfl (lv_at hl 1 rfl) ?_
      refine lv_iload_n hx hb d_Ranges_join_15 rfl (lv_at hl 0 rfl) ?_
      refine lv_icmp_ne (tgt := 21) hx hb d_Ranges_join_16 (by decide) (fun hc => ?_) (fun hc => ?_)
      · have hm := (if_neg hc).symm.trans hm
        refine lv_iload_n hx hb d_Ranges_join_21 rfl (lv_at hl 0 rfl) ?_
        refine lv_bipush (v := 63) hx hb d_Ranges_join_22 (by decide) ?_
        refine lv_iand hx hb d_Ranges_join_24 ?_
        refine lv_iload_n hx hb d_Ranges_join_25 rfl (lv_at hl 1 rfl) ?_
        refine lv_bipush (v := 63) hx hb d_Ranges_join_26 (by decide) ?_
        refine lv_iand hx hb d_Ranges_join_28 ?_
        refine lv_icmp_ge (tgt := 39) hx hb d_Ranges_join_29 (by decide) (fun hc => ?_) (fun hc => ?_)
        · have hm := (if_pos hc).symm.trans hm
          refine lv_iload_n hx hb d_Ranges_join_39 rfl (lv_at hl 1 rfl) ?_
          refine lv_bipush (v := 63) hx hb d_Ranges_join_40 (by decide) ?_
          refine lv_iand hx hb d_Ranges_join_42 ?_
          exact hB43 ls a0 a1 (a1 &&& 63) _ _ (lv_sub hl [0, 1] rfl) hm hS
        · have hm := (if_neg hc).symm.trans hm
          refine lv_iload_n hx hb d_Ranges_join_32 rfl (lv_at hl 0 rfl) ?_
          refine lv_bipush (v := 63) hx hb d_Ranges_join_33 (by decide) ?_
          refine lv_iand hx hb d_Ranges_join_35 ?_
          refine lv_goto (tgt := 43) hx hb d_Ranges_join_36 (by decide) ?_
          exact hB43 ls a0 a1 (a0 &&& 63) _ _ (lv_sub hl [0, 1] rfl) hm hS
      · have hm := (if_pos hc).symm.trans hm
        refine lv_iload_n hx hb d_Ranges_join_19 rfl (lv_at hl 0 rfl) ?_
        exact W.iret hx hb hr (fun t ht hW => ⟨⟨_, (), rfl, Option.some.inj hm, trivial⟩, hS.F ht⟩) hS.2.2 d_Ranges_join_20
  · have hm := (if_pos hc).symm.trans hm
    refine lv_iload_n hx hb d_Ranges_join_6 rfl (lv_at hl 1 rfl) ?_
    exact W.iret hx hb hr (fun t ht hW => ⟨⟨_, (), rfl, Option.some.inj hm, trivial⟩, hS.F ht⟩) hS.2.2 d_Ranges_join_7
