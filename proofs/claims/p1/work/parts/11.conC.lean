set_option maxHeartbeats 4000000 in
set_option maxRecDepth 100000 in
theorem k_C_Foreteller_joinInto_36_39 (l : Launch) (D : va_G) (cI cZ : ClassId) (A : Nat → Nat) (hO : rt_Ok (rtC_W cI cZ A)) (σ : rt_St) (a1 a3 a4 : Int32) (r' : Int32) (σ' : rt_St) (hm : M_C_Foreteller_joinInto_36_39 σ a1 a3 a4 = some (r', σ')) (sz : Nat) : Met l y_Foreteller_joinInto (rt_ws y_Foreteller_joinInto b_Foreteller_joinInto 8 (some .boolean)) ({ frames := 1, cells := 0, slots := 0, locals := 23 } : Room) (va_Pc [.ref (A 36), .int a1, .ref (A 39), .int a3, .int a4] (rt_P D rt_cl (rt_t cI cZ) rtC_X (rtC_W cI cZ A) sz σ)) (va_Qi (fun r1 u1 => r1 = r' ∧ u1 = σ') (rt_B D rt_cl (rt_t cI cZ) rtC_X (rtC_W cI cZ A)) (rt_A (rtC_W cI cZ A) sz)) 0 0 (rt_A (rtC_W cI cZ A) sz) := by
  refine Met.ofW (cc := b_Foreteller_joinInto) (maxL := 8) (ret := (some .boolean)) (by decide) rfl ?_
  intro p e s m args below meth c s₁ B hml hv
  obtain ⟨rfl, rfl, hP, hK, hX⟩ := hv
  have hx := B.exec
  have hb := B.bytes
  have hr := B.returns
  have hts := atoms_spec (ws := (rt_ws y_Foreteller_joinInto b_Foreteller_joinInto 8 (some .boolean))) B.pre
  have hown : s.vm.findClass "RangeTeller$Foreteller" = some m.cls := findClass_of_methodNamed B.named
  have hlocks := B.notSynchronized
  have hD := rt_hD hO s.heap.size
  have hS : va_S (rt_A (rtC_W cI cZ A) s.heap.size) s.heap s.heap [] := va_S.rf
  have hl := lv_entry ([.ref (A 36), .int a1, .ref (A 39), .int a3, .int a4]) (n := 8) (Nat.le_of_ble_eq_true rfl)
  rw [lg_entry_eq]
  generalize (lg_sl ([.ref (A 36), .int a1, .ref (A 39), .int a3, .int a4]) ++ List.replicate (8 - (lg_sl ([.ref (A 36), .int a1, .ref (A 39), .int a3, .int a4])).length) Slot.unset).toArray = ls at hl ⊢
  have hl : lv_has ls 8 [(0, .ref (A 36)), (1, .int a1), (2, .ref (A 39)), (3, .int a3), (4, .int a4)] := hl
  show W p l e ({ frames := 1, cells := 0, slots := 0, locals := 23 } : Room) s m ([.ref (A 36), .int a1, .ref (A 39), .int a3, .int a4] : List Value).toArray below meth c s.heap [] 0 0 (rt_Qi D rt_cl (rt_t cI cZ) rtC_X (rtC_W cI cZ A) below ([.ref (A 36), .int a1, .ref (A 39), .int a3, .int a4] : List Value).toArray s r' σ') (F0 m 0 ls [])
  have hB6 : ∀ (n6 : Nat) (ls : Array Slot) (l1 l3 l4 l5 l6 : Int32) (σ : rt_St) (H : Heap) (locs : List Loc), lv_has ls 8 [(0, .ref (A 36)), (1, .int l1), (2, .ref (A 39)), (3, .int l3), (4, .int l4), (5, .int l5), (6, .int l6)] → B_C_Foreteller_joinInto_36_39_6 n6 l1 l3 l4 l5 l6 σ = some (r', σ') → va_P D rt_cl (rtC_W cI cZ A σ) H → va_S (rt_A (rtC_W cI cZ A) s.heap.size) s.heap H locs → W p l e ({ frames := 1, cells := 0, slots := 0, locals := 23 } : Room) s m ([.ref (A 36), .int a1, .ref (A 39), .int a3, .int a4] : List Value).toArray below meth c H locs 0 0 (rt_Qi D rt_cl (rt_t cI cZ) rtC_X (rtC_W cI cZ A) below ([.ref (A 36), .int a1, .ref (A 39), .int a3, .int a4] : List Value).toArray s r' σ') (F0 m 6 ls []) := by
    intro n6
    induction n6 with
    | zero => intro ls l1 l3 l4 l5 l6 σ H locs hl hm hP hS; rw [B_C_Foreteller_joinInto_36_39_6] at hm; cases hm
    | succ n6 ih6 =>
      have hB52 : ∀ (ls : Array Slot) (l1 l3 l4 l5 l6 : Int32) (σ : rt_St) (H : Heap) (locs : List Loc), lv_has ls 8 [(0, .ref (A 36)), (1, .int l1), (2, .ref (A 39)), (3, .int l3), (4, .int l4), (5, .int l5), (6, .int l6)] → B_C_Foreteller_joinInto_36_39_52 (B_C_Foreteller_joinInto_36_39_6 n6) l1 l3 l4 l5 l6 σ = some (r', σ') → va_P D rt_cl (rtC_W cI cZ A σ) H → va_S (rt_A (rtC_W cI cZ A) s.heap.size) s.heap H locs → W p l e ({ frames := 1, cells := 0, slots := 0, locals := 23 } : Room) s m ([.ref (A 36), .int a1, .ref (A 39), .int a3, .int a4] : List Value).toArray below meth c H locs 0 0 (rt_Qi D rt_cl (rt_t cI cZ) rtC_X (rtC_W cI cZ A) below ([.ref (A 36), .int a1, .ref (A 39), .int a3, .int a4] : List Value).toArray s r' σ') (F0 m 52 ls []) := by
        intro ls l1 l3 l4 l5 l6 σ H locs hl hm hP hS
        unfold B_C_Foreteller_joinInto_36_39_52 at hm
        refine lv_iinc (k := 6) (v := (l6 + 1)) hx hb d_Foreteller_joinInto_52 hl rfl rfl (by decide) rfl (fun ls hl => ?_)
        have hl : lv_has ls 8 [(6, .int (l6 + 1)), (0, .ref (A 36)), (1, .int l1), (2, .ref (A 39)), (3, .int l3), (4, .int l4), (5, .int l5)] := hl
        refine lv_goto (tgt := 6) hx hb d_Foreteller_joinInto_55 (by decide) ?_
        exact ih6 ls l1 l3 l4 l5 (l6 + 1) σ _ _ (lv_sub hl [1, 2, 3, 4, 5, 6, 0] rfl) hm hP hS
      intro ls l1 l3 l4 l5 l6 σ H locs hl hm hP hS
      rw [B_C_Foreteller_joinInto_36_39_6] at hm
      refine lv_iload hx hb d_Foreteller_joinInto_6 (lv_at hl 6 rfl) ?_
      refine lv_iload hx hb d_Foreteller_joinInto_8 (lv_at hl 4 rfl) ?_
      refine lv_icmp_ge (tgt := 58) hx hb d_Foreteller_joinInto_10 (by decide) (fun hc => ?_) (fun hc => ?_)
      · have hm := (if_pos hc).symm.trans hm
        refine lv_iload hx hb d_Foreteller_joinInto_58 (lv_at hl 5 rfl) ?_
        obtain ⟨_, h1, hm⟩ := rt_b1s hm
        exact W.zret hx hb hr (rt_zoks h1) (fun t ht hW => ⟨⟨_, _, rfl, rt_pr hm, rt_end rtC_Xo hK hP hS hX ht hW⟩, hS.F ht⟩) hS.2.2 d_Foreteller_joinInto_60
      · have hm := (if_neg hc).symm.trans hm
        refine lv_aload_n hx hb d_Foreteller_joinInto_13 rfl (lv_at hl 0 rfl) ?_
        refine lv_iload_n hx hb d_Foreteller_joinInto_14 rfl (lv_at hl 1 rfl) ?_
        refine lv_iload hx hb d_Foreteller_joinInto_15 (lv_at hl 6 rfl) ?_
        refine lv_iadd hx hb d_Foreteller_joinInto_17 ?_
        obtain ⟨v2, h3, hm⟩ := rt_b1s hm
        refine rt_ald hx hb hK hP 36 0 rfl rfl h3 d_Foreteller_joinInto_18 ?_
        refine lv_aload_n hx hb d_Foreteller_joinInto_19 rfl (lv_at hl 2 rfl) ?_
        refine lv_iload_n hx hb d_Foreteller_joinInto_20 rfl (lv_at hl 3 rfl) ?_
        refine lv_iload hx hb d_Foreteller_joinInto_21 (lv_at hl 6 rfl) ?_
        refine lv_iadd hx hb d_Foreteller_joinInto_23 ?_
        obtain ⟨v4, h5, hm⟩ := rt_b1s hm
        refine rt_ald hx hb hK hP 39 0 rfl rfl h5 d_Foreteller_joinInto_24 ?_
        obtain ⟨v7, h6, hm⟩ := rt_b1s hm
        refine rt_csi (As := [.int v2, .int v4]) (rest := []) rt_X0o ⟨hx, hb, hml, hown, hts⟩ (k_C_Ranges_join l v2 v4 _ h6) (cw_Ranges_join hts (hts _ (rt_m rt_w564)) ⟨Nat.le_of_ble_eq_true rfl, Nat.le_of_ble_eq_true rfl⟩) hS (fun _ h => Or.inr h) trivial rfl hl.1 rfl (Nat.le_of_ble_eq_true rfl) d_Foreteller_joinInto_25 ⟨Nat.zero_le _, Nat.zero_le _⟩ (fun H locs hk hS => ?_)
        have hP := rt_keep hP hk
        clear hk
        refine lv_istore hx hb d_Foreteller_joinInto_28 hl (by decide) rfl (fun ls hl => ?_)
        have hl : lv_has ls 8 [(7, .int v7), (0, .ref (A 36)), (1, .int l1), (2, .ref (A 39)), (3, .int l3), (4, .int l4), (5, .int l5), (6, .int l6)] := hl
        refine lv_iload hx hb d_Foreteller_joinInto_30 (lv_at hl 0 rfl) ?_
        refine lv_aload_n hx hb d_Foreteller_joinInto_32 rfl (lv_at hl 1 rfl) ?_
        refine lv_iload_n hx hb d_Foreteller_joinInto_33 rfl (lv_at hl 2 rfl) ?_
        refine lv_iload hx hb d_Foreteller_joinInto_34 (lv_at hl 7 rfl) ?_
        refine lv_iadd hx hb d_Foreteller_joinInto_36 ?_
        obtain ⟨v8, h9, hm⟩ := rt_b1s hm
        refine rt_ald hx hb hK hP 36 0 rfl rfl h9 d_Foreteller_joinInto_37 ?_
        refine lv_icmp_eq (tgt := 52) hx hb d_Foreteller_joinInto_38 (by decide) (fun hc => ?_) (fun hc => ?_)
        · have hm := (if_pos hc).symm.trans hm
          exact hB52 ls l1 l3 l4 l5 l6 σ _ _ (lv_sub hl [1, 2, 3, 4, 5, 6, 7] rfl) hm hP hS
        · have hm := (if_neg hc).symm.trans hm
          refine lv_aload_n hx hb d_Foreteller_joinInto_41 rfl (lv_at hl 1 rfl) ?_
          refine lv_iload_n hx hb d_Foreteller_joinInto_42 rfl (lv_at hl 2 rfl) ?_
          refine lv_iload hx hb d_Foreteller_joinInto_43 (lv_at hl 7 rfl) ?_
          refine lv_iadd hx hb d_Foreteller_joinInto_45 ?_
          refine lv_iload hx hb d_Foreteller_joinInto_46 (lv_at hl 0 rfl) ?_
          obtain ⟨σ10, h11, hm⟩ := rt_b1s hm
          refine rt_ast hx hb hK hP hD hS 36 0 rfl (rtC_a36 cI cZ A _) rfl h11 d_Foreteller_joinInto_48 (fun H locs hP hS => ?_)
          refine lv_iconst (v := 1) hx hb d_Foreteller_joinInto_49 (by decide) ?_
          refine lv_istore hx hb d_Foreteller_joinInto_50 hl (by decide) rfl (fun ls hl => ?_)
          have hl : lv_has ls 8 [(5, .int 1), (7, .int v7), (0, .ref (A 36)), (1, .int l1), (2, .ref (A 39)), (3, .int l3), (4, .int l4), (6, .int l6)] := hl
          exact hB52 ls l1 l3 l4 1 l6 σ10 _ _ (lv_sub hl [2, 3, 4, 5, 6, 0, 7] rfl) hm hP hS
  unfold M_C_Foreteller_joinInto_36_39 at hm
  refine lv_iconst (v := 0) hx hb d_Foreteller_joinInto_0 (by decide) ?_
  refine lv_istore hx hb d_Foreteller_joinInto_1 hl (by decide) rfl (fun ls hl => ?_)
  have hl : lv_has ls 8 [(5, .int 0), (0, .ref (A 36)), (1, .int a1), (2, .ref (A 39)), (3, .int a3), (4, .int a4)] := hl
  refine lv_iconst (v := 0) hx hb d_Foreteller_joinInto_3 (by decide) ?_
  refine lv_istore hx hb d_Foreteller_joinInto_4 hl (by decide) rfl (fun ls hl => ?_)
  have hl : lv_has ls 8 [(6, .int 0), (5, .int 0), (0, .ref (A 36)), (1, .int a1), (2, .ref (A 39)), (3, .int a3), (4, .int a4)] := hl
  exact hB6 _ ls a1 a3 a4 0 0 σ _ _ (lv_sub hl [2, 3, 4, 5, 6, 1, 0] rfl) hm hP hS
set_option maxHeartbeats 4000000 in
set_option maxRecDepth 100000 in
theorem k_C_Foreteller_joinInto_37_40 (l : Launch) (D : va_G) (cI cZ : ClassId) (A : Nat → Nat) (hO : rt_Ok (rtC_W cI cZ A)) (σ : rt_St) (a1 a3 a4 : Int32) (r' : Int32) (σ' : rt_St) (hm : M_C_Foreteller_joinInto_37_40 σ a1 a3 a4 = some (r', σ')) (sz : Nat) : Met l y_Foreteller_joinInto (rt_ws y_Foreteller_joinInto b_Foreteller_joinInto 8 (some .boolean)) ({ frames := 1, cells := 0, slots := 0, locals := 23 } : Room) (va_Pc [.ref (A 37), .int a1, .ref (A 40), .int a3, .int a4] (rt_P D rt_cl (rt_t cI cZ) rtC_X (rtC_W cI cZ A) sz σ)) (va_Qi (fun r1 u1 => r1 = r' ∧ u1 = σ') (rt_B D rt_cl (rt_t cI cZ) rtC_X (rtC_W cI cZ A)) (rt_A (rtC_W cI cZ A) sz)) 0 0 (rt_A (rtC_W cI cZ A) sz) := by
  refine Met.ofW (cc := b_Foreteller_joinInto) (maxL := 8) (ret := (some .boolean)) (by decide) rfl ?_
  intro p e s m args below meth c s₁ B hml hv
  obtain ⟨rfl, rfl, hP, hK, hX⟩ := hv
  have hx := B.exec
  have hb := B.bytes
  have hr := B.returns
  have hts := atoms_spec (ws := (rt_ws y_Foreteller_joinInto b_Foreteller_joinInto 8 (some .boolean))) B.pre
  have hown : s.vm.findClass "RangeTeller$Foreteller" = some m.cls := findClass_of_methodNamed B.named
  have hlocks := B.notSynchronized
  have hD := rt_hD hO s.heap.size
  have hS : va_S (rt_A (rtC_W cI cZ A) s.heap.size) s.heap s.heap [] := va_S.rf
  have hl := lv_entry ([.ref (A 37), .int a1, .ref (A 40), .int a3, .int a4]) (n := 8) (Nat.le_of_ble_eq_true rfl)
  rw [lg_entry_eq]
  generalize (lg_sl ([.ref (A 37), .int a1, .ref (A 40), .int a3, .int a4]) ++ List.replicate (8 - (lg_sl ([.ref (A 37), .int a1, .ref (A 40), .int a3, .int a4])).length) Slot.unset).toArray = ls at hl ⊢
  have hl : lv_has ls 8 [(0, .ref (A 37)), (1, .int a1), (2, .ref (A 40)), (3, .int a3), (4, .int a4)] := hl
  show W p l e ({ frames := 1, cells := 0, slots := 0, locals := 23 } : Room) s m ([.ref (A 37), .int a1, .ref (A 40), .int a3, .int a4] : List Value).toArray below meth c s.heap [] 0 0 (rt_Qi D rt_cl (rt_t cI cZ) rtC_X (rtC_W cI cZ A) below ([.ref (A 37), .int a1, .ref (A 40), .int a3, .int a4] : List Value).toArray s r' σ') (F0 m 0 ls [])
  have hB6 : ∀ (n6 : Nat) (ls : Array Slot) (l1 l3 l4 l5 l6 : Int32) (σ : rt_St) (H : Heap) (locs : List Loc), lv_has ls 8 [(0, .ref (A 37)), (1, .int l1), (2, .ref (A 40)), (3, .int l3), (4, .int l4), (5, .int l5), (6, .int l6)] → B_C_Foreteller_joinInto_37_40_6 n6 l1 l3 l4 l5 l6 σ = some (r', σ') → va_P D rt_cl (rtC_W cI cZ A σ) H → va_S (rt_A (rtC_W cI cZ A) s.heap.size) s.heap H locs → W p l e ({ frames := 1, cells := 0, slots := 0, locals := 23 } : Room) s m ([.ref (A 37), .int a1, .ref (A 40), .int a3, .int a4] : List Value).toArray below meth c H locs 0 0 (rt_Qi D rt_cl (rt_t cI cZ) rtC_X (rtC_W cI cZ A) below ([.ref (A 37), .int a1, .ref (A 40), .int a3, .int a4] : List Value).toArray s r' σ') (F0 m 6 ls []) := by
    intro n6
    induction n6 with
    | zero => intro ls l1 l3 l4 l5 l6 σ H locs hl hm hP hS; rw [B_C_Foreteller_joinInto_37_40_6] at hm; cases hm
    | succ n6 ih6 =>
      have hB52 : ∀ (ls : Array Slot) (l1 l3 l4 l5 l6 : Int32) (σ : rt_St) (H : Heap) (locs : List Loc), lv_has ls 8 [(0, .ref (A 37)), (1, .int l1), (2, .ref (A 40)), (3, .int l3), (4, .int l4), (5, .int l5), (6, .int l6)] → B_C_Foreteller_joinInto_37_40_52 (B_C_Foreteller_joinInto_37_40_6 n6) l1 l3 l4 l5 l6 σ = some (r', σ') → va_P D rt_cl (rtC_W cI cZ A σ) H → va_S (rt_A (rtC_W cI cZ A) s.heap.size) s.heap H locs → W p l e ({ frames := 1, cells := 0, slots := 0, locals := 23 } : Room) s m ([.ref (A 37), .int a1, .ref (A 40), .int a3, .int a4] : List Value).toArray below meth c H locs 0 0 (rt_Qi D rt_cl (rt_t cI cZ) rtC_X (rtC_W cI cZ A) below ([.ref (A 37), .int a1, .ref (A 40), .int a3, .int a4] : List Value).toArray s r' σ') (F0 m 52 ls []) := by
        intro ls l1 l3 l4 l5 l6 σ H locs hl hm hP hS
        unfold B_C_Foreteller_joinInto_37_40_52 at hm
        refine lv_iinc (k := 6) (v := (l6 + 1)) hx hb d_Foreteller_joinInto_52 hl rfl rfl (by decide) rfl (fun ls hl => ?_)
        have hl : lv_has ls 8 [(6, .int (l6 + 1)), (0, .ref (A 37)), (1, .int l1), (2, .ref (A 40)), (3, .int l3), (4, .int l4), (5, .int l5)] := hl
        refine lv_goto (tgt := 6) hx hb d_Foreteller_joinInto_55 (by decide) ?_
        exact ih6 ls l1 l3 l4 l5 (l6 + 1) σ _ _ (lv_sub hl [1, 2, 3, 4, 5, 6, 0] rfl) hm hP hS
      intro ls l1 l3 l4 l5 l6 σ H locs hl hm hP hS
      rw [B_C_Foreteller_joinInto_37_40_6] at hm
      refine lv_iload hx hb d_Foreteller_joinInto_6 (lv_at hl 6 rfl) ?_
      refine lv_iload hx hb d_Foreteller_joinInto_8 (lv_at hl 4 rfl) ?_
      refine lv_icmp_ge (tgt := 58) hx hb d_Foreteller_joinInto_10 (by decide) (fun hc => ?_) (fun hc => ?_)
      · have hm := (if_pos hc).symm.trans hm
        refine lv_iload hx hb d_Foreteller_joinInto_58 (lv_at hl 5 rfl) ?_
        obtain ⟨_, h1, hm⟩ := rt_b1s hm
        exact W.zret hx hb hr (rt_zoks h1) (fun t ht hW => ⟨⟨_, _, rfl, rt_pr hm, rt_end rtC_Xo hK hP hS hX ht hW⟩, hS.F ht⟩) hS.2.2 d_Foreteller_joinInto_60
      · have hm := (if_neg hc).symm.trans hm
        refine lv_aload_n hx hb d_Foreteller_joinInto_13 rfl (lv_at hl 0 rfl) ?_
        refine lv_iload_n hx hb d_Foreteller_joinInto_14 rfl (lv_at hl 1 rfl) ?_
        refine lv_iload hx hb d_Foreteller_joinInto_15 (lv_at hl 6 rfl) ?_
        refine lv_iadd hx hb d_Foreteller_joinInto_17 ?_
        obtain ⟨v2, h3, hm⟩ := rt_b1s hm
        refine rt_ald hx hb hK hP 37 0 rfl rfl h3 d_Foreteller_joinInto_18 ?_
        refine lv_aload_n hx hb d_Foreteller_joinInto_19 rfl (lv_at hl 2 rfl) ?_
        refine lv_iload_n hx hb d_Foreteller_joinInto_20 rfl (lv_at hl 3 rfl) ?_
        refine lv_iload hx hb d_Foreteller_joinInto_21 (lv_at hl 6 rfl) ?_
        refine lv_iadd hx hb d_Foreteller_joinInto_23 ?_
        obtain ⟨v4, h5, hm⟩ := rt_b1s hm
        refine rt_ald hx hb hK hP 40 0 rfl rfl h5 d_Foreteller_joinInto_24 ?_
        obtain ⟨v7, h6, hm⟩ := rt_b1s hm
        refine rt_csi (As := [.int v2, .int v4]) (rest := []) rt_X0o ⟨hx, hb, hml, hown, hts⟩ (k_C_Ranges_join l v2 v4 _ h6) (cw_Ranges_join hts (hts _ (rt_m rt_w564)) ⟨Nat.le_of_ble_eq_true rfl, Nat.le_of_ble_eq_true rfl⟩) hS (fun _ h => Or.inr h) trivial rfl hl.1 rfl (Nat.le_of_ble_eq_true rfl) d_Foreteller_joinInto_25 ⟨Nat.zero_le _, Nat.zero_le _⟩ (fun H locs hk hS => ?_)
        have hP := rt_keep hP hk
        clear hk
        refine lv_istore hx hb d_Foreteller_joinInto_28 hl (by decide) rfl (fun ls hl => ?_)
        have hl : lv_has ls 8 [(7, .int v7), (0, .ref (A 37)), (1, .int l1), (2, .ref (A 40)), (3, .int l3), (4, .int l4), (5, .int l5), (6, .int l6)] := hl
        refine lv_iload hx hb d_Foreteller_joinInto_30 (lv_at hl 0 rfl) ?_
        refine lv_aload_n hx hb d_Foreteller_joinInto_32 rfl (lv_at hl 1 rfl) ?_
        refine lv_iload_n hx hb d_Foreteller_joinInto_33 rfl (lv_at hl 2 rfl) ?_
        refine lv_iload hx hb d_Foreteller_joinInto_34 (lv_at hl 7 rfl) ?_
        refine lv_iadd hx hb d_Foreteller_joinInto_36 ?_
        obtain ⟨v8, h9, hm⟩ := rt_b1s hm
        refine rt_ald hx hb hK hP 37 0 rfl rfl h9 d_Foreteller_joinInto_37 ?_
        refine lv_icmp_eq (tgt := 52) hx hb d_Foreteller_joinInto_38 (by decide) (fun hc => ?_) (fun hc => ?_)
        · have hm := (if_pos hc).symm.trans hm
          exact hB52 ls l1 l3 l4 l5 l6 σ _ _ (lv_sub hl [1, 2, 3, 4, 5, 6, 7] rfl) hm hP hS
        · have hm := (if_neg hc).symm.trans hm
          refine lv_aload_n hx hb d_Foreteller_joinInto_41 rfl (lv_at hl 1 rfl) ?_
          refine lv_iload_n hx hb d_Foreteller_joinInto_42 rfl (lv_at hl 2 rfl) ?_
          refine lv_iload hx hb d_Foreteller_joinInto_43 (lv_at hl 7 rfl) ?_
          refine lv_iadd hx hb d_Foreteller_joinInto_45 ?_
          refine lv_iload hx hb d_Foreteller_joinInto_46 (lv_at hl 0 rfl) ?_
          obtain ⟨σ10, h11, hm⟩ := rt_b1s hm
          refine rt_ast hx hb hK hP hD hS 37 0 rfl (rtC_a37 cI cZ A _) rfl h11 d_Foreteller_joinInto_48 (fun H locs hP hS => ?_)
          refine lv_iconst (v := 1) hx hb d_Foreteller_joinInto_49 (by decide) ?_
          refine lv_istore hx hb d_Foreteller_joinInto_50 hl (by decide) rfl (fun ls hl => ?_)
          have hl : lv_has ls 8 [(5, .int 1), (7, .int v7), (0, .ref (A 37)), (1, .int l1), (2, .ref (A 40)), (3, .int l3), (4, .int l4), (6, .int l6)] := hl
          exact hB52 ls l1 l3 l4 1 l6 σ10 _ _ (lv_sub hl [2, 3, 4, 5, 6, 0, 7] rfl) hm hP hS
  unfold M_C_Foreteller_joinInto_37_40 at hm
  refine lv_iconst (v := 0) hx hb d_Foreteller_joinInto_0 (by decide) ?_
  refine lv_istore hx hb d_Foreteller_joinInto_1 hl (by decide) rfl (fun ls hl => ?_)
  have hl : lv_has ls 8 [(5, .int 0), (0, .ref (A 37)), (1, .int a1), (2, .ref (A 40)), (3, .int a3), (4, .int a4)] := hl
  refine lv_iconst (v := 0) hx hb d_Foreteller_joinInto_3 (by decide) ?_
  refine lv_istore hx hb d_Foreteller_joinInto_4 hl (by decide) rfl (fun ls hl => ?_)
  have hl : lv_has ls 8 [(6, .int 0), (5, .int 0), (0, .ref (A 37)), (1, .int a1), (2, .ref (A 40)), (3, .int a3), (4, .int a4)] := hl
  exact hB6 _ ls a1 a3 a4 0 0 σ _ _ (lv_sub hl [2, 3, 4, 5, 6, 1, 0] rfl) hm hP hS
set_option maxHeartbeats 4000000 in
set_option maxRecDepth 100000 in
theorem k_C_Foreteller_arrive (l : Launch) (D : va_G) (cI cZ : ClassId) (A : Nat → Nat) (hO : rt_Ok (rtC_W cI cZ A)) (σ : rt_St) (a1 : Int32) (σ' : rt_St) (hm : M_C_Foreteller_arrive σ a1 = some σ') (sz : Nat) : Met l y_Foreteller_arrive (rt_ws y_Foreteller_arrive b_Foreteller_arrive 5 none) ({ frames := 2, cells := 0, slots := 0, locals := 50 } : Room) (va_Pc [.ref (A 29), .int a1] (rt_P D rt_cl (rt_t cI cZ) rtC_X (rtC_W cI cZ A) sz σ)) (va_Qv (fun u1 => u1 = σ') (rt_B D rt_cl (rt_t cI cZ) rtC_X (rtC_W cI cZ A)) (rt_A (rtC_W cI cZ A) sz)) 0 0 (rt_A (rtC_W cI cZ A) sz) := by
  refine Met.ofW (cc := b_Foreteller_arrive) (maxL := 5) (ret := none) (by decide) rfl ?_
  intro p e s m args below meth c s₁ B hml hv
  obtain ⟨rfl, rfl, hP, hK, hX⟩ := hv
  have hx := B.exec
  have hb := B.bytes
  have hr := B.returns
  have hts := atoms_spec (ws := (rt_ws y_Foreteller_arrive b_Foreteller_arrive 5 none)) B.pre
  have hown : s.vm.findClass "RangeTeller$Foreteller" = some m.cls := findClass_of_methodNamed B.named
  have hlocks := B.notSynchronized
  have hD := rt_hD hO s.heap.size
  have hS : va_S (rt_A (rtC_W cI cZ A) s.heap.size) s.heap s.heap [] := va_S.rf
  have hl := lv_entry ([.ref (A 29), .int a1]) (n := 5) (Nat.le_of_ble_eq_true rfl)
  rw [lg_entry_eq]
  generalize (lg_sl ([.ref (A 29), .int a1]) ++ List.replicate (5 - (lg_sl ([.ref (A 29), .int a1])).length) Slot.unset).toArray = ls at hl ⊢
  have hl : lv_has ls 5 [(0, .ref (A 29)), (1, .int a1)] := hl
  show W p l e ({ frames := 2, cells := 0, slots := 0, locals := 50 } : Room) s m ([.ref (A 29), .int a1] : List Value).toArray below meth c s.heap [] 0 0 (rt_Qv D rt_cl (rt_t cI cZ) rtC_X (rtC_W cI cZ A) below ([.ref (A 29), .int a1] : List Value).toArray s σ') (F0 m 0 ls [])
  have hB84 : ∀ (ls : Array Slot) (l1 : Int32) (σ : rt_St) (H : Heap) (locs : List Loc), lv_has ls 5 [(0, .ref (A 29)), (1, .int l1)] → B_C_Foreteller_arrive_84 l1 σ = some σ' → va_P D rt_cl (rtC_W cI cZ A σ) H → va_S (rt_A (rtC_W cI cZ A) s.heap.size) s.heap H locs → W p l e ({ frames := 2, cells := 0, slots := 0, locals := 50 } : Room) s m ([.ref (A 29), .int a1] : List Value).toArray below meth c H locs 0 0 (rt_Qv D rt_cl (rt_t cI cZ) rtC_X (rtC_W cI cZ A) below ([.ref (A 29), .int a1] : List Value).toArray s σ') (F0 m 84 ls []) := by
    intro ls l1 σ H locs hl hm hP hS
    unfold B_C_Foreteller_arrive_84 at hm
    refine lv_aload_n hx hb d_Foreteller_arrive_84 rfl (lv_at hl 0 rfl) ?_
    refine va_get (D := D) (v := .ref (A 30)) (C := "RangeTeller$Foreteller") (T := rt_T5) (N := 13) hx hb hts rt_i5 hown hK hP 29 rfl rfl 1 (by decide) (hts _ (rt_m rt_w334)) (fun _ h9 => h9) rfl d_Foreteller_arrive_85 ?_
    refine lv_iload_n hx hb d_Foreteller_arrive_88 rfl (lv_at hl 1 rfl) ?_
    refine lv_iconst (v := 1) hx hb d_Foreteller_arrive_89 (by decide) ?_
    obtain ⟨σ1, h2, hm⟩ := rt_b1s hm
    refine rt_zst hx hb hK hP hD hS 30 1 rfl (rtC_a30 cI cZ A _) rfl rfl h2 d_Foreteller_arrive_90 (fun H locs hP hS => ?_)
    refine lv_aload_n hx hb d_Foreteller_arrive_91 rfl (lv_at hl 0 rfl) ?_
    refine va_get (D := D) (v := .ref (A 35)) (C := "RangeTeller$Foreteller") (T := rt_T5) (N := 13) hx hb hts rt_i5 hown hK hP 29 rfl rfl 6 (by decide) (hts _ (rt_m rt_w344)) (fun _ h9 => h9) rfl d_Foreteller_arrive_92 ?_
    refine lv_iload_n hx hb d_Foreteller_arrive_95 rfl (lv_at hl 1 rfl) ?_
    refine lv_iconst (v := 1) hx hb d_Foreteller_arrive_96 (by decide) ?_
    obtain ⟨σ3, h4, hm⟩ := rt_b1s hm
    refine rt_zst hx hb hK hP hD hS 35 1 rfl (rtC_a35 cI cZ A _) rfl rfl h4 d_Foreteller_arrive_97 (fun H locs hP hS => ?_)
    exact W.vret hx hb hr (fun t ht hW => ⟨⟨_, rfl, Option.some.inj hm, rt_end rtC_Xo hK hP hS hX ht hW⟩, hS.F ht⟩) hS.2.2 d_Foreteller_arrive_98
  unfold M_C_Foreteller_arrive at hm
  refine lv_aload_n hx hb d_Foreteller_arrive_0 rfl (lv_at hl 0 rfl) ?_
  refine va_get (D := D) (v := .ref (A 31)) (C := "RangeTeller$Foreteller") (T := rt_T5) (N := 13) hx hb hts rt_i5 hown hK hP 29 rfl rfl 2 (by decide) (hts _ (rt_m rt_w336)) (fun _ h9 => h9) rfl d_Foreteller_arrive_1 ?_
  refine lv_iload_n hx hb d_Foreteller_arrive_4 rfl (lv_at hl 1 rfl) ?_
  refine lv_aload_n hx hb d_Foreteller_arrive_5 rfl (lv_at hl 0 rfl) ?_
  refine va_get (D := D) (v := .int (σ 29 12)) (C := "RangeTeller$Foreteller") (T := rt_T5) (N := 13) hx hb hts rt_i5 hown hK hP 29 rfl rfl 12 (by decide) (hts _ (rt_m rt_w350)) (fun _ h9 => h9) rfl d_Foreteller_arrive_6 ?_
  obtain ⟨σ5, h6, hm⟩ := rt_b1s hm
  refine rt_ast hx hb hK hP hD hS 31 0 rfl (rtC_a31 cI cZ A _) rfl h6 d_Foreteller_arrive_9 (fun H locs hP hS => ?_)
  refine lv_aload_n hx hb d_Foreteller_arrive_10 rfl (lv_at hl 0 rfl) ?_
  refine va_get (D := D) (v := .ref (A 1)) (C := "RangeTeller$Foreteller") (T := rt_T5) (N := 13) hx hb hts rt_i5 hown hK hP 29 rfl rfl 0 (by decide) (hts _ (rt_m rt_w333)) (fun _ h9 => h9) rfl d_Foreteller_arrive_11 ?_
  refine lv_aload_n hx hb d_Foreteller_arrive_14 rfl (lv_at hl 0 rfl) ?_
  refine va_get (D := D) (v := .ref (A 1)) (C := "RangeTeller$Foreteller") (T := rt_T5) (N := 13) hx hb hts rt_i5 hown hK hP 29 rfl rfl 0 (by decide) (hts _ (rt_m rt_w333)) (fun _ h9 => h9) rfl d_Foreteller_arrive_15 ?_
  refine va_get (D := D) (v := .ref (A 4)) (C := "RangeTeller$Program") (T := rt_T1) (N := 14) hx hb hts rt_i1 hown hK hP 1 rfl rfl 2 (by decide) (hts _ (rt_m rt_w132)) (fun _ h9 => h9) rfl d_Foreteller_arrive_18 ?_
  refine lv_iload_n hx hb d_Foreteller_arrive_21 rfl (lv_at hl 1 rfl) ?_
  obtain ⟨v7, h8, hm⟩ := rt_b1s hm
  refine rt_ald hx hb hK hP 4 0 rfl rfl h8 d_Foreteller_arrive_22 ?_
  obtain ⟨v11, σ10, h9, hm⟩ := rt_b2s hm
  refine rt_cvi (As := [.int v7]) (rest := []) (k := 1) rtC_Xo ⟨hx, hb, hml, hown, hts⟩ (k_C_Program_localCount l D cI cZ A hO σ5 v7 _ _ h9) (cw_Program_localCount hts (hts _ (rt_m rt_w560)) ⟨Nat.le_of_ble_eq_true rfl, Nat.le_of_ble_eq_true rfl⟩) hK hP hS hX rfl rfl rfl hl.1 rfl (Nat.le_of_ble_eq_true rfl) d_Foreteller_arrive_23 ⟨Nat.zero_le _, Nat.zero_le _⟩ (fun H locs hP hS => ?_)
  refine lv_istore_n hx hb d_Foreteller_arrive_26 rfl hl (by decide) rfl (fun ls hl => ?_)
  have hl : lv_has ls 5 [(2, .int v11), (0, .ref (A 29)), (1, .int a1)] := hl
  refine lv_aload_n hx hb d_Foreteller_arrive_27 rfl (lv_at hl 1 rfl) ?_
  refine va_get (D := D) (v := .ref (A 36)) (C := "RangeTeller$Foreteller") (T := rt_T5) (N := 13) hx hb hts rt_i5 hown hK hP 29 rfl rfl 7 (by decide) (hts _ (rt_m rt_w345)) (fun _ h9 => h9) rfl d_Foreteller_arrive_28 ?_
  refine lv_iload_n hx hb d_Foreteller_arrive_31 rfl (lv_at hl 2 rfl) ?_
  refine lv_bipush (v := 10) hx hb d_Foreteller_arrive_32 (by decide) ?_
  refine lv_imul hx hb d_Foreteller_arrive_34 ?_
  refine lv_aload_n hx hb d_Foreteller_arrive_35 rfl (lv_at hl 1 rfl) ?_
  refine va_get (D := D) (v := .ref (A 39)) (C := "RangeTeller$Foreteller") (T := rt_T5) (N := 13) hx hb hts rt_i5 hown hK hP 29 rfl rfl 10 (by decide) (hts _ (rt_m rt_w348)) (fun _ h9 => h9) rfl d_Foreteller_arrive_36 ?_
  refine lv_iconst (v := 0) hx hb d_Foreteller_arrive_39 (by decide) ?_
  refine lv_aload_n hx hb d_Foreteller_arrive_40 rfl (lv_at hl 1 rfl) ?_
  refine va_get (D := D) (v := .int (σ10 29 12)) (C := "RangeTeller$Foreteller") (T := rt_T5) (N := 13) hx hb hts rt_i5 hown hK hP 29 rfl rfl 12 (by decide) (hts _ (rt_m rt_w350)) (fun _ h9 => h9) rfl d_Foreteller_arrive_41 ?_
  obtain ⟨v14, σ13, h12, hm⟩ := rt_b2s hm
  refine rt_cwi (As := [.ref (A 36), .int (a1 * 10), .ref (A 39), .int 0, .int (σ10 29 12)]) (rest := []) rtC_Xo ⟨hx, hb, hml, hown, hts⟩ (k_C_Foreteller_joinInto_36_39 l D cI cZ A hO σ10 (a1 * 10) 0 (σ10 29 12) _ _ h12) (cw_Foreteller_joinInto hts (hts _ (rt_m rt_w561)) ⟨Nat.le_of_ble_eq_true rfl, Nat.le_of_ble_eq_true rfl⟩) hK hP hS hX rfl hl.1 rfl (Nat.le_of_ble_eq_true rfl) d_Foreteller_arrive_44 ⟨Nat.zero_le _, Nat.zero_le _⟩ (fun H locs hP hS => ?_)
  refine lv_istore_n hx hb d_Foreteller_arrive_47 rfl hl (by decide) rfl (fun ls hl => ?_)
  have hl : lv_has ls 5 [(3, .int v14), (2, .int v11), (0, .ref (A 29)), (1, .int a1)] := hl
  refine lv_aload_n hx hb d_Foreteller_arrive_48 rfl (lv_at hl 2 rfl) ?_
  refine va_get (D := D) (v := .ref (A 37)) (C := "RangeTeller$Foreteller") (T := rt_T5) (N := 13) hx hb hts rt_i5 hown hK hP 29 rfl rfl 8 (by decide) (hts _ (rt_m rt_w346)) (fun _ h9 => h9) rfl d_Foreteller_arrive_49 ?_
  refine lv_iload_n hx hb d_Foreteller_arrive_52 rfl (lv_at hl 3 rfl) ?_
  refine lv_iconst (v := 4) hx hb d_Foreteller_arrive_53 (by decide) ?_
  refine lv_imul hx hb d_Foreteller_arrive_54 ?_
  refine lv_aload_n hx hb d_Foreteller_arrive_55 rfl (lv_at hl 2 rfl) ?_
  refine va_get (D := D) (v := .ref (A 40)) (C := "RangeTeller$Foreteller") (T := rt_T5) (N := 13) hx hb hts rt_i5 hown hK hP 29 rfl rfl 11 (by decide) (hts _ (rt_m rt_w349)) (fun _ h9 => h9) rfl d_Foreteller_arrive_56 ?_
  refine lv_iconst (v := 0) hx hb d_Foreteller_arrive_59 (by decide) ?_
  refine lv_iload_n hx hb d_Foreteller_arrive_60 rfl (lv_at hl 1 rfl) ?_
  obtain ⟨v17, σ16, h15, hm⟩ := rt_b2s hm
  refine rt_cwi (As := [.ref (A 37), .int (a1 * 4), .ref (A 40), .int 0, .int v11]) (rest := []) rtC_Xo ⟨hx, hb, hml, hown, hts⟩ (k_C_Foreteller_joinInto_37_40 l D cI cZ A hO σ13 (a1 * 4) 0 v11 _ _ h15) (cw_Foreteller_joinInto hts (hts _ (rt_m rt_w561)) ⟨Nat.le_of_ble_eq_true rfl, Nat.le_of_ble_eq_true rfl⟩) hK hP hS hX rfl hl.1 rfl (Nat.le_of_ble_eq_true rfl) d_Foreteller_arrive_61 ⟨Nat.zero_le _, Nat.zero_le _⟩ (fun H locs hP hS => ?_)
  refine lv_istore hx hb d_Foreteller_arrive_64 hl (by decide) rfl (fun ls hl => ?_)
  have hl : lv_has ls 5 [(4, .int v17), (3, .int v14), (2, .int v11), (0, .ref (A 29)), (1, .int a1)] := hl
  refine lv_aload_n hx hb d_Foreteller_arrive_66 rfl (lv_at hl 3 rfl) ?_
  refine va_get (D := D) (v := .ref (A 30)) (C := "RangeTeller$Foreteller") (T := rt_T5) (N := 13) hx hb hts rt_i5 hown hK hP 29 rfl rfl 1 (by decide) (hts _ (rt_m rt_w334)) (fun _ h9 => h9) rfl d_Foreteller_arrive_67 ?_
  refine lv_iload_n hx hb d_Foreteller_arrive_70 rfl (lv_at hl 4 rfl) ?_
  obtain ⟨v18, h19, hm⟩ := rt_b1s hm
  refine rt_zld hx hb hK hP 30 1 rfl rfl h19 d_Foreteller_arrive_71 ?_
  refine lv_if_eq (tgt := 84) hx hb d_Foreteller_arrive_72 (by decide) (fun hc => ?_) (fun hc => ?_)
  · have hm := (if_pos hc).symm.trans hm
    exact hB84 ls a1 σ16 _ _ (lv_sub hl [3, 4] rfl) hm hP hS
  · have hm := (if_neg hc).symm.trans hm
    refine lv_iload_n hx hb d_Foreteller_arrive_75 rfl (lv_at hl 1 rfl) ?_
    refine lv_if_ne (tgt := 84) hx hb d_Foreteller_arrive_76 (by decide) (fun hc => ?_) (fun hc => ?_)
    · have hm := (if_neg hc).symm.trans hm
      exact hB84 ls a1 σ16 _ _ (lv_sub hl [3, 4] rfl) hm hP hS
    · have hm := (if_pos hc).symm.trans hm
      refine lv_iload hx hb d_Foreteller_arrive_79 (lv_at hl 0 rfl) ?_
      refine lv_if_eq (tgt := 98) hx hb d_Foreteller_arrive_81 (by decide) (fun hc => ?_) (fun hc => ?_)
      · have hm := (if_pos hc).symm.trans hm
        exact W.vret hx hb hr (fun t ht hW => ⟨⟨_, rfl, Option.some.inj hm, rt_end rtC_Xo hK hP hS hX ht hW⟩, hS.F ht⟩) hS.2.2 d_Foreteller_arrive_98
      · have hm := (if_neg hc).symm.trans hm
        exact hB84 ls a1 σ16 _ _ (lv_sub hl [3, 4] rfl) hm hP hS
set_option maxHeartbeats 4000000 in
set_option maxRecDepth 100000 in
theorem k_C_Foreteller_enter (l : Launch) (D : va_G) (cI cZ : ClassId) (A : Nat → Nat) (hO : rt_Ok (rtC_W cI cZ A)) (σ : rt_St) (a1 : Int32) (σ' : rt_St) (hm : M_C_Foreteller_enter σ a1 = some σ') (sz : Nat) : Met l y_Foreteller_enter (rt_ws y_Foreteller_enter b_Foreteller_enter 3 none) ({ frames := 3, cells := 0, slots := 0, locals := 74 } : Room) (va_Pc [.ref (A 29), .int a1] (rt_P D rt_cl (rt_t cI cZ) rtC_X (rtC_W cI cZ A) sz σ)) (va_Qv (fun u1 => u1 = σ') (rt_B D rt_cl (rt_t cI cZ) rtC_X (rtC_W cI cZ A)) (rt_A (rtC_W cI cZ A) sz)) 0 0 (rt_A (rtC_W cI cZ A) sz) := by
  refine Met.ofW (cc := b_Foreteller_enter) (maxL := 3) (ret := none) (by decide) rfl ?_
  intro p e s m args below meth c s₁ B hml hv
  obtain ⟨rfl, rfl, hP, hK, hX⟩ := hv
  have hx := B.exec
  have hb := B.bytes
  have hr := B.returns
  have hts := atoms_spec (ws := (rt_ws y_Foreteller_enter b_Foreteller_enter 3 none)) B.pre
  have hown : s.vm.findClass "RangeTeller$Foreteller" = some m.cls := findClass_of_methodNamed B.named
  have hlocks := B.notSynchronized
  have hD := rt_hD hO s.heap.size
  have hS : va_S (rt_A (rtC_W cI cZ A) s.heap.size) s.heap s.heap [] := va_S.rf
  have hl := lv_entry ([.ref (A 29), .int a1]) (n := 3) (Nat.le_of_ble_eq_true rfl)
  rw [lg_entry_eq]
  generalize (lg_sl ([.ref (A 29), .int a1]) ++ List.replicate (3 - (lg_sl ([.ref (A 29), .int a1])).length) Slot.unset).toArray = ls at hl ⊢
  have hl : lv_has ls 3 [(0, .ref (A 29)), (1, .int a1)] := hl
  show W p l e ({ frames := 3, cells := 0, slots := 0, locals := 74 } : Room) s m ([.ref (A 29), .int a1] : List Value).toArray below meth c s.heap [] 0 0 (rt_Qv D rt_cl (rt_t cI cZ) rtC_X (rtC_W cI cZ A) below ([.ref (A 29), .int a1] : List Value).toArray s σ') (F0 m 0 ls [])
  have hB7 : ∀ (n7 : Nat) (ls : Array Slot) (l1 l2 : Int32) (σ : rt_St) (H : Heap) (locs : List Loc), lv_has ls 3 [(0, .ref (A 29)), (1, .int l1), (2, .int l2)] → B_C_Foreteller_enter_7 n7 l1 l2 σ = some σ' → va_P D rt_cl (rtC_W cI cZ A σ) H → va_S (rt_A (rtC_W cI cZ A) s.heap.size) s.heap H locs → W p l e ({ frames := 3, cells := 0, slots := 0, locals := 74 } : Room) s m ([.ref (A 29), .int a1] : List Value).toArray below meth c H locs 0 0 (rt_Qv D rt_cl (rt_t cI cZ) rtC_X (rtC_W cI cZ A) below ([.ref (A 29), .int a1] : List Value).toArray s σ') (F0 m 7 ls []) := by
    intro n7
    induction n7 with
    | zero => intro ls l1 l2 σ H locs hl hm hP hS; rw [B_C_Foreteller_enter_7] at hm; cases hm
    | succ n7 ih7 =>
      have hB44 : ∀ (ls : Array Slot) (l1 l2 t0 t1 : Int32) (σ : rt_St) (H : Heap) (locs : List Loc), lv_has ls 3 [(0, .ref (A 29)), (1, .int l1), (2, .int l2)] → B_C_Foreteller_enter_44 (B_C_Foreteller_enter_7 n7) l1 l2 t0 t1 σ = some σ' → va_P D rt_cl (rtC_W cI cZ A σ) H → va_S (rt_A (rtC_W cI cZ A) s.heap.size) s.heap H locs → W p l e ({ frames := 3, cells := 0, slots := 0, locals := 74 } : Room) s m ([.ref (A 29), .int a1] : List Value).toArray below meth c H locs 0 0 (rt_Qv D rt_cl (rt_t cI cZ) rtC_X (rtC_W cI cZ A) below ([.ref (A 29), .int a1] : List Value).toArray s σ') (F0 m 44 ls [.int t0, .int t1, .ref (A 40)]) := by
        intro ls l1 l2 t0 t1 σ H locs hl hm hP hS
        unfold B_C_Foreteller_enter_44 at hm
        obtain ⟨σ1, h2, hm⟩ := rt_b1s hm
        refine rt_ast hx hb hK hP hD hS 40 0 rfl (rtC_a40 cI cZ A _) rfl h2 d_Foreteller_enter_44 (fun H locs hP hS => ?_)
        refine lv_iinc (k := 2) (v := (l2 + 1)) hx hb d_Foreteller_enter_45 hl rfl rfl (by decide) rfl (fun ls hl => ?_)
        have hl : lv_has ls 3 [(2, .int (l2 + 1)), (0, .ref (A 29)), (1, .int l1)] := hl
        refine lv_goto (tgt := 7) hx hb d_Foreteller_enter_48 (by decide) ?_
        exact ih7 ls l1 (l2 + 1) σ1 _ _ (lv_sub hl [1, 2, 0] rfl) hm hP hS
      intro ls l1 l2 σ H locs hl hm hP hS
      rw [B_C_Foreteller_enter_7] at hm
      refine lv_iload_n hx hb d_Foreteller_enter_7 rfl (lv_at hl 2 rfl) ?_
      refine lv_iconst (v := 4) hx hb d_Foreteller_enter_8 (by decide) ?_
      refine lv_icmp_ge (tgt := 51) hx hb d_Foreteller_enter_9 (by decide) (fun hc => ?_) (fun hc => ?_)
      · have hm := (if_pos hc).symm.trans hm
        refine lv_aload_n hx hb d_Foreteller_enter_51 rfl (lv_at hl 0 rfl) ?_
        refine lv_aload_n hx hb d_Foreteller_enter_52 rfl (lv_at hl 0 rfl) ?_
        refine va_get (D := D) (v := .ref (A 1)) (C := "RangeTeller$Foreteller") (T := rt_T5) (N := 13) hx hb hts rt_i5 hown hK hP 29 rfl rfl 0 (by decide) (hts _ (rt_m rt_w333)) (fun _ h9 => h9) rfl d_Foreteller_enter_53 ?_
        refine va_get (D := D) (v := .ref (A 10)) (C := "RangeTeller$Program") (T := rt_T1) (N := 14) hx hb hts rt_i1 hown hK hP 1 rfl rfl 8 (by decide) (hts _ (rt_m rt_w151)) (fun _ h9 => h9) rfl d_Foreteller_enter_56 ?_
        refine lv_iload_n hx hb d_Foreteller_enter_59 rfl (lv_at hl 1 rfl) ?_
        obtain ⟨v3, h4, hm⟩ := rt_b1s hm
        refine rt_ald hx hb hK hP 10 0 rfl rfl h4 d_Foreteller_enter_60 ?_
        obtain ⟨σ6, h5, hm⟩ := rt_b1s hm
        refine rt_cvv (As := [.int v3]) (rest := []) (k := 29) rtC_Xo ⟨hx, hb, hml, hown, hts⟩ (k_C_Foreteller_arrive l D cI cZ A hO σ v3 _ h5) (cw_Foreteller_arrive hts (hts _ (rt_m rt_w556)) ⟨Nat.le_of_ble_eq_true rfl, Nat.le_of_ble_eq_true rfl⟩) hK hP hS hX rfl rfl rfl hl.1 rfl (Nat.le_of_ble_eq_true rfl) d_Foreteller_enter_61 ⟨Nat.zero_le _, Nat.zero_le _⟩ (fun H locs hP hS => ?_)
        exact W.vret hx hb hr (fun t ht hW => ⟨⟨_, rfl, Option.some.inj hm, rt_end rtC_Xo hK hP hS hX ht hW⟩, hS.F ht⟩) hS.2.2 d_Foreteller_enter_64
      · have hm := (if_neg hc).symm.trans hm
        refine lv_aload_n hx hb d_Foreteller_enter_12 rfl (lv_at hl 0 rfl) ?_
        refine va_get (D := D) (v := .ref (A 40)) (C := "RangeTeller$Foreteller") (T := rt_T5) (N := 13) hx hb hts rt_i5 hown hK hP 29 rfl rfl 11 (by decide) (hts _ (rt_m rt_w349)) (fun _ h9 => h9) rfl d_Foreteller_enter_13 ?_
        refine lv_iload_n hx hb d_Foreteller_enter_16 rfl (lv_at hl 2 rfl) ?_
        refine lv_iload_n hx hb d_Foreteller_enter_17 rfl (lv_at hl 2 rfl) ?_
        refine lv_aload_n hx hb d_Foreteller_enter_18 rfl (lv_at hl 0 rfl) ?_
        refine va_get (D := D) (v := .ref (A 1)) (C := "RangeTeller$Foreteller") (T := rt_T5) (N := 13) hx hb hts rt_i5 hown hK hP 29 rfl rfl 0 (by decide) (hts _ (rt_m rt_w333)) (fun _ h9 => h9) rfl d_Foreteller_enter_19 ?_
        refine va_get (D := D) (v := .ref (A 11)) (C := "RangeTeller$Program") (T := rt_T1) (N := 14) hx hb hts rt_i1 hown hK hP 1 rfl rfl 9 (by decide) (hts _ (rt_m rt_w156)) (fun _ h9 => h9) rfl d_Foreteller_enter_22 ?_
        refine lv_iload_n hx hb d_Foreteller_enter_25 rfl (lv_at hl 1 rfl) ?_
        obtain ⟨v7, h8, hm⟩ := rt_b1s hm
        refine rt_ald hx hb hK hP 11 0 rfl rfl h8 d_Foreteller_enter_26 ?_
        refine lv_icmp_ge (tgt := 43) hx hb d_Foreteller_enter_27 (by decide) (fun hc => ?_) (fun hc => ?_)
        · have hm := (if_pos hc).symm.trans hm
          refine lv_iconst (v := 0) hx hb d_Foreteller_enter_43 (by decide) ?_
          exact hB44 ls l1 l2 0 l2 σ _ _ (lv_sub hl [0, 1, 2] rfl) hm hP hS
        · have hm := (if_neg hc).symm.trans hm
          refine lv_aload_n hx hb d_Foreteller_enter_30 rfl (lv_at hl 0 rfl) ?_
          refine va_get (D := D) (v := .ref (A 38)) (C := "RangeTeller$Foreteller") (T := rt_T5) (N := 13) hx hb hts rt_i5 hown hK hP 29 rfl rfl 9 (by decide) (hts _ (rt_m rt_w347)) (fun _ h9 => h9) rfl d_Foreteller_enter_31 ?_
          refine lv_iload_n hx hb d_Foreteller_enter_34 rfl (lv_at hl 1 rfl) ?_
          refine lv_iconst (v := 2) hx hb d_Foreteller_enter_35 (by decide) ?_
          refine lv_imul hx hb d_Foreteller_enter_36 ?_
          refine lv_iload_n hx hb d_Foreteller_enter_37 rfl (lv_at hl 2 rfl) ?_
          refine lv_iadd hx hb d_Foreteller_enter_38 ?_
          obtain ⟨v9, h10, hm⟩ := rt_b1s hm
          refine rt_ald hx hb hK hP 38 0 rfl rfl h10 d_Foreteller_enter_39 ?_
          refine lv_goto (tgt := 44) hx hb d_Foreteller_enter_40 (by decide) ?_
          exact hB44 ls l1 l2 v9 l2 σ _ _ (lv_sub hl [0, 1, 2] rfl) hm hP hS
  unfold M_C_Foreteller_enter at hm
  refine lv_aload_n hx hb d_Foreteller_enter_0 rfl (lv_at hl 0 rfl) ?_
  refine lv_iconst (v := 0) hx hb d_Foreteller_enter_1 (by decide) ?_
  obtain ⟨σ11, h12, hm⟩ := rt_b1s hm
  refine rt_pf (D := D) (C := "RangeTeller$Foreteller") (T := rt_T5) (N := 13) (ty := .int) hx hb hts rt_i5 rt_y5 rt_o5 rt_n5 hown hK hP hD hS 29 rfl rfl 12 (by decide) (hts _ (rt_m rt_w350)) (fun _ h9 => h9) rfl (by decide +kernel) rfl rfl (Nat.le_of_ble_eq_true rfl) (rtC_s29_12 cI cZ A _ _) h12 d_Foreteller_enter_2 (fun H locs hP hS => ?_)
  refine lv_iconst (v := 0) hx hb d_Foreteller_enter_5 (by decide) ?_
  refine lv_istore_n hx hb d_Foreteller_enter_6 rfl hl (by decide) rfl (fun ls hl => ?_)
  have hl : lv_has ls 3 [(2, .int 0), (0, .ref (A 29)), (1, .int a1)] := hl
  exact hB7 _ ls a1 0 σ11 _ _ (lv_sub hl [1, 2, 0] rfl) hm hP hS
set_option maxHeartbeats 4000000 in
set_option maxRecDepth 100000 in
theorem k_C_Foreteller_recall (l : Launch) (D : va_G) (cI cZ : ClassId) (A : Nat → Nat) (hO : rt_Ok (rtC_W cI cZ A)) (σ : rt_St) (a1 : Int32) (σ' : rt_St) (hm : M_C_Foreteller_recall σ a1 = some σ') (sz : Nat) : Met l y_Foreteller_recall (rt_ws y_Foreteller_recall b_Foreteller_recall 2 none) ({ frames := 1, cells := 0, slots := 0, locals := 64 } : Room) (va_Pc [.ref (A 29), .int a1] (rt_P D rt_cl (rt_t cI cZ) rtC_X (rtC_W cI cZ A) sz σ)) (va_Qv (fun u1 => u1 = σ') (rt_B D rt_cl (rt_t cI cZ) rtC_X (rtC_W cI cZ A)) (rt_A (rtC_W cI cZ A) sz)) 0 0 (rt_A (rtC_W cI cZ A) sz) := by
  refine Met.ofW (cc := b_Foreteller_recall) (maxL := 2) (ret := none) (by decide) rfl ?_
  intro p e s m args below meth c s₁ B hml hv
  obtain ⟨rfl, rfl, hP, hK, hX⟩ := hv
  have hx := B.exec
  have hb := B.bytes
  have hr := B.returns
  have hts := atoms_spec (ws := (rt_ws y_Foreteller_recall b_Foreteller_recall 2 none)) B.pre
  have hown : s.vm.findClass "RangeTeller$Foreteller" = some m.cls := findClass_of_methodNamed B.named
  have hlocks := B.notSynchronized
  have hD := rt_hD hO s.heap.size
  have hS : va_S (rt_A (rtC_W cI cZ A) s.heap.size) s.heap s.heap [] := va_S.rf
  have hl := lv_entry ([.ref (A 29), .int a1]) (n := 2) (Nat.le_of_ble_eq_true rfl)
  rw [lg_entry_eq]
  generalize (lg_sl ([.ref (A 29), .int a1]) ++ List.replicate (2 - (lg_sl ([.ref (A 29), .int a1])).length) Slot.unset).toArray = ls at hl ⊢
  have hl : lv_has ls 2 [(0, .ref (A 29)), (1, .int a1)] := hl
  show W p l e ({ frames := 1, cells := 0, slots := 0, locals := 64 } : Room) s m ([.ref (A 29), .int a1] : List Value).toArray below meth c s.heap [] 0 0 (rt_Qv D rt_cl (rt_t cI cZ) rtC_X (rtC_W cI cZ A) below ([.ref (A 29), .int a1] : List Value).toArray s σ') (F0 m 0 ls [])
  unfold M_C_Foreteller_recall at hm
  refine lv_aload_n hx hb d_Foreteller_recall_0 rfl (lv_at hl 0 rfl) ?_
  refine lv_aload_n hx hb d_Foreteller_recall_1 rfl (lv_at hl 0 rfl) ?_
  refine va_get (D := D) (v := .ref (A 31)) (C := "RangeTeller$Foreteller") (T := rt_T5) (N := 13) hx hb hts rt_i5 hown hK hP 29 rfl rfl 2 (by decide) (hts _ (rt_m rt_w336)) (fun _ h9 => h9) rfl d_Foreteller_recall_2 ?_
  refine lv_iload_n hx hb d_Foreteller_recall_5 rfl (lv_at hl 1 rfl) ?_
  obtain ⟨v1, h2, hm⟩ := rt_b1s hm
  refine rt_ald hx hb hK hP 31 0 rfl rfl h2 d_Foreteller_recall_6 ?_
  obtain ⟨σ3, h4, hm⟩ := rt_b1s hm
  refine rt_pf (D := D) (C := "RangeTeller$Foreteller") (T := rt_T5) (N := 13) (ty := .int) hx hb hts rt_i5 rt_y5 rt_o5 rt_n5 hown hK hP hD hS 29 rfl rfl 12 (by decide) (hts _ (rt_m rt_w350)) (fun _ h9 => h9) rfl (by decide +kernel) rfl rfl (Nat.le_of_ble_eq_true rfl) (rtC_s29_12 cI cZ A _ _) h4 d_Foreteller_recall_7 (fun H locs hP hS => ?_)
  refine lv_aload_n hx hb d_Foreteller_recall_10 rfl (lv_at hl 0 rfl) ?_
  refine va_get (D := D) (v := .ref (A 36)) (C := "RangeTeller$Foreteller") (T := rt_T5) (N := 13) hx hb hts rt_i5 hown hK hP 29 rfl rfl 7 (by decide) (hts _ (rt_m rt_w345)) (fun _ h9 => h9) rfl d_Foreteller_recall_11 ?_
  refine lv_iload_n hx hb d_Foreteller_recall_14 rfl (lv_at hl 1 rfl) ?_
  refine lv_bipush (v := 10) hx hb d_Foreteller_recall_15 (by decide) ?_
  refine lv_imul hx hb d_Foreteller_recall_17 ?_
  refine lv_aload_n hx hb d_Foreteller_recall_18 rfl (lv_at hl 0 rfl) ?_
  refine va_get (D := D) (v := .ref (A 39)) (C := "RangeTeller$Foreteller") (T := rt_T5) (N := 13) hx hb hts rt_i5 hown hK hP 29 rfl rfl 10 (by decide) (hts _ (rt_m rt_w348)) (fun _ h9 => h9) rfl d_Foreteller_recall_19 ?_
  refine lv_iconst (v := 0) hx hb d_Foreteller_recall_22 (by decide) ?_
  refine lv_bipush (v := 10) hx hb d_Foreteller_recall_23 (by decide) ?_
  obtain ⟨σ6, h5, hm⟩ := rt_b1s hm
  refine rt_cp hx hb (hml.trans hl.1.symm) hown (hts _ (rt_m rt_w572)) (hts _ (rt_m rt_w574)) (hts _ (rt_m rt_w573)) (hts _ (rt_m rt_w103)) hK hP hD hS 36 39 rfl rfl (rtC_f39 cI cZ A _) rfl h5 (Nat.le_of_ble_eq_true rfl) (Nat.le_of_ble_eq_true rfl) d_Foreteller_recall_25 (fun H locs hP hS => ?_)
  refine lv_aload_n hx hb d_Foreteller_recall_28 rfl (lv_at hl 0 rfl) ?_
  refine va_get (D := D) (v := .ref (A 37)) (C := "RangeTeller$Foreteller") (T := rt_T5) (N := 13) hx hb hts rt_i5 hown hK hP 29 rfl rfl 8 (by decide) (hts _ (rt_m rt_w346)) (fun _ h9 => h9) rfl d_Foreteller_recall_29 ?_
  refine lv_iload_n hx hb d_Foreteller_recall_32 rfl (lv_at hl 1 rfl) ?_
  refine lv_iconst (v := 4) hx hb d_Foreteller_recall_33 (by decide) ?_
  refine lv_imul hx hb d_Foreteller_recall_34 ?_
  refine lv_aload_n hx hb d_Foreteller_recall_35 rfl (lv_at hl 0 rfl) ?_
  refine va_get (D := D) (v := .ref (A 40)) (C := "RangeTeller$Foreteller") (T := rt_T5) (N := 13) hx hb hts rt_i5 hown hK hP 29 rfl rfl 11 (by decide) (hts _ (rt_m rt_w349)) (fun _ h9 => h9) rfl d_Foreteller_recall_36 ?_
  refine lv_iconst (v := 0) hx hb d_Foreteller_recall_39 (by decide) ?_
  refine lv_iconst (v := 4) hx hb d_Foreteller_recall_40 (by decide) ?_
  obtain ⟨σ8, h7, hm⟩ := rt_b1s hm
  refine rt_cp hx hb (hml.trans hl.1.symm) hown (hts _ (rt_m rt_w572)) (hts _ (rt_m rt_w574)) (hts _ (rt_m rt_w573)) (hts _ (rt_m rt_w103)) hK hP hD hS 37 40 rfl rfl (rtC_f40 cI cZ A _) rfl h7 (Nat.le_of_ble_eq_true rfl) (Nat.le_of_ble_eq_true rfl) d_Foreteller_recall_41 (fun H locs hP hS => ?_)
  exact W.vret hx hb hr (fun t ht hW => ⟨⟨_, rfl, Option.some.inj hm, rt_end rtC_Xo hK hP hS hX ht hW⟩, hS.F ht⟩) hS.2.2 d_Foreteller_recall_44
set_option maxHeartbeats 4000000 in
set_option maxRecDepth 100000 in
theorem k_C_Foreteller_pop (l : Launch) (D : va_G) (cI cZ : ClassId) (A : Nat → Nat) (hO : rt_Ok (rtC_W cI cZ A)) (σ : rt_St) (r' : Int32) (σ' : rt_St) (hm : M_C_Foreteller_pop σ = some (r', σ')) (sz : Nat) : Met l y_Foreteller_pop (rt_ws y_Foreteller_pop b_Foreteller_pop 1 (some .int)) ({ frames := 0, cells := 0, slots := 0, locals := 0 } : Room) (va_Pc [.ref (A 29)] (rt_P D rt_cl (rt_t cI cZ) rtC_X (rtC_W cI cZ A) sz σ)) (va_Qi (fun r1 u1 => r1 = r' ∧ u1 = σ') (rt_B D rt_cl (rt_t cI cZ) rtC_X (rtC_W cI cZ A)) (rt_A (rtC_W cI cZ A) sz)) 0 0 (rt_A (rtC_W cI cZ A) sz) := by
  refine Met.ofW (cc := b_Foreteller_pop) (maxL := 1) (ret := (some .int)) (by decide) rfl ?_
  intro p e s m args below meth c s₁ B hml hv
  obtain ⟨rfl, rfl, hP, hK, hX⟩ := hv
  have hx := B.exec
  have hb := B.bytes
  have hr := B.returns
  have hts := atoms_spec (ws := (rt_ws y_Foreteller_pop b_Foreteller_pop 1 (some .int))) B.pre
  have hown : s.vm.findClass "RangeTeller$Foreteller" = some m.cls := findClass_of_methodNamed B.named
  have hlocks := B.notSynchronized
  have hD := rt_hD hO s.heap.size
  have hS : va_S (rt_A (rtC_W cI cZ A) s.heap.size) s.heap s.heap [] := va_S.rf
  have hl := lv_entry ([.ref (A 29)]) (n := 1) (Nat.le_of_ble_eq_true rfl)
  rw [lg_entry_eq]
  generalize (lg_sl ([.ref (A 29)]) ++ List.replicate (1 - (lg_sl ([.ref (A 29)])).length) Slot.unset).toArray = ls at hl ⊢
  have hl : lv_has ls 1 [(0, .ref (A 29))] := hl
  show W p l e ({ frames := 0, cells := 0, slots := 0, locals := 0 } : Room) s m ([.ref (A 29)] : List Value).toArray below meth c s.heap [] 0 0 (rt_Qi D rt_cl (rt_t cI cZ) rtC_X (rtC_W cI cZ A) below ([.ref (A 29)] : List Value).toArray s r' σ') (F0 m 0 ls [])
  unfold M_C_Foreteller_pop at hm
  refine lv_aload_n hx hb d_Foreteller_pop_0 rfl (lv_at hl 0 rfl) ?_
  refine lv_dup hx hb d_Foreteller_pop_1 rfl ?_
  refine va_get (D := D) (v := .int (σ 29 12)) (C := "RangeTeller$Foreteller") (T := rt_T5) (N := 13) hx hb hts rt_i5 hown hK hP 29 rfl rfl 12 (by decide) (hts _ (rt_m rt_w350)) (fun _ h9 => h9) rfl d_Foreteller_pop_2 ?_
  refine lv_iconst (v := 1) hx hb d_Foreteller_pop_5 (by decide) ?_
  refine lv_isub hx hb d_Foreteller_pop_6 ?_
  obtain ⟨σ1, h2, hm⟩ := rt_b1s hm
  refine rt_pf (D := D) (C := "RangeTeller$Foreteller") (T := rt_T5) (N := 13) (ty := .int) hx hb hts rt_i5 rt_y5 rt_o5 rt_n5 hown hK hP hD hS 29 rfl rfl 12 (by decide) (hts _ (rt_m rt_w350)) (fun _ h9 => h9) rfl (by decide +kernel) rfl rfl (Nat.le_of_ble_eq_true rfl) (rtC_s29_12 cI cZ A _ _) h2 d_Foreteller_pop_7 (fun H locs hP hS => ?_)
  refine lv_aload_n hx hb d_Foreteller_pop_10 rfl (lv_at hl 0 rfl) ?_
  refine va_get (D := D) (v := .ref (A 39)) (C := "RangeTeller$Foreteller") (T := rt_T5) (N := 13) hx hb hts rt_i5 hown hK hP 29 rfl rfl 10 (by decide) (hts _ (rt_m rt_w348)) (fun _ h9 => h9) rfl d_Foreteller_pop_11 ?_
  refine lv_aload_n hx hb d_Foreteller_pop_14 rfl (lv_at hl 0 rfl) ?_
  refine va_get (D := D) (v := .int (σ1 29 12)) (C := "RangeTeller$Foreteller") (T := rt_T5) (N := 13) hx hb hts rt_i5 hown hK hP 29 rfl rfl 12 (by decide) (hts _ (rt_m rt_w350)) (fun _ h9 => h9) rfl d_Foreteller_pop_15 ?_
  obtain ⟨v3, h4, hm⟩ := rt_b1s hm
  refine rt_ald hx hb hK hP 39 0 rfl rfl h4 d_Foreteller_pop_18 ?_
  exact W.iret hx hb hr (fun t ht hW => ⟨⟨_, _, rfl, rt_pr hm, rt_end rtC_Xo hK hP hS hX ht hW⟩, hS.F ht⟩) hS.2.2 d_Foreteller_pop_19
set_option maxHeartbeats 4000000 in
set_option maxRecDepth 100000 in
theorem k_C_Ranges_least (l : Launch) (a0 : Int32) (r' : Int32) (hm : M_C_Ranges_least a0 = some r') : rt_MS l y_Ranges_least b_Ranges_least 1 (some .int) ({ frames := 0, cells := 0, slots := 0, locals := 0 } : Room) rt_X0 [.int a0] r' := by
  intro sz
  refine Met.ofW (cc := b_Ranges_least) (maxL := 1) (ret := (some .int)) (by decide) rfl ?_
  intro p e s m args below meth c s₁ B hml hv
  obtain ⟨rfl, rfl, hX⟩ := hv
  have hx := B.exec
  have hb := B.bytes
  have hr := B.returns
  have hts := atoms_spec (ws := (rt_ws y_Ranges_least b_Ranges_least 1 (some .int))) B.pre
  have hown : s.vm.findClass "RangeTeller$Ranges" = some m.cls := findClass_of_methodNamed B.named
  have hlocks := B.notSynchronized
  have hS : va_S (fun q => s.heap.size ≤ q) s.heap s.heap [] := va_S.rf
  have hl := lv_entry ([.int a0]) (n := 1) (Nat.le_of_ble_eq_true rfl)
  rw [lg_entry_eq]
  generalize (lg_sl ([.int a0]) ++ List.replicate (1 - (lg_sl ([.int a0])).length) Slot.unset).toArray = ls at hl ⊢
  have hl : lv_has ls 1 [(0, .int a0)] := hl
  show W p l e ({ frames := 0, cells := 0, slots := 0, locals := 0 } : Room) s m ([.int a0] : List Value).toArray below meth c s.heap [] 0 0 (rt_Qs below ([.int a0] : List Value).toArray s r') (F0 m 0 ls [])
  unfold M_C_Ranges_least at hm
  refine lv_iload_n hx hb d_Ranges_least_0 rfl (lv_at hl 0 rfl) ?_
  refine lv_bipush (v := 63) hx hb d_Ranges_least_1 (by decide) ?_
  refine lv_iand hx hb d_Ranges_least_3 ?_
  exact W.iret hx hb hr (fun t ht hW => ⟨⟨_, (), rfl, Option.some.inj hm, trivial⟩, hS.F ht⟩) hS.2.2 d_Ranges_least_4
set_option maxHeartbeats 4000000 in
set_option maxRecDepth 100000 in
theorem k_C_Ranges_greatest (l : Launch) (a0 : Int32) (r' : Int32) (hm : M_C_Ranges_greatest a0 = some r') : rt_MS l y_Ranges_greatest b_Ranges_greatest 1 (some .int) ({ frames := 0, cells := 0, slots := 0, locals := 0 } : Room) rt_X0 [.int a0] r' := by
  intro sz
  refine Met.ofW (cc := b_Ranges_greatest) (maxL := 1) (ret := (some .int)) (by decide) rfl ?_
  intro p e s m args below meth c s₁ B hml hv
  obtain ⟨rfl, rfl, hX⟩ := hv
  have hx := B.exec
  have hb := B.bytes
  have hr := B.returns
  have hts := atoms_spec (ws := (rt_ws y_Ranges_greatest b_Ranges_greatest 1 (some .int))) B.pre
  have hown : s.vm.findClass "RangeTeller$Ranges" = some m.cls := findClass_of_methodNamed B.named
  have hlocks := B.notSynchronized
  have hS : va_S (fun q => s.heap.size ≤ q) s.heap s.heap [] := va_S.rf
  have hl := lv_entry ([.int a0]) (n := 1) (Nat.le_of_ble_eq_true rfl)
  rw [lg_entry_eq]
  generalize (lg_sl ([.int a0]) ++ List.replicate (1 - (lg_sl ([.int a0])).length) Slot.unset).toArray = ls at hl ⊢
  have hl : lv_has ls 1 [(0, .int a0)] := hl
  show W p l e ({ frames := 0, cells := 0, slots := 0, locals := 0 } : Room) s m ([.int a0] : List Value).toArray below meth c s.heap [] 0 0 (rt_Qs below ([.int a0] : List Value).toArray s r') (F0 m 0 ls [])
  unfold M_C_Ranges_greatest at hm
  refine lv_iload_n hx hb d_Ranges_greatest_0 rfl (lv_at hl 0 rfl) ?_
  refine lv_sipush (v := 4032) hx hb d_Ranges_greatest_1 (by decide) ?_
  refine lv_iand hx hb d_Ranges_greatest_4 ?_
  refine lv_bipush (v := 64) hx hb d_Ranges_greatest_5 (by decide) ?_
  obtain ⟨v1, h2, hm⟩ := rt_b1s hm
  obtain ⟨h2a, rfl⟩ := rt_divs h2
  refine lv_idiv hx hb d_Ranges_greatest_7 h2a ?_
  exact W.iret hx hb hr (fun t ht hW => ⟨⟨_, (), rfl, Option.some.inj hm, trivial⟩, hS.F ht⟩) hS.2.2 d_Ranges_greatest_8
set_option maxHeartbeats 4000000 in
set_option maxRecDepth 100000 in
theorem k_C_Ranges_leastBoth (l : Launch) (a0 a1 : Int32) (r' : Int32) (hm : M_C_Ranges_leastBoth a0 a1 = some r') : rt_MS l y_Ranges_leastBoth b_Ranges_leastBoth 7 (some .int) ({ frames := 1, cells := 0, slots := 0, locals := 20 } : Room) rt_X0 [.int a0, .int a1] r' := by
  intro sz
  refine Met.ofW (cc := b_Ranges_leastBoth) (maxL := 7) (ret := (some .int)) (by decide) rfl ?_
  intro p e s m args below meth c s₁ B hml hv
  obtain ⟨rfl, rfl, hX⟩ := hv
  have hx := B.exec
  have hb := B.bytes
  have hr := B.returns
  have hts := atoms_spec (ws := (rt_ws y_Ranges_leastBoth b_Ranges_leastBoth 7 (some .int))) B.pre
  have hown : s.vm.findClass "RangeTeller$Ranges" = some m.cls := findClass_of_methodNamed B.named
  have hlocks := B.notSynchronized
  have hS : va_S (fun q => s.heap.size ≤ q) s.heap s.heap [] := va_S.rf
  have hl := lv_entry ([.int a0, .int a1]) (n := 7) (Nat.le_of_ble_eq_true rfl)
  rw [lg_entry_eq]
  generalize (lg_sl ([.int a0, .int a1]) ++ List.replicate (7 - (lg_sl ([.int a0, .int a1])).length) Slot.unset).toArray = ls at hl ⊢
  have hl : lv_has ls 7 [(0, .int a0), (1, .int a1)] := hl
  show W p l e ({ frames := 1, cells := 0, slots := 0, locals := 20 } : Room) s m ([.int a0, .int a1] : List Value).toArray below meth c s.heap [] 0 0 (rt_Qs below ([.int a0, .int a1] : List Value).toArray s r') (F0 m 0 ls [])
  have hB14 : ∀ (n14 : Nat) (ls : Array Slot) (l0 l1 l2 l3 l4 : Int32) (H : Heap) (locs : List Loc), lv_has ls 7 [(0, .int l0), (1, .int l1), (2, .int l2), (3, .int l3), (4, .int l4)] → B_C_Ranges_leastBoth_14 n14 l0 l1 l2 l3 l4 = some r' → va_S (fun q => s.heap.size ≤ q) s.heap H locs → W p l e ({ frames := 1, cells := 0, slots := 0, locals := 20 } : Room) s m ([.int a0, .int a1] : List Value).toArray below meth c H locs 0 0 (rt_Qs below ([.int a0, .int a1] : List Value).toArray s r') (F0 m 14 ls []) := by
    intro n14
    induction n14 with
    | zero => intro ls l0 l1 l2 l3 l4 H locs hl hm hS; rw [B_C_Ranges_leastBoth_14] at hm; cases hm
    | succ n14 ih14 =>
      have hB81 : ∀ (ls : Array Slot) (l0 l1 l2 l3 l4 : Int32) (H : Heap) (locs : List Loc), lv_has ls 7 [(0, .int l0), (1, .int l1), (2, .int l2), (3, .int l3), (4, .int l4)] → B_C_Ranges_leastBoth_81 (B_C_Ranges_leastBoth_14 n14) l0 l1 l2 l3 l4 = some r' → va_S (fun q => s.heap.size ≤ q) s.heap H locs → W p l e ({ frames := 1, cells := 0, slots := 0, locals := 20 } : Room) s m ([.int a0, .int a1] : List Value).toArray below meth c H locs 0 0 (rt_Qs below ([.int a0, .int a1] : List Value).toArray s r') (F0 m 81 ls []) := by
        intro ls l0 l1 l2 l3 l4 H locs hl hm hS
        unfold B_C_Ranges_leastBoth_81 at hm
        refine lv_iload hx hb d_Ranges_leastBoth_81 (lv_at hl 4 rfl) ?_
        refine lv_iconst (v := 2) hx hb d_Ranges_leastBoth_83 (by decide) ?_
        obtain ⟨v1, h2, hm⟩ := rt_b1s hm
        obtain ⟨h2a, rfl⟩ := rt_divs h2
        refine lv_idiv hx hb d_Ranges_leastBoth_84 h2a ?_
        refine lv_istore hx hb d_Ranges_leastBoth_85 hl (by decide) rfl (fun ls hl => ?_)
        have hl : lv_has ls 7 [(4, .int (l4 / 2)), (0, .int l0), (1, .int l1), (2, .int l2), (3, .int l3)] := hl
        refine lv_goto (tgt := 14) hx hb d_Ranges_leastBoth_87 (by decide) ?_
        exact ih14 ls l0 l1 l2 l3 (l4 / 2) _ _ (lv_sub hl [1, 2, 3, 4, 0] rfl) hm hS
      intro ls l0 l1 l2 l3 l4 H locs hl hm hS
      rw [B_C_Ranges_leastBoth_14] at hm
      refine lv_iload hx hb d_Ranges_leastBoth_14 (lv_at hl 4 rfl) ?_
      refine lv_if_le (tgt := 90) hx hb d_Ranges_leastBoth_16 (by decide) (fun hc => ?_) (fun hc => ?_)
      · have hm := (if_pos hc).symm.trans hm
        refine lv_iload_n hx hb d_Ranges_leastBoth_90 rfl (lv_at hl 2 rfl) ?_
        refine lv_iload_n hx hb d_Ranges_leastBoth_91 rfl (lv_at hl 3 rfl) ?_
        refine lv_iand hx hb d_Ranges_leastBoth_92 ?_
        exact W.iret hx hb hr (fun t ht hW => ⟨⟨_, (), rfl, Option.some.inj hm, trivial⟩, hS.F ht⟩) hS.2.2 d_Ranges_leastBoth_93
      · have hm := (if_neg hc).symm.trans hm
        refine lv_iload_n hx hb d_Ranges_leastBoth_19 rfl (lv_at hl 2 rfl) ?_
        refine lv_iload hx hb d_Ranges_leastBoth_20 (lv_at hl 4 rfl) ?_
        refine lv_iand hx hb d_Ranges_leastBoth_22 ?_
        refine lv_if_ne (tgt := 81) hx hb d_Ranges_leastBoth_23 (by decide) (fun hc => ?_) (fun hc => ?_)
        · have hm := (if_neg hc).symm.trans hm
          exact hB81 ls l0 l1 l2 l3 l4 _ _ (lv_sub hl [0, 1, 2, 3, 4] rfl) hm hS
        · have hm := (if_pos hc).symm.trans hm
          refine lv_iload_n hx hb d_Ranges_leastBoth_26 rfl (lv_at hl 3 rfl) ?_
          refine lv_iload hx hb d_Ranges_leastBoth_27 (lv_at hl 4 rfl) ?_
          refine lv_iand hx hb d_Ranges_leastBoth_29 ?_
          refine lv_if_ne (tgt := 81) hx hb d_Ranges_leastBoth_30 (by decide) (fun hc => ?_) (fun hc => ?_)
          · have hm := (if_neg hc).symm.trans hm
            exact hB81 ls l0 l1 l2 l3 l4 _ _ (lv_sub hl [0, 1, 2, 3, 4] rfl) hm hS
          · have hm := (if_pos hc).symm.trans hm
            refine lv_iload_n hx hb d_Ranges_leastBoth_33 rfl (lv_at hl 2 rfl) ?_
            refine lv_iload hx hb d_Ranges_leastBoth_34 (lv_at hl 4 rfl) ?_
            refine lv_ior hx hb d_Ranges_leastBoth_36 ?_
            refine lv_iload hx hb d_Ranges_leastBoth_37 (lv_at hl 4 rfl) ?_
            refine lv_ineg hx hb d_Ranges_leastBoth_39 ?_
            refine lv_iand hx hb d_Ranges_leastBoth_40 ?_
            refine lv_istore hx hb d_Ranges_leastBoth_41 hl (by decide) rfl (fun ls hl => ?_)
            have hl : lv_has ls 7 [(5, .int ((l2 ||| l4) &&& (-l4))), (0, .int l0), (1, .int l1), (2, .int l2), (3, .int l3), (4, .int l4)] := hl
            refine lv_iload_n hx hb d_Ranges_leastBoth_43 rfl (lv_at hl 4 rfl) ?_
            refine lv_iload hx hb d_Ranges_leastBoth_44 (lv_at hl 5 rfl) ?_
            refine lv_ior hx hb d_Ranges_leastBoth_46 ?_
            refine lv_iload hx hb d_Ranges_leastBoth_47 (lv_at hl 5 rfl) ?_
            refine lv_ineg hx hb d_Ranges_leastBoth_49 ?_
            refine lv_iand hx hb d_Ranges_leastBoth_50 ?_
            refine lv_istore hx hb d_Ranges_leastBoth_51 hl (by decide) rfl (fun ls hl => ?_)
            have hl : lv_has ls 7 [(6, .int ((l3 ||| l4) &&& (-l4))), (5, .int ((l2 ||| l4) &&& (-l4))), (0, .int l0), (1, .int l1), (2, .int l2), (3, .int l3), (4, .int l4)] := hl
            refine lv_iload hx hb d_Ranges_leastBoth_53 (lv_at hl 1 rfl) ?_
            refine lv_iload_n hx hb d_Ranges_leastBoth_55 rfl (lv_at hl 2 rfl) ?_
            obtain ⟨v4, h3, hm⟩ := rt_b1s hm
            refine rt_csi (As := [.int l0]) (rest := [.int ((l2 ||| l4) &&& (-l4))]) rt_X0o ⟨hx, hb, hml, hown, hts⟩ (k_C_Ranges_greatest l l0 _ h3) (cw_Ranges_greatest hts (hts _ (rt_m rt_w596)) ⟨Nat.le_of_ble_eq_true rfl, Nat.le_of_ble_eq_true rfl⟩) hS (fun _ h => h) trivial rfl hl.1 rfl (Nat.le_of_ble_eq_true rfl) d_Ranges_leastBoth_56 ⟨Nat.zero_le _, Nat.zero_le _⟩ (fun H locs hk hS => ?_)
            clear hk
            refine lv_icmp_gt (tgt := 67) hx hb d_Ranges_leastBoth_59 (by decide) (fun hc => ?_) (fun hc => ?_)
            · have hm := (if_pos hc).symm.trans hm
              refine lv_iload hx hb d_Ranges_leastBoth_67 (lv_at hl 0 rfl) ?_
              refine lv_iload_n hx hb d_Ranges_leastBoth_69 rfl (lv_at hl 3 rfl) ?_
              obtain ⟨v6, h5, hm⟩ := rt_b1s hm
              refine rt_csi (As := [.int l1]) (rest := [.int ((l3 ||| l4) &&& (-l4))]) rt_X0o ⟨hx, hb, hml, hown, hts⟩ (k_C_Ranges_greatest l l1 _ h5) (cw_Ranges_greatest hts (hts _ (rt_m rt_w596)) ⟨Nat.le_of_ble_eq_true rfl, Nat.le_of_ble_eq_true rfl⟩) hS (fun _ h => h) trivial rfl hl.1 rfl (Nat.le_of_ble_eq_true rfl) d_Ranges_leastBoth_70 ⟨Nat.zero_le _, Nat.zero_le _⟩ (fun H locs hk hS => ?_)
              clear hk
              refine lv_icmp_gt (tgt := 81) hx hb d_Ranges_leastBoth_73 (by decide) (fun hc => ?_) (fun hc => ?_)
              · have hm := (if_pos hc).symm.trans hm
                exact hB81 ls l0 l1 l2 l3 l4 _ _ (lv_sub hl [2, 3, 4, 5, 6] rfl) hm hS
              · have hm := (if_neg hc).symm.trans hm
                refine lv_iload_n hx hb d_Ranges_leastBoth_76 rfl (lv_at hl 4 rfl) ?_
                refine lv_iload hx hb d_Ranges_leastBoth_77 (lv_at hl 0 rfl) ?_
                refine lv_iand hx hb d_Ranges_leastBoth_79 ?_
                exact W.iret hx hb hr (fun t ht hW => ⟨⟨_, (), rfl, Option.some.inj hm, trivial⟩, hS.F ht⟩) hS.2.2 d_Ranges_leastBoth_80
            · have hm := (if_neg hc).symm.trans hm
              refine lv_iload hx hb d_Ranges_leastBoth_62 (lv_at hl 1 rfl) ?_
              refine lv_iload_n hx hb d_Ranges_leastBoth_64 rfl (lv_at hl 5 rfl) ?_
              refine lv_iand hx hb d_Ranges_leastBoth_65 ?_
              exact W.iret hx hb hr (fun t ht hW => ⟨⟨_, (), rfl, Option.some.inj hm, trivial⟩, hS.F ht⟩) hS.2.2 d_Ranges_leastBoth_66
  unfold M_C_Ranges_leastBoth at hm
  refine lv_iload_n hx hb d_Ranges_leastBoth_0 rfl (lv_at hl 0 rfl) ?_
  obtain ⟨v8, h7, hm⟩ := rt_b1s hm
  refine rt_csi (As := [.int a0]) (rest := []) rt_X0o ⟨hx, hb, hml, hown, hts⟩ (k_C_Ranges_least l a0 _ h7) (cw_Ranges_least hts (hts _ (rt_m rt_w590)) ⟨Nat.le_of_ble_eq_true rfl, Nat.le_of_ble_eq_true rfl⟩) hS (fun _ h => h) trivial rfl hl.1 rfl (Nat.le_of_ble_eq_true rfl) d_Ranges_leastBoth_1 ⟨Nat.zero_le _, Nat.zero_le _⟩ (fun H locs hk hS => ?_)
  clear hk
  refine lv_istore_n hx hb d_Ranges_leastBoth_4 rfl hl (by decide) rfl (fun ls hl => ?_)
  have hl : lv_has ls 7 [(2, .int v8), (0, .int a0), (1, .int a1)] := hl
  refine lv_iload_n hx hb d_Ranges_leastBoth_5 rfl (lv_at hl 2 rfl) ?_
  obtain ⟨v10, h9, hm⟩ := rt_b1s hm
  refine rt_csi (As := [.int a1]) (rest := []) rt_X0o ⟨hx, hb, hml, hown, hts⟩ (k_C_Ranges_least l a1 _ h9) (cw_Ranges_least hts (hts _ (rt_m rt_w590)) ⟨Nat.le_of_ble_eq_true rfl, Nat.le_of_ble_eq_true rfl⟩) hS (fun _ h => h) trivial rfl hl.1 rfl (Nat.le_of_ble_eq_true rfl) d_Ranges_leastBoth_6 ⟨Nat.zero_le _, Nat.zero_le _⟩ (fun H locs hk hS => ?_)
  clear hk
  refine lv_istore_n hx hb d_Ranges_leastBoth_9 rfl hl (by decide) rfl (fun ls hl => ?_)
  have hl : lv_has ls 7 [(3, .int v10), (2, .int v8), (0, .int a0), (1, .int a1)] := hl
  refine lv_bipush (v := 32) hx hb d_Ranges_leastBoth_10 (by decide) ?_
  refine lv_istore hx hb d_Ranges_leastBoth_12 hl (by decide) rfl (fun ls hl => ?_)
  have hl : lv_has ls 7 [(4, .int 32), (3, .int v10), (2, .int v8), (0, .int a0), (1, .int a1)] := hl
  exact hB14 _ ls a0 a1 v8 v10 32 _ _ (lv_sub hl [3, 4, 2, 1, 0] rfl) hm hS
set_option maxHeartbeats 4000000 in
set_option maxRecDepth 100000 in
theorem k_C_Ranges_greatestBoth (l : Launch) (a0 a1 : Int32) (r' : Int32) (hm : M_C_Ranges_greatestBoth a0 a1 = some r') : rt_MS l y_Ranges_greatestBoth b_Ranges_greatestBoth 7 (some .int) ({ frames := 1, cells := 0, slots := 0, locals := 20 } : Room) rt_X0 [.int a0, .int a1] r' := by
  intro sz
  refine Met.ofW (cc := b_Ranges_greatestBoth) (maxL := 7) (ret := (some .int)) (by decide) rfl ?_
  intro p e s m args below meth c s₁ B hml hv
  obtain ⟨rfl, rfl, hX⟩ := hv
  have hx := B.exec
  have hb := B.bytes
  have hr := B.returns
  have hts := atoms_spec (ws := (rt_ws y_Ranges_greatestBoth b_Ranges_greatestBoth 7 (some .int))) B.pre
  have hown : s.vm.findClass "RangeTeller$Ranges" = some m.cls := findClass_of_methodNamed B.named
  have hlocks := B.notSynchronized
  have hS : va_S (fun q => s.heap.size ≤ q) s.heap s.heap [] := va_S.rf
  have hl := lv_entry ([.int a0, .int a1]) (n := 7) (Nat.le_of_ble_eq_true rfl)
  rw [lg_entry_eq]
  generalize (lg_sl ([.int a0, .int a1]) ++ List.replicate (7 - (lg_sl ([.int a0, .int a1])).length) Slot.unset).toArray = ls at hl ⊢
  have hl : lv_has ls 7 [(0, .int a0), (1, .int a1)] := hl
  show W p l e ({ frames := 1, cells := 0, slots := 0, locals := 20 } : Room) s m ([.int a0, .int a1] : List Value).toArray below meth c s.heap [] 0 0 (rt_Qs below ([.int a0, .int a1] : List Value).toArray s r') (F0 m 0 ls [])
  have hB14 : ∀ (n14 : Nat) (ls : Array Slot) (l0 l1 l2 l3 l4 : Int32) (H : Heap) (locs : List Loc), lv_has ls 7 [(0, .int l0), (1, .int l1), (2, .int l2), (3, .int l3), (4, .int l4)] → B_C_Ranges_greatestBoth_14 n14 l0 l1 l2 l3 l4 = some r' → va_S (fun q => s.heap.size ≤ q) s.heap H locs → W p l e ({ frames := 1, cells := 0, slots := 0, locals := 20 } : Room) s m ([.int a0, .int a1] : List Value).toArray below meth c H locs 0 0 (rt_Qs below ([.int a0, .int a1] : List Value).toArray s r') (F0 m 14 ls []) := by
    intro n14
    induction n14 with
    | zero => intro ls l0 l1 l2 l3 l4 H locs hl hm hS; rw [B_C_Ranges_greatestBoth_14] at hm; cases hm
    | succ n14 ih14 =>
      have hB101 : ∀ (ls : Array Slot) (l0 l1 l2 l3 l4 : Int32) (H : Heap) (locs : List Loc), lv_has ls 7 [(0, .int l0), (1, .int l1), (2, .int l2), (3, .int l3), (4, .int l4)] → B_C_Ranges_greatestBoth_101 (B_C_Ranges_greatestBoth_14 n14) l0 l1 l2 l3 l4 = some r' → va_S (fun q => s.heap.size ≤ q) s.heap H locs → W p l e ({ frames := 1, cells := 0, slots := 0, locals := 20 } : Room) s m ([.int a0, .int a1] : List Value).toArray below meth c H locs 0 0 (rt_Qs below ([.int a0, .int a1] : List Value).toArray s r') (F0 m 101 ls []) := by
        intro ls l0 l1 l2 l3 l4 H locs hl hm hS
        unfold B_C_Ranges_greatestBoth_101 at hm
        refine lv_iload hx hb d_Ranges_greatestBoth_101 (lv_at hl 4 rfl) ?_
        refine lv_iconst (v := 2) hx hb d_Ranges_greatestBoth_103 (by decide) ?_
        obtain ⟨v1, h2, hm⟩ := rt_b1s hm
        obtain ⟨h2a, rfl⟩ := rt_divs h2
        refine lv_idiv hx hb d_Ranges_greatestBoth_104 h2a ?_
        refine lv_istore hx hb d_Ranges_greatestBoth_105 hl (by decide) rfl (fun ls hl => ?_)
        have hl : lv_has ls 7 [(4, .int (l4 / 2)), (0, .int l0), (1, .int l1), (2, .int l2), (3, .int l3)] := hl
        refine lv_goto (tgt := 14) hx hb d_Ranges_greatestBoth_107 (by decide) ?_
        exact ih14 ls l0 l1 l2 l3 (l4 / 2) _ _ (lv_sub hl [1, 2, 3, 4, 0] rfl) hm hS
      have hB73 : ∀ (ls : Array Slot) (l0 l1 l2 l3 l4 l6 : Int32) (H : Heap) (locs : List Loc), lv_has ls 7 [(0, .int l0), (1, .int l1), (2, .int l2), (3, .int l3), (4, .int l4), (6, .int l6)] → B_C_Ranges_greatestBoth_73 (B_C_Ranges_greatestBoth_14 n14) l0 l1 l2 l3 l4 l6 = some r' → va_S (fun q => s.heap.size ≤ q) s.heap H locs → W p l e ({ frames := 1, cells := 0, slots := 0, locals := 20 } : Room) s m ([.int a0, .int a1] : List Value).toArray below meth c H locs 0 0 (rt_Qs below ([.int a0, .int a1] : List Value).toArray s r') (F0 m 73 ls []) := by
        intro ls l0 l1 l2 l3 l4 l6 H locs hl hm hS
        unfold B_C_Ranges_greatestBoth_73 at hm
        refine lv_iload_n hx hb d_Ranges_greatestBoth_73 rfl (lv_at hl 2 rfl) ?_
        refine lv_iload hx hb d_Ranges_greatestBoth_74 (lv_at hl 4 rfl) ?_
        refine lv_iand hx hb d_Ranges_greatestBoth_76 ?_
        refine lv_if_ne (tgt := 101) hx hb d_Ranges_greatestBoth_77 (by decide) (fun hc => ?_) (fun hc => ?_)
        · have hm := (if_neg hc).symm.trans hm
          exact hB101 ls l0 l1 l2 l3 l4 _ _ (lv_sub hl [0, 1, 2, 3, 4] rfl) hm hS
        · have hm := (if_pos hc).symm.trans hm
          refine lv_iload_n hx hb d_Ranges_greatestBoth_80 rfl (lv_at hl 3 rfl) ?_
          refine lv_iload hx hb d_Ranges_greatestBoth_81 (lv_at hl 4 rfl) ?_
          refine lv_iand hx hb d_Ranges_greatestBoth_83 ?_
          refine lv_if_eq (tgt := 101) hx hb d_Ranges_greatestBoth_84 (by decide) (fun hc => ?_) (fun hc => ?_)
          · have hm := (if_pos hc).symm.trans hm
            exact hB101 ls l0 l1 l2 l3 l4 _ _ (lv_sub hl [0, 1, 2, 3, 4] rfl) hm hS
          · have hm := (if_neg hc).symm.trans hm
            refine lv_iload hx hb d_Ranges_greatestBoth_87 (lv_at hl 5 rfl) ?_
            refine lv_iload_n hx hb d_Ranges_greatestBoth_89 rfl (lv_at hl 1 rfl) ?_
            obtain ⟨v4, h3, hm⟩ := rt_b1s hm
            refine rt_csi (As := [.int l1]) (rest := [.int l6]) rt_X0o ⟨hx, hb, hml, hown, hts⟩ (k_C_Ranges_least l l1 _ h3) (cw_Ranges_least hts (hts _ (rt_m rt_w590)) ⟨Nat.le_of_ble_eq_true rfl, Nat.le_of_ble_eq_true rfl⟩) hS (fun _ h => h) trivial rfl hl.1 rfl (Nat.le_of_ble_eq_true rfl) d_Ranges_greatestBoth_90 ⟨Nat.zero_le _, Nat.zero_le _⟩ (fun H locs hk hS => ?_)
            clear hk
            refine lv_icmp_lt (tgt := 101) hx hb d_Ranges_greatestBoth_93 (by decide) (fun hc => ?_) (fun hc => ?_)
            · have hm := (if_pos hc).symm.trans hm
              exact hB101 ls l0 l1 l2 l3 l4 _ _ (lv_sub hl [0, 1, 2, 3, 4] rfl) hm hS
            · have hm := (if_neg hc).symm.trans hm
              refine lv_iload_n hx hb d_Ranges_greatestBoth_96 rfl (lv_at hl 2 rfl) ?_
              refine lv_iload hx hb d_Ranges_greatestBoth_97 (lv_at hl 5 rfl) ?_
              refine lv_iand hx hb d_Ranges_greatestBoth_99 ?_
              exact W.iret hx hb hr (fun t ht hW => ⟨⟨_, (), rfl, Option.some.inj hm, trivial⟩, hS.F ht⟩) hS.2.2 d_Ranges_greatestBoth_100
      intro ls l0 l1 l2 l3 l4 H locs hl hm hS
      rw [B_C_Ranges_greatestBoth_14] at hm
      refine lv_iload hx hb d_Ranges_greatestBoth_14 (lv_at hl 4 rfl) ?_
      refine lv_if_le (tgt := 110) hx hb d_Ranges_greatestBoth_16 (by decide) (fun hc => ?_) (fun hc => ?_)
      · have hm := (if_pos hc).symm.trans hm
        refine lv_iload_n hx hb d_Ranges_greatestBoth_110 rfl (lv_at hl 2 rfl) ?_
        refine lv_iload_n hx hb d_Ranges_greatestBoth_111 rfl (lv_at hl 3 rfl) ?_
        refine lv_iand hx hb d_Ranges_greatestBoth_112 ?_
        exact W.iret hx hb hr (fun t ht hW => ⟨⟨_, (), rfl, Option.some.inj hm, trivial⟩, hS.F ht⟩) hS.2.2 d_Ranges_greatestBoth_113
      · have hm := (if_neg hc).symm.trans hm
        refine lv_iload_n hx hb d_Ranges_greatestBoth_19 rfl (lv_at hl 2 rfl) ?_
        refine lv_iload hx hb d_Ranges_greatestBoth_20 (lv_at hl 4 rfl) ?_
        refine lv_iconst (v := (-1)) hx hb d_Ranges_greatestBoth_22 (by decide) ?_
        refine lv_ixor hx hb d_Ranges_greatestBoth_23 ?_
        refine lv_iand hx hb d_Ranges_greatestBoth_24 ?_
        refine lv_iload hx hb d_Ranges_greatestBoth_25 (lv_at hl 4 rfl) ?_
        refine lv_iconst (v := 1) hx hb d_Ranges_greatestBoth_27 (by decide) ?_
        refine lv_isub hx hb d_Ranges_greatestBoth_28 ?_
        refine lv_ior hx hb d_Ranges_greatestBoth_29 ?_
        refine lv_istore hx hb d_Ranges_greatestBoth_30 hl (by decide) rfl (fun ls hl => ?_)
        have hl : lv_has ls 7 [(5, .int ((l2 &&& (l4 ^^^ (-1))) ||| (l4 - 1))), (0, .int l0), (1, .int l1), (2, .int l2), (3, .int l3), (4, .int l4)] := hl
        refine lv_iload_n hx hb d_Ranges_greatestBoth_32 rfl (lv_at hl 4 rfl) ?_
        refine lv_iload hx hb d_Ranges_greatestBoth_33 (lv_at hl 5 rfl) ?_
        refine lv_iconst (v := (-1)) hx hb d_Ranges_greatestBoth_35 (by decide) ?_
        refine lv_ixor hx hb d_Ranges_greatestBoth_36 ?_
        refine lv_iand hx hb d_Ranges_greatestBoth_37 ?_
        refine lv_iload hx hb d_Ranges_greatestBoth_38 (lv_at hl 5 rfl) ?_
        refine lv_iconst (v := 1) hx hb d_Ranges_greatestBoth_40 (by decide) ?_
        refine lv_isub hx hb d_Ranges_greatestBoth_41 ?_
        refine lv_ior hx hb d_Ranges_greatestBoth_42 ?_
        refine lv_istore hx hb d_Ranges_greatestBoth_43 hl (by decide) rfl (fun ls hl => ?_)
        have hl : lv_has ls 7 [(6, .int ((l3 &&& (l4 ^^^ (-1))) ||| (l4 - 1))), (5, .int ((l2 &&& (l4 ^^^ (-1))) ||| (l4 - 1))), (0, .int l0), (1, .int l1), (2, .int l2), (3, .int l3), (4, .int l4)] := hl
        refine lv_iload_n hx hb d_Ranges_greatestBoth_45 rfl (lv_at hl 4 rfl) ?_
        refine lv_iload hx hb d_Ranges_greatestBoth_46 (lv_at hl 6 rfl) ?_
        refine lv_iand hx hb d_Ranges_greatestBoth_48 ?_
        refine lv_if_eq (tgt := 73) hx hb d_Ranges_greatestBoth_49 (by decide) (fun hc => ?_) (fun hc => ?_)
        · have hm := (if_pos hc).symm.trans hm
          exact hB73 ls l0 l1 l2 l3 l4 ((l3 &&& (l4 ^^^ (-1))) ||| (l4 - 1)) _ _ (lv_sub hl [2, 3, 4, 5, 6, 0] rfl) hm hS
        · have hm := (if_neg hc).symm.trans hm
          refine lv_iload_n hx hb d_Ranges_greatestBoth_52 rfl (lv_at hl 5 rfl) ?_
          refine lv_iload hx hb d_Ranges_greatestBoth_53 (lv_at hl 6 rfl) ?_
          refine lv_iand hx hb d_Ranges_greatestBoth_55 ?_
          refine lv_if_ne (tgt := 73) hx hb d_Ranges_greatestBoth_56 (by decide) (fun hc => ?_) (fun hc => ?_)
          · have hm := (if_neg hc).symm.trans hm
            exact hB73 ls l0 l1 l2 l3 l4 ((l3 &&& (l4 ^^^ (-1))) ||| (l4 - 1)) _ _ (lv_sub hl [2, 3, 4, 5, 6, 0] rfl) hm hS
          · have hm := (if_pos hc).symm.trans hm
            refine lv_iload hx hb d_Ranges_greatestBoth_59 (lv_at hl 1 rfl) ?_
            refine lv_iload_n hx hb d_Ranges_greatestBoth_61 rfl (lv_at hl 2 rfl) ?_
            obtain ⟨v6, h5, hm⟩ := rt_b1s hm
            refine rt_csi (As := [.int l0]) (rest := [.int ((l2 &&& (l4 ^^^ (-1))) ||| (l4 - 1))]) rt_X0o ⟨hx, hb, hml, hown, hts⟩ (k_C_Ranges_least l l0 _ h5) (cw_Ranges_least hts (hts _ (rt_m rt_w590)) ⟨Nat.le_of_ble_eq_true rfl, Nat.le_of_ble_eq_true rfl⟩) hS (fun _ h => h) trivial rfl hl.1 rfl (Nat.le_of_ble_eq_true rfl) d_Ranges_greatestBoth_62 ⟨Nat.zero_le _, Nat.zero_le _⟩ (fun H locs hk hS => ?_)
            clear hk
            refine lv_icmp_lt (tgt := 73) hx hb d_Ranges_greatestBoth_65 (by decide) (fun hc => ?_) (fun hc => ?_)
            · have hm := (if_pos hc).symm.trans hm
              exact hB73 ls l0 l1 l2 l3 l4 ((l3 &&& (l4 ^^^ (-1))) ||| (l4 - 1)) _ _ (lv_sub hl [2, 3, 4, 5, 6, 0] rfl) hm hS
            · have hm := (if_neg hc).symm.trans hm
              refine lv_iload hx hb d_Ranges_greatestBoth_68 (lv_at hl 1 rfl) ?_
              refine lv_iload_n hx hb d_Ranges_greatestBoth_70 rfl (lv_at hl 5 rfl) ?_
              refine lv_iand hx hb d_Ranges_greatestBoth_71 ?_
              exact W.iret hx hb hr (fun t ht hW => ⟨⟨_, (), rfl, Option.some.inj hm, trivial⟩, hS.F ht⟩) hS.2.2 d_Ranges_greatestBoth_72
  unfold M_C_Ranges_greatestBoth at hm
  refine lv_iload_n hx hb d_Ranges_greatestBoth_0 rfl (lv_at hl 0 rfl) ?_
  obtain ⟨v8, h7, hm⟩ := rt_b1s hm
  refine rt_csi (As := [.int a0]) (rest := []) rt_X0o ⟨hx, hb, hml, hown, hts⟩ (k_C_Ranges_greatest l a0 _ h7) (cw_Ranges_greatest hts (hts _ (rt_m rt_w596)) ⟨Nat.le_of_ble_eq_true rfl, Nat.le_of_ble_eq_true rfl⟩) hS (fun _ h => h) trivial rfl hl.1 rfl (Nat.le_of_ble_eq_true rfl) d_Ranges_greatestBoth_1 ⟨Nat.zero_le _, Nat.zero_le _⟩ (fun H locs hk hS => ?_)
  clear hk
  refine lv_istore_n hx hb d_Ranges_greatestBoth_4 rfl hl (by decide) rfl (fun ls hl => ?_)
  have hl : lv_has ls 7 [(2, .int v8), (0, .int a0), (1, .int a1)] := hl
  refine lv_iload_n hx hb d_Ranges_greatestBoth_5 rfl (lv_at hl 2 rfl) ?_
  obtain ⟨v10, h9, hm⟩ := rt_b1s hm
  refine rt_csi (As := [.int a1]) (rest := []) rt_X0o ⟨hx, hb, hml, hown, hts⟩ (k_C_Ranges_greatest l a1 _ h9) (cw_Ranges_greatest hts (hts _ (rt_m rt_w596)) ⟨Nat.le_of_ble_eq_true rfl, Nat.le_of_ble_eq_true rfl⟩) hS (fun _ h => h) trivial rfl hl.1 rfl (Nat.le_of_ble_eq_true rfl) d_Ranges_greatestBoth_6 ⟨Nat.zero_le _, Nat.zero_le _⟩ (fun H locs hk hS => ?_)
  clear hk
  refine lv_istore_n hx hb d_Ranges_greatestBoth_9 rfl hl (by decide) rfl (fun ls hl => ?_)
  have hl : lv_has ls 7 [(3, .int v10), (2, .int v8), (0, .int a0), (1, .int a1)] := hl
  refine lv_bipush (v := 32) hx hb d_Ranges_greatestBoth_10 (by decide) ?_
  refine lv_istore hx hb d_Ranges_greatestBoth_12 hl (by decide) rfl (fun ls hl => ?_)
  have hl : lv_has ls 7 [(4, .int 32), (3, .int v10), (2, .int v8), (0, .int a0), (1, .int a1)] := hl
  exact hB14 _ ls a0 a1 v8 v10 32 _ _ (lv_sub hl [3, 4, 2, 1, 0] rfl) hm hS
set_option maxHeartbeats 4000000 in
set_option maxRecDepth 100000 in
theorem k_C_Ranges_of (l : Launch) (a0 a1 : Int32) (r' : Int32) (hm : M_C_Ranges_of a0 a1 = some r') : rt_MS l y_Ranges_of b_Ranges_of 2 (some .int) ({ frames := 0, cells := 0, slots := 0, locals := 0 } : Room) rt_X0 [.int a0, .int a1] r' := by
  intro sz
  refine Met.ofW (cc := b_Ranges_of) (maxL := 2) (ret := (some .int)) (by decide) rfl ?_
  intro p e s m args below meth c s₁ B hml hv
  obtain ⟨rfl, rfl, hX⟩ := hv
  have hx := B.exec
  have hb := B.bytes
  have hr := B.returns
  have hts := atoms_spec (ws := (rt_ws y_Ranges_of b_Ranges_of 2 (some .int))) B.pre
  have hown : s.vm.findClass "RangeTeller$Ranges" = some m.cls := findClass_of_methodNamed B.named
  have hlocks := B.notSynchronized
  have hS : va_S (fun q => s.heap.size ≤ q) s.heap s.heap [] := va_S.rf
  have hl := lv_entry ([.int a0, .int a1]) (n := 2) (Nat.le_of_ble_eq_true rfl)
  rw [lg_entry_eq]
  generalize (lg_sl ([.int a0, .int a1]) ++ List.replicate (2 - (lg_sl ([.int a0, .int a1])).length) Slot.unset).toArray = ls at hl ⊢
  have hl : lv_has ls 2 [(0, .int a0), (1, .int a1)] := hl
  show W p l e ({ frames := 0, cells := 0, slots := 0, locals := 0 } : Room) s m ([.int a0, .int a1] : List Value).toArray below meth c s.heap [] 0 0 (rt_Qs below ([.int a0, .int a1] : List Value).toArray s r') (F0 m 0 ls [])
  unfold M_C_Ranges_of at hm
  refine lv_iload_n hx hb d_Ranges_of_0 rfl (lv_at hl 0 rfl) ?_
  refine lv_bipush (v := 64) hx hb d_Ranges_of_1 (by decide) ?_
  refine lv_iload_n hx hb d_Ranges_of_3 rfl (lv_at hl 1 rfl) ?_
  refine lv_imul hx hb d_Ranges_of_4 ?_
  refine lv_iadd hx hb d_Ranges_of_5 ?_
  exact W.iret hx hb hr (fun t ht hW => ⟨⟨_, (), rfl, Option.some.inj hm, trivial⟩, hS.F ht⟩) hS.2.2 d_Ranges_of_6
set_option maxHeartbeats 4000000 in
set_option maxRecDepth 100000 in
theorem k_C_Ranges_rest (l : Launch) (a0 a1 : Int32) (r' : Int32) (hm : M_C_Ranges_rest a0 a1 = some r') : rt_MS l y_Ranges_rest b_Ranges_rest 8 (some .int) ({ frames := 1, cells := 0, slots := 0, locals := 21 } : Room) rt_X0 [.int a0, .int a1] r' := by
  intro sz
  refine Met.ofW (cc := b_Ranges_rest) (maxL := 8) (ret := (some .int)) (by decide) rfl ?_
  intro p e s m args below meth c s₁ B hml hv
  obtain ⟨rfl, rfl, hX⟩ := hv
  have hx := B.exec
  have hb := B.bytes
  have hr := B.returns
  have hts := atoms_spec (ws := (rt_ws y_Ranges_rest b_Ranges_rest 8 (some .int))) B.pre
  have hown : s.vm.findClass "RangeTeller$Ranges" = some m.cls := findClass_of_methodNamed B.named
  have hlocks := B.notSynchronized
  have hS : va_S (fun q => s.heap.size ≤ q) s.heap s.heap [] := va_S.rf
  have hl := lv_entry ([.int a0, .int a1]) (n := 8) (Nat.le_of_ble_eq_true rfl)
  rw [lg_entry_eq]
  generalize (lg_sl ([.int a0, .int a1]) ++ List.replicate (8 - (lg_sl ([.int a0, .int a1])).length) Slot.unset).toArray = ls at hl ⊢
  have hl : lv_has ls 8 [(0, .int a0), (1, .int a1)] := hl
  show W p l e ({ frames := 1, cells := 0, slots := 0, locals := 21 } : Room) s m ([.int a0, .int a1] : List Value).toArray below meth c s.heap [] 0 0 (rt_Qs below ([.int a0, .int a1] : List Value).toArray s r') (F0 m 0 ls [])
  have hB25 : ∀ (n25 : Nat) (ls : Array Slot) (l0 l1 l2 l3 l4 : Int32) (H : Heap) (locs : List Loc), lv_has ls 8 [(0, .int l0), (1, .int l1), (2, .int l2), (3, .int l3), (4, .int l4)] → B_C_Ranges_rest_25 n25 l0 l1 l2 l3 l4 = some r' → va_S (fun q => s.heap.size ≤ q) s.heap H locs → W p l e ({ frames := 1, cells := 0, slots := 0, locals := 21 } : Room) s m ([.int a0, .int a1] : List Value).toArray below meth c H locs 0 0 (rt_Qs below ([.int a0, .int a1] : List Value).toArray s r') (F0 m 25 ls []) := by
    intro n25
    induction n25 with
    | zero => intro ls l0 l1 l2 l3 l4 H locs hl hm hS; rw [B_C_Ranges_rest_25] at hm; cases hm
    | succ n25 ih25 =>
      have hB107 : ∀ (ls : Array Slot) (l0 l1 l2 l4 t0 t1 : Int32) (H : Heap) (locs : List Loc), lv_has ls 8 [(0, .int l0), (1, .int l1), (2, .int l2), (4, .int l4)] → B_C_Ranges_rest_107 (B_C_Ranges_rest_25 n25) l0 l1 l2 l4 t0 t1 = some r' → va_S (fun q => s.heap.size ≤ q) s.heap H locs → W p l e ({ frames := 1, cells := 0, slots := 0, locals := 21 } : Room) s m ([.int a0, .int a1] : List Value).toArray below meth c H locs 0 0 (rt_Qs below ([.int a0, .int a1] : List Value).toArray s r') (F0 m 107 ls [.int t0, .int t1]) := by
        intro ls l0 l1 l2 l4 t0 t1 H locs hl hm hS
        unfold B_C_Ranges_rest_107 at hm
        refine va_mmax hx hb (hml.trans hl.1.symm) hown (hts _ (rt_m rt_w683)) (hts _ (rt_m rt_w684)) (hts _ (rt_m rt_w104)) (hts _ (rt_m rt_w685)) (Nat.le_of_ble_eq_true rfl) (Nat.le_of_ble_eq_true rfl) (Nat.zero_le _) (Nat.zero_le _) d_Ranges_rest_107 ?_
        refine lv_istore_n hx hb d_Ranges_rest_110 rfl hl (by decide) rfl (fun ls hl => ?_)
        have hl : lv_has ls 8 [(3, .int (rt_max t1 t0)), (0, .int l0), (1, .int l1), (2, .int l2), (4, .int l4)] := hl
        refine lv_iinc (k := 4) (v := (l4 + 1)) hx hb d_Ranges_rest_111 hl rfl rfl (by decide) rfl (fun ls hl => ?_)
        have hl : lv_has ls 8 [(4, .int (l4 + 1)), (3, .int (rt_max t1 t0)), (0, .int l0), (1, .int l1), (2, .int l2)] := hl
        refine lv_goto (tgt := 25) hx hb d_Ranges_rest_114 (by decide) ?_
        exact ih25 ls l0 l1 l2 (rt_max t1 t0) (l4 + 1) _ _ (lv_sub hl [2, 3, 4, 1, 0] rfl) hm hS
      have hB88 : ∀ (ls : Array Slot) (l0 l1 l3 l4 l6 l7 t0 t1 : Int32) (H : Heap) (locs : List Loc), lv_has ls 8 [(0, .int l0), (1, .int l1), (3, .int l3), (4, .int l4), (6, .int l6), (7, .int l7)] → B_C_Ranges_rest_88 (B_C_Ranges_rest_25 n25) l0 l1 l3 l4 l6 l7 t0 t1 = some r' → va_S (fun q => s.heap.size ≤ q) s.heap H locs → W p l e ({ frames := 1, cells := 0, slots := 0, locals := 21 } : Room) s m ([.int a0, .int a1] : List Value).toArray below meth c H locs 0 0 (rt_Qs below ([.int a0, .int a1] : List Value).toArray s r') (F0 m 88 ls [.int t0, .int t1]) := by
        intro ls l0 l1 l3 l4 l6 l7 t0 t1 H locs hl hm hS
        unfold B_C_Ranges_rest_88 at hm
        refine va_mmin hx hb (hml.trans hl.1.symm) hown (hts _ (rt_m rt_w682)) (hts _ (rt_m rt_w642)) (hts _ (rt_m rt_w104)) (hts _ (rt_m rt_w643)) (Nat.le_of_ble_eq_true rfl) (Nat.le_of_ble_eq_true rfl) (Nat.zero_le _) (Nat.zero_le _) d_Ranges_rest_88 ?_
        refine lv_istore_n hx hb d_Ranges_rest_91 rfl hl (by decide) rfl (fun ls hl => ?_)
        have hl : lv_has ls 8 [(2, .int (rt_min t1 t0)), (0, .int l0), (1, .int l1), (3, .int l3), (4, .int l4), (6, .int l6), (7, .int l7)] := hl
        refine lv_iload_n hx hb d_Ranges_rest_92 rfl (lv_at hl 3 rfl) ?_
        refine lv_iload hx hb d_Ranges_rest_93 (lv_at hl 6 rfl) ?_
        refine lv_if_eq (tgt := 105) hx hb d_Ranges_rest_95 (by decide) (fun hc => ?_) (fun hc => ?_)
        · have hm := (if_pos hc).symm.trans hm
          refine lv_iload hx hb d_Ranges_rest_105 (lv_at hl 5 rfl) ?_
          exact hB107 ls l0 l1 (rt_min t1 t0) l4 l6 l3 _ _ (lv_sub hl [1, 2, 0, 4] rfl) hm hS
        · have hm := (if_neg hc).symm.trans hm
          refine lv_iload hx hb d_Ranges_rest_98 (lv_at hl 4 rfl) ?_
          refine lv_iconst (v := 1) hx hb d_Ranges_rest_100 (by decide) ?_
          refine lv_isub hx hb d_Ranges_rest_101 ?_
          refine lv_goto (tgt := 107) hx hb d_Ranges_rest_102 (by decide) ?_
          exact hB107 ls l0 l1 (rt_min t1 t0) l4 (l4 - 1) l3 _ _ (lv_sub hl [1, 2, 0, 4] rfl) hm hS
      have hB74 : ∀ (ls : Array Slot) (l0 l1 l2 l3 l4 l5 l6 t0 : Int32) (H : Heap) (locs : List Loc), lv_has ls 8 [(0, .int l0), (1, .int l1), (2, .int l2), (3, .int l3), (4, .int l4), (5, .int l5), (6, .int l6)] → B_C_Ranges_rest_74 (B_C_Ranges_rest_25 n25) l0 l1 l2 l3 l4 l5 l6 t0 = some r' → va_S (fun q => s.heap.size ≤ q) s.heap H locs → W p l e ({ frames := 1, cells := 0, slots := 0, locals := 21 } : Room) s m ([.int a0, .int a1] : List Value).toArray below meth c H locs 0 0 (rt_Qs below ([.int a0, .int a1] : List Value).toArray s r') (F0 m 74 ls [.int t0]) := by
        intro ls l0 l1 l2 l3 l4 l5 l6 t0 H locs hl hm hS
        unfold B_C_Ranges_rest_74 at hm
        refine lv_istore hx hb d_Ranges_rest_74 hl (by decide) rfl (fun ls hl => ?_)
        have hl : lv_has ls 8 [(7, .int t0), (0, .int l0), (1, .int l1), (2, .int l2), (3, .int l3), (4, .int l4), (5, .int l5), (6, .int l6)] := hl
        refine lv_iload_n hx hb d_Ranges_rest_76 rfl (lv_at hl 3 rfl) ?_
        refine lv_iload hx hb d_Ranges_rest_77 (lv_at hl 0 rfl) ?_
        refine lv_if_eq (tgt := 86) hx hb d_Ranges_rest_79 (by decide) (fun hc => ?_) (fun hc => ?_)
        · have hm := (if_pos hc).symm.trans hm
          refine lv_iload hx hb d_Ranges_rest_86 (lv_at hl 6 rfl) ?_
          exact hB88 ls l0 l1 l3 l4 l6 t0 l5 l2 _ _ (lv_sub hl [1, 2, 4, 5, 7, 0] rfl) hm hS
        · have hm := (if_neg hc).symm.trans hm
          refine lv_iconst (v := 0) hx hb d_Ranges_rest_82 (by decide) ?_
          refine lv_goto (tgt := 88) hx hb d_Ranges_rest_83 (by decide) ?_
          exact hB88 ls l0 l1 l3 l4 l6 t0 0 l2 _ _ (lv_sub hl [1, 2, 4, 5, 7, 0] rfl) hm hS
      intro ls l0 l1 l2 l3 l4 H locs hl hm hS
      rw [B_C_Ranges_rest_25] at hm
      refine lv_iload hx hb d_Ranges_rest_25 (lv_at hl 4 rfl) ?_
      refine lv_iload_n hx hb d_Ranges_rest_27 rfl (lv_at hl 1 rfl) ?_
      obtain ⟨v2, h1, hm⟩ := rt_b1s hm
      refine rt_csi (As := [.int l1]) (rest := [.int l4]) rt_X0o ⟨hx, hb, hml, hown, hts⟩ (k_C_Ranges_greatest l l1 _ h1) (cw_Ranges_greatest hts (hts _ (rt_m rt_w596)) ⟨Nat.le_of_ble_eq_true rfl, Nat.le_of_ble_eq_true rfl⟩) hS (fun _ h => h) trivial rfl hl.1 rfl (Nat.le_of_ble_eq_true rfl) d_Ranges_rest_28 ⟨Nat.zero_le _, Nat.zero_le _⟩ (fun H locs hk hS => ?_)
      clear hk
      refine lv_icmp_gt (tgt := 117) hx hb d_Ranges_rest_31 (by decide) (fun hc => ?_) (fun hc => ?_)
      · have hm := (if_pos hc).symm.trans hm
        refine lv_iload_n hx hb d_Ranges_rest_117 rfl (lv_at hl 2 rfl) ?_
        refine lv_iload_n hx hb d_Ranges_rest_118 rfl (lv_at hl 3 rfl) ?_
        obtain ⟨v4, h3, hm⟩ := rt_b1s hm
        refine rt_csi (As := [.int l2, .int l3]) (rest := []) rt_X0o ⟨hx, hb, hml, hown, hts⟩ (k_C_Ranges_of l l2 l3 _ h3) (cw_Ranges_of hts (hts _ (rt_m rt_w659)) ⟨Nat.le_of_ble_eq_true rfl, Nat.le_of_ble_eq_true rfl⟩) hS (fun _ h => h) trivial rfl hl.1 rfl (Nat.le_of_ble_eq_true rfl) d_Ranges_rest_119 ⟨Nat.zero_le _, Nat.zero_le _⟩ (fun H locs hk hS => ?_)
        clear hk
        exact W.iret hx hb hr (fun t ht hW => ⟨⟨_, (), rfl, Option.some.inj hm, trivial⟩, hS.F ht⟩) hS.2.2 d_Ranges_rest_122
      · have hm := (if_neg hc).symm.trans hm
        refine lv_iload_n hx hb d_Ranges_rest_34 rfl (lv_at hl 0 rfl) ?_
        obtain ⟨v6, h5, hm⟩ := rt_b1s hm
        refine rt_csi (As := [.int l0]) (rest := []) rt_X0o ⟨hx, hb, hml, hown, hts⟩ (k_C_Ranges_least l l0 _ h5) (cw_Ranges_least hts (hts _ (rt_m rt_w590)) ⟨Nat.le_of_ble_eq_true rfl, Nat.le_of_ble_eq_true rfl⟩) hS (fun _ h => h) trivial rfl hl.1 rfl (Nat.le_of_ble_eq_true rfl) d_Ranges_rest_35 ⟨Nat.zero_le _, Nat.zero_le _⟩ (fun H locs hk hS => ?_)
        clear hk
        refine lv_iload hx hb d_Ranges_rest_38 (lv_at hl 4 rfl) ?_
        obtain ⟨v7, h8, hm⟩ := rt_b1s hm
        obtain ⟨h8a, rfl⟩ := rt_rems h8
        refine lv_irem hx hb d_Ranges_rest_40 h8a ?_
        refine lv_istore hx hb d_Ranges_rest_41 hl (by decide) rfl (fun ls hl => ?_)
        have hl : lv_has ls 8 [(5, .int (v6 - v6 / l4 * l4)), (0, .int l0), (1, .int l1), (2, .int l2), (3, .int l3), (4, .int l4)] := hl
        refine lv_iload_n hx hb d_Ranges_rest_43 rfl (lv_at hl 1 rfl) ?_
        obtain ⟨v10, h9, hm⟩ := rt_b1s hm
        refine rt_csi (As := [.int l0]) (rest := []) rt_X0o ⟨hx, hb, hml, hown, hts⟩ (k_C_Ranges_greatest l l0 _ h9) (cw_Ranges_greatest hts (hts _ (rt_m rt_w596)) ⟨Nat.le_of_ble_eq_true rfl, Nat.le_of_ble_eq_true rfl⟩) hS (fun _ h => h) trivial rfl hl.1 rfl (Nat.le_of_ble_eq_true rfl) d_Ranges_rest_44 ⟨Nat.zero_le _, Nat.zero_le _⟩ (fun H locs hk hS => ?_)
        clear hk
        refine lv_iload hx hb d_Ranges_rest_47 (lv_at hl 5 rfl) ?_
        obtain ⟨v11, h12, hm⟩ := rt_b1s hm
        obtain ⟨h12a, rfl⟩ := rt_rems h12
        refine lv_irem hx hb d_Ranges_rest_49 h12a ?_
        refine lv_istore hx hb d_Ranges_rest_50 hl (by decide) rfl (fun ls hl => ?_)
        have hl : lv_has ls 8 [(6, .int (v10 - v10 / l4 * l4)), (5, .int (v6 - v6 / l4 * l4)), (0, .int l0), (1, .int l1), (2, .int l2), (3, .int l3), (4, .int l4)] := hl
        refine lv_iload_n hx hb d_Ranges_rest_52 rfl (lv_at hl 2 rfl) ?_
        obtain ⟨v14, h13, hm⟩ := rt_b1s hm
        refine rt_csi (As := [.int l0]) (rest := []) rt_X0o ⟨hx, hb, hml, hown, hts⟩ (k_C_Ranges_least l l0 _ h13) (cw_Ranges_least hts (hts _ (rt_m rt_w590)) ⟨Nat.le_of_ble_eq_true rfl, Nat.le_of_ble_eq_true rfl⟩) hS (fun _ h => h) trivial rfl hl.1 rfl (Nat.le_of_ble_eq_true rfl) d_Ranges_rest_53 ⟨Nat.zero_le _, Nat.zero_le _⟩ (fun H locs hk hS => ?_)
        clear hk
        refine lv_iload hx hb d_Ranges_rest_56 (lv_at hl 6 rfl) ?_
        obtain ⟨v15, h16, hm⟩ := rt_b1s hm
        obtain ⟨h16a, rfl⟩ := rt_divs h16
        refine lv_idiv hx hb d_Ranges_rest_58 h16a ?_
        refine lv_iload_n hx hb d_Ranges_rest_59 rfl (lv_at hl 2 rfl) ?_
        obtain ⟨v18, h17, hm⟩ := rt_b1s hm
        refine rt_csi (As := [.int l0]) (rest := [.int (v14 / l4)]) rt_X0o ⟨hx, hb, hml, hown, hts⟩ (k_C_Ranges_greatest l l0 _ h17) (cw_Ranges_greatest hts (hts _ (rt_m rt_w596)) ⟨Nat.le_of_ble_eq_true rfl, Nat.le_of_ble_eq_true rfl⟩) hS (fun _ h => h) trivial rfl hl.1 rfl (Nat.le_of_ble_eq_true rfl) d_Ranges_rest_60 ⟨Nat.zero_le _, Nat.zero_le _⟩ (fun H locs hk hS => ?_)
        clear hk
        refine lv_iload hx hb d_Ranges_rest_63 (lv_at hl 6 rfl) ?_
        obtain ⟨v19, h20, hm⟩ := rt_b1s hm
        obtain ⟨h20a, rfl⟩ := rt_divs h20
        refine lv_idiv hx hb d_Ranges_rest_65 h20a ?_
        refine lv_icmp_eq (tgt := 73) hx hb d_Ranges_rest_66 (by decide) (fun hc => ?_) (fun hc => ?_)
        · have hm := (if_pos hc).symm.trans hm
          refine lv_iconst (v := 0) hx hb d_Ranges_rest_73 (by decide) ?_
          exact hB74 ls l0 l1 l2 l3 l4 (v6 - v6 / l4 * l4) (v10 - v10 / l4 * l4) 0 _ _ (lv_sub hl [2, 3, 4, 5, 6, 1, 0] rfl) hm hS
        · have hm := (if_neg hc).symm.trans hm
          refine lv_iconst (v := 1) hx hb d_Ranges_rest_69 (by decide) ?_
          refine lv_goto (tgt := 74) hx hb d_Ranges_rest_70 (by decide) ?_
          exact hB74 ls l0 l1 l2 l3 l4 (v6 - v6 / l4 * l4) (v10 - v10 / l4 * l4) 1 _ _ (lv_sub hl [2, 3, 4, 5, 6, 1, 0] rfl) hm hS
  unfold M_C_Ranges_rest at hm
  refine lv_iload_n hx hb d_Ranges_rest_0 rfl (lv_at hl 1 rfl) ?_
  obtain ⟨v22, h21, hm⟩ := rt_b1s hm
  refine rt_csi (As := [.int a1]) (rest := []) rt_X0o ⟨hx, hb, hml, hown, hts⟩ (k_C_Ranges_greatest l a1 _ h21) (cw_Ranges_greatest hts (hts _ (rt_m rt_w596)) ⟨Nat.le_of_ble_eq_true rfl, Nat.le_of_ble_eq_true rfl⟩) hS (fun _ h => h) trivial rfl hl.1 rfl (Nat.le_of_ble_eq_true rfl) d_Ranges_rest_1 ⟨Nat.zero_le _, Nat.zero_le _⟩ (fun H locs hk hS => ?_)
  clear hk
  refine lv_if_ne (tgt := 10) hx hb d_Ranges_rest_4 (by decide) (fun hc => ?_) (fun hc => ?_)
  · have hm := (if_neg hc).symm.trans hm
    refine lv_bipush (v := 63) hx hb d_Ranges_rest_10 (by decide) ?_
    refine lv_istore_n hx hb d_Ranges_rest_12 rfl hl (by decide) rfl (fun ls hl => ?_)
    have hl : lv_has ls 8 [(2, .int 63), (0, .int a0), (1, .int a1)] := hl
    refine lv_iconst (v := 0) hx hb d_Ranges_rest_13 (by decide) ?_
    refine lv_istore_n hx hb d_Ranges_rest_14 rfl hl (by decide) rfl (fun ls hl => ?_)
    have hl : lv_has ls 8 [(3, .int 0), (2, .int 63), (0, .int a0), (1, .int a1)] := hl
    refine lv_iconst (v := 1) hx hb d_Ranges_rest_15 (by decide) ?_
    refine lv_iload_n hx hb d_Ranges_rest_16 rfl (lv_at hl 3 rfl) ?_
    obtain ⟨v24, h23, hm⟩ := rt_b1s hm
    refine rt_csi (As := [.int a1]) (rest := [.int 1]) rt_X0o ⟨hx, hb, hml, hown, hts⟩ (k_C_Ranges_least l a1 _ h23) (cw_Ranges_least hts (hts _ (rt_m rt_w590)) ⟨Nat.le_of_ble_eq_true rfl, Nat.le_of_ble_eq_true rfl⟩) hS (fun _ h => h) trivial rfl hl.1 rfl (Nat.le_of_ble_eq_true rfl) d_Ranges_rest_17 ⟨Nat.zero_le _, Nat.zero_le _⟩ (fun H locs hk hS => ?_)
    clear hk
    refine va_mmax hx hb (hml.trans hl.1.symm) hown (hts _ (rt_m rt_w683)) (hts _ (rt_m rt_w684)) (hts _ (rt_m rt_w104)) (hts _ (rt_m rt_w685)) (Nat.le_of_ble_eq_true rfl) (Nat.le_of_ble_eq_true rfl) (Nat.zero_le _) (Nat.zero_le _) d_Ranges_rest_20 ?_
    refine lv_istore hx hb d_Ranges_rest_23 hl (by decide) rfl (fun ls hl => ?_)
    have hl : lv_has ls 8 [(4, .int (rt_max 1 v24)), (3, .int 0), (2, .int 63), (0, .int a0), (1, .int a1)] := hl
    exact hB25 _ ls a0 a1 63 0 (rt_max 1 v24) _ _ (lv_sub hl [3, 4, 2, 1, 0] rfl) hm hS
  · have hm := (if_pos hc).symm.trans hm
    refine lv_bipush (v := (-3)) hx hb d_Ranges_rest_7 (by decide) ?_
    exact W.iret hx hb hr (fun t ht hW => ⟨⟨_, (), rfl, Option.some.inj hm, trivial⟩, hS.F ht⟩) hS.2.2 d_Ranges_rest_9
set_option maxHeartbeats 4000000 in
set_option maxRecDepth 100000 in
theorem k_C_Ranges_over (l : Launch) (a0 a1 : Int32) (r' : Int32) (hm : M_C_Ranges_over a0 a1 = some r') : rt_MS l y_Ranges_over b_Ranges_over 3 (some .int) ({ frames := 1, cells := 0, slots := 0, locals := 21 } : Room) rt_X0 [.int a0, .int a1] r' := by
  intro sz
  refine Met.ofW (cc := b_Ranges_over) (maxL := 3) (ret := (some .int)) (by decide) rfl ?_
  intro p e s m args below meth c s₁ B hml hv
  obtain ⟨rfl, rfl, hX⟩ := hv
  have hx := B.exec
  have hb := B.bytes
  have hr := B.returns
  have hts := atoms_spec (ws := (rt_ws y_Ranges_over b_Ranges_over 3 (some .int))) B.pre
  have hown : s.vm.findClass "RangeTeller$Ranges" = some m.cls := findClass_of_methodNamed B.named
  have hlocks := B.notSynchronized
  have hS : va_S (fun q => s.heap.size ≤ q) s.heap s.heap [] := va_S.rf
  have hl := lv_entry ([.int a0, .int a1]) (n := 3) (Nat.le_of_ble_eq_true rfl)
  rw [lg_entry_eq]
  generalize (lg_sl ([.int a0, .int a1]) ++ List.replicate (3 - (lg_sl ([.int a0, .int a1])).length) Slot.unset).toArray = ls at hl ⊢
  have hl : lv_has ls 3 [(0, .int a0), (1, .int a1)] := hl
  show W p l e ({ frames := 1, cells := 0, slots := 0, locals := 21 } : Room) s m ([.int a0, .int a1] : List Value).toArray below meth c s.heap [] 0 0 (rt_Qs below ([.int a0, .int a1] : List Value).toArray s r') (F0 m 0 ls [])
  unfold M_C_Ranges_over at hm
  refine lv_iload_n hx hb d_Ranges_over_0 rfl (lv_at hl 1 rfl) ?_
  obtain ⟨v2, h1, hm⟩ := rt_b1s hm
  refine rt_csi (As := [.int a1]) (rest := []) rt_X0o ⟨hx, hb, hml, hown, hts⟩ (k_C_Ranges_greatest l a1 _ h1) (cw_Ranges_greatest hts (hts _ (rt_m rt_w596)) ⟨Nat.le_of_ble_eq_true rfl, Nat.le_of_ble_eq_true rfl⟩) hS (fun _ h => h) trivial rfl hl.1 rfl (Nat.le_of_ble_eq_true rfl) d_Ranges_over_1 ⟨Nat.zero_le _, Nat.zero_le _⟩ (fun H locs hk hS => ?_)
  clear hk
  refine lv_istore_n hx hb d_Ranges_over_4 rfl hl (by decide) rfl (fun ls hl => ?_)
  have hl : lv_has ls 3 [(2, .int v2), (0, .int a0), (1, .int a1)] := hl
  refine lv_iload_n hx hb d_Ranges_over_5 rfl (lv_at hl 0 rfl) ?_
  refine lv_if_ne (tgt := 12) hx hb d_Ranges_over_6 (by decide) (fun hc => ?_) (fun hc => ?_)
  · have hm := (if_neg hc).symm.trans hm
    refine lv_iload_n hx hb d_Ranges_over_12 rfl (lv_at hl 1 rfl) ?_
    obtain ⟨v4, h3, hm⟩ := rt_b1s hm
    refine rt_csi (As := [.int a0]) (rest := []) rt_X0o ⟨hx, hb, hml, hown, hts⟩ (k_C_Ranges_least l a0 _ h3) (cw_Ranges_least hts (hts _ (rt_m rt_w590)) ⟨Nat.le_of_ble_eq_true rfl, Nat.le_of_ble_eq_true rfl⟩) hS (fun _ h => h) trivial rfl hl.1 rfl (Nat.le_of_ble_eq_true rfl) d_Ranges_over_13 ⟨Nat.zero_le _, Nat.zero_le _⟩ (fun H locs hk hS => ?_)
    clear hk
    refine lv_iload_n hx hb d_Ranges_over_16 rfl (lv_at hl 0 rfl) ?_
    obtain ⟨v5, h6, hm⟩ := rt_b1s hm
    obtain ⟨h6a, rfl⟩ := rt_divs h6
    refine lv_idiv hx hb d_Ranges_over_17 h6a ?_
    refine lv_iload_n hx hb d_Ranges_over_18 rfl (lv_at hl 1 rfl) ?_
    obtain ⟨v8, h7, hm⟩ := rt_b1s hm
    refine rt_csi (As := [.int a0]) (rest := [.int (v4 / v2)]) rt_X0o ⟨hx, hb, hml, hown, hts⟩ (k_C_Ranges_greatest l a0 _ h7) (cw_Ranges_greatest hts (hts _ (rt_m rt_w596)) ⟨Nat.le_of_ble_eq_true rfl, Nat.le_of_ble_eq_true rfl⟩) hS (fun _ h => h) trivial rfl hl.1 rfl (Nat.le_of_ble_eq_true rfl) d_Ranges_over_19 ⟨Nat.zero_le _, Nat.zero_le _⟩ (fun H locs hk hS => ?_)
    clear hk
    refine lv_iconst (v := 1) hx hb d_Ranges_over_22 (by decide) ?_
    refine lv_iload_n hx hb d_Ranges_over_23 rfl (lv_at hl 2 rfl) ?_
    obtain ⟨v10, h9, hm⟩ := rt_b1s hm
    refine rt_csi (As := [.int a1]) (rest := [.int 1, .int v8, .int (v4 / v2)]) rt_X0o ⟨hx, hb, hml, hown, hts⟩ (k_C_Ranges_least l a1 _ h9) (cw_Ranges_least hts (hts _ (rt_m rt_w590)) ⟨Nat.le_of_ble_eq_true rfl, Nat.le_of_ble_eq_true rfl⟩) hS (fun _ h => h) trivial rfl hl.1 rfl (Nat.le_of_ble_eq_true rfl) d_Ranges_over_24 ⟨Nat.zero_le _, Nat.zero_le _⟩ (fun H locs hk hS => ?_)
    clear hk
    refine va_mmax hx hb (hml.trans hl.1.symm) hown (hts _ (rt_m rt_w683)) (hts _ (rt_m rt_w684)) (hts _ (rt_m rt_w104)) (hts _ (rt_m rt_w685)) (Nat.le_of_ble_eq_true rfl) (Nat.le_of_ble_eq_true rfl) (Nat.zero_le _) (Nat.zero_le _) d_Ranges_over_27 ?_
    obtain ⟨v11, h12, hm⟩ := rt_b1s hm
    obtain ⟨h12a, rfl⟩ := rt_divs h12
    refine lv_idiv hx hb d_Ranges_over_30 h12a ?_
    obtain ⟨v14, h13, hm⟩ := rt_b1s hm
    refine rt_csi (As := [.int (v4 / v2), .int (v8 / (rt_max 1 v10))]) (rest := []) rt_X0o ⟨hx, hb, hml, hown, hts⟩ (k_C_Ranges_of l (v4 / v2) (v8 / (rt_max 1 v10)) _ h13) (cw_Ranges_of hts (hts _ (rt_m rt_w659)) ⟨Nat.le_of_ble_eq_true rfl, Nat.le_of_ble_eq_true rfl⟩) hS (fun _ h => h) trivial rfl hl.1 rfl (Nat.le_of_ble_eq_true rfl) d_Ranges_over_31 ⟨Nat.zero_le _, Nat.zero_le _⟩ (fun H locs hk hS => ?_)
    clear hk
    exact W.iret hx hb hr (fun t ht hW => ⟨⟨_, (), rfl, Option.some.inj hm, trivial⟩, hS.F ht⟩) hS.2.2 d_Ranges_over_34
  · have hm := (if_pos hc).symm.trans hm
    refine lv_bipush (v := (-3)) hx hb d_Ranges_over_9 (by decide) ?_
    exact W.iret hx hb hr (fun t ht hW => ⟨⟨_, (), rfl, Option.some.inj hm, trivial⟩, hS.F ht⟩) hS.2.2 d_Ranges_over_11
set_option maxHeartbeats 4000000 in
set_option maxRecDepth 100000 in
theorem k_C_Ranges_times (l : Launch) (a0 a1 : Int32) (r' : Int32) (hm : M_C_Ranges_times a0 a1 = some r') : rt_MS l y_Ranges_times b_Ranges_times 7 (some .int) ({ frames := 1, cells := 0, slots := 0, locals := 21 } : Room) rt_X0 [.int a0, .int a1] r' := by
  intro sz
  refine Met.ofW (cc := b_Ranges_times) (maxL := 7) (ret := (some .int)) (by decide) rfl ?_
  intro p e s m args below meth c s₁ B hml hv
  obtain ⟨rfl, rfl, hX⟩ := hv
  have hx := B.exec
  have hb := B.bytes
  have hr := B.returns
  have hts := atoms_spec (ws := (rt_ws y_Ranges_times b_Ranges_times 7 (some .int))) B.pre
  have hown : s.vm.findClass "RangeTeller$Ranges" = some m.cls := findClass_of_methodNamed B.named
  have hlocks := B.notSynchronized
  have hS : va_S (fun q => s.heap.size ≤ q) s.heap s.heap [] := va_S.rf
  have hl := lv_entry ([.int a0, .int a1]) (n := 7) (Nat.le_of_ble_eq_true rfl)
  rw [lg_entry_eq]
  generalize (lg_sl ([.int a0, .int a1]) ++ List.replicate (7 - (lg_sl ([.int a0, .int a1])).length) Slot.unset).toArray = ls at hl ⊢
  have hl : lv_has ls 7 [(0, .int a0), (1, .int a1)] := hl
  show W p l e ({ frames := 1, cells := 0, slots := 0, locals := 21 } : Room) s m ([.int a0, .int a1] : List Value).toArray below meth c s.heap [] 0 0 (rt_Qs below ([.int a0, .int a1] : List Value).toArray s r') (F0 m 0 ls [])
  have hB47 : ∀ (n47 : Nat) (ls : Array Slot) (l0 l1 l2 l3 l4 : Int32) (H : Heap) (locs : List Loc), lv_has ls 7 [(0, .int l0), (1, .int l1), (2, .int l2), (3, .int l3), (4, .int l4)] → B_C_Ranges_times_47 n47 l0 l1 l2 l3 l4 = some r' → va_S (fun q => s.heap.size ≤ q) s.heap H locs → W p l e ({ frames := 1, cells := 0, slots := 0, locals := 21 } : Room) s m ([.int a0, .int a1] : List Value).toArray below meth c H locs 0 0 (rt_Qs below ([.int a0, .int a1] : List Value).toArray s r') (F0 m 47 ls []) := by
    intro n47
    induction n47 with
    | zero => intro ls l0 l1 l2 l3 l4 H locs hl hm hS; rw [B_C_Ranges_times_47] at hm; cases hm
    | succ n47 ih47 =>
      have hB115 : ∀ (ls : Array Slot) (l0 l1 l2 l3 l4 : Int32) (H : Heap) (locs : List Loc), lv_has ls 7 [(0, .int l0), (1, .int l1), (2, .int l2), (3, .int l3), (4, .int l4)] → B_C_Ranges_times_115 (B_C_Ranges_times_47 n47) l0 l1 l2 l3 l4 = some r' → va_S (fun q => s.heap.size ≤ q) s.heap H locs → W p l e ({ frames := 1, cells := 0, slots := 0, locals := 21 } : Room) s m ([.int a0, .int a1] : List Value).toArray below meth c H locs 0 0 (rt_Qs below ([.int a0, .int a1] : List Value).toArray s r') (F0 m 115 ls []) := by
        intro ls l0 l1 l2 l3 l4 H locs hl hm hS
        unfold B_C_Ranges_times_115 at hm
        refine lv_iinc (k := 4) (v := (l4 + 1)) hx hb d_Ranges_times_115 hl rfl rfl (by decide) rfl (fun ls hl => ?_)
        have hl : lv_has ls 7 [(4, .int (l4 + 1)), (0, .int l0), (1, .int l1), (2, .int l2), (3, .int l3)] := hl
        refine lv_goto (tgt := 47) hx hb d_Ranges_times_118 (by decide) ?_
        exact ih47 ls l0 l1 l2 l3 (l4 + 1) _ _ (lv_sub hl [1, 2, 3, 4, 0] rfl) hm hS
      have hB62 : ∀ (n62 : Nat) (ls : Array Slot) (l0 l1 l2 l3 l4 l5 : Int32) (H : Heap) (locs : List Loc), lv_has ls 7 [(0, .int l0), (1, .int l1), (2, .int l2), (3, .int l3), (4, .int l4), (5, .int l5)] → B_C_Ranges_times_62 (B_C_Ranges_times_47 n47) n62 l0 l1 l2 l3 l4 l5 = some r' → va_S (fun q => s.heap.size ≤ q) s.heap H locs → W p l e ({ frames := 1, cells := 0, slots := 0, locals := 21 } : Room) s m ([.int a0, .int a1] : List Value).toArray below meth c H locs 0 0 (rt_Qs below ([.int a0, .int a1] : List Value).toArray s r') (F0 m 62 ls []) := by
        intro n62
        induction n62 with
        | zero => intro ls l0 l1 l2 l3 l4 l5 H locs hl hm hS; rw [B_C_Ranges_times_62] at hm; cases hm
        | succ n62 ih62 =>
          intro ls l0 l1 l2 l3 l4 l5 H locs hl hm hS
          rw [B_C_Ranges_times_62] at hm
          refine lv_iload hx hb d_Ranges_times_62 (lv_at hl 5 rfl) ?_
          refine lv_iload_n hx hb d_Ranges_times_64 rfl (lv_at hl 1 rfl) ?_
          obtain ⟨v2, h1, hm⟩ := rt_b1s hm
          refine rt_csi (As := [.int l1]) (rest := [.int l5]) rt_X0o ⟨hx, hb, hml, hown, hts⟩ (k_C_Ranges_greatest l l1 _ h1) (cw_Ranges_greatest hts (hts _ (rt_m rt_w596)) ⟨Nat.le_of_ble_eq_true rfl, Nat.le_of_ble_eq_true rfl⟩) hS (fun _ h => h) trivial rfl hl.1 rfl (Nat.le_of_ble_eq_true rfl) d_Ranges_times_65 ⟨Nat.zero_le _, Nat.zero_le _⟩ (fun H locs hk hS => ?_)
          clear hk
          refine lv_icmp_gt (tgt := 101) hx hb d_Ranges_times_68 (by decide) (fun hc => ?_) (fun hc => ?_)
          · have hm := (if_pos hc).symm.trans hm
            refine lv_iload_n hx hb d_Ranges_times_101 rfl (lv_at hl 2 rfl) ?_
            refine lv_if_ne (tgt := 115) hx hb d_Ranges_times_102 (by decide) (fun hc => ?_) (fun hc => ?_)
            · have hm := (if_neg hc).symm.trans hm
              exact hB115 ls l0 l1 l2 l3 l4 _ _ (lv_sub hl [0, 1, 2, 3, 4] rfl) hm hS
            · have hm := (if_pos hc).symm.trans hm
              refine lv_iload_n hx hb d_Ranges_times_105 rfl (lv_at hl 3 rfl) ?_
              refine lv_bipush (v := 63) hx hb d_Ranges_times_106 (by decide) ?_
              refine lv_icmp_ne (tgt := 115) hx hb d_Ranges_times_108 (by decide) (fun hc => ?_) (fun hc => ?_)
              · have hm := (if_neg hc).symm.trans hm
                exact hB115 ls l0 l1 l2 l3 l4 _ _ (lv_sub hl [0, 1, 2, 3, 4] rfl) hm hS
              · have hm := (if_pos hc).symm.trans hm
                refine lv_sipush (v := 4032) hx hb d_Ranges_times_111 (by decide) ?_
                exact W.iret hx hb hr (fun t ht hW => ⟨⟨_, (), rfl, Option.some.inj hm, trivial⟩, hS.F ht⟩) hS.2.2 d_Ranges_times_114
          · have hm := (if_neg hc).symm.trans hm
            refine lv_iload hx hb d_Ranges_times_71 (lv_at hl 4 rfl) ?_
            refine lv_iload hx hb d_Ranges_times_73 (lv_at hl 5 rfl) ?_
            refine lv_imul hx hb d_Ranges_times_75 ?_
            refine lv_bipush (v := 64) hx hb d_Ranges_times_76 (by decide) ?_
            obtain ⟨v3, h4, hm⟩ := rt_b1s hm
            obtain ⟨h4a, rfl⟩ := rt_rems h4
            refine lv_irem hx hb d_Ranges_times_78 h4a ?_
            refine lv_istore hx hb d_Ranges_times_79 hl (by decide) rfl (fun ls hl => ?_)
            have hl : lv_has ls 7 [(6, .int ((l4 * l5) - (l4 * l5) / 64 * 64)), (0, .int l0), (1, .int l1), (2, .int l2), (3, .int l3), (4, .int l4), (5, .int l5)] := hl
            refine lv_iload_n hx hb d_Ranges_times_81 rfl (lv_at hl 3 rfl) ?_
            refine lv_iload hx hb d_Ranges_times_82 (lv_at hl 0 rfl) ?_
            refine va_mmin hx hb (hml.trans hl.1.symm) hown (hts _ (rt_m rt_w682)) (hts _ (rt_m rt_w642)) (hts _ (rt_m rt_w104)) (hts _ (rt_m rt_w643)) (Nat.le_of_ble_eq_true rfl) (Nat.le_of_ble_eq_true rfl) (Nat.zero_le _) (Nat.zero_le _) d_Ranges_times_84 ?_
            refine lv_istore_n hx hb d_Ranges_times_87 rfl hl (by decide) rfl (fun ls hl => ?_)
            have hl : lv_has ls 7 [(2, .int (rt_min l2 ((l4 * l5) - (l4 * l5) / 64 * 64))), (6, .int ((l4 * l5) - (l4 * l5) / 64 * 64)), (0, .int l0), (1, .int l1), (3, .int l3), (4, .int l4), (5, .int l5)] := hl
            refine lv_iload_n hx hb d_Ranges_times_88 rfl (lv_at hl 4 rfl) ?_
            refine lv_iload hx hb d_Ranges_times_89 (lv_at hl 1 rfl) ?_
            refine va_mmax hx hb (hml.trans hl.1.symm) hown (hts _ (rt_m rt_w683)) (hts _ (rt_m rt_w684)) (hts _ (rt_m rt_w104)) (hts _ (rt_m rt_w685)) (Nat.le_of_ble_eq_true rfl) (Nat.le_of_ble_eq_true rfl) (Nat.zero_le _) (Nat.zero_le _) d_Ranges_times_91 ?_
            refine lv_istore_n hx hb d_Ranges_times_94 rfl hl (by decide) rfl (fun ls hl => ?_)
            have hl : lv_has ls 7 [(3, .int (rt_max l3 ((l4 * l5) - (l4 * l5) / 64 * 64))), (2, .int (rt_min l2 ((l4 * l5) - (l4 * l5) / 64 * 64))), (6, .int ((l4 * l5) - (l4 * l5) / 64 * 64)), (0, .int l0), (1, .int l1), (4, .int l4), (5, .int l5)] := hl
            refine lv_iinc (k := 6) (v := (l5 + 1)) hx hb d_Ranges_times_95 hl rfl rfl (by decide) rfl (fun ls hl => ?_)
            have hl : lv_has ls 7 [(5, .int (l5 + 1)), (3, .int (rt_max l3 ((l4 * l5) - (l4 * l5) / 64 * 64))), (2, .int (rt_min l2 ((l4 * l5) - (l4 * l5) / 64 * 64))), (6, .int ((l4 * l5) - (l4 * l5) / 64 * 64)), (0, .int l0), (1, .int l1), (4, .int l4)] := hl
            refine lv_goto (tgt := 62) hx hb d_Ranges_times_98 (by decide) ?_
            exact ih62 ls l0 l1 (rt_min l2 ((l4 * l5) - (l4 * l5) / 64 * 64)) (rt_max l3 ((l4 * l5) - (l4 * l5) / 64 * 64)) l4 (l5 + 1) _ _ (lv_sub hl [4, 5, 2, 1, 6, 0] rfl) hm hS
      intro ls l0 l1 l2 l3 l4 H locs hl hm hS
      rw [B_C_Ranges_times_47] at hm
      refine lv_iload hx hb d_Ranges_times_47 (lv_at hl 4 rfl) ?_
      refine lv_iload_n hx hb d_Ranges_times_49 rfl (lv_at hl 0 rfl) ?_
      obtain ⟨v6, h5, hm⟩ := rt_b1s hm
      refine rt_csi (As := [.int l0]) (rest := [.int l4]) rt_X0o ⟨hx, hb, hml, hown, hts⟩ (k_C_Ranges_greatest l l0 _ h5) (cw_Ranges_greatest hts (hts _ (rt_m rt_w596)) ⟨Nat.le_of_ble_eq_true rfl, Nat.le_of_ble_eq_true rfl⟩) hS (fun _ h => h) trivial rfl hl.1 rfl (Nat.le_of_ble_eq_true rfl) d_Ranges_times_50 ⟨Nat.zero_le _, Nat.zero_le _⟩ (fun H locs hk hS => ?_)
      clear hk
      refine lv_icmp_gt (tgt := 121) hx hb d_Ranges_times_53 (by decide) (fun hc => ?_) (fun hc => ?_)
      · have hm := (if_pos hc).symm.trans hm
        refine lv_iload_n hx hb d_Ranges_times_121 rfl (lv_at hl 2 rfl) ?_
        refine lv_iload_n hx hb d_Ranges_times_122 rfl (lv_at hl 3 rfl) ?_
        obtain ⟨v8, h7, hm⟩ := rt_b1s hm
        refine rt_csi (As := [.int l2, .int l3]) (rest := []) rt_X0o ⟨hx, hb, hml, hown, hts⟩ (k_C_Ranges_of l l2 l3 _ h7) (cw_Ranges_of hts (hts _ (rt_m rt_w659)) ⟨Nat.le_of_ble_eq_true rfl, Nat.le_of_ble_eq_true rfl⟩) hS (fun _ h => h) trivial rfl hl.1 rfl (Nat.le_of_ble_eq_true rfl) d_Ranges_times_123 ⟨Nat.zero_le _, Nat.zero_le _⟩ (fun H locs hk hS => ?_)
        clear hk
        exact W.iret hx hb hr (fun t ht hW => ⟨⟨_, (), rfl, Option.some.inj hm, trivial⟩, hS.F ht⟩) hS.2.2 d_Ranges_times_126
      · have hm := (if_neg hc).symm.trans hm
        refine lv_iload_n hx hb d_Ranges_times_56 rfl (lv_at hl 1 rfl) ?_
        obtain ⟨v10, h9, hm⟩ := rt_b1s hm
        refine rt_csi (As := [.int l1]) (rest := []) rt_X0o ⟨hx, hb, hml, hown, hts⟩ (k_C_Ranges_least l l1 _ h9) (cw_Ranges_least hts (hts _ (rt_m rt_w590)) ⟨Nat.le_of_ble_eq_true rfl, Nat.le_of_ble_eq_true rfl⟩) hS (fun _ h => h) trivial rfl hl.1 rfl (Nat.le_of_ble_eq_true rfl) d_Ranges_times_57 ⟨Nat.zero_le _, Nat.zero_le _⟩ (fun H locs hk hS => ?_)
        clear hk
        refine lv_istore hx hb d_Ranges_times_60 hl (by decide) rfl (fun ls hl => ?_)
        have hl : lv_has ls 7 [(5, .int v10), (0, .int l0), (1, .int l1), (2, .int l2), (3, .int l3), (4, .int l4)] := hl
        exact hB62 _ ls l0 l1 l2 l3 l4 v10 _ _ (lv_sub hl [1, 2, 3, 4, 5, 0] rfl) hm hS
  unfold M_C_Ranges_times at hm
  refine lv_iload_n hx hb d_Ranges_times_0 rfl (lv_at hl 0 rfl) ?_
  obtain ⟨v12, h11, hm⟩ := rt_b1s hm
  refine rt_csi (As := [.int a0]) (rest := []) rt_X0o ⟨hx, hb, hml, hown, hts⟩ (k_C_Ranges_greatest l a0 _ h11) (cw_Ranges_greatest hts (hts _ (rt_m rt_w596)) ⟨Nat.le_of_ble_eq_true rfl, Nat.le_of_ble_eq_true rfl⟩) hS (fun _ h => h) trivial rfl hl.1 rfl (Nat.le_of_ble_eq_true rfl) d_Ranges_times_1 ⟨Nat.zero_le _, Nat.zero_le _⟩ (fun H locs hk hS => ?_)
  clear hk
  refine lv_iload_n hx hb d_Ranges_times_4 rfl (lv_at hl 1 rfl) ?_
  obtain ⟨v14, h13, hm⟩ := rt_b1s hm
  refine rt_csi (As := [.int a1]) (rest := [.int v12]) rt_X0o ⟨hx, hb, hml, hown, hts⟩ (k_C_Ranges_greatest l a1 _ h13) (cw_Ranges_greatest hts (hts _ (rt_m rt_w596)) ⟨Nat.le_of_ble_eq_true rfl, Nat.le_of_ble_eq_true rfl⟩) hS (fun _ h => h) trivial rfl hl.1 rfl (Nat.le_of_ble_eq_true rfl) d_Ranges_times_5 ⟨Nat.zero_le _, Nat.zero_le _⟩ (fun H locs hk hS => ?_)
  clear hk
  refine lv_imul hx hb d_Ranges_times_8 ?_
  refine lv_bipush (v := 64) hx hb d_Ranges_times_9 (by decide) ?_
  refine lv_icmp_ge (tgt := 36) hx hb d_Ranges_times_11 (by decide) (fun hc => ?_) (fun hc => ?_)
  · have hm := (if_pos hc).symm.trans hm
    refine lv_bipush (v := 63) hx hb d_Ranges_times_36 (by decide) ?_
    refine lv_istore_n hx hb d_Ranges_times_38 rfl hl (by decide) rfl (fun ls hl => ?_)
    have hl : lv_has ls 7 [(2, .int 63), (0, .int a0), (1, .int a1)] := hl
    refine lv_iconst (v := 0) hx hb d_Ranges_times_39 (by decide) ?_
    refine lv_istore_n hx hb d_Ranges_times_40 rfl hl (by decide) rfl (fun ls hl => ?_)
    have hl : lv_has ls 7 [(3, .int 0), (2, .int 63), (0, .int a0), (1, .int a1)] := hl
    refine lv_iload_n hx hb d_Ranges_times_41 rfl (lv_at hl 2 rfl) ?_
    obtain ⟨v16, h15, hm⟩ := rt_b1s hm
    refine rt_csi (As := [.int a0]) (rest := []) rt_X0o ⟨hx, hb, hml, hown, hts⟩ (k_C_Ranges_least l a0 _ h15) (cw_Ranges_least hts (hts _ (rt_m rt_w590)) ⟨Nat.le_of_ble_eq_true rfl, Nat.le_of_ble_eq_true rfl⟩) hS (fun _ h => h) trivial rfl hl.1 rfl (Nat.le_of_ble_eq_true rfl) d_Ranges_times_42 ⟨Nat.zero_le _, Nat.zero_le _⟩ (fun H locs hk hS => ?_)
    clear hk
    refine lv_istore hx hb d_Ranges_times_45 hl (by decide) rfl (fun ls hl => ?_)
    have hl : lv_has ls 7 [(4, .int v16), (3, .int 0), (2, .int 63), (0, .int a0), (1, .int a1)] := hl
    exact hB47 _ ls a0 a1 63 0 v16 _ _ (lv_sub hl [3, 4, 2, 1, 0] rfl) hm hS
  · have hm := (if_neg hc).symm.trans hm
    refine lv_iload_n hx hb d_Ranges_times_14 rfl (lv_at hl 0 rfl) ?_
    obtain ⟨v18, h17, hm⟩ := rt_b1s hm
    refine rt_csi (As := [.int a0]) (rest := []) rt_X0o ⟨hx, hb, hml, hown, hts⟩ (k_C_Ranges_least l a0 _ h17) (cw_Ranges_least hts (hts _ (rt_m rt_w590)) ⟨Nat.le_of_ble_eq_true rfl, Nat.le_of_ble_eq_true rfl⟩) hS (fun _ h => h) trivial rfl hl.1 rfl (Nat.le_of_ble_eq_true rfl) d_Ranges_times_15 ⟨Nat.zero_le _, Nat.zero_le _⟩ (fun H locs hk hS => ?_)
    clear hk
    refine lv_iload_n hx hb d_Ranges_times_18 rfl (lv_at hl 1 rfl) ?_
    obtain ⟨v20, h19, hm⟩ := rt_b1s hm
    refine rt_csi (As := [.int a1]) (rest := [.int v18]) rt_X0o ⟨hx, hb, hml, hown, hts⟩ (k_C_Ranges_least l a1 _ h19) (cw_Ranges_least hts (hts _ (rt_m rt_w590)) ⟨Nat.le_of_ble_eq_true rfl, Nat.le_of_ble_eq_true rfl⟩) hS (fun _ h => h) trivial rfl hl.1 rfl (Nat.le_of_ble_eq_true rfl) d_Ranges_times_19 ⟨Nat.zero_le _, Nat.zero_le _⟩ (fun H locs hk hS => ?_)
    clear hk
    refine lv_imul hx hb d_Ranges_times_22 ?_
    refine lv_iload_n hx hb d_Ranges_times_23 rfl (lv_at hl 0 rfl) ?_
    obtain ⟨v22, h21, hm⟩ := rt_b1s hm
    refine rt_csi (As := [.int a0]) (rest := [.int (v18 * v20)]) rt_X0o ⟨hx, hb, hml, hown, hts⟩ (k_C_Ranges_greatest l a0 _ h21) (cw_Ranges_greatest hts (hts _ (rt_m rt_w596)) ⟨Nat.le_of_ble_eq_true rfl, Nat.le_of_ble_eq_true rfl⟩) hS (fun _ h => h) trivial rfl hl.1 rfl (Nat.le_of_ble_eq_true rfl) d_Ranges_times_24 ⟨Nat.zero_le _, Nat.zero_le _⟩ (fun H locs hk hS => ?_)
    clear hk
    refine lv_iload_n hx hb d_Ranges_times_27 rfl (lv_at hl 1 rfl) ?_
    obtain ⟨v24, h23, hm⟩ := rt_b1s hm
    refine rt_csi (As := [.int a1]) (rest := [.int v22, .int (v18 * v20)]) rt_X0o ⟨hx, hb, hml, hown, hts⟩ (k_C_Ranges_greatest l a1 _ h23) (cw_Ranges_greatest hts (hts _ (rt_m rt_w596)) ⟨Nat.le_of_ble_eq_true rfl, Nat.le_of_ble_eq_true rfl⟩) hS (fun _ h => h) trivial rfl hl.1 rfl (Nat.le_of_ble_eq_true rfl) d_Ranges_times_28 ⟨Nat.zero_le _, Nat.zero_le _⟩ (fun H locs hk hS => ?_)
    clear hk
    refine lv_imul hx hb d_Ranges_times_31 ?_
    obtain ⟨v26, h25, hm⟩ := rt_b1s hm
    refine rt_csi (As := [.int (v18 * v20), .int (v22 * v24)]) (rest := []) rt_X0o ⟨hx, hb, hml, hown, hts⟩ (k_C_Ranges_of l (v18 * v20) (v22 * v24) _ h25) (cw_Ranges_of hts (hts _ (rt_m rt_w659)) ⟨Nat.le_of_ble_eq_true rfl, Nat.le_of_ble_eq_true rfl⟩) hS (fun _ h => h) trivial rfl hl.1 rfl (Nat.le_of_ble_eq_true rfl) d_Ranges_times_32 ⟨Nat.zero_le _, Nat.zero_le _⟩ (fun H locs hk hS => ?_)
    clear hk
    exact W.iret hx hb hr (fun t ht hW => ⟨⟨_, (), rfl, Option.some.inj hm, trivial⟩, hS.F ht⟩) hS.2.2 d_Ranges_times_35
set_option maxHeartbeats 4000000 in
set_option maxRecDepth 100000 in
theorem k_C_Math_floorDiv (l : Launch) (a0 a1 : Int32) (r' : Int32) (hm : M_C_Math_floorDiv a0 a1 = some r') : rt_MS l y_Math_floorDiv b_Math_floorDiv 3 (some .int) ({ frames := 0, cells := 0, slots := 0, locals := 0 } : Room) rt_X0 [.int a0, .int a1] r' := by
  intro sz
  refine rt_ofW (cc := b_Math_floorDiv) (maxL := 3) (ret := (some .int)) (by decide +kernel) rfl ?_
  intro p e s m args below meth c s₁ B hml hv
  obtain ⟨rfl, rfl, hX⟩ := hv
  have hx := B.exec
  have hb := B.bytes
  have hr := B.returns
  have hts := atoms_spec (ws := (rt_ws y_Math_floorDiv b_Math_floorDiv 3 (some .int))) B.pre
  have hown : s.vm.findClass "java/lang/Math" = some m.cls := findClass_of_methodNamed B.named
  have hlocks := B.notSynchronized
  have hS : va_S (fun q => s.heap.size ≤ q) s.heap s.heap [] := va_S.rf
  have hl := lv_entry ([.int a0, .int a1]) (n := 3) (Nat.le_of_ble_eq_true rfl)
  rw [lg_entry_eq]
  generalize (lg_sl ([.int a0, .int a1]) ++ List.replicate (3 - (lg_sl ([.int a0, .int a1])).length) Slot.unset).toArray = ls at hl ⊢
  have hl : lv_has ls 3 [(0, .int a0), (1, .int a1)] := hl
  show W p l e ({ frames := 0, cells := 0, slots := 0, locals := 0 } : Room) s m ([.int a0, .int a1] : List Value).toArray below meth c s.heap [] 0 0 (rt_Qs below ([.int a0, .int a1] : List Value).toArray s r') (F0 m 0 ls [])
  unfold M_C_Math_floorDiv at hm
  refine lv_iload_n hx hb d_Math_floorDiv_0 rfl (lv_at hl 0 rfl) ?_
  refine lv_iload_n hx hb d_Math_floorDiv_1 rfl (lv_at hl 1 rfl) ?_
  obtain ⟨v1, h2, hm⟩ := rt_b1s hm
  obtain ⟨h2a, rfl⟩ := rt_divs h2
  refine lv_idiv hx hb d_Math_floorDiv_2 h2a ?_
  refine lv_istore_n hx hb d_Math_floorDiv_3 rfl hl (by decide) rfl (fun ls hl => ?_)
  have hl : lv_has ls 3 [(2, .int (a0 / a1)), (0, .int a0), (1, .int a1)] := hl
  refine lv_iload_n hx hb d_Math_floorDiv_4 rfl (lv_at hl 1 rfl) ?_
  refine lv_iload_n hx hb d_Math_floorDiv_5 rfl (lv_at hl 2 rfl) ?_
  refine lv_ixor hx hb d_Math_floorDiv_6 ?_
  refine lv_if_ge (tgt := 21) hx hb d_Math_floorDiv_7 (by decide) (fun hc => ?_) (fun hc => ?_)
  · have hm := (if_pos hc).symm.trans hm
    refine lv_iload_n hx hb d_Math_floorDiv_21 rfl (lv_at hl 0 rfl) ?_
    exact W.iret hx hb hr (fun t ht hW => ⟨⟨_, (), rfl, Option.some.inj hm, trivial⟩, hS.F ht⟩) hS.2.2 d_Math_floorDiv_22
  · have hm := (if_neg hc).symm.trans hm
    refine lv_iload_n hx hb d_Math_floorDiv_10 rfl (lv_at hl 0 rfl) ?_
    refine lv_iload_n hx hb d_Math_floorDiv_11 rfl (lv_at hl 2 rfl) ?_
    refine lv_imul hx hb d_Math_floorDiv_12 ?_
    refine lv_iload_n hx hb d_Math_floorDiv_13 rfl (lv_at hl 1 rfl) ?_
    refine lv_icmp_eq (tgt := 21) hx hb d_Math_floorDiv_14 (by decide) (fun hc => ?_) (fun hc => ?_)
    · have hm := (if_pos hc).symm.trans hm
      refine lv_iload_n hx hb d_Math_floorDiv_21 rfl (lv_at hl 0 rfl) ?_
      exact W.iret hx hb hr (fun t ht hW => ⟨⟨_, (), rfl, Option.some.inj hm, trivial⟩, hS.F ht⟩) hS.2.2 d_Math_floorDiv_22
    · have hm := (if_neg hc).symm.trans hm
      refine lv_iload_n hx hb d_Math_floorDiv_17 rfl (lv_at hl 0 rfl) ?_
      refine lv_iconst (v := 1) hx hb d_Math_floorDiv_18 (by decide) ?_
      refine lv_isub hx hb d_Math_floorDiv_19 ?_
      exact W.iret hx hb hr (fun t ht hW => ⟨⟨_, (), rfl, Option.some.inj hm, trivial⟩, hS.F ht⟩) hS.2.2 d_Math_floorDiv_20
set_option maxHeartbeats 4000000 in
set_option maxRecDepth 100000 in
theorem k_C_Math_floorMod (l : Launch) (a0 a1 : Int32) (r' : Int32) (hm : M_C_Math_floorMod a0 a1 = some r') : rt_MS l y_Math_floorMod b_Math_floorMod 3 (some .int) ({ frames := 0, cells := 0, slots := 0, locals := 0 } : Room) rt_X0 [.int a0, .int a1] r' := by
  intro sz
  refine rt_ofW (cc := b_Math_floorMod) (maxL := 3) (ret := (some .int)) (by decide +kernel) rfl ?_
  intro p e s m args below meth c s₁ B hml hv
  obtain ⟨rfl, rfl, hX⟩ := hv
  have hx := B.exec
  have hb := B.bytes
  have hr := B.returns
  have hts := atoms_spec (ws := (rt_ws y_Math_floorMod b_Math_floorMod 3 (some .int))) B.pre
  have hown : s.vm.findClass "java/lang/Math" = some m.cls := findClass_of_methodNamed B.named
  have hlocks := B.notSynchronized
  have hS : va_S (fun q => s.heap.size ≤ q) s.heap s.heap [] := va_S.rf
  have hl := lv_entry ([.int a0, .int a1]) (n := 3) (Nat.le_of_ble_eq_true rfl)
  rw [lg_entry_eq]
  generalize (lg_sl ([.int a0, .int a1]) ++ List.replicate (3 - (lg_sl ([.int a0, .int a1])).length) Slot.unset).toArray = ls at hl ⊢
  have hl : lv_has ls 3 [(0, .int a0), (1, .int a1)] := hl
  show W p l e ({ frames := 0, cells := 0, slots := 0, locals := 0 } : Room) s m ([.int a0, .int a1] : List Value).toArray below meth c s.heap [] 0 0 (rt_Qs below ([.int a0, .int a1] : List Value).toArray s r') (F0 m 0 ls [])
  unfold M_C_Math_floorMod at hm
  refine lv_iload_n hx hb d_Math_floorMod_0 rfl (lv_at hl 0 rfl) ?_
  refine lv_iload_n hx hb d_Math_floorMod_1 rfl (lv_at hl 1 rfl) ?_
  obtain ⟨v1, h2, hm⟩ := rt_b1s hm
  obtain ⟨h2a, rfl⟩ := rt_rems h2
  refine lv_irem hx hb d_Math_floorMod_2 h2a ?_
  refine lv_istore_n hx hb d_Math_floorMod_3 rfl hl (by decide) rfl (fun ls hl => ?_)
  have hl : lv_has ls 3 [(2, .int (a0 - a0 / a1 * a1)), (0, .int a0), (1, .int a1)] := hl
  refine lv_iload_n hx hb d_Math_floorMod_4 rfl (lv_at hl 1 rfl) ?_
  refine lv_iload_n hx hb d_Math_floorMod_5 rfl (lv_at hl 2 rfl) ?_
  refine lv_ixor hx hb d_Math_floorMod_6 ?_
  refine lv_if_ge (tgt := 18) hx hb d_Math_floorMod_7 (by decide) (fun hc => ?_) (fun hc => ?_)
  · have hm := (if_pos hc).symm.trans hm
    refine lv_iload_n hx hb d_Math_floorMod_18 rfl (lv_at hl 0 rfl) ?_
    exact W.iret hx hb hr (fun t ht hW => ⟨⟨_, (), rfl, Option.some.inj hm, trivial⟩, hS.F ht⟩) hS.2.2 d_Math_floorMod_19
  · have hm := (if_neg hc).symm.trans hm
    refine lv_iload_n hx hb d_Math_floorMod_10 rfl (lv_at hl 0 rfl) ?_
    refine lv_if_eq (tgt := 18) hx hb d_Math_floorMod_11 (by decide) (fun hc => ?_) (fun hc => ?_)
    · have hm := (if_pos hc).symm.trans hm
      refine lv_iload_n hx hb d_Math_floorMod_18 rfl (lv_at hl 0 rfl) ?_
      exact W.iret hx hb hr (fun t ht hW => ⟨⟨_, (), rfl, Option.some.inj hm, trivial⟩, hS.F ht⟩) hS.2.2 d_Math_floorMod_19
    · have hm := (if_neg hc).symm.trans hm
      refine lv_iload_n hx hb d_Math_floorMod_14 rfl (lv_at hl 0 rfl) ?_
      refine lv_iload_n hx hb d_Math_floorMod_15 rfl (lv_at hl 2 rfl) ?_
      refine lv_iadd hx hb d_Math_floorMod_16 ?_
      exact W.iret hx hb hr (fun t ht hW => ⟨⟨_, (), rfl, Option.some.inj hm, trivial⟩, hS.F ht⟩) hS.2.2 d_Math_floorMod_17
set_option maxHeartbeats 4000000 in
set_option maxRecDepth 100000 in
theorem k_C_Ranges_wrapped (l : Launch) (a0 a1 : Int32) (r' : Int32) (hm : M_C_Ranges_wrapped a0 a1 = some r') : rt_MS l y_Ranges_wrapped b_Ranges_wrapped 2 (some .int) ({ frames := 1, cells := 0, slots := 0, locals := 22 } : Room) rt_X0 [.int a0, .int a1] r' := by
  intro sz
  refine Met.ofW (cc := b_Ranges_wrapped) (maxL := 2) (ret := (some .int)) (by decide) rfl ?_
  intro p e s m args below meth c s₁ B hml hv
  obtain ⟨rfl, rfl, hX⟩ := hv
  have hx := B.exec
  have hb := B.bytes
  have hr := B.returns
  have hts := atoms_spec (ws := (rt_ws y_Ranges_wrapped b_Ranges_wrapped 2 (some .int))) B.pre
  have hown : s.vm.findClass "RangeTeller$Ranges" = some m.cls := findClass_of_methodNamed B.named
  have hlocks := B.notSynchronized
  have hS : va_S (fun q => s.heap.size ≤ q) s.heap s.heap [] := va_S.rf
  have hl := lv_entry ([.int a0, .int a1]) (n := 2) (Nat.le_of_ble_eq_true rfl)
  rw [lg_entry_eq]
  generalize (lg_sl ([.int a0, .int a1]) ++ List.replicate (2 - (lg_sl ([.int a0, .int a1])).length) Slot.unset).toArray = ls at hl ⊢
  have hl : lv_has ls 2 [(0, .int a0), (1, .int a1)] := hl
  show W p l e ({ frames := 1, cells := 0, slots := 0, locals := 22 } : Room) s m ([.int a0, .int a1] : List Value).toArray below meth c s.heap [] 0 0 (rt_Qs below ([.int a0, .int a1] : List Value).toArray s r') (F0 m 0 ls [])
  unfold M_C_Ranges_wrapped at hm
  refine lv_iload_n hx hb d_Ranges_wrapped_0 rfl (lv_at hl 0 rfl) ?_
  refine lv_bipush (v := 64) hx hb d_Ranges_wrapped_1 (by decide) ?_
  obtain ⟨v2, h1, hm⟩ := rt_b1s hm
  refine rt_csi (As := [.int a0, .int 64]) (rest := []) rt_X0o ⟨hx, hb, hml, hown, hts⟩ (k_C_Math_floorDiv l a0 64 _ h1) (cw_Math_floorDiv hts (hts _ (rt_m rt_w673)) ⟨Nat.le_of_ble_eq_true rfl, Nat.le_of_ble_eq_true rfl⟩) hS (fun _ h => h) trivial rfl hl.1 rfl (Nat.le_of_ble_eq_true rfl) d_Ranges_wrapped_3 ⟨Nat.zero_le _, Nat.zero_le _⟩ (fun H locs hk hS => ?_)
  clear hk
  refine lv_iload_n hx hb d_Ranges_wrapped_6 rfl (lv_at hl 1 rfl) ?_
  refine lv_bipush (v := 64) hx hb d_Ranges_wrapped_7 (by decide) ?_
  obtain ⟨v4, h3, hm⟩ := rt_b1s hm
  refine rt_csi (As := [.int a1, .int 64]) (rest := [.int v2]) rt_X0o ⟨hx, hb, hml, hown, hts⟩ (k_C_Math_floorDiv l a1 64 _ h3) (cw_Math_floorDiv hts (hts _ (rt_m rt_w673)) ⟨Nat.le_of_ble_eq_true rfl, Nat.le_of_ble_eq_true rfl⟩) hS (fun _ h => h) trivial rfl hl.1 rfl (Nat.le_of_ble_eq_true rfl) d_Ranges_wrapped_9 ⟨Nat.zero_le _, Nat.zero_le _⟩ (fun H locs hk hS => ?_)
  clear hk
  refine lv_icmp_eq (tgt := 19) hx hb d_Ranges_wrapped_12 (by decide) (fun hc => ?_) (fun hc => ?_)
  · have hm := (if_pos hc).symm.trans hm
    refine lv_iload_n hx hb d_Ranges_wrapped_19 rfl (lv_at hl 0 rfl) ?_
    refine lv_bipush (v := 64) hx hb d_Ranges_wrapped_20 (by decide) ?_
    obtain ⟨v6, h5, hm⟩ := rt_b1s hm
    refine rt_csi (As := [.int a0, .int 64]) (rest := []) rt_X0o ⟨hx, hb, hml, hown, hts⟩ (k_C_Math_floorMod l a0 64 _ h5) (cw_Math_floorMod hts (hts _ (rt_m rt_w676)) ⟨Nat.le_of_ble_eq_true rfl, Nat.le_of_ble_eq_true rfl⟩) hS (fun _ h => h) trivial rfl hl.1 rfl (Nat.le_of_ble_eq_true rfl) d_Ranges_wrapped_22 ⟨Nat.zero_le _, Nat.zero_le _⟩ (fun H locs hk hS => ?_)
    clear hk
    refine lv_iload_n hx hb d_Ranges_wrapped_25 rfl (lv_at hl 1 rfl) ?_
    refine lv_bipush (v := 64) hx hb d_Ranges_wrapped_26 (by decide) ?_
    obtain ⟨v8, h7, hm⟩ := rt_b1s hm
    refine rt_csi (As := [.int a1, .int 64]) (rest := [.int v6]) rt_X0o ⟨hx, hb, hml, hown, hts⟩ (k_C_Math_floorMod l a1 64 _ h7) (cw_Math_floorMod hts (hts _ (rt_m rt_w676)) ⟨Nat.le_of_ble_eq_true rfl, Nat.le_of_ble_eq_true rfl⟩) hS (fun _ h => h) trivial rfl hl.1 rfl (Nat.le_of_ble_eq_true rfl) d_Ranges_wrapped_28 ⟨Nat.zero_le _, Nat.zero_le _⟩ (fun H locs hk hS => ?_)
    clear hk
    obtain ⟨v10, h9, hm⟩ := rt_b1s hm
    refine rt_csi (As := [.int v6, .int v8]) (rest := []) rt_X0o ⟨hx, hb, hml, hown, hts⟩ (k_C_Ranges_of l v6 v8 _ h9) (cw_Ranges_of hts (hts _ (rt_m rt_w659)) ⟨Nat.le_of_ble_eq_true rfl, Nat.le_of_ble_eq_true rfl⟩) hS (fun _ h => h) trivial rfl hl.1 rfl (Nat.le_of_ble_eq_true rfl) d_Ranges_wrapped_31 ⟨Nat.zero_le _, Nat.zero_le _⟩ (fun H locs hk hS => ?_)
    clear hk
    exact W.iret hx hb hr (fun t ht hW => ⟨⟨_, (), rfl, Option.some.inj hm, trivial⟩, hS.F ht⟩) hS.2.2 d_Ranges_wrapped_34
  · have hm := (if_neg hc).symm.trans hm
    refine lv_sipush (v := 4032) hx hb d_Ranges_wrapped_15 (by decide) ?_
    exact W.iret hx hb hr (fun t ht hW => ⟨⟨_, (), rfl, Option.some.inj hm, trivial⟩, hS.F ht⟩) hS.2.2 d_Ranges_wrapped_18
set_option maxHeartbeats 4000000 in
set_option maxRecDepth 100000 in
theorem k_C_Ranges_truth (l : Launch) (a0 a1 : Int32) (r' : Int32) (hm : M_C_Ranges_truth a0 a1 = some r') : rt_MS l y_Ranges_truth b_Ranges_truth 2 (some .int) ({ frames := 1, cells := 0, slots := 0, locals := 21 } : Room) rt_X0 [.int a0, .int a1] r' := by
  intro sz
  refine Met.ofW (cc := b_Ranges_truth) (maxL := 2) (ret := (some .int)) (by decide) rfl ?_
  intro p e s m args below meth c s₁ B hml hv
  obtain ⟨rfl, rfl, hX⟩ := hv
  have hx := B.exec
  have hb := B.bytes
  have hr := B.returns
  have hts := atoms_spec (ws := (rt_ws y_Ranges_truth b_Ranges_truth 2 (some .int))) B.pre
  have hown : s.vm.findClass "RangeTeller$Ranges" = some m.cls := findClass_of_methodNamed B.named
  have hlocks := B.notSynchronized
  have hS : va_S (fun q => s.heap.size ≤ q) s.heap s.heap [] := va_S.rf
  have hl := lv_entry ([.int a0, .int a1]) (n := 2) (Nat.le_of_ble_eq_true rfl)
  rw [lg_entry_eq]
  generalize (lg_sl ([.int a0, .int a1]) ++ List.replicate (2 - (lg_sl ([.int a0, .int a1])).length) Slot.unset).toArray = ls at hl ⊢
  have hl : lv_has ls 2 [(0, .int a0), (1, .int a1)] := hl
  show W p l e ({ frames := 1, cells := 0, slots := 0, locals := 21 } : Room) s m ([.int a0, .int a1] : List Value).toArray below meth c s.heap [] 0 0 (rt_Qs below ([.int a0, .int a1] : List Value).toArray s r') (F0 m 0 ls [])
  have hB18 : ∀ (ls : Array Slot) (t0 t1 : Int32) (H : Heap) (locs : List Loc), lv_has ls 2 [] → B_C_Ranges_truth_18 t0 t1 = some r' → va_S (fun q => s.heap.size ≤ q) s.heap H locs → W p l e ({ frames := 1, cells := 0, slots := 0, locals := 21 } : Room) s m ([.int a0, .int a1] : List Value).toArray below meth c H locs 0 0 (rt_Qs below ([.int a0, .int a1] : List Value).toArray s r') (F0 m 18 ls [.int t0, .int t1]) := by
    intro ls t0 t1 H locs hl hm hS
    unfold B_C_Ranges_truth_18 at hm
    obtain ⟨v2, h1, hm⟩ := rt_b1s hm
    refine rt_csi (As := [.int t1, .int t0]) (rest := []) rt_X0o ⟨hx, hb, hml, hown, hts⟩ (k_C_Ranges_of l t1 t0 _ h1) (cw_Ranges_of hts (hts _ (rt_m rt_w659)) ⟨Nat.le_of_ble_eq_true rfl, Nat.le_of_ble_eq_true rfl⟩) hS (fun _ h => h) trivial rfl hl.1 rfl (Nat.le_of_ble_eq_true rfl) d_Ranges_truth_18 ⟨Nat.zero_le _, Nat.zero_le _⟩ (fun H locs hk hS => ?_)
    clear hk
    exact W.iret hx hb hr (fun t ht hW => ⟨⟨_, (), rfl, Option.some.inj hm, trivial⟩, hS.F ht⟩) hS.2.2 d_Ranges_truth_21
  have hB9 : ∀ (ls : Array Slot) (l0 t0 : Int32) (H : Heap) (locs : List Loc), lv_has ls 2 [(0, .int l0)] → B_C_Ranges_truth_9 l0 t0 = some r' → va_S (fun q => s.heap.size ≤ q) s.heap H locs → W p l e ({ frames := 1, cells := 0, slots := 0, locals := 21 } : Room) s m ([.int a0, .int a1] : List Value).toArray below meth c H locs 0 0 (rt_Qs below ([.int a0, .int a1] : List Value).toArray s r') (F0 m 9 ls [.int t0]) := by
    intro ls l0 t0 H locs hl hm hS
    unfold B_C_Ranges_truth_9 at hm
    refine lv_iload_n hx hb d_Ranges_truth_9 rfl (lv_at hl 0 rfl) ?_
    refine lv_if_eq (tgt := 17) hx hb d_Ranges_truth_10 (by decide) (fun hc => ?_) (fun hc => ?_)
    · have hm := (if_pos hc).symm.trans hm
      refine lv_iconst (v := 0) hx hb d_Ranges_truth_17 (by decide) ?_
      exact hB18 ls 0 t0 _ _ (lv_sub hl [] rfl) hm hS
    · have hm := (if_neg hc).symm.trans hm
      refine lv_iconst (v := 1) hx hb d_Ranges_truth_13 (by decide) ?_
      refine lv_goto (tgt := 18) hx hb d_Ranges_truth_14 (by decide) ?_
      exact hB18 ls 1 t0 _ _ (lv_sub hl [] rfl) hm hS
  unfold M_C_Ranges_truth at hm
  refine lv_iload_n hx hb d_Ranges_truth_0 rfl (lv_at hl 1 rfl) ?_
  refine lv_if_eq (tgt := 8) hx hb d_Ranges_truth_1 (by decide) (fun hc => ?_) (fun hc => ?_)
  · have hm := (if_pos hc).symm.trans hm
    refine lv_iconst (v := 1) hx hb d_Ranges_truth_8 (by decide) ?_
    exact hB9 ls a0 1 _ _ (lv_sub hl [0] rfl) hm hS
  · have hm := (if_neg hc).symm.trans hm
    refine lv_iconst (v := 0) hx hb d_Ranges_truth_4 (by decide) ?_
    refine lv_goto (tgt := 9) hx hb d_Ranges_truth_5 (by decide) ?_
    exact hB9 ls a0 0 _ _ (lv_sub hl [0] rfl) hm hS
set_option maxHeartbeats 4000000 in
set_option maxRecDepth 100000 in
theorem k_C_Ranges_same (l : Launch) (a0 a1 : Int32) (r' : Int32) (hm : M_C_Ranges_same a0 a1 = some r') : rt_MS l y_Ranges_same b_Ranges_same 4 (some .int) ({ frames := 1, cells := 0, slots := 0, locals := 21 } : Room) rt_X0 [.int a0, .int a1] r' := by
  intro sz
  refine Met.ofW (cc := b_Ranges_same) (maxL := 4) (ret := (some .int)) (by decide) rfl ?_
  intro p e s m args below meth c s₁ B hml hv
  obtain ⟨rfl, rfl, hX⟩ := hv
  have hx := B.exec
  have hb := B.bytes
  have hr := B.returns
  have hts := atoms_spec (ws := (rt_ws y_Ranges_same b_Ranges_same 4 (some .int))) B.pre
  have hown : s.vm.findClass "RangeTeller$Ranges" = some m.cls := findClass_of_methodNamed B.named
  have hlocks := B.notSynchronized
  have hS : va_S (fun q => s.heap.size ≤ q) s.heap s.heap [] := va_S.rf
  have hl := lv_entry ([.int a0, .int a1]) (n := 4) (Nat.le_of_ble_eq_true rfl)
  rw [lg_entry_eq]
  generalize (lg_sl ([.int a0, .int a1]) ++ List.replicate (4 - (lg_sl ([.int a0, .int a1])).length) Slot.unset).toArray = ls at hl ⊢
  have hl : lv_has ls 4 [(0, .int a0), (1, .int a1)] := hl
  show W p l e ({ frames := 1, cells := 0, slots := 0, locals := 21 } : Room) s m ([.int a0, .int a1] : List Value).toArray below meth c s.heap [] 0 0 (rt_Qs below ([.int a0, .int a1] : List Value).toArray s r') (F0 m 0 ls [])
  have hB78 : ∀ (ls : Array Slot) (t0 t1 : Int32) (H : Heap) (locs : List Loc), lv_has ls 4 [] → B_C_Ranges_same_78 t0 t1 = some r' → va_S (fun q => s.heap.size ≤ q) s.heap H locs → W p l e ({ frames := 1, cells := 0, slots := 0, locals := 21 } : Room) s m ([.int a0, .int a1] : List Value).toArray below meth c H locs 0 0 (rt_Qs below ([.int a0, .int a1] : List Value).toArray s r') (F0 m 78 ls [.int t0, .int t1]) := by
    intro ls t0 t1 H locs hl hm hS
    unfold B_C_Ranges_same_78 at hm
    obtain ⟨v2, h1, hm⟩ := rt_b1s hm
    refine rt_csi (As := [.int t1, .int t0]) (rest := []) rt_X0o ⟨hx, hb, hml, hown, hts⟩ (k_C_Ranges_of l t1 t0 _ h1) (cw_Ranges_of hts (hts _ (rt_m rt_w659)) ⟨Nat.le_of_ble_eq_true rfl, Nat.le_of_ble_eq_true rfl⟩) hS (fun _ h => h) trivial rfl hl.1 rfl (Nat.le_of_ble_eq_true rfl) d_Ranges_same_78 ⟨Nat.zero_le _, Nat.zero_le _⟩ (fun H locs hk hS => ?_)
    clear hk
    exact W.iret hx hb hr (fun t ht hW => ⟨⟨_, (), rfl, Option.some.inj hm, trivial⟩, hS.F ht⟩) hS.2.2 d_Ranges_same_81
  have hB69 : ∀ (ls : Array Slot) (l2 t0 : Int32) (H : Heap) (locs : List Loc), lv_has ls 4 [(2, .int l2)] → B_C_Ranges_same_69 l2 t0 = some r' → va_S (fun q => s.heap.size ≤ q) s.heap H locs → W p l e ({ frames := 1, cells := 0, slots := 0, locals := 21 } : Room) s m ([.int a0, .int a1] : List Value).toArray below meth c H locs 0 0 (rt_Qs below ([.int a0, .int a1] : List Value).toArray s r') (F0 m 69 ls [.int t0]) := by
    intro ls l2 t0 H locs hl hm hS
    unfold B_C_Ranges_same_69 at hm
    refine lv_iload_n hx hb d_Ranges_same_69 rfl (lv_at hl 0 rfl) ?_
    refine lv_if_eq (tgt := 77) hx hb d_Ranges_same_70 (by decide) (fun hc => ?_) (fun hc => ?_)
    · have hm := (if_pos hc).symm.trans hm
      refine lv_iconst (v := 0) hx hb d_Ranges_same_77 (by decide) ?_
      exact hB78 ls 0 t0 _ _ (lv_sub hl [] rfl) hm hS
    · have hm := (if_neg hc).symm.trans hm
      refine lv_iconst (v := 1) hx hb d_Ranges_same_73 (by decide) ?_
      refine lv_goto (tgt := 78) hx hb d_Ranges_same_74 (by decide) ?_
      exact hB78 ls 1 t0 _ _ (lv_sub hl [] rfl) hm hS
  have hB68 : ∀ (ls : Array Slot) (l2 : Int32) (H : Heap) (locs : List Loc), lv_has ls 4 [(2, .int l2)] → B_C_Ranges_same_68 l2 = some r' → va_S (fun q => s.heap.size ≤ q) s.heap H locs → W p l e ({ frames := 1, cells := 0, slots := 0, locals := 21 } : Room) s m ([.int a0, .int a1] : List Value).toArray below meth c H locs 0 0 (rt_Qs below ([.int a0, .int a1] : List Value).toArray s r') (F0 m 68 ls []) := by
    intro ls l2 H locs hl hm hS
    unfold B_C_Ranges_same_68 at hm
    refine lv_iconst (v := 0) hx hb d_Ranges_same_68 (by decide) ?_
    exact hB69 ls l2 0 _ _ (lv_sub hl [0] rfl) hm hS
  have hB55 : ∀ (ls : Array Slot) (l2 t0 : Int32) (H : Heap) (locs : List Loc), lv_has ls 4 [(2, .int l2)] → B_C_Ranges_same_55 l2 t0 = some r' → va_S (fun q => s.heap.size ≤ q) s.heap H locs → W p l e ({ frames := 1, cells := 0, slots := 0, locals := 21 } : Room) s m ([.int a0, .int a1] : List Value).toArray below meth c H locs 0 0 (rt_Qs below ([.int a0, .int a1] : List Value).toArray s r') (F0 m 55 ls [.int t0]) := by
    intro ls l2 t0 H locs hl hm hS
    unfold B_C_Ranges_same_55 at hm
    refine lv_istore_n hx hb d_Ranges_same_55 rfl hl (by decide) rfl (fun ls hl => ?_)
    have hl : lv_has ls 4 [(3, .int t0), (2, .int l2)] := hl
    refine lv_iload_n hx hb d_Ranges_same_56 rfl (lv_at hl 1 rfl) ?_
    refine lv_if_eq (tgt := 68) hx hb d_Ranges_same_57 (by decide) (fun hc => ?_) (fun hc => ?_)
    · have hm := (if_pos hc).symm.trans hm
      exact hB68 ls l2 _ _ (lv_sub hl [1] rfl) hm hS
    · have hm := (if_neg hc).symm.trans hm
      refine lv_iload_n hx hb d_Ranges_same_60 rfl (lv_at hl 0 rfl) ?_
      refine lv_if_eq (tgt := 68) hx hb d_Ranges_same_61 (by decide) (fun hc => ?_) (fun hc => ?_)
      · have hm := (if_pos hc).symm.trans hm
        exact hB68 ls l2 _ _ (lv_sub hl [1] rfl) hm hS
      · have hm := (if_neg hc).symm.trans hm
        refine lv_iconst (v := 1) hx hb d_Ranges_same_64 (by decide) ?_
        refine lv_goto (tgt := 69) hx hb d_Ranges_same_65 (by decide) ?_
        exact hB69 ls l2 1 _ _ (lv_sub hl [1] rfl) hm hS
  have hB54 : ∀ (ls : Array Slot) (l2 : Int32) (H : Heap) (locs : List Loc), lv_has ls 4 [(2, .int l2)] → B_C_Ranges_same_54 l2 = some r' → va_S (fun q => s.heap.size ≤ q) s.heap H locs → W p l e ({ frames := 1, cells := 0, slots := 0, locals := 21 } : Room) s m ([.int a0, .int a1] : List Value).toArray below meth c H locs 0 0 (rt_Qs below ([.int a0, .int a1] : List Value).toArray s r') (F0 m 54 ls []) := by
    intro ls l2 H locs hl hm hS
    unfold B_C_Ranges_same_54 at hm
    refine lv_iconst (v := 0) hx hb d_Ranges_same_54 (by decide) ?_
    exact hB55 ls l2 0 _ _ (lv_sub hl [0] rfl) hm hS
  have hB27 : ∀ (ls : Array Slot) (l0 l1 t0 : Int32) (H : Heap) (locs : List Loc), lv_has ls 4 [(0, .int l0), (1, .int l1)] → B_C_Ranges_same_27 l0 l1 t0 = some r' → va_S (fun q => s.heap.size ≤ q) s.heap H locs → W p l e ({ frames := 1, cells := 0, slots := 0, locals := 21 } : Room) s m ([.int a0, .int a1] : List Value).toArray below meth c H locs 0 0 (rt_Qs below ([.int a0, .int a1] : List Value).toArray s r') (F0 m 27 ls [.int t0]) := by
    intro ls l0 l1 t0 H locs hl hm hS
    unfold B_C_Ranges_same_27 at hm
    refine lv_istore_n hx hb d_Ranges_same_27 rfl hl (by decide) rfl (fun ls hl => ?_)
    have hl : lv_has ls 4 [(2, .int t0), (0, .int l0), (1, .int l1)] := hl
    refine lv_iload_n hx hb d_Ranges_same_28 rfl (lv_at hl 1 rfl) ?_
    obtain ⟨v4, h3, hm⟩ := rt_b1s hm
    refine rt_csi (As := [.int l0]) (rest := []) rt_X0o ⟨hx, hb, hml, hown, hts⟩ (k_C_Ranges_least l l0 _ h3) (cw_Ranges_least hts (hts _ (rt_m rt_w590)) ⟨Nat.le_of_ble_eq_true rfl, Nat.le_of_ble_eq_true rfl⟩) hS (fun _ h => h) trivial rfl hl.1 rfl (Nat.le_of_ble_eq_true rfl) d_Ranges_same_29 ⟨Nat.zero_le _, Nat.zero_le _⟩ (fun H locs hk hS => ?_)
    clear hk
    refine lv_iload_n hx hb d_Ranges_same_32 rfl (lv_at hl 1 rfl) ?_
    obtain ⟨v6, h5, hm⟩ := rt_b1s hm
    refine rt_csi (As := [.int l0]) (rest := [.int v4]) rt_X0o ⟨hx, hb, hml, hown, hts⟩ (k_C_Ranges_greatest l l0 _ h5) (cw_Ranges_greatest hts (hts _ (rt_m rt_w596)) ⟨Nat.le_of_ble_eq_true rfl, Nat.le_of_ble_eq_true rfl⟩) hS (fun _ h => h) trivial rfl hl.1 rfl (Nat.le_of_ble_eq_true rfl) d_Ranges_same_33 ⟨Nat.zero_le _, Nat.zero_le _⟩ (fun H locs hk hS => ?_)
    clear hk
    refine lv_icmp_ne (tgt := 54) hx hb d_Ranges_same_36 (by decide) (fun hc => ?_) (fun hc => ?_)
    · have hm := (if_neg hc).symm.trans hm
      exact hB54 ls t0 _ _ (lv_sub hl [0] rfl) hm hS
    · have hm := (if_pos hc).symm.trans hm
      refine lv_iload_n hx hb d_Ranges_same_39 rfl (lv_at hl 2 rfl) ?_
      obtain ⟨v8, h7, hm⟩ := rt_b1s hm
      refine rt_csi (As := [.int l1]) (rest := []) rt_X0o ⟨hx, hb, hml, hown, hts⟩ (k_C_Ranges_least l l1 _ h7) (cw_Ranges_least hts (hts _ (rt_m rt_w590)) ⟨Nat.le_of_ble_eq_true rfl, Nat.le_of_ble_eq_true rfl⟩) hS (fun _ h => h) trivial rfl hl.1 rfl (Nat.le_of_ble_eq_true rfl) d_Ranges_same_40 ⟨Nat.zero_le _, Nat.zero_le _⟩ (fun H locs hk hS => ?_)
      clear hk
      refine lv_iload_n hx hb d_Ranges_same_43 rfl (lv_at hl 2 rfl) ?_
      obtain ⟨v10, h9, hm⟩ := rt_b1s hm
      refine rt_csi (As := [.int l1]) (rest := [.int v8]) rt_X0o ⟨hx, hb, hml, hown, hts⟩ (k_C_Ranges_greatest l l1 _ h9) (cw_Ranges_greatest hts (hts _ (rt_m rt_w596)) ⟨Nat.le_of_ble_eq_true rfl, Nat.le_of_ble_eq_true rfl⟩) hS (fun _ h => h) trivial rfl hl.1 rfl (Nat.le_of_ble_eq_true rfl) d_Ranges_same_44 ⟨Nat.zero_le _, Nat.zero_le _⟩ (fun H locs hk hS => ?_)
      clear hk
      refine lv_icmp_ne (tgt := 54) hx hb d_Ranges_same_47 (by decide) (fun hc => ?_) (fun hc => ?_)
      · have hm := (if_neg hc).symm.trans hm
        exact hB54 ls t0 _ _ (lv_sub hl [0] rfl) hm hS
      · have hm := (if_pos hc).symm.trans hm
        refine lv_iconst (v := 1) hx hb d_Ranges_same_50 (by decide) ?_
        refine lv_goto (tgt := 55) hx hb d_Ranges_same_51 (by decide) ?_
        exact hB55 ls t0 1 _ _ (lv_sub hl [0] rfl) hm hS
  have hB26 : ∀ (ls : Array Slot) (l0 l1 : Int32) (H : Heap) (locs : List Loc), lv_has ls 4 [(0, .int l0), (1, .int l1)] → B_C_Ranges_same_26 l0 l1 = some r' → va_S (fun q => s.heap.size ≤ q) s.heap H locs → W p l e ({ frames := 1, cells := 0, slots := 0, locals := 21 } : Room) s m ([.int a0, .int a1] : List Value).toArray below meth c H locs 0 0 (rt_Qs below ([.int a0, .int a1] : List Value).toArray s r') (F0 m 26 ls []) := by
    intro ls l0 l1 H locs hl hm hS
    unfold B_C_Ranges_same_26 at hm
    refine lv_iconst (v := 0) hx hb d_Ranges_same_26 (by decide) ?_
    exact hB27 ls l0 l1 0 _ _ (lv_sub hl [0, 1] rfl) hm hS
  unfold M_C_Ranges_same at hm
  refine lv_iload_n hx hb d_Ranges_same_0 rfl (lv_at hl 0 rfl) ?_
  obtain ⟨v12, h11, hm⟩ := rt_b1s hm
  refine rt_csi (As := [.int a0]) (rest := []) rt_X0o ⟨hx, hb, hml, hown, hts⟩ (k_C_Ranges_least l a0 _ h11) (cw_Ranges_least hts (hts _ (rt_m rt_w590)) ⟨Nat.le_of_ble_eq_true rfl, Nat.le_of_ble_eq_true rfl⟩) hS (fun _ h => h) trivial rfl hl.1 rfl (Nat.le_of_ble_eq_true rfl) d_Ranges_same_1 ⟨Nat.zero_le _, Nat.zero_le _⟩ (fun H locs hk hS => ?_)
  clear hk
  refine lv_iload_n hx hb d_Ranges_same_4 rfl (lv_at hl 1 rfl) ?_
  obtain ⟨v14, h13, hm⟩ := rt_b1s hm
  refine rt_csi (As := [.int a1]) (rest := [.int v12]) rt_X0o ⟨hx, hb, hml, hown, hts⟩ (k_C_Ranges_greatest l a1 _ h13) (cw_Ranges_greatest hts (hts _ (rt_m rt_w596)) ⟨Nat.le_of_ble_eq_true rfl, Nat.le_of_ble_eq_true rfl⟩) hS (fun _ h => h) trivial rfl hl.1 rfl (Nat.le_of_ble_eq_true rfl) d_Ranges_same_5 ⟨Nat.zero_le _, Nat.zero_le _⟩ (fun H locs hk hS => ?_)
  clear hk
  refine lv_icmp_gt (tgt := 26) hx hb d_Ranges_same_8 (by decide) (fun hc => ?_) (fun hc => ?_)
  · have hm := (if_pos hc).symm.trans hm
    exact hB26 ls a0 a1 _ _ (lv_sub hl [0, 1] rfl) hm hS
  · have hm := (if_neg hc).symm.trans hm
    refine lv_iload_n hx hb d_Ranges_same_11 rfl (lv_at hl 1 rfl) ?_
    obtain ⟨v16, h15, hm⟩ := rt_b1s hm
    refine rt_csi (As := [.int a1]) (rest := []) rt_X0o ⟨hx, hb, hml, hown, hts⟩ (k_C_Ranges_least l a1 _ h15) (cw_Ranges_least hts (hts _ (rt_m rt_w590)) ⟨Nat.le_of_ble_eq_true rfl, Nat.le_of_ble_eq_true rfl⟩) hS (fun _ h => h) trivial rfl hl.1 rfl (Nat.le_of_ble_eq_true rfl) d_Ranges_same_12 ⟨Nat.zero_le _, Nat.zero_le _⟩ (fun H locs hk hS => ?_)
    clear hk
    refine lv_iload_n hx hb d_Ranges_same_15 rfl (lv_at hl 0 rfl) ?_
    obtain ⟨v18, h17, hm⟩ := rt_b1s hm
    refine rt_csi (As := [.int a0]) (rest := [.int v16]) rt_X0o ⟨hx, hb, hml, hown, hts⟩ (k_C_Ranges_greatest l a0 _ h17) (cw_Ranges_greatest hts (hts _ (rt_m rt_w596)) ⟨Nat.le_of_ble_eq_true rfl, Nat.le_of_ble_eq_true rfl⟩) hS (fun _ h => h) trivial rfl hl.1 rfl (Nat.le_of_ble_eq_true rfl) d_Ranges_same_16 ⟨Nat.zero_le _, Nat.zero_le _⟩ (fun H locs hk hS => ?_)
    clear hk
    refine lv_icmp_gt (tgt := 26) hx hb d_Ranges_same_19 (by decide) (fun hc => ?_) (fun hc => ?_)
    · have hm := (if_pos hc).symm.trans hm
      exact hB26 ls a0 a1 _ _ (lv_sub hl [0, 1] rfl) hm hS
    · have hm := (if_neg hc).symm.trans hm
      refine lv_iconst (v := 1) hx hb d_Ranges_same_22 (by decide) ?_
      refine lv_goto (tgt := 27) hx hb d_Ranges_same_23 (by decide) ?_
      exact hB27 ls a0 a1 1 _ _ (lv_sub hl [0, 1] rfl) hm hS
set_option maxHeartbeats 4000000 in
set_option maxRecDepth 100000 in
theorem k_C_Ranges_reckoned (l : Launch) (a0 a1 a2 : Int32) (r' : Int32) (hm : M_C_Ranges_reckoned a0 a1 a2 = some r') : rt_MS l y_Ranges_reckoned b_Ranges_reckoned 3 (some .int) ({ frames := 2, cells := 0, slots := 0, locals := 48 } : Room) rt_X0 [.int a0, .int a1, .int a2] r' := by
  intro sz
  refine Met.ofW (cc := b_Ranges_reckoned) (maxL := 3) (ret := (some .int)) (by decide) rfl ?_
  intro p e s m args below meth c s₁ B hml hv
  obtain ⟨rfl, rfl, hX⟩ := hv
  have hx := B.exec
  have hb := B.bytes
  have hr := B.returns
  have hts := atoms_spec (ws := (rt_ws y_Ranges_reckoned b_Ranges_reckoned 3 (some .int))) B.pre
  have hown : s.vm.findClass "RangeTeller$Ranges" = some m.cls := findClass_of_methodNamed B.named
  have hlocks := B.notSynchronized
  have hS : va_S (fun q => s.heap.size ≤ q) s.heap s.heap [] := va_S.rf
  have hl := lv_entry ([.int a0, .int a1, .int a2]) (n := 3) (Nat.le_of_ble_eq_true rfl)
  rw [lg_entry_eq]
  generalize (lg_sl ([.int a0, .int a1, .int a2]) ++ List.replicate (3 - (lg_sl ([.int a0, .int a1, .int a2])).length) Slot.unset).toArray = ls at hl ⊢
  have hl : lv_has ls 3 [(0, .int a0), (1, .int a1), (2, .int a2)] := hl
  show W p l e ({ frames := 2, cells := 0, slots := 0, locals := 48 } : Room) s m ([.int a0, .int a1, .int a2] : List Value).toArray below meth c s.heap [] 0 0 (rt_Qs below ([.int a0, .int a1, .int a2] : List Value).toArray s r') (F0 m 0 ls [])
  have hB82 : ∀ (ls : Array Slot) (t0 t1 : Int32) (H : Heap) (locs : List Loc), lv_has ls 3 [] → B_C_Ranges_reckoned_82 t0 t1 = some r' → va_S (fun q => s.heap.size ≤ q) s.heap H locs → W p l e ({ frames := 2, cells := 0, slots := 0, locals := 48 } : Room) s m ([.int a0, .int a1, .int a2] : List Value).toArray below meth c H locs 0 0 (rt_Qs below ([.int a0, .int a1, .int a2] : List Value).toArray s r') (F0 m 82 ls [.int t0, .int t1]) := by
    intro ls t0 t1 H locs hl hm hS
    unfold B_C_Ranges_reckoned_82 at hm
    obtain ⟨v2, h1, hm⟩ := rt_b1s hm
    refine rt_csi (As := [.int t1, .int t0]) (rest := []) rt_X0o ⟨hx, hb, hml, hown, hts⟩ (k_C_Ranges_truth l t1 t0 _ h1) (cw_Ranges_truth hts (hts _ (rt_m rt_w656)) ⟨Nat.le_of_ble_eq_true rfl, Nat.le_of_ble_eq_true rfl⟩) hS (fun _ h => h) trivial rfl hl.1 rfl (Nat.le_of_ble_eq_true rfl) d_Ranges_reckoned_82 ⟨Nat.zero_le _, Nat.zero_le _⟩ (fun H locs hk hS => ?_)
    clear hk
    exact W.iret hx hb hr (fun t ht hW => ⟨⟨_, (), rfl, Option.some.inj hm, trivial⟩, hS.F ht⟩) hS.2.2 d_Ranges_reckoned_85
  have hB66 : ∀ (ls : Array Slot) (l1 l2 t0 : Int32) (H : Heap) (locs : List Loc), lv_has ls 3 [(1, .int l1), (2, .int l2)] → B_C_Ranges_reckoned_66 l1 l2 t0 = some r' → va_S (fun q => s.heap.size ≤ q) s.heap H locs → W p l e ({ frames := 2, cells := 0, slots := 0, locals := 48 } : Room) s m ([.int a0, .int a1, .int a2] : List Value).toArray below meth c H locs 0 0 (rt_Qs below ([.int a0, .int a1, .int a2] : List Value).toArray s r') (F0 m 66 ls [.int t0]) := by
    intro ls l1 l2 t0 H locs hl hm hS
    unfold B_C_Ranges_reckoned_66 at hm
    refine lv_iload_n hx hb d_Ranges_reckoned_66 rfl (lv_at hl 0 rfl) ?_
    obtain ⟨v4, h3, hm⟩ := rt_b1s hm
    refine rt_csi (As := [.int l1]) (rest := [.int t0]) rt_X0o ⟨hx, hb, hml, hown, hts⟩ (k_C_Ranges_greatest l l1 _ h3) (cw_Ranges_greatest hts (hts _ (rt_m rt_w596)) ⟨Nat.le_of_ble_eq_true rfl, Nat.le_of_ble_eq_true rfl⟩) hS (fun _ h => h) trivial rfl hl.1 rfl (Nat.le_of_ble_eq_true rfl) d_Ranges_reckoned_67 ⟨Nat.zero_le _, Nat.zero_le _⟩ (fun H locs hk hS => ?_)
    clear hk
    refine lv_iload_n hx hb d_Ranges_reckoned_70 rfl (lv_at hl 1 rfl) ?_
    obtain ⟨v6, h5, hm⟩ := rt_b1s hm
    refine rt_csi (As := [.int l2]) (rest := [.int v4, .int t0]) rt_X0o ⟨hx, hb, hml, hown, hts⟩ (k_C_Ranges_least l l2 _ h5) (cw_Ranges_least hts (hts _ (rt_m rt_w590)) ⟨Nat.le_of_ble_eq_true rfl, Nat.le_of_ble_eq_true rfl⟩) hS (fun _ h => h) trivial rfl hl.1 rfl (Nat.le_of_ble_eq_true rfl) d_Ranges_reckoned_71 ⟨Nat.zero_le _, Nat.zero_le _⟩ (fun H locs hk hS => ?_)
    clear hk
    refine lv_icmp_lt (tgt := 81) hx hb d_Ranges_reckoned_74 (by decide) (fun hc => ?_) (fun hc => ?_)
    · have hm := (if_pos hc).symm.trans hm
      refine lv_iconst (v := 0) hx hb d_Ranges_reckoned_81 (by decide) ?_
      exact hB82 ls 0 t0 _ _ (lv_sub hl [] rfl) hm hS
    · have hm := (if_neg hc).symm.trans hm
      refine lv_iconst (v := 1) hx hb d_Ranges_reckoned_77 (by decide) ?_
      refine lv_goto (tgt := 82) hx hb d_Ranges_reckoned_78 (by decide) ?_
      exact hB82 ls 1 t0 _ _ (lv_sub hl [] rfl) hm hS
  unfold M_C_Ranges_reckoned at hm
  refine lv_iload_n hx hb d_Ranges_reckoned_0 rfl (lv_at hl 0 rfl) ?_
  by_cases c7 : a0 = 19
  · have hm := (if_pos c7).symm.trans hm
    refine lv_tableIn (off := 43) (tgt := 44) hx hb d_Ranges_reckoned_1 (by rw [c7]; decide) (by rw [c7]; decide) (by rw [c7]; rfl) (by decide) ?_
    refine lv_iload_n hx hb d_Ranges_reckoned_44 rfl (lv_at hl 1 rfl) ?_
    refine lv_iload_n hx hb d_Ranges_reckoned_45 rfl (lv_at hl 2 rfl) ?_
    obtain ⟨v9, h8, hm⟩ := rt_b1s hm
    refine rt_csi (As := [.int a1, .int a2]) (rest := []) rt_X0o ⟨hx, hb, hml, hown, hts⟩ (k_C_Ranges_same l a1 a2 _ h8) (cw_Ranges_same hts (hts _ (rt_m rt_w667)) ⟨Nat.le_of_ble_eq_true rfl, Nat.le_of_ble_eq_true rfl⟩) hS (fun _ h => h) trivial rfl hl.1 rfl (Nat.le_of_ble_eq_true rfl) d_Ranges_reckoned_46 ⟨Nat.zero_le _, Nat.zero_le _⟩ (fun H locs hk hS => ?_)
    clear hk
    exact W.iret hx hb hr (fun t ht hW => ⟨⟨_, (), rfl, Option.some.inj hm, trivial⟩, hS.F ht⟩) hS.2.2 d_Ranges_reckoned_49
  have hm := (if_neg c7).symm.trans hm
  by_cases c10 : a0 = 20
  · have hm := (if_pos c10).symm.trans hm
    refine lv_tableIn (off := 49) (tgt := 50) hx hb d_Ranges_reckoned_1 (by rw [c10]; decide) (by rw [c10]; decide) (by rw [c10]; rfl) (by decide) ?_
    refine lv_iload_n hx hb d_Ranges_reckoned_50 rfl (lv_at hl 1 rfl) ?_
    obtain ⟨v12, h11, hm⟩ := rt_b1s hm
    refine rt_csi (As := [.int a1]) (rest := []) rt_X0o ⟨hx, hb, hml, hown, hts⟩ (k_C_Ranges_least l a1 _ h11) (cw_Ranges_least hts (hts _ (rt_m rt_w590)) ⟨Nat.le_of_ble_eq_true rfl, Nat.le_of_ble_eq_true rfl⟩) hS (fun _ h => h) trivial rfl hl.1 rfl (Nat.le_of_ble_eq_true rfl) d_Ranges_reckoned_51 ⟨Nat.zero_le _, Nat.zero_le _⟩ (fun H locs hk hS => ?_)
    clear hk
    refine lv_iload_n hx hb d_Ranges_reckoned_54 rfl (lv_at hl 2 rfl) ?_
    obtain ⟨v14, h13, hm⟩ := rt_b1s hm
    refine rt_csi (As := [.int a2]) (rest := [.int v12]) rt_X0o ⟨hx, hb, hml, hown, hts⟩ (k_C_Ranges_greatest l a2 _ h13) (cw_Ranges_greatest hts (hts _ (rt_m rt_w596)) ⟨Nat.le_of_ble_eq_true rfl, Nat.le_of_ble_eq_true rfl⟩) hS (fun _ h => h) trivial rfl hl.1 rfl (Nat.le_of_ble_eq_true rfl) d_Ranges_reckoned_55 ⟨Nat.zero_le _, Nat.zero_le _⟩ (fun H locs hk hS => ?_)
    clear hk
    refine lv_icmp_ge (tgt := 65) hx hb d_Ranges_reckoned_58 (by decide) (fun hc => ?_) (fun hc => ?_)
    · have hm := (if_pos hc).symm.trans hm
      refine lv_iconst (v := 0) hx hb d_Ranges_reckoned_65 (by decide) ?_
      exact hB66 ls a1 a2 0 _ _ (lv_sub hl [1, 2] rfl) hm hS
    · have hm := (if_neg hc).symm.trans hm
      refine lv_iconst (v := 1) hx hb d_Ranges_reckoned_61 (by decide) ?_
      refine lv_goto (tgt := 66) hx hb d_Ranges_reckoned_62 (by decide) ?_
      exact hB66 ls a1 a2 1 _ _ (lv_sub hl [1, 2] rfl) hm hS
  have hm := (if_neg c10).symm.trans hm
  by_cases c15 : a0 = 21
  · have hm := (if_pos c15).symm.trans hm
    refine lv_tableIn (off := 85) (tgt := 86) hx hb d_Ranges_reckoned_1 (by rw [c15]; decide) (by rw [c15]; decide) (by rw [c15]; rfl) (by decide) ?_
    refine lv_iload_n hx hb d_Ranges_reckoned_86 rfl (lv_at hl 1 rfl) ?_
    obtain ⟨v17, h16, hm⟩ := rt_b1s hm
    refine rt_csi (As := [.int a1]) (rest := []) rt_X0o ⟨hx, hb, hml, hown, hts⟩ (k_C_Ranges_least l a1 _ h16) (cw_Ranges_least hts (hts _ (rt_m rt_w590)) ⟨Nat.le_of_ble_eq_true rfl, Nat.le_of_ble_eq_true rfl⟩) hS (fun _ h => h) trivial rfl hl.1 rfl (Nat.le_of_ble_eq_true rfl) d_Ranges_reckoned_87 ⟨Nat.zero_le _, Nat.zero_le _⟩ (fun H locs hk hS => ?_)
    clear hk
    refine lv_iload_n hx hb d_Ranges_reckoned_90 rfl (lv_at hl 2 rfl) ?_
    obtain ⟨v19, h18, hm⟩ := rt_b1s hm
    refine rt_csi (As := [.int a2]) (rest := [.int v17]) rt_X0o ⟨hx, hb, hml, hown, hts⟩ (k_C_Ranges_least l a2 _ h18) (cw_Ranges_least hts (hts _ (rt_m rt_w590)) ⟨Nat.le_of_ble_eq_true rfl, Nat.le_of_ble_eq_true rfl⟩) hS (fun _ h => h) trivial rfl hl.1 rfl (Nat.le_of_ble_eq_true rfl) d_Ranges_reckoned_91 ⟨Nat.zero_le _, Nat.zero_le _⟩ (fun H locs hk hS => ?_)
    clear hk
    refine lv_iadd hx hb d_Ranges_reckoned_94 ?_
    refine lv_iload_n hx hb d_Ranges_reckoned_95 rfl (lv_at hl 1 rfl) ?_
    obtain ⟨v21, h20, hm⟩ := rt_b1s hm
    refine rt_csi (As := [.int a1]) (rest := [.int (v17 + v19)]) rt_X0o ⟨hx, hb, hml, hown, hts⟩ (k_C_Ranges_greatest l a1 _ h20) (cw_Ranges_greatest hts (hts _ (rt_m rt_w596)) ⟨Nat.le_of_ble_eq_true rfl, Nat.le_of_ble_eq_true rfl⟩) hS (fun _ h => h) trivial rfl hl.1 rfl (Nat.le_of_ble_eq_true rfl) d_Ranges_reckoned_96 ⟨Nat.zero_le _, Nat.zero_le _⟩ (fun H locs hk hS => ?_)
    clear hk
    refine lv_iload_n hx hb d_Ranges_reckoned_99 rfl (lv_at hl 2 rfl) ?_
    obtain ⟨v23, h22, hm⟩ := rt_b1s hm
    refine rt_csi (As := [.int a2]) (rest := [.int v21, .int (v17 + v19)]) rt_X0o ⟨hx, hb, hml, hown, hts⟩ (k_C_Ranges_greatest l a2 _ h22) (cw_Ranges_greatest hts (hts _ (rt_m rt_w596)) ⟨Nat.le_of_ble_eq_true rfl, Nat.le_of_ble_eq_true rfl⟩) hS (fun _ h => h) trivial rfl hl.1 rfl (Nat.le_of_ble_eq_true rfl) d_Ranges_reckoned_100 ⟨Nat.zero_le _, Nat.zero_le _⟩ (fun H locs hk hS => ?_)
    clear hk
    refine lv_iadd hx hb d_Ranges_reckoned_103 ?_
    obtain ⟨v25, h24, hm⟩ := rt_b1s hm
    refine rt_csi (As := [.int (v17 + v19), .int (v21 + v23)]) (rest := []) rt_X0o ⟨hx, hb, hml, hown, hts⟩ (k_C_Ranges_wrapped l (v17 + v19) (v21 + v23) _ h24) (cw_Ranges_wrapped hts (hts _ (rt_m rt_w670)) ⟨Nat.le_of_ble_eq_true rfl, Nat.le_of_ble_eq_true rfl⟩) hS (fun _ h => h) trivial rfl hl.1 rfl (Nat.le_of_ble_eq_true rfl) d_Ranges_reckoned_104 ⟨Nat.zero_le _, Nat.zero_le _⟩ (fun H locs hk hS => ?_)
    clear hk
    exact W.iret hx hb hr (fun t ht hW => ⟨⟨_, (), rfl, Option.some.inj hm, trivial⟩, hS.F ht⟩) hS.2.2 d_Ranges_reckoned_107
  have hm := (if_neg c15).symm.trans hm
  by_cases c26 : a0 = 22
  · have hm := (if_pos c26).symm.trans hm
    refine lv_tableIn (off := 107) (tgt := 108) hx hb d_Ranges_reckoned_1 (by rw [c26]; decide) (by rw [c26]; decide) (by rw [c26]; rfl) (by decide) ?_
    refine lv_iload_n hx hb d_Ranges_reckoned_108 rfl (lv_at hl 1 rfl) ?_
    obtain ⟨v28, h27, hm⟩ := rt_b1s hm
    refine rt_csi (As := [.int a1]) (rest := []) rt_X0o ⟨hx, hb, hml, hown, hts⟩ (k_C_Ranges_least l a1 _ h27) (cw_Ranges_least hts (hts _ (rt_m rt_w590)) ⟨Nat.le_of_ble_eq_true rfl, Nat.le_of_ble_eq_true rfl⟩) hS (fun _ h => h) trivial rfl hl.1 rfl (Nat.le_of_ble_eq_true rfl) d_Ranges_reckoned_109 ⟨Nat.zero_le _, Nat.zero_le _⟩ (fun H locs hk hS => ?_)
    clear hk
    refine lv_iload_n hx hb d_Ranges_reckoned_112 rfl (lv_at hl 2 rfl) ?_
    obtain ⟨v30, h29, hm⟩ := rt_b1s hm
    refine rt_csi (As := [.int a2]) (rest := [.int v28]) rt_X0o ⟨hx, hb, hml, hown, hts⟩ (k_C_Ranges_greatest l a2 _ h29) (cw_Ranges_greatest hts (hts _ (rt_m rt_w596)) ⟨Nat.le_of_ble_eq_true rfl, Nat.le_of_ble_eq_true rfl⟩) hS (fun _ h => h) trivial rfl hl.1 rfl (Nat.le_of_ble_eq_true rfl) d_Ranges_reckoned_113 ⟨Nat.zero_le _, Nat.zero_le _⟩ (fun H locs hk hS => ?_)
    clear hk
    refine lv_isub hx hb d_Ranges_reckoned_116 ?_
    refine lv_iload_n hx hb d_Ranges_reckoned_117 rfl (lv_at hl 1 rfl) ?_
    obtain ⟨v32, h31, hm⟩ := rt_b1s hm
    refine rt_csi (As := [.int a1]) (rest := [.int (v28 - v30)]) rt_X0o ⟨hx, hb, hml, hown, hts⟩ (k_C_Ranges_greatest l a1 _ h31) (cw_Ranges_greatest hts (hts _ (rt_m rt_w596)) ⟨Nat.le_of_ble_eq_true rfl, Nat.le_of_ble_eq_true rfl⟩) hS (fun _ h => h) trivial rfl hl.1 rfl (Nat.le_of_ble_eq_true rfl) d_Ranges_reckoned_118 ⟨Nat.zero_le _, Nat.zero_le _⟩ (fun H locs hk hS => ?_)
    clear hk
    refine lv_iload_n hx hb d_Ranges_reckoned_121 rfl (lv_at hl 2 rfl) ?_
    obtain ⟨v34, h33, hm⟩ := rt_b1s hm
    refine rt_csi (As := [.int a2]) (rest := [.int v32, .int (v28 - v30)]) rt_X0o ⟨hx, hb, hml, hown, hts⟩ (k_C_Ranges_least l a2 _ h33) (cw_Ranges_least hts (hts _ (rt_m rt_w590)) ⟨Nat.le_of_ble_eq_true rfl, Nat.le_of_ble_eq_true rfl⟩) hS (fun _ h => h) trivial rfl hl.1 rfl (Nat.le_of_ble_eq_true rfl) d_Ranges_reckoned_122 ⟨Nat.zero_le _, Nat.zero_le _⟩ (fun H locs hk hS => ?_)
    clear hk
    refine lv_isub hx hb d_Ranges_reckoned_125 ?_
    obtain ⟨v36, h35, hm⟩ := rt_b1s hm
    refine rt_csi (As := [.int (v28 - v30), .int (v32 - v34)]) (rest := []) rt_X0o ⟨hx, hb, hml, hown, hts⟩ (k_C_Ranges_wrapped l (v28 - v30) (v32 - v34) _ h35) (cw_Ranges_wrapped hts (hts _ (rt_m rt_w670)) ⟨Nat.le_of_ble_eq_true rfl, Nat.le_of_ble_eq_true rfl⟩) hS (fun _ h => h) trivial rfl hl.1 rfl (Nat.le_of_ble_eq_true rfl) d_Ranges_reckoned_126 ⟨Nat.zero_le _, Nat.zero_le _⟩ (fun H locs hk hS => ?_)
    clear hk
    exact W.iret hx hb hr (fun t ht hW => ⟨⟨_, (), rfl, Option.some.inj hm, trivial⟩, hS.F ht⟩) hS.2.2 d_Ranges_reckoned_129
  have hm := (if_neg c26).symm.trans hm
  by_cases c37 : a0 = 23
  · have hm := (if_pos c37).symm.trans hm
    refine lv_tableIn (off := 129) (tgt := 130) hx hb d_Ranges_reckoned_1 (by rw [c37]; decide) (by rw [c37]; decide) (by rw [c37]; rfl) (by decide) ?_
    refine lv_iload_n hx hb d_Ranges_reckoned_130 rfl (lv_at hl 1 rfl) ?_
    refine lv_iload_n hx hb d_Ranges_reckoned_131 rfl (lv_at hl 2 rfl) ?_
    obtain ⟨v39, h38, hm⟩ := rt_b1s hm
    refine rt_csi (As := [.int a1, .int a2]) (rest := []) rt_X0o ⟨hx, hb, hml, hown, hts⟩ (k_C_Ranges_times l a1 a2 _ h38) (cw_Ranges_times hts (hts _ (rt_m rt_w679)) ⟨Nat.le_of_ble_eq_true rfl, Nat.le_of_ble_eq_true rfl⟩) hS (fun _ h => h) trivial rfl hl.1 rfl (Nat.le_of_ble_eq_true rfl) d_Ranges_reckoned_132 ⟨Nat.zero_le _, Nat.zero_le _⟩ (fun H locs hk hS => ?_)
    clear hk
    exact W.iret hx hb hr (fun t ht hW => ⟨⟨_, (), rfl, Option.some.inj hm, trivial⟩, hS.F ht⟩) hS.2.2 d_Ranges_reckoned_135
  have hm := (if_neg c37).symm.trans hm
  by_cases c40 : a0 = 24
  · have hm := (if_pos c40).symm.trans hm
    refine lv_tableIn (off := 135) (tgt := 136) hx hb d_Ranges_reckoned_1 (by rw [c40]; decide) (by rw [c40]; decide) (by rw [c40]; rfl) (by decide) ?_
    refine lv_iload_n hx hb d_Ranges_reckoned_136 rfl (lv_at hl 1 rfl) ?_
    refine lv_iload_n hx hb d_Ranges_reckoned_137 rfl (lv_at hl 2 rfl) ?_
    obtain ⟨v42, h41, hm⟩ := rt_b1s hm
    refine rt_csi (As := [.int a1, .int a2]) (rest := []) rt_X0o ⟨hx, hb, hml, hown, hts⟩ (k_C_Ranges_over l a1 a2 _ h41) (cw_Ranges_over hts (hts _ (rt_m rt_w686)) ⟨Nat.le_of_ble_eq_true rfl, Nat.le_of_ble_eq_true rfl⟩) hS (fun _ h => h) trivial rfl hl.1 rfl (Nat.le_of_ble_eq_true rfl) d_Ranges_reckoned_138 ⟨Nat.zero_le _, Nat.zero_le _⟩ (fun H locs hk hS => ?_)
    clear hk
    exact W.iret hx hb hr (fun t ht hW => ⟨⟨_, (), rfl, Option.some.inj hm, trivial⟩, hS.F ht⟩) hS.2.2 d_Ranges_reckoned_141
  have hm := (if_neg c40).symm.trans hm
  by_cases c43 : a0 = 25
  · have hm := (if_pos c43).symm.trans hm
    refine lv_tableIn (off := 141) (tgt := 142) hx hb d_Ranges_reckoned_1 (by rw [c43]; decide) (by rw [c43]; decide) (by rw [c43]; rfl) (by decide) ?_
    refine lv_iload_n hx hb d_Ranges_reckoned_142 rfl (lv_at hl 1 rfl) ?_
    refine lv_iload_n hx hb d_Ranges_reckoned_143 rfl (lv_at hl 2 rfl) ?_
    obtain ⟨v45, h44, hm⟩ := rt_b1s hm
    refine rt_csi (As := [.int a1, .int a2]) (rest := []) rt_X0o ⟨hx, hb, hml, hown, hts⟩ (k_C_Ranges_rest l a1 a2 _ h44) (cw_Ranges_rest hts (hts _ (rt_m rt_w689)) ⟨Nat.le_of_ble_eq_true rfl, Nat.le_of_ble_eq_true rfl⟩) hS (fun _ h => h) trivial rfl hl.1 rfl (Nat.le_of_ble_eq_true rfl) d_Ranges_reckoned_144 ⟨Nat.zero_le _, Nat.zero_le _⟩ (fun H locs hk hS => ?_)
    clear hk
    exact W.iret hx hb hr (fun t ht hW => ⟨⟨_, (), rfl, Option.some.inj hm, trivial⟩, hS.F ht⟩) hS.2.2 d_Ranges_reckoned_147
  have hm := (if_neg c43).symm.trans hm
  refine lv_tableOut (tgt := 148) hx hb d_Ranges_reckoned_1 (by have := lv_neT (a := 19) c7 rfl; have := lv_neT (a := 20) c10 rfl; have := lv_neT (a := 21) c15 rfl; have := lv_neT (a := 22) c26 rfl; have := lv_neT (a := 23) c37 rfl; have := lv_neT (a := 24) c40 rfl; have := lv_neT (a := 25) c43 rfl; omega) (by decide) ?_
  refine lv_iload_n hx hb d_Ranges_reckoned_148 rfl (lv_at hl 1 rfl) ?_
  refine lv_iload_n hx hb d_Ranges_reckoned_149 rfl (lv_at hl 2 rfl) ?_
  obtain ⟨v47, h46, hm⟩ := rt_b1s hm
  refine rt_csi (As := [.int a1, .int a2]) (rest := []) rt_X0o ⟨hx, hb, hml, hown, hts⟩ (k_C_Ranges_leastBoth l a1 a2 _ h46) (cw_Ranges_leastBoth hts (hts _ (rt_m rt_w692)) ⟨Nat.le_of_ble_eq_true rfl, Nat.le_of_ble_eq_true rfl⟩) hS (fun _ h => h) trivial rfl hl.1 rfl (Nat.le_of_ble_eq_true rfl) d_Ranges_reckoned_150 ⟨Nat.zero_le _, Nat.zero_le _⟩ (fun H locs hk hS => ?_)
  clear hk
  refine lv_iload_n hx hb d_Ranges_reckoned_153 rfl (lv_at hl 1 rfl) ?_
  refine lv_iload_n hx hb d_Ranges_reckoned_154 rfl (lv_at hl 2 rfl) ?_
  obtain ⟨v49, h48, hm⟩ := rt_b1s hm
  refine rt_csi (As := [.int a1, .int a2]) (rest := [.int v47]) rt_X0o ⟨hx, hb, hml, hown, hts⟩ (k_C_Ranges_greatestBoth l a1 a2 _ h48) (cw_Ranges_greatestBoth hts (hts _ (rt_m rt_w695)) ⟨Nat.le_of_ble_eq_true rfl, Nat.le_of_ble_eq_true rfl⟩) hS (fun _ h => h) trivial rfl hl.1 rfl (Nat.le_of_ble_eq_true rfl) d_Ranges_reckoned_155 ⟨Nat.zero_le _, Nat.zero_le _⟩ (fun H locs hk hS => ?_)
  clear hk
  obtain ⟨v51, h50, hm⟩ := rt_b1s hm
  refine rt_csi (As := [.int v47, .int v49]) (rest := []) rt_X0o ⟨hx, hb, hml, hown, hts⟩ (k_C_Ranges_of l v47 v49 _ h50) (cw_Ranges_of hts (hts _ (rt_m rt_w659)) ⟨Nat.le_of_ble_eq_true rfl, Nat.le_of_ble_eq_true rfl⟩) hS (fun _ h => h) trivial rfl hl.1 rfl (Nat.le_of_ble_eq_true rfl) d_Ranges_reckoned_158 ⟨Nat.zero_le _, Nat.zero_le _⟩ (fun H locs hk hS => ?_)
  clear hk
  exact W.iret hx hb hr (fun t ht hW => ⟨⟨_, (), rfl, Option.some.inj hm, trivial⟩, hS.F ht⟩) hS.2.2 d_Ranges_reckoned_161
set_option maxHeartbeats 4000000 in
set_option maxRecDepth 100000 in
theorem k_C_Ranges_taintOf (l : Launch) (a0 : Int32) (r' : Int32) (hm : M_C_Ranges_taintOf a0 = some r') : rt_MS l y_Ranges_taintOf b_Ranges_taintOf 1 (some .int) ({ frames := 0, cells := 0, slots := 0, locals := 0 } : Room) rt_X0 [.int a0] r' := by
  intro sz
  refine Met.ofW (cc := b_Ranges_taintOf) (maxL := 1) (ret := (some .int)) (by decide) rfl ?_
  intro p e s m args below meth c s₁ B hml hv
  obtain ⟨rfl, rfl, hX⟩ := hv
  have hx := B.exec
  have hb := B.bytes
  have hr := B.returns
  have hts := atoms_spec (ws := (rt_ws y_Ranges_taintOf b_Ranges_taintOf 1 (some .int))) B.pre
  have hown : s.vm.findClass "RangeTeller$Ranges" = some m.cls := findClass_of_methodNamed B.named
  have hlocks := B.notSynchronized
  have hS : va_S (fun q => s.heap.size ≤ q) s.heap s.heap [] := va_S.rf
  have hl := lv_entry ([.int a0]) (n := 1) (Nat.le_of_ble_eq_true rfl)
  rw [lg_entry_eq]
  generalize (lg_sl ([.int a0]) ++ List.replicate (1 - (lg_sl ([.int a0])).length) Slot.unset).toArray = ls at hl ⊢
  have hl : lv_has ls 1 [(0, .int a0)] := hl
  show W p l e ({ frames := 0, cells := 0, slots := 0, locals := 0 } : Room) s m ([.int a0] : List Value).toArray below meth c s.heap [] 0 0 (rt_Qs below ([.int a0] : List Value).toArray s r') (F0 m 0 ls [])
  unfold M_C_Ranges_taintOf at hm
  refine lv_iload_n hx hb d_Ranges_taintOf_0 rfl (lv_at hl 0 rfl) ?_
  refine lv_sipush (v := 4096) hx hb d_Ranges_taintOf_1 (by decide) ?_
  refine lv_iand hx hb d_Ranges_taintOf_4 ?_
  exact W.iret hx hb hr (fun t ht hW => ⟨⟨_, (), rfl, Option.some.inj hm, trivial⟩, hS.F ht⟩) hS.2.2 d_Ranges_taintOf_5
set_option maxHeartbeats 4000000 in
set_option maxRecDepth 100000 in
theorem k_C_Foreteller_push (l : Launch) (D : va_G) (cI cZ : ClassId) (A : Nat → Nat) (hO : rt_Ok (rtC_W cI cZ A)) (σ : rt_St) (a1 : Int32) (σ' : rt_St) (hm : M_C_Foreteller_push σ a1 = some σ') (sz : Nat) : Met l y_Foreteller_push (rt_ws y_Foreteller_push b_Foreteller_push 2 none) ({ frames := 0, cells := 0, slots := 0, locals := 0 } : Room) (va_Pc [.ref (A 29), .int a1] (rt_P D rt_cl (rt_t cI cZ) rtC_X (rtC_W cI cZ A) sz σ)) (va_Qv (fun u1 => u1 = σ') (rt_B D rt_cl (rt_t cI cZ) rtC_X (rtC_W cI cZ A)) (rt_A (rtC_W cI cZ A) sz)) 0 0 (rt_A (rtC_W cI cZ A) sz) := by
  refine Met.ofW (cc := b_Foreteller_push) (maxL := 2) (ret := none) (by decide) rfl ?_
  intro p e s m args below meth c s₁ B hml hv
  obtain ⟨rfl, rfl, hP, hK, hX⟩ := hv
  have hx := B.exec
  have hb := B.bytes
  have hr := B.returns
  have hts := atoms_spec (ws := (rt_ws y_Foreteller_push b_Foreteller_push 2 none)) B.pre
  have hown : s.vm.findClass "RangeTeller$Foreteller" = some m.cls := findClass_of_methodNamed B.named
  have hlocks := B.notSynchronized
  have hD := rt_hD hO s.heap.size
  have hS : va_S (rt_A (rtC_W cI cZ A) s.heap.size) s.heap s.heap [] := va_S.rf
  have hl := lv_entry ([.ref (A 29), .int a1]) (n := 2) (Nat.le_of_ble_eq_true rfl)
  rw [lg_entry_eq]
  generalize (lg_sl ([.ref (A 29), .int a1]) ++ List.replicate (2 - (lg_sl ([.ref (A 29), .int a1])).length) Slot.unset).toArray = ls at hl ⊢
  have hl : lv_has ls 2 [(0, .ref (A 29)), (1, .int a1)] := hl
  show W p l e ({ frames := 0, cells := 0, slots := 0, locals := 0 } : Room) s m ([.ref (A 29), .int a1] : List Value).toArray below meth c s.heap [] 0 0 (rt_Qv D rt_cl (rt_t cI cZ) rtC_X (rtC_W cI cZ A) below ([.ref (A 29), .int a1] : List Value).toArray s σ') (F0 m 0 ls [])
  unfold M_C_Foreteller_push at hm
  refine lv_aload_n hx hb d_Foreteller_push_0 rfl (lv_at hl 0 rfl) ?_
  refine va_get (D := D) (v := .ref (A 39)) (C := "RangeTeller$Foreteller") (T := rt_T5) (N := 13) hx hb hts rt_i5 hown hK hP 29 rfl rfl 10 (by decide) (hts _ (rt_m rt_w348)) (fun _ h9 => h9) rfl d_Foreteller_push_1 ?_
  refine lv_aload_n hx hb d_Foreteller_push_4 rfl (lv_at hl 0 rfl) ?_
  refine va_get (D := D) (v := .int (σ 29 12)) (C := "RangeTeller$Foreteller") (T := rt_T5) (N := 13) hx hb hts rt_i5 hown hK hP 29 rfl rfl 12 (by decide) (hts _ (rt_m rt_w350)) (fun _ h9 => h9) rfl d_Foreteller_push_5 ?_
  refine lv_iload_n hx hb d_Foreteller_push_8 rfl (lv_at hl 1 rfl) ?_
  obtain ⟨σ1, h2, hm⟩ := rt_b1s hm
  refine rt_ast hx hb hK hP hD hS 39 0 rfl (rtC_a39 cI cZ A _) rfl h2 d_Foreteller_push_9 (fun H locs hP hS => ?_)
  refine lv_aload_n hx hb d_Foreteller_push_10 rfl (lv_at hl 0 rfl) ?_
  refine lv_dup hx hb d_Foreteller_push_11 rfl ?_
  refine va_get (D := D) (v := .int (σ1 29 12)) (C := "RangeTeller$Foreteller") (T := rt_T5) (N := 13) hx hb hts rt_i5 hown hK hP 29 rfl rfl 12 (by decide) (hts _ (rt_m rt_w350)) (fun _ h9 => h9) rfl d_Foreteller_push_12 ?_
  refine lv_iconst (v := 1) hx hb d_Foreteller_push_15 (by decide) ?_
  refine lv_iadd hx hb d_Foreteller_push_16 ?_
  obtain ⟨σ3, h4, hm⟩ := rt_b1s hm
  refine rt_pf (D := D) (C := "RangeTeller$Foreteller") (T := rt_T5) (N := 13) (ty := .int) hx hb hts rt_i5 rt_y5 rt_o5 rt_n5 hown hK hP hD hS 29 rfl rfl 12 (by decide) (hts _ (rt_m rt_w350)) (fun _ h9 => h9) rfl (by decide +kernel) rfl rfl (Nat.le_of_ble_eq_true rfl) (rtC_s29_12 cI cZ A _ _) h4 d_Foreteller_push_17 (fun H locs hP hS => ?_)
  exact W.vret hx hb hr (fun t ht hW => ⟨⟨_, rfl, Option.some.inj hm, rt_end rtC_Xo hK hP hS hX ht hW⟩, hS.F ht⟩) hS.2.2 d_Foreteller_push_20
set_option maxHeartbeats 4000000 in
set_option maxRecDepth 100000 in
theorem k_C_Foreteller_reckon (l : Launch) (D : va_G) (cI cZ : ClassId) (A : Nat → Nat) (hO : rt_Ok (rtC_W cI cZ A)) (σ : rt_St) (a1 : Int32) (r' : Int32) (σ' : rt_St) (hm : M_C_Foreteller_reckon σ a1 = some (r', σ')) (sz : Nat) : Met l y_Foreteller_reckon (rt_ws y_Foreteller_reckon b_Foreteller_reckon 5 (some .boolean)) ({ frames := 3, cells := 0, slots := 0, locals := 70 } : Room) (va_Pc [.ref (A 29), .int a1] (rt_P D rt_cl (rt_t cI cZ) rtC_X (rtC_W cI cZ A) sz σ)) (va_Qi (fun r1 u1 => r1 = r' ∧ u1 = σ') (rt_B D rt_cl (rt_t cI cZ) rtC_X (rtC_W cI cZ A)) (rt_A (rtC_W cI cZ A) sz)) 0 0 (rt_A (rtC_W cI cZ A) sz) := by
  refine Met.ofW (cc := b_Foreteller_reckon) (maxL := 5) (ret := (some .boolean)) (by decide) rfl ?_
  intro p e s m args below meth c s₁ B hml hv
  obtain ⟨rfl, rfl, hP, hK, hX⟩ := hv
  have hx := B.exec
  have hb := B.bytes
  have hr := B.returns
  have hts := atoms_spec (ws := (rt_ws y_Foreteller_reckon b_Foreteller_reckon 5 (some .boolean))) B.pre
  have hown : s.vm.findClass "RangeTeller$Foreteller" = some m.cls := findClass_of_methodNamed B.named
  have hlocks := B.notSynchronized
  have hD := rt_hD hO s.heap.size
  have hS : va_S (rt_A (rtC_W cI cZ A) s.heap.size) s.heap s.heap [] := va_S.rf
  have hl := lv_entry ([.ref (A 29), .int a1]) (n := 5) (Nat.le_of_ble_eq_true rfl)
  rw [lg_entry_eq]
  generalize (lg_sl ([.ref (A 29), .int a1]) ++ List.replicate (5 - (lg_sl ([.ref (A 29), .int a1])).length) Slot.unset).toArray = ls at hl ⊢
  have hl : lv_has ls 5 [(0, .ref (A 29)), (1, .int a1)] := hl
  show W p l e ({ frames := 3, cells := 0, slots := 0, locals := 70 } : Room) s m ([.ref (A 29), .int a1] : List Value).toArray below meth c s.heap [] 0 0 (rt_Qi D rt_cl (rt_t cI cZ) rtC_X (rtC_W cI cZ A) below ([.ref (A 29), .int a1] : List Value).toArray s r' σ') (F0 m 0 ls [])
  unfold M_C_Foreteller_reckon at hm
  refine lv_aload_n hx hb d_Foreteller_reckon_0 rfl (lv_at hl 0 rfl) ?_
  obtain ⟨v3, σ2, h1, hm⟩ := rt_b2s hm
  refine rt_cvi (As := []) (rest := []) (k := 29) rtC_Xo ⟨hx, hb, hml, hown, hts⟩ (k_C_Foreteller_pop l D cI cZ A hO σ _ _ h1) (cw_Foreteller_pop hts (hts _ (rt_m rt_w583)) ⟨Nat.le_of_ble_eq_true rfl, Nat.le_of_ble_eq_true rfl⟩) hK hP hS hX rfl rfl rfl hl.1 rfl (Nat.le_of_ble_eq_true rfl) d_Foreteller_reckon_1 ⟨Nat.zero_le _, Nat.zero_le _⟩ (fun H locs hP hS => ?_)
  refine lv_istore_n hx hb d_Foreteller_reckon_4 rfl hl (by decide) rfl (fun ls hl => ?_)
  have hl : lv_has ls 5 [(2, .int v3), (0, .ref (A 29)), (1, .int a1)] := hl
  refine lv_aload_n hx hb d_Foreteller_reckon_5 rfl (lv_at hl 1 rfl) ?_
  obtain ⟨v6, σ5, h4, hm⟩ := rt_b2s hm
  refine rt_cvi (As := []) (rest := []) (k := 29) rtC_Xo ⟨hx, hb, hml, hown, hts⟩ (k_C_Foreteller_pop l D cI cZ A hO σ2 _ _ h4) (cw_Foreteller_pop hts (hts _ (rt_m rt_w583)) ⟨Nat.le_of_ble_eq_true rfl, Nat.le_of_ble_eq_true rfl⟩) hK hP hS hX rfl rfl rfl hl.1 rfl (Nat.le_of_ble_eq_true rfl) d_Foreteller_reckon_6 ⟨Nat.zero_le _, Nat.zero_le _⟩ (fun H locs hP hS => ?_)
  refine lv_istore_n hx hb d_Foreteller_reckon_9 rfl hl (by decide) rfl (fun ls hl => ?_)
  have hl : lv_has ls 5 [(3, .int v6), (2, .int v3), (0, .ref (A 29)), (1, .int a1)] := hl
  refine lv_iload_n hx hb d_Foreteller_reckon_10 rfl (lv_at hl 3 rfl) ?_
  refine lv_iload_n hx hb d_Foreteller_reckon_11 rfl (lv_at hl 0 rfl) ?_
  refine lv_iload_n hx hb d_Foreteller_reckon_12 rfl (lv_at hl 1 rfl) ?_
  obtain ⟨v8, h7, hm⟩ := rt_b1s hm
  refine rt_csi (As := [.int a1, .int v6, .int v3]) (rest := []) rt_X0o ⟨hx, hb, hml, hown, hts⟩ (k_C_Ranges_reckoned l a1 v6 v3 _ h7) (cw_Ranges_reckoned hts (hts _ (rt_m rt_w664)) ⟨Nat.le_of_ble_eq_true rfl, Nat.le_of_ble_eq_true rfl⟩) hS (fun _ h => Or.inr h) trivial rfl hl.1 rfl (Nat.le_of_ble_eq_true rfl) d_Foreteller_reckon_13 ⟨Nat.zero_le _, Nat.zero_le _⟩ (fun H locs hk hS => ?_)
  have hP := rt_keep hP hk
  clear hk
  refine lv_istore hx hb d_Foreteller_reckon_16 hl (by decide) rfl (fun ls hl => ?_)
  have hl : lv_has ls 5 [(4, .int v8), (3, .int v6), (2, .int v3), (0, .ref (A 29)), (1, .int a1)] := hl
  refine lv_iload hx hb d_Foreteller_reckon_18 (lv_at hl 0 rfl) ?_
  refine lv_bipush (v := (-3)) hx hb d_Foreteller_reckon_20 (by decide) ?_
  refine lv_icmp_ne (tgt := 27) hx hb d_Foreteller_reckon_22 (by decide) (fun hc => ?_) (fun hc => ?_)
  · have hm := (if_neg hc).symm.trans hm
    refine lv_aload_n hx hb d_Foreteller_reckon_27 rfl (lv_at hl 3 rfl) ?_
    refine lv_iload hx hb d_Foreteller_reckon_28 (lv_at hl 0 rfl) ?_
    refine lv_iload_n hx hb d_Foreteller_reckon_30 rfl (lv_at hl 1 rfl) ?_
    refine lv_iload_n hx hb d_Foreteller_reckon_31 rfl (lv_at hl 2 rfl) ?_
    refine lv_ior hx hb d_Foreteller_reckon_32 ?_
    obtain ⟨v10, h9, hm⟩ := rt_b1s hm
    refine rt_csi (As := [.int (v6 ||| v3)]) (rest := [.int v8, .ref (A 29)]) rt_X0o ⟨hx, hb, hml, hown, hts⟩ (k_C_Ranges_taintOf l (v6 ||| v3) _ h9) (cw_Ranges_taintOf hts (hts _ (rt_m rt_w645)) ⟨Nat.le_of_ble_eq_true rfl, Nat.le_of_ble_eq_true rfl⟩) hS (fun _ h => Or.inr h) trivial rfl hl.1 rfl (Nat.le_of_ble_eq_true rfl) d_Foreteller_reckon_33 ⟨Nat.zero_le _, Nat.zero_le _⟩ (fun H locs hk hS => ?_)
    have hP := rt_keep hP hk
    clear hk
    refine lv_ior hx hb d_Foreteller_reckon_36 ?_
    obtain ⟨σ12, h11, hm⟩ := rt_b1s hm
    refine rt_cvv (As := [.int (v8 ||| v10)]) (rest := []) (k := 29) rtC_Xo ⟨hx, hb, hml, hown, hts⟩ (k_C_Foreteller_push l D cI cZ A hO σ5 (v8 ||| v10) _ h11) (cw_Foreteller_push hts (hts _ (rt_m rt_w615)) ⟨Nat.le_of_ble_eq_true rfl, Nat.le_of_ble_eq_true rfl⟩) hK hP hS hX rfl rfl rfl hl.1 rfl (Nat.le_of_ble_eq_true rfl) d_Foreteller_reckon_37 ⟨Nat.zero_le _, Nat.zero_le _⟩ (fun H locs hP hS => ?_)
    refine lv_iconst (v := 1) hx hb d_Foreteller_reckon_40 (by decide) ?_
    exact W.zret hx hb hr rfl (fun t ht hW => ⟨⟨_, _, rfl, rt_pr hm, rt_end rtC_Xo hK hP hS hX ht hW⟩, hS.F ht⟩) hS.2.2 d_Foreteller_reckon_41
  · have hm := (if_pos hc).symm.trans hm
    refine lv_iconst (v := 0) hx hb d_Foreteller_reckon_25 (by decide) ?_
    exact W.zret hx hb hr rfl (fun t ht hW => ⟨⟨_, _, rfl, rt_pr hm, rt_end rtC_Xo hK hP hS hX ht hW⟩, hS.F ht⟩) hS.2.2 d_Foreteller_reckon_26
set_option maxHeartbeats 4000000 in
set_option maxRecDepth 100000 in
theorem k_C_Ranges_canBeZero (l : Launch) (a0 : Int32) (r' : Int32) (hm : M_C_Ranges_canBeZero a0 = some r') : rt_MS l y_Ranges_canBeZero b_Ranges_canBeZero 1 (some .boolean) ({ frames := 1, cells := 0, slots := 0, locals := 20 } : Room) rt_X0 [.int a0] r' := by
  intro sz
  refine Met.ofW (cc := b_Ranges_canBeZero) (maxL := 1) (ret := (some .boolean)) (by decide) rfl ?_
  intro p e s m args below meth c s₁ B hml hv
  obtain ⟨rfl, rfl, hX⟩ := hv
  have hx := B.exec
  have hb := B.bytes
  have hr := B.returns
  have hts := atoms_spec (ws := (rt_ws y_Ranges_canBeZero b_Ranges_canBeZero 1 (some .boolean))) B.pre
  have hown : s.vm.findClass "RangeTeller$Ranges" = some m.cls := findClass_of_methodNamed B.named
  have hlocks := B.notSynchronized
  have hS : va_S (fun q => s.heap.size ≤ q) s.heap s.heap [] := va_S.rf
  have hl := lv_entry ([.int a0]) (n := 1) (Nat.le_of_ble_eq_true rfl)
  rw [lg_entry_eq]
  generalize (lg_sl ([.int a0]) ++ List.replicate (1 - (lg_sl ([.int a0])).length) Slot.unset).toArray = ls at hl ⊢
  have hl : lv_has ls 1 [(0, .int a0)] := hl
  show W p l e ({ frames := 1, cells := 0, slots := 0, locals := 20 } : Room) s m ([.int a0] : List Value).toArray below meth c s.heap [] 0 0 (rt_Qs below ([.int a0] : List Value).toArray s r') (F0 m 0 ls [])
  unfold M_C_Ranges_canBeZero at hm
  refine lv_iload_n hx hb d_Ranges_canBeZero_0 rfl (lv_at hl 0 rfl) ?_
  obtain ⟨v2, h1, hm⟩ := rt_b1s hm
  refine rt_csi (As := [.int a0]) (rest := []) rt_X0o ⟨hx, hb, hml, hown, hts⟩ (k_C_Ranges_least l a0 _ h1) (cw_Ranges_least hts (hts _ (rt_m rt_w590)) ⟨Nat.le_of_ble_eq_true rfl, Nat.le_of_ble_eq_true rfl⟩) hS (fun _ h => h) trivial rfl hl.1 rfl (Nat.le_of_ble_eq_true rfl) d_Ranges_canBeZero_1 ⟨Nat.zero_le _, Nat.zero_le _⟩ (fun H locs hk hS => ?_)
  clear hk
  refine lv_if_ne (tgt := 11) hx hb d_Ranges_canBeZero_4 (by decide) (fun hc => ?_) (fun hc => ?_)
  · have hm := (if_neg hc).symm.trans hm
    refine lv_iconst (v := 0) hx hb d_Ranges_canBeZero_11 (by decide) ?_
    exact W.zret hx hb hr rfl (fun t ht hW => ⟨⟨_, (), rfl, Option.some.inj hm, trivial⟩, hS.F ht⟩) hS.2.2 d_Ranges_canBeZero_12
  · have hm := (if_pos hc).symm.trans hm
    refine lv_iconst (v := 1) hx hb d_Ranges_canBeZero_7 (by decide) ?_
    refine lv_goto (tgt := 12) hx hb d_Ranges_canBeZero_8 (by decide) ?_
    exact W.zret hx hb hr rfl (fun t ht hW => ⟨⟨_, (), rfl, Option.some.inj hm, trivial⟩, hS.F ht⟩) hS.2.2 d_Ranges_canBeZero_12
set_option maxHeartbeats 4000000 in
set_option maxRecDepth 100000 in
theorem k_C_Ranges_canBeOther (l : Launch) (a0 : Int32) (r' : Int32) (hm : M_C_Ranges_canBeOther a0 = some r') : rt_MS l y_Ranges_canBeOther b_Ranges_canBeOther 1 (some .boolean) ({ frames := 1, cells := 0, slots := 0, locals := 20 } : Room) rt_X0 [.int a0] r' := by
  intro sz
  refine Met.ofW (cc := b_Ranges_canBeOther) (maxL := 1) (ret := (some .boolean)) (by decide) rfl ?_
  intro p e s m args below meth c s₁ B hml hv
  obtain ⟨rfl, rfl, hX⟩ := hv
  have hx := B.exec
  have hb := B.bytes
  have hr := B.returns
  have hts := atoms_spec (ws := (rt_ws y_Ranges_canBeOther b_Ranges_canBeOther 1 (some .boolean))) B.pre
  have hown : s.vm.findClass "RangeTeller$Ranges" = some m.cls := findClass_of_methodNamed B.named
  have hlocks := B.notSynchronized
  have hS : va_S (fun q => s.heap.size ≤ q) s.heap s.heap [] := va_S.rf
  have hl := lv_entry ([.int a0]) (n := 1) (Nat.le_of_ble_eq_true rfl)
  rw [lg_entry_eq]
  generalize (lg_sl ([.int a0]) ++ List.replicate (1 - (lg_sl ([.int a0])).length) Slot.unset).toArray = ls at hl ⊢
  have hl : lv_has ls 1 [(0, .int a0)] := hl
  show W p l e ({ frames := 1, cells := 0, slots := 0, locals := 20 } : Room) s m ([.int a0] : List Value).toArray below meth c s.heap [] 0 0 (rt_Qs below ([.int a0] : List Value).toArray s r') (F0 m 0 ls [])
  unfold M_C_Ranges_canBeOther at hm
  refine lv_iload_n hx hb d_Ranges_canBeOther_0 rfl (lv_at hl 0 rfl) ?_
  obtain ⟨v2, h1, hm⟩ := rt_b1s hm
  refine rt_csi (As := [.int a0]) (rest := []) rt_X0o ⟨hx, hb, hml, hown, hts⟩ (k_C_Ranges_greatest l a0 _ h1) (cw_Ranges_greatest hts (hts _ (rt_m rt_w596)) ⟨Nat.le_of_ble_eq_true rfl, Nat.le_of_ble_eq_true rfl⟩) hS (fun _ h => h) trivial rfl hl.1 rfl (Nat.le_of_ble_eq_true rfl) d_Ranges_canBeOther_1 ⟨Nat.zero_le _, Nat.zero_le _⟩ (fun H locs hk hS => ?_)
  clear hk
  refine lv_if_eq (tgt := 11) hx hb d_Ranges_canBeOther_4 (by decide) (fun hc => ?_) (fun hc => ?_)
  · have hm := (if_pos hc).symm.trans hm
    refine lv_iconst (v := 0) hx hb d_Ranges_canBeOther_11 (by decide) ?_
    exact W.zret hx hb hr rfl (fun t ht hW => ⟨⟨_, (), rfl, Option.some.inj hm, trivial⟩, hS.F ht⟩) hS.2.2 d_Ranges_canBeOther_12
  · have hm := (if_neg hc).symm.trans hm
    refine lv_iconst (v := 1) hx hb d_Ranges_canBeOther_7 (by decide) ?_
    refine lv_goto (tgt := 12) hx hb d_Ranges_canBeOther_8 (by decide) ?_
    exact W.zret hx hb hr rfl (fun t ht hW => ⟨⟨_, (), rfl, Option.some.inj hm, trivial⟩, hS.F ht⟩) hS.2.2 d_Ranges_canBeOther_12
set_option maxHeartbeats 4000000 in
set_option maxRecDepth 100000 in
theorem k_C_Ranges_not (l : Launch) (a0 : Int32) (r' : Int32) (hm : M_C_Ranges_not a0 = some r') : rt_MS l y_Ranges_not b_Ranges_not 1 (some .int) ({ frames := 2, cells := 0, slots := 0, locals := 42 } : Room) rt_X0 [.int a0] r' := by
  intro sz
  refine Met.ofW (cc := b_Ranges_not) (maxL := 1) (ret := (some .int)) (by decide) rfl ?_
  intro p e s m args below meth c s₁ B hml hv
  obtain ⟨rfl, rfl, hX⟩ := hv
  have hx := B.exec
  have hb := B.bytes
  have hr := B.returns
  have hts := atoms_spec (ws := (rt_ws y_Ranges_not b_Ranges_not 1 (some .int))) B.pre
  have hown : s.vm.findClass "RangeTeller$Ranges" = some m.cls := findClass_of_methodNamed B.named
  have hlocks := B.notSynchronized
  have hS : va_S (fun q => s.heap.size ≤ q) s.heap s.heap [] := va_S.rf
  have hl := lv_entry ([.int a0]) (n := 1) (Nat.le_of_ble_eq_true rfl)
  rw [lg_entry_eq]
  generalize (lg_sl ([.int a0]) ++ List.replicate (1 - (lg_sl ([.int a0])).length) Slot.unset).toArray = ls at hl ⊢
  have hl : lv_has ls 1 [(0, .int a0)] := hl
  show W p l e ({ frames := 2, cells := 0, slots := 0, locals := 42 } : Room) s m ([.int a0] : List Value).toArray below meth c s.heap [] 0 0 (rt_Qs below ([.int a0] : List Value).toArray s r') (F0 m 0 ls [])
  unfold M_C_Ranges_not at hm
  refine lv_iload_n hx hb d_Ranges_not_0 rfl (lv_at hl 0 rfl) ?_
  obtain ⟨v2, h1, hm⟩ := rt_b1s hm
  refine rt_csi (As := [.int a0]) (rest := []) rt_X0o ⟨hx, hb, hml, hown, hts⟩ (k_C_Ranges_canBeZero l a0 _ h1) (cw_Ranges_canBeZero hts (hts _ (rt_m rt_w631)) ⟨Nat.le_of_ble_eq_true rfl, Nat.le_of_ble_eq_true rfl⟩) hS (fun _ h => h) trivial rfl hl.1 rfl (Nat.le_of_ble_eq_true rfl) d_Ranges_not_1 ⟨Nat.zero_le _, Nat.zero_le _⟩ (fun H locs hk hS => ?_)
  clear hk
  refine lv_iload_n hx hb d_Ranges_not_4 rfl (lv_at hl 0 rfl) ?_
  obtain ⟨v4, h3, hm⟩ := rt_b1s hm
  refine rt_csi (As := [.int a0]) (rest := [.int v2]) rt_X0o ⟨hx, hb, hml, hown, hts⟩ (k_C_Ranges_canBeOther l a0 _ h3) (cw_Ranges_canBeOther hts (hts _ (rt_m rt_w630)) ⟨Nat.le_of_ble_eq_true rfl, Nat.le_of_ble_eq_true rfl⟩) hS (fun _ h => h) trivial rfl hl.1 rfl (Nat.le_of_ble_eq_true rfl) d_Ranges_not_5 ⟨Nat.zero_le _, Nat.zero_le _⟩ (fun H locs hk hS => ?_)
  clear hk
  obtain ⟨v6, h5, hm⟩ := rt_b1s hm
  refine rt_csi (As := [.int v2, .int v4]) (rest := []) rt_X0o ⟨hx, hb, hml, hown, hts⟩ (k_C_Ranges_truth l v2 v4 _ h5) (cw_Ranges_truth hts (hts _ (rt_m rt_w656)) ⟨Nat.le_of_ble_eq_true rfl, Nat.le_of_ble_eq_true rfl⟩) hS (fun _ h => h) trivial rfl hl.1 rfl (Nat.le_of_ble_eq_true rfl) d_Ranges_not_8 ⟨Nat.zero_le _, Nat.zero_le _⟩ (fun H locs hk hS => ?_)
  clear hk
  refine lv_iload_n hx hb d_Ranges_not_11 rfl (lv_at hl 0 rfl) ?_
  obtain ⟨v8, h7, hm⟩ := rt_b1s hm
  refine rt_csi (As := [.int a0]) (rest := [.int v6]) rt_X0o ⟨hx, hb, hml, hown, hts⟩ (k_C_Ranges_taintOf l a0 _ h7) (cw_Ranges_taintOf hts (hts _ (rt_m rt_w633)) ⟨Nat.le_of_ble_eq_true rfl, Nat.le_of_ble_eq_true rfl⟩) hS (fun _ h => h) trivial rfl hl.1 rfl (Nat.le_of_ble_eq_true rfl) d_Ranges_not_12 ⟨Nat.zero_le _, Nat.zero_le _⟩ (fun H locs hk hS => ?_)
  clear hk
  refine lv_ior hx hb d_Ranges_not_15 ?_
  exact W.iret hx hb hr (fun t ht hW => ⟨⟨_, (), rfl, Option.some.inj hm, trivial⟩, hS.F ht⟩) hS.2.2 d_Ranges_not_16
set_option maxHeartbeats 4000000 in
set_option maxRecDepth 100000 in
theorem k_C_Foreteller_wake (l : Launch) (D : va_G) (cI cZ : ClassId) (A : Nat → Nat) (hO : rt_Ok (rtC_W cI cZ A)) (σ : rt_St) (a1 : Int32) (σ' : rt_St) (hm : M_C_Foreteller_wake σ a1 = some σ') (sz : Nat) : Met l y_Foreteller_wake (rt_ws y_Foreteller_wake b_Foreteller_wake 3 none) ({ frames := 0, cells := 0, slots := 0, locals := 0 } : Room) (va_Pc [.ref (A 29), .int a1] (rt_P D rt_cl (rt_t cI cZ) rtC_X (rtC_W cI cZ A) sz σ)) (va_Qv (fun u1 => u1 = σ') (rt_B D rt_cl (rt_t cI cZ) rtC_X (rtC_W cI cZ A)) (rt_A (rtC_W cI cZ A) sz)) 0 0 (rt_A (rtC_W cI cZ A) sz) := by
  refine Met.ofW (cc := b_Foreteller_wake) (maxL := 3) (ret := none) (by decide) rfl ?_
  intro p e s m args below meth c s₁ B hml hv
  obtain ⟨rfl, rfl, hP, hK, hX⟩ := hv
  have hx := B.exec
  have hb := B.bytes
  have hr := B.returns
  have hts := atoms_spec (ws := (rt_ws y_Foreteller_wake b_Foreteller_wake 3 none)) B.pre
  have hown : s.vm.findClass "RangeTeller$Foreteller" = some m.cls := findClass_of_methodNamed B.named
  have hlocks := B.notSynchronized
  have hD := rt_hD hO s.heap.size
  have hS : va_S (rt_A (rtC_W cI cZ A) s.heap.size) s.heap s.heap [] := va_S.rf
  have hl := lv_entry ([.ref (A 29), .int a1]) (n := 3) (Nat.le_of_ble_eq_true rfl)
  rw [lg_entry_eq]
  generalize (lg_sl ([.ref (A 29), .int a1]) ++ List.replicate (3 - (lg_sl ([.ref (A 29), .int a1])).length) Slot.unset).toArray = ls at hl ⊢
  have hl : lv_has ls 3 [(0, .ref (A 29)), (1, .int a1)] := hl
  show W p l e ({ frames := 0, cells := 0, slots := 0, locals := 0 } : Room) s m ([.ref (A 29), .int a1] : List Value).toArray below meth c s.heap [] 0 0 (rt_Qv D rt_cl (rt_t cI cZ) rtC_X (rtC_W cI cZ A) below ([.ref (A 29), .int a1] : List Value).toArray s σ') (F0 m 0 ls [])
  have hB2 : ∀ (n2 : Nat) (ls : Array Slot) (l1 l2 : Int32) (σ : rt_St) (H : Heap) (locs : List Loc), lv_has ls 3 [(0, .ref (A 29)), (1, .int l1), (2, .int l2)] → B_C_Foreteller_wake_2 n2 l1 l2 σ = some σ' → va_P D rt_cl (rtC_W cI cZ A σ) H → va_S (rt_A (rtC_W cI cZ A) s.heap.size) s.heap H locs → W p l e ({ frames := 0, cells := 0, slots := 0, locals := 0 } : Room) s m ([.ref (A 29), .int a1] : List Value).toArray below meth c H locs 0 0 (rt_Qv D rt_cl (rt_t cI cZ) rtC_X (rtC_W cI cZ A) below ([.ref (A 29), .int a1] : List Value).toArray s σ') (F0 m 2 ls []) := by
    intro n2
    induction n2 with
    | zero => intro ls l1 l2 σ H locs hl hm hP hS; rw [B_C_Foreteller_wake_2] at hm; cases hm
    | succ n2 ih2 =>
      have hB42 : ∀ (ls : Array Slot) (l1 l2 : Int32) (σ : rt_St) (H : Heap) (locs : List Loc), lv_has ls 3 [(0, .ref (A 29)), (1, .int l1), (2, .int l2)] → B_C_Foreteller_wake_42 (B_C_Foreteller_wake_2 n2) l1 l2 σ = some σ' → va_P D rt_cl (rtC_W cI cZ A σ) H → va_S (rt_A (rtC_W cI cZ A) s.heap.size) s.heap H locs → W p l e ({ frames := 0, cells := 0, slots := 0, locals := 0 } : Room) s m ([.ref (A 29), .int a1] : List Value).toArray below meth c H locs 0 0 (rt_Qv D rt_cl (rt_t cI cZ) rtC_X (rtC_W cI cZ A) below ([.ref (A 29), .int a1] : List Value).toArray s σ') (F0 m 42 ls []) := by
        intro ls l1 l2 σ H locs hl hm hP hS
        unfold B_C_Foreteller_wake_42 at hm
        refine lv_iinc (k := 2) (v := (l2 + 1)) hx hb d_Foreteller_wake_42 hl rfl rfl (by decide) rfl (fun ls hl => ?_)
        have hl : lv_has ls 3 [(2, .int (l2 + 1)), (0, .ref (A 29)), (1, .int l1)] := hl
        refine lv_goto (tgt := 2) hx hb d_Foreteller_wake_45 (by decide) ?_
        exact ih2 ls l1 (l2 + 1) σ _ _ (lv_sub hl [1, 2, 0] rfl) hm hP hS
      intro ls l1 l2 σ H locs hl hm hP hS
      rw [B_C_Foreteller_wake_2] at hm
      refine lv_iload_n hx hb d_Foreteller_wake_2 rfl (lv_at hl 2 rfl) ?_
      refine lv_aload_n hx hb d_Foreteller_wake_3 rfl (lv_at hl 0 rfl) ?_
      refine va_get (D := D) (v := .ref (A 1)) (C := "RangeTeller$Foreteller") (T := rt_T5) (N := 13) hx hb hts rt_i5 hown hK hP 29 rfl rfl 0 (by decide) (hts _ (rt_m rt_w333)) (fun _ h9 => h9) rfl d_Foreteller_wake_4 ?_
      refine va_get (D := D) (v := .int (σ 1 12)) (C := "RangeTeller$Program") (T := rt_T1) (N := 14) hx hb hts rt_i1 hown hK hP 1 rfl rfl 12 (by decide) (hts _ (rt_m rt_w166)) (fun _ h9 => h9) rfl d_Foreteller_wake_7 ?_
      refine lv_icmp_ge (tgt := 48) hx hb d_Foreteller_wake_10 (by decide) (fun hc => ?_) (fun hc => ?_)
      · have hm := (if_pos hc).symm.trans hm
        exact W.vret hx hb hr (fun t ht hW => ⟨⟨_, rfl, Option.some.inj hm, rt_end rtC_Xo hK hP hS hX ht hW⟩, hS.F ht⟩) hS.2.2 d_Foreteller_wake_48
      · have hm := (if_neg hc).symm.trans hm
        refine lv_aload_n hx hb d_Foreteller_wake_13 rfl (lv_at hl 0 rfl) ?_
        refine va_get (D := D) (v := .ref (A 30)) (C := "RangeTeller$Foreteller") (T := rt_T5) (N := 13) hx hb hts rt_i5 hown hK hP 29 rfl rfl 1 (by decide) (hts _ (rt_m rt_w334)) (fun _ h9 => h9) rfl d_Foreteller_wake_14 ?_
        refine lv_iload_n hx hb d_Foreteller_wake_17 rfl (lv_at hl 2 rfl) ?_
        obtain ⟨v1, h2, hm⟩ := rt_b1s hm
        refine rt_zld hx hb hK hP 30 1 rfl rfl h2 d_Foreteller_wake_18 ?_
        refine lv_if_eq (tgt := 42) hx hb d_Foreteller_wake_19 (by decide) (fun hc => ?_) (fun hc => ?_)
        · have hm := (if_pos hc).symm.trans hm
          exact hB42 ls l1 l2 σ _ _ (lv_sub hl [0, 1, 2] rfl) hm hP hS
        · have hm := (if_neg hc).symm.trans hm
          refine lv_aload_n hx hb d_Foreteller_wake_22 rfl (lv_at hl 0 rfl) ?_
          refine va_get (D := D) (v := .ref (A 1)) (C := "RangeTeller$Foreteller") (T := rt_T5) (N := 13) hx hb hts rt_i5 hown hK hP 29 rfl rfl 0 (by decide) (hts _ (rt_m rt_w333)) (fun _ h9 => h9) rfl d_Foreteller_wake_23 ?_
          refine va_get (D := D) (v := .ref (A 2)) (C := "RangeTeller$Program") (T := rt_T1) (N := 14) hx hb hts rt_i1 hown hK hP 1 rfl rfl 0 (by decide) (hts _ (rt_m rt_w121)) (fun _ h9 => h9) rfl d_Foreteller_wake_26 ?_
          refine lv_iload_n hx hb d_Foreteller_wake_29 rfl (lv_at hl 2 rfl) ?_
          obtain ⟨v3, h4, hm⟩ := rt_b1s hm
          refine rt_ald hx hb hK hP 2 0 rfl rfl h4 d_Foreteller_wake_30 ?_
          refine lv_iload_n hx hb d_Foreteller_wake_31 rfl (lv_at hl 1 rfl) ?_
          refine lv_icmp_ne (tgt := 42) hx hb d_Foreteller_wake_32 (by decide) (fun hc => ?_) (fun hc => ?_)
          · have hm := (if_neg hc).symm.trans hm
            exact hB42 ls l1 l2 σ _ _ (lv_sub hl [0, 1, 2] rfl) hm hP hS
          · have hm := (if_pos hc).symm.trans hm
            refine lv_aload_n hx hb d_Foreteller_wake_35 rfl (lv_at hl 0 rfl) ?_
            refine va_get (D := D) (v := .ref (A 35)) (C := "RangeTeller$Foreteller") (T := rt_T5) (N := 13) hx hb hts rt_i5 hown hK hP 29 rfl rfl 6 (by decide) (hts _ (rt_m rt_w344)) (fun _ h9 => h9) rfl d_Foreteller_wake_36 ?_
            refine lv_iload_n hx hb d_Foreteller_wake_39 rfl (lv_at hl 2 rfl) ?_
            refine lv_iconst (v := 1) hx hb d_Foreteller_wake_40 (by decide) ?_
            obtain ⟨σ5, h6, hm⟩ := rt_b1s hm
            refine rt_zst hx hb hK hP hD hS 35 1 rfl (rtC_a35 cI cZ A _) rfl rfl h6 d_Foreteller_wake_41 (fun H locs hP hS => ?_)
            exact hB42 ls l1 l2 σ5 _ _ (lv_sub hl [0, 1, 2] rfl) hm hP hS
  unfold M_C_Foreteller_wake at hm
  refine lv_iconst (v := 0) hx hb d_Foreteller_wake_0 (by decide) ?_
  refine lv_istore_n hx hb d_Foreteller_wake_1 rfl hl (by decide) rfl (fun ls hl => ?_)
  have hl : lv_has ls 3 [(2, .int 0), (0, .ref (A 29)), (1, .int a1)] := hl
  exact hB2 _ ls a1 0 σ _ _ (lv_sub hl [1, 2, 0] rfl) hm hP hS
set_option maxHeartbeats 4000000 in
set_option maxRecDepth 100000 in
theorem k_C_Foreteller_store (l : Launch) (D : va_G) (cI cZ : ClassId) (A : Nat → Nat) (hO : rt_Ok (rtC_W cI cZ A)) (σ : rt_St) (a1 : Int32) (r' : Int32) (σ' : rt_St) (hm : M_C_Foreteller_store σ a1 = some (r', σ')) (sz : Nat) : Met l y_Foreteller_store (rt_ws y_Foreteller_store b_Foreteller_store 9 (some .boolean)) ({ frames := 1, cells := 0, slots := 0, locals := 23 } : Room) (va_Pc [.ref (A 29), .int a1] (rt_P D rt_cl (rt_t cI cZ) rtC_X (rtC_W cI cZ A) sz σ)) (va_Qi (fun r1 u1 => r1 = r' ∧ u1 = σ') (rt_B D rt_cl (rt_t cI cZ) rtC_X (rtC_W cI cZ A)) (rt_A (rtC_W cI cZ A) sz)) 0 0 (rt_A (rtC_W cI cZ A) sz) := by
  refine Met.ofW (cc := b_Foreteller_store) (maxL := 9) (ret := (some .boolean)) (by decide) rfl ?_
  intro p e s m args below meth c s₁ B hml hv
  obtain ⟨rfl, rfl, hP, hK, hX⟩ := hv
  have hx := B.exec
  have hb := B.bytes
  have hr := B.returns
  have hts := atoms_spec (ws := (rt_ws y_Foreteller_store b_Foreteller_store 9 (some .boolean))) B.pre
  have hown : s.vm.findClass "RangeTeller$Foreteller" = some m.cls := findClass_of_methodNamed B.named
  have hlocks := B.notSynchronized
  have hD := rt_hD hO s.heap.size
  have hS : va_S (rt_A (rtC_W cI cZ A) s.heap.size) s.heap s.heap [] := va_S.rf
  have hl := lv_entry ([.ref (A 29), .int a1]) (n := 9) (Nat.le_of_ble_eq_true rfl)
  rw [lg_entry_eq]
  generalize (lg_sl ([.ref (A 29), .int a1]) ++ List.replicate (9 - (lg_sl ([.ref (A 29), .int a1])).length) Slot.unset).toArray = ls at hl ⊢
  have hl : lv_has ls 9 [(0, .ref (A 29)), (1, .int a1)] := hl
  show W p l e ({ frames := 1, cells := 0, slots := 0, locals := 23 } : Room) s m ([.ref (A 29), .int a1] : List Value).toArray below meth c s.heap [] 0 0 (rt_Qi D rt_cl (rt_t cI cZ) rtC_X (rtC_W cI cZ A) below ([.ref (A 29), .int a1] : List Value).toArray s r' σ') (F0 m 0 ls [])
  have hB113 : ∀ (ls : Array Slot) (l4 l5 : Int32) (σ : rt_St) (H : Heap) (locs : List Loc), lv_has ls 9 [(4, .int l4), (5, .int l5)] → B_C_Foreteller_store_113 l4 l5 σ = some (r', σ') → va_P D rt_cl (rtC_W cI cZ A σ) H → va_S (rt_A (rtC_W cI cZ A) s.heap.size) s.heap H locs → W p l e ({ frames := 1, cells := 0, slots := 0, locals := 23 } : Room) s m ([.ref (A 29), .int a1] : List Value).toArray below meth c H locs 0 0 (rt_Qi D rt_cl (rt_t cI cZ) rtC_X (rtC_W cI cZ A) below ([.ref (A 29), .int a1] : List Value).toArray s r' σ') (F0 m 113 ls []) := by
    intro ls l4 l5 σ H locs hl hm hP hS
    unfold B_C_Foreteller_store_113 at hm
    refine lv_iload hx hb d_Foreteller_store_113 (lv_at hl 0 rfl) ?_
    refine lv_iload hx hb d_Foreteller_store_115 (lv_at hl 1 rfl) ?_
    refine lv_icmp_gt (tgt := 124) hx hb d_Foreteller_store_117 (by decide) (fun hc => ?_) (fun hc => ?_)
    · have hm := (if_pos hc).symm.trans hm
      refine lv_iconst (v := 0) hx hb d_Foreteller_store_124 (by decide) ?_
      exact W.zret hx hb hr rfl (fun t ht hW => ⟨⟨_, _, rfl, rt_pr hm, rt_end rtC_Xo hK hP hS hX ht hW⟩, hS.F ht⟩) hS.2.2 d_Foreteller_store_125
    · have hm := (if_neg hc).symm.trans hm
      refine lv_iconst (v := 1) hx hb d_Foreteller_store_120 (by decide) ?_
      refine lv_goto (tgt := 125) hx hb d_Foreteller_store_121 (by decide) ?_
      exact W.zret hx hb hr rfl (fun t ht hW => ⟨⟨_, _, rfl, rt_pr hm, rt_end rtC_Xo hK hP hS hX ht hW⟩, hS.F ht⟩) hS.2.2 d_Foreteller_store_125
  have hB38 : ∀ (n38 : Nat) (ls : Array Slot) (l2 l3 l4 l5 l6 l7 : Int32) (σ : rt_St) (H : Heap) (locs : List Loc), lv_has ls 9 [(0, .ref (A 29)), (2, .int l2), (3, .int l3), (4, .int l4), (5, .int l5), (6, .int l6), (7, .int l7)] → B_C_Foreteller_store_38 n38 l2 l3 l4 l5 l6 l7 σ = some (r', σ') → va_P D rt_cl (rtC_W cI cZ A σ) H → va_S (rt_A (rtC_W cI cZ A) s.heap.size) s.heap H locs → W p l e ({ frames := 1, cells := 0, slots := 0, locals := 23 } : Room) s m ([.ref (A 29), .int a1] : List Value).toArray below meth c H locs 0 0 (rt_Qi D rt_cl (rt_t cI cZ) rtC_X (rtC_W cI cZ A) below ([.ref (A 29), .int a1] : List Value).toArray s r' σ') (F0 m 38 ls []) := by
    intro n38
    induction n38 with
    | zero => intro ls l2 l3 l4 l5 l6 l7 σ H locs hl hm hP hS; rw [B_C_Foreteller_store_38] at hm; cases hm
    | succ n38 ih38 =>
      have hB85 : ∀ (ls : Array Slot) (l2 l3 l4 l5 l7 l8 t0 : Int32) (σ : rt_St) (H : Heap) (locs : List Loc), lv_has ls 9 [(0, .ref (A 29)), (2, .int l2), (3, .int l3), (4, .int l4), (5, .int l5), (7, .int l7), (8, .int l8)] → B_C_Foreteller_store_85 (B_C_Foreteller_store_38 n38) l2 l3 l4 l5 l7 l8 t0 σ = some (r', σ') → va_P D rt_cl (rtC_W cI cZ A σ) H → va_S (rt_A (rtC_W cI cZ A) s.heap.size) s.heap H locs → W p l e ({ frames := 1, cells := 0, slots := 0, locals := 23 } : Room) s m ([.ref (A 29), .int a1] : List Value).toArray below meth c H locs 0 0 (rt_Qi D rt_cl (rt_t cI cZ) rtC_X (rtC_W cI cZ A) below ([.ref (A 29), .int a1] : List Value).toArray s r' σ') (F0 m 85 ls [.int t0]) := by
        intro ls l2 l3 l4 l5 l7 l8 t0 σ H locs hl hm hP hS
        unfold B_C_Foreteller_store_85 at hm
        refine lv_istore hx hb d_Foreteller_store_85 hl (by decide) rfl (fun ls hl => ?_)
        have hl : lv_has ls 9 [(6, .int t0), (0, .ref (A 29)), (2, .int l2), (3, .int l3), (4, .int l4), (5, .int l5), (7, .int l7), (8, .int l8)] := hl
        refine lv_aload_n hx hb d_Foreteller_store_87 rfl (lv_at hl 1 rfl) ?_
        refine va_get (D := D) (v := .ref (A 32)) (C := "RangeTeller$Foreteller") (T := rt_T5) (N := 13) hx hb hts rt_i5 hown hK hP 29 rfl rfl 3 (by decide) (hts _ (rt_m rt_w338)) (fun _ h9 => h9) rfl d_Foreteller_store_88 ?_
        refine lv_iload hx hb d_Foreteller_store_91 (lv_at hl 6 rfl) ?_
        refine lv_iload hx hb d_Foreteller_store_93 (lv_at hl 7 rfl) ?_
        obtain ⟨σ1, h2, hm⟩ := rt_b1s hm
        refine rt_ast hx hb hK hP hD hS 32 0 rfl (rtC_a32 cI cZ A _) rfl h2 d_Foreteller_store_95 (fun H locs hP hS => ?_)
        refine lv_iinc (k := 6) (v := (l7 + 1)) hx hb d_Foreteller_store_96 hl rfl rfl (by decide) rfl (fun ls hl => ?_)
        have hl : lv_has ls 9 [(7, .int (l7 + 1)), (6, .int t0), (0, .ref (A 29)), (2, .int l2), (3, .int l3), (4, .int l4), (5, .int l5), (8, .int l8)] := hl
        refine lv_goto (tgt := 38) hx hb d_Foreteller_store_99 (by decide) ?_
        exact ih38 ls l2 l3 l4 l5 t0 (l7 + 1) σ1 _ _ (lv_sub hl [2, 3, 4, 5, 6, 1, 0] rfl) hm hP hS
      have hB80 : ∀ (ls : Array Slot) (l2 l3 l4 l5 l7 l8 : Int32) (σ : rt_St) (H : Heap) (locs : List Loc), lv_has ls 9 [(0, .ref (A 29)), (2, .int l2), (3, .int l3), (4, .int l4), (5, .int l5), (7, .int l7), (8, .int l8)] → B_C_Foreteller_store_80 (B_C_Foreteller_store_38 n38) l2 l3 l4 l5 l7 l8 σ = some (r', σ') → va_P D rt_cl (rtC_W cI cZ A σ) H → va_S (rt_A (rtC_W cI cZ A) s.heap.size) s.heap H locs → W p l e ({ frames := 1, cells := 0, slots := 0, locals := 23 } : Room) s m ([.ref (A 29), .int a1] : List Value).toArray below meth c H locs 0 0 (rt_Qi D rt_cl (rt_t cI cZ) rtC_X (rtC_W cI cZ A) below ([.ref (A 29), .int a1] : List Value).toArray s r' σ') (F0 m 80 ls []) := by
        intro ls l2 l3 l4 l5 l7 l8 σ H locs hl hm hP hS
        unfold B_C_Foreteller_store_80 at hm
        refine lv_iconst (v := 1) hx hb d_Foreteller_store_80 (by decide) ?_
        refine lv_goto (tgt := 85) hx hb d_Foreteller_store_81 (by decide) ?_
        exact hB85 ls l2 l3 l4 l5 l7 l8 1 σ _ _ (lv_sub hl [0, 1, 2, 3, 4, 5, 6] rfl) hm hP hS
      intro ls l2 l3 l4 l5 l6 l7 σ H locs hl hm hP hS
      rw [B_C_Foreteller_store_38] at hm
      refine lv_iload hx hb d_Foreteller_store_38 (lv_at hl 6 rfl) ?_
      refine lv_iload hx hb d_Foreteller_store_40 (lv_at hl 4 rfl) ?_
      refine lv_icmp_gt (tgt := 102) hx hb d_Foreteller_store_42 (by decide) (fun hc => ?_) (fun hc => ?_)
      · have hm := (if_pos hc).symm.trans hm
        refine lv_iload hx hb d_Foreteller_store_102 (lv_at hl 5 rfl) ?_
        refine lv_if_eq (tgt := 113) hx hb d_Foreteller_store_104 (by decide) (fun hc => ?_) (fun hc => ?_)
        · have hm := (if_pos hc).symm.trans hm
          exact hB113 ls l4 l5 σ _ _ (lv_sub hl [3, 4] rfl) hm hP hS
        · have hm := (if_neg hc).symm.trans hm
          refine lv_aload_n hx hb d_Foreteller_store_107 rfl (lv_at hl 0 rfl) ?_
          refine lv_bipush (v := 15) hx hb d_Foreteller_store_108 (by decide) ?_
          obtain ⟨σ4, h3, hm⟩ := rt_b1s hm
          refine rt_cvv (As := [.int 15]) (rest := []) (k := 29) rtC_Xo ⟨hx, hb, hml, hown, hts⟩ (k_C_Foreteller_wake l D cI cZ A hO σ 15 _ h3) (cw_Foreteller_wake hts (hts _ (rt_m rt_w607)) ⟨Nat.le_of_ble_eq_true rfl, Nat.le_of_ble_eq_true rfl⟩) hK hP hS hX rfl rfl rfl hl.1 rfl (Nat.le_of_ble_eq_true rfl) d_Foreteller_store_110 ⟨Nat.zero_le _, Nat.zero_le _⟩ (fun H locs hP hS => ?_)
          exact hB113 ls l4 l5 σ4 _ _ (lv_sub hl [3, 4] rfl) hm hP hS
      · have hm := (if_neg hc).symm.trans hm
        refine lv_aload_n hx hb d_Foreteller_store_45 rfl (lv_at hl 0 rfl) ?_
        refine va_get (D := D) (v := .ref (A 32)) (C := "RangeTeller$Foreteller") (T := rt_T5) (N := 13) hx hb hts rt_i5 hown hK hP 29 rfl rfl 3 (by decide) (hts _ (rt_m rt_w338)) (fun _ h9 => h9) rfl d_Foreteller_store_46 ?_
        refine lv_iload hx hb d_Foreteller_store_49 (lv_at hl 6 rfl) ?_
        obtain ⟨v5, h6, hm⟩ := rt_b1s hm
        refine rt_ald hx hb hK hP 32 0 rfl rfl h6 d_Foreteller_store_51 ?_
        refine lv_iload_n hx hb d_Foreteller_store_52 rfl (lv_at hl 1 rfl) ?_
        refine lv_iload_n hx hb d_Foreteller_store_53 rfl (lv_at hl 2 rfl) ?_
        obtain ⟨v8, h7, hm⟩ := rt_b1s hm
        refine rt_csi (As := [.int l3]) (rest := [.int l2, .int v5]) rt_X0o ⟨hx, hb, hml, hown, hts⟩ (k_C_Ranges_taintOf l l3 _ h7) (cw_Ranges_taintOf hts (hts _ (rt_m rt_w645)) ⟨Nat.le_of_ble_eq_true rfl, Nat.le_of_ble_eq_true rfl⟩) hS (fun _ h => Or.inr h) trivial rfl hl.1 rfl (Nat.le_of_ble_eq_true rfl) d_Foreteller_store_54 ⟨Nat.zero_le _, Nat.zero_le _⟩ (fun H locs hk hS => ?_)
        have hP := rt_keep hP hk
        clear hk
        refine lv_ior hx hb d_Foreteller_store_57 ?_
        obtain ⟨v10, h9, hm⟩ := rt_b1s hm
        refine rt_csi (As := [.int v5, .int (l2 ||| v8)]) (rest := []) rt_X0o ⟨hx, hb, hml, hown, hts⟩ (k_C_Ranges_join l v5 (l2 ||| v8) _ h9) (cw_Ranges_join hts (hts _ (rt_m rt_w564)) ⟨Nat.le_of_ble_eq_true rfl, Nat.le_of_ble_eq_true rfl⟩) hS (fun _ h => Or.inr h) trivial rfl hl.1 rfl (Nat.le_of_ble_eq_true rfl) d_Foreteller_store_58 ⟨Nat.zero_le _, Nat.zero_le _⟩ (fun H locs hk hS => ?_)
        have hP := rt_keep hP hk
        clear hk
        refine lv_istore hx hb d_Foreteller_store_61 hl (by decide) rfl (fun ls hl => ?_)
        have hl : lv_has ls 9 [(8, .int v10), (0, .ref (A 29)), (2, .int l2), (3, .int l3), (4, .int l4), (5, .int l5), (6, .int l6), (7, .int l7)] := hl
        refine lv_iload hx hb d_Foreteller_store_63 (lv_at hl 6 rfl) ?_
        refine lv_if_ne (tgt := 80) hx hb d_Foreteller_store_65 (by decide) (fun hc => ?_) (fun hc => ?_)
        · have hm := (if_neg hc).symm.trans hm
          exact hB80 ls l2 l3 l4 l5 l7 v10 σ _ _ (lv_sub hl [1, 2, 3, 4, 5, 7, 0] rfl) hm hP hS
        · have hm := (if_pos hc).symm.trans hm
          refine lv_iload hx hb d_Foreteller_store_68 (lv_at hl 0 rfl) ?_
          refine lv_aload_n hx hb d_Foreteller_store_70 rfl (lv_at hl 1 rfl) ?_
          refine va_get (D := D) (v := .ref (A 32)) (C := "RangeTeller$Foreteller") (T := rt_T5) (N := 13) hx hb hts rt_i5 hown hK hP 29 rfl rfl 3 (by decide) (hts _ (rt_m rt_w338)) (fun _ h9 => h9) rfl d_Foreteller_store_71 ?_
          refine lv_iload hx hb d_Foreteller_store_74 (lv_at hl 7 rfl) ?_
          obtain ⟨v11, h12, hm⟩ := rt_b1s hm
          refine rt_ald hx hb hK hP 32 0 rfl rfl h12 d_Foreteller_store_76 ?_
          refine lv_icmp_eq (tgt := 84) hx hb d_Foreteller_store_77 (by decide) (fun hc => ?_) (fun hc => ?_)
          · have hm := (if_pos hc).symm.trans hm
            refine lv_iconst (v := 0) hx hb d_Foreteller_store_84 (by decide) ?_
            exact hB85 ls l2 l3 l4 l5 l7 v10 0 σ _ _ (lv_sub hl [1, 2, 3, 4, 5, 7, 0] rfl) hm hP hS
          · have hm := (if_neg hc).symm.trans hm
            exact hB80 ls l2 l3 l4 l5 l7 v10 σ _ _ (lv_sub hl [1, 2, 3, 4, 5, 7, 0] rfl) hm hP hS
  unfold M_C_Foreteller_store at hm
  refine lv_aload_n hx hb d_Foreteller_store_0 rfl (lv_at hl 0 rfl) ?_
  obtain ⟨v15, σ14, h13, hm⟩ := rt_b2s hm
  refine rt_cvi (As := []) (rest := []) (k := 29) rtC_Xo ⟨hx, hb, hml, hown, hts⟩ (k_C_Foreteller_pop l D cI cZ A hO σ _ _ h13) (cw_Foreteller_pop hts (hts _ (rt_m rt_w583)) ⟨Nat.le_of_ble_eq_true rfl, Nat.le_of_ble_eq_true rfl⟩) hK hP hS hX rfl rfl rfl hl.1 rfl (Nat.le_of_ble_eq_true rfl) d_Foreteller_store_1 ⟨Nat.zero_le _, Nat.zero_le _⟩ (fun H locs hP hS => ?_)
  refine lv_istore_n hx hb d_Foreteller_store_4 rfl hl (by decide) rfl (fun ls hl => ?_)
  have hl : lv_has ls 9 [(2, .int v15), (0, .ref (A 29)), (1, .int a1)] := hl
  refine lv_aload_n hx hb d_Foreteller_store_5 rfl (lv_at hl 1 rfl) ?_
  obtain ⟨v18, σ17, h16, hm⟩ := rt_b2s hm
  refine rt_cvi (As := []) (rest := []) (k := 29) rtC_Xo ⟨hx, hb, hml, hown, hts⟩ (k_C_Foreteller_pop l D cI cZ A hO σ14 _ _ h16) (cw_Foreteller_pop hts (hts _ (rt_m rt_w583)) ⟨Nat.le_of_ble_eq_true rfl, Nat.le_of_ble_eq_true rfl⟩) hK hP hS hX rfl rfl rfl hl.1 rfl (Nat.le_of_ble_eq_true rfl) d_Foreteller_store_6 ⟨Nat.zero_le _, Nat.zero_le _⟩ (fun H locs hP hS => ?_)
  refine lv_istore_n hx hb d_Foreteller_store_9 rfl hl (by decide) rfl (fun ls hl => ?_)
  have hl : lv_has ls 9 [(3, .int v18), (2, .int v15), (0, .ref (A 29)), (1, .int a1)] := hl
  refine lv_iload_n hx hb d_Foreteller_store_10 rfl (lv_at hl 0 rfl) ?_
  obtain ⟨v20, h19, hm⟩ := rt_b1s hm
  refine rt_csi (As := [.int v18]) (rest := []) rt_X0o ⟨hx, hb, hml, hown, hts⟩ (k_C_Ranges_least l v18 _ h19) (cw_Ranges_least hts (hts _ (rt_m rt_w644)) ⟨Nat.le_of_ble_eq_true rfl, Nat.le_of_ble_eq_true rfl⟩) hS (fun _ h => Or.inr h) trivial rfl hl.1 rfl (Nat.le_of_ble_eq_true rfl) d_Foreteller_store_11 ⟨Nat.zero_le _, Nat.zero_le _⟩ (fun H locs hk hS => ?_)
  have hP := rt_keep hP hk
  clear hk
  refine lv_iload_n hx hb d_Foreteller_store_14 rfl (lv_at hl 3 rfl) ?_
  refine lv_iadd hx hb d_Foreteller_store_15 ?_
  refine lv_istore hx hb d_Foreteller_store_16 hl (by decide) rfl (fun ls hl => ?_)
  have hl : lv_has ls 9 [(4, .int (v20 + a1)), (3, .int v18), (2, .int v15), (0, .ref (A 29)), (1, .int a1)] := hl
  refine lv_iload_n hx hb d_Foreteller_store_18 rfl (lv_at hl 1 rfl) ?_
  obtain ⟨v22, h21, hm⟩ := rt_b1s hm
  refine rt_csi (As := [.int v18]) (rest := []) rt_X0o ⟨hx, hb, hml, hown, hts⟩ (k_C_Ranges_greatest l v18 _ h21) (cw_Ranges_greatest hts (hts _ (rt_m rt_w640)) ⟨Nat.le_of_ble_eq_true rfl, Nat.le_of_ble_eq_true rfl⟩) hS (fun _ h => Or.inr h) trivial rfl hl.1 rfl (Nat.le_of_ble_eq_true rfl) d_Foreteller_store_19 ⟨Nat.zero_le _, Nat.zero_le _⟩ (fun H locs hk hS => ?_)
  have hP := rt_keep hP hk
  clear hk
  refine lv_iload_n hx hb d_Foreteller_store_22 rfl (lv_at hl 4 rfl) ?_
  refine lv_iadd hx hb d_Foreteller_store_23 ?_
  refine lv_bipush (v := 15) hx hb d_Foreteller_store_24 (by decide) ?_
  refine va_mmin hx hb (hml.trans hl.1.symm) hown (hts _ (rt_m rt_w641)) (hts _ (rt_m rt_w642)) (hts _ (rt_m rt_w104)) (hts _ (rt_m rt_w643)) (Nat.le_of_ble_eq_true rfl) (Nat.le_of_ble_eq_true rfl) (Nat.zero_le _) (Nat.zero_le _) d_Foreteller_store_26 ?_
  refine lv_istore hx hb d_Foreteller_store_29 hl (by decide) rfl (fun ls hl => ?_)
  have hl : lv_has ls 9 [(5, .int (rt_min (v22 + a1) 15)), (4, .int (v20 + a1)), (3, .int v18), (2, .int v15), (0, .ref (A 29)), (1, .int a1)] := hl
  refine lv_iconst (v := 0) hx hb d_Foreteller_store_31 (by decide) ?_
  refine lv_istore hx hb d_Foreteller_store_32 hl (by decide) rfl (fun ls hl => ?_)
  have hl : lv_has ls 9 [(6, .int 0), (5, .int (rt_min (v22 + a1) 15)), (4, .int (v20 + a1)), (3, .int v18), (2, .int v15), (0, .ref (A 29)), (1, .int a1)] := hl
  refine lv_iload hx hb d_Foreteller_store_34 (lv_at hl 2 rfl) ?_
  refine lv_istore hx hb d_Foreteller_store_36 hl (by decide) rfl (fun ls hl => ?_)
  have hl : lv_has ls 9 [(7, .int (v20 + a1)), (6, .int 0), (5, .int (rt_min (v22 + a1) 15)), (4, .int (v20 + a1)), (3, .int v18), (2, .int v15), (0, .ref (A 29)), (1, .int a1)] := hl
  exact hB38 _ ls v15 v18 (v20 + a1) (rt_min (v22 + a1) 15) 0 (v20 + a1) σ17 _ _ (lv_sub hl [6, 5, 4, 3, 2, 1, 0] rfl) hm hP hS
set_option maxHeartbeats 4000000 in
set_option maxRecDepth 100000 in
theorem k_C_Foreteller_fetch (l : Launch) (D : va_G) (cI cZ : ClassId) (A : Nat → Nat) (hO : rt_Ok (rtC_W cI cZ A)) (σ : rt_St) (a1 : Int32) (r' : Int32) (σ' : rt_St) (hm : M_C_Foreteller_fetch σ a1 = some (r', σ')) (sz : Nat) : Met l y_Foreteller_fetch (rt_ws y_Foreteller_fetch b_Foreteller_fetch 6 (some .boolean)) ({ frames := 1, cells := 0, slots := 0, locals := 23 } : Room) (va_Pc [.ref (A 29), .int a1] (rt_P D rt_cl (rt_t cI cZ) rtC_X (rtC_W cI cZ A) sz σ)) (va_Qi (fun r1 u1 => r1 = r' ∧ u1 = σ') (rt_B D rt_cl (rt_t cI cZ) rtC_X (rtC_W cI cZ A)) (rt_A (rtC_W cI cZ A) sz)) 0 0 (rt_A (rtC_W cI cZ A) sz) := by
  refine Met.ofW (cc := b_Foreteller_fetch) (maxL := 6) (ret := (some .boolean)) (by decide) rfl ?_
  intro p e s m args below meth c s₁ B hml hv
  obtain ⟨rfl, rfl, hP, hK, hX⟩ := hv
  have hx := B.exec
  have hb := B.bytes
  have hr := B.returns
  have hts := atoms_spec (ws := (rt_ws y_Foreteller_fetch b_Foreteller_fetch 6 (some .boolean))) B.pre
  have hown : s.vm.findClass "RangeTeller$Foreteller" = some m.cls := findClass_of_methodNamed B.named
  have hlocks := B.notSynchronized
  have hD := rt_hD hO s.heap.size
  have hS : va_S (rt_A (rtC_W cI cZ A) s.heap.size) s.heap s.heap [] := va_S.rf
  have hl := lv_entry ([.ref (A 29), .int a1]) (n := 6) (Nat.le_of_ble_eq_true rfl)
  rw [lg_entry_eq]
  generalize (lg_sl ([.ref (A 29), .int a1]) ++ List.replicate (6 - (lg_sl ([.ref (A 29), .int a1])).length) Slot.unset).toArray = ls at hl ⊢
  have hl : lv_has ls 6 [(0, .ref (A 29)), (1, .int a1)] := hl
  show W p l e ({ frames := 1, cells := 0, slots := 0, locals := 23 } : Room) s m ([.ref (A 29), .int a1] : List Value).toArray below meth c s.heap [] 0 0 (rt_Qi D rt_cl (rt_t cI cZ) rtC_X (rtC_W cI cZ A) below ([.ref (A 29), .int a1] : List Value).toArray s r' σ') (F0 m 0 ls [])
  have hB29 : ∀ (n29 : Nat) (ls : Array Slot) (l2 l3 l4 l5 : Int32) (σ : rt_St) (H : Heap) (locs : List Loc), lv_has ls 6 [(0, .ref (A 29)), (2, .int l2), (3, .int l3), (4, .int l4), (5, .int l5)] → B_C_Foreteller_fetch_29 n29 l2 l3 l4 l5 σ = some (r', σ') → va_P D rt_cl (rtC_W cI cZ A σ) H → va_S (rt_A (rtC_W cI cZ A) s.heap.size) s.heap H locs → W p l e ({ frames := 1, cells := 0, slots := 0, locals := 23 } : Room) s m ([.ref (A 29), .int a1] : List Value).toArray below meth c H locs 0 0 (rt_Qi D rt_cl (rt_t cI cZ) rtC_X (rtC_W cI cZ A) below ([.ref (A 29), .int a1] : List Value).toArray s r' σ') (F0 m 29 ls []) := by
    intro n29
    induction n29 with
    | zero => intro ls l2 l3 l4 l5 σ H locs hl hm hP hS; rw [B_C_Foreteller_fetch_29] at hm; cases hm
    | succ n29 ih29 =>
      intro ls l2 l3 l4 l5 σ H locs hl hm hP hS
      rw [B_C_Foreteller_fetch_29] at hm
      refine lv_iload hx hb d_Foreteller_fetch_29 (lv_at hl 4 rfl) ?_
      refine lv_iload_n hx hb d_Foreteller_fetch_31 rfl (lv_at hl 2 rfl) ?_
      refine lv_icmp_gt (tgt := 55) hx hb d_Foreteller_fetch_32 (by decide) (fun hc => ?_) (fun hc => ?_)
      · have hm := (if_pos hc).symm.trans hm
        refine lv_iload hx hb d_Foreteller_fetch_55 (lv_at hl 3 rfl) ?_
        refine lv_bipush (v := (-3)) hx hb d_Foreteller_fetch_57 (by decide) ?_
        refine lv_icmp_ne (tgt := 64) hx hb d_Foreteller_fetch_59 (by decide) (fun hc => ?_) (fun hc => ?_)
        · have hm := (if_neg hc).symm.trans hm
          refine lv_aload_n hx hb d_Foreteller_fetch_64 rfl (lv_at hl 0 rfl) ?_
          refine lv_iload hx hb d_Foreteller_fetch_65 (lv_at hl 3 rfl) ?_
          refine lv_iload_n hx hb d_Foreteller_fetch_67 rfl (lv_at hl 1 rfl) ?_
          obtain ⟨v2, h1, hm⟩ := rt_b1s hm
          refine rt_csi (As := [.int l2]) (rest := [.int l4, .ref (A 29)]) rt_X0o ⟨hx, hb, hml, hown, hts⟩ (k_C_Ranges_taintOf l l2 _ h1) (cw_Ranges_taintOf hts (hts _ (rt_m rt_w645)) ⟨Nat.le_of_ble_eq_true rfl, Nat.le_of_ble_eq_true rfl⟩) hS (fun _ h => Or.inr h) trivial rfl hl.1 rfl (Nat.le_of_ble_eq_true rfl) d_Foreteller_fetch_68 ⟨Nat.zero_le _, Nat.zero_le _⟩ (fun H locs hk hS => ?_)
          have hP := rt_keep hP hk
          clear hk
          refine lv_ior hx hb d_Foreteller_fetch_71 ?_
          obtain ⟨σ4, h3, hm⟩ := rt_b1s hm
          refine rt_cvv (As := [.int (l4 ||| v2)]) (rest := []) (k := 29) rtC_Xo ⟨hx, hb, hml, hown, hts⟩ (k_C_Foreteller_push l D cI cZ A hO σ (l4 ||| v2) _ h3) (cw_Foreteller_push hts (hts _ (rt_m rt_w615)) ⟨Nat.le_of_ble_eq_true rfl, Nat.le_of_ble_eq_true rfl⟩) hK hP hS hX rfl rfl rfl hl.1 rfl (Nat.le_of_ble_eq_true rfl) d_Foreteller_fetch_72 ⟨Nat.zero_le _, Nat.zero_le _⟩ (fun H locs hP hS => ?_)
          refine lv_iconst (v := 1) hx hb d_Foreteller_fetch_75 (by decide) ?_
          exact W.zret hx hb hr rfl (fun t ht hW => ⟨⟨_, _, rfl, rt_pr hm, rt_end rtC_Xo hK hP hS hX ht hW⟩, hS.F ht⟩) hS.2.2 d_Foreteller_fetch_76
        · have hm := (if_pos hc).symm.trans hm
          refine lv_iconst (v := 0) hx hb d_Foreteller_fetch_62 (by decide) ?_
          exact W.zret hx hb hr rfl (fun t ht hW => ⟨⟨_, _, rfl, rt_pr hm, rt_end rtC_Xo hK hP hS hX ht hW⟩, hS.F ht⟩) hS.2.2 d_Foreteller_fetch_63
      · have hm := (if_neg hc).symm.trans hm
        refine lv_iload hx hb d_Foreteller_fetch_35 (lv_at hl 3 rfl) ?_
        refine lv_aload_n hx hb d_Foreteller_fetch_37 rfl (lv_at hl 0 rfl) ?_
        refine va_get (D := D) (v := .ref (A 32)) (C := "RangeTeller$Foreteller") (T := rt_T5) (N := 13) hx hb hts rt_i5 hown hK hP 29 rfl rfl 3 (by decide) (hts _ (rt_m rt_w338)) (fun _ h9 => h9) rfl d_Foreteller_fetch_38 ?_
        refine lv_iload hx hb d_Foreteller_fetch_41 (lv_at hl 4 rfl) ?_
        obtain ⟨v5, h6, hm⟩ := rt_b1s hm
        refine rt_ald hx hb hK hP 32 0 rfl rfl h6 d_Foreteller_fetch_43 ?_
        obtain ⟨v8, h7, hm⟩ := rt_b1s hm
        refine rt_csi (As := [.int l4, .int v5]) (rest := []) rt_X0o ⟨hx, hb, hml, hown, hts⟩ (k_C_Ranges_join l l4 v5 _ h7) (cw_Ranges_join hts (hts _ (rt_m rt_w564)) ⟨Nat.le_of_ble_eq_true rfl, Nat.le_of_ble_eq_true rfl⟩) hS (fun _ h => Or.inr h) trivial rfl hl.1 rfl (Nat.le_of_ble_eq_true rfl) d_Foreteller_fetch_44 ⟨Nat.zero_le _, Nat.zero_le _⟩ (fun H locs hk hS => ?_)
        have hP := rt_keep hP hk
        clear hk
        refine lv_istore hx hb d_Foreteller_fetch_47 hl (by decide) rfl (fun ls hl => ?_)
        have hl : lv_has ls 6 [(4, .int v8), (0, .ref (A 29)), (2, .int l2), (3, .int l3), (5, .int l5)] := hl
        refine lv_iinc (k := 4) (v := (l5 + 1)) hx hb d_Foreteller_fetch_49 hl rfl rfl (by decide) rfl (fun ls hl => ?_)
        have hl : lv_has ls 6 [(5, .int (l5 + 1)), (4, .int v8), (0, .ref (A 29)), (2, .int l2), (3, .int l3)] := hl
        refine lv_goto (tgt := 29) hx hb d_Foreteller_fetch_52 (by decide) ?_
        exact ih29 ls l2 l3 v8 (l5 + 1) σ _ _ (lv_sub hl [2, 3, 4, 1, 0] rfl) hm hP hS
  unfold M_C_Foreteller_fetch at hm
  refine lv_aload_n hx hb d_Foreteller_fetch_0 rfl (lv_at hl 0 rfl) ?_
  obtain ⟨v11, σ10, h9, hm⟩ := rt_b2s hm
  refine rt_cvi (As := []) (rest := []) (k := 29) rtC_Xo ⟨hx, hb, hml, hown, hts⟩ (k_C_Foreteller_pop l D cI cZ A hO σ _ _ h9) (cw_Foreteller_pop hts (hts _ (rt_m rt_w583)) ⟨Nat.le_of_ble_eq_true rfl, Nat.le_of_ble_eq_true rfl⟩) hK hP hS hX rfl rfl rfl hl.1 rfl (Nat.le_of_ble_eq_true rfl) d_Foreteller_fetch_1 ⟨Nat.zero_le _, Nat.zero_le _⟩ (fun H locs hP hS => ?_)
  refine lv_istore_n hx hb d_Foreteller_fetch_4 rfl hl (by decide) rfl (fun ls hl => ?_)
  have hl : lv_has ls 6 [(2, .int v11), (0, .ref (A 29)), (1, .int a1)] := hl
  refine lv_iload_n hx hb d_Foreteller_fetch_5 rfl (lv_at hl 0 rfl) ?_
  obtain ⟨v13, h12, hm⟩ := rt_b1s hm
  refine rt_csi (As := [.int v11]) (rest := []) rt_X0o ⟨hx, hb, hml, hown, hts⟩ (k_C_Ranges_greatest l v11 _ h12) (cw_Ranges_greatest hts (hts _ (rt_m rt_w640)) ⟨Nat.le_of_ble_eq_true rfl, Nat.le_of_ble_eq_true rfl⟩) hS (fun _ h => Or.inr h) trivial rfl hl.1 rfl (Nat.le_of_ble_eq_true rfl) d_Foreteller_fetch_6 ⟨Nat.zero_le _, Nat.zero_le _⟩ (fun H locs hk hS => ?_)
  have hP := rt_keep hP hk
  clear hk
  refine lv_iload_n hx hb d_Foreteller_fetch_9 rfl (lv_at hl 2 rfl) ?_
  refine lv_iadd hx hb d_Foreteller_fetch_10 ?_
  refine lv_bipush (v := 15) hx hb d_Foreteller_fetch_11 (by decide) ?_
  refine va_mmin hx hb (hml.trans hl.1.symm) hown (hts _ (rt_m rt_w641)) (hts _ (rt_m rt_w642)) (hts _ (rt_m rt_w104)) (hts _ (rt_m rt_w643)) (Nat.le_of_ble_eq_true rfl) (Nat.le_of_ble_eq_true rfl) (Nat.zero_le _) (Nat.zero_le _) d_Foreteller_fetch_13 ?_
  refine lv_istore_n hx hb d_Foreteller_fetch_16 rfl hl (by decide) rfl (fun ls hl => ?_)
  have hl : lv_has ls 6 [(3, .int (rt_min (v13 + a1) 15)), (2, .int v11), (0, .ref (A 29)), (1, .int a1)] := hl
  refine lv_bipush (v := (-3)) hx hb d_Foreteller_fetch_17 (by decide) ?_
  refine lv_istore hx hb d_Foreteller_fetch_19 hl (by decide) rfl (fun ls hl => ?_)
  have hl : lv_has ls 6 [(4, .int (-3)), (3, .int (rt_min (v13 + a1) 15)), (2, .int v11), (0, .ref (A 29)), (1, .int a1)] := hl
  refine lv_iload_n hx hb d_Foreteller_fetch_21 rfl (lv_at hl 2 rfl) ?_
  obtain ⟨v15, h14, hm⟩ := rt_b1s hm
  refine rt_csi (As := [.int v11]) (rest := []) rt_X0o ⟨hx, hb, hml, hown, hts⟩ (k_C_Ranges_least l v11 _ h14) (cw_Ranges_least hts (hts _ (rt_m rt_w644)) ⟨Nat.le_of_ble_eq_true rfl, Nat.le_of_ble_eq_true rfl⟩) hS (fun _ h => Or.inr h) trivial rfl hl.1 rfl (Nat.le_of_ble_eq_true rfl) d_Foreteller_fetch_22 ⟨Nat.zero_le _, Nat.zero_le _⟩ (fun H locs hk hS => ?_)
  have hP := rt_keep hP hk
  clear hk
  refine lv_iload_n hx hb d_Foreteller_fetch_25 rfl (lv_at hl 4 rfl) ?_
  refine lv_iadd hx hb d_Foreteller_fetch_26 ?_
  refine lv_istore hx hb d_Foreteller_fetch_27 hl (by decide) rfl (fun ls hl => ?_)
  have hl : lv_has ls 6 [(5, .int (v15 + a1)), (4, .int (-3)), (3, .int (rt_min (v13 + a1) 15)), (2, .int v11), (0, .ref (A 29)), (1, .int a1)] := hl
  exact hB29 _ ls v11 (rt_min (v13 + a1) 15) (-3) (v15 + a1) σ10 _ _ (lv_sub hl [4, 3, 2, 1, 0] rfl) hm hP hS
set_option maxHeartbeats 4000000 in
set_option maxRecDepth 100000 in
theorem k_C_Ranges_pick (l : Launch) (a0 a1 a2 : Int32) (r' : Int32) (hm : M_C_Ranges_pick a0 a1 a2 = some r') : rt_MS l y_Ranges_pick b_Ranges_pick 4 (some .int) ({ frames := 2, cells := 0, slots := 0, locals := 40 } : Room) rt_X0 [.int a0, .int a1, .int a2] r' := by
  intro sz
  refine Met.ofW (cc := b_Ranges_pick) (maxL := 4) (ret := (some .int)) (by decide) rfl ?_
  intro p e s m args below meth c s₁ B hml hv
  obtain ⟨rfl, rfl, hX⟩ := hv
  have hx := B.exec
  have hb := B.bytes
  have hr := B.returns
  have hts := atoms_spec (ws := (rt_ws y_Ranges_pick b_Ranges_pick 4 (some .int))) B.pre
  have hown : s.vm.findClass "RangeTeller$Ranges" = some m.cls := findClass_of_methodNamed B.named
  have hlocks := B.notSynchronized
  have hS : va_S (fun q => s.heap.size ≤ q) s.heap s.heap [] := va_S.rf
  have hl := lv_entry ([.int a0, .int a1, .int a2]) (n := 4) (Nat.le_of_ble_eq_true rfl)
  rw [lg_entry_eq]
  generalize (lg_sl ([.int a0, .int a1, .int a2]) ++ List.replicate (4 - (lg_sl ([.int a0, .int a1, .int a2])).length) Slot.unset).toArray = ls at hl ⊢
  have hl : lv_has ls 4 [(0, .int a0), (1, .int a1), (2, .int a2)] := hl
  show W p l e ({ frames := 2, cells := 0, slots := 0, locals := 40 } : Room) s m ([.int a0, .int a1, .int a2] : List Value).toArray below meth c s.heap [] 0 0 (rt_Qs below ([.int a0, .int a1, .int a2] : List Value).toArray s r') (F0 m 0 ls [])
  have hB26 : ∀ (ls : Array Slot) (l2 l3 : Int32) (H : Heap) (locs : List Loc), lv_has ls 4 [(2, .int l2), (3, .int l3)] → B_C_Ranges_pick_26 l2 l3 = some r' → va_S (fun q => s.heap.size ≤ q) s.heap H locs → W p l e ({ frames := 2, cells := 0, slots := 0, locals := 40 } : Room) s m ([.int a0, .int a1, .int a2] : List Value).toArray below meth c H locs 0 0 (rt_Qs below ([.int a0, .int a1, .int a2] : List Value).toArray s r') (F0 m 26 ls []) := by
    intro ls l2 l3 H locs hl hm hS
    unfold B_C_Ranges_pick_26 at hm
    refine lv_iload_n hx hb d_Ranges_pick_26 rfl (lv_at hl 1 rfl) ?_
    refine lv_iload_n hx hb d_Ranges_pick_27 rfl (lv_at hl 0 rfl) ?_
    obtain ⟨v2, h1, hm⟩ := rt_b1s hm
    refine rt_csi (As := [.int l2]) (rest := [.int l3]) rt_X0o ⟨hx, hb, hml, hown, hts⟩ (k_C_Ranges_taintOf l l2 _ h1) (cw_Ranges_taintOf hts (hts _ (rt_m rt_w633)) ⟨Nat.le_of_ble_eq_true rfl, Nat.le_of_ble_eq_true rfl⟩) hS (fun _ h => h) trivial rfl hl.1 rfl (Nat.le_of_ble_eq_true rfl) d_Ranges_pick_28 ⟨Nat.zero_le _, Nat.zero_le _⟩ (fun H locs hk hS => ?_)
    clear hk
    refine lv_ior hx hb d_Ranges_pick_31 ?_
    exact W.iret hx hb hr (fun t ht hW => ⟨⟨_, (), rfl, Option.some.inj hm, trivial⟩, hS.F ht⟩) hS.2.2 d_Ranges_pick_32
  have hB25 : ∀ (ls : Array Slot) (l2 t0 : Int32) (H : Heap) (locs : List Loc), lv_has ls 4 [(2, .int l2)] → B_C_Ranges_pick_25 l2 t0 = some r' → va_S (fun q => s.heap.size ≤ q) s.heap H locs → W p l e ({ frames := 2, cells := 0, slots := 0, locals := 40 } : Room) s m ([.int a0, .int a1, .int a2] : List Value).toArray below meth c H locs 0 0 (rt_Qs below ([.int a0, .int a1, .int a2] : List Value).toArray s r') (F0 m 25 ls [.int t0]) := by
    intro ls l2 t0 H locs hl hm hS
    unfold B_C_Ranges_pick_25 at hm
    refine lv_istore_n hx hb d_Ranges_pick_25 rfl hl (by decide) rfl (fun ls hl => ?_)
    have hl : lv_has ls 4 [(3, .int t0), (2, .int l2)] := hl
    exact hB26 ls l2 t0 _ _ (lv_sub hl [1, 0] rfl) hm hS
  unfold M_C_Ranges_pick at hm
  refine lv_iload_n hx hb d_Ranges_pick_0 rfl (lv_at hl 1 rfl) ?_
  refine lv_istore_n hx hb d_Ranges_pick_1 rfl hl (by decide) rfl (fun ls hl => ?_)
  have hl : lv_has ls 4 [(3, .int a1), (0, .int a0), (1, .int a1), (2, .int a2)] := hl
  refine lv_iload_n hx hb d_Ranges_pick_2 rfl (lv_at hl 3 rfl) ?_
  obtain ⟨v4, h3, hm⟩ := rt_b1s hm
  refine rt_csi (As := [.int a2]) (rest := []) rt_X0o ⟨hx, hb, hml, hown, hts⟩ (k_C_Ranges_canBeOther l a2 _ h3) (cw_Ranges_canBeOther hts (hts _ (rt_m rt_w630)) ⟨Nat.le_of_ble_eq_true rfl, Nat.le_of_ble_eq_true rfl⟩) hS (fun _ h => h) trivial rfl hl.1 rfl (Nat.le_of_ble_eq_true rfl) d_Ranges_pick_3 ⟨Nat.zero_le _, Nat.zero_le _⟩ (fun H locs hk hS => ?_)
  clear hk
  refine lv_if_eq (tgt := 26) hx hb d_Ranges_pick_6 (by decide) (fun hc => ?_) (fun hc => ?_)
  · have hm := (if_pos hc).symm.trans hm
    exact hB26 ls a2 a1 _ _ (lv_sub hl [3, 0] rfl) hm hS
  · have hm := (if_neg hc).symm.trans hm
    refine lv_iload_n hx hb d_Ranges_pick_9 rfl (lv_at hl 3 rfl) ?_
    obtain ⟨v6, h5, hm⟩ := rt_b1s hm
    refine rt_csi (As := [.int a2]) (rest := []) rt_X0o ⟨hx, hb, hml, hown, hts⟩ (k_C_Ranges_canBeZero l a2 _ h5) (cw_Ranges_canBeZero hts (hts _ (rt_m rt_w631)) ⟨Nat.le_of_ble_eq_true rfl, Nat.le_of_ble_eq_true rfl⟩) hS (fun _ h => h) trivial rfl hl.1 rfl (Nat.le_of_ble_eq_true rfl) d_Ranges_pick_10 ⟨Nat.zero_le _, Nat.zero_le _⟩ (fun H locs hk hS => ?_)
    clear hk
    refine lv_if_eq (tgt := 24) hx hb d_Ranges_pick_13 (by decide) (fun hc => ?_) (fun hc => ?_)
    · have hm := (if_pos hc).symm.trans hm
      refine lv_iload_n hx hb d_Ranges_pick_24 rfl (lv_at hl 1 rfl) ?_
      exact hB25 ls a2 a0 _ _ (lv_sub hl [3] rfl) hm hS
    · have hm := (if_neg hc).symm.trans hm
      refine lv_iload_n hx hb d_Ranges_pick_16 rfl (lv_at hl 1 rfl) ?_
      refine lv_iload_n hx hb d_Ranges_pick_17 rfl (lv_at hl 2 rfl) ?_
      obtain ⟨v8, h7, hm⟩ := rt_b1s hm
      refine rt_csi (As := [.int a0, .int a1]) (rest := []) rt_X0o ⟨hx, hb, hml, hown, hts⟩ (k_C_Ranges_join l a0 a1 _ h7) (cw_Ranges_join hts (hts _ (rt_m rt_w632)) ⟨Nat.le_of_ble_eq_true rfl, Nat.le_of_ble_eq_true rfl⟩) hS (fun _ h => h) trivial rfl hl.1 rfl (Nat.le_of_ble_eq_true rfl) d_Ranges_pick_18 ⟨Nat.zero_le _, Nat.zero_le _⟩ (fun H locs hk hS => ?_)
      clear hk
      refine lv_goto (tgt := 25) hx hb d_Ranges_pick_21 (by decide) ?_
      exact hB25 ls a2 v8 _ _ (lv_sub hl [3] rfl) hm hS
set_option maxHeartbeats 4000000 in
set_option maxRecDepth 100000 in
theorem k_C_Foreteller_pick (l : Launch) (D : va_G) (cI cZ : ClassId) (A : Nat → Nat) (hO : rt_Ok (rtC_W cI cZ A)) (σ : rt_St) (σ' : rt_St) (hm : M_C_Foreteller_pick σ = some σ') (sz : Nat) : Met l y_Foreteller_pick (rt_ws y_Foreteller_pick b_Foreteller_pick 4 none) ({ frames := 3, cells := 0, slots := 0, locals := 63 } : Room) (va_Pc [.ref (A 29)] (rt_P D rt_cl (rt_t cI cZ) rtC_X (rtC_W cI cZ A) sz σ)) (va_Qv (fun u1 => u1 = σ') (rt_B D rt_cl (rt_t cI cZ) rtC_X (rtC_W cI cZ A)) (rt_A (rtC_W cI cZ A) sz)) 0 0 (rt_A (rtC_W cI cZ A) sz) := by
  refine Met.ofW (cc := b_Foreteller_pick) (maxL := 4) (ret := none) (by decide) rfl ?_
  intro p e s m args below meth c s₁ B hml hv
  obtain ⟨rfl, rfl, hP, hK, hX⟩ := hv
  have hx := B.exec
  have hb := B.bytes
  have hr := B.returns
  have hts := atoms_spec (ws := (rt_ws y_Foreteller_pick b_Foreteller_pick 4 none)) B.pre
  have hown : s.vm.findClass "RangeTeller$Foreteller" = some m.cls := findClass_of_methodNamed B.named
  have hlocks := B.notSynchronized
  have hD := rt_hD hO s.heap.size
  have hS : va_S (rt_A (rtC_W cI cZ A) s.heap.size) s.heap s.heap [] := va_S.rf
  have hl := lv_entry ([.ref (A 29)]) (n := 4) (Nat.le_of_ble_eq_true rfl)
  rw [lg_entry_eq]
  generalize (lg_sl ([.ref (A 29)]) ++ List.replicate (4 - (lg_sl ([.ref (A 29)])).length) Slot.unset).toArray = ls at hl ⊢
  have hl : lv_has ls 4 [(0, .ref (A 29))] := hl
  show W p l e ({ frames := 3, cells := 0, slots := 0, locals := 63 } : Room) s m ([.ref (A 29)] : List Value).toArray below meth c s.heap [] 0 0 (rt_Qv D rt_cl (rt_t cI cZ) rtC_X (rtC_W cI cZ A) below ([.ref (A 29)] : List Value).toArray s σ') (F0 m 0 ls [])
  unfold M_C_Foreteller_pick at hm
  refine lv_aload_n hx hb d_Foreteller_pick_0 rfl (lv_at hl 0 rfl) ?_
  obtain ⟨v3, σ2, h1, hm⟩ := rt_b2s hm
  refine rt_cvi (As := []) (rest := []) (k := 29) rtC_Xo ⟨hx, hb, hml, hown, hts⟩ (k_C_Foreteller_pop l D cI cZ A hO σ _ _ h1) (cw_Foreteller_pop hts (hts _ (rt_m rt_w583)) ⟨Nat.le_of_ble_eq_true rfl, Nat.le_of_ble_eq_true rfl⟩) hK hP hS hX rfl rfl rfl hl.1 rfl (Nat.le_of_ble_eq_true rfl) d_Foreteller_pick_1 ⟨Nat.zero_le _, Nat.zero_le _⟩ (fun H locs hP hS => ?_)
  refine lv_istore_n hx hb d_Foreteller_pick_4 rfl hl (by decide) rfl (fun ls hl => ?_)
  have hl : lv_has ls 4 [(1, .int v3), (0, .ref (A 29))] := hl
  refine lv_aload_n hx hb d_Foreteller_pick_5 rfl (lv_at hl 1 rfl) ?_
  obtain ⟨v6, σ5, h4, hm⟩ := rt_b2s hm
  refine rt_cvi (As := []) (rest := []) (k := 29) rtC_Xo ⟨hx, hb, hml, hown, hts⟩ (k_C_Foreteller_pop l D cI cZ A hO σ2 _ _ h4) (cw_Foreteller_pop hts (hts _ (rt_m rt_w583)) ⟨Nat.le_of_ble_eq_true rfl, Nat.le_of_ble_eq_true rfl⟩) hK hP hS hX rfl rfl rfl hl.1 rfl (Nat.le_of_ble_eq_true rfl) d_Foreteller_pick_6 ⟨Nat.zero_le _, Nat.zero_le _⟩ (fun H locs hP hS => ?_)
  refine lv_istore_n hx hb d_Foreteller_pick_9 rfl hl (by decide) rfl (fun ls hl => ?_)
  have hl : lv_has ls 4 [(2, .int v6), (1, .int v3), (0, .ref (A 29))] := hl
  refine lv_aload_n hx hb d_Foreteller_pick_10 rfl (lv_at hl 2 rfl) ?_
  obtain ⟨v9, σ8, h7, hm⟩ := rt_b2s hm
  refine rt_cvi (As := []) (rest := []) (k := 29) rtC_Xo ⟨hx, hb, hml, hown, hts⟩ (k_C_Foreteller_pop l D cI cZ A hO σ5 _ _ h7) (cw_Foreteller_pop hts (hts _ (rt_m rt_w583)) ⟨Nat.le_of_ble_eq_true rfl, Nat.le_of_ble_eq_true rfl⟩) hK hP hS hX rfl rfl rfl hl.1 rfl (Nat.le_of_ble_eq_true rfl) d_Foreteller_pick_11 ⟨Nat.zero_le _, Nat.zero_le _⟩ (fun H locs hP hS => ?_)
  refine lv_istore_n hx hb d_Foreteller_pick_14 rfl hl (by decide) rfl (fun ls hl => ?_)
  have hl : lv_has ls 4 [(3, .int v9), (2, .int v6), (1, .int v3), (0, .ref (A 29))] := hl
  refine lv_aload_n hx hb d_Foreteller_pick_15 rfl (lv_at hl 3 rfl) ?_
  refine lv_iload_n hx hb d_Foreteller_pick_16 rfl (lv_at hl 0 rfl) ?_
  refine lv_iload_n hx hb d_Foreteller_pick_17 rfl (lv_at hl 1 rfl) ?_
  refine lv_iload_n hx hb d_Foreteller_pick_18 rfl (lv_at hl 2 rfl) ?_
  obtain ⟨v11, h10, hm⟩ := rt_b1s hm
  refine rt_csi (As := [.int v9, .int v6, .int v3]) (rest := [.ref (A 29)]) rt_X0o ⟨hx, hb, hml, hown, hts⟩ (k_C_Ranges_pick l v9 v6 v3 _ h10) (cw_Ranges_pick hts (hts _ (rt_m rt_w627)) ⟨Nat.le_of_ble_eq_true rfl, Nat.le_of_ble_eq_true rfl⟩) hS (fun _ h => Or.inr h) trivial rfl hl.1 rfl (Nat.le_of_ble_eq_true rfl) d_Foreteller_pick_19 ⟨Nat.zero_le _, Nat.zero_le _⟩ (fun H locs hk hS => ?_)
  have hP := rt_keep hP hk
  clear hk
  obtain ⟨σ13, h12, hm⟩ := rt_b1s hm
  refine rt_cvv (As := [.int v11]) (rest := []) (k := 29) rtC_Xo ⟨hx, hb, hml, hown, hts⟩ (k_C_Foreteller_push l D cI cZ A hO σ8 v11 _ h12) (cw_Foreteller_push hts (hts _ (rt_m rt_w615)) ⟨Nat.le_of_ble_eq_true rfl, Nat.le_of_ble_eq_true rfl⟩) hK hP hS hX rfl rfl rfl hl.1 rfl (Nat.le_of_ble_eq_true rfl) d_Foreteller_pick_22 ⟨Nat.zero_le _, Nat.zero_le _⟩ (fun H locs hP hS => ?_)
  exact W.vret hx hb hr (fun t ht hW => ⟨⟨_, rfl, Option.some.inj hm, rt_end rtC_Xo hK hP hS hX ht hW⟩, hS.F ht⟩) hS.2.2 d_Foreteller_pick_25
set_option maxHeartbeats 4000000 in
set_option maxRecDepth 100000 in
theorem k_C_Foreteller_operate (l : Launch) (D : va_G) (cI cZ : ClassId) (A : Nat → Nat) (hO : rt_Ok (rtC_W cI cZ A)) (σ : rt_St) (a1 a2 : Int32) (r' : Int32) (σ' : rt_St) (hm : M_C_Foreteller_operate σ a1 a2 = some (r', σ')) (sz : Nat) : Met l y_Foreteller_operate (rt_ws y_Foreteller_operate b_Foreteller_operate 3 (some .boolean)) ({ frames := 4, cells := 0, slots := 0, locals := 94 } : Room) (va_Pc [.ref (A 29), .int a1, .int a2] (rt_P D rt_cl (rt_t cI cZ) rtC_X (rtC_W cI cZ A) sz σ)) (va_Qi (fun r1 u1 => r1 = r' ∧ u1 = σ') (rt_B D rt_cl (rt_t cI cZ) rtC_X (rtC_W cI cZ A)) (rt_A (rtC_W cI cZ A) sz)) 0 0 (rt_A (rtC_W cI cZ A) sz) := by
  refine Met.ofW (cc := b_Foreteller_operate) (maxL := 3) (ret := (some .boolean)) (by decide) rfl ?_
  intro p e s m args below meth c s₁ B hml hv
  obtain ⟨rfl, rfl, hP, hK, hX⟩ := hv
  have hx := B.exec
  have hb := B.bytes
  have hr := B.returns
  have hts := atoms_spec (ws := (rt_ws y_Foreteller_operate b_Foreteller_operate 3 (some .boolean))) B.pre
  have hown : s.vm.findClass "RangeTeller$Foreteller" = some m.cls := findClass_of_methodNamed B.named
  have hlocks := B.notSynchronized
  have hD := rt_hD hO s.heap.size
  have hS : va_S (rt_A (rtC_W cI cZ A) s.heap.size) s.heap s.heap [] := va_S.rf
  have hl := lv_entry ([.ref (A 29), .int a1, .int a2]) (n := 3) (Nat.le_of_ble_eq_true rfl)
  rw [lg_entry_eq]
  generalize (lg_sl ([.ref (A 29), .int a1, .int a2]) ++ List.replicate (3 - (lg_sl ([.ref (A 29), .int a1, .int a2])).length) Slot.unset).toArray = ls at hl ⊢
  have hl : lv_has ls 3 [(0, .ref (A 29)), (1, .int a1), (2, .int a2)] := hl
  show W p l e ({ frames := 4, cells := 0, slots := 0, locals := 94 } : Room) s m ([.ref (A 29), .int a1, .int a2] : List Value).toArray below meth c s.heap [] 0 0 (rt_Qi D rt_cl (rt_t cI cZ) rtC_X (rtC_W cI cZ A) below ([.ref (A 29), .int a1, .int a2] : List Value).toArray s r' σ') (F0 m 0 ls [])
  unfold M_C_Foreteller_operate at hm
  refine lv_iload_n hx hb d_Foreteller_operate_0 rfl (lv_at hl 1 rfl) ?_
  by_cases c1 : a1 = 10
  · have hm := (if_pos c1).symm.trans hm
    refine lv_tableIn (off := 91) (tgt := 92) hx hb d_Foreteller_operate_1 (by rw [c1]; decide) (by rw [c1]; decide) (by rw [c1]; rfl) (by decide) ?_
    refine lv_aload_n hx hb d_Foreteller_operate_92 rfl (lv_at hl 0 rfl) ?_
    obtain ⟨v4, σ3, h2, hm⟩ := rt_b2s hm
    refine rt_cvi (As := []) (rest := []) (k := 29) rtC_Xo ⟨hx, hb, hml, hown, hts⟩ (k_C_Foreteller_pop l D cI cZ A hO σ _ _ h2) (cw_Foreteller_pop hts (hts _ (rt_m rt_w583)) ⟨Nat.le_of_ble_eq_true rfl, Nat.le_of_ble_eq_true rfl⟩) hK hP hS hX rfl rfl rfl hl.1 rfl (Nat.le_of_ble_eq_true rfl) d_Foreteller_operate_93 ⟨Nat.zero_le _, Nat.zero_le _⟩ (fun H locs hP hS => ?_)
    refine lv_pop hx hb d_Foreteller_operate_96 rfl ?_
    refine lv_iconst (v := 1) hx hb d_Foreteller_operate_97 (by decide) ?_
    exact W.zret hx hb hr rfl (fun t ht hW => ⟨⟨_, _, rfl, rt_pr hm, rt_end rtC_Xo hK hP hS hX ht hW⟩, hS.F ht⟩) hS.2.2 d_Foreteller_operate_98
  have hm := (if_neg c1).symm.trans hm
  by_cases c5 : a1 = 11
  · have hm := (if_pos c5).symm.trans hm
    refine lv_tableIn (off := 98) (tgt := 99) hx hb d_Foreteller_operate_1 (by rw [c5]; decide) (by rw [c5]; decide) (by rw [c5]; rfl) (by decide) ?_
    refine lv_aload_n hx hb d_Foreteller_operate_99 rfl (lv_at hl 0 rfl) ?_
    obtain ⟨σ7, h6, hm⟩ := rt_b1s hm
    refine rt_cvv (As := []) (rest := []) (k := 29) rtC_Xo ⟨hx, hb, hml, hown, hts⟩ (k_C_Foreteller_pick l D cI cZ A hO σ _ h6) (cw_Foreteller_pick hts (hts _ (rt_m rt_w623)) ⟨Nat.le_of_ble_eq_true rfl, Nat.le_of_ble_eq_true rfl⟩) hK hP hS hX rfl rfl rfl hl.1 rfl (Nat.le_of_ble_eq_true rfl) d_Foreteller_operate_100 ⟨Nat.zero_le _, Nat.zero_le _⟩ (fun H locs hP hS => ?_)
    refine lv_iconst (v := 1) hx hb d_Foreteller_operate_103 (by decide) ?_
    exact W.zret hx hb hr rfl (fun t ht hW => ⟨⟨_, _, rfl, rt_pr hm, rt_end rtC_Xo hK hP hS hX ht hW⟩, hS.F ht⟩) hS.2.2 d_Foreteller_operate_104
  have hm := (if_neg c5).symm.trans hm
  by_cases c8 : a1 = 12
  · have hm := (if_pos c8).symm.trans hm
    refine lv_tableIn (off := 104) (tgt := 105) hx hb d_Foreteller_operate_1 (by rw [c8]; decide) (by rw [c8]; decide) (by rw [c8]; rfl) (by decide) ?_
    refine lv_aload_n hx hb d_Foreteller_operate_105 rfl (lv_at hl 0 rfl) ?_
    refine lv_aload_n hx hb d_Foreteller_operate_106 rfl (lv_at hl 0 rfl) ?_
    refine va_get (D := D) (v := .ref (A 40)) (C := "RangeTeller$Foreteller") (T := rt_T5) (N := 13) hx hb hts rt_i5 hown hK hP 29 rfl rfl 11 (by decide) (hts _ (rt_m rt_w349)) (fun _ h9 => h9) rfl d_Foreteller_operate_107 ?_
    refine lv_iload_n hx hb d_Foreteller_operate_110 rfl (lv_at hl 2 rfl) ?_
    obtain ⟨v9, h10, hm⟩ := rt_b1s hm
    refine rt_ald hx hb hK hP 40 0 rfl rfl h10 d_Foreteller_operate_111 ?_
    obtain ⟨σ12, h11, hm⟩ := rt_b1s hm
    refine rt_cvv (As := [.int v9]) (rest := []) (k := 29) rtC_Xo ⟨hx, hb, hml, hown, hts⟩ (k_C_Foreteller_push l D cI cZ A hO σ v9 _ h11) (cw_Foreteller_push hts (hts _ (rt_m rt_w615)) ⟨Nat.le_of_ble_eq_true rfl, Nat.le_of_ble_eq_true rfl⟩) hK hP hS hX rfl rfl rfl hl.1 rfl (Nat.le_of_ble_eq_true rfl) d_Foreteller_operate_112 ⟨Nat.zero_le _, Nat.zero_le _⟩ (fun H locs hP hS => ?_)
    refine lv_iconst (v := 1) hx hb d_Foreteller_operate_115 (by decide) ?_
    exact W.zret hx hb hr rfl (fun t ht hW => ⟨⟨_, _, rfl, rt_pr hm, rt_end rtC_Xo hK hP hS hX ht hW⟩, hS.F ht⟩) hS.2.2 d_Foreteller_operate_116
  have hm := (if_neg c8).symm.trans hm
  by_cases c13 : a1 = 13
  · have hm := (if_pos c13).symm.trans hm
    refine lv_tableIn (off := 116) (tgt := 117) hx hb d_Foreteller_operate_1 (by rw [c13]; decide) (by rw [c13]; decide) (by rw [c13]; rfl) (by decide) ?_
    refine lv_aload_n hx hb d_Foreteller_operate_117 rfl (lv_at hl 0 rfl) ?_
    refine va_get (D := D) (v := .ref (A 40)) (C := "RangeTeller$Foreteller") (T := rt_T5) (N := 13) hx hb hts rt_i5 hown hK hP 29 rfl rfl 11 (by decide) (hts _ (rt_m rt_w349)) (fun _ h9 => h9) rfl d_Foreteller_operate_118 ?_
    refine lv_iload_n hx hb d_Foreteller_operate_121 rfl (lv_at hl 2 rfl) ?_
    refine lv_aload_n hx hb d_Foreteller_operate_122 rfl (lv_at hl 0 rfl) ?_
    obtain ⟨v16, σ15, h14, hm⟩ := rt_b2s hm
    refine rt_cvi (As := []) (rest := [.int a2, .ref (A 40)]) (k := 29) rtC_Xo ⟨hx, hb, hml, hown, hts⟩ (k_C_Foreteller_pop l D cI cZ A hO σ _ _ h14) (cw_Foreteller_pop hts (hts _ (rt_m rt_w583)) ⟨Nat.le_of_ble_eq_true rfl, Nat.le_of_ble_eq_true rfl⟩) hK hP hS hX rfl rfl rfl hl.1 rfl (Nat.le_of_ble_eq_true rfl) d_Foreteller_operate_123 ⟨Nat.zero_le _, Nat.zero_le _⟩ (fun H locs hP hS => ?_)
    obtain ⟨σ17, h18, hm⟩ := rt_b1s hm
    refine rt_ast hx hb hK hP hD hS 40 0 rfl (rtC_a40 cI cZ A _) rfl h18 d_Foreteller_operate_126 (fun H locs hP hS => ?_)
    refine lv_iconst (v := 1) hx hb d_Foreteller_operate_127 (by decide) ?_
    exact W.zret hx hb hr rfl (fun t ht hW => ⟨⟨_, _, rfl, rt_pr hm, rt_end rtC_Xo hK hP hS hX ht hW⟩, hS.F ht⟩) hS.2.2 d_Foreteller_operate_128
  have hm := (if_neg c13).symm.trans hm
  by_cases c19 : a1 = 14
  · have hm := (if_pos c19).symm.trans hm
    refine lv_tableIn (off := 128) (tgt := 129) hx hb d_Foreteller_operate_1 (by rw [c19]; decide) (by rw [c19]; decide) (by rw [c19]; rfl) (by decide) ?_
    refine lv_aload_n hx hb d_Foreteller_operate_129 rfl (lv_at hl 0 rfl) ?_
    refine va_get (D := D) (v := .ref (A 40)) (C := "RangeTeller$Foreteller") (T := rt_T5) (N := 13) hx hb hts rt_i5 hown hK hP 29 rfl rfl 11 (by decide) (hts _ (rt_m rt_w349)) (fun _ h9 => h9) rfl d_Foreteller_operate_130 ?_
    refine lv_iload_n hx hb d_Foreteller_operate_133 rfl (lv_at hl 2 rfl) ?_
    refine lv_aload_n hx hb d_Foreteller_operate_134 rfl (lv_at hl 0 rfl) ?_
    refine va_get (D := D) (v := .ref (A 39)) (C := "RangeTeller$Foreteller") (T := rt_T5) (N := 13) hx hb hts rt_i5 hown hK hP 29 rfl rfl 10 (by decide) (hts _ (rt_m rt_w348)) (fun _ h9 => h9) rfl d_Foreteller_operate_135 ?_
    refine lv_aload_n hx hb d_Foreteller_operate_138 rfl (lv_at hl 0 rfl) ?_
    refine va_get (D := D) (v := .int (σ 29 12)) (C := "RangeTeller$Foreteller") (T := rt_T5) (N := 13) hx hb hts rt_i5 hown hK hP 29 rfl rfl 12 (by decide) (hts _ (rt_m rt_w350)) (fun _ h9 => h9) rfl d_Foreteller_operate_139 ?_
    refine lv_iconst (v := 1) hx hb d_Foreteller_operate_142 (by decide) ?_
    refine lv_isub hx hb d_Foreteller_operate_143 ?_
    obtain ⟨v20, h21, hm⟩ := rt_b1s hm
    refine rt_ald hx hb hK hP 39 0 rfl rfl h21 d_Foreteller_operate_144 ?_
    obtain ⟨σ22, h23, hm⟩ := rt_b1s hm
    refine rt_ast hx hb hK hP hD hS 40 0 rfl (rtC_a40 cI cZ A _) rfl h23 d_Foreteller_operate_145 (fun H locs hP hS => ?_)
    refine lv_iconst (v := 1) hx hb d_Foreteller_operate_146 (by decide) ?_
    exact W.zret hx hb hr rfl (fun t ht hW => ⟨⟨_, _, rfl, rt_pr hm, rt_end rtC_Xo hK hP hS hX ht hW⟩, hS.F ht⟩) hS.2.2 d_Foreteller_operate_147
  have hm := (if_neg c19).symm.trans hm
  by_cases c24 : a1 = 15
  · have hm := (if_pos c24).symm.trans hm
    refine lv_tableIn (off := 147) (tgt := 148) hx hb d_Foreteller_operate_1 (by rw [c24]; decide) (by rw [c24]; decide) (by rw [c24]; rfl) (by decide) ?_
    refine lv_aload_n hx hb d_Foreteller_operate_148 rfl (lv_at hl 0 rfl) ?_
    refine lv_iload_n hx hb d_Foreteller_operate_149 rfl (lv_at hl 2 rfl) ?_
    obtain ⟨v27, σ26, h25, hm⟩ := rt_b2s hm
    refine rt_cvi (As := [.int a2]) (rest := []) (k := 29) rtC_Xo ⟨hx, hb, hml, hown, hts⟩ (k_C_Foreteller_fetch l D cI cZ A hO σ a2 _ _ h25) (cw_Foreteller_fetch hts (hts _ (rt_m rt_w636)) ⟨Nat.le_of_ble_eq_true rfl, Nat.le_of_ble_eq_true rfl⟩) hK hP hS hX rfl rfl rfl hl.1 rfl (Nat.le_of_ble_eq_true rfl) d_Foreteller_operate_150 ⟨Nat.zero_le _, Nat.zero_le _⟩ (fun H locs hP hS => ?_)
    obtain ⟨_, h28, hm⟩ := rt_b1s hm
    exact W.zret hx hb hr (rt_zoks h28) (fun t ht hW => ⟨⟨_, _, rfl, rt_pr hm, rt_end rtC_Xo hK hP hS hX ht hW⟩, hS.F ht⟩) hS.2.2 d_Foreteller_operate_153
  have hm := (if_neg c24).symm.trans hm
  by_cases c29 : a1 = 16
  · have hm := (if_pos c29).symm.trans hm
    refine lv_tableIn (off := 153) (tgt := 154) hx hb d_Foreteller_operate_1 (by rw [c29]; decide) (by rw [c29]; decide) (by rw [c29]; rfl) (by decide) ?_
    refine lv_aload_n hx hb d_Foreteller_operate_154 rfl (lv_at hl 0 rfl) ?_
    refine lv_iload_n hx hb d_Foreteller_operate_155 rfl (lv_at hl 2 rfl) ?_
    obtain ⟨v32, σ31, h30, hm⟩ := rt_b2s hm
    refine rt_cvi (As := [.int a2]) (rest := []) (k := 29) rtC_Xo ⟨hx, hb, hml, hown, hts⟩ (k_C_Foreteller_store l D cI cZ A hO σ a2 _ _ h30) (cw_Foreteller_store hts (hts _ (rt_m rt_w646)) ⟨Nat.le_of_ble_eq_true rfl, Nat.le_of_ble_eq_true rfl⟩) hK hP hS hX rfl rfl rfl hl.1 rfl (Nat.le_of_ble_eq_true rfl) d_Foreteller_operate_156 ⟨Nat.zero_le _, Nat.zero_le _⟩ (fun H locs hP hS => ?_)
    obtain ⟨_, h33, hm⟩ := rt_b1s hm
    exact W.zret hx hb hr (rt_zoks h33) (fun t ht hW => ⟨⟨_, _, rfl, rt_pr hm, rt_end rtC_Xo hK hP hS hX ht hW⟩, hS.F ht⟩) hS.2.2 d_Foreteller_operate_159
  have hm := (if_neg c29).symm.trans hm
  by_cases c34 : a1 = 17
  · have hm := (if_pos c34).symm.trans hm
    refine lv_tableIn (off := 159) (tgt := 160) hx hb d_Foreteller_operate_1 (by rw [c34]; decide) (by rw [c34]; decide) (by rw [c34]; rfl) (by decide) ?_
    refine lv_aload_n hx hb d_Foreteller_operate_160 rfl (lv_at hl 0 rfl) ?_
    refine lv_iload_n hx hb d_Foreteller_operate_161 rfl (lv_at hl 2 rfl) ?_
    refine lv_iload_n hx hb d_Foreteller_operate_162 rfl (lv_at hl 2 rfl) ?_
    obtain ⟨v36, h35, hm⟩ := rt_b1s hm
    refine rt_csi (As := [.int a2, .int a2]) (rest := [.ref (A 29)]) rt_X0o ⟨hx, hb, hml, hown, hts⟩ (k_C_Ranges_of l a2 a2 _ h35) (cw_Ranges_of hts (hts _ (rt_m rt_w650)) ⟨Nat.le_of_ble_eq_true rfl, Nat.le_of_ble_eq_true rfl⟩) hS (fun _ h => Or.inr h) trivial rfl hl.1 rfl (Nat.le_of_ble_eq_true rfl) d_Foreteller_operate_163 ⟨Nat.zero_le _, Nat.zero_le _⟩ (fun H locs hk hS => ?_)
    have hP := rt_keep hP hk
    clear hk
    obtain ⟨σ38, h37, hm⟩ := rt_b1s hm
    refine rt_cvv (As := [.int v36]) (rest := []) (k := 29) rtC_Xo ⟨hx, hb, hml, hown, hts⟩ (k_C_Foreteller_push l D cI cZ A hO σ v36 _ h37) (cw_Foreteller_push hts (hts _ (rt_m rt_w615)) ⟨Nat.le_of_ble_eq_true rfl, Nat.le_of_ble_eq_true rfl⟩) hK hP hS hX rfl rfl rfl hl.1 rfl (Nat.le_of_ble_eq_true rfl) d_Foreteller_operate_166 ⟨Nat.zero_le _, Nat.zero_le _⟩ (fun H locs hP hS => ?_)
    refine lv_iconst (v := 1) hx hb d_Foreteller_operate_169 (by decide) ?_
    exact W.zret hx hb hr rfl (fun t ht hW => ⟨⟨_, _, rfl, rt_pr hm, rt_end rtC_Xo hK hP hS hX ht hW⟩, hS.F ht⟩) hS.2.2 d_Foreteller_operate_170
  have hm := (if_neg c34).symm.trans hm
  by_cases c39 : a1 = 18
  · have hm := (if_pos c39).symm.trans hm
    refine lv_tableIn (off := 170) (tgt := 171) hx hb d_Foreteller_operate_1 (by rw [c39]; decide) (by rw [c39]; decide) (by rw [c39]; rfl) (by decide) ?_
    refine lv_aload_n hx hb d_Foreteller_operate_171 rfl (lv_at hl 0 rfl) ?_
    refine lv_aload_n hx hb d_Foreteller_operate_172 rfl (lv_at hl 0 rfl) ?_
    obtain ⟨v42, σ41, h40, hm⟩ := rt_b2s hm
    refine rt_cvi (As := []) (rest := [.ref (A 29)]) (k := 29) rtC_Xo ⟨hx, hb, hml, hown, hts⟩ (k_C_Foreteller_pop l D cI cZ A hO σ _ _ h40) (cw_Foreteller_pop hts (hts _ (rt_m rt_w583)) ⟨Nat.le_of_ble_eq_true rfl, Nat.le_of_ble_eq_true rfl⟩) hK hP hS hX rfl rfl rfl hl.1 rfl (Nat.le_of_ble_eq_true rfl) d_Foreteller_operate_173 ⟨Nat.zero_le _, Nat.zero_le _⟩ (fun H locs hP hS => ?_)
    obtain ⟨v44, h43, hm⟩ := rt_b1s hm
    refine rt_csi (As := [.int v42]) (rest := [.ref (A 29)]) rt_X0o ⟨hx, hb, hml, hown, hts⟩ (k_C_Ranges_not l v42 _ h43) (cw_Ranges_not hts (hts _ (rt_m rt_w653)) ⟨Nat.le_of_ble_eq_true rfl, Nat.le_of_ble_eq_true rfl⟩) hS (fun _ h => Or.inr h) trivial rfl hl.1 rfl (Nat.le_of_ble_eq_true rfl) d_Foreteller_operate_176 ⟨Nat.zero_le _, Nat.zero_le _⟩ (fun H locs hk hS => ?_)
    have hP := rt_keep hP hk
    clear hk
    obtain ⟨σ46, h45, hm⟩ := rt_b1s hm
    refine rt_cvv (As := [.int v44]) (rest := []) (k := 29) rtC_Xo ⟨hx, hb, hml, hown, hts⟩ (k_C_Foreteller_push l D cI cZ A hO σ41 v44 _ h45) (cw_Foreteller_push hts (hts _ (rt_m rt_w615)) ⟨Nat.le_of_ble_eq_true rfl, Nat.le_of_ble_eq_true rfl⟩) hK hP hS hX rfl rfl rfl hl.1 rfl (Nat.le_of_ble_eq_true rfl) d_Foreteller_operate_179 ⟨Nat.zero_le _, Nat.zero_le _⟩ (fun H locs hP hS => ?_)
    refine lv_iconst (v := 1) hx hb d_Foreteller_operate_182 (by decide) ?_
    exact W.zret hx hb hr rfl (fun t ht hW => ⟨⟨_, _, rfl, rt_pr hm, rt_end rtC_Xo hK hP hS hX ht hW⟩, hS.F ht⟩) hS.2.2 d_Foreteller_operate_183
  have hm := (if_neg c39).symm.trans hm
  by_cases c47 : a1 = 19
  · have hm := (if_pos c47).symm.trans hm
    refine lv_tableIn (off := 192) (tgt := 193) hx hb d_Foreteller_operate_1 (by rw [c47]; decide) (by rw [c47]; decide) (by rw [c47]; rfl) (by decide) ?_
    refine lv_aload_n hx hb d_Foreteller_operate_193 rfl (lv_at hl 0 rfl) ?_
    refine lv_iload_n hx hb d_Foreteller_operate_194 rfl (lv_at hl 1 rfl) ?_
    obtain ⟨v50, σ49, h48, hm⟩ := rt_b2s hm
    refine rt_cvi (As := [.int a1]) (rest := []) (k := 29) rtC_Xo ⟨hx, hb, hml, hown, hts⟩ (k_C_Foreteller_reckon l D cI cZ A hO σ a1 _ _ h48) (cw_Foreteller_reckon hts (hts _ (rt_m rt_w660)) ⟨Nat.le_of_ble_eq_true rfl, Nat.le_of_ble_eq_true rfl⟩) hK hP hS hX rfl rfl rfl hl.1 rfl (Nat.le_of_ble_eq_true rfl) d_Foreteller_operate_195 ⟨Nat.zero_le _, Nat.zero_le _⟩ (fun H locs hP hS => ?_)
    obtain ⟨_, h51, hm⟩ := rt_b1s hm
    exact W.zret hx hb hr (rt_zoks h51) (fun t ht hW => ⟨⟨_, _, rfl, rt_pr hm, rt_end rtC_Xo hK hP hS hX ht hW⟩, hS.F ht⟩) hS.2.2 d_Foreteller_operate_198
  have hm := (if_neg c47).symm.trans hm
  by_cases c52 : a1 = 20
  · have hm := (if_pos c52).symm.trans hm
    refine lv_tableIn (off := 192) (tgt := 193) hx hb d_Foreteller_operate_1 (by rw [c52]; decide) (by rw [c52]; decide) (by rw [c52]; rfl) (by decide) ?_
    refine lv_aload_n hx hb d_Foreteller_operate_193 rfl (lv_at hl 0 rfl) ?_
    refine lv_iload_n hx hb d_Foreteller_operate_194 rfl (lv_at hl 1 rfl) ?_
    obtain ⟨v55, σ54, h53, hm⟩ := rt_b2s hm
    refine rt_cvi (As := [.int a1]) (rest := []) (k := 29) rtC_Xo ⟨hx, hb, hml, hown, hts⟩ (k_C_Foreteller_reckon l D cI cZ A hO σ a1 _ _ h53) (cw_Foreteller_reckon hts (hts _ (rt_m rt_w660)) ⟨Nat.le_of_ble_eq_true rfl, Nat.le_of_ble_eq_true rfl⟩) hK hP hS hX rfl rfl rfl hl.1 rfl (Nat.le_of_ble_eq_true rfl) d_Foreteller_operate_195 ⟨Nat.zero_le _, Nat.zero_le _⟩ (fun H locs hP hS => ?_)
    obtain ⟨_, h56, hm⟩ := rt_b1s hm
    exact W.zret hx hb hr (rt_zoks h56) (fun t ht hW => ⟨⟨_, _, rfl, rt_pr hm, rt_end rtC_Xo hK hP hS hX ht hW⟩, hS.F ht⟩) hS.2.2 d_Foreteller_operate_198
  have hm := (if_neg c52).symm.trans hm
  by_cases c57 : a1 = 21
  · have hm := (if_pos c57).symm.trans hm
    refine lv_tableIn (off := 192) (tgt := 193) hx hb d_Foreteller_operate_1 (by rw [c57]; decide) (by rw [c57]; decide) (by rw [c57]; rfl) (by decide) ?_
    refine lv_aload_n hx hb d_Foreteller_operate_193 rfl (lv_at hl 0 rfl) ?_
    refine lv_iload_n hx hb d_Foreteller_operate_194 rfl (lv_at hl 1 rfl) ?_
    obtain ⟨v60, σ59, h58, hm⟩ := rt_b2s hm
    refine rt_cvi (As := [.int a1]) (rest := []) (k := 29) rtC_Xo ⟨hx, hb, hml, hown, hts⟩ (k_C_Foreteller_reckon l D cI cZ A hO σ a1 _ _ h58) (cw_Foreteller_reckon hts (hts _ (rt_m rt_w660)) ⟨Nat.le_of_ble_eq_true rfl, Nat.le_of_ble_eq_true rfl⟩) hK hP hS hX rfl rfl rfl hl.1 rfl (Nat.le_of_ble_eq_true rfl) d_Foreteller_operate_195 ⟨Nat.zero_le _, Nat.zero_le _⟩ (fun H locs hP hS => ?_)
    obtain ⟨_, h61, hm⟩ := rt_b1s hm
    exact W.zret hx hb hr (rt_zoks h61) (fun t ht hW => ⟨⟨_, _, rfl, rt_pr hm, rt_end rtC_Xo hK hP hS hX ht hW⟩, hS.F ht⟩) hS.2.2 d_Foreteller_operate_198
  have hm := (if_neg c57).symm.trans hm
  by_cases c62 : a1 = 22
  · have hm := (if_pos c62).symm.trans hm
    refine lv_tableIn (off := 192) (tgt := 193) hx hb d_Foreteller_operate_1 (by rw [c62]; decide) (by rw [c62]; decide) (by rw [c62]; rfl) (by decide) ?_
    refine lv_aload_n hx hb d_Foreteller_operate_193 rfl (lv_at hl 0 rfl) ?_
    refine lv_iload_n hx hb d_Foreteller_operate_194 rfl (lv_at hl 1 rfl) ?_
    obtain ⟨v65, σ64, h63, hm⟩ := rt_b2s hm
    refine rt_cvi (As := [.int a1]) (rest := []) (k := 29) rtC_Xo ⟨hx, hb, hml, hown, hts⟩ (k_C_Foreteller_reckon l D cI cZ A hO σ a1 _ _ h63) (cw_Foreteller_reckon hts (hts _ (rt_m rt_w660)) ⟨Nat.le_of_ble_eq_true rfl, Nat.le_of_ble_eq_true rfl⟩) hK hP hS hX rfl rfl rfl hl.1 rfl (Nat.le_of_ble_eq_true rfl) d_Foreteller_operate_195 ⟨Nat.zero_le _, Nat.zero_le _⟩ (fun H locs hP hS => ?_)
    obtain ⟨_, h66, hm⟩ := rt_b1s hm
    exact W.zret hx hb hr (rt_zoks h66) (fun t ht hW => ⟨⟨_, _, rfl, rt_pr hm, rt_end rtC_Xo hK hP hS hX ht hW⟩, hS.F ht⟩) hS.2.2 d_Foreteller_operate_198
  have hm := (if_neg c62).symm.trans hm
  by_cases c67 : a1 = 23
  · have hm := (if_pos c67).symm.trans hm
    refine lv_tableIn (off := 192) (tgt := 193) hx hb d_Foreteller_operate_1 (by rw [c67]; decide) (by rw [c67]; decide) (by rw [c67]; rfl) (by decide) ?_
    refine lv_aload_n hx hb d_Foreteller_operate_193 rfl (lv_at hl 0 rfl) ?_
    refine lv_iload_n hx hb d_Foreteller_operate_194 rfl (lv_at hl 1 rfl) ?_
    obtain ⟨v70, σ69, h68, hm⟩ := rt_b2s hm
    refine rt_cvi (As := [.int a1]) (rest := []) (k := 29) rtC_Xo ⟨hx, hb, hml, hown, hts⟩ (k_C_Foreteller_reckon l D cI cZ A hO σ a1 _ _ h68) (cw_Foreteller_reckon hts (hts _ (rt_m rt_w660)) ⟨Nat.le_of_ble_eq_true rfl, Nat.le_of_ble_eq_true rfl⟩) hK hP hS hX rfl rfl rfl hl.1 rfl (Nat.le_of_ble_eq_true rfl) d_Foreteller_operate_195 ⟨Nat.zero_le _, Nat.zero_le _⟩ (fun H locs hP hS => ?_)
    obtain ⟨_, h71, hm⟩ := rt_b1s hm
    exact W.zret hx hb hr (rt_zoks h71) (fun t ht hW => ⟨⟨_, _, rfl, rt_pr hm, rt_end rtC_Xo hK hP hS hX ht hW⟩, hS.F ht⟩) hS.2.2 d_Foreteller_operate_198
  have hm := (if_neg c67).symm.trans hm
  by_cases c72 : a1 = 24
  · have hm := (if_pos c72).symm.trans hm
    refine lv_tableIn (off := 192) (tgt := 193) hx hb d_Foreteller_operate_1 (by rw [c72]; decide) (by rw [c72]; decide) (by rw [c72]; rfl) (by decide) ?_
    refine lv_aload_n hx hb d_Foreteller_operate_193 rfl (lv_at hl 0 rfl) ?_
    refine lv_iload_n hx hb d_Foreteller_operate_194 rfl (lv_at hl 1 rfl) ?_
    obtain ⟨v75, σ74, h73, hm⟩ := rt_b2s hm
    refine rt_cvi (As := [.int a1]) (rest := []) (k := 29) rtC_Xo ⟨hx, hb, hml, hown, hts⟩ (k_C_Foreteller_reckon l D cI cZ A hO σ a1 _ _ h73) (cw_Foreteller_reckon hts (hts _ (rt_m rt_w660)) ⟨Nat.le_of_ble_eq_true rfl, Nat.le_of_ble_eq_true rfl⟩) hK hP hS hX rfl rfl rfl hl.1 rfl (Nat.le_of_ble_eq_true rfl) d_Foreteller_operate_195 ⟨Nat.zero_le _, Nat.zero_le _⟩ (fun H locs hP hS => ?_)
    obtain ⟨_, h76, hm⟩ := rt_b1s hm
    exact W.zret hx hb hr (rt_zoks h76) (fun t ht hW => ⟨⟨_, _, rfl, rt_pr hm, rt_end rtC_Xo hK hP hS hX ht hW⟩, hS.F ht⟩) hS.2.2 d_Foreteller_operate_198
  have hm := (if_neg c72).symm.trans hm
  by_cases c77 : a1 = 25
  · have hm := (if_pos c77).symm.trans hm
    refine lv_tableIn (off := 192) (tgt := 193) hx hb d_Foreteller_operate_1 (by rw [c77]; decide) (by rw [c77]; decide) (by rw [c77]; rfl) (by decide) ?_
    refine lv_aload_n hx hb d_Foreteller_operate_193 rfl (lv_at hl 0 rfl) ?_
    refine lv_iload_n hx hb d_Foreteller_operate_194 rfl (lv_at hl 1 rfl) ?_
    obtain ⟨v80, σ79, h78, hm⟩ := rt_b2s hm
    refine rt_cvi (As := [.int a1]) (rest := []) (k := 29) rtC_Xo ⟨hx, hb, hml, hown, hts⟩ (k_C_Foreteller_reckon l D cI cZ A hO σ a1 _ _ h78) (cw_Foreteller_reckon hts (hts _ (rt_m rt_w660)) ⟨Nat.le_of_ble_eq_true rfl, Nat.le_of_ble_eq_true rfl⟩) hK hP hS hX rfl rfl rfl hl.1 rfl (Nat.le_of_ble_eq_true rfl) d_Foreteller_operate_195 ⟨Nat.zero_le _, Nat.zero_le _⟩ (fun H locs hP hS => ?_)
    obtain ⟨_, h81, hm⟩ := rt_b1s hm
    exact W.zret hx hb hr (rt_zoks h81) (fun t ht hW => ⟨⟨_, _, rfl, rt_pr hm, rt_end rtC_Xo hK hP hS hX ht hW⟩, hS.F ht⟩) hS.2.2 d_Foreteller_operate_198
  have hm := (if_neg c77).symm.trans hm
  by_cases c82 : a1 = 26
  · have hm := (if_pos c82).symm.trans hm
    refine lv_tableIn (off := 192) (tgt := 193) hx hb d_Foreteller_operate_1 (by rw [c82]; decide) (by rw [c82]; decide) (by rw [c82]; rfl) (by decide) ?_
    refine lv_aload_n hx hb d_Foreteller_operate_193 rfl (lv_at hl 0 rfl) ?_
    refine lv_iload_n hx hb d_Foreteller_operate_194 rfl (lv_at hl 1 rfl) ?_
    obtain ⟨v85, σ84, h83, hm⟩ := rt_b2s hm
    refine rt_cvi (As := [.int a1]) (rest := []) (k := 29) rtC_Xo ⟨hx, hb, hml, hown, hts⟩ (k_C_Foreteller_reckon l D cI cZ A hO σ a1 _ _ h83) (cw_Foreteller_reckon hts (hts _ (rt_m rt_w660)) ⟨Nat.le_of_ble_eq_true rfl, Nat.le_of_ble_eq_true rfl⟩) hK hP hS hX rfl rfl rfl hl.1 rfl (Nat.le_of_ble_eq_true rfl) d_Foreteller_operate_195 ⟨Nat.zero_le _, Nat.zero_le _⟩ (fun H locs hP hS => ?_)
    obtain ⟨_, h86, hm⟩ := rt_b1s hm
    exact W.zret hx hb hr (rt_zoks h86) (fun t ht hW => ⟨⟨_, _, rfl, rt_pr hm, rt_end rtC_Xo hK hP hS hX ht hW⟩, hS.F ht⟩) hS.2.2 d_Foreteller_operate_198
  have hm := (if_neg c82).symm.trans hm
  by_cases c87 : a1 = 27
  · have hm := (if_pos c87).symm.trans hm
    refine lv_tableIn (off := 183) (tgt := 184) hx hb d_Foreteller_operate_1 (by rw [c87]; decide) (by rw [c87]; decide) (by rw [c87]; rfl) (by decide) ?_
    refine lv_aload_n hx hb d_Foreteller_operate_184 rfl (lv_at hl 0 rfl) ?_
    refine lv_sipush (v := 8128) hx hb d_Foreteller_operate_185 (by decide) ?_
    obtain ⟨σ89, h88, hm⟩ := rt_b1s hm
    refine rt_cvv (As := [.int 8128]) (rest := []) (k := 29) rtC_Xo ⟨hx, hb, hml, hown, hts⟩ (k_C_Foreteller_push l D cI cZ A hO σ 8128 _ h88) (cw_Foreteller_push hts (hts _ (rt_m rt_w615)) ⟨Nat.le_of_ble_eq_true rfl, Nat.le_of_ble_eq_true rfl⟩) hK hP hS hX rfl rfl rfl hl.1 rfl (Nat.le_of_ble_eq_true rfl) d_Foreteller_operate_188 ⟨Nat.zero_le _, Nat.zero_le _⟩ (fun H locs hP hS => ?_)
    refine lv_iconst (v := 1) hx hb d_Foreteller_operate_191 (by decide) ?_
    exact W.zret hx hb hr rfl (fun t ht hW => ⟨⟨_, _, rfl, rt_pr hm, rt_end rtC_Xo hK hP hS hX ht hW⟩, hS.F ht⟩) hS.2.2 d_Foreteller_operate_192
  have hm := (if_neg c87).symm.trans hm
  by_cases c90 : a1 = 28
  · have hm := (if_pos c90).symm.trans hm
    refine lv_tableIn (off := 91) (tgt := 92) hx hb d_Foreteller_operate_1 (by rw [c90]; decide) (by rw [c90]; decide) (by rw [c90]; rfl) (by decide) ?_
    refine lv_aload_n hx hb d_Foreteller_operate_92 rfl (lv_at hl 0 rfl) ?_
    obtain ⟨v93, σ92, h91, hm⟩ := rt_b2s hm
    refine rt_cvi (As := []) (rest := []) (k := 29) rtC_Xo ⟨hx, hb, hml, hown, hts⟩ (k_C_Foreteller_pop l D cI cZ A hO σ _ _ h91) (cw_Foreteller_pop hts (hts _ (rt_m rt_w583)) ⟨Nat.le_of_ble_eq_true rfl, Nat.le_of_ble_eq_true rfl⟩) hK hP hS hX rfl rfl rfl hl.1 rfl (Nat.le_of_ble_eq_true rfl) d_Foreteller_operate_93 ⟨Nat.zero_le _, Nat.zero_le _⟩ (fun H locs hP hS => ?_)
    refine lv_pop hx hb d_Foreteller_operate_96 rfl ?_
    refine lv_iconst (v := 1) hx hb d_Foreteller_operate_97 (by decide) ?_
    exact W.zret hx hb hr rfl (fun t ht hW => ⟨⟨_, _, rfl, rt_pr hm, rt_end rtC_Xo hK hP hS hX ht hW⟩, hS.F ht⟩) hS.2.2 d_Foreteller_operate_98
  have hm := (if_neg c90).symm.trans hm
  refine lv_tableOut (tgt := 193) hx hb d_Foreteller_operate_1 (by have := lv_neT (a := 10) c1 rfl; have := lv_neT (a := 11) c5 rfl; have := lv_neT (a := 12) c8 rfl; have := lv_neT (a := 13) c13 rfl; have := lv_neT (a := 14) c19 rfl; have := lv_neT (a := 15) c24 rfl; have := lv_neT (a := 16) c29 rfl; have := lv_neT (a := 17) c34 rfl; have := lv_neT (a := 18) c39 rfl; have := lv_neT (a := 19) c47 rfl; have := lv_neT (a := 20) c52 rfl; have := lv_neT (a := 21) c57 rfl; have := lv_neT (a := 22) c62 rfl; have := lv_neT (a := 23) c67 rfl; have := lv_neT (a := 24) c72 rfl; have := lv_neT (a := 25) c77 rfl; have := lv_neT (a := 26) c82 rfl; have := lv_neT (a := 27) c87 rfl; have := lv_neT (a := 28) c90 rfl; omega) (by decide) ?_
  refine lv_aload_n hx hb d_Foreteller_operate_193 rfl (lv_at hl 0 rfl) ?_
  refine lv_iload_n hx hb d_Foreteller_operate_194 rfl (lv_at hl 1 rfl) ?_
  obtain ⟨v96, σ95, h94, hm⟩ := rt_b2s hm
  refine rt_cvi (As := [.int a1]) (rest := []) (k := 29) rtC_Xo ⟨hx, hb, hml, hown, hts⟩ (k_C_Foreteller_reckon l D cI cZ A hO σ a1 _ _ h94) (cw_Foreteller_reckon hts (hts _ (rt_m rt_w660)) ⟨Nat.le_of_ble_eq_true rfl, Nat.le_of_ble_eq_true rfl⟩) hK hP hS hX rfl rfl rfl hl.1 rfl (Nat.le_of_ble_eq_true rfl) d_Foreteller_operate_195 ⟨Nat.zero_le _, Nat.zero_le _⟩ (fun H locs hP hS => ?_)
  obtain ⟨_, h97, hm⟩ := rt_b1s hm
  exact W.zret hx hb hr (rt_zoks h97) (fun t ht hW => ⟨⟨_, _, rfl, rt_pr hm, rt_end rtC_Xo hK hP hS hX ht hW⟩, hS.F ht⟩) hS.2.2 d_Foreteller_operate_198
set_option maxHeartbeats 4000000 in
set_option maxRecDepth 100000 in
theorem k_C_Foreteller_joinInto_38_39 (l : Launch) (D : va_G) (cI cZ : ClassId) (A : Nat → Nat) (hO : rt_Ok (rtC_W cI cZ A)) (σ : rt_St) (a1 a3 a4 : Int32) (r' : Int32) (σ' : rt_St) (hm : M_C_Foreteller_joinInto_38_39 σ a1 a3 a4 = some (r', σ')) (sz : Nat) : Met l y_Foreteller_joinInto (rt_ws y_Foreteller_joinInto b_Foreteller_joinInto 8 (some .boolean)) ({ frames := 1, cells := 0, slots := 0, locals := 23 } : Room) (va_Pc [.ref (A 38), .int a1, .ref (A 39), .int a3, .int a4] (rt_P D rt_cl (rt_t cI cZ) rtC_X (rtC_W cI cZ A) sz σ)) (va_Qi (fun r1 u1 => r1 = r' ∧ u1 = σ') (rt_B D rt_cl (rt_t cI cZ) rtC_X (rtC_W cI cZ A)) (rt_A (rtC_W cI cZ A) sz)) 0 0 (rt_A (rtC_W cI cZ A) sz) := by
  refine Met.ofW (cc := b_Foreteller_joinInto) (maxL := 8) (ret := (some .boolean)) (by decide) rfl ?_
  intro p e s m args below meth c s₁ B hml hv
  obtain ⟨rfl, rfl, hP, hK, hX⟩ := hv
  have hx := B.exec
  have hb := B.bytes
  have hr := B.returns
  have hts := atoms_spec (ws := (rt_ws y_Foreteller_joinInto b_Foreteller_joinInto 8 (some .boolean))) B.pre
  have hown : s.vm.findClass "RangeTeller$Foreteller" = some m.cls := findClass_of_methodNamed B.named
  have hlocks := B.notSynchronized
  have hD := rt_hD hO s.heap.size
  have hS : va_S (rt_A (rtC_W cI cZ A) s.heap.size) s.heap s.heap [] := va_S.rf
  have hl := lv_entry ([.ref (A 38), .int a1, .ref (A 39), .int a3, .int a4]) (n := 8) (Nat.le_of_ble_eq_true rfl)
  rw [lg_entry_eq]
  generalize (lg_sl ([.ref (A 38), .int a1, .ref (A 39), .int a3, .int a4]) ++ List.replicate (8 - (lg_sl ([.ref (A 38), .int a1, .ref (A 39), .int a3, .int a4])).length) Slot.unset).toArray = ls at hl ⊢
  have hl : lv_has ls 8 [(0, .ref (A 38)), (1, .int a1), (2, .ref (A 39)), (3, .int a3), (4, .int a4)] := hl
  show W p l e ({ frames := 1, cells := 0, slots := 0, locals := 23 } : Room) s m ([.ref (A 38), .int a1, .ref (A 39), .int a3, .int a4] : List Value).toArray below meth c s.heap [] 0 0 (rt_Qi D rt_cl (rt_t cI cZ) rtC_X (rtC_W cI cZ A) below ([.ref (A 38), .int a1, .ref (A 39), .int a3, .int a4] : List Value).toArray s r' σ') (F0 m 0 ls [])
  have hB6 : ∀ (n6 : Nat) (ls : Array Slot) (l1 l3 l4 l5 l6 : Int32) (σ : rt_St) (H : Heap) (locs : List Loc), lv_has ls 8 [(0, .ref (A 38)), (1, .int l1), (2, .ref (A 39)), (3, .int l3), (4, .int l4), (5, .int l5), (6, .int l6)] → B_C_Foreteller_joinInto_38_39_6 n6 l1 l3 l4 l5 l6 σ = some (r', σ') → va_P D rt_cl (rtC_W cI cZ A σ) H → va_S (rt_A (rtC_W cI cZ A) s.heap.size) s.heap H locs → W p l e ({ frames := 1, cells := 0, slots := 0, locals := 23 } : Room) s m ([.ref (A 38), .int a1, .ref (A 39), .int a3, .int a4] : List Value).toArray below meth c H locs 0 0 (rt_Qi D rt_cl (rt_t cI cZ) rtC_X (rtC_W cI cZ A) below ([.ref (A 38), .int a1, .ref (A 39), .int a3, .int a4] : List Value).toArray s r' σ') (F0 m 6 ls []) := by
    intro n6
    induction n6 with
    | zero => intro ls l1 l3 l4 l5 l6 σ H locs hl hm hP hS; rw [B_C_Foreteller_joinInto_38_39_6] at hm; cases hm
    | succ n6 ih6 =>
      have hB52 : ∀ (ls : Array Slot) (l1 l3 l4 l5 l6 : Int32) (σ : rt_St) (H : Heap) (locs : List Loc), lv_has ls 8 [(0, .ref (A 38)), (1, .int l1), (2, .ref (A 39)), (3, .int l3), (4, .int l4), (5, .int l5), (6, .int l6)] → B_C_Foreteller_joinInto_38_39_52 (B_C_Foreteller_joinInto_38_39_6 n6) l1 l3 l4 l5 l6 σ = some (r', σ') → va_P D rt_cl (rtC_W cI cZ A σ) H → va_S (rt_A (rtC_W cI cZ A) s.heap.size) s.heap H locs → W p l e ({ frames := 1, cells := 0, slots := 0, locals := 23 } : Room) s m ([.ref (A 38), .int a1, .ref (A 39), .int a3, .int a4] : List Value).toArray below meth c H locs 0 0 (rt_Qi D rt_cl (rt_t cI cZ) rtC_X (rtC_W cI cZ A) below ([.ref (A 38), .int a1, .ref (A 39), .int a3, .int a4] : List Value).toArray s r' σ') (F0 m 52 ls []) := by
        intro ls l1 l3 l4 l5 l6 σ H locs hl hm hP hS
        unfold B_C_Foreteller_joinInto_38_39_52 at hm
        refine lv_iinc (k := 6) (v := (l6 + 1)) hx hb d_Foreteller_joinInto_52 hl rfl rfl (by decide) rfl (fun ls hl => ?_)
        have hl : lv_has ls 8 [(6, .int (l6 + 1)), (0, .ref (A 38)), (1, .int l1), (2, .ref (A 39)), (3, .int l3), (4, .int l4), (5, .int l5)] := hl
        refine lv_goto (tgt := 6) hx hb d_Foreteller_joinInto_55 (by decide) ?_
        exact ih6 ls l1 l3 l4 l5 (l6 + 1) σ _ _ (lv_sub hl [1, 2, 3, 4, 5, 6, 0] rfl) hm hP hS
      intro ls l1 l3 l4 l5 l6 σ H locs hl hm hP hS
      rw [B_C_Foreteller_joinInto_38_39_6] at hm
      refine lv_iload hx hb d_Foreteller_joinInto_6 (lv_at hl 6 rfl) ?_
      refine lv_iload hx hb d_Foreteller_joinInto_8 (lv_at hl 4 rfl) ?_
      refine lv_icmp_ge (tgt := 58) hx hb d_Foreteller_joinInto_10 (by decide) (fun hc => ?_) (fun hc => ?_)
      · have hm := (if_pos hc).symm.trans hm
        refine lv_iload hx hb d_Foreteller_joinInto_58 (lv_at hl 5 rfl) ?_
        obtain ⟨_, h1, hm⟩ := rt_b1s hm
        exact W.zret hx hb hr (rt_zoks h1) (fun t ht hW => ⟨⟨_, _, rfl, rt_pr hm, rt_end rtC_Xo hK hP hS hX ht hW⟩, hS.F ht⟩) hS.2.2 d_Foreteller_joinInto_60
      · have hm := (if_neg hc).symm.trans hm
        refine lv_aload_n hx hb d_Foreteller_joinInto_13 rfl (lv_at hl 0 rfl) ?_
        refine lv_iload_n hx hb d_Foreteller_joinInto_14 rfl (lv_at hl 1 rfl) ?_
        refine lv_iload hx hb d_Foreteller_joinInto_15 (lv_at hl 6 rfl) ?_
        refine lv_iadd hx hb d_Foreteller_joinInto_17 ?_
        obtain ⟨v2, h3, hm⟩ := rt_b1s hm
        refine rt_ald hx hb hK hP 38 0 rfl rfl h3 d_Foreteller_joinInto_18 ?_
        refine lv_aload_n hx hb d_Foreteller_joinInto_19 rfl (lv_at hl 2 rfl) ?_
        refine lv_iload_n hx hb d_Foreteller_joinInto_20 rfl (lv_at hl 3 rfl) ?_
        refine lv_iload hx hb d_Foreteller_joinInto_21 (lv_at hl 6 rfl) ?_
        refine lv_iadd hx hb d_Foreteller_joinInto_23 ?_
        obtain ⟨v4, h5, hm⟩ := rt_b1s hm
        refine rt_ald hx hb hK hP 39 0 rfl rfl h5 d_Foreteller_joinInto_24 ?_
        obtain ⟨v7, h6, hm⟩ := rt_b1s hm
        refine rt_csi (As := [.int v2, .int v4]) (rest := []) rt_X0o ⟨hx, hb, hml, hown, hts⟩ (k_C_Ranges_join l v2 v4 _ h6) (cw_Ranges_join hts (hts _ (rt_m rt_w564)) ⟨Nat.le_of_ble_eq_true rfl, Nat.le_of_ble_eq_true rfl⟩) hS (fun _ h => Or.inr h) trivial rfl hl.1 rfl (Nat.le_of_ble_eq_true rfl) d_Foreteller_joinInto_25 ⟨Nat.zero_le _, Nat.zero_le _⟩ (fun H locs hk hS => ?_)
        have hP := rt_keep hP hk
        clear hk
        refine lv_istore hx hb d_Foreteller_joinInto_28 hl (by decide) rfl (fun ls hl => ?_)
        have hl : lv_has ls 8 [(7, .int v7), (0, .ref (A 38)), (1, .int l1), (2, .ref (A 39)), (3, .int l3), (4, .int l4), (5, .int l5), (6, .int l6)] := hl
        refine lv_iload hx hb d_Foreteller_joinInto_30 (lv_at hl 0 rfl) ?_
        refine lv_aload_n hx hb d_Foreteller_joinInto_32 rfl (lv_at hl 1 rfl) ?_
        refine lv_iload_n hx hb d_Foreteller_joinInto_33 rfl (lv_at hl 2 rfl) ?_
        refine lv_iload hx hb d_Foreteller_joinInto_34 (lv_at hl 7 rfl) ?_
        refine lv_iadd hx hb d_Foreteller_joinInto_36 ?_
        obtain ⟨v8, h9, hm⟩ := rt_b1s hm
        refine rt_ald hx hb hK hP 38 0 rfl rfl h9 d_Foreteller_joinInto_37 ?_
        refine lv_icmp_eq (tgt := 52) hx hb d_Foreteller_joinInto_38 (by decide) (fun hc => ?_) (fun hc => ?_)
        · have hm := (if_pos hc).symm.trans hm
          exact hB52 ls l1 l3 l4 l5 l6 σ _ _ (lv_sub hl [1, 2, 3, 4, 5, 6, 7] rfl) hm hP hS
        · have hm := (if_neg hc).symm.trans hm
          refine lv_aload_n hx hb d_Foreteller_joinInto_41 rfl (lv_at hl 1 rfl) ?_
          refine lv_iload_n hx hb d_Foreteller_joinInto_42 rfl (lv_at hl 2 rfl) ?_
          refine lv_iload hx hb d_Foreteller_joinInto_43 (lv_at hl 7 rfl) ?_
          refine lv_iadd hx hb d_Foreteller_joinInto_45 ?_
          refine lv_iload hx hb d_Foreteller_joinInto_46 (lv_at hl 0 rfl) ?_
          obtain ⟨σ10, h11, hm⟩ := rt_b1s hm
          refine rt_ast hx hb hK hP hD hS 38 0 rfl (rtC_a38 cI cZ A _) rfl h11 d_Foreteller_joinInto_48 (fun H locs hP hS => ?_)
          refine lv_iconst (v := 1) hx hb d_Foreteller_joinInto_49 (by decide) ?_
          refine lv_istore hx hb d_Foreteller_joinInto_50 hl (by decide) rfl (fun ls hl => ?_)
          have hl : lv_has ls 8 [(5, .int 1), (7, .int v7), (0, .ref (A 38)), (1, .int l1), (2, .ref (A 39)), (3, .int l3), (4, .int l4), (6, .int l6)] := hl
          exact hB52 ls l1 l3 l4 1 l6 σ10 _ _ (lv_sub hl [2, 3, 4, 5, 6, 0, 7] rfl) hm hP hS
  unfold M_C_Foreteller_joinInto_38_39 at hm
  refine lv_iconst (v := 0) hx hb d_Foreteller_joinInto_0 (by decide) ?_
  refine lv_istore hx hb d_Foreteller_joinInto_1 hl (by decide) rfl (fun ls hl => ?_)
  have hl : lv_has ls 8 [(5, .int 0), (0, .ref (A 38)), (1, .int a1), (2, .ref (A 39)), (3, .int a3), (4, .int a4)] := hl
  refine lv_iconst (v := 0) hx hb d_Foreteller_joinInto_3 (by decide) ?_
  refine lv_istore hx hb d_Foreteller_joinInto_4 hl (by decide) rfl (fun ls hl => ?_)
  have hl : lv_has ls 8 [(6, .int 0), (5, .int 0), (0, .ref (A 38)), (1, .int a1), (2, .ref (A 39)), (3, .int a3), (4, .int a4)] := hl
  exact hB6 _ ls a1 a3 a4 0 0 σ _ _ (lv_sub hl [2, 3, 4, 5, 6, 1, 0] rfl) hm hP hS
set_option maxHeartbeats 4000000 in
set_option maxRecDepth 100000 in
theorem k_C_Foreteller_call (l : Launch) (D : va_G) (cI cZ : ClassId) (A : Nat → Nat) (hO : rt_Ok (rtC_W cI cZ A)) (σ : rt_St) (a1 a2 : Int32) (σ' : rt_St) (hm : M_C_Foreteller_call σ a1 a2 = some σ') (sz : Nat) : Met l y_Foreteller_call (rt_ws y_Foreteller_call b_Foreteller_call 4 none) ({ frames := 4, cells := 0, slots := 0, locals := 96 } : Room) (va_Pc [.ref (A 29), .int a1, .int a2] (rt_P D rt_cl (rt_t cI cZ) rtC_X (rtC_W cI cZ A) sz σ)) (va_Qv (fun u1 => u1 = σ') (rt_B D rt_cl (rt_t cI cZ) rtC_X (rtC_W cI cZ A)) (rt_A (rtC_W cI cZ A) sz)) 0 0 (rt_A (rtC_W cI cZ A) sz) := by
  refine Met.ofW (cc := b_Foreteller_call) (maxL := 4) (ret := none) (by decide) rfl ?_
  intro p e s m args below meth c s₁ B hml hv
  obtain ⟨rfl, rfl, hP, hK, hX⟩ := hv
  have hx := B.exec
  have hb := B.bytes
  have hr := B.returns
  have hts := atoms_spec (ws := (rt_ws y_Foreteller_call b_Foreteller_call 4 none)) B.pre
  have hown : s.vm.findClass "RangeTeller$Foreteller" = some m.cls := findClass_of_methodNamed B.named
  have hlocks := B.notSynchronized
  have hD := rt_hD hO s.heap.size
  have hS : va_S (rt_A (rtC_W cI cZ A) s.heap.size) s.heap s.heap [] := va_S.rf
  have hl := lv_entry ([.ref (A 29), .int a1, .int a2]) (n := 4) (Nat.le_of_ble_eq_true rfl)
  rw [lg_entry_eq]
  generalize (lg_sl ([.ref (A 29), .int a1, .int a2]) ++ List.replicate (4 - (lg_sl ([.ref (A 29), .int a1, .int a2])).length) Slot.unset).toArray = ls at hl ⊢
  have hl : lv_has ls 4 [(0, .ref (A 29)), (1, .int a1), (2, .int a2)] := hl
  show W p l e ({ frames := 4, cells := 0, slots := 0, locals := 96 } : Room) s m ([.ref (A 29), .int a1, .int a2] : List Value).toArray below meth c s.heap [] 0 0 (rt_Qv D rt_cl (rt_t cI cZ) rtC_X (rtC_W cI cZ A) below ([.ref (A 29), .int a1, .int a2] : List Value).toArray s σ') (F0 m 0 ls [])
  have hB79 : ∀ (ls : Array Slot) (l2 : Int32) (σ : rt_St) (H : Heap) (locs : List Loc), lv_has ls 4 [(0, .ref (A 29)), (2, .int l2)] → B_C_Foreteller_call_79 l2 σ = some σ' → va_P D rt_cl (rtC_W cI cZ A σ) H → va_S (rt_A (rtC_W cI cZ A) s.heap.size) s.heap H locs → W p l e ({ frames := 4, cells := 0, slots := 0, locals := 96 } : Room) s m ([.ref (A 29), .int a1, .int a2] : List Value).toArray below meth c H locs 0 0 (rt_Qv D rt_cl (rt_t cI cZ) rtC_X (rtC_W cI cZ A) below ([.ref (A 29), .int a1, .int a2] : List Value).toArray s σ') (F0 m 79 ls []) := by
    intro ls l2 σ H locs hl hm hP hS
    unfold B_C_Foreteller_call_79 at hm
    refine lv_aload_n hx hb d_Foreteller_call_79 rfl (lv_at hl 0 rfl) ?_
    refine lv_iload_n hx hb d_Foreteller_call_80 rfl (lv_at hl 1 rfl) ?_
    obtain ⟨σ2, h1, hm⟩ := rt_b1s hm
    refine rt_cvv (As := [.int l2]) (rest := []) (k := 29) rtC_Xo ⟨hx, hb, hml, hown, hts⟩ (k_C_Foreteller_enter l D cI cZ A hO σ l2 _ h1) (cw_Foreteller_enter hts (hts _ (rt_m rt_w552)) ⟨Nat.le_of_ble_eq_true rfl, Nat.le_of_ble_eq_true rfl⟩) hK hP hS hX rfl rfl rfl hl.1 rfl (Nat.le_of_ble_eq_true rfl) d_Foreteller_call_81 ⟨Nat.zero_le _, Nat.zero_le _⟩ (fun H locs hP hS => ?_)
    exact W.vret hx hb hr (fun t ht hW => ⟨⟨_, rfl, Option.some.inj hm, rt_end rtC_Xo hK hP hS hX ht hW⟩, hS.F ht⟩) hS.2.2 d_Foreteller_call_84
  have hB72 : ∀ (ls : Array Slot) (l1 l2 : Int32) (σ : rt_St) (H : Heap) (locs : List Loc), lv_has ls 4 [(0, .ref (A 29)), (1, .int l1), (2, .int l2)] → B_C_Foreteller_call_72 l1 l2 σ = some σ' → va_P D rt_cl (rtC_W cI cZ A σ) H → va_S (rt_A (rtC_W cI cZ A) s.heap.size) s.heap H locs → W p l e ({ frames := 4, cells := 0, slots := 0, locals := 96 } : Room) s m ([.ref (A 29), .int a1, .int a2] : List Value).toArray below meth c H locs 0 0 (rt_Qv D rt_cl (rt_t cI cZ) rtC_X (rtC_W cI cZ A) below ([.ref (A 29), .int a1, .int a2] : List Value).toArray s σ') (F0 m 72 ls []) := by
    intro ls l1 l2 σ H locs hl hm hP hS
    unfold B_C_Foreteller_call_72 at hm
    refine lv_aload_n hx hb d_Foreteller_call_72 rfl (lv_at hl 0 rfl) ?_
    refine lv_iload_n hx hb d_Foreteller_call_73 rfl (lv_at hl 1 rfl) ?_
    refine lv_iconst (v := 1) hx hb d_Foreteller_call_74 (by decide) ?_
    refine lv_iadd hx hb d_Foreteller_call_75 ?_
    obtain ⟨σ4, h3, hm⟩ := rt_b1s hm
    refine rt_cvv (As := [.int (l1 + 1)]) (rest := []) (k := 29) rtC_Xo ⟨hx, hb, hml, hown, hts⟩ (k_C_Foreteller_arrive l D cI cZ A hO σ (l1 + 1) _ h3) (cw_Foreteller_arrive hts (hts _ (rt_m rt_w556)) ⟨Nat.le_of_ble_eq_true rfl, Nat.le_of_ble_eq_true rfl⟩) hK hP hS hX rfl rfl rfl hl.1 rfl (Nat.le_of_ble_eq_true rfl) d_Foreteller_call_76 ⟨Nat.zero_le _, Nat.zero_le _⟩ (fun H locs hP hS => ?_)
    exact hB79 ls l2 σ4 _ _ (lv_sub hl [0, 2] rfl) hm hP hS
  unfold M_C_Foreteller_call at hm
  refine lv_aload_n hx hb d_Foreteller_call_0 rfl (lv_at hl 0 rfl) ?_
  refine va_get (D := D) (v := .ref (A 1)) (C := "RangeTeller$Foreteller") (T := rt_T5) (N := 13) hx hb hts rt_i5 hown hK hP 29 rfl rfl 0 (by decide) (hts _ (rt_m rt_w333)) (fun _ h9 => h9) rfl d_Foreteller_call_1 ?_
  refine va_get (D := D) (v := .ref (A 11)) (C := "RangeTeller$Program") (T := rt_T1) (N := 14) hx hb hts rt_i1 hown hK hP 1 rfl rfl 9 (by decide) (hts _ (rt_m rt_w156)) (fun _ h9 => h9) rfl d_Foreteller_call_4 ?_
  refine lv_iload_n hx hb d_Foreteller_call_7 rfl (lv_at hl 2 rfl) ?_
  obtain ⟨v5, h6, hm⟩ := rt_b1s hm
  refine rt_ald hx hb hK hP 11 0 rfl rfl h6 d_Foreteller_call_8 ?_
  refine lv_istore_n hx hb d_Foreteller_call_9 rfl hl (by decide) rfl (fun ls hl => ?_)
  have hl : lv_has ls 4 [(3, .int v5), (0, .ref (A 29)), (1, .int a1), (2, .int a2)] := hl
  refine lv_aload_n hx hb d_Foreteller_call_10 rfl (lv_at hl 1 rfl) ?_
  refine lv_dup hx hb d_Foreteller_call_11 rfl ?_
  refine va_get (D := D) (v := .int (σ 29 12)) (C := "RangeTeller$Foreteller") (T := rt_T5) (N := 13) hx hb hts rt_i5 hown hK hP 29 rfl rfl 12 (by decide) (hts _ (rt_m rt_w350)) (fun _ h9 => h9) rfl d_Foreteller_call_12 ?_
  refine lv_iload_n hx hb d_Foreteller_call_15 rfl (lv_at hl 0 rfl) ?_
  refine lv_isub hx hb d_Foreteller_call_16 ?_
  obtain ⟨σ7, h8, hm⟩ := rt_b1s hm
  refine rt_pf (D := D) (C := "RangeTeller$Foreteller") (T := rt_T5) (N := 13) (ty := .int) hx hb hts rt_i5 rt_y5 rt_o5 rt_n5 hown hK hP hD hS 29 rfl rfl 12 (by decide) (hts _ (rt_m rt_w350)) (fun _ h9 => h9) rfl (by decide +kernel) rfl rfl (Nat.le_of_ble_eq_true rfl) (rtC_s29_12 cI cZ A _ _) h8 d_Foreteller_call_17 (fun H locs hP hS => ?_)
  refine lv_aload_n hx hb d_Foreteller_call_20 rfl (lv_at hl 1 rfl) ?_
  refine va_get (D := D) (v := .ref (A 38)) (C := "RangeTeller$Foreteller") (T := rt_T5) (N := 13) hx hb hts rt_i5 hown hK hP 29 rfl rfl 9 (by decide) (hts _ (rt_m rt_w347)) (fun _ h9 => h9) rfl d_Foreteller_call_21 ?_
  refine lv_iload_n hx hb d_Foreteller_call_24 rfl (lv_at hl 3 rfl) ?_
  refine lv_iconst (v := 2) hx hb d_Foreteller_call_25 (by decide) ?_
  refine lv_imul hx hb d_Foreteller_call_26 ?_
  refine lv_aload_n hx hb d_Foreteller_call_27 rfl (lv_at hl 1 rfl) ?_
  refine va_get (D := D) (v := .ref (A 39)) (C := "RangeTeller$Foreteller") (T := rt_T5) (N := 13) hx hb hts rt_i5 hown hK hP 29 rfl rfl 10 (by decide) (hts _ (rt_m rt_w348)) (fun _ h9 => h9) rfl d_Foreteller_call_28 ?_
  refine lv_aload_n hx hb d_Foreteller_call_31 rfl (lv_at hl 1 rfl) ?_
  refine va_get (D := D) (v := .int (σ7 29 12)) (C := "RangeTeller$Foreteller") (T := rt_T5) (N := 13) hx hb hts rt_i5 hown hK hP 29 rfl rfl 12 (by decide) (hts _ (rt_m rt_w350)) (fun _ h9 => h9) rfl d_Foreteller_call_32 ?_
  refine lv_iload_n hx hb d_Foreteller_call_35 rfl (lv_at hl 0 rfl) ?_
  obtain ⟨v11, σ10, h9, hm⟩ := rt_b2s hm
  refine rt_cwi (As := [.ref (A 38), .int (a2 * 2), .ref (A 39), .int (σ7 29 12), .int v5]) (rest := []) rtC_Xo ⟨hx, hb, hml, hown, hts⟩ (k_C_Foreteller_joinInto_38_39 l D cI cZ A hO σ7 (a2 * 2) (σ7 29 12) v5 _ _ h9) (cw_Foreteller_joinInto hts (hts _ (rt_m rt_w561)) ⟨Nat.le_of_ble_eq_true rfl, Nat.le_of_ble_eq_true rfl⟩) hK hP hS hX rfl hl.1 rfl (Nat.le_of_ble_eq_true rfl) d_Foreteller_call_36 ⟨Nat.zero_le _, Nat.zero_le _⟩ (fun H locs hP hS => ?_)
  refine lv_pop hx hb d_Foreteller_call_39 rfl ?_
  refine lv_aload_n hx hb d_Foreteller_call_40 rfl (lv_at hl 1 rfl) ?_
  refine va_get (D := D) (v := .ref (A 34)) (C := "RangeTeller$Foreteller") (T := rt_T5) (N := 13) hx hb hts rt_i5 hown hK hP 29 rfl rfl 5 (by decide) (hts _ (rt_m rt_w342)) (fun _ h9 => h9) rfl d_Foreteller_call_41 ?_
  refine lv_iload_n hx hb d_Foreteller_call_44 rfl (lv_at hl 3 rfl) ?_
  obtain ⟨v12, h13, hm⟩ := rt_b1s hm
  refine rt_zld hx hb hK hP 34 1 rfl rfl h13 d_Foreteller_call_45 ?_
  refine lv_if_eq (tgt := 79) hx hb d_Foreteller_call_46 (by decide) (fun hc => ?_) (fun hc => ?_)
  · have hm := (if_pos hc).symm.trans hm
    exact hB79 ls a2 σ10 _ _ (lv_sub hl [1, 3] rfl) hm hP hS
  · have hm := (if_neg hc).symm.trans hm
    refine lv_aload_n hx hb d_Foreteller_call_49 rfl (lv_at hl 1 rfl) ?_
    refine va_get (D := D) (v := .ref (A 1)) (C := "RangeTeller$Foreteller") (T := rt_T5) (N := 13) hx hb hts rt_i5 hown hK hP 29 rfl rfl 0 (by decide) (hts _ (rt_m rt_w333)) (fun _ h9 => h9) rfl d_Foreteller_call_50 ?_
    refine va_get (D := D) (v := .ref (A 13)) (C := "RangeTeller$Program") (T := rt_T1) (N := 14) hx hb hts rt_i1 hown hK hP 1 rfl rfl 11 (by decide) (hts _ (rt_m rt_w162)) (fun _ h9 => h9) rfl d_Foreteller_call_53 ?_
    refine lv_iload_n hx hb d_Foreteller_call_56 rfl (lv_at hl 3 rfl) ?_
    obtain ⟨v14, h15, hm⟩ := rt_b1s hm
    refine rt_ald hx hb hK hP 13 0 rfl rfl h15 d_Foreteller_call_57 ?_
    refine lv_iconst (v := 1) hx hb d_Foreteller_call_58 (by decide) ?_
    refine lv_icmp_ne (tgt := 72) hx hb d_Foreteller_call_59 (by decide) (fun hc => ?_) (fun hc => ?_)
    · have hm := (if_neg hc).symm.trans hm
      exact hB72 ls a1 a2 σ10 _ _ (lv_sub hl [1, 2, 3] rfl) hm hP hS
    · have hm := (if_pos hc).symm.trans hm
      refine lv_aload_n hx hb d_Foreteller_call_62 rfl (lv_at hl 1 rfl) ?_
      refine lv_aload_n hx hb d_Foreteller_call_63 rfl (lv_at hl 1 rfl) ?_
      refine va_get (D := D) (v := .ref (A 33)) (C := "RangeTeller$Foreteller") (T := rt_T5) (N := 13) hx hb hts rt_i5 hown hK hP 29 rfl rfl 4 (by decide) (hts _ (rt_m rt_w340)) (fun _ h9 => h9) rfl d_Foreteller_call_64 ?_
      refine lv_iload_n hx hb d_Foreteller_call_67 rfl (lv_at hl 3 rfl) ?_
      obtain ⟨v16, h17, hm⟩ := rt_b1s hm
      refine rt_ald hx hb hK hP 33 0 rfl rfl h17 d_Foreteller_call_68 ?_
      obtain ⟨σ19, h18, hm⟩ := rt_b1s hm
      refine rt_cvv (As := [.int v16]) (rest := []) (k := 29) rtC_Xo ⟨hx, hb, hml, hown, hts⟩ (k_C_Foreteller_push l D cI cZ A hO σ10 v16 _ h18) (cw_Foreteller_push hts (hts _ (rt_m rt_w615)) ⟨Nat.le_of_ble_eq_true rfl, Nat.le_of_ble_eq_true rfl⟩) hK hP hS hX rfl rfl rfl hl.1 rfl (Nat.le_of_ble_eq_true rfl) d_Foreteller_call_69 ⟨Nat.zero_le _, Nat.zero_le _⟩ (fun H locs hP hS => ?_)
      exact hB72 ls a1 a2 σ19 _ _ (lv_sub hl [1, 2, 3] rfl) hm hP hS
set_option maxHeartbeats 4000000 in
set_option maxRecDepth 100000 in
theorem k_C_Foreteller_leave (l : Launch) (D : va_G) (cI cZ : ClassId) (A : Nat → Nat) (hO : rt_Ok (rtC_W cI cZ A)) (σ : rt_St) (a1 : Int32) (σ' : rt_St) (hm : M_C_Foreteller_leave σ a1 = some σ') (sz : Nat) : Met l y_Foreteller_leave (rt_ws y_Foreteller_leave b_Foreteller_leave 3 none) ({ frames := 1, cells := 0, slots := 0, locals := 23 } : Room) (va_Pc [.ref (A 29), .int a1] (rt_P D rt_cl (rt_t cI cZ) rtC_X (rtC_W cI cZ A) sz σ)) (va_Qv (fun u1 => u1 = σ') (rt_B D rt_cl (rt_t cI cZ) rtC_X (rtC_W cI cZ A)) (rt_A (rtC_W cI cZ A) sz)) 0 0 (rt_A (rtC_W cI cZ A) sz) := by
  refine Met.ofW (cc := b_Foreteller_leave) (maxL := 3) (ret := none) (by decide) rfl ?_
  intro p e s m args below meth c s₁ B hml hv
  obtain ⟨rfl, rfl, hP, hK, hX⟩ := hv
  have hx := B.exec
  have hb := B.bytes
  have hr := B.returns
  have hts := atoms_spec (ws := (rt_ws y_Foreteller_leave b_Foreteller_leave 3 none)) B.pre
  have hown : s.vm.findClass "RangeTeller$Foreteller" = some m.cls := findClass_of_methodNamed B.named
  have hlocks := B.notSynchronized
  have hD := rt_hD hO s.heap.size
  have hS : va_S (rt_A (rtC_W cI cZ A) s.heap.size) s.heap s.heap [] := va_S.rf
  have hl := lv_entry ([.ref (A 29), .int a1]) (n := 3) (Nat.le_of_ble_eq_true rfl)
  rw [lg_entry_eq]
  generalize (lg_sl ([.ref (A 29), .int a1]) ++ List.replicate (3 - (lg_sl ([.ref (A 29), .int a1])).length) Slot.unset).toArray = ls at hl ⊢
  have hl : lv_has ls 3 [(0, .ref (A 29)), (1, .int a1)] := hl
  show W p l e ({ frames := 1, cells := 0, slots := 0, locals := 23 } : Room) s m ([.ref (A 29), .int a1] : List Value).toArray below meth c s.heap [] 0 0 (rt_Qv D rt_cl (rt_t cI cZ) rtC_X (rtC_W cI cZ A) below ([.ref (A 29), .int a1] : List Value).toArray s σ') (F0 m 0 ls [])
  have hB55 : ∀ (ls : Array Slot) (l1 l2 : Int32) (σ : rt_St) (H : Heap) (locs : List Loc), lv_has ls 3 [(0, .ref (A 29)), (1, .int l1), (2, .int l2)] → B_C_Foreteller_leave_55 l1 l2 σ = some σ' → va_P D rt_cl (rtC_W cI cZ A σ) H → va_S (rt_A (rtC_W cI cZ A) s.heap.size) s.heap H locs → W p l e ({ frames := 1, cells := 0, slots := 0, locals := 23 } : Room) s m ([.ref (A 29), .int a1] : List Value).toArray below meth c H locs 0 0 (rt_Qv D rt_cl (rt_t cI cZ) rtC_X (rtC_W cI cZ A) below ([.ref (A 29), .int a1] : List Value).toArray s σ') (F0 m 55 ls []) := by
    intro ls l1 l2 σ H locs hl hm hP hS
    unfold B_C_Foreteller_leave_55 at hm
    refine lv_aload_n hx hb d_Foreteller_leave_55 rfl (lv_at hl 0 rfl) ?_
    refine va_get (D := D) (v := .ref (A 34)) (C := "RangeTeller$Foreteller") (T := rt_T5) (N := 13) hx hb hts rt_i5 hown hK hP 29 rfl rfl 5 (by decide) (hts _ (rt_m rt_w342)) (fun _ h9 => h9) rfl d_Foreteller_leave_56 ?_
    refine lv_iload_n hx hb d_Foreteller_leave_59 rfl (lv_at hl 1 rfl) ?_
    refine lv_iconst (v := 1) hx hb d_Foreteller_leave_60 (by decide) ?_
    obtain ⟨σ1, h2, hm⟩ := rt_b1s hm
    refine rt_zst hx hb hK hP hD hS 34 1 rfl (rtC_a34 cI cZ A _) rfl rfl h2 d_Foreteller_leave_61 (fun H locs hP hS => ?_)
    refine lv_aload_n hx hb d_Foreteller_leave_62 rfl (lv_at hl 0 rfl) ?_
    refine va_get (D := D) (v := .ref (A 33)) (C := "RangeTeller$Foreteller") (T := rt_T5) (N := 13) hx hb hts rt_i5 hown hK hP 29 rfl rfl 4 (by decide) (hts _ (rt_m rt_w340)) (fun _ h9 => h9) rfl d_Foreteller_leave_63 ?_
    refine lv_iload_n hx hb d_Foreteller_leave_66 rfl (lv_at hl 1 rfl) ?_
    refine lv_iload_n hx hb d_Foreteller_leave_67 rfl (lv_at hl 2 rfl) ?_
    obtain ⟨σ3, h4, hm⟩ := rt_b1s hm
    refine rt_ast hx hb hK hP hD hS 33 0 rfl (rtC_a33 cI cZ A _) rfl h4 d_Foreteller_leave_68 (fun H locs hP hS => ?_)
    refine lv_aload_n hx hb d_Foreteller_leave_69 rfl (lv_at hl 0 rfl) ?_
    refine lv_bipush (v := 9) hx hb d_Foreteller_leave_70 (by decide) ?_
    obtain ⟨σ6, h5, hm⟩ := rt_b1s hm
    refine rt_cvv (As := [.int 9]) (rest := []) (k := 29) rtC_Xo ⟨hx, hb, hml, hown, hts⟩ (k_C_Foreteller_wake l D cI cZ A hO σ3 9 _ h5) (cw_Foreteller_wake hts (hts _ (rt_m rt_w607)) ⟨Nat.le_of_ble_eq_true rfl, Nat.le_of_ble_eq_true rfl⟩) hK hP hS hX rfl rfl rfl hl.1 rfl (Nat.le_of_ble_eq_true rfl) d_Foreteller_leave_72 ⟨Nat.zero_le _, Nat.zero_le _⟩ (fun H locs hP hS => ?_)
    exact W.vret hx hb hr (fun t ht hW => ⟨⟨_, rfl, Option.some.inj hm, rt_end rtC_Xo hK hP hS hX ht hW⟩, hS.F ht⟩) hS.2.2 d_Foreteller_leave_75
  have hB36 : ∀ (ls : Array Slot) (l1 l2 : Int32) (σ : rt_St) (H : Heap) (locs : List Loc), lv_has ls 3 [(0, .ref (A 29)), (1, .int l1), (2, .int l2)] → B_C_Foreteller_leave_36 l1 l2 σ = some σ' → va_P D rt_cl (rtC_W cI cZ A σ) H → va_S (rt_A (rtC_W cI cZ A) s.heap.size) s.heap H locs → W p l e ({ frames := 1, cells := 0, slots := 0, locals := 23 } : Room) s m ([.ref (A 29), .int a1] : List Value).toArray below meth c H locs 0 0 (rt_Qv D rt_cl (rt_t cI cZ) rtC_X (rtC_W cI cZ A) below ([.ref (A 29), .int a1] : List Value).toArray s σ') (F0 m 36 ls []) := by
    intro ls l1 l2 σ H locs hl hm hP hS
    unfold B_C_Foreteller_leave_36 at hm
    refine lv_aload_n hx hb d_Foreteller_leave_36 rfl (lv_at hl 0 rfl) ?_
    refine va_get (D := D) (v := .ref (A 34)) (C := "RangeTeller$Foreteller") (T := rt_T5) (N := 13) hx hb hts rt_i5 hown hK hP 29 rfl rfl 5 (by decide) (hts _ (rt_m rt_w342)) (fun _ h9 => h9) rfl d_Foreteller_leave_37 ?_
    refine lv_iload_n hx hb d_Foreteller_leave_40 rfl (lv_at hl 1 rfl) ?_
    obtain ⟨v7, h8, hm⟩ := rt_b1s hm
    refine rt_zld hx hb hK hP 34 1 rfl rfl h8 d_Foreteller_leave_41 ?_
    refine lv_if_eq (tgt := 55) hx hb d_Foreteller_leave_42 (by decide) (fun hc => ?_) (fun hc => ?_)
    · have hm := (if_pos hc).symm.trans hm
      exact hB55 ls l1 l2 σ _ _ (lv_sub hl [0, 1, 2] rfl) hm hP hS
    · have hm := (if_neg hc).symm.trans hm
      refine lv_iload_n hx hb d_Foreteller_leave_45 rfl (lv_at hl 2 rfl) ?_
      refine lv_aload_n hx hb d_Foreteller_leave_46 rfl (lv_at hl 0 rfl) ?_
      refine va_get (D := D) (v := .ref (A 33)) (C := "RangeTeller$Foreteller") (T := rt_T5) (N := 13) hx hb hts rt_i5 hown hK hP 29 rfl rfl 4 (by decide) (hts _ (rt_m rt_w340)) (fun _ h9 => h9) rfl d_Foreteller_leave_47 ?_
      refine lv_iload_n hx hb d_Foreteller_leave_50 rfl (lv_at hl 1 rfl) ?_
      obtain ⟨v9, h10, hm⟩ := rt_b1s hm
      refine rt_ald hx hb hK hP 33 0 rfl rfl h10 d_Foreteller_leave_51 ?_
      refine lv_icmp_eq (tgt := 75) hx hb d_Foreteller_leave_52 (by decide) (fun hc => ?_) (fun hc => ?_)
      · have hm := (if_pos hc).symm.trans hm
        exact W.vret hx hb hr (fun t ht hW => ⟨⟨_, rfl, Option.some.inj hm, rt_end rtC_Xo hK hP hS hX ht hW⟩, hS.F ht⟩) hS.2.2 d_Foreteller_leave_75
      · have hm := (if_neg hc).symm.trans hm
        exact hB55 ls l1 l2 σ _ _ (lv_sub hl [0, 1, 2] rfl) hm hP hS
  unfold M_C_Foreteller_leave at hm
  refine lv_aload_n hx hb d_Foreteller_leave_0 rfl (lv_at hl 0 rfl) ?_
  refine va_get (D := D) (v := .ref (A 33)) (C := "RangeTeller$Foreteller") (T := rt_T5) (N := 13) hx hb hts rt_i5 hown hK hP 29 rfl rfl 4 (by decide) (hts _ (rt_m rt_w340)) (fun _ h9 => h9) rfl d_Foreteller_leave_1 ?_
  refine lv_iload_n hx hb d_Foreteller_leave_4 rfl (lv_at hl 1 rfl) ?_
  obtain ⟨v11, h12, hm⟩ := rt_b1s hm
  refine rt_ald hx hb hK hP 33 0 rfl rfl h12 d_Foreteller_leave_5 ?_
  refine lv_istore_n hx hb d_Foreteller_leave_6 rfl hl (by decide) rfl (fun ls hl => ?_)
  have hl : lv_has ls 3 [(2, .int v11), (0, .ref (A 29)), (1, .int a1)] := hl
  refine lv_aload_n hx hb d_Foreteller_leave_7 rfl (lv_at hl 1 rfl) ?_
  refine va_get (D := D) (v := .ref (A 1)) (C := "RangeTeller$Foreteller") (T := rt_T5) (N := 13) hx hb hts rt_i5 hown hK hP 29 rfl rfl 0 (by decide) (hts _ (rt_m rt_w333)) (fun _ h9 => h9) rfl d_Foreteller_leave_8 ?_
  refine va_get (D := D) (v := .ref (A 13)) (C := "RangeTeller$Program") (T := rt_T1) (N := 14) hx hb hts rt_i1 hown hK hP 1 rfl rfl 11 (by decide) (hts _ (rt_m rt_w162)) (fun _ h9 => h9) rfl d_Foreteller_leave_11 ?_
  refine lv_iload_n hx hb d_Foreteller_leave_14 rfl (lv_at hl 2 rfl) ?_
  obtain ⟨v13, h14, hm⟩ := rt_b1s hm
  refine rt_ald hx hb hK hP 13 0 rfl rfl h14 d_Foreteller_leave_15 ?_
  refine lv_iconst (v := 1) hx hb d_Foreteller_leave_16 (by decide) ?_
  refine lv_icmp_ne (tgt := 36) hx hb d_Foreteller_leave_17 (by decide) (fun hc => ?_) (fun hc => ?_)
  · have hm := (if_neg hc).symm.trans hm
    exact hB36 ls a1 v11 σ _ _ (lv_sub hl [1, 2, 0] rfl) hm hP hS
  · have hm := (if_pos hc).symm.trans hm
    refine lv_iload_n hx hb d_Foreteller_leave_20 rfl (lv_at hl 0 rfl) ?_
    refine lv_aload_n hx hb d_Foreteller_leave_21 rfl (lv_at hl 1 rfl) ?_
    refine va_get (D := D) (v := .ref (A 39)) (C := "RangeTeller$Foreteller") (T := rt_T5) (N := 13) hx hb hts rt_i5 hown hK hP 29 rfl rfl 10 (by decide) (hts _ (rt_m rt_w348)) (fun _ h9 => h9) rfl d_Foreteller_leave_22 ?_
    refine lv_aload_n hx hb d_Foreteller_leave_25 rfl (lv_at hl 1 rfl) ?_
    refine va_get (D := D) (v := .int (σ 29 12)) (C := "RangeTeller$Foreteller") (T := rt_T5) (N := 13) hx hb hts rt_i5 hown hK hP 29 rfl rfl 12 (by decide) (hts _ (rt_m rt_w350)) (fun _ h9 => h9) rfl d_Foreteller_leave_26 ?_
    refine lv_iconst (v := 1) hx hb d_Foreteller_leave_29 (by decide) ?_
    refine lv_isub hx hb d_Foreteller_leave_30 ?_
    obtain ⟨v15, h16, hm⟩ := rt_b1s hm
    refine rt_ald hx hb hK hP 39 0 rfl rfl h16 d_Foreteller_leave_31 ?_
    obtain ⟨v18, h17, hm⟩ := rt_b1s hm
    refine rt_csi (As := [.int v11, .int v15]) (rest := []) rt_X0o ⟨hx, hb, hml, hown, hts⟩ (k_C_Ranges_join l v11 v15 _ h17) (cw_Ranges_join hts (hts _ (rt_m rt_w564)) ⟨Nat.le_of_ble_eq_true rfl, Nat.le_of_ble_eq_true rfl⟩) hS (fun _ h => Or.inr h) trivial rfl hl.1 rfl (Nat.le_of_ble_eq_true rfl) d_Foreteller_leave_32 ⟨Nat.zero_le _, Nat.zero_le _⟩ (fun H locs hk hS => ?_)
    have hP := rt_keep hP hk
    clear hk
    refine lv_istore_n hx hb d_Foreteller_leave_35 rfl hl (by decide) rfl (fun ls hl => ?_)
    have hl : lv_has ls 3 [(2, .int v18), (0, .ref (A 29)), (1, .int a1)] := hl
    exact hB36 ls a1 v18 σ _ _ (lv_sub hl [1, 2, 0] rfl) hm hP hS
set_option maxHeartbeats 4000000 in
set_option maxRecDepth 100000 in
theorem k_C_Foreteller_jump (l : Launch) (D : va_G) (cI cZ : ClassId) (A : Nat → Nat) (hO : rt_Ok (rtC_W cI cZ A)) (σ : rt_St) (a1 : Int32) (σ' : rt_St) (hm : M_C_Foreteller_jump σ a1 = some σ') (sz : Nat) : Met l y_Foreteller_jump (rt_ws y_Foreteller_jump b_Foreteller_jump 3 none) ({ frames := 3, cells := 0, slots := 0, locals := 74 } : Room) (va_Pc [.ref (A 29), .int a1] (rt_P D rt_cl (rt_t cI cZ) rtC_X (rtC_W cI cZ A) sz σ)) (va_Qv (fun u1 => u1 = σ') (rt_B D rt_cl (rt_t cI cZ) rtC_X (rtC_W cI cZ A)) (rt_A (rtC_W cI cZ A) sz)) 0 0 (rt_A (rtC_W cI cZ A) sz) := by
  refine Met.ofW (cc := b_Foreteller_jump) (maxL := 3) (ret := none) (by decide) rfl ?_
  intro p e s m args below meth c s₁ B hml hv
  obtain ⟨rfl, rfl, hP, hK, hX⟩ := hv
  have hx := B.exec
  have hb := B.bytes
  have hr := B.returns
  have hts := atoms_spec (ws := (rt_ws y_Foreteller_jump b_Foreteller_jump 3 none)) B.pre
  have hown : s.vm.findClass "RangeTeller$Foreteller" = some m.cls := findClass_of_methodNamed B.named
  have hlocks := B.notSynchronized
  have hD := rt_hD hO s.heap.size
  have hS : va_S (rt_A (rtC_W cI cZ A) s.heap.size) s.heap s.heap [] := va_S.rf
  have hl := lv_entry ([.ref (A 29), .int a1]) (n := 3) (Nat.le_of_ble_eq_true rfl)
  rw [lg_entry_eq]
  generalize (lg_sl ([.ref (A 29), .int a1]) ++ List.replicate (3 - (lg_sl ([.ref (A 29), .int a1])).length) Slot.unset).toArray = ls at hl ⊢
  have hl : lv_has ls 3 [(0, .ref (A 29)), (1, .int a1)] := hl
  show W p l e ({ frames := 3, cells := 0, slots := 0, locals := 74 } : Room) s m ([.ref (A 29), .int a1] : List Value).toArray below meth c s.heap [] 0 0 (rt_Qv D rt_cl (rt_t cI cZ) rtC_X (rtC_W cI cZ A) below ([.ref (A 29), .int a1] : List Value).toArray s σ') (F0 m 0 ls [])
  have hB67 : ∀ (ls : Array Slot) (l1 l2 : Int32) (σ : rt_St) (H : Heap) (locs : List Loc), lv_has ls 3 [(0, .ref (A 29)), (1, .int l1), (2, .int l2)] → B_C_Foreteller_jump_67 l1 l2 σ = some σ' → va_P D rt_cl (rtC_W cI cZ A σ) H → va_S (rt_A (rtC_W cI cZ A) s.heap.size) s.heap H locs → W p l e ({ frames := 3, cells := 0, slots := 0, locals := 74 } : Room) s m ([.ref (A 29), .int a1] : List Value).toArray below meth c H locs 0 0 (rt_Qv D rt_cl (rt_t cI cZ) rtC_X (rtC_W cI cZ A) below ([.ref (A 29), .int a1] : List Value).toArray s σ') (F0 m 67 ls []) := by
    intro ls l1 l2 σ H locs hl hm hP hS
    unfold B_C_Foreteller_jump_67 at hm
    refine lv_aload_n hx hb d_Foreteller_jump_67 rfl (lv_at hl 0 rfl) ?_
    refine lv_iload_n hx hb d_Foreteller_jump_68 rfl (lv_at hl 2 rfl) ?_
    refine lv_aload_n hx hb d_Foreteller_jump_69 rfl (lv_at hl 0 rfl) ?_
    refine va_get (D := D) (v := .ref (A 1)) (C := "RangeTeller$Foreteller") (T := rt_T5) (N := 13) hx hb hts rt_i5 hown hK hP 29 rfl rfl 0 (by decide) (hts _ (rt_m rt_w333)) (fun _ h9 => h9) rfl d_Foreteller_jump_70 ?_
    refine va_get (D := D) (v := .ref (A 9)) (C := "RangeTeller$Program") (T := rt_T1) (N := 14) hx hb hts rt_i1 hown hK hP 1 rfl rfl 7 (by decide) (hts _ (rt_m rt_w147)) (fun _ h9 => h9) rfl d_Foreteller_jump_73 ?_
    refine lv_iload_n hx hb d_Foreteller_jump_76 rfl (lv_at hl 1 rfl) ?_
    obtain ⟨v1, h2, hm⟩ := rt_b1s hm
    refine rt_ald hx hb hK hP 9 0 rfl rfl h2 d_Foreteller_jump_77 ?_
    refine lv_iadd hx hb d_Foreteller_jump_78 ?_
    obtain ⟨σ3, h4, hm⟩ := rt_b1s hm
    refine rt_pf (D := D) (C := "RangeTeller$Foreteller") (T := rt_T5) (N := 13) (ty := .int) hx hb hts rt_i5 rt_y5 rt_o5 rt_n5 hown hK hP hD hS 29 rfl rfl 12 (by decide) (hts _ (rt_m rt_w350)) (fun _ h9 => h9) rfl (by decide +kernel) rfl rfl (Nat.le_of_ble_eq_true rfl) (rtC_s29_12 cI cZ A _ _) h4 d_Foreteller_jump_79 (fun H locs hP hS => ?_)
    refine lv_aload_n hx hb d_Foreteller_jump_82 rfl (lv_at hl 0 rfl) ?_
    refine lv_aload_n hx hb d_Foreteller_jump_83 rfl (lv_at hl 0 rfl) ?_
    refine va_get (D := D) (v := .ref (A 1)) (C := "RangeTeller$Foreteller") (T := rt_T5) (N := 13) hx hb hts rt_i5 hown hK hP 29 rfl rfl 0 (by decide) (hts _ (rt_m rt_w333)) (fun _ h9 => h9) rfl d_Foreteller_jump_84 ?_
    refine va_get (D := D) (v := .ref (A 7)) (C := "RangeTeller$Program") (T := rt_T1) (N := 14) hx hb hts rt_i1 hown hK hP 1 rfl rfl 5 (by decide) (hts _ (rt_m rt_w141)) (fun _ h9 => h9) rfl d_Foreteller_jump_87 ?_
    refine lv_iload_n hx hb d_Foreteller_jump_90 rfl (lv_at hl 1 rfl) ?_
    obtain ⟨v5, h6, hm⟩ := rt_b1s hm
    refine rt_ald hx hb hK hP 7 0 rfl rfl h6 d_Foreteller_jump_91 ?_
    obtain ⟨σ8, h7, hm⟩ := rt_b1s hm
    refine rt_cvv (As := [.int v5]) (rest := []) (k := 29) rtC_Xo ⟨hx, hb, hml, hown, hts⟩ (k_C_Foreteller_arrive l D cI cZ A hO σ3 v5 _ h7) (cw_Foreteller_arrive hts (hts _ (rt_m rt_w556)) ⟨Nat.le_of_ble_eq_true rfl, Nat.le_of_ble_eq_true rfl⟩) hK hP hS hX rfl rfl rfl hl.1 rfl (Nat.le_of_ble_eq_true rfl) d_Foreteller_jump_92 ⟨Nat.zero_le _, Nat.zero_le _⟩ (fun H locs hP hS => ?_)
    exact W.vret hx hb hr (fun t ht hW => ⟨⟨_, rfl, Option.some.inj hm, rt_end rtC_Xo hK hP hS hX ht hW⟩, hS.F ht⟩) hS.2.2 d_Foreteller_jump_95
  unfold M_C_Foreteller_jump at hm
  refine lv_aload_n hx hb d_Foreteller_jump_0 rfl (lv_at hl 0 rfl) ?_
  refine va_get (D := D) (v := .ref (A 1)) (C := "RangeTeller$Foreteller") (T := rt_T5) (N := 13) hx hb hts rt_i5 hown hK hP 29 rfl rfl 0 (by decide) (hts _ (rt_m rt_w333)) (fun _ h9 => h9) rfl d_Foreteller_jump_1 ?_
  refine va_get (D := D) (v := .ref (A 7)) (C := "RangeTeller$Program") (T := rt_T1) (N := 14) hx hb hts rt_i1 hown hK hP 1 rfl rfl 5 (by decide) (hts _ (rt_m rt_w141)) (fun _ h9 => h9) rfl d_Foreteller_jump_4 ?_
  refine lv_iload_n hx hb d_Foreteller_jump_7 rfl (lv_at hl 1 rfl) ?_
  obtain ⟨v9, h10, hm⟩ := rt_b1s hm
  refine rt_ald hx hb hK hP 7 0 rfl rfl h10 d_Foreteller_jump_8 ?_
  refine lv_iconst (v := (-1)) hx hb d_Foreteller_jump_9 (by decide) ?_
  refine lv_icmp_ne (tgt := 27) hx hb d_Foreteller_jump_10 (by decide) (fun hc => ?_) (fun hc => ?_)
  · have hm := (if_neg hc).symm.trans hm
    refine lv_aload_n hx hb d_Foreteller_jump_27 rfl (lv_at hl 0 rfl) ?_
    refine va_get (D := D) (v := .ref (A 1)) (C := "RangeTeller$Foreteller") (T := rt_T5) (N := 13) hx hb hts rt_i5 hown hK hP 29 rfl rfl 0 (by decide) (hts _ (rt_m rt_w333)) (fun _ h9 => h9) rfl d_Foreteller_jump_28 ?_
    refine va_get (D := D) (v := .ref (A 8)) (C := "RangeTeller$Program") (T := rt_T1) (N := 14) hx hb hts rt_i1 hown hK hP 1 rfl rfl 6 (by decide) (hts _ (rt_m rt_w144)) (fun _ h9 => h9) rfl d_Foreteller_jump_31 ?_
    refine lv_iload_n hx hb d_Foreteller_jump_34 rfl (lv_at hl 1 rfl) ?_
    obtain ⟨v11, h12, hm⟩ := rt_b1s hm
    refine rt_ald hx hb hK hP 8 0 rfl rfl h12 d_Foreteller_jump_35 ?_
    refine lv_istore_n hx hb d_Foreteller_jump_36 rfl hl (by decide) rfl (fun ls hl => ?_)
    have hl : lv_has ls 3 [(2, .int v11), (0, .ref (A 29)), (1, .int a1)] := hl
    refine lv_aload_n hx hb d_Foreteller_jump_37 rfl (lv_at hl 1 rfl) ?_
    refine va_get (D := D) (v := .ref (A 1)) (C := "RangeTeller$Foreteller") (T := rt_T5) (N := 13) hx hb hts rt_i5 hown hK hP 29 rfl rfl 0 (by decide) (hts _ (rt_m rt_w333)) (fun _ h9 => h9) rfl d_Foreteller_jump_38 ?_
    refine va_get (D := D) (v := .ref (A 9)) (C := "RangeTeller$Program") (T := rt_T1) (N := 14) hx hb hts rt_i1 hown hK hP 1 rfl rfl 7 (by decide) (hts _ (rt_m rt_w147)) (fun _ h9 => h9) rfl d_Foreteller_jump_41 ?_
    refine lv_iload_n hx hb d_Foreteller_jump_44 rfl (lv_at hl 2 rfl) ?_
    obtain ⟨v13, h14, hm⟩ := rt_b1s hm
    refine rt_ald hx hb hK hP 9 0 rfl rfl h14 d_Foreteller_jump_45 ?_
    refine lv_iconst (v := 1) hx hb d_Foreteller_jump_46 (by decide) ?_
    refine lv_icmp_ne (tgt := 67) hx hb d_Foreteller_jump_47 (by decide) (fun hc => ?_) (fun hc => ?_)
    · have hm := (if_neg hc).symm.trans hm
      exact hB67 ls a1 v11 σ _ _ (lv_sub hl [1, 2, 0] rfl) hm hP hS
    · have hm := (if_pos hc).symm.trans hm
      refine lv_aload_n hx hb d_Foreteller_jump_50 rfl (lv_at hl 1 rfl) ?_
      refine va_get (D := D) (v := .ref (A 39)) (C := "RangeTeller$Foreteller") (T := rt_T5) (N := 13) hx hb hts rt_i5 hown hK hP 29 rfl rfl 10 (by decide) (hts _ (rt_m rt_w348)) (fun _ h9 => h9) rfl d_Foreteller_jump_51 ?_
      refine lv_iload_n hx hb d_Foreteller_jump_54 rfl (lv_at hl 0 rfl) ?_
      refine lv_aload_n hx hb d_Foreteller_jump_55 rfl (lv_at hl 1 rfl) ?_
      refine va_get (D := D) (v := .ref (A 39)) (C := "RangeTeller$Foreteller") (T := rt_T5) (N := 13) hx hb hts rt_i5 hown hK hP 29 rfl rfl 10 (by decide) (hts _ (rt_m rt_w348)) (fun _ h9 => h9) rfl d_Foreteller_jump_56 ?_
      refine lv_aload_n hx hb d_Foreteller_jump_59 rfl (lv_at hl 1 rfl) ?_
      refine va_get (D := D) (v := .int (σ 29 12)) (C := "RangeTeller$Foreteller") (T := rt_T5) (N := 13) hx hb hts rt_i5 hown hK hP 29 rfl rfl 12 (by decide) (hts _ (rt_m rt_w350)) (fun _ h9 => h9) rfl d_Foreteller_jump_60 ?_
      refine lv_iconst (v := 1) hx hb d_Foreteller_jump_63 (by decide) ?_
      refine lv_isub hx hb d_Foreteller_jump_64 ?_
      obtain ⟨v15, h16, hm⟩ := rt_b1s hm
      refine rt_ald hx hb hK hP 39 0 rfl rfl h16 d_Foreteller_jump_65 ?_
      obtain ⟨σ17, h18, hm⟩ := rt_b1s hm
      refine rt_ast hx hb hK hP hD hS 39 0 rfl (rtC_a39 cI cZ A _) rfl h18 d_Foreteller_jump_66 (fun H locs hP hS => ?_)
      exact hB67 ls a1 v11 σ17 _ _ (lv_sub hl [1, 2, 0] rfl) hm hP hS
  · have hm := (if_pos hc).symm.trans hm
    refine lv_aload_n hx hb d_Foreteller_jump_13 rfl (lv_at hl 0 rfl) ?_
    refine lv_aload_n hx hb d_Foreteller_jump_14 rfl (lv_at hl 0 rfl) ?_
    refine va_get (D := D) (v := .ref (A 1)) (C := "RangeTeller$Foreteller") (T := rt_T5) (N := 13) hx hb hts rt_i5 hown hK hP 29 rfl rfl 0 (by decide) (hts _ (rt_m rt_w333)) (fun _ h9 => h9) rfl d_Foreteller_jump_15 ?_
    refine va_get (D := D) (v := .ref (A 4)) (C := "RangeTeller$Program") (T := rt_T1) (N := 14) hx hb hts rt_i1 hown hK hP 1 rfl rfl 2 (by decide) (hts _ (rt_m rt_w132)) (fun _ h9 => h9) rfl d_Foreteller_jump_18 ?_
    refine lv_iload_n hx hb d_Foreteller_jump_21 rfl (lv_at hl 1 rfl) ?_
    obtain ⟨v19, h20, hm⟩ := rt_b1s hm
    refine rt_ald hx hb hK hP 4 0 rfl rfl h20 d_Foreteller_jump_22 ?_
    obtain ⟨σ22, h21, hm⟩ := rt_b1s hm
    refine rt_cvv (As := [.int v19]) (rest := []) (k := 29) rtC_Xo ⟨hx, hb, hml, hown, hts⟩ (k_C_Foreteller_leave l D cI cZ A hO σ v19 _ h21) (cw_Foreteller_leave hts (hts _ (rt_m rt_w603)) ⟨Nat.le_of_ble_eq_true rfl, Nat.le_of_ble_eq_true rfl⟩) hK hP hS hX rfl rfl rfl hl.1 rfl (Nat.le_of_ble_eq_true rfl) d_Foreteller_jump_23 ⟨Nat.zero_le _, Nat.zero_le _⟩ (fun H locs hP hS => ?_)
    exact W.vret hx hb hr (fun t ht hW => ⟨⟨_, rfl, Option.some.inj hm, rt_end rtC_Xo hK hP hS hX ht hW⟩, hS.F ht⟩) hS.2.2 d_Foreteller_jump_26
set_option maxHeartbeats 4000000 in
set_option maxRecDepth 100000 in
theorem k_C_Foreteller_fork (l : Launch) (D : va_G) (cI cZ : ClassId) (A : Nat → Nat) (hO : rt_Ok (rtC_W cI cZ A)) (σ : rt_St) (a1 a2 : Int32) (σ' : rt_St) (hm : M_C_Foreteller_fork σ a1 a2 = some σ') (sz : Nat) : Met l y_Foreteller_fork (rt_ws y_Foreteller_fork b_Foreteller_fork 6 none) ({ frames := 4, cells := 0, slots := 0, locals := 96 } : Room) (va_Pc [.ref (A 29), .int a1, .int a2] (rt_P D rt_cl (rt_t cI cZ) rtC_X (rtC_W cI cZ A) sz σ)) (va_Qv (fun u1 => u1 = σ') (rt_B D rt_cl (rt_t cI cZ) rtC_X (rtC_W cI cZ A)) (rt_A (rtC_W cI cZ A) sz)) 0 0 (rt_A (rtC_W cI cZ A) sz) := by
  refine Met.ofW (cc := b_Foreteller_fork) (maxL := 6) (ret := none) (by decide) rfl ?_
  intro p e s m args below meth c s₁ B hml hv
  obtain ⟨rfl, rfl, hP, hK, hX⟩ := hv
  have hx := B.exec
  have hb := B.bytes
  have hr := B.returns
  have hts := atoms_spec (ws := (rt_ws y_Foreteller_fork b_Foreteller_fork 6 none)) B.pre
  have hown : s.vm.findClass "RangeTeller$Foreteller" = some m.cls := findClass_of_methodNamed B.named
  have hlocks := B.notSynchronized
  have hD := rt_hD hO s.heap.size
  have hS : va_S (rt_A (rtC_W cI cZ A) s.heap.size) s.heap s.heap [] := va_S.rf
  have hl := lv_entry ([.ref (A 29), .int a1, .int a2]) (n := 6) (Nat.le_of_ble_eq_true rfl)
  rw [lg_entry_eq]
  generalize (lg_sl ([.ref (A 29), .int a1, .int a2]) ++ List.replicate (6 - (lg_sl ([.ref (A 29), .int a1, .int a2])).length) Slot.unset).toArray = ls at hl ⊢
  have hl : lv_has ls 6 [(0, .ref (A 29)), (1, .int a1), (2, .int a2)] := hl
  show W p l e ({ frames := 4, cells := 0, slots := 0, locals := 96 } : Room) s m ([.ref (A 29), .int a1, .int a2] : List Value).toArray below meth c s.heap [] 0 0 (rt_Qv D rt_cl (rt_t cI cZ) rtC_X (rtC_W cI cZ A) below ([.ref (A 29), .int a1, .int a2] : List Value).toArray s σ') (F0 m 0 ls [])
  have hB58 : ∀ (ls : Array Slot) (l1 : Int32) (σ : rt_St) (H : Heap) (locs : List Loc), lv_has ls 6 [(0, .ref (A 29)), (1, .int l1)] → B_C_Foreteller_fork_58 l1 σ = some σ' → va_P D rt_cl (rtC_W cI cZ A σ) H → va_S (rt_A (rtC_W cI cZ A) s.heap.size) s.heap H locs → W p l e ({ frames := 4, cells := 0, slots := 0, locals := 96 } : Room) s m ([.ref (A 29), .int a1, .int a2] : List Value).toArray below meth c H locs 0 0 (rt_Qv D rt_cl (rt_t cI cZ) rtC_X (rtC_W cI cZ A) below ([.ref (A 29), .int a1, .int a2] : List Value).toArray s σ') (F0 m 58 ls []) := by
    intro ls l1 σ H locs hl hm hP hS
    unfold B_C_Foreteller_fork_58 at hm
    refine lv_aload_n hx hb d_Foreteller_fork_58 rfl (lv_at hl 0 rfl) ?_
    refine lv_iload_n hx hb d_Foreteller_fork_59 rfl (lv_at hl 1 rfl) ?_
    obtain ⟨σ2, h1, hm⟩ := rt_b1s hm
    refine rt_cvv (As := [.int l1]) (rest := []) (k := 29) rtC_Xo ⟨hx, hb, hml, hown, hts⟩ (k_C_Foreteller_jump l D cI cZ A hO σ l1 _ h1) (cw_Foreteller_jump hts (hts _ (rt_m rt_w599)) ⟨Nat.le_of_ble_eq_true rfl, Nat.le_of_ble_eq_true rfl⟩) hK hP hS hX rfl rfl rfl hl.1 rfl (Nat.le_of_ble_eq_true rfl) d_Foreteller_fork_60 ⟨Nat.zero_le _, Nat.zero_le _⟩ (fun H locs hP hS => ?_)
    exact W.vret hx hb hr (fun t ht hW => ⟨⟨_, rfl, Option.some.inj hm, rt_end rtC_Xo hK hP hS hX ht hW⟩, hS.F ht⟩) hS.2.2 d_Foreteller_fork_63
  have hB41 : ∀ (ls : Array Slot) (l1 l2 l4 l5 : Int32) (σ : rt_St) (H : Heap) (locs : List Loc), lv_has ls 6 [(0, .ref (A 29)), (1, .int l1), (2, .int l2), (4, .int l4), (5, .int l5)] → B_C_Foreteller_fork_41 l1 l2 l4 l5 σ = some σ' → va_P D rt_cl (rtC_W cI cZ A σ) H → va_S (rt_A (rtC_W cI cZ A) s.heap.size) s.heap H locs → W p l e ({ frames := 4, cells := 0, slots := 0, locals := 96 } : Room) s m ([.ref (A 29), .int a1, .int a2] : List Value).toArray below meth c H locs 0 0 (rt_Qv D rt_cl (rt_t cI cZ) rtC_X (rtC_W cI cZ A) below ([.ref (A 29), .int a1, .int a2] : List Value).toArray s σ') (F0 m 41 ls []) := by
    intro ls l1 l2 l4 l5 σ H locs hl hm hP hS
    unfold B_C_Foreteller_fork_41 at hm
    refine lv_iload_n hx hb d_Foreteller_fork_41 rfl (lv_at hl 2 rfl) ?_
    refine lv_if_eq (tgt := 53) hx hb d_Foreteller_fork_42 (by decide) (fun hc => ?_) (fun hc => ?_)
    · have hm := (if_pos hc).symm.trans hm
      refine lv_iload hx hb d_Foreteller_fork_53 (lv_at hl 4 rfl) ?_
      refine lv_if_eq (tgt := 63) hx hb d_Foreteller_fork_55 (by decide) (fun hc => ?_) (fun hc => ?_)
      · have hm := (if_pos hc).symm.trans hm
        exact W.vret hx hb hr (fun t ht hW => ⟨⟨_, rfl, Option.some.inj hm, rt_end rtC_Xo hK hP hS hX ht hW⟩, hS.F ht⟩) hS.2.2 d_Foreteller_fork_63
      · have hm := (if_neg hc).symm.trans hm
        exact hB58 ls l1 σ _ _ (lv_sub hl [0, 1] rfl) hm hP hS
    · have hm := (if_neg hc).symm.trans hm
      refine lv_iload hx hb d_Foreteller_fork_45 (lv_at hl 3 rfl) ?_
      refine lv_if_eq (tgt := 63) hx hb d_Foreteller_fork_47 (by decide) (fun hc => ?_) (fun hc => ?_)
      · have hm := (if_pos hc).symm.trans hm
        exact W.vret hx hb hr (fun t ht hW => ⟨⟨_, rfl, Option.some.inj hm, rt_end rtC_Xo hK hP hS hX ht hW⟩, hS.F ht⟩) hS.2.2 d_Foreteller_fork_63
      · have hm := (if_neg hc).symm.trans hm
        refine lv_goto (tgt := 58) hx hb d_Foreteller_fork_50 (by decide) ?_
        exact hB58 ls l1 σ _ _ (lv_sub hl [0, 1] rfl) hm hP hS
  have hB34 : ∀ (ls : Array Slot) (l1 l2 l4 l5 : Int32) (σ : rt_St) (H : Heap) (locs : List Loc), lv_has ls 6 [(0, .ref (A 29)), (1, .int l1), (2, .int l2), (4, .int l4), (5, .int l5)] → B_C_Foreteller_fork_34 l1 l2 l4 l5 σ = some σ' → va_P D rt_cl (rtC_W cI cZ A σ) H → va_S (rt_A (rtC_W cI cZ A) s.heap.size) s.heap H locs → W p l e ({ frames := 4, cells := 0, slots := 0, locals := 96 } : Room) s m ([.ref (A 29), .int a1, .int a2] : List Value).toArray below meth c H locs 0 0 (rt_Qv D rt_cl (rt_t cI cZ) rtC_X (rtC_W cI cZ A) below ([.ref (A 29), .int a1, .int a2] : List Value).toArray s σ') (F0 m 34 ls []) := by
    intro ls l1 l2 l4 l5 σ H locs hl hm hP hS
    unfold B_C_Foreteller_fork_34 at hm
    refine lv_aload_n hx hb d_Foreteller_fork_34 rfl (lv_at hl 0 rfl) ?_
    refine lv_iload_n hx hb d_Foreteller_fork_35 rfl (lv_at hl 1 rfl) ?_
    refine lv_iconst (v := 1) hx hb d_Foreteller_fork_36 (by decide) ?_
    refine lv_iadd hx hb d_Foreteller_fork_37 ?_
    obtain ⟨σ4, h3, hm⟩ := rt_b1s hm
    refine rt_cvv (As := [.int (l1 + 1)]) (rest := []) (k := 29) rtC_Xo ⟨hx, hb, hml, hown, hts⟩ (k_C_Foreteller_arrive l D cI cZ A hO σ (l1 + 1) _ h3) (cw_Foreteller_arrive hts (hts _ (rt_m rt_w556)) ⟨Nat.le_of_ble_eq_true rfl, Nat.le_of_ble_eq_true rfl⟩) hK hP hS hX rfl rfl rfl hl.1 rfl (Nat.le_of_ble_eq_true rfl) d_Foreteller_fork_38 ⟨Nat.zero_le _, Nat.zero_le _⟩ (fun H locs hP hS => ?_)
    exact hB41 ls l1 l2 l4 l5 σ4 _ _ (lv_sub hl [0, 1, 2, 3, 4] rfl) hm hP hS
  unfold M_C_Foreteller_fork at hm
  refine lv_aload_n hx hb d_Foreteller_fork_0 rfl (lv_at hl 0 rfl) ?_
  obtain ⟨v7, σ6, h5, hm⟩ := rt_b2s hm
  refine rt_cvi (As := []) (rest := []) (k := 29) rtC_Xo ⟨hx, hb, hml, hown, hts⟩ (k_C_Foreteller_pop l D cI cZ A hO σ _ _ h5) (cw_Foreteller_pop hts (hts _ (rt_m rt_w583)) ⟨Nat.le_of_ble_eq_true rfl, Nat.le_of_ble_eq_true rfl⟩) hK hP hS hX rfl rfl rfl hl.1 rfl (Nat.le_of_ble_eq_true rfl) d_Foreteller_fork_1 ⟨Nat.zero_le _, Nat.zero_le _⟩ (fun H locs hP hS => ?_)
  refine lv_istore_n hx hb d_Foreteller_fork_4 rfl hl (by decide) rfl (fun ls hl => ?_)
  have hl : lv_has ls 6 [(3, .int v7), (0, .ref (A 29)), (1, .int a1), (2, .int a2)] := hl
  refine lv_iload_n hx hb d_Foreteller_fork_5 rfl (lv_at hl 0 rfl) ?_
  obtain ⟨v9, h8, hm⟩ := rt_b1s hm
  refine rt_csi (As := [.int v7]) (rest := []) rt_X0o ⟨hx, hb, hml, hown, hts⟩ (k_C_Ranges_canBeZero l v7 _ h8) (cw_Ranges_canBeZero hts (hts _ (rt_m rt_w587)) ⟨Nat.le_of_ble_eq_true rfl, Nat.le_of_ble_eq_true rfl⟩) hS (fun _ h => Or.inr h) trivial rfl hl.1 rfl (Nat.le_of_ble_eq_true rfl) d_Foreteller_fork_6 ⟨Nat.zero_le _, Nat.zero_le _⟩ (fun H locs hk hS => ?_)
  have hP := rt_keep hP hk
  clear hk
  refine lv_istore hx hb d_Foreteller_fork_9 hl (by decide) rfl (fun ls hl => ?_)
  have hl : lv_has ls 6 [(4, .int v9), (3, .int v7), (0, .ref (A 29)), (1, .int a1), (2, .int a2)] := hl
  refine lv_iload_n hx hb d_Foreteller_fork_11 rfl (lv_at hl 1 rfl) ?_
  obtain ⟨v11, h10, hm⟩ := rt_b1s hm
  refine rt_csi (As := [.int v7]) (rest := []) rt_X0o ⟨hx, hb, hml, hown, hts⟩ (k_C_Ranges_canBeOther l v7 _ h10) (cw_Ranges_canBeOther hts (hts _ (rt_m rt_w593)) ⟨Nat.le_of_ble_eq_true rfl, Nat.le_of_ble_eq_true rfl⟩) hS (fun _ h => Or.inr h) trivial rfl hl.1 rfl (Nat.le_of_ble_eq_true rfl) d_Foreteller_fork_12 ⟨Nat.zero_le _, Nat.zero_le _⟩ (fun H locs hk hS => ?_)
  have hP := rt_keep hP hk
  clear hk
  refine lv_istore hx hb d_Foreteller_fork_15 hl (by decide) rfl (fun ls hl => ?_)
  have hl : lv_has ls 6 [(5, .int v11), (4, .int v9), (3, .int v7), (0, .ref (A 29)), (1, .int a1), (2, .int a2)] := hl
  refine lv_iload_n hx hb d_Foreteller_fork_17 rfl (lv_at hl 5 rfl) ?_
  refine lv_if_eq (tgt := 29) hx hb d_Foreteller_fork_18 (by decide) (fun hc => ?_) (fun hc => ?_)
  · have hm := (if_pos hc).symm.trans hm
    refine lv_iload hx hb d_Foreteller_fork_29 (lv_at hl 1 rfl) ?_
    refine lv_if_eq (tgt := 41) hx hb d_Foreteller_fork_31 (by decide) (fun hc => ?_) (fun hc => ?_)
    · have hm := (if_pos hc).symm.trans hm
      exact hB41 ls a1 a2 v9 v11 σ6 _ _ (lv_sub hl [3, 4, 5, 1, 0] rfl) hm hP hS
    · have hm := (if_neg hc).symm.trans hm
      exact hB34 ls a1 a2 v9 v11 σ6 _ _ (lv_sub hl [3, 4, 5, 1, 0] rfl) hm hP hS
  · have hm := (if_neg hc).symm.trans hm
    refine lv_iload hx hb d_Foreteller_fork_21 (lv_at hl 0 rfl) ?_
    refine lv_if_eq (tgt := 41) hx hb d_Foreteller_fork_23 (by decide) (fun hc => ?_) (fun hc => ?_)
    · have hm := (if_pos hc).symm.trans hm
      exact hB41 ls a1 a2 v9 v11 σ6 _ _ (lv_sub hl [3, 4, 5, 1, 0] rfl) hm hP hS
    · have hm := (if_neg hc).symm.trans hm
      refine lv_goto (tgt := 34) hx hb d_Foreteller_fork_26 (by decide) ?_
      exact hB34 ls a1 a2 v9 v11 σ6 _ _ (lv_sub hl [3, 4, 5, 1, 0] rfl) hm hP hS
