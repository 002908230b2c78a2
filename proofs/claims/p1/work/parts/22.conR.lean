set_option maxHeartbeats 4000000 in
set_option maxRecDepth 100000 in
theorem k_R_RangeTellerModel_foretell (l : Launch) (D : va_G) (cI cZ : ClassId) (A : Nat → Nat) (hO : rt_Ok (rtR_W cI cZ A)) (σ : rt_St) (σ' : rt_St) (hm : M_R_RangeTellerModel_foretell σ = some σ') (sz : Nat) : Met l y_RangeTellerModel_foretell (rt_ws y_RangeTellerModel_foretell b_RangeTellerModel_foretell 2 none) ({ frames := 5, cells := 0, slots := 0, locals := 116 } : Room) (va_Pc [.ref (A 0)] (rt_P D rt_cl (rt_t cI cZ) rtR_X (rtR_W cI cZ A) sz σ)) (va_Qv (fun u1 => u1 = σ') (rt_B D rt_cl (rt_t cI cZ) rtR_X (rtR_W cI cZ A)) (rt_A (rtR_W cI cZ A) sz)) 0 0 (rt_A (rtR_W cI cZ A) sz) := by
  refine Met.ofW (cc := b_RangeTellerModel_foretell) (maxL := 2) (ret := none) (by decide) rfl ?_
  intro p e s m args below meth c s₁ B hml hv
  obtain ⟨rfl, rfl, hP, hK, hX⟩ := hv
  have hx := B.exec
  have hb := B.bytes
  have hr := B.returns
  have hts := atoms_spec (ws := (rt_ws y_RangeTellerModel_foretell b_RangeTellerModel_foretell 2 none)) B.pre
  have hown : s.vm.findClass "RangeTellerModel" = some m.cls := findClass_of_methodNamed B.named
  have hlocks := B.notSynchronized
  have hD := rt_hD hO s.heap.size
  have hS : va_S (rt_A (rtR_W cI cZ A) s.heap.size) s.heap s.heap [] := va_S.rf
  have hl := lv_entry ([.ref (A 0)]) (n := 2) (Nat.le_of_ble_eq_true rfl)
  rw [lg_entry_eq]
  generalize (lg_sl ([.ref (A 0)]) ++ List.replicate (2 - (lg_sl ([.ref (A 0)])).length) Slot.unset).toArray = ls at hl ⊢
  have hl : lv_has ls 2 [(0, .ref (A 0))] := hl
  show W p l e ({ frames := 5, cells := 0, slots := 0, locals := 116 } : Room) s m ([.ref (A 0)] : List Value).toArray below meth c s.heap [] 0 0 (rt_Qv D rt_cl (rt_t cI cZ) rtR_X (rtR_W cI cZ A) below ([.ref (A 0)] : List Value).toArray s σ') (F0 m 0 ls [])
  have hB73 : ∀ (n73 : Nat) (ls : Array Slot) (σ : rt_St) (H : Heap) (locs : List Loc), lv_has ls 2 [(0, .ref (A 0))] → B_R_RangeTellerModel_foretell_73 n73 σ = some σ' → va_P D rt_cl (rtR_W cI cZ A σ) H → va_S (rt_A (rtR_W cI cZ A) s.heap.size) s.heap H locs → W p l e ({ frames := 5, cells := 0, slots := 0, locals := 116 } : Room) s m ([.ref (A 0)] : List Value).toArray below meth c H locs 0 0 (rt_Qv D rt_cl (rt_t cI cZ) rtR_X (rtR_W cI cZ A) below ([.ref (A 0)] : List Value).toArray s σ') (F0 m 73 ls []) := by
    intro n73
    induction n73 with
    | zero => intro ls σ H locs hl hm hP hS; rw [B_R_RangeTellerModel_foretell_73] at hm; cases hm
    | succ n73 ih73 =>
      have hB87 : ∀ (n87 : Nat) (ls : Array Slot) (l1 : Int32) (σ : rt_St) (H : Heap) (locs : List Loc), lv_has ls 2 [(0, .ref (A 0)), (1, .int l1)] → B_R_RangeTellerModel_foretell_87 (B_R_RangeTellerModel_foretell_73 n73) n87 l1 σ = some σ' → va_P D rt_cl (rtR_W cI cZ A σ) H → va_S (rt_A (rtR_W cI cZ A) s.heap.size) s.heap H locs → W p l e ({ frames := 5, cells := 0, slots := 0, locals := 116 } : Room) s m ([.ref (A 0)] : List Value).toArray below meth c H locs 0 0 (rt_Qv D rt_cl (rt_t cI cZ) rtR_X (rtR_W cI cZ A) below ([.ref (A 0)] : List Value).toArray s σ') (F0 m 87 ls []) := by
        intro n87
        induction n87 with
        | zero => intro ls l1 σ H locs hl hm hP hS; rw [B_R_RangeTellerModel_foretell_87] at hm; cases hm
        | succ n87 ih87 =>
          have hB128 : ∀ (ls : Array Slot) (l1 : Int32) (σ : rt_St) (H : Heap) (locs : List Loc), lv_has ls 2 [(0, .ref (A 0)), (1, .int l1)] → B_R_RangeTellerModel_foretell_128 (B_R_RangeTellerModel_foretell_73 n73) (B_R_RangeTellerModel_foretell_87 (B_R_RangeTellerModel_foretell_73 n73) n87) l1 σ = some σ' → va_P D rt_cl (rtR_W cI cZ A σ) H → va_S (rt_A (rtR_W cI cZ A) s.heap.size) s.heap H locs → W p l e ({ frames := 5, cells := 0, slots := 0, locals := 116 } : Room) s m ([.ref (A 0)] : List Value).toArray below meth c H locs 0 0 (rt_Qv D rt_cl (rt_t cI cZ) rtR_X (rtR_W cI cZ A) below ([.ref (A 0)] : List Value).toArray s σ') (F0 m 128 ls []) := by
            intro ls l1 σ H locs hl hm hP hS
            unfold B_R_RangeTellerModel_foretell_128 at hm
            refine lv_iinc (k := 1) (v := (l1 + 1)) hx hb d_RangeTellerModel_foretell_128 hl rfl rfl (by decide) rfl (fun ls hl => ?_)
            have hl : lv_has ls 2 [(1, .int (l1 + 1)), (0, .ref (A 0))] := hl
            refine lv_goto (tgt := 87) hx hb d_RangeTellerModel_foretell_131 (by decide) ?_
            exact ih87 ls (l1 + 1) σ _ _ (lv_sub hl [1, 0] rfl) hm hP hS
          intro ls l1 σ H locs hl hm hP hS
          rw [B_R_RangeTellerModel_foretell_87] at hm
          refine lv_iload_n hx hb d_RangeTellerModel_foretell_87 rfl (lv_at hl 1 rfl) ?_
          refine lv_aload_n hx hb d_RangeTellerModel_foretell_88 rfl (lv_at hl 0 rfl) ?_
          refine va_get (D := D) (v := .int (σ 0 6)) (C := "RangeTellerModel") (T := rt_T6) (N := 69) hx hb hts rt_i6 hown hK hP 0 rfl rfl 6 (by decide) (hts _ (rt_m rt_w853)) (fun _ h9 => h9) rfl d_RangeTellerModel_foretell_89 ?_
          refine lv_icmp_ge (tgt := 134) hx hb d_RangeTellerModel_foretell_92 (by decide) (fun hc => ?_) (fun hc => ?_)
          · have hm := (if_pos hc).symm.trans hm
            refine lv_goto (tgt := 73) hx hb d_RangeTellerModel_foretell_134 (by decide) ?_
            exact ih73 ls σ _ _ (lv_sub hl [0] rfl) hm hP hS
          · have hm := (if_neg hc).symm.trans hm
            refine lv_aload_n hx hb d_RangeTellerModel_foretell_95 rfl (lv_at hl 0 rfl) ?_
            refine va_get (D := D) (v := .ref (A 26)) (C := "RangeTellerModel") (T := rt_T6) (N := 69) hx hb hts rt_i6 hown hK hP 0 rfl rfl 43 (by decide) (hts _ (rt_m rt_w890)) (fun _ h9 => h9) rfl d_RangeTellerModel_foretell_96 ?_
            refine lv_iload_n hx hb d_RangeTellerModel_foretell_99 rfl (lv_at hl 1 rfl) ?_
            obtain ⟨v1, h2, hm⟩ := rt_b1s hm
            refine rt_zld hx hb hK hP 26 1 rfl rfl h2 d_RangeTellerModel_foretell_100 ?_
            refine lv_if_eq (tgt := 128) hx hb d_RangeTellerModel_foretell_101 (by decide) (fun hc => ?_) (fun hc => ?_)
            · have hm := (if_pos hc).symm.trans hm
              exact hB128 ls l1 σ _ _ (lv_sub hl [0, 1] rfl) hm hP hS
            · have hm := (if_neg hc).symm.trans hm
              refine lv_aload_n hx hb d_RangeTellerModel_foretell_104 rfl (lv_at hl 0 rfl) ?_
              refine va_get (D := D) (v := .ref (A 27)) (C := "RangeTellerModel") (T := rt_T6) (N := 69) hx hb hts rt_i6 hown hK hP 0 rfl rfl 44 (by decide) (hts _ (rt_m rt_w891)) (fun _ h9 => h9) rfl d_RangeTellerModel_foretell_105 ?_
              refine lv_iload_n hx hb d_RangeTellerModel_foretell_108 rfl (lv_at hl 1 rfl) ?_
              obtain ⟨v3, h4, hm⟩ := rt_b1s hm
              refine rt_zld hx hb hK hP 27 1 rfl rfl h4 d_RangeTellerModel_foretell_109 ?_
              refine lv_if_ne (tgt := 116) hx hb d_RangeTellerModel_foretell_110 (by decide) (fun hc => ?_) (fun hc => ?_)
              · have hm := (if_neg hc).symm.trans hm
                refine lv_aload_n hx hb d_RangeTellerModel_foretell_116 rfl (lv_at hl 0 rfl) ?_
                refine va_get (D := D) (v := .ref (A 27)) (C := "RangeTellerModel") (T := rt_T6) (N := 69) hx hb hts rt_i6 hown hK hP 0 rfl rfl 44 (by decide) (hts _ (rt_m rt_w891)) (fun _ h9 => h9) rfl d_RangeTellerModel_foretell_117 ?_
                refine lv_iload_n hx hb d_RangeTellerModel_foretell_120 rfl (lv_at hl 1 rfl) ?_
                refine lv_iconst (v := 0) hx hb d_RangeTellerModel_foretell_121 (by decide) ?_
                obtain ⟨σ5, h6, hm⟩ := rt_b1s hm
                refine rt_zst hx hb hK hP hD hS 27 1 rfl (rtR_a27 cI cZ A _) rfl rfl h6 d_RangeTellerModel_foretell_122 (fun H locs hP hS => ?_)
                refine lv_aload_n hx hb d_RangeTellerModel_foretell_123 rfl (lv_at hl 0 rfl) ?_
                refine lv_iload_n hx hb d_RangeTellerModel_foretell_124 rfl (lv_at hl 1 rfl) ?_
                obtain ⟨σ8, h7, hm⟩ := rt_b1s hm
                refine rt_cvv (As := [.int l1]) (rest := []) (k := 0) rtR_Xo ⟨hx, hb, hml, hown, hts⟩ (k_R_RangeTellerModel_giveOn l D cI cZ A hO σ5 l1 _ h7) (cw_RangeTellerModel_giveOn hts (hts _ (rt_m rt_w1137)) ⟨Nat.le_of_ble_eq_true rfl, Nat.le_of_ble_eq_true rfl⟩) hK hP hS hX rfl rfl rfl hl.1 rfl (Nat.le_of_ble_eq_true rfl) d_RangeTellerModel_foretell_125 ⟨Nat.zero_le _, Nat.zero_le _⟩ (fun H locs hP hS => ?_)
                exact hB128 ls l1 σ8 _ _ (lv_sub hl [0, 1] rfl) hm hP hS
              · have hm := (if_pos hc).symm.trans hm
                refine lv_goto (tgt := 128) hx hb d_RangeTellerModel_foretell_113 (by decide) ?_
                exact hB128 ls l1 σ _ _ (lv_sub hl [0, 1] rfl) hm hP hS
      intro ls σ H locs hl hm hP hS
      rw [B_R_RangeTellerModel_foretell_73] at hm
      refine lv_aload_n hx hb d_RangeTellerModel_foretell_73 rfl (lv_at hl 0 rfl) ?_
      refine va_get (D := D) (v := .int (σ 0 58)) (C := "RangeTellerModel") (T := rt_T6) (N := 69) hx hb hts rt_i6 hown hK hP 0 rfl rfl 58 (by decide) (hts _ (rt_m rt_w905)) (fun _ h9 => h9) rfl d_RangeTellerModel_foretell_74 ?_
      refine lv_if_eq (tgt := 137) hx hb d_RangeTellerModel_foretell_77 (by decide) (fun hc => ?_) (fun hc => ?_)
      · have hm := (if_pos hc).symm.trans hm
        exact W.vret hx hb hr (fun t ht hW => ⟨⟨_, rfl, Option.some.inj hm, rt_end rtR_Xo hK hP hS hX ht hW⟩, hS.F ht⟩) hS.2.2 d_RangeTellerModel_foretell_137
      · have hm := (if_neg hc).symm.trans hm
        refine lv_aload_n hx hb d_RangeTellerModel_foretell_80 rfl (lv_at hl 0 rfl) ?_
        refine lv_iconst (v := 0) hx hb d_RangeTellerModel_foretell_81 (by decide) ?_
        obtain ⟨σ9, h10, hm⟩ := rt_b1s hm
        refine rt_pf (D := D) (C := "RangeTellerModel") (T := rt_T6) (N := 69) (ty := .boolean) hx hb hts rt_i6 rt_y6 rt_o6 rt_n6 hown hK hP hD hS 0 rfl rfl 58 (by decide) (hts _ (rt_m rt_w905)) (fun _ h9 => h9) rfl (by decide +kernel) rfl rfl (Nat.le_of_ble_eq_true rfl) (rtR_s0_58 cI cZ A _ _) h10 d_RangeTellerModel_foretell_82 (fun H locs hP hS => ?_)
        refine lv_iconst (v := 0) hx hb d_RangeTellerModel_foretell_85 (by decide) ?_
        refine lv_istore_n hx hb d_RangeTellerModel_foretell_86 rfl hl (by decide) rfl (fun ls hl => ?_)
        have hl : lv_has ls 2 [(1, .int 0), (0, .ref (A 0))] := hl
        exact hB87 _ ls 0 σ9 _ _ (lv_sub hl [1, 0] rfl) hm hP hS
  have hB11 : ∀ (n11 : Nat) (ls : Array Slot) (l1 : Int32) (σ : rt_St) (H : Heap) (locs : List Loc), lv_has ls 2 [(0, .ref (A 0)), (1, .int l1)] → B_R_RangeTellerModel_foretell_11 n11 l1 σ = some σ' → va_P D rt_cl (rtR_W cI cZ A σ) H → va_S (rt_A (rtR_W cI cZ A) s.heap.size) s.heap H locs → W p l e ({ frames := 5, cells := 0, slots := 0, locals := 116 } : Room) s m ([.ref (A 0)] : List Value).toArray below meth c H locs 0 0 (rt_Qv D rt_cl (rt_t cI cZ) rtR_X (rtR_W cI cZ A) below ([.ref (A 0)] : List Value).toArray s σ') (F0 m 11 ls []) := by
    intro n11
    induction n11 with
    | zero => intro ls l1 σ H locs hl hm hP hS; rw [B_R_RangeTellerModel_foretell_11] at hm; cases hm
    | succ n11 ih11 =>
      have hB44 : ∀ (ls : Array Slot) (l1 t0 t1 : Int32) (σ : rt_St) (H : Heap) (locs : List Loc), lv_has ls 2 [(0, .ref (A 0)), (1, .int l1)] → B_R_RangeTellerModel_foretell_44 (B_R_RangeTellerModel_foretell_11 n11) l1 t0 t1 σ = some σ' → va_P D rt_cl (rtR_W cI cZ A σ) H → va_S (rt_A (rtR_W cI cZ A) s.heap.size) s.heap H locs → W p l e ({ frames := 5, cells := 0, slots := 0, locals := 116 } : Room) s m ([.ref (A 0)] : List Value).toArray below meth c H locs 0 0 (rt_Qv D rt_cl (rt_t cI cZ) rtR_X (rtR_W cI cZ A) below ([.ref (A 0)] : List Value).toArray s σ') (F0 m 44 ls [.int t0, .int t1, .ref (A 45)]) := by
        intro ls l1 t0 t1 σ H locs hl hm hP hS
        unfold B_R_RangeTellerModel_foretell_44 at hm
        obtain ⟨σ11, h12, hm⟩ := rt_b1s hm
        refine rt_ast hx hb hK hP hD hS 45 0 rfl (rtR_a45 cI cZ A _) rfl h12 d_RangeTellerModel_foretell_44 (fun H locs hP hS => ?_)
        refine lv_aload_n hx hb d_RangeTellerModel_foretell_45 rfl (lv_at hl 0 rfl) ?_
        refine va_get (D := D) (v := .ref (A 46)) (C := "RangeTellerModel") (T := rt_T6) (N := 69) hx hb hts rt_i6 hown hK hP 0 rfl rfl 65 (by decide) (hts _ (rt_m rt_w912)) (fun _ h9 => h9) rfl d_RangeTellerModel_foretell_46 ?_
        refine lv_iload_n hx hb d_RangeTellerModel_foretell_49 rfl (lv_at hl 1 rfl) ?_
        refine lv_iconst (v := 0) hx hb d_RangeTellerModel_foretell_50 (by decide) ?_
        obtain ⟨σ13, h14, hm⟩ := rt_b1s hm
        refine rt_zst hx hb hK hP hD hS 46 1 rfl (rtR_a46 cI cZ A _) rfl rfl h14 d_RangeTellerModel_foretell_51 (fun H locs hP hS => ?_)
        refine lv_iinc (k := 1) (v := (l1 + 1)) hx hb d_RangeTellerModel_foretell_52 hl rfl rfl (by decide) rfl (fun ls hl => ?_)
        have hl : lv_has ls 2 [(1, .int (l1 + 1)), (0, .ref (A 0))] := hl
        refine lv_goto (tgt := 11) hx hb d_RangeTellerModel_foretell_55 (by decide) ?_
        exact ih11 ls (l1 + 1) σ13 _ _ (lv_sub hl [1, 0] rfl) hm hP hS
      intro ls l1 σ H locs hl hm hP hS
      rw [B_R_RangeTellerModel_foretell_11] at hm
      refine lv_iload_n hx hb d_RangeTellerModel_foretell_11 rfl (lv_at hl 1 rfl) ?_
      refine lv_iconst (v := 4) hx hb d_RangeTellerModel_foretell_12 (by decide) ?_
      refine lv_icmp_ge (tgt := 58) hx hb d_RangeTellerModel_foretell_13 (by decide) (fun hc => ?_) (fun hc => ?_)
      · have hm := (if_pos hc).symm.trans hm
        refine lv_aload_n hx hb d_RangeTellerModel_foretell_58 rfl (lv_at hl 0 rfl) ?_
        refine lv_aload_n hx hb d_RangeTellerModel_foretell_59 rfl (lv_at hl 0 rfl) ?_
        refine va_get (D := D) (v := .ref (A 14)) (C := "RangeTellerModel") (T := rt_T6) (N := 69) hx hb hts rt_i6 hown hK hP 0 rfl rfl 20 (by decide) (hts _ (rt_m rt_w867)) (fun _ h9 => h9) rfl d_RangeTellerModel_foretell_60 ?_
        refine lv_iconst (v := 0) hx hb d_RangeTellerModel_foretell_63 (by decide) ?_
        obtain ⟨v15, h16, hm⟩ := rt_b1s hm
        refine rt_ald hx hb hK hP 14 0 rfl rfl h16 d_RangeTellerModel_foretell_64 ?_
        obtain ⟨σ18, h17, hm⟩ := rt_b1s hm
        refine rt_cvv (As := [.int v15]) (rest := []) (k := 0) rtR_Xo ⟨hx, hb, hml, hown, hts⟩ (k_R_RangeTellerModel_pass l D cI cZ A hO σ v15 _ h17) (cw_RangeTellerModel_pass hts (hts _ (rt_m rt_w1133)) ⟨Nat.le_of_ble_eq_true rfl, Nat.le_of_ble_eq_true rfl⟩) hK hP hS hX rfl rfl rfl hl.1 rfl (Nat.le_of_ble_eq_true rfl) d_RangeTellerModel_foretell_65 ⟨Nat.zero_le _, Nat.zero_le _⟩ (fun H locs hP hS => ?_)
        refine lv_aload_n hx hb d_RangeTellerModel_foretell_68 rfl (lv_at hl 0 rfl) ?_
        refine lv_iconst (v := 1) hx hb d_RangeTellerModel_foretell_69 (by decide) ?_
        obtain ⟨σ19, h20, hm⟩ := rt_b1s hm
        refine rt_pf (D := D) (C := "RangeTellerModel") (T := rt_T6) (N := 69) (ty := .boolean) hx hb hts rt_i6 rt_y6 rt_o6 rt_n6 hown hK hP hD hS 0 rfl rfl 58 (by decide) (hts _ (rt_m rt_w905)) (fun _ h9 => h9) rfl (by decide +kernel) rfl rfl (Nat.le_of_ble_eq_true rfl) (rtR_s0_58 cI cZ A _ _) h20 d_RangeTellerModel_foretell_70 (fun H locs hP hS => ?_)
        exact hB73 _ ls σ19 _ _ (lv_sub hl [0] rfl) hm hP hS
      · have hm := (if_neg hc).symm.trans hm
        refine lv_aload_n hx hb d_RangeTellerModel_foretell_16 rfl (lv_at hl 0 rfl) ?_
        refine va_get (D := D) (v := .ref (A 44)) (C := "RangeTellerModel") (T := rt_T6) (N := 69) hx hb hts rt_i6 hown hK hP 0 rfl rfl 63 (by decide) (hts _ (rt_m rt_w910)) (fun _ h9 => h9) rfl d_RangeTellerModel_foretell_17 ?_
        refine lv_iload_n hx hb d_RangeTellerModel_foretell_20 rfl (lv_at hl 1 rfl) ?_
        refine lv_iconst (v := 0) hx hb d_RangeTellerModel_foretell_21 (by decide) ?_
        obtain ⟨σ21, h22, hm⟩ := rt_b1s hm
        refine rt_ast hx hb hK hP hD hS 44 0 rfl (rtR_a44 cI cZ A _) rfl h22 d_RangeTellerModel_foretell_22 (fun H locs hP hS => ?_)
        refine lv_aload_n hx hb d_RangeTellerModel_foretell_23 rfl (lv_at hl 0 rfl) ?_
        refine va_get (D := D) (v := .ref (A 45)) (C := "RangeTellerModel") (T := rt_T6) (N := 69) hx hb hts rt_i6 hown hK hP 0 rfl rfl 64 (by decide) (hts _ (rt_m rt_w911)) (fun _ h9 => h9) rfl d_RangeTellerModel_foretell_24 ?_
        refine lv_iload_n hx hb d_RangeTellerModel_foretell_27 rfl (lv_at hl 1 rfl) ?_
        refine lv_iload_n hx hb d_RangeTellerModel_foretell_28 rfl (lv_at hl 1 rfl) ?_
        refine lv_aload_n hx hb d_RangeTellerModel_foretell_29 rfl (lv_at hl 0 rfl) ?_
        refine va_get (D := D) (v := .ref (A 11)) (C := "RangeTellerModel") (T := rt_T6) (N := 69) hx hb hts rt_i6 hown hK hP 0 rfl rfl 17 (by decide) (hts _ (rt_m rt_w864)) (fun _ h9 => h9) rfl d_RangeTellerModel_foretell_30 ?_
        refine lv_iconst (v := 0) hx hb d_RangeTellerModel_foretell_33 (by decide) ?_
        obtain ⟨v23, h24, hm⟩ := rt_b1s hm
        refine rt_ald hx hb hK hP 11 0 rfl rfl h24 d_RangeTellerModel_foretell_34 ?_
        refine lv_icmp_ge (tgt := 43) hx hb d_RangeTellerModel_foretell_35 (by decide) (fun hc => ?_) (fun hc => ?_)
        · have hm := (if_pos hc).symm.trans hm
          refine lv_iconst (v := 0) hx hb d_RangeTellerModel_foretell_43 (by decide) ?_
          exact hB44 ls l1 0 l1 σ21 _ _ (lv_sub hl [0, 1] rfl) hm hP hS
        · have hm := (if_neg hc).symm.trans hm
          refine lv_bipush (v := 63) hx hb d_RangeTellerModel_foretell_38 (by decide) ?_
          refine lv_goto (tgt := 44) hx hb d_RangeTellerModel_foretell_40 (by decide) ?_
          exact hB44 ls l1 63 l1 σ21 _ _ (lv_sub hl [0, 1] rfl) hm hP hS
  unfold M_R_RangeTellerModel_foretell at hm
  refine lv_aload_n hx hb d_RangeTellerModel_foretell_0 rfl (lv_at hl 0 rfl) ?_
  obtain ⟨σ26, h25, hm⟩ := rt_b1s hm
  refine rt_cvv (As := []) (rest := []) (k := 0) rtR_Xo ⟨hx, hb, hml, hown, hts⟩ (k_R_RangeTellerModel_clear l D cI cZ A hO σ _ h25) (cw_RangeTellerModel_clear hts (hts _ (rt_m rt_w1129)) ⟨Nat.le_of_ble_eq_true rfl, Nat.le_of_ble_eq_true rfl⟩) hK hP hS hX rfl rfl rfl hl.1 rfl (Nat.le_of_ble_eq_true rfl) d_RangeTellerModel_foretell_1 ⟨Nat.zero_le _, Nat.zero_le _⟩ (fun H locs hP hS => ?_)
  refine lv_aload_n hx hb d_RangeTellerModel_foretell_4 rfl (lv_at hl 0 rfl) ?_
  refine lv_iconst (v := 0) hx hb d_RangeTellerModel_foretell_5 (by decide) ?_
  obtain ⟨σ27, h28, hm⟩ := rt_b1s hm
  refine rt_pf (D := D) (C := "RangeTellerModel") (T := rt_T6) (N := 69) (ty := .int) hx hb hts rt_i6 rt_y6 rt_o6 rt_n6 hown hK hP hD hS 0 rfl rfl 59 (by decide) (hts _ (rt_m rt_w906)) (fun _ h9 => h9) rfl (by decide +kernel) rfl rfl (Nat.le_of_ble_eq_true rfl) (rtR_s0_59 cI cZ A _ _) h28 d_RangeTellerModel_foretell_6 (fun H locs hP hS => ?_)
  refine lv_iconst (v := 0) hx hb d_RangeTellerModel_foretell_9 (by decide) ?_
  refine lv_istore_n hx hb d_RangeTellerModel_foretell_10 rfl hl (by decide) rfl (fun ls hl => ?_)
  have hl : lv_has ls 2 [(1, .int 0), (0, .ref (A 0))] := hl
  exact hB11 _ ls 0 σ27 _ _ (lv_sub hl [1, 0] rfl) hm hP hS
set_option maxHeartbeats 4000000 in
set_option maxRecDepth 100000 in
theorem k_R_RangeTellerModel_load (l : Launch) (D : va_G) (cI cZ : ClassId) (A : Nat → Nat) (hO : rt_Ok (rtR_W cI cZ A)) (σ : rt_St) (r' : Int32) (σ' : rt_St) (hm : M_R_RangeTellerModel_load σ = some (r', σ')) (sz : Nat) : Met l y_RangeTellerModel_load (rt_ws y_RangeTellerModel_load b_RangeTellerModel_load 2 (some .int)) ({ frames := 6, cells := 0, slots := 0, locals := 137 } : Room) (va_Pc [.ref (A 0)] (rt_P D rt_cl (rt_t cI cZ) rtR_X (rtR_W cI cZ A) sz σ)) (va_Qi (fun r1 u1 => r1 = r' ∧ u1 = σ') (rt_B D rt_cl (rt_t cI cZ) rtR_X (rtR_W cI cZ A)) (rt_A (rtR_W cI cZ A) sz)) 0 0 (rt_A (rtR_W cI cZ A) sz) := by
  refine Met.ofW (cc := b_RangeTellerModel_load) (maxL := 2) (ret := (some .int)) (by decide) rfl ?_
  intro p e s m args below meth c s₁ B hml hv
  obtain ⟨rfl, rfl, hP, hK, hX⟩ := hv
  have hx := B.exec
  have hb := B.bytes
  have hr := B.returns
  have hts := atoms_spec (ws := (rt_ws y_RangeTellerModel_load b_RangeTellerModel_load 2 (some .int))) B.pre
  have hown : s.vm.findClass "RangeTellerModel" = some m.cls := findClass_of_methodNamed B.named
  have hlocks := B.notSynchronized
  have hD := rt_hD hO s.heap.size
  have hS : va_S (rt_A (rtR_W cI cZ A) s.heap.size) s.heap s.heap [] := va_S.rf
  have hl := lv_entry ([.ref (A 0)]) (n := 2) (Nat.le_of_ble_eq_true rfl)
  rw [lg_entry_eq]
  generalize (lg_sl ([.ref (A 0)]) ++ List.replicate (2 - (lg_sl ([.ref (A 0)])).length) Slot.unset).toArray = ls at hl ⊢
  have hl : lv_has ls 2 [(0, .ref (A 0))] := hl
  show W p l e ({ frames := 6, cells := 0, slots := 0, locals := 137 } : Room) s m ([.ref (A 0)] : List Value).toArray below meth c s.heap [] 0 0 (rt_Qi D rt_cl (rt_t cI cZ) rtR_X (rtR_W cI cZ A) below ([.ref (A 0)] : List Value).toArray s r' σ') (F0 m 0 ls [])
  have hB33 : ∀ (ls : Array Slot) (l1 : Int32) (σ : rt_St) (H : Heap) (locs : List Loc), lv_has ls 2 [(0, .ref (A 0)), (1, .int l1)] → B_R_RangeTellerModel_load_33 l1 σ = some (r', σ') → va_P D rt_cl (rtR_W cI cZ A σ) H → va_S (rt_A (rtR_W cI cZ A) s.heap.size) s.heap H locs → W p l e ({ frames := 6, cells := 0, slots := 0, locals := 137 } : Room) s m ([.ref (A 0)] : List Value).toArray below meth c H locs 0 0 (rt_Qi D rt_cl (rt_t cI cZ) rtR_X (rtR_W cI cZ A) below ([.ref (A 0)] : List Value).toArray s r' σ') (F0 m 33 ls []) := by
    intro ls l1 σ H locs hl hm hP hS
    unfold B_R_RangeTellerModel_load_33 at hm
    refine lv_aload_n hx hb d_RangeTellerModel_load_33 rfl (lv_at hl 0 rfl) ?_
    refine lv_iconst (v := 0) hx hb d_RangeTellerModel_load_34 (by decide) ?_
    obtain ⟨σ1, h2, hm⟩ := rt_b1s hm
    refine rt_pf (D := D) (C := "RangeTellerModel") (T := rt_T6) (N := 69) (ty := .int) hx hb hts rt_i6 rt_y6 rt_o6 rt_n6 hown hK hP hD hS 0 rfl rfl 0 (by decide) (hts _ (rt_m rt_w847)) (fun _ h9 => h9) rfl (by decide +kernel) rfl rfl (Nat.le_of_ble_eq_true rfl) (rtR_s0_0 cI cZ A _ _) h2 d_RangeTellerModel_load_35 (fun H locs hP hS => ?_)
    refine lv_iload_n hx hb d_RangeTellerModel_load_38 rfl (lv_at hl 1 rfl) ?_
    refine lv_if_ne (tgt := 44) hx hb d_RangeTellerModel_load_39 (by decide) (fun hc => ?_) (fun hc => ?_)
    · have hm := (if_neg hc).symm.trans hm
      refine lv_aload_n hx hb d_RangeTellerModel_load_44 rfl (lv_at hl 0 rfl) ?_
      obtain ⟨v5, σ4, h3, hm⟩ := rt_b2s hm
      refine rt_cvi (As := []) (rest := []) (k := 0) rtR_Xo ⟨hx, hb, hml, hown, hts⟩ (k_R_RangeTellerModel_check l D cI cZ A hO σ1 _ _ h3) (cw_RangeTellerModel_check hts (hts _ (rt_m rt_w1086)) ⟨Nat.le_of_ble_eq_true rfl, Nat.le_of_ble_eq_true rfl⟩) hK hP hS hX rfl rfl rfl hl.1 rfl (Nat.le_of_ble_eq_true rfl) d_RangeTellerModel_load_45 ⟨Nat.zero_le _, Nat.zero_le _⟩ (fun H locs hP hS => ?_)
      refine lv_if_ne (tgt := 54) hx hb d_RangeTellerModel_load_48 (by decide) (fun hc => ?_) (fun hc => ?_)
      · have hm := (if_neg hc).symm.trans hm
        refine lv_aload_n hx hb d_RangeTellerModel_load_54 rfl (lv_at hl 0 rfl) ?_
        refine lv_iconst (v := 1) hx hb d_RangeTellerModel_load_55 (by decide) ?_
        obtain ⟨σ6, h7, hm⟩ := rt_b1s hm
        refine rt_pf (D := D) (C := "RangeTellerModel") (T := rt_T6) (N := 69) (ty := .boolean) hx hb hts rt_i6 rt_y6 rt_o6 rt_n6 hown hK hP hD hS 0 rfl rfl 4 (by decide) (hts _ (rt_m rt_w851)) (fun _ h9 => h9) rfl (by decide +kernel) rfl rfl (Nat.le_of_ble_eq_true rfl) (rtR_s0_4 cI cZ A _ _) h7 d_RangeTellerModel_load_56 (fun H locs hP hS => ?_)
        refine lv_aload_n hx hb d_RangeTellerModel_load_59 rfl (lv_at hl 0 rfl) ?_
        obtain ⟨σ9, h8, hm⟩ := rt_b1s hm
        refine rt_cvv (As := []) (rest := []) (k := 0) rtR_Xo ⟨hx, hb, hml, hown, hts⟩ (k_R_RangeTellerModel_foretell l D cI cZ A hO σ6 _ h8) (cw_RangeTellerModel_foretell hts (hts _ (rt_m rt_w1125)) ⟨Nat.le_of_ble_eq_true rfl, Nat.le_of_ble_eq_true rfl⟩) hK hP hS hX rfl rfl rfl hl.1 rfl (Nat.le_of_ble_eq_true rfl) d_RangeTellerModel_load_60 ⟨Nat.zero_le _, Nat.zero_le _⟩ (fun H locs hP hS => ?_)
        refine lv_aload_n hx hb d_RangeTellerModel_load_63 rfl (lv_at hl 0 rfl) ?_
        refine va_get (D := D) (v := .int (σ9 0 6)) (C := "RangeTellerModel") (T := rt_T6) (N := 69) hx hb hts rt_i6 hown hK hP 0 rfl rfl 6 (by decide) (hts _ (rt_m rt_w853)) (fun _ h9 => h9) rfl d_RangeTellerModel_load_64 ?_
        exact W.iret hx hb hr (fun t ht hW => ⟨⟨_, _, rfl, rt_pr hm, rt_end rtR_Xo hK hP hS hX ht hW⟩, hS.F ht⟩) hS.2.2 d_RangeTellerModel_load_67
      · have hm := (if_pos hc).symm.trans hm
        refine lv_bipush (v := (-2)) hx hb d_RangeTellerModel_load_51 (by decide) ?_
        exact W.iret hx hb hr (fun t ht hW => ⟨⟨_, _, rfl, rt_pr hm, rt_end rtR_Xo hK hP hS hX ht hW⟩, hS.F ht⟩) hS.2.2 d_RangeTellerModel_load_53
    · have hm := (if_pos hc).symm.trans hm
      refine lv_iconst (v := (-1)) hx hb d_RangeTellerModel_load_42 (by decide) ?_
      exact W.iret hx hb hr (fun t ht hW => ⟨⟨_, _, rfl, rt_pr hm, rt_end rtR_Xo hK hP hS hX ht hW⟩, hS.F ht⟩) hS.2.2 d_RangeTellerModel_load_43
  unfold M_R_RangeTellerModel_load at hm
  refine lv_aload_n hx hb d_RangeTellerModel_load_0 rfl (lv_at hl 0 rfl) ?_
  refine lv_iconst (v := 0) hx hb d_RangeTellerModel_load_1 (by decide) ?_
  obtain ⟨σ10, h11, hm⟩ := rt_b1s hm
  refine rt_pf (D := D) (C := "RangeTellerModel") (T := rt_T6) (N := 69) (ty := .boolean) hx hb hts rt_i6 rt_y6 rt_o6 rt_n6 hown hK hP hD hS 0 rfl rfl 29 (by decide) (hts _ (rt_m rt_w876)) (fun _ h9 => h9) rfl (by decide +kernel) rfl rfl (Nat.le_of_ble_eq_true rfl) (rtR_s0_29 cI cZ A _ _) h11 d_RangeTellerModel_load_2 (fun H locs hP hS => ?_)
  refine lv_aload_n hx hb d_RangeTellerModel_load_5 rfl (lv_at hl 0 rfl) ?_
  refine lv_iconst (v := 0) hx hb d_RangeTellerModel_load_6 (by decide) ?_
  obtain ⟨σ12, h13, hm⟩ := rt_b1s hm
  refine rt_pf (D := D) (C := "RangeTellerModel") (T := rt_T6) (N := 69) (ty := .boolean) hx hb hts rt_i6 rt_y6 rt_o6 rt_n6 hown hK hP hD hS 0 rfl rfl 4 (by decide) (hts _ (rt_m rt_w851)) (fun _ h9 => h9) rfl (by decide +kernel) rfl rfl (Nat.le_of_ble_eq_true rfl) (rtR_s0_4 cI cZ A _ _) h13 d_RangeTellerModel_load_7 (fun H locs hP hS => ?_)
  refine lv_aload_n hx hb d_RangeTellerModel_load_10 rfl (lv_at hl 0 rfl) ?_
  refine lv_bipush (v := (-3)) hx hb d_RangeTellerModel_load_11 (by decide) ?_
  obtain ⟨σ14, h15, hm⟩ := rt_b1s hm
  refine rt_pf (D := D) (C := "RangeTellerModel") (T := rt_T6) (N := 69) (ty := .int) hx hb hts rt_i6 rt_y6 rt_o6 rt_n6 hown hK hP hD hS 0 rfl rfl 5 (by decide) (hts _ (rt_m rt_w852)) (fun _ h9 => h9) rfl (by decide +kernel) rfl rfl (Nat.le_of_ble_eq_true rfl) (rtR_s0_5 cI cZ A _ _) h15 d_RangeTellerModel_load_13 (fun H locs hP hS => ?_)
  refine lv_aload_n hx hb d_RangeTellerModel_load_16 rfl (lv_at hl 0 rfl) ?_
  obtain ⟨v18, σ17, h16, hm⟩ := rt_b2s hm
  refine rt_cvi (As := []) (rest := []) (k := 0) rtR_Xo ⟨hx, hb, hml, hown, hts⟩ (k_R_RangeTellerModel_read l D cI cZ A hO σ14 _ _ h16) (cw_RangeTellerModel_read hts (hts _ (rt_m rt_w1063)) ⟨Nat.le_of_ble_eq_true rfl, Nat.le_of_ble_eq_true rfl⟩) hK hP hS hX rfl rfl rfl hl.1 rfl (Nat.le_of_ble_eq_true rfl) d_RangeTellerModel_load_17 ⟨Nat.zero_le _, Nat.zero_le _⟩ (fun H locs hP hS => ?_)
  refine lv_istore_n hx hb d_RangeTellerModel_load_20 rfl hl (by decide) rfl (fun ls hl => ?_)
  have hl : lv_has ls 2 [(1, .int v18), (0, .ref (A 0))] := hl
  refine lv_iload_n hx hb d_RangeTellerModel_load_21 rfl (lv_at hl 0 rfl) ?_
  refine lv_if_ne (tgt := 33) hx hb d_RangeTellerModel_load_22 (by decide) (fun hc => ?_) (fun hc => ?_)
  · have hm := (if_neg hc).symm.trans hm
    exact hB33 ls v18 σ17 _ _ (lv_sub hl [1, 0] rfl) hm hP hS
  · have hm := (if_pos hc).symm.trans hm
    refine lv_aload_n hx hb d_RangeTellerModel_load_25 rfl (lv_at hl 1 rfl) ?_
    refine lv_aload_n hx hb d_RangeTellerModel_load_26 rfl (lv_at hl 1 rfl) ?_
    refine va_get (D := D) (v := .int (σ17 0 2)) (C := "RangeTellerModel") (T := rt_T6) (N := 69) hx hb hts rt_i6 hown hK hP 0 rfl rfl 2 (by decide) (hts _ (rt_m rt_w849)) (fun _ h9 => h9) rfl d_RangeTellerModel_load_27 ?_
    obtain ⟨σ19, h20, hm⟩ := rt_b1s hm
    refine rt_pf (D := D) (C := "RangeTellerModel") (T := rt_T6) (N := 69) (ty := .int) hx hb hts rt_i6 rt_y6 rt_o6 rt_n6 hown hK hP hD hS 0 rfl rfl 5 (by decide) (hts _ (rt_m rt_w852)) (fun _ h9 => h9) rfl (by decide +kernel) rfl rfl (Nat.le_of_ble_eq_true rfl) (rtR_s0_5 cI cZ A _ _) h20 d_RangeTellerModel_load_30 (fun H locs hP hS => ?_)
    exact hB33 ls v18 σ19 _ _ (lv_sub hl [1, 0] rfl) hm hP hS
set_option maxHeartbeats 4000000 in
set_option maxRecDepth 100000 in
theorem k_R_RangeTellerModel_place (l : Launch) (D : va_G) (cI cZ : ClassId) (A : Nat → Nat) (hO : rt_Ok (rtR_W cI cZ A)) (σ : rt_St) (r' : Int32) (σ' : rt_St) (hm : M_R_RangeTellerModel_place σ = some (r', σ')) (sz : Nat) : Met l y_RangeTellerModel_place (rt_ws y_RangeTellerModel_place b_RangeTellerModel_place 1 (some .int)) ({ frames := 0, cells := 0, slots := 0, locals := 0 } : Room) (va_Pc [.ref (A 0)] (rt_P D rt_cl (rt_t cI cZ) rtR_X (rtR_W cI cZ A) sz σ)) (va_Qi (fun r1 u1 => r1 = r' ∧ u1 = σ') (rt_B D rt_cl (rt_t cI cZ) rtR_X (rtR_W cI cZ A)) (rt_A (rtR_W cI cZ A) sz)) 0 0 (rt_A (rtR_W cI cZ A) sz) := by
  refine Met.ofW (cc := b_RangeTellerModel_place) (maxL := 1) (ret := (some .int)) (by decide) rfl ?_
  intro p e s m args below meth c s₁ B hml hv
  obtain ⟨rfl, rfl, hP, hK, hX⟩ := hv
  have hx := B.exec
  have hb := B.bytes
  have hr := B.returns
  have hts := atoms_spec (ws := (rt_ws y_RangeTellerModel_place b_RangeTellerModel_place 1 (some .int))) B.pre
  have hown : s.vm.findClass "RangeTellerModel" = some m.cls := findClass_of_methodNamed B.named
  have hlocks := B.notSynchronized
  have hD := rt_hD hO s.heap.size
  have hS : va_S (rt_A (rtR_W cI cZ A) s.heap.size) s.heap s.heap [] := va_S.rf
  have hl := lv_entry ([.ref (A 0)]) (n := 1) (Nat.le_of_ble_eq_true rfl)
  rw [lg_entry_eq]
  generalize (lg_sl ([.ref (A 0)]) ++ List.replicate (1 - (lg_sl ([.ref (A 0)])).length) Slot.unset).toArray = ls at hl ⊢
  have hl : lv_has ls 1 [(0, .ref (A 0))] := hl
  show W p l e ({ frames := 0, cells := 0, slots := 0, locals := 0 } : Room) s m ([.ref (A 0)] : List Value).toArray below meth c s.heap [] 0 0 (rt_Qi D rt_cl (rt_t cI cZ) rtR_X (rtR_W cI cZ A) below ([.ref (A 0)] : List Value).toArray s r' σ') (F0 m 0 ls [])
  unfold M_R_RangeTellerModel_place at hm
  refine lv_aload_n hx hb d_RangeTellerModel_place_0 rfl (lv_at hl 0 rfl) ?_
  refine va_get (D := D) (v := .int (σ 0 5)) (C := "RangeTellerModel") (T := rt_T6) (N := 69) hx hb hts rt_i6 hown hK hP 0 rfl rfl 5 (by decide) (hts _ (rt_m rt_w852)) (fun _ h9 => h9) rfl d_RangeTellerModel_place_1 ?_
  exact W.iret hx hb hr (fun t ht hW => ⟨⟨_, _, rfl, rt_pr hm, rt_end rtR_Xo hK hP hS hX ht hW⟩, hS.F ht⟩) hS.2.2 d_RangeTellerModel_place_4
set_option maxHeartbeats 4000000 in
set_option maxRecDepth 100000 in
theorem k_R_RangeTellerModel_input (l : Launch) (D : va_G) (cI cZ : ClassId) (A : Nat → Nat) (hO : rt_Ok (rtR_W cI cZ A)) (σ : rt_St) (a1 : Int32) (r' : Int32) (σ' : rt_St) (hm : M_R_RangeTellerModel_input σ a1 = some (r', σ')) (sz : Nat) : Met l y_RangeTellerModel_input (rt_ws y_RangeTellerModel_input b_RangeTellerModel_input 2 (some .int)) ({ frames := 0, cells := 0, slots := 0, locals := 0 } : Room) (va_Pc [.ref (A 0), .int a1] (rt_P D rt_cl (rt_t cI cZ) rtR_X (rtR_W cI cZ A) sz σ)) (va_Qi (fun r1 u1 => r1 = r' ∧ u1 = σ') (rt_B D rt_cl (rt_t cI cZ) rtR_X (rtR_W cI cZ A)) (rt_A (rtR_W cI cZ A) sz)) 0 0 (rt_A (rtR_W cI cZ A) sz) := by
  refine Met.ofW (cc := b_RangeTellerModel_input) (maxL := 2) (ret := (some .int)) (by decide) rfl ?_
  intro p e s m args below meth c s₁ B hml hv
  obtain ⟨rfl, rfl, hP, hK, hX⟩ := hv
  have hx := B.exec
  have hb := B.bytes
  have hr := B.returns
  have hts := atoms_spec (ws := (rt_ws y_RangeTellerModel_input b_RangeTellerModel_input 2 (some .int))) B.pre
  have hown : s.vm.findClass "RangeTellerModel" = some m.cls := findClass_of_methodNamed B.named
  have hlocks := B.notSynchronized
  have hD := rt_hD hO s.heap.size
  have hS : va_S (rt_A (rtR_W cI cZ A) s.heap.size) s.heap s.heap [] := va_S.rf
  have hl := lv_entry ([.ref (A 0), .int a1]) (n := 2) (Nat.le_of_ble_eq_true rfl)
  rw [lg_entry_eq]
  generalize (lg_sl ([.ref (A 0), .int a1]) ++ List.replicate (2 - (lg_sl ([.ref (A 0), .int a1])).length) Slot.unset).toArray = ls at hl ⊢
  have hl : lv_has ls 2 [(0, .ref (A 0)), (1, .int a1)] := hl
  show W p l e ({ frames := 0, cells := 0, slots := 0, locals := 0 } : Room) s m ([.ref (A 0), .int a1] : List Value).toArray below meth c s.heap [] 0 0 (rt_Qi D rt_cl (rt_t cI cZ) rtR_X (rtR_W cI cZ A) below ([.ref (A 0), .int a1] : List Value).toArray s r' σ') (F0 m 0 ls [])
  unfold M_R_RangeTellerModel_input at hm
  refine lv_iload_n hx hb d_RangeTellerModel_input_0 rfl (lv_at hl 1 rfl) ?_
  refine lv_if_lt (tgt := 19) hx hb d_RangeTellerModel_input_1 (by decide) (fun hc => ?_) (fun hc => ?_)
  · have hm := (if_pos hc).symm.trans hm
    refine lv_bipush (v := (-3)) hx hb d_RangeTellerModel_input_19 (by decide) ?_
    exact W.iret hx hb hr (fun t ht hW => ⟨⟨_, _, rfl, rt_pr hm, rt_end rtR_Xo hK hP hS hX ht hW⟩, hS.F ht⟩) hS.2.2 d_RangeTellerModel_input_21
  · have hm := (if_neg hc).symm.trans hm
    refine lv_iload_n hx hb d_RangeTellerModel_input_4 rfl (lv_at hl 1 rfl) ?_
    refine lv_bipush (v := 63) hx hb d_RangeTellerModel_input_5 (by decide) ?_
    refine lv_icmp_gt (tgt := 19) hx hb d_RangeTellerModel_input_7 (by decide) (fun hc => ?_) (fun hc => ?_)
    · have hm := (if_pos hc).symm.trans hm
      refine lv_bipush (v := (-3)) hx hb d_RangeTellerModel_input_19 (by decide) ?_
      exact W.iret hx hb hr (fun t ht hW => ⟨⟨_, _, rfl, rt_pr hm, rt_end rtR_Xo hK hP hS hX ht hW⟩, hS.F ht⟩) hS.2.2 d_RangeTellerModel_input_21
    · have hm := (if_neg hc).symm.trans hm
      refine lv_aload_n hx hb d_RangeTellerModel_input_10 rfl (lv_at hl 0 rfl) ?_
      refine va_get (D := D) (v := .int (σ 0 27)) (C := "RangeTellerModel") (T := rt_T6) (N := 69) hx hb hts rt_i6 hown hK hP 0 rfl rfl 27 (by decide) (hts _ (rt_m rt_w874)) (fun _ h9 => h9) rfl d_RangeTellerModel_input_11 ?_
      refine lv_bipush (v := 12) hx hb d_RangeTellerModel_input_14 (by decide) ?_
      refine lv_icmp_ne (tgt := 22) hx hb d_RangeTellerModel_input_16 (by decide) (fun hc => ?_) (fun hc => ?_)
      · have hm := (if_neg hc).symm.trans hm
        refine lv_aload_n hx hb d_RangeTellerModel_input_22 rfl (lv_at hl 0 rfl) ?_
        refine va_get (D := D) (v := .ref (A 19)) (C := "RangeTellerModel") (T := rt_T6) (N := 69) hx hb hts rt_i6 hown hK hP 0 rfl rfl 28 (by decide) (hts _ (rt_m rt_w875)) (fun _ h9 => h9) rfl d_RangeTellerModel_input_23 ?_
        refine lv_aload_n hx hb d_RangeTellerModel_input_26 rfl (lv_at hl 0 rfl) ?_
        refine va_get (D := D) (v := .int (σ 0 27)) (C := "RangeTellerModel") (T := rt_T6) (N := 69) hx hb hts rt_i6 hown hK hP 0 rfl rfl 27 (by decide) (hts _ (rt_m rt_w874)) (fun _ h9 => h9) rfl d_RangeTellerModel_input_27 ?_
        refine lv_iload_n hx hb d_RangeTellerModel_input_30 rfl (lv_at hl 1 rfl) ?_
        obtain ⟨σ1, h2, hm⟩ := rt_b1s hm
        refine rt_ast hx hb hK hP hD hS 19 0 rfl (rtR_a19 cI cZ A _) rfl h2 d_RangeTellerModel_input_31 (fun H locs hP hS => ?_)
        refine lv_aload_n hx hb d_RangeTellerModel_input_32 rfl (lv_at hl 0 rfl) ?_
        refine lv_dup hx hb d_RangeTellerModel_input_33 rfl ?_
        refine va_get (D := D) (v := .int (σ1 0 27)) (C := "RangeTellerModel") (T := rt_T6) (N := 69) hx hb hts rt_i6 hown hK hP 0 rfl rfl 27 (by decide) (hts _ (rt_m rt_w874)) (fun _ h9 => h9) rfl d_RangeTellerModel_input_34 ?_
        refine lv_iconst (v := 1) hx hb d_RangeTellerModel_input_37 (by decide) ?_
        refine lv_iadd hx hb d_RangeTellerModel_input_38 ?_
        obtain ⟨σ3, h4, hm⟩ := rt_b1s hm
        refine rt_pf (D := D) (C := "RangeTellerModel") (T := rt_T6) (N := 69) (ty := .int) hx hb hts rt_i6 rt_y6 rt_o6 rt_n6 hown hK hP hD hS 0 rfl rfl 27 (by decide) (hts _ (rt_m rt_w874)) (fun _ h9 => h9) rfl (by decide +kernel) rfl rfl (Nat.le_of_ble_eq_true rfl) (rtR_s0_27 cI cZ A _ _) h4 d_RangeTellerModel_input_39 (fun H locs hP hS => ?_)
        refine lv_aload_n hx hb d_RangeTellerModel_input_42 rfl (lv_at hl 0 rfl) ?_
        refine va_get (D := D) (v := .int (σ3 0 27)) (C := "RangeTellerModel") (T := rt_T6) (N := 69) hx hb hts rt_i6 hown hK hP 0 rfl rfl 27 (by decide) (hts _ (rt_m rt_w874)) (fun _ h9 => h9) rfl d_RangeTellerModel_input_43 ?_
        exact W.iret hx hb hr (fun t ht hW => ⟨⟨_, _, rfl, rt_pr hm, rt_end rtR_Xo hK hP hS hX ht hW⟩, hS.F ht⟩) hS.2.2 d_RangeTellerModel_input_46
      · have hm := (if_pos hc).symm.trans hm
        refine lv_bipush (v := (-3)) hx hb d_RangeTellerModel_input_19 (by decide) ?_
        exact W.iret hx hb hr (fun t ht hW => ⟨⟨_, _, rfl, rt_pr hm, rt_end rtR_Xo hK hP hS hX ht hW⟩, hS.F ht⟩) hS.2.2 d_RangeTellerModel_input_21
set_option maxHeartbeats 4000000 in
set_option maxRecDepth 100000 in
theorem k_R_RangeTellerModel_pop (l : Launch) (D : va_G) (cI cZ : ClassId) (A : Nat → Nat) (hO : rt_Ok (rtR_W cI cZ A)) (σ : rt_St) (r' : Int32) (σ' : rt_St) (hm : M_R_RangeTellerModel_pop σ = some (r', σ')) (sz : Nat) : Met l y_RangeTellerModel_pop (rt_ws y_RangeTellerModel_pop b_RangeTellerModel_pop 1 (some .int)) ({ frames := 0, cells := 0, slots := 0, locals := 0 } : Room) (va_Pc [.ref (A 0)] (rt_P D rt_cl (rt_t cI cZ) rtR_X (rtR_W cI cZ A) sz σ)) (va_Qi (fun r1 u1 => r1 = r' ∧ u1 = σ') (rt_B D rt_cl (rt_t cI cZ) rtR_X (rtR_W cI cZ A)) (rt_A (rtR_W cI cZ A) sz)) 0 0 (rt_A (rtR_W cI cZ A) sz) := by
  refine Met.ofW (cc := b_RangeTellerModel_pop) (maxL := 1) (ret := (some .int)) (by decide) rfl ?_
  intro p e s m args below meth c s₁ B hml hv
  obtain ⟨rfl, rfl, hP, hK, hX⟩ := hv
  have hx := B.exec
  have hb := B.bytes
  have hr := B.returns
  have hts := atoms_spec (ws := (rt_ws y_RangeTellerModel_pop b_RangeTellerModel_pop 1 (some .int))) B.pre
  have hown : s.vm.findClass "RangeTellerModel" = some m.cls := findClass_of_methodNamed B.named
  have hlocks := B.notSynchronized
  have hD := rt_hD hO s.heap.size
  have hS : va_S (rt_A (rtR_W cI cZ A) s.heap.size) s.heap s.heap [] := va_S.rf
  have hl := lv_entry ([.ref (A 0)]) (n := 1) (Nat.le_of_ble_eq_true rfl)
  rw [lg_entry_eq]
  generalize (lg_sl ([.ref (A 0)]) ++ List.replicate (1 - (lg_sl ([.ref (A 0)])).length) Slot.unset).toArray = ls at hl ⊢
  have hl : lv_has ls 1 [(0, .ref (A 0))] := hl
  show W p l e ({ frames := 0, cells := 0, slots := 0, locals := 0 } : Room) s m ([.ref (A 0)] : List Value).toArray below meth c s.heap [] 0 0 (rt_Qi D rt_cl (rt_t cI cZ) rtR_X (rtR_W cI cZ A) below ([.ref (A 0)] : List Value).toArray s r' σ') (F0 m 0 ls [])
  unfold M_R_RangeTellerModel_pop at hm
  refine lv_aload_n hx hb d_RangeTellerModel_pop_0 rfl (lv_at hl 0 rfl) ?_
  refine va_get (D := D) (v := .ref (A 23)) (C := "RangeTellerModel") (T := rt_T6) (N := 69) hx hb hts rt_i6 hown hK hP 0 rfl rfl 34 (by decide) (hts _ (rt_m rt_w881)) (fun _ h9 => h9) rfl d_RangeTellerModel_pop_1 ?_
  refine lv_aload_n hx hb d_RangeTellerModel_pop_4 rfl (lv_at hl 0 rfl) ?_
  refine va_get (D := D) (v := .int (σ 0 30)) (C := "RangeTellerModel") (T := rt_T6) (N := 69) hx hb hts rt_i6 hown hK hP 0 rfl rfl 30 (by decide) (hts _ (rt_m rt_w877)) (fun _ h9 => h9) rfl d_RangeTellerModel_pop_5 ?_
  refine lv_dup2_11 hx hb d_RangeTellerModel_pop_8 rfl rfl ?_
  obtain ⟨v1, h2, hm⟩ := rt_b1s hm
  refine rt_ald hx hb hK hP 23 0 rfl rfl h2 d_RangeTellerModel_pop_9 ?_
  refine lv_iconst (v := 1) hx hb d_RangeTellerModel_pop_10 (by decide) ?_
  refine lv_isub hx hb d_RangeTellerModel_pop_11 ?_
  obtain ⟨σ3, h4, hm⟩ := rt_b1s hm
  refine rt_ast hx hb hK hP hD hS 23 0 rfl (rtR_a23 cI cZ A _) rfl h4 d_RangeTellerModel_pop_12 (fun H locs hP hS => ?_)
  refine lv_aload_n hx hb d_RangeTellerModel_pop_13 rfl (lv_at hl 0 rfl) ?_
  refine va_get (D := D) (v := .ref (A 21)) (C := "RangeTellerModel") (T := rt_T6) (N := 69) hx hb hts rt_i6 hown hK hP 0 rfl rfl 32 (by decide) (hts _ (rt_m rt_w879)) (fun _ h9 => h9) rfl d_RangeTellerModel_pop_14 ?_
  refine lv_bipush (v := 10) hx hb d_RangeTellerModel_pop_17 (by decide) ?_
  refine lv_aload_n hx hb d_RangeTellerModel_pop_19 rfl (lv_at hl 0 rfl) ?_
  refine va_get (D := D) (v := .int (σ3 0 30)) (C := "RangeTellerModel") (T := rt_T6) (N := 69) hx hb hts rt_i6 hown hK hP 0 rfl rfl 30 (by decide) (hts _ (rt_m rt_w877)) (fun _ h9 => h9) rfl d_RangeTellerModel_pop_20 ?_
  refine lv_imul hx hb d_RangeTellerModel_pop_23 ?_
  refine lv_aload_n hx hb d_RangeTellerModel_pop_24 rfl (lv_at hl 0 rfl) ?_
  refine va_get (D := D) (v := .ref (A 23)) (C := "RangeTellerModel") (T := rt_T6) (N := 69) hx hb hts rt_i6 hown hK hP 0 rfl rfl 34 (by decide) (hts _ (rt_m rt_w881)) (fun _ h9 => h9) rfl d_RangeTellerModel_pop_25 ?_
  refine lv_aload_n hx hb d_RangeTellerModel_pop_28 rfl (lv_at hl 0 rfl) ?_
  refine va_get (D := D) (v := .int (σ3 0 30)) (C := "RangeTellerModel") (T := rt_T6) (N := 69) hx hb hts rt_i6 hown hK hP 0 rfl rfl 30 (by decide) (hts _ (rt_m rt_w877)) (fun _ h9 => h9) rfl d_RangeTellerModel_pop_29 ?_
  obtain ⟨v5, h6, hm⟩ := rt_b1s hm
  refine rt_ald hx hb hK hP 23 0 rfl rfl h6 d_RangeTellerModel_pop_32 ?_
  refine lv_iadd hx hb d_RangeTellerModel_pop_33 ?_
  obtain ⟨v7, h8, hm⟩ := rt_b1s hm
  refine rt_ald hx hb hK hP 21 0 rfl rfl h8 d_RangeTellerModel_pop_34 ?_
  exact W.iret hx hb hr (fun t ht hW => ⟨⟨_, _, rfl, rt_pr hm, rt_end rtR_Xo hK hP hS hX ht hW⟩, hS.F ht⟩) hS.2.2 d_RangeTellerModel_pop_35
set_option maxHeartbeats 4000000 in
set_option maxRecDepth 100000 in
theorem k_R_RangeTellerModel_push (l : Launch) (D : va_G) (cI cZ : ClassId) (A : Nat → Nat) (hO : rt_Ok (rtR_W cI cZ A)) (σ : rt_St) (a1 : Int32) (σ' : rt_St) (hm : M_R_RangeTellerModel_push σ a1 = some σ') (sz : Nat) : Met l y_RangeTellerModel_push (rt_ws y_RangeTellerModel_push b_RangeTellerModel_push 2 none) ({ frames := 0, cells := 0, slots := 0, locals := 0 } : Room) (va_Pc [.ref (A 0), .int a1] (rt_P D rt_cl (rt_t cI cZ) rtR_X (rtR_W cI cZ A) sz σ)) (va_Qv (fun u1 => u1 = σ') (rt_B D rt_cl (rt_t cI cZ) rtR_X (rtR_W cI cZ A)) (rt_A (rtR_W cI cZ A) sz)) 0 0 (rt_A (rtR_W cI cZ A) sz) := by
  refine Met.ofW (cc := b_RangeTellerModel_push) (maxL := 2) (ret := none) (by decide) rfl ?_
  intro p e s m args below meth c s₁ B hml hv
  obtain ⟨rfl, rfl, hP, hK, hX⟩ := hv
  have hx := B.exec
  have hb := B.bytes
  have hr := B.returns
  have hts := atoms_spec (ws := (rt_ws y_RangeTellerModel_push b_RangeTellerModel_push 2 none)) B.pre
  have hown : s.vm.findClass "RangeTellerModel" = some m.cls := findClass_of_methodNamed B.named
  have hlocks := B.notSynchronized
  have hD := rt_hD hO s.heap.size
  have hS : va_S (rt_A (rtR_W cI cZ A) s.heap.size) s.heap s.heap [] := va_S.rf
  have hl := lv_entry ([.ref (A 0), .int a1]) (n := 2) (Nat.le_of_ble_eq_true rfl)
  rw [lg_entry_eq]
  generalize (lg_sl ([.ref (A 0), .int a1]) ++ List.replicate (2 - (lg_sl ([.ref (A 0), .int a1])).length) Slot.unset).toArray = ls at hl ⊢
  have hl : lv_has ls 2 [(0, .ref (A 0)), (1, .int a1)] := hl
  show W p l e ({ frames := 0, cells := 0, slots := 0, locals := 0 } : Room) s m ([.ref (A 0), .int a1] : List Value).toArray below meth c s.heap [] 0 0 (rt_Qv D rt_cl (rt_t cI cZ) rtR_X (rtR_W cI cZ A) below ([.ref (A 0), .int a1] : List Value).toArray s σ') (F0 m 0 ls [])
  unfold M_R_RangeTellerModel_push at hm
  refine lv_aload_n hx hb d_RangeTellerModel_push_0 rfl (lv_at hl 0 rfl) ?_
  refine va_get (D := D) (v := .ref (A 21)) (C := "RangeTellerModel") (T := rt_T6) (N := 69) hx hb hts rt_i6 hown hK hP 0 rfl rfl 32 (by decide) (hts _ (rt_m rt_w879)) (fun _ h9 => h9) rfl d_RangeTellerModel_push_1 ?_
  refine lv_bipush (v := 10) hx hb d_RangeTellerModel_push_4 (by decide) ?_
  refine lv_aload_n hx hb d_RangeTellerModel_push_6 rfl (lv_at hl 0 rfl) ?_
  refine va_get (D := D) (v := .int (σ 0 30)) (C := "RangeTellerModel") (T := rt_T6) (N := 69) hx hb hts rt_i6 hown hK hP 0 rfl rfl 30 (by decide) (hts _ (rt_m rt_w877)) (fun _ h9 => h9) rfl d_RangeTellerModel_push_7 ?_
  refine lv_imul hx hb d_RangeTellerModel_push_10 ?_
  refine lv_aload_n hx hb d_RangeTellerModel_push_11 rfl (lv_at hl 0 rfl) ?_
  refine va_get (D := D) (v := .ref (A 23)) (C := "RangeTellerModel") (T := rt_T6) (N := 69) hx hb hts rt_i6 hown hK hP 0 rfl rfl 34 (by decide) (hts _ (rt_m rt_w881)) (fun _ h9 => h9) rfl d_RangeTellerModel_push_12 ?_
  refine lv_aload_n hx hb d_RangeTellerModel_push_15 rfl (lv_at hl 0 rfl) ?_
  refine va_get (D := D) (v := .int (σ 0 30)) (C := "RangeTellerModel") (T := rt_T6) (N := 69) hx hb hts rt_i6 hown hK hP 0 rfl rfl 30 (by decide) (hts _ (rt_m rt_w877)) (fun _ h9 => h9) rfl d_RangeTellerModel_push_16 ?_
  obtain ⟨v1, h2, hm⟩ := rt_b1s hm
  refine rt_ald hx hb hK hP 23 0 rfl rfl h2 d_RangeTellerModel_push_19 ?_
  refine lv_iadd hx hb d_RangeTellerModel_push_20 ?_
  refine lv_iload_n hx hb d_RangeTellerModel_push_21 rfl (lv_at hl 1 rfl) ?_
  refine lv_bipush (v := 63) hx hb d_RangeTellerModel_push_22 (by decide) ?_
  refine lv_iand hx hb d_RangeTellerModel_push_24 ?_
  obtain ⟨σ3, h4, hm⟩ := rt_b1s hm
  refine rt_ast hx hb hK hP hD hS 21 0 rfl (rtR_a21 cI cZ A _) rfl h4 d_RangeTellerModel_push_25 (fun H locs hP hS => ?_)
  refine lv_aload_n hx hb d_RangeTellerModel_push_26 rfl (lv_at hl 0 rfl) ?_
  refine va_get (D := D) (v := .ref (A 23)) (C := "RangeTellerModel") (T := rt_T6) (N := 69) hx hb hts rt_i6 hown hK hP 0 rfl rfl 34 (by decide) (hts _ (rt_m rt_w881)) (fun _ h9 => h9) rfl d_RangeTellerModel_push_27 ?_
  refine lv_aload_n hx hb d_RangeTellerModel_push_30 rfl (lv_at hl 0 rfl) ?_
  refine va_get (D := D) (v := .int (σ3 0 30)) (C := "RangeTellerModel") (T := rt_T6) (N := 69) hx hb hts rt_i6 hown hK hP 0 rfl rfl 30 (by decide) (hts _ (rt_m rt_w877)) (fun _ h9 => h9) rfl d_RangeTellerModel_push_31 ?_
  refine lv_dup2_11 hx hb d_RangeTellerModel_push_34 rfl rfl ?_
  obtain ⟨v5, h6, hm⟩ := rt_b1s hm
  refine rt_ald hx hb hK hP 23 0 rfl rfl h6 d_RangeTellerModel_push_35 ?_
  refine lv_iconst (v := 1) hx hb d_RangeTellerModel_push_36 (by decide) ?_
  refine lv_iadd hx hb d_RangeTellerModel_push_37 ?_
  obtain ⟨σ7, h8, hm⟩ := rt_b1s hm
  refine rt_ast hx hb hK hP hD hS 23 0 rfl (rtR_a23 cI cZ A _) rfl h8 d_RangeTellerModel_push_38 (fun H locs hP hS => ?_)
  exact W.vret hx hb hr (fun t ht hW => ⟨⟨_, rfl, Option.some.inj hm, rt_end rtR_Xo hK hP hS hX ht hW⟩, hS.F ht⟩) hS.2.2 d_RangeTellerModel_push_39
set_option maxHeartbeats 4000000 in
set_option maxRecDepth 100000 in
theorem k_R_RangeTellerModel_giveBack (l : Launch) (D : va_G) (cI cZ : ClassId) (A : Nat → Nat) (hO : rt_Ok (rtR_W cI cZ A)) (σ : rt_St) (a1 : Int32) (r' : Int32) (σ' : rt_St) (hm : M_R_RangeTellerModel_giveBack σ a1 = some (r', σ')) (sz : Nat) : Met l y_RangeTellerModel_giveBack (rt_ws y_RangeTellerModel_giveBack b_RangeTellerModel_giveBack 4 (some .boolean)) ({ frames := 1, cells := 0, slots := 0, locals := 21 } : Room) (va_Pc [.ref (A 0), .int a1] (rt_P D rt_cl (rt_t cI cZ) rtR_X (rtR_W cI cZ A) sz σ)) (va_Qi (fun r1 u1 => r1 = r' ∧ u1 = σ') (rt_B D rt_cl (rt_t cI cZ) rtR_X (rtR_W cI cZ A)) (rt_A (rtR_W cI cZ A) sz)) 0 0 (rt_A (rtR_W cI cZ A) sz) := by
  refine Met.ofW (cc := b_RangeTellerModel_giveBack) (maxL := 4) (ret := (some .boolean)) (by decide) rfl ?_
  intro p e s m args below meth c s₁ B hml hv
  obtain ⟨rfl, rfl, hP, hK, hX⟩ := hv
  have hx := B.exec
  have hb := B.bytes
  have hr := B.returns
  have hts := atoms_spec (ws := (rt_ws y_RangeTellerModel_giveBack b_RangeTellerModel_giveBack 4 (some .boolean))) B.pre
  have hown : s.vm.findClass "RangeTellerModel" = some m.cls := findClass_of_methodNamed B.named
  have hlocks := B.notSynchronized
  have hD := rt_hD hO s.heap.size
  have hS : va_S (rt_A (rtR_W cI cZ A) s.heap.size) s.heap s.heap [] := va_S.rf
  have hl := lv_entry ([.ref (A 0), .int a1]) (n := 4) (Nat.le_of_ble_eq_true rfl)
  rw [lg_entry_eq]
  generalize (lg_sl ([.ref (A 0), .int a1]) ++ List.replicate (4 - (lg_sl ([.ref (A 0), .int a1])).length) Slot.unset).toArray = ls at hl ⊢
  have hl : lv_has ls 4 [(0, .ref (A 0)), (1, .int a1)] := hl
  show W p l e ({ frames := 1, cells := 0, slots := 0, locals := 21 } : Room) s m ([.ref (A 0), .int a1] : List Value).toArray below meth c s.heap [] 0 0 (rt_Qi D rt_cl (rt_t cI cZ) rtR_X (rtR_W cI cZ A) below ([.ref (A 0), .int a1] : List Value).toArray s r' σ') (F0 m 0 ls [])
  have hB25 : ∀ (ls : Array Slot) (l2 t0 : Int32) (σ : rt_St) (H : Heap) (locs : List Loc), lv_has ls 4 [(0, .ref (A 0)), (2, .int l2)] → B_R_RangeTellerModel_giveBack_25 l2 t0 σ = some (r', σ') → va_P D rt_cl (rtR_W cI cZ A σ) H → va_S (rt_A (rtR_W cI cZ A) s.heap.size) s.heap H locs → W p l e ({ frames := 1, cells := 0, slots := 0, locals := 21 } : Room) s m ([.ref (A 0), .int a1] : List Value).toArray below meth c H locs 0 0 (rt_Qi D rt_cl (rt_t cI cZ) rtR_X (rtR_W cI cZ A) below ([.ref (A 0), .int a1] : List Value).toArray s r' σ') (F0 m 25 ls [.int t0]) := by
    intro ls l2 t0 σ H locs hl hm hP hS
    unfold B_R_RangeTellerModel_giveBack_25 at hm
    refine lv_istore_n hx hb d_RangeTellerModel_giveBack_25 rfl hl (by decide) rfl (fun ls hl => ?_)
    have hl : lv_has ls 4 [(3, .int t0), (0, .ref (A 0)), (2, .int l2)] := hl
    refine lv_aload_n hx hb d_RangeTellerModel_giveBack_26 rfl (lv_at hl 1 rfl) ?_
    refine va_get (D := D) (v := .int (σ 0 30)) (C := "RangeTellerModel") (T := rt_T6) (N := 69) hx hb hts rt_i6 hown hK hP 0 rfl rfl 30 (by decide) (hts _ (rt_m rt_w877)) (fun _ h9 => h9) rfl d_RangeTellerModel_giveBack_27 ?_
    refine lv_if_ne (tgt := 50) hx hb d_RangeTellerModel_giveBack_30 (by decide) (fun hc => ?_) (fun hc => ?_)
    · have hm := (if_neg hc).symm.trans hm
      refine lv_aload_n hx hb d_RangeTellerModel_giveBack_50 rfl (lv_at hl 1 rfl) ?_
      refine lv_aload_n hx hb d_RangeTellerModel_giveBack_51 rfl (lv_at hl 1 rfl) ?_
      refine va_get (D := D) (v := .ref (A 20)) (C := "RangeTellerModel") (T := rt_T6) (N := 69) hx hb hts rt_i6 hown hK hP 0 rfl rfl 31 (by decide) (hts _ (rt_m rt_w878)) (fun _ h9 => h9) rfl d_RangeTellerModel_giveBack_52 ?_
      refine lv_aload_n hx hb d_RangeTellerModel_giveBack_55 rfl (lv_at hl 1 rfl) ?_
      refine va_get (D := D) (v := .int (σ 0 30)) (C := "RangeTellerModel") (T := rt_T6) (N := 69) hx hb hts rt_i6 hown hK hP 0 rfl rfl 30 (by decide) (hts _ (rt_m rt_w877)) (fun _ h9 => h9) rfl d_RangeTellerModel_giveBack_56 ?_
      obtain ⟨v1, h2, hm⟩ := rt_b1s hm
      refine rt_ald hx hb hK hP 20 0 rfl rfl h2 d_RangeTellerModel_giveBack_59 ?_
      refine lv_iconst (v := 1) hx hb d_RangeTellerModel_giveBack_60 (by decide) ?_
      refine lv_iadd hx hb d_RangeTellerModel_giveBack_61 ?_
      obtain ⟨σ3, h4, hm⟩ := rt_b1s hm
      refine rt_pf (D := D) (C := "RangeTellerModel") (T := rt_T6) (N := 69) (ty := .int) hx hb hts rt_i6 rt_y6 rt_o6 rt_n6 hown hK hP hD hS 0 rfl rfl 36 (by decide) (hts _ (rt_m rt_w883)) (fun _ h9 => h9) rfl (by decide +kernel) rfl rfl (Nat.le_of_ble_eq_true rfl) (rtR_s0_36 cI cZ A _ _) h4 d_RangeTellerModel_giveBack_62 (fun H locs hP hS => ?_)
      refine lv_aload_n hx hb d_RangeTellerModel_giveBack_65 rfl (lv_at hl 1 rfl) ?_
      refine lv_dup hx hb d_RangeTellerModel_giveBack_66 rfl ?_
      refine va_get (D := D) (v := .int (σ3 0 30)) (C := "RangeTellerModel") (T := rt_T6) (N := 69) hx hb hts rt_i6 hown hK hP 0 rfl rfl 30 (by decide) (hts _ (rt_m rt_w877)) (fun _ h9 => h9) rfl d_RangeTellerModel_giveBack_67 ?_
      refine lv_iconst (v := 1) hx hb d_RangeTellerModel_giveBack_70 (by decide) ?_
      refine lv_isub hx hb d_RangeTellerModel_giveBack_71 ?_
      obtain ⟨σ5, h6, hm⟩ := rt_b1s hm
      refine rt_pf (D := D) (C := "RangeTellerModel") (T := rt_T6) (N := 69) (ty := .int) hx hb hts rt_i6 rt_y6 rt_o6 rt_n6 hown hK hP hD hS 0 rfl rfl 30 (by decide) (hts _ (rt_m rt_w877)) (fun _ h9 => h9) rfl (by decide +kernel) rfl rfl (Nat.le_of_ble_eq_true rfl) (rtR_s0_30 cI cZ A _ _) h6 d_RangeTellerModel_giveBack_72 (fun H locs hP hS => ?_)
      refine lv_iload_n hx hb d_RangeTellerModel_giveBack_75 rfl (lv_at hl 2 rfl) ?_
      refine lv_iconst (v := 1) hx hb d_RangeTellerModel_giveBack_76 (by decide) ?_
      refine lv_icmp_ne (tgt := 85) hx hb d_RangeTellerModel_giveBack_77 (by decide) (fun hc => ?_) (fun hc => ?_)
      · have hm := (if_neg hc).symm.trans hm
        refine lv_iconst (v := 1) hx hb d_RangeTellerModel_giveBack_85 (by decide) ?_
        exact W.zret hx hb hr rfl (fun t ht hW => ⟨⟨_, _, rfl, rt_pr hm, rt_end rtR_Xo hK hP hS hX ht hW⟩, hS.F ht⟩) hS.2.2 d_RangeTellerModel_giveBack_86
      · have hm := (if_pos hc).symm.trans hm
        refine lv_aload_n hx hb d_RangeTellerModel_giveBack_80 rfl (lv_at hl 1 rfl) ?_
        refine lv_iload_n hx hb d_RangeTellerModel_giveBack_81 rfl (lv_at hl 0 rfl) ?_
        obtain ⟨σ8, h7, hm⟩ := rt_b1s hm
        refine rt_cvv (As := [.int t0]) (rest := []) (k := 0) rtR_Xo ⟨hx, hb, hml, hown, hts⟩ (k_R_RangeTellerModel_push l D cI cZ A hO σ5 t0 _ h7) (cw_RangeTellerModel_push hts (hts _ (rt_m rt_w1228)) ⟨Nat.le_of_ble_eq_true rfl, Nat.le_of_ble_eq_true rfl⟩) hK hP hS hX rfl rfl rfl hl.1 rfl (Nat.le_of_ble_eq_true rfl) d_RangeTellerModel_giveBack_82 ⟨Nat.zero_le _, Nat.zero_le _⟩ (fun H locs hP hS => ?_)
        refine lv_iconst (v := 1) hx hb d_RangeTellerModel_giveBack_85 (by decide) ?_
        exact W.zret hx hb hr rfl (fun t ht hW => ⟨⟨_, _, rfl, rt_pr hm, rt_end rtR_Xo hK hP hS hX ht hW⟩, hS.F ht⟩) hS.2.2 d_RangeTellerModel_giveBack_86
    · have hm := (if_pos hc).symm.trans hm
      refine lv_aload_n hx hb d_RangeTellerModel_giveBack_33 rfl (lv_at hl 1 rfl) ?_
      refine lv_iload_n hx hb d_RangeTellerModel_giveBack_34 rfl (lv_at hl 2 rfl) ?_
      refine lv_iconst (v := 1) hx hb d_RangeTellerModel_giveBack_35 (by decide) ?_
      refine lv_icmp_ne (tgt := 43) hx hb d_RangeTellerModel_giveBack_36 (by decide) (fun hc => ?_) (fun hc => ?_)
      · have hm := (if_neg hc).symm.trans hm
        refine lv_bipush (v := (-3)) hx hb d_RangeTellerModel_giveBack_43 (by decide) ?_
        obtain ⟨σ9, h10, hm⟩ := rt_b1s hm
        refine rt_pf (D := D) (C := "RangeTellerModel") (T := rt_T6) (N := 69) (ty := .int) hx hb hts rt_i6 rt_y6 rt_o6 rt_n6 hown hK hP hD hS 0 rfl rfl 39 (by decide) (hts _ (rt_m rt_w886)) (fun _ h9 => h9) rfl (by decide +kernel) rfl rfl (Nat.le_of_ble_eq_true rfl) (rtR_s0_39 cI cZ A _ _) h10 d_RangeTellerModel_giveBack_45 (fun H locs hP hS => ?_)
        refine lv_iconst (v := 0) hx hb d_RangeTellerModel_giveBack_48 (by decide) ?_
        exact W.zret hx hb hr rfl (fun t ht hW => ⟨⟨_, _, rfl, rt_pr hm, rt_end rtR_Xo hK hP hS hX ht hW⟩, hS.F ht⟩) hS.2.2 d_RangeTellerModel_giveBack_49
      · have hm := (if_pos hc).symm.trans hm
        refine lv_iload_n hx hb d_RangeTellerModel_giveBack_39 rfl (lv_at hl 0 rfl) ?_
        refine lv_goto (tgt := 45) hx hb d_RangeTellerModel_giveBack_40 (by decide) ?_
        obtain ⟨σ11, h12, hm⟩ := rt_b1s hm
        refine rt_pf (D := D) (C := "RangeTellerModel") (T := rt_T6) (N := 69) (ty := .int) hx hb hts rt_i6 rt_y6 rt_o6 rt_n6 hown hK hP hD hS 0 rfl rfl 39 (by decide) (hts _ (rt_m rt_w886)) (fun _ h9 => h9) rfl (by decide +kernel) rfl rfl (Nat.le_of_ble_eq_true rfl) (rtR_s0_39 cI cZ A _ _) h12 d_RangeTellerModel_giveBack_45 (fun H locs hP hS => ?_)
        refine lv_iconst (v := 0) hx hb d_RangeTellerModel_giveBack_48 (by decide) ?_
        exact W.zret hx hb hr rfl (fun t ht hW => ⟨⟨_, _, rfl, rt_pr hm, rt_end rtR_Xo hK hP hS hX ht hW⟩, hS.F ht⟩) hS.2.2 d_RangeTellerModel_giveBack_49
  unfold M_R_RangeTellerModel_giveBack at hm
  refine lv_aload_n hx hb d_RangeTellerModel_giveBack_0 rfl (lv_at hl 0 rfl) ?_
  refine va_get (D := D) (v := .ref (A 13)) (C := "RangeTellerModel") (T := rt_T6) (N := 69) hx hb hts rt_i6 hown hK hP 0 rfl rfl 19 (by decide) (hts _ (rt_m rt_w866)) (fun _ h9 => h9) rfl d_RangeTellerModel_giveBack_1 ?_
  refine lv_aload_n hx hb d_RangeTellerModel_giveBack_4 rfl (lv_at hl 0 rfl) ?_
  refine va_get (D := D) (v := .ref (A 4)) (C := "RangeTellerModel") (T := rt_T6) (N := 69) hx hb hts rt_i6 hown hK hP 0 rfl rfl 9 (by decide) (hts _ (rt_m rt_w856)) (fun _ h9 => h9) rfl d_RangeTellerModel_giveBack_5 ?_
  refine lv_iload_n hx hb d_RangeTellerModel_giveBack_8 rfl (lv_at hl 1 rfl) ?_
  obtain ⟨v13, h14, hm⟩ := rt_b1s hm
  refine rt_ald hx hb hK hP 4 0 rfl rfl h14 d_RangeTellerModel_giveBack_9 ?_
  obtain ⟨v15, h16, hm⟩ := rt_b1s hm
  refine rt_ald hx hb hK hP 13 0 rfl rfl h16 d_RangeTellerModel_giveBack_10 ?_
  refine lv_istore_n hx hb d_RangeTellerModel_giveBack_11 rfl hl (by decide) rfl (fun ls hl => ?_)
  have hl : lv_has ls 4 [(2, .int v15), (0, .ref (A 0)), (1, .int a1)] := hl
  refine lv_iload_n hx hb d_RangeTellerModel_giveBack_12 rfl (lv_at hl 0 rfl) ?_
  refine lv_iconst (v := 1) hx hb d_RangeTellerModel_giveBack_13 (by decide) ?_
  refine lv_icmp_ne (tgt := 24) hx hb d_RangeTellerModel_giveBack_14 (by decide) (fun hc => ?_) (fun hc => ?_)
  · have hm := (if_neg hc).symm.trans hm
    refine lv_iconst (v := 0) hx hb d_RangeTellerModel_giveBack_24 (by decide) ?_
    exact hB25 ls v15 0 σ _ _ (lv_sub hl [1, 0] rfl) hm hP hS
  · have hm := (if_pos hc).symm.trans hm
    refine lv_aload_n hx hb d_RangeTellerModel_giveBack_17 rfl (lv_at hl 1 rfl) ?_
    obtain ⟨v19, σ18, h17, hm⟩ := rt_b2s hm
    refine rt_cvi (As := []) (rest := []) (k := 0) rtR_Xo ⟨hx, hb, hml, hown, hts⟩ (k_R_RangeTellerModel_pop l D cI cZ A hO σ _ _ h17) (cw_RangeTellerModel_pop hts (hts _ (rt_m rt_w1220)) ⟨Nat.le_of_ble_eq_true rfl, Nat.le_of_ble_eq_true rfl⟩) hK hP hS hX rfl rfl rfl hl.1 rfl (Nat.le_of_ble_eq_true rfl) d_RangeTellerModel_giveBack_18 ⟨Nat.zero_le _, Nat.zero_le _⟩ (fun H locs hP hS => ?_)
    refine lv_goto (tgt := 25) hx hb d_RangeTellerModel_giveBack_21 (by decide) ?_
    exact hB25 ls v15 v19 σ18 _ _ (lv_sub hl [1, 0] rfl) hm hP hS
set_option maxHeartbeats 4000000 in
set_option maxRecDepth 100000 in
theorem k_R_RangeTellerModel_branch (l : Launch) (D : va_G) (cI cZ : ClassId) (A : Nat → Nat) (hO : rt_Ok (rtR_W cI cZ A)) (σ : rt_St) (a1 : Int32) (r' : Int32) (σ' : rt_St) (hm : M_R_RangeTellerModel_branch σ a1 = some (r', σ')) (sz : Nat) : Met l y_RangeTellerModel_branch (rt_ws y_RangeTellerModel_branch b_RangeTellerModel_branch 4 (some .boolean)) ({ frames := 2, cells := 0, slots := 0, locals := 44 } : Room) (va_Pc [.ref (A 0), .int a1] (rt_P D rt_cl (rt_t cI cZ) rtR_X (rtR_W cI cZ A) sz σ)) (va_Qi (fun r1 u1 => r1 = r' ∧ u1 = σ') (rt_B D rt_cl (rt_t cI cZ) rtR_X (rtR_W cI cZ A)) (rt_A (rtR_W cI cZ A) sz)) 0 0 (rt_A (rtR_W cI cZ A) sz) := by
  refine Met.ofW (cc := b_RangeTellerModel_branch) (maxL := 4) (ret := (some .boolean)) (by decide) rfl ?_
  intro p e s m args below meth c s₁ B hml hv
  obtain ⟨rfl, rfl, hP, hK, hX⟩ := hv
  have hx := B.exec
  have hb := B.bytes
  have hr := B.returns
  have hts := atoms_spec (ws := (rt_ws y_RangeTellerModel_branch b_RangeTellerModel_branch 4 (some .boolean))) B.pre
  have hown : s.vm.findClass "RangeTellerModel" = some m.cls := findClass_of_methodNamed B.named
  have hlocks := B.notSynchronized
  have hD := rt_hD hO s.heap.size
  have hS : va_S (rt_A (rtR_W cI cZ A) s.heap.size) s.heap s.heap [] := va_S.rf
  have hl := lv_entry ([.ref (A 0), .int a1]) (n := 4) (Nat.le_of_ble_eq_true rfl)
  rw [lg_entry_eq]
  generalize (lg_sl ([.ref (A 0), .int a1]) ++ List.replicate (4 - (lg_sl ([.ref (A 0), .int a1])).length) Slot.unset).toArray = ls at hl ⊢
  have hl : lv_has ls 4 [(0, .ref (A 0)), (1, .int a1)] := hl
  show W p l e ({ frames := 2, cells := 0, slots := 0, locals := 44 } : Room) s m ([.ref (A 0), .int a1] : List Value).toArray below meth c s.heap [] 0 0 (rt_Qi D rt_cl (rt_t cI cZ) rtR_X (rtR_W cI cZ A) below ([.ref (A 0), .int a1] : List Value).toArray s r' σ') (F0 m 0 ls [])
  have hB61 : ∀ (ls : Array Slot) (l1 : Int32) (σ : rt_St) (H : Heap) (locs : List Loc), lv_has ls 4 [(0, .ref (A 0)), (1, .int l1)] → B_R_RangeTellerModel_branch_61 l1 σ = some (r', σ') → va_P D rt_cl (rtR_W cI cZ A σ) H → va_S (rt_A (rtR_W cI cZ A) s.heap.size) s.heap H locs → W p l e ({ frames := 2, cells := 0, slots := 0, locals := 44 } : Room) s m ([.ref (A 0), .int a1] : List Value).toArray below meth c H locs 0 0 (rt_Qi D rt_cl (rt_t cI cZ) rtR_X (rtR_W cI cZ A) below ([.ref (A 0), .int a1] : List Value).toArray s r' σ') (F0 m 61 ls []) := by
    intro ls l1 σ H locs hl hm hP hS
    unfold B_R_RangeTellerModel_branch_61 at hm
    refine lv_aload_n hx hb d_RangeTellerModel_branch_61 rfl (lv_at hl 0 rfl) ?_
    refine lv_aload_n hx hb d_RangeTellerModel_branch_62 rfl (lv_at hl 0 rfl) ?_
    refine va_get (D := D) (v := .ref (A 2)) (C := "RangeTellerModel") (T := rt_T6) (N := 69) hx hb hts rt_i6 hown hK hP 0 rfl rfl 7 (by decide) (hts _ (rt_m rt_w854)) (fun _ h9 => h9) rfl d_RangeTellerModel_branch_63 ?_
    refine lv_aload_n hx hb d_RangeTellerModel_branch_66 rfl (lv_at hl 0 rfl) ?_
    refine va_get (D := D) (v := .ref (A 8)) (C := "RangeTellerModel") (T := rt_T6) (N := 69) hx hb hts rt_i6 hown hK hP 0 rfl rfl 13 (by decide) (hts _ (rt_m rt_w860)) (fun _ h9 => h9) rfl d_RangeTellerModel_branch_67 ?_
    refine lv_iload_n hx hb d_RangeTellerModel_branch_70 rfl (lv_at hl 1 rfl) ?_
    obtain ⟨v1, h2, hm⟩ := rt_b1s hm
    refine rt_ald hx hb hK hP 8 0 rfl rfl h2 d_RangeTellerModel_branch_71 ?_
    obtain ⟨v3, h4, hm⟩ := rt_b1s hm
    refine rt_ald hx hb hK hP 2 0 rfl rfl h4 d_RangeTellerModel_branch_72 ?_
    refine lv_iconst (v := 2) hx hb d_RangeTellerModel_branch_73 (by decide) ?_
    refine lv_icmp_ne (tgt := 88) hx hb d_RangeTellerModel_branch_74 (by decide) (fun hc => ?_) (fun hc => ?_)
    · have hm := (if_neg hc).symm.trans hm
      refine lv_aload_n hx hb d_RangeTellerModel_branch_88 rfl (lv_at hl 0 rfl) ?_
      refine va_get (D := D) (v := .ref (A 5)) (C := "RangeTellerModel") (T := rt_T6) (N := 69) hx hb hts rt_i6 hown hK hP 0 rfl rfl 10 (by decide) (hts _ (rt_m rt_w857)) (fun _ h9 => h9) rfl d_RangeTellerModel_branch_89 ?_
      refine lv_aload_n hx hb d_RangeTellerModel_branch_92 rfl (lv_at hl 0 rfl) ?_
      refine va_get (D := D) (v := .ref (A 8)) (C := "RangeTellerModel") (T := rt_T6) (N := 69) hx hb hts rt_i6 hown hK hP 0 rfl rfl 13 (by decide) (hts _ (rt_m rt_w860)) (fun _ h9 => h9) rfl d_RangeTellerModel_branch_93 ?_
      refine lv_iload_n hx hb d_RangeTellerModel_branch_96 rfl (lv_at hl 1 rfl) ?_
      obtain ⟨v5, h6, hm⟩ := rt_b1s hm
      refine rt_ald hx hb hK hP 8 0 rfl rfl h6 d_RangeTellerModel_branch_97 ?_
      obtain ⟨v7, h8, hm⟩ := rt_b1s hm
      refine rt_ald hx hb hK hP 5 0 rfl rfl h8 d_RangeTellerModel_branch_98 ?_
      refine lv_iconst (v := 1) hx hb d_RangeTellerModel_branch_99 (by decide) ?_
      refine lv_iadd hx hb d_RangeTellerModel_branch_100 ?_
      obtain ⟨σ9, h10, hm⟩ := rt_b1s hm
      refine rt_pf (D := D) (C := "RangeTellerModel") (T := rt_T6) (N := 69) (ty := .int) hx hb hts rt_i6 rt_y6 rt_o6 rt_n6 hown hK hP hD hS 0 rfl rfl 36 (by decide) (hts _ (rt_m rt_w883)) (fun _ h9 => h9) rfl (by decide +kernel) rfl rfl (Nat.le_of_ble_eq_true rfl) (rtR_s0_36 cI cZ A _ _) h10 d_RangeTellerModel_branch_101 (fun H locs hP hS => ?_)
      refine lv_iconst (v := 1) hx hb d_RangeTellerModel_branch_104 (by decide) ?_
      exact W.zret hx hb hr rfl (fun t ht hW => ⟨⟨_, _, rfl, rt_pr hm, rt_end rtR_Xo hK hP hS hX ht hW⟩, hS.F ht⟩) hS.2.2 d_RangeTellerModel_branch_105
    · have hm := (if_pos hc).symm.trans hm
      refine lv_aload_n hx hb d_RangeTellerModel_branch_77 rfl (lv_at hl 0 rfl) ?_
      refine va_get (D := D) (v := .ref (A 8)) (C := "RangeTellerModel") (T := rt_T6) (N := 69) hx hb hts rt_i6 hown hK hP 0 rfl rfl 13 (by decide) (hts _ (rt_m rt_w860)) (fun _ h9 => h9) rfl d_RangeTellerModel_branch_78 ?_
      refine lv_iload_n hx hb d_RangeTellerModel_branch_81 rfl (lv_at hl 1 rfl) ?_
      obtain ⟨v11, h12, hm⟩ := rt_b1s hm
      refine rt_ald hx hb hK hP 8 0 rfl rfl h12 d_RangeTellerModel_branch_82 ?_
      refine lv_iconst (v := 1) hx hb d_RangeTellerModel_branch_83 (by decide) ?_
      refine lv_iadd hx hb d_RangeTellerModel_branch_84 ?_
      refine lv_goto (tgt := 101) hx hb d_RangeTellerModel_branch_85 (by decide) ?_
      obtain ⟨σ13, h14, hm⟩ := rt_b1s hm
      refine rt_pf (D := D) (C := "RangeTellerModel") (T := rt_T6) (N := 69) (ty := .int) hx hb hts rt_i6 rt_y6 rt_o6 rt_n6 hown hK hP hD hS 0 rfl rfl 36 (by decide) (hts _ (rt_m rt_w883)) (fun _ h9 => h9) rfl (by decide +kernel) rfl rfl (Nat.le_of_ble_eq_true rfl) (rtR_s0_36 cI cZ A _ _) h14 d_RangeTellerModel_branch_101 (fun H locs hP hS => ?_)
      refine lv_iconst (v := 1) hx hb d_RangeTellerModel_branch_104 (by decide) ?_
      exact W.zret hx hb hr rfl (fun t ht hW => ⟨⟨_, _, rfl, rt_pr hm, rt_end rtR_Xo hK hP hS hX ht hW⟩, hS.F ht⟩) hS.2.2 d_RangeTellerModel_branch_105
  have hB35 : ∀ (ls : Array Slot) (l1 l2 t0 : Int32) (σ : rt_St) (H : Heap) (locs : List Loc), lv_has ls 4 [(0, .ref (A 0)), (1, .int l1), (2, .int l2)] → B_R_RangeTellerModel_branch_35 l1 l2 t0 σ = some (r', σ') → va_P D rt_cl (rtR_W cI cZ A σ) H → va_S (rt_A (rtR_W cI cZ A) s.heap.size) s.heap H locs → W p l e ({ frames := 2, cells := 0, slots := 0, locals := 44 } : Room) s m ([.ref (A 0), .int a1] : List Value).toArray below meth c H locs 0 0 (rt_Qi D rt_cl (rt_t cI cZ) rtR_X (rtR_W cI cZ A) below ([.ref (A 0), .int a1] : List Value).toArray s r' σ') (F0 m 35 ls [.int t0]) := by
    intro ls l1 l2 t0 σ H locs hl hm hP hS
    unfold B_R_RangeTellerModel_branch_35 at hm
    refine lv_istore_n hx hb d_RangeTellerModel_branch_35 rfl hl (by decide) rfl (fun ls hl => ?_)
    have hl : lv_has ls 4 [(3, .int t0), (0, .ref (A 0)), (1, .int l1), (2, .int l2)] := hl
    refine lv_aload_n hx hb d_RangeTellerModel_branch_36 rfl (lv_at hl 1 rfl) ?_
    refine va_get (D := D) (v := .ref (A 23)) (C := "RangeTellerModel") (T := rt_T6) (N := 69) hx hb hts rt_i6 hown hK hP 0 rfl rfl 34 (by decide) (hts _ (rt_m rt_w881)) (fun _ h9 => h9) rfl d_RangeTellerModel_branch_37 ?_
    refine lv_aload_n hx hb d_RangeTellerModel_branch_40 rfl (lv_at hl 1 rfl) ?_
    refine va_get (D := D) (v := .int (σ 0 30)) (C := "RangeTellerModel") (T := rt_T6) (N := 69) hx hb hts rt_i6 hown hK hP 0 rfl rfl 30 (by decide) (hts _ (rt_m rt_w877)) (fun _ h9 => h9) rfl d_RangeTellerModel_branch_41 ?_
    refine lv_aload_n hx hb d_RangeTellerModel_branch_44 rfl (lv_at hl 1 rfl) ?_
    refine va_get (D := D) (v := .ref (A 9)) (C := "RangeTellerModel") (T := rt_T6) (N := 69) hx hb hts rt_i6 hown hK hP 0 rfl rfl 14 (by decide) (hts _ (rt_m rt_w861)) (fun _ h9 => h9) rfl d_RangeTellerModel_branch_45 ?_
    refine lv_iload_n hx hb d_RangeTellerModel_branch_48 rfl (lv_at hl 2 rfl) ?_
    obtain ⟨v15, h16, hm⟩ := rt_b1s hm
    refine rt_ald hx hb hK hP 9 0 rfl rfl h16 d_RangeTellerModel_branch_49 ?_
    obtain ⟨σ17, h18, hm⟩ := rt_b1s hm
    refine rt_ast hx hb hK hP hD hS 23 0 rfl (rtR_a23 cI cZ A _) rfl h18 d_RangeTellerModel_branch_50 (fun H locs hP hS => ?_)
    refine lv_iload_n hx hb d_RangeTellerModel_branch_51 rfl (lv_at hl 3 rfl) ?_
    refine lv_iconst (v := 1) hx hb d_RangeTellerModel_branch_52 (by decide) ?_
    refine lv_icmp_ne (tgt := 61) hx hb d_RangeTellerModel_branch_53 (by decide) (fun hc => ?_) (fun hc => ?_)
    · have hm := (if_neg hc).symm.trans hm
      exact hB61 ls l1 σ17 _ _ (lv_sub hl [1, 2] rfl) hm hP hS
    · have hm := (if_pos hc).symm.trans hm
      refine lv_aload_n hx hb d_RangeTellerModel_branch_56 rfl (lv_at hl 1 rfl) ?_
      refine lv_iload_n hx hb d_RangeTellerModel_branch_57 rfl (lv_at hl 0 rfl) ?_
      obtain ⟨σ20, h19, hm⟩ := rt_b1s hm
      refine rt_cvv (As := [.int t0]) (rest := []) (k := 0) rtR_Xo ⟨hx, hb, hml, hown, hts⟩ (k_R_RangeTellerModel_push l D cI cZ A hO σ17 t0 _ h19) (cw_RangeTellerModel_push hts (hts _ (rt_m rt_w1228)) ⟨Nat.le_of_ble_eq_true rfl, Nat.le_of_ble_eq_true rfl⟩) hK hP hS hX rfl rfl rfl hl.1 rfl (Nat.le_of_ble_eq_true rfl) d_RangeTellerModel_branch_58 ⟨Nat.zero_le _, Nat.zero_le _⟩ (fun H locs hP hS => ?_)
      exact hB61 ls l1 σ20 _ _ (lv_sub hl [1, 2] rfl) hm hP hS
  unfold M_R_RangeTellerModel_branch at hm
  refine lv_aload_n hx hb d_RangeTellerModel_branch_0 rfl (lv_at hl 0 rfl) ?_
  refine va_get (D := D) (v := .ref (A 8)) (C := "RangeTellerModel") (T := rt_T6) (N := 69) hx hb hts rt_i6 hown hK hP 0 rfl rfl 13 (by decide) (hts _ (rt_m rt_w860)) (fun _ h9 => h9) rfl d_RangeTellerModel_branch_1 ?_
  refine lv_iload_n hx hb d_RangeTellerModel_branch_4 rfl (lv_at hl 1 rfl) ?_
  obtain ⟨v21, h22, hm⟩ := rt_b1s hm
  refine rt_ald hx hb hK hP 8 0 rfl rfl h22 d_RangeTellerModel_branch_5 ?_
  refine lv_if_ge (tgt := 15) hx hb d_RangeTellerModel_branch_6 (by decide) (fun hc => ?_) (fun hc => ?_)
  · have hm := (if_pos hc).symm.trans hm
    refine lv_aload_n hx hb d_RangeTellerModel_branch_15 rfl (lv_at hl 0 rfl) ?_
    refine va_get (D := D) (v := .ref (A 10)) (C := "RangeTellerModel") (T := rt_T6) (N := 69) hx hb hts rt_i6 hown hK hP 0 rfl rfl 15 (by decide) (hts _ (rt_m rt_w862)) (fun _ h9 => h9) rfl d_RangeTellerModel_branch_16 ?_
    refine lv_iload_n hx hb d_RangeTellerModel_branch_19 rfl (lv_at hl 1 rfl) ?_
    obtain ⟨v23, h24, hm⟩ := rt_b1s hm
    refine rt_ald hx hb hK hP 10 0 rfl rfl h24 d_RangeTellerModel_branch_20 ?_
    refine lv_istore_n hx hb d_RangeTellerModel_branch_21 rfl hl (by decide) rfl (fun ls hl => ?_)
    have hl : lv_has ls 4 [(2, .int v23), (0, .ref (A 0)), (1, .int a1)] := hl
    refine lv_iload_n hx hb d_RangeTellerModel_branch_22 rfl (lv_at hl 0 rfl) ?_
    refine lv_iconst (v := 1) hx hb d_RangeTellerModel_branch_23 (by decide) ?_
    refine lv_icmp_ne (tgt := 34) hx hb d_RangeTellerModel_branch_24 (by decide) (fun hc => ?_) (fun hc => ?_)
    · have hm := (if_neg hc).symm.trans hm
      refine lv_iconst (v := 0) hx hb d_RangeTellerModel_branch_34 (by decide) ?_
      exact hB35 ls a1 v23 0 σ _ _ (lv_sub hl [1, 2, 0] rfl) hm hP hS
    · have hm := (if_pos hc).symm.trans hm
      refine lv_aload_n hx hb d_RangeTellerModel_branch_27 rfl (lv_at hl 1 rfl) ?_
      obtain ⟨v27, σ26, h25, hm⟩ := rt_b2s hm
      refine rt_cvi (As := []) (rest := []) (k := 0) rtR_Xo ⟨hx, hb, hml, hown, hts⟩ (k_R_RangeTellerModel_pop l D cI cZ A hO σ _ _ h25) (cw_RangeTellerModel_pop hts (hts _ (rt_m rt_w1220)) ⟨Nat.le_of_ble_eq_true rfl, Nat.le_of_ble_eq_true rfl⟩) hK hP hS hX rfl rfl rfl hl.1 rfl (Nat.le_of_ble_eq_true rfl) d_RangeTellerModel_branch_28 ⟨Nat.zero_le _, Nat.zero_le _⟩ (fun H locs hP hS => ?_)
      refine lv_goto (tgt := 35) hx hb d_RangeTellerModel_branch_31 (by decide) ?_
      exact hB35 ls a1 v23 v27 σ26 _ _ (lv_sub hl [1, 2, 0] rfl) hm hP hS
  · have hm := (if_neg hc).symm.trans hm
    refine lv_aload_n hx hb d_RangeTellerModel_branch_9 rfl (lv_at hl 0 rfl) ?_
    refine lv_iload_n hx hb d_RangeTellerModel_branch_10 rfl (lv_at hl 1 rfl) ?_
    obtain ⟨v30, σ29, h28, hm⟩ := rt_b2s hm
    refine rt_cvi (As := [.int a1]) (rest := []) (k := 0) rtR_Xo ⟨hx, hb, hml, hown, hts⟩ (k_R_RangeTellerModel_giveBack l D cI cZ A hO σ a1 _ _ h28) (cw_RangeTellerModel_giveBack hts (hts _ (rt_m rt_w1224)) ⟨Nat.le_of_ble_eq_true rfl, Nat.le_of_ble_eq_true rfl⟩) hK hP hS hX rfl rfl rfl hl.1 rfl (Nat.le_of_ble_eq_true rfl) d_RangeTellerModel_branch_11 ⟨Nat.zero_le _, Nat.zero_le _⟩ (fun H locs hP hS => ?_)
    obtain ⟨_, h31, hm⟩ := rt_b1s hm
    exact W.zret hx hb hr (rt_zoks h31) (fun t ht hW => ⟨⟨_, _, rfl, rt_pr hm, rt_end rtR_Xo hK hP hS hX ht hW⟩, hS.F ht⟩) hS.2.2 d_RangeTellerModel_branch_14
set_option maxHeartbeats 4000000 in
set_option maxRecDepth 100000 in
theorem k_R_RangeTellerModel_enter (l : Launch) (D : va_G) (cI cZ : ClassId) (A : Nat → Nat) (hO : rt_Ok (rtR_W cI cZ A)) (σ : rt_St) (a1 : Int32) (σ' : rt_St) (hm : M_R_RangeTellerModel_enter σ a1 = some σ') (sz : Nat) : Met l y_RangeTellerModel_enter (rt_ws y_RangeTellerModel_enter b_RangeTellerModel_enter 6 none) ({ frames := 1, cells := 0, slots := 0, locals := 20 } : Room) (va_Pc [.ref (A 0), .int a1] (rt_P D rt_cl (rt_t cI cZ) rtR_X (rtR_W cI cZ A) sz σ)) (va_Qv (fun u1 => u1 = σ') (rt_B D rt_cl (rt_t cI cZ) rtR_X (rtR_W cI cZ A)) (rt_A (rtR_W cI cZ A) sz)) 0 0 (rt_A (rtR_W cI cZ A) sz) := by
  refine Met.ofW (cc := b_RangeTellerModel_enter) (maxL := 6) (ret := none) (by decide) rfl ?_
  intro p e s m args below meth c s₁ B hml hv
  obtain ⟨rfl, rfl, hP, hK, hX⟩ := hv
  have hx := B.exec
  have hb := B.bytes
  have hr := B.returns
  have hts := atoms_spec (ws := (rt_ws y_RangeTellerModel_enter b_RangeTellerModel_enter 6 none)) B.pre
  have hown : s.vm.findClass "RangeTellerModel" = some m.cls := findClass_of_methodNamed B.named
  have hlocks := B.notSynchronized
  have hD := rt_hD hO s.heap.size
  have hS : va_S (rt_A (rtR_W cI cZ A) s.heap.size) s.heap s.heap [] := va_S.rf
  have hl := lv_entry ([.ref (A 0), .int a1]) (n := 6) (Nat.le_of_ble_eq_true rfl)
  rw [lg_entry_eq]
  generalize (lg_sl ([.ref (A 0), .int a1]) ++ List.replicate (6 - (lg_sl ([.ref (A 0), .int a1])).length) Slot.unset).toArray = ls at hl ⊢
  have hl : lv_has ls 6 [(0, .ref (A 0)), (1, .int a1)] := hl
  show W p l e ({ frames := 1, cells := 0, slots := 0, locals := 20 } : Room) s m ([.ref (A 0), .int a1] : List Value).toArray below meth c s.heap [] 0 0 (rt_Qv D rt_cl (rt_t cI cZ) rtR_X (rtR_W cI cZ A) below ([.ref (A 0), .int a1] : List Value).toArray s σ') (F0 m 0 ls [])
  have hB55 : ∀ (n55 : Nat) (ls : Array Slot) (l1 l2 l4 l5 : Int32) (σ : rt_St) (H : Heap) (locs : List Loc), lv_has ls 6 [(0, .ref (A 0)), (1, .int l1), (2, .int l2), (4, .int l4), (5, .int l5)] → B_R_RangeTellerModel_enter_55 n55 l1 l2 l4 l5 σ = some σ' → va_P D rt_cl (rtR_W cI cZ A σ) H → va_S (rt_A (rtR_W cI cZ A) s.heap.size) s.heap H locs → W p l e ({ frames := 1, cells := 0, slots := 0, locals := 20 } : Room) s m ([.ref (A 0), .int a1] : List Value).toArray below meth c H locs 0 0 (rt_Qv D rt_cl (rt_t cI cZ) rtR_X (rtR_W cI cZ A) below ([.ref (A 0), .int a1] : List Value).toArray s σ') (F0 m 55 ls []) := by
    intro n55
    induction n55 with
    | zero => intro ls l1 l2 l4 l5 σ H locs hl hm hP hS; rw [B_R_RangeTellerModel_enter_55] at hm; cases hm
    | succ n55 ih55 =>
      intro ls l1 l2 l4 l5 σ H locs hl hm hP hS
      rw [B_R_RangeTellerModel_enter_55] at hm
      refine lv_iload hx hb d_RangeTellerModel_enter_55 (lv_at hl 4 rfl) ?_
      refine lv_if_lt (tgt := 80) hx hb d_RangeTellerModel_enter_57 (by decide) (fun hc => ?_) (fun hc => ?_)
      · have hm := (if_pos hc).symm.trans hm
        refine lv_aload_n hx hb d_RangeTellerModel_enter_80 rfl (lv_at hl 0 rfl) ?_
        refine lv_dup hx hb d_RangeTellerModel_enter_81 rfl ?_
        refine va_get (D := D) (v := .int (σ 0 30)) (C := "RangeTellerModel") (T := rt_T6) (N := 69) hx hb hts rt_i6 hown hK hP 0 rfl rfl 30 (by decide) (hts _ (rt_m rt_w877)) (fun _ h9 => h9) rfl d_RangeTellerModel_enter_82 ?_
        refine lv_iconst (v := 1) hx hb d_RangeTellerModel_enter_85 (by decide) ?_
        refine lv_iadd hx hb d_RangeTellerModel_enter_86 ?_
        obtain ⟨σ1, h2, hm⟩ := rt_b1s hm
        refine rt_pf (D := D) (C := "RangeTellerModel") (T := rt_T6) (N := 69) (ty := .int) hx hb hts rt_i6 rt_y6 rt_o6 rt_n6 hown hK hP hD hS 0 rfl rfl 30 (by decide) (hts _ (rt_m rt_w877)) (fun _ h9 => h9) rfl (by decide +kernel) rfl rfl (Nat.le_of_ble_eq_true rfl) (rtR_s0_30 cI cZ A _ _) h2 d_RangeTellerModel_enter_87 (fun H locs hP hS => ?_)
        refine lv_aload_n hx hb d_RangeTellerModel_enter_90 rfl (lv_at hl 0 rfl) ?_
        refine va_get (D := D) (v := .ref (A 20)) (C := "RangeTellerModel") (T := rt_T6) (N := 69) hx hb hts rt_i6 hown hK hP 0 rfl rfl 31 (by decide) (hts _ (rt_m rt_w878)) (fun _ h9 => h9) rfl d_RangeTellerModel_enter_91 ?_
        refine lv_aload_n hx hb d_RangeTellerModel_enter_94 rfl (lv_at hl 0 rfl) ?_
        refine va_get (D := D) (v := .int (σ1 0 30)) (C := "RangeTellerModel") (T := rt_T6) (N := 69) hx hb hts rt_i6 hown hK hP 0 rfl rfl 30 (by decide) (hts _ (rt_m rt_w877)) (fun _ h9 => h9) rfl d_RangeTellerModel_enter_95 ?_
        refine lv_iload_n hx hb d_RangeTellerModel_enter_98 rfl (lv_at hl 1 rfl) ?_
        obtain ⟨σ3, h4, hm⟩ := rt_b1s hm
        refine rt_ast hx hb hK hP hD hS 20 0 rfl (rtR_a20 cI cZ A _) rfl h4 d_RangeTellerModel_enter_99 (fun H locs hP hS => ?_)
        refine lv_aload_n hx hb d_RangeTellerModel_enter_100 rfl (lv_at hl 0 rfl) ?_
        refine va_get (D := D) (v := .ref (A 23)) (C := "RangeTellerModel") (T := rt_T6) (N := 69) hx hb hts rt_i6 hown hK hP 0 rfl rfl 34 (by decide) (hts _ (rt_m rt_w881)) (fun _ h9 => h9) rfl d_RangeTellerModel_enter_101 ?_
        refine lv_aload_n hx hb d_RangeTellerModel_enter_104 rfl (lv_at hl 0 rfl) ?_
        refine va_get (D := D) (v := .int (σ3 0 30)) (C := "RangeTellerModel") (T := rt_T6) (N := 69) hx hb hts rt_i6 hown hK hP 0 rfl rfl 30 (by decide) (hts _ (rt_m rt_w877)) (fun _ h9 => h9) rfl d_RangeTellerModel_enter_105 ?_
        refine lv_iconst (v := 0) hx hb d_RangeTellerModel_enter_108 (by decide) ?_
        obtain ⟨σ5, h6, hm⟩ := rt_b1s hm
        refine rt_ast hx hb hK hP hD hS 23 0 rfl (rtR_a23 cI cZ A _) rfl h6 d_RangeTellerModel_enter_109 (fun H locs hP hS => ?_)
        refine lv_aload_n hx hb d_RangeTellerModel_enter_110 rfl (lv_at hl 0 rfl) ?_
        refine lv_aload_n hx hb d_RangeTellerModel_enter_111 rfl (lv_at hl 0 rfl) ?_
        refine va_get (D := D) (v := .ref (A 14)) (C := "RangeTellerModel") (T := rt_T6) (N := 69) hx hb hts rt_i6 hown hK hP 0 rfl rfl 20 (by decide) (hts _ (rt_m rt_w867)) (fun _ h9 => h9) rfl d_RangeTellerModel_enter_112 ?_
        refine lv_iload_n hx hb d_RangeTellerModel_enter_115 rfl (lv_at hl 2 rfl) ?_
        obtain ⟨v7, h8, hm⟩ := rt_b1s hm
        refine rt_ald hx hb hK hP 14 0 rfl rfl h8 d_RangeTellerModel_enter_116 ?_
        obtain ⟨σ9, h10, hm⟩ := rt_b1s hm
        refine rt_pf (D := D) (C := "RangeTellerModel") (T := rt_T6) (N := 69) (ty := .int) hx hb hts rt_i6 rt_y6 rt_o6 rt_n6 hown hK hP hD hS 0 rfl rfl 36 (by decide) (hts _ (rt_m rt_w883)) (fun _ h9 => h9) rfl (by decide +kernel) rfl rfl (Nat.le_of_ble_eq_true rfl) (rtR_s0_36 cI cZ A _ _) h10 d_RangeTellerModel_enter_117 (fun H locs hP hS => ?_)
        exact W.vret hx hb hr (fun t ht hW => ⟨⟨_, rfl, Option.some.inj hm, rt_end rtR_Xo hK hP hS hX ht hW⟩, hS.F ht⟩) hS.2.2 d_RangeTellerModel_enter_120
      · have hm := (if_neg hc).symm.trans hm
        refine lv_aload_n hx hb d_RangeTellerModel_enter_60 rfl (lv_at hl 0 rfl) ?_
        refine va_get (D := D) (v := .ref (A 22)) (C := "RangeTellerModel") (T := rt_T6) (N := 69) hx hb hts rt_i6 hown hK hP 0 rfl rfl 33 (by decide) (hts _ (rt_m rt_w880)) (fun _ h9 => h9) rfl d_RangeTellerModel_enter_61 ?_
        refine lv_iload hx hb d_RangeTellerModel_enter_64 (lv_at hl 3 rfl) ?_
        refine lv_iload hx hb d_RangeTellerModel_enter_66 (lv_at hl 4 rfl) ?_
        refine lv_iadd hx hb d_RangeTellerModel_enter_68 ?_
        refine lv_aload_n hx hb d_RangeTellerModel_enter_69 rfl (lv_at hl 0 rfl) ?_
        obtain ⟨v13, σ12, h11, hm⟩ := rt_b2s hm
        refine rt_cvi (As := []) (rest := [.int (l4 + l5), .ref (A 22)]) (k := 0) rtR_Xo ⟨hx, hb, hml, hown, hts⟩ (k_R_RangeTellerModel_pop l D cI cZ A hO σ _ _ h11) (cw_RangeTellerModel_pop hts (hts _ (rt_m rt_w1220)) ⟨Nat.le_of_ble_eq_true rfl, Nat.le_of_ble_eq_true rfl⟩) hK hP hS hX rfl rfl rfl hl.1 rfl (Nat.le_of_ble_eq_true rfl) d_RangeTellerModel_enter_70 ⟨Nat.zero_le _, Nat.zero_le _⟩ (fun H locs hP hS => ?_)
        obtain ⟨σ14, h15, hm⟩ := rt_b1s hm
        refine rt_ast hx hb hK hP hD hS 22 0 rfl (rtR_a22 cI cZ A _) rfl h15 d_RangeTellerModel_enter_73 (fun H locs hP hS => ?_)
        refine lv_iinc (k := 4) (v := (l5 + (-1))) hx hb d_RangeTellerModel_enter_74 hl rfl rfl (by decide) rfl (fun ls hl => ?_)
        have hl : lv_has ls 6 [(5, .int (l5 + (-1))), (0, .ref (A 0)), (1, .int l1), (2, .int l2), (4, .int l4)] := hl
        refine lv_goto (tgt := 55) hx hb d_RangeTellerModel_enter_77 (by decide) ?_
        exact ih55 ls l1 l2 l4 (l5 + (-1)) σ14 _ _ (lv_sub hl [1, 2, 3, 4, 0] rfl) hm hP hS
  have hB27 : ∀ (n27 : Nat) (ls : Array Slot) (l1 l2 l3 l4 l5 : Int32) (σ : rt_St) (H : Heap) (locs : List Loc), lv_has ls 6 [(0, .ref (A 0)), (1, .int l1), (2, .int l2), (3, .int l3), (4, .int l4), (5, .int l5)] → B_R_RangeTellerModel_enter_27 n27 l1 l2 l3 l4 l5 σ = some σ' → va_P D rt_cl (rtR_W cI cZ A σ) H → va_S (rt_A (rtR_W cI cZ A) s.heap.size) s.heap H locs → W p l e ({ frames := 1, cells := 0, slots := 0, locals := 20 } : Room) s m ([.ref (A 0), .int a1] : List Value).toArray below meth c H locs 0 0 (rt_Qv D rt_cl (rt_t cI cZ) rtR_X (rtR_W cI cZ A) below ([.ref (A 0), .int a1] : List Value).toArray s σ') (F0 m 27 ls []) := by
    intro n27
    induction n27 with
    | zero => intro ls l1 l2 l3 l4 l5 σ H locs hl hm hP hS; rw [B_R_RangeTellerModel_enter_27] at hm; cases hm
    | succ n27 ih27 =>
      intro ls l1 l2 l3 l4 l5 σ H locs hl hm hP hS
      rw [B_R_RangeTellerModel_enter_27] at hm
      refine lv_iload hx hb d_RangeTellerModel_enter_27 (lv_at hl 5 rfl) ?_
      refine lv_iconst (v := 4) hx hb d_RangeTellerModel_enter_29 (by decide) ?_
      refine lv_icmp_ge (tgt := 50) hx hb d_RangeTellerModel_enter_30 (by decide) (fun hc => ?_) (fun hc => ?_)
      · have hm := (if_pos hc).symm.trans hm
        refine lv_iload_n hx hb d_RangeTellerModel_enter_50 rfl (lv_at hl 3 rfl) ?_
        refine lv_iconst (v := 1) hx hb d_RangeTellerModel_enter_51 (by decide) ?_
        refine lv_isub hx hb d_RangeTellerModel_enter_52 ?_
        refine lv_istore hx hb d_RangeTellerModel_enter_53 hl (by decide) rfl (fun ls hl => ?_)
        have hl : lv_has ls 6 [(5, .int (l3 - 1)), (0, .ref (A 0)), (1, .int l1), (2, .int l2), (3, .int l3), (4, .int l4)] := hl
        exact hB55 _ ls l1 l2 l4 (l3 - 1) σ _ _ (lv_sub hl [1, 2, 3, 5, 0] rfl) hm hP hS
      · have hm := (if_neg hc).symm.trans hm
        refine lv_aload_n hx hb d_RangeTellerModel_enter_33 rfl (lv_at hl 0 rfl) ?_
        refine va_get (D := D) (v := .ref (A 22)) (C := "RangeTellerModel") (T := rt_T6) (N := 69) hx hb hts rt_i6 hown hK hP 0 rfl rfl 33 (by decide) (hts _ (rt_m rt_w880)) (fun _ h9 => h9) rfl d_RangeTellerModel_enter_34 ?_
        refine lv_iload hx hb d_RangeTellerModel_enter_37 (lv_at hl 4 rfl) ?_
        refine lv_iload hx hb d_RangeTellerModel_enter_39 (lv_at hl 5 rfl) ?_
        refine lv_iadd hx hb d_RangeTellerModel_enter_41 ?_
        refine lv_iconst (v := 0) hx hb d_RangeTellerModel_enter_42 (by decide) ?_
        obtain ⟨σ16, h17, hm⟩ := rt_b1s hm
        refine rt_ast hx hb hK hP hD hS 22 0 rfl (rtR_a22 cI cZ A _) rfl h17 d_RangeTellerModel_enter_43 (fun H locs hP hS => ?_)
        refine lv_iinc (k := 5) (v := (l5 + 1)) hx hb d_RangeTellerModel_enter_44 hl rfl rfl (by decide) rfl (fun ls hl => ?_)
        have hl : lv_has ls 6 [(5, .int (l5 + 1)), (0, .ref (A 0)), (1, .int l1), (2, .int l2), (3, .int l3), (4, .int l4)] := hl
        refine lv_goto (tgt := 27) hx hb d_RangeTellerModel_enter_47 (by decide) ?_
        exact ih27 ls l1 l2 l3 l4 (l5 + 1) σ16 _ _ (lv_sub hl [1, 2, 3, 4, 5, 0] rfl) hm hP hS
  unfold M_R_RangeTellerModel_enter at hm
  refine lv_aload_n hx hb d_RangeTellerModel_enter_0 rfl (lv_at hl 0 rfl) ?_
  refine va_get (D := D) (v := .ref (A 3)) (C := "RangeTellerModel") (T := rt_T6) (N := 69) hx hb hts rt_i6 hown hK hP 0 rfl rfl 8 (by decide) (hts _ (rt_m rt_w855)) (fun _ h9 => h9) rfl d_RangeTellerModel_enter_1 ?_
  refine lv_iload_n hx hb d_RangeTellerModel_enter_4 rfl (lv_at hl 1 rfl) ?_
  obtain ⟨v18, h19, hm⟩ := rt_b1s hm
  refine rt_ald hx hb hK hP 3 0 rfl rfl h19 d_RangeTellerModel_enter_5 ?_
  refine lv_istore_n hx hb d_RangeTellerModel_enter_6 rfl hl (by decide) rfl (fun ls hl => ?_)
  have hl : lv_has ls 6 [(2, .int v18), (0, .ref (A 0)), (1, .int a1)] := hl
  refine lv_aload_n hx hb d_RangeTellerModel_enter_7 rfl (lv_at hl 1 rfl) ?_
  refine va_get (D := D) (v := .ref (A 11)) (C := "RangeTellerModel") (T := rt_T6) (N := 69) hx hb hts rt_i6 hown hK hP 0 rfl rfl 17 (by decide) (hts _ (rt_m rt_w864)) (fun _ h9 => h9) rfl d_RangeTellerModel_enter_8 ?_
  refine lv_iload_n hx hb d_RangeTellerModel_enter_11 rfl (lv_at hl 0 rfl) ?_
  obtain ⟨v20, h21, hm⟩ := rt_b1s hm
  refine rt_ald hx hb hK hP 11 0 rfl rfl h21 d_RangeTellerModel_enter_12 ?_
  refine lv_istore_n hx hb d_RangeTellerModel_enter_13 rfl hl (by decide) rfl (fun ls hl => ?_)
  have hl : lv_has ls 6 [(3, .int v20), (2, .int v18), (0, .ref (A 0)), (1, .int a1)] := hl
  refine lv_iconst (v := 4) hx hb d_RangeTellerModel_enter_14 (by decide) ?_
  refine lv_aload_n hx hb d_RangeTellerModel_enter_15 rfl (lv_at hl 2 rfl) ?_
  refine va_get (D := D) (v := .int (σ 0 30)) (C := "RangeTellerModel") (T := rt_T6) (N := 69) hx hb hts rt_i6 hown hK hP 0 rfl rfl 30 (by decide) (hts _ (rt_m rt_w877)) (fun _ h9 => h9) rfl d_RangeTellerModel_enter_16 ?_
  refine lv_iconst (v := 1) hx hb d_RangeTellerModel_enter_19 (by decide) ?_
  refine lv_iadd hx hb d_RangeTellerModel_enter_20 ?_
  refine lv_imul hx hb d_RangeTellerModel_enter_21 ?_
  refine lv_istore hx hb d_RangeTellerModel_enter_22 hl (by decide) rfl (fun ls hl => ?_)
  have hl : lv_has ls 6 [(4, .int (4 * ((σ 0 30) + 1))), (3, .int v20), (2, .int v18), (0, .ref (A 0)), (1, .int a1)] := hl
  refine lv_iconst (v := 0) hx hb d_RangeTellerModel_enter_24 (by decide) ?_
  refine lv_istore hx hb d_RangeTellerModel_enter_25 hl (by decide) rfl (fun ls hl => ?_)
  have hl : lv_has ls 6 [(5, .int 0), (4, .int (4 * ((σ 0 30) + 1))), (3, .int v20), (2, .int v18), (0, .ref (A 0)), (1, .int a1)] := hl
  exact hB27 _ ls a1 v18 v20 (4 * ((σ 0 30) + 1)) 0 σ _ _ (lv_sub hl [4, 5, 3, 2, 1, 0] rfl) hm hP hS
set_option maxHeartbeats 4000000 in
set_option maxRecDepth 100000 in
theorem k_R_RangeTellerModel_trap (l : Launch) (D : va_G) (cI cZ : ClassId) (A : Nat → Nat) (hO : rt_Ok (rtR_W cI cZ A)) (σ : rt_St) (a1 : Int32) (r' : Int32) (σ' : rt_St) (hm : M_R_RangeTellerModel_trap σ a1 = some (r', σ')) (sz : Nat) : Met l y_RangeTellerModel_trap (rt_ws y_RangeTellerModel_trap b_RangeTellerModel_trap 4 (some .int)) ({ frames := 0, cells := 0, slots := 0, locals := 0 } : Room) (va_Pc [.ref (A 0), .int a1] (rt_P D rt_cl (rt_t cI cZ) rtR_X (rtR_W cI cZ A) sz σ)) (va_Qi (fun r1 u1 => r1 = r' ∧ u1 = σ') (rt_B D rt_cl (rt_t cI cZ) rtR_X (rtR_W cI cZ A)) (rt_A (rtR_W cI cZ A) sz)) 0 0 (rt_A (rtR_W cI cZ A) sz) := by
  refine Met.ofW (cc := b_RangeTellerModel_trap) (maxL := 4) (ret := (some .int)) (by decide) rfl ?_
  intro p e s m args below meth c s₁ B hml hv
  obtain ⟨rfl, rfl, hP, hK, hX⟩ := hv
  have hx := B.exec
  have hb := B.bytes
  have hr := B.returns
  have hts := atoms_spec (ws := (rt_ws y_RangeTellerModel_trap b_RangeTellerModel_trap 4 (some .int))) B.pre
  have hown : s.vm.findClass "RangeTellerModel" = some m.cls := findClass_of_methodNamed B.named
  have hlocks := B.notSynchronized
  have hD := rt_hD hO s.heap.size
  have hS : va_S (rt_A (rtR_W cI cZ A) s.heap.size) s.heap s.heap [] := va_S.rf
  have hl := lv_entry ([.ref (A 0), .int a1]) (n := 4) (Nat.le_of_ble_eq_true rfl)
  rw [lg_entry_eq]
  generalize (lg_sl ([.ref (A 0), .int a1]) ++ List.replicate (4 - (lg_sl ([.ref (A 0), .int a1])).length) Slot.unset).toArray = ls at hl ⊢
  have hl : lv_has ls 4 [(0, .ref (A 0)), (1, .int a1)] := hl
  show W p l e ({ frames := 0, cells := 0, slots := 0, locals := 0 } : Room) s m ([.ref (A 0), .int a1] : List Value).toArray below meth c s.heap [] 0 0 (rt_Qi D rt_cl (rt_t cI cZ) rtR_X (rtR_W cI cZ A) below ([.ref (A 0), .int a1] : List Value).toArray s r' σ') (F0 m 0 ls [])
  have hB108 : ∀ (ls : Array Slot) (l3 : Int32) (σ : rt_St) (H : Heap) (locs : List Loc), lv_has ls 4 [(0, .ref (A 0)), (3, .int l3)] → B_R_RangeTellerModel_trap_108 l3 σ = some (r', σ') → va_P D rt_cl (rtR_W cI cZ A σ) H → va_S (rt_A (rtR_W cI cZ A) s.heap.size) s.heap H locs → W p l e ({ frames := 0, cells := 0, slots := 0, locals := 0 } : Room) s m ([.ref (A 0), .int a1] : List Value).toArray below meth c H locs 0 0 (rt_Qi D rt_cl (rt_t cI cZ) rtR_X (rtR_W cI cZ A) below ([.ref (A 0), .int a1] : List Value).toArray s r' σ') (F0 m 108 ls []) := by
    intro ls l3 σ H locs hl hm hP hS
    unfold B_R_RangeTellerModel_trap_108 at hm
    refine lv_iload_n hx hb d_RangeTellerModel_trap_108 rfl (lv_at hl 1 rfl) ?_
    refine lv_bipush (v := 9) hx hb d_RangeTellerModel_trap_109 (by decide) ?_
    refine lv_icmp_ne (tgt := 127) hx hb d_RangeTellerModel_trap_111 (by decide) (fun hc => ?_) (fun hc => ?_)
    · have hm := (if_neg hc).symm.trans hm
      refine lv_iconst (v := 0) hx hb d_RangeTellerModel_trap_127 (by decide) ?_
      exact W.iret hx hb hr (fun t ht hW => ⟨⟨_, _, rfl, rt_pr hm, rt_end rtR_Xo hK hP hS hX ht hW⟩, hS.F ht⟩) hS.2.2 d_RangeTellerModel_trap_128
    · have hm := (if_pos hc).symm.trans hm
      refine lv_aload_n hx hb d_RangeTellerModel_trap_114 rfl (lv_at hl 0 rfl) ?_
      refine va_get (D := D) (v := .int (σ 0 30)) (C := "RangeTellerModel") (T := rt_T6) (N := 69) hx hb hts rt_i6 hown hK hP 0 rfl rfl 30 (by decide) (hts _ (rt_m rt_w877)) (fun _ h9 => h9) rfl d_RangeTellerModel_trap_115 ?_
      refine lv_bipush (v := 6) hx hb d_RangeTellerModel_trap_118 (by decide) ?_
      refine lv_icmp_ne (tgt := 127) hx hb d_RangeTellerModel_trap_120 (by decide) (fun hc => ?_) (fun hc => ?_)
      · have hm := (if_neg hc).symm.trans hm
        refine lv_iconst (v := 0) hx hb d_RangeTellerModel_trap_127 (by decide) ?_
        exact W.iret hx hb hr (fun t ht hW => ⟨⟨_, _, rfl, rt_pr hm, rt_end rtR_Xo hK hP hS hX ht hW⟩, hS.F ht⟩) hS.2.2 d_RangeTellerModel_trap_128
      · have hm := (if_pos hc).symm.trans hm
        refine lv_iconst (v := 4) hx hb d_RangeTellerModel_trap_123 (by decide) ?_
        refine lv_goto (tgt := 128) hx hb d_RangeTellerModel_trap_124 (by decide) ?_
        exact W.iret hx hb hr (fun t ht hW => ⟨⟨_, _, rfl, rt_pr hm, rt_end rtR_Xo hK hP hS hX ht hW⟩, hS.F ht⟩) hS.2.2 d_RangeTellerModel_trap_128
  have hB97 : ∀ (ls : Array Slot) (l2 l3 : Int32) (σ : rt_St) (H : Heap) (locs : List Loc), lv_has ls 4 [(0, .ref (A 0)), (2, .int l2), (3, .int l3)] → B_R_RangeTellerModel_trap_97 l2 l3 σ = some (r', σ') → va_P D rt_cl (rtR_W cI cZ A σ) H → va_S (rt_A (rtR_W cI cZ A) s.heap.size) s.heap H locs → W p l e ({ frames := 0, cells := 0, slots := 0, locals := 0 } : Room) s m ([.ref (A 0), .int a1] : List Value).toArray below meth c H locs 0 0 (rt_Qi D rt_cl (rt_t cI cZ) rtR_X (rtR_W cI cZ A) below ([.ref (A 0), .int a1] : List Value).toArray s r' σ') (F0 m 97 ls []) := by
    intro ls l2 l3 σ H locs hl hm hP hS
    unfold B_R_RangeTellerModel_trap_97 at hm
    refine lv_aload_n hx hb d_RangeTellerModel_trap_97 rfl (lv_at hl 0 rfl) ?_
    refine va_get (D := D) (v := .ref (A 21)) (C := "RangeTellerModel") (T := rt_T6) (N := 69) hx hb hts rt_i6 hown hK hP 0 rfl rfl 32 (by decide) (hts _ (rt_m rt_w879)) (fun _ h9 => h9) rfl d_RangeTellerModel_trap_98 ?_
    refine lv_iload_n hx hb d_RangeTellerModel_trap_101 rfl (lv_at hl 1 rfl) ?_
    obtain ⟨v1, h2, hm⟩ := rt_b1s hm
    refine rt_ald hx hb hK hP 21 0 rfl rfl h2 d_RangeTellerModel_trap_102 ?_
    refine lv_if_ne (tgt := 108) hx hb d_RangeTellerModel_trap_103 (by decide) (fun hc => ?_) (fun hc => ?_)
    · have hm := (if_neg hc).symm.trans hm
      exact hB108 ls l3 σ _ _ (lv_sub hl [0, 2] rfl) hm hP hS
    · have hm := (if_pos hc).symm.trans hm
      refine lv_iconst (v := 3) hx hb d_RangeTellerModel_trap_106 (by decide) ?_
      exact W.iret hx hb hr (fun t ht hW => ⟨⟨_, _, rfl, rt_pr hm, rt_end rtR_Xo hK hP hS hX ht hW⟩, hS.F ht⟩) hS.2.2 d_RangeTellerModel_trap_107
  have hB85 : ∀ (ls : Array Slot) (l2 l3 : Int32) (σ : rt_St) (H : Heap) (locs : List Loc), lv_has ls 4 [(0, .ref (A 0)), (2, .int l2), (3, .int l3)] → B_R_RangeTellerModel_trap_85 l2 l3 σ = some (r', σ') → va_P D rt_cl (rtR_W cI cZ A σ) H → va_S (rt_A (rtR_W cI cZ A) s.heap.size) s.heap H locs → W p l e ({ frames := 0, cells := 0, slots := 0, locals := 0 } : Room) s m ([.ref (A 0), .int a1] : List Value).toArray below meth c H locs 0 0 (rt_Qi D rt_cl (rt_t cI cZ) rtR_X (rtR_W cI cZ A) below ([.ref (A 0), .int a1] : List Value).toArray s r' σ') (F0 m 85 ls []) := by
    intro ls l2 l3 σ H locs hl hm hP hS
    unfold B_R_RangeTellerModel_trap_85 at hm
    refine lv_iload_n hx hb d_RangeTellerModel_trap_85 rfl (lv_at hl 2 rfl) ?_
    refine lv_bipush (v := 24) hx hb d_RangeTellerModel_trap_86 (by decide) ?_
    refine lv_icmp_eq (tgt := 97) hx hb d_RangeTellerModel_trap_88 (by decide) (fun hc => ?_) (fun hc => ?_)
    · have hm := (if_pos hc).symm.trans hm
      exact hB97 ls l2 l3 σ _ _ (lv_sub hl [0, 1, 2] rfl) hm hP hS
    · have hm := (if_neg hc).symm.trans hm
      refine lv_iload_n hx hb d_RangeTellerModel_trap_91 rfl (lv_at hl 2 rfl) ?_
      refine lv_bipush (v := 25) hx hb d_RangeTellerModel_trap_92 (by decide) ?_
      refine lv_icmp_ne (tgt := 108) hx hb d_RangeTellerModel_trap_94 (by decide) (fun hc => ?_) (fun hc => ?_)
      · have hm := (if_neg hc).symm.trans hm
        exact hB108 ls l3 σ _ _ (lv_sub hl [0, 2] rfl) hm hP hS
      · have hm := (if_pos hc).symm.trans hm
        exact hB97 ls l2 l3 σ _ _ (lv_sub hl [0, 1, 2] rfl) hm hP hS
  have hB57 : ∀ (ls : Array Slot) (l1 l2 l3 : Int32) (σ : rt_St) (H : Heap) (locs : List Loc), lv_has ls 4 [(0, .ref (A 0)), (1, .int l1), (2, .int l2), (3, .int l3)] → B_R_RangeTellerModel_trap_57 l1 l2 l3 σ = some (r', σ') → va_P D rt_cl (rtR_W cI cZ A σ) H → va_S (rt_A (rtR_W cI cZ A) s.heap.size) s.heap H locs → W p l e ({ frames := 0, cells := 0, slots := 0, locals := 0 } : Room) s m ([.ref (A 0), .int a1] : List Value).toArray below meth c H locs 0 0 (rt_Qi D rt_cl (rt_t cI cZ) rtR_X (rtR_W cI cZ A) below ([.ref (A 0), .int a1] : List Value).toArray s r' σ') (F0 m 57 ls []) := by
    intro ls l1 l2 l3 σ H locs hl hm hP hS
    unfold B_R_RangeTellerModel_trap_57 at hm
    refine lv_iload_n hx hb d_RangeTellerModel_trap_57 rfl (lv_at hl 3 rfl) ?_
    refine lv_bipush (v := 16) hx hb d_RangeTellerModel_trap_58 (by decide) ?_
    refine lv_icmp_ne (tgt := 85) hx hb d_RangeTellerModel_trap_60 (by decide) (fun hc => ?_) (fun hc => ?_)
    · have hm := (if_neg hc).symm.trans hm
      exact hB85 ls l2 l3 σ _ _ (lv_sub hl [0, 2, 3] rfl) hm hP hS
    · have hm := (if_pos hc).symm.trans hm
      refine lv_aload_n hx hb d_RangeTellerModel_trap_63 rfl (lv_at hl 0 rfl) ?_
      refine va_get (D := D) (v := .ref (A 21)) (C := "RangeTellerModel") (T := rt_T6) (N := 69) hx hb hts rt_i6 hown hK hP 0 rfl rfl 32 (by decide) (hts _ (rt_m rt_w879)) (fun _ h9 => h9) rfl d_RangeTellerModel_trap_64 ?_
      refine lv_iload_n hx hb d_RangeTellerModel_trap_67 rfl (lv_at hl 2 rfl) ?_
      refine lv_iconst (v := 1) hx hb d_RangeTellerModel_trap_68 (by decide) ?_
      refine lv_isub hx hb d_RangeTellerModel_trap_69 ?_
      obtain ⟨v3, h4, hm⟩ := rt_b1s hm
      refine rt_ald hx hb hK hP 21 0 rfl rfl h4 d_RangeTellerModel_trap_70 ?_
      refine lv_aload_n hx hb d_RangeTellerModel_trap_71 rfl (lv_at hl 0 rfl) ?_
      refine va_get (D := D) (v := .ref (A 3)) (C := "RangeTellerModel") (T := rt_T6) (N := 69) hx hb hts rt_i6 hown hK hP 0 rfl rfl 8 (by decide) (hts _ (rt_m rt_w855)) (fun _ h9 => h9) rfl d_RangeTellerModel_trap_72 ?_
      refine lv_iload_n hx hb d_RangeTellerModel_trap_75 rfl (lv_at hl 1 rfl) ?_
      obtain ⟨v5, h6, hm⟩ := rt_b1s hm
      refine rt_ald hx hb hK hP 3 0 rfl rfl h6 d_RangeTellerModel_trap_76 ?_
      refine lv_iadd hx hb d_RangeTellerModel_trap_77 ?_
      refine lv_bipush (v := 15) hx hb d_RangeTellerModel_trap_78 (by decide) ?_
      refine lv_icmp_le (tgt := 85) hx hb d_RangeTellerModel_trap_80 (by decide) (fun hc => ?_) (fun hc => ?_)
      · have hm := (if_pos hc).symm.trans hm
        exact hB85 ls l2 l3 σ _ _ (lv_sub hl [0, 2, 3] rfl) hm hP hS
      · have hm := (if_neg hc).symm.trans hm
        refine lv_iconst (v := 2) hx hb d_RangeTellerModel_trap_83 (by decide) ?_
        exact W.iret hx hb hr (fun t ht hW => ⟨⟨_, _, rfl, rt_pr hm, rt_end rtR_Xo hK hP hS hX ht hW⟩, hS.F ht⟩) hS.2.2 d_RangeTellerModel_trap_84
  unfold M_R_RangeTellerModel_trap at hm
  refine lv_bipush (v := 10) hx hb d_RangeTellerModel_trap_0 (by decide) ?_
  refine lv_aload_n hx hb d_RangeTellerModel_trap_2 rfl (lv_at hl 0 rfl) ?_
  refine va_get (D := D) (v := .int (σ 0 30)) (C := "RangeTellerModel") (T := rt_T6) (N := 69) hx hb hts rt_i6 hown hK hP 0 rfl rfl 30 (by decide) (hts _ (rt_m rt_w877)) (fun _ h9 => h9) rfl d_RangeTellerModel_trap_3 ?_
  refine lv_imul hx hb d_RangeTellerModel_trap_6 ?_
  refine lv_aload_n hx hb d_RangeTellerModel_trap_7 rfl (lv_at hl 0 rfl) ?_
  refine va_get (D := D) (v := .ref (A 23)) (C := "RangeTellerModel") (T := rt_T6) (N := 69) hx hb hts rt_i6 hown hK hP 0 rfl rfl 34 (by decide) (hts _ (rt_m rt_w881)) (fun _ h9 => h9) rfl d_RangeTellerModel_trap_8 ?_
  refine lv_aload_n hx hb d_RangeTellerModel_trap_11 rfl (lv_at hl 0 rfl) ?_
  refine va_get (D := D) (v := .int (σ 0 30)) (C := "RangeTellerModel") (T := rt_T6) (N := 69) hx hb hts rt_i6 hown hK hP 0 rfl rfl 30 (by decide) (hts _ (rt_m rt_w877)) (fun _ h9 => h9) rfl d_RangeTellerModel_trap_12 ?_
  obtain ⟨v7, h8, hm⟩ := rt_b1s hm
  refine rt_ald hx hb hK hP 23 0 rfl rfl h8 d_RangeTellerModel_trap_15 ?_
  refine lv_iadd hx hb d_RangeTellerModel_trap_16 ?_
  refine lv_iconst (v := 1) hx hb d_RangeTellerModel_trap_17 (by decide) ?_
  refine lv_isub hx hb d_RangeTellerModel_trap_18 ?_
  refine lv_istore_n hx hb d_RangeTellerModel_trap_19 rfl hl (by decide) rfl (fun ls hl => ?_)
  have hl : lv_has ls 4 [(2, .int (((10 * (σ 0 30)) + v7) - 1)), (0, .ref (A 0)), (1, .int a1)] := hl
  refine lv_aload_n hx hb d_RangeTellerModel_trap_20 rfl (lv_at hl 1 rfl) ?_
  refine va_get (D := D) (v := .ref (A 2)) (C := "RangeTellerModel") (T := rt_T6) (N := 69) hx hb hts rt_i6 hown hK hP 0 rfl rfl 7 (by decide) (hts _ (rt_m rt_w854)) (fun _ h9 => h9) rfl d_RangeTellerModel_trap_21 ?_
  refine lv_iload_n hx hb d_RangeTellerModel_trap_24 rfl (lv_at hl 2 rfl) ?_
  obtain ⟨v9, h10, hm⟩ := rt_b1s hm
  refine rt_ald hx hb hK hP 2 0 rfl rfl h10 d_RangeTellerModel_trap_25 ?_
  refine lv_istore_n hx hb d_RangeTellerModel_trap_26 rfl hl (by decide) rfl (fun ls hl => ?_)
  have hl : lv_has ls 4 [(3, .int v9), (2, .int (((10 * (σ 0 30)) + v7) - 1)), (0, .ref (A 0)), (1, .int a1)] := hl
  refine lv_iload_n hx hb d_RangeTellerModel_trap_27 rfl (lv_at hl 0 rfl) ?_
  refine lv_if_ne (tgt := 33) hx hb d_RangeTellerModel_trap_28 (by decide) (fun hc => ?_) (fun hc => ?_)
  · have hm := (if_neg hc).symm.trans hm
    refine lv_iload_n hx hb d_RangeTellerModel_trap_33 rfl (lv_at hl 0 rfl) ?_
    refine lv_bipush (v := 15) hx hb d_RangeTellerModel_trap_34 (by decide) ?_
    refine lv_icmp_ne (tgt := 57) hx hb d_RangeTellerModel_trap_36 (by decide) (fun hc => ?_) (fun hc => ?_)
    · have hm := (if_neg hc).symm.trans hm
      exact hB57 ls a1 (((10 * (σ 0 30)) + v7) - 1) v9 σ _ _ (lv_sub hl [2, 3, 1, 0] rfl) hm hP hS
    · have hm := (if_pos hc).symm.trans hm
      refine lv_aload_n hx hb d_RangeTellerModel_trap_39 rfl (lv_at hl 2 rfl) ?_
      refine va_get (D := D) (v := .ref (A 21)) (C := "RangeTellerModel") (T := rt_T6) (N := 69) hx hb hts rt_i6 hown hK hP 0 rfl rfl 32 (by decide) (hts _ (rt_m rt_w879)) (fun _ h9 => h9) rfl d_RangeTellerModel_trap_40 ?_
      refine lv_iload_n hx hb d_RangeTellerModel_trap_43 rfl (lv_at hl 1 rfl) ?_
      obtain ⟨v11, h12, hm⟩ := rt_b1s hm
      refine rt_ald hx hb hK hP 21 0 rfl rfl h12 d_RangeTellerModel_trap_44 ?_
      refine lv_aload_n hx hb d_RangeTellerModel_trap_45 rfl (lv_at hl 2 rfl) ?_
      refine va_get (D := D) (v := .ref (A 3)) (C := "RangeTellerModel") (T := rt_T6) (N := 69) hx hb hts rt_i6 hown hK hP 0 rfl rfl 8 (by decide) (hts _ (rt_m rt_w855)) (fun _ h9 => h9) rfl d_RangeTellerModel_trap_46 ?_
      refine lv_iload_n hx hb d_RangeTellerModel_trap_49 rfl (lv_at hl 3 rfl) ?_
      obtain ⟨v13, h14, hm⟩ := rt_b1s hm
      refine rt_ald hx hb hK hP 3 0 rfl rfl h14 d_RangeTellerModel_trap_50 ?_
      refine lv_iadd hx hb d_RangeTellerModel_trap_51 ?_
      refine lv_bipush (v := 15) hx hb d_RangeTellerModel_trap_52 (by decide) ?_
      refine lv_icmp_gt (tgt := 83) hx hb d_RangeTellerModel_trap_54 (by decide) (fun hc => ?_) (fun hc => ?_)
      · have hm := (if_pos hc).symm.trans hm
        refine lv_iconst (v := 2) hx hb d_RangeTellerModel_trap_83 (by decide) ?_
        exact W.iret hx hb hr (fun t ht hW => ⟨⟨_, _, rfl, rt_pr hm, rt_end rtR_Xo hK hP hS hX ht hW⟩, hS.F ht⟩) hS.2.2 d_RangeTellerModel_trap_84
      · have hm := (if_neg hc).symm.trans hm
        exact hB57 ls a1 (((10 * (σ 0 30)) + v7) - 1) v9 σ _ _ (lv_sub hl [2, 3, 1, 0] rfl) hm hP hS
  · have hm := (if_pos hc).symm.trans hm
    refine lv_iconst (v := 1) hx hb d_RangeTellerModel_trap_31 (by decide) ?_
    exact W.iret hx hb hr (fun t ht hW => ⟨⟨_, _, rfl, rt_pr hm, rt_end rtR_Xo hK hP hS hX ht hW⟩, hS.F ht⟩) hS.2.2 d_RangeTellerModel_trap_32
set_option maxHeartbeats 4000000 in
set_option maxRecDepth 100000 in
theorem k_R_RangeTellerModel_flow (l : Launch) (D : va_G) (cI cZ : ClassId) (A : Nat → Nat) (hO : rt_Ok (rtR_W cI cZ A)) (σ : rt_St) (a1 : Int32) (r' : Int32) (σ' : rt_St) (hm : M_R_RangeTellerModel_flow σ a1 = some (r', σ')) (sz : Nat) : Met l y_RangeTellerModel_flow (rt_ws y_RangeTellerModel_flow b_RangeTellerModel_flow 2 (some .boolean)) ({ frames := 3, cells := 0, slots := 0, locals := 67 } : Room) (va_Pc [.ref (A 0), .int a1] (rt_P D rt_cl (rt_t cI cZ) rtR_X (rtR_W cI cZ A) sz σ)) (va_Qi (fun r1 u1 => r1 = r' ∧ u1 = σ') (rt_B D rt_cl (rt_t cI cZ) rtR_X (rtR_W cI cZ A)) (rt_A (rtR_W cI cZ A) sz)) 0 0 (rt_A (rtR_W cI cZ A) sz) := by
  refine Met.ofW (cc := b_RangeTellerModel_flow) (maxL := 2) (ret := (some .boolean)) (by decide) rfl ?_
  intro p e s m args below meth c s₁ B hml hv
  obtain ⟨rfl, rfl, hP, hK, hX⟩ := hv
  have hx := B.exec
  have hb := B.bytes
  have hr := B.returns
  have hts := atoms_spec (ws := (rt_ws y_RangeTellerModel_flow b_RangeTellerModel_flow 2 (some .boolean))) B.pre
  have hown : s.vm.findClass "RangeTellerModel" = some m.cls := findClass_of_methodNamed B.named
  have hlocks := B.notSynchronized
  have hD := rt_hD hO s.heap.size
  have hS : va_S (rt_A (rtR_W cI cZ A) s.heap.size) s.heap s.heap [] := va_S.rf
  have hl := lv_entry ([.ref (A 0), .int a1]) (n := 2) (Nat.le_of_ble_eq_true rfl)
  rw [lg_entry_eq]
  generalize (lg_sl ([.ref (A 0), .int a1]) ++ List.replicate (2 - (lg_sl ([.ref (A 0), .int a1])).length) Slot.unset).toArray = ls at hl ⊢
  have hl : lv_has ls 2 [(0, .ref (A 0)), (1, .int a1)] := hl
  show W p l e ({ frames := 3, cells := 0, slots := 0, locals := 67 } : Room) s m ([.ref (A 0), .int a1] : List Value).toArray below meth c s.heap [] 0 0 (rt_Qi D rt_cl (rt_t cI cZ) rtR_X (rtR_W cI cZ A) below ([.ref (A 0), .int a1] : List Value).toArray s r' σ') (F0 m 0 ls [])
  have hB128 : ∀ (ls : Array Slot) (l1 : Int32) (σ : rt_St) (H : Heap) (locs : List Loc), lv_has ls 2 [(0, .ref (A 0)), (1, .int l1)] → B_R_RangeTellerModel_flow_128 l1 σ = some (r', σ') → va_P D rt_cl (rtR_W cI cZ A σ) H → va_S (rt_A (rtR_W cI cZ A) s.heap.size) s.heap H locs → W p l e ({ frames := 3, cells := 0, slots := 0, locals := 67 } : Room) s m ([.ref (A 0), .int a1] : List Value).toArray below meth c H locs 0 0 (rt_Qi D rt_cl (rt_t cI cZ) rtR_X (rtR_W cI cZ A) below ([.ref (A 0), .int a1] : List Value).toArray s r' σ') (F0 m 128 ls []) := by
    intro ls l1 σ H locs hl hm hP hS
    unfold B_R_RangeTellerModel_flow_128 at hm
    refine lv_aload_n hx hb d_RangeTellerModel_flow_128 rfl (lv_at hl 0 rfl) ?_
    refine lv_iload_n hx hb d_RangeTellerModel_flow_129 rfl (lv_at hl 1 rfl) ?_
    obtain ⟨v3, σ2, h1, hm⟩ := rt_b2s hm
    refine rt_cvi (As := [.int l1]) (rest := []) (k := 0) rtR_Xo ⟨hx, hb, hml, hown, hts⟩ (k_R_RangeTellerModel_giveBack l D cI cZ A hO σ l1 _ _ h1) (cw_RangeTellerModel_giveBack hts (hts _ (rt_m rt_w1224)) ⟨Nat.le_of_ble_eq_true rfl, Nat.le_of_ble_eq_true rfl⟩) hK hP hS hX rfl rfl rfl hl.1 rfl (Nat.le_of_ble_eq_true rfl) d_RangeTellerModel_flow_130 ⟨Nat.zero_le _, Nat.zero_le _⟩ (fun H locs hP hS => ?_)
    refine lv_if_eq (tgt := 140) hx hb d_RangeTellerModel_flow_133 (by decide) (fun hc => ?_) (fun hc => ?_)
    · have hm := (if_pos hc).symm.trans hm
      refine lv_iconst (v := 0) hx hb d_RangeTellerModel_flow_140 (by decide) ?_
      exact W.zret hx hb hr rfl (fun t ht hW => ⟨⟨_, _, rfl, rt_pr hm, rt_end rtR_Xo hK hP hS hX ht hW⟩, hS.F ht⟩) hS.2.2 d_RangeTellerModel_flow_141
    · have hm := (if_neg hc).symm.trans hm
      refine lv_iconst (v := 1) hx hb d_RangeTellerModel_flow_136 (by decide) ?_
      refine lv_goto (tgt := 141) hx hb d_RangeTellerModel_flow_137 (by decide) ?_
      exact W.zret hx hb hr rfl (fun t ht hW => ⟨⟨_, _, rfl, rt_pr hm, rt_end rtR_Xo hK hP hS hX ht hW⟩, hS.F ht⟩) hS.2.2 d_RangeTellerModel_flow_141
  have hB80 : ∀ (ls : Array Slot) (t0 : Int32) (σ : rt_St) (H : Heap) (locs : List Loc), lv_has ls 2 [] → B_R_RangeTellerModel_flow_80 t0 σ = some (r', σ') → va_P D rt_cl (rtR_W cI cZ A σ) H → va_S (rt_A (rtR_W cI cZ A) s.heap.size) s.heap H locs → W p l e ({ frames := 3, cells := 0, slots := 0, locals := 67 } : Room) s m ([.ref (A 0), .int a1] : List Value).toArray below meth c H locs 0 0 (rt_Qi D rt_cl (rt_t cI cZ) rtR_X (rtR_W cI cZ A) below ([.ref (A 0), .int a1] : List Value).toArray s r' σ') (F0 m 80 ls [.int t0, .ref (A 0)]) := by
    intro ls t0 σ H locs hl hm hP hS
    unfold B_R_RangeTellerModel_flow_80 at hm
    refine lv_iconst (v := 1) hx hb d_RangeTellerModel_flow_80 (by decide) ?_
    refine lv_iadd hx hb d_RangeTellerModel_flow_81 ?_
    obtain ⟨σ4, h5, hm⟩ := rt_b1s hm
    refine rt_pf (D := D) (C := "RangeTellerModel") (T := rt_T6) (N := 69) (ty := .int) hx hb hts rt_i6 rt_y6 rt_o6 rt_n6 hown hK hP hD hS 0 rfl rfl 36 (by decide) (hts _ (rt_m rt_w883)) (fun _ h9 => h9) rfl (by decide +kernel) rfl rfl (Nat.le_of_ble_eq_true rfl) (rtR_s0_36 cI cZ A _ _) h5 d_RangeTellerModel_flow_82 (fun H locs hP hS => ?_)
    refine lv_iconst (v := 1) hx hb d_RangeTellerModel_flow_85 (by decide) ?_
    exact W.zret hx hb hr rfl (fun t ht hW => ⟨⟨_, _, rfl, rt_pr hm, rt_end rtR_Xo hK hP hS hX ht hW⟩, hS.F ht⟩) hS.2.2 d_RangeTellerModel_flow_86
  unfold M_R_RangeTellerModel_flow at hm
  refine lv_aload_n hx hb d_RangeTellerModel_flow_0 rfl (lv_at hl 0 rfl) ?_
  refine va_get (D := D) (v := .ref (A 2)) (C := "RangeTellerModel") (T := rt_T6) (N := 69) hx hb hts rt_i6 hown hK hP 0 rfl rfl 7 (by decide) (hts _ (rt_m rt_w854)) (fun _ h9 => h9) rfl d_RangeTellerModel_flow_1 ?_
  refine lv_iload_n hx hb d_RangeTellerModel_flow_4 rfl (lv_at hl 1 rfl) ?_
  obtain ⟨v6, h7, hm⟩ := rt_b1s hm
  refine rt_ald hx hb hK hP 2 0 rfl rfl h7 d_RangeTellerModel_flow_5 ?_
  by_cases c8 : v6 = 3
  · have hm := (if_pos c8).symm.trans hm
    refine lv_tableIn (off := 42) (tgt := 48) hx hb d_RangeTellerModel_flow_6 (by rw [c8]; decide) (by rw [c8]; decide) (by rw [c8]; rfl) (by decide) ?_
    refine lv_aload_n hx hb d_RangeTellerModel_flow_48 rfl (lv_at hl 0 rfl) ?_
    obtain ⟨v11, σ10, h9, hm⟩ := rt_b2s hm
    refine rt_cvi (As := []) (rest := []) (k := 0) rtR_Xo ⟨hx, hb, hml, hown, hts⟩ (k_R_RangeTellerModel_pop l D cI cZ A hO σ _ _ h9) (cw_RangeTellerModel_pop hts (hts _ (rt_m rt_w1220)) ⟨Nat.le_of_ble_eq_true rfl, Nat.le_of_ble_eq_true rfl⟩) hK hP hS hX rfl rfl rfl hl.1 rfl (Nat.le_of_ble_eq_true rfl) d_RangeTellerModel_flow_49 ⟨Nat.zero_le _, Nat.zero_le _⟩ (fun H locs hP hS => ?_)
    refine lv_if_ne (tgt := 85) hx hb d_RangeTellerModel_flow_52 (by decide) (fun hc => ?_) (fun hc => ?_)
    · have hm := (if_neg hc).symm.trans hm
      refine lv_iconst (v := 1) hx hb d_RangeTellerModel_flow_85 (by decide) ?_
      exact W.zret hx hb hr rfl (fun t ht hW => ⟨⟨_, _, rfl, rt_pr hm, rt_end rtR_Xo hK hP hS hX ht hW⟩, hS.F ht⟩) hS.2.2 d_RangeTellerModel_flow_86
    · have hm := (if_pos hc).symm.trans hm
      refine lv_aload_n hx hb d_RangeTellerModel_flow_55 rfl (lv_at hl 0 rfl) ?_
      refine lv_aload_n hx hb d_RangeTellerModel_flow_56 rfl (lv_at hl 0 rfl) ?_
      refine va_get (D := D) (v := .ref (A 6)) (C := "RangeTellerModel") (T := rt_T6) (N := 69) hx hb hts rt_i6 hown hK hP 0 rfl rfl 11 (by decide) (hts _ (rt_m rt_w858)) (fun _ h9 => h9) rfl d_RangeTellerModel_flow_57 ?_
      refine lv_iload_n hx hb d_RangeTellerModel_flow_60 rfl (lv_at hl 1 rfl) ?_
      obtain ⟨v12, h13, hm⟩ := rt_b1s hm
      refine rt_ald hx hb hK hP 6 0 rfl rfl h13 d_RangeTellerModel_flow_61 ?_
      refine lv_if_lt (tgt := 74) hx hb d_RangeTellerModel_flow_62 (by decide) (fun hc => ?_) (fun hc => ?_)
      · have hm := (if_pos hc).symm.trans hm
        refine lv_aload_n hx hb d_RangeTellerModel_flow_74 rfl (lv_at hl 0 rfl) ?_
        refine va_get (D := D) (v := .ref (A 5)) (C := "RangeTellerModel") (T := rt_T6) (N := 69) hx hb hts rt_i6 hown hK hP 0 rfl rfl 10 (by decide) (hts _ (rt_m rt_w857)) (fun _ h9 => h9) rfl d_RangeTellerModel_flow_75 ?_
        refine lv_iload_n hx hb d_RangeTellerModel_flow_78 rfl (lv_at hl 1 rfl) ?_
        obtain ⟨v14, h15, hm⟩ := rt_b1s hm
        refine rt_ald hx hb hK hP 5 0 rfl rfl h15 d_RangeTellerModel_flow_79 ?_
        exact hB80 ls v14 σ10 _ _ (lv_sub hl [] rfl) hm hP hS
      · have hm := (if_neg hc).symm.trans hm
        refine lv_aload_n hx hb d_RangeTellerModel_flow_65 rfl (lv_at hl 0 rfl) ?_
        refine va_get (D := D) (v := .ref (A 6)) (C := "RangeTellerModel") (T := rt_T6) (N := 69) hx hb hts rt_i6 hown hK hP 0 rfl rfl 11 (by decide) (hts _ (rt_m rt_w858)) (fun _ h9 => h9) rfl d_RangeTellerModel_flow_66 ?_
        refine lv_iload_n hx hb d_RangeTellerModel_flow_69 rfl (lv_at hl 1 rfl) ?_
        obtain ⟨v16, h17, hm⟩ := rt_b1s hm
        refine rt_ald hx hb hK hP 6 0 rfl rfl h17 d_RangeTellerModel_flow_70 ?_
        refine lv_goto (tgt := 80) hx hb d_RangeTellerModel_flow_71 (by decide) ?_
        exact hB80 ls v16 σ10 _ _ (lv_sub hl [] rfl) hm hP hS
  have hm := (if_neg c8).symm.trans hm
  by_cases c18 : v6 = 4
  · have hm := (if_pos c18).symm.trans hm
    refine lv_tableIn (off := 81) (tgt := 87) hx hb d_RangeTellerModel_flow_6 (by rw [c18]; decide) (by rw [c18]; decide) (by rw [c18]; rfl) (by decide) ?_
    refine lv_aload_n hx hb d_RangeTellerModel_flow_87 rfl (lv_at hl 0 rfl) ?_
    refine lv_aload_n hx hb d_RangeTellerModel_flow_88 rfl (lv_at hl 0 rfl) ?_
    refine va_get (D := D) (v := .ref (A 5)) (C := "RangeTellerModel") (T := rt_T6) (N := 69) hx hb hts rt_i6 hown hK hP 0 rfl rfl 10 (by decide) (hts _ (rt_m rt_w857)) (fun _ h9 => h9) rfl d_RangeTellerModel_flow_89 ?_
    refine lv_iload_n hx hb d_RangeTellerModel_flow_92 rfl (lv_at hl 1 rfl) ?_
    obtain ⟨v19, h20, hm⟩ := rt_b1s hm
    refine rt_ald hx hb hK hP 5 0 rfl rfl h20 d_RangeTellerModel_flow_93 ?_
    refine lv_iconst (v := 1) hx hb d_RangeTellerModel_flow_94 (by decide) ?_
    refine lv_iadd hx hb d_RangeTellerModel_flow_95 ?_
    obtain ⟨σ21, h22, hm⟩ := rt_b1s hm
    refine rt_pf (D := D) (C := "RangeTellerModel") (T := rt_T6) (N := 69) (ty := .int) hx hb hts rt_i6 rt_y6 rt_o6 rt_n6 hown hK hP hD hS 0 rfl rfl 36 (by decide) (hts _ (rt_m rt_w883)) (fun _ h9 => h9) rfl (by decide +kernel) rfl rfl (Nat.le_of_ble_eq_true rfl) (rtR_s0_36 cI cZ A _ _) h22 d_RangeTellerModel_flow_96 (fun H locs hP hS => ?_)
    refine lv_iconst (v := 1) hx hb d_RangeTellerModel_flow_99 (by decide) ?_
    exact W.zret hx hb hr rfl (fun t ht hW => ⟨⟨_, _, rfl, rt_pr hm, rt_end rtR_Xo hK hP hS hX ht hW⟩, hS.F ht⟩) hS.2.2 d_RangeTellerModel_flow_100
  have hm := (if_neg c18).symm.trans hm
  by_cases c23 : v6 = 5
  · have hm := (if_pos c23).symm.trans hm
    refine lv_tableIn (off := 95) (tgt := 101) hx hb d_RangeTellerModel_flow_6 (by rw [c23]; decide) (by rw [c23]; decide) (by rw [c23]; rfl) (by decide) ?_
    refine lv_iload_n hx hb d_RangeTellerModel_flow_101 rfl (lv_at hl 1 rfl) ?_
    refine lv_iconst (v := 1) hx hb d_RangeTellerModel_flow_102 (by decide) ?_
    refine lv_iadd hx hb d_RangeTellerModel_flow_103 ?_
    refine lv_aload_n hx hb d_RangeTellerModel_flow_104 rfl (lv_at hl 0 rfl) ?_
    refine va_get (D := D) (v := .int (σ 0 6)) (C := "RangeTellerModel") (T := rt_T6) (N := 69) hx hb hts rt_i6 hown hK hP 0 rfl rfl 6 (by decide) (hts _ (rt_m rt_w853)) (fun _ h9 => h9) rfl d_RangeTellerModel_flow_105 ?_
    refine lv_icmp_ge (tgt := 128) hx hb d_RangeTellerModel_flow_108 (by decide) (fun hc => ?_) (fun hc => ?_)
    · have hm := (if_pos hc).symm.trans hm
      exact hB128 ls a1 σ _ _ (lv_sub hl [0, 1] rfl) hm hP hS
    · have hm := (if_neg hc).symm.trans hm
      refine lv_aload_n hx hb d_RangeTellerModel_flow_111 rfl (lv_at hl 0 rfl) ?_
      refine va_get (D := D) (v := .ref (A 4)) (C := "RangeTellerModel") (T := rt_T6) (N := 69) hx hb hts rt_i6 hown hK hP 0 rfl rfl 9 (by decide) (hts _ (rt_m rt_w856)) (fun _ h9 => h9) rfl d_RangeTellerModel_flow_112 ?_
      refine lv_iload_n hx hb d_RangeTellerModel_flow_115 rfl (lv_at hl 1 rfl) ?_
      refine lv_iconst (v := 1) hx hb d_RangeTellerModel_flow_116 (by decide) ?_
      refine lv_iadd hx hb d_RangeTellerModel_flow_117 ?_
      obtain ⟨v24, h25, hm⟩ := rt_b1s hm
      refine rt_ald hx hb hK hP 4 0 rfl rfl h25 d_RangeTellerModel_flow_118 ?_
      refine lv_aload_n hx hb d_RangeTellerModel_flow_119 rfl (lv_at hl 0 rfl) ?_
      refine va_get (D := D) (v := .ref (A 4)) (C := "RangeTellerModel") (T := rt_T6) (N := 69) hx hb hts rt_i6 hown hK hP 0 rfl rfl 9 (by decide) (hts _ (rt_m rt_w856)) (fun _ h9 => h9) rfl d_RangeTellerModel_flow_120 ?_
      refine lv_iload_n hx hb d_RangeTellerModel_flow_123 rfl (lv_at hl 1 rfl) ?_
      obtain ⟨v26, h27, hm⟩ := rt_b1s hm
      refine rt_ald hx hb hK hP 4 0 rfl rfl h27 d_RangeTellerModel_flow_124 ?_
      refine lv_icmp_eq (tgt := 136) hx hb d_RangeTellerModel_flow_125 (by decide) (fun hc => ?_) (fun hc => ?_)
      · have hm := (if_pos hc).symm.trans hm
        refine lv_iconst (v := 1) hx hb d_RangeTellerModel_flow_136 (by decide) ?_
        refine lv_goto (tgt := 141) hx hb d_RangeTellerModel_flow_137 (by decide) ?_
        exact W.zret hx hb hr rfl (fun t ht hW => ⟨⟨_, _, rfl, rt_pr hm, rt_end rtR_Xo hK hP hS hX ht hW⟩, hS.F ht⟩) hS.2.2 d_RangeTellerModel_flow_141
      · have hm := (if_neg hc).symm.trans hm
        exact hB128 ls a1 σ _ _ (lv_sub hl [0, 1] rfl) hm hP hS
  have hm := (if_neg c23).symm.trans hm
  by_cases c28 : v6 = 6
  · have hm := (if_pos c28).symm.trans hm
    refine lv_tableIn (off := 136) (tgt := 142) hx hb d_RangeTellerModel_flow_6 (by rw [c28]; decide) (by rw [c28]; decide) (by rw [c28]; rfl) (by decide) ?_
    refine lv_aload_n hx hb d_RangeTellerModel_flow_142 rfl (lv_at hl 0 rfl) ?_
    refine lv_iload_n hx hb d_RangeTellerModel_flow_143 rfl (lv_at hl 1 rfl) ?_
    obtain ⟨v31, σ30, h29, hm⟩ := rt_b2s hm
    refine rt_cvi (As := [.int a1]) (rest := []) (k := 0) rtR_Xo ⟨hx, hb, hml, hown, hts⟩ (k_R_RangeTellerModel_branch l D cI cZ A hO σ a1 _ _ h29) (cw_RangeTellerModel_branch hts (hts _ (rt_m rt_w1232)) ⟨Nat.le_of_ble_eq_true rfl, Nat.le_of_ble_eq_true rfl⟩) hK hP hS hX rfl rfl rfl hl.1 rfl (Nat.le_of_ble_eq_true rfl) d_RangeTellerModel_flow_144 ⟨Nat.zero_le _, Nat.zero_le _⟩ (fun H locs hP hS => ?_)
    obtain ⟨_, h32, hm⟩ := rt_b1s hm
    exact W.zret hx hb hr (rt_zoks h32) (fun t ht hW => ⟨⟨_, _, rfl, rt_pr hm, rt_end rtR_Xo hK hP hS hX ht hW⟩, hS.F ht⟩) hS.2.2 d_RangeTellerModel_flow_147
  have hm := (if_neg c28).symm.trans hm
  by_cases c33 : v6 = 7
  · have hm := (if_pos c33).symm.trans hm
    refine lv_tableIn (off := 142) (tgt := 148) hx hb d_RangeTellerModel_flow_6 (by rw [c33]; decide) (by rw [c33]; decide) (by rw [c33]; rfl) (by decide) ?_
    refine lv_aload_n hx hb d_RangeTellerModel_flow_148 rfl (lv_at hl 0 rfl) ?_
    obtain ⟨v36, σ35, h34, hm⟩ := rt_b2s hm
    refine rt_cvi (As := []) (rest := []) (k := 0) rtR_Xo ⟨hx, hb, hml, hown, hts⟩ (k_R_RangeTellerModel_pop l D cI cZ A hO σ _ _ h34) (cw_RangeTellerModel_pop hts (hts _ (rt_m rt_w1220)) ⟨Nat.le_of_ble_eq_true rfl, Nat.le_of_ble_eq_true rfl⟩) hK hP hS hX rfl rfl rfl hl.1 rfl (Nat.le_of_ble_eq_true rfl) d_RangeTellerModel_flow_149 ⟨Nat.zero_le _, Nat.zero_le _⟩ (fun H locs hP hS => ?_)
    refine lv_if_eq (tgt := 163) hx hb d_RangeTellerModel_flow_152 (by decide) (fun hc => ?_) (fun hc => ?_)
    · have hm := (if_pos hc).symm.trans hm
      refine lv_iconst (v := 1) hx hb d_RangeTellerModel_flow_163 (by decide) ?_
      refine lv_goto (tgt := 168) hx hb d_RangeTellerModel_flow_164 (by decide) ?_
      exact W.zret hx hb hr rfl (fun t ht hW => ⟨⟨_, _, rfl, rt_pr hm, rt_end rtR_Xo hK hP hS hX ht hW⟩, hS.F ht⟩) hS.2.2 d_RangeTellerModel_flow_168
    · have hm := (if_neg hc).symm.trans hm
      refine lv_aload_n hx hb d_RangeTellerModel_flow_155 rfl (lv_at hl 0 rfl) ?_
      refine lv_iload_n hx hb d_RangeTellerModel_flow_156 rfl (lv_at hl 1 rfl) ?_
      obtain ⟨v39, σ38, h37, hm⟩ := rt_b2s hm
      refine rt_cvi (As := [.int a1]) (rest := []) (k := 0) rtR_Xo ⟨hx, hb, hml, hown, hts⟩ (k_R_RangeTellerModel_branch l D cI cZ A hO σ35 a1 _ _ h37) (cw_RangeTellerModel_branch hts (hts _ (rt_m rt_w1232)) ⟨Nat.le_of_ble_eq_true rfl, Nat.le_of_ble_eq_true rfl⟩) hK hP hS hX rfl rfl rfl hl.1 rfl (Nat.le_of_ble_eq_true rfl) d_RangeTellerModel_flow_157 ⟨Nat.zero_le _, Nat.zero_le _⟩ (fun H locs hP hS => ?_)
      refine lv_if_eq (tgt := 167) hx hb d_RangeTellerModel_flow_160 (by decide) (fun hc => ?_) (fun hc => ?_)
      · have hm := (if_pos hc).symm.trans hm
        refine lv_iconst (v := 0) hx hb d_RangeTellerModel_flow_167 (by decide) ?_
        exact W.zret hx hb hr rfl (fun t ht hW => ⟨⟨_, _, rfl, rt_pr hm, rt_end rtR_Xo hK hP hS hX ht hW⟩, hS.F ht⟩) hS.2.2 d_RangeTellerModel_flow_168
      · have hm := (if_neg hc).symm.trans hm
        refine lv_iconst (v := 1) hx hb d_RangeTellerModel_flow_163 (by decide) ?_
        refine lv_goto (tgt := 168) hx hb d_RangeTellerModel_flow_164 (by decide) ?_
        exact W.zret hx hb hr rfl (fun t ht hW => ⟨⟨_, _, rfl, rt_pr hm, rt_end rtR_Xo hK hP hS hX ht hW⟩, hS.F ht⟩) hS.2.2 d_RangeTellerModel_flow_168
  have hm := (if_neg c33).symm.trans hm
  by_cases c40 : v6 = 8
  · have hm := (if_pos c40).symm.trans hm
    refine lv_tableIn (off := 163) (tgt := 169) hx hb d_RangeTellerModel_flow_6 (by rw [c40]; decide) (by rw [c40]; decide) (by rw [c40]; rfl) (by decide) ?_
    refine lv_aload_n hx hb d_RangeTellerModel_flow_169 rfl (lv_at hl 0 rfl) ?_
    refine lv_iload_n hx hb d_RangeTellerModel_flow_170 rfl (lv_at hl 1 rfl) ?_
    obtain ⟨v43, σ42, h41, hm⟩ := rt_b2s hm
    refine rt_cvi (As := [.int a1]) (rest := []) (k := 0) rtR_Xo ⟨hx, hb, hml, hown, hts⟩ (k_R_RangeTellerModel_giveBack l D cI cZ A hO σ a1 _ _ h41) (cw_RangeTellerModel_giveBack hts (hts _ (rt_m rt_w1224)) ⟨Nat.le_of_ble_eq_true rfl, Nat.le_of_ble_eq_true rfl⟩) hK hP hS hX rfl rfl rfl hl.1 rfl (Nat.le_of_ble_eq_true rfl) d_RangeTellerModel_flow_171 ⟨Nat.zero_le _, Nat.zero_le _⟩ (fun H locs hP hS => ?_)
    obtain ⟨_, h44, hm⟩ := rt_b1s hm
    exact W.zret hx hb hr (rt_zoks h44) (fun t ht hW => ⟨⟨_, _, rfl, rt_pr hm, rt_end rtR_Xo hK hP hS hX ht hW⟩, hS.F ht⟩) hS.2.2 d_RangeTellerModel_flow_174
  have hm := (if_neg c40).symm.trans hm
  by_cases c45 : v6 = 9
  · have hm := (if_pos c45).symm.trans hm
    refine lv_tableIn (off := 169) (tgt := 175) hx hb d_RangeTellerModel_flow_6 (by rw [c45]; decide) (by rw [c45]; decide) (by rw [c45]; rfl) (by decide) ?_
    refine lv_aload_n hx hb d_RangeTellerModel_flow_175 rfl (lv_at hl 0 rfl) ?_
    refine lv_iload_n hx hb d_RangeTellerModel_flow_176 rfl (lv_at hl 1 rfl) ?_
    obtain ⟨σ47, h46, hm⟩ := rt_b1s hm
    refine rt_cvv (As := [.int a1]) (rest := []) (k := 0) rtR_Xo ⟨hx, hb, hml, hown, hts⟩ (k_R_RangeTellerModel_enter l D cI cZ A hO σ a1 _ h46) (cw_RangeTellerModel_enter hts (hts _ (rt_m rt_w1236)) ⟨Nat.le_of_ble_eq_true rfl, Nat.le_of_ble_eq_true rfl⟩) hK hP hS hX rfl rfl rfl hl.1 rfl (Nat.le_of_ble_eq_true rfl) d_RangeTellerModel_flow_177 ⟨Nat.zero_le _, Nat.zero_le _⟩ (fun H locs hP hS => ?_)
    refine lv_iconst (v := 1) hx hb d_RangeTellerModel_flow_180 (by decide) ?_
    exact W.zret hx hb hr rfl (fun t ht hW => ⟨⟨_, _, rfl, rt_pr hm, rt_end rtR_Xo hK hP hS hX ht hW⟩, hS.F ht⟩) hS.2.2 d_RangeTellerModel_flow_181
  have hm := (if_neg c45).symm.trans hm
  refine lv_tableOut (tgt := 182) hx hb d_RangeTellerModel_flow_6 (by have := lv_neT (a := 3) c8 rfl; have := lv_neT (a := 4) c18 rfl; have := lv_neT (a := 5) c23 rfl; have := lv_neT (a := 6) c28 rfl; have := lv_neT (a := 7) c33 rfl; have := lv_neT (a := 8) c40 rfl; have := lv_neT (a := 9) c45 rfl; omega) (by decide) ?_
  refine lv_iconst (v := 1) hx hb d_RangeTellerModel_flow_182 (by decide) ?_
  exact W.zret hx hb hr rfl (fun t ht hW => ⟨⟨_, _, rfl, rt_pr hm, rt_end rtR_Xo hK hP hS hX ht hW⟩, hS.F ht⟩) hS.2.2 d_RangeTellerModel_flow_183
set_option maxHeartbeats 4000000 in
set_option maxRecDepth 100000 in
theorem k_R_RangeTellerModel_act (l : Launch) (D : va_G) (cI cZ : ClassId) (A : Nat → Nat) (hO : rt_Ok (rtR_W cI cZ A)) (σ : rt_St) (a1 a2 : Int32) (σ' : rt_St) (hm : M_R_RangeTellerModel_act σ a1 a2 = some σ') (sz : Nat) : Met l y_RangeTellerModel_act (rt_ws y_RangeTellerModel_act b_RangeTellerModel_act 9 none) ({ frames := 1, cells := 0, slots := 0, locals := 22 } : Room) (va_Pc [.ref (A 0), .int a1, .int a2] (rt_P D rt_cl (rt_t cI cZ) rtR_X (rtR_W cI cZ A) sz σ)) (va_Qv (fun u1 => u1 = σ') (rt_B D rt_cl (rt_t cI cZ) rtR_X (rtR_W cI cZ A)) (rt_A (rtR_W cI cZ A) sz)) 0 0 (rt_A (rtR_W cI cZ A) sz) := by
  refine Met.ofW (cc := b_RangeTellerModel_act) (maxL := 9) (ret := none) (by decide) rfl ?_
  intro p e s m args below meth c s₁ B hml hv
  obtain ⟨rfl, rfl, hP, hK, hX⟩ := hv
  have hx := B.exec
  have hb := B.bytes
  have hr := B.returns
  have hts := atoms_spec (ws := (rt_ws y_RangeTellerModel_act b_RangeTellerModel_act 9 none)) B.pre
  have hown : s.vm.findClass "RangeTellerModel" = some m.cls := findClass_of_methodNamed B.named
  have hlocks := B.notSynchronized
  have hD := rt_hD hO s.heap.size
  have hS : va_S (rt_A (rtR_W cI cZ A) s.heap.size) s.heap s.heap [] := va_S.rf
  have hl := lv_entry ([.ref (A 0), .int a1, .int a2]) (n := 9) (Nat.le_of_ble_eq_true rfl)
  rw [lg_entry_eq]
  generalize (lg_sl ([.ref (A 0), .int a1, .int a2]) ++ List.replicate (9 - (lg_sl ([.ref (A 0), .int a1, .int a2])).length) Slot.unset).toArray = ls at hl ⊢
  have hl : lv_has ls 9 [(0, .ref (A 0)), (1, .int a1), (2, .int a2)] := hl
  show W p l e ({ frames := 1, cells := 0, slots := 0, locals := 22 } : Room) s m ([.ref (A 0), .int a1, .int a2] : List Value).toArray below meth c s.heap [] 0 0 (rt_Qv D rt_cl (rt_t cI cZ) rtR_X (rtR_W cI cZ A) below ([.ref (A 0), .int a1, .int a2] : List Value).toArray s σ') (F0 m 0 ls [])
  have hB147 : ∀ (ls : Array Slot) (l3 l4 l5 l6 : Int32) (σ : rt_St) (H : Heap) (locs : List Loc), lv_has ls 9 [(0, .ref (A 0)), (3, .int l3), (4, .int l4), (5, .int l5), (6, .int l6)] → B_R_RangeTellerModel_act_147 l3 l4 l5 l6 σ = some σ' → va_P D rt_cl (rtR_W cI cZ A σ) H → va_S (rt_A (rtR_W cI cZ A) s.heap.size) s.heap H locs → W p l e ({ frames := 1, cells := 0, slots := 0, locals := 22 } : Room) s m ([.ref (A 0), .int a1, .int a2] : List Value).toArray below meth c H locs 0 0 (rt_Qv D rt_cl (rt_t cI cZ) rtR_X (rtR_W cI cZ A) below ([.ref (A 0), .int a1, .int a2] : List Value).toArray s σ') (F0 m 147 ls []) := by
    intro ls l3 l4 l5 l6 σ H locs hl hm hP hS
    unfold B_R_RangeTellerModel_act_147 at hm
    refine lv_aload_n hx hb d_RangeTellerModel_act_147 rfl (lv_at hl 0 rfl) ?_
    refine va_get (D := D) (v := .ref (A 22)) (C := "RangeTellerModel") (T := rt_T6) (N := 69) hx hb hts rt_i6 hown hK hP 0 rfl rfl 33 (by decide) (hts _ (rt_m rt_w880)) (fun _ h9 => h9) rfl d_RangeTellerModel_act_148 ?_
    refine lv_iload hx hb d_RangeTellerModel_act_151 (lv_at hl 3 rfl) ?_
    refine lv_iload hx hb d_RangeTellerModel_act_153 (lv_at hl 2 rfl) ?_
    refine lv_iadd hx hb d_RangeTellerModel_act_155 ?_
    refine lv_iload hx hb d_RangeTellerModel_act_156 (lv_at hl 4 rfl) ?_
    obtain ⟨σ1, h2, hm⟩ := rt_b1s hm
    refine rt_ast hx hb hK hP hD hS 22 0 rfl (rtR_a22 cI cZ A _) rfl h2 d_RangeTellerModel_act_158 (fun H locs hP hS => ?_)
    refine lv_iload_n hx hb d_RangeTellerModel_act_159 rfl (lv_at hl 1 rfl) ?_
    refine lv_bipush (v := 14) hx hb d_RangeTellerModel_act_160 (by decide) ?_
    refine lv_icmp_ne (tgt := 302) hx hb d_RangeTellerModel_act_162 (by decide) (fun hc => ?_) (fun hc => ?_)
    · have hm := (if_neg hc).symm.trans hm
      exact W.vret hx hb hr (fun t ht hW => ⟨⟨_, rfl, Option.some.inj hm, rt_end rtR_Xo hK hP hS hX ht hW⟩, hS.F ht⟩) hS.2.2 d_RangeTellerModel_act_302
    · have hm := (if_pos hc).symm.trans hm
      refine lv_aload_n hx hb d_RangeTellerModel_act_165 rfl (lv_at hl 0 rfl) ?_
      refine lv_iload hx hb d_RangeTellerModel_act_166 (lv_at hl 4 rfl) ?_
      obtain ⟨σ4, h3, hm⟩ := rt_b1s hm
      refine rt_cvv (As := [.int l6]) (rest := []) (k := 0) rtR_Xo ⟨hx, hb, hml, hown, hts⟩ (k_R_RangeTellerModel_push l D cI cZ A hO σ1 l6 _ h3) (cw_RangeTellerModel_push hts (hts _ (rt_m rt_w1228)) ⟨Nat.le_of_ble_eq_true rfl, Nat.le_of_ble_eq_true rfl⟩) hK hP hS hX rfl rfl rfl hl.1 rfl (Nat.le_of_ble_eq_true rfl) d_RangeTellerModel_act_168 ⟨Nat.zero_le _, Nat.zero_le _⟩ (fun H locs hP hS => ?_)
      refine lv_goto (tgt := 302) hx hb d_RangeTellerModel_act_171 (by decide) ?_
      exact W.vret hx hb hr (fun t ht hW => ⟨⟨_, rfl, Option.some.inj hm, rt_end rtR_Xo hK hP hS hX ht hW⟩, hS.F ht⟩) hS.2.2 d_RangeTellerModel_act_302
  have hB269 : ∀ (ls : Array Slot) (σ : rt_St) (H : Heap) (locs : List Loc), lv_has ls 9 [(0, .ref (A 0))] → B_R_RangeTellerModel_act_269 σ = some σ' → va_P D rt_cl (rtR_W cI cZ A σ) H → va_S (rt_A (rtR_W cI cZ A) s.heap.size) s.heap H locs → W p l e ({ frames := 1, cells := 0, slots := 0, locals := 22 } : Room) s m ([.ref (A 0), .int a1, .int a2] : List Value).toArray below meth c H locs 0 0 (rt_Qv D rt_cl (rt_t cI cZ) rtR_X (rtR_W cI cZ A) below ([.ref (A 0), .int a1, .int a2] : List Value).toArray s σ') (F0 m 269 ls []) := by
    intro ls σ H locs hl hm hP hS
    unfold B_R_RangeTellerModel_act_269 at hm
    refine lv_aload_n hx hb d_RangeTellerModel_act_269 rfl (lv_at hl 0 rfl) ?_
    refine lv_dup hx hb d_RangeTellerModel_act_270 rfl ?_
    refine va_get (D := D) (v := .int (σ 0 41)) (C := "RangeTellerModel") (T := rt_T6) (N := 69) hx hb hts rt_i6 hown hK hP 0 rfl rfl 41 (by decide) (hts _ (rt_m rt_w888)) (fun _ h9 => h9) rfl d_RangeTellerModel_act_271 ?_
    refine lv_iconst (v := 1) hx hb d_RangeTellerModel_act_274 (by decide) ?_
    refine lv_iadd hx hb d_RangeTellerModel_act_275 ?_
    obtain ⟨σ5, h6, hm⟩ := rt_b1s hm
    refine rt_pf (D := D) (C := "RangeTellerModel") (T := rt_T6) (N := 69) (ty := .int) hx hb hts rt_i6 rt_y6 rt_o6 rt_n6 hown hK hP hD hS 0 rfl rfl 41 (by decide) (hts _ (rt_m rt_w888)) (fun _ h9 => h9) rfl (by decide +kernel) rfl rfl (Nat.le_of_ble_eq_true rfl) (rtR_s0_41 cI cZ A _ _) h6 d_RangeTellerModel_act_276 (fun H locs hP hS => ?_)
    refine lv_goto (tgt := 302) hx hb d_RangeTellerModel_act_279 (by decide) ?_
    exact W.vret hx hb hr (fun t ht hW => ⟨⟨_, rfl, Option.some.inj hm, rt_end rtR_Xo hK hP hS hX ht hW⟩, hS.F ht⟩) hS.2.2 d_RangeTellerModel_act_302
  have hB237 : ∀ (ls : Array Slot) (t0 : Int32) (σ : rt_St) (H : Heap) (locs : List Loc), lv_has ls 9 [] → B_R_RangeTellerModel_act_237 t0 σ = some σ' → va_P D rt_cl (rtR_W cI cZ A σ) H → va_S (rt_A (rtR_W cI cZ A) s.heap.size) s.heap H locs → W p l e ({ frames := 1, cells := 0, slots := 0, locals := 22 } : Room) s m ([.ref (A 0), .int a1, .int a2] : List Value).toArray below meth c H locs 0 0 (rt_Qv D rt_cl (rt_t cI cZ) rtR_X (rtR_W cI cZ A) below ([.ref (A 0), .int a1, .int a2] : List Value).toArray s σ') (F0 m 237 ls [.int t0, .ref (A 0)]) := by
    intro ls t0 σ H locs hl hm hP hS
    unfold B_R_RangeTellerModel_act_237 at hm
    obtain ⟨σ8, h7, hm⟩ := rt_b1s hm
    refine rt_cvv (As := [.int t0]) (rest := []) (k := 0) rtR_Xo ⟨hx, hb, hml, hown, hts⟩ (k_R_RangeTellerModel_push l D cI cZ A hO σ t0 _ h7) (cw_RangeTellerModel_push hts (hts _ (rt_m rt_w1228)) ⟨Nat.le_of_ble_eq_true rfl, Nat.le_of_ble_eq_true rfl⟩) hK hP hS hX rfl rfl rfl hl.1 rfl (Nat.le_of_ble_eq_true rfl) d_RangeTellerModel_act_237 ⟨Nat.zero_le _, Nat.zero_le _⟩ (fun H locs hP hS => ?_)
    refine lv_goto (tgt := 302) hx hb d_RangeTellerModel_act_240 (by decide) ?_
    exact W.vret hx hb hr (fun t ht hW => ⟨⟨_, rfl, Option.some.inj hm, rt_end rtR_Xo hK hP hS hX ht hW⟩, hS.F ht⟩) hS.2.2 d_RangeTellerModel_act_302
  have hB129 : ∀ (ls : Array Slot) (t0 : Int32) (σ : rt_St) (H : Heap) (locs : List Loc), lv_has ls 9 [] → B_R_RangeTellerModel_act_129 t0 σ = some σ' → va_P D rt_cl (rtR_W cI cZ A σ) H → va_S (rt_A (rtR_W cI cZ A) s.heap.size) s.heap H locs → W p l e ({ frames := 1, cells := 0, slots := 0, locals := 22 } : Room) s m ([.ref (A 0), .int a1, .int a2] : List Value).toArray below meth c H locs 0 0 (rt_Qv D rt_cl (rt_t cI cZ) rtR_X (rtR_W cI cZ A) below ([.ref (A 0), .int a1, .int a2] : List Value).toArray s σ') (F0 m 129 ls [.int t0, .ref (A 0)]) := by
    intro ls t0 σ H locs hl hm hP hS
    unfold B_R_RangeTellerModel_act_129 at hm
    obtain ⟨σ10, h9, hm⟩ := rt_b1s hm
    refine rt_cvv (As := [.int t0]) (rest := []) (k := 0) rtR_Xo ⟨hx, hb, hml, hown, hts⟩ (k_R_RangeTellerModel_push l D cI cZ A hO σ t0 _ h9) (cw_RangeTellerModel_push hts (hts _ (rt_m rt_w1228)) ⟨Nat.le_of_ble_eq_true rfl, Nat.le_of_ble_eq_true rfl⟩) hK hP hS hX rfl rfl rfl hl.1 rfl (Nat.le_of_ble_eq_true rfl) d_RangeTellerModel_act_129 ⟨Nat.zero_le _, Nat.zero_le _⟩ (fun H locs hP hS => ?_)
    refine lv_goto (tgt := 302) hx hb d_RangeTellerModel_act_132 (by decide) ?_
    exact W.vret hx hb hr (fun t ht hW => ⟨⟨_, rfl, Option.some.inj hm, rt_end rtR_Xo hK hP hS hX ht hW⟩, hS.F ht⟩) hS.2.2 d_RangeTellerModel_act_302
  have hB86 : ∀ (ls : Array Slot) (t0 : Int32) (σ : rt_St) (H : Heap) (locs : List Loc), lv_has ls 9 [] → B_R_RangeTellerModel_act_86 t0 σ = some σ' → va_P D rt_cl (rtR_W cI cZ A σ) H → va_S (rt_A (rtR_W cI cZ A) s.heap.size) s.heap H locs → W p l e ({ frames := 1, cells := 0, slots := 0, locals := 22 } : Room) s m ([.ref (A 0), .int a1, .int a2] : List Value).toArray below meth c H locs 0 0 (rt_Qv D rt_cl (rt_t cI cZ) rtR_X (rtR_W cI cZ A) below ([.ref (A 0), .int a1, .int a2] : List Value).toArray s σ') (F0 m 86 ls [.int t0, .ref (A 0)]) := by
    intro ls t0 σ H locs hl hm hP hS
    unfold B_R_RangeTellerModel_act_86 at hm
    obtain ⟨σ12, h11, hm⟩ := rt_b1s hm
    refine rt_cvv (As := [.int t0]) (rest := []) (k := 0) rtR_Xo ⟨hx, hb, hml, hown, hts⟩ (k_R_RangeTellerModel_push l D cI cZ A hO σ t0 _ h11) (cw_RangeTellerModel_push hts (hts _ (rt_m rt_w1228)) ⟨Nat.le_of_ble_eq_true rfl, Nat.le_of_ble_eq_true rfl⟩) hK hP hS hX rfl rfl rfl hl.1 rfl (Nat.le_of_ble_eq_true rfl) d_RangeTellerModel_act_86 ⟨Nat.zero_le _, Nat.zero_le _⟩ (fun H locs hP hS => ?_)
    refine lv_goto (tgt := 302) hx hb d_RangeTellerModel_act_89 (by decide) ?_
    exact W.vret hx hb hr (fun t ht hW => ⟨⟨_, rfl, Option.some.inj hm, rt_end rtR_Xo hK hP hS hX ht hW⟩, hS.F ht⟩) hS.2.2 d_RangeTellerModel_act_302
  unfold M_R_RangeTellerModel_act at hm
  refine lv_aload_n hx hb d_RangeTellerModel_act_0 rfl (lv_at hl 0 rfl) ?_
  refine va_get (D := D) (v := .ref (A 2)) (C := "RangeTellerModel") (T := rt_T6) (N := 69) hx hb hts rt_i6 hown hK hP 0 rfl rfl 7 (by decide) (hts _ (rt_m rt_w854)) (fun _ h9 => h9) rfl d_RangeTellerModel_act_1 ?_
  refine lv_iload_n hx hb d_RangeTellerModel_act_4 rfl (lv_at hl 1 rfl) ?_
  obtain ⟨v13, h14, hm⟩ := rt_b1s hm
  refine rt_ald hx hb hK hP 2 0 rfl rfl h14 d_RangeTellerModel_act_5 ?_
  refine lv_istore_n hx hb d_RangeTellerModel_act_6 rfl hl (by decide) rfl (fun ls hl => ?_)
  have hl : lv_has ls 9 [(3, .int v13), (0, .ref (A 0)), (1, .int a1), (2, .int a2)] := hl
  refine lv_aload_n hx hb d_RangeTellerModel_act_7 rfl (lv_at hl 1 rfl) ?_
  refine va_get (D := D) (v := .ref (A 3)) (C := "RangeTellerModel") (T := rt_T6) (N := 69) hx hb hts rt_i6 hown hK hP 0 rfl rfl 8 (by decide) (hts _ (rt_m rt_w855)) (fun _ h9 => h9) rfl d_RangeTellerModel_act_8 ?_
  refine lv_iload_n hx hb d_RangeTellerModel_act_11 rfl (lv_at hl 2 rfl) ?_
  obtain ⟨v15, h16, hm⟩ := rt_b1s hm
  refine rt_ald hx hb hK hP 3 0 rfl rfl h16 d_RangeTellerModel_act_12 ?_
  refine lv_istore hx hb d_RangeTellerModel_act_13 hl (by decide) rfl (fun ls hl => ?_)
  have hl : lv_has ls 9 [(4, .int v15), (3, .int v13), (0, .ref (A 0)), (1, .int a1), (2, .int a2)] := hl
  refine lv_iconst (v := 4) hx hb d_RangeTellerModel_act_15 (by decide) ?_
  refine lv_aload_n hx hb d_RangeTellerModel_act_16 rfl (lv_at hl 2 rfl) ?_
  refine va_get (D := D) (v := .int (σ 0 30)) (C := "RangeTellerModel") (T := rt_T6) (N := 69) hx hb hts rt_i6 hown hK hP 0 rfl rfl 30 (by decide) (hts _ (rt_m rt_w877)) (fun _ h9 => h9) rfl d_RangeTellerModel_act_17 ?_
  refine lv_imul hx hb d_RangeTellerModel_act_20 ?_
  refine lv_istore hx hb d_RangeTellerModel_act_21 hl (by decide) rfl (fun ls hl => ?_)
  have hl : lv_has ls 9 [(5, .int (4 * (σ 0 30))), (4, .int v15), (3, .int v13), (0, .ref (A 0)), (1, .int a1), (2, .int a2)] := hl
  refine lv_iload_n hx hb d_RangeTellerModel_act_23 rfl (lv_at hl 2 rfl) ?_
  refine lv_bipush (v := 12) hx hb d_RangeTellerModel_act_24 (by decide) ?_
  refine lv_icmp_ne (tgt := 46) hx hb d_RangeTellerModel_act_26 (by decide) (fun hc => ?_) (fun hc => ?_)
  · have hm := (if_neg hc).symm.trans hm
    refine lv_iload_n hx hb d_RangeTellerModel_act_46 rfl (lv_at hl 2 rfl) ?_
    refine lv_bipush (v := 17) hx hb d_RangeTellerModel_act_47 (by decide) ?_
    refine lv_icmp_ne (tgt := 61) hx hb d_RangeTellerModel_act_49 (by decide) (fun hc => ?_) (fun hc => ?_)
    · have hm := (if_neg hc).symm.trans hm
      refine lv_iload_n hx hb d_RangeTellerModel_act_61 rfl (lv_at hl 2 rfl) ?_
      refine lv_bipush (v := 27) hx hb d_RangeTellerModel_act_62 (by decide) ?_
      refine lv_icmp_ne (tgt := 92) hx hb d_RangeTellerModel_act_64 (by decide) (fun hc => ?_) (fun hc => ?_)
      · have hm := (if_neg hc).symm.trans hm
        refine lv_aload_n hx hb d_RangeTellerModel_act_92 rfl (lv_at hl 3 rfl) ?_
        obtain ⟨v19, σ18, h17, hm⟩ := rt_b2s hm
        refine rt_cvi (As := []) (rest := []) (k := 0) rtR_Xo ⟨hx, hb, hml, hown, hts⟩ (k_R_RangeTellerModel_pop l D cI cZ A hO σ _ _ h17) (cw_RangeTellerModel_pop hts (hts _ (rt_m rt_w1220)) ⟨Nat.le_of_ble_eq_true rfl, Nat.le_of_ble_eq_true rfl⟩) hK hP hS hX rfl rfl rfl hl.1 rfl (Nat.le_of_ble_eq_true rfl) d_RangeTellerModel_act_93 ⟨Nat.zero_le _, Nat.zero_le _⟩ (fun H locs hP hS => ?_)
        refine lv_istore hx hb d_RangeTellerModel_act_96 hl (by decide) rfl (fun ls hl => ?_)
        have hl : lv_has ls 9 [(6, .int v19), (5, .int (4 * (σ 0 30))), (4, .int v15), (3, .int v13), (0, .ref (A 0)), (1, .int a1), (2, .int a2)] := hl
        refine lv_iload_n hx hb d_RangeTellerModel_act_98 rfl (lv_at hl 3 rfl) ?_
        refine lv_bipush (v := 11) hx hb d_RangeTellerModel_act_99 (by decide) ?_
        refine lv_icmp_ne (tgt := 135) hx hb d_RangeTellerModel_act_101 (by decide) (fun hc => ?_) (fun hc => ?_)
        · have hm := (if_neg hc).symm.trans hm
          refine lv_iload_n hx hb d_RangeTellerModel_act_135 rfl (lv_at hl 3 rfl) ?_
          refine lv_bipush (v := 13) hx hb d_RangeTellerModel_act_136 (by decide) ?_
          refine lv_icmp_eq (tgt := 147) hx hb d_RangeTellerModel_act_138 (by decide) (fun hc => ?_) (fun hc => ?_)
          · have hm := (if_pos hc).symm.trans hm
            exact hB147 ls v13 v15 (4 * (σ 0 30)) v19 σ18 _ _ (lv_sub hl [4, 3, 2, 1, 0] rfl) hm hP hS
          · have hm := (if_neg hc).symm.trans hm
            refine lv_iload_n hx hb d_RangeTellerModel_act_141 rfl (lv_at hl 3 rfl) ?_
            refine lv_bipush (v := 14) hx hb d_RangeTellerModel_act_142 (by decide) ?_
            refine lv_icmp_ne (tgt := 174) hx hb d_RangeTellerModel_act_144 (by decide) (fun hc => ?_) (fun hc => ?_)
            · have hm := (if_neg hc).symm.trans hm
              refine lv_iload_n hx hb d_RangeTellerModel_act_174 rfl (lv_at hl 3 rfl) ?_
              refine lv_bipush (v := 15) hx hb d_RangeTellerModel_act_175 (by decide) ?_
              refine lv_icmp_ne (tgt := 197) hx hb d_RangeTellerModel_act_177 (by decide) (fun hc => ?_) (fun hc => ?_)
              · have hm := (if_neg hc).symm.trans hm
                refine lv_iload_n hx hb d_RangeTellerModel_act_197 rfl (lv_at hl 3 rfl) ?_
                refine lv_bipush (v := 16) hx hb d_RangeTellerModel_act_198 (by decide) ?_
                refine lv_icmp_ne (tgt := 220) hx hb d_RangeTellerModel_act_200 (by decide) (fun hc => ?_) (fun hc => ?_)
                · have hm := (if_neg hc).symm.trans hm
                  refine lv_iload_n hx hb d_RangeTellerModel_act_220 rfl (lv_at hl 3 rfl) ?_
                  refine lv_bipush (v := 18) hx hb d_RangeTellerModel_act_221 (by decide) ?_
                  refine lv_icmp_ne (tgt := 243) hx hb d_RangeTellerModel_act_223 (by decide) (fun hc => ?_) (fun hc => ?_)
                  · have hm := (if_neg hc).symm.trans hm
                    refine lv_iload_n hx hb d_RangeTellerModel_act_243 rfl (lv_at hl 3 rfl) ?_
                    refine lv_bipush (v := 28) hx hb d_RangeTellerModel_act_244 (by decide) ?_
                    refine lv_icmp_ne (tgt := 282) hx hb d_RangeTellerModel_act_246 (by decide) (fun hc => ?_) (fun hc => ?_)
                    · have hm := (if_neg hc).symm.trans hm
                      refine lv_iload_n hx hb d_RangeTellerModel_act_282 rfl (lv_at hl 3 rfl) ?_
                      refine lv_bipush (v := 18) hx hb d_RangeTellerModel_act_283 (by decide) ?_
                      refine lv_icmp_le (tgt := 302) hx hb d_RangeTellerModel_act_285 (by decide) (fun hc => ?_) (fun hc => ?_)
                      · have hm := (if_pos hc).symm.trans hm
                        exact W.vret hx hb hr (fun t ht hW => ⟨⟨_, rfl, Option.some.inj hm, rt_end rtR_Xo hK hP hS hX ht hW⟩, hS.F ht⟩) hS.2.2 d_RangeTellerModel_act_302
                      · have hm := (if_neg hc).symm.trans hm
                        refine lv_aload_n hx hb d_RangeTellerModel_act_288 rfl (lv_at hl 4 rfl) ?_
                        refine lv_iload_n hx hb d_RangeTellerModel_act_289 rfl (lv_at hl 3 rfl) ?_
                        refine lv_aload_n hx hb d_RangeTellerModel_act_290 rfl (lv_at hl 4 rfl) ?_
                        obtain ⟨v22, σ21, h20, hm⟩ := rt_b2s hm
                        refine rt_cvi (As := []) (rest := [.int v13, .ref (A 0)]) (k := 0) rtR_Xo ⟨hx, hb, hml, hown, hts⟩ (k_R_RangeTellerModel_pop l D cI cZ A hO σ18 _ _ h20) (cw_RangeTellerModel_pop hts (hts _ (rt_m rt_w1220)) ⟨Nat.le_of_ble_eq_true rfl, Nat.le_of_ble_eq_true rfl⟩) hK hP hS hX rfl rfl rfl hl.1 rfl (Nat.le_of_ble_eq_true rfl) d_RangeTellerModel_act_291 ⟨Nat.zero_le _, Nat.zero_le _⟩ (fun H locs hP hS => ?_)
                        refine lv_iload hx hb d_RangeTellerModel_act_294 (lv_at hl 0 rfl) ?_
                        obtain ⟨v24, h23, hm⟩ := rt_b1s hm
                        refine rt_csi (As := [.int v13, .int v22, .int v19]) (rest := [.ref (A 0)]) rt_X0o ⟨hx, hb, hml, hown, hts⟩ (k_R_RangeTellerModel_operate l v13 v22 v19 _ h23) (cw_RangeTellerModel_operate hts (hts _ (rt_m rt_w1197)) ⟨Nat.le_of_ble_eq_true rfl, Nat.le_of_ble_eq_true rfl⟩) hS (fun _ h => Or.inr h) trivial rfl hl.1 rfl (Nat.le_of_ble_eq_true rfl) d_RangeTellerModel_act_296 ⟨Nat.zero_le _, Nat.zero_le _⟩ (fun H locs hk hS => ?_)
                        have hP := rt_keep hP hk
                        clear hk
                        obtain ⟨σ26, h25, hm⟩ := rt_b1s hm
                        refine rt_cvv (As := [.int v24]) (rest := []) (k := 0) rtR_Xo ⟨hx, hb, hml, hown, hts⟩ (k_R_RangeTellerModel_push l D cI cZ A hO σ21 v24 _ h25) (cw_RangeTellerModel_push hts (hts _ (rt_m rt_w1228)) ⟨Nat.le_of_ble_eq_true rfl, Nat.le_of_ble_eq_true rfl⟩) hK hP hS hX rfl rfl rfl hl.1 rfl (Nat.le_of_ble_eq_true rfl) d_RangeTellerModel_act_299 ⟨Nat.zero_le _, Nat.zero_le _⟩ (fun H locs hP hS => ?_)
                        exact W.vret hx hb hr (fun t ht hW => ⟨⟨_, rfl, Option.some.inj hm, rt_end rtR_Xo hK hP hS hX ht hW⟩, hS.F ht⟩) hS.2.2 d_RangeTellerModel_act_302
                    · have hm := (if_pos hc).symm.trans hm
                      refine lv_aload_n hx hb d_RangeTellerModel_act_249 rfl (lv_at hl 4 rfl) ?_
                      refine va_get (D := D) (v := .int (σ18 0 41)) (C := "RangeTellerModel") (T := rt_T6) (N := 69) hx hb hts rt_i6 hown hK hP 0 rfl rfl 41 (by decide) (hts _ (rt_m rt_w888)) (fun _ h9 => h9) rfl d_RangeTellerModel_act_250 ?_
                      refine lv_bipush (v := 20) hx hb d_RangeTellerModel_act_253 (by decide) ?_
                      refine lv_icmp_ge (tgt := 269) hx hb d_RangeTellerModel_act_255 (by decide) (fun hc => ?_) (fun hc => ?_)
                      · have hm := (if_pos hc).symm.trans hm
                        exact hB269 ls σ18 _ _ (lv_sub hl [4] rfl) hm hP hS
                      · have hm := (if_neg hc).symm.trans hm
                        refine lv_aload_n hx hb d_RangeTellerModel_act_258 rfl (lv_at hl 4 rfl) ?_
                        refine va_get (D := D) (v := .ref (A 25)) (C := "RangeTellerModel") (T := rt_T6) (N := 69) hx hb hts rt_i6 hown hK hP 0 rfl rfl 42 (by decide) (hts _ (rt_m rt_w889)) (fun _ h9 => h9) rfl d_RangeTellerModel_act_259 ?_
                        refine lv_aload_n hx hb d_RangeTellerModel_act_262 rfl (lv_at hl 4 rfl) ?_
                        refine va_get (D := D) (v := .int (σ18 0 41)) (C := "RangeTellerModel") (T := rt_T6) (N := 69) hx hb hts rt_i6 hown hK hP 0 rfl rfl 41 (by decide) (hts _ (rt_m rt_w888)) (fun _ h9 => h9) rfl d_RangeTellerModel_act_263 ?_
                        refine lv_iload hx hb d_RangeTellerModel_act_266 (lv_at hl 0 rfl) ?_
                        obtain ⟨σ27, h28, hm⟩ := rt_b1s hm
                        refine rt_ast hx hb hK hP hD hS 25 0 rfl (rtR_a25 cI cZ A _) rfl h28 d_RangeTellerModel_act_268 (fun H locs hP hS => ?_)
                        exact hB269 ls σ27 _ _ (lv_sub hl [4] rfl) hm hP hS
                  · have hm := (if_pos hc).symm.trans hm
                    refine lv_aload_n hx hb d_RangeTellerModel_act_226 rfl (lv_at hl 4 rfl) ?_
                    refine lv_iload hx hb d_RangeTellerModel_act_227 (lv_at hl 0 rfl) ?_
                    refine lv_if_ne (tgt := 236) hx hb d_RangeTellerModel_act_229 (by decide) (fun hc => ?_) (fun hc => ?_)
                    · have hm := (if_neg hc).symm.trans hm
                      refine lv_iconst (v := 0) hx hb d_RangeTellerModel_act_236 (by decide) ?_
                      exact hB237 ls 0 σ18 _ _ (lv_sub hl [] rfl) hm hP hS
                    · have hm := (if_pos hc).symm.trans hm
                      refine lv_iconst (v := 1) hx hb d_RangeTellerModel_act_232 (by decide) ?_
                      refine lv_goto (tgt := 237) hx hb d_RangeTellerModel_act_233 (by decide) ?_
                      exact hB237 ls 1 σ18 _ _ (lv_sub hl [] rfl) hm hP hS
                · have hm := (if_pos hc).symm.trans hm
                  refine lv_aload_n hx hb d_RangeTellerModel_act_203 rfl (lv_at hl 4 rfl) ?_
                  refine va_get (D := D) (v := .ref (A 24)) (C := "RangeTellerModel") (T := rt_T6) (N := 69) hx hb hts rt_i6 hown hK hP 0 rfl rfl 35 (by decide) (hts _ (rt_m rt_w882)) (fun _ h9 => h9) rfl d_RangeTellerModel_act_204 ?_
                  refine lv_aload_n hx hb d_RangeTellerModel_act_207 rfl (lv_at hl 4 rfl) ?_
                  obtain ⟨v31, σ30, h29, hm⟩ := rt_b2s hm
                  refine rt_cvi (As := []) (rest := [.ref (A 24)]) (k := 0) rtR_Xo ⟨hx, hb, hml, hown, hts⟩ (k_R_RangeTellerModel_pop l D cI cZ A hO σ18 _ _ h29) (cw_RangeTellerModel_pop hts (hts _ (rt_m rt_w1220)) ⟨Nat.le_of_ble_eq_true rfl, Nat.le_of_ble_eq_true rfl⟩) hK hP hS hX rfl rfl rfl hl.1 rfl (Nat.le_of_ble_eq_true rfl) d_RangeTellerModel_act_208 ⟨Nat.zero_le _, Nat.zero_le _⟩ (fun H locs hP hS => ?_)
                  refine lv_iload hx hb d_RangeTellerModel_act_211 (lv_at hl 2 rfl) ?_
                  refine lv_iadd hx hb d_RangeTellerModel_act_213 ?_
                  refine lv_iload hx hb d_RangeTellerModel_act_214 (lv_at hl 0 rfl) ?_
                  obtain ⟨σ32, h33, hm⟩ := rt_b1s hm
                  refine rt_ast hx hb hK hP hD hS 24 0 rfl (rtR_a24 cI cZ A _) rfl h33 d_RangeTellerModel_act_216 (fun H locs hP hS => ?_)
                  refine lv_goto (tgt := 302) hx hb d_RangeTellerModel_act_217 (by decide) ?_
                  exact W.vret hx hb hr (fun t ht hW => ⟨⟨_, rfl, Option.some.inj hm, rt_end rtR_Xo hK hP hS hX ht hW⟩, hS.F ht⟩) hS.2.2 d_RangeTellerModel_act_302
              · have hm := (if_pos hc).symm.trans hm
                refine lv_aload_n hx hb d_RangeTellerModel_act_180 rfl (lv_at hl 4 rfl) ?_
                refine lv_aload_n hx hb d_RangeTellerModel_act_181 rfl (lv_at hl 4 rfl) ?_
                refine va_get (D := D) (v := .ref (A 24)) (C := "RangeTellerModel") (T := rt_T6) (N := 69) hx hb hts rt_i6 hown hK hP 0 rfl rfl 35 (by decide) (hts _ (rt_m rt_w882)) (fun _ h9 => h9) rfl d_RangeTellerModel_act_182 ?_
                refine lv_iload hx hb d_RangeTellerModel_act_185 (lv_at hl 0 rfl) ?_
                refine lv_iload hx hb d_RangeTellerModel_act_187 (lv_at hl 2 rfl) ?_
                refine lv_iadd hx hb d_RangeTellerModel_act_189 ?_
                obtain ⟨v34, h35, hm⟩ := rt_b1s hm
                refine rt_ald hx hb hK hP 24 0 rfl rfl h35 d_RangeTellerModel_act_190 ?_
                obtain ⟨σ37, h36, hm⟩ := rt_b1s hm
                refine rt_cvv (As := [.int v34]) (rest := []) (k := 0) rtR_Xo ⟨hx, hb, hml, hown, hts⟩ (k_R_RangeTellerModel_push l D cI cZ A hO σ18 v34 _ h36) (cw_RangeTellerModel_push hts (hts _ (rt_m rt_w1228)) ⟨Nat.le_of_ble_eq_true rfl, Nat.le_of_ble_eq_true rfl⟩) hK hP hS hX rfl rfl rfl hl.1 rfl (Nat.le_of_ble_eq_true rfl) d_RangeTellerModel_act_191 ⟨Nat.zero_le _, Nat.zero_le _⟩ (fun H locs hP hS => ?_)
                refine lv_goto (tgt := 302) hx hb d_RangeTellerModel_act_194 (by decide) ?_
                exact W.vret hx hb hr (fun t ht hW => ⟨⟨_, rfl, Option.some.inj hm, rt_end rtR_Xo hK hP hS hX ht hW⟩, hS.F ht⟩) hS.2.2 d_RangeTellerModel_act_302
            · have hm := (if_pos hc).symm.trans hm
              exact hB147 ls v13 v15 (4 * (σ 0 30)) v19 σ18 _ _ (lv_sub hl [4, 3, 2, 1, 0] rfl) hm hP hS
        · have hm := (if_pos hc).symm.trans hm
          refine lv_aload_n hx hb d_RangeTellerModel_act_104 rfl (lv_at hl 4 rfl) ?_
          obtain ⟨v40, σ39, h38, hm⟩ := rt_b2s hm
          refine rt_cvi (As := []) (rest := []) (k := 0) rtR_Xo ⟨hx, hb, hml, hown, hts⟩ (k_R_RangeTellerModel_pop l D cI cZ A hO σ18 _ _ h38) (cw_RangeTellerModel_pop hts (hts _ (rt_m rt_w1220)) ⟨Nat.le_of_ble_eq_true rfl, Nat.le_of_ble_eq_true rfl⟩) hK hP hS hX rfl rfl rfl hl.1 rfl (Nat.le_of_ble_eq_true rfl) d_RangeTellerModel_act_105 ⟨Nat.zero_le _, Nat.zero_le _⟩ (fun H locs hP hS => ?_)
          refine lv_istore hx hb d_RangeTellerModel_act_108 hl (by decide) rfl (fun ls hl => ?_)
          have hl : lv_has ls 9 [(7, .int v40), (6, .int v19), (5, .int (4 * (σ 0 30))), (4, .int v15), (3, .int v13), (0, .ref (A 0)), (1, .int a1), (2, .int a2)] := hl
          refine lv_aload_n hx hb d_RangeTellerModel_act_110 rfl (lv_at hl 5 rfl) ?_
          obtain ⟨v43, σ42, h41, hm⟩ := rt_b2s hm
          refine rt_cvi (As := []) (rest := []) (k := 0) rtR_Xo ⟨hx, hb, hml, hown, hts⟩ (k_R_RangeTellerModel_pop l D cI cZ A hO σ39 _ _ h41) (cw_RangeTellerModel_pop hts (hts _ (rt_m rt_w1220)) ⟨Nat.le_of_ble_eq_true rfl, Nat.le_of_ble_eq_true rfl⟩) hK hP hS hX rfl rfl rfl hl.1 rfl (Nat.le_of_ble_eq_true rfl) d_RangeTellerModel_act_111 ⟨Nat.zero_le _, Nat.zero_le _⟩ (fun H locs hP hS => ?_)
          refine lv_istore hx hb d_RangeTellerModel_act_114 hl (by decide) rfl (fun ls hl => ?_)
          have hl : lv_has ls 9 [(8, .int v43), (7, .int v40), (6, .int v19), (5, .int (4 * (σ 0 30))), (4, .int v15), (3, .int v13), (0, .ref (A 0)), (1, .int a1), (2, .int a2)] := hl
          refine lv_aload_n hx hb d_RangeTellerModel_act_116 rfl (lv_at hl 6 rfl) ?_
          refine lv_iload hx hb d_RangeTellerModel_act_117 (lv_at hl 2 rfl) ?_
          refine lv_if_eq (tgt := 127) hx hb d_RangeTellerModel_act_119 (by decide) (fun hc => ?_) (fun hc => ?_)
          · have hm := (if_pos hc).symm.trans hm
            refine lv_iload hx hb d_RangeTellerModel_act_127 (lv_at hl 1 rfl) ?_
            exact hB129 ls v40 σ42 _ _ (lv_sub hl [] rfl) hm hP hS
          · have hm := (if_neg hc).symm.trans hm
            refine lv_iload hx hb d_RangeTellerModel_act_122 (lv_at hl 0 rfl) ?_
            refine lv_goto (tgt := 129) hx hb d_RangeTellerModel_act_124 (by decide) ?_
            exact hB129 ls v43 σ42 _ _ (lv_sub hl [] rfl) hm hP hS
      · have hm := (if_pos hc).symm.trans hm
        refine lv_aload_n hx hb d_RangeTellerModel_act_67 rfl (lv_at hl 3 rfl) ?_
        refine lv_iload_n hx hb d_RangeTellerModel_act_68 rfl (lv_at hl 5 rfl) ?_
        refine lv_aload_n hx hb d_RangeTellerModel_act_69 rfl (lv_at hl 3 rfl) ?_
        refine va_get (D := D) (v := .int (σ 0 27)) (C := "RangeTellerModel") (T := rt_T6) (N := 69) hx hb hts rt_i6 hown hK hP 0 rfl rfl 27 (by decide) (hts _ (rt_m rt_w874)) (fun _ h9 => h9) rfl d_RangeTellerModel_act_70 ?_
        refine lv_icmp_ge (tgt := 85) hx hb d_RangeTellerModel_act_73 (by decide) (fun hc => ?_) (fun hc => ?_)
        · have hm := (if_pos hc).symm.trans hm
          refine lv_iconst (v := 0) hx hb d_RangeTellerModel_act_85 (by decide) ?_
          exact hB86 ls 0 σ _ _ (lv_sub hl [] rfl) hm hP hS
        · have hm := (if_neg hc).symm.trans hm
          refine lv_aload_n hx hb d_RangeTellerModel_act_76 rfl (lv_at hl 3 rfl) ?_
          refine va_get (D := D) (v := .ref (A 19)) (C := "RangeTellerModel") (T := rt_T6) (N := 69) hx hb hts rt_i6 hown hK hP 0 rfl rfl 28 (by decide) (hts _ (rt_m rt_w875)) (fun _ h9 => h9) rfl d_RangeTellerModel_act_77 ?_
          refine lv_iload_n hx hb d_RangeTellerModel_act_80 rfl (lv_at hl 5 rfl) ?_
          obtain ⟨v44, h45, hm⟩ := rt_b1s hm
          refine rt_ald hx hb hK hP 19 0 rfl rfl h45 d_RangeTellerModel_act_81 ?_
          refine lv_goto (tgt := 86) hx hb d_RangeTellerModel_act_82 (by decide) ?_
          exact hB86 ls v44 σ _ _ (lv_sub hl [] rfl) hm hP hS
    · have hm := (if_pos hc).symm.trans hm
      refine lv_aload_n hx hb d_RangeTellerModel_act_52 rfl (lv_at hl 3 rfl) ?_
      refine lv_iload hx hb d_RangeTellerModel_act_53 (lv_at hl 1 rfl) ?_
      obtain ⟨σ47, h46, hm⟩ := rt_b1s hm
      refine rt_cvv (As := [.int v15]) (rest := []) (k := 0) rtR_Xo ⟨hx, hb, hml, hown, hts⟩ (k_R_RangeTellerModel_push l D cI cZ A hO σ v15 _ h46) (cw_RangeTellerModel_push hts (hts _ (rt_m rt_w1228)) ⟨Nat.le_of_ble_eq_true rfl, Nat.le_of_ble_eq_true rfl⟩) hK hP hS hX rfl rfl rfl hl.1 rfl (Nat.le_of_ble_eq_true rfl) d_RangeTellerModel_act_55 ⟨Nat.zero_le _, Nat.zero_le _⟩ (fun H locs hP hS => ?_)
      refine lv_goto (tgt := 302) hx hb d_RangeTellerModel_act_58 (by decide) ?_
      exact W.vret hx hb hr (fun t ht hW => ⟨⟨_, rfl, Option.some.inj hm, rt_end rtR_Xo hK hP hS hX ht hW⟩, hS.F ht⟩) hS.2.2 d_RangeTellerModel_act_302
  · have hm := (if_pos hc).symm.trans hm
    refine lv_aload_n hx hb d_RangeTellerModel_act_29 rfl (lv_at hl 3 rfl) ?_
    refine lv_aload_n hx hb d_RangeTellerModel_act_30 rfl (lv_at hl 3 rfl) ?_
    refine va_get (D := D) (v := .ref (A 22)) (C := "RangeTellerModel") (T := rt_T6) (N := 69) hx hb hts rt_i6 hown hK hP 0 rfl rfl 33 (by decide) (hts _ (rt_m rt_w880)) (fun _ h9 => h9) rfl d_RangeTellerModel_act_31 ?_
    refine lv_iload hx hb d_RangeTellerModel_act_34 (lv_at hl 0 rfl) ?_
    refine lv_iload hx hb d_RangeTellerModel_act_36 (lv_at hl 1 rfl) ?_
    refine lv_iadd hx hb d_RangeTellerModel_act_38 ?_
    obtain ⟨v48, h49, hm⟩ := rt_b1s hm
    refine rt_ald hx hb hK hP 22 0 rfl rfl h49 d_RangeTellerModel_act_39 ?_
    obtain ⟨σ51, h50, hm⟩ := rt_b1s hm
    refine rt_cvv (As := [.int v48]) (rest := []) (k := 0) rtR_Xo ⟨hx, hb, hml, hown, hts⟩ (k_R_RangeTellerModel_push l D cI cZ A hO σ v48 _ h50) (cw_RangeTellerModel_push hts (hts _ (rt_m rt_w1228)) ⟨Nat.le_of_ble_eq_true rfl, Nat.le_of_ble_eq_true rfl⟩) hK hP hS hX rfl rfl rfl hl.1 rfl (Nat.le_of_ble_eq_true rfl) d_RangeTellerModel_act_40 ⟨Nat.zero_le _, Nat.zero_le _⟩ (fun H locs hP hS => ?_)
    refine lv_goto (tgt := 302) hx hb d_RangeTellerModel_act_43 (by decide) ?_
    exact W.vret hx hb hr (fun t ht hW => ⟨⟨_, rfl, Option.some.inj hm, rt_end rtR_Xo hK hP hS hX ht hW⟩, hS.F ht⟩) hS.2.2 d_RangeTellerModel_act_302
set_option maxHeartbeats 4000000 in
set_option maxRecDepth 100000 in
theorem k_R_RangeTellerModel_run (l : Launch) (D : va_G) (cI cZ : ClassId) (A : Nat → Nat) (hO : rt_Ok (rtR_W cI cZ A)) (σ : rt_St) (a1 a2 a3 : Int32) (r' : Int32) (σ' : rt_St) (hm : M_R_RangeTellerModel_run σ a1 a2 a3 = some (r', σ')) (sz : Nat) : Met l y_RangeTellerModel_run (rt_ws y_RangeTellerModel_run b_RangeTellerModel_run 8 (some .int)) ({ frames := 4, cells := 0, slots := 0, locals := 88 } : Room) (va_Pc [.ref (A 0), .int a1, .int a2, .int a3] (rt_P D rt_cl (rt_t cI cZ) rtR_X (rtR_W cI cZ A) sz σ)) (va_Qi (fun r1 u1 => r1 = r' ∧ u1 = σ') (rt_B D rt_cl (rt_t cI cZ) rtR_X (rtR_W cI cZ A)) (rt_A (rtR_W cI cZ A) sz)) 0 0 (rt_A (rtR_W cI cZ A) sz) := by
  refine Met.ofW (cc := b_RangeTellerModel_run) (maxL := 8) (ret := (some .int)) (by decide) rfl ?_
  intro p e s m args below meth c s₁ B hml hv
  obtain ⟨rfl, rfl, hP, hK, hX⟩ := hv
  have hx := B.exec
  have hb := B.bytes
  have hr := B.returns
  have hts := atoms_spec (ws := (rt_ws y_RangeTellerModel_run b_RangeTellerModel_run 8 (some .int))) B.pre
  have hown : s.vm.findClass "RangeTellerModel" = some m.cls := findClass_of_methodNamed B.named
  have hlocks := B.notSynchronized
  have hD := rt_hD hO s.heap.size
  have hS : va_S (rt_A (rtR_W cI cZ A) s.heap.size) s.heap s.heap [] := va_S.rf
  have hl := lv_entry ([.ref (A 0), .int a1, .int a2, .int a3]) (n := 8) (Nat.le_of_ble_eq_true rfl)
  rw [lg_entry_eq]
  generalize (lg_sl ([.ref (A 0), .int a1, .int a2, .int a3]) ++ List.replicate (8 - (lg_sl ([.ref (A 0), .int a1, .int a2, .int a3])).length) Slot.unset).toArray = ls at hl ⊢
  have hl : lv_has ls 8 [(0, .ref (A 0)), (1, .int a1), (2, .int a2), (3, .int a3)] := hl
  show W p l e ({ frames := 4, cells := 0, slots := 0, locals := 88 } : Room) s m ([.ref (A 0), .int a1, .int a2, .int a3] : List Value).toArray below meth c s.heap [] 0 0 (rt_Qi D rt_cl (rt_t cI cZ) rtR_X (rtR_W cI cZ A) below ([.ref (A 0), .int a1, .int a2, .int a3] : List Value).toArray s r' σ') (F0 m 0 ls [])
  have hB172 : ∀ (n172 : Nat) (ls : Array Slot) (l4 l5 : Int32) (σ : rt_St) (H : Heap) (locs : List Loc), lv_has ls 8 [(0, .ref (A 0)), (4, .int l4), (5, .int l5)] → B_R_RangeTellerModel_run_172 n172 l4 l5 σ = some (r', σ') → va_P D rt_cl (rtR_W cI cZ A σ) H → va_S (rt_A (rtR_W cI cZ A) s.heap.size) s.heap H locs → W p l e ({ frames := 4, cells := 0, slots := 0, locals := 88 } : Room) s m ([.ref (A 0), .int a1, .int a2, .int a3] : List Value).toArray below meth c H locs 0 0 (rt_Qi D rt_cl (rt_t cI cZ) rtR_X (rtR_W cI cZ A) below ([.ref (A 0), .int a1, .int a2, .int a3] : List Value).toArray s r' σ') (F0 m 172 ls []) := by
    intro n172
    induction n172 with
    | zero => intro ls l4 l5 σ H locs hl hm hP hS; rw [B_R_RangeTellerModel_run_172] at hm; cases hm
    | succ n172 ih172 =>
      have hB306 : ∀ (ls : Array Slot) (l4 l5 : Int32) (σ : rt_St) (H : Heap) (locs : List Loc), lv_has ls 8 [(0, .ref (A 0)), (4, .int l4), (5, .int l5)] → B_R_RangeTellerModel_run_306 (B_R_RangeTellerModel_run_172 n172) l4 l5 σ = some (r', σ') → va_P D rt_cl (rtR_W cI cZ A σ) H → va_S (rt_A (rtR_W cI cZ A) s.heap.size) s.heap H locs → W p l e ({ frames := 4, cells := 0, slots := 0, locals := 88 } : Room) s m ([.ref (A 0), .int a1, .int a2, .int a3] : List Value).toArray below meth c H locs 0 0 (rt_Qi D rt_cl (rt_t cI cZ) rtR_X (rtR_W cI cZ A) below ([.ref (A 0), .int a1, .int a2, .int a3] : List Value).toArray s r' σ') (F0 m 306 ls []) := by
        intro ls l4 l5 σ H locs hl hm hP hS
        unfold B_R_RangeTellerModel_run_306 at hm
        refine lv_goto (tgt := 172) hx hb d_RangeTellerModel_run_306 (by decide) ?_
        exact ih172 ls l4 l5 σ _ _ (lv_sub hl [0, 1, 2] rfl) hm hP hS
      intro ls l4 l5 σ H locs hl hm hP hS
      rw [B_R_RangeTellerModel_run_172] at hm
      refine lv_aload_n hx hb d_RangeTellerModel_run_172 rfl (lv_at hl 0 rfl) ?_
      refine va_get (D := D) (v := .int (σ 0 38)) (C := "RangeTellerModel") (T := rt_T6) (N := 69) hx hb hts rt_i6 hown hK hP 0 rfl rfl 38 (by decide) (hts _ (rt_m rt_w885)) (fun _ h9 => h9) rfl d_RangeTellerModel_run_173 ?_
      refine lv_if_ge (tgt := 309) hx hb d_RangeTellerModel_run_176 (by decide) (fun hc => ?_) (fun hc => ?_)
      · have hm := (if_pos hc).symm.trans hm
        refine lv_aload_n hx hb d_RangeTellerModel_run_309 rfl (lv_at hl 0 rfl) ?_
        refine lv_iconst (v := 0) hx hb d_RangeTellerModel_run_310 (by decide) ?_
        obtain ⟨σ1, h2, hm⟩ := rt_b1s hm
        refine rt_pf (D := D) (C := "RangeTellerModel") (T := rt_T6) (N := 69) (ty := .int) hx hb hts rt_i6 rt_y6 rt_o6 rt_n6 hown hK hP hD hS 0 rfl rfl 27 (by decide) (hts _ (rt_m rt_w874)) (fun _ h9 => h9) rfl (by decide +kernel) rfl rfl (Nat.le_of_ble_eq_true rfl) (rtR_s0_27 cI cZ A _ _) h2 d_RangeTellerModel_run_311 (fun H locs hP hS => ?_)
        refine lv_aload_n hx hb d_RangeTellerModel_run_314 rfl (lv_at hl 0 rfl) ?_
        refine lv_iconst (v := 1) hx hb d_RangeTellerModel_run_315 (by decide) ?_
        obtain ⟨σ3, h4, hm⟩ := rt_b1s hm
        refine rt_pf (D := D) (C := "RangeTellerModel") (T := rt_T6) (N := 69) (ty := .boolean) hx hb hts rt_i6 rt_y6 rt_o6 rt_n6 hown hK hP hD hS 0 rfl rfl 29 (by decide) (hts _ (rt_m rt_w876)) (fun _ h9 => h9) rfl (by decide +kernel) rfl rfl (Nat.le_of_ble_eq_true rfl) (rtR_s0_29 cI cZ A _ _) h4 d_RangeTellerModel_run_316 (fun H locs hP hS => ?_)
        refine lv_aload_n hx hb d_RangeTellerModel_run_319 rfl (lv_at hl 0 rfl) ?_
        refine va_get (D := D) (v := .int (σ3 0 38)) (C := "RangeTellerModel") (T := rt_T6) (N := 69) hx hb hts rt_i6 hown hK hP 0 rfl rfl 38 (by decide) (hts _ (rt_m rt_w885)) (fun _ h9 => h9) rfl d_RangeTellerModel_run_320 ?_
        exact W.iret hx hb hr (fun t ht hW => ⟨⟨_, _, rfl, rt_pr hm, rt_end rtR_Xo hK hP hS hX ht hW⟩, hS.F ht⟩) hS.2.2 d_RangeTellerModel_run_323
      · have hm := (if_neg hc).symm.trans hm
        refine lv_aload_n hx hb d_RangeTellerModel_run_179 rfl (lv_at hl 0 rfl) ?_
        refine va_get (D := D) (v := .int (σ 0 36)) (C := "RangeTellerModel") (T := rt_T6) (N := 69) hx hb hts rt_i6 hown hK hP 0 rfl rfl 36 (by decide) (hts _ (rt_m rt_w883)) (fun _ h9 => h9) rfl d_RangeTellerModel_run_180 ?_
        refine lv_istore hx hb d_RangeTellerModel_run_183 hl (by decide) rfl (fun ls hl => ?_)
        have hl : lv_has ls 8 [(6, .int (σ 0 36)), (0, .ref (A 0)), (4, .int l4), (5, .int l5)] := hl
        refine lv_aload_n hx hb d_RangeTellerModel_run_185 rfl (lv_at hl 1 rfl) ?_
        refine va_get (D := D) (v := .int (σ 0 37)) (C := "RangeTellerModel") (T := rt_T6) (N := 69) hx hb hts rt_i6 hown hK hP 0 rfl rfl 37 (by decide) (hts _ (rt_m rt_w884)) (fun _ h9 => h9) rfl d_RangeTellerModel_run_186 ?_
        refine lv_iload hx hb d_RangeTellerModel_run_189 (lv_at hl 2 rfl) ?_
        refine lv_icmp_ne (tgt := 208) hx hb d_RangeTellerModel_run_191 (by decide) (fun hc => ?_) (fun hc => ?_)
        · have hm := (if_neg hc).symm.trans hm
          refine lv_aload_n hx hb d_RangeTellerModel_run_208 rfl (lv_at hl 1 rfl) ?_
          refine lv_dup hx hb d_RangeTellerModel_run_209 rfl ?_
          refine va_get (D := D) (v := .int (σ 0 37)) (C := "RangeTellerModel") (T := rt_T6) (N := 69) hx hb hts rt_i6 hown hK hP 0 rfl rfl 37 (by decide) (hts _ (rt_m rt_w884)) (fun _ h9 => h9) rfl d_RangeTellerModel_run_210 ?_
          refine lv_iconst (v := 1) hx hb d_RangeTellerModel_run_213 (by decide) ?_
          refine lv_iadd hx hb d_RangeTellerModel_run_214 ?_
          obtain ⟨σ5, h6, hm⟩ := rt_b1s hm
          refine rt_pf (D := D) (C := "RangeTellerModel") (T := rt_T6) (N := 69) (ty := .int) hx hb hts rt_i6 rt_y6 rt_o6 rt_n6 hown hK hP hD hS 0 rfl rfl 37 (by decide) (hts _ (rt_m rt_w884)) (fun _ h9 => h9) rfl (by decide +kernel) rfl rfl (Nat.le_of_ble_eq_true rfl) (rtR_s0_37 cI cZ A _ _) h6 d_RangeTellerModel_run_215 (fun H locs hP hS => ?_)
          refine lv_aload_n hx hb d_RangeTellerModel_run_218 rfl (lv_at hl 1 rfl) ?_
          refine lv_iload hx hb d_RangeTellerModel_run_219 (lv_at hl 0 rfl) ?_
          obtain ⟨v9, σ8, h7, hm⟩ := rt_b2s hm
          refine rt_cvi (As := [.int (σ 0 36)]) (rest := []) (k := 0) rtR_Xo ⟨hx, hb, hml, hown, hts⟩ (k_R_RangeTellerModel_trap l D cI cZ A hO σ5 (σ 0 36) _ _ h7) (cw_RangeTellerModel_trap hts (hts _ (rt_m rt_w1212)) ⟨Nat.le_of_ble_eq_true rfl, Nat.le_of_ble_eq_true rfl⟩) hK hP hS hX rfl rfl rfl hl.1 rfl (Nat.le_of_ble_eq_true rfl) d_RangeTellerModel_run_221 ⟨Nat.zero_le _, Nat.zero_le _⟩ (fun H locs hP hS => ?_)
          refine lv_istore hx hb d_RangeTellerModel_run_224 hl (by decide) rfl (fun ls hl => ?_)
          have hl : lv_has ls 8 [(7, .int v9), (6, .int (σ 0 36)), (0, .ref (A 0)), (4, .int l4), (5, .int l5)] := hl
          refine lv_iload hx hb d_RangeTellerModel_run_226 (lv_at hl 0 rfl) ?_
          refine lv_if_le (tgt := 246) hx hb d_RangeTellerModel_run_228 (by decide) (fun hc => ?_) (fun hc => ?_)
          · have hm := (if_pos hc).symm.trans hm
            refine lv_aload_n hx hb d_RangeTellerModel_run_246 rfl (lv_at hl 2 rfl) ?_
            refine lv_iload hx hb d_RangeTellerModel_run_247 (lv_at hl 1 rfl) ?_
            refine lv_iconst (v := 1) hx hb d_RangeTellerModel_run_249 (by decide) ?_
            refine lv_iadd hx hb d_RangeTellerModel_run_250 ?_
            obtain ⟨σ10, h11, hm⟩ := rt_b1s hm
            refine rt_pf (D := D) (C := "RangeTellerModel") (T := rt_T6) (N := 69) (ty := .int) hx hb hts rt_i6 rt_y6 rt_o6 rt_n6 hown hK hP hD hS 0 rfl rfl 36 (by decide) (hts _ (rt_m rt_w883)) (fun _ h9 => h9) rfl (by decide +kernel) rfl rfl (Nat.le_of_ble_eq_true rfl) (rtR_s0_36 cI cZ A _ _) h11 d_RangeTellerModel_run_251 (fun H locs hP hS => ?_)
            refine lv_aload_n hx hb d_RangeTellerModel_run_254 rfl (lv_at hl 2 rfl) ?_
            refine va_get (D := D) (v := .ref (A 2)) (C := "RangeTellerModel") (T := rt_T6) (N := 69) hx hb hts rt_i6 hown hK hP 0 rfl rfl 7 (by decide) (hts _ (rt_m rt_w854)) (fun _ h9 => h9) rfl d_RangeTellerModel_run_255 ?_
            refine lv_iload hx hb d_RangeTellerModel_run_258 (lv_at hl 1 rfl) ?_
            obtain ⟨v12, h13, hm⟩ := rt_b1s hm
            refine rt_ald hx hb hK hP 2 0 rfl rfl h13 d_RangeTellerModel_run_260 ?_
            refine lv_bipush (v := 10) hx hb d_RangeTellerModel_run_261 (by decide) ?_
            refine lv_icmp_ge (tgt := 283) hx hb d_RangeTellerModel_run_263 (by decide) (fun hc => ?_) (fun hc => ?_)
            · have hm := (if_pos hc).symm.trans hm
              refine lv_aload_n hx hb d_RangeTellerModel_run_283 rfl (lv_at hl 2 rfl) ?_
              refine lv_iload hx hb d_RangeTellerModel_run_284 (lv_at hl 1 rfl) ?_
              refine lv_iload hx hb d_RangeTellerModel_run_286 (lv_at hl 4 rfl) ?_
              obtain ⟨σ15, h14, hm⟩ := rt_b1s hm
              refine rt_cvv (As := [.int (σ 0 36), .int l5]) (rest := []) (k := 0) rtR_Xo ⟨hx, hb, hml, hown, hts⟩ (k_R_RangeTellerModel_act l D cI cZ A hO σ10 (σ 0 36) l5 _ h14) (cw_RangeTellerModel_act hts (hts _ (rt_m rt_w1240)) ⟨Nat.le_of_ble_eq_true rfl, Nat.le_of_ble_eq_true rfl⟩) hK hP hS hX rfl rfl rfl hl.1 rfl (Nat.le_of_ble_eq_true rfl) d_RangeTellerModel_run_288 ⟨Nat.zero_le _, Nat.zero_le _⟩ (fun H locs hP hS => ?_)
              refine lv_aload_n hx hb d_RangeTellerModel_run_291 rfl (lv_at hl 2 rfl) ?_
              refine va_get (D := D) (v := .ref (A 2)) (C := "RangeTellerModel") (T := rt_T6) (N := 69) hx hb hts rt_i6 hown hK hP 0 rfl rfl 7 (by decide) (hts _ (rt_m rt_w854)) (fun _ h9 => h9) rfl d_RangeTellerModel_run_292 ?_
              refine lv_iload hx hb d_RangeTellerModel_run_295 (lv_at hl 1 rfl) ?_
              obtain ⟨v16, h17, hm⟩ := rt_b1s hm
              refine rt_ald hx hb hK hP 2 0 rfl rfl h17 d_RangeTellerModel_run_297 ?_
              refine lv_bipush (v := 27) hx hb d_RangeTellerModel_run_298 (by decide) ?_
              refine lv_icmp_ne (tgt := 306) hx hb d_RangeTellerModel_run_300 (by decide) (fun hc => ?_) (fun hc => ?_)
              · have hm := (if_neg hc).symm.trans hm
                exact hB306 ls l4 l5 σ15 _ _ (lv_sub hl [2, 3, 4] rfl) hm hP hS
              · have hm := (if_pos hc).symm.trans hm
                refine lv_iinc (k := 4) (v := (l5 + 1)) hx hb d_RangeTellerModel_run_303 hl rfl rfl (by decide) rfl (fun ls hl => ?_)
                have hl : lv_has ls 8 [(5, .int (l5 + 1)), (7, .int v9), (6, .int (σ 0 36)), (0, .ref (A 0)), (4, .int l4)] := hl
                exact hB306 ls l4 (l5 + 1) σ15 _ _ (lv_sub hl [3, 4, 0] rfl) hm hP hS
            · have hm := (if_neg hc).symm.trans hm
              refine lv_aload_n hx hb d_RangeTellerModel_run_266 rfl (lv_at hl 2 rfl) ?_
              refine lv_iload hx hb d_RangeTellerModel_run_267 (lv_at hl 1 rfl) ?_
              obtain ⟨v20, σ19, h18, hm⟩ := rt_b2s hm
              refine rt_cvi (As := [.int (σ 0 36)]) (rest := []) (k := 0) rtR_Xo ⟨hx, hb, hml, hown, hts⟩ (k_R_RangeTellerModel_flow l D cI cZ A hO σ10 (σ 0 36) _ _ h18) (cw_RangeTellerModel_flow hts (hts _ (rt_m rt_w1216)) ⟨Nat.le_of_ble_eq_true rfl, Nat.le_of_ble_eq_true rfl⟩) hK hP hS hX rfl rfl rfl hl.1 rfl (Nat.le_of_ble_eq_true rfl) d_RangeTellerModel_run_269 ⟨Nat.zero_le _, Nat.zero_le _⟩ (fun H locs hP hS => ?_)
              refine lv_if_ne (tgt := 306) hx hb d_RangeTellerModel_run_272 (by decide) (fun hc => ?_) (fun hc => ?_)
              · have hm := (if_neg hc).symm.trans hm
                exact hB306 ls l4 l5 σ19 _ _ (lv_sub hl [2, 3, 4] rfl) hm hP hS
              · have hm := (if_pos hc).symm.trans hm
                refine lv_aload_n hx hb d_RangeTellerModel_run_275 rfl (lv_at hl 2 rfl) ?_
                refine lv_iconst (v := 0) hx hb d_RangeTellerModel_run_276 (by decide) ?_
                obtain ⟨σ21, h22, hm⟩ := rt_b1s hm
                refine rt_pf (D := D) (C := "RangeTellerModel") (T := rt_T6) (N := 69) (ty := .int) hx hb hts rt_i6 rt_y6 rt_o6 rt_n6 hown hK hP hD hS 0 rfl rfl 38 (by decide) (hts _ (rt_m rt_w885)) (fun _ h9 => h9) rfl (by decide +kernel) rfl rfl (Nat.le_of_ble_eq_true rfl) (rtR_s0_38 cI cZ A _ _) h22 d_RangeTellerModel_run_277 (fun H locs hP hS => ?_)
                refine lv_goto (tgt := 306) hx hb d_RangeTellerModel_run_280 (by decide) ?_
                exact hB306 ls l4 l5 σ21 _ _ (lv_sub hl [2, 3, 4] rfl) hm hP hS
          · have hm := (if_neg hc).symm.trans hm
            refine lv_aload_n hx hb d_RangeTellerModel_run_231 rfl (lv_at hl 2 rfl) ?_
            refine lv_iload hx hb d_RangeTellerModel_run_232 (lv_at hl 0 rfl) ?_
            obtain ⟨σ23, h24, hm⟩ := rt_b1s hm
            refine rt_pf (D := D) (C := "RangeTellerModel") (T := rt_T6) (N := 69) (ty := .int) hx hb hts rt_i6 rt_y6 rt_o6 rt_n6 hown hK hP hD hS 0 rfl rfl 38 (by decide) (hts _ (rt_m rt_w885)) (fun _ h9 => h9) rfl (by decide +kernel) rfl rfl (Nat.le_of_ble_eq_true rfl) (rtR_s0_38 cI cZ A _ _) h24 d_RangeTellerModel_run_234 (fun H locs hP hS => ?_)
            refine lv_aload_n hx hb d_RangeTellerModel_run_237 rfl (lv_at hl 2 rfl) ?_
            refine lv_iload hx hb d_RangeTellerModel_run_238 (lv_at hl 1 rfl) ?_
            obtain ⟨σ25, h26, hm⟩ := rt_b1s hm
            refine rt_pf (D := D) (C := "RangeTellerModel") (T := rt_T6) (N := 69) (ty := .int) hx hb hts rt_i6 rt_y6 rt_o6 rt_n6 hown hK hP hD hS 0 rfl rfl 40 (by decide) (hts _ (rt_m rt_w887)) (fun _ h9 => h9) rfl (by decide +kernel) rfl rfl (Nat.le_of_ble_eq_true rfl) (rtR_s0_40 cI cZ A _ _) h26 d_RangeTellerModel_run_240 (fun H locs hP hS => ?_)
            refine lv_goto (tgt := 172) hx hb d_RangeTellerModel_run_243 (by decide) ?_
            exact ih172 ls l4 l5 σ25 _ _ (lv_sub hl [2, 3, 4] rfl) hm hP hS
        · have hm := (if_pos hc).symm.trans hm
          refine lv_aload_n hx hb d_RangeTellerModel_run_194 rfl (lv_at hl 1 rfl) ?_
          refine lv_iconst (v := 5) hx hb d_RangeTellerModel_run_195 (by decide) ?_
          obtain ⟨σ27, h28, hm⟩ := rt_b1s hm
          refine rt_pf (D := D) (C := "RangeTellerModel") (T := rt_T6) (N := 69) (ty := .int) hx hb hts rt_i6 rt_y6 rt_o6 rt_n6 hown hK hP hD hS 0 rfl rfl 38 (by decide) (hts _ (rt_m rt_w885)) (fun _ h9 => h9) rfl (by decide +kernel) rfl rfl (Nat.le_of_ble_eq_true rfl) (rtR_s0_38 cI cZ A _ _) h28 d_RangeTellerModel_run_196 (fun H locs hP hS => ?_)
          refine lv_aload_n hx hb d_RangeTellerModel_run_199 rfl (lv_at hl 1 rfl) ?_
          refine lv_iload hx hb d_RangeTellerModel_run_200 (lv_at hl 0 rfl) ?_
          obtain ⟨σ29, h30, hm⟩ := rt_b1s hm
          refine rt_pf (D := D) (C := "RangeTellerModel") (T := rt_T6) (N := 69) (ty := .int) hx hb hts rt_i6 rt_y6 rt_o6 rt_n6 hown hK hP hD hS 0 rfl rfl 40 (by decide) (hts _ (rt_m rt_w887)) (fun _ h9 => h9) rfl (by decide +kernel) rfl rfl (Nat.le_of_ble_eq_true rfl) (rtR_s0_40 cI cZ A _ _) h30 d_RangeTellerModel_run_202 (fun H locs hP hS => ?_)
          refine lv_goto (tgt := 172) hx hb d_RangeTellerModel_run_205 (by decide) ?_
          exact ih172 ls l4 l5 σ29 _ _ (lv_sub hl [1, 2, 3] rfl) hm hP hS
  have hB120 : ∀ (ls : Array Slot) (l4 : Int32) (σ : rt_St) (H : Heap) (locs : List Loc), lv_has ls 8 [(0, .ref (A 0)), (4, .int l4)] → B_R_RangeTellerModel_run_120 l4 σ = some (r', σ') → va_P D rt_cl (rtR_W cI cZ A σ) H → va_S (rt_A (rtR_W cI cZ A) s.heap.size) s.heap H locs → W p l e ({ frames := 4, cells := 0, slots := 0, locals := 88 } : Room) s m ([.ref (A 0), .int a1, .int a2, .int a3] : List Value).toArray below meth c H locs 0 0 (rt_Qi D rt_cl (rt_t cI cZ) rtR_X (rtR_W cI cZ A) below ([.ref (A 0), .int a1, .int a2, .int a3] : List Value).toArray s r' σ') (F0 m 120 ls []) := by
    intro ls l4 σ H locs hl hm hP hS
    unfold B_R_RangeTellerModel_run_120 at hm
    refine lv_aload_n hx hb d_RangeTellerModel_run_120 rfl (lv_at hl 0 rfl) ?_
    refine lv_iconst (v := 0) hx hb d_RangeTellerModel_run_121 (by decide) ?_
    obtain ⟨σ31, h32, hm⟩ := rt_b1s hm
    refine rt_pf (D := D) (C := "RangeTellerModel") (T := rt_T6) (N := 69) (ty := .int) hx hb hts rt_i6 rt_y6 rt_o6 rt_n6 hown hK hP hD hS 0 rfl rfl 30 (by decide) (hts _ (rt_m rt_w877)) (fun _ h9 => h9) rfl (by decide +kernel) rfl rfl (Nat.le_of_ble_eq_true rfl) (rtR_s0_30 cI cZ A _ _) h32 d_RangeTellerModel_run_122 (fun H locs hP hS => ?_)
    refine lv_aload_n hx hb d_RangeTellerModel_run_125 rfl (lv_at hl 0 rfl) ?_
    refine va_get (D := D) (v := .ref (A 23)) (C := "RangeTellerModel") (T := rt_T6) (N := 69) hx hb hts rt_i6 hown hK hP 0 rfl rfl 34 (by decide) (hts _ (rt_m rt_w881)) (fun _ h9 => h9) rfl d_RangeTellerModel_run_126 ?_
    refine lv_iconst (v := 0) hx hb d_RangeTellerModel_run_129 (by decide) ?_
    refine lv_iconst (v := 0) hx hb d_RangeTellerModel_run_130 (by decide) ?_
    obtain ⟨σ33, h34, hm⟩ := rt_b1s hm
    refine rt_ast hx hb hK hP hD hS 23 0 rfl (rtR_a23 cI cZ A _) rfl h34 d_RangeTellerModel_run_131 (fun H locs hP hS => ?_)
    refine lv_aload_n hx hb d_RangeTellerModel_run_132 rfl (lv_at hl 0 rfl) ?_
    refine lv_aload_n hx hb d_RangeTellerModel_run_133 rfl (lv_at hl 0 rfl) ?_
    refine va_get (D := D) (v := .ref (A 14)) (C := "RangeTellerModel") (T := rt_T6) (N := 69) hx hb hts rt_i6 hown hK hP 0 rfl rfl 20 (by decide) (hts _ (rt_m rt_w867)) (fun _ h9 => h9) rfl d_RangeTellerModel_run_134 ?_
    refine lv_iconst (v := 0) hx hb d_RangeTellerModel_run_137 (by decide) ?_
    obtain ⟨v35, h36, hm⟩ := rt_b1s hm
    refine rt_ald hx hb hK hP 14 0 rfl rfl h36 d_RangeTellerModel_run_138 ?_
    obtain ⟨σ37, h38, hm⟩ := rt_b1s hm
    refine rt_pf (D := D) (C := "RangeTellerModel") (T := rt_T6) (N := 69) (ty := .int) hx hb hts rt_i6 rt_y6 rt_o6 rt_n6 hown hK hP hD hS 0 rfl rfl 36 (by decide) (hts _ (rt_m rt_w883)) (fun _ h9 => h9) rfl (by decide +kernel) rfl rfl (Nat.le_of_ble_eq_true rfl) (rtR_s0_36 cI cZ A _ _) h38 d_RangeTellerModel_run_139 (fun H locs hP hS => ?_)
    refine lv_aload_n hx hb d_RangeTellerModel_run_142 rfl (lv_at hl 0 rfl) ?_
    refine lv_iconst (v := 0) hx hb d_RangeTellerModel_run_143 (by decide) ?_
    obtain ⟨σ39, h40, hm⟩ := rt_b1s hm
    refine rt_pf (D := D) (C := "RangeTellerModel") (T := rt_T6) (N := 69) (ty := .int) hx hb hts rt_i6 rt_y6 rt_o6 rt_n6 hown hK hP hD hS 0 rfl rfl 37 (by decide) (hts _ (rt_m rt_w884)) (fun _ h9 => h9) rfl (by decide +kernel) rfl rfl (Nat.le_of_ble_eq_true rfl) (rtR_s0_37 cI cZ A _ _) h40 d_RangeTellerModel_run_144 (fun H locs hP hS => ?_)
    refine lv_aload_n hx hb d_RangeTellerModel_run_147 rfl (lv_at hl 0 rfl) ?_
    refine lv_iconst (v := 0) hx hb d_RangeTellerModel_run_148 (by decide) ?_
    obtain ⟨σ41, h42, hm⟩ := rt_b1s hm
    refine rt_pf (D := D) (C := "RangeTellerModel") (T := rt_T6) (N := 69) (ty := .int) hx hb hts rt_i6 rt_y6 rt_o6 rt_n6 hown hK hP hD hS 0 rfl rfl 41 (by decide) (hts _ (rt_m rt_w888)) (fun _ h9 => h9) rfl (by decide +kernel) rfl rfl (Nat.le_of_ble_eq_true rfl) (rtR_s0_41 cI cZ A _ _) h42 d_RangeTellerModel_run_149 (fun H locs hP hS => ?_)
    refine lv_aload_n hx hb d_RangeTellerModel_run_152 rfl (lv_at hl 0 rfl) ?_
    refine lv_bipush (v := (-3)) hx hb d_RangeTellerModel_run_153 (by decide) ?_
    obtain ⟨σ43, h44, hm⟩ := rt_b1s hm
    refine rt_pf (D := D) (C := "RangeTellerModel") (T := rt_T6) (N := 69) (ty := .int) hx hb hts rt_i6 rt_y6 rt_o6 rt_n6 hown hK hP hD hS 0 rfl rfl 39 (by decide) (hts _ (rt_m rt_w886)) (fun _ h9 => h9) rfl (by decide +kernel) rfl rfl (Nat.le_of_ble_eq_true rfl) (rtR_s0_39 cI cZ A _ _) h44 d_RangeTellerModel_run_155 (fun H locs hP hS => ?_)
    refine lv_aload_n hx hb d_RangeTellerModel_run_158 rfl (lv_at hl 0 rfl) ?_
    refine lv_bipush (v := (-3)) hx hb d_RangeTellerModel_run_159 (by decide) ?_
    obtain ⟨σ45, h46, hm⟩ := rt_b1s hm
    refine rt_pf (D := D) (C := "RangeTellerModel") (T := rt_T6) (N := 69) (ty := .int) hx hb hts rt_i6 rt_y6 rt_o6 rt_n6 hown hK hP hD hS 0 rfl rfl 40 (by decide) (hts _ (rt_m rt_w887)) (fun _ h9 => h9) rfl (by decide +kernel) rfl rfl (Nat.le_of_ble_eq_true rfl) (rtR_s0_40 cI cZ A _ _) h46 d_RangeTellerModel_run_161 (fun H locs hP hS => ?_)
    refine lv_aload_n hx hb d_RangeTellerModel_run_164 rfl (lv_at hl 0 rfl) ?_
    refine lv_iconst (v := (-1)) hx hb d_RangeTellerModel_run_165 (by decide) ?_
    obtain ⟨σ47, h48, hm⟩ := rt_b1s hm
    refine rt_pf (D := D) (C := "RangeTellerModel") (T := rt_T6) (N := 69) (ty := .int) hx hb hts rt_i6 rt_y6 rt_o6 rt_n6 hown hK hP hD hS 0 rfl rfl 38 (by decide) (hts _ (rt_m rt_w885)) (fun _ h9 => h9) rfl (by decide +kernel) rfl rfl (Nat.le_of_ble_eq_true rfl) (rtR_s0_38 cI cZ A _ _) h48 d_RangeTellerModel_run_166 (fun H locs hP hS => ?_)
    refine lv_iconst (v := 0) hx hb d_RangeTellerModel_run_169 (by decide) ?_
    refine lv_istore hx hb d_RangeTellerModel_run_170 hl (by decide) rfl (fun ls hl => ?_)
    have hl : lv_has ls 8 [(5, .int 0), (0, .ref (A 0)), (4, .int l4)] := hl
    exact hB172 _ ls l4 0 σ47 _ _ (lv_sub hl [1, 2, 0] rfl) hm hP hS
  have hB100 : ∀ (ls : Array Slot) (l2 l4 : Int32) (σ : rt_St) (H : Heap) (locs : List Loc), lv_has ls 8 [(0, .ref (A 0)), (2, .int l2), (4, .int l4)] → B_R_RangeTellerModel_run_100 l2 l4 σ = some (r', σ') → va_P D rt_cl (rtR_W cI cZ A σ) H → va_S (rt_A (rtR_W cI cZ A) s.heap.size) s.heap H locs → W p l e ({ frames := 4, cells := 0, slots := 0, locals := 88 } : Room) s m ([.ref (A 0), .int a1, .int a2, .int a3] : List Value).toArray below meth c H locs 0 0 (rt_Qi D rt_cl (rt_t cI cZ) rtR_X (rtR_W cI cZ A) below ([.ref (A 0), .int a1, .int a2, .int a3] : List Value).toArray s r' σ') (F0 m 100 ls []) := by
    intro ls l2 l4 σ H locs hl hm hP hS
    unfold B_R_RangeTellerModel_run_100 at hm
    refine lv_aload_n hx hb d_RangeTellerModel_run_100 rfl (lv_at hl 0 rfl) ?_
    refine va_get (D := D) (v := .ref (A 11)) (C := "RangeTellerModel") (T := rt_T6) (N := 69) hx hb hts rt_i6 hown hK hP 0 rfl rfl 17 (by decide) (hts _ (rt_m rt_w864)) (fun _ h9 => h9) rfl d_RangeTellerModel_run_101 ?_
    refine lv_iconst (v := 0) hx hb d_RangeTellerModel_run_104 (by decide) ?_
    obtain ⟨v49, h50, hm⟩ := rt_b1s hm
    refine rt_ald hx hb hK hP 11 0 rfl rfl h50 d_RangeTellerModel_run_105 ?_
    refine lv_iconst (v := 1) hx hb d_RangeTellerModel_run_106 (by decide) ?_
    refine lv_icmp_le (tgt := 120) hx hb d_RangeTellerModel_run_107 (by decide) (fun hc => ?_) (fun hc => ?_)
    · have hm := (if_pos hc).symm.trans hm
      exact hB120 ls l4 σ _ _ (lv_sub hl [0, 2] rfl) hm hP hS
    · have hm := (if_neg hc).symm.trans hm
      refine lv_aload_n hx hb d_RangeTellerModel_run_110 rfl (lv_at hl 0 rfl) ?_
      refine va_get (D := D) (v := .ref (A 22)) (C := "RangeTellerModel") (T := rt_T6) (N := 69) hx hb hts rt_i6 hown hK hP 0 rfl rfl 33 (by decide) (hts _ (rt_m rt_w880)) (fun _ h9 => h9) rfl d_RangeTellerModel_run_111 ?_
      refine lv_iconst (v := 1) hx hb d_RangeTellerModel_run_114 (by decide) ?_
      refine lv_iload_n hx hb d_RangeTellerModel_run_115 rfl (lv_at hl 1 rfl) ?_
      refine lv_bipush (v := 63) hx hb d_RangeTellerModel_run_116 (by decide) ?_
      refine lv_iand hx hb d_RangeTellerModel_run_118 ?_
      obtain ⟨σ51, h52, hm⟩ := rt_b1s hm
      refine rt_ast hx hb hK hP hD hS 22 0 rfl (rtR_a22 cI cZ A _) rfl h52 d_RangeTellerModel_run_119 (fun H locs hP hS => ?_)
      exact hB120 ls l4 σ51 _ _ (lv_sub hl [0, 2] rfl) hm hP hS
  have hB61 : ∀ (n61 : Nat) (ls : Array Slot) (l1 l2 l4 l5 : Int32) (σ : rt_St) (H : Heap) (locs : List Loc), lv_has ls 8 [(0, .ref (A 0)), (1, .int l1), (2, .int l2), (4, .int l4), (5, .int l5)] → B_R_RangeTellerModel_run_61 n61 l1 l2 l4 l5 σ = some (r', σ') → va_P D rt_cl (rtR_W cI cZ A σ) H → va_S (rt_A (rtR_W cI cZ A) s.heap.size) s.heap H locs → W p l e ({ frames := 4, cells := 0, slots := 0, locals := 88 } : Room) s m ([.ref (A 0), .int a1, .int a2, .int a3] : List Value).toArray below meth c H locs 0 0 (rt_Qi D rt_cl (rt_t cI cZ) rtR_X (rtR_W cI cZ A) below ([.ref (A 0), .int a1, .int a2, .int a3] : List Value).toArray s r' σ') (F0 m 61 ls []) := by
    intro n61
    induction n61 with
    | zero => intro ls l1 l2 l4 l5 σ H locs hl hm hP hS; rw [B_R_RangeTellerModel_run_61] at hm; cases hm
    | succ n61 ih61 =>
      intro ls l1 l2 l4 l5 σ H locs hl hm hP hS
      rw [B_R_RangeTellerModel_run_61] at hm
      refine lv_iload hx hb d_RangeTellerModel_run_61 (lv_at hl 4 rfl) ?_
      refine lv_iconst (v := 4) hx hb d_RangeTellerModel_run_63 (by decide) ?_
      refine lv_icmp_ge (tgt := 81) hx hb d_RangeTellerModel_run_64 (by decide) (fun hc => ?_) (fun hc => ?_)
      · have hm := (if_pos hc).symm.trans hm
        refine lv_aload_n hx hb d_RangeTellerModel_run_81 rfl (lv_at hl 0 rfl) ?_
        refine va_get (D := D) (v := .ref (A 11)) (C := "RangeTellerModel") (T := rt_T6) (N := 69) hx hb hts rt_i6 hown hK hP 0 rfl rfl 17 (by decide) (hts _ (rt_m rt_w864)) (fun _ h9 => h9) rfl d_RangeTellerModel_run_82 ?_
        refine lv_iconst (v := 0) hx hb d_RangeTellerModel_run_85 (by decide) ?_
        obtain ⟨v53, h54, hm⟩ := rt_b1s hm
        refine rt_ald hx hb hK hP 11 0 rfl rfl h54 d_RangeTellerModel_run_86 ?_
        refine lv_if_le (tgt := 100) hx hb d_RangeTellerModel_run_87 (by decide) (fun hc => ?_) (fun hc => ?_)
        · have hm := (if_pos hc).symm.trans hm
          exact hB100 ls l2 l4 σ _ _ (lv_sub hl [0, 2, 3] rfl) hm hP hS
        · have hm := (if_neg hc).symm.trans hm
          refine lv_aload_n hx hb d_RangeTellerModel_run_90 rfl (lv_at hl 0 rfl) ?_
          refine va_get (D := D) (v := .ref (A 22)) (C := "RangeTellerModel") (T := rt_T6) (N := 69) hx hb hts rt_i6 hown hK hP 0 rfl rfl 33 (by decide) (hts _ (rt_m rt_w880)) (fun _ h9 => h9) rfl d_RangeTellerModel_run_91 ?_
          refine lv_iconst (v := 0) hx hb d_RangeTellerModel_run_94 (by decide) ?_
          refine lv_iload_n hx hb d_RangeTellerModel_run_95 rfl (lv_at hl 1 rfl) ?_
          refine lv_bipush (v := 63) hx hb d_RangeTellerModel_run_96 (by decide) ?_
          refine lv_iand hx hb d_RangeTellerModel_run_98 ?_
          obtain ⟨σ55, h56, hm⟩ := rt_b1s hm
          refine rt_ast hx hb hK hP hD hS 22 0 rfl (rtR_a22 cI cZ A _) rfl h56 d_RangeTellerModel_run_99 (fun H locs hP hS => ?_)
          exact hB100 ls l2 l4 σ55 _ _ (lv_sub hl [0, 2, 3] rfl) hm hP hS
      · have hm := (if_neg hc).symm.trans hm
        refine lv_aload_n hx hb d_RangeTellerModel_run_67 rfl (lv_at hl 0 rfl) ?_
        refine va_get (D := D) (v := .ref (A 22)) (C := "RangeTellerModel") (T := rt_T6) (N := 69) hx hb hts rt_i6 hown hK hP 0 rfl rfl 33 (by decide) (hts _ (rt_m rt_w880)) (fun _ h9 => h9) rfl d_RangeTellerModel_run_68 ?_
        refine lv_iload hx hb d_RangeTellerModel_run_71 (lv_at hl 4 rfl) ?_
        refine lv_iconst (v := 0) hx hb d_RangeTellerModel_run_73 (by decide) ?_
        obtain ⟨σ57, h58, hm⟩ := rt_b1s hm
        refine rt_ast hx hb hK hP hD hS 22 0 rfl (rtR_a22 cI cZ A _) rfl h58 d_RangeTellerModel_run_74 (fun H locs hP hS => ?_)
        refine lv_iinc (k := 4) (v := (l5 + 1)) hx hb d_RangeTellerModel_run_75 hl rfl rfl (by decide) rfl (fun ls hl => ?_)
        have hl : lv_has ls 8 [(5, .int (l5 + 1)), (0, .ref (A 0)), (1, .int l1), (2, .int l2), (4, .int l4)] := hl
        refine lv_goto (tgt := 61) hx hb d_RangeTellerModel_run_78 (by decide) ?_
        exact ih61 ls l1 l2 l4 (l5 + 1) σ57 _ _ (lv_sub hl [1, 2, 3, 4, 0] rfl) hm hP hS
  have hB37 : ∀ (n37 : Nat) (ls : Array Slot) (l1 l2 l4 l5 : Int32) (σ : rt_St) (H : Heap) (locs : List Loc), lv_has ls 8 [(0, .ref (A 0)), (1, .int l1), (2, .int l2), (4, .int l4), (5, .int l5)] → B_R_RangeTellerModel_run_37 n37 l1 l2 l4 l5 σ = some (r', σ') → va_P D rt_cl (rtR_W cI cZ A σ) H → va_S (rt_A (rtR_W cI cZ A) s.heap.size) s.heap H locs → W p l e ({ frames := 4, cells := 0, slots := 0, locals := 88 } : Room) s m ([.ref (A 0), .int a1, .int a2, .int a3] : List Value).toArray below meth c H locs 0 0 (rt_Qi D rt_cl (rt_t cI cZ) rtR_X (rtR_W cI cZ A) below ([.ref (A 0), .int a1, .int a2, .int a3] : List Value).toArray s r' σ') (F0 m 37 ls []) := by
    intro n37
    induction n37 with
    | zero => intro ls l1 l2 l4 l5 σ H locs hl hm hP hS; rw [B_R_RangeTellerModel_run_37] at hm; cases hm
    | succ n37 ih37 =>
      intro ls l1 l2 l4 l5 σ H locs hl hm hP hS
      rw [B_R_RangeTellerModel_run_37] at hm
      refine lv_iload hx hb d_RangeTellerModel_run_37 (lv_at hl 4 rfl) ?_
      refine lv_bipush (v := 16) hx hb d_RangeTellerModel_run_39 (by decide) ?_
      refine lv_icmp_ge (tgt := 58) hx hb d_RangeTellerModel_run_41 (by decide) (fun hc => ?_) (fun hc => ?_)
      · have hm := (if_pos hc).symm.trans hm
        refine lv_iconst (v := 0) hx hb d_RangeTellerModel_run_58 (by decide) ?_
        refine lv_istore hx hb d_RangeTellerModel_run_59 hl (by decide) rfl (fun ls hl => ?_)
        have hl : lv_has ls 8 [(5, .int 0), (0, .ref (A 0)), (1, .int l1), (2, .int l2), (4, .int l4)] := hl
        exact hB61 _ ls l1 l2 l4 0 σ _ _ (lv_sub hl [1, 2, 3, 4, 0] rfl) hm hP hS
      · have hm := (if_neg hc).symm.trans hm
        refine lv_aload_n hx hb d_RangeTellerModel_run_44 rfl (lv_at hl 0 rfl) ?_
        refine va_get (D := D) (v := .ref (A 24)) (C := "RangeTellerModel") (T := rt_T6) (N := 69) hx hb hts rt_i6 hown hK hP 0 rfl rfl 35 (by decide) (hts _ (rt_m rt_w882)) (fun _ h9 => h9) rfl d_RangeTellerModel_run_45 ?_
        refine lv_iload hx hb d_RangeTellerModel_run_48 (lv_at hl 4 rfl) ?_
        refine lv_iconst (v := 0) hx hb d_RangeTellerModel_run_50 (by decide) ?_
        obtain ⟨σ59, h60, hm⟩ := rt_b1s hm
        refine rt_ast hx hb hK hP hD hS 24 0 rfl (rtR_a24 cI cZ A _) rfl h60 d_RangeTellerModel_run_51 (fun H locs hP hS => ?_)
        refine lv_iinc (k := 4) (v := (l5 + 1)) hx hb d_RangeTellerModel_run_52 hl rfl rfl (by decide) rfl (fun ls hl => ?_)
        have hl : lv_has ls 8 [(5, .int (l5 + 1)), (0, .ref (A 0)), (1, .int l1), (2, .int l2), (4, .int l4)] := hl
        refine lv_goto (tgt := 37) hx hb d_RangeTellerModel_run_55 (by decide) ?_
        exact ih37 ls l1 l2 l4 (l5 + 1) σ59 _ _ (lv_sub hl [1, 2, 3, 4, 0] rfl) hm hP hS
  have hB32 : ∀ (ls : Array Slot) (l1 l2 t0 : Int32) (σ : rt_St) (H : Heap) (locs : List Loc), lv_has ls 8 [(0, .ref (A 0)), (1, .int l1), (2, .int l2)] → B_R_RangeTellerModel_run_32 l1 l2 t0 σ = some (r', σ') → va_P D rt_cl (rtR_W cI cZ A σ) H → va_S (rt_A (rtR_W cI cZ A) s.heap.size) s.heap H locs → W p l e ({ frames := 4, cells := 0, slots := 0, locals := 88 } : Room) s m ([.ref (A 0), .int a1, .int a2, .int a3] : List Value).toArray below meth c H locs 0 0 (rt_Qi D rt_cl (rt_t cI cZ) rtR_X (rtR_W cI cZ A) below ([.ref (A 0), .int a1, .int a2, .int a3] : List Value).toArray s r' σ') (F0 m 32 ls [.int t0]) := by
    intro ls l1 l2 t0 σ H locs hl hm hP hS
    unfold B_R_RangeTellerModel_run_32 at hm
    refine lv_istore hx hb d_RangeTellerModel_run_32 hl (by decide) rfl (fun ls hl => ?_)
    have hl : lv_has ls 8 [(4, .int t0), (0, .ref (A 0)), (1, .int l1), (2, .int l2)] := hl
    refine lv_iconst (v := 0) hx hb d_RangeTellerModel_run_34 (by decide) ?_
    refine lv_istore hx hb d_RangeTellerModel_run_35 hl (by decide) rfl (fun ls hl => ?_)
    have hl : lv_has ls 8 [(5, .int 0), (4, .int t0), (0, .ref (A 0)), (1, .int l1), (2, .int l2)] := hl
    exact hB37 _ ls l1 l2 t0 0 σ _ _ (lv_sub hl [2, 3, 4, 1, 0] rfl) hm hP hS
  unfold M_R_RangeTellerModel_run at hm
  refine lv_aload_n hx hb d_RangeTellerModel_run_0 rfl (lv_at hl 0 rfl) ?_
  refine va_get (D := D) (v := .int (σ 0 4)) (C := "RangeTellerModel") (T := rt_T6) (N := 69) hx hb hts rt_i6 hown hK hP 0 rfl rfl 4 (by decide) (hts _ (rt_m rt_w851)) (fun _ h9 => h9) rfl d_RangeTellerModel_run_1 ?_
  refine lv_if_ne (tgt := 10) hx hb d_RangeTellerModel_run_4 (by decide) (fun hc => ?_) (fun hc => ?_)
  · have hm := (if_neg hc).symm.trans hm
    refine lv_iload_n hx hb d_RangeTellerModel_run_10 rfl (lv_at hl 3 rfl) ?_
    refine lv_if_ge (tgt := 18) hx hb d_RangeTellerModel_run_11 (by decide) (fun hc => ?_) (fun hc => ?_)
    · have hm := (if_pos hc).symm.trans hm
      refine lv_iload_n hx hb d_RangeTellerModel_run_18 rfl (lv_at hl 3 rfl) ?_
      refine lv_sipush (v := 2000) hx hb d_RangeTellerModel_run_19 (by decide) ?_
      refine lv_icmp_le (tgt := 31) hx hb d_RangeTellerModel_run_22 (by decide) (fun hc => ?_) (fun hc => ?_)
      · have hm := (if_pos hc).symm.trans hm
        refine lv_iload_n hx hb d_RangeTellerModel_run_31 rfl (lv_at hl 3 rfl) ?_
        exact hB32 ls a1 a2 a3 σ _ _ (lv_sub hl [0, 1, 2] rfl) hm hP hS
      · have hm := (if_neg hc).symm.trans hm
        refine lv_sipush (v := 2000) hx hb d_RangeTellerModel_run_25 (by decide) ?_
        refine lv_goto (tgt := 32) hx hb d_RangeTellerModel_run_28 (by decide) ?_
        exact hB32 ls a1 a2 2000 σ _ _ (lv_sub hl [0, 1, 2] rfl) hm hP hS
    · have hm := (if_neg hc).symm.trans hm
      refine lv_iconst (v := 0) hx hb d_RangeTellerModel_run_14 (by decide) ?_
      refine lv_goto (tgt := 32) hx hb d_RangeTellerModel_run_15 (by decide) ?_
      exact hB32 ls a1 a2 0 σ _ _ (lv_sub hl [0, 1, 2] rfl) hm hP hS
  · have hm := (if_pos hc).symm.trans hm
    refine lv_bipush (v := (-3)) hx hb d_RangeTellerModel_run_7 (by decide) ?_
    exact W.iret hx hb hr (fun t ht hW => ⟨⟨_, _, rfl, rt_pr hm, rt_end rtR_Xo hK hP hS hX ht hW⟩, hS.F ht⟩) hS.2.2 d_RangeTellerModel_run_9
set_option maxHeartbeats 4000000 in
set_option maxRecDepth 100000 in
theorem k_R_RangeTellerModel_outcome (l : Launch) (D : va_G) (cI cZ : ClassId) (A : Nat → Nat) (hO : rt_Ok (rtR_W cI cZ A)) (σ : rt_St) (a1 : Int32) (r' : Int32) (σ' : rt_St) (hm : M_R_RangeTellerModel_outcome σ a1 = some (r', σ')) (sz : Nat) : Met l y_RangeTellerModel_outcome (rt_ws y_RangeTellerModel_outcome b_RangeTellerModel_outcome 2 (some .int)) ({ frames := 0, cells := 0, slots := 0, locals := 0 } : Room) (va_Pc [.ref (A 0), .int a1] (rt_P D rt_cl (rt_t cI cZ) rtR_X (rtR_W cI cZ A) sz σ)) (va_Qi (fun r1 u1 => r1 = r' ∧ u1 = σ') (rt_B D rt_cl (rt_t cI cZ) rtR_X (rtR_W cI cZ A)) (rt_A (rtR_W cI cZ A) sz)) 0 0 (rt_A (rtR_W cI cZ A) sz) := by
  refine Met.ofW (cc := b_RangeTellerModel_outcome) (maxL := 2) (ret := (some .int)) (by decide) rfl ?_
  intro p e s m args below meth c s₁ B hml hv
  obtain ⟨rfl, rfl, hP, hK, hX⟩ := hv
  have hx := B.exec
  have hb := B.bytes
  have hr := B.returns
  have hts := atoms_spec (ws := (rt_ws y_RangeTellerModel_outcome b_RangeTellerModel_outcome 2 (some .int))) B.pre
  have hown : s.vm.findClass "RangeTellerModel" = some m.cls := findClass_of_methodNamed B.named
  have hlocks := B.notSynchronized
  have hD := rt_hD hO s.heap.size
  have hS : va_S (rt_A (rtR_W cI cZ A) s.heap.size) s.heap s.heap [] := va_S.rf
  have hl := lv_entry ([.ref (A 0), .int a1]) (n := 2) (Nat.le_of_ble_eq_true rfl)
  rw [lg_entry_eq]
  generalize (lg_sl ([.ref (A 0), .int a1]) ++ List.replicate (2 - (lg_sl ([.ref (A 0), .int a1])).length) Slot.unset).toArray = ls at hl ⊢
  have hl : lv_has ls 2 [(0, .ref (A 0)), (1, .int a1)] := hl
  show W p l e ({ frames := 0, cells := 0, slots := 0, locals := 0 } : Room) s m ([.ref (A 0), .int a1] : List Value).toArray below meth c s.heap [] 0 0 (rt_Qi D rt_cl (rt_t cI cZ) rtR_X (rtR_W cI cZ A) below ([.ref (A 0), .int a1] : List Value).toArray s r' σ') (F0 m 0 ls [])
  unfold M_R_RangeTellerModel_outcome at hm
  refine lv_aload_n hx hb d_RangeTellerModel_outcome_0 rfl (lv_at hl 0 rfl) ?_
  refine va_get (D := D) (v := .int (σ 0 29)) (C := "RangeTellerModel") (T := rt_T6) (N := 69) hx hb hts rt_i6 hown hK hP 0 rfl rfl 29 (by decide) (hts _ (rt_m rt_w876)) (fun _ h9 => h9) rfl d_RangeTellerModel_outcome_1 ?_
  refine lv_if_ne (tgt := 10) hx hb d_RangeTellerModel_outcome_4 (by decide) (fun hc => ?_) (fun hc => ?_)
  · have hm := (if_neg hc).symm.trans hm
    refine lv_iload_n hx hb d_RangeTellerModel_outcome_10 rfl (lv_at hl 1 rfl) ?_
    refine lv_if_ne (tgt := 21) hx hb d_RangeTellerModel_outcome_11 (by decide) (fun hc => ?_) (fun hc => ?_)
    · have hm := (if_neg hc).symm.trans hm
      refine lv_iload_n hx hb d_RangeTellerModel_outcome_21 rfl (lv_at hl 1 rfl) ?_
      refine lv_iconst (v := 1) hx hb d_RangeTellerModel_outcome_22 (by decide) ?_
      refine lv_icmp_ne (tgt := 33) hx hb d_RangeTellerModel_outcome_23 (by decide) (fun hc => ?_) (fun hc => ?_)
      · have hm := (if_neg hc).symm.trans hm
        refine lv_iload_n hx hb d_RangeTellerModel_outcome_33 rfl (lv_at hl 1 rfl) ?_
        refine lv_iconst (v := 2) hx hb d_RangeTellerModel_outcome_34 (by decide) ?_
        refine lv_icmp_ne (tgt := 45) hx hb d_RangeTellerModel_outcome_35 (by decide) (fun hc => ?_) (fun hc => ?_)
        · have hm := (if_neg hc).symm.trans hm
          refine lv_iload_n hx hb d_RangeTellerModel_outcome_45 rfl (lv_at hl 1 rfl) ?_
          refine lv_iconst (v := 3) hx hb d_RangeTellerModel_outcome_46 (by decide) ?_
          refine lv_icmp_ne (tgt := 57) hx hb d_RangeTellerModel_outcome_47 (by decide) (fun hc => ?_) (fun hc => ?_)
          · have hm := (if_neg hc).symm.trans hm
            refine lv_bipush (v := (-3)) hx hb d_RangeTellerModel_outcome_57 (by decide) ?_
            exact W.iret hx hb hr (fun t ht hW => ⟨⟨_, _, rfl, rt_pr hm, rt_end rtR_Xo hK hP hS hX ht hW⟩, hS.F ht⟩) hS.2.2 d_RangeTellerModel_outcome_59
          · have hm := (if_pos hc).symm.trans hm
            refine lv_aload_n hx hb d_RangeTellerModel_outcome_50 rfl (lv_at hl 0 rfl) ?_
            refine va_get (D := D) (v := .int (σ 0 41)) (C := "RangeTellerModel") (T := rt_T6) (N := 69) hx hb hts rt_i6 hown hK hP 0 rfl rfl 41 (by decide) (hts _ (rt_m rt_w888)) (fun _ h9 => h9) rfl d_RangeTellerModel_outcome_51 ?_
            refine lv_goto (tgt := 59) hx hb d_RangeTellerModel_outcome_54 (by decide) ?_
            exact W.iret hx hb hr (fun t ht hW => ⟨⟨_, _, rfl, rt_pr hm, rt_end rtR_Xo hK hP hS hX ht hW⟩, hS.F ht⟩) hS.2.2 d_RangeTellerModel_outcome_59
        · have hm := (if_pos hc).symm.trans hm
          refine lv_aload_n hx hb d_RangeTellerModel_outcome_38 rfl (lv_at hl 0 rfl) ?_
          refine va_get (D := D) (v := .int (σ 0 37)) (C := "RangeTellerModel") (T := rt_T6) (N := 69) hx hb hts rt_i6 hown hK hP 0 rfl rfl 37 (by decide) (hts _ (rt_m rt_w884)) (fun _ h9 => h9) rfl d_RangeTellerModel_outcome_39 ?_
          refine lv_goto (tgt := 59) hx hb d_RangeTellerModel_outcome_42 (by decide) ?_
          exact W.iret hx hb hr (fun t ht hW => ⟨⟨_, _, rfl, rt_pr hm, rt_end rtR_Xo hK hP hS hX ht hW⟩, hS.F ht⟩) hS.2.2 d_RangeTellerModel_outcome_59
      · have hm := (if_pos hc).symm.trans hm
        refine lv_aload_n hx hb d_RangeTellerModel_outcome_26 rfl (lv_at hl 0 rfl) ?_
        refine va_get (D := D) (v := .int (σ 0 40)) (C := "RangeTellerModel") (T := rt_T6) (N := 69) hx hb hts rt_i6 hown hK hP 0 rfl rfl 40 (by decide) (hts _ (rt_m rt_w887)) (fun _ h9 => h9) rfl d_RangeTellerModel_outcome_27 ?_
        refine lv_goto (tgt := 59) hx hb d_RangeTellerModel_outcome_30 (by decide) ?_
        exact W.iret hx hb hr (fun t ht hW => ⟨⟨_, _, rfl, rt_pr hm, rt_end rtR_Xo hK hP hS hX ht hW⟩, hS.F ht⟩) hS.2.2 d_RangeTellerModel_outcome_59
    · have hm := (if_pos hc).symm.trans hm
      refine lv_aload_n hx hb d_RangeTellerModel_outcome_14 rfl (lv_at hl 0 rfl) ?_
      refine va_get (D := D) (v := .int (σ 0 39)) (C := "RangeTellerModel") (T := rt_T6) (N := 69) hx hb hts rt_i6 hown hK hP 0 rfl rfl 39 (by decide) (hts _ (rt_m rt_w886)) (fun _ h9 => h9) rfl d_RangeTellerModel_outcome_15 ?_
      refine lv_goto (tgt := 59) hx hb d_RangeTellerModel_outcome_18 (by decide) ?_
      exact W.iret hx hb hr (fun t ht hW => ⟨⟨_, _, rfl, rt_pr hm, rt_end rtR_Xo hK hP hS hX ht hW⟩, hS.F ht⟩) hS.2.2 d_RangeTellerModel_outcome_59
  · have hm := (if_pos hc).symm.trans hm
    refine lv_bipush (v := (-3)) hx hb d_RangeTellerModel_outcome_7 (by decide) ?_
    exact W.iret hx hb hr (fun t ht hW => ⟨⟨_, _, rfl, rt_pr hm, rt_end rtR_Xo hK hP hS hX ht hW⟩, hS.F ht⟩) hS.2.2 d_RangeTellerModel_outcome_9
set_option maxHeartbeats 4000000 in
set_option maxRecDepth 100000 in
theorem k_R_RangeTellerModel_output (l : Launch) (D : va_G) (cI cZ : ClassId) (A : Nat → Nat) (hO : rt_Ok (rtR_W cI cZ A)) (σ : rt_St) (a1 : Int32) (r' : Int32) (σ' : rt_St) (hm : M_R_RangeTellerModel_output σ a1 = some (r', σ')) (sz : Nat) : Met l y_RangeTellerModel_output (rt_ws y_RangeTellerModel_output b_RangeTellerModel_output 2 (some .int)) ({ frames := 0, cells := 0, slots := 0, locals := 0 } : Room) (va_Pc [.ref (A 0), .int a1] (rt_P D rt_cl (rt_t cI cZ) rtR_X (rtR_W cI cZ A) sz σ)) (va_Qi (fun r1 u1 => r1 = r' ∧ u1 = σ') (rt_B D rt_cl (rt_t cI cZ) rtR_X (rtR_W cI cZ A)) (rt_A (rtR_W cI cZ A) sz)) 0 0 (rt_A (rtR_W cI cZ A) sz) := by
  refine Met.ofW (cc := b_RangeTellerModel_output) (maxL := 2) (ret := (some .int)) (by decide) rfl ?_
  intro p e s m args below meth c s₁ B hml hv
  obtain ⟨rfl, rfl, hP, hK, hX⟩ := hv
  have hx := B.exec
  have hb := B.bytes
  have hr := B.returns
  have hts := atoms_spec (ws := (rt_ws y_RangeTellerModel_output b_RangeTellerModel_output 2 (some .int))) B.pre
  have hown : s.vm.findClass "RangeTellerModel" = some m.cls := findClass_of_methodNamed B.named
  have hlocks := B.notSynchronized
  have hD := rt_hD hO s.heap.size
  have hS : va_S (rt_A (rtR_W cI cZ A) s.heap.size) s.heap s.heap [] := va_S.rf
  have hl := lv_entry ([.ref (A 0), .int a1]) (n := 2) (Nat.le_of_ble_eq_true rfl)
  rw [lg_entry_eq]
  generalize (lg_sl ([.ref (A 0), .int a1]) ++ List.replicate (2 - (lg_sl ([.ref (A 0), .int a1])).length) Slot.unset).toArray = ls at hl ⊢
  have hl : lv_has ls 2 [(0, .ref (A 0)), (1, .int a1)] := hl
  show W p l e ({ frames := 0, cells := 0, slots := 0, locals := 0 } : Room) s m ([.ref (A 0), .int a1] : List Value).toArray below meth c s.heap [] 0 0 (rt_Qi D rt_cl (rt_t cI cZ) rtR_X (rtR_W cI cZ A) below ([.ref (A 0), .int a1] : List Value).toArray s r' σ') (F0 m 0 ls [])
  unfold M_R_RangeTellerModel_output at hm
  refine lv_aload_n hx hb d_RangeTellerModel_output_0 rfl (lv_at hl 0 rfl) ?_
  refine va_get (D := D) (v := .int (σ 0 29)) (C := "RangeTellerModel") (T := rt_T6) (N := 69) hx hb hts rt_i6 hown hK hP 0 rfl rfl 29 (by decide) (hts _ (rt_m rt_w876)) (fun _ h9 => h9) rfl d_RangeTellerModel_output_1 ?_
  refine lv_if_eq (tgt := 25) hx hb d_RangeTellerModel_output_4 (by decide) (fun hc => ?_) (fun hc => ?_)
  · have hm := (if_pos hc).symm.trans hm
    refine lv_bipush (v := (-3)) hx hb d_RangeTellerModel_output_25 (by decide) ?_
    refine lv_goto (tgt := 36) hx hb d_RangeTellerModel_output_27 (by decide) ?_
    exact W.iret hx hb hr (fun t ht hW => ⟨⟨_, _, rfl, rt_pr hm, rt_end rtR_Xo hK hP hS hX ht hW⟩, hS.F ht⟩) hS.2.2 d_RangeTellerModel_output_36
  · have hm := (if_neg hc).symm.trans hm
    refine lv_iload_n hx hb d_RangeTellerModel_output_7 rfl (lv_at hl 1 rfl) ?_
    refine lv_if_lt (tgt := 25) hx hb d_RangeTellerModel_output_8 (by decide) (fun hc => ?_) (fun hc => ?_)
    · have hm := (if_pos hc).symm.trans hm
      refine lv_bipush (v := (-3)) hx hb d_RangeTellerModel_output_25 (by decide) ?_
      refine lv_goto (tgt := 36) hx hb d_RangeTellerModel_output_27 (by decide) ?_
      exact W.iret hx hb hr (fun t ht hW => ⟨⟨_, _, rfl, rt_pr hm, rt_end rtR_Xo hK hP hS hX ht hW⟩, hS.F ht⟩) hS.2.2 d_RangeTellerModel_output_36
    · have hm := (if_neg hc).symm.trans hm
      refine lv_iload_n hx hb d_RangeTellerModel_output_11 rfl (lv_at hl 1 rfl) ?_
      refine lv_aload_n hx hb d_RangeTellerModel_output_12 rfl (lv_at hl 0 rfl) ?_
      refine va_get (D := D) (v := .int (σ 0 41)) (C := "RangeTellerModel") (T := rt_T6) (N := 69) hx hb hts rt_i6 hown hK hP 0 rfl rfl 41 (by decide) (hts _ (rt_m rt_w888)) (fun _ h9 => h9) rfl d_RangeTellerModel_output_13 ?_
      refine lv_icmp_ge (tgt := 25) hx hb d_RangeTellerModel_output_16 (by decide) (fun hc => ?_) (fun hc => ?_)
      · have hm := (if_pos hc).symm.trans hm
        refine lv_bipush (v := (-3)) hx hb d_RangeTellerModel_output_25 (by decide) ?_
        refine lv_goto (tgt := 36) hx hb d_RangeTellerModel_output_27 (by decide) ?_
        exact W.iret hx hb hr (fun t ht hW => ⟨⟨_, _, rfl, rt_pr hm, rt_end rtR_Xo hK hP hS hX ht hW⟩, hS.F ht⟩) hS.2.2 d_RangeTellerModel_output_36
      · have hm := (if_neg hc).symm.trans hm
        refine lv_iload_n hx hb d_RangeTellerModel_output_19 rfl (lv_at hl 1 rfl) ?_
        refine lv_bipush (v := 19) hx hb d_RangeTellerModel_output_20 (by decide) ?_
        refine lv_icmp_le (tgt := 30) hx hb d_RangeTellerModel_output_22 (by decide) (fun hc => ?_) (fun hc => ?_)
        · have hm := (if_pos hc).symm.trans hm
          refine lv_aload_n hx hb d_RangeTellerModel_output_30 rfl (lv_at hl 0 rfl) ?_
          refine va_get (D := D) (v := .ref (A 25)) (C := "RangeTellerModel") (T := rt_T6) (N := 69) hx hb hts rt_i6 hown hK hP 0 rfl rfl 42 (by decide) (hts _ (rt_m rt_w889)) (fun _ h9 => h9) rfl d_RangeTellerModel_output_31 ?_
          refine lv_iload_n hx hb d_RangeTellerModel_output_34 rfl (lv_at hl 1 rfl) ?_
          obtain ⟨v1, h2, hm⟩ := rt_b1s hm
          refine rt_ald hx hb hK hP 25 0 rfl rfl h2 d_RangeTellerModel_output_35 ?_
          exact W.iret hx hb hr (fun t ht hW => ⟨⟨_, _, rfl, rt_pr hm, rt_end rtR_Xo hK hP hS hX ht hW⟩, hS.F ht⟩) hS.2.2 d_RangeTellerModel_output_36
        · have hm := (if_neg hc).symm.trans hm
          refine lv_bipush (v := (-3)) hx hb d_RangeTellerModel_output_25 (by decide) ?_
          refine lv_goto (tgt := 36) hx hb d_RangeTellerModel_output_27 (by decide) ?_
          exact W.iret hx hb hr (fun t ht hW => ⟨⟨_, _, rfl, rt_pr hm, rt_end rtR_Xo hK hP hS hX ht hW⟩, hS.F ht⟩) hS.2.2 d_RangeTellerModel_output_36
set_option maxHeartbeats 4000000 in
set_option maxRecDepth 100000 in
theorem k_R_RangeTellerModel_memory (l : Launch) (D : va_G) (cI cZ : ClassId) (A : Nat → Nat) (hO : rt_Ok (rtR_W cI cZ A)) (σ : rt_St) (a1 : Int32) (r' : Int32) (σ' : rt_St) (hm : M_R_RangeTellerModel_memory σ a1 = some (r', σ')) (sz : Nat) : Met l y_RangeTellerModel_memory (rt_ws y_RangeTellerModel_memory b_RangeTellerModel_memory 2 (some .int)) ({ frames := 0, cells := 0, slots := 0, locals := 0 } : Room) (va_Pc [.ref (A 0), .int a1] (rt_P D rt_cl (rt_t cI cZ) rtR_X (rtR_W cI cZ A) sz σ)) (va_Qi (fun r1 u1 => r1 = r' ∧ u1 = σ') (rt_B D rt_cl (rt_t cI cZ) rtR_X (rtR_W cI cZ A)) (rt_A (rtR_W cI cZ A) sz)) 0 0 (rt_A (rtR_W cI cZ A) sz) := by
  refine Met.ofW (cc := b_RangeTellerModel_memory) (maxL := 2) (ret := (some .int)) (by decide) rfl ?_
  intro p e s m args below meth c s₁ B hml hv
  obtain ⟨rfl, rfl, hP, hK, hX⟩ := hv
  have hx := B.exec
  have hb := B.bytes
  have hr := B.returns
  have hts := atoms_spec (ws := (rt_ws y_RangeTellerModel_memory b_RangeTellerModel_memory 2 (some .int))) B.pre
  have hown : s.vm.findClass "RangeTellerModel" = some m.cls := findClass_of_methodNamed B.named
  have hlocks := B.notSynchronized
  have hD := rt_hD hO s.heap.size
  have hS : va_S (rt_A (rtR_W cI cZ A) s.heap.size) s.heap s.heap [] := va_S.rf
  have hl := lv_entry ([.ref (A 0), .int a1]) (n := 2) (Nat.le_of_ble_eq_true rfl)
  rw [lg_entry_eq]
  generalize (lg_sl ([.ref (A 0), .int a1]) ++ List.replicate (2 - (lg_sl ([.ref (A 0), .int a1])).length) Slot.unset).toArray = ls at hl ⊢
  have hl : lv_has ls 2 [(0, .ref (A 0)), (1, .int a1)] := hl
  show W p l e ({ frames := 0, cells := 0, slots := 0, locals := 0 } : Room) s m ([.ref (A 0), .int a1] : List Value).toArray below meth c s.heap [] 0 0 (rt_Qi D rt_cl (rt_t cI cZ) rtR_X (rtR_W cI cZ A) below ([.ref (A 0), .int a1] : List Value).toArray s r' σ') (F0 m 0 ls [])
  unfold M_R_RangeTellerModel_memory at hm
  refine lv_aload_n hx hb d_RangeTellerModel_memory_0 rfl (lv_at hl 0 rfl) ?_
  refine va_get (D := D) (v := .int (σ 0 29)) (C := "RangeTellerModel") (T := rt_T6) (N := 69) hx hb hts rt_i6 hown hK hP 0 rfl rfl 29 (by decide) (hts _ (rt_m rt_w876)) (fun _ h9 => h9) rfl d_RangeTellerModel_memory_1 ?_
  refine lv_if_eq (tgt := 17) hx hb d_RangeTellerModel_memory_4 (by decide) (fun hc => ?_) (fun hc => ?_)
  · have hm := (if_pos hc).symm.trans hm
    refine lv_bipush (v := (-3)) hx hb d_RangeTellerModel_memory_17 (by decide) ?_
    refine lv_goto (tgt := 28) hx hb d_RangeTellerModel_memory_19 (by decide) ?_
    exact W.iret hx hb hr (fun t ht hW => ⟨⟨_, _, rfl, rt_pr hm, rt_end rtR_Xo hK hP hS hX ht hW⟩, hS.F ht⟩) hS.2.2 d_RangeTellerModel_memory_28
  · have hm := (if_neg hc).symm.trans hm
    refine lv_iload_n hx hb d_RangeTellerModel_memory_7 rfl (lv_at hl 1 rfl) ?_
    refine lv_if_lt (tgt := 17) hx hb d_RangeTellerModel_memory_8 (by decide) (fun hc => ?_) (fun hc => ?_)
    · have hm := (if_pos hc).symm.trans hm
      refine lv_bipush (v := (-3)) hx hb d_RangeTellerModel_memory_17 (by decide) ?_
      refine lv_goto (tgt := 28) hx hb d_RangeTellerModel_memory_19 (by decide) ?_
      exact W.iret hx hb hr (fun t ht hW => ⟨⟨_, _, rfl, rt_pr hm, rt_end rtR_Xo hK hP hS hX ht hW⟩, hS.F ht⟩) hS.2.2 d_RangeTellerModel_memory_28
    · have hm := (if_neg hc).symm.trans hm
      refine lv_iload_n hx hb d_RangeTellerModel_memory_11 rfl (lv_at hl 1 rfl) ?_
      refine lv_bipush (v := 15) hx hb d_RangeTellerModel_memory_12 (by decide) ?_
      refine lv_icmp_le (tgt := 22) hx hb d_RangeTellerModel_memory_14 (by decide) (fun hc => ?_) (fun hc => ?_)
      · have hm := (if_pos hc).symm.trans hm
        refine lv_aload_n hx hb d_RangeTellerModel_memory_22 rfl (lv_at hl 0 rfl) ?_
        refine va_get (D := D) (v := .ref (A 24)) (C := "RangeTellerModel") (T := rt_T6) (N := 69) hx hb hts rt_i6 hown hK hP 0 rfl rfl 35 (by decide) (hts _ (rt_m rt_w882)) (fun _ h9 => h9) rfl d_RangeTellerModel_memory_23 ?_
        refine lv_iload_n hx hb d_RangeTellerModel_memory_26 rfl (lv_at hl 1 rfl) ?_
        obtain ⟨v1, h2, hm⟩ := rt_b1s hm
        refine rt_ald hx hb hK hP 24 0 rfl rfl h2 d_RangeTellerModel_memory_27 ?_
        exact W.iret hx hb hr (fun t ht hW => ⟨⟨_, _, rfl, rt_pr hm, rt_end rtR_Xo hK hP hS hX ht hW⟩, hS.F ht⟩) hS.2.2 d_RangeTellerModel_memory_28
      · have hm := (if_neg hc).symm.trans hm
        refine lv_bipush (v := (-3)) hx hb d_RangeTellerModel_memory_17 (by decide) ?_
        refine lv_goto (tgt := 28) hx hb d_RangeTellerModel_memory_19 (by decide) ?_
        exact W.iret hx hb hr (fun t ht hW => ⟨⟨_, _, rfl, rt_pr hm, rt_end rtR_Xo hK hP hS hX ht hW⟩, hS.F ht⟩) hS.2.2 d_RangeTellerModel_memory_28
set_option maxHeartbeats 4000000 in
set_option maxRecDepth 100000 in
theorem k_R_RangeTellerModel_flags (l : Launch) (D : va_G) (cI cZ : ClassId) (A : Nat → Nat) (hO : rt_Ok (rtR_W cI cZ A)) (σ : rt_St) (a1 : Int32) (r' : Int32) (σ' : rt_St) (hm : M_R_RangeTellerModel_flags σ a1 = some (r', σ')) (sz : Nat) : Met l y_RangeTellerModel_flags (rt_ws y_RangeTellerModel_flags b_RangeTellerModel_flags 4 (some .int)) ({ frames := 0, cells := 0, slots := 0, locals := 0 } : Room) (va_Pc [.ref (A 0), .int a1] (rt_P D rt_cl (rt_t cI cZ) rtR_X (rtR_W cI cZ A) sz σ)) (va_Qi (fun r1 u1 => r1 = r' ∧ u1 = σ') (rt_B D rt_cl (rt_t cI cZ) rtR_X (rtR_W cI cZ A)) (rt_A (rtR_W cI cZ A) sz)) 0 0 (rt_A (rtR_W cI cZ A) sz) := by
  refine Met.ofW (cc := b_RangeTellerModel_flags) (maxL := 4) (ret := (some .int)) (by decide) rfl ?_
  intro p e s m args below meth c s₁ B hml hv
  obtain ⟨rfl, rfl, hP, hK, hX⟩ := hv
  have hx := B.exec
  have hb := B.bytes
  have hr := B.returns
  have hts := atoms_spec (ws := (rt_ws y_RangeTellerModel_flags b_RangeTellerModel_flags 4 (some .int))) B.pre
  have hown : s.vm.findClass "RangeTellerModel" = some m.cls := findClass_of_methodNamed B.named
  have hlocks := B.notSynchronized
  have hD := rt_hD hO s.heap.size
  have hS : va_S (rt_A (rtR_W cI cZ A) s.heap.size) s.heap s.heap [] := va_S.rf
  have hl := lv_entry ([.ref (A 0), .int a1]) (n := 4) (Nat.le_of_ble_eq_true rfl)
  rw [lg_entry_eq]
  generalize (lg_sl ([.ref (A 0), .int a1]) ++ List.replicate (4 - (lg_sl ([.ref (A 0), .int a1])).length) Slot.unset).toArray = ls at hl ⊢
  have hl : lv_has ls 4 [(0, .ref (A 0)), (1, .int a1)] := hl
  show W p l e ({ frames := 0, cells := 0, slots := 0, locals := 0 } : Room) s m ([.ref (A 0), .int a1] : List Value).toArray below meth c s.heap [] 0 0 (rt_Qi D rt_cl (rt_t cI cZ) rtR_X (rtR_W cI cZ A) below ([.ref (A 0), .int a1] : List Value).toArray s r' σ') (F0 m 0 ls [])
  have hB67 : ∀ (ls : Array Slot) (l1 t0 : Int32) (σ : rt_St) (H : Heap) (locs : List Loc), lv_has ls 4 [(0, .ref (A 0)), (1, .int l1)] → B_R_RangeTellerModel_flags_67 l1 t0 σ = some (r', σ') → va_P D rt_cl (rtR_W cI cZ A σ) H → va_S (rt_A (rtR_W cI cZ A) s.heap.size) s.heap H locs → W p l e ({ frames := 0, cells := 0, slots := 0, locals := 0 } : Room) s m ([.ref (A 0), .int a1] : List Value).toArray below meth c H locs 0 0 (rt_Qi D rt_cl (rt_t cI cZ) rtR_X (rtR_W cI cZ A) below ([.ref (A 0), .int a1] : List Value).toArray s r' σ') (F0 m 67 ls [.int t0, .ref (A 29)]) := by
    intro ls l1 t0 σ H locs hl hm hP hS
    unfold B_R_RangeTellerModel_flags_67 at hm
    obtain ⟨v1, h2, hm⟩ := rt_b1s hm
    refine rt_ald hx hb hK hP 29 0 rfl rfl h2 d_RangeTellerModel_flags_67 ?_
    refine lv_aload_n hx hb d_RangeTellerModel_flags_68 rfl (lv_at hl 0 rfl) ?_
    refine va_get (D := D) (v := .ref (A 3)) (C := "RangeTellerModel") (T := rt_T6) (N := 69) hx hb hts rt_i6 hown hK hP 0 rfl rfl 8 (by decide) (hts _ (rt_m rt_w855)) (fun _ h9 => h9) rfl d_RangeTellerModel_flags_69 ?_
    refine lv_iload_n hx hb d_RangeTellerModel_flags_72 rfl (lv_at hl 1 rfl) ?_
    obtain ⟨v3, h4, hm⟩ := rt_b1s hm
    refine rt_ald hx hb hK hP 3 0 rfl rfl h4 d_RangeTellerModel_flags_73 ?_
    refine lv_iadd hx hb d_RangeTellerModel_flags_74 ?_
    refine lv_bipush (v := 15) hx hb d_RangeTellerModel_flags_75 (by decide) ?_
    refine lv_icmp_le (tgt := 84) hx hb d_RangeTellerModel_flags_77 (by decide) (fun hc => ?_) (fun hc => ?_)
    · have hm := (if_pos hc).symm.trans hm
      refine lv_iconst (v := 0) hx hb d_RangeTellerModel_flags_84 (by decide) ?_
      exact W.iret hx hb hr (fun t ht hW => ⟨⟨_, _, rfl, rt_pr hm, rt_end rtR_Xo hK hP hS hX ht hW⟩, hS.F ht⟩) hS.2.2 d_RangeTellerModel_flags_85
    · have hm := (if_neg hc).symm.trans hm
      refine lv_iconst (v := 2) hx hb d_RangeTellerModel_flags_80 (by decide) ?_
      refine lv_goto (tgt := 85) hx hb d_RangeTellerModel_flags_81 (by decide) ?_
      exact W.iret hx hb hr (fun t ht hW => ⟨⟨_, _, rfl, rt_pr hm, rt_end rtR_Xo hK hP hS hX ht hW⟩, hS.F ht⟩) hS.2.2 d_RangeTellerModel_flags_85
  have hB50 : ∀ (ls : Array Slot) (l1 l2 l3 : Int32) (σ : rt_St) (H : Heap) (locs : List Loc), lv_has ls 4 [(0, .ref (A 0)), (1, .int l1), (2, .int l2), (3, .int l3)] → B_R_RangeTellerModel_flags_50 l1 l2 l3 σ = some (r', σ') → va_P D rt_cl (rtR_W cI cZ A σ) H → va_S (rt_A (rtR_W cI cZ A) s.heap.size) s.heap H locs → W p l e ({ frames := 0, cells := 0, slots := 0, locals := 0 } : Room) s m ([.ref (A 0), .int a1] : List Value).toArray below meth c H locs 0 0 (rt_Qi D rt_cl (rt_t cI cZ) rtR_X (rtR_W cI cZ A) below ([.ref (A 0), .int a1] : List Value).toArray s r' σ') (F0 m 50 ls []) := by
    intro ls l1 l2 l3 σ H locs hl hm hP hS
    unfold B_R_RangeTellerModel_flags_50 at hm
    refine lv_aload_n hx hb d_RangeTellerModel_flags_50 rfl (lv_at hl 0 rfl) ?_
    refine va_get (D := D) (v := .ref (A 29)) (C := "RangeTellerModel") (T := rt_T6) (N := 69) hx hb hts rt_i6 hown hK hP 0 rfl rfl 46 (by decide) (hts _ (rt_m rt_w893)) (fun _ h9 => h9) rfl d_RangeTellerModel_flags_51 ?_
    refine lv_iload_n hx hb d_RangeTellerModel_flags_54 rfl (lv_at hl 2 rfl) ?_
    refine lv_bipush (v := 15) hx hb d_RangeTellerModel_flags_55 (by decide) ?_
    refine lv_icmp_ne (tgt := 64) hx hb d_RangeTellerModel_flags_57 (by decide) (fun hc => ?_) (fun hc => ?_)
    · have hm := (if_neg hc).symm.trans hm
      refine lv_iload_n hx hb d_RangeTellerModel_flags_64 rfl (lv_at hl 3 rfl) ?_
      refine lv_iconst (v := 1) hx hb d_RangeTellerModel_flags_65 (by decide) ?_
      refine lv_isub hx hb d_RangeTellerModel_flags_66 ?_
      exact hB67 ls l1 (l3 - 1) σ _ _ (lv_sub hl [0, 1] rfl) hm hP hS
    · have hm := (if_pos hc).symm.trans hm
      refine lv_iload_n hx hb d_RangeTellerModel_flags_60 rfl (lv_at hl 3 rfl) ?_
      refine lv_goto (tgt := 67) hx hb d_RangeTellerModel_flags_61 (by decide) ?_
      exact hB67 ls l1 l3 σ _ _ (lv_sub hl [0, 1] rfl) hm hP hS
  have hB98 : ∀ (ls : Array Slot) (l3 : Int32) (σ : rt_St) (H : Heap) (locs : List Loc), lv_has ls 4 [(0, .ref (A 0)), (3, .int l3)] → B_R_RangeTellerModel_flags_98 l3 σ = some (r', σ') → va_P D rt_cl (rtR_W cI cZ A σ) H → va_S (rt_A (rtR_W cI cZ A) s.heap.size) s.heap H locs → W p l e ({ frames := 0, cells := 0, slots := 0, locals := 0 } : Room) s m ([.ref (A 0), .int a1] : List Value).toArray below meth c H locs 0 0 (rt_Qi D rt_cl (rt_t cI cZ) rtR_X (rtR_W cI cZ A) below ([.ref (A 0), .int a1] : List Value).toArray s r' σ') (F0 m 98 ls []) := by
    intro ls l3 σ H locs hl hm hP hS
    unfold B_R_RangeTellerModel_flags_98 at hm
    refine lv_aload_n hx hb d_RangeTellerModel_flags_98 rfl (lv_at hl 0 rfl) ?_
    refine va_get (D := D) (v := .ref (A 28)) (C := "RangeTellerModel") (T := rt_T6) (N := 69) hx hb hts rt_i6 hown hK hP 0 rfl rfl 45 (by decide) (hts _ (rt_m rt_w892)) (fun _ h9 => h9) rfl d_RangeTellerModel_flags_99 ?_
    refine lv_iload_n hx hb d_RangeTellerModel_flags_102 rfl (lv_at hl 1 rfl) ?_
    obtain ⟨v5, h6, hm⟩ := rt_b1s hm
    refine rt_ald hx hb hK hP 28 0 rfl rfl h6 d_RangeTellerModel_flags_103 ?_
    refine lv_if_ne (tgt := 111) hx hb d_RangeTellerModel_flags_104 (by decide) (fun hc => ?_) (fun hc => ?_)
    · have hm := (if_neg hc).symm.trans hm
      refine lv_iconst (v := 0) hx hb d_RangeTellerModel_flags_111 (by decide) ?_
      exact W.iret hx hb hr (fun t ht hW => ⟨⟨_, _, rfl, rt_pr hm, rt_end rtR_Xo hK hP hS hX ht hW⟩, hS.F ht⟩) hS.2.2 d_RangeTellerModel_flags_112
    · have hm := (if_pos hc).symm.trans hm
      refine lv_iconst (v := 4) hx hb d_RangeTellerModel_flags_107 (by decide) ?_
      refine lv_goto (tgt := 112) hx hb d_RangeTellerModel_flags_108 (by decide) ?_
      exact W.iret hx hb hr (fun t ht hW => ⟨⟨_, _, rfl, rt_pr hm, rt_end rtR_Xo hK hP hS hX ht hW⟩, hS.F ht⟩) hS.2.2 d_RangeTellerModel_flags_112
  unfold M_R_RangeTellerModel_flags at hm
  refine lv_aload_n hx hb d_RangeTellerModel_flags_0 rfl (lv_at hl 0 rfl) ?_
  refine va_get (D := D) (v := .ref (A 26)) (C := "RangeTellerModel") (T := rt_T6) (N := 69) hx hb hts rt_i6 hown hK hP 0 rfl rfl 43 (by decide) (hts _ (rt_m rt_w890)) (fun _ h9 => h9) rfl d_RangeTellerModel_flags_1 ?_
  refine lv_iload_n hx hb d_RangeTellerModel_flags_4 rfl (lv_at hl 1 rfl) ?_
  obtain ⟨v7, h8, hm⟩ := rt_b1s hm
  refine rt_zld hx hb hK hP 26 1 rfl rfl h8 d_RangeTellerModel_flags_5 ?_
  refine lv_if_ne (tgt := 11) hx hb d_RangeTellerModel_flags_6 (by decide) (fun hc => ?_) (fun hc => ?_)
  · have hm := (if_neg hc).symm.trans hm
    refine lv_aload_n hx hb d_RangeTellerModel_flags_11 rfl (lv_at hl 0 rfl) ?_
    refine va_get (D := D) (v := .ref (A 2)) (C := "RangeTellerModel") (T := rt_T6) (N := 69) hx hb hts rt_i6 hown hK hP 0 rfl rfl 7 (by decide) (hts _ (rt_m rt_w854)) (fun _ h9 => h9) rfl d_RangeTellerModel_flags_12 ?_
    refine lv_iload_n hx hb d_RangeTellerModel_flags_15 rfl (lv_at hl 1 rfl) ?_
    obtain ⟨v9, h10, hm⟩ := rt_b1s hm
    refine rt_ald hx hb hK hP 2 0 rfl rfl h10 d_RangeTellerModel_flags_16 ?_
    refine lv_istore_n hx hb d_RangeTellerModel_flags_17 rfl hl (by decide) rfl (fun ls hl => ?_)
    have hl : lv_has ls 4 [(2, .int v9), (0, .ref (A 0)), (1, .int a1)] := hl
    refine lv_bipush (v := 10) hx hb d_RangeTellerModel_flags_18 (by decide) ?_
    refine lv_iload_n hx hb d_RangeTellerModel_flags_20 rfl (lv_at hl 2 rfl) ?_
    refine lv_imul hx hb d_RangeTellerModel_flags_21 ?_
    refine lv_aload_n hx hb d_RangeTellerModel_flags_22 rfl (lv_at hl 1 rfl) ?_
    refine va_get (D := D) (v := .ref (A 7)) (C := "RangeTellerModel") (T := rt_T6) (N := 69) hx hb hts rt_i6 hown hK hP 0 rfl rfl 12 (by decide) (hts _ (rt_m rt_w859)) (fun _ h9 => h9) rfl d_RangeTellerModel_flags_23 ?_
    refine lv_iload_n hx hb d_RangeTellerModel_flags_26 rfl (lv_at hl 2 rfl) ?_
    obtain ⟨v11, h12, hm⟩ := rt_b1s hm
    refine rt_ald hx hb hK hP 7 0 rfl rfl h12 d_RangeTellerModel_flags_27 ?_
    refine lv_iadd hx hb d_RangeTellerModel_flags_28 ?_
    refine lv_iconst (v := 1) hx hb d_RangeTellerModel_flags_29 (by decide) ?_
    refine lv_isub hx hb d_RangeTellerModel_flags_30 ?_
    refine lv_istore_n hx hb d_RangeTellerModel_flags_31 rfl hl (by decide) rfl (fun ls hl => ?_)
    have hl : lv_has ls 4 [(3, .int (((10 * a1) + v11) - 1)), (2, .int v9), (0, .ref (A 0)), (1, .int a1)] := hl
    refine lv_iload_n hx hb d_RangeTellerModel_flags_32 rfl (lv_at hl 1 rfl) ?_
    refine lv_if_ne (tgt := 38) hx hb d_RangeTellerModel_flags_33 (by decide) (fun hc => ?_) (fun hc => ?_)
    · have hm := (if_neg hc).symm.trans hm
      refine lv_iload_n hx hb d_RangeTellerModel_flags_38 rfl (lv_at hl 1 rfl) ?_
      refine lv_bipush (v := 15) hx hb d_RangeTellerModel_flags_39 (by decide) ?_
      refine lv_icmp_eq (tgt := 50) hx hb d_RangeTellerModel_flags_41 (by decide) (fun hc => ?_) (fun hc => ?_)
      · have hm := (if_pos hc).symm.trans hm
        exact hB50 ls a1 v9 (((10 * a1) + v11) - 1) σ _ _ (lv_sub hl [2, 3, 1, 0] rfl) hm hP hS
      · have hm := (if_neg hc).symm.trans hm
        refine lv_iload_n hx hb d_RangeTellerModel_flags_44 rfl (lv_at hl 1 rfl) ?_
        refine lv_bipush (v := 16) hx hb d_RangeTellerModel_flags_45 (by decide) ?_
        refine lv_icmp_ne (tgt := 86) hx hb d_RangeTellerModel_flags_47 (by decide) (fun hc => ?_) (fun hc => ?_)
        · have hm := (if_neg hc).symm.trans hm
          refine lv_iload_n hx hb d_RangeTellerModel_flags_86 rfl (lv_at hl 1 rfl) ?_
          refine lv_bipush (v := 24) hx hb d_RangeTellerModel_flags_87 (by decide) ?_
          refine lv_icmp_eq (tgt := 98) hx hb d_RangeTellerModel_flags_89 (by decide) (fun hc => ?_) (fun hc => ?_)
          · have hm := (if_pos hc).symm.trans hm
            exact hB98 ls (((10 * a1) + v11) - 1) σ _ _ (lv_sub hl [2, 0] rfl) hm hP hS
          · have hm := (if_neg hc).symm.trans hm
            refine lv_iload_n hx hb d_RangeTellerModel_flags_92 rfl (lv_at hl 1 rfl) ?_
            refine lv_bipush (v := 25) hx hb d_RangeTellerModel_flags_93 (by decide) ?_
            refine lv_icmp_ne (tgt := 113) hx hb d_RangeTellerModel_flags_95 (by decide) (fun hc => ?_) (fun hc => ?_)
            · have hm := (if_neg hc).symm.trans hm
              refine lv_iload_n hx hb d_RangeTellerModel_flags_113 rfl (lv_at hl 1 rfl) ?_
              refine lv_bipush (v := 28) hx hb d_RangeTellerModel_flags_114 (by decide) ?_
              refine lv_icmp_ne (tgt := 133) hx hb d_RangeTellerModel_flags_116 (by decide) (fun hc => ?_) (fun hc => ?_)
              · have hm := (if_neg hc).symm.trans hm
                refine lv_iconst (v := 0) hx hb d_RangeTellerModel_flags_133 (by decide) ?_
                exact W.iret hx hb hr (fun t ht hW => ⟨⟨_, _, rfl, rt_pr hm, rt_end rtR_Xo hK hP hS hX ht hW⟩, hS.F ht⟩) hS.2.2 d_RangeTellerModel_flags_134
              · have hm := (if_pos hc).symm.trans hm
                refine lv_aload_n hx hb d_RangeTellerModel_flags_119 rfl (lv_at hl 2 rfl) ?_
                refine va_get (D := D) (v := .ref (A 30)) (C := "RangeTellerModel") (T := rt_T6) (N := 69) hx hb hts rt_i6 hown hK hP 0 rfl rfl 47 (by decide) (hts _ (rt_m rt_w894)) (fun _ h9 => h9) rfl d_RangeTellerModel_flags_120 ?_
                refine lv_iload_n hx hb d_RangeTellerModel_flags_123 rfl (lv_at hl 0 rfl) ?_
                obtain ⟨v13, h14, hm⟩ := rt_b1s hm
                refine rt_zld hx hb hK hP 30 1 rfl rfl h14 d_RangeTellerModel_flags_124 ?_
                refine lv_if_eq (tgt := 133) hx hb d_RangeTellerModel_flags_125 (by decide) (fun hc => ?_) (fun hc => ?_)
                · have hm := (if_pos hc).symm.trans hm
                  refine lv_iconst (v := 0) hx hb d_RangeTellerModel_flags_133 (by decide) ?_
                  exact W.iret hx hb hr (fun t ht hW => ⟨⟨_, _, rfl, rt_pr hm, rt_end rtR_Xo hK hP hS hX ht hW⟩, hS.F ht⟩) hS.2.2 d_RangeTellerModel_flags_134
                · have hm := (if_neg hc).symm.trans hm
                  refine lv_bipush (v := 8) hx hb d_RangeTellerModel_flags_128 (by decide) ?_
                  refine lv_goto (tgt := 134) hx hb d_RangeTellerModel_flags_130 (by decide) ?_
                  exact W.iret hx hb hr (fun t ht hW => ⟨⟨_, _, rfl, rt_pr hm, rt_end rtR_Xo hK hP hS hX ht hW⟩, hS.F ht⟩) hS.2.2 d_RangeTellerModel_flags_134
            · have hm := (if_pos hc).symm.trans hm
              exact hB98 ls (((10 * a1) + v11) - 1) σ _ _ (lv_sub hl [2, 0] rfl) hm hP hS
        · have hm := (if_pos hc).symm.trans hm
          exact hB50 ls a1 v9 (((10 * a1) + v11) - 1) σ _ _ (lv_sub hl [2, 3, 1, 0] rfl) hm hP hS
    · have hm := (if_pos hc).symm.trans hm
      refine lv_iconst (v := 1) hx hb d_RangeTellerModel_flags_36 (by decide) ?_
      exact W.iret hx hb hr (fun t ht hW => ⟨⟨_, _, rfl, rt_pr hm, rt_end rtR_Xo hK hP hS hX ht hW⟩, hS.F ht⟩) hS.2.2 d_RangeTellerModel_flags_37
  · have hm := (if_pos hc).symm.trans hm
    refine lv_iconst (v := 0) hx hb d_RangeTellerModel_flags_9 (by decide) ?_
    exact W.iret hx hb hr (fun t ht hW => ⟨⟨_, _, rfl, rt_pr hm, rt_end rtR_Xo hK hP hS hX ht hW⟩, hS.F ht⟩) hS.2.2 d_RangeTellerModel_flags_10
set_option maxHeartbeats 4000000 in
set_option maxRecDepth 100000 in
theorem k_R_RangeTellerModel_isInstruction (l : Launch) (D : va_G) (cI cZ : ClassId) (A : Nat → Nat) (hO : rt_Ok (rtR_W cI cZ A)) (σ : rt_St) (a1 : Int32) (r' : Int32) (σ' : rt_St) (hm : M_R_RangeTellerModel_isInstruction σ a1 = some (r', σ')) (sz : Nat) : Met l y_RangeTellerModel_isInstruction (rt_ws y_RangeTellerModel_isInstruction b_RangeTellerModel_isInstruction 2 (some .boolean)) ({ frames := 0, cells := 0, slots := 0, locals := 0 } : Room) (va_Pc [.ref (A 0), .int a1] (rt_P D rt_cl (rt_t cI cZ) rtR_X (rtR_W cI cZ A) sz σ)) (va_Qi (fun r1 u1 => r1 = r' ∧ u1 = σ') (rt_B D rt_cl (rt_t cI cZ) rtR_X (rtR_W cI cZ A)) (rt_A (rtR_W cI cZ A) sz)) 0 0 (rt_A (rtR_W cI cZ A) sz) := by
  refine Met.ofW (cc := b_RangeTellerModel_isInstruction) (maxL := 2) (ret := (some .boolean)) (by decide) rfl ?_
  intro p e s m args below meth c s₁ B hml hv
  obtain ⟨rfl, rfl, hP, hK, hX⟩ := hv
  have hx := B.exec
  have hb := B.bytes
  have hr := B.returns
  have hts := atoms_spec (ws := (rt_ws y_RangeTellerModel_isInstruction b_RangeTellerModel_isInstruction 2 (some .boolean))) B.pre
  have hown : s.vm.findClass "RangeTellerModel" = some m.cls := findClass_of_methodNamed B.named
  have hlocks := B.notSynchronized
  have hD := rt_hD hO s.heap.size
  have hS : va_S (rt_A (rtR_W cI cZ A) s.heap.size) s.heap s.heap [] := va_S.rf
  have hl := lv_entry ([.ref (A 0), .int a1]) (n := 2) (Nat.le_of_ble_eq_true rfl)
  rw [lg_entry_eq]
  generalize (lg_sl ([.ref (A 0), .int a1]) ++ List.replicate (2 - (lg_sl ([.ref (A 0), .int a1])).length) Slot.unset).toArray = ls at hl ⊢
  have hl : lv_has ls 2 [(0, .ref (A 0)), (1, .int a1)] := hl
  show W p l e ({ frames := 0, cells := 0, slots := 0, locals := 0 } : Room) s m ([.ref (A 0), .int a1] : List Value).toArray below meth c s.heap [] 0 0 (rt_Qi D rt_cl (rt_t cI cZ) rtR_X (rtR_W cI cZ A) below ([.ref (A 0), .int a1] : List Value).toArray s r' σ') (F0 m 0 ls [])
  unfold M_R_RangeTellerModel_isInstruction at hm
  refine lv_aload_n hx hb d_RangeTellerModel_isInstruction_0 rfl (lv_at hl 0 rfl) ?_
  refine va_get (D := D) (v := .int (σ 0 4)) (C := "RangeTellerModel") (T := rt_T6) (N := 69) hx hb hts rt_i6 hown hK hP 0 rfl rfl 4 (by decide) (hts _ (rt_m rt_w851)) (fun _ h9 => h9) rfl d_RangeTellerModel_isInstruction_1 ?_
  refine lv_if_eq (tgt := 23) hx hb d_RangeTellerModel_isInstruction_4 (by decide) (fun hc => ?_) (fun hc => ?_)
  · have hm := (if_pos hc).symm.trans hm
    refine lv_iconst (v := 0) hx hb d_RangeTellerModel_isInstruction_23 (by decide) ?_
    exact W.zret hx hb hr rfl (fun t ht hW => ⟨⟨_, _, rfl, rt_pr hm, rt_end rtR_Xo hK hP hS hX ht hW⟩, hS.F ht⟩) hS.2.2 d_RangeTellerModel_isInstruction_24
  · have hm := (if_neg hc).symm.trans hm
    refine lv_iload_n hx hb d_RangeTellerModel_isInstruction_7 rfl (lv_at hl 1 rfl) ?_
    refine lv_if_lt (tgt := 23) hx hb d_RangeTellerModel_isInstruction_8 (by decide) (fun hc => ?_) (fun hc => ?_)
    · have hm := (if_pos hc).symm.trans hm
      refine lv_iconst (v := 0) hx hb d_RangeTellerModel_isInstruction_23 (by decide) ?_
      exact W.zret hx hb hr rfl (fun t ht hW => ⟨⟨_, _, rfl, rt_pr hm, rt_end rtR_Xo hK hP hS hX ht hW⟩, hS.F ht⟩) hS.2.2 d_RangeTellerModel_isInstruction_24
    · have hm := (if_neg hc).symm.trans hm
      refine lv_iload_n hx hb d_RangeTellerModel_isInstruction_11 rfl (lv_at hl 1 rfl) ?_
      refine lv_aload_n hx hb d_RangeTellerModel_isInstruction_12 rfl (lv_at hl 0 rfl) ?_
      refine va_get (D := D) (v := .int (σ 0 6)) (C := "RangeTellerModel") (T := rt_T6) (N := 69) hx hb hts rt_i6 hown hK hP 0 rfl rfl 6 (by decide) (hts _ (rt_m rt_w853)) (fun _ h9 => h9) rfl d_RangeTellerModel_isInstruction_13 ?_
      refine lv_icmp_ge (tgt := 23) hx hb d_RangeTellerModel_isInstruction_16 (by decide) (fun hc => ?_) (fun hc => ?_)
      · have hm := (if_pos hc).symm.trans hm
        refine lv_iconst (v := 0) hx hb d_RangeTellerModel_isInstruction_23 (by decide) ?_
        exact W.zret hx hb hr rfl (fun t ht hW => ⟨⟨_, _, rfl, rt_pr hm, rt_end rtR_Xo hK hP hS hX ht hW⟩, hS.F ht⟩) hS.2.2 d_RangeTellerModel_isInstruction_24
      · have hm := (if_neg hc).symm.trans hm
        refine lv_iconst (v := 1) hx hb d_RangeTellerModel_isInstruction_19 (by decide) ?_
        refine lv_goto (tgt := 24) hx hb d_RangeTellerModel_isInstruction_20 (by decide) ?_
        exact W.zret hx hb hr rfl (fun t ht hW => ⟨⟨_, _, rfl, rt_pr hm, rt_end rtR_Xo hK hP hS hX ht hW⟩, hS.F ht⟩) hS.2.2 d_RangeTellerModel_isInstruction_24
set_option maxHeartbeats 4000000 in
set_option maxRecDepth 100000 in
theorem k_R_RangeTellerModel_instruction (l : Launch) (D : va_G) (cI cZ : ClassId) (A : Nat → Nat) (hO : rt_Ok (rtR_W cI cZ A)) (σ : rt_St) (a1 a2 : Int32) (r' : Int32) (σ' : rt_St) (hm : M_R_RangeTellerModel_instruction σ a1 a2 = some (r', σ')) (sz : Nat) : Met l y_RangeTellerModel_instruction (rt_ws y_RangeTellerModel_instruction b_RangeTellerModel_instruction 3 (some .int)) ({ frames := 1, cells := 0, slots := 0, locals := 23 } : Room) (va_Pc [.ref (A 0), .int a1, .int a2] (rt_P D rt_cl (rt_t cI cZ) rtR_X (rtR_W cI cZ A) sz σ)) (va_Qi (fun r1 u1 => r1 = r' ∧ u1 = σ') (rt_B D rt_cl (rt_t cI cZ) rtR_X (rtR_W cI cZ A)) (rt_A (rtR_W cI cZ A) sz)) 0 0 (rt_A (rtR_W cI cZ A) sz) := by
  refine Met.ofW (cc := b_RangeTellerModel_instruction) (maxL := 3) (ret := (some .int)) (by decide) rfl ?_
  intro p e s m args below meth c s₁ B hml hv
  obtain ⟨rfl, rfl, hP, hK, hX⟩ := hv
  have hx := B.exec
  have hb := B.bytes
  have hr := B.returns
  have hts := atoms_spec (ws := (rt_ws y_RangeTellerModel_instruction b_RangeTellerModel_instruction 3 (some .int))) B.pre
  have hown : s.vm.findClass "RangeTellerModel" = some m.cls := findClass_of_methodNamed B.named
  have hlocks := B.notSynchronized
  have hD := rt_hD hO s.heap.size
  have hS : va_S (rt_A (rtR_W cI cZ A) s.heap.size) s.heap s.heap [] := va_S.rf
  have hl := lv_entry ([.ref (A 0), .int a1, .int a2]) (n := 3) (Nat.le_of_ble_eq_true rfl)
  rw [lg_entry_eq]
  generalize (lg_sl ([.ref (A 0), .int a1, .int a2]) ++ List.replicate (3 - (lg_sl ([.ref (A 0), .int a1, .int a2])).length) Slot.unset).toArray = ls at hl ⊢
  have hl : lv_has ls 3 [(0, .ref (A 0)), (1, .int a1), (2, .int a2)] := hl
  show W p l e ({ frames := 1, cells := 0, slots := 0, locals := 23 } : Room) s m ([.ref (A 0), .int a1, .int a2] : List Value).toArray below meth c s.heap [] 0 0 (rt_Qi D rt_cl (rt_t cI cZ) rtR_X (rtR_W cI cZ A) below ([.ref (A 0), .int a1, .int a2] : List Value).toArray s r' σ') (F0 m 0 ls [])
  unfold M_R_RangeTellerModel_instruction at hm
  refine lv_aload_n hx hb d_RangeTellerModel_instruction_0 rfl (lv_at hl 0 rfl) ?_
  refine lv_iload_n hx hb d_RangeTellerModel_instruction_1 rfl (lv_at hl 1 rfl) ?_
  obtain ⟨v3, σ2, h1, hm⟩ := rt_b2s hm
  refine rt_cvi (As := [.int a1]) (rest := []) (k := 0) rtR_Xo ⟨hx, hb, hml, hown, hts⟩ (k_R_RangeTellerModel_isInstruction l D cI cZ A hO σ a1 _ _ h1) (cw_RangeTellerModel_isInstruction hts (hts _ (rt_m rt_w1260)) ⟨Nat.le_of_ble_eq_true rfl, Nat.le_of_ble_eq_true rfl⟩) hK hP hS hX rfl rfl rfl hl.1 rfl (Nat.le_of_ble_eq_true rfl) d_RangeTellerModel_instruction_2 ⟨Nat.zero_le _, Nat.zero_le _⟩ (fun H locs hP hS => ?_)
  refine lv_if_ne (tgt := 11) hx hb d_RangeTellerModel_instruction_5 (by decide) (fun hc => ?_) (fun hc => ?_)
  · have hm := (if_neg hc).symm.trans hm
    refine lv_iload_n hx hb d_RangeTellerModel_instruction_11 rfl (lv_at hl 2 rfl) ?_
    by_cases c4 : a2 = 0
    · have hm := (if_pos c4).symm.trans hm
      refine lv_tableIn (off := 40) (tgt := 52) hx hb d_RangeTellerModel_instruction_12 (by rw [c4]; decide) (by rw [c4]; decide) (by rw [c4]; rfl) (by decide) ?_
      refine lv_aload_n hx hb d_RangeTellerModel_instruction_52 rfl (lv_at hl 0 rfl) ?_
      refine va_get (D := D) (v := .ref (A 2)) (C := "RangeTellerModel") (T := rt_T6) (N := 69) hx hb hts rt_i6 hown hK hP 0 rfl rfl 7 (by decide) (hts _ (rt_m rt_w854)) (fun _ h9 => h9) rfl d_RangeTellerModel_instruction_53 ?_
      refine lv_iload_n hx hb d_RangeTellerModel_instruction_56 rfl (lv_at hl 1 rfl) ?_
      obtain ⟨v5, h6, hm⟩ := rt_b1s hm
      refine rt_ald hx hb hK hP 2 0 rfl rfl h6 d_RangeTellerModel_instruction_57 ?_
      exact W.iret hx hb hr (fun t ht hW => ⟨⟨_, _, rfl, rt_pr hm, rt_end rtR_Xo hK hP hS hX ht hW⟩, hS.F ht⟩) hS.2.2 d_RangeTellerModel_instruction_58
    have hm := (if_neg c4).symm.trans hm
    by_cases c7 : a2 = 1
    · have hm := (if_pos c7).symm.trans hm
      refine lv_tableIn (off := 47) (tgt := 59) hx hb d_RangeTellerModel_instruction_12 (by rw [c7]; decide) (by rw [c7]; decide) (by rw [c7]; rfl) (by decide) ?_
      refine lv_aload_n hx hb d_RangeTellerModel_instruction_59 rfl (lv_at hl 0 rfl) ?_
      refine va_get (D := D) (v := .ref (A 3)) (C := "RangeTellerModel") (T := rt_T6) (N := 69) hx hb hts rt_i6 hown hK hP 0 rfl rfl 8 (by decide) (hts _ (rt_m rt_w855)) (fun _ h9 => h9) rfl d_RangeTellerModel_instruction_60 ?_
      refine lv_iload_n hx hb d_RangeTellerModel_instruction_63 rfl (lv_at hl 1 rfl) ?_
      obtain ⟨v8, h9, hm⟩ := rt_b1s hm
      refine rt_ald hx hb hK hP 3 0 rfl rfl h9 d_RangeTellerModel_instruction_64 ?_
      exact W.iret hx hb hr (fun t ht hW => ⟨⟨_, _, rfl, rt_pr hm, rt_end rtR_Xo hK hP hS hX ht hW⟩, hS.F ht⟩) hS.2.2 d_RangeTellerModel_instruction_65
    have hm := (if_neg c7).symm.trans hm
    by_cases c10 : a2 = 2
    · have hm := (if_pos c10).symm.trans hm
      refine lv_tableIn (off := 54) (tgt := 66) hx hb d_RangeTellerModel_instruction_12 (by rw [c10]; decide) (by rw [c10]; decide) (by rw [c10]; rfl) (by decide) ?_
      refine lv_aload_n hx hb d_RangeTellerModel_instruction_66 rfl (lv_at hl 0 rfl) ?_
      refine va_get (D := D) (v := .ref (A 26)) (C := "RangeTellerModel") (T := rt_T6) (N := 69) hx hb hts rt_i6 hown hK hP 0 rfl rfl 43 (by decide) (hts _ (rt_m rt_w890)) (fun _ h9 => h9) rfl d_RangeTellerModel_instruction_67 ?_
      refine lv_iload_n hx hb d_RangeTellerModel_instruction_70 rfl (lv_at hl 1 rfl) ?_
      obtain ⟨v11, h12, hm⟩ := rt_b1s hm
      refine rt_zld hx hb hK hP 26 1 rfl rfl h12 d_RangeTellerModel_instruction_71 ?_
      refine lv_if_eq (tgt := 79) hx hb d_RangeTellerModel_instruction_72 (by decide) (fun hc => ?_) (fun hc => ?_)
      · have hm := (if_pos hc).symm.trans hm
        refine lv_iconst (v := 0) hx hb d_RangeTellerModel_instruction_79 (by decide) ?_
        exact W.iret hx hb hr (fun t ht hW => ⟨⟨_, _, rfl, rt_pr hm, rt_end rtR_Xo hK hP hS hX ht hW⟩, hS.F ht⟩) hS.2.2 d_RangeTellerModel_instruction_80
      · have hm := (if_neg hc).symm.trans hm
        refine lv_iconst (v := 1) hx hb d_RangeTellerModel_instruction_75 (by decide) ?_
        refine lv_goto (tgt := 80) hx hb d_RangeTellerModel_instruction_76 (by decide) ?_
        exact W.iret hx hb hr (fun t ht hW => ⟨⟨_, _, rfl, rt_pr hm, rt_end rtR_Xo hK hP hS hX ht hW⟩, hS.F ht⟩) hS.2.2 d_RangeTellerModel_instruction_80
    have hm := (if_neg c10).symm.trans hm
    by_cases c13 : a2 = 3
    · have hm := (if_pos c13).symm.trans hm
      refine lv_tableIn (off := 69) (tgt := 81) hx hb d_RangeTellerModel_instruction_12 (by rw [c13]; decide) (by rw [c13]; decide) (by rw [c13]; rfl) (by decide) ?_
      refine lv_aload_n hx hb d_RangeTellerModel_instruction_81 rfl (lv_at hl 0 rfl) ?_
      refine lv_iload_n hx hb d_RangeTellerModel_instruction_82 rfl (lv_at hl 1 rfl) ?_
      obtain ⟨v16, σ15, h14, hm⟩ := rt_b2s hm
      refine rt_cvi (As := [.int a1]) (rest := []) (k := 0) rtR_Xo ⟨hx, hb, hml, hown, hts⟩ (k_R_RangeTellerModel_flags l D cI cZ A hO σ2 a1 _ _ h14) (cw_RangeTellerModel_flags hts (hts _ (rt_m rt_w1264)) ⟨Nat.le_of_ble_eq_true rfl, Nat.le_of_ble_eq_true rfl⟩) hK hP hS hX rfl rfl rfl hl.1 rfl (Nat.le_of_ble_eq_true rfl) d_RangeTellerModel_instruction_83 ⟨Nat.zero_le _, Nat.zero_le _⟩ (fun H locs hP hS => ?_)
      exact W.iret hx hb hr (fun t ht hW => ⟨⟨_, _, rfl, rt_pr hm, rt_end rtR_Xo hK hP hS hX ht hW⟩, hS.F ht⟩) hS.2.2 d_RangeTellerModel_instruction_86
    have hm := (if_neg c13).symm.trans hm
    by_cases c17 : a2 = 4
    · have hm := (if_pos c17).symm.trans hm
      refine lv_tableIn (off := 75) (tgt := 87) hx hb d_RangeTellerModel_instruction_12 (by rw [c17]; decide) (by rw [c17]; decide) (by rw [c17]; rfl) (by decide) ?_
      refine lv_aload_n hx hb d_RangeTellerModel_instruction_87 rfl (lv_at hl 0 rfl) ?_
      refine va_get (D := D) (v := .ref (A 5)) (C := "RangeTellerModel") (T := rt_T6) (N := 69) hx hb hts rt_i6 hown hK hP 0 rfl rfl 10 (by decide) (hts _ (rt_m rt_w857)) (fun _ h9 => h9) rfl d_RangeTellerModel_instruction_88 ?_
      refine lv_iload_n hx hb d_RangeTellerModel_instruction_91 rfl (lv_at hl 1 rfl) ?_
      obtain ⟨v18, h19, hm⟩ := rt_b1s hm
      refine rt_ald hx hb hK hP 5 0 rfl rfl h19 d_RangeTellerModel_instruction_92 ?_
      refine lv_if_lt (tgt := 107) hx hb d_RangeTellerModel_instruction_93 (by decide) (fun hc => ?_) (fun hc => ?_)
      · have hm := (if_pos hc).symm.trans hm
        refine lv_bipush (v := (-3)) hx hb d_RangeTellerModel_instruction_107 (by decide) ?_
        exact W.iret hx hb hr (fun t ht hW => ⟨⟨_, _, rfl, rt_pr hm, rt_end rtR_Xo hK hP hS hX ht hW⟩, hS.F ht⟩) hS.2.2 d_RangeTellerModel_instruction_109
      · have hm := (if_neg hc).symm.trans hm
        refine lv_aload_n hx hb d_RangeTellerModel_instruction_96 rfl (lv_at hl 0 rfl) ?_
        refine va_get (D := D) (v := .ref (A 5)) (C := "RangeTellerModel") (T := rt_T6) (N := 69) hx hb hts rt_i6 hown hK hP 0 rfl rfl 10 (by decide) (hts _ (rt_m rt_w857)) (fun _ h9 => h9) rfl d_RangeTellerModel_instruction_97 ?_
        refine lv_iload_n hx hb d_RangeTellerModel_instruction_100 rfl (lv_at hl 1 rfl) ?_
        obtain ⟨v20, h21, hm⟩ := rt_b1s hm
        refine rt_ald hx hb hK hP 5 0 rfl rfl h21 d_RangeTellerModel_instruction_101 ?_
        refine lv_iconst (v := 1) hx hb d_RangeTellerModel_instruction_102 (by decide) ?_
        refine lv_iadd hx hb d_RangeTellerModel_instruction_103 ?_
        refine lv_goto (tgt := 109) hx hb d_RangeTellerModel_instruction_104 (by decide) ?_
        exact W.iret hx hb hr (fun t ht hW => ⟨⟨_, _, rfl, rt_pr hm, rt_end rtR_Xo hK hP hS hX ht hW⟩, hS.F ht⟩) hS.2.2 d_RangeTellerModel_instruction_109
    have hm := (if_neg c17).symm.trans hm
    by_cases c22 : a2 = 5
    · have hm := (if_pos c22).symm.trans hm
      refine lv_tableIn (off := 98) (tgt := 110) hx hb d_RangeTellerModel_instruction_12 (by rw [c22]; decide) (by rw [c22]; decide) (by rw [c22]; rfl) (by decide) ?_
      refine lv_aload_n hx hb d_RangeTellerModel_instruction_110 rfl (lv_at hl 0 rfl) ?_
      refine va_get (D := D) (v := .ref (A 26)) (C := "RangeTellerModel") (T := rt_T6) (N := 69) hx hb hts rt_i6 hown hK hP 0 rfl rfl 43 (by decide) (hts _ (rt_m rt_w890)) (fun _ h9 => h9) rfl d_RangeTellerModel_instruction_111 ?_
      refine lv_iload_n hx hb d_RangeTellerModel_instruction_114 rfl (lv_at hl 1 rfl) ?_
      obtain ⟨v23, h24, hm⟩ := rt_b1s hm
      refine rt_zld hx hb hK hP 26 1 rfl rfl h24 d_RangeTellerModel_instruction_115 ?_
      refine lv_if_eq (tgt := 128) hx hb d_RangeTellerModel_instruction_116 (by decide) (fun hc => ?_) (fun hc => ?_)
      · have hm := (if_pos hc).symm.trans hm
        refine lv_bipush (v := (-3)) hx hb d_RangeTellerModel_instruction_128 (by decide) ?_
        exact W.iret hx hb hr (fun t ht hW => ⟨⟨_, _, rfl, rt_pr hm, rt_end rtR_Xo hK hP hS hX ht hW⟩, hS.F ht⟩) hS.2.2 d_RangeTellerModel_instruction_130
      · have hm := (if_neg hc).symm.trans hm
        refine lv_aload_n hx hb d_RangeTellerModel_instruction_119 rfl (lv_at hl 0 rfl) ?_
        refine va_get (D := D) (v := .ref (A 7)) (C := "RangeTellerModel") (T := rt_T6) (N := 69) hx hb hts rt_i6 hown hK hP 0 rfl rfl 12 (by decide) (hts _ (rt_m rt_w859)) (fun _ h9 => h9) rfl d_RangeTellerModel_instruction_120 ?_
        refine lv_iload_n hx hb d_RangeTellerModel_instruction_123 rfl (lv_at hl 1 rfl) ?_
        obtain ⟨v25, h26, hm⟩ := rt_b1s hm
        refine rt_ald hx hb hK hP 7 0 rfl rfl h26 d_RangeTellerModel_instruction_124 ?_
        refine lv_goto (tgt := 130) hx hb d_RangeTellerModel_instruction_125 (by decide) ?_
        exact W.iret hx hb hr (fun t ht hW => ⟨⟨_, _, rfl, rt_pr hm, rt_end rtR_Xo hK hP hS hX ht hW⟩, hS.F ht⟩) hS.2.2 d_RangeTellerModel_instruction_130
    have hm := (if_neg c22).symm.trans hm
    refine lv_tableOut (tgt := 131) hx hb d_RangeTellerModel_instruction_12 (by have := lv_neT (a := 0) c4 rfl; have := lv_neT (a := 1) c7 rfl; have := lv_neT (a := 2) c10 rfl; have := lv_neT (a := 3) c13 rfl; have := lv_neT (a := 4) c17 rfl; have := lv_neT (a := 5) c22 rfl; omega) (by decide) ?_
    refine lv_bipush (v := (-3)) hx hb d_RangeTellerModel_instruction_131 (by decide) ?_
    exact W.iret hx hb hr (fun t ht hW => ⟨⟨_, _, rfl, rt_pr hm, rt_end rtR_Xo hK hP hS hX ht hW⟩, hS.F ht⟩) hS.2.2 d_RangeTellerModel_instruction_133
  · have hm := (if_pos hc).symm.trans hm
    refine lv_bipush (v := (-3)) hx hb d_RangeTellerModel_instruction_8 (by decide) ?_
    exact W.iret hx hb hr (fun t ht hW => ⟨⟨_, _, rfl, rt_pr hm, rt_end rtR_Xo hK hP hS hX ht hW⟩, hS.F ht⟩) hS.2.2 d_RangeTellerModel_instruction_10
set_option maxHeartbeats 4000000 in
set_option maxRecDepth 100000 in
theorem k_R_RangeTellerModel_code (l : Launch) (a0 a1 a2 : Int32) (r' : Int32) (hm : M_R_RangeTellerModel_code a0 a1 a2 = some r') : rt_MS l y_RangeTellerModel_code b_RangeTellerModel_code 3 (some .int) ({ frames := 0, cells := 0, slots := 0, locals := 0 } : Room) rt_X0 [.int a0, .int a1, .int a2] r' := by
  intro sz
  refine Met.ofW (cc := b_RangeTellerModel_code) (maxL := 3) (ret := (some .int)) (by decide) rfl ?_
  intro p e s m args below meth c s₁ B hml hv
  obtain ⟨rfl, rfl, hX⟩ := hv
  have hx := B.exec
  have hb := B.bytes
  have hr := B.returns
  have hts := atoms_spec (ws := (rt_ws y_RangeTellerModel_code b_RangeTellerModel_code 3 (some .int))) B.pre
  have hown : s.vm.findClass "RangeTellerModel" = some m.cls := findClass_of_methodNamed B.named
  have hlocks := B.notSynchronized
  have hS : va_S (fun q => s.heap.size ≤ q) s.heap s.heap [] := va_S.rf
  have hl := lv_entry ([.int a0, .int a1, .int a2]) (n := 3) (Nat.le_of_ble_eq_true rfl)
  rw [lg_entry_eq]
  generalize (lg_sl ([.int a0, .int a1, .int a2]) ++ List.replicate (3 - (lg_sl ([.int a0, .int a1, .int a2])).length) Slot.unset).toArray = ls at hl ⊢
  have hl : lv_has ls 3 [(0, .int a0), (1, .int a1), (2, .int a2)] := hl
  show W p l e ({ frames := 0, cells := 0, slots := 0, locals := 0 } : Room) s m ([.int a0, .int a1, .int a2] : List Value).toArray below meth c s.heap [] 0 0 (rt_Qs below ([.int a0, .int a1, .int a2] : List Value).toArray s r') (F0 m 0 ls [])
  unfold M_R_RangeTellerModel_code at hm
  refine lv_iload_n hx hb d_RangeTellerModel_code_0 rfl (lv_at hl 0 rfl) ?_
  refine lv_bipush (v := 64) hx hb d_RangeTellerModel_code_1 (by decide) ?_
  refine lv_iload_n hx hb d_RangeTellerModel_code_3 rfl (lv_at hl 1 rfl) ?_
  refine lv_imul hx hb d_RangeTellerModel_code_4 ?_
  refine lv_iadd hx hb d_RangeTellerModel_code_5 ?_
  refine lv_iload_n hx hb d_RangeTellerModel_code_6 rfl (lv_at hl 2 rfl) ?_
  refine lv_if_eq (tgt := 16) hx hb d_RangeTellerModel_code_7 (by decide) (fun hc => ?_) (fun hc => ?_)
  · have hm := (if_pos hc).symm.trans hm
    refine lv_iconst (v := 0) hx hb d_RangeTellerModel_code_16 (by decide) ?_
    refine lv_iadd hx hb d_RangeTellerModel_code_17 ?_
    exact W.iret hx hb hr (fun t ht hW => ⟨⟨_, (), rfl, Option.some.inj hm, trivial⟩, hS.F ht⟩) hS.2.2 d_RangeTellerModel_code_18
  · have hm := (if_neg hc).symm.trans hm
    refine lv_sipush (v := 4096) hx hb d_RangeTellerModel_code_10 (by decide) ?_
    refine lv_goto (tgt := 17) hx hb d_RangeTellerModel_code_13 (by decide) ?_
    refine lv_iadd hx hb d_RangeTellerModel_code_17 ?_
    exact W.iret hx hb hr (fun t ht hW => ⟨⟨_, (), rfl, Option.some.inj hm, trivial⟩, hS.F ht⟩) hS.2.2 d_RangeTellerModel_code_18
set_option maxHeartbeats 4000000 in
set_option maxRecDepth 100000 in
theorem k_R_RangeTellerModel_operand (l : Launch) (D : va_G) (cI cZ : ClassId) (A : Nat → Nat) (hO : rt_Ok (rtR_W cI cZ A)) (σ : rt_St) (a1 a2 : Int32) (r' : Int32) (σ' : rt_St) (hm : M_R_RangeTellerModel_operand σ a1 a2 = some (r', σ')) (sz : Nat) : Met l y_RangeTellerModel_operand (rt_ws y_RangeTellerModel_operand b_RangeTellerModel_operand 4 (some .int)) ({ frames := 1, cells := 0, slots := 0, locals := 22 } : Room) (va_Pc [.ref (A 0), .int a1, .int a2] (rt_P D rt_cl (rt_t cI cZ) rtR_X (rtR_W cI cZ A) sz σ)) (va_Qi (fun r1 u1 => r1 = r' ∧ u1 = σ') (rt_B D rt_cl (rt_t cI cZ) rtR_X (rtR_W cI cZ A)) (rt_A (rtR_W cI cZ A) sz)) 0 0 (rt_A (rtR_W cI cZ A) sz) := by
  refine Met.ofW (cc := b_RangeTellerModel_operand) (maxL := 4) (ret := (some .int)) (by decide) rfl ?_
  intro p e s m args below meth c s₁ B hml hv
  obtain ⟨rfl, rfl, hP, hK, hX⟩ := hv
  have hx := B.exec
  have hb := B.bytes
  have hr := B.returns
  have hts := atoms_spec (ws := (rt_ws y_RangeTellerModel_operand b_RangeTellerModel_operand 4 (some .int))) B.pre
  have hown : s.vm.findClass "RangeTellerModel" = some m.cls := findClass_of_methodNamed B.named
  have hlocks := B.notSynchronized
  have hD := rt_hD hO s.heap.size
  have hS : va_S (rt_A (rtR_W cI cZ A) s.heap.size) s.heap s.heap [] := va_S.rf
  have hl := lv_entry ([.ref (A 0), .int a1, .int a2]) (n := 4) (Nat.le_of_ble_eq_true rfl)
  rw [lg_entry_eq]
  generalize (lg_sl ([.ref (A 0), .int a1, .int a2]) ++ List.replicate (4 - (lg_sl ([.ref (A 0), .int a1, .int a2])).length) Slot.unset).toArray = ls at hl ⊢
  have hl : lv_has ls 4 [(0, .ref (A 0)), (1, .int a1), (2, .int a2)] := hl
  show W p l e ({ frames := 1, cells := 0, slots := 0, locals := 22 } : Room) s m ([.ref (A 0), .int a1, .int a2] : List Value).toArray below meth c s.heap [] 0 0 (rt_Qi D rt_cl (rt_t cI cZ) rtR_X (rtR_W cI cZ A) below ([.ref (A 0), .int a1, .int a2] : List Value).toArray s r' σ') (F0 m 0 ls [])
  unfold M_R_RangeTellerModel_operand at hm
  refine lv_aload_n hx hb d_RangeTellerModel_operand_0 rfl (lv_at hl 0 rfl) ?_
  refine lv_iload_n hx hb d_RangeTellerModel_operand_1 rfl (lv_at hl 1 rfl) ?_
  obtain ⟨v3, σ2, h1, hm⟩ := rt_b2s hm
  refine rt_cvi (As := [.int a1]) (rest := []) (k := 0) rtR_Xo ⟨hx, hb, hml, hown, hts⟩ (k_R_RangeTellerModel_isInstruction l D cI cZ A hO σ a1 _ _ h1) (cw_RangeTellerModel_isInstruction hts (hts _ (rt_m rt_w1260)) ⟨Nat.le_of_ble_eq_true rfl, Nat.le_of_ble_eq_true rfl⟩) hK hP hS hX rfl rfl rfl hl.1 rfl (Nat.le_of_ble_eq_true rfl) d_RangeTellerModel_operand_2 ⟨Nat.zero_le _, Nat.zero_le _⟩ (fun H locs hP hS => ?_)
  refine lv_if_ne (tgt := 11) hx hb d_RangeTellerModel_operand_5 (by decide) (fun hc => ?_) (fun hc => ?_)
  · have hm := (if_neg hc).symm.trans hm
    refine lv_aload_n hx hb d_RangeTellerModel_operand_11 rfl (lv_at hl 0 rfl) ?_
    refine va_get (D := D) (v := .ref (A 26)) (C := "RangeTellerModel") (T := rt_T6) (N := 69) hx hb hts rt_i6 hown hK hP 0 rfl rfl 43 (by decide) (hts _ (rt_m rt_w890)) (fun _ h9 => h9) rfl d_RangeTellerModel_operand_12 ?_
    refine lv_iload_n hx hb d_RangeTellerModel_operand_15 rfl (lv_at hl 1 rfl) ?_
    obtain ⟨v4, h5, hm⟩ := rt_b1s hm
    refine rt_zld hx hb hK hP 26 1 rfl rfl h5 d_RangeTellerModel_operand_16 ?_
    refine lv_if_eq (tgt := 34) hx hb d_RangeTellerModel_operand_17 (by decide) (fun hc => ?_) (fun hc => ?_)
    · have hm := (if_pos hc).symm.trans hm
      refine lv_bipush (v := (-3)) hx hb d_RangeTellerModel_operand_34 (by decide) ?_
      exact W.iret hx hb hr (fun t ht hW => ⟨⟨_, _, rfl, rt_pr hm, rt_end rtR_Xo hK hP hS hX ht hW⟩, hS.F ht⟩) hS.2.2 d_RangeTellerModel_operand_36
    · have hm := (if_neg hc).symm.trans hm
      refine lv_iload_n hx hb d_RangeTellerModel_operand_20 rfl (lv_at hl 2 rfl) ?_
      refine lv_if_lt (tgt := 34) hx hb d_RangeTellerModel_operand_21 (by decide) (fun hc => ?_) (fun hc => ?_)
      · have hm := (if_pos hc).symm.trans hm
        refine lv_bipush (v := (-3)) hx hb d_RangeTellerModel_operand_34 (by decide) ?_
        exact W.iret hx hb hr (fun t ht hW => ⟨⟨_, _, rfl, rt_pr hm, rt_end rtR_Xo hK hP hS hX ht hW⟩, hS.F ht⟩) hS.2.2 d_RangeTellerModel_operand_36
      · have hm := (if_neg hc).symm.trans hm
        refine lv_iload_n hx hb d_RangeTellerModel_operand_24 rfl (lv_at hl 2 rfl) ?_
        refine lv_aload_n hx hb d_RangeTellerModel_operand_25 rfl (lv_at hl 0 rfl) ?_
        refine va_get (D := D) (v := .ref (A 7)) (C := "RangeTellerModel") (T := rt_T6) (N := 69) hx hb hts rt_i6 hown hK hP 0 rfl rfl 12 (by decide) (hts _ (rt_m rt_w859)) (fun _ h9 => h9) rfl d_RangeTellerModel_operand_26 ?_
        refine lv_iload_n hx hb d_RangeTellerModel_operand_29 rfl (lv_at hl 1 rfl) ?_
        obtain ⟨v6, h7, hm⟩ := rt_b1s hm
        refine rt_ald hx hb hK hP 7 0 rfl rfl h7 d_RangeTellerModel_operand_30 ?_
        refine lv_icmp_lt (tgt := 37) hx hb d_RangeTellerModel_operand_31 (by decide) (fun hc => ?_) (fun hc => ?_)
        · have hm := (if_pos hc).symm.trans hm
          refine lv_bipush (v := 10) hx hb d_RangeTellerModel_operand_37 (by decide) ?_
          refine lv_iload_n hx hb d_RangeTellerModel_operand_39 rfl (lv_at hl 1 rfl) ?_
          refine lv_imul hx hb d_RangeTellerModel_operand_40 ?_
          refine lv_aload_n hx hb d_RangeTellerModel_operand_41 rfl (lv_at hl 0 rfl) ?_
          refine va_get (D := D) (v := .ref (A 7)) (C := "RangeTellerModel") (T := rt_T6) (N := 69) hx hb hts rt_i6 hown hK hP 0 rfl rfl 12 (by decide) (hts _ (rt_m rt_w859)) (fun _ h9 => h9) rfl d_RangeTellerModel_operand_42 ?_
          refine lv_iload_n hx hb d_RangeTellerModel_operand_45 rfl (lv_at hl 1 rfl) ?_
          obtain ⟨v8, h9, hm⟩ := rt_b1s hm
          refine rt_ald hx hb hK hP 7 0 rfl rfl h9 d_RangeTellerModel_operand_46 ?_
          refine lv_iadd hx hb d_RangeTellerModel_operand_47 ?_
          refine lv_iconst (v := 1) hx hb d_RangeTellerModel_operand_48 (by decide) ?_
          refine lv_isub hx hb d_RangeTellerModel_operand_49 ?_
          refine lv_iload_n hx hb d_RangeTellerModel_operand_50 rfl (lv_at hl 2 rfl) ?_
          refine lv_isub hx hb d_RangeTellerModel_operand_51 ?_
          refine lv_istore_n hx hb d_RangeTellerModel_operand_52 rfl hl (by decide) rfl (fun ls hl => ?_)
          have hl : lv_has ls 4 [(3, .int ((((10 * a1) + v8) - 1) - a2)), (0, .ref (A 0)), (1, .int a1), (2, .int a2)] := hl
          refine lv_aload_n hx hb d_RangeTellerModel_operand_53 rfl (lv_at hl 1 rfl) ?_
          refine va_get (D := D) (v := .ref (A 28)) (C := "RangeTellerModel") (T := rt_T6) (N := 69) hx hb hts rt_i6 hown hK hP 0 rfl rfl 45 (by decide) (hts _ (rt_m rt_w892)) (fun _ h9 => h9) rfl d_RangeTellerModel_operand_54 ?_
          refine lv_iload_n hx hb d_RangeTellerModel_operand_57 rfl (lv_at hl 0 rfl) ?_
          obtain ⟨v10, h11, hm⟩ := rt_b1s hm
          refine rt_ald hx hb hK hP 28 0 rfl rfl h11 d_RangeTellerModel_operand_58 ?_
          refine lv_aload_n hx hb d_RangeTellerModel_operand_59 rfl (lv_at hl 1 rfl) ?_
          refine va_get (D := D) (v := .ref (A 29)) (C := "RangeTellerModel") (T := rt_T6) (N := 69) hx hb hts rt_i6 hown hK hP 0 rfl rfl 46 (by decide) (hts _ (rt_m rt_w893)) (fun _ h9 => h9) rfl d_RangeTellerModel_operand_60 ?_
          refine lv_iload_n hx hb d_RangeTellerModel_operand_63 rfl (lv_at hl 0 rfl) ?_
          obtain ⟨v12, h13, hm⟩ := rt_b1s hm
          refine rt_ald hx hb hK hP 29 0 rfl rfl h13 d_RangeTellerModel_operand_64 ?_
          refine lv_aload_n hx hb d_RangeTellerModel_operand_65 rfl (lv_at hl 1 rfl) ?_
          refine va_get (D := D) (v := .ref (A 30)) (C := "RangeTellerModel") (T := rt_T6) (N := 69) hx hb hts rt_i6 hown hK hP 0 rfl rfl 47 (by decide) (hts _ (rt_m rt_w894)) (fun _ h9 => h9) rfl d_RangeTellerModel_operand_66 ?_
          refine lv_iload_n hx hb d_RangeTellerModel_operand_69 rfl (lv_at hl 0 rfl) ?_
          obtain ⟨v14, h15, hm⟩ := rt_b1s hm
          refine rt_zld hx hb hK hP 30 1 rfl rfl h15 d_RangeTellerModel_operand_70 ?_
          obtain ⟨v17, h16, hm⟩ := rt_b1s hm
          refine rt_csi (As := [.int v10, .int v12, .int v14]) (rest := []) rt_X0o ⟨hx, hb, hml, hown, hts⟩ (k_R_RangeTellerModel_code l v10 v12 v14 _ h16) (cw_RangeTellerModel_code hts (hts _ (rt_m rt_w1272)) ⟨Nat.le_of_ble_eq_true rfl, Nat.le_of_ble_eq_true rfl⟩) hS (fun _ h => Or.inr h) trivial rfl hl.1 rfl (Nat.le_of_ble_eq_true rfl) d_RangeTellerModel_operand_71 ⟨Nat.zero_le _, Nat.zero_le _⟩ (fun H locs hk hS => ?_)
          have hP := rt_keep hP hk
          clear hk
          exact W.iret hx hb hr (fun t ht hW => ⟨⟨_, _, rfl, rt_pr hm, rt_end rtR_Xo hK hP hS hX ht hW⟩, hS.F ht⟩) hS.2.2 d_RangeTellerModel_operand_74
        · have hm := (if_neg hc).symm.trans hm
          refine lv_bipush (v := (-3)) hx hb d_RangeTellerModel_operand_34 (by decide) ?_
          exact W.iret hx hb hr (fun t ht hW => ⟨⟨_, _, rfl, rt_pr hm, rt_end rtR_Xo hK hP hS hX ht hW⟩, hS.F ht⟩) hS.2.2 d_RangeTellerModel_operand_36
  · have hm := (if_pos hc).symm.trans hm
    refine lv_bipush (v := (-3)) hx hb d_RangeTellerModel_operand_8 (by decide) ?_
    exact W.iret hx hb hr (fun t ht hW => ⟨⟨_, _, rfl, rt_pr hm, rt_end rtR_Xo hK hP hS hX ht hW⟩, hS.F ht⟩) hS.2.2 d_RangeTellerModel_operand_10
set_option maxHeartbeats 4000000 in
set_option maxRecDepth 100000 in
theorem k_R_RangeTellerModel_local (l : Launch) (D : va_G) (cI cZ : ClassId) (A : Nat → Nat) (hO : rt_Ok (rtR_W cI cZ A)) (σ : rt_St) (a1 a2 : Int32) (r' : Int32) (σ' : rt_St) (hm : M_R_RangeTellerModel_local σ a1 a2 = some (r', σ')) (sz : Nat) : Met l y_RangeTellerModel_local (rt_ws y_RangeTellerModel_local b_RangeTellerModel_local 3 (some .int)) ({ frames := 1, cells := 0, slots := 0, locals := 22 } : Room) (va_Pc [.ref (A 0), .int a1, .int a2] (rt_P D rt_cl (rt_t cI cZ) rtR_X (rtR_W cI cZ A) sz σ)) (va_Qi (fun r1 u1 => r1 = r' ∧ u1 = σ') (rt_B D rt_cl (rt_t cI cZ) rtR_X (rtR_W cI cZ A)) (rt_A (rtR_W cI cZ A) sz)) 0 0 (rt_A (rtR_W cI cZ A) sz) := by
  refine Met.ofW (cc := b_RangeTellerModel_local) (maxL := 3) (ret := (some .int)) (by decide) rfl ?_
  intro p e s m args below meth c s₁ B hml hv
  obtain ⟨rfl, rfl, hP, hK, hX⟩ := hv
  have hx := B.exec
  have hb := B.bytes
  have hr := B.returns
  have hts := atoms_spec (ws := (rt_ws y_RangeTellerModel_local b_RangeTellerModel_local 3 (some .int))) B.pre
  have hown : s.vm.findClass "RangeTellerModel" = some m.cls := findClass_of_methodNamed B.named
  have hlocks := B.notSynchronized
  have hD := rt_hD hO s.heap.size
  have hS : va_S (rt_A (rtR_W cI cZ A) s.heap.size) s.heap s.heap [] := va_S.rf
  have hl := lv_entry ([.ref (A 0), .int a1, .int a2]) (n := 3) (Nat.le_of_ble_eq_true rfl)
  rw [lg_entry_eq]
  generalize (lg_sl ([.ref (A 0), .int a1, .int a2]) ++ List.replicate (3 - (lg_sl ([.ref (A 0), .int a1, .int a2])).length) Slot.unset).toArray = ls at hl ⊢
  have hl : lv_has ls 3 [(0, .ref (A 0)), (1, .int a1), (2, .int a2)] := hl
  show W p l e ({ frames := 1, cells := 0, slots := 0, locals := 22 } : Room) s m ([.ref (A 0), .int a1, .int a2] : List Value).toArray below meth c s.heap [] 0 0 (rt_Qi D rt_cl (rt_t cI cZ) rtR_X (rtR_W cI cZ A) below ([.ref (A 0), .int a1, .int a2] : List Value).toArray s r' σ') (F0 m 0 ls [])
  unfold M_R_RangeTellerModel_local at hm
  refine lv_aload_n hx hb d_RangeTellerModel_local_0 rfl (lv_at hl 0 rfl) ?_
  refine lv_iload_n hx hb d_RangeTellerModel_local_1 rfl (lv_at hl 1 rfl) ?_
  obtain ⟨v3, σ2, h1, hm⟩ := rt_b2s hm
  refine rt_cvi (As := [.int a1]) (rest := []) (k := 0) rtR_Xo ⟨hx, hb, hml, hown, hts⟩ (k_R_RangeTellerModel_isInstruction l D cI cZ A hO σ a1 _ _ h1) (cw_RangeTellerModel_isInstruction hts (hts _ (rt_m rt_w1260)) ⟨Nat.le_of_ble_eq_true rfl, Nat.le_of_ble_eq_true rfl⟩) hK hP hS hX rfl rfl rfl hl.1 rfl (Nat.le_of_ble_eq_true rfl) d_RangeTellerModel_local_2 ⟨Nat.zero_le _, Nat.zero_le _⟩ (fun H locs hP hS => ?_)
  refine lv_if_ne (tgt := 11) hx hb d_RangeTellerModel_local_5 (by decide) (fun hc => ?_) (fun hc => ?_)
  · have hm := (if_neg hc).symm.trans hm
    refine lv_aload_n hx hb d_RangeTellerModel_local_11 rfl (lv_at hl 0 rfl) ?_
    refine va_get (D := D) (v := .ref (A 26)) (C := "RangeTellerModel") (T := rt_T6) (N := 69) hx hb hts rt_i6 hown hK hP 0 rfl rfl 43 (by decide) (hts _ (rt_m rt_w890)) (fun _ h9 => h9) rfl d_RangeTellerModel_local_12 ?_
    refine lv_iload_n hx hb d_RangeTellerModel_local_15 rfl (lv_at hl 1 rfl) ?_
    obtain ⟨v4, h5, hm⟩ := rt_b1s hm
    refine rt_zld hx hb hK hP 26 1 rfl rfl h5 d_RangeTellerModel_local_16 ?_
    refine lv_if_eq (tgt := 51) hx hb d_RangeTellerModel_local_17 (by decide) (fun hc => ?_) (fun hc => ?_)
    · have hm := (if_pos hc).symm.trans hm
      refine lv_bipush (v := (-3)) hx hb d_RangeTellerModel_local_51 (by decide) ?_
      exact W.iret hx hb hr (fun t ht hW => ⟨⟨_, _, rfl, rt_pr hm, rt_end rtR_Xo hK hP hS hX ht hW⟩, hS.F ht⟩) hS.2.2 d_RangeTellerModel_local_53
    · have hm := (if_neg hc).symm.trans hm
      refine lv_iload_n hx hb d_RangeTellerModel_local_20 rfl (lv_at hl 2 rfl) ?_
      refine lv_if_lt (tgt := 51) hx hb d_RangeTellerModel_local_21 (by decide) (fun hc => ?_) (fun hc => ?_)
      · have hm := (if_pos hc).symm.trans hm
        refine lv_bipush (v := (-3)) hx hb d_RangeTellerModel_local_51 (by decide) ?_
        exact W.iret hx hb hr (fun t ht hW => ⟨⟨_, _, rfl, rt_pr hm, rt_end rtR_Xo hK hP hS hX ht hW⟩, hS.F ht⟩) hS.2.2 d_RangeTellerModel_local_53
      · have hm := (if_neg hc).symm.trans hm
        refine lv_iload_n hx hb d_RangeTellerModel_local_24 rfl (lv_at hl 2 rfl) ?_
        refine lv_aload_n hx hb d_RangeTellerModel_local_25 rfl (lv_at hl 0 rfl) ?_
        refine va_get (D := D) (v := .ref (A 11)) (C := "RangeTellerModel") (T := rt_T6) (N := 69) hx hb hts rt_i6 hown hK hP 0 rfl rfl 17 (by decide) (hts _ (rt_m rt_w864)) (fun _ h9 => h9) rfl d_RangeTellerModel_local_26 ?_
        refine lv_aload_n hx hb d_RangeTellerModel_local_29 rfl (lv_at hl 0 rfl) ?_
        refine va_get (D := D) (v := .ref (A 4)) (C := "RangeTellerModel") (T := rt_T6) (N := 69) hx hb hts rt_i6 hown hK hP 0 rfl rfl 9 (by decide) (hts _ (rt_m rt_w856)) (fun _ h9 => h9) rfl d_RangeTellerModel_local_30 ?_
        refine lv_iload_n hx hb d_RangeTellerModel_local_33 rfl (lv_at hl 1 rfl) ?_
        obtain ⟨v6, h7, hm⟩ := rt_b1s hm
        refine rt_ald hx hb hK hP 4 0 rfl rfl h7 d_RangeTellerModel_local_34 ?_
        obtain ⟨v8, h9, hm⟩ := rt_b1s hm
        refine rt_ald hx hb hK hP 11 0 rfl rfl h9 d_RangeTellerModel_local_35 ?_
        refine lv_aload_n hx hb d_RangeTellerModel_local_36 rfl (lv_at hl 0 rfl) ?_
        refine va_get (D := D) (v := .ref (A 12)) (C := "RangeTellerModel") (T := rt_T6) (N := 69) hx hb hts rt_i6 hown hK hP 0 rfl rfl 18 (by decide) (hts _ (rt_m rt_w865)) (fun _ h9 => h9) rfl d_RangeTellerModel_local_37 ?_
        refine lv_aload_n hx hb d_RangeTellerModel_local_40 rfl (lv_at hl 0 rfl) ?_
        refine va_get (D := D) (v := .ref (A 4)) (C := "RangeTellerModel") (T := rt_T6) (N := 69) hx hb hts rt_i6 hown hK hP 0 rfl rfl 9 (by decide) (hts _ (rt_m rt_w856)) (fun _ h9 => h9) rfl d_RangeTellerModel_local_41 ?_
        refine lv_iload_n hx hb d_RangeTellerModel_local_44 rfl (lv_at hl 1 rfl) ?_
        obtain ⟨v10, h11, hm⟩ := rt_b1s hm
        refine rt_ald hx hb hK hP 4 0 rfl rfl h11 d_RangeTellerModel_local_45 ?_
        obtain ⟨v12, h13, hm⟩ := rt_b1s hm
        refine rt_ald hx hb hK hP 12 0 rfl rfl h13 d_RangeTellerModel_local_46 ?_
        refine lv_iadd hx hb d_RangeTellerModel_local_47 ?_
        refine lv_icmp_lt (tgt := 54) hx hb d_RangeTellerModel_local_48 (by decide) (fun hc => ?_) (fun hc => ?_)
        · have hm := (if_pos hc).symm.trans hm
          refine lv_aload_n hx hb d_RangeTellerModel_local_54 rfl (lv_at hl 0 rfl) ?_
          refine va_get (D := D) (v := .ref (A 31)) (C := "RangeTellerModel") (T := rt_T6) (N := 69) hx hb hts rt_i6 hown hK hP 0 rfl rfl 48 (by decide) (hts _ (rt_m rt_w895)) (fun _ h9 => h9) rfl d_RangeTellerModel_local_55 ?_
          refine lv_iconst (v := 4) hx hb d_RangeTellerModel_local_58 (by decide) ?_
          refine lv_iload_n hx hb d_RangeTellerModel_local_59 rfl (lv_at hl 1 rfl) ?_
          refine lv_imul hx hb d_RangeTellerModel_local_60 ?_
          refine lv_iload_n hx hb d_RangeTellerModel_local_61 rfl (lv_at hl 2 rfl) ?_
          refine lv_iadd hx hb d_RangeTellerModel_local_62 ?_
          obtain ⟨v14, h15, hm⟩ := rt_b1s hm
          refine rt_ald hx hb hK hP 31 0 rfl rfl h15 d_RangeTellerModel_local_63 ?_
          refine lv_aload_n hx hb d_RangeTellerModel_local_64 rfl (lv_at hl 0 rfl) ?_
          refine va_get (D := D) (v := .ref (A 32)) (C := "RangeTellerModel") (T := rt_T6) (N := 69) hx hb hts rt_i6 hown hK hP 0 rfl rfl 49 (by decide) (hts _ (rt_m rt_w896)) (fun _ h9 => h9) rfl d_RangeTellerModel_local_65 ?_
          refine lv_iconst (v := 4) hx hb d_RangeTellerModel_local_68 (by decide) ?_
          refine lv_iload_n hx hb d_RangeTellerModel_local_69 rfl (lv_at hl 1 rfl) ?_
          refine lv_imul hx hb d_RangeTellerModel_local_70 ?_
          refine lv_iload_n hx hb d_RangeTellerModel_local_71 rfl (lv_at hl 2 rfl) ?_
          refine lv_iadd hx hb d_RangeTellerModel_local_72 ?_
          obtain ⟨v16, h17, hm⟩ := rt_b1s hm
          refine rt_ald hx hb hK hP 32 0 rfl rfl h17 d_RangeTellerModel_local_73 ?_
          refine lv_aload_n hx hb d_RangeTellerModel_local_74 rfl (lv_at hl 0 rfl) ?_
          refine va_get (D := D) (v := .ref (A 33)) (C := "RangeTellerModel") (T := rt_T6) (N := 69) hx hb hts rt_i6 hown hK hP 0 rfl rfl 50 (by decide) (hts _ (rt_m rt_w897)) (fun _ h9 => h9) rfl d_RangeTellerModel_local_75 ?_
          refine lv_iconst (v := 4) hx hb d_RangeTellerModel_local_78 (by decide) ?_
          refine lv_iload_n hx hb d_RangeTellerModel_local_79 rfl (lv_at hl 1 rfl) ?_
          refine lv_imul hx hb d_RangeTellerModel_local_80 ?_
          refine lv_iload_n hx hb d_RangeTellerModel_local_81 rfl (lv_at hl 2 rfl) ?_
          refine lv_iadd hx hb d_RangeTellerModel_local_82 ?_
          obtain ⟨v18, h19, hm⟩ := rt_b1s hm
          refine rt_zld hx hb hK hP 33 1 rfl rfl h19 d_RangeTellerModel_local_83 ?_
          obtain ⟨v21, h20, hm⟩ := rt_b1s hm
          refine rt_csi (As := [.int v14, .int v16, .int v18]) (rest := []) rt_X0o ⟨hx, hb, hml, hown, hts⟩ (k_R_RangeTellerModel_code l v14 v16 v18 _ h20) (cw_RangeTellerModel_code hts (hts _ (rt_m rt_w1272)) ⟨Nat.le_of_ble_eq_true rfl, Nat.le_of_ble_eq_true rfl⟩) hS (fun _ h => Or.inr h) trivial rfl hl.1 rfl (Nat.le_of_ble_eq_true rfl) d_RangeTellerModel_local_84 ⟨Nat.zero_le _, Nat.zero_le _⟩ (fun H locs hk hS => ?_)
          have hP := rt_keep hP hk
          clear hk
          exact W.iret hx hb hr (fun t ht hW => ⟨⟨_, _, rfl, rt_pr hm, rt_end rtR_Xo hK hP hS hX ht hW⟩, hS.F ht⟩) hS.2.2 d_RangeTellerModel_local_87
        · have hm := (if_neg hc).symm.trans hm
          refine lv_bipush (v := (-3)) hx hb d_RangeTellerModel_local_51 (by decide) ?_
          exact W.iret hx hb hr (fun t ht hW => ⟨⟨_, _, rfl, rt_pr hm, rt_end rtR_Xo hK hP hS hX ht hW⟩, hS.F ht⟩) hS.2.2 d_RangeTellerModel_local_53
  · have hm := (if_pos hc).symm.trans hm
    refine lv_bipush (v := (-3)) hx hb d_RangeTellerModel_local_8 (by decide) ?_
    exact W.iret hx hb hr (fun t ht hW => ⟨⟨_, _, rfl, rt_pr hm, rt_end rtR_Xo hK hP hS hX ht hW⟩, hS.F ht⟩) hS.2.2 d_RangeTellerModel_local_10
set_option maxHeartbeats 4000000 in
set_option maxRecDepth 100000 in
theorem k_R_RangeTellerModel_cell (l : Launch) (D : va_G) (cI cZ : ClassId) (A : Nat → Nat) (hO : rt_Ok (rtR_W cI cZ A)) (σ : rt_St) (a1 : Int32) (r' : Int32) (σ' : rt_St) (hm : M_R_RangeTellerModel_cell σ a1 = some (r', σ')) (sz : Nat) : Met l y_RangeTellerModel_cell (rt_ws y_RangeTellerModel_cell b_RangeTellerModel_cell 2 (some .int)) ({ frames := 1, cells := 0, slots := 0, locals := 22 } : Room) (va_Pc [.ref (A 0), .int a1] (rt_P D rt_cl (rt_t cI cZ) rtR_X (rtR_W cI cZ A) sz σ)) (va_Qi (fun r1 u1 => r1 = r' ∧ u1 = σ') (rt_B D rt_cl (rt_t cI cZ) rtR_X (rtR_W cI cZ A)) (rt_A (rtR_W cI cZ A) sz)) 0 0 (rt_A (rtR_W cI cZ A) sz) := by
  refine Met.ofW (cc := b_RangeTellerModel_cell) (maxL := 2) (ret := (some .int)) (by decide) rfl ?_
  intro p e s m args below meth c s₁ B hml hv
  obtain ⟨rfl, rfl, hP, hK, hX⟩ := hv
  have hx := B.exec
  have hb := B.bytes
  have hr := B.returns
  have hts := atoms_spec (ws := (rt_ws y_RangeTellerModel_cell b_RangeTellerModel_cell 2 (some .int))) B.pre
  have hown : s.vm.findClass "RangeTellerModel" = some m.cls := findClass_of_methodNamed B.named
  have hlocks := B.notSynchronized
  have hD := rt_hD hO s.heap.size
  have hS : va_S (rt_A (rtR_W cI cZ A) s.heap.size) s.heap s.heap [] := va_S.rf
  have hl := lv_entry ([.ref (A 0), .int a1]) (n := 2) (Nat.le_of_ble_eq_true rfl)
  rw [lg_entry_eq]
  generalize (lg_sl ([.ref (A 0), .int a1]) ++ List.replicate (2 - (lg_sl ([.ref (A 0), .int a1])).length) Slot.unset).toArray = ls at hl ⊢
  have hl : lv_has ls 2 [(0, .ref (A 0)), (1, .int a1)] := hl
  show W p l e ({ frames := 1, cells := 0, slots := 0, locals := 22 } : Room) s m ([.ref (A 0), .int a1] : List Value).toArray below meth c s.heap [] 0 0 (rt_Qi D rt_cl (rt_t cI cZ) rtR_X (rtR_W cI cZ A) below ([.ref (A 0), .int a1] : List Value).toArray s r' σ') (F0 m 0 ls [])
  unfold M_R_RangeTellerModel_cell at hm
  refine lv_aload_n hx hb d_RangeTellerModel_cell_0 rfl (lv_at hl 0 rfl) ?_
  refine va_get (D := D) (v := .int (σ 0 4)) (C := "RangeTellerModel") (T := rt_T6) (N := 69) hx hb hts rt_i6 hown hK hP 0 rfl rfl 4 (by decide) (hts _ (rt_m rt_w851)) (fun _ h9 => h9) rfl d_RangeTellerModel_cell_1 ?_
  refine lv_if_eq (tgt := 17) hx hb d_RangeTellerModel_cell_4 (by decide) (fun hc => ?_) (fun hc => ?_)
  · have hm := (if_pos hc).symm.trans hm
    refine lv_bipush (v := (-3)) hx hb d_RangeTellerModel_cell_17 (by decide) ?_
    refine lv_goto (tgt := 43) hx hb d_RangeTellerModel_cell_19 (by decide) ?_
    exact W.iret hx hb hr (fun t ht hW => ⟨⟨_, _, rfl, rt_pr hm, rt_end rtR_Xo hK hP hS hX ht hW⟩, hS.F ht⟩) hS.2.2 d_RangeTellerModel_cell_43
  · have hm := (if_neg hc).symm.trans hm
    refine lv_iload_n hx hb d_RangeTellerModel_cell_7 rfl (lv_at hl 1 rfl) ?_
    refine lv_if_lt (tgt := 17) hx hb d_RangeTellerModel_cell_8 (by decide) (fun hc => ?_) (fun hc => ?_)
    · have hm := (if_pos hc).symm.trans hm
      refine lv_bipush (v := (-3)) hx hb d_RangeTellerModel_cell_17 (by decide) ?_
      refine lv_goto (tgt := 43) hx hb d_RangeTellerModel_cell_19 (by decide) ?_
      exact W.iret hx hb hr (fun t ht hW => ⟨⟨_, _, rfl, rt_pr hm, rt_end rtR_Xo hK hP hS hX ht hW⟩, hS.F ht⟩) hS.2.2 d_RangeTellerModel_cell_43
    · have hm := (if_neg hc).symm.trans hm
      refine lv_iload_n hx hb d_RangeTellerModel_cell_11 rfl (lv_at hl 1 rfl) ?_
      refine lv_bipush (v := 15) hx hb d_RangeTellerModel_cell_12 (by decide) ?_
      refine lv_icmp_le (tgt := 22) hx hb d_RangeTellerModel_cell_14 (by decide) (fun hc => ?_) (fun hc => ?_)
      · have hm := (if_pos hc).symm.trans hm
        refine lv_aload_n hx hb d_RangeTellerModel_cell_22 rfl (lv_at hl 0 rfl) ?_
        refine va_get (D := D) (v := .ref (A 34)) (C := "RangeTellerModel") (T := rt_T6) (N := 69) hx hb hts rt_i6 hown hK hP 0 rfl rfl 51 (by decide) (hts _ (rt_m rt_w898)) (fun _ h9 => h9) rfl d_RangeTellerModel_cell_23 ?_
        refine lv_iload_n hx hb d_RangeTellerModel_cell_26 rfl (lv_at hl 1 rfl) ?_
        obtain ⟨v1, h2, hm⟩ := rt_b1s hm
        refine rt_ald hx hb hK hP 34 0 rfl rfl h2 d_RangeTellerModel_cell_27 ?_
        refine lv_aload_n hx hb d_RangeTellerModel_cell_28 rfl (lv_at hl 0 rfl) ?_
        refine va_get (D := D) (v := .ref (A 35)) (C := "RangeTellerModel") (T := rt_T6) (N := 69) hx hb hts rt_i6 hown hK hP 0 rfl rfl 52 (by decide) (hts _ (rt_m rt_w899)) (fun _ h9 => h9) rfl d_RangeTellerModel_cell_29 ?_
        refine lv_iload_n hx hb d_RangeTellerModel_cell_32 rfl (lv_at hl 1 rfl) ?_
        obtain ⟨v3, h4, hm⟩ := rt_b1s hm
        refine rt_ald hx hb hK hP 35 0 rfl rfl h4 d_RangeTellerModel_cell_33 ?_
        refine lv_aload_n hx hb d_RangeTellerModel_cell_34 rfl (lv_at hl 0 rfl) ?_
        refine va_get (D := D) (v := .ref (A 36)) (C := "RangeTellerModel") (T := rt_T6) (N := 69) hx hb hts rt_i6 hown hK hP 0 rfl rfl 53 (by decide) (hts _ (rt_m rt_w900)) (fun _ h9 => h9) rfl d_RangeTellerModel_cell_35 ?_
        refine lv_iload_n hx hb d_RangeTellerModel_cell_38 rfl (lv_at hl 1 rfl) ?_
        obtain ⟨v5, h6, hm⟩ := rt_b1s hm
        refine rt_zld hx hb hK hP 36 1 rfl rfl h6 d_RangeTellerModel_cell_39 ?_
        obtain ⟨v8, h7, hm⟩ := rt_b1s hm
        refine rt_csi (As := [.int v1, .int v3, .int v5]) (rest := []) rt_X0o ⟨hx, hb, hml, hown, hts⟩ (k_R_RangeTellerModel_code l v1 v3 v5 _ h7) (cw_RangeTellerModel_code hts (hts _ (rt_m rt_w1272)) ⟨Nat.le_of_ble_eq_true rfl, Nat.le_of_ble_eq_true rfl⟩) hS (fun _ h => Or.inr h) trivial rfl hl.1 rfl (Nat.le_of_ble_eq_true rfl) d_RangeTellerModel_cell_40 ⟨Nat.zero_le _, Nat.zero_le _⟩ (fun H locs hk hS => ?_)
        have hP := rt_keep hP hk
        clear hk
        exact W.iret hx hb hr (fun t ht hW => ⟨⟨_, _, rfl, rt_pr hm, rt_end rtR_Xo hK hP hS hX ht hW⟩, hS.F ht⟩) hS.2.2 d_RangeTellerModel_cell_43
      · have hm := (if_neg hc).symm.trans hm
        refine lv_bipush (v := (-3)) hx hb d_RangeTellerModel_cell_17 (by decide) ?_
        refine lv_goto (tgt := 43) hx hb d_RangeTellerModel_cell_19 (by decide) ?_
        exact W.iret hx hb hr (fun t ht hW => ⟨⟨_, _, rfl, rt_pr hm, rt_end rtR_Xo hK hP hS hX ht hW⟩, hS.F ht⟩) hS.2.2 d_RangeTellerModel_cell_43
set_option maxHeartbeats 4000000 in
set_option maxRecDepth 100000 in
theorem k_R_RangeTellerModel_function (l : Launch) (D : va_G) (cI cZ : ClassId) (A : Nat → Nat) (hO : rt_Ok (rtR_W cI cZ A)) (σ : rt_St) (a1 a2 : Int32) (r' : Int32) (σ' : rt_St) (hm : M_R_RangeTellerModel_function σ a1 a2 = some (r', σ')) (sz : Nat) : Met l y_RangeTellerModel_function (rt_ws y_RangeTellerModel_function b_RangeTellerModel_function 3 (some .int)) ({ frames := 1, cells := 0, slots := 0, locals := 22 } : Room) (va_Pc [.ref (A 0), .int a1, .int a2] (rt_P D rt_cl (rt_t cI cZ) rtR_X (rtR_W cI cZ A) sz σ)) (va_Qi (fun r1 u1 => r1 = r' ∧ u1 = σ') (rt_B D rt_cl (rt_t cI cZ) rtR_X (rtR_W cI cZ A)) (rt_A (rtR_W cI cZ A) sz)) 0 0 (rt_A (rtR_W cI cZ A) sz) := by
  refine Met.ofW (cc := b_RangeTellerModel_function) (maxL := 3) (ret := (some .int)) (by decide) rfl ?_
  intro p e s m args below meth c s₁ B hml hv
  obtain ⟨rfl, rfl, hP, hK, hX⟩ := hv
  have hx := B.exec
  have hb := B.bytes
  have hr := B.returns
  have hts := atoms_spec (ws := (rt_ws y_RangeTellerModel_function b_RangeTellerModel_function 3 (some .int))) B.pre
  have hown : s.vm.findClass "RangeTellerModel" = some m.cls := findClass_of_methodNamed B.named
  have hlocks := B.notSynchronized
  have hD := rt_hD hO s.heap.size
  have hS : va_S (rt_A (rtR_W cI cZ A) s.heap.size) s.heap s.heap [] := va_S.rf
  have hl := lv_entry ([.ref (A 0), .int a1, .int a2]) (n := 3) (Nat.le_of_ble_eq_true rfl)
  rw [lg_entry_eq]
  generalize (lg_sl ([.ref (A 0), .int a1, .int a2]) ++ List.replicate (3 - (lg_sl ([.ref (A 0), .int a1, .int a2])).length) Slot.unset).toArray = ls at hl ⊢
  have hl : lv_has ls 3 [(0, .ref (A 0)), (1, .int a1), (2, .int a2)] := hl
  show W p l e ({ frames := 1, cells := 0, slots := 0, locals := 22 } : Room) s m ([.ref (A 0), .int a1, .int a2] : List Value).toArray below meth c s.heap [] 0 0 (rt_Qi D rt_cl (rt_t cI cZ) rtR_X (rtR_W cI cZ A) below ([.ref (A 0), .int a1, .int a2] : List Value).toArray s r' σ') (F0 m 0 ls [])
  unfold M_R_RangeTellerModel_function at hm
  refine lv_aload_n hx hb d_RangeTellerModel_function_0 rfl (lv_at hl 0 rfl) ?_
  refine va_get (D := D) (v := .int (σ 0 4)) (C := "RangeTellerModel") (T := rt_T6) (N := 69) hx hb hts rt_i6 hown hK hP 0 rfl rfl 4 (by decide) (hts _ (rt_m rt_w851)) (fun _ h9 => h9) rfl d_RangeTellerModel_function_1 ?_
  refine lv_if_eq (tgt := 19) hx hb d_RangeTellerModel_function_4 (by decide) (fun hc => ?_) (fun hc => ?_)
  · have hm := (if_pos hc).symm.trans hm
    refine lv_bipush (v := (-3)) hx hb d_RangeTellerModel_function_19 (by decide) ?_
    exact W.iret hx hb hr (fun t ht hW => ⟨⟨_, _, rfl, rt_pr hm, rt_end rtR_Xo hK hP hS hX ht hW⟩, hS.F ht⟩) hS.2.2 d_RangeTellerModel_function_21
  · have hm := (if_neg hc).symm.trans hm
    refine lv_iload_n hx hb d_RangeTellerModel_function_7 rfl (lv_at hl 1 rfl) ?_
    refine lv_if_lt (tgt := 19) hx hb d_RangeTellerModel_function_8 (by decide) (fun hc => ?_) (fun hc => ?_)
    · have hm := (if_pos hc).symm.trans hm
      refine lv_bipush (v := (-3)) hx hb d_RangeTellerModel_function_19 (by decide) ?_
      exact W.iret hx hb hr (fun t ht hW => ⟨⟨_, _, rfl, rt_pr hm, rt_end rtR_Xo hK hP hS hX ht hW⟩, hS.F ht⟩) hS.2.2 d_RangeTellerModel_function_21
    · have hm := (if_neg hc).symm.trans hm
      refine lv_iload_n hx hb d_RangeTellerModel_function_11 rfl (lv_at hl 1 rfl) ?_
      refine lv_aload_n hx hb d_RangeTellerModel_function_12 rfl (lv_at hl 0 rfl) ?_
      refine va_get (D := D) (v := .int (σ 0 16)) (C := "RangeTellerModel") (T := rt_T6) (N := 69) hx hb hts rt_i6 hown hK hP 0 rfl rfl 16 (by decide) (hts _ (rt_m rt_w863)) (fun _ h9 => h9) rfl d_RangeTellerModel_function_13 ?_
      refine lv_icmp_lt (tgt := 22) hx hb d_RangeTellerModel_function_16 (by decide) (fun hc => ?_) (fun hc => ?_)
      · have hm := (if_pos hc).symm.trans hm
        refine lv_iload_n hx hb d_RangeTellerModel_function_22 rfl (lv_at hl 2 rfl) ?_
        by_cases c1 : a2 = 0
        · have hm := (if_pos c1).symm.trans hm
          refine lv_tableIn (off := 37) (tgt := 60) hx hb d_RangeTellerModel_function_23 (by rw [c1]; decide) (by rw [c1]; decide) (by rw [c1]; rfl) (by decide) ?_
          refine lv_aload_n hx hb d_RangeTellerModel_function_60 rfl (lv_at hl 0 rfl) ?_
          refine va_get (D := D) (v := .ref (A 14)) (C := "RangeTellerModel") (T := rt_T6) (N := 69) hx hb hts rt_i6 hown hK hP 0 rfl rfl 20 (by decide) (hts _ (rt_m rt_w867)) (fun _ h9 => h9) rfl d_RangeTellerModel_function_61 ?_
          refine lv_iload_n hx hb d_RangeTellerModel_function_64 rfl (lv_at hl 1 rfl) ?_
          obtain ⟨v2, h3, hm⟩ := rt_b1s hm
          refine rt_ald hx hb hK hP 14 0 rfl rfl h3 d_RangeTellerModel_function_65 ?_
          exact W.iret hx hb hr (fun t ht hW => ⟨⟨_, _, rfl, rt_pr hm, rt_end rtR_Xo hK hP hS hX ht hW⟩, hS.F ht⟩) hS.2.2 d_RangeTellerModel_function_66
        have hm := (if_neg c1).symm.trans hm
        by_cases c4 : a2 = 1
        · have hm := (if_pos c4).symm.trans hm
          refine lv_tableIn (off := 44) (tgt := 67) hx hb d_RangeTellerModel_function_23 (by rw [c4]; decide) (by rw [c4]; decide) (by rw [c4]; rfl) (by decide) ?_
          refine lv_aload_n hx hb d_RangeTellerModel_function_67 rfl (lv_at hl 0 rfl) ?_
          refine va_get (D := D) (v := .ref (A 11)) (C := "RangeTellerModel") (T := rt_T6) (N := 69) hx hb hts rt_i6 hown hK hP 0 rfl rfl 17 (by decide) (hts _ (rt_m rt_w864)) (fun _ h9 => h9) rfl d_RangeTellerModel_function_68 ?_
          refine lv_iload_n hx hb d_RangeTellerModel_function_71 rfl (lv_at hl 1 rfl) ?_
          obtain ⟨v5, h6, hm⟩ := rt_b1s hm
          refine rt_ald hx hb hK hP 11 0 rfl rfl h6 d_RangeTellerModel_function_72 ?_
          exact W.iret hx hb hr (fun t ht hW => ⟨⟨_, _, rfl, rt_pr hm, rt_end rtR_Xo hK hP hS hX ht hW⟩, hS.F ht⟩) hS.2.2 d_RangeTellerModel_function_73
        have hm := (if_neg c4).symm.trans hm
        by_cases c7 : a2 = 2
        · have hm := (if_pos c7).symm.trans hm
          refine lv_tableIn (off := 51) (tgt := 74) hx hb d_RangeTellerModel_function_23 (by rw [c7]; decide) (by rw [c7]; decide) (by rw [c7]; rfl) (by decide) ?_
          refine lv_aload_n hx hb d_RangeTellerModel_function_74 rfl (lv_at hl 0 rfl) ?_
          refine va_get (D := D) (v := .ref (A 12)) (C := "RangeTellerModel") (T := rt_T6) (N := 69) hx hb hts rt_i6 hown hK hP 0 rfl rfl 18 (by decide) (hts _ (rt_m rt_w865)) (fun _ h9 => h9) rfl d_RangeTellerModel_function_75 ?_
          refine lv_iload_n hx hb d_RangeTellerModel_function_78 rfl (lv_at hl 1 rfl) ?_
          obtain ⟨v8, h9, hm⟩ := rt_b1s hm
          refine rt_ald hx hb hK hP 12 0 rfl rfl h9 d_RangeTellerModel_function_79 ?_
          exact W.iret hx hb hr (fun t ht hW => ⟨⟨_, _, rfl, rt_pr hm, rt_end rtR_Xo hK hP hS hX ht hW⟩, hS.F ht⟩) hS.2.2 d_RangeTellerModel_function_80
        have hm := (if_neg c7).symm.trans hm
        by_cases c10 : a2 = 3
        · have hm := (if_pos c10).symm.trans hm
          refine lv_tableIn (off := 58) (tgt := 81) hx hb d_RangeTellerModel_function_23 (by rw [c10]; decide) (by rw [c10]; decide) (by rw [c10]; rfl) (by decide) ?_
          refine lv_aload_n hx hb d_RangeTellerModel_function_81 rfl (lv_at hl 0 rfl) ?_
          refine va_get (D := D) (v := .ref (A 13)) (C := "RangeTellerModel") (T := rt_T6) (N := 69) hx hb hts rt_i6 hown hK hP 0 rfl rfl 19 (by decide) (hts _ (rt_m rt_w866)) (fun _ h9 => h9) rfl d_RangeTellerModel_function_82 ?_
          refine lv_iload_n hx hb d_RangeTellerModel_function_85 rfl (lv_at hl 1 rfl) ?_
          obtain ⟨v11, h12, hm⟩ := rt_b1s hm
          refine rt_ald hx hb hK hP 13 0 rfl rfl h12 d_RangeTellerModel_function_86 ?_
          exact W.iret hx hb hr (fun t ht hW => ⟨⟨_, _, rfl, rt_pr hm, rt_end rtR_Xo hK hP hS hX ht hW⟩, hS.F ht⟩) hS.2.2 d_RangeTellerModel_function_87
        have hm := (if_neg c10).symm.trans hm
        by_cases c13 : a2 = 4
        · have hm := (if_pos c13).symm.trans hm
          refine lv_tableIn (off := 65) (tgt := 88) hx hb d_RangeTellerModel_function_23 (by rw [c13]; decide) (by rw [c13]; decide) (by rw [c13]; rfl) (by decide) ?_
          refine lv_aload_n hx hb d_RangeTellerModel_function_88 rfl (lv_at hl 0 rfl) ?_
          refine va_get (D := D) (v := .ref (A 13)) (C := "RangeTellerModel") (T := rt_T6) (N := 69) hx hb hts rt_i6 hown hK hP 0 rfl rfl 19 (by decide) (hts _ (rt_m rt_w866)) (fun _ h9 => h9) rfl d_RangeTellerModel_function_89 ?_
          refine lv_iload_n hx hb d_RangeTellerModel_function_92 rfl (lv_at hl 1 rfl) ?_
          obtain ⟨v14, h15, hm⟩ := rt_b1s hm
          refine rt_ald hx hb hK hP 13 0 rfl rfl h15 d_RangeTellerModel_function_93 ?_
          refine lv_iconst (v := 1) hx hb d_RangeTellerModel_function_94 (by decide) ?_
          refine lv_icmp_ne (tgt := 131) hx hb d_RangeTellerModel_function_95 (by decide) (fun hc => ?_) (fun hc => ?_)
          · have hm := (if_neg hc).symm.trans hm
            refine lv_bipush (v := (-3)) hx hb d_RangeTellerModel_function_131 (by decide) ?_
            exact W.iret hx hb hr (fun t ht hW => ⟨⟨_, _, rfl, rt_pr hm, rt_end rtR_Xo hK hP hS hX ht hW⟩, hS.F ht⟩) hS.2.2 d_RangeTellerModel_function_133
          · have hm := (if_pos hc).symm.trans hm
            refine lv_aload_n hx hb d_RangeTellerModel_function_98 rfl (lv_at hl 0 rfl) ?_
            refine va_get (D := D) (v := .ref (A 40)) (C := "RangeTellerModel") (T := rt_T6) (N := 69) hx hb hts rt_i6 hown hK hP 0 rfl rfl 57 (by decide) (hts _ (rt_m rt_w904)) (fun _ h9 => h9) rfl d_RangeTellerModel_function_99 ?_
            refine lv_iload_n hx hb d_RangeTellerModel_function_102 rfl (lv_at hl 1 rfl) ?_
            obtain ⟨v16, h17, hm⟩ := rt_b1s hm
            refine rt_zld hx hb hK hP 40 1 rfl rfl h17 d_RangeTellerModel_function_103 ?_
            refine lv_if_eq (tgt := 131) hx hb d_RangeTellerModel_function_104 (by decide) (fun hc => ?_) (fun hc => ?_)
            · have hm := (if_pos hc).symm.trans hm
              refine lv_bipush (v := (-3)) hx hb d_RangeTellerModel_function_131 (by decide) ?_
              exact W.iret hx hb hr (fun t ht hW => ⟨⟨_, _, rfl, rt_pr hm, rt_end rtR_Xo hK hP hS hX ht hW⟩, hS.F ht⟩) hS.2.2 d_RangeTellerModel_function_133
            · have hm := (if_neg hc).symm.trans hm
              refine lv_aload_n hx hb d_RangeTellerModel_function_107 rfl (lv_at hl 0 rfl) ?_
              refine va_get (D := D) (v := .ref (A 37)) (C := "RangeTellerModel") (T := rt_T6) (N := 69) hx hb hts rt_i6 hown hK hP 0 rfl rfl 54 (by decide) (hts _ (rt_m rt_w901)) (fun _ h9 => h9) rfl d_RangeTellerModel_function_108 ?_
              refine lv_iload_n hx hb d_RangeTellerModel_function_111 rfl (lv_at hl 1 rfl) ?_
              obtain ⟨v18, h19, hm⟩ := rt_b1s hm
              refine rt_ald hx hb hK hP 37 0 rfl rfl h19 d_RangeTellerModel_function_112 ?_
              refine lv_aload_n hx hb d_RangeTellerModel_function_113 rfl (lv_at hl 0 rfl) ?_
              refine va_get (D := D) (v := .ref (A 38)) (C := "RangeTellerModel") (T := rt_T6) (N := 69) hx hb hts rt_i6 hown hK hP 0 rfl rfl 55 (by decide) (hts _ (rt_m rt_w902)) (fun _ h9 => h9) rfl d_RangeTellerModel_function_114 ?_
              refine lv_iload_n hx hb d_RangeTellerModel_function_117 rfl (lv_at hl 1 rfl) ?_
              obtain ⟨v20, h21, hm⟩ := rt_b1s hm
              refine rt_ald hx hb hK hP 38 0 rfl rfl h21 d_RangeTellerModel_function_118 ?_
              refine lv_aload_n hx hb d_RangeTellerModel_function_119 rfl (lv_at hl 0 rfl) ?_
              refine va_get (D := D) (v := .ref (A 39)) (C := "RangeTellerModel") (T := rt_T6) (N := 69) hx hb hts rt_i6 hown hK hP 0 rfl rfl 56 (by decide) (hts _ (rt_m rt_w903)) (fun _ h9 => h9) rfl d_RangeTellerModel_function_120 ?_
              refine lv_iload_n hx hb d_RangeTellerModel_function_123 rfl (lv_at hl 1 rfl) ?_
              obtain ⟨v22, h23, hm⟩ := rt_b1s hm
              refine rt_zld hx hb hK hP 39 1 rfl rfl h23 d_RangeTellerModel_function_124 ?_
              obtain ⟨v25, h24, hm⟩ := rt_b1s hm
              refine rt_csi (As := [.int v18, .int v20, .int v22]) (rest := []) rt_X0o ⟨hx, hb, hml, hown, hts⟩ (k_R_RangeTellerModel_code l v18 v20 v22 _ h24) (cw_RangeTellerModel_code hts (hts _ (rt_m rt_w1272)) ⟨Nat.le_of_ble_eq_true rfl, Nat.le_of_ble_eq_true rfl⟩) hS (fun _ h => Or.inr h) trivial rfl hl.1 rfl (Nat.le_of_ble_eq_true rfl) d_RangeTellerModel_function_125 ⟨Nat.zero_le _, Nat.zero_le _⟩ (fun H locs hk hS => ?_)
              have hP := rt_keep hP hk
              clear hk
              refine lv_goto (tgt := 133) hx hb d_RangeTellerModel_function_128 (by decide) ?_
              exact W.iret hx hb hr (fun t ht hW => ⟨⟨_, _, rfl, rt_pr hm, rt_end rtR_Xo hK hP hS hX ht hW⟩, hS.F ht⟩) hS.2.2 d_RangeTellerModel_function_133
        have hm := (if_neg c13).symm.trans hm
        by_cases c26 : a2 = 5
        · have hm := (if_pos c26).symm.trans hm
          refine lv_tableIn (off := 111) (tgt := 134) hx hb d_RangeTellerModel_function_23 (by rw [c26]; decide) (by rw [c26]; decide) (by rw [c26]; rfl) (by decide) ?_
          refine lv_aload_n hx hb d_RangeTellerModel_function_134 rfl (lv_at hl 0 rfl) ?_
          refine va_get (D := D) (v := .ref (A 40)) (C := "RangeTellerModel") (T := rt_T6) (N := 69) hx hb hts rt_i6 hown hK hP 0 rfl rfl 57 (by decide) (hts _ (rt_m rt_w904)) (fun _ h9 => h9) rfl d_RangeTellerModel_function_135 ?_
          refine lv_iload_n hx hb d_RangeTellerModel_function_138 rfl (lv_at hl 1 rfl) ?_
          obtain ⟨v27, h28, hm⟩ := rt_b1s hm
          refine rt_zld hx hb hK hP 40 1 rfl rfl h28 d_RangeTellerModel_function_139 ?_
          refine lv_if_eq (tgt := 147) hx hb d_RangeTellerModel_function_140 (by decide) (fun hc => ?_) (fun hc => ?_)
          · have hm := (if_pos hc).symm.trans hm
            refine lv_iconst (v := 0) hx hb d_RangeTellerModel_function_147 (by decide) ?_
            exact W.iret hx hb hr (fun t ht hW => ⟨⟨_, _, rfl, rt_pr hm, rt_end rtR_Xo hK hP hS hX ht hW⟩, hS.F ht⟩) hS.2.2 d_RangeTellerModel_function_148
          · have hm := (if_neg hc).symm.trans hm
            refine lv_iconst (v := 1) hx hb d_RangeTellerModel_function_143 (by decide) ?_
            refine lv_goto (tgt := 148) hx hb d_RangeTellerModel_function_144 (by decide) ?_
            exact W.iret hx hb hr (fun t ht hW => ⟨⟨_, _, rfl, rt_pr hm, rt_end rtR_Xo hK hP hS hX ht hW⟩, hS.F ht⟩) hS.2.2 d_RangeTellerModel_function_148
        have hm := (if_neg c26).symm.trans hm
        refine lv_tableOut (tgt := 149) hx hb d_RangeTellerModel_function_23 (by have := lv_neT (a := 0) c1 rfl; have := lv_neT (a := 1) c4 rfl; have := lv_neT (a := 2) c7 rfl; have := lv_neT (a := 3) c10 rfl; have := lv_neT (a := 4) c13 rfl; have := lv_neT (a := 5) c26 rfl; omega) (by decide) ?_
        refine lv_bipush (v := (-3)) hx hb d_RangeTellerModel_function_149 (by decide) ?_
        exact W.iret hx hb hr (fun t ht hW => ⟨⟨_, _, rfl, rt_pr hm, rt_end rtR_Xo hK hP hS hX ht hW⟩, hS.F ht⟩) hS.2.2 d_RangeTellerModel_function_151
      · have hm := (if_neg hc).symm.trans hm
        refine lv_bipush (v := (-3)) hx hb d_RangeTellerModel_function_19 (by decide) ?_
        exact W.iret hx hb hr (fun t ht hW => ⟨⟨_, _, rfl, rt_pr hm, rt_end rtR_Xo hK hP hS hX ht hW⟩, hS.F ht⟩) hS.2.2 d_RangeTellerModel_function_21
