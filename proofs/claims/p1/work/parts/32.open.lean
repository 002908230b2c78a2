def rt_adr (h : Nat) (A : Nat → Nat) : Nat → Nat
  | 0 => h
  | k + 1 => A (k + 1)
set_option maxRecDepth 20000 in
theorem rt_el_TAKES : ∀ j, j < 29 → Cond.eq (.elem (.static "RangeTeller$Ops" "TAKES" "[I") (.int (Int32.ofNat j))) (.int (S_Ops_TAKES j)) ∈ flatC (Jvm.Cond.and given_1 narrow_1) := by decide +kernel
set_option maxRecDepth 20000 in
theorem rt_el_GIVES : ∀ j, j < 29 → Cond.eq (.elem (.static "RangeTeller$Ops" "GIVES" "[I") (.int (Int32.ofNat j))) (.int (S_Ops_GIVES j)) ∈ flatC (Jvm.Cond.and given_1 narrow_1) := by decide +kernel
set_option maxRecDepth 20000 in
theorem rt_ls_TAKES : Cond.laysStatic "RangeTeller$Ops" "TAKES" "[I" ∈ lw_tbl := List.mem_append_right _ (show _ ∈ tables_1 from List.mem_append_right _ (List.mem_append_left _ (List.mem_of_getElem? (i := 203) rfl)))
set_option maxRecDepth 20000 in
theorem rt_ls_GIVES : Cond.laysStatic "RangeTeller$Ops" "GIVES" "[I" ∈ lw_tbl := List.mem_append_right _ (show _ ∈ tables_1 from List.mem_append_right _ (List.mem_append_left _ (List.mem_of_getElem? (i := 208) rfl)))
set_option maxRecDepth 20000 in
theorem rt_nest : Cond.methodLinkNest "RangeTeller" 9 ⟨"RangeTeller$Program", "<init>", "()V"⟩ "RangeTeller" ∈ lw_tbl := List.mem_append_right _ (show _ ∈ tables_1 from List.mem_append_left _ (List.mem_of_getElem? (i := 23) rfl))
theorem rtC_Xof {b : Nat} {s : State} {A : Nat → Prop} (hts0 : ∀ w ∈ lw_tbl, w.before #[Value.ref b] s = true) (hts : ∀ w ∈ rt_tbl, w.before #[Value.ref b] s = true) (hg : (Jvm.Cond.and given_1 narrow_1).before #[Value.ref b] s = true) (hA : ∀ a : Nat, a < s.heap.size → ¬ A a) : rtC_X A s := by
  have hs := flat_of_before _ hg
  obtain ⟨tTAKES, h1TAKES, h2TAKES⟩ := va_Tof (tm := .static "RangeTeller$Ops" "TAKES" "[I") (ty := .int) (N := 29) (f := fun j => .int (S_Ops_TAKES j)) (A := A) (by decide) (hs _ (by decide +kernel)) (va_eqt (hs (Cond.eq (.length (.static "RangeTeller$Ops" "TAKES" "[I")) (.int (Int32.ofNat 29))) (by decide +kernel))) (fun j hj => va_eqt (hs _ (rt_el_TAKES j hj))) hA
  obtain ⟨tGIVES, h1GIVES, h2GIVES⟩ := va_Tof (tm := .static "RangeTeller$Ops" "GIVES" "[I") (ty := .int) (N := 29) (f := fun j => .int (S_Ops_GIVES j)) (A := A) (by decide) (hs _ (by decide +kernel)) (va_eqt (hs (Cond.eq (.length (.static "RangeTeller$Ops" "GIVES" "[I")) (.int (Int32.ofNat 29))) (by decide +kernel))) (fun j hj => va_eqt (hs _ (rt_el_GIVES j hj))) hA
  exact ⟨⟨tTAKES, va_Zof (hts0 _ rt_ls_TAKES) (hts _ rt_w100) h1TAKES hA, h2TAKES⟩, ⟨tGIVES, va_Zof (hts0 _ rt_ls_GIVES) (hts _ rt_w100) h1GIVES hA, h2GIVES⟩⟩
set_option maxHeartbeats 4000000 in
set_option maxRecDepth 100000 in
theorem whole_open {p : Program} {e : Env} {s : State} {m : MethodId} {below : List Frame} {meth : Method} {c : Code} (l : Launch) {b L : Nat} {xs : Nat → Int32} (hL : L ≤ 2048) (C0 : lw_At p s m meth c b L xs) (Rel : Nat → rt_St → rt_St → Prop) (T : Nat) (hT : T ≤ 512) (hTL : L < 4 * T + 4) (h0 : Rel 0 rtC_0 rtR_0) (hst : rt_Step Rel T) : W p l e room_1 s m #[Value.ref b] below meth c s.heap [] 0 0 (lw_Z below #[Value.ref b] s) (entryFrame m ([Value.ref b] : List Value).toArray 4) := by
  have C1 := C0
  obtain ⟨hx, hb, hr, hml, hown, hts0, hX, hbl, hlocks, hgv⟩ := C0
  have hts1 : ∀ w ∈ rt_tbl, w.before #[Value.ref b] s = true := fun w h => hts0 w (List.mem_filter.mp h).1
  have hts : ∀ w ∈ (Cond.arrayClass .int) :: rt_tbl, w.before #[Value.ref b] s = true := List.forall_mem_cons.mpr ⟨hts1 _ rt_w200, hts1⟩
  obtain ⟨c0, i0, hk0⟩ := u_known (C := "RangeTeller") (T := rt_T0) (N := 7) hts rt_i0 (hts _ (rt_m rt_w106))
  obtain ⟨c1, i1, hk1⟩ := u_known (C := "RangeTeller$Program") (T := rt_T1) (N := 14) hts rt_i1 (hts _ (rt_m rt_w114))
  obtain ⟨c2, i2, hk2⟩ := u_known (C := "RangeTeller$Reader") (T := rt_T2) (N := 7) hts rt_i2 (hts _ (rt_m rt_w202))
  obtain ⟨c3, i3, hk3⟩ := u_known (C := "RangeTeller$Checker") (T := rt_T3) (N := 7) hts rt_i3 (hts _ (rt_m rt_w230))
  obtain ⟨c4, i4, hk4⟩ := u_known (C := "RangeTeller$Runner") (T := rt_T4) (N := 18) hts rt_i4 (hts _ (rt_m rt_w259))
  obtain ⟨c5, i5, hk5⟩ := u_known (C := "RangeTeller$Foreteller") (T := rt_T5) (N := 13) hts rt_i5 (hts _ (rt_m rt_w328))
  obtain ⟨c6, i6, hk6⟩ := u_known (C := "RangeTellerModel") (T := rt_T6) (N := 69) hts rt_i6 (hts _ (rt_m rt_w842))
  obtain ⟨cI, kI, pI, a1, a2, a3⟩ := Cond.arrayClass_spec (hts _ (rt_m rt_w200))
  obtain ⟨cZ, kZ, pZ, z1, z2, z3⟩ := Cond.arrayClass_spec (hts _ (rt_m rt_w257))
  obtain ⟨D, hK⟩ : ∃ D : va_G, va_K D rt_cl (rt_t cI cZ) s := by
    refine ⟨(fun k => match k with | 0 => c0 | 1 => c1 | 2 => c2 | 3 => c3 | 4 => c4 | 5 => c5 | _ => c6, fun k => match k with | 0 => i0 | 1 => i1 | 2 => i2 | 3 => i3 | 4 => i4 | 5 => i5 | _ => i6), fun c q hq => ?_, fun k q hq => ?_⟩
    · exact match c, hq with
        | 0, h => by cases h; exact hk0
        | 1, h => by cases h; exact hk1
        | 2, h => by cases h; exact hk2
        | 3, h => by cases h; exact hk3
        | 4, h => by cases h; exact hk4
        | 5, h => by cases h; exact hk5
        | 6, h => by cases h; exact hk6
        | n + 7, h => absurd (List.getElem?_eq_some_iff.mp h).1 (by show ¬ (n + 7 < 7); omega)
    · exact match k, hq with
        | 0, h => by cases h; exact ⟨fun n z => ⟨fun k h => (by cases h), kI, a2, pI, a3⟩, a1⟩
        | 1, h => by cases h; exact ⟨fun n z => ⟨fun k h => (by cases h), kZ, z2, pZ, z3⟩, z1⟩
        | n + 2, h => absurd (List.getElem?_eq_some_iff.mp h).1 (by show ¬ (n + 2 < 2); omega)
  have hXs : rtC_X (fun q => s.heap.size ≤ q) s := rtC_Xof hts0 hts1 hgv (fun a h1 h2 => absurd h1 (Nat.not_lt.mpr h2))
  have hN : va_Nw (Cond.methodLinkNest "RangeTeller" 9 ⟨"RangeTeller$Program", "<init>", "()V"⟩ "RangeTeller") s := va_Nw.of rfl (hts0 _ rt_nest)
  have hl := lv_entry ([.ref b]) (n := 4) (Nat.le_of_ble_eq_true rfl)
  rw [lg_entry_eq]
  generalize (lg_sl ([.ref b]) ++ List.replicate (4 - (lg_sl ([.ref b])).length) Slot.unset).toArray = ls at hl ⊢
  have hl : lv_has ls 4 [(0, .ref b)] := hl
  have hA : ∀ q : Nat, s.heap.size ≤ q → (fun q => s.heap.size ≤ q) q := fun _ h => h
  have hS : va_S (fun q => s.heap.size ≤ q) s.heap s.heap [] := va_S.rf
  have hP : va_P D rt_cl [] s.heap := fun k q h => by simp at h
  have hD : va_D (fun q => s.heap.size ≤ q) [] := ⟨fun i j p q h => by simp at h, fun k q h => by simp at h⟩
  refine va_new (ci := 0) (fs := [.null, .null, .null, .null, .null, .int 0, .int 0]) (C := "RangeTeller") (T := rt_T0) (N := 7) hx hb hts rt_i0 rt_y0 rt_o0 hown (hts _ (rt_m rt_w105)) (hts _ (rt_m rt_w106)) (hts _ (rt_m rt_w93)) hK hP hD hS hA rfl (rt_z0) (Nat.le_of_ble_eq_true rfl) (Nat.le_of_ble_eq_true rfl) dL_0 (fun q0 H hP hD hS => ?_)
  refine W.widen (k := 1) (n := 7) (Nat.le_of_ble_eq_true rfl) (Nat.le_of_ble_eq_true rfl) ?_
  refine lv_dup hx hb dL_3 rfl ?_
  have hPc := hP.sub (ws' := [(q0, .inr (0, [.null, .null, .null, .null, .null, .int 0, .int 0]))]) [0] rfl
  have hDc := hD.sub (ws' := [(q0, .inr (0, [.null, .null, .null, .null, .null, .int 0, .int 0]))]) [0] (by decide) rfl
  have hFc := va_free (wc := [(q0, .inr (0, [.null, .null, .null, .null, .null, .int 0, .int 0]))]) hD hS hA [0] rfl
  refine va_callv (va_runI (As := []) (rest := [.ref q0]) ⟨hx, hb, hml, hown, hts⟩ (c_RangeTeller_init l D cI cZ q0 H.size) (cwI 0 hts (rt_gi rt_w109) rfl rfl rfl (hts _ (rt_m rt_w93)) (hts _ (rt_m rt_w107)) (hts _ (rt_m rt_w108)) rfl (by decide +kernel) ⟨Nat.le_of_ble_eq_true rfl, Nat.le_of_ble_eq_true rfl⟩) ⟨fun a U g mk q => by obtain ⟨q0, q1, qP, qK, qD, qN⟩ := q; exact ⟨q0, q1, qP, va_K.moved (u := U) (U := U.calling g mk a) (Vm.Alike.refl U.vm) qK, qD, va_Nw.same rfl rfl qN⟩, fun U hU hW => ⟨rfl, by rw [hU], by rw [hU]; exact hPc, va_K.moved hW.alike hK, hDc.weaken (fun _ _ _ _ => trivial), va_Nw.warmM hW hN⟩⟩ rfl rfl hl.1 rfl (lv_room (Nat.le_of_ble_eq_true rfl)) dL_4 ⟨Nat.le_of_ble_eq_true rfl, Nat.le_of_ble_eq_true rfl⟩) hS (fun q _ h => hFc q h) hFc (fun A0 t H1 locs ht hvm hq hB hz1 hk1 hS => ?_)
  obtain ⟨hP1, hK1, hD1⟩ := hB
  rw [ht] at hP1
  obtain ⟨hP, hD⟩ := va_join (wr := []) (w1 := rtw_RangeTeller_init cI cZ q0 A0) hP hD [0] [] rfl rfl (by decide) (by decide) hk1 hFc hP1 hD1
  generalize H1 = H at hP hS ⊢
  have hP : va_P D rt_cl (rtC_W cI cZ (rt_adr q0 A0) rtC_0) H := hP
  have hD : va_D (fun q => s.heap.size ≤ q) (rtC_W cI cZ (rt_adr q0 A0) rtC_0) := hD
  clear hPc hDc hFc hP1 hK1 hD1 hk1 hz1 hq ht hvm
  refine W.widen (k := 41) (n := 3283) (Nat.le_of_ble_eq_true rfl) (Nat.le_of_ble_eq_true rfl) ?_
  refine lv_astore_n hx hb dL_7 rfl hl (by decide) rfl (fun ls hl => ?_)
  have hl : lv_has ls 4 [(1, .ref q0), (0, .ref b)] := hl
  refine va_new (ci := 6) (fs := [.int 0, .null, .int 0, .int 0, .int 0, .int 0, .int 0, .null, .null, .null, .null, .null, .null, .null, .null, .null, .int 0, .null, .null, .null, .null, .int 0, .null, .null, .null, .null, .int 0, .int 0, .null, .int 0, .int 0, .null, .null, .null, .null, .null, .int 0, .int 0, .int 0, .int 0, .int 0, .int 0, .null, .null, .null, .null, .null, .null, .null, .null, .null, .null, .null, .null, .null, .null, .null, .null, .int 0, .int 0, .null, .null, .null, .null, .null, .null, .int 0, .int 0, .int 0]) (C := "RangeTellerModel") (T := rt_T6) (N := 69) hx hb hts rt_i6 rt_y6 rt_o6 hown (hts _ (rt_m rt_w841)) (hts _ (rt_m rt_w842)) (hts _ (rt_m rt_w99)) hK hP hD hS hA rfl (rt_z6) (Nat.le_of_ble_eq_true rfl) (Nat.le_of_ble_eq_true rfl) dL_8 (fun q1 H hP hD hS => ?_)
  refine W.widen (k := 42) (n := 3352) (Nat.le_of_ble_eq_true rfl) (Nat.le_of_ble_eq_true rfl) ?_
  refine lv_dup hx hb dL_11 rfl ?_
  have hPc := hP.sub (ws' := [(q1, .inr (6, [.int 0, .null, .int 0, .int 0, .int 0, .int 0, .int 0, .null, .null, .null, .null, .null, .null, .null, .null, .null, .int 0, .null, .null, .null, .null, .int 0, .null, .null, .null, .null, .int 0, .int 0, .null, .int 0, .int 0, .null, .null, .null, .null, .null, .int 0, .int 0, .int 0, .int 0, .int 0, .int 0, .null, .null, .null, .null, .null, .null, .null, .null, .null, .null, .null, .null, .null, .null, .null, .null, .int 0, .int 0, .null, .null, .null, .null, .null, .null, .int 0, .int 0, .int 0]))]) [41] rfl
  have hDc := hD.sub (ws' := [(q1, .inr (6, [.int 0, .null, .int 0, .int 0, .int 0, .int 0, .int 0, .null, .null, .null, .null, .null, .null, .null, .null, .null, .int 0, .null, .null, .null, .null, .int 0, .null, .null, .null, .null, .int 0, .int 0, .null, .int 0, .int 0, .null, .null, .null, .null, .null, .int 0, .int 0, .int 0, .int 0, .int 0, .int 0, .null, .null, .null, .null, .null, .null, .null, .null, .null, .null, .null, .null, .null, .null, .null, .null, .int 0, .int 0, .null, .null, .null, .null, .null, .null, .int 0, .int 0, .int 0]))]) [41] (by decide) rfl
  have hFc := va_free (wc := [(q1, .inr (6, [.int 0, .null, .int 0, .int 0, .int 0, .int 0, .int 0, .null, .null, .null, .null, .null, .null, .null, .null, .null, .int 0, .null, .null, .null, .null, .int 0, .null, .null, .null, .null, .int 0, .int 0, .null, .int 0, .int 0, .null, .null, .null, .null, .null, .int 0, .int 0, .int 0, .int 0, .int 0, .int 0, .null, .null, .null, .null, .null, .null, .null, .null, .null, .null, .null, .null, .null, .null, .null, .null, .int 0, .int 0, .null, .null, .null, .null, .null, .null, .int 0, .int 0, .int 0]))]) hD hS hA [41] rfl
  refine va_callv (va_runI (As := []) (rest := [.ref q1]) ⟨hx, hb, hml, hown, hts⟩ (c_RangeTellerModel_init l D cI cZ q1 H.size) (cwI 0 hts (rt_gi rt_w845) rfl rfl rfl (hts _ (rt_m rt_w99)) (hts _ (rt_m rt_w843)) (hts _ (rt_m rt_w844)) rfl (by decide +kernel) ⟨Nat.le_of_ble_eq_true rfl, Nat.le_of_ble_eq_true rfl⟩) ⟨fun a U g mk q => by obtain ⟨q0, q1, qP, qK, qD⟩ := q; exact ⟨q0, q1, qP, va_K.moved (u := U) (U := U.calling g mk a) (Vm.Alike.refl U.vm) qK, qD⟩, fun U hU hW => ⟨rfl, by rw [hU], by rw [hU]; exact hPc, va_K.moved hW.alike hK, hDc.weaken (fun _ _ _ _ => trivial)⟩⟩ rfl rfl hl.1 rfl (lv_room (Nat.le_of_ble_eq_true rfl)) dL_12 ⟨Nat.le_of_ble_eq_true rfl, Nat.le_of_ble_eq_true rfl⟩) hS (fun q _ h => hFc q h) hFc (fun A1 t H1 locs ht hvm hq hB hz1 hk1 hS => ?_)
  obtain ⟨hP1, hK1, hD1⟩ := hB
  rw [ht] at hP1
  obtain ⟨hP, hD⟩ := va_join (wr := (rtC_W cI cZ (rt_adr q0 A0) rtC_0)) (w1 := rtw_RangeTellerModel_init cI cZ q1 A1) hP hD [41] [0, 1, 2, 3, 4, 5, 6, 7, 8, 9, 10, 11, 12, 13, 14, 15, 16, 17, 18, 19, 20, 21, 22, 23, 24, 25, 26, 27, 28, 29, 30, 31, 32, 33, 34, 35, 36, 37, 38, 39, 40] rfl rfl (by decide) (by decide) hk1 hFc hP1 hD1
  generalize H1 = H at hP hS ⊢
  have hP : va_P D rt_cl (rtC_W cI cZ (rt_adr q0 A0) rtC_0 ++ rtR_W cI cZ (rt_adr q1 A1) rtR_0) H := hP
  have hD : va_D (fun q => s.heap.size ≤ q) (rtC_W cI cZ (rt_adr q0 A0) rtC_0 ++ rtR_W cI cZ (rt_adr q1 A1) rtR_0) := hD
  clear hPc hDc hFc hP1 hK1 hD1 hk1 hz1 hq ht hvm
  refine W.widen (k := 88) (n := 9455) (Nat.le_of_ble_eq_true rfl) (Nat.le_of_ble_eq_true rfl) ?_
  refine lv_astore_n hx hb dL_15 rfl hl (by decide) rfl (fun ls hl => ?_)
  have hl : lv_has ls 4 [(2, .ref q1), (1, .ref q0), (0, .ref b)] := hl
  refine lv_iconst (v := 0) hx hb dL_16 (by decide) ?_
  refine lv_istore_n hx hb dL_17 rfl hl (by decide) rfl (fun ls hl => ?_)
  have hl : lv_has ls 4 [(3, .int (nI (4 * 0))), (2, .ref (rt_adr q1 A1 0)), (1, .ref (rt_adr q0 A0 0)), (0, .ref b)] := hl
  have hPC := hP.sub (ws' := rtC_W cI cZ (rt_adr q0 A0) rtC_0) [0, 1, 2, 3, 4, 5, 6, 7, 8, 9, 10, 11, 12, 13, 14, 15, 16, 17, 18, 19, 20, 21, 22, 23, 24, 25, 26, 27, 28, 29, 30, 31, 32, 33, 34, 35, 36, 37, 38, 39, 40] rfl
  have hPR := hP.sub (ws' := rtR_W cI cZ (rt_adr q1 A1) rtR_0) [41, 42, 43, 44, 45, 46, 47, 48, 49, 50, 51, 52, 53, 54, 55, 56, 57, 58, 59, 60, 61, 62, 63, 64, 65, 66, 67, 68, 69, 70, 71, 72, 73, 74, 75, 76, 77, 78, 79, 80, 81, 82, 83, 84, 85, 86, 87] rfl
  have hDz : va_D (fun q => s.heap.size ≤ q) (rtC_W cI cZ (rt_adr q0 A0) (fun _ _ => 0) ++ rtR_W cI cZ (rt_adr q1 A1) (fun _ _ => 0)) := by refine rt_Dm ?_ hD; rfl
  have hDl := hDz.sub (ws' := rtC_W cI cZ (rt_adr q0 A0) (fun _ _ => 0)) [0, 1, 2, 3, 4, 5, 6, 7, 8, 9, 10, 11, 12, 13, 14, 15, 16, 17, 18, 19, 20, 21, 22, 23, 24, 25, 26, 27, 28, 29, 30, 31, 32, 33, 34, 35, 36, 37, 38, 39, 40] (by decide) rfl
  have hDr := hDz.sub (ws' := rtR_W cI cZ (rt_adr q1 A1) (fun _ _ => 0)) [41, 42, 43, 44, 45, 46, 47, 48, 49, 50, 51, 52, 53, 54, 55, 56, 57, 58, 59, 60, 61, 62, 63, 64, 65, 66, 67, 68, 69, 70, 71, 72, 73, 74, 75, 76, 77, 78, 79, 80, 81, 82, 83, 84, 85, 86, 87] (by decide) rfl
  exact law_loop l hL C1 D cI cZ (rt_adr q0 A0) (rt_adr q1 A1) hK ⟨fun σ => rfl, hDl.weaken (fun _ _ _ _ => trivial)⟩ ⟨fun σ => rfl, hDr.weaken (fun _ _ _ _ => trivial)⟩ (rt_cross hDz) hDl.2 hDr.2 hXs Rel T hT hTL hst T 0 (Nat.zero_add T) rtC_0 rtR_0 ls H _ h0 hl hPC hPR hS
