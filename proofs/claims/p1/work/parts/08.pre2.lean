/-! rt: new arrays of the two known classes; calls out of the law, where two worlds stand side by side (mine) -/
theorem rt_z9 {N : Nat} {ty : Nat → FieldType} {fs : List Value} (h : ((List.range N).map fun j => defaultValue (ty j)) = fs) : ∀ j, j < N → defaultValue (ty j) = vp_V fs j := by
  intro j hj
  subst h
  unfold vp_V
  rw [List.getD_eq_getElem?_getD, List.getElem?_map, List.getElem?_range hj]
  rfl
theorem rt_zokf {x : Int32} {u : Unit} (h : rt_zok x = some u) : fits .boolean (.int x) = true := by
  unfold rt_zok at h
  by_cases h0 : x = 0
  · subst h0; rfl
  · rw [if_neg h0] at h
    by_cases h1 : x = 1
    · subst h1; rfl
    · rw [if_neg h1] at h; cases h
section RTN
variable {p : Program} {l : Launch} {e : Env} {R : Room} {s : State} {m : MethodId} {args : Array Value} {below : List Frame} {meth : Method} {c : Code} {H : Heap} {locs : List Loc} {cells slots : Nat} {Q : State → Prop}
variable {cc : ByteArray} {pc : Nat} {ls : Array Slot} {rest : List Value} {D : va_G} {cl : List vw_C} {A : Nat → Prop} {ws : va_W} {H0 : Heap} {cI cZ : ClassId}
theorem rt_newaI (hx : p.tables.exec = Jvm.exec) (hb : c.code = cc) (harr : (Cond.arrayClass .int).before args s = true) (hK : va_K D cl (rt_t cI cZ) s) (hP : va_P D cl ws H) (hD : va_D A ws) (hS : va_S A H0 H locs) (hA : ∀ q, H0.size ≤ q → A q)
    {n : Int32} {N' : Nat} (hn : ¬ n < 0) (hN : n.toNatClampNeg = N') (hbytes : N' * componentBytes .int ≤ 536870912) (hcells : cells + 1 ≤ R.cells) (hslots : slots + N' ≤ R.slots) (hdg : decode cc pc = .ok (.newarray .int, 2))
    (kk : ∀ (q : Nat) (H1 : Heap), va_P D cl (ws ++ [(q, .inl (cI, N', .inl (fun _ => 0)))]) H1 → va_D A (ws ++ [(q, .inl (cI, N', .inl (fun _ => 0)))]) → va_S A H0 H1 locs →
      W p l e R s m args below meth c H1 locs (cells + 1) (slots + N') Q (F0 m (pc + 2) ls (.ref q :: rest))) : W p l e R s m args below meth c H locs cells slots Q (F0 m pc ls (.int n :: rest)) := by
  refine va_newa (atype := .int) hx hb harr rfl hK hP hD hS hA (a0 := (N', .inl (fun _ => 0))) (fun cA => rfl) hn hN hbytes hcells hslots hdg (fun q cA H1 hK1 hP1 hD1 hS1 => ?_)
  have h1 := (hK1.2 2 (cA, .int) rfl).2
  have h2 := (hK.2 0 (cI, .int) rfl).2
  have h3 : cA = cI := Option.some.inj (h1.symm.trans h2)
  subst h3
  exact kk q H1 hP1 hD1 hS1
theorem rt_newaZ (hx : p.tables.exec = Jvm.exec) (hb : c.code = cc) (harr : (Cond.arrayClass .boolean).before args s = true) (hK : va_K D cl (rt_t cI cZ) s) (hP : va_P D cl ws H) (hD : va_D A ws) (hS : va_S A H0 H locs) (hA : ∀ q, H0.size ≤ q → A q)
    {n : Int32} {N' : Nat} (hn : ¬ n < 0) (hN : n.toNatClampNeg = N') (hbytes : N' * componentBytes .boolean ≤ 536870912) (hcells : cells + 1 ≤ R.cells) (hslots : slots + N' ≤ R.slots) (hdg : decode cc pc = .ok (.newarray .boolean, 2))
    (kk : ∀ (q : Nat) (H1 : Heap), va_P D cl (ws ++ [(q, .inl (cZ, N', .inl (fun _ => 0)))]) H1 → va_D A (ws ++ [(q, .inl (cZ, N', .inl (fun _ => 0)))]) → va_S A H0 H1 locs →
      W p l e R s m args below meth c H1 locs (cells + 1) (slots + N') Q (F0 m (pc + 2) ls (.ref q :: rest))) : W p l e R s m args below meth c H locs cells slots Q (F0 m pc ls (.int n :: rest)) := by
  refine va_newa (atype := .boolean) hx hb harr rfl hK hP hD hS hA (a0 := (N', .inl (fun _ => 0))) (fun cA => rfl) hn hN hbytes hcells hslots hdg (fun q cA H1 hK1 hP1 hD1 hS1 => ?_)
  have h1 := (hK1.2 2 (cA, .boolean) rfl).2
  have h2 := (hK.2 1 (cZ, .boolean) rfl).2
  have h3 : cA = cZ := Option.some.inj (h1.symm.trans h2)
  subst h3
  exact kk q H1 hP1 hD1 hS1
end RTN
section RTL
variable {p : Program} {l : Launch} {e : Env} {R : Room} {s : State} {m : MethodId} {args : Array Value} {below : List Frame} {meth : Method} {c : Code} {H : Heap} {locs : List Loc} {cells slots : Nat} {Q : State → Prop}
variable {cc bytes : ByteArray} {pc nL maxL index n : Nat} {ls : Array Slot} {rest st As : List Value} {D : va_G} {cl : List vw_C} {tys : List (ClassId × FieldType)} {Wl : rt_St → va_W} {X : (Nat → Prop) → State → Prop} {σ u : rt_St} {b k ci N : Nat} {T : u_T} {fs : List Value} {y : MethodName} {ret : Option FieldType} {rm : Room} {Ts : List Cond} {own C : String} {r : Int32}
theorem rt_preL (hXo : rt_Xok X) {A0 : Nat → Prop} (hK : va_K D cl tys s) (hP : va_P D cl (Wl σ) H) (hS : va_S A0 s.heap H locs) (hAA : ∀ q, rt_A Wl H.size q → A0 q) (hX : X A0 s) {U : State} (hU : U.heap = H) (hW : s.WarmedH U.vm) : rt_P D cl tys X Wl H.size σ U := by
  refine ⟨by rw [hU], by rw [hU]; exact hP, va_K.moved hW.alike hK, ?_⟩
  exact hXo _ _ s U hW.alike (fun q h1 h2 => by rw [hU]; exact hS.2.1 q h1 h2) (by rw [hU]; exact hAA) hX
/-- the law's call of a method of one of the two systems -/
theorem rt_lvi (hXo : rt_Xok X) {A0 : Nat → Prop} (S : CallFix p m c cc nL s args Ts own)
    (hM : ∀ sz, Met l y (rt_ws y bytes maxL ret) rm (va_Pc (.ref b :: As) (rt_P D cl tys X Wl sz σ)) (va_Qi (fun r1 u1 => r1 = r ∧ u1 = u) (rt_B D cl tys X Wl) (rt_A Wl sz)) 0 0 (rt_A Wl sz))
    (cw : CallW R s args own C index y bytes maxL ret (rt_ws y bytes maxL ret) rm 0 0 n) (hK : va_K D cl tys s) (hP : va_P D cl (Wl σ) H) (hS : va_S A0 s.heap H locs) (hAA : ∀ q, rt_A Wl H.size q → A0 q) (hX : X A0 s)
    (hk : (Wl σ)[k]? = some (b, .inr (ci, fs))) (hc : cl[ci]? = some (C, T, N)) (hn : As.length = n) (hsize : ls.size = nL) (hst : st = As.reverse ++ .ref b :: rest) (hw : (rest.map fun v => v.category).sum ≤ 8) (hdg : decode cc pc = .ok (.invokevirtual index, 3)) (hcs : cells ≤ R.cells ∧ slots ≤ R.slots)
    (kk : ∀ (H1 : Heap) (locs : List Loc), va_P D cl (Wl u) H1 → (∀ q : Nat, q < H.size → ¬ rt_A Wl H.size q → H1[q]? = H[q]?) → H.size ≤ H1.size → va_S A0 s.heap H1 locs → W p l e R s m args below meth c H1 locs cells slots Q (F0 m (pc + 3) ls (.int r :: rest))) : W p l e R s m args below meth c H locs cells slots Q (F0 m pc ls st) := by
  refine va_calli (va_runV S (hM H.size) cw ⟨rt_blind hXo _ _, va_recv hK hP hc hk, fun U hU hW => ⟨rfl, rt_preL hXo hK hP hS hAA hX hU hW⟩⟩ rfl hn hsize hst (lv_room hw) hdg hcs) hS (fun q _ h => hAA q h) hAA (fun r1 u1 t H1 l1 ht hvm hq hB hz hk1 hS1 => ?_)
  obtain ⟨rfl, rfl⟩ := hq
  exact kk H1 l1 (ht ▸ hB.1) hk1 hz hS1
end RTL
/-- a contract's beginning for a method of a JDK class: no entry of the machine's own stands in its place -/
theorem rt_ofW {l : Launch} {y : MethodName} {ws ws' : List Cond} {rm : Room} {Pc : Array Value → State → Prop} {Qc : Array Value → State → Outcome → State → Prop} {mc ms : Nat} {free : Addr → Prop} {cc : ByteArray} {maxL : Nat} {ret : Option FieldType}
    (hy : plainFor y = true) (hw : ws = Cond.code y cc maxL ret :: ws')
    (body : ∀ p e s m args below meth c s₁, BodyLoose p l y (headSpec ws rm) cc maxL ret e s m args below meth c s₁ → c.maxLocals = maxL → Pc args s →
      W p l e (headSpec ws rm).room s m args below meth c s.heap [] 0 0 (MQ below Qc args s mc ms free) (entryFrame m args maxL)) : Met l y ws rm Pc Qc mc ms free := by
  refine MetFree.of_bodySF (code := cc) (maxLocals := maxL) (ret := ret) hy ?_ ?_
  · intro args s m h hn
    obtain ⟨meth, c, h1, h2, h3, h4, h5, h6, -, -⟩ := Cond.code_spec hn (atoms_spec (ws := ws) h _ (by rw [hw]; exact List.mem_cons_self))
    exact ⟨meth, c, h1, h2, h3, h4, h5, h6⟩
  · intro p e s m args below meth c s₁ B hml hP _
    have hh0 : s₁.heap = s.heap := by rw [B.state]; rfl
    obtain ⟨t, a1, o, b1, b2, b3⟩ := body p e s m args below meth c s₁ B hml hP s₁ hh0 (Stand.of_body B)
    exact ⟨t, o, a1, b1, b2, ⟨b3.1, b3.2⟩⟩
