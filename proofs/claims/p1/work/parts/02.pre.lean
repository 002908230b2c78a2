/-! rt: the state of a world, the small steps of the models, and the rows over a world (mine; a draft: not compiled yet) -/
abbrev rt_St : Type := Nat → Nat → Int32
def rt_up (σ : rt_St) (c k : Nat) (x : Int32) : rt_St := fun d => if d = c then upd (σ c) k x else σ d
def rt_in (i : Int32) (n : Nat) : Bool := decide (0 ≤ i.toInt) && decide (i.toInt < (n : Int))
def rt_rd (σ : rt_St) (c n : Nat) (i : Int32) : Option Int32 := if rt_in i n = true then some (σ c i.toNatClampNeg) else none
def rt_rdK (f : Nat → Int32) (n : Nat) (i : Int32) : Option Int32 := if rt_in i n = true then some (f i.toNatClampNeg) else none
def rt_wr (σ : rt_St) (c n : Nat) (i x : Int32) : Option rt_St := if rt_in i n = true then some (rt_up σ c i.toNatClampNeg x) else none
def rt_put (σ : rt_St) (c k : Nat) (x : Int32) : Option rt_St := some (rt_up σ c k x)
def rt_div (x y : Int32) : Option Int32 := if y = 0 then none else some (x / y)
def rt_rem (x y : Int32) : Option Int32 := if y = 0 then none else some (x - x / y * y)
def rt_zok (x : Int32) : Option Unit := if x = 0 then some () else if x = 1 then some () else none
def rt_max (x y : Int32) : Int32 := if x < y then y else x
def rt_min (x y : Int32) : Int32 := if y < x then y else x
def rt_b2 {α : Type} (x : Option (Int32 × rt_St)) (k : Int32 → rt_St → Option α) : Option α := match x with
  | none => none
  | some q => k q.1 q.2
theorem rt_b1s {α β : Type} {x : Option α} {k : α → Option β} {o : β} (h : x.bind k = some o) : ∃ a, x = some a ∧ k a = some o := by
  cases x with
  | none => cases h
  | some a => exact ⟨a, rfl, h⟩
theorem rt_b2s {α : Type} {x : Option (Int32 × rt_St)} {k : Int32 → rt_St → Option α} {o : α} (h : rt_b2 x k = some o) : ∃ r u, x = some (r, u) ∧ k r u = some o := by
  cases x with
  | none => cases h
  | some q => exact ⟨q.1, q.2, rfl, h⟩
theorem rt_ins {i : Int32} {n : Nat} (h : rt_in i n = true) : vp_in i n := by
  unfold rt_in at h
  simp only [Bool.and_eq_true, decide_eq_true_eq] at h
  exact vp_in_iff.mpr h
theorem rt_rds {σ : rt_St} {c n : Nat} {i v : Int32} (h : rt_rd σ c n i = some v) : vp_in i n ∧ σ c i.toNatClampNeg = v := by
  unfold rt_rd at h
  by_cases hi : rt_in i n = true
  · rw [if_pos hi] at h
    exact ⟨rt_ins hi, Option.some.inj h⟩
  · rw [if_neg hi] at h
    cases h
theorem rt_wrs {σ u : rt_St} {c n : Nat} {i x : Int32} (h : rt_wr σ c n i x = some u) : vp_in i n ∧ rt_up σ c i.toNatClampNeg x = u := by
  unfold rt_wr at h
  by_cases hi : rt_in i n = true
  · rw [if_pos hi] at h
    exact ⟨rt_ins hi, Option.some.inj h⟩
  · rw [if_neg hi] at h
    cases h
theorem rt_puts {σ u : rt_St} {c k : Nat} {x : Int32} (h : rt_put σ c k x = some u) : rt_up σ c k x = u := Option.some.inj h
theorem rt_divs {x y v : Int32} (h : rt_div x y = some v) : ¬ y = 0 ∧ x / y = v := by
  unfold rt_div at h
  by_cases hy : y = 0
  · rw [if_pos hy] at h; cases h
  · rw [if_neg hy] at h; exact ⟨hy, Option.some.inj h⟩
theorem rt_rems {x y v : Int32} (h : rt_rem x y = some v) : ¬ y = 0 ∧ x - x / y * y = v := by
  unfold rt_rem at h
  by_cases hy : y = 0
  · rw [if_pos hy] at h; cases h
  · rw [if_neg hy] at h; exact ⟨hy, Option.some.inj h⟩
theorem rt_zoks {x : Int32} {u : Unit} (h : rt_zok x = some u) : narrow .boolean (.int x) = .int x := by
  unfold rt_zok at h
  by_cases h0 : x = 0
  · subst h0; rfl
  · rw [if_neg h0] at h
    by_cases h1 : x = 1
    · subst h1; rfl
    · rw [if_neg h1] at h; cases h
theorem rt_pr {x r : Int32} {σ u : rt_St} (h : some (x, σ) = some (r, u)) : x = r ∧ σ = u := by cases h; exact ⟨rfl, rfl⟩
/-! words: every method's list is its own code and the tables -/
def rt_tbl : List Cond := lw_tbl.filter goodWord
abbrev rt_ws (y : MethodName) (b : ByteArray) (n : Nat) (r : Option FieldType) : List Cond := Cond.code y b n r :: rt_tbl
theorem rt_good : rt_tbl.all goodWord = true := List.all_eq_true.mpr (fun _ h => (List.mem_filter.mp h).2)
theorem rt_gi {x : Cond} {y : MethodName} {b : ByteArray} {n : Nat} {r : Option FieldType} (h : Cond.code y b n r ∈ rt_tbl) : GoodIn (x :: rt_tbl) (rt_ws y b n r) := fun w hw => by
  have h1 : w ∈ rt_tbl := (List.mem_cons.mp hw).elim (fun e => e ▸ h) id
  exact ⟨List.mem_cons_of_mem _ h1, good_of_word (List.all_eq_true.mp rt_good w h1)⟩
/-! the world of a system: a list of cells for each state, always at the same addresses -/
def rt_A (Wl : rt_St → va_W) (sz : Nat) : Nat → Prop := va_A (Wl fun _ _ => 0) sz
def rt_Ok (Wl : rt_St → va_W) : Prop := (∀ σ, (Wl σ).map (·.1) = (Wl fun _ _ => 0).map (·.1)) ∧ va_D (fun _ => True) (Wl fun _ _ => 0)
theorem rt_same {w1 w2 : va_W} (h : w1.map (·.1) = w2.map (·.1)) {k : Nat} {q : Nat × va_E} (hk : w1[k]? = some q) : ∃ e, w2[k]? = some (q.1, e) := by
  have h1 : (w1.map (·.1))[k]? = some q.1 := by rw [List.getElem?_map, hk]; rfl
  rw [h, List.getElem?_map] at h1
  cases h2 : w2[k]? with
  | none => rw [h2] at h1; cases h1
  | some z => rw [h2] at h1; exact ⟨z.2, by rw [← Option.some.inj h1]⟩
theorem rt_hD {Wl : rt_St → va_W} (h : rt_Ok Wl) (sz : Nat) : ∀ σ, va_D (rt_A Wl sz) (Wl σ) := by
  intro σ
  refine ⟨fun i j p q hi hj e => ?_, fun k q hk => ?_⟩
  · obtain ⟨e1, h1⟩ := rt_same (h.1 σ) hi
    obtain ⟨e2, h2⟩ := rt_same (h.1 σ) hj
    exact h.2.1 i j _ _ h1 h2 e
  · obtain ⟨e1, h1⟩ := rt_same (h.1 σ) hk
    exact Or.inl ⟨k, e1, h1⟩
theorem rt_Ale {Wl : rt_St → va_W} {a b : Nat} (h : a ≤ b) : ∀ q, rt_A Wl b q → rt_A Wl a q := fun _ hq => hq.elim Or.inl (fun h2 => Or.inr (Nat.le_trans h h2))
def rt_B (D : va_G) (cl : List vw_C) (tys : List (ClassId × FieldType)) (X : (Nat → Prop) → State → Prop) (Wl : rt_St → va_W) (u : rt_St) (t : State) : Prop := va_P D cl (Wl u) t.heap ∧ va_K D cl tys t ∧ X (rt_A Wl t.heap.size) t
def rt_P (D : va_G) (cl : List vw_C) (tys : List (ClassId × FieldType)) (X : (Nat → Prop) → State → Prop) (Wl : rt_St → va_W) (sz : Nat) (u : rt_St) (t : State) : Prop := t.heap.size = sz ∧ rt_B D cl tys X Wl u t
/-- what is carried beside the world: it stays when the tables warm, when cells of A change, and for fewer cells -/
def rt_Xok (X : (Nat → Prop) → State → Prop) : Prop := (∀ (A B : Nat → Prop) (s t : State), s.vm.Alike t.vm → (∀ q, q < s.heap.size → ¬ A q → t.heap[q]? = s.heap[q]?) → (∀ q, B q → A q) → X A s → X B t)
section RTW
variable {p : Program} {l : Launch} {e : Env} {R : Room} {s : State} {m : MethodId} {args : Array Value} {below : List Frame} {meth : Method} {c : Code} {H : Heap} {locs : List Loc} {cells slots : Nat} {Q : State → Prop}
variable {cc : ByteArray} {pc : Nat} {ls : Array Slot} {rest st : List Value} {D : va_G} {cl : List vw_C} {tys : List (ClassId × FieldType)} {A0 : Nat → Prop} {H0 : Heap} {Wl : rt_St → va_W} {X : (Nat → Prop) → State → Prop} {σ u : rt_St} {a : Nat}
theorem rt_ald (hx : p.tables.exec = Jvm.exec) (hb : c.code = cc) (hK : va_K D cl tys s) (hP : va_P D cl (Wl σ) H) (k t0 : Nat) {cA : ClassId} {n : Nat} (ha : (Wl σ)[k]? = some (a, .inl (cA, n, .inl (σ k)))) (ht : tys[t0]? = some (cA, .int)) {i v : Int32} (h1 : rt_rd σ k n i = some v) (hdg : decode cc pc = .ok (.iaload, 1))
    (kk : W p l e R s m args below meth c H locs cells slots Q (F0 m (pc + 1) ls (.int v :: rest))) : W p l e R s m args below meth c H locs cells slots Q (F0 m pc ls (.int i :: .ref a :: rest)) := by
  obtain ⟨hin, rfl⟩ := rt_rds h1
  exact va_iald hx hb hK hP k t0 ha ht hin hdg kk
theorem rt_zld (hx : p.tables.exec = Jvm.exec) (hb : c.code = cc) (hK : va_K D cl tys s) (hP : va_P D cl (Wl σ) H) (k t0 : Nat) {cA : ClassId} {n : Nat} (ha : (Wl σ)[k]? = some (a, .inl (cA, n, .inl (σ k)))) (ht : tys[t0]? = some (cA, .boolean)) {i v : Int32} (h1 : rt_rd σ k n i = some v) (hdg : decode cc pc = .ok (.baload, 1))
    (kk : W p l e R s m args below meth c H locs cells slots Q (F0 m (pc + 1) ls (.int v :: rest))) : W p l e R s m args below meth c H locs cells slots Q (F0 m pc ls (.int i :: .ref a :: rest)) := by
  obtain ⟨hin, rfl⟩ := rt_rds h1
  exact va_zald hx hb hK hP k t0 ha ht hin hdg kk
theorem rt_ast (hx : p.tables.exec = Jvm.exec) (hb : c.code = cc) (hK : va_K D cl tys s) (hP : va_P D cl (Wl σ) H) (hD : ∀ σ, va_D A0 (Wl σ)) (hS : va_S A0 H0 H locs) (k t0 : Nat) {cA : ClassId} {n : Nat} (ha : (Wl σ)[k]? = some (a, .inl (cA, n, .inl (σ k)))) (hset : ∀ (i : Nat) (x : Int32), (Wl σ).set k (a, .inl (cA, n, .inl (upd (σ k) i x))) = Wl (rt_up σ k i x)) (ht : tys[t0]? = some (cA, .int)) {i x : Int32} (h1 : rt_wr σ k n i x = some u) (hdg : decode cc pc = .ok (.iastore, 1))
    (kk : ∀ (H : Heap) (locs : List Loc), va_P D cl (Wl u) H → va_S A0 H0 H locs → W p l e R s m args below meth c H locs cells slots Q (F0 m (pc + 1) ls rest)) : W p l e R s m args below meth c H locs cells slots Q (F0 m pc ls (.int x :: .int i :: .ref a :: rest)) := by
  obtain ⟨hin, rfl⟩ := rt_wrs h1
  exact va_iast hx hb hK hP (hD σ) hS k t0 ha ht hin hdg (fun H1 l1 h2 _ h4 => kk H1 l1 (hset _ _ ▸ h2) h4)
theorem rt_zst (hx : p.tables.exec = Jvm.exec) (hb : c.code = cc) (hK : va_K D cl tys s) (hP : va_P D cl (Wl σ) H) (hD : ∀ σ, va_D A0 (Wl σ)) (hS : va_S A0 H0 H locs) (k t0 : Nat) {cA : ClassId} {n : Nat} (ha : (Wl σ)[k]? = some (a, .inl (cA, n, .inl (σ k)))) (hset : ∀ (i : Nat) (x : Int32), (Wl σ).set k (a, .inl (cA, n, .inl (upd (σ k) i x))) = Wl (rt_up σ k i x)) (ht : tys[t0]? = some (cA, .boolean)) {i x y : Int32} (hy : vp_nar .boolean x = y) (h1 : rt_wr σ k n i y = some u) (hdg : decode cc pc = .ok (.bastore, 1))
    (kk : ∀ (H : Heap) (locs : List Loc), va_P D cl (Wl u) H → va_S A0 H0 H locs → W p l e R s m args below meth c H locs cells slots Q (F0 m (pc + 1) ls rest)) : W p l e R s m args below meth c H locs cells slots Q (F0 m pc ls (.int x :: .int i :: .ref a :: rest)) := by
  subst hy
  obtain ⟨hin, rfl⟩ := rt_wrs h1
  exact va_zast hx hb hK hP (hD σ) hS k t0 ha ht hin hdg (fun H1 l1 h2 _ h4 => kk H1 l1 (hset _ _ ▸ h2) h4)
/-- putfield of a number: by va_put; the set world is the world of the new state -/
theorem rt_pf (hx : p.tables.exec = Jvm.exec) (hb : c.code = cc) {own ref C : String} {T : u_T} {N ci index : Nat} {Ts : List Cond} (hts : ∀ w ∈ Ts, w.before args s = true) (hin : ∀ w ∈ u_ws C T N, w ∈ Ts) (ty0 : Nat → FieldType) (hty : ∀ k, k < N → parseFieldDescriptor (T k).2.2.1 = some (ty0 k)) (hnm : ∀ a, a < N → ∀ b, b < N → a ≠ b → (T a).2.1 ≠ (T b).2.1) (hown : s.vm.findClass own = some m.cls) (hK : va_K D cl tys s) (hP : va_P D cl (Wl σ) H) (hD : ∀ σ, va_D A0 (Wl σ)) (hS : va_S A0 H0 H locs) (q0 : Nat) {fs : List Value} (he : (Wl σ)[q0]? = some (a, .inr (ci, fs))) (hc : cl[ci]? = some (C, T, N)) (k : Nat) (hk : k < N) (hlink : (Cond.fieldLink own index ref (T k).2.1 (T k).2.2.1).before args s = true) (hsame : ∀ x, s.fieldFound? (T k).1 (T k).2.1 (T k).2.2.1 = some x → s.fieldFound? ref (T k).2.1 (T k).2.2.1 = some x) (hfin : (T k).2.2.2 = false) {ty : FieldType} {x : Int32} (hd : parseFieldDescriptor (T k).2.2.1 = some ty) (hn : narrow ty (.int x) = .int x) (hfit : fits ty (.int x) = true) (hl : k < fs.length)
    (hset : (Wl σ).set q0 (a, .inr (ci, fs.set k (.int x))) = Wl (rt_up σ q0 k x)) (h1 : rt_put σ q0 k x = some u) (hdg : decode cc pc = .ok (.putfield index, 3))
    (kk : ∀ (H : Heap) (locs : List Loc), va_P D cl (Wl u) H → va_S A0 H0 H locs → W p l e R s m args below meth c H locs cells slots Q (F0 m (pc + 3) ls rest)) : W p l e R s m args below meth c H locs cells slots Q (F0 m pc ls (.int x :: .ref a :: rest)) := by
  have h2 := rt_puts h1
  subst h2
  exact va_put hx hb hts hin ty0 hty hnm hown hK hP (hD σ) hS q0 he hc k hk hlink hsame hfin hd hn hfit hl hdg (fun H1 l1 h3 _ h4 => kk H1 l1 (hset ▸ h3) h4)
end RTW
section RTC
variable {p : Program} {l : Launch} {e : Env} {R : Room} {s : State} {m : MethodId} {args : Array Value} {below : List Frame} {meth : Method} {c : Code} {H : Heap} {locs : List Loc} {cells slots : Nat} {Q : State → Prop}
variable {cc bytes : ByteArray} {pc nL maxL index n : Nat} {ls : Array Slot} {rest st As : List Value} {D : va_G} {cl : List vw_C} {tys : List (ClassId × FieldType)} {Wl : rt_St → va_W} {X : (Nat → Prop) → State → Prop} {σ u : rt_St} {b k ci N : Nat} {T : u_T} {fs : List Value} {y : MethodName} {ret : Option FieldType} {rm : Room} {Ts : List Cond} {own C : String} {r : Int32}
theorem rt_blind (hXo : rt_Xok X) (av : List Value) (sz : Nat) : FrameBlind (va_Pc av (rt_P D cl tys X Wl sz σ)) := fun v U g mk q => by
  obtain ⟨q0, q1, qP, qK, qX⟩ := q
  exact ⟨q0, q1, qP, va_K.moved (u := U) (U := U.calling g mk v) (Vm.Alike.refl U.vm) qK, hXo _ _ U (U.calling g mk v) (Vm.Alike.refl U.vm) (fun _ _ _ => rfl) (fun _ h => h) qX⟩
theorem rt_pre (hXo : rt_Xok X) (hK : va_K D cl tys s) (hP : va_P D cl (Wl σ) H) (hS : va_S (rt_A Wl s.heap.size) s.heap H locs) (hX : X (rt_A Wl s.heap.size) s) {U : State} (hU : U.heap = H) (hW : s.WarmedH U.vm) : rt_P D cl tys X Wl H.size σ U := by
  refine ⟨by rw [hU], by rw [hU]; exact hP, va_K.moved hW.alike hK, ?_⟩
  exact hXo _ _ s U hW.alike (fun q h1 h2 => by rw [hU]; exact hS.2.1 q h1 h2) (by rw [hU]; exact rt_Ale hS.1) hX
/-- a call of an own method that answers a number -/
theorem rt_cvi (hXo : rt_Xok X) (S : CallFix p m c cc nL s args Ts own)
    (hM : ∀ sz, Met l y (rt_ws y bytes maxL ret) rm (va_Pc (.ref b :: As) (rt_P D cl tys X Wl sz σ)) (va_Qi (fun r1 u1 => r1 = r ∧ u1 = u) (rt_B D cl tys X Wl) (rt_A Wl sz)) 0 0 (rt_A Wl sz))
    (cw : CallW R s args own C index y bytes maxL ret (rt_ws y bytes maxL ret) rm 0 0 n) (hK : va_K D cl tys s) (hP : va_P D cl (Wl σ) H) (hS : va_S (rt_A Wl s.heap.size) s.heap H locs) (hX : X (rt_A Wl s.heap.size) s)
    (hk : (Wl σ)[k]? = some (b, .inr (ci, fs))) (hc : cl[ci]? = some (C, T, N)) (hn : As.length = n) (hsize : ls.size = nL) (hst : st = As.reverse ++ .ref b :: rest) (hw : (rest.map fun v => v.category).sum ≤ 8) (hdg : decode cc pc = .ok (.invokevirtual index, 3)) (hcs : cells ≤ R.cells ∧ slots ≤ R.slots)
    (kk : ∀ (H : Heap) (locs : List Loc), va_P D cl (Wl u) H → va_S (rt_A Wl s.heap.size) s.heap H locs → W p l e R s m args below meth c H locs cells slots Q (F0 m (pc + 3) ls (.int r :: rest))) : W p l e R s m args below meth c H locs cells slots Q (F0 m pc ls st) := by
  refine va_calli (va_runV S (hM H.size) cw ⟨rt_blind hXo _ _, va_recv hK hP hc hk, fun U hU hW => ⟨rfl, rt_pre hXo hK hP hS hX hU hW⟩⟩ rfl hn hsize hst (lv_room hw) hdg hcs) hS (fun q _ h => rt_Ale hS.1 q h) (rt_Ale hS.1) (fun r1 u1 t H1 l1 ht hvm hq hB hz hk1 hS1 => ?_)
  obtain ⟨rfl, rfl⟩ := hq
  exact kk H1 l1 (ht ▸ hB.1) hS1
theorem rt_cvv (hXo : rt_Xok X) (S : CallFix p m c cc nL s args Ts own)
    (hM : ∀ sz, Met l y (rt_ws y bytes maxL ret) rm (va_Pc (.ref b :: As) (rt_P D cl tys X Wl sz σ)) (va_Qv (fun u1 => u1 = u) (rt_B D cl tys X Wl) (rt_A Wl sz)) 0 0 (rt_A Wl sz))
    (cw : CallW R s args own C index y bytes maxL ret (rt_ws y bytes maxL ret) rm 0 0 n) (hK : va_K D cl tys s) (hP : va_P D cl (Wl σ) H) (hS : va_S (rt_A Wl s.heap.size) s.heap H locs) (hX : X (rt_A Wl s.heap.size) s)
    (hk : (Wl σ)[k]? = some (b, .inr (ci, fs))) (hc : cl[ci]? = some (C, T, N)) (hn : As.length = n) (hsize : ls.size = nL) (hst : st = As.reverse ++ .ref b :: rest) (hw : (rest.map fun v => v.category).sum ≤ 8) (hdg : decode cc pc = .ok (.invokevirtual index, 3)) (hcs : cells ≤ R.cells ∧ slots ≤ R.slots)
    (kk : ∀ (H : Heap) (locs : List Loc), va_P D cl (Wl u) H → va_S (rt_A Wl s.heap.size) s.heap H locs → W p l e R s m args below meth c H locs cells slots Q (F0 m (pc + 3) ls rest)) : W p l e R s m args below meth c H locs cells slots Q (F0 m pc ls st) := by
  refine va_callv (va_runV S (hM H.size) cw ⟨rt_blind hXo _ _, va_recv hK hP hc hk, fun U hU hW => ⟨rfl, rt_pre hXo hK hP hS hX hU hW⟩⟩ rfl hn hsize hst (lv_room hw) hdg hcs) hS (fun q _ h => rt_Ale hS.1 q h) (rt_Ale hS.1) (fun u1 t H1 l1 ht hvm hq hB hz hk1 hS1 => ?_)
  subst hq
  exact kk H1 l1 (ht ▸ hB.1) hS1
/-- a call of a static method over the world (its arrays are cells of it) -/
theorem rt_cwi (hXo : rt_Xok X) (S : CallFix p m c cc nL s args Ts own)
    (hM : ∀ sz, Met l y (rt_ws y bytes maxL ret) rm (va_Pc As (rt_P D cl tys X Wl sz σ)) (va_Qi (fun r1 u1 => r1 = r ∧ u1 = u) (rt_B D cl tys X Wl) (rt_A Wl sz)) 0 0 (rt_A Wl sz))
    (cw : CallB R s args own index y bytes maxL ret (rt_ws y bytes maxL ret) rm 0 0 n ∧ (Cond.static y).before args s = true) (hK : va_K D cl tys s) (hP : va_P D cl (Wl σ) H) (hS : va_S (rt_A Wl s.heap.size) s.heap H locs) (hX : X (rt_A Wl s.heap.size) s)
    (hn : As.length = n) (hsize : ls.size = nL) (hst : st = As.reverse ++ rest) (hw : (rest.map fun v => v.category).sum ≤ 8) (hdg : decode cc pc = .ok (.invokestatic index, 3)) (hcs : cells ≤ R.cells ∧ slots ≤ R.slots)
    (kk : ∀ (H : Heap) (locs : List Loc), va_P D cl (Wl u) H → va_S (rt_A Wl s.heap.size) s.heap H locs → W p l e R s m args below meth c H locs cells slots Q (F0 m (pc + 3) ls (.int r :: rest))) : W p l e R s m args below meth c H locs cells slots Q (F0 m pc ls st) := by
  refine va_calli (va_runS S (hM H.size) cw ⟨rt_blind hXo _ _, fun U hU hW => ⟨rfl, rt_pre hXo hK hP hS hX hU hW⟩⟩ rfl hn hsize hst (lv_room hw) hdg hcs) hS (fun q _ h => rt_Ale hS.1 q h) (rt_Ale hS.1) (fun r1 u1 t H1 l1 ht hvm hq hB hz hk1 hS1 => ?_)
  obtain ⟨rfl, rfl⟩ := hq
  exact kk H1 l1 (ht ▸ hB.1) hS1
theorem rt_cwv (hXo : rt_Xok X) (S : CallFix p m c cc nL s args Ts own)
    (hM : ∀ sz, Met l y (rt_ws y bytes maxL ret) rm (va_Pc As (rt_P D cl tys X Wl sz σ)) (va_Qv (fun u1 => u1 = u) (rt_B D cl tys X Wl) (rt_A Wl sz)) 0 0 (rt_A Wl sz))
    (cw : CallB R s args own index y bytes maxL ret (rt_ws y bytes maxL ret) rm 0 0 n ∧ (Cond.static y).before args s = true) (hK : va_K D cl tys s) (hP : va_P D cl (Wl σ) H) (hS : va_S (rt_A Wl s.heap.size) s.heap H locs) (hX : X (rt_A Wl s.heap.size) s)
    (hn : As.length = n) (hsize : ls.size = nL) (hst : st = As.reverse ++ rest) (hw : (rest.map fun v => v.category).sum ≤ 8) (hdg : decode cc pc = .ok (.invokestatic index, 3)) (hcs : cells ≤ R.cells ∧ slots ≤ R.slots)
    (kk : ∀ (H : Heap) (locs : List Loc), va_P D cl (Wl u) H → va_S (rt_A Wl s.heap.size) s.heap H locs → W p l e R s m args below meth c H locs cells slots Q (F0 m (pc + 3) ls rest)) : W p l e R s m args below meth c H locs cells slots Q (F0 m pc ls st) := by
  refine va_callv (va_runS S (hM H.size) cw ⟨rt_blind hXo _ _, fun U hU hW => ⟨rfl, rt_pre hXo hK hP hS hX hU hW⟩⟩ rfl hn hsize hst (lv_room hw) hdg hcs) hS (fun q _ h => rt_Ale hS.1 q h) (rt_Ale hS.1) (fun u1 t H1 l1 ht hvm hq hB hz hk1 hS1 => ?_)
  subst hq
  exact kk H1 l1 (ht ▸ hB.1) hS1
/-- a static method over numbers alone: its contract, and a call of it, from anywhere -/
abbrev rt_MS (l : Launch) (y : MethodName) (bytes : ByteArray) (maxL : Nat) (ret : Option FieldType) (rm : Room) (X : (Nat → Prop) → State → Prop) (av : List Value) (r : Int32) : Prop :=
  ∀ sz, Met l y (rt_ws y bytes maxL ret) rm (va_Pc av (fun U => U.heap.size = sz ∧ X (fun q => sz ≤ q) U)) (va_Qi (fun r1 (_ : Unit) => r1 = r) (fun _ _ => True) (fun q => sz ≤ q)) 0 0 (fun q => sz ≤ q)
theorem rt_csi (hXo : rt_Xok X) {A0 : Nat → Prop} (S : CallFix p m c cc nL s args Ts own) (hM : rt_MS l y bytes maxL ret rm X As r)
    (cw : CallB R s args own index y bytes maxL ret (rt_ws y bytes maxL ret) rm 0 0 n ∧ (Cond.static y).before args s = true) (hS : va_S A0 s.heap H locs) (hA : ∀ q, s.heap.size ≤ q → A0 q) (hX : X A0 s)
    (hn : As.length = n) (hsize : ls.size = nL) (hst : st = As.reverse ++ rest) (hw : (rest.map fun v => v.category).sum ≤ 8) (hdg : decode cc pc = .ok (.invokestatic index, 3)) (hcs : cells ≤ R.cells ∧ slots ≤ R.slots)
    (kk : ∀ (H1 : Heap) (locs : List Loc), (∀ q : Nat, q < H.size → H1[q]? = H[q]?) → va_S A0 s.heap H1 locs → W p l e R s m args below meth c H1 locs cells slots Q (F0 m (pc + 3) ls (.int r :: rest))) : W p l e R s m args below meth c H locs cells slots Q (F0 m pc ls st) := by
  refine va_calli (va_runS S (hM H.size) cw ⟨fun v U g mk q => ?_, fun U hU hW => ⟨rfl, by rw [hU], ?_⟩⟩ rfl hn hsize hst (lv_room hw) hdg hcs) hS (fun q h1 h2 => absurd h1 (Nat.not_lt.mpr h2)) (fun q h => hA q (Nat.le_trans hS.1 h)) (fun r1 u1 t H1 l1 ht hvm hq hB hz hk1 hS1 => ?_)
  · obtain ⟨q0, q1, qX⟩ := q
    exact ⟨q0, q1, hXo _ _ U (U.calling g mk v) (Vm.Alike.refl U.vm) (fun _ _ _ => rfl) (fun _ h => h) qX⟩
  · exact hXo _ _ s U hW.alike (fun q h1 h2 => by rw [hU]; exact hS.2.1 q h1 h2) (fun q h => hA q (Nat.le_trans hS.1 h)) hX
  · subst hq
    exact kk H1 l1 (fun q h => hk1 q h (Nat.not_le.mpr h)) hS1
theorem rt_keep {ws : va_W} {H1 : Heap} (hP : va_P D cl ws H) (h : ∀ q : Nat, q < H.size → H1[q]? = H[q]?) : va_P D cl ws H1 := hP.kept (fun k q hk => h q.1 ((hP k q hk).lt))
end RTC
section RTE
variable {s : State} {H : Heap} {locs : List Loc} {D : va_G} {cl : List vw_C} {tys : List (ClassId × FieldType)} {Wl : rt_St → va_W} {X : (Nat → Prop) → State → Prop} {σ : rt_St}
theorem rt_end (hXo : rt_Xok X) (hK : va_K D cl tys s) (hP : va_P D cl (Wl σ) H) (hS : va_S (rt_A Wl s.heap.size) s.heap H locs) (hX : X (rt_A Wl s.heap.size) s) {t : State} (ht : t.heap = H) (hW : s.WarmedH t.vm) : rt_B D cl tys X Wl σ t := by
  have h := (rt_pre hXo hK hP hS hX ht hW).2
  exact h
end RTE
def rt_X0 : (Nat → Prop) → State → Prop := fun _ _ => True
theorem rt_X0o : rt_Xok rt_X0 := fun _ _ _ _ _ _ _ _ => trivial
abbrev rt_Qi (D : va_G) (cl : List vw_C) (tys : List (ClassId × FieldType)) (X : (Nat → Prop) → State → Prop) (Wl : rt_St → va_W) (below : List Frame) (args : Array Value) (s : State) (r : Int32) (u : rt_St) : State → Prop := MQ below (va_Qi (fun r1 u1 => r1 = r ∧ u1 = u) (rt_B D cl tys X Wl) (rt_A Wl s.heap.size)) args s 0 0 (rt_A Wl s.heap.size)
abbrev rt_Qv (D : va_G) (cl : List vw_C) (tys : List (ClassId × FieldType)) (X : (Nat → Prop) → State → Prop) (Wl : rt_St → va_W) (below : List Frame) (args : Array Value) (s : State) (u : rt_St) : State → Prop := MQ below (va_Qv (fun u1 => u1 = u) (rt_B D cl tys X Wl) (rt_A Wl s.heap.size)) args s 0 0 (rt_A Wl s.heap.size)
abbrev rt_Qs (below : List Frame) (args : Array Value) (s : State) (r : Int32) : State → Prop := MQ below (va_Qi (fun r1 (_ : Unit) => r1 = r) (fun _ _ => True) (fun q => s.heap.size ≤ q)) args s 0 0 (fun q => s.heap.size ≤ q)
theorem rt_m {x w : Cond} (h : w ∈ rt_tbl) : w ∈ x :: rt_tbl := List.mem_cons_of_mem _ h
/-! copies, static tables -/
def rt_uf (σ : rt_St) (c : Nat) (f : Nat → Int32) : rt_St := fun d => if d = c then f else σ d
def rt_cpy (σ : rt_St) (c1 n1 : Nat) (sp : Int32) (c2 n2 : Nat) (dp n : Int32) : Option rt_St :=
  if ¬ sp < 0 ∧ ¬ dp < 0 ∧ ¬ n < 0 ∧ sp.toNatClampNeg + n.toNatClampNeg ≤ n1 ∧ dp.toNatClampNeg + n.toNatClampNeg ≤ n2 then some (rt_uf σ c2 (va_cpy (σ c1) (σ c2) sp.toNatClampNeg dp.toNatClampNeg n.toNatClampNeg)) else none
theorem rt_cpys {σ u : rt_St} {c1 n1 c2 n2 : Nat} {sp dp n : Int32} (h : rt_cpy σ c1 n1 sp c2 n2 dp n = some u) : (¬ sp < 0 ∧ ¬ dp < 0 ∧ ¬ n < 0 ∧ sp.toNatClampNeg + n.toNatClampNeg ≤ n1 ∧ dp.toNatClampNeg + n.toNatClampNeg ≤ n2) ∧ rt_uf σ c2 (va_cpy (σ c1) (σ c2) sp.toNatClampNeg dp.toNatClampNeg n.toNatClampNeg) = u := by
  unfold rt_cpy at h
  by_cases hi : ¬ sp < 0 ∧ ¬ dp < 0 ∧ ¬ n < 0 ∧ sp.toNatClampNeg + n.toNatClampNeg ≤ n1 ∧ dp.toNatClampNeg + n.toNatClampNeg ≤ n2
  · rw [if_pos hi] at h
    exact ⟨hi, Option.some.inj h⟩
  · rw [if_neg hi] at h
    cases h
section RTS
variable {p : Program} {l : Launch} {e : Env} {R : Room} {s : State} {m : MethodId} {args : Array Value} {below : List Frame} {meth : Method} {c : Code} {H : Heap} {locs : List Loc} {cells slots : Nat} {Q : State → Prop}
variable {cc : ByteArray} {pc : Nat} {ls : Array Slot} {rest st : List Value} {D : va_G} {cl : List vw_C} {tys : List (ClassId × FieldType)} {A0 : Nat → Prop} {H0 : Heap} {Wl : rt_St → va_W} {σ u : rt_St} {a : Nat}
theorem rt_cp (hx : p.tables.exec = Jvm.exec) (hb : c.code = cc) (hml : c.maxLocals = ls.size) {own : String} {index : Nat} (hown : s.vm.findClass own = some m.cls) (hlink : (Cond.methodLink own index arraycopyName).before args s = true) (hnat : (Cond.native arraycopyName).before args s = true) (hstat : (Cond.static arraycopyName).before args s = true) (hini : (Cond.initialized "java/lang/System").before args s = true)
    (hK : va_K D cl tys s) (hP : va_P D cl (Wl σ) H) (hD : ∀ σ, va_D A0 (Wl σ)) (hS : va_S A0 H0 H locs) (k1 k2 : Nat) {a0 : Nat} {cA : ClassId} {n1 n2 : Nat} (ha0 : (Wl σ)[k1]? = some (a0, .inl (cA, n1, .inl (σ k1)))) (ha1 : (Wl σ)[k2]? = some (a, .inl (cA, n2, .inl (σ k2)))) (hset : ∀ f, (Wl σ).set k2 (a, .inl (cA, n2, .inl f)) = Wl (rt_uf σ k2 f)) (ht : tys[0]? = some (cA, .int))
    {sp dp n : Int32} (h1 : rt_cpy σ k1 n1 sp k2 n2 dp n = some u) (hframes : 1 ≤ R.frames) (hlocals : (rest.map fun v => v.category).sum + (nativeFrameWords "java/lang/System" "arraycopy" 5 + 11) ≤ R.locals) (hdg : decode cc pc = .ok (.invokestatic index, 3))
    (kk : ∀ (H : Heap) (locs : List Loc), va_P D cl (Wl u) H → va_S A0 H0 H locs → W p l e R s m args below meth c H locs cells slots Q (F0 m (pc + 3) ls rest)) : W p l e R s m args below meth c H locs cells slots Q (F0 m pc ls (.int n :: .int dp :: .ref a :: .int sp :: .ref a0 :: rest)) := by
  obtain ⟨⟨g1, g2, g3, g4, g5⟩, rfl⟩ := rt_cpys h1
  exact va_copyi hx hb hml hown hlink hnat hstat hini hK hP (hD σ) hS k1 k2 0 0 ha0 ha1 ht ht rfl g1 g2 g3 g4 g5 (fun _ _ => rfl) hframes hlocals hdg (fun H1 l1 h2 _ h4 => kk H1 l1 (hset _ ▸ h2) h4)
theorem rt_rdKs {f : Nat → Int32} {n : Nat} {i v : Int32} (h : rt_rdK f n i = some v) : vp_in i n ∧ f i.toNatClampNeg = v := by
  unfold rt_rdK at h
  by_cases hi : rt_in i n = true
  · rw [if_pos hi] at h
    exact ⟨rt_ins hi, Option.some.inj h⟩
  · rw [if_neg hi] at h
    cases h
theorem rt_sld (hx : p.tables.exec = Jvm.exec) (hb : c.code = cc) {t N : Nat} {f : Nat → Int32} (hT : va_T .int t N (fun j => .int (f j)) A0 s s.heap) (hS : va_S A0 s.heap H locs) {i v : Int32} (h1 : rt_rdK f N i = some v) (hdg : decode cc pc = .ok (.iaload, 1))
    (kk : W p l e R s m args below meth c H locs cells slots Q (F0 m (pc + 1) ls (.int v :: rest))) : W p l e R s m args below meth c H locs cells slots Q (F0 m pc ls (.int i :: .ref t :: rest)) := by
  obtain ⟨hin, rfl⟩ := rt_rdKs h1
  exact va_ti hx hb hT hS hin rfl hdg kk
end RTS
/-- the class's static tables, outside A -/
def rtC_Z (n : String) (f : Nat → Int32) (A : Nat → Prop) (U : State) : Prop := ∃ t : Nat, va_Z "RangeTeller$Ops" n "[I" (.ref t) A U U.heap ∧ va_T .int t 29 (fun j => .int (f j)) A U U.heap
theorem rtC_Zo (n : String) (f : Nat → Int32) : rt_Xok (rtC_Z n f) := by
  intro A B s t hvm hq hAB h
  obtain ⟨a, h1, h2⟩ := h
  exact ⟨a, (va_Z.moved hvm (h1.kept hq)).narrow hAB, (va_T.moved hvm (h2.kept hq)).narrow hAB⟩
def S_Ops_TAKES : Nat → Int32 := fun j => ([0, 0, 0, 0, 0, 0, 0, 0, 0, 0, 1, 3, 0, 1, 1, 1, 2, 0, 1, 2, 2, 2, 2, 2, 2, 2, 2, 0, 1] : List Int32).getD j 0
def S_Ops_GIVES : Nat → Int32 := fun j => ([0, 0, 0, 0, 0, 0, 0, 0, 0, 0, 0, 1, 1, 0, 1, 1, 0, 1, 1, 1, 1, 1, 1, 1, 1, 1, 1, 1, 0] : List Int32).getD j 0
def rtC_X (A : Nat → Prop) (U : State) : Prop := rtC_Z "TAKES" S_Ops_TAKES A U ∧ rtC_Z "GIVES" S_Ops_GIVES A U
theorem rtC_Xo : rt_Xok rtC_X := fun A B s t hvm hq hAB h => ⟨rtC_Zo _ _ A B s t hvm hq hAB h.1, rtC_Zo _ _ A B s t hvm hq hAB h.2⟩
theorem rtC_X_TAKES {A : Nat → Prop} {U : State} (h : rtC_X A U) : ∃ t : Nat, va_Z "RangeTeller$Ops" "TAKES" "[I" (.ref t) A U U.heap ∧ va_T .int t 29 (fun j => .int (S_Ops_TAKES j)) A U U.heap := h.1
theorem rtC_X_GIVES {A : Nat → Prop} {U : State} (h : rtC_X A U) : ∃ t : Nat, va_Z "RangeTeller$Ops" "GIVES" "[I" (.ref t) A U U.heap ∧ va_T .int t 29 (fun j => .int (S_Ops_GIVES j)) A U U.heap := h.2
abbrev rtR_X : (Nat → Prop) → State → Prop := rt_X0
theorem rtR_Xo : rt_Xok rtR_X := rt_X0o
def FU : Nat := 2000000
