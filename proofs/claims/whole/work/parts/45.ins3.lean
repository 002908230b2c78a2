/-! reading: an instruction is laid into the tables, and the frames that stand change -/
section RQ5
variable {n i f N o a d x : Nat} {b : Nat → Nat} {r : List Nat} {op ar ow en el : Nat → Nat} {σ τ u w : rt_St}
/-- the code under check: the new instruction -/
def rq_ca (u : rt_St) (N o a f : Nat) : rt_St := rt_up (rt_up (rt_up (rt_up (rt_up (rt_up u 2 N (nI o)) 3 N (nI a)) 4 N (nI f)) 5 N (-3)) 6 N (-3)) 1 12 (nI (N + 1))
theorem rq_add (h12 : u 1 12 = nI N) (h13 : u 1 13 = nI (f + 1)) (hN : N < 100) : M_C_Program_addInstruction u (nI o) (nI a) = some (nI N, rq_ca u N o a f) := by
  unfold M_C_Program_addInstruction rq_ca
  rw [rq_wr (n := 100) h12 hN (by decide), rq_b, rq_wr (n := 100) h12 hN (by decide), rq_b, rq_wr (n := 100) h12 hN (by decide), rq_b, rq_wr (n := 100) h12 hN (by decide), rq_b, rq_wr (n := 100) h12 hN (by decide), rq_b, rq_put, rq_b, h12]
  have e1 : (rt_up (rt_up u 2 N (nI o)) 3 N (nI a)) 1 13 - 1 = nI f := by
    rw [rq_c (by decide), rq_c (by decide), h13, nI_pred]
  have e2 : (rt_up (rt_up (rt_up (rt_up (rt_up u 2 N (nI o)) 3 N (nI a)) 4 N (nI f)) 5 N (-3)) 6 N (-3)) 1 12 = nI N := by
    rw [rq_c (by decide), rq_c (by decide), rq_c (by decide), rq_c (by decide), rq_c (by decide), h12]
  rw [e1, e2, nI_1]
theorem rq_nestO (h5 : u 14 5 = nI d) (hd : d < 100) (h1 : 1 ≤ o) (h3 : o ≤ 3) : M_C_Reader_nest u (nI o) (nI N) = some (0, rt_up (rt_up u 16 d (nI N)) 14 5 (nI (d + 1))) := by
  unfold M_C_Reader_nest
  rw [(rq_ops o (by omega)).2.2, if_pos ⟨h1, h3⟩, rq_b, if_neg (by decide), rq_wr (n := 100) h5 hd (by decide), rq_b, rq_put, rq_b, rq_c (by decide), h5, nI_1]
theorem rq_nestE (h5 : u 14 5 = nI (d + 1)) (hs : u 16 d = nI x) (hd : d < 100) (hx : x < 100) : M_C_Reader_nest u (nI 4) (nI N) = some (0, rt_up u 6 x (nI N)) := by
  unfold M_C_Reader_nest
  rw [(rq_ops 4 (by omega)).2.2, if_neg (by omega), rq_b, if_pos rfl, if_pos (show nI 4 = 4 from rfl), if_neg (show ¬ u 14 5 ≤ 0 by rw [h5]; exact nI_nle (by omega) (by omega)), rq_rd (n := 100) (i := d) (by rw [h5, nI_pred]) hd (by decide), rq_b, hs, rq_wr (n := 100) rfl hx (by decide), rq_b]
theorem rq_nest50 (h5 : u 14 5 = nI 0) : M_C_Reader_nest u (nI 5) (nI N) = some (1, u) := by
  unfold M_C_Reader_nest
  rw [(rq_ops 5 (by omega)).2.2, if_neg (by omega), rq_b, if_pos rfl, if_neg (show ¬ nI 5 = 4 by decide)]
  unfold B_C_Reader_nest_65
  rw [if_pos (show nI 5 = 5 from rfl), if_pos (show u 14 5 = 0 from h5)]
theorem rq_nest5 (h5 : u 14 5 = nI (d + 1)) (hs : u 16 d = nI x) (hd : d < 100) (hx : x < 100) {y : Nat} (h6 : u 6 x = rq_e (-3) y) (hy : y < 100) : M_C_Reader_nest u (nI 5) (nI N) = some (0, if y = 0 then rt_up (rt_up u 14 5 (nI d)) 5 x (nI N) else rt_up (rt_up (rt_up u 14 5 (nI d)) 5 x (nI N)) 5 y (nI N)) := by
  unfold M_C_Reader_nest
  rw [(rq_ops 5 (by omega)).2.2, if_neg (by omega), rq_b, if_pos rfl, if_neg (show ¬ nI 5 = 4 by decide)]
  unfold B_C_Reader_nest_65
  rw [if_pos (show nI 5 = 5 from rfl), if_neg (show ¬ u 14 5 = 0 by rw [h5]; exact nI_ne0 (by omega) (by omega)), rq_put, rq_b, h5, nI_pred, rq_rd (n := 100) (i := d) rq_s hd (by decide), rq_b, rq_c (by decide), hs]
  unfold M_C_Program_close
  rw [rq_wr (n := 100) rfl hx (by decide), rq_b, rq_rd (n := 100) rfl hx (by decide), rq_b, rq_c (by decide), rq_c (by decide), h6]
  by_cases c : y = 0
  · rw [rq_e0 c, if_pos rfl, if_pos c, rq_b]
  · rw [rq_e1 c, if_neg (rq_n3 (by omega)), if_neg c, rq_b, rq_wr (n := 100) rfl hy (by decide), rq_b, rq_b]
theorem rq_nestN (ho : o < 29) (h1 : ¬ (1 ≤ o ∧ o ≤ 3)) (h4 : o ≠ 4) (h5 : o ≠ 5) : M_C_Reader_nest u (nI o) (nI N) = some (0, u) := by
  unfold M_C_Reader_nest
  rw [(rq_ops o ho).2.2, if_neg h1, rq_b, if_pos rfl, if_neg (show ¬ nI o = 4 from fun e => h4 ((nI_eq (b := 4) (by omega) (by decide)).mp e))]
  unfold B_C_Reader_nest_65
  rw [if_neg (show ¬ nI o = 5 from fun e => h5 ((nI_eq (b := 5) (by omega) (by decide)).mp e))]
/-- the reference: behind the argument -/
def rq_ra (w : rt_St) (N a : Nat) : rt_St := rt_up (rt_up w 3 N (nI a)) 0 6 (nI (N + 1))
variable {K : Int32 → Int32 → rt_St → Option rt_St} {l1 : Int32}
theorem rq_255 (h6 : w 0 6 = nI N) (hb : w 0 3 = 0) (hN : N < 100) : B_R_RangeTellerModel_readFunction_255 K l1 (nI o) (nI N) (nI a) (nI N) w = if nI o = 5 then (if w 0 21 = 0 then B_R_RangeTellerModel_readFunction_291 K l1 (nI o) (nI N) 1 (rq_ra w N a) else B_R_RangeTellerModel_readFunction_291 K l1 (nI o) (nI N) 0 (rq_ra w N a)) else B_R_RangeTellerModel_readFunction_291 K l1 (nI o) (nI N) 0 (rq_ra w N a) := by
  unfold B_R_RangeTellerModel_readFunction_255 rq_ra
  have e1 : (rt_up w 3 N (nI a)) 0 6 = nI N := by rw [rq_c (by decide)]; exact h6
  have e2 : (rt_up (rt_up w 3 N (nI a)) 0 6 (nI (N + 1))) 0 21 = w 0 21 := by rw [rq_k (by decide), rq_c (by decide)]
  rw [rq_wr (n := 100) rfl hN (by decide), rq_b, if_pos (by rw [rq_c (by decide)]; exact hb), rq_put, rq_b, e1, nI_1, e2]
  rfl
theorem rq_291O (h5 : w 0 21 = nI d) (hd : d < 101) (h1 : 1 ≤ o) (h3 : o ≤ 3) : B_R_RangeTellerModel_readFunction_291 K l1 (nI o) (nI N) 0 w = K l1 0 (rt_up (rt_up w 15 d (nI N)) 0 21 (nI (d + 1))) := by
  unfold B_R_RangeTellerModel_readFunction_291
  rw [if_neg (show ¬ nI o = 4 from fun e => absurd ((nI_eq (b := 4) (by omega) (by decide)).mp e) (by omega))]
  unfold B_R_RangeTellerModel_readFunction_315
  rw [if_neg (show ¬ nI o ≤ 0 from nI_nle (by omega) (by omega)), if_neg (show ¬ 4 ≤ nI o from nI_ge (b := 4) (by omega) (by decide)), rq_wr (n := 101) h5 hd (by decide), rq_b, rq_put, rq_b, rq_c (by decide), h5, nI_1]
  unfold B_R_RangeTellerModel_readFunction_345
  rw [if_neg (show ¬ nI o = 5 from fun e => absurd ((nI_eq (b := 5) (by omega) (by decide)).mp e) (by omega))]
  rfl
theorem rq_291E (h5 : w 0 21 = nI (d + 1)) (hs : w 15 d = nI x) (hd : d < 101) (hx : x < 100) : B_R_RangeTellerModel_readFunction_291 K l1 (nI 4) (nI N) 0 w = K l1 0 (rt_up w 6 x (nI N)) := by
  unfold B_R_RangeTellerModel_readFunction_291
  rw [if_pos (show nI 4 = 4 from rfl), rq_rd (n := 101) (i := d) (by rw [h5, nI_pred]) hd (by decide), rq_b, hs, rq_wr (n := 100) rfl hx (by decide), rq_b]
  unfold B_R_RangeTellerModel_readFunction_315
  rw [if_neg (show ¬ nI 4 ≤ 0 by decide), if_pos (show 4 ≤ nI 4 by decide)]
  rfl
theorem rq_291F (e : Int32) (ho : o < 29) (h1 : ¬ (1 ≤ o ∧ o ≤ 3)) (h4 : o ≠ 4) : B_R_RangeTellerModel_readFunction_291 K l1 (nI o) (nI N) e w = B_R_RangeTellerModel_readFunction_345 K l1 e (nI o) (nI N) w := by
  unfold B_R_RangeTellerModel_readFunction_291
  rw [if_neg (show ¬ nI o = 4 from fun e => h4 ((nI_eq (b := 4) (by omega) (by decide)).mp e))]
  unfold B_R_RangeTellerModel_readFunction_315
  by_cases c : o = 0
  · rw [if_pos (show nI o ≤ 0 by rw [c]; decide)]
  · rw [if_neg (show ¬ nI o ≤ 0 from nI_nle (by omega) (by omega)), if_pos (show 4 ≤ nI o from nI_le (a := 4) (by omega) (by omega))]
theorem rq_291N (ho : o < 29) (h1 : ¬ (1 ≤ o ∧ o ≤ 3)) (h4 : o ≠ 4) (h5 : o ≠ 5) : B_R_RangeTellerModel_readFunction_291 K l1 (nI o) (nI N) 0 w = K l1 0 w := by
  rw [rq_291F 0 ho h1 h4]
  unfold B_R_RangeTellerModel_readFunction_345
  rw [if_neg (show ¬ nI o = 5 from fun e => h5 ((nI_eq (b := 5) (by omega) (by decide)).mp e))]
  rfl
theorem rq_29150 : B_R_RangeTellerModel_readFunction_291 K l1 (nI 5) (nI N) 1 w = K l1 1 w := by
  rw [rq_291F 1 (by decide) (by decide) (by decide)]
  rfl
theorem rq_2915 (h5 : w 0 21 = nI (d + 1)) (hs : w 15 d = nI x) (hd : d < 101) (hx : x < 100) {y : Nat} (h6 : w 6 x = rq_e (-1) y) (hy : y < 100) : B_R_RangeTellerModel_readFunction_291 K l1 (nI 5) (nI N) 0 w = K l1 0 (if y = 0 then rt_up (rt_up w 0 21 (nI d)) 5 x (nI N) else rt_up (rt_up (rt_up w 0 21 (nI d)) 5 x (nI N)) 5 y (nI N)) := by
  rw [rq_291F 0 (by decide) (by decide) (by decide)]
  unfold B_R_RangeTellerModel_readFunction_345
  rw [if_pos (show nI 5 = 5 from rfl), if_pos rfl]
  unfold M_R_RangeTellerModel_close
  rw [rq_put, rq_b, h5, nI_pred, rq_rd (n := 101) (i := d) rq_s hd (by decide), rq_b, rq_c (by decide), hs, rq_wr (n := 100) rfl hx (by decide), rq_b, rq_rd (n := 100) rfl hx (by decide), rq_b, rq_c (by decide), rq_c (by decide), h6]
  by_cases c : y = 0
  · rw [rq_e0 c, if_pos (by decide), if_pos c, rq_b]; rfl
  · rw [rq_e1 c, if_neg (nI_pos (by omega)), if_neg c, rq_b, rq_wr (n := 100) rfl hy (by decide), rq_b, rq_b]; rfl
end RQ5
