def M_C_Reader_append (σ : rt_St) (a1 : Int32) : Option (Int32 × rt_St) :=
  if a1 < 0 then
    some (0, σ)
  else
    if 64 ≤ a1 then
      some (0, σ)
    else
      if (σ 14 3) < 100 then
        (rt_wr σ 15 100 (σ 14 3) a1).bind fun σ1 =>
        (rt_put σ1 14 3 ((σ1 14 3) + 1)).bind fun σ2 =>
        some (1, σ2)
      else
        some (0, σ)
def M_C_RangeTeller_feed (σ : rt_St) (a1 : Int32) : Option (Int32 × rt_St) :=
  rt_b2 (M_C_Reader_append σ a1) fun v2 σ1 =>
  (rt_zok v2).bind fun _ =>
  some (v2, σ1)
def M_C_Runner_forget (σ : rt_St)  : Option rt_St :=
  (rt_put σ 21 7 0).bind fun σ1 =>
  some σ1
def M_C_Program_clear (σ : rt_St)  : Option rt_St :=
  (rt_put σ 1 12 0).bind fun σ1 =>
  (rt_put σ1 1 13 0).bind fun σ2 =>
  some σ2
def B_C_Reader_readNumber_129  (σ : rt_St) : Option (Int32 × rt_St) :=
  (rt_put σ 14 6 ((σ 14 4) - 1)).bind fun σ3 =>
  some (0, σ3)
def B_C_Reader_readNumber_119  (l1 : Int32) (l2 : Int32) (l3 : Int32) (σ : rt_St) : Option (Int32 × rt_St) :=
  if l3 < l1 then
    B_C_Reader_readNumber_129 σ
  else
    if l3 ≤ l2 then
      some (l3, σ)
    else
      B_C_Reader_readNumber_129 σ
def B_C_Reader_readNumber_82  (σ : rt_St) : Option (Int32 × rt_St) :=
  (rt_put σ 14 6 (σ 14 4)).bind fun σ4 =>
  some (0, σ4)
def M_C_Reader_readNumber (σ : rt_St) (a1 : Int32) (a2 : Int32) : Option (Int32 × rt_St) :=
  if (σ 14 6) = (-3) then
    if (σ 14 4) < (σ 14 3) then
      (rt_rd σ 15 100 (σ 14 4)).bind fun v1 =>
      (rt_put σ 14 4 ((σ 14 4) + 1)).bind fun σ2 =>
      if v1 < 32 then
        B_C_Reader_readNumber_119 a1 a2 v1 σ2
      else
        if (σ2 14 3) ≤ (σ2 14 4) then
          B_C_Reader_readNumber_82 σ2
        else
          (rt_rd σ2 15 100 (σ2 14 4)).bind fun v5 =>
          if v5 ≤ 1 then
            (rt_rd σ2 15 100 (σ2 14 4)).bind fun v6 =>
            (rt_put σ2 14 4 ((σ2 14 4) + 1)).bind fun σ7 =>
            B_C_Reader_readNumber_119 a1 a2 (v1 + (32 * (v6 - 1))) σ7
          else
            B_C_Reader_readNumber_82 σ2
    else
      (rt_put σ 14 6 (σ 14 4)).bind fun σ8 =>
      some (0, σ8)
  else
    some (0, σ)
def M_C_Program_addFunction (σ : rt_St) (a1 : Int32) (a2 : Int32) (a3 : Int32) : Option rt_St :=
  (rt_wr σ 10 3 (σ 1 13) (σ 1 12)).bind fun σ1 =>
  (rt_wr σ1 11 3 (σ1 1 13) a1).bind fun σ2 =>
  (rt_wr σ2 12 3 (σ2 1 13) a2).bind fun σ3 =>
  (rt_wr σ3 13 3 (σ3 1 13) a3).bind fun σ4 =>
  (rt_put σ4 1 13 ((σ4 1 13) + 1)).bind fun σ5 =>
  some σ5
def M_C_Ops_isOp (a0 : Int32) : Option Int32 :=
  if a0 < 0 then
    some 0
  else
    if 28 < a0 then
      some 0
    else
      some 1
def M_C_Ops_opens (a0 : Int32) : Option Int32 :=
  if a0 = 1 then
    some 1
  else
    if a0 = 2 then
      some 1
    else
      if a0 = 3 then
        some 1
      else
        some 0
def M_C_Ops_namesLocal (a0 : Int32) : Option Int32 :=
  if a0 = 12 then
    some 1
  else
    if a0 = 13 then
      some 1
    else
      if a0 = 14 then
        some 1
      else
        some 0
def M_C_Ops_hasArgument (a0 : Int32) : Option Int32 :=
  (M_C_Ops_opens a0).bind fun v1 =>
  if v1 = 0 then
    if a0 = 6 then
      some 1
    else
      if a0 = 7 then
        some 1
      else
        if a0 = 9 then
          some 1
        else
          (M_C_Ops_namesLocal a0).bind fun v2 =>
          if v2 = 0 then
            if a0 = 15 then
              some 1
            else
              if a0 = 16 then
                some 1
              else
                if a0 = 17 then
                  some 1
                else
                  some 0
          else
            some 1
  else
    some 1
def M_C_Program_addInstruction (σ : rt_St) (a1 : Int32) (a2 : Int32) : Option (Int32 × rt_St) :=
  (rt_wr σ 2 100 (σ 1 12) a1).bind fun σ1 =>
  (rt_wr σ1 3 100 (σ 1 12) a2).bind fun σ2 =>
  (rt_wr σ2 4 100 (σ 1 12) ((σ2 1 13) - 1)).bind fun σ3 =>
  (rt_wr σ3 5 100 (σ 1 12) (-3)).bind fun σ4 =>
  (rt_wr σ4 6 100 (σ 1 12) (-3)).bind fun σ5 =>
  (rt_put σ5 1 12 ((σ5 1 12) + 1)).bind fun σ6 =>
  some ((σ 1 12), σ6)
def M_C_Program_close (σ : rt_St) (a1 : Int32) (a2 : Int32) : Option rt_St :=
  (rt_wr σ 5 100 a1 a2).bind fun σ1 =>
  (rt_rd σ1 6 100 a1).bind fun v2 =>
  if v2 = (-3) then
    some σ1
  else
    (rt_rd σ1 6 100 a1).bind fun v3 =>
    (rt_wr σ1 5 100 v3 a2).bind fun σ4 =>
    some σ4
def B_C_Reader_nest_65  (l1 : Int32) (l2 : Int32) (σ : rt_St) : Option (Int32 × rt_St) :=
  if l1 = 5 then
    if (σ 14 5) = 0 then
      some (1, σ)
    else
      (rt_put σ 14 5 ((σ 14 5) - 1)).bind fun σ2 =>
      (rt_rd σ2 16 100 (σ2 14 5)).bind fun v3 =>
      (M_C_Program_close σ2 v3 l2).bind fun σ4 =>
      some (0, σ4)
  else
    some (0, σ)
def M_C_Reader_nest (σ : rt_St) (a1 : Int32) (a2 : Int32) : Option (Int32 × rt_St) :=
  (M_C_Ops_opens a1).bind fun v1 =>
  if v1 = 0 then
    if a1 = 4 then
      if (σ 14 5) ≤ 0 then
        B_C_Reader_nest_65 a1 a2 σ
      else
        (rt_rd σ 16 100 ((σ 14 5) - 1)).bind fun v5 =>
        (rt_wr σ 6 100 v5 a2).bind fun σ6 =>
        some (0, σ6)
    else
      B_C_Reader_nest_65 a1 a2 σ
  else
    (rt_wr σ 16 100 (σ 14 5) a2).bind fun σ7 =>
    (rt_put σ7 14 5 ((σ7 14 5) + 1)).bind fun σ8 =>
    some (0, σ8)
def M_C_Reader_elseFits (σ : rt_St)  : Option (Int32 × rt_St) :=
  if (σ 14 5) = 0 then
    some (0, σ)
  else
    (rt_rd σ 16 100 ((σ 14 5) - 1)).bind fun v1 =>
    (rt_rd σ 2 100 v1).bind fun v2 =>
    if v2 = 3 then
      (rt_rd σ 6 100 v1).bind fun v3 =>
      if v3 = (-3) then
        some (1, σ)
      else
        some (0, σ)
    else
      some (0, σ)
def B_C_Reader_readInstruction_46  (σ : rt_St) : Option (Int32 × rt_St) :=
  (rt_put σ 14 6 (σ 14 4)).bind fun σ1 =>
  some (0, σ1)
def B_C_Reader_readInstruction_104  (l1 : Int32) (l2 : Int32) (σ : rt_St) : Option (Int32 × rt_St) :=
  if (σ 14 6) = (-3) then
    rt_b2 (M_C_Program_addInstruction σ l1 l2) fun v9 σ8 =>
    rt_b2 (M_C_Reader_nest σ8 l1 v9) fun v11 σ10 =>
    (rt_zok v11).bind fun _ =>
    some (v11, σ10)
  else
    some (0, σ)
def B_C_Reader_readInstruction_100  (l1 : Int32) (t0 : Int32) (t1 : Int32) (σ : rt_St) : Option (Int32 × rt_St) :=
  rt_b2 (M_C_Reader_readNumber σ t1 t0) fun v14 σ13 =>
  B_C_Reader_readInstruction_104 l1 v14 σ13
def B_C_Reader_readInstruction_56  (σ : rt_St) : Option (Int32 × rt_St) :=
  (rt_rd σ 15 100 (σ 14 4)).bind fun v5 =>
  (rt_put σ 14 4 ((σ 14 4) + 1)).bind fun σ6 =>
  (M_C_Ops_hasArgument v5).bind fun v7 =>
  if v7 = 0 then
    B_C_Reader_readInstruction_104 v5 0 σ6
  else
    (M_C_Ops_opens v5).bind fun v12 =>
    if v12 = 0 then
      B_C_Reader_readInstruction_100 v5 63 0 σ6
    else
      B_C_Reader_readInstruction_100 v5 1 0 σ6
def M_C_Reader_readInstruction (σ : rt_St)  : Option (Int32 × rt_St) :=
  if (σ 14 3) ≤ (σ 14 4) then
    B_C_Reader_readInstruction_46 σ
  else
    (rt_rd σ 15 100 (σ 14 4)).bind fun v2 =>
    (M_C_Ops_isOp v2).bind fun v3 =>
    if v3 = 0 then
      B_C_Reader_readInstruction_46 σ
    else
      (rt_rd σ 15 100 (σ 14 4)).bind fun v4 =>
      if v4 = 4 then
        rt_b2 (M_C_Reader_elseFits σ) fun v16 σ15 =>
        if v16 = 0 then
          B_C_Reader_readInstruction_46 σ15
        else
          B_C_Reader_readInstruction_56 σ15
      else
        B_C_Reader_readInstruction_56 σ
def B_C_Reader_readFunction_52  : Nat → Int32 → Int32 → rt_St → Option rt_St
  | 0, _, _, _ => none
  | n + 1, l4, l5, σ =>
    if 100 ≤ l5 then
      some σ
    else
      if l4 = 0 then
        if (σ 14 6) = (-3) then
          rt_b2 (M_C_Reader_readInstruction σ) fun v10 σ9 =>
          (B_C_Reader_readFunction_52 n) v10 (l5 + 1) σ9
        else
          some σ
      else
        some σ
def M_C_Reader_readFunction (σ : rt_St)  : Option rt_St :=
  rt_b2 (M_C_Reader_readNumber σ 0 2) fun v2 σ1 =>
  rt_b2 (M_C_Reader_readNumber σ1 0 2) fun v4 σ3 =>
  rt_b2 (M_C_Reader_readNumber σ3 0 1) fun v6 σ5 =>
  if (σ5 14 6) = (-3) then
    (M_C_Program_addFunction σ5 v2 v4 v6).bind fun σ7 =>
    (rt_put σ7 14 5 0).bind fun σ8 =>
    B_C_Reader_readFunction_52 FU 0 0 σ8
  else
    some σ5
def B_C_Reader_readModule_79  (σ : rt_St) : Option (Int32 × rt_St) :=
  (rt_put σ 14 3 0).bind fun σ6 =>
  some ((σ6 14 6), σ6)
def B_C_Reader_readModule_51  (σ : rt_St) : Option (Int32 × rt_St) :=
  if (σ 14 6) = (-3) then
    if (σ 14 3) ≤ (σ 14 4) then
      B_C_Reader_readModule_79 σ
    else
      (rt_put σ 14 6 (σ 14 4)).bind fun σ7 =>
      B_C_Reader_readModule_79 σ7
  else
    B_C_Reader_readModule_79 σ
def B_C_Reader_readModule_27  : Nat → Int32 → Int32 → rt_St → Option (Int32 × rt_St)
  | 0, _, _, _ => none
  | n + 1, l1, l2, σ =>
    if l1 ≤ l2 then
      B_C_Reader_readModule_51 σ
    else
      if (σ 14 6) = (-3) then
        (M_C_Reader_readFunction σ).bind fun σ8 =>
        (B_C_Reader_readModule_27 n) l1 (l2 + 1) σ8
      else
        B_C_Reader_readModule_51 σ
def M_C_Reader_readModule (σ : rt_St)  : Option (Int32 × rt_St) :=
  (M_C_Program_clear σ).bind fun σ1 =>
  (rt_put σ1 14 4 0).bind fun σ2 =>
  (rt_put σ2 14 6 (-3)).bind fun σ3 =>
  rt_b2 (M_C_Reader_readNumber σ3 1 3) fun v5 σ4 =>
  B_C_Reader_readModule_27 FU v5 0 σ4
def M_C_Ops_taken (a0 : Int32) : Option Int32 :=
  (M_C_Ops_isOp a0).bind fun v1 =>
  if v1 = 0 then
    some 0
  else
    (rt_rdK S_Ops_TAKES 29 a0).bind fun v2 =>
    some v2
def B_C_Checker_take_53 (K2 : Int32 → Int32 → rt_St → Option rt_St) (l1 : Int32) (l2 : Int32) (σ : rt_St) : Option rt_St :=
  K2 l1 (l2 + 1) σ
def B_C_Checker_take_2  : Nat → Int32 → Int32 → rt_St → Option rt_St
  | 0, _, _, _ => none
  | n + 1, l1, l2, σ =>
    if l1 ≤ l2 then
      some σ
    else
      (rt_rd σ 19 101 (σ 17 4)).bind fun v1 =>
      if (σ 17 5) ≤ v1 then
        (rt_rd σ 20 101 (σ 17 4)).bind fun v2 =>
        if v2 = 0 then
          B_C_Checker_take_53 (B_C_Checker_take_2 n) l1 l2 σ
        else
          (rt_put σ 17 6 1).bind fun σ3 =>
          B_C_Checker_take_53 (B_C_Checker_take_2 n) l1 l2 σ3
      else
        (rt_put σ 17 5 ((σ 17 5) - 1)).bind fun σ4 =>
        B_C_Checker_take_53 (B_C_Checker_take_2 n) l1 l2 σ4
def M_C_Checker_take (σ : rt_St) (a1 : Int32) : Option rt_St :=
  B_C_Checker_take_2 FU a1 0 σ
def M_C_Ops_given (a0 : Int32) : Option Int32 :=
  (M_C_Ops_isOp a0).bind fun v1 =>
  if v1 = 0 then
    some 0
  else
    (rt_rdK S_Ops_GIVES 29 a0).bind fun v2 =>
    some v2
def M_C_Checker_give (σ : rt_St) (a1 : Int32) : Option rt_St :=
  (rt_put σ 17 5 ((σ 17 5) + a1)).bind fun σ1 =>
  if (σ1 17 5) ≤ 10 then
    some σ1
  else
    (rt_put σ1 17 6 1).bind fun σ2 =>
    some σ2
def M_C_Program_localCount (σ : rt_St) (a1 : Int32) : Option (Int32 × rt_St) :=
  (rt_rd σ 11 3 a1).bind fun v1 =>
  (rt_rd σ 12 3 a1).bind fun v2 =>
  some ((v1 + v2), σ)
def B_C_Checker_checkPlain_40  (l2 : Int32) (σ : rt_St) : Option rt_St :=
  (M_C_Ops_taken l2).bind fun v2 =>
  (M_C_Checker_take σ v2).bind fun σ3 =>
  (M_C_Ops_given l2).bind fun v4 =>
  (M_C_Checker_give σ3 v4).bind fun σ5 =>
  some σ5
def M_C_Checker_checkPlain (σ : rt_St) (a1 : Int32) (a2 : Int32) : Option rt_St :=
  (M_C_Ops_namesLocal a2).bind fun v1 =>
  if v1 = 0 then
    B_C_Checker_checkPlain_40 a2 σ
  else
    (rt_rd σ 3 100 a1).bind fun v6 =>
    (rt_rd σ 4 100 a1).bind fun v7 =>
    rt_b2 (M_C_Program_localCount σ v7) fun v9 σ8 =>
    if v6 < v9 then
      B_C_Checker_checkPlain_40 a2 σ8
    else
      (rt_put σ8 17 6 1).bind fun σ10 =>
      B_C_Checker_checkPlain_40 a2 σ10
def M_C_Checker_checkCall (σ : rt_St) (a1 : Int32) : Option rt_St :=
  if a1 < (σ 1 13) then
    (rt_rd σ 11 3 a1).bind fun v1 =>
    (M_C_Checker_take σ v1).bind fun σ2 =>
    (rt_rd σ2 13 3 a1).bind fun v3 =>
    (M_C_Checker_give σ2 v3).bind fun σ4 =>
    some σ4
  else
    (rt_put σ 17 6 1).bind fun σ5 =>
    some σ5
def M_C_Checker_deaden (σ : rt_St)  : Option rt_St :=
  (rt_wr σ 20 101 (σ 17 4) 0).bind fun σ1 =>
  (rt_rd σ1 19 101 (σ1 17 4)).bind fun v2 =>
  (rt_put σ1 17 5 v2).bind fun σ3 =>
  some σ3
def M_C_Program_setJump (σ : rt_St) (a1 : Int32) (a2 : Int32) (a3 : Int32) (a4 : Int32) : Option rt_St :=
  (rt_wr σ 7 100 a1 a2).bind fun σ1 =>
  (rt_wr σ1 8 100 a1 a3).bind fun σ2 =>
  (rt_wr σ2 9 100 a1 a4).bind fun σ3 =>
  some σ3
def B_C_Checker_checkBranch_138  (l1 : Int32) (l3 : Int32) (l5 : Int32) (l6 : Int32) (σ : rt_St) : Option rt_St :=
  (rt_rd σ 19 101 l3).bind fun v5 =>
  (M_C_Program_setJump σ l1 l6 v5 l5).bind fun σ6 =>
  some σ6
def B_C_Checker_checkBranch_112  (l1 : Int32) (l3 : Int32) (l5 : Int32) (l6 : Int32) (σ : rt_St) : Option rt_St :=
  (M_C_Checker_take σ l5).bind fun σ3 =>
  (rt_rd σ3 2 100 l1).bind fun v4 =>
  if v4 = 7 then
    (M_C_Checker_give σ3 l5).bind fun σ7 =>
    B_C_Checker_checkBranch_138 l1 l3 l5 l6 σ7
  else
    B_C_Checker_checkBranch_138 l1 l3 l5 l6 σ3
def B_C_Checker_checkBranch_108  (l1 : Int32) (l3 : Int32) (l5 : Int32) (t0 : Int32) (σ : rt_St) : Option rt_St :=
  B_C_Checker_checkBranch_112 l1 l3 l5 (t0 + 1) σ
def B_C_Checker_checkBranch_86  (l1 : Int32) (l3 : Int32) (l4 : Int32) (l7 : Int32) (t0 : Int32) (σ : rt_St) : Option rt_St :=
  if l7 = 0 then
    (rt_rd σ 5 100 l4).bind fun v10 =>
    B_C_Checker_checkBranch_108 l1 l3 t0 v10 σ
  else
    B_C_Checker_checkBranch_108 l1 l3 t0 l4 σ
def B_C_Checker_checkBranch_65  (l1 : Int32) (l3 : Int32) (l4 : Int32) (t0 : Int32) (σ : rt_St) : Option rt_St :=
  if t0 = 0 then
    (rt_rd σ 3 100 l4).bind fun v9 =>
    B_C_Checker_checkBranch_86 l1 l3 l4 t0 v9 σ
  else
    B_C_Checker_checkBranch_86 l1 l3 l4 t0 0 σ
def M_C_Checker_checkBranch (σ : rt_St) (a1 : Int32) (a2 : Int32) : Option rt_St :=
  (rt_rd σ 3 100 a1).bind fun v1 =>
  if 0 ≤ ((σ 17 4) - v1) then
    (rt_rd σ 18 101 ((σ 17 4) - v1)).bind fun v2 =>
    if v2 = (-3) then
      B_C_Checker_checkBranch_112 a1 ((σ 17 4) - v1) a2 (-1) σ
    else
      (rt_rd σ 2 100 v2).bind fun v8 =>
      if v8 = 2 then
        B_C_Checker_checkBranch_65 a1 ((σ 17 4) - v1) v2 1 σ
      else
        B_C_Checker_checkBranch_65 a1 ((σ 17 4) - v1) v2 0 σ
  else
    (rt_put σ 17 6 1).bind fun σ11 =>
    some σ11
def M_C_Checker_mustBeAtBase (σ : rt_St)  : Option rt_St :=
  (rt_rd σ 19 101 (σ 17 4)).bind fun v1 =>
  if (σ 17 5) = v1 then
    some σ
  else
    (rt_put σ 17 6 1).bind fun σ2 =>
    some σ2
def B_C_Checker_checkEnd_119  (l1 : Int32) (l4 : Int32) (l5 : Int32) (σ : rt_St) : Option rt_St :=
  (M_C_Checker_give σ l5).bind fun σ8 =>
  (M_C_Program_setJump σ8 l1 (l1 + 1) l4 l5).bind fun σ9 =>
  some σ9
def B_C_Checker_checkEnd_40  (l1 : Int32) (l3 : Int32) (l4 : Int32) (t0 : Int32) (σ : rt_St) : Option rt_St :=
  (M_C_Checker_take σ t0).bind fun σ4 =>
  (M_C_Checker_mustBeAtBase σ4).bind fun σ5 =>
  (rt_put σ5 17 4 ((σ5 17 4) - 1)).bind fun σ6 =>
  if l3 = (-3) then
    (M_C_Program_setJump σ6 l1 (-1) 0 t0).bind fun σ12 =>
    some σ12
  else
    (rt_rd σ6 2 100 l3).bind fun v7 =>
    if v7 = 3 then
      if t0 = 1 then
        (rt_rd σ6 6 100 l3).bind fun v10 =>
        if v10 = (-3) then
          (rt_put σ6 17 6 1).bind fun σ11 =>
          B_C_Checker_checkEnd_119 l1 l4 t0 σ11
        else
          B_C_Checker_checkEnd_119 l1 l4 t0 σ6
      else
        B_C_Checker_checkEnd_119 l1 l4 t0 σ6
    else
      B_C_Checker_checkEnd_119 l1 l4 t0 σ6
def M_C_Checker_checkEnd (σ : rt_St) (a1 : Int32) (a2 : Int32) : Option rt_St :=
  (rt_rd σ 18 101 (σ 17 4)).bind fun v1 =>
  (rt_rd σ 19 101 (σ 17 4)).bind fun v2 =>
  if v1 = (-3) then
    B_C_Checker_checkEnd_40 a1 v1 v2 a2 σ
  else
    (rt_rd σ 3 100 v1).bind fun v3 =>
    B_C_Checker_checkEnd_40 a1 v1 v2 v3 σ
def M_C_Checker_checkElse (σ : rt_St) (a1 : Int32) : Option rt_St :=
  (rt_rd σ 18 101 (σ 17 4)).bind fun v1 =>
  (rt_rd σ 3 100 v1).bind fun v2 =>
  (M_C_Checker_take σ v2).bind fun σ3 =>
  (M_C_Checker_mustBeAtBase σ3).bind fun σ4 =>
  (rt_wr σ4 20 101 (σ4 17 4) 1).bind fun σ5 =>
  (rt_rd σ5 5 100 v1).bind fun v6 =>
  (rt_rd σ5 19 101 (σ5 17 4)).bind fun v7 =>
  (M_C_Program_setJump σ5 a1 (v6 + 1) v7 v2).bind fun σ8 =>
  some σ8
def M_C_Checker_open (σ : rt_St) (a1 : Int32) : Option rt_St :=
  (rt_put σ 17 4 ((σ 17 4) + 1)).bind fun σ1 =>
  (rt_wr σ1 18 101 (σ1 17 4) a1).bind fun σ2 =>
  (rt_wr σ2 19 101 (σ2 17 4) (σ2 17 5)).bind fun σ3 =>
  (rt_wr σ3 20 101 (σ3 17 4) 1).bind fun σ4 =>
  some σ4
def M_C_Program_otherwise (σ : rt_St) (a1 : Int32) : Option (Int32 × rt_St) :=
  (rt_rd σ 6 100 a1).bind fun v1 =>
  if v1 = (-3) then
    (rt_rd σ 5 100 a1).bind fun v3 =>
    some ((v3 + 1), σ)
  else
    (rt_rd σ 6 100 a1).bind fun v2 =>
    some ((v2 + 1), σ)
def M_C_Checker_checkInstruction (σ : rt_St) (a1 : Int32) : Option rt_St :=
  (rt_rd σ 2 100 a1).bind fun v1 =>
  (rt_rd σ 4 100 a1).bind fun v2 =>
  (rt_rd σ 13 3 v2).bind fun v3 =>
  if v1 = 0 then
    (M_C_Checker_deaden σ).bind fun σ23 =>
    some σ23
  else
  if v1 = 1 then
    (M_C_Checker_open σ a1).bind fun σ22 =>
    some σ22
  else
  if v1 = 2 then
    (M_C_Checker_open σ a1).bind fun σ21 =>
    some σ21
  else
  if v1 = 3 then
    (M_C_Checker_take σ 1).bind fun σ16 =>
    (M_C_Checker_open σ16 a1).bind fun σ17 =>
    rt_b2 (M_C_Program_otherwise σ17 a1) fun v19 σ18 =>
    (M_C_Program_setJump σ18 a1 v19 (σ18 17 5) 0).bind fun σ20 =>
    some σ20
  else
  if v1 = 4 then
    (M_C_Checker_checkElse σ a1).bind fun σ15 =>
    some σ15
  else
  if v1 = 5 then
    (M_C_Checker_checkEnd σ a1 v3).bind fun σ14 =>
    some σ14
  else
  if v1 = 6 then
    (M_C_Checker_checkBranch σ a1 v3).bind fun σ12 =>
    (M_C_Checker_deaden σ12).bind fun σ13 =>
    some σ13
  else
  if v1 = 7 then
    (M_C_Checker_take σ 1).bind fun σ10 =>
    (M_C_Checker_checkBranch σ10 a1 v3).bind fun σ11 =>
    some σ11
  else
  if v1 = 8 then
    (M_C_Checker_take σ v3).bind fun σ7 =>
    (M_C_Checker_deaden σ7).bind fun σ8 =>
    (M_C_Program_setJump σ8 a1 (-1) 0 v3).bind fun σ9 =>
    some σ9
  else
  if v1 = 9 then
    (rt_rd σ 3 100 a1).bind fun v5 =>
    (M_C_Checker_checkCall σ v5).bind fun σ6 =>
    some σ6
  else
  (M_C_Checker_checkPlain σ a1 v1).bind fun σ4 =>
  some σ4
def B_C_Checker_firstInvalid_55 (K7 : Int32 → rt_St → Option (Int32 × rt_St)) (l1 : Int32) (σ : rt_St) : Option (Int32 × rt_St) :=
  (M_C_Checker_checkInstruction σ l1).bind fun σ4 =>
  if (σ4 17 6) = 0 then
    K7 (l1 + 1) σ4
  else
    some (l1, σ4)
def B_C_Checker_firstInvalid_7  : Nat → Int32 → rt_St → Option (Int32 × rt_St)
  | 0, _, _ => none
  | n + 1, l1, σ =>
    if (σ 1 12) ≤ l1 then
      some ((-3), σ)
    else
      (rt_rd σ 4 100 l1).bind fun v2 =>
      (rt_rd σ 10 3 v2).bind fun v3 =>
      if l1 = v3 then
        (rt_put σ 17 4 (-1)).bind fun σ5 =>
        (rt_put σ5 17 5 0).bind fun σ6 =>
        (M_C_Checker_open σ6 (-3)).bind fun σ7 =>
        B_C_Checker_firstInvalid_55 (B_C_Checker_firstInvalid_7 n) l1 σ7
      else
        B_C_Checker_firstInvalid_55 (B_C_Checker_firstInvalid_7 n) l1 σ
def M_C_Checker_firstInvalid (σ : rt_St)  : Option (Int32 × rt_St) :=
  (rt_put σ 17 6 0).bind fun σ1 =>
  B_C_Checker_firstInvalid_7 FU 0 σ1
def B_C_Arrays_fill_36_5  : Nat → Int32 → Int32 → Int32 → rt_St → Option rt_St
  | 0, _, _, _, _ => none
  | n + 1, l1, l2, l3, σ =>
    if l3 ≤ l2 then
      some σ
    else
      (rt_wr σ 36 1000 l2 l1).bind fun σ1 =>
      (B_C_Arrays_fill_36_5 n) l1 (l2 + 1) l3 σ1
def M_C_Arrays_fill_36 (σ : rt_St) (a1 : Int32) : Option rt_St :=
  B_C_Arrays_fill_36_5 FU a1 0 1000 σ
def B_C_Arrays_fill_37_5  : Nat → Int32 → Int32 → Int32 → rt_St → Option rt_St
  | 0, _, _, _, _ => none
  | n + 1, l1, l2, l3, σ =>
    if l3 ≤ l2 then
      some σ
    else
      (rt_wr σ 37 400 l2 l1).bind fun σ1 =>
      (B_C_Arrays_fill_37_5 n) l1 (l2 + 1) l3 σ1
def M_C_Arrays_fill_37 (σ : rt_St) (a1 : Int32) : Option rt_St :=
  B_C_Arrays_fill_37_5 FU a1 0 400 σ
def B_C_Arrays_fill_38_5  : Nat → Int32 → Int32 → Int32 → rt_St → Option rt_St
  | 0, _, _, _, _ => none
  | n + 1, l1, l2, l3, σ =>
    if l3 ≤ l2 then
      some σ
    else
      (rt_wr σ 38 6 l2 l1).bind fun σ1 =>
      (B_C_Arrays_fill_38_5 n) l1 (l2 + 1) l3 σ1
def M_C_Arrays_fill_38 (σ : rt_St) (a1 : Int32) : Option rt_St :=
  B_C_Arrays_fill_38_5 FU a1 0 6 σ
def B_C_Arrays_fill_33_5  : Nat → Int32 → Int32 → Int32 → rt_St → Option rt_St
  | 0, _, _, _, _ => none
  | n + 1, l1, l2, l3, σ =>
    if l3 ≤ l2 then
      some σ
    else
      (rt_wr σ 33 3 l2 l1).bind fun σ1 =>
      (B_C_Arrays_fill_33_5 n) l1 (l2 + 1) l3 σ1
def M_C_Arrays_fill_33 (σ : rt_St) (a1 : Int32) : Option rt_St :=
  B_C_Arrays_fill_33_5 FU a1 0 3 σ
def B_C_Arrays_fill_32_5  : Nat → Int32 → Int32 → Int32 → rt_St → Option rt_St
  | 0, _, _, _, _ => none
  | n + 1, l1, l2, l3, σ =>
    if l3 ≤ l2 then
      some σ
    else
      (rt_wr σ 32 16 l2 l1).bind fun σ1 =>
      (B_C_Arrays_fill_32_5 n) l1 (l2 + 1) l3 σ1
def M_C_Arrays_fill_32 (σ : rt_St) (a1 : Int32) : Option rt_St :=
  B_C_Arrays_fill_32_5 FU a1 0 16 σ
def B_C_Foreteller_clear_30  : Nat → Int32 → rt_St → Option rt_St
  | 0, _, _ => none
  | n + 1, l1, σ =>
    if 3 ≤ l1 then
      (M_C_Arrays_fill_36 σ (-3)).bind fun σ1 =>
      (M_C_Arrays_fill_37 σ1 (-3)).bind fun σ2 =>
      (M_C_Arrays_fill_38 σ2 (-3)).bind fun σ3 =>
      (M_C_Arrays_fill_33 σ3 (-3)).bind fun σ4 =>
      (M_C_Arrays_fill_32 σ4 0).bind fun σ5 =>
      some σ5
    else
      (rt_wr σ 34 3 l1 0).bind fun σ6 =>
      (B_C_Foreteller_clear_30 n) (l1 + 1) σ6
def B_C_Foreteller_clear_2  : Nat → Int32 → rt_St → Option rt_St
  | 0, _, _ => none
  | n + 1, l1, σ =>
    if 100 ≤ l1 then
      B_C_Foreteller_clear_30 FU 0 σ
    else
      (rt_wr σ 30 100 l1 0).bind fun σ7 =>
      (rt_wr σ7 35 100 l1 0).bind fun σ8 =>
      (B_C_Foreteller_clear_2 n) (l1 + 1) σ8
def M_C_Foreteller_clear (σ : rt_St)  : Option rt_St :=
  B_C_Foreteller_clear_2 FU 0 σ
def B_C_Ranges_join_70  (l0 : Int32) (l1 : Int32) (l2 : Int32) (t0 : Int32) : Option Int32 :=
  some ((l2 ||| t0) ||| ((l0 ||| l1) &&& 4096))
def B_C_Ranges_join_43  (l0 : Int32) (l1 : Int32) (t0 : Int32) : Option Int32 :=
  if (l0 &&& 4032) ≤ (l1 &&& 4032) then
    B_C_Ranges_join_70 l0 l1 t0 (l1 &&& 4032)
  else
    B_C_Ranges_join_70 l0 l1 t0 (l0 &&& 4032)
def M_C_Ranges_join (a0 : Int32) (a1 : Int32) : Option Int32 :=
  if a0 = (-3) then
    some a1
  else
    if a1 = (-3) then
      some a0
    else
      if a1 = a0 then
        some a0
      else
        if (a1 &&& 63) ≤ (a0 &&& 63) then
          B_C_Ranges_join_43 a0 a1 (a1 &&& 63)
        else
          B_C_Ranges_join_43 a0 a1 (a0 &&& 63)
def B_C_Foreteller_joinInto_36_39_52 (K6 : Int32 → Int32 → Int32 → Int32 → Int32 → rt_St → Option (Int32 × rt_St)) (l1 : Int32) (l3 : Int32) (l4 : Int32) (l5 : Int32) (l6 : Int32) (σ : rt_St) : Option (Int32 × rt_St) :=
  K6 l1 l3 l4 l5 (l6 + 1) σ
def B_C_Foreteller_joinInto_36_39_6  : Nat → Int32 → Int32 → Int32 → Int32 → Int32 → rt_St → Option (Int32 × rt_St)
  | 0, _, _, _, _, _, _ => none
  | n + 1, l1, l3, l4, l5, l6, σ =>
    if l4 ≤ l6 then
      (rt_zok l5).bind fun _ =>
      some (l5, σ)
    else
      (rt_rd σ 36 1000 (l1 + l6)).bind fun v1 =>
      (rt_rd σ 39 10 (l3 + l6)).bind fun v2 =>
      (M_C_Ranges_join v1 v2).bind fun v3 =>
      (rt_rd σ 36 1000 (l1 + l6)).bind fun v4 =>
      if v3 = v4 then
        B_C_Foreteller_joinInto_36_39_52 (B_C_Foreteller_joinInto_36_39_6 n) l1 l3 l4 l5 l6 σ
      else
        (rt_wr σ 36 1000 (l1 + l6) v3).bind fun σ5 =>
        B_C_Foreteller_joinInto_36_39_52 (B_C_Foreteller_joinInto_36_39_6 n) l1 l3 l4 1 l6 σ5
def M_C_Foreteller_joinInto_36_39 (σ : rt_St) (a1 : Int32) (a3 : Int32) (a4 : Int32) : Option (Int32 × rt_St) :=
  B_C_Foreteller_joinInto_36_39_6 FU a1 a3 a4 0 0 σ
def B_C_Foreteller_joinInto_37_40_52 (K6 : Int32 → Int32 → Int32 → Int32 → Int32 → rt_St → Option (Int32 × rt_St)) (l1 : Int32) (l3 : Int32) (l4 : Int32) (l5 : Int32) (l6 : Int32) (σ : rt_St) : Option (Int32 × rt_St) :=
  K6 l1 l3 l4 l5 (l6 + 1) σ
def B_C_Foreteller_joinInto_37_40_6  : Nat → Int32 → Int32 → Int32 → Int32 → Int32 → rt_St → Option (Int32 × rt_St)
  | 0, _, _, _, _, _, _ => none
  | n + 1, l1, l3, l4, l5, l6, σ =>
    if l4 ≤ l6 then
      (rt_zok l5).bind fun _ =>
      some (l5, σ)
    else
      (rt_rd σ 37 400 (l1 + l6)).bind fun v1 =>
      (rt_rd σ 40 4 (l3 + l6)).bind fun v2 =>
      (M_C_Ranges_join v1 v2).bind fun v3 =>
      (rt_rd σ 37 400 (l1 + l6)).bind fun v4 =>
      if v3 = v4 then
        B_C_Foreteller_joinInto_37_40_52 (B_C_Foreteller_joinInto_37_40_6 n) l1 l3 l4 l5 l6 σ
      else
        (rt_wr σ 37 400 (l1 + l6) v3).bind fun σ5 =>
        B_C_Foreteller_joinInto_37_40_52 (B_C_Foreteller_joinInto_37_40_6 n) l1 l3 l4 1 l6 σ5
def M_C_Foreteller_joinInto_37_40 (σ : rt_St) (a1 : Int32) (a3 : Int32) (a4 : Int32) : Option (Int32 × rt_St) :=
  B_C_Foreteller_joinInto_37_40_6 FU a1 a3 a4 0 0 σ
def B_C_Foreteller_arrive_84  (l1 : Int32) (σ : rt_St) : Option rt_St :=
  (rt_wr σ 30 100 l1 1).bind fun σ10 =>
  (rt_wr σ10 35 100 l1 1).bind fun σ11 =>
  some σ11
def M_C_Foreteller_arrive (σ : rt_St) (a1 : Int32) : Option rt_St :=
  (rt_wr σ 31 100 a1 (σ 29 12)).bind fun σ1 =>
  (rt_rd σ1 4 100 a1).bind fun v2 =>
  rt_b2 (M_C_Program_localCount σ1 v2) fun v4 σ3 =>
  rt_b2 (M_C_Foreteller_joinInto_36_39 σ3 (a1 * 10) 0 (σ3 29 12)) fun v6 σ5 =>
  rt_b2 (M_C_Foreteller_joinInto_37_40 σ5 (a1 * 4) 0 v4) fun v8 σ7 =>
  (rt_rd σ7 30 100 a1).bind fun v9 =>
  if v9 = 0 then
    B_C_Foreteller_arrive_84 a1 σ7
  else
    if v6 = 0 then
      if v8 = 0 then
        some σ7
      else
        B_C_Foreteller_arrive_84 a1 σ7
    else
      B_C_Foreteller_arrive_84 a1 σ7
def B_C_Foreteller_enter_44 (K7 : Int32 → Int32 → rt_St → Option rt_St) (l1 : Int32) (l2 : Int32) (t0 : Int32) (t1 : Int32) (σ : rt_St) : Option rt_St :=
  (rt_wr σ 40 4 t1 t0).bind fun σ5 =>
  K7 l1 (l2 + 1) σ5
def B_C_Foreteller_enter_7  : Nat → Int32 → Int32 → rt_St → Option rt_St
  | 0, _, _, _ => none
  | n + 1, l1, l2, σ =>
    if 4 ≤ l2 then
      (rt_rd σ 10 3 l1).bind fun v2 =>
      (M_C_Foreteller_arrive σ v2).bind fun σ3 =>
      some σ3
    else
      (rt_rd σ 11 3 l1).bind fun v4 =>
      if v4 ≤ l2 then
        B_C_Foreteller_enter_44 (B_C_Foreteller_enter_7 n) l1 l2 0 l2 σ
      else
        (rt_rd σ 38 6 ((l1 * 2) + l2)).bind fun v6 =>
        B_C_Foreteller_enter_44 (B_C_Foreteller_enter_7 n) l1 l2 v6 l2 σ
def M_C_Foreteller_enter (σ : rt_St) (a1 : Int32) : Option rt_St :=
  (rt_put σ 29 12 0).bind fun σ1 =>
  B_C_Foreteller_enter_7 FU a1 0 σ1
def M_C_Foreteller_recall (σ : rt_St) (a1 : Int32) : Option rt_St :=
  (rt_rd σ 31 100 a1).bind fun v1 =>
  (rt_put σ 29 12 v1).bind fun σ2 =>
  (rt_cpy σ2 36 1000 (a1 * 10) 39 10 0 10).bind fun σ3 =>
  (rt_cpy σ3 37 400 (a1 * 4) 40 4 0 4).bind fun σ4 =>
  some σ4
def M_C_Foreteller_pop (σ : rt_St)  : Option (Int32 × rt_St) :=
  (rt_put σ 29 12 ((σ 29 12) - 1)).bind fun σ1 =>
  (rt_rd σ1 39 10 (σ1 29 12)).bind fun v2 =>
  some (v2, σ1)
def M_C_Ranges_least (a0 : Int32) : Option Int32 :=
  some (a0 &&& 63)
def M_C_Ranges_greatest (a0 : Int32) : Option Int32 :=
  (rt_div (a0 &&& 4032) 64).bind fun v1 =>
  some v1
def B_C_Ranges_leastBoth_81 (K14 : Int32 → Int32 → Int32 → Int32 → Int32 → Option Int32) (l0 : Int32) (l1 : Int32) (l2 : Int32) (l3 : Int32) (l4 : Int32) : Option Int32 :=
  (rt_div l4 2).bind fun v3 =>
  K14 l0 l1 l2 l3 v3
def B_C_Ranges_leastBoth_14  : Nat → Int32 → Int32 → Int32 → Int32 → Int32 → Option Int32
  | 0, _, _, _, _, _ => none
  | n + 1, l0, l1, l2, l3, l4 =>
    if l4 ≤ 0 then
      some (l2 &&& l3)
    else
      if (l2 &&& l4) = 0 then
        if (l3 &&& l4) = 0 then
          (M_C_Ranges_greatest l0).bind fun v4 =>
          if v4 < ((l2 ||| l4) &&& (-l4)) then
            (M_C_Ranges_greatest l1).bind fun v5 =>
            if v5 < ((l3 ||| l4) &&& (-l4)) then
              B_C_Ranges_leastBoth_81 (B_C_Ranges_leastBoth_14 n) l0 l1 l2 l3 l4
            else
              some (l2 &&& ((l3 ||| l4) &&& (-l4)))
          else
            some (((l2 ||| l4) &&& (-l4)) &&& l3)
        else
          B_C_Ranges_leastBoth_81 (B_C_Ranges_leastBoth_14 n) l0 l1 l2 l3 l4
      else
        B_C_Ranges_leastBoth_81 (B_C_Ranges_leastBoth_14 n) l0 l1 l2 l3 l4
def M_C_Ranges_leastBoth (a0 : Int32) (a1 : Int32) : Option Int32 :=
  (M_C_Ranges_least a0).bind fun v1 =>
  (M_C_Ranges_least a1).bind fun v2 =>
  B_C_Ranges_leastBoth_14 FU a0 a1 v1 v2 32
def B_C_Ranges_greatestBoth_101 (K14 : Int32 → Int32 → Int32 → Int32 → Int32 → Option Int32) (l0 : Int32) (l1 : Int32) (l2 : Int32) (l3 : Int32) (l4 : Int32) : Option Int32 :=
  (rt_div l4 2).bind fun v3 =>
  K14 l0 l1 l2 l3 v3
def B_C_Ranges_greatestBoth_73 (K14 : Int32 → Int32 → Int32 → Int32 → Int32 → Option Int32) (l0 : Int32) (l1 : Int32) (l2 : Int32) (l3 : Int32) (l4 : Int32) (l6 : Int32) : Option Int32 :=
  if (l2 &&& l4) = 0 then
    if (l3 &&& l4) = 0 then
      B_C_Ranges_greatestBoth_101 K14 l0 l1 l2 l3 l4
    else
      (M_C_Ranges_least l1).bind fun v4 =>
      if l6 < v4 then
        B_C_Ranges_greatestBoth_101 K14 l0 l1 l2 l3 l4
      else
        some (l2 &&& l6)
  else
    B_C_Ranges_greatestBoth_101 K14 l0 l1 l2 l3 l4
def B_C_Ranges_greatestBoth_14  : Nat → Int32 → Int32 → Int32 → Int32 → Int32 → Option Int32
  | 0, _, _, _, _, _ => none
  | n + 1, l0, l1, l2, l3, l4 =>
    if l4 ≤ 0 then
      some (l2 &&& l3)
    else
      if (l2 &&& l4) = 0 then
        B_C_Ranges_greatestBoth_73 (B_C_Ranges_greatestBoth_14 n) l0 l1 l2 l3 l4 ((l3 &&& (l4 ^^^ (-1))) ||| (l4 - 1))
      else
        if (l3 &&& l4) = 0 then
          (M_C_Ranges_least l0).bind fun v5 =>
          if ((l2 &&& (l4 ^^^ (-1))) ||| (l4 - 1)) < v5 then
            B_C_Ranges_greatestBoth_73 (B_C_Ranges_greatestBoth_14 n) l0 l1 l2 l3 l4 ((l3 &&& (l4 ^^^ (-1))) ||| (l4 - 1))
          else
            some (((l2 &&& (l4 ^^^ (-1))) ||| (l4 - 1)) &&& l3)
        else
          B_C_Ranges_greatestBoth_73 (B_C_Ranges_greatestBoth_14 n) l0 l1 l2 l3 l4 ((l3 &&& (l4 ^^^ (-1))) ||| (l4 - 1))
def M_C_Ranges_greatestBoth (a0 : Int32) (a1 : Int32) : Option Int32 :=
  (M_C_Ranges_greatest a0).bind fun v1 =>
  (M_C_Ranges_greatest a1).bind fun v2 =>
  B_C_Ranges_greatestBoth_14 FU a0 a1 v1 v2 32
def M_C_Ranges_of (a0 : Int32) (a1 : Int32) : Option Int32 :=
  some (a0 + (64 * a1))
def B_C_Ranges_rest_107 (K25 : Int32 → Int32 → Int32 → Int32 → Int32 → Option Int32) (l0 : Int32) (l1 : Int32) (l2 : Int32) (l4 : Int32) (t0 : Int32) (t1 : Int32) : Option Int32 :=
  K25 l0 l1 l2 (rt_max t1 t0) (l4 + 1)
def B_C_Ranges_rest_88 (K25 : Int32 → Int32 → Int32 → Int32 → Int32 → Option Int32) (l0 : Int32) (l1 : Int32) (l3 : Int32) (l4 : Int32) (l6 : Int32) (l7 : Int32) (t0 : Int32) (t1 : Int32) : Option Int32 :=
  if l7 = 0 then
    B_C_Ranges_rest_107 K25 l0 l1 (rt_min t1 t0) l4 l6 l3
  else
    B_C_Ranges_rest_107 K25 l0 l1 (rt_min t1 t0) l4 (l4 - 1) l3
def B_C_Ranges_rest_74 (K25 : Int32 → Int32 → Int32 → Int32 → Int32 → Option Int32) (l0 : Int32) (l1 : Int32) (l2 : Int32) (l3 : Int32) (l4 : Int32) (l5 : Int32) (l6 : Int32) (t0 : Int32) : Option Int32 :=
  if t0 = 0 then
    B_C_Ranges_rest_88 K25 l0 l1 l3 l4 l6 t0 l5 l2
  else
    B_C_Ranges_rest_88 K25 l0 l1 l3 l4 l6 t0 0 l2
def B_C_Ranges_rest_25  : Nat → Int32 → Int32 → Int32 → Int32 → Int32 → Option Int32
  | 0, _, _, _, _, _ => none
  | n + 1, l0, l1, l2, l3, l4 =>
    (M_C_Ranges_greatest l1).bind fun v3 =>
    if v3 < l4 then
      (M_C_Ranges_of l2 l3).bind fun v4 =>
      some v4
    else
      (M_C_Ranges_least l0).bind fun v5 =>
      (rt_rem v5 l4).bind fun v6 =>
      (M_C_Ranges_greatest l0).bind fun v7 =>
      (rt_rem v7 l4).bind fun v8 =>
      (M_C_Ranges_least l0).bind fun v9 =>
      (rt_div v9 l4).bind fun v10 =>
      (M_C_Ranges_greatest l0).bind fun v11 =>
      (rt_div v11 l4).bind fun v12 =>
      if v10 = v12 then
        B_C_Ranges_rest_74 (B_C_Ranges_rest_25 n) l0 l1 l2 l3 l4 v6 v8 0
      else
        B_C_Ranges_rest_74 (B_C_Ranges_rest_25 n) l0 l1 l2 l3 l4 v6 v8 1
def M_C_Ranges_rest (a0 : Int32) (a1 : Int32) : Option Int32 :=
  (M_C_Ranges_greatest a1).bind fun v1 =>
  if v1 = 0 then
    some (-3)
  else
    (M_C_Ranges_least a1).bind fun v2 =>
    B_C_Ranges_rest_25 FU a0 a1 63 0 (rt_max 1 v2)
def M_C_Ranges_over (a0 : Int32) (a1 : Int32) : Option Int32 :=
  (M_C_Ranges_greatest a1).bind fun v1 =>
  if v1 = 0 then
    some (-3)
  else
    (M_C_Ranges_least a0).bind fun v2 =>
    (rt_div v2 v1).bind fun v3 =>
    (M_C_Ranges_greatest a0).bind fun v4 =>
    (M_C_Ranges_least a1).bind fun v5 =>
    (rt_div v4 (rt_max 1 v5)).bind fun v6 =>
    (M_C_Ranges_of v3 v6).bind fun v7 =>
    some v7
def B_C_Ranges_times_115 (K47 : Int32 → Int32 → Int32 → Int32 → Int32 → Option Int32) (l0 : Int32) (l1 : Int32) (l2 : Int32) (l3 : Int32) (l4 : Int32) : Option Int32 :=
  K47 l0 l1 l2 l3 (l4 + 1)
def B_C_Ranges_times_62 (K47 : Int32 → Int32 → Int32 → Int32 → Int32 → Option Int32) : Nat → Int32 → Int32 → Int32 → Int32 → Int32 → Int32 → Option Int32
  | 0, _, _, _, _, _, _ => none
  | n + 1, l0, l1, l2, l3, l4, l5 =>
    (M_C_Ranges_greatest l1).bind fun v7 =>
    if v7 < l5 then
      if l2 = 0 then
        if l3 = 63 then
          some 4032
        else
          B_C_Ranges_times_115 K47 l0 l1 l2 l3 l4
      else
        B_C_Ranges_times_115 K47 l0 l1 l2 l3 l4
    else
      (rt_rem (l4 * l5) 64).bind fun v8 =>
      (B_C_Ranges_times_62 K47 n) l0 l1 (rt_min l2 v8) (rt_max l3 v8) l4 (l5 + 1)
def B_C_Ranges_times_47  : Nat → Int32 → Int32 → Int32 → Int32 → Int32 → Option Int32
  | 0, _, _, _, _, _ => none
  | n + 1, l0, l1, l2, l3, l4 =>
    (M_C_Ranges_greatest l0).bind fun v4 =>
    if v4 < l4 then
      (M_C_Ranges_of l2 l3).bind fun v5 =>
      some v5
    else
      (M_C_Ranges_least l1).bind fun v6 =>
      B_C_Ranges_times_62 (B_C_Ranges_times_47 n) FU l0 l1 l2 l3 l4 v6
def M_C_Ranges_times (a0 : Int32) (a1 : Int32) : Option Int32 :=
  (M_C_Ranges_greatest a0).bind fun v1 =>
  (M_C_Ranges_greatest a1).bind fun v2 =>
  if 64 ≤ (v1 * v2) then
    (M_C_Ranges_least a0).bind fun v3 =>
    B_C_Ranges_times_47 FU a0 a1 63 0 v3
  else
    (M_C_Ranges_least a0).bind fun v9 =>
    (M_C_Ranges_least a1).bind fun v10 =>
    (M_C_Ranges_greatest a0).bind fun v11 =>
    (M_C_Ranges_greatest a1).bind fun v12 =>
    (M_C_Ranges_of (v9 * v10) (v11 * v12)).bind fun v13 =>
    some v13
def M_C_Math_floorDiv (a0 : Int32) (a1 : Int32) : Option Int32 :=
  (rt_div a0 a1).bind fun v1 =>
  if 0 ≤ (a0 ^^^ a1) then
    some v1
  else
    if (v1 * a1) = a0 then
      some v1
    else
      some (v1 - 1)
def M_C_Math_floorMod (a0 : Int32) (a1 : Int32) : Option Int32 :=
  (rt_rem a0 a1).bind fun v1 =>
  if 0 ≤ (a0 ^^^ a1) then
    some v1
  else
    if v1 = 0 then
      some v1
    else
      some (v1 + a1)
def M_C_Ranges_wrapped (a0 : Int32) (a1 : Int32) : Option Int32 :=
  (M_C_Math_floorDiv a0 64).bind fun v1 =>
  (M_C_Math_floorDiv a1 64).bind fun v2 =>
  if v1 = v2 then
    (M_C_Math_floorMod a0 64).bind fun v3 =>
    (M_C_Math_floorMod a1 64).bind fun v4 =>
    (M_C_Ranges_of v3 v4).bind fun v5 =>
    some v5
  else
    some 4032
def B_C_Ranges_truth_18  (t0 : Int32) (t1 : Int32) : Option Int32 :=
  (M_C_Ranges_of t1 t0).bind fun v1 =>
  some v1
def B_C_Ranges_truth_9  (l0 : Int32) (t0 : Int32) : Option Int32 :=
  if l0 = 0 then
    B_C_Ranges_truth_18 0 t0
  else
    B_C_Ranges_truth_18 1 t0
def M_C_Ranges_truth (a0 : Int32) (a1 : Int32) : Option Int32 :=
  if a1 = 0 then
    B_C_Ranges_truth_9 a0 1
  else
    B_C_Ranges_truth_9 a0 0
def B_C_Ranges_same_78  (t0 : Int32) (t1 : Int32) : Option Int32 :=
  (M_C_Ranges_of t1 t0).bind fun v5 =>
  some v5
def B_C_Ranges_same_69  (l2 : Int32) (t0 : Int32) : Option Int32 :=
  if l2 = 0 then
    B_C_Ranges_same_78 0 t0
  else
    B_C_Ranges_same_78 1 t0
def B_C_Ranges_same_68  (l2 : Int32) : Option Int32 :=
  B_C_Ranges_same_69 l2 0
def B_C_Ranges_same_55  (l2 : Int32) (t0 : Int32) : Option Int32 :=
  if l2 = 0 then
    B_C_Ranges_same_68 l2
  else
    if t0 = 0 then
      B_C_Ranges_same_68 l2
    else
      B_C_Ranges_same_69 l2 1
def B_C_Ranges_same_54  (l2 : Int32) : Option Int32 :=
  B_C_Ranges_same_55 l2 0
def B_C_Ranges_same_27  (l0 : Int32) (l1 : Int32) (t0 : Int32) : Option Int32 :=
  (M_C_Ranges_least l0).bind fun v3 =>
  (M_C_Ranges_greatest l0).bind fun v4 =>
  if v3 = v4 then
    (M_C_Ranges_least l1).bind fun v6 =>
    (M_C_Ranges_greatest l1).bind fun v7 =>
    if v6 = v7 then
      B_C_Ranges_same_55 t0 1
    else
      B_C_Ranges_same_54 t0
  else
    B_C_Ranges_same_54 t0
def B_C_Ranges_same_26  (l0 : Int32) (l1 : Int32) : Option Int32 :=
  B_C_Ranges_same_27 l0 l1 0
def M_C_Ranges_same (a0 : Int32) (a1 : Int32) : Option Int32 :=
  (M_C_Ranges_least a0).bind fun v1 =>
  (M_C_Ranges_greatest a1).bind fun v2 =>
  if v2 < v1 then
    B_C_Ranges_same_26 a0 a1
  else
    (M_C_Ranges_least a1).bind fun v8 =>
    (M_C_Ranges_greatest a0).bind fun v9 =>
    if v9 < v8 then
      B_C_Ranges_same_26 a0 a1
    else
      B_C_Ranges_same_27 a0 a1 1
def B_C_Ranges_reckoned_82  (t0 : Int32) (t1 : Int32) : Option Int32 :=
  (M_C_Ranges_truth t1 t0).bind fun v21 =>
  some v21
def B_C_Ranges_reckoned_66  (l1 : Int32) (l2 : Int32) (t0 : Int32) : Option Int32 :=
  (M_C_Ranges_greatest l1).bind fun v19 =>
  (M_C_Ranges_least l2).bind fun v20 =>
  if v19 < v20 then
    B_C_Ranges_reckoned_82 0 t0
  else
    B_C_Ranges_reckoned_82 1 t0
def M_C_Ranges_reckoned (a0 : Int32) (a1 : Int32) (a2 : Int32) : Option Int32 :=
  if a0 = 19 then
    (M_C_Ranges_same a1 a2).bind fun v22 =>
    some v22
  else
  if a0 = 20 then
    (M_C_Ranges_least a1).bind fun v17 =>
    (M_C_Ranges_greatest a2).bind fun v18 =>
    if v18 ≤ v17 then
      B_C_Ranges_reckoned_66 a1 a2 0
    else
      B_C_Ranges_reckoned_66 a1 a2 1
  else
  if a0 = 21 then
    (M_C_Ranges_least a1).bind fun v12 =>
    (M_C_Ranges_least a2).bind fun v13 =>
    (M_C_Ranges_greatest a1).bind fun v14 =>
    (M_C_Ranges_greatest a2).bind fun v15 =>
    (M_C_Ranges_wrapped (v12 + v13) (v14 + v15)).bind fun v16 =>
    some v16
  else
  if a0 = 22 then
    (M_C_Ranges_least a1).bind fun v7 =>
    (M_C_Ranges_greatest a2).bind fun v8 =>
    (M_C_Ranges_greatest a1).bind fun v9 =>
    (M_C_Ranges_least a2).bind fun v10 =>
    (M_C_Ranges_wrapped (v7 - v8) (v9 - v10)).bind fun v11 =>
    some v11
  else
  if a0 = 23 then
    (M_C_Ranges_times a1 a2).bind fun v6 =>
    some v6
  else
  if a0 = 24 then
    (M_C_Ranges_over a1 a2).bind fun v5 =>
    some v5
  else
  if a0 = 25 then
    (M_C_Ranges_rest a1 a2).bind fun v4 =>
    some v4
  else
  (M_C_Ranges_leastBoth a1 a2).bind fun v1 =>
  (M_C_Ranges_greatestBoth a1 a2).bind fun v2 =>
  (M_C_Ranges_of v1 v2).bind fun v3 =>
  some v3
def M_C_Ranges_taintOf (a0 : Int32) : Option Int32 :=
  some (a0 &&& 4096)
def M_C_Foreteller_push (σ : rt_St) (a1 : Int32) : Option rt_St :=
  (rt_wr σ 39 10 (σ 29 12) a1).bind fun σ1 =>
  (rt_put σ1 29 12 ((σ1 29 12) + 1)).bind fun σ2 =>
  some σ2
def M_C_Foreteller_reckon (σ : rt_St) (a1 : Int32) : Option (Int32 × rt_St) :=
  rt_b2 (M_C_Foreteller_pop σ) fun v2 σ1 =>
  rt_b2 (M_C_Foreteller_pop σ1) fun v4 σ3 =>
  (M_C_Ranges_reckoned a1 v4 v2).bind fun v5 =>
  if v5 = (-3) then
    some (0, σ3)
  else
    (M_C_Ranges_taintOf (v4 ||| v2)).bind fun v6 =>
    (M_C_Foreteller_push σ3 (v5 ||| v6)).bind fun σ7 =>
    some (1, σ7)
def M_C_Ranges_canBeZero (a0 : Int32) : Option Int32 :=
  (M_C_Ranges_least a0).bind fun v1 =>
  if v1 = 0 then
    some 1
  else
    some 0
def M_C_Ranges_canBeOther (a0 : Int32) : Option Int32 :=
  (M_C_Ranges_greatest a0).bind fun v1 =>
  if v1 = 0 then
    some 0
  else
    some 1
def M_C_Ranges_not (a0 : Int32) : Option Int32 :=
  (M_C_Ranges_canBeZero a0).bind fun v1 =>
  (M_C_Ranges_canBeOther a0).bind fun v2 =>
  (M_C_Ranges_truth v1 v2).bind fun v3 =>
  (M_C_Ranges_taintOf a0).bind fun v4 =>
  some (v3 ||| v4)
def B_C_Foreteller_wake_42 (K2 : Int32 → Int32 → rt_St → Option rt_St) (l1 : Int32) (l2 : Int32) (σ : rt_St) : Option rt_St :=
  K2 l1 (l2 + 1) σ
def B_C_Foreteller_wake_2  : Nat → Int32 → Int32 → rt_St → Option rt_St
  | 0, _, _, _ => none
  | n + 1, l1, l2, σ =>
    if (σ 1 12) ≤ l2 then
      some σ
    else
      (rt_rd σ 30 100 l2).bind fun v1 =>
      if v1 = 0 then
        B_C_Foreteller_wake_42 (B_C_Foreteller_wake_2 n) l1 l2 σ
      else
        (rt_rd σ 2 100 l2).bind fun v2 =>
        if v2 = l1 then
          (rt_wr σ 35 100 l2 1).bind fun σ3 =>
          B_C_Foreteller_wake_42 (B_C_Foreteller_wake_2 n) l1 l2 σ3
        else
          B_C_Foreteller_wake_42 (B_C_Foreteller_wake_2 n) l1 l2 σ
def M_C_Foreteller_wake (σ : rt_St) (a1 : Int32) : Option rt_St :=
  B_C_Foreteller_wake_2 FU a1 0 σ
def B_C_Foreteller_store_113  (l4 : Int32) (l5 : Int32) (σ : rt_St) : Option (Int32 × rt_St) :=
  if l5 < l4 then
    some (0, σ)
  else
    some (1, σ)
def B_C_Foreteller_store_85 (K38 : Int32 → Int32 → Int32 → Int32 → Int32 → Int32 → rt_St → Option (Int32 × rt_St)) (l2 : Int32) (l3 : Int32) (l4 : Int32) (l5 : Int32) (l7 : Int32) (l8 : Int32) (t0 : Int32) (σ : rt_St) : Option (Int32 × rt_St) :=
  (rt_wr σ 32 16 l7 l8).bind fun σ11 =>
  K38 l2 l3 l4 l5 t0 (l7 + 1) σ11
def B_C_Foreteller_store_80 (K38 : Int32 → Int32 → Int32 → Int32 → Int32 → Int32 → rt_St → Option (Int32 × rt_St)) (l2 : Int32) (l3 : Int32) (l4 : Int32) (l5 : Int32) (l7 : Int32) (l8 : Int32) (σ : rt_St) : Option (Int32 × rt_St) :=
  B_C_Foreteller_store_85 K38 l2 l3 l4 l5 l7 l8 1 σ
def B_C_Foreteller_store_38  : Nat → Int32 → Int32 → Int32 → Int32 → Int32 → Int32 → rt_St → Option (Int32 × rt_St)
  | 0, _, _, _, _, _, _, _ => none
  | n + 1, l2, l3, l4, l5, l6, l7, σ =>
    if l5 < l7 then
      if l6 = 0 then
        B_C_Foreteller_store_113 l4 l5 σ
      else
        (M_C_Foreteller_wake σ 15).bind fun σ7 =>
        B_C_Foreteller_store_113 l4 l5 σ7
    else
      (rt_rd σ 32 16 l7).bind fun v8 =>
      (M_C_Ranges_taintOf l3).bind fun v9 =>
      (M_C_Ranges_join v8 (l2 ||| v9)).bind fun v10 =>
      if l6 = 0 then
        (rt_rd σ 32 16 l7).bind fun v12 =>
        if v10 = v12 then
          B_C_Foreteller_store_85 (B_C_Foreteller_store_38 n) l2 l3 l4 l5 l7 v10 0 σ
        else
          B_C_Foreteller_store_80 (B_C_Foreteller_store_38 n) l2 l3 l4 l5 l7 v10 σ
      else
        B_C_Foreteller_store_80 (B_C_Foreteller_store_38 n) l2 l3 l4 l5 l7 v10 σ
def M_C_Foreteller_store (σ : rt_St) (a1 : Int32) : Option (Int32 × rt_St) :=
  rt_b2 (M_C_Foreteller_pop σ) fun v2 σ1 =>
  rt_b2 (M_C_Foreteller_pop σ1) fun v4 σ3 =>
  (M_C_Ranges_least v4).bind fun v5 =>
  (M_C_Ranges_greatest v4).bind fun v6 =>
  B_C_Foreteller_store_38 FU v2 v4 (v5 + a1) (rt_min (v6 + a1) 15) 0 (v5 + a1) σ3
def B_C_Foreteller_fetch_29  : Nat → Int32 → Int32 → Int32 → Int32 → rt_St → Option (Int32 × rt_St)
  | 0, _, _, _, _, _ => none
  | n + 1, l2, l3, l4, l5, σ =>
    if l3 < l5 then
      if l4 = (-3) then
        some (0, σ)
      else
        (M_C_Ranges_taintOf l2).bind fun v5 =>
        (M_C_Foreteller_push σ (l4 ||| v5)).bind fun σ6 =>
        some (1, σ6)
    else
      (rt_rd σ 32 16 l5).bind fun v7 =>
      (M_C_Ranges_join l4 v7).bind fun v8 =>
      (B_C_Foreteller_fetch_29 n) l2 l3 v8 (l5 + 1) σ
def M_C_Foreteller_fetch (σ : rt_St) (a1 : Int32) : Option (Int32 × rt_St) :=
  rt_b2 (M_C_Foreteller_pop σ) fun v2 σ1 =>
  (M_C_Ranges_greatest v2).bind fun v3 =>
  (M_C_Ranges_least v2).bind fun v4 =>
  B_C_Foreteller_fetch_29 FU v2 (rt_min (v3 + a1) 15) (-3) (v4 + a1) σ1
def B_C_Ranges_pick_26  (l2 : Int32) (l3 : Int32) : Option Int32 :=
  (M_C_Ranges_taintOf l2).bind fun v2 =>
  some (l3 ||| v2)
def B_C_Ranges_pick_25  (l2 : Int32) (t0 : Int32) : Option Int32 :=
  B_C_Ranges_pick_26 l2 t0
def M_C_Ranges_pick (a0 : Int32) (a1 : Int32) (a2 : Int32) : Option Int32 :=
  (M_C_Ranges_canBeOther a2).bind fun v1 =>
  if v1 = 0 then
    B_C_Ranges_pick_26 a2 a1
  else
    (M_C_Ranges_canBeZero a2).bind fun v3 =>
    if v3 = 0 then
      B_C_Ranges_pick_25 a2 a0
    else
      (M_C_Ranges_join a0 a1).bind fun v4 =>
      B_C_Ranges_pick_25 a2 v4
def M_C_Foreteller_pick (σ : rt_St)  : Option rt_St :=
  rt_b2 (M_C_Foreteller_pop σ) fun v2 σ1 =>
  rt_b2 (M_C_Foreteller_pop σ1) fun v4 σ3 =>
  rt_b2 (M_C_Foreteller_pop σ3) fun v6 σ5 =>
  (M_C_Ranges_pick v6 v4 v2).bind fun v7 =>
  (M_C_Foreteller_push σ5 v7).bind fun σ8 =>
  some σ8
def M_C_Foreteller_operate (σ : rt_St) (a1 : Int32) (a2 : Int32) : Option (Int32 × rt_St) :=
  if a1 = 10 then
    rt_b2 (M_C_Foreteller_pop σ) fun v41 σ40 =>
    some (1, σ40)
  else
  if a1 = 11 then
    (M_C_Foreteller_pick σ).bind fun σ39 =>
    some (1, σ39)
  else
  if a1 = 12 then
    (rt_rd σ 40 4 a2).bind fun v37 =>
    (M_C_Foreteller_push σ v37).bind fun σ38 =>
    some (1, σ38)
  else
  if a1 = 13 then
    rt_b2 (M_C_Foreteller_pop σ) fun v35 σ34 =>
    (rt_wr σ34 40 4 a2 v35).bind fun σ36 =>
    some (1, σ36)
  else
  if a1 = 14 then
    (rt_rd σ 39 10 ((σ 29 12) - 1)).bind fun v32 =>
    (rt_wr σ 40 4 a2 v32).bind fun σ33 =>
    some (1, σ33)
  else
  if a1 = 15 then
    rt_b2 (M_C_Foreteller_fetch σ a2) fun v31 σ30 =>
    (rt_zok v31).bind fun _ =>
    some (v31, σ30)
  else
  if a1 = 16 then
    rt_b2 (M_C_Foreteller_store σ a2) fun v29 σ28 =>
    (rt_zok v29).bind fun _ =>
    some (v29, σ28)
  else
  if a1 = 17 then
    (M_C_Ranges_of a2 a2).bind fun v26 =>
    (M_C_Foreteller_push σ v26).bind fun σ27 =>
    some (1, σ27)
  else
  if a1 = 18 then
    rt_b2 (M_C_Foreteller_pop σ) fun v23 σ22 =>
    (M_C_Ranges_not v23).bind fun v24 =>
    (M_C_Foreteller_push σ22 v24).bind fun σ25 =>
    some (1, σ25)
  else
  if a1 = 19 then
    rt_b2 (M_C_Foreteller_reckon σ a1) fun v21 σ20 =>
    (rt_zok v21).bind fun _ =>
    some (v21, σ20)
  else
  if a1 = 20 then
    rt_b2 (M_C_Foreteller_reckon σ a1) fun v19 σ18 =>
    (rt_zok v19).bind fun _ =>
    some (v19, σ18)
  else
  if a1 = 21 then
    rt_b2 (M_C_Foreteller_reckon σ a1) fun v17 σ16 =>
    (rt_zok v17).bind fun _ =>
    some (v17, σ16)
  else
  if a1 = 22 then
    rt_b2 (M_C_Foreteller_reckon σ a1) fun v15 σ14 =>
    (rt_zok v15).bind fun _ =>
    some (v15, σ14)
  else
  if a1 = 23 then
    rt_b2 (M_C_Foreteller_reckon σ a1) fun v13 σ12 =>
    (rt_zok v13).bind fun _ =>
    some (v13, σ12)
  else
  if a1 = 24 then
    rt_b2 (M_C_Foreteller_reckon σ a1) fun v11 σ10 =>
    (rt_zok v11).bind fun _ =>
    some (v11, σ10)
  else
  if a1 = 25 then
    rt_b2 (M_C_Foreteller_reckon σ a1) fun v9 σ8 =>
    (rt_zok v9).bind fun _ =>
    some (v9, σ8)
  else
  if a1 = 26 then
    rt_b2 (M_C_Foreteller_reckon σ a1) fun v7 σ6 =>
    (rt_zok v7).bind fun _ =>
    some (v7, σ6)
  else
  if a1 = 27 then
    (M_C_Foreteller_push σ 8128).bind fun σ5 =>
    some (1, σ5)
  else
  if a1 = 28 then
    rt_b2 (M_C_Foreteller_pop σ) fun v4 σ3 =>
    some (1, σ3)
  else
  rt_b2 (M_C_Foreteller_reckon σ a1) fun v2 σ1 =>
  (rt_zok v2).bind fun _ =>
  some (v2, σ1)
def B_C_Foreteller_joinInto_38_39_52 (K6 : Int32 → Int32 → Int32 → Int32 → Int32 → rt_St → Option (Int32 × rt_St)) (l1 : Int32) (l3 : Int32) (l4 : Int32) (l5 : Int32) (l6 : Int32) (σ : rt_St) : Option (Int32 × rt_St) :=
  K6 l1 l3 l4 l5 (l6 + 1) σ
def B_C_Foreteller_joinInto_38_39_6  : Nat → Int32 → Int32 → Int32 → Int32 → Int32 → rt_St → Option (Int32 × rt_St)
  | 0, _, _, _, _, _, _ => none
  | n + 1, l1, l3, l4, l5, l6, σ =>
    if l4 ≤ l6 then
      (rt_zok l5).bind fun _ =>
      some (l5, σ)
    else
      (rt_rd σ 38 6 (l1 + l6)).bind fun v1 =>
      (rt_rd σ 39 10 (l3 + l6)).bind fun v2 =>
      (M_C_Ranges_join v1 v2).bind fun v3 =>
      (rt_rd σ 38 6 (l1 + l6)).bind fun v4 =>
      if v3 = v4 then
        B_C_Foreteller_joinInto_38_39_52 (B_C_Foreteller_joinInto_38_39_6 n) l1 l3 l4 l5 l6 σ
      else
        (rt_wr σ 38 6 (l1 + l6) v3).bind fun σ5 =>
        B_C_Foreteller_joinInto_38_39_52 (B_C_Foreteller_joinInto_38_39_6 n) l1 l3 l4 1 l6 σ5
def M_C_Foreteller_joinInto_38_39 (σ : rt_St) (a1 : Int32) (a3 : Int32) (a4 : Int32) : Option (Int32 × rt_St) :=
  B_C_Foreteller_joinInto_38_39_6 FU a1 a3 a4 0 0 σ
def B_C_Foreteller_call_79  (l2 : Int32) (σ : rt_St) : Option rt_St :=
  (M_C_Foreteller_enter σ l2).bind fun σ6 =>
  some σ6
def B_C_Foreteller_call_72  (l1 : Int32) (l2 : Int32) (σ : rt_St) : Option rt_St :=
  (M_C_Foreteller_arrive σ (l1 + 1)).bind fun σ8 =>
  B_C_Foreteller_call_79 l2 σ8
def M_C_Foreteller_call (σ : rt_St) (a1 : Int32) (a2 : Int32) : Option rt_St :=
  (rt_rd σ 11 3 a2).bind fun v1 =>
  (rt_put σ 29 12 ((σ 29 12) - v1)).bind fun σ2 =>
  rt_b2 (M_C_Foreteller_joinInto_38_39 σ2 (a2 * 2) (σ2 29 12) v1) fun v4 σ3 =>
  (rt_rd σ3 34 3 a2).bind fun v5 =>
  if v5 = 0 then
    B_C_Foreteller_call_79 a2 σ3
  else
    (rt_rd σ3 13 3 a2).bind fun v7 =>
    if v7 = 1 then
      (rt_rd σ3 33 3 a2).bind fun v9 =>
      (M_C_Foreteller_push σ3 v9).bind fun σ10 =>
      B_C_Foreteller_call_72 a1 a2 σ10
    else
      B_C_Foreteller_call_72 a1 a2 σ3
def B_C_Foreteller_leave_55  (l1 : Int32) (l2 : Int32) (σ : rt_St) : Option rt_St :=
  (rt_wr σ 34 3 l1 1).bind fun σ4 =>
  (rt_wr σ4 33 3 l1 l2).bind fun σ5 =>
  (M_C_Foreteller_wake σ5 9).bind fun σ6 =>
  some σ6
def B_C_Foreteller_leave_36  (l1 : Int32) (l2 : Int32) (σ : rt_St) : Option rt_St :=
  (rt_rd σ 34 3 l1).bind fun v3 =>
  if v3 = 0 then
    B_C_Foreteller_leave_55 l1 l2 σ
  else
    (rt_rd σ 33 3 l1).bind fun v7 =>
    if l2 = v7 then
      some σ
    else
      B_C_Foreteller_leave_55 l1 l2 σ
def M_C_Foreteller_leave (σ : rt_St) (a1 : Int32) : Option rt_St :=
  (rt_rd σ 33 3 a1).bind fun v1 =>
  (rt_rd σ 13 3 a1).bind fun v2 =>
  if v2 = 1 then
    (rt_rd σ 39 10 ((σ 29 12) - 1)).bind fun v8 =>
    (M_C_Ranges_join v1 v8).bind fun v9 =>
    B_C_Foreteller_leave_36 a1 v9 σ
  else
    B_C_Foreteller_leave_36 a1 v1 σ
def B_C_Foreteller_jump_67  (l1 : Int32) (l2 : Int32) (σ : rt_St) : Option rt_St :=
  (rt_rd σ 9 100 l1).bind fun v4 =>
  (rt_put σ 29 12 (l2 + v4)).bind fun σ5 =>
  (rt_rd σ5 7 100 l1).bind fun v6 =>
  (M_C_Foreteller_arrive σ5 v6).bind fun σ7 =>
  some σ7
def M_C_Foreteller_jump (σ : rt_St) (a1 : Int32) : Option rt_St :=
  (rt_rd σ 7 100 a1).bind fun v1 =>
  if v1 = (-1) then
    (rt_rd σ 4 100 a1).bind fun v10 =>
    (M_C_Foreteller_leave σ v10).bind fun σ11 =>
    some σ11
  else
    (rt_rd σ 8 100 a1).bind fun v2 =>
    (rt_rd σ 9 100 a1).bind fun v3 =>
    if v3 = 1 then
      (rt_rd σ 39 10 ((σ 29 12) - 1)).bind fun v8 =>
      (rt_wr σ 39 10 v2 v8).bind fun σ9 =>
      B_C_Foreteller_jump_67 a1 v2 σ9
    else
      B_C_Foreteller_jump_67 a1 v2 σ
def B_C_Foreteller_fork_58  (l1 : Int32) (σ : rt_St) : Option rt_St :=
  (M_C_Foreteller_jump σ l1).bind fun σ5 =>
  some σ5
def B_C_Foreteller_fork_41  (l1 : Int32) (l2 : Int32) (l4 : Int32) (l5 : Int32) (σ : rt_St) : Option rt_St :=
  if l2 = 0 then
    if l5 = 0 then
      some σ
    else
      B_C_Foreteller_fork_58 l1 σ
  else
    if l4 = 0 then
      some σ
    else
      B_C_Foreteller_fork_58 l1 σ
def B_C_Foreteller_fork_34  (l1 : Int32) (l2 : Int32) (l4 : Int32) (l5 : Int32) (σ : rt_St) : Option rt_St :=
  (M_C_Foreteller_arrive σ (l1 + 1)).bind fun σ6 =>
  B_C_Foreteller_fork_41 l1 l2 l4 l5 σ6
def M_C_Foreteller_fork (σ : rt_St) (a1 : Int32) (a2 : Int32) : Option rt_St :=
  rt_b2 (M_C_Foreteller_pop σ) fun v2 σ1 =>
  (M_C_Ranges_canBeZero v2).bind fun v3 =>
  (M_C_Ranges_canBeOther v2).bind fun v4 =>
  if a2 = 0 then
    if v3 = 0 then
      B_C_Foreteller_fork_41 a1 a2 v3 v4 σ1
    else
      B_C_Foreteller_fork_34 a1 a2 v3 v4 σ1
  else
    if v4 = 0 then
      B_C_Foreteller_fork_41 a1 a2 v3 v4 σ1
    else
      B_C_Foreteller_fork_34 a1 a2 v3 v4 σ1
def B_C_Foreteller_follow_97  (t0 : Int32) (t1 : Int32) (σ : rt_St) : Option rt_St :=
  (M_C_Foreteller_fork σ t1 t0).bind fun σ11 =>
  some σ11
def M_C_Foreteller_follow (σ : rt_St) (a1 : Int32) : Option rt_St :=
  (rt_rd σ 2 100 a1).bind fun v1 =>
  if v1 = 0 then
    some σ
  else
  if v1 = 1 then
    (M_C_Foreteller_arrive σ (a1 + 1)).bind fun σ17 =>
    some σ17
  else
  if v1 = 2 then
    (M_C_Foreteller_arrive σ (a1 + 1)).bind fun σ16 =>
    some σ16
  else
  if v1 = 3 then
    (rt_rd σ 2 100 a1).bind fun v15 =>
    if v15 = 3 then
      B_C_Foreteller_follow_97 1 a1 σ
    else
      B_C_Foreteller_follow_97 0 a1 σ
  else
  if v1 = 4 then
    (M_C_Foreteller_jump σ a1).bind fun σ14 =>
    some σ14
  else
  if v1 = 5 then
    (M_C_Foreteller_jump σ a1).bind fun σ13 =>
    some σ13
  else
  if v1 = 6 then
    (M_C_Foreteller_jump σ a1).bind fun σ12 =>
    some σ12
  else
  if v1 = 7 then
    (rt_rd σ 2 100 a1).bind fun v10 =>
    if v10 = 3 then
      B_C_Foreteller_follow_97 1 a1 σ
    else
      B_C_Foreteller_follow_97 0 a1 σ
  else
  if v1 = 8 then
    (M_C_Foreteller_jump σ a1).bind fun σ9 =>
    some σ9
  else
  if v1 = 9 then
    (rt_rd σ 3 100 a1).bind fun v7 =>
    (M_C_Foreteller_call σ a1 v7).bind fun σ8 =>
    some σ8
  else
  (rt_rd σ 2 100 a1).bind fun v2 =>
  (rt_rd σ 3 100 a1).bind fun v3 =>
  rt_b2 (M_C_Foreteller_operate σ v2 v3) fun v5 σ4 =>
  if v5 = 0 then
    some σ4
  else
    (M_C_Foreteller_arrive σ4 (a1 + 1)).bind fun σ6 =>
    some σ6
def B_C_Foreteller_foretell_88 (K35 : Int32 → Int32 → rt_St → Option rt_St) (K49 : Int32 → Int32 → Int32 → rt_St → Option rt_St) (l1 : Int32) (l2 : Int32) (l3 : Int32) (σ : rt_St) : Option rt_St :=
  K49 l1 l2 (l3 + 1) σ
def B_C_Foreteller_foretell_49 (K35 : Int32 → Int32 → rt_St → Option rt_St) : Nat → Int32 → Int32 → Int32 → rt_St → Option rt_St
  | 0, _, _, _, _ => none
  | n + 1, l1, l2, l3, σ =>
    if (σ 1 12) ≤ l3 then
      K35 l1 (l2 + 1) σ
    else
      (rt_rd σ 35 100 l3).bind fun v3 =>
      if v3 = 0 then
        B_C_Foreteller_foretell_88 K35 (B_C_Foreteller_foretell_49 K35 n) l1 l2 l3 σ
      else
        (rt_wr σ 35 100 l3 0).bind fun σ4 =>
        (M_C_Foreteller_recall σ4 l3).bind fun σ5 =>
        (M_C_Foreteller_follow σ5 l3).bind fun σ6 =>
        B_C_Foreteller_foretell_88 K35 (B_C_Foreteller_foretell_49 K35 n) 1 l2 l3 σ6
def B_C_Foreteller_foretell_35  : Nat → Int32 → Int32 → rt_St → Option rt_St
  | 0, _, _, _ => none
  | n + 1, l1, l2, σ =>
    if 1000000 ≤ l2 then
      some σ
    else
      if l1 = 0 then
        some σ
      else
        B_C_Foreteller_foretell_49 (B_C_Foreteller_foretell_35 n) FU 0 l2 0 σ
def B_C_Foreteller_foretell_6  : Nat → Int32 → rt_St → Option rt_St
  | 0, _, _ => none
  | n + 1, l1, σ =>
    if 2 ≤ l1 then
      (M_C_Foreteller_enter σ 0).bind fun σ2 =>
      B_C_Foreteller_foretell_35 FU 1 0 σ2
    else
      (rt_wr σ 38 6 l1 4032).bind fun σ7 =>
      (B_C_Foreteller_foretell_6 n) (l1 + 1) σ7
def M_C_Foreteller_foretell (σ : rt_St)  : Option rt_St :=
  (M_C_Foreteller_clear σ).bind fun σ1 =>
  B_C_Foreteller_foretell_6 FU 0 σ1
def M_C_RangeTeller_load (σ : rt_St)  : Option (Int32 × rt_St) :=
  (rt_put σ 0 5 0).bind fun σ1 =>
  (M_C_Runner_forget σ1).bind fun σ2 =>
  rt_b2 (M_C_Reader_readModule σ2) fun v4 σ3 =>
  (rt_put σ3 0 6 v4).bind fun σ5 =>
  if (σ5 0 6) = (-3) then
    rt_b2 (M_C_Checker_firstInvalid σ5) fun v7 σ6 =>
    (rt_put σ6 0 6 v7).bind fun σ8 =>
    if (σ8 0 6) = (-3) then
      (M_C_Foreteller_foretell σ8).bind fun σ9 =>
      (rt_put σ9 0 5 1).bind fun σ10 =>
      some ((σ10 1 12), σ10)
    else
      some ((-2), σ8)
  else
    some ((-1), σ5)
def M_C_RangeTeller_place (σ : rt_St)  : Option (Int32 × rt_St) :=
  some ((σ 0 6), σ)
def M_C_Runner_addInput (σ : rt_St) (a1 : Int32) : Option (Int32 × rt_St) :=
  if a1 < 0 then
    some ((-3), σ)
  else
    if 64 ≤ a1 then
      some ((-3), σ)
    else
      if (σ 21 2) < 12 then
        (rt_wr σ 22 12 (σ 21 2) a1).bind fun σ1 =>
        (rt_put σ1 21 2 ((σ1 21 2) + 1)).bind fun σ2 =>
        some ((σ2 21 2), σ2)
      else
        some ((-3), σ)
def M_C_RangeTeller_input (σ : rt_St) (a1 : Int32) : Option (Int32 × rt_St) :=
  rt_b2 (M_C_Runner_addInput σ a1) fun v2 σ1 =>
  some (v2, σ1)
def B_C_Arrays_fill_23_5  : Nat → Int32 → Int32 → Int32 → rt_St → Option rt_St
  | 0, _, _, _, _ => none
  | n + 1, l1, l2, l3, σ =>
    if l3 ≤ l2 then
      some σ
    else
      (rt_wr σ 23 16 l2 l1).bind fun σ1 =>
      (B_C_Arrays_fill_23_5 n) l1 (l2 + 1) l3 σ1
def M_C_Arrays_fill_23 (σ : rt_St) (a1 : Int32) : Option rt_St :=
  B_C_Arrays_fill_23_5 FU a1 0 16 σ
def B_C_Runner_enter_72 (K35 : Int32 → Int32 → Int32 → rt_St → Option rt_St) (l1 : Int32) (l2 : Int32) (l3 : Int32) (t0 : Int32) (t1 : Int32) (σ : rt_St) : Option rt_St :=
  (rt_wr σ 26 28 t1 t0).bind fun σ6 =>
  K35 l1 l2 (l3 + 1) σ6
def B_C_Runner_enter_35  : Nat → Int32 → Int32 → Int32 → rt_St → Option rt_St
  | 0, _, _, _, _ => none
  | n + 1, l1, l2, l3, σ =>
    if 4 ≤ l3 then
      (rt_rd σ 10 3 l1).bind fun v4 =>
      (rt_put σ 21 9 v4).bind fun σ5 =>
      some σ5
    else
      if l2 ≤ l3 then
        B_C_Runner_enter_72 (B_C_Runner_enter_35 n) l1 l2 l3 0 (((σ 21 16) * 4) + l3) σ
      else
        (rt_rd σ 25 70 ((σ 21 17) + l3)).bind fun v7 =>
        B_C_Runner_enter_72 (B_C_Runner_enter_35 n) l1 l2 l3 v7 (((σ 21 16) * 4) + l3) σ
def M_C_Runner_enter (σ : rt_St) (a1 : Int32) : Option rt_St :=
  (rt_rd σ 11 3 a1).bind fun v1 =>
  (rt_put σ 21 17 ((σ 21 17) - v1)).bind fun σ2 =>
  (rt_wr σ2 27 7 (σ2 21 16) (σ2 21 17)).bind fun σ3 =>
  B_C_Runner_enter_35 FU a1 v1 0 σ3
def M_C_Runner_begin (σ : rt_St) (a1 : Int32) (a2 : Int32) : Option rt_St :=
  (M_C_Arrays_fill_23 σ 0).bind fun σ1 =>
  (rt_put σ1 21 7 1).bind fun σ2 =>
  (rt_put σ2 21 8 6).bind fun σ3 =>
  (rt_put σ3 21 10 0).bind fun σ4 =>
  (rt_put σ4 21 11 (-3)).bind fun σ5 =>
  (rt_put σ5 21 6 0).bind fun σ6 =>
  (rt_put σ6 21 3 0).bind fun σ7 =>
  (rt_wr σ7 25 70 0 a1).bind fun σ8 =>
  (rt_wr σ8 25 70 1 a2).bind fun σ9 =>
  (rt_rd σ9 11 3 0).bind fun v10 =>
  (rt_put σ9 21 17 v10).bind fun σ11 =>
  (rt_put σ11 21 16 0).bind fun σ12 =>
  (M_C_Runner_enter σ12 0).bind fun σ13 =>
  some σ13
def M_C_Runner_pop (σ : rt_St)  : Option (Int32 × rt_St) :=
  (rt_put σ 21 17 ((σ 21 17) - 1)).bind fun σ1 =>
  (rt_rd σ1 25 70 (σ1 21 17)).bind fun v2 =>
  some (v2, σ1)
def M_C_Runner_reckoned (a0 : Int32) (a1 : Int32) (a2 : Int32) : Option Int32 :=
  if a0 = 19 then
    if a1 = a2 then
      some 1
    else
      some 0
  else
  if a0 = 20 then
    if a2 ≤ a1 then
      some 0
    else
      some 1
  else
  if a0 = 21 then
    (rt_rem (a1 + a2) 64).bind fun v5 =>
    some v5
  else
  if a0 = 22 then
    (rt_rem ((a1 - a2) + 64) 64).bind fun v4 =>
    some v4
  else
  if a0 = 23 then
    (rt_rem (a1 * a2) 64).bind fun v3 =>
    some v3
  else
  if a0 = 24 then
    if a2 = 0 then
      some 0
    else
      (rt_div a1 a2).bind fun v2 =>
      some v2
  else
  if a0 = 25 then
    if a2 = 0 then
      some 0
    else
      (rt_rem a1 a2).bind fun v1 =>
      some v1
  else
  some (a1 &&& a2)
def M_C_Runner_push (σ : rt_St) (a1 : Int32) : Option rt_St :=
  (rt_wr σ 25 70 (σ 21 17) a1).bind fun σ1 =>
  (rt_put σ1 21 17 ((σ1 21 17) + 1)).bind fun σ2 =>
  some σ2
def B_C_Runner_reckon_32  (l1 : Int32) (l2 : Int32) (l3 : Int32) (σ : rt_St) : Option rt_St :=
  (M_C_Runner_reckoned l1 l3 l2).bind fun v5 =>
  (M_C_Runner_push σ v5).bind fun σ6 =>
  some σ6
def M_C_Runner_reckon (σ : rt_St) (a1 : Int32) : Option rt_St :=
  rt_b2 (M_C_Runner_pop σ) fun v2 σ1 =>
  rt_b2 (M_C_Runner_pop σ1) fun v4 σ3 =>
  if v2 = 0 then
    if a1 = 24 then
      (rt_put σ3 21 8 3).bind fun σ7 =>
      some σ7
    else
      if a1 = 25 then
        (rt_put σ3 21 8 3).bind fun σ8 =>
        some σ8
      else
        B_C_Runner_reckon_32 a1 v2 v4 σ3
  else
    B_C_Runner_reckon_32 a1 v2 v4 σ3
def B_C_Runner_putOut_19  (σ : rt_St) : Option rt_St :=
  (rt_put σ 21 6 ((σ 21 6) + 1)).bind fun σ1 =>
  some σ1
def M_C_Runner_putOut (σ : rt_St) (a1 : Int32) : Option rt_St :=
  if 20 ≤ (σ 21 6) then
    B_C_Runner_putOut_19 σ
  else
    (rt_wr σ 24 20 (σ 21 6) a1).bind fun σ2 =>
    B_C_Runner_putOut_19 σ2
def M_C_Runner_takeInput (σ : rt_St)  : Option rt_St :=
  if (σ 21 2) ≤ (σ 21 3) then
    (M_C_Runner_push σ 0).bind fun σ1 =>
    some σ1
  else
    (rt_rd σ 22 12 (σ 21 3)).bind fun v2 =>
    (M_C_Runner_push σ v2).bind fun σ3 =>
    (rt_put σ3 21 3 ((σ3 21 3) + 1)).bind fun σ4 =>
    some σ4
def M_C_Runner_store (σ : rt_St) (a1 : Int32) : Option rt_St :=
  rt_b2 (M_C_Runner_pop σ) fun v2 σ1 =>
  rt_b2 (M_C_Runner_pop σ1) fun v4 σ3 =>
  if (v4 + a1) < 16 then
    (rt_wr σ3 23 16 (v4 + a1) v2).bind fun σ5 =>
    some σ5
  else
    (rt_put σ3 21 8 2).bind fun σ6 =>
    some σ6
def M_C_Runner_fetch (σ : rt_St) (a1 : Int32) : Option rt_St :=
  rt_b2 (M_C_Runner_pop σ) fun v2 σ1 =>
  if (v2 + a1) < 16 then
    (rt_rd σ1 23 16 (v2 + a1)).bind fun v3 =>
    (M_C_Runner_push σ1 v3).bind fun σ4 =>
    some σ4
  else
    (rt_put σ1 21 8 2).bind fun σ5 =>
    some σ5
def B_C_Runner_pick_25  (t0 : Int32) (σ : rt_St) : Option rt_St :=
  (M_C_Runner_push σ t0).bind fun σ7 =>
  some σ7
def M_C_Runner_pick (σ : rt_St)  : Option rt_St :=
  rt_b2 (M_C_Runner_pop σ) fun v2 σ1 =>
  rt_b2 (M_C_Runner_pop σ1) fun v4 σ3 =>
  rt_b2 (M_C_Runner_pop σ3) fun v6 σ5 =>
  if v2 = 0 then
    B_C_Runner_pick_25 v4 σ5
  else
    B_C_Runner_pick_25 v6 σ5
def B_C_Runner_operate_203  (t0 : Int32) (σ : rt_St) : Option rt_St :=
  (M_C_Runner_push σ t0).bind fun σ16 =>
  some σ16
def M_C_Runner_operate (σ : rt_St) (a1 : Int32) (a2 : Int32) : Option rt_St :=
  if a1 = 10 then
    (rt_put σ 21 17 ((σ 21 17) - 1)).bind fun σ28 =>
    some σ28
  else
  if a1 = 11 then
    (M_C_Runner_pick σ).bind fun σ27 =>
    some σ27
  else
  if a1 = 12 then
    (rt_rd σ 26 28 (((σ 21 16) * 4) + a2)).bind fun v25 =>
    (M_C_Runner_push σ v25).bind fun σ26 =>
    some σ26
  else
  if a1 = 13 then
    rt_b2 (M_C_Runner_pop σ) fun v23 σ22 =>
    (rt_wr σ22 26 28 (((σ 21 16) * 4) + a2) v23).bind fun σ24 =>
    some σ24
  else
  if a1 = 14 then
    (rt_rd σ 25 70 ((σ 21 17) - 1)).bind fun v20 =>
    (rt_wr σ 26 28 (((σ 21 16) * 4) + a2) v20).bind fun σ21 =>
    some σ21
  else
  if a1 = 15 then
    (M_C_Runner_fetch σ a2).bind fun σ19 =>
    some σ19
  else
  if a1 = 16 then
    (M_C_Runner_store σ a2).bind fun σ18 =>
    some σ18
  else
  if a1 = 17 then
    (M_C_Runner_push σ a2).bind fun σ17 =>
    some σ17
  else
  if a1 = 18 then
    rt_b2 (M_C_Runner_pop σ) fun v15 σ14 =>
    if v15 = 0 then
      B_C_Runner_operate_203 1 σ14
    else
      B_C_Runner_operate_203 0 σ14
  else
  if a1 = 19 then
    (M_C_Runner_reckon σ a1).bind fun σ13 =>
    some σ13
  else
  if a1 = 20 then
    (M_C_Runner_reckon σ a1).bind fun σ12 =>
    some σ12
  else
  if a1 = 21 then
    (M_C_Runner_reckon σ a1).bind fun σ11 =>
    some σ11
  else
  if a1 = 22 then
    (M_C_Runner_reckon σ a1).bind fun σ10 =>
    some σ10
  else
  if a1 = 23 then
    (M_C_Runner_reckon σ a1).bind fun σ9 =>
    some σ9
  else
  if a1 = 24 then
    (M_C_Runner_reckon σ a1).bind fun σ8 =>
    some σ8
  else
  if a1 = 25 then
    (M_C_Runner_reckon σ a1).bind fun σ7 =>
    some σ7
  else
  if a1 = 26 then
    (M_C_Runner_reckon σ a1).bind fun σ6 =>
    some σ6
  else
  if a1 = 27 then
    (M_C_Runner_takeInput σ).bind fun σ5 =>
    some σ5
  else
  if a1 = 28 then
    rt_b2 (M_C_Runner_pop σ) fun v3 σ2 =>
    (M_C_Runner_putOut σ2 v3).bind fun σ4 =>
    some σ4
  else
  (M_C_Runner_reckon σ a1).bind fun σ1 =>
  some σ1
def M_C_Runner_call (σ : rt_St) (a1 : Int32) : Option rt_St :=
  if (σ 21 16) < 6 then
    (rt_put σ 21 16 ((σ 21 16) + 1)).bind fun σ1 =>
    (rt_wr σ1 28 7 (σ1 21 16) a1).bind fun σ2 =>
    (rt_rd σ2 3 100 a1).bind fun v3 =>
    (M_C_Runner_enter σ2 v3).bind fun σ4 =>
    some σ4
  else
    (rt_put σ 21 8 4).bind fun σ5 =>
    some σ5
def M_C_Runner_leave (σ : rt_St) (a1 : Int32) : Option rt_St :=
  if (σ 21 16) ≤ 0 then
    (rt_put σ 21 8 0).bind fun σ1 =>
    if a1 = 1 then
      rt_b2 (M_C_Runner_pop σ1) fun v3 σ2 =>
      (rt_put σ2 21 11 v3).bind fun σ4 =>
      some σ4
    else
      some σ1
  else
    (rt_rd σ 28 7 (σ 21 16)).bind fun v5 =>
    (rt_put σ 21 9 (v5 + 1)).bind fun σ6 =>
    (rt_put σ6 21 16 ((σ6 21 16) - 1)).bind fun σ7 =>
    some σ7
def B_C_Runner_jump_50  (l1 : Int32) (l2 : Int32) (σ : rt_St) : Option rt_St :=
  (rt_rd σ 9 100 l1).bind fun v4 =>
  (rt_put σ 21 17 (l2 + v4)).bind fun σ5 =>
  (rt_rd σ5 7 100 l1).bind fun v6 =>
  if v6 = (-1) then
    (rt_rd σ5 9 100 l1).bind fun v9 =>
    (M_C_Runner_leave σ5 v9).bind fun σ10 =>
    some σ10
  else
    (rt_rd σ5 7 100 l1).bind fun v7 =>
    (rt_put σ5 21 9 v7).bind fun σ8 =>
    some σ8
def M_C_Runner_jump (σ : rt_St) (a1 : Int32) : Option rt_St :=
  (rt_rd σ 27 7 (σ 21 16)).bind fun v1 =>
  (rt_rd σ 8 100 a1).bind fun v2 =>
  (rt_rd σ 9 100 a1).bind fun v3 =>
  if v3 = 1 then
    (rt_rd σ 25 70 ((σ 21 17) - 1)).bind fun v11 =>
    (rt_wr σ 25 70 (v1 + v2) v11).bind fun σ12 =>
    B_C_Runner_jump_50 a1 (v1 + v2) σ12
  else
    B_C_Runner_jump_50 a1 (v1 + v2) σ
def M_C_Runner_jumpIf (σ : rt_St) (a1 : Int32) (a2 : Int32) : Option rt_St :=
  if a2 = 0 then
    (rt_put σ 21 9 ((σ 21 9) + 1)).bind fun σ1 =>
    some σ1
  else
    (M_C_Runner_jump σ a1).bind fun σ2 =>
    some σ2
def B_C_Runner_step_119  (t0 : Int32) (t1 : Int32) (σ : rt_St) : Option rt_St :=
  (M_C_Runner_jumpIf σ t1 t0).bind fun σ10 =>
  some σ10
def B_C_Runner_step_99  (t0 : Int32) (t1 : Int32) (σ : rt_St) : Option rt_St :=
  (M_C_Runner_jumpIf σ t1 t0).bind fun σ16 =>
  some σ16
def M_C_Runner_step (σ : rt_St) (a1 : Int32) : Option rt_St :=
  (rt_rd σ 2 100 a1).bind fun v1 =>
  if v1 = 0 then
    (rt_put σ 21 8 1).bind fun σ19 =>
    some σ19
  else
  if v1 = 1 then
    (rt_put σ 21 9 ((σ 21 9) + 1)).bind fun σ18 =>
    some σ18
  else
  if v1 = 2 then
    (rt_put σ 21 9 ((σ 21 9) + 1)).bind fun σ17 =>
    some σ17
  else
  if v1 = 3 then
    rt_b2 (M_C_Runner_pop σ) fun v15 σ14 =>
    if v15 = 0 then
      B_C_Runner_step_99 1 a1 σ14
    else
      B_C_Runner_step_99 0 a1 σ14
  else
  if v1 = 4 then
    (M_C_Runner_jump σ a1).bind fun σ13 =>
    some σ13
  else
  if v1 = 5 then
    (M_C_Runner_jump σ a1).bind fun σ12 =>
    some σ12
  else
  if v1 = 6 then
    (M_C_Runner_jump σ a1).bind fun σ11 =>
    some σ11
  else
  if v1 = 7 then
    rt_b2 (M_C_Runner_pop σ) fun v9 σ8 =>
    if v9 = 0 then
      B_C_Runner_step_119 0 a1 σ8
    else
      B_C_Runner_step_119 1 a1 σ8
  else
  if v1 = 8 then
    (M_C_Runner_jump σ a1).bind fun σ7 =>
    some σ7
  else
  if v1 = 9 then
    (M_C_Runner_call σ a1).bind fun σ6 =>
    some σ6
  else
  (rt_rd σ 2 100 a1).bind fun v2 =>
  (rt_rd σ 3 100 a1).bind fun v3 =>
  (M_C_Runner_operate σ v2 v3).bind fun σ4 =>
  if (σ4 21 8) = 6 then
    (rt_put σ4 21 9 ((σ4 21 9) + 1)).bind fun σ5 =>
    some σ5
  else
    some σ4
def B_C_Runner_runWith_68  (σ : rt_St) : Option (Int32 × rt_St) :=
  (rt_put σ 21 2 0).bind fun σ4 =>
  some ((σ4 21 8), σ4)
def B_C_Runner_runWith_54  (σ : rt_St) : Option (Int32 × rt_St) :=
  if (σ 21 8) = 6 then
    (rt_put σ 21 8 5).bind fun σ5 =>
    B_C_Runner_runWith_68 σ5
  else
    B_C_Runner_runWith_68 σ
def B_C_Runner_runWith_16  : Nat → Int32 → rt_St → Option (Int32 × rt_St)
  | 0, _, _ => none
  | n + 1, l3, σ =>
    if (σ 21 8) = 6 then
      if l3 ≤ (σ 21 10) then
        B_C_Runner_runWith_54 σ
      else
        (rt_put σ 21 10 ((σ 21 10) + 1)).bind fun σ6 =>
        (M_C_Runner_step σ6 (σ6 21 9)).bind fun σ7 =>
        (B_C_Runner_runWith_16 n) l3 σ7
    else
      B_C_Runner_runWith_54 σ
def M_C_Runner_runWith (σ : rt_St) (a1 : Int32) (a2 : Int32) (a3 : Int32) : Option (Int32 × rt_St) :=
  (M_C_Math_floorMod a1 64).bind fun v1 =>
  (M_C_Math_floorMod a2 64).bind fun v2 =>
  (M_C_Runner_begin σ v1 v2).bind fun σ3 =>
  B_C_Runner_runWith_16 FU a3 σ3
def M_C_RangeTeller_run (σ : rt_St) (a1 : Int32) (a2 : Int32) (a3 : Int32) : Option (Int32 × rt_St) :=
  if (σ 0 5) = 0 then
    some ((-3), σ)
  else
    rt_b2 (M_C_Runner_runWith σ a1 a2 (rt_max 0 (rt_min a3 2000))) fun v2 σ1 =>
    some (v2, σ1)
def M_C_RangeTeller_outcome (σ : rt_St) (a1 : Int32) : Option (Int32 × rt_St) :=
  if (σ 21 7) = 0 then
    some ((-3), σ)
  else
    if a1 = 0 then
      some ((σ 21 11), σ)
    else
    if a1 = 1 then
      if (σ 21 8) = 0 then
        some ((-3), σ)
      else
        some ((σ 21 9), σ)
    else
    if a1 = 2 then
      some ((σ 21 10), σ)
    else
    if a1 = 3 then
      some ((σ 21 6), σ)
    else
    some ((-3), σ)
def M_C_RangeTeller_output (σ : rt_St) (a1 : Int32) : Option (Int32 × rt_St) :=
  if (σ 21 7) = 0 then
    some ((-3), σ)
  else
    if a1 < 0 then
      some ((-3), σ)
    else
      if 20 ≤ a1 then
        some ((-3), σ)
      else
        if a1 < (σ 21 6) then
          (rt_rd σ 24 20 a1).bind fun v1 =>
          some (v1, σ)
        else
          some ((-3), σ)
def M_C_RangeTeller_memory (σ : rt_St) (a1 : Int32) : Option (Int32 × rt_St) :=
  if (σ 21 7) = 0 then
    some ((-3), σ)
  else
    if a1 < 0 then
      some ((-3), σ)
    else
      if a1 < 16 then
        (rt_rd σ 23 16 a1).bind fun v1 =>
        some (v1, σ)
      else
        some ((-3), σ)
def M_C_RangeTeller_isInstruction (σ : rt_St) (a1 : Int32) : Option (Int32 × rt_St) :=
  if (σ 0 5) = 0 then
    some (0, σ)
  else
    if a1 < 0 then
      some (0, σ)
    else
      if (σ 1 12) ≤ a1 then
        some (0, σ)
      else
        some (1, σ)
def M_C_Foreteller_operandAt (σ : rt_St) (a1 : Int32) (a2 : Int32) : Option (Int32 × rt_St) :=
  (rt_rd σ 30 100 a1).bind fun v1 =>
  if v1 = 0 then
    some ((-3), σ)
  else
    if a2 < 0 then
      some ((-3), σ)
    else
      (rt_rd σ 31 100 a1).bind fun v2 =>
      if a2 < v2 then
        (rt_rd σ 31 100 a1).bind fun v3 =>
        (rt_rd σ 36 1000 ((((a1 * 10) + v3) - 1) - a2)).bind fun v4 =>
        some (v4, σ)
      else
        some ((-3), σ)
def M_C_Foreteller_canMiss (a0 : Int32) (a1 : Int32) : Option Int32 :=
  (M_C_Ranges_greatest a0).bind fun v1 =>
  if (v1 + a1) < 16 then
    some 0
  else
    some 1
def M_C_Foreteller_flagsAt (σ : rt_St) (a1 : Int32) : Option (Int32 × rt_St) :=
  (rt_rd σ 30 100 a1).bind fun v1 =>
  if v1 = 0 then
    some (0, σ)
  else
    (rt_rd σ 2 100 a1).bind fun v2 =>
    if v2 = 0 then
      some (1, σ)
    else
    if v2 = 15 then
      rt_b2 (M_C_Foreteller_operandAt σ a1 0) fun v17 σ16 =>
      (rt_rd σ16 3 100 a1).bind fun v18 =>
      (M_C_Foreteller_canMiss v17 v18).bind fun v19 =>
      if v19 = 0 then
        some (0, σ16)
      else
        some (2, σ16)
    else
    if v2 = 16 then
      rt_b2 (M_C_Foreteller_operandAt σ a1 1) fun v13 σ12 =>
      (rt_rd σ12 3 100 a1).bind fun v14 =>
      (M_C_Foreteller_canMiss v13 v14).bind fun v15 =>
      if v15 = 0 then
        some (0, σ12)
      else
        some (2, σ12)
    else
    if v2 = 24 then
      rt_b2 (M_C_Foreteller_operandAt σ a1 0) fun v10 σ9 =>
      (M_C_Ranges_canBeZero v10).bind fun v11 =>
      if v11 = 0 then
        some (0, σ9)
      else
        some (4, σ9)
    else
    if v2 = 25 then
      rt_b2 (M_C_Foreteller_operandAt σ a1 0) fun v7 σ6 =>
      (M_C_Ranges_canBeZero v7).bind fun v8 =>
      if v8 = 0 then
        some (0, σ6)
      else
        some (4, σ6)
    else
    if v2 = 28 then
      rt_b2 (M_C_Foreteller_operandAt σ a1 0) fun v4 σ3 =>
      (M_C_Ranges_taintOf v4).bind fun v5 =>
      if v5 = 0 then
        some (0, σ3)
      else
        some (8, σ3)
    else
    some (0, σ)
def M_C_RangeTeller_instruction (σ : rt_St) (a1 : Int32) (a2 : Int32) : Option (Int32 × rt_St) :=
  rt_b2 (M_C_RangeTeller_isInstruction σ a1) fun v2 σ1 =>
  if v2 = 0 then
    some ((-3), σ1)
  else
    if a2 = 0 then
      (rt_rd σ1 2 100 a1).bind fun v11 =>
      some (v11, σ1)
    else
    if a2 = 1 then
      (rt_rd σ1 3 100 a1).bind fun v10 =>
      some (v10, σ1)
    else
    if a2 = 2 then
      (rt_rd σ1 30 100 a1).bind fun v9 =>
      if v9 = 0 then
        some (0, σ1)
      else
        some (1, σ1)
    else
    if a2 = 3 then
      rt_b2 (M_C_Foreteller_flagsAt σ1 a1) fun v8 σ7 =>
      some (v8, σ7)
    else
    if a2 = 4 then
      (rt_rd σ1 5 100 a1).bind fun v5 =>
      if v5 = (-3) then
        some ((-3), σ1)
      else
        (rt_rd σ1 5 100 a1).bind fun v6 =>
        some ((v6 + 1), σ1)
    else
    if a2 = 5 then
      (rt_rd σ1 30 100 a1).bind fun v3 =>
      if v3 = 0 then
        some ((-3), σ1)
      else
        (rt_rd σ1 31 100 a1).bind fun v4 =>
        some (v4, σ1)
    else
    some ((-3), σ1)
def M_C_RangeTeller_operand (σ : rt_St) (a1 : Int32) (a2 : Int32) : Option (Int32 × rt_St) :=
  rt_b2 (M_C_RangeTeller_isInstruction σ a1) fun v2 σ1 =>
  if v2 = 0 then
    some ((-3), σ1)
  else
    rt_b2 (M_C_Foreteller_operandAt σ1 a1 a2) fun v4 σ3 =>
    some (v4, σ3)
def M_C_Foreteller_localAt (σ : rt_St) (a1 : Int32) (a2 : Int32) : Option (Int32 × rt_St) :=
  (rt_rd σ 30 100 a1).bind fun v1 =>
  if v1 = 0 then
    some ((-3), σ)
  else
    if a2 < 0 then
      some ((-3), σ)
    else
      (rt_rd σ 4 100 a1).bind fun v2 =>
      rt_b2 (M_C_Program_localCount σ v2) fun v4 σ3 =>
      if a2 < v4 then
        (rt_rd σ3 37 400 ((a1 * 4) + a2)).bind fun v5 =>
        some (v5, σ3)
      else
        some ((-3), σ3)
def M_C_RangeTeller_local (σ : rt_St) (a1 : Int32) (a2 : Int32) : Option (Int32 × rt_St) :=
  rt_b2 (M_C_RangeTeller_isInstruction σ a1) fun v2 σ1 =>
  if v2 = 0 then
    some ((-3), σ1)
  else
    rt_b2 (M_C_Foreteller_localAt σ1 a1 a2) fun v4 σ3 =>
    some (v4, σ3)
def M_C_RangeTeller_cell (σ : rt_St) (a1 : Int32) : Option (Int32 × rt_St) :=
  if (σ 0 5) = 0 then
    some ((-3), σ)
  else
    if a1 < 0 then
      some ((-3), σ)
    else
      if a1 < 16 then
        (rt_rd σ 32 16 a1).bind fun v1 =>
        some (v1, σ)
      else
        some ((-3), σ)
def M_C_RangeTeller_function (σ : rt_St) (a1 : Int32) (a2 : Int32) : Option (Int32 × rt_St) :=
  if (σ 0 5) = 0 then
    some ((-3), σ)
  else
    if a1 < 0 then
      some ((-3), σ)
    else
      if a1 < (σ 1 13) then
        if a2 = 0 then
          (rt_rd σ 10 3 a1).bind fun v6 =>
          some (v6, σ)
        else
        if a2 = 1 then
          (rt_rd σ 11 3 a1).bind fun v5 =>
          some (v5, σ)
        else
        if a2 = 2 then
          (rt_rd σ 12 3 a1).bind fun v4 =>
          some (v4, σ)
        else
        if a2 = 3 then
          (rt_rd σ 13 3 a1).bind fun v3 =>
          some (v3, σ)
        else
        if a2 = 4 then
          (rt_rd σ 33 3 a1).bind fun v2 =>
          some (v2, σ)
        else
        if a2 = 5 then
          (rt_rd σ 34 3 a1).bind fun v1 =>
          if v1 = 0 then
            some (0, σ)
          else
            some (1, σ)
        else
        some ((-3), σ)
      else
        some ((-3), σ)
def M_R_RangeTellerModel_feed (σ : rt_St) (a1 : Int32) : Option (Int32 × rt_St) :=
  if a1 < 0 then
    some (0, σ)
  else
    if 63 < a1 then
      some (0, σ)
    else
      if (σ 0 0) = 100 then
        some (0, σ)
      else
        (rt_wr σ 1 100 (σ 0 0) a1).bind fun σ1 =>
        (rt_put σ1 0 0 ((σ1 0 0) + 1)).bind fun σ2 =>
        some (1, σ2)
def M_R_RangeTellerModel_take (σ : rt_St)  : Option (Int32 × rt_St) :=
  if (σ 0 2) < (σ 0 0) then
    (rt_put σ 0 2 ((σ 0 2) + 1)).bind fun σ1 =>
    (rt_rd σ1 1 100 ((σ1 0 2) - 1)).bind fun v2 =>
    some (v2, σ1)
  else
    (rt_put σ 0 3 1).bind fun σ3 =>
    some (0, σ3)
def B_R_RangeTellerModel_number_85  (l4 : Int32) (σ : rt_St) : Option (Int32 × rt_St) :=
  (rt_put σ 0 3 1).bind fun σ3 =>
  (rt_put σ3 0 2 ((σ3 0 2) - 1)).bind fun σ4 =>
  some (l4, σ4)
def B_R_RangeTellerModel_number_73  (l1 : Int32) (l2 : Int32) (l4 : Int32) (σ : rt_St) : Option (Int32 × rt_St) :=
  if l4 < l1 then
    B_R_RangeTellerModel_number_85 l4 σ
  else
    if l4 ≤ l2 then
      some (l4, σ)
    else
      B_R_RangeTellerModel_number_85 l4 σ
def M_R_RangeTellerModel_number (σ : rt_St) (a1 : Int32) (a2 : Int32) : Option (Int32 × rt_St) :=
  rt_b2 (M_R_RangeTellerModel_take σ) fun v2 σ1 =>
  if (σ1 0 3) = 0 then
    if v2 < 32 then
      B_R_RangeTellerModel_number_73 a1 a2 v2 σ1
    else
      rt_b2 (M_R_RangeTellerModel_take σ1) fun v6 σ5 =>
      if (σ5 0 3) = 0 then
        if v6 ≤ 1 then
          B_R_RangeTellerModel_number_73 a1 a2 ((v2 - 32) + (32 * v6)) σ5
        else
          (rt_put σ5 0 3 1).bind fun σ7 =>
          (rt_put σ7 0 2 ((σ7 0 2) - 1)).bind fun σ8 =>
          some (0, σ8)
      else
        some (0, σ5)
  else
    some (0, σ1)
def B_R_RangeTellerModel_hasArgument_9  (l0 : Int32) : Option Int32 :=
  if l0 = 6 then
    some 1
  else
    if l0 = 7 then
      some 1
    else
      if l0 = 9 then
        some 1
      else
        if l0 ≤ 11 then
          some 0
        else
          if 18 ≤ l0 then
            some 0
          else
            some 1
def M_R_RangeTellerModel_hasArgument (a0 : Int32) : Option Int32 :=
  if a0 ≤ 0 then
    B_R_RangeTellerModel_hasArgument_9 a0
  else
    if a0 < 4 then
      some 1
    else
      B_R_RangeTellerModel_hasArgument_9 a0
def M_R_RangeTellerModel_close (σ : rt_St) (a1 : Int32) : Option rt_St :=
  (rt_put σ 0 21 ((σ 0 21) - 1)).bind fun σ1 =>
  (rt_rd σ1 15 101 (σ1 0 21)).bind fun v2 =>
  (rt_wr σ1 5 100 v2 a1).bind fun σ3 =>
  (rt_rd σ3 6 100 v2).bind fun v4 =>
  if v4 < 0 then
    some σ3
  else
    (rt_rd σ3 6 100 v2).bind fun v5 =>
    (rt_wr σ3 5 100 v5 a1).bind fun σ6 =>
    some σ6
def B_R_RangeTellerModel_readFunction_360 (K75 : Int32 → Int32 → rt_St → Option rt_St) (l1 : Int32) (l2 : Int32) (σ : rt_St) : Option rt_St :=
  K75 l1 l2 σ
def B_R_RangeTellerModel_readFunction_345 (K75 : Int32 → Int32 → rt_St → Option rt_St) (l1 : Int32) (l2 : Int32) (l3 : Int32) (l5 : Int32) (σ : rt_St) : Option rt_St :=
  if l3 = 5 then
    if l2 = 0 then
      (M_R_RangeTellerModel_close σ l5).bind fun σ15 =>
      B_R_RangeTellerModel_readFunction_360 K75 l1 l2 σ15
    else
      B_R_RangeTellerModel_readFunction_360 K75 l1 l2 σ
  else
    B_R_RangeTellerModel_readFunction_360 K75 l1 l2 σ
def B_R_RangeTellerModel_readFunction_315 (K75 : Int32 → Int32 → rt_St → Option rt_St) (l1 : Int32) (l2 : Int32) (l3 : Int32) (l5 : Int32) (σ : rt_St) : Option rt_St :=
  if l3 ≤ 0 then
    B_R_RangeTellerModel_readFunction_345 K75 l1 l2 l3 l5 σ
  else
    if 4 ≤ l3 then
      B_R_RangeTellerModel_readFunction_345 K75 l1 l2 l3 l5 σ
    else
      (rt_wr σ 15 101 (σ 0 21) l5).bind fun σ16 =>
      (rt_put σ16 0 21 ((σ16 0 21) + 1)).bind fun σ17 =>
      B_R_RangeTellerModel_readFunction_345 K75 l1 l2 l3 l5 σ17
def B_R_RangeTellerModel_readFunction_291 (K75 : Int32 → Int32 → rt_St → Option rt_St) (l1 : Int32) (l3 : Int32) (l5 : Int32) (t0 : Int32) (σ : rt_St) : Option rt_St :=
  if l3 = 4 then
    (rt_rd σ 15 101 ((σ 0 21) - 1)).bind fun v18 =>
    (rt_wr σ 6 100 v18 l5).bind fun σ19 =>
    B_R_RangeTellerModel_readFunction_315 K75 l1 t0 l3 l5 σ19
  else
    B_R_RangeTellerModel_readFunction_315 K75 l1 t0 l3 l5 σ
def B_R_RangeTellerModel_readFunction_290 (K75 : Int32 → Int32 → rt_St → Option rt_St) (l1 : Int32) (l3 : Int32) (l5 : Int32) (σ : rt_St) : Option rt_St :=
  B_R_RangeTellerModel_readFunction_291 K75 l1 l3 l5 0 σ
def B_R_RangeTellerModel_readFunction_255 (K75 : Int32 → Int32 → rt_St → Option rt_St) (l1 : Int32) (l3 : Int32) (l5 : Int32) (t0 : Int32) (t1 : Int32) (σ : rt_St) : Option rt_St :=
  (rt_wr σ 3 100 t1 t0).bind fun σ13 =>
  if (σ13 0 3) = 0 then
    (rt_put σ13 0 6 ((σ13 0 6) + 1)).bind fun σ14 =>
    if l3 = 5 then
      if (σ14 0 21) = 0 then
        B_R_RangeTellerModel_readFunction_291 K75 l1 l3 l5 1 σ14
      else
        B_R_RangeTellerModel_readFunction_290 K75 l1 l3 l5 σ14
    else
      B_R_RangeTellerModel_readFunction_290 K75 l1 l3 l5 σ14
  else
    some σ13
def B_R_RangeTellerModel_readFunction_248 (K75 : Int32 → Int32 → rt_St → Option rt_St) (l1 : Int32) (l3 : Int32) (l5 : Int32) (t0 : Int32) (t1 : Int32) (t2 : Int32) (σ : rt_St) : Option rt_St :=
  rt_b2 (M_R_RangeTellerModel_number σ t1 t0) fun v21 σ20 =>
  B_R_RangeTellerModel_readFunction_255 K75 l1 l3 l5 v21 t2 σ20
def B_R_RangeTellerModel_readFunction_163 (K75 : Int32 → Int32 → rt_St → Option rt_St) (l1 : Int32) (l3 : Int32) (l4 : Int32) (σ : rt_St) : Option rt_St :=
  if l4 = 0 then
    (rt_put σ 0 3 1).bind fun σ22 =>
    (rt_put σ22 0 2 ((σ22 0 2) - 1)).bind fun σ23 =>
    some σ23
  else
    (rt_wr σ 2 100 (σ 0 6) l3).bind fun σ8 =>
    (rt_wr σ8 4 100 (σ 0 6) l1).bind fun σ9 =>
    (rt_wr σ9 5 100 (σ 0 6) (-1)).bind fun σ10 =>
    (rt_wr σ10 6 100 (σ 0 6) (-1)).bind fun σ11 =>
    (M_R_RangeTellerModel_hasArgument l3).bind fun v12 =>
    if v12 = 0 then
      B_R_RangeTellerModel_readFunction_255 K75 l1 l3 (σ 0 6) 0 (σ 0 6) σ11
    else
      if 4 ≤ l3 then
        B_R_RangeTellerModel_readFunction_248 K75 l1 l3 (σ 0 6) 63 0 (σ 0 6) σ11
      else
        B_R_RangeTellerModel_readFunction_248 K75 l1 l3 (σ 0 6) 1 0 (σ 0 6) σ11
def B_R_RangeTellerModel_readFunction_161 (K75 : Int32 → Int32 → rt_St → Option rt_St) (l1 : Int32) (l3 : Int32) (t0 : Int32) (σ : rt_St) : Option rt_St :=
  B_R_RangeTellerModel_readFunction_163 K75 l1 l3 t0 σ
def B_R_RangeTellerModel_readFunction_160 (K75 : Int32 → Int32 → rt_St → Option rt_St) (l1 : Int32) (l3 : Int32) (σ : rt_St) : Option rt_St :=
  B_R_RangeTellerModel_readFunction_161 K75 l1 l3 0 σ
def B_R_RangeTellerModel_readFunction_103 (K75 : Int32 → Int32 → rt_St → Option rt_St) (l1 : Int32) (l3 : Int32) (t0 : Int32) (σ : rt_St) : Option rt_St :=
  if l3 = 4 then
    if (σ 0 21) ≤ 0 then
      B_R_RangeTellerModel_readFunction_160 K75 l1 l3 σ
    else
      (rt_rd σ 15 101 ((σ 0 21) - 1)).bind fun v24 =>
      (rt_rd σ 2 100 v24).bind fun v25 =>
      if v25 = 3 then
        (rt_rd σ 15 101 ((σ 0 21) - 1)).bind fun v26 =>
        (rt_rd σ 6 100 v26).bind fun v27 =>
        if 0 ≤ v27 then
          B_R_RangeTellerModel_readFunction_160 K75 l1 l3 σ
        else
          B_R_RangeTellerModel_readFunction_161 K75 l1 l3 1 σ
      else
        B_R_RangeTellerModel_readFunction_160 K75 l1 l3 σ
  else
    B_R_RangeTellerModel_readFunction_163 K75 l1 l3 t0 σ
def B_R_RangeTellerModel_readFunction_75  : Nat → Int32 → Int32 → rt_St → Option rt_St
  | 0, _, _, _ => none
  | n + 1, l1, l2, σ =>
    if l2 = 0 then
      rt_b2 (M_R_RangeTellerModel_take σ) fun v7 σ6 =>
      if (σ6 0 3) = 0 then
        if 29 ≤ v7 then
          B_R_RangeTellerModel_readFunction_103 (B_R_RangeTellerModel_readFunction_75 n) l1 v7 0 σ6
        else
          B_R_RangeTellerModel_readFunction_103 (B_R_RangeTellerModel_readFunction_75 n) l1 v7 1 σ6
      else
        some σ6
    else
      some σ
def B_R_RangeTellerModel_readFunction_50  (l1 : Int32) (σ : rt_St) : Option rt_St :=
  if (σ 0 3) = 0 then
    (rt_wr σ 14 3 l1 (σ 0 6)).bind fun σ4 =>
    (rt_put σ4 0 21 0).bind fun σ5 =>
    B_R_RangeTellerModel_readFunction_75 FU l1 0 σ5
  else
    some σ
def B_R_RangeTellerModel_readFunction_31  (l1 : Int32) (σ : rt_St) : Option rt_St :=
  if (σ 0 3) = 0 then
    rt_b2 (M_R_RangeTellerModel_number σ 0 1) fun v29 σ28 =>
    (rt_wr σ28 13 3 l1 v29).bind fun σ30 =>
    B_R_RangeTellerModel_readFunction_50 l1 σ30
  else
    B_R_RangeTellerModel_readFunction_50 l1 σ
def M_R_RangeTellerModel_readFunction (σ : rt_St) (a1 : Int32) : Option rt_St :=
  rt_b2 (M_R_RangeTellerModel_number σ 0 2) fun v2 σ1 =>
  (rt_wr σ1 11 3 a1 v2).bind fun σ3 =>
  if (σ3 0 3) = 0 then
    rt_b2 (M_R_RangeTellerModel_number σ3 0 2) fun v32 σ31 =>
    (rt_wr σ31 12 3 a1 v32).bind fun σ33 =>
    B_R_RangeTellerModel_readFunction_31 a1 σ33
  else
    B_R_RangeTellerModel_readFunction_31 a1 σ3
def B_R_RangeTellerModel_read_76  (σ : rt_St) : Option (Int32 × rt_St) :=
  if (σ 0 3) = 0 then
    some (1, σ)
  else
    some (0, σ)
def B_R_RangeTellerModel_read_53  (σ : rt_St) : Option (Int32 × rt_St) :=
  if (σ 0 3) = 0 then
    if (σ 0 0) ≤ (σ 0 2) then
      B_R_RangeTellerModel_read_76 σ
    else
      (rt_put σ 0 3 1).bind fun σ7 =>
      B_R_RangeTellerModel_read_76 σ7
  else
    B_R_RangeTellerModel_read_76 σ
def B_R_RangeTellerModel_read_27  : Nat → Int32 → rt_St → Option (Int32 × rt_St)
  | 0, _, _ => none
  | n + 1, l1, σ =>
    if (σ 0 16) ≤ l1 then
      B_R_RangeTellerModel_read_53 σ
    else
      if (σ 0 3) = 0 then
        (M_R_RangeTellerModel_readFunction σ l1).bind fun σ8 =>
        (B_R_RangeTellerModel_read_27 n) (l1 + 1) σ8
      else
        B_R_RangeTellerModel_read_53 σ
def M_R_RangeTellerModel_read (σ : rt_St)  : Option (Int32 × rt_St) :=
  (rt_put σ 0 2 0).bind fun σ1 =>
  (rt_put σ1 0 3 0).bind fun σ2 =>
  (rt_put σ2 0 6 0).bind fun σ3 =>
  rt_b2 (M_R_RangeTellerModel_number σ3 1 3) fun v5 σ4 =>
  (rt_put σ4 0 16 v5).bind fun σ6 =>
  B_R_RangeTellerModel_read_27 FU 0 σ6
def B_R_RangeTellerModel_drop_64 (K4 : Int32 → Int32 → Int32 → rt_St → Option (Int32 × rt_St)) (l1 : Int32) (l2 : Int32) (l3 : Int32) (σ : rt_St) : Option (Int32 × rt_St) :=
  K4 l1 l2 (l3 + 1) σ
def B_R_RangeTellerModel_drop_63 (K4 : Int32 → Int32 → Int32 → rt_St → Option (Int32 × rt_St)) (l1 : Int32) (l3 : Int32) (t0 : Int32) (σ : rt_St) : Option (Int32 × rt_St) :=
  B_R_RangeTellerModel_drop_64 K4 l1 t0 l3 σ
def B_R_RangeTellerModel_drop_4  : Nat → Int32 → Int32 → Int32 → rt_St → Option (Int32 × rt_St)
  | 0, _, _, _, _ => none
  | n + 1, l1, l2, l3, σ =>
    if l1 ≤ l3 then
      (rt_zok l2).bind fun _ =>
      some (l2, σ)
    else
      if l2 = 0 then
        (rt_zok l2).bind fun _ =>
        some (l2, σ)
      else
        (rt_rd σ 16 101 ((σ 0 21) - 1)).bind fun v1 =>
        if (σ 0 26) ≤ v1 then
          (rt_rd σ 18 101 ((σ 0 21) - 1)).bind fun v2 =>
          if v2 = 0 then
            B_R_RangeTellerModel_drop_63 (B_R_RangeTellerModel_drop_4 n) l1 l3 1 σ
          else
            B_R_RangeTellerModel_drop_63 (B_R_RangeTellerModel_drop_4 n) l1 l3 0 σ
        else
          (rt_put σ 0 26 ((σ 0 26) - 1)).bind fun σ3 =>
          B_R_RangeTellerModel_drop_64 (B_R_RangeTellerModel_drop_4 n) l1 l2 l3 σ3
def M_R_RangeTellerModel_drop (σ : rt_St) (a1 : Int32) : Option (Int32 × rt_St) :=
  B_R_RangeTellerModel_drop_4 FU a1 1 0 σ
def M_R_RangeTellerModel_give (σ : rt_St) (a1 : Int32) : Option (Int32 × rt_St) :=
  (rt_put σ 0 26 ((σ 0 26) + a1)).bind fun σ1 =>
  if 10 < (σ1 0 26) then
    some (0, σ1)
  else
    some (1, σ1)
def M_R_RangeTellerModel_open (σ : rt_St) (a1 : Int32) (a2 : Int32) : Option rt_St :=
  (rt_wr σ 15 101 (σ 0 21) a1).bind fun σ1 =>
  (rt_wr σ1 16 101 (σ1 0 21) (σ1 0 26)).bind fun σ2 =>
  (rt_wr σ2 17 101 (σ2 0 21) a2).bind fun σ3 =>
  (rt_wr σ3 18 101 (σ3 0 21) 1).bind fun σ4 =>
  (rt_put σ4 0 21 ((σ4 0 21) + 1)).bind fun σ5 =>
  some σ5
def M_R_RangeTellerModel_deaden (σ : rt_St)  : Option (Int32 × rt_St) :=
  (rt_wr σ 18 101 ((σ 0 21) - 1) 0).bind fun σ1 =>
  (rt_rd σ1 16 101 ((σ1 0 21) - 1)).bind fun v2 =>
  (rt_put σ1 0 26 v2).bind fun σ3 =>
  some (1, σ3)
def B_R_RangeTellerModel_needs_86  (l1 : Int32) (t0 : Int32) (t1 : Int32) (σ : rt_St) : Option (Int32 × rt_St) :=
  (rt_wr σ 10 100 t1 t0).bind fun σ6 =>
  (rt_rd σ6 10 100 l1).bind fun v7 =>
  some (v7, σ6)
def B_R_RangeTellerModel_needs_44  (l1 : Int32) (l3 : Int32) (l4 : Int32) (t0 : Int32) (σ : rt_St) : Option (Int32 × rt_St) :=
  (rt_wr σ 8 100 l1 l4).bind fun σ2 =>
  (rt_rd σ2 16 101 l3).bind fun v3 =>
  (rt_wr σ2 9 100 l1 v3).bind fun σ4 =>
  if t0 = 0 then
    (rt_rd σ4 17 101 l3).bind fun v5 =>
    B_R_RangeTellerModel_needs_86 l1 v5 l1 σ4
  else
    B_R_RangeTellerModel_needs_86 l1 0 l1 σ4
def B_R_RangeTellerModel_needs_43  (l1 : Int32) (l3 : Int32) (l4 : Int32) (σ : rt_St) : Option (Int32 × rt_St) :=
  B_R_RangeTellerModel_needs_44 l1 l3 l4 0 σ
def M_R_RangeTellerModel_needs (σ : rt_St) (a1 : Int32) (a2 : Int32) : Option (Int32 × rt_St) :=
  if 0 ≤ (((σ 0 21) - 1) - a2) then
    (rt_rd σ 15 101 (((σ 0 21) - 1) - a2)).bind fun v1 =>
    if v1 < 0 then
      B_R_RangeTellerModel_needs_43 a1 (((σ 0 21) - 1) - a2) v1 σ
    else
      (rt_rd σ 2 100 v1).bind fun v8 =>
      if v8 = 2 then
        B_R_RangeTellerModel_needs_44 a1 (((σ 0 21) - 1) - a2) v1 1 σ
      else
        B_R_RangeTellerModel_needs_43 a1 (((σ 0 21) - 1) - a2) v1 σ
  else
    some ((-1), σ)
def B_R_RangeTellerModel_checkEnd_77  (l4 : Int32) (σ : rt_St) : Option (Int32 × rt_St) :=
  (rt_put σ 0 21 ((σ 0 21) - 1)).bind fun σ6 =>
  if (σ6 0 21) = 0 then
    some (1, σ6)
  else
    rt_b2 (M_R_RangeTellerModel_give σ6 l4) fun v8 σ7 =>
    if v8 = 0 then
      some (0, σ7)
    else
      some (1, σ7)
def M_R_RangeTellerModel_checkEnd (σ : rt_St) (a1 : Int32) : Option (Int32 × rt_St) :=
  (rt_rd σ 15 101 ((σ 0 21) - 1)).bind fun v1 =>
  (rt_rd σ 17 101 ((σ 0 21) - 1)).bind fun v2 =>
  rt_b2 (M_R_RangeTellerModel_drop σ v2) fun v4 σ3 =>
  if v4 = 0 then
    some (0, σ3)
  else
    (rt_rd σ3 16 101 ((σ 0 21) - 1)).bind fun v5 =>
    if (σ3 0 26) = v5 then
      if v1 < 0 then
        B_R_RangeTellerModel_checkEnd_77 v2 σ3
      else
        (rt_rd σ3 2 100 v1).bind fun v9 =>
        if v9 = 3 then
          if v2 = 1 then
            (rt_rd σ3 6 100 v1).bind fun v10 =>
            if 0 ≤ v10 then
              B_R_RangeTellerModel_checkEnd_77 v2 σ3
            else
              some (0, σ3)
          else
            B_R_RangeTellerModel_checkEnd_77 v2 σ3
        else
          B_R_RangeTellerModel_checkEnd_77 v2 σ3
    else
      some (0, σ3)
def M_R_RangeTellerModel_checkFlow (σ : rt_St) (a1 : Int32) : Option (Int32 × rt_St) :=
  (rt_rd σ 3 100 a1).bind fun v1 =>
  (rt_rd σ 4 100 a1).bind fun v2 =>
  (rt_rd σ 2 100 a1).bind fun v3 =>
  if v3 = 0 then
    rt_b2 (M_R_RangeTellerModel_deaden σ) fun v46 σ45 =>
    (rt_zok v46).bind fun _ =>
    some (v46, σ45)
  else
  if v3 = 1 then
    (M_R_RangeTellerModel_open σ a1 v1).bind fun σ44 =>
    some (1, σ44)
  else
  if v3 = 2 then
    (M_R_RangeTellerModel_open σ a1 v1).bind fun σ43 =>
    some (1, σ43)
  else
  if v3 = 3 then
    rt_b2 (M_R_RangeTellerModel_drop σ 1) fun v41 σ40 =>
    if v41 = 0 then
      some (0, σ40)
    else
      (M_R_RangeTellerModel_open σ40 a1 v1).bind fun σ42 =>
      some (1, σ42)
  else
  if v3 = 4 then
    (rt_rd σ 17 101 ((σ 0 21) - 1)).bind fun v35 =>
    rt_b2 (M_R_RangeTellerModel_drop σ v35) fun v37 σ36 =>
    if v37 = 0 then
      some (0, σ36)
    else
      (rt_rd σ36 16 101 ((σ36 0 21) - 1)).bind fun v38 =>
      if (σ36 0 26) = v38 then
        (rt_wr σ36 18 101 ((σ36 0 21) - 1) 1).bind fun σ39 =>
        some (1, σ39)
      else
        some (0, σ36)
  else
  if v3 = 5 then
    rt_b2 (M_R_RangeTellerModel_checkEnd σ a1) fun v34 σ33 =>
    (rt_zok v34).bind fun _ =>
    some (v34, σ33)
  else
  if v3 = 6 then
    rt_b2 (M_R_RangeTellerModel_needs σ a1 v1) fun v28 σ27 =>
    if v28 < 0 then
      some (0, σ27)
    else
      rt_b2 (M_R_RangeTellerModel_drop σ27 v28) fun v30 σ29 =>
      if v30 = 0 then
        some (0, σ29)
      else
        rt_b2 (M_R_RangeTellerModel_deaden σ29) fun v32 σ31 =>
        if v32 = 0 then
          some (0, σ31)
        else
          some (1, σ31)
  else
  if v3 = 7 then
    rt_b2 (M_R_RangeTellerModel_drop σ 1) fun v20 σ19 =>
    rt_b2 (M_R_RangeTellerModel_needs σ19 a1 v1) fun v22 σ21 =>
    if v20 = 0 then
      some (0, σ21)
    else
      if v22 < 0 then
        some (0, σ21)
      else
        rt_b2 (M_R_RangeTellerModel_drop σ21 v22) fun v24 σ23 =>
        if v24 = 0 then
          some (0, σ23)
        else
          rt_b2 (M_R_RangeTellerModel_give σ23 v22) fun v26 σ25 =>
          if v26 = 0 then
            some (0, σ25)
          else
            some (1, σ25)
  else
  if v3 = 8 then
    (rt_wr σ 8 100 a1 (-1)).bind fun σ10 =>
    (rt_wr σ10 9 100 a1 0).bind fun σ11 =>
    (rt_rd σ11 13 3 v2).bind fun v12 =>
    (rt_wr σ11 10 100 a1 v12).bind fun σ13 =>
    (rt_rd σ13 13 3 v2).bind fun v14 =>
    rt_b2 (M_R_RangeTellerModel_drop σ13 v14) fun v16 σ15 =>
    if v16 = 0 then
      some (0, σ15)
    else
      rt_b2 (M_R_RangeTellerModel_deaden σ15) fun v18 σ17 =>
      if v18 = 0 then
        some (0, σ17)
      else
        some (1, σ17)
  else
  if (σ 0 16) ≤ v1 then
    some (0, σ)
  else
    (rt_rd σ 11 3 v1).bind fun v4 =>
    rt_b2 (M_R_RangeTellerModel_drop σ v4) fun v6 σ5 =>
    if v6 = 0 then
      some (0, σ5)
    else
      (rt_rd σ5 13 3 v1).bind fun v7 =>
      rt_b2 (M_R_RangeTellerModel_give σ5 v7) fun v9 σ8 =>
      if v9 = 0 then
        some (0, σ8)
      else
        some (1, σ8)
def B_R_RangeTellerModel_takes_28  (l0 : Int32) : Option Int32 :=
  if l0 = 10 then
    some 1
  else
    if l0 = 13 then
      some 1
    else
      if l0 = 14 then
        some 1
      else
        if l0 = 15 then
          some 1
        else
          if l0 = 18 then
            some 1
          else
            if l0 = 28 then
              some 1
            else
              some 0
def M_R_RangeTellerModel_takes (a0 : Int32) : Option Int32 :=
  if a0 = 11 then
    some 3
  else
    if a0 = 16 then
      some 2
    else
      if a0 ≤ 18 then
        B_R_RangeTellerModel_takes_28 a0
      else
        if 27 ≤ a0 then
          B_R_RangeTellerModel_takes_28 a0
        else
          some 2
def B_R_RangeTellerModel_checkOne_116  (t0 : Int32) (σ : rt_St) : Option (Int32 × rt_St) :=
  rt_b2 (M_R_RangeTellerModel_give σ t0) fun v6 σ5 =>
  if v6 = 0 then
    some (0, σ5)
  else
    some (1, σ5)
def B_R_RangeTellerModel_checkOne_94  (l2 : Int32) (t0 : Int32) (σ : rt_St) : Option (Int32 × rt_St) :=
  (M_R_RangeTellerModel_takes l2).bind fun v2 =>
  rt_b2 (M_R_RangeTellerModel_drop σ v2) fun v4 σ3 =>
  if v4 = 0 then
    some (0, σ3)
  else
    if t0 = 0 then
      B_R_RangeTellerModel_checkOne_116 0 σ3
    else
      B_R_RangeTellerModel_checkOne_116 1 σ3
def B_R_RangeTellerModel_checkOne_93  (l2 : Int32) (σ : rt_St) : Option (Int32 × rt_St) :=
  B_R_RangeTellerModel_checkOne_94 l2 0 σ
def B_R_RangeTellerModel_checkOne_65  (l2 : Int32) (σ : rt_St) : Option (Int32 × rt_St) :=
  if l2 = 10 then
    B_R_RangeTellerModel_checkOne_93 l2 σ
  else
    if l2 = 13 then
      B_R_RangeTellerModel_checkOne_93 l2 σ
    else
      if l2 = 16 then
        B_R_RangeTellerModel_checkOne_93 l2 σ
      else
        if l2 = 28 then
          B_R_RangeTellerModel_checkOne_93 l2 σ
        else
          B_R_RangeTellerModel_checkOne_94 l2 1 σ
def M_R_RangeTellerModel_checkOne (σ : rt_St) (a1 : Int32) : Option (Int32 × rt_St) :=
  (rt_rd σ 2 100 a1).bind fun v1 =>
  if 10 ≤ v1 then
    if v1 ≤ 11 then
      B_R_RangeTellerModel_checkOne_65 v1 σ
    else
      if 15 ≤ v1 then
        B_R_RangeTellerModel_checkOne_65 v1 σ
      else
        (rt_rd σ 3 100 a1).bind fun v7 =>
        (rt_rd σ 4 100 a1).bind fun v8 =>
        (rt_rd σ 11 3 v8).bind fun v9 =>
        (rt_rd σ 4 100 a1).bind fun v10 =>
        (rt_rd σ 12 3 v10).bind fun v11 =>
        if v7 < (v9 + v11) then
          B_R_RangeTellerModel_checkOne_65 v1 σ
        else
          some (0, σ)
  else
    rt_b2 (M_R_RangeTellerModel_checkFlow σ a1) fun v13 σ12 =>
    (rt_zok v13).bind fun _ =>
    some (v13, σ12)
def B_R_RangeTellerModel_check_51 (K2 : Int32 → rt_St → Option (Int32 × rt_St)) (l1 : Int32) (σ : rt_St) : Option (Int32 × rt_St) :=
  (rt_wr σ 7 101 l1 (σ 0 26)).bind fun σ3 =>
  rt_b2 (M_R_RangeTellerModel_checkOne σ3 l1) fun v5 σ4 =>
  if v5 = 0 then
    (rt_put σ4 0 5 l1).bind fun σ6 =>
    some (0, σ6)
  else
    K2 (l1 + 1) σ4
def B_R_RangeTellerModel_check_2  : Nat → Int32 → rt_St → Option (Int32 × rt_St)
  | 0, _, _ => none
  | n + 1, l1, σ =>
    if (σ 0 6) ≤ l1 then
      some (1, σ)
    else
      (rt_rd σ 4 100 l1).bind fun v1 =>
      (rt_rd σ 14 3 v1).bind fun v2 =>
      if l1 = v2 then
        (rt_put σ 0 21 0).bind fun σ7 =>
        (rt_put σ7 0 26 0).bind fun σ8 =>
        (rt_rd σ8 4 100 l1).bind fun v9 =>
        (rt_rd σ8 13 3 v9).bind fun v10 =>
        (M_R_RangeTellerModel_open σ8 (-1) v10).bind fun σ11 =>
        B_R_RangeTellerModel_check_51 (B_R_RangeTellerModel_check_2 n) l1 σ11
      else
        B_R_RangeTellerModel_check_51 (B_R_RangeTellerModel_check_2 n) l1 σ
def M_R_RangeTellerModel_check (σ : rt_St)  : Option (Int32 × rt_St) :=
  B_R_RangeTellerModel_check_2 FU 0 σ
def B_R_RangeTellerModel_clear_65  : Nat → Int32 → rt_St → Option rt_St
  | 0, _, _ => none
  | n + 1, l1, σ =>
    if 3 ≤ l1 then
      some σ
    else
      (rt_wr σ 37 3 l1 1).bind fun σ1 =>
      (rt_wr σ1 38 3 l1 0).bind fun σ2 =>
      (rt_wr σ2 39 3 l1 0).bind fun σ3 =>
      (rt_wr σ3 40 3 l1 0).bind fun σ4 =>
      (B_R_RangeTellerModel_clear_65 n) (l1 + 1) σ4
def B_R_RangeTellerModel_clear_30  : Nat → Int32 → rt_St → Option rt_St
  | 0, _, _ => none
  | n + 1, l1, σ =>
    if 16 ≤ l1 then
      B_R_RangeTellerModel_clear_65 FU 0 σ
    else
      (rt_wr σ 34 16 l1 0).bind fun σ5 =>
      (rt_wr σ5 35 16 l1 0).bind fun σ6 =>
      (rt_wr σ6 36 16 l1 0).bind fun σ7 =>
      (B_R_RangeTellerModel_clear_30 n) (l1 + 1) σ7
def B_R_RangeTellerModel_clear_2  : Nat → Int32 → rt_St → Option rt_St
  | 0, _, _ => none
  | n + 1, l1, σ =>
    if 101 ≤ l1 then
      B_R_RangeTellerModel_clear_30 FU 0 σ
    else
      (rt_wr σ 26 101 l1 0).bind fun σ8 =>
      (rt_wr σ8 27 101 l1 0).bind fun σ9 =>
      (B_R_RangeTellerModel_clear_2 n) (l1 + 1) σ9
def M_R_RangeTellerModel_clear (σ : rt_St)  : Option rt_St :=
  B_R_RangeTellerModel_clear_2 FU 0 σ
def B_R_RangeTellerModel_pass_511  (l2 : Int32) (t0 : Int32) (t1 : Int32) (σ : rt_St) : Option rt_St :=
  (rt_wr σ 27 101 t1 (vp_nar .boolean t0)).bind fun σ5 =>
  if (σ5 0 58) = 0 then
    if l2 = 0 then
      (rt_put σ5 0 58 0).bind fun σ7 =>
      some σ7
    else
      (rt_put σ5 0 58 1).bind fun σ8 =>
      some σ8
  else
    (rt_put σ5 0 58 1).bind fun σ6 =>
    some σ6
def B_R_RangeTellerModel_pass_506  (l2 : Int32) (t0 : Int32) (σ : rt_St) : Option rt_St :=
  B_R_RangeTellerModel_pass_511 l2 1 t0 σ
def B_R_RangeTellerModel_pass_474 (K255 : Int32 → Int32 → Int32 → rt_St → Option rt_St) (l1 : Int32) (l2 : Int32) (l4 : Int32) (t0 : Int32) (t1 : Int32) (σ : rt_St) : Option rt_St :=
  (rt_wr σ 33 400 t1 (vp_nar .boolean t0)).bind fun σ18 =>
  K255 l1 l2 (l4 + 1) σ18
def B_R_RangeTellerModel_pass_469 (K255 : Int32 → Int32 → Int32 → rt_St → Option rt_St) (l1 : Int32) (l2 : Int32) (l4 : Int32) (t0 : Int32) (σ : rt_St) : Option rt_St :=
  B_R_RangeTellerModel_pass_474 K255 l1 l2 l4 1 t0 σ
def B_R_RangeTellerModel_pass_459 (K255 : Int32 → Int32 → Int32 → rt_St → Option rt_St) (l1 : Int32) (l2 : Int32) (l4 : Int32) (t0 : Int32) (σ : rt_St) : Option rt_St :=
  (rt_rd σ 46 4 l4).bind fun v17 =>
  if v17 = 0 then
    B_R_RangeTellerModel_pass_474 K255 l1 l2 l4 0 t0 σ
  else
    B_R_RangeTellerModel_pass_469 K255 l1 l2 l4 t0 σ
def B_R_RangeTellerModel_pass_433 (K255 : Int32 → Int32 → Int32 → rt_St → Option rt_St) (l1 : Int32) (l2 : Int32) (l4 : Int32) (l5 : Int32) (t0 : Int32) (t1 : Int32) (σ : rt_St) : Option rt_St :=
  (rt_wr σ 32 400 t1 t0).bind fun σ15 =>
  (rt_rd σ15 26 101 l1).bind fun v16 =>
  if v16 = 0 then
    B_R_RangeTellerModel_pass_459 K255 l1 l2 l4 l5 σ15
  else
    (rt_rd σ15 33 400 l5).bind fun v19 =>
    if v19 = 0 then
      B_R_RangeTellerModel_pass_459 K255 l1 l2 l4 l5 σ15
    else
      B_R_RangeTellerModel_pass_469 K255 l1 l2 l4 l5 σ15
def B_R_RangeTellerModel_pass_426 (K255 : Int32 → Int32 → Int32 → rt_St → Option rt_St) (l1 : Int32) (l2 : Int32) (l4 : Int32) (l5 : Int32) (t0 : Int32) (σ : rt_St) : Option rt_St :=
  (rt_rd σ 45 4 l4).bind fun v14 =>
  B_R_RangeTellerModel_pass_433 K255 l1 l2 l4 l5 v14 t0 σ
def B_R_RangeTellerModel_pass_383 (K255 : Int32 → Int32 → Int32 → rt_St → Option rt_St) (l1 : Int32) (l2 : Int32) (l4 : Int32) (l5 : Int32) (t0 : Int32) (t1 : Int32) (σ : rt_St) : Option rt_St :=
  (rt_wr σ 31 400 t1 t0).bind fun σ12 =>
  (rt_rd σ12 26 101 l1).bind fun v13 =>
  if v13 = 0 then
    B_R_RangeTellerModel_pass_426 K255 l1 l2 l4 l5 l5 σ12
  else
    (rt_rd σ12 32 400 l5).bind fun v20 =>
    (rt_rd σ12 45 4 l4).bind fun v21 =>
    if v20 ≤ v21 then
      B_R_RangeTellerModel_pass_426 K255 l1 l2 l4 l5 l5 σ12
    else
      (rt_rd σ12 32 400 l5).bind fun v22 =>
      B_R_RangeTellerModel_pass_433 K255 l1 l2 l4 l5 v22 l5 σ12
def B_R_RangeTellerModel_pass_376 (K255 : Int32 → Int32 → Int32 → rt_St → Option rt_St) (l1 : Int32) (l2 : Int32) (l4 : Int32) (l5 : Int32) (t0 : Int32) (σ : rt_St) : Option rt_St :=
  (rt_rd σ 44 4 l4).bind fun v11 =>
  B_R_RangeTellerModel_pass_383 K255 l1 l2 l4 l5 v11 t0 σ
def B_R_RangeTellerModel_pass_334 (K255 : Int32 → Int32 → Int32 → rt_St → Option rt_St) (l1 : Int32) (l2 : Int32) (l4 : Int32) (l5 : Int32) (σ : rt_St) : Option rt_St :=
  (rt_rd σ 26 101 l1).bind fun v10 =>
  if v10 = 0 then
    B_R_RangeTellerModel_pass_376 K255 l1 l2 l4 l5 l5 σ
  else
    (rt_rd σ 31 400 l5).bind fun v23 =>
    (rt_rd σ 44 4 l4).bind fun v24 =>
    if v24 ≤ v23 then
      B_R_RangeTellerModel_pass_376 K255 l1 l2 l4 l5 l5 σ
    else
      (rt_rd σ 31 400 l5).bind fun v25 =>
      B_R_RangeTellerModel_pass_383 K255 l1 l2 l4 l5 v25 l5 σ
def B_R_RangeTellerModel_pass_332 (K255 : Int32 → Int32 → Int32 → rt_St → Option rt_St) (l1 : Int32) (l4 : Int32) (l5 : Int32) (σ : rt_St) : Option rt_St :=
  B_R_RangeTellerModel_pass_334 K255 l1 1 l4 l5 σ
def B_R_RangeTellerModel_pass_255  : Nat → Int32 → Int32 → Int32 → rt_St → Option rt_St
  | 0, _, _, _, _ => none
  | n + 1, l1, l2, l4, σ =>
    if 4 ≤ l4 then
      (rt_wr σ 26 101 l1 1).bind fun σ3 =>
      (rt_rd σ3 27 101 l1).bind fun v4 =>
      if v4 = 0 then
        if l2 = 0 then
          B_R_RangeTellerModel_pass_511 l2 0 l1 σ3
        else
          B_R_RangeTellerModel_pass_506 l2 l1 σ3
      else
        B_R_RangeTellerModel_pass_506 l2 l1 σ3
    else
      (rt_rd σ 26 101 l1).bind fun v9 =>
      if v9 = 0 then
        B_R_RangeTellerModel_pass_332 (B_R_RangeTellerModel_pass_255 n) l1 l4 ((4 * l1) + l4) σ
      else
        (rt_rd σ 44 4 l4).bind fun v26 =>
        (rt_rd σ 31 400 ((4 * l1) + l4)).bind fun v27 =>
        if v26 < v27 then
          B_R_RangeTellerModel_pass_332 (B_R_RangeTellerModel_pass_255 n) l1 l4 ((4 * l1) + l4) σ
        else
          (rt_rd σ 45 4 l4).bind fun v28 =>
          (rt_rd σ 32 400 ((4 * l1) + l4)).bind fun v29 =>
          if v29 < v28 then
            B_R_RangeTellerModel_pass_332 (B_R_RangeTellerModel_pass_255 n) l1 l4 ((4 * l1) + l4) σ
          else
            (rt_rd σ 46 4 l4).bind fun v30 =>
            if v30 = 0 then
              B_R_RangeTellerModel_pass_334 (B_R_RangeTellerModel_pass_255 n) l1 l2 l4 ((4 * l1) + l4) σ
            else
              (rt_rd σ 33 400 ((4 * l1) + l4)).bind fun v31 =>
              if v31 = 0 then
                B_R_RangeTellerModel_pass_332 (B_R_RangeTellerModel_pass_255 n) l1 l4 ((4 * l1) + l4) σ
              else
                B_R_RangeTellerModel_pass_334 (B_R_RangeTellerModel_pass_255 n) l1 l2 l4 ((4 * l1) + l4) σ
def B_R_RangeTellerModel_pass_245 (K25 : Int32 → Int32 → Int32 → Int32 → rt_St → Option rt_St) (l1 : Int32) (l2 : Int32) (l3 : Int32) (l4 : Int32) (t0 : Int32) (t1 : Int32) (σ : rt_St) : Option rt_St :=
  (rt_wr σ 30 1000 t1 (vp_nar .boolean t0)).bind fun σ41 =>
  K25 l1 l2 l3 (l4 + 1) σ41
def B_R_RangeTellerModel_pass_240 (K25 : Int32 → Int32 → Int32 → Int32 → rt_St → Option rt_St) (l1 : Int32) (l2 : Int32) (l3 : Int32) (l4 : Int32) (t0 : Int32) (σ : rt_St) : Option rt_St :=
  B_R_RangeTellerModel_pass_245 K25 l1 l2 l3 l4 1 t0 σ
def B_R_RangeTellerModel_pass_230 (K25 : Int32 → Int32 → Int32 → Int32 → rt_St → Option rt_St) (l1 : Int32) (l2 : Int32) (l3 : Int32) (l4 : Int32) (t0 : Int32) (σ : rt_St) : Option rt_St :=
  (rt_rd σ 43 12 l4).bind fun v40 =>
  if v40 = 0 then
    B_R_RangeTellerModel_pass_245 K25 l1 l2 l3 l4 0 t0 σ
  else
    B_R_RangeTellerModel_pass_240 K25 l1 l2 l3 l4 t0 σ
def B_R_RangeTellerModel_pass_204 (K25 : Int32 → Int32 → Int32 → Int32 → rt_St → Option rt_St) (l1 : Int32) (l2 : Int32) (l3 : Int32) (l4 : Int32) (l5 : Int32) (t0 : Int32) (t1 : Int32) (σ : rt_St) : Option rt_St :=
  (rt_wr σ 29 1000 t1 t0).bind fun σ38 =>
  (rt_rd σ38 26 101 l1).bind fun v39 =>
  if v39 = 0 then
    B_R_RangeTellerModel_pass_230 K25 l1 l2 l3 l4 l5 σ38
  else
    (rt_rd σ38 30 1000 l5).bind fun v42 =>
    if v42 = 0 then
      B_R_RangeTellerModel_pass_230 K25 l1 l2 l3 l4 l5 σ38
    else
      B_R_RangeTellerModel_pass_240 K25 l1 l2 l3 l4 l5 σ38
def B_R_RangeTellerModel_pass_197 (K25 : Int32 → Int32 → Int32 → Int32 → rt_St → Option rt_St) (l1 : Int32) (l2 : Int32) (l3 : Int32) (l4 : Int32) (l5 : Int32) (t0 : Int32) (σ : rt_St) : Option rt_St :=
  (rt_rd σ 42 12 l4).bind fun v37 =>
  B_R_RangeTellerModel_pass_204 K25 l1 l2 l3 l4 l5 v37 t0 σ
def B_R_RangeTellerModel_pass_154 (K25 : Int32 → Int32 → Int32 → Int32 → rt_St → Option rt_St) (l1 : Int32) (l2 : Int32) (l3 : Int32) (l4 : Int32) (l5 : Int32) (t0 : Int32) (t1 : Int32) (σ : rt_St) : Option rt_St :=
  (rt_wr σ 28 1000 t1 t0).bind fun σ35 =>
  (rt_rd σ35 26 101 l1).bind fun v36 =>
  if v36 = 0 then
    B_R_RangeTellerModel_pass_197 K25 l1 l2 l3 l4 l5 l5 σ35
  else
    (rt_rd σ35 29 1000 l5).bind fun v43 =>
    (rt_rd σ35 42 12 l4).bind fun v44 =>
    if v43 ≤ v44 then
      B_R_RangeTellerModel_pass_197 K25 l1 l2 l3 l4 l5 l5 σ35
    else
      (rt_rd σ35 29 1000 l5).bind fun v45 =>
      B_R_RangeTellerModel_pass_204 K25 l1 l2 l3 l4 l5 v45 l5 σ35
def B_R_RangeTellerModel_pass_147 (K25 : Int32 → Int32 → Int32 → Int32 → rt_St → Option rt_St) (l1 : Int32) (l2 : Int32) (l3 : Int32) (l4 : Int32) (l5 : Int32) (t0 : Int32) (σ : rt_St) : Option rt_St :=
  (rt_rd σ 41 12 l4).bind fun v34 =>
  B_R_RangeTellerModel_pass_154 K25 l1 l2 l3 l4 l5 v34 t0 σ
def B_R_RangeTellerModel_pass_105 (K25 : Int32 → Int32 → Int32 → Int32 → rt_St → Option rt_St) (l1 : Int32) (l2 : Int32) (l3 : Int32) (l4 : Int32) (l5 : Int32) (σ : rt_St) : Option rt_St :=
  (rt_rd σ 26 101 l1).bind fun v33 =>
  if v33 = 0 then
    B_R_RangeTellerModel_pass_147 K25 l1 l2 l3 l4 l5 l5 σ
  else
    (rt_rd σ 28 1000 l5).bind fun v46 =>
    (rt_rd σ 41 12 l4).bind fun v47 =>
    if v47 ≤ v46 then
      B_R_RangeTellerModel_pass_147 K25 l1 l2 l3 l4 l5 l5 σ
    else
      (rt_rd σ 28 1000 l5).bind fun v48 =>
      B_R_RangeTellerModel_pass_154 K25 l1 l2 l3 l4 l5 v48 l5 σ
def B_R_RangeTellerModel_pass_103 (K25 : Int32 → Int32 → Int32 → Int32 → rt_St → Option rt_St) (l1 : Int32) (l3 : Int32) (l4 : Int32) (l5 : Int32) (σ : rt_St) : Option rt_St :=
  B_R_RangeTellerModel_pass_105 K25 l1 1 l3 l4 l5 σ
def B_R_RangeTellerModel_pass_25  : Nat → Int32 → Int32 → Int32 → Int32 → rt_St → Option rt_St
  | 0, _, _, _, _, _ => none
  | n + 1, l1, l2, l3, l4, σ =>
    if l3 ≤ l4 then
      B_R_RangeTellerModel_pass_255 FU l1 l2 0 σ
    else
      (rt_rd σ 26 101 l1).bind fun v32 =>
      if v32 = 0 then
        B_R_RangeTellerModel_pass_103 (B_R_RangeTellerModel_pass_25 n) l1 l3 l4 ((10 * l1) + l4) σ
      else
        (rt_rd σ 41 12 l4).bind fun v49 =>
        (rt_rd σ 28 1000 ((10 * l1) + l4)).bind fun v50 =>
        if v49 < v50 then
          B_R_RangeTellerModel_pass_103 (B_R_RangeTellerModel_pass_25 n) l1 l3 l4 ((10 * l1) + l4) σ
        else
          (rt_rd σ 42 12 l4).bind fun v51 =>
          (rt_rd σ 29 1000 ((10 * l1) + l4)).bind fun v52 =>
          if v52 < v51 then
            B_R_RangeTellerModel_pass_103 (B_R_RangeTellerModel_pass_25 n) l1 l3 l4 ((10 * l1) + l4) σ
          else
            (rt_rd σ 43 12 l4).bind fun v53 =>
            if v53 = 0 then
              B_R_RangeTellerModel_pass_105 (B_R_RangeTellerModel_pass_25 n) l1 l2 l3 l4 ((10 * l1) + l4) σ
            else
              (rt_rd σ 30 1000 ((10 * l1) + l4)).bind fun v54 =>
              if v54 = 0 then
                B_R_RangeTellerModel_pass_103 (B_R_RangeTellerModel_pass_25 n) l1 l3 l4 ((10 * l1) + l4) σ
              else
                B_R_RangeTellerModel_pass_105 (B_R_RangeTellerModel_pass_25 n) l1 l2 l3 l4 ((10 * l1) + l4) σ
def B_R_RangeTellerModel_pass_14  (l1 : Int32) (t0 : Int32) (σ : rt_St) : Option rt_St :=
  (rt_rd σ 7 101 l1).bind fun v2 =>
  B_R_RangeTellerModel_pass_25 FU l1 t0 v2 0 σ
def M_R_RangeTellerModel_pass (σ : rt_St) (a1 : Int32) : Option rt_St :=
  (rt_rd σ 26 101 a1).bind fun v1 =>
  if v1 = 0 then
    B_R_RangeTellerModel_pass_14 a1 1 σ
  else
    B_R_RangeTellerModel_pass_14 a1 0 σ
def B_R_RangeTellerModel_bring_79  : Nat → Int32 → Int32 → rt_St → Option rt_St
  | 0, _, _, _ => none
  | n + 1, l1, l2, σ =>
    if 4 ≤ l2 then
      some σ
    else
      (rt_rd σ 31 400 ((4 * l1) + l2)).bind fun v3 =>
      (rt_wr σ 44 4 l2 v3).bind fun σ4 =>
      (rt_rd σ4 32 400 ((4 * l1) + l2)).bind fun v5 =>
      (rt_wr σ4 45 4 l2 v5).bind fun σ6 =>
      (rt_rd σ6 33 400 ((4 * l1) + l2)).bind fun v7 =>
      (rt_wr σ6 46 4 l2 (vp_nar .boolean v7)).bind fun σ8 =>
      (B_R_RangeTellerModel_bring_79 n) l1 (l2 + 1) σ8
def B_R_RangeTellerModel_bring_12  : Nat → Int32 → Int32 → rt_St → Option rt_St
  | 0, _, _, _ => none
  | n + 1, l1, l2, σ =>
    if (σ 0 59) ≤ l2 then
      B_R_RangeTellerModel_bring_79 FU l1 0 σ
    else
      (rt_rd σ 28 1000 ((10 * l1) + l2)).bind fun v9 =>
      (rt_wr σ 41 12 l2 v9).bind fun σ10 =>
      (rt_rd σ10 29 1000 ((10 * l1) + l2)).bind fun v11 =>
      (rt_wr σ10 42 12 l2 v11).bind fun σ12 =>
      (rt_rd σ12 30 1000 ((10 * l1) + l2)).bind fun v13 =>
      (rt_wr σ12 43 12 l2 (vp_nar .boolean v13)).bind fun σ14 =>
      (B_R_RangeTellerModel_bring_12 n) l1 (l2 + 1) σ14
def M_R_RangeTellerModel_bring (σ : rt_St) (a1 : Int32) : Option rt_St :=
  (rt_rd σ 7 101 a1).bind fun v1 =>
  (rt_put σ 0 59 v1).bind fun σ2 =>
  B_R_RangeTellerModel_bring_12 FU a1 0 σ2
def M_R_RangeTellerModel_set (σ : rt_St) (a1 : Int32) (a2 : Int32) (a3 : Int32) (a4 : Int32) : Option rt_St :=
  (rt_wr σ 41 12 a1 a2).bind fun σ1 =>
  (rt_wr σ1 42 12 a1 a3).bind fun σ2 =>
  (rt_wr σ2 43 12 a1 (vp_nar .boolean a4)).bind fun σ3 =>
  some σ3
def B_R_RangeTellerModel_wake_50 (K2 : Int32 → Int32 → Int32 → rt_St → Option rt_St) (l1 : Int32) (l2 : Int32) (l3 : Int32) (σ : rt_St) : Option rt_St :=
  K2 l1 l2 (l3 + 1) σ
def B_R_RangeTellerModel_wake_43 (K2 : Int32 → Int32 → Int32 → rt_St → Option rt_St) (l1 : Int32) (l2 : Int32) (l3 : Int32) (σ : rt_St) : Option rt_St :=
  (rt_wr σ 27 101 l3 1).bind fun σ4 =>
  B_R_RangeTellerModel_wake_50 K2 l1 l2 l3 σ4
def B_R_RangeTellerModel_wake_2  : Nat → Int32 → Int32 → Int32 → rt_St → Option rt_St
  | 0, _, _, _, _ => none
  | n + 1, l1, l2, l3, σ =>
    if (σ 0 6) ≤ l3 then
      (rt_put σ 0 58 1).bind fun σ1 =>
      some σ1
    else
      (rt_rd σ 26 101 l3).bind fun v2 =>
      if v2 = 0 then
        B_R_RangeTellerModel_wake_50 (B_R_RangeTellerModel_wake_2 n) l1 l2 l3 σ
      else
        (rt_rd σ 2 100 l3).bind fun v3 =>
        if v3 = l1 then
          if l2 < 0 then
            B_R_RangeTellerModel_wake_43 (B_R_RangeTellerModel_wake_2 n) l1 l2 l3 σ
          else
            (rt_rd σ 3 100 l3).bind fun v5 =>
            if v5 = l2 then
              B_R_RangeTellerModel_wake_43 (B_R_RangeTellerModel_wake_2 n) l1 l2 l3 σ
            else
              B_R_RangeTellerModel_wake_50 (B_R_RangeTellerModel_wake_2 n) l1 l2 l3 σ
        else
          B_R_RangeTellerModel_wake_50 (B_R_RangeTellerModel_wake_2 n) l1 l2 l3 σ
def M_R_RangeTellerModel_wake (σ : rt_St) (a1 : Int32) (a2 : Int32) : Option rt_St :=
  B_R_RangeTellerModel_wake_2 FU a1 a2 0 σ
def B_R_RangeTellerModel_ending_246  (l2 : Int32) (l3 : Int32) (σ : rt_St) : Option rt_St :=
  if l3 = 0 then
    some σ
  else
    (M_R_RangeTellerModel_wake σ 9 l2).bind fun σ5 =>
    some σ5
def B_R_RangeTellerModel_ending_245  (l2 : Int32) (l3 : Int32) (t0 : Int32) (t1 : Int32) (σ : rt_St) : Option rt_St :=
  (rt_wr σ 39 3 t1 (vp_nar .boolean t0)).bind fun σ13 =>
  B_R_RangeTellerModel_ending_246 l2 l3 σ13
def B_R_RangeTellerModel_ending_240  (l2 : Int32) (l3 : Int32) (t0 : Int32) (σ : rt_St) : Option rt_St :=
  B_R_RangeTellerModel_ending_245 l2 l3 1 t0 σ
def B_R_RangeTellerModel_ending_215  (l2 : Int32) (l3 : Int32) (l4 : Int32) (t0 : Int32) (t1 : Int32) (σ : rt_St) : Option rt_St :=
  (rt_wr σ 38 3 t1 t0).bind fun σ11 =>
  (rt_rd σ11 39 3 l2).bind fun v12 =>
  if v12 = 0 then
    (rt_rd σ11 43 12 l4).bind fun v14 =>
    if v14 = 0 then
      B_R_RangeTellerModel_ending_245 l2 l3 0 l2 σ11
    else
      B_R_RangeTellerModel_ending_240 l2 l3 l2 σ11
  else
    B_R_RangeTellerModel_ending_240 l2 l3 l2 σ11
def B_R_RangeTellerModel_ending_199  (l2 : Int32) (l3 : Int32) (l4 : Int32) (t0 : Int32) (σ : rt_St) : Option rt_St :=
  (rt_rd σ 42 12 l4).bind fun v10 =>
  B_R_RangeTellerModel_ending_215 l2 l3 l4 v10 t0 σ
def B_R_RangeTellerModel_ending_172  (l2 : Int32) (l3 : Int32) (l4 : Int32) (l5 : Int32) (t0 : Int32) (t1 : Int32) (σ : rt_St) : Option rt_St :=
  (rt_wr σ 37 3 t1 t0).bind fun σ9 =>
  if l5 = 0 then
    (rt_rd σ9 42 12 l4).bind fun v15 =>
    (rt_rd σ9 38 3 l2).bind fun v16 =>
    if v15 ≤ v16 then
      (rt_rd σ9 38 3 l2).bind fun v17 =>
      B_R_RangeTellerModel_ending_215 l2 l3 l4 v17 l2 σ9
    else
      B_R_RangeTellerModel_ending_199 l2 l3 l4 l2 σ9
  else
    B_R_RangeTellerModel_ending_199 l2 l3 l4 l2 σ9
def B_R_RangeTellerModel_ending_156  (l2 : Int32) (l3 : Int32) (l4 : Int32) (l5 : Int32) (t0 : Int32) (σ : rt_St) : Option rt_St :=
  (rt_rd σ 41 12 l4).bind fun v8 =>
  B_R_RangeTellerModel_ending_172 l2 l3 l4 l5 v8 t0 σ
def B_R_RangeTellerModel_ending_129  (l2 : Int32) (l4 : Int32) (l5 : Int32) (t0 : Int32) (σ : rt_St) : Option rt_St :=
  if l5 = 0 then
    (rt_rd σ 41 12 l4).bind fun v18 =>
    (rt_rd σ 37 3 l2).bind fun v19 =>
    if v19 ≤ v18 then
      (rt_rd σ 37 3 l2).bind fun v20 =>
      B_R_RangeTellerModel_ending_172 l2 t0 l4 l5 v20 l2 σ
    else
      B_R_RangeTellerModel_ending_156 l2 t0 l4 l5 l2 σ
  else
    B_R_RangeTellerModel_ending_156 l2 t0 l4 l5 l2 σ
def B_R_RangeTellerModel_ending_124  (l2 : Int32) (l4 : Int32) (l5 : Int32) (σ : rt_St) : Option rt_St :=
  B_R_RangeTellerModel_ending_129 l2 l4 l5 1 σ
def B_R_RangeTellerModel_ending_128  (l2 : Int32) (l4 : Int32) (l5 : Int32) (σ : rt_St) : Option rt_St :=
  B_R_RangeTellerModel_ending_129 l2 l4 l5 0 σ
def B_R_RangeTellerModel_ending_67  (l2 : Int32) (l3 : Int32) (l4 : Int32) (t0 : Int32) (σ : rt_St) : Option rt_St :=
  if l3 = 0 then
    (rt_rd σ 41 12 l4).bind fun v21 =>
    (rt_rd σ 37 3 l2).bind fun v22 =>
    if v21 < v22 then
      B_R_RangeTellerModel_ending_124 l2 l4 t0 σ
    else
      (rt_rd σ 42 12 l4).bind fun v23 =>
      (rt_rd σ 38 3 l2).bind fun v24 =>
      if v24 < v23 then
        B_R_RangeTellerModel_ending_124 l2 l4 t0 σ
      else
        (rt_rd σ 43 12 l4).bind fun v25 =>
        if v25 = 0 then
          B_R_RangeTellerModel_ending_128 l2 l4 t0 σ
        else
          (rt_rd σ 39 3 l2).bind fun v26 =>
          if v26 = 0 then
            B_R_RangeTellerModel_ending_124 l2 l4 t0 σ
          else
            B_R_RangeTellerModel_ending_128 l2 l4 t0 σ
  else
    B_R_RangeTellerModel_ending_124 l2 l4 t0 σ
def B_R_RangeTellerModel_ending_21  (l2 : Int32) (t0 : Int32) (σ : rt_St) : Option rt_St :=
  (rt_wr σ 40 3 l2 1).bind fun σ3 =>
  (rt_rd σ3 13 3 l2).bind fun v4 =>
  if v4 = 1 then
    (rt_rd σ3 37 3 l2).bind fun v6 =>
    (rt_rd σ3 38 3 l2).bind fun v7 =>
    if v6 ≤ v7 then
      B_R_RangeTellerModel_ending_67 l2 t0 ((σ3 0 59) - 1) 0 σ3
    else
      B_R_RangeTellerModel_ending_67 l2 t0 ((σ3 0 59) - 1) 1 σ3
  else
    B_R_RangeTellerModel_ending_246 l2 t0 σ3
def M_R_RangeTellerModel_ending (σ : rt_St) (a1 : Int32) : Option rt_St :=
  (rt_rd σ 4 100 a1).bind fun v1 =>
  (rt_rd σ 40 3 v1).bind fun v2 =>
  if v2 = 0 then
    B_R_RangeTellerModel_ending_21 v1 1 σ
  else
    B_R_RangeTellerModel_ending_21 v1 0 σ
def B_R_RangeTellerModel_passBranch_122  (t0 : Int32) (σ : rt_St) : Option rt_St :=
  (M_R_RangeTellerModel_pass σ t0).bind fun σ10 =>
  some σ10
def B_R_RangeTellerModel_passBranch_70  (l1 : Int32) (l2 : Int32) (σ : rt_St) : Option rt_St :=
  (rt_rd σ 10 100 l1).bind fun v4 =>
  (rt_put σ 0 59 (l2 + v4)).bind fun σ5 =>
  (rt_rd σ5 8 100 l1).bind fun v6 =>
  (rt_rd σ5 2 100 v6).bind fun v7 =>
  if v7 = 2 then
    (rt_rd σ5 8 100 l1).bind fun v11 =>
    B_R_RangeTellerModel_passBranch_122 (v11 + 1) σ5
  else
    (rt_rd σ5 8 100 l1).bind fun v8 =>
    (rt_rd σ5 5 100 v8).bind fun v9 =>
    B_R_RangeTellerModel_passBranch_122 (v9 + 1) σ5
def M_R_RangeTellerModel_passBranch (σ : rt_St) (a1 : Int32) : Option rt_St :=
  (rt_rd σ 8 100 a1).bind fun v1 =>
  if 0 ≤ v1 then
    (rt_rd σ 9 100 a1).bind fun v2 =>
    (rt_rd σ 10 100 a1).bind fun v3 =>
    if v3 = 1 then
      (rt_rd σ 41 12 ((σ 0 59) - 1)).bind fun v12 =>
      (rt_rd σ 42 12 ((σ 0 59) - 1)).bind fun v13 =>
      (rt_rd σ 43 12 ((σ 0 59) - 1)).bind fun v14 =>
      (M_R_RangeTellerModel_set σ v2 v12 v13 v14).bind fun σ15 =>
      B_R_RangeTellerModel_passBranch_70 a1 v2 σ15
    else
      B_R_RangeTellerModel_passBranch_70 a1 v2 σ
  else
    (M_R_RangeTellerModel_ending σ a1).bind fun σ16 =>
    some σ16
def B_R_RangeTellerModel_passIf_84  (l1 : Int32) (l3 : Int32) (σ : rt_St) : Option rt_St :=
  if l3 = 0 then
    some σ
  else
    (rt_rd σ 2 100 l1).bind fun v5 =>
    if v5 = 3 then
      (M_R_RangeTellerModel_pass σ (l1 + 1)).bind fun σ7 =>
      some σ7
    else
      (M_R_RangeTellerModel_passBranch σ l1).bind fun σ6 =>
      some σ6
def B_R_RangeTellerModel_passIf_72  (l1 : Int32) (l2 : Int32) (l3 : Int32) (t0 : Int32) (σ : rt_St) : Option rt_St :=
  if l2 = 0 then
    (M_R_RangeTellerModel_pass σ t0).bind fun σ8 =>
    B_R_RangeTellerModel_passIf_84 l1 l3 σ8
  else
    B_R_RangeTellerModel_passIf_84 l1 l3 σ
def B_R_RangeTellerModel_passIf_64  (l1 : Int32) (l2 : Int32) (l3 : Int32) (t0 : Int32) (σ : rt_St) : Option rt_St :=
  B_R_RangeTellerModel_passIf_72 l1 l2 l3 (t0 + 1) σ
def M_R_RangeTellerModel_passIf (σ : rt_St) (a1 : Int32) : Option rt_St :=
  (rt_put σ 0 59 ((σ 0 59) - 1)).bind fun σ1 =>
  (rt_rd σ1 41 12 (σ1 0 59)).bind fun v2 =>
  (rt_rd σ1 42 12 (σ1 0 59)).bind fun v3 =>
  (rt_rd σ1 2 100 a1).bind fun v4 =>
  if v4 = 3 then
    (rt_rd σ1 6 100 a1).bind fun v9 =>
    if v9 < 0 then
      (rt_rd σ1 5 100 a1).bind fun v10 =>
      B_R_RangeTellerModel_passIf_64 a1 v2 v3 v10 σ1
    else
      (rt_rd σ1 6 100 a1).bind fun v11 =>
      B_R_RangeTellerModel_passIf_64 a1 v2 v3 v11 σ1
  else
    B_R_RangeTellerModel_passIf_72 a1 v2 v3 (a1 + 1) σ1
def M_R_RangeTellerModel_nothing (σ : rt_St) (a1 : Int32) : Option rt_St :=
  (rt_put σ 0 66 64).bind fun σ1 =>
  (rt_put σ1 0 67 (-1)).bind fun σ2 =>
  (rt_zok a1).bind fun _ =>
  (rt_put σ2 0 68 a1).bind fun σ3 =>
  some σ3
def M_R_RangeTellerModel_operate (a0 : Int32) (a1 : Int32) (a2 : Int32) : Option Int32 :=
  if a0 = 19 then
    if a1 = a2 then
      some 1
    else
      some 0
  else
  if a0 = 20 then
    if a2 ≤ a1 then
      some 0
    else
      some 1
  else
  if a0 = 21 then
    some ((a1 + a2) &&& 63)
  else
  if a0 = 22 then
    some ((a1 - a2) &&& 63)
  else
  if a0 = 23 then
    some ((a1 * a2) &&& 63)
  else
  if a0 = 24 then
    (rt_div a1 a2).bind fun v2 =>
    some v2
  else
  if a0 = 25 then
    (rt_rem a1 a2).bind fun v1 =>
    some v1
  else
  some (a1 &&& a2)
def B_R_RangeTellerModel_join_17  (l2 : Int32) (t0 : Int32) (σ : rt_St) : Option rt_St :=
  (rt_put σ 0 66 t0).bind fun σ1 =>
  if l2 ≤ (σ1 0 67) then
    (rt_put σ1 0 67 (σ1 0 67)).bind fun σ2 =>
    some σ2
  else
    (rt_put σ1 0 67 l2).bind fun σ3 =>
    some σ3
def M_R_RangeTellerModel_join (σ : rt_St) (a1 : Int32) (a2 : Int32) : Option rt_St :=
  if (σ 0 66) ≤ a1 then
    B_R_RangeTellerModel_join_17 a2 (σ 0 66) σ
  else
    B_R_RangeTellerModel_join_17 a2 a1 σ
def B_R_RangeTellerModel_pairs_117 (K49 : Int32 → Int32 → Int32 → Int32 → rt_St → Option rt_St) (K68 : Int32 → Int32 → Int32 → Int32 → Int32 → rt_St → Option rt_St) (l1 : Int32) (l2 : Int32) (l3 : Int32) (l4 : Int32) (l5 : Int32) (σ : rt_St) : Option rt_St :=
  K68 l1 l2 l3 l4 (l5 + 1) σ
def B_R_RangeTellerModel_pairs_99 (K49 : Int32 → Int32 → Int32 → Int32 → rt_St → Option rt_St) (K68 : Int32 → Int32 → Int32 → Int32 → Int32 → rt_St → Option rt_St) (l1 : Int32) (l2 : Int32) (l3 : Int32) (l4 : Int32) (l5 : Int32) (σ : rt_St) : Option rt_St :=
  (M_R_RangeTellerModel_operate l1 l4 l5).bind fun v7 =>
  (M_R_RangeTellerModel_join σ v7 v7).bind fun σ8 =>
  B_R_RangeTellerModel_pairs_117 K49 K68 l1 l2 l3 l4 l5 σ8
def B_R_RangeTellerModel_pairs_68 (K49 : Int32 → Int32 → Int32 → Int32 → rt_St → Option rt_St) : Nat → Int32 → Int32 → Int32 → Int32 → Int32 → rt_St → Option rt_St
  | 0, _, _, _, _, _, _ => none
  | n + 1, l1, l2, l3, l4, l5, σ =>
    (rt_rd σ 42 12 l3).bind fun v6 =>
    if v6 < l5 then
      K49 l1 l2 l3 (l4 + 1) σ
    else
      if l5 = 0 then
        if l1 = 24 then
          B_R_RangeTellerModel_pairs_117 K49 (B_R_RangeTellerModel_pairs_68 K49 n) l1 l2 l3 l4 l5 σ
        else
          if l1 = 25 then
            B_R_RangeTellerModel_pairs_117 K49 (B_R_RangeTellerModel_pairs_68 K49 n) l1 l2 l3 l4 l5 σ
          else
            B_R_RangeTellerModel_pairs_99 K49 (B_R_RangeTellerModel_pairs_68 K49 n) l1 l2 l3 l4 l5 σ
      else
        B_R_RangeTellerModel_pairs_99 K49 (B_R_RangeTellerModel_pairs_68 K49 n) l1 l2 l3 l4 l5 σ
def B_R_RangeTellerModel_pairs_49  : Nat → Int32 → Int32 → Int32 → Int32 → rt_St → Option rt_St
  | 0, _, _, _, _, _ => none
  | n + 1, l1, l2, l3, l4, σ =>
    (rt_rd σ 42 12 l2).bind fun v4 =>
    if v4 < l4 then
      some σ
    else
      (rt_rd σ 41 12 l3).bind fun v5 =>
      B_R_RangeTellerModel_pairs_68 (B_R_RangeTellerModel_pairs_49 n) FU l1 l2 l3 l4 v5 σ
def B_R_RangeTellerModel_pairs_38  (l1 : Int32) (l2 : Int32) (l3 : Int32) (t0 : Int32) (σ : rt_St) : Option rt_St :=
  (M_R_RangeTellerModel_nothing σ t0).bind fun σ2 =>
  (rt_rd σ2 41 12 l2).bind fun v3 =>
  B_R_RangeTellerModel_pairs_49 FU l1 l2 l3 v3 σ2
def B_R_RangeTellerModel_pairs_33  (l1 : Int32) (l2 : Int32) (l3 : Int32) (σ : rt_St) : Option rt_St :=
  B_R_RangeTellerModel_pairs_38 l1 l2 l3 1 σ
def M_R_RangeTellerModel_pairs (σ : rt_St) (a1 : Int32) : Option rt_St :=
  (rt_rd σ 43 12 ((σ 0 59) - 2)).bind fun v1 =>
  if v1 = 0 then
    (rt_rd σ 43 12 ((σ 0 59) - 1)).bind fun v9 =>
    if v9 = 0 then
      B_R_RangeTellerModel_pairs_38 a1 ((σ 0 59) - 2) ((σ 0 59) - 1) 0 σ
    else
      B_R_RangeTellerModel_pairs_33 a1 ((σ 0 59) - 2) ((σ 0 59) - 1) σ
  else
    B_R_RangeTellerModel_pairs_33 a1 ((σ 0 59) - 2) ((σ 0 59) - 1) σ
def B_R_RangeTellerModel_pick_131  (σ : rt_St) : Option rt_St :=
  (rt_put σ 0 59 ((σ 0 59) - 2)).bind fun σ5 =>
  (M_R_RangeTellerModel_set σ5 ((σ5 0 59) - 1) (σ5 0 66) (σ5 0 67) (σ5 0 68)).bind fun σ6 =>
  some σ6
def B_R_RangeTellerModel_pick_128  (t0 : Int32) (σ : rt_St) : Option rt_St :=
  (rt_zok t0).bind fun _ =>
  (rt_put σ 0 68 t0).bind fun σ10 =>
  B_R_RangeTellerModel_pick_131 σ10
def B_R_RangeTellerModel_pick_123  (σ : rt_St) : Option rt_St :=
  B_R_RangeTellerModel_pick_128 1 σ
def B_R_RangeTellerModel_pick_81  (l1 : Int32) (l2 : Int32) (σ : rt_St) : Option rt_St :=
  (rt_rd σ 41 12 l1).bind fun v4 =>
  if v4 = 0 then
    (rt_rd σ 41 12 l2).bind fun v7 =>
    (rt_rd σ 42 12 l2).bind fun v8 =>
    (M_R_RangeTellerModel_join σ v7 v8).bind fun σ9 =>
    if (σ9 0 68) = 0 then
      (rt_rd σ9 43 12 l2).bind fun v11 =>
      if v11 = 0 then
        B_R_RangeTellerModel_pick_128 0 σ9
      else
        B_R_RangeTellerModel_pick_123 σ9
    else
      B_R_RangeTellerModel_pick_123 σ9
  else
    B_R_RangeTellerModel_pick_131 σ
def B_R_RangeTellerModel_pick_78  (l1 : Int32) (l2 : Int32) (t0 : Int32) (σ : rt_St) : Option rt_St :=
  (rt_zok t0).bind fun _ =>
  (rt_put σ 0 68 t0).bind fun σ15 =>
  B_R_RangeTellerModel_pick_81 l1 l2 σ15
def B_R_RangeTellerModel_pick_73  (l1 : Int32) (l2 : Int32) (σ : rt_St) : Option rt_St :=
  B_R_RangeTellerModel_pick_78 l1 l2 1 σ
def M_R_RangeTellerModel_pick (σ : rt_St)  : Option rt_St :=
  (rt_rd σ 43 12 ((σ 0 59) - 1)).bind fun v1 =>
  (M_R_RangeTellerModel_nothing σ v1).bind fun σ2 =>
  (rt_rd σ2 42 12 ((σ 0 59) - 1)).bind fun v3 =>
  if v3 ≤ 0 then
    B_R_RangeTellerModel_pick_81 ((σ 0 59) - 1) ((σ 0 59) - 2) σ2
  else
    (rt_rd σ2 41 12 ((σ 0 59) - 3)).bind fun v12 =>
    (rt_rd σ2 42 12 ((σ 0 59) - 3)).bind fun v13 =>
    (M_R_RangeTellerModel_join σ2 v12 v13).bind fun σ14 =>
    if (σ14 0 68) = 0 then
      (rt_rd σ14 43 12 ((σ 0 59) - 3)).bind fun v16 =>
      if v16 = 0 then
        B_R_RangeTellerModel_pick_78 ((σ 0 59) - 1) ((σ 0 59) - 2) 0 σ14
      else
        B_R_RangeTellerModel_pick_73 ((σ 0 59) - 1) ((σ 0 59) - 2) σ14
    else
      B_R_RangeTellerModel_pick_73 ((σ 0 59) - 1) ((σ 0 59) - 2) σ14
def B_R_RangeTellerModel_leaves_34  (σ : rt_St) : Option (Int32 × rt_St) :=
  (rt_put σ 0 59 ((σ 0 59) - 1)).bind fun σ3 =>
  some (1, σ3)
def B_R_RangeTellerModel_leaves_117  (l2 : Int32) (l3 : Int32) (l4 : Int32) (σ : rt_St) : Option (Int32 × rt_St) :=
  (rt_rd σ 41 12 l4).bind fun v4 =>
  (rt_wr σ 44 4 l3 v4).bind fun σ5 =>
  (rt_rd σ5 42 12 l4).bind fun v6 =>
  (rt_wr σ5 45 4 l3 v6).bind fun σ7 =>
  (rt_rd σ7 43 12 l4).bind fun v8 =>
  (rt_wr σ7 46 4 l3 (vp_nar .boolean v8)).bind fun σ9 =>
  if l2 = 13 then
    (rt_put σ9 0 59 ((σ9 0 59) - 1)).bind fun σ11 =>
    some (1, σ11)
  else
    (rt_put σ9 0 59 (σ9 0 59)).bind fun σ10 =>
    some (1, σ10)
def B_R_RangeTellerModel_leaves_233  (t0 : Int32) (t1 : Int32) (t2 : Int32) (t3 : Int32) (σ : rt_St) : Option (Int32 × rt_St) :=
  (M_R_RangeTellerModel_set σ t3 t2 t1 t0).bind fun σ12 =>
  (rt_put σ12 0 59 ((σ12 0 59) + 1)).bind fun σ13 =>
  some (1, σ13)
def B_R_RangeTellerModel_leaves_222  (l2 : Int32) (t0 : Int32) (t1 : Int32) (t2 : Int32) (σ : rt_St) : Option (Int32 × rt_St) :=
  if l2 = 27 then
    B_R_RangeTellerModel_leaves_233 1 t0 t1 t2 σ
  else
    B_R_RangeTellerModel_leaves_233 0 t0 t1 t2 σ
def B_R_RangeTellerModel_leaves_210  (l2 : Int32) (l3 : Int32) (t0 : Int32) (t1 : Int32) (σ : rt_St) : Option (Int32 × rt_St) :=
  if l2 = 17 then
    B_R_RangeTellerModel_leaves_222 l2 l3 t0 t1 σ
  else
    B_R_RangeTellerModel_leaves_222 l2 63 t0 t1 σ
def B_R_RangeTellerModel_leaves_194  (l2 : Int32) (l3 : Int32) (σ : rt_St) : Option (Int32 × rt_St) :=
  if l2 = 17 then
    B_R_RangeTellerModel_leaves_210 l2 l3 l3 (σ 0 59) σ
  else
    B_R_RangeTellerModel_leaves_210 l2 l3 0 (σ 0 59) σ
def B_R_RangeTellerModel_leaves_298  (l4 : Int32) (t0 : Int32) (t1 : Int32) (t2 : Int32) (σ : rt_St) : Option (Int32 × rt_St) :=
  (rt_rd σ 43 12 l4).bind fun v19 =>
  (M_R_RangeTellerModel_set σ t2 t1 t0 v19).bind fun σ20 =>
  some (1, σ20)
def B_R_RangeTellerModel_leaves_283  (l4 : Int32) (t0 : Int32) (t1 : Int32) (σ : rt_St) : Option (Int32 × rt_St) :=
  (rt_rd σ 41 12 l4).bind fun v18 =>
  if v18 = 0 then
    B_R_RangeTellerModel_leaves_298 l4 1 t0 t1 σ
  else
    B_R_RangeTellerModel_leaves_298 l4 0 t0 t1 σ
def B_R_RangeTellerModel_leaves_282  (l4 : Int32) (t0 : Int32) (σ : rt_St) : Option (Int32 × rt_St) :=
  B_R_RangeTellerModel_leaves_283 l4 0 t0 σ
def M_R_RangeTellerModel_leaves (σ : rt_St) (a1 : Int32) : Option (Int32 × rt_St) :=
  (rt_rd σ 2 100 a1).bind fun v1 =>
  (rt_rd σ 3 100 a1).bind fun v2 =>
  if v1 = 10 then
    B_R_RangeTellerModel_leaves_34 σ
  else
    if v1 = 28 then
      B_R_RangeTellerModel_leaves_34 σ
    else
      if v1 = 11 then
        (M_R_RangeTellerModel_pick σ).bind fun σ27 =>
        some (1, σ27)
      else
        if v1 = 12 then
          (rt_rd σ 44 4 v2).bind fun v22 =>
          (rt_rd σ 45 4 v2).bind fun v23 =>
          (rt_rd σ 46 4 v2).bind fun v24 =>
          (M_R_RangeTellerModel_set σ (σ 0 59) v22 v23 v24).bind fun σ25 =>
          (rt_put σ25 0 59 ((σ25 0 59) + 1)).bind fun σ26 =>
          some (1, σ26)
        else
          if v1 = 13 then
            B_R_RangeTellerModel_leaves_117 v1 v2 ((σ 0 59) - 1) σ
          else
            if v1 = 14 then
              B_R_RangeTellerModel_leaves_117 v1 v2 ((σ 0 59) - 1) σ
            else
              if v1 = 17 then
                B_R_RangeTellerModel_leaves_194 v1 v2 σ
              else
                if v1 = 27 then
                  B_R_RangeTellerModel_leaves_194 v1 v2 σ
                else
                  if v1 = 18 then
                    (rt_rd σ 41 12 ((σ 0 59) - 1)).bind fun v17 =>
                    if v17 = 0 then
                      (rt_rd σ 42 12 ((σ 0 59) - 1)).bind fun v21 =>
                      if v21 = 0 then
                        B_R_RangeTellerModel_leaves_283 ((σ 0 59) - 1) 1 ((σ 0 59) - 1) σ
                      else
                        B_R_RangeTellerModel_leaves_282 ((σ 0 59) - 1) ((σ 0 59) - 1) σ
                    else
                      B_R_RangeTellerModel_leaves_282 ((σ 0 59) - 1) ((σ 0 59) - 1) σ
                  else
                    (M_R_RangeTellerModel_pairs σ v1).bind fun σ14 =>
                    if (σ14 0 66) ≤ (σ14 0 67) then
                      (rt_put σ14 0 59 ((σ14 0 59) - 1)).bind fun σ15 =>
                      (M_R_RangeTellerModel_set σ15 ((σ15 0 59) - 1) (σ15 0 66) (σ15 0 67) (σ15 0 68)).bind fun σ16 =>
                      some (1, σ16)
                    else
                      some (0, σ14)
def B_R_RangeTellerModel_store1_274  (l1 : Int32) (l5 : Int32) (σ : rt_St) : Option rt_St :=
  (rt_put σ 0 59 ((σ 0 59) - 2)).bind fun σ4 =>
  if l5 = 0 then
    some σ4
  else
    (M_R_RangeTellerModel_pass σ4 (l1 + 1)).bind fun σ5 =>
    some σ5
def B_R_RangeTellerModel_store1_262  (l1 : Int32) (l5 : Int32) (l6 : Int32) (σ : rt_St) : Option rt_St :=
  if l6 = 0 then
    B_R_RangeTellerModel_store1_274 l1 l5 σ
  else
    (M_R_RangeTellerModel_wake σ 15 (-1)).bind fun σ6 =>
    B_R_RangeTellerModel_store1_274 l1 l5 σ6
def B_R_RangeTellerModel_store1_255 (K53 : Int32 → Int32 → Int32 → Int32 → Int32 → Int32 → Int32 → rt_St → Option rt_St) (l1 : Int32) (l2 : Int32) (l3 : Int32) (l4 : Int32) (l5 : Int32) (l6 : Int32) (l7 : Int32) (t0 : Int32) (t1 : Int32) (σ : rt_St) : Option rt_St :=
  (rt_wr σ 36 16 t1 (vp_nar .boolean t0)).bind fun σ18 =>
  K53 l1 l2 l3 l4 l5 l6 (l7 + 1) σ18
def B_R_RangeTellerModel_store1_250 (K53 : Int32 → Int32 → Int32 → Int32 → Int32 → Int32 → Int32 → rt_St → Option rt_St) (l1 : Int32) (l2 : Int32) (l3 : Int32) (l4 : Int32) (l5 : Int32) (l6 : Int32) (l7 : Int32) (t0 : Int32) (σ : rt_St) : Option rt_St :=
  B_R_RangeTellerModel_store1_255 K53 l1 l2 l3 l4 l5 l6 l7 1 t0 σ
def B_R_RangeTellerModel_store1_228 (K53 : Int32 → Int32 → Int32 → Int32 → Int32 → Int32 → Int32 → rt_St → Option rt_St) (l1 : Int32) (l2 : Int32) (l3 : Int32) (l4 : Int32) (l5 : Int32) (l6 : Int32) (l7 : Int32) (l8 : Int32) (t0 : Int32) (t1 : Int32) (σ : rt_St) : Option rt_St :=
  (rt_wr σ 35 16 t1 t0).bind fun σ16 =>
  (rt_rd σ16 36 16 l8).bind fun v17 =>
  if v17 = 0 then
    if l4 = 0 then
      B_R_RangeTellerModel_store1_255 K53 l1 l2 l3 l4 l5 l6 l7 0 l8 σ16
    else
      B_R_RangeTellerModel_store1_250 K53 l1 l2 l3 l4 l5 l6 l7 l8 σ16
  else
    B_R_RangeTellerModel_store1_250 K53 l1 l2 l3 l4 l5 l6 l7 l8 σ16
def B_R_RangeTellerModel_store1_189 (K53 : Int32 → Int32 → Int32 → Int32 → Int32 → Int32 → Int32 → rt_St → Option rt_St) (l1 : Int32) (l2 : Int32) (l3 : Int32) (l4 : Int32) (l5 : Int32) (l6 : Int32) (l7 : Int32) (l8 : Int32) (t0 : Int32) (t1 : Int32) (σ : rt_St) : Option rt_St :=
  (rt_wr σ 34 16 t1 t0).bind fun σ12 =>
  (rt_rd σ12 42 12 l2).bind fun v13 =>
  (rt_rd σ12 35 16 l8).bind fun v14 =>
  if v13 ≤ v14 then
    (rt_rd σ12 35 16 l8).bind fun v15 =>
    B_R_RangeTellerModel_store1_228 K53 l1 l2 l3 l4 l5 l6 l7 l8 v15 l8 σ12
  else
    (rt_rd σ12 42 12 l2).bind fun v19 =>
    B_R_RangeTellerModel_store1_228 K53 l1 l2 l3 l4 l5 l6 l7 l8 v19 l8 σ12
def B_R_RangeTellerModel_store1_149 (K53 : Int32 → Int32 → Int32 → Int32 → Int32 → Int32 → Int32 → rt_St → Option rt_St) (l1 : Int32) (l2 : Int32) (l3 : Int32) (l4 : Int32) (l5 : Int32) (l7 : Int32) (l8 : Int32) (t0 : Int32) (σ : rt_St) : Option rt_St :=
  (rt_rd σ 41 12 l2).bind fun v9 =>
  (rt_rd σ 34 16 l8).bind fun v10 =>
  if v10 ≤ v9 then
    (rt_rd σ 34 16 l8).bind fun v11 =>
    B_R_RangeTellerModel_store1_189 K53 l1 l2 l3 l4 l5 t0 l7 l8 v11 l8 σ
  else
    (rt_rd σ 41 12 l2).bind fun v20 =>
    B_R_RangeTellerModel_store1_189 K53 l1 l2 l3 l4 l5 t0 l7 l8 v20 l8 σ
def B_R_RangeTellerModel_store1_144 (K53 : Int32 → Int32 → Int32 → Int32 → Int32 → Int32 → Int32 → rt_St → Option rt_St) (l1 : Int32) (l2 : Int32) (l3 : Int32) (l4 : Int32) (l5 : Int32) (l7 : Int32) (l8 : Int32) (σ : rt_St) : Option rt_St :=
  B_R_RangeTellerModel_store1_149 K53 l1 l2 l3 l4 l5 l7 l8 1 σ
def B_R_RangeTellerModel_store1_148 (K53 : Int32 → Int32 → Int32 → Int32 → Int32 → Int32 → Int32 → rt_St → Option rt_St) (l1 : Int32) (l2 : Int32) (l3 : Int32) (l4 : Int32) (l5 : Int32) (l7 : Int32) (l8 : Int32) (σ : rt_St) : Option rt_St :=
  B_R_RangeTellerModel_store1_149 K53 l1 l2 l3 l4 l5 l7 l8 0 σ
def B_R_RangeTellerModel_store1_53  : Nat → Int32 → Int32 → Int32 → Int32 → Int32 → Int32 → Int32 → rt_St → Option rt_St
  | 0, _, _, _, _, _, _, _, _ => none
  | n + 1, l1, l2, l3, l4, l5, l6, l7, σ =>
    (rt_rd σ 42 12 l3).bind fun v3 =>
    if v3 < l7 then
      B_R_RangeTellerModel_store1_262 l1 l5 l6 σ
    else
      (rt_rd σ 3 100 l1).bind fun v7 =>
      if 16 ≤ (l7 + v7) then
        B_R_RangeTellerModel_store1_262 l1 l5 l6 σ
      else
        (rt_rd σ 3 100 l1).bind fun v8 =>
        if l6 = 0 then
          (rt_rd σ 41 12 l2).bind fun v21 =>
          (rt_rd σ 34 16 (l7 + v8)).bind fun v22 =>
          if v21 < v22 then
            B_R_RangeTellerModel_store1_144 (B_R_RangeTellerModel_store1_53 n) l1 l2 l3 l4 1 l7 (l7 + v8) σ
          else
            (rt_rd σ 42 12 l2).bind fun v23 =>
            (rt_rd σ 35 16 (l7 + v8)).bind fun v24 =>
            if v24 < v23 then
              B_R_RangeTellerModel_store1_144 (B_R_RangeTellerModel_store1_53 n) l1 l2 l3 l4 1 l7 (l7 + v8) σ
            else
              if l4 = 0 then
                B_R_RangeTellerModel_store1_148 (B_R_RangeTellerModel_store1_53 n) l1 l2 l3 l4 1 l7 (l7 + v8) σ
              else
                (rt_rd σ 36 16 (l7 + v8)).bind fun v25 =>
                if v25 = 0 then
                  B_R_RangeTellerModel_store1_144 (B_R_RangeTellerModel_store1_53 n) l1 l2 l3 l4 1 l7 (l7 + v8) σ
                else
                  B_R_RangeTellerModel_store1_148 (B_R_RangeTellerModel_store1_53 n) l1 l2 l3 l4 1 l7 (l7 + v8) σ
        else
          B_R_RangeTellerModel_store1_144 (B_R_RangeTellerModel_store1_53 n) l1 l2 l3 l4 1 l7 (l7 + v8) σ
def B_R_RangeTellerModel_store1_37  (l1 : Int32) (l2 : Int32) (l3 : Int32) (t0 : Int32) (σ : rt_St) : Option rt_St :=
  (rt_rd σ 41 12 l3).bind fun v2 =>
  B_R_RangeTellerModel_store1_53 FU l1 l2 l3 t0 0 0 v2 σ
def B_R_RangeTellerModel_store1_32  (l1 : Int32) (l2 : Int32) (l3 : Int32) (σ : rt_St) : Option rt_St :=
  B_R_RangeTellerModel_store1_37 l1 l2 l3 1 σ
def M_R_RangeTellerModel_store1 (σ : rt_St) (a1 : Int32) : Option rt_St :=
  (rt_rd σ 43 12 ((σ 0 59) - 1)).bind fun v1 =>
  if v1 = 0 then
    (rt_rd σ 43 12 ((σ 0 59) - 2)).bind fun v26 =>
    if v26 = 0 then
      B_R_RangeTellerModel_store1_37 a1 ((σ 0 59) - 1) ((σ 0 59) - 2) 0 σ
    else
      B_R_RangeTellerModel_store1_32 a1 ((σ 0 59) - 1) ((σ 0 59) - 2) σ
  else
    B_R_RangeTellerModel_store1_32 a1 ((σ 0 59) - 1) ((σ 0 59) - 2) σ
def B_R_RangeTellerModel_load1_107  (l1 : Int32) (l2 : Int32) (σ : rt_St) : Option rt_St :=
  if (σ 0 66) ≤ (σ 0 67) then
    (M_R_RangeTellerModel_set σ l2 (σ 0 66) (σ 0 67) (σ 0 68)).bind fun σ5 =>
    (M_R_RangeTellerModel_pass σ5 (l1 + 1)).bind fun σ6 =>
    some σ6
  else
    some σ
def B_R_RangeTellerModel_load1_98 (K24 : Int32 → Int32 → Int32 → rt_St → Option rt_St) (l1 : Int32) (l2 : Int32) (l3 : Int32) (t0 : Int32) (σ : rt_St) : Option rt_St :=
  (rt_zok t0).bind fun _ =>
  (rt_put σ 0 68 t0).bind fun σ12 =>
  K24 l1 l2 (l3 + 1) σ12
def B_R_RangeTellerModel_load1_93 (K24 : Int32 → Int32 → Int32 → rt_St → Option rt_St) (l1 : Int32) (l2 : Int32) (l3 : Int32) (σ : rt_St) : Option rt_St :=
  B_R_RangeTellerModel_load1_98 K24 l1 l2 l3 1 σ
def B_R_RangeTellerModel_load1_24  : Nat → Int32 → Int32 → Int32 → rt_St → Option rt_St
  | 0, _, _, _, _ => none
  | n + 1, l1, l2, l3, σ =>
    (rt_rd σ 42 12 l2).bind fun v4 =>
    if v4 < l3 then
      B_R_RangeTellerModel_load1_107 l1 l2 σ
    else
      (rt_rd σ 3 100 l1).bind fun v7 =>
      if 16 ≤ (l3 + v7) then
        B_R_RangeTellerModel_load1_107 l1 l2 σ
      else
        (rt_rd σ 3 100 l1).bind fun v8 =>
        (rt_rd σ 34 16 (l3 + v8)).bind fun v9 =>
        (rt_rd σ 35 16 (l3 + v8)).bind fun v10 =>
        (M_R_RangeTellerModel_join σ v9 v10).bind fun σ11 =>
        if (σ11 0 68) = 0 then
          (rt_rd σ11 36 16 (l3 + v8)).bind fun v13 =>
          if v13 = 0 then
            B_R_RangeTellerModel_load1_98 (B_R_RangeTellerModel_load1_24 n) l1 l2 l3 0 σ11
          else
            B_R_RangeTellerModel_load1_93 (B_R_RangeTellerModel_load1_24 n) l1 l2 l3 σ11
        else
          B_R_RangeTellerModel_load1_93 (B_R_RangeTellerModel_load1_24 n) l1 l2 l3 σ11
def M_R_RangeTellerModel_load1 (σ : rt_St) (a1 : Int32) : Option rt_St :=
  (rt_rd σ 43 12 ((σ 0 59) - 1)).bind fun v1 =>
  (M_R_RangeTellerModel_nothing σ v1).bind fun σ2 =>
  (rt_rd σ2 41 12 ((σ 0 59) - 1)).bind fun v3 =>
  B_R_RangeTellerModel_load1_24 FU a1 ((σ 0 59) - 1) v3 σ2
def B_R_RangeTellerModel_passCall_209  (l1 : Int32) (σ : rt_St) : Option rt_St :=
  (M_R_RangeTellerModel_pass σ (l1 + 1)).bind fun σ9 =>
  some σ9
def B_R_RangeTellerModel_passCall_125 (K25 : Int32 → Int32 → Int32 → Int32 → Int32 → rt_St → Option rt_St) (l1 : Int32) (l2 : Int32) (l3 : Int32) (l4 : Int32) (l5 : Int32) (t0 : Int32) (t1 : Int32) (σ : rt_St) : Option rt_St :=
  (rt_wr σ 46 4 t1 (vp_nar .boolean t0)).bind fun σ17 =>
  K25 l1 l2 l3 l4 (l5 + 1) σ17
def B_R_RangeTellerModel_passCall_124 (K25 : Int32 → Int32 → Int32 → Int32 → Int32 → rt_St → Option rt_St) (l1 : Int32) (l2 : Int32) (l3 : Int32) (l4 : Int32) (l5 : Int32) (t0 : Int32) (σ : rt_St) : Option rt_St :=
  B_R_RangeTellerModel_passCall_125 K25 l1 l2 l3 l4 l5 0 t0 σ
def B_R_RangeTellerModel_passCall_95 (K25 : Int32 → Int32 → Int32 → Int32 → Int32 → rt_St → Option rt_St) (l1 : Int32) (l2 : Int32) (l3 : Int32) (l4 : Int32) (l5 : Int32) (l6 : Int32) (t0 : Int32) (t1 : Int32) (σ : rt_St) : Option rt_St :=
  (rt_wr σ 45 4 t1 t0).bind fun σ16 =>
  if l6 = 0 then
    B_R_RangeTellerModel_passCall_124 K25 l1 l2 l3 l4 l5 l5 σ16
  else
    (rt_rd σ16 43 12 (l4 + l5)).bind fun v18 =>
    if v18 = 0 then
      B_R_RangeTellerModel_passCall_124 K25 l1 l2 l3 l4 l5 l5 σ16
    else
      B_R_RangeTellerModel_passCall_125 K25 l1 l2 l3 l4 l5 1 l5 σ16
def B_R_RangeTellerModel_passCall_69 (K25 : Int32 → Int32 → Int32 → Int32 → Int32 → rt_St → Option rt_St) (l1 : Int32) (l2 : Int32) (l3 : Int32) (l4 : Int32) (l5 : Int32) (l6 : Int32) (t0 : Int32) (t1 : Int32) (σ : rt_St) : Option rt_St :=
  (rt_wr σ 44 4 t1 t0).bind fun σ15 =>
  if l6 = 0 then
    B_R_RangeTellerModel_passCall_95 K25 l1 l2 l3 l4 l5 l6 0 l5 σ15
  else
    (rt_rd σ15 42 12 (l4 + l5)).bind fun v19 =>
    B_R_RangeTellerModel_passCall_95 K25 l1 l2 l3 l4 l5 l6 v19 l5 σ15
def B_R_RangeTellerModel_passCall_42 (K25 : Int32 → Int32 → Int32 → Int32 → Int32 → rt_St → Option rt_St) (l1 : Int32) (l2 : Int32) (l3 : Int32) (l4 : Int32) (l5 : Int32) (t0 : Int32) (σ : rt_St) : Option rt_St :=
  if t0 = 0 then
    B_R_RangeTellerModel_passCall_69 K25 l1 l2 l3 l4 l5 t0 0 l5 σ
  else
    (rt_rd σ 41 12 (l4 + l5)).bind fun v20 =>
    B_R_RangeTellerModel_passCall_69 K25 l1 l2 l3 l4 l5 t0 v20 l5 σ
def B_R_RangeTellerModel_passCall_25  : Nat → Int32 → Int32 → Int32 → Int32 → Int32 → rt_St → Option rt_St
  | 0, _, _, _, _, _, _ => none
  | n + 1, l1, l2, l3, l4, l5, σ =>
    if 4 ≤ l5 then
      (rt_rd σ 14 3 l2).bind fun v3 =>
      (M_R_RangeTellerModel_pass σ v3).bind fun σ4 =>
      (M_R_RangeTellerModel_bring σ4 l1).bind fun σ5 =>
      (rt_put σ5 0 59 l4).bind fun σ6 =>
      (rt_rd σ6 40 3 l2).bind fun v7 =>
      if v7 = 0 then
        some σ6
      else
        (rt_rd σ6 13 3 l2).bind fun v8 =>
        if v8 = 1 then
          (rt_rd σ6 37 3 l2).bind fun v10 =>
          (rt_rd σ6 38 3 l2).bind fun v11 =>
          (rt_rd σ6 39 3 l2).bind fun v12 =>
          (M_R_RangeTellerModel_set σ6 (σ6 0 59) v10 v11 v12).bind fun σ13 =>
          (rt_put σ13 0 59 ((σ13 0 59) + 1)).bind fun σ14 =>
          B_R_RangeTellerModel_passCall_209 l1 σ14
        else
          B_R_RangeTellerModel_passCall_209 l1 σ6
    else
      if l3 ≤ l5 then
        B_R_RangeTellerModel_passCall_42 (B_R_RangeTellerModel_passCall_25 n) l1 l2 l3 l4 l5 0 σ
      else
        B_R_RangeTellerModel_passCall_42 (B_R_RangeTellerModel_passCall_25 n) l1 l2 l3 l4 l5 1 σ
def M_R_RangeTellerModel_passCall (σ : rt_St) (a1 : Int32) : Option rt_St :=
  (rt_rd σ 3 100 a1).bind fun v1 =>
  (rt_rd σ 11 3 v1).bind fun v2 =>
  B_R_RangeTellerModel_passCall_25 FU a1 v1 v2 ((σ 0 59) - v2) 0 σ
def B_R_RangeTellerModel_giveOn_28  (l1 : Int32) (σ : rt_St) : Option rt_St :=
  (M_R_RangeTellerModel_passIf σ l1).bind fun σ3 =>
  some σ3
def B_R_RangeTellerModel_giveOn_146  (l1 : Int32) (l2 : Int32) (σ : rt_St) : Option rt_St :=
  if l2 = 4 then
    (rt_rd σ 5 100 l1).bind fun v8 =>
    (M_R_RangeTellerModel_pass σ (v8 + 1)).bind fun σ9 =>
    some σ9
  else
    if 6 ≤ l2 then
      rt_b2 (M_R_RangeTellerModel_leaves σ l1) fun v5 σ4 =>
      if v5 = 0 then
        some σ4
      else
        (M_R_RangeTellerModel_pass σ4 (l1 + 1)).bind fun σ6 =>
        some σ6
    else
      (M_R_RangeTellerModel_pass σ (l1 + 1)).bind fun σ7 =>
      some σ7
def B_R_RangeTellerModel_giveOn_138  (l1 : Int32) (σ : rt_St) : Option rt_St :=
  (M_R_RangeTellerModel_ending σ l1).bind fun σ10 =>
  some σ10
def M_R_RangeTellerModel_giveOn (σ : rt_St) (a1 : Int32) : Option rt_St :=
  (M_R_RangeTellerModel_bring σ a1).bind fun σ1 =>
  (rt_rd σ1 2 100 a1).bind fun v2 =>
  if v2 = 0 then
    some σ1
  else
    if v2 = 3 then
      B_R_RangeTellerModel_giveOn_28 a1 σ1
    else
      if v2 = 7 then
        B_R_RangeTellerModel_giveOn_28 a1 σ1
      else
        if v2 = 6 then
          (M_R_RangeTellerModel_passBranch σ1 a1).bind fun σ17 =>
          some σ17
        else
          if v2 = 8 then
            (M_R_RangeTellerModel_ending σ1 a1).bind fun σ16 =>
            some σ16
          else
            if v2 = 9 then
              (M_R_RangeTellerModel_passCall σ1 a1).bind fun σ15 =>
              some σ15
            else
              if v2 = 15 then
                (M_R_RangeTellerModel_load1 σ1 a1).bind fun σ14 =>
                some σ14
              else
                if v2 = 16 then
                  (M_R_RangeTellerModel_store1 σ1 a1).bind fun σ13 =>
                  some σ13
                else
                  if v2 = 5 then
                    if (a1 + 1) = (σ1 0 6) then
                      B_R_RangeTellerModel_giveOn_138 a1 σ1
                    else
                      (rt_rd σ1 4 100 (a1 + 1)).bind fun v11 =>
                      (rt_rd σ1 4 100 a1).bind fun v12 =>
                      if v11 = v12 then
                        B_R_RangeTellerModel_giveOn_146 a1 v2 σ1
                      else
                        B_R_RangeTellerModel_giveOn_138 a1 σ1
                  else
                    B_R_RangeTellerModel_giveOn_146 a1 v2 σ1
def B_R_RangeTellerModel_foretell_128 (K73 : rt_St → Option rt_St) (K87 : Int32 → rt_St → Option rt_St) (l1 : Int32) (σ : rt_St) : Option rt_St :=
  K87 (l1 + 1) σ
def B_R_RangeTellerModel_foretell_87 (K73 : rt_St → Option rt_St) : Nat → Int32 → rt_St → Option rt_St
  | 0, _, _ => none
  | n + 1, l1, σ =>
    if (σ 0 6) ≤ l1 then
      K73 σ
    else
      (rt_rd σ 26 101 l1).bind fun v7 =>
      if v7 = 0 then
        B_R_RangeTellerModel_foretell_128 K73 (B_R_RangeTellerModel_foretell_87 K73 n) l1 σ
      else
        (rt_rd σ 27 101 l1).bind fun v8 =>
        if v8 = 0 then
          B_R_RangeTellerModel_foretell_128 K73 (B_R_RangeTellerModel_foretell_87 K73 n) l1 σ
        else
          (rt_wr σ 27 101 l1 0).bind fun σ9 =>
          (M_R_RangeTellerModel_giveOn σ9 l1).bind fun σ10 =>
          B_R_RangeTellerModel_foretell_128 K73 (B_R_RangeTellerModel_foretell_87 K73 n) l1 σ10
def B_R_RangeTellerModel_foretell_73  : Nat → rt_St → Option rt_St
  | 0, _ => none
  | n + 1, σ =>
    if (σ 0 58) = 0 then
      some σ
    else
      (rt_put σ 0 58 0).bind fun σ6 =>
      B_R_RangeTellerModel_foretell_87 (B_R_RangeTellerModel_foretell_73 n) FU 0 σ6
def B_R_RangeTellerModel_foretell_44 (K11 : Int32 → rt_St → Option rt_St) (l1 : Int32) (t0 : Int32) (t1 : Int32) (σ : rt_St) : Option rt_St :=
  (rt_wr σ 45 4 t1 t0).bind fun σ13 =>
  (rt_wr σ13 46 4 l1 0).bind fun σ14 =>
  K11 (l1 + 1) σ14
def B_R_RangeTellerModel_foretell_11  : Nat → Int32 → rt_St → Option rt_St
  | 0, _, _ => none
  | n + 1, l1, σ =>
    if 4 ≤ l1 then
      (rt_rd σ 14 3 0).bind fun v3 =>
      (M_R_RangeTellerModel_pass σ v3).bind fun σ4 =>
      (rt_put σ4 0 58 1).bind fun σ5 =>
      B_R_RangeTellerModel_foretell_73 FU σ5
    else
      (rt_wr σ 44 4 l1 0).bind fun σ11 =>
      (rt_rd σ11 11 3 0).bind fun v12 =>
      if v12 ≤ l1 then
        B_R_RangeTellerModel_foretell_44 (B_R_RangeTellerModel_foretell_11 n) l1 0 l1 σ11
      else
        B_R_RangeTellerModel_foretell_44 (B_R_RangeTellerModel_foretell_11 n) l1 63 l1 σ11
def M_R_RangeTellerModel_foretell (σ : rt_St)  : Option rt_St :=
  (M_R_RangeTellerModel_clear σ).bind fun σ1 =>
  (rt_put σ1 0 59 0).bind fun σ2 =>
  B_R_RangeTellerModel_foretell_11 FU 0 σ2
def B_R_RangeTellerModel_load_33  (l1 : Int32) (σ : rt_St) : Option (Int32 × rt_St) :=
  (rt_put σ 0 0 0).bind fun σ6 =>
  if l1 = 0 then
    some ((-1), σ6)
  else
    rt_b2 (M_R_RangeTellerModel_check σ6) fun v8 σ7 =>
    if v8 = 0 then
      some ((-2), σ7)
    else
      (rt_put σ7 0 4 1).bind fun σ9 =>
      (M_R_RangeTellerModel_foretell σ9).bind fun σ10 =>
      some ((σ10 0 6), σ10)
def M_R_RangeTellerModel_load (σ : rt_St)  : Option (Int32 × rt_St) :=
  (rt_put σ 0 29 0).bind fun σ1 =>
  (rt_put σ1 0 4 0).bind fun σ2 =>
  (rt_put σ2 0 5 (-3)).bind fun σ3 =>
  rt_b2 (M_R_RangeTellerModel_read σ3) fun v5 σ4 =>
  if v5 = 0 then
    (rt_put σ4 0 5 (σ4 0 2)).bind fun σ11 =>
    B_R_RangeTellerModel_load_33 v5 σ11
  else
    B_R_RangeTellerModel_load_33 v5 σ4
def M_R_RangeTellerModel_place (σ : rt_St)  : Option (Int32 × rt_St) :=
  some ((σ 0 5), σ)
def M_R_RangeTellerModel_input (σ : rt_St) (a1 : Int32) : Option (Int32 × rt_St) :=
  if a1 < 0 then
    some ((-3), σ)
  else
    if 63 < a1 then
      some ((-3), σ)
    else
      if (σ 0 27) = 12 then
        some ((-3), σ)
      else
        (rt_wr σ 19 12 (σ 0 27) a1).bind fun σ1 =>
        (rt_put σ1 0 27 ((σ1 0 27) + 1)).bind fun σ2 =>
        some ((σ2 0 27), σ2)
def M_R_RangeTellerModel_pop (σ : rt_St)  : Option (Int32 × rt_St) :=
  (rt_rd σ 23 8 (σ 0 30)).bind fun v1 =>
  (rt_wr σ 23 8 (σ 0 30) (v1 - 1)).bind fun σ2 =>
  (rt_rd σ2 23 8 (σ2 0 30)).bind fun v3 =>
  (rt_rd σ2 21 80 ((10 * (σ2 0 30)) + v3)).bind fun v4 =>
  some (v4, σ2)
def M_R_RangeTellerModel_push (σ : rt_St) (a1 : Int32) : Option rt_St :=
  (rt_rd σ 23 8 (σ 0 30)).bind fun v1 =>
  (rt_wr σ 21 80 ((10 * (σ 0 30)) + v1) (a1 &&& 63)).bind fun σ2 =>
  (rt_rd σ2 23 8 (σ2 0 30)).bind fun v3 =>
  (rt_wr σ2 23 8 (σ2 0 30) (v3 + 1)).bind fun σ4 =>
  some σ4
def B_R_RangeTellerModel_giveBack_25  (l2 : Int32) (t0 : Int32) (σ : rt_St) : Option (Int32 × rt_St) :=
  if (σ 0 30) = 0 then
    if l2 = 1 then
      (rt_put σ 0 39 t0).bind fun σ8 =>
      some (0, σ8)
    else
      (rt_put σ 0 39 (-3)).bind fun σ7 =>
      some (0, σ7)
  else
    (rt_rd σ 20 8 (σ 0 30)).bind fun v3 =>
    (rt_put σ 0 36 (v3 + 1)).bind fun σ4 =>
    (rt_put σ4 0 30 ((σ4 0 30) - 1)).bind fun σ5 =>
    if l2 = 1 then
      (M_R_RangeTellerModel_push σ5 t0).bind fun σ6 =>
      some (1, σ6)
    else
      some (1, σ5)
def M_R_RangeTellerModel_giveBack (σ : rt_St) (a1 : Int32) : Option (Int32 × rt_St) :=
  (rt_rd σ 4 100 a1).bind fun v1 =>
  (rt_rd σ 13 3 v1).bind fun v2 =>
  if v2 = 1 then
    rt_b2 (M_R_RangeTellerModel_pop σ) fun v10 σ9 =>
    B_R_RangeTellerModel_giveBack_25 v2 v10 σ9
  else
    B_R_RangeTellerModel_giveBack_25 v2 0 σ
def B_R_RangeTellerModel_branch_61  (l1 : Int32) (σ : rt_St) : Option (Int32 × rt_St) :=
  (rt_rd σ 8 100 l1).bind fun v5 =>
  (rt_rd σ 2 100 v5).bind fun v6 =>
  if v6 = 2 then
    (rt_rd σ 8 100 l1).bind fun v10 =>
    (rt_put σ 0 36 (v10 + 1)).bind fun σ11 =>
    some (1, σ11)
  else
    (rt_rd σ 8 100 l1).bind fun v7 =>
    (rt_rd σ 5 100 v7).bind fun v8 =>
    (rt_put σ 0 36 (v8 + 1)).bind fun σ9 =>
    some (1, σ9)
def B_R_RangeTellerModel_branch_35  (l1 : Int32) (l2 : Int32) (t0 : Int32) (σ : rt_St) : Option (Int32 × rt_St) :=
  (rt_rd σ 9 100 l1).bind fun v3 =>
  (rt_wr σ 23 8 (σ 0 30) v3).bind fun σ4 =>
  if l2 = 1 then
    (M_R_RangeTellerModel_push σ4 t0).bind fun σ12 =>
    B_R_RangeTellerModel_branch_61 l1 σ12
  else
    B_R_RangeTellerModel_branch_61 l1 σ4
def M_R_RangeTellerModel_branch (σ : rt_St) (a1 : Int32) : Option (Int32 × rt_St) :=
  (rt_rd σ 8 100 a1).bind fun v1 =>
  if 0 ≤ v1 then
    (rt_rd σ 10 100 a1).bind fun v2 =>
    if v2 = 1 then
      rt_b2 (M_R_RangeTellerModel_pop σ) fun v14 σ13 =>
      B_R_RangeTellerModel_branch_35 a1 v2 v14 σ13
    else
      B_R_RangeTellerModel_branch_35 a1 v2 0 σ
  else
    rt_b2 (M_R_RangeTellerModel_giveBack σ a1) fun v16 σ15 =>
    (rt_zok v16).bind fun _ =>
    some (v16, σ15)
def B_R_RangeTellerModel_enter_55  : Nat → Int32 → Int32 → Int32 → Int32 → rt_St → Option rt_St
  | 0, _, _, _, _, _ => none
  | n + 1, l1, l2, l4, l5, σ =>
    if l5 < 0 then
      (rt_put σ 0 30 ((σ 0 30) + 1)).bind fun σ3 =>
      (rt_wr σ3 20 8 (σ3 0 30) l1).bind fun σ4 =>
      (rt_wr σ4 23 8 (σ4 0 30) 0).bind fun σ5 =>
      (rt_rd σ5 14 3 l2).bind fun v6 =>
      (rt_put σ5 0 36 v6).bind fun σ7 =>
      some σ7
    else
      rt_b2 (M_R_RangeTellerModel_pop σ) fun v9 σ8 =>
      (rt_wr σ8 22 32 (l4 + l5) v9).bind fun σ10 =>
      (B_R_RangeTellerModel_enter_55 n) l1 l2 l4 (l5 + (-1)) σ10
def B_R_RangeTellerModel_enter_27  : Nat → Int32 → Int32 → Int32 → Int32 → Int32 → rt_St → Option rt_St
  | 0, _, _, _, _, _, _ => none
  | n + 1, l1, l2, l3, l4, l5, σ =>
    if 4 ≤ l5 then
      B_R_RangeTellerModel_enter_55 FU l1 l2 l4 (l3 - 1) σ
    else
      (rt_wr σ 22 32 (l4 + l5) 0).bind fun σ11 =>
      (B_R_RangeTellerModel_enter_27 n) l1 l2 l3 l4 (l5 + 1) σ11
def M_R_RangeTellerModel_enter (σ : rt_St) (a1 : Int32) : Option rt_St :=
  (rt_rd σ 3 100 a1).bind fun v1 =>
  (rt_rd σ 11 3 v1).bind fun v2 =>
  B_R_RangeTellerModel_enter_27 FU a1 v1 v2 (4 * ((σ 0 30) + 1)) 0 σ
def B_R_RangeTellerModel_trap_108  (l3 : Int32) (σ : rt_St) : Option (Int32 × rt_St) :=
  if l3 = 9 then
    if (σ 0 30) = 6 then
      some (4, σ)
    else
      some (0, σ)
  else
    some (0, σ)
def B_R_RangeTellerModel_trap_97  (l2 : Int32) (l3 : Int32) (σ : rt_St) : Option (Int32 × rt_St) :=
  (rt_rd σ 21 80 l2).bind fun v3 =>
  if v3 = 0 then
    some (3, σ)
  else
    B_R_RangeTellerModel_trap_108 l3 σ
def B_R_RangeTellerModel_trap_85  (l2 : Int32) (l3 : Int32) (σ : rt_St) : Option (Int32 × rt_St) :=
  if l3 = 24 then
    B_R_RangeTellerModel_trap_97 l2 l3 σ
  else
    if l3 = 25 then
      B_R_RangeTellerModel_trap_97 l2 l3 σ
    else
      B_R_RangeTellerModel_trap_108 l3 σ
def B_R_RangeTellerModel_trap_57  (l1 : Int32) (l2 : Int32) (l3 : Int32) (σ : rt_St) : Option (Int32 × rt_St) :=
  if l3 = 16 then
    (rt_rd σ 21 80 (l2 - 1)).bind fun v4 =>
    (rt_rd σ 3 100 l1).bind fun v5 =>
    if (v4 + v5) ≤ 15 then
      B_R_RangeTellerModel_trap_85 l2 l3 σ
    else
      some (2, σ)
  else
    B_R_RangeTellerModel_trap_85 l2 l3 σ
def M_R_RangeTellerModel_trap (σ : rt_St) (a1 : Int32) : Option (Int32 × rt_St) :=
  (rt_rd σ 23 8 (σ 0 30)).bind fun v1 =>
  (rt_rd σ 2 100 a1).bind fun v2 =>
  if v2 = 0 then
    some (1, σ)
  else
    if v2 = 15 then
      (rt_rd σ 21 80 (((10 * (σ 0 30)) + v1) - 1)).bind fun v6 =>
      (rt_rd σ 3 100 a1).bind fun v7 =>
      if 15 < (v6 + v7) then
        some (2, σ)
      else
        B_R_RangeTellerModel_trap_57 a1 (((10 * (σ 0 30)) + v1) - 1) v2 σ
    else
      B_R_RangeTellerModel_trap_57 a1 (((10 * (σ 0 30)) + v1) - 1) v2 σ
def B_R_RangeTellerModel_flow_128  (l1 : Int32) (σ : rt_St) : Option (Int32 × rt_St) :=
  rt_b2 (M_R_RangeTellerModel_giveBack σ l1) fun v12 σ11 =>
  if v12 = 0 then
    some (0, σ11)
  else
    some (1, σ11)
def B_R_RangeTellerModel_flow_80  (t0 : Int32) (σ : rt_St) : Option (Int32 × rt_St) :=
  (rt_put σ 0 36 (t0 + 1)).bind fun σ21 =>
  some (1, σ21)
def M_R_RangeTellerModel_flow (σ : rt_St) (a1 : Int32) : Option (Int32 × rt_St) :=
  (rt_rd σ 2 100 a1).bind fun v1 =>
  if v1 = 3 then
    rt_b2 (M_R_RangeTellerModel_pop σ) fun v18 σ17 =>
    if v18 = 0 then
      (rt_rd σ17 6 100 a1).bind fun v19 =>
      if v19 < 0 then
        (rt_rd σ17 5 100 a1).bind fun v20 =>
        B_R_RangeTellerModel_flow_80 v20 σ17
      else
        (rt_rd σ17 6 100 a1).bind fun v22 =>
        B_R_RangeTellerModel_flow_80 v22 σ17
    else
      some (1, σ17)
  else
  if v1 = 4 then
    (rt_rd σ 5 100 a1).bind fun v15 =>
    (rt_put σ 0 36 (v15 + 1)).bind fun σ16 =>
    some (1, σ16)
  else
  if v1 = 5 then
    if (σ 0 6) ≤ (a1 + 1) then
      B_R_RangeTellerModel_flow_128 a1 σ
    else
      (rt_rd σ 4 100 (a1 + 1)).bind fun v13 =>
      (rt_rd σ 4 100 a1).bind fun v14 =>
      if v13 = v14 then
        some (1, σ)
      else
        B_R_RangeTellerModel_flow_128 a1 σ
  else
  if v1 = 6 then
    rt_b2 (M_R_RangeTellerModel_branch σ a1) fun v10 σ9 =>
    (rt_zok v10).bind fun _ =>
    some (v10, σ9)
  else
  if v1 = 7 then
    rt_b2 (M_R_RangeTellerModel_pop σ) fun v6 σ5 =>
    if v6 = 0 then
      some (1, σ5)
    else
      rt_b2 (M_R_RangeTellerModel_branch σ5 a1) fun v8 σ7 =>
      if v8 = 0 then
        some (0, σ7)
      else
        some (1, σ7)
  else
  if v1 = 8 then
    rt_b2 (M_R_RangeTellerModel_giveBack σ a1) fun v4 σ3 =>
    (rt_zok v4).bind fun _ =>
    some (v4, σ3)
  else
  if v1 = 9 then
    (M_R_RangeTellerModel_enter σ a1).bind fun σ2 =>
    some (1, σ2)
  else
  some (1, σ)
def B_R_RangeTellerModel_act_147  (l3 : Int32) (l4 : Int32) (l5 : Int32) (l6 : Int32) (σ : rt_St) : Option rt_St :=
  (rt_wr σ 22 32 (l5 + l4) l6).bind fun σ5 =>
  if l3 = 14 then
    (M_R_RangeTellerModel_push σ5 l6).bind fun σ6 =>
    some σ6
  else
    some σ5
def B_R_RangeTellerModel_act_269  (σ : rt_St) : Option rt_St :=
  (rt_put σ 0 41 ((σ 0 41) + 1)).bind fun σ11 =>
  some σ11
def B_R_RangeTellerModel_act_237  (t0 : Int32) (σ : rt_St) : Option rt_St :=
  (M_R_RangeTellerModel_push σ t0).bind fun σ13 =>
  some σ13
def B_R_RangeTellerModel_act_129  (t0 : Int32) (σ : rt_St) : Option rt_St :=
  (M_R_RangeTellerModel_push σ t0).bind fun σ23 =>
  some σ23
def B_R_RangeTellerModel_act_86  (t0 : Int32) (σ : rt_St) : Option rt_St :=
  (M_R_RangeTellerModel_push σ t0).bind fun σ24 =>
  some σ24
def M_R_RangeTellerModel_act (σ : rt_St) (a1 : Int32) (a2 : Int32) : Option rt_St :=
  (rt_rd σ 2 100 a1).bind fun v1 =>
  (rt_rd σ 3 100 a1).bind fun v2 =>
  if v1 = 12 then
    (rt_rd σ 22 32 ((4 * (σ 0 30)) + v2)).bind fun v27 =>
    (M_R_RangeTellerModel_push σ v27).bind fun σ28 =>
    some σ28
  else
    if v1 = 17 then
      (M_R_RangeTellerModel_push σ v2).bind fun σ26 =>
      some σ26
    else
      if v1 = 27 then
        if (σ 0 27) ≤ a2 then
          B_R_RangeTellerModel_act_86 0 σ
        else
          (rt_rd σ 19 12 a2).bind fun v25 =>
          B_R_RangeTellerModel_act_86 v25 σ
      else
        rt_b2 (M_R_RangeTellerModel_pop σ) fun v4 σ3 =>
        if v1 = 11 then
          rt_b2 (M_R_RangeTellerModel_pop σ3) fun v20 σ19 =>
          rt_b2 (M_R_RangeTellerModel_pop σ19) fun v22 σ21 =>
          if v4 = 0 then
            B_R_RangeTellerModel_act_129 v20 σ21
          else
            B_R_RangeTellerModel_act_129 v22 σ21
        else
          if v1 = 13 then
            B_R_RangeTellerModel_act_147 v1 v2 (4 * (σ 0 30)) v4 σ3
          else
            if v1 = 14 then
              B_R_RangeTellerModel_act_147 v1 v2 (4 * (σ 0 30)) v4 σ3
            else
              if v1 = 15 then
                (rt_rd σ3 24 16 (v4 + v2)).bind fun v17 =>
                (M_R_RangeTellerModel_push σ3 v17).bind fun σ18 =>
                some σ18
              else
                if v1 = 16 then
                  rt_b2 (M_R_RangeTellerModel_pop σ3) fun v15 σ14 =>
                  (rt_wr σ14 24 16 (v15 + v2) v4).bind fun σ16 =>
                  some σ16
                else
                  if v1 = 18 then
                    if v4 = 0 then
                      B_R_RangeTellerModel_act_237 1 σ3
                    else
                      B_R_RangeTellerModel_act_237 0 σ3
                  else
                    if v1 = 28 then
                      if 20 ≤ (σ3 0 41) then
                        B_R_RangeTellerModel_act_269 σ3
                      else
                        (rt_wr σ3 25 20 (σ3 0 41) v4).bind fun σ12 =>
                        B_R_RangeTellerModel_act_269 σ12
                    else
                      if v1 ≤ 18 then
                        some σ3
                      else
                        rt_b2 (M_R_RangeTellerModel_pop σ3) fun v8 σ7 =>
                        (M_R_RangeTellerModel_operate v1 v8 v4).bind fun v9 =>
                        (M_R_RangeTellerModel_push σ7 v9).bind fun σ10 =>
                        some σ10
def B_R_RangeTellerModel_run_306 (K172 : Int32 → Int32 → rt_St → Option (Int32 × rt_St)) (l4 : Int32) (l5 : Int32) (σ : rt_St) : Option (Int32 × rt_St) :=
  K172 l4 l5 σ
def B_R_RangeTellerModel_run_172  : Nat → Int32 → Int32 → rt_St → Option (Int32 × rt_St)
  | 0, _, _, _ => none
  | n + 1, l4, l5, σ =>
    if 0 ≤ (σ 0 38) then
      (rt_put σ 0 27 0).bind fun σ12 =>
      (rt_put σ12 0 29 1).bind fun σ13 =>
      some ((σ13 0 38), σ13)
    else
      if (σ 0 37) = l4 then
        (rt_put σ 0 38 5).bind fun σ26 =>
        (rt_put σ26 0 40 (σ 0 36)).bind fun σ27 =>
        (B_R_RangeTellerModel_run_172 n) l4 l5 σ27
      else
        (rt_put σ 0 37 ((σ 0 37) + 1)).bind fun σ14 =>
        rt_b2 (M_R_RangeTellerModel_trap σ14 (σ 0 36)) fun v16 σ15 =>
        if v16 ≤ 0 then
          (rt_put σ15 0 36 ((σ 0 36) + 1)).bind fun σ17 =>
          (rt_rd σ17 2 100 (σ 0 36)).bind fun v18 =>
          if 10 ≤ v18 then
            (M_R_RangeTellerModel_act σ17 (σ 0 36) l5).bind fun σ19 =>
            (rt_rd σ19 2 100 (σ 0 36)).bind fun v20 =>
            if v20 = 27 then
              B_R_RangeTellerModel_run_306 (B_R_RangeTellerModel_run_172 n) l4 (l5 + 1) σ19
            else
              B_R_RangeTellerModel_run_306 (B_R_RangeTellerModel_run_172 n) l4 l5 σ19
          else
            rt_b2 (M_R_RangeTellerModel_flow σ17 (σ 0 36)) fun v22 σ21 =>
            if v22 = 0 then
              (rt_put σ21 0 38 0).bind fun σ23 =>
              B_R_RangeTellerModel_run_306 (B_R_RangeTellerModel_run_172 n) l4 l5 σ23
            else
              B_R_RangeTellerModel_run_306 (B_R_RangeTellerModel_run_172 n) l4 l5 σ21
        else
          (rt_put σ15 0 38 v16).bind fun σ24 =>
          (rt_put σ24 0 40 (σ 0 36)).bind fun σ25 =>
          (B_R_RangeTellerModel_run_172 n) l4 l5 σ25
def B_R_RangeTellerModel_run_120  (l4 : Int32) (σ : rt_St) : Option (Int32 × rt_St) :=
  (rt_put σ 0 30 0).bind fun σ3 =>
  (rt_wr σ3 23 8 0 0).bind fun σ4 =>
  (rt_rd σ4 14 3 0).bind fun v5 =>
  (rt_put σ4 0 36 v5).bind fun σ6 =>
  (rt_put σ6 0 37 0).bind fun σ7 =>
  (rt_put σ7 0 41 0).bind fun σ8 =>
  (rt_put σ8 0 39 (-3)).bind fun σ9 =>
  (rt_put σ9 0 40 (-3)).bind fun σ10 =>
  (rt_put σ10 0 38 (-1)).bind fun σ11 =>
  B_R_RangeTellerModel_run_172 FU l4 0 σ11
def B_R_RangeTellerModel_run_100  (l2 : Int32) (l4 : Int32) (σ : rt_St) : Option (Int32 × rt_St) :=
  (rt_rd σ 11 3 0).bind fun v2 =>
  if v2 ≤ 1 then
    B_R_RangeTellerModel_run_120 l4 σ
  else
    (rt_wr σ 22 32 1 (l2 &&& 63)).bind fun σ28 =>
    B_R_RangeTellerModel_run_120 l4 σ28
def B_R_RangeTellerModel_run_61  : Nat → Int32 → Int32 → Int32 → Int32 → rt_St → Option (Int32 × rt_St)
  | 0, _, _, _, _, _ => none
  | n + 1, l1, l2, l4, l5, σ =>
    if 4 ≤ l5 then
      (rt_rd σ 11 3 0).bind fun v1 =>
      if v1 ≤ 0 then
        B_R_RangeTellerModel_run_100 l2 l4 σ
      else
        (rt_wr σ 22 32 0 (l1 &&& 63)).bind fun σ29 =>
        B_R_RangeTellerModel_run_100 l2 l4 σ29
    else
      (rt_wr σ 22 32 l5 0).bind fun σ30 =>
      (B_R_RangeTellerModel_run_61 n) l1 l2 l4 (l5 + 1) σ30
def B_R_RangeTellerModel_run_37  : Nat → Int32 → Int32 → Int32 → Int32 → rt_St → Option (Int32 × rt_St)
  | 0, _, _, _, _, _ => none
  | n + 1, l1, l2, l4, l5, σ =>
    if 16 ≤ l5 then
      B_R_RangeTellerModel_run_61 FU l1 l2 l4 0 σ
    else
      (rt_wr σ 24 16 l5 0).bind fun σ31 =>
      (B_R_RangeTellerModel_run_37 n) l1 l2 l4 (l5 + 1) σ31
def B_R_RangeTellerModel_run_32  (l1 : Int32) (l2 : Int32) (t0 : Int32) (σ : rt_St) : Option (Int32 × rt_St) :=
  B_R_RangeTellerModel_run_37 FU l1 l2 t0 0 σ
def M_R_RangeTellerModel_run (σ : rt_St) (a1 : Int32) (a2 : Int32) (a3 : Int32) : Option (Int32 × rt_St) :=
  if (σ 0 4) = 0 then
    some ((-3), σ)
  else
    if 0 ≤ a3 then
      if a3 ≤ 2000 then
        B_R_RangeTellerModel_run_32 a1 a2 a3 σ
      else
        B_R_RangeTellerModel_run_32 a1 a2 2000 σ
    else
      B_R_RangeTellerModel_run_32 a1 a2 0 σ
def M_R_RangeTellerModel_outcome (σ : rt_St) (a1 : Int32) : Option (Int32 × rt_St) :=
  if (σ 0 29) = 0 then
    some ((-3), σ)
  else
    if a1 = 0 then
      some ((σ 0 39), σ)
    else
      if a1 = 1 then
        some ((σ 0 40), σ)
      else
        if a1 = 2 then
          some ((σ 0 37), σ)
        else
          if a1 = 3 then
            some ((σ 0 41), σ)
          else
            some ((-3), σ)
def M_R_RangeTellerModel_output (σ : rt_St) (a1 : Int32) : Option (Int32 × rt_St) :=
  if (σ 0 29) = 0 then
    some ((-3), σ)
  else
    if a1 < 0 then
      some ((-3), σ)
    else
      if (σ 0 41) ≤ a1 then
        some ((-3), σ)
      else
        if a1 ≤ 19 then
          (rt_rd σ 25 20 a1).bind fun v1 =>
          some (v1, σ)
        else
          some ((-3), σ)
def M_R_RangeTellerModel_memory (σ : rt_St) (a1 : Int32) : Option (Int32 × rt_St) :=
  if (σ 0 29) = 0 then
    some ((-3), σ)
  else
    if a1 < 0 then
      some ((-3), σ)
    else
      if a1 ≤ 15 then
        (rt_rd σ 24 16 a1).bind fun v1 =>
        some (v1, σ)
      else
        some ((-3), σ)
def B_R_RangeTellerModel_flags_67  (l1 : Int32) (t0 : Int32) (σ : rt_St) : Option (Int32 × rt_St) :=
  (rt_rd σ 29 1000 t0).bind fun v4 =>
  (rt_rd σ 3 100 l1).bind fun v5 =>
  if (v4 + v5) ≤ 15 then
    some (0, σ)
  else
    some (2, σ)
def B_R_RangeTellerModel_flags_50  (l1 : Int32) (l2 : Int32) (l3 : Int32) (σ : rt_St) : Option (Int32 × rt_St) :=
  if l2 = 15 then
    B_R_RangeTellerModel_flags_67 l1 l3 σ
  else
    B_R_RangeTellerModel_flags_67 l1 (l3 - 1) σ
def B_R_RangeTellerModel_flags_98  (l3 : Int32) (σ : rt_St) : Option (Int32 × rt_St) :=
  (rt_rd σ 28 1000 l3).bind fun v6 =>
  if v6 = 0 then
    some (4, σ)
  else
    some (0, σ)
def M_R_RangeTellerModel_flags (σ : rt_St) (a1 : Int32) : Option (Int32 × rt_St) :=
  (rt_rd σ 26 101 a1).bind fun v1 =>
  if v1 = 0 then
    some (0, σ)
  else
    (rt_rd σ 2 100 a1).bind fun v2 =>
    (rt_rd σ 7 101 a1).bind fun v3 =>
    if v2 = 0 then
      some (1, σ)
    else
      if v2 = 15 then
        B_R_RangeTellerModel_flags_50 a1 v2 (((10 * a1) + v3) - 1) σ
      else
        if v2 = 16 then
          B_R_RangeTellerModel_flags_50 a1 v2 (((10 * a1) + v3) - 1) σ
        else
          if v2 = 24 then
            B_R_RangeTellerModel_flags_98 (((10 * a1) + v3) - 1) σ
          else
            if v2 = 25 then
              B_R_RangeTellerModel_flags_98 (((10 * a1) + v3) - 1) σ
            else
              if v2 = 28 then
                (rt_rd σ 30 1000 (((10 * a1) + v3) - 1)).bind fun v7 =>
                if v7 = 0 then
                  some (0, σ)
                else
                  some (8, σ)
              else
                some (0, σ)
def M_R_RangeTellerModel_isInstruction (σ : rt_St) (a1 : Int32) : Option (Int32 × rt_St) :=
  if (σ 0 4) = 0 then
    some (0, σ)
  else
    if a1 < 0 then
      some (0, σ)
    else
      if (σ 0 6) ≤ a1 then
        some (0, σ)
      else
        some (1, σ)
def M_R_RangeTellerModel_instruction (σ : rt_St) (a1 : Int32) (a2 : Int32) : Option (Int32 × rt_St) :=
  rt_b2 (M_R_RangeTellerModel_isInstruction σ a1) fun v2 σ1 =>
  if v2 = 0 then
    some ((-3), σ1)
  else
    if a2 = 0 then
      (rt_rd σ1 2 100 a1).bind fun v11 =>
      some (v11, σ1)
    else
    if a2 = 1 then
      (rt_rd σ1 3 100 a1).bind fun v10 =>
      some (v10, σ1)
    else
    if a2 = 2 then
      (rt_rd σ1 26 101 a1).bind fun v9 =>
      if v9 = 0 then
        some (0, σ1)
      else
        some (1, σ1)
    else
    if a2 = 3 then
      rt_b2 (M_R_RangeTellerModel_flags σ1 a1) fun v8 σ7 =>
      some (v8, σ7)
    else
    if a2 = 4 then
      (rt_rd σ1 5 100 a1).bind fun v5 =>
      if v5 < 0 then
        some ((-3), σ1)
      else
        (rt_rd σ1 5 100 a1).bind fun v6 =>
        some ((v6 + 1), σ1)
    else
    if a2 = 5 then
      (rt_rd σ1 26 101 a1).bind fun v3 =>
      if v3 = 0 then
        some ((-3), σ1)
      else
        (rt_rd σ1 7 101 a1).bind fun v4 =>
        some (v4, σ1)
    else
    some ((-3), σ1)
def M_R_RangeTellerModel_code (a0 : Int32) (a1 : Int32) (a2 : Int32) : Option Int32 :=
  if a2 = 0 then
    some ((a0 + (64 * a1)) + 0)
  else
    some ((a0 + (64 * a1)) + 4096)
def M_R_RangeTellerModel_operand (σ : rt_St) (a1 : Int32) (a2 : Int32) : Option (Int32 × rt_St) :=
  rt_b2 (M_R_RangeTellerModel_isInstruction σ a1) fun v2 σ1 =>
  if v2 = 0 then
    some ((-3), σ1)
  else
    (rt_rd σ1 26 101 a1).bind fun v3 =>
    if v3 = 0 then
      some ((-3), σ1)
    else
      if a2 < 0 then
        some ((-3), σ1)
      else
        (rt_rd σ1 7 101 a1).bind fun v4 =>
        if a2 < v4 then
          (rt_rd σ1 7 101 a1).bind fun v5 =>
          (rt_rd σ1 28 1000 ((((10 * a1) + v5) - 1) - a2)).bind fun v6 =>
          (rt_rd σ1 29 1000 ((((10 * a1) + v5) - 1) - a2)).bind fun v7 =>
          (rt_rd σ1 30 1000 ((((10 * a1) + v5) - 1) - a2)).bind fun v8 =>
          (M_R_RangeTellerModel_code v6 v7 v8).bind fun v9 =>
          some (v9, σ1)
        else
          some ((-3), σ1)
def M_R_RangeTellerModel_local (σ : rt_St) (a1 : Int32) (a2 : Int32) : Option (Int32 × rt_St) :=
  rt_b2 (M_R_RangeTellerModel_isInstruction σ a1) fun v2 σ1 =>
  if v2 = 0 then
    some ((-3), σ1)
  else
    (rt_rd σ1 26 101 a1).bind fun v3 =>
    if v3 = 0 then
      some ((-3), σ1)
    else
      if a2 < 0 then
        some ((-3), σ1)
      else
        (rt_rd σ1 4 100 a1).bind fun v4 =>
        (rt_rd σ1 11 3 v4).bind fun v5 =>
        (rt_rd σ1 4 100 a1).bind fun v6 =>
        (rt_rd σ1 12 3 v6).bind fun v7 =>
        if a2 < (v5 + v7) then
          (rt_rd σ1 31 400 ((4 * a1) + a2)).bind fun v8 =>
          (rt_rd σ1 32 400 ((4 * a1) + a2)).bind fun v9 =>
          (rt_rd σ1 33 400 ((4 * a1) + a2)).bind fun v10 =>
          (M_R_RangeTellerModel_code v8 v9 v10).bind fun v11 =>
          some (v11, σ1)
        else
          some ((-3), σ1)
def M_R_RangeTellerModel_cell (σ : rt_St) (a1 : Int32) : Option (Int32 × rt_St) :=
  if (σ 0 4) = 0 then
    some ((-3), σ)
  else
    if a1 < 0 then
      some ((-3), σ)
    else
      if a1 ≤ 15 then
        (rt_rd σ 34 16 a1).bind fun v1 =>
        (rt_rd σ 35 16 a1).bind fun v2 =>
        (rt_rd σ 36 16 a1).bind fun v3 =>
        (M_R_RangeTellerModel_code v1 v2 v3).bind fun v4 =>
        some (v4, σ)
      else
        some ((-3), σ)
def M_R_RangeTellerModel_function (σ : rt_St) (a1 : Int32) (a2 : Int32) : Option (Int32 × rt_St) :=
  if (σ 0 4) = 0 then
    some ((-3), σ)
  else
    if a1 < 0 then
      some ((-3), σ)
    else
      if a1 < (σ 0 16) then
        if a2 = 0 then
          (rt_rd σ 14 3 a1).bind fun v11 =>
          some (v11, σ)
        else
        if a2 = 1 then
          (rt_rd σ 11 3 a1).bind fun v10 =>
          some (v10, σ)
        else
        if a2 = 2 then
          (rt_rd σ 12 3 a1).bind fun v9 =>
          some (v9, σ)
        else
        if a2 = 3 then
          (rt_rd σ 13 3 a1).bind fun v8 =>
          some (v8, σ)
        else
        if a2 = 4 then
          (rt_rd σ 13 3 a1).bind fun v2 =>
          if v2 = 1 then
            (rt_rd σ 40 3 a1).bind fun v3 =>
            if v3 = 0 then
              some ((-3), σ)
            else
              (rt_rd σ 37 3 a1).bind fun v4 =>
              (rt_rd σ 38 3 a1).bind fun v5 =>
              (rt_rd σ 39 3 a1).bind fun v6 =>
              (M_R_RangeTellerModel_code v4 v5 v6).bind fun v7 =>
              some (v7, σ)
          else
            some ((-3), σ)
        else
        if a2 = 5 then
          (rt_rd σ 40 3 a1).bind fun v1 =>
          if v1 = 0 then
            some (0, σ)
          else
            some (1, σ)
        else
        some ((-3), σ)
      else
        some ((-3), σ)
