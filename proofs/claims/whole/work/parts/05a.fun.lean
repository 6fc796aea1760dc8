def f_J0_length_8abf5 (N s : Nat) (M : v_M) : Option (Int32 × v_M) := v_ck (decide (s < 21)) <| some (Int32.ofNat (v_sn.getD s 0), M)
def f_J0_charAt_5068e (N s : Nat) (x1 : Int32) (M : v_M) : Option (Int32 × v_M) := v_ck (decide (s < 21)) <| v_ck (v_ib x1 (v_sn.getD s 0)) <| some ((v_sb.getD s []).getD x1.toNatClampNeg 0 &&& 255, M)
theorem lt_J0_length_8abf5 {N s : Nat} {M : v_M} {o : Int32 × v_M} (h : f_J0_length_8abf5 N s M = some o) : s < 21 := of_decide_eq_true (v_ckS h).1
theorem lt_J0_charAt_5068e {N s : Nat} {x : Int32} {M : v_M} {o : Int32 × v_M} (h : f_J0_charAt_5068e N s x M = some o) : s < 21 := of_decide_eq_true (v_ckS h).1
def f_X0_heldForce (N : Nat) (M : v_M) : Option (Int32 × v_M) :=
  some ((v_mx (0 : Int32) (M.1 49 4)), M)
def f_X1_add (N : Nat) (x1 : Int32) (x2 : Int32) (x3 : Int32) (x4 : Int32) (x5 : Int32) (M : v_M) : Option (Int32 × v_M) :=
  if (M.1 29 0) < (8 : Int32) then (v_let ((M.1 29 0)) fun y1 => v_ck (v_ib y1 8) <| v_let (v_wr M 30 y1.toNatClampNeg x1) fun M2 => v_ck (v_ib y1 8) <| v_let (v_wr M2 31 y1.toNatClampNeg x2) fun M3 => v_ck (v_ib y1 8) <| v_let (v_wr M3 32 y1.toNatClampNeg x3) fun M4 => v_ck (v_ib y1 8) <| v_let (v_wr M4 33 y1.toNatClampNeg x4) fun M5 => v_ck (v_ib y1 8) <| v_let (v_wr M5 34 y1.toNatClampNeg x5) fun M6 => v_let (v_wr M6 29 0 (y1 + (1 : Int32))) fun M7 => some (y1, M7)) else (some ((-1 : Int32), M))
def f_X1_coinsOf_L4 (N : Nat) : Nat → Int32 → Int32 → Int32 → v_M → Option (Int32 × v_M)
  | 0, _, _, _, _ => none
  | n + 1, x1, x2, x3, M => if (M.1 29 0) ≤ x3 then (some (x2, M)) else (v_ck (v_ib x3 8) <| v_let ((x2 + (((x1 >>> (x3 &&& 31)) &&& (1 : Int32)) * (M.1 34 x3.toNatClampNeg)))) fun y1 => f_X1_coinsOf_L4 N n x1 y1 (x3 + (1 : Int32)) M)
def f_X1_coinsOf (N : Nat) (x1 : Int32) (M : v_M) : Option (Int32 × v_M) :=
  f_X1_coinsOf_L4 N N x1 (0 : Int32) (0 : Int32) M
def f_X2_mostAsked_L43 (N : Nat) (x2 : Int32) (t0 : Int32) (M : v_M) : Option (Int32 × v_M) :=
  v_ck (v_ib x2 24) <| v_ck (v_ib x2 24) <| v_ck (v_ib x2 24) <| if ((M.1 7 x2.toNatClampNeg) - (M.1 24 x2.toNatClampNeg)) ≤ (M.1 27 x2.toNatClampNeg) then (some (t0, M)) else (v_ck (v_ib x2 24) <| v_ck (v_ib x2 24) <| v_let ((v_mn t0 ((M.1 27 x2.toNatClampNeg) + (M.1 24 x2.toNatClampNeg)))) fun y1 => some (y1, M))
def f_X2_mostAsked_L25 (N : Nat) (x2 : Int32) (t0 : Int32) (M : v_M) : Option (Int32 × v_M) :=
  if t0 = 0 then (v_ck (v_ib x2 24) <| f_X2_mostAsked_L43 N x2 (M.1 7 x2.toNatClampNeg) M) else (f_X2_mostAsked_L43 N x2 (1000000 : Int32) M)
def f_X2_mostAsked_L24 (N : Nat) (x2 : Int32) (M : v_M) : Option (Int32 × v_M) :=
  f_X2_mostAsked_L25 N x2 (0 : Int32) M
def f_X2_mostAsked (N : Nat) (x2 : Int32) (x3 : Int32) (M : v_M) : Option (Int32 × v_M) :=
  v_ck (v_ib x2 24) <| if (M.1 2 x2.toNatClampNeg) = (1 : Int32) then (v_ck (v_ib x2 24) <| if x3 < (M.1 20 x2.toNatClampNeg) then (f_X2_mostAsked_L24 N x2 M) else (f_X2_mostAsked_L25 N x2 (1 : Int32) M)) else (f_X2_mostAsked_L24 N x2 M)
def f_X2_bend_L58 (N : Nat) (k2 : Int32 → v_M → Option (Int32 × v_M)) (x2 : Int32) (M : v_M) : Option (Int32 × v_M) :=
  k2 (x2 + (1 : Int32)) M
def f_X2_bend_L2 (N : Nat) : Nat → Int32 → v_M → Option (Int32 × v_M)
  | 0, _, _ => none
  | n + 1, x2, M => if (M.1 1 0) ≤ x2 then (some (0, M)) else (v_ck (v_ib x2 24) <| v_ck (v_ib x2 24) <| v_let (((M.1 26 x2.toNatClampNeg) - (M.1 7 x2.toNatClampNeg))) fun y1 => v_ck (v_ib x2 24) <| if (M.1 2 x2.toNatClampNeg) = (1 : Int32) then (if y1 ≤ 0 then (f_X2_bend_L58 N (f_X2_bend_L2 N n) x2 M) else (v_ck (v_ib x2 24) <| v_ck (v_ib x2 24) <| v_let (v_wr M 24 x2.toNatClampNeg (v_mn (9999 : Int32) ((M.1 24 x2.toNatClampNeg) + y1))) fun M2 => f_X2_bend_L58 N (f_X2_bend_L2 N n) x2 M2)) else (f_X2_bend_L58 N (f_X2_bend_L2 N n) x2 M))
def f_X2_bend (N : Nat) (M : v_M) : Option (Int32 × v_M) :=
  f_X2_bend_L2 N N (1 : Int32) M
def f_X2_lookBit (N : Nat) (x0 : Int32) (M : v_M) : Option (Int32 × v_M) :=
  if x0 = 0 then (some ((1 : Int32), M)) else (if x0 ≤ (2 : Int32) then (some ((0 : Int32), M)) else (some (((1 : Int32) <<< ((x0 - (2 : Int32)) &&& 31)), M)))
def f_X2_holdAgainst_L79 (N : Nat) (k5 : Int32 → Int32 → Int32 → v_M → Option (Int32 × v_M)) (x1 : Int32) (x3 : Int32) (x4 : Int32) (x6 : Int32) (M : v_M) : Option (Int32 × v_M) :=
  if x6 = x3 then (some (x3, M)) else (k5 x1 x6 (x4 + (1 : Int32)) M)
def f_X2_holdAgainst_L73 (N : Nat) (k5 : Int32 → Int32 → Int32 → v_M → Option (Int32 × v_M)) (k31 : Int32 → Int32 → Int32 → Int32 → Int32 → Int32 → v_M → Option (Int32 × v_M)) (x1 : Int32) (x3 : Int32) (x4 : Int32) (x5 : Int32) (x6 : Int32) (x7 : Int32) (M : v_M) : Option (Int32 × v_M) :=
  k31 x1 x3 x4 x5 x6 (x7 + (1 : Int32)) M
def f_X2_holdAgainst_L31 (N : Nat) (k5 : Int32 → Int32 → Int32 → v_M → Option (Int32 × v_M)) : Nat → Int32 → Int32 → Int32 → Int32 → Int32 → Int32 → v_M → Option (Int32 × v_M)
  | 0, _, _, _, _, _, _, _ => none
  | n + 1, x1, x3, x4, x5, x6, x7, M => if x3 ≤ x7 then (f_X2_holdAgainst_L79 N k5 x1 x3 x4 x6 M) else (if (24 : Int32) ≤ x7 then (f_X2_holdAgainst_L79 N k5 x1 x3 x4 x6 M) else (v_ck (v_ib x7 24) <| if (M.1 28 x7.toNatClampNeg) < x5 then (f_X2_holdAgainst_L73 N k5 (f_X2_holdAgainst_L31 N k5 n) x1 x3 x4 x5 x6 x7 M) else (v_ck (v_ib x7 24) <| v_ck (v_ib x6 24) <| v_let (v_wr M 28 x6.toNatClampNeg (M.1 28 x7.toNatClampNeg)) fun M1 => f_X2_holdAgainst_L73 N k5 (f_X2_holdAgainst_L31 N k5 n) x1 x3 x4 x5 (x6 + (1 : Int32)) x7 M1)))
def f_X2_holdAgainst_L5 (N : Nat) : Nat → Int32 → Int32 → Int32 → v_M → Option (Int32 × v_M)
  | 0, _, _, _, _ => none
  | n + 1, x1, x3, x4, M => if (24 : Int32) ≤ x4 then (some (x3, M)) else (if x3 ≤ 0 then (some (x3, M)) else (v_ck (v_nz x3) <| v_let ((((x1 + x3) - (1 : Int32)) / x3)) fun y1 => f_X2_holdAgainst_L31 N (f_X2_holdAgainst_L5 N n) N x1 x3 x4 y1 (0 : Int32) (0 : Int32) M))
def f_X2_holdAgainst (N : Nat) (x1 : Int32) (x2 : Int32) (M : v_M) : Option (Int32 × v_M) :=
  f_X2_holdAgainst_L5 N N x1 x2 (0 : Int32) M
def f_X3_add (N : Nat) (x1 : Int32) (x2 : Int32) (x3 : Int32) (x4 : Int32) (x5 : Int32) (x6 : Int32) (x7 : Int32) (M : v_M) : Option (Int32 × v_M) :=
  if (M.1 1 0) < (24 : Int32) then (v_let ((M.1 1 0)) fun y1 => v_ck (v_ib y1 24) <| v_let (v_wr M 2 y1.toNatClampNeg x1) fun M2 => v_ck (v_ib y1 24) <| v_let (v_wr M2 3 y1.toNatClampNeg x2) fun M3 => v_ck (v_ib y1 24) <| v_let (v_wr M3 4 y1.toNatClampNeg x3) fun M4 => v_ck (v_nz (10 : Int32)) <| v_ck (v_ib y1 24) <| v_let (v_wr M4 5 y1.toNatClampNeg (x4 / (10 : Int32))) fun M5 => v_ck (v_nz (10 : Int32)) <| v_ck (v_ib y1 24) <| v_let (v_wr M5 6 y1.toNatClampNeg (x4 - x4 / (10 : Int32) * (10 : Int32))) fun M6 => v_ck (v_ib y1 24) <| v_let (v_wr M6 7 y1.toNatClampNeg x5) fun M7 => v_ck (v_ib y1 24) <| v_let (v_wr M7 8 y1.toNatClampNeg x6) fun M8 => v_ck (v_ib y1 24) <| v_let (v_wr M8 9 y1.toNatClampNeg x7) fun M9 => v_let (v_wr M9 1 0 (y1 + (1 : Int32))) fun M10 => some (y1, M10)) else (some ((-1 : Int32), M))
def f_X4_spot (N : Nat) (x0 : Int32) (x1 : Int32) (M : v_M) : Option (Int32 × v_M) :=
  some (((x0 * (24 : Int32)) + x1), M)
def f_X4_add (N : Nat) (q0 : Nat) (M : v_M) : Option (Int32 × v_M) :=
  if (M.1 q0 0) < (20 : Int32) then (v_let (v_wr M q0 0 ((M.1 q0 0) + (1 : Int32))) fun M1 => some (((M1.1 q0 0) - (1 : Int32)), M1)) else (some ((-1 : Int32), M))
def f_X4_become (N : Nat) (q0 : Nat) (q1 : Nat) (M : v_M) : Option (Int32 × v_M) :=
  v_let (v_wr M q0 0 (M.1 q1 0)) fun M1 => v_ck (v_cpk (0 : Int32) (0 : Int32) (480 : Int32) 480 480) <| v_let (v_row M1 (q0 + 1) (va_cpy (M1.1 (q1 + 1)) (M1.1 (q0 + 1)) (0 : Int32).toNatClampNeg (0 : Int32).toNatClampNeg (480 : Int32).toNatClampNeg)) fun M2 => v_ck (v_cpk (0 : Int32) (0 : Int32) (480 : Int32) 480 480) <| v_let (v_row M2 (q0 + 2) (va_cpy (M2.1 (q1 + 2)) (M2.1 (q0 + 2)) (0 : Int32).toNatClampNeg (0 : Int32).toNatClampNeg (480 : Int32).toNatClampNeg)) fun M3 => v_ck (v_cpk (0 : Int32) (0 : Int32) (480 : Int32) 480 480) <| v_let (v_row M3 (q0 + 3) (va_cpy (M3.1 (q1 + 3)) (M3.1 (q0 + 3)) (0 : Int32).toNatClampNeg (0 : Int32).toNatClampNeg (480 : Int32).toNatClampNeg)) fun M4 => v_ck (v_cpk (0 : Int32) (0 : Int32) (480 : Int32) 480 480) <| v_let (v_row M4 (q0 + 4) (va_cpy (M4.1 (q1 + 4)) (M4.1 (q0 + 4)) (0 : Int32).toNatClampNeg (0 : Int32).toNatClampNeg (480 : Int32).toNatClampNeg)) fun M5 => v_ck (v_cpk (0 : Int32) (0 : Int32) (20 : Int32) 20 20) <| v_let (v_row M5 (q0 + 5) (va_cpy (M5.1 (q1 + 5)) (M5.1 (q0 + 5)) (0 : Int32).toNatClampNeg (0 : Int32).toNatClampNeg (20 : Int32).toNatClampNeg)) fun M6 => v_ck (v_cpk (0 : Int32) (0 : Int32) (20 : Int32) 20 20) <| v_let (v_row M6 (q0 + 6) (va_cpy (M6.1 (q1 + 6)) (M6.1 (q0 + 6)) (0 : Int32).toNatClampNeg (0 : Int32).toNatClampNeg (20 : Int32).toNatClampNeg)) fun M7 => some (0, M7)
def f_X5_clear (N : Nat) (q0 : Nat) (M : v_M) : Option (Int32 × v_M) :=
  v_let (v_wr M q0 2 (0 : Int32)) fun M1 => v_let (v_wr M1 q0 3 (0 : Int32)) fun M2 => some (0, M2)
def f_X5_emit (N : Nat) (q0 : Nat) (x1 : Int32) (M : v_M) : Option (Int32 × v_M) :=
  if (400 : Int32) ≤ (M.1 q0 3) then (some (0, M)) else (v_ck (v_ib (M.1 q0 3) 400) <| v_let (v_wr M (q0 + 6) (M.1 q0 3).toNatClampNeg x1) fun M1 => v_let (v_wr M1 q0 3 ((M1.1 q0 3) + (1 : Int32))) fun M2 => some (0, M2))
def f_X6_add (N : Nat) (x1 : Int32) (x2 : Int32) (x3 : Int32) (M : v_M) : Option (Int32 × v_M) :=
  if (M.1 71 0) < (30 : Int32) then (v_let ((M.1 71 0)) fun y1 => v_ck (v_ib y1 30) <| v_let (v_wr M 72 y1.toNatClampNeg x1) fun M2 => v_ck (v_ib y1 30) <| v_let (v_wr M2 73 y1.toNatClampNeg x2) fun M3 => v_ck (v_ib y1 30) <| v_let (v_wr M3 75 y1.toNatClampNeg x3) fun M4 => v_let (v_wr M4 71 0 (y1 + (1 : Int32))) fun M5 => some (y1, M5)) else (some ((-1 : Int32), M))
def f_X6_warnsOf_L32 (N : Nat) (k2 : Int32 → Int32 → Int32 → v_M → Option (Int32 × v_M)) (x1 : Int32) (x2 : Int32) (x3 : Int32) (M : v_M) : Option (Int32 × v_M) :=
  k2 x1 x2 (x3 + (1 : Int32)) M
def f_X6_warnsOf_L2 (N : Nat) : Nat → Int32 → Int32 → Int32 → v_M → Option (Int32 × v_M)
  | 0, _, _, _, _ => none
  | n + 1, x1, x2, x3, M => if (M.1 71 0) ≤ x3 then (v_ck (v_b01 (0 : Int32)) <| some ((0 : Int32), M)) else (v_ck (v_ib x3 30) <| if (M.1 72 x3.toNatClampNeg) = x1 then (v_ck (v_ib x3 30) <| if x2 < (M.1 74 x3.toNatClampNeg) then (f_X6_warnsOf_L32 N (f_X6_warnsOf_L2 N n) x1 x2 x3 M) else (v_ck (v_b01 (1 : Int32)) <| some ((1 : Int32), M))) else (f_X6_warnsOf_L32 N (f_X6_warnsOf_L2 N n) x1 x2 x3 M))
def f_X6_warnsOf (N : Nat) (x1 : Int32) (x2 : Int32) (M : v_M) : Option (Int32 × v_M) :=
  f_X6_warnsOf_L2 N N x1 x2 (0 : Int32) M
def f_X6_forgetFrom_L27 (N : Nat) (k2 : Int32 → Int32 → v_M → Option (Int32 × v_M)) (x1 : Int32) (x2 : Int32) (M : v_M) : Option (Int32 × v_M) :=
  k2 x1 (x2 + (1 : Int32)) M
def f_X6_forgetFrom_L2 (N : Nat) : Nat → Int32 → Int32 → v_M → Option (Int32 × v_M)
  | 0, _, _, _ => none
  | n + 1, x1, x2, M => if (M.1 71 0) ≤ x2 then (some (0, M)) else (v_ck (v_ib x2 30) <| if (M.1 72 x2.toNatClampNeg) < x1 then (f_X6_forgetFrom_L27 N (f_X6_forgetFrom_L2 N n) x1 x2 M) else (v_ck (v_ib x2 30) <| v_let (v_wr M 72 x2.toNatClampNeg (-1 : Int32)) fun M1 => f_X6_forgetFrom_L27 N (f_X6_forgetFrom_L2 N n) x1 x2 M1))
def f_X6_forgetFrom (N : Nat) (x1 : Int32) (M : v_M) : Option (Int32 × v_M) :=
  f_X6_forgetFrom_L2 N N x1 (0 : Int32) M
def f_X7_fail (N : Nat) (x1 : Int32) (M : v_M) : Option (Int32 × v_M) :=
  v_ck (v_ib (M.1 35 2) 401) <| v_let (v_wr M 35 6 (((1 : Int32) + ((8 : Int32) * (M.1 39 (M.1 35 2).toNatClampNeg))) + x1)) fun M1 => v_ck (v_b01 (0 : Int32)) <| some ((0 : Int32), M1)
def f_X7_step_L48 (N : Nat) (M : v_M) : Option (Int32 × v_M) :=
  v_ck (v_ib (M.1 35 2) 401) <| v_let (v_wr M 35 3 (M.1 38 (M.1 35 2).toNatClampNeg)) fun M1 => v_ck (v_ib (M1.1 35 2) 401) <| v_let (v_wr M1 35 4 (M1.1 40 (M1.1 35 2).toNatClampNeg)) fun M2 => some (0, M2)
def f_X7_step_L36 (N : Nat) (M : v_M) : Option (Int32 × v_M) :=
  if 0 ≤ (M.1 35 2) then (f_X7_step_L48 N M) else (v_let (v_wr M 35 2 (0 : Int32)) fun M1 => f_X7_step_L48 N M1)
def f_X7_step (N : Nat) (M : v_M) : Option (Int32 × v_M) :=
  if (M.1 36 1) ≤ ((M.1 35 2) + (1 : Int32)) then (f_X7_step_L36 N M) else (if (400 : Int32) ≤ (M.1 35 2) then (f_X7_step_L36 N M) else (v_let (v_wr M 35 2 ((M.1 35 2) + (1 : Int32))) fun M1 => f_X7_step_L36 N M1))
def f_X7_readTest_L125 (N : Nat) (qo : Nat) (rf : Int32 → v_M → Option (Int32 × v_M)) (x2 : Int32) (M : v_M) : Option (Int32 × v_M) :=
  if x2 = 0 then (v_ck (v_b01 (1 : Int32)) <| some ((1 : Int32), M)) else ((f_X5_emit N qo (-17 : Int32) M).bind fun z1 => v_ck (v_b01 (1 : Int32)) <| some ((1 : Int32), z1.2))
def f_X7_readTest_L119 (N : Nat) (qo : Nat) (rf : Int32 → v_M → Option (Int32 × v_M)) (k14 : Int32 → Int32 → Int32 → v_M → Option (Int32 × v_M)) (x1 : Int32) (x2 : Int32) (x3 : Int32) (M : v_M) : Option (Int32 × v_M) :=
  k14 x1 x2 (x3 + (1 : Int32)) M
def f_X7_readTest_L90 (N : Nat) (qo : Nat) (rf : Int32 → v_M → Option (Int32 × v_M)) (k14 : Int32 → Int32 → Int32 → v_M → Option (Int32 × v_M)) (x1 : Int32) (x3 : Int32) (x4 : Int32) (t0 : Int32) (M : v_M) : Option (Int32 × v_M) :=
  (f_X7_step N M).bind fun z1 => (rf x1 z1.2).bind fun z2 => if z2.1 = 0 then (v_ck (v_b01 (0 : Int32)) <| some ((0 : Int32), z2.2)) else (if x4 = 0 then (f_X7_readTest_L119 N qo rf k14 x1 t0 x3 z2.2) else ((f_X5_emit N qo (-16 : Int32) z2.2).bind fun z3 => f_X7_readTest_L119 N qo rf k14 x1 t0 x3 z3.2))
def f_X7_readTest_L85 (N : Nat) (qo : Nat) (rf : Int32 → v_M → Option (Int32 × v_M)) (k14 : Int32 → Int32 → Int32 → v_M → Option (Int32 × v_M)) (x1 : Int32) (x3 : Int32) (x4 : Int32) (M : v_M) : Option (Int32 × v_M) :=
  f_X7_readTest_L90 N qo rf k14 x1 x3 x4 (1 : Int32) M
def f_X7_readTest_L76 (N : Nat) (qo : Nat) (rf : Int32 → v_M → Option (Int32 × v_M)) (k14 : Int32 → Int32 → Int32 → v_M → Option (Int32 × v_M)) (x1 : Int32) (x2 : Int32) (x3 : Int32) (x4 : Int32) (M : v_M) : Option (Int32 × v_M) :=
  if x2 = 0 then (if x4 = 0 then (f_X7_readTest_L85 N qo rf k14 x1 x3 x4 M) else (f_X7_readTest_L90 N qo rf k14 x1 x3 x4 (0 : Int32) M)) else (f_X7_readTest_L85 N qo rf k14 x1 x3 x4 M)
def f_X7_readTest_L56 (N : Nat) (qo : Nat) (rf : Int32 → v_M → Option (Int32 × v_M)) (k14 : Int32 → Int32 → Int32 → v_M → Option (Int32 × v_M)) (x1 : Int32) (x2 : Int32) (x3 : Int32) (t0 : Int32) (M : v_M) : Option (Int32 × v_M) :=
  if t0 = 0 then (if x2 = 0 then (f_X7_readTest_L76 N qo rf k14 x1 x2 x3 t0 M) else ((f_X5_emit N qo (-17 : Int32) M).bind fun z1 => f_X7_readTest_L76 N qo rf k14 x1 x2 x3 t0 z1.2)) else (f_X7_readTest_L76 N qo rf k14 x1 x2 x3 t0 M)
def f_X7_readTest_L41 (N : Nat) (qo : Nat) (rf : Int32 → v_M → Option (Int32 × v_M)) (k14 : Int32 → Int32 → Int32 → v_M → Option (Int32 × v_M)) (x1 : Int32) (x2 : Int32) (x3 : Int32) (M : v_M) : Option (Int32 × v_M) :=
  if (M.1 35 3) = (278 : Int32) then (f_X7_readTest_L56 N qo rf k14 x1 x2 x3 (1 : Int32) M) else (f_X7_readTest_L56 N qo rf k14 x1 x2 x3 (0 : Int32) M)
def f_X7_readTest_L14 (N : Nat) (qo : Nat) (rf : Int32 → v_M → Option (Int32 × v_M)) : Nat → Int32 → Int32 → Int32 → v_M → Option (Int32 × v_M)
  | 0, _, _, _, _ => none
  | n + 1, x1, x2, x3, M => if (400 : Int32) ≤ x3 then (f_X7_readTest_L125 N qo rf x2 M) else (if (M.1 35 3) = (278 : Int32) then (f_X7_readTest_L41 N qo rf (f_X7_readTest_L14 N qo rf n) x1 x2 x3 M) else (if (M.1 35 3) = (277 : Int32) then (f_X7_readTest_L41 N qo rf (f_X7_readTest_L14 N qo rf n) x1 x2 x3 M) else (f_X7_readTest_L125 N qo rf x2 M)))
def f_X7_readTest (N : Nat) (qo : Nat) (rf : Int32 → v_M → Option (Int32 × v_M)) (x1 : Int32) (M : v_M) : Option (Int32 × v_M) :=
  (rf x1 M).bind fun z1 => if z1.1 = 0 then (v_ck (v_b01 (0 : Int32)) <| some ((0 : Int32), z1.2)) else (f_X7_readTest_L14 N qo rf N x1 (0 : Int32) (0 : Int32) z1.2)
def f_X7_readInner_L57 (N : Nat) (qo : Nat) (rf : Int32 → v_M → Option (Int32 × v_M)) (x2 : Int32) (M : v_M) : Option (Int32 × v_M) :=
  if x2 = 0 then (if (M.1 35 3) = (93 : Int32) then ((f_X7_step N M).bind fun z1 => v_ck (v_b01 (1 : Int32)) <| some ((1 : Int32), z1.2)) else ((f_X7_fail N (0 : Int32) M).bind fun z2 => v_ck (v_b01 z2.1) <| some (z2.1, z2.2))) else ((f_X5_emit N qo (-8 : Int32) M).bind fun z3 => v_ck (v_b01 (1 : Int32)) <| some ((1 : Int32), z3.2))
def f_X7_readInner_L27 (N : Nat) (qo : Nat) (rf : Int32 → v_M → Option (Int32 × v_M)) (x1 : Int32) (t0 : Int32) (M : v_M) : Option (Int32 × v_M) :=
  (f_X7_step N M).bind fun z1 => if t0 = 0 then ((f_X7_readTest N qo rf x1 z1.2).bind fun z2 => if z2.1 = 0 then (v_ck (v_b01 (0 : Int32)) <| some ((0 : Int32), z2.2)) else (f_X7_readInner_L57 N qo rf t0 z2.2)) else ((rf x1 z1.2).bind fun z3 => if z3.1 = 0 then (v_ck (v_b01 (0 : Int32)) <| some ((0 : Int32), z3.2)) else (f_X7_readInner_L57 N qo rf t0 z3.2))
def f_X7_readInner (N : Nat) (qo : Nat) (rf : Int32 → v_M → Option (Int32 × v_M)) (x1 : Int32) (M : v_M) : Option (Int32 × v_M) :=
  if x1 ≤ (10 : Int32) then (if (M.1 35 3) = (279 : Int32) then (f_X7_readInner_L27 N qo rf x1 (1 : Int32) M) else (f_X7_readInner_L27 N qo rf x1 (0 : Int32) M)) else ((f_X7_fail N (2 : Int32) M).bind fun z1 => v_ck (v_b01 z1.1) <| some (z1.1, z1.2))
def f_X7_comparing (N : Nat) (M : v_M) : Option (Int32 × v_M) :=
  if (M.1 35 3) = (60 : Int32) then (some ((-11 : Int32), M)) else (if (M.1 35 3) = (61 : Int32) then (some ((-13 : Int32), M)) else (if (M.1 35 3) = (62 : Int32) then (some ((-15 : Int32), M)) else (if (M.1 35 3) = (257 : Int32) then (some ((-12 : Int32), M)) else (if (M.1 35 3) = (258 : Int32) then (some ((-14 : Int32), M)) else (some ((0 : Int32), M))))))
def f_X8_findTurn_L32 (N : Nat) (k2 : Int32 → Int32 → Int32 → v_M → Option (Int32 × v_M)) (x1 : Int32) (x2 : Int32) (x3 : Int32) (M : v_M) : Option (Int32 × v_M) :=
  k2 x1 x2 (x3 + (1 : Int32)) M
def f_X8_findTurn_L2 (N : Nat) : Nat → Int32 → Int32 → Int32 → v_M → Option (Int32 × v_M)
  | 0, _, _, _, _ => none
  | n + 1, x1, x2, x3, M => if (M.1 52 0) ≤ x3 then (some ((M.1 52 0), M)) else (v_ck (v_ib x3 200) <| if (M.1 54 x3.toNatClampNeg) = x1 then (v_ck (v_ib x3 200) <| if (M.1 55 x3.toNatClampNeg) = x2 then (some (x3, M)) else (f_X8_findTurn_L32 N (f_X8_findTurn_L2 N n) x1 x2 x3 M)) else (f_X8_findTurn_L32 N (f_X8_findTurn_L2 N n) x1 x2 x3 M))
def f_X8_findTurn (N : Nat) (x1 : Int32) (x2 : Int32) (M : v_M) : Option (Int32 × v_M) :=
  f_X8_findTurn_L2 N N x1 x2 (0 : Int32) M
def f_X8_putSeen (N : Nat) (x1 : Int32) (x2 : Int32) (x3 : Int32) (M : v_M) : Option (Int32 × v_M) :=
  if (M.1 52 9) < (100 : Int32) then (v_ck (v_ib (M.1 52 9) 100) <| v_let (v_wr M 61 (M.1 52 9).toNatClampNeg x1) fun M1 => v_ck (v_ib (M1.1 52 9) 100) <| v_let (v_wr M1 62 (M1.1 52 9).toNatClampNeg x2) fun M2 => v_ck (v_ib (M2.1 52 9) 100) <| v_let (v_wr M2 63 (M2.1 52 9).toNatClampNeg (vp_nar .boolean x3)) fun M3 => v_let (v_wr M3 52 9 ((M3.1 52 9) + (1 : Int32))) fun M4 => some ((M4.1 52 9), M4)) else (some ((-1 : Int32), M))
def f_X9_put_L3 (N : Nat) : Nat → Int32 → Int32 → v_M → Option (Int32 × v_M)
  | 0, _, _, _ => none
  | n + 1, x1, x2, M => if x2 < 0 then (some (0, M)) else (if (400 : Int32) ≤ (M.1 36 0) then (some (0, M)) else (v_ck (v_ib (M.1 36 0) 400) <| v_let (v_wr M 37 (M.1 36 0).toNatClampNeg (((x1).toUInt32 >>> ((x2).toUInt32 &&& Int32.toUInt32 31)).toInt32 &&& (255 : Int32))) fun M1 => v_let (v_wr M1 36 0 ((M1.1 36 0) + (1 : Int32))) fun M2 => f_X9_put_L3 N n x1 (x2 + (-8 : Int32)) M2))
def f_X9_put (N : Nat) (x1 : Int32) (M : v_M) : Option (Int32 × v_M) :=
  f_X9_put_L3 N N x1 (24 : Int32) M
def f_X9_byteAt (N : Nat) (x1 : Int32) (M : v_M) : Option (Int32 × v_M) :=
  if x1 < 0 then (some ((-1 : Int32), M)) else (if (M.1 36 0) ≤ x1 then (some ((-1 : Int32), M)) else (if (400 : Int32) ≤ x1 then (some ((-1 : Int32), M)) else (v_ck (v_ib x1 400) <| some ((M.1 37 x1.toNatClampNeg), M))))
def f_X9_skipBlanks_L2 (N : Nat) : Nat → Int32 → v_M → Option (Int32 × v_M)
  | 0, _, _ => none
  | n + 1, x1, M => if (400 : Int32) ≤ x1 then (some (0, M)) else ((f_X9_byteAt N (M.1 36 2) M).bind fun z1 => if z1.1 = (32 : Int32) then (v_let (v_wr z1.2 36 2 ((z1.2.1 36 2) + (1 : Int32))) fun M2 => f_X9_skipBlanks_L2 N n (x1 + (1 : Int32)) M2) else (some (0, z1.2)))
def f_X9_skipBlanks (N : Nat) (M : v_M) : Option (Int32 × v_M) :=
  f_X9_skipBlanks_L2 N N (0 : Int32) M
def f_X9_isSame_L2 (N : Nat) : Nat → Int32 → Int32 → Int32 → v_M → Option (Int32 × v_M)
  | 0, _, _, _, _ => none
  | n + 1, x1, x2, x3, M => if (M.1 36 2) ≤ x3 then (v_ck (v_b01 (1 : Int32)) <| some ((1 : Int32), M)) else (v_let (((x1 + x3) - x2)) fun y1 => (f_J0_length_8abf5 N 0 M).bind fun z2 => if z2.1 ≤ y1 then (v_ck (v_b01 (0 : Int32)) <| some ((0 : Int32), z2.2)) else ((f_J0_charAt_5068e N 0 y1 z2.2).bind fun z3 => (f_X9_byteAt N x3 z3.2).bind fun z4 => if z3.1 = z4.1 then (f_X9_isSame_L2 N n x1 x2 (x3 + (1 : Int32)) z4.2) else (v_ck (v_b01 (0 : Int32)) <| some ((0 : Int32), z4.2))))
def f_X9_isSame (N : Nat) (x1 : Int32) (x2 : Int32) (M : v_M) : Option (Int32 × v_M) :=
  f_X9_isSame_L2 N N x1 x2 x2 M
def f_X9_isDigit (N : Nat) (x0 : Int32) (M : v_M) : Option (Int32 × v_M) :=
  if x0 < (48 : Int32) then (v_ck (v_b01 (0 : Int32)) <| some ((0 : Int32), M)) else (if (57 : Int32) < x0 then (v_ck (v_b01 (0 : Int32)) <| some ((0 : Int32), M)) else (v_ck (v_b01 (1 : Int32)) <| some ((1 : Int32), M)))
def f_X9_isLetter (N : Nat) (x0 : Int32) (M : v_M) : Option (Int32 × v_M) :=
  if x0 < (97 : Int32) then (v_ck (v_b01 (0 : Int32)) <| some ((0 : Int32), M)) else (if (122 : Int32) < x0 then (v_ck (v_b01 (0 : Int32)) <| some ((0 : Int32), M)) else (v_ck (v_b01 (1 : Int32)) <| some ((1 : Int32), M)))
def f_X10_queueHolders_L70 (N : Nat) (k14 : Int32 → Int32 → Int32 → v_M → Option (Int32 × v_M)) (x4 : Int32) (x5 : Int32) (x6 : Int32) (M : v_M) : Option (Int32 × v_M) :=
  v_ck (v_ib x5 200) <| v_let ((M.1 58 x5.toNatClampNeg)) fun y1 => k14 x4 y1 (x6 + (1 : Int32)) M
def f_X10_queueHolders_L14 (N : Nat) : Nat → Int32 → Int32 → Int32 → v_M → Option (Int32 × v_M)
  | 0, _, _, _, _ => none
  | n + 1, x4, x5, x6, M => if (200 : Int32) ≤ x6 then (some (x4, M)) else (if x5 < 0 then (some (x4, M)) else (v_ck (v_ib x5 200) <| v_let ((M.1 53 x5.toNatClampNeg)) fun y1 => v_ck (v_ib y1 200) <| if (M.1 67 y1.toNatClampNeg) = x5 then (if (200 : Int32) ≤ x4 then (f_X10_queueHolders_L70 N (f_X10_queueHolders_L14 N n) x4 x5 x6 M) else (v_ck (v_ib x4 200) <| v_let (v_wr M 68 x4.toNatClampNeg y1) fun M2 => f_X10_queueHolders_L70 N (f_X10_queueHolders_L14 N n) (x4 + (1 : Int32)) x5 x6 M2)) else (f_X10_queueHolders_L70 N (f_X10_queueHolders_L14 N n) x4 x5 x6 M)))
def f_X10_queueHolders (N : Nat) (x2 : Int32) (x3 : Int32) (M : v_M) : Option (Int32 × v_M) :=
  v_ck (v_ib x2 200) <| v_let ((M.1 60 x2.toNatClampNeg)) fun y1 => f_X10_queueHolders_L14 N N x3 y1 (0 : Int32) M
def f_X10_moveChoices_L15 (N : Nat) : Nat → Int32 → Int32 → v_M → Option (Int32 × v_M)
  | 0, _, _, _ => none
  | n + 1, x3, x4, M => if (200 : Int32) ≤ x4 then (some (0, M)) else (v_ck (v_ib x3 200) <| if (M.1 70 x3.toNatClampNeg) < 0 then (some (0, M)) else (v_ck (v_ib x3 200) <| v_let ((M.1 70 x3.toNatClampNeg)) fun y1 => v_ck (v_ib y1 200) <| v_let ((M.1 53 y1.toNatClampNeg)) fun y2 => v_ck (v_ib y2 200) <| v_let ((M.1 67 y2.toNatClampNeg)) fun y3 => v_ck (v_ib y2 200) <| v_let (v_wr M 67 y2.toNatClampNeg y1) fun M4 => if y3 = (-1 : Int32) then (some (0, M4)) else (v_ck (v_ib y3 200) <| v_let ((M4.1 56 y3.toNatClampNeg)) fun y5 => f_X10_moveChoices_L15 N n y5 (x4 + (1 : Int32)) M4)))
def f_X10_moveChoices (N : Nat) (x2 : Int32) (M : v_M) : Option (Int32 × v_M) :=
  v_ck (v_ib x2 200) <| v_ck (v_ib x2 200) <| v_let (v_wr M 69 x2.toNatClampNeg ((M.1 69 x2.toNatClampNeg) + (1 : Int32))) fun M1 => f_X10_moveChoices_L15 N N x2 (0 : Int32) M1
def f_X11_machine (N : Nat) (M : v_M) : Option (Int32 × v_M) :=
  (f_X4_add N 11 M).bind fun z1 => some (z1.1, z1.2)
def f_X11_feed (N : Nat) (x1 : Int32) (x2 : Int32) (x3 : Int32) (x4 : Int32) (x5 : Int32) (M : v_M) : Option (Int32 × v_M) :=
  if ((M.1 36 0) + (20 : Int32)) ≤ (400 : Int32) then ((f_X9_put N x1 M).bind fun z1 => (f_X9_put N x2 z1.2).bind fun z2 => (f_X9_put N x3 z2.2).bind fun z3 => (f_X9_put N x4 z3.2).bind fun z4 => (f_X9_put N x5 z4.2).bind fun z5 => some ((z5.2.1 36 0), z5.2)) else (some ((-1 : Int32), M))
def f_X11_noneAfter_L81 (N : Nat) (k9 : Int32 → Int32 → Int64 → Int32 → Int32 → v_M → Option (Int32 × v_M)) (x1 : Int32) (x2 : Int32) (l3 : Int64) (x5 : Int32) (x6 : Int32) (l7 : Int64) (l0 : Int64) (M : v_M) : Option (Int32 × v_M) :=
  v_let ((v_lx (1 : Int64) (v_ln l0 (x5).toInt64))) fun y1 => v_let ((l3 - (y1 * l7))) fun y2 => v_let ((x5 - (y1).toInt32)) fun y3 => k9 x1 x2 y2 y3 (x6 + (1 : Int32)) M
def f_X11_noneAfter_L9 (N : Nat) : Nat → Int32 → Int32 → Int64 → Int32 → Int32 → v_M → Option (Int32 × v_M)
  | 0, _, _, _, _, _, _ => none
  | n + 1, x1, x2, l3, x5, x6, M => if x2 ≤ x6 then (some ((l3).toInt32, M)) else (if x5 ≤ 0 then (some ((l3).toInt32, M)) else (if (lg_cmp l3 (0 : Int64)) ≤ 0 then (some ((l3).toInt32, M)) else (if x1 ≤ 0 then (some ((l3).toInt32, M)) else (v_ck (v_nzl (1000000 : Int64)) <| v_let (((((l3 * (x1).toInt64) + (1000000 : Int64)) - (1 : Int64)) / (1000000 : Int64))) fun y1 => v_ck (v_nzl (x1).toInt64) <| v_let (((((y1 - (1 : Int64)) * (1000000 : Int64)) / (x1).toInt64) + (1 : Int64))) fun y2 => if (lg_cmp y1 (0 : Int64)) ≤ 0 then (f_X11_noneAfter_L81 N (f_X11_noneAfter_L9 N n) x1 x2 l3 x5 x6 y1 (1 : Int64) M) else (v_ck (v_nzl y1) <| f_X11_noneAfter_L81 N (f_X11_noneAfter_L9 N n) x1 x2 l3 x5 x6 y1 (((l3 - y2) / y1) + (1 : Int64)) M)))))
def f_X11_noneAfter (N : Nat) (x0 : Int32) (x1 : Int32) (x2 : Int32) (M : v_M) : Option (Int32 × v_M) :=
  v_let ((x0).toInt64) fun y1 => f_X11_noneAfter_L9 N N x1 x2 y1 x2 (0 : Int32) M
def f_X11_count (N : Nat) (x1 : Int32) (M : v_M) : Option (Int32 × v_M) :=
  if x1 = (0 : Int32) then (some ((M.1 0 0), M)) else (if x1 = (1 : Int32) then (some ((M.1 1 0), M)) else (if x1 = (2 : Int32) then (some ((M.1 11 0), M)) else (if x1 = (3 : Int32) then (some ((M.1 29 0), M)) else (if x1 = (4 : Int32) then (some ((M.1 0 1), M)) else (if x1 = (5 : Int32) then (some ((M.1 52 0), M)) else (if x1 = (6 : Int32) then (some ((M.1 52 9), M)) else (if x1 = (7 : Int32) then (some ((M.1 71 0), M)) else (if x1 = (8 : Int32) then (some ((M.1 36 0), M)) else (some ((-1 : Int32), M))))))))))
def f_X11_within (N : Nat) (x0 : Int32) (x1 : Int32) (x2 : Int32) (M : v_M) : Option (Int32 × v_M) :=
  if x0 < x1 then (v_ck (v_b01 (0 : Int32)) <| some ((0 : Int32), M)) else (if x2 < x0 then (v_ck (v_b01 (0 : Int32)) <| some ((0 : Int32), M)) else (v_ck (v_b01 (1 : Int32)) <| some ((1 : Int32), M)))
def f_X11_asNumber (N : Nat) (x0 : Int32) (M : v_M) : Option (Int32 × v_M) :=
  if x0 = 0 then (some ((0 : Int32), M)) else (some ((1 : Int32), M))
def f_X11_swap (N : Nat) (r0 n0 : Nat) (x1 : Int32) (x2 : Int32) (M : v_M) : Option (Int32 × v_M) :=
  (f_X11_within N x1 (0 : Int32) ((Int32.ofNat n0) - (1 : Int32)) M).bind fun z1 => if z1.1 = 0 then (some ((-1000 : Int32), z1.2)) else (v_ck (v_ib x1 n0) <| v_let ((z1.2.1 r0 x1.toNatClampNeg)) fun y2 => v_ck (v_ib x1 n0) <| v_let (v_wr z1.2 r0 x1.toNatClampNeg x2) fun M3 => some (y2, M3))
def f_X11_hasPart (N : Nat) (x1 : Int32) (M : v_M) : Option (Int32 × v_M) :=
  (f_X11_within N x1 (0 : Int32) ((M.1 1 0) - (1 : Int32)) M).bind fun z1 => v_ck (v_b01 z1.1) <| some (z1.1, z1.2)
def f_X11_hasMachine (N : Nat) (x1 : Int32) (M : v_M) : Option (Int32 × v_M) :=
  (f_X11_within N x1 (0 : Int32) ((M.1 11 0) - (1 : Int32)) M).bind fun z1 => v_ck (v_b01 z1.1) <| some (z1.1, z1.2)
def f_X11_hasPartOf (N : Nat) (x1 : Int32) (x2 : Int32) (M : v_M) : Option (Int32 × v_M) :=
  (f_X11_hasMachine N x1 M).bind fun z1 => if z1.1 = 0 then (v_ck (v_b01 (0 : Int32)) <| some ((0 : Int32), z1.2)) else ((f_X11_hasPart N x2 z1.2).bind fun z2 => if z2.1 = 0 then (v_ck (v_b01 (0 : Int32)) <| some ((0 : Int32), z2.2)) else (v_ck (v_b01 (1 : Int32)) <| some ((1 : Int32), z2.2)))
def f_X12_in (N : Nat) (l0 : Int64) (l2 : Int64) (l4 : Int64) (M : v_M) : Option (Int32 × v_M) :=
  if (lg_cmp l0 l2) < 0 then (v_ck (v_b01 (0 : Int32)) <| some ((0 : Int32), M)) else (if 0 < (lg_cmp l0 l4) then (v_ck (v_b01 (0 : Int32)) <| some ((0 : Int32), M)) else (v_ck (v_b01 (1 : Int32)) <| some ((1 : Int32), M)))
def f_X12_isDay (N : Nat) (x0 : Int32) (M : v_M) : Option (Int32 × v_M) :=
  (f_X12_in N (x0).toInt64 (0 : Int64) (9999 : Int64) M).bind fun z1 => v_ck (v_b01 z1.1) <| some (z1.1, z1.2)
def f_X12_clock (N : Nat) (x1 : Int32) (M : v_M) : Option (Int32 × v_M) :=
  (f_X12_in N (x1).toInt64 ((M.1 79 1)).toInt64 (9999 : Int64) M).bind fun z1 => if z1.1 = 0 then (v_ck (v_b01 (0 : Int32)) <| some ((0 : Int32), z1.2)) else (v_let (v_wr z1.2 79 1 x1) fun M2 => v_ck (v_b01 (1 : Int32)) <| some ((1 : Int32), M2))
def f_X12_isPart (N : Nat) (x1 : Int32) (M : v_M) : Option (Int32 × v_M) :=
  (f_X12_in N (x1).toInt64 (0 : Int64) (((M.1 79 2) - (1 : Int32))).toInt64 M).bind fun z1 => v_ck (v_b01 z1.1) <| some (z1.1, z1.2)
def f_X12_isMachine (N : Nat) (x1 : Int32) (M : v_M) : Option (Int32 × v_M) :=
  (f_X12_in N (x1).toInt64 (0 : Int64) (((M.1 79 3) - (1 : Int32))).toInt64 M).bind fun z1 => v_ck (v_b01 z1.1) <| some (z1.1, z1.2)
def f_X12_isDriven (N : Nat) (x1 : Int32) (x2 : Int32) (M : v_M) : Option (Int32 × v_M) :=
  if x1 = 0 then (if (M.1 79 2) = 0 then (if x2 = (-1 : Int32) then (v_ck (v_b01 (1 : Int32)) <| some ((1 : Int32), M)) else (v_ck (v_b01 (0 : Int32)) <| some ((0 : Int32), M))) else (v_ck (v_b01 (0 : Int32)) <| some ((0 : Int32), M))) else (if (M.1 79 2) ≤ 0 then (v_ck (v_b01 (0 : Int32)) <| some ((0 : Int32), M)) else ((f_X12_isPart N x2 M).bind fun z1 => if z1.1 = 0 then (v_ck (v_b01 (0 : Int32)) <| some ((0 : Int32), z1.2)) else (if x1 = (5 : Int32) then (v_ck (v_ib x2 24) <| if (z1.2.1 80 x2.toNatClampNeg) = (2 : Int32) then (v_ck (v_b01 (1 : Int32)) <| some ((1 : Int32), z1.2)) else (v_ck (v_b01 (0 : Int32)) <| some ((0 : Int32), z1.2))) else (v_ck (v_ib x2 24) <| if (2 : Int32) < (z1.2.1 80 x2.toNatClampNeg) then (v_ck (v_b01 (0 : Int32)) <| some ((0 : Int32), z1.2)) else (v_ck (v_b01 (1 : Int32)) <| some ((1 : Int32), z1.2))))))
def f_X12_part (N : Nat) (x1 : Int32) (x2 : Int32) (x3 : Int32) (x4 : Int32) (x5 : Int32) (x6 : Int32) (x7 : Int32) (M : v_M) : Option (Int32 × v_M) :=
  if (M.1 79 2) = (24 : Int32) then (some ((-1 : Int32), M)) else ((f_X12_in N (x1).toInt64 (0 : Int64) (5 : Int64) M).bind fun z1 => if z1.1 = 0 then (some ((-1 : Int32), z1.2)) else ((f_X12_isDriven N x1 x2 z1.2).bind fun z2 => if z2.1 = 0 then (some ((-1 : Int32), z2.2)) else ((f_X12_in N (x3).toInt64 (0 : Int64) (99 : Int64) z2.2).bind fun z3 => if z3.1 = 0 then (some ((-1 : Int32), z3.2)) else ((f_X12_in N (x4).toInt64 (11 : Int64) (99 : Int64) z3.2).bind fun z4 => if z4.1 = 0 then (some ((-1 : Int32), z4.2)) else (v_ck (v_nz (10 : Int32)) <| if (x4 - x4 / (10 : Int32) * (10 : Int32)) = 0 then (some ((-1 : Int32), z4.2)) else ((f_X12_in N (x5).toInt64 (0 : Int64) (999 : Int64) z4.2).bind fun z5 => if z5.1 = 0 then (some ((-1 : Int32), z5.2)) else ((f_X12_in N (x6).toInt64 (0 : Int64) (999 : Int64) z5.2).bind fun z6 => if z6.1 = 0 then (some ((-1 : Int32), z6.2)) else ((f_X12_in N (x7).toInt64 (0 : Int64) (999 : Int64) z6.2).bind fun z7 => if z7.1 = 0 then (some ((-1 : Int32), z7.2)) else (v_ck (v_ib (z7.2.1 79 2) 24) <| v_let (v_wr z7.2 80 (z7.2.1 79 2).toNatClampNeg x1) fun M8 => v_ck (v_ib (M8.1 79 2) 24) <| v_let (v_wr M8 81 (M8.1 79 2).toNatClampNeg x2) fun M9 => v_ck (v_ib (M9.1 79 2) 24) <| v_let (v_wr M9 82 (M9.1 79 2).toNatClampNeg x3) fun M10 => v_ck (v_ib (M10.1 79 2) 24) <| v_let (v_wr M10 83 (M10.1 79 2).toNatClampNeg x4) fun M11 => v_ck (v_ib (M11.1 79 2) 24) <| v_let (v_wr M11 84 (M11.1 79 2).toNatClampNeg x5) fun M12 => v_ck (v_ib (M12.1 79 2) 24) <| v_let (v_wr M12 85 (M12.1 79 2).toNatClampNeg x6) fun M13 => v_ck (v_ib (M13.1 79 2) 24) <| v_let (v_wr M13 86 (M13.1 79 2).toNatClampNeg x7) fun M14 => v_ck (v_ib (M14.1 79 2) 24) <| v_let (v_wr M14 87 (M14.1 79 2).toNatClampNeg (0 : Int32)) fun M15 => v_let (v_wr M15 79 2 ((M15.1 79 2) + (1 : Int32))) fun M16 => some (((M16.1 79 2) - (1 : Int32)), M16))))))))))
def f_X12_clears (N : Nat) (x1 : Int32) (x2 : Int32) (M : v_M) : Option (Int32 × v_M) :=
  v_ck (v_ib (((24 : Int32) * x1) + x2) 480) <| v_let (v_wr M 88 (((24 : Int32) * x1) + x2).toNatClampNeg (0 : Int32)) fun M1 => v_ck (v_ib (((24 : Int32) * x1) + x2) 480) <| v_let (v_wr M1 89 (((24 : Int32) * x1) + x2).toNatClampNeg (0 : Int32)) fun M2 => v_ck (v_ib (((24 : Int32) * x1) + x2) 480) <| v_let (v_wr M2 90 (((24 : Int32) * x1) + x2).toNatClampNeg (0 : Int32)) fun M3 => v_ck (v_ib (((24 : Int32) * x1) + x2) 480) <| v_let (v_wr M3 91 (((24 : Int32) * x1) + x2).toNatClampNeg (0 : Int32)) fun M4 => some (0, M4)
def f_X12_turn_L82 (N : Nat) (x3 : Int32) (x4 : Int32) (x5 : Int32) (t0 : Int32) (M : v_M) : Option (Int32 × v_M) :=
  if x3 = 0 then (v_ck (v_ib x5 480) <| v_let (v_wr M 88 x5.toNatClampNeg x4) fun M2 => some (t0, M2)) else (v_ck (v_ib x5 480) <| v_let (v_wr M 89 x5.toNatClampNeg x4) fun M1 => some (t0, M1))
def f_X12_turn_L40 (N : Nat) (x1 : Int32) (x2 : Int32) (x3 : Int32) (x4 : Int32) (l0 : Int64) (l1 : Int64) (M : v_M) : Option (Int32 × v_M) :=
  (f_X12_in N l1 l0 (99 : Int64) M).bind fun z1 => if z1.1 = 0 then (some ((-1000 : Int32), z1.2)) else (v_let ((((24 : Int32) * x1) + x2)) fun y2 => if x3 = 0 then (v_ck (v_ib y2 480) <| f_X12_turn_L82 N x3 x4 y2 (z1.2.1 88 y2.toNatClampNeg) z1.2) else (v_ck (v_ib y2 480) <| f_X12_turn_L82 N x3 x4 y2 (z1.2.1 89 y2.toNatClampNeg) z1.2))
def f_X12_turn (N : Nat) (x1 : Int32) (x2 : Int32) (x3 : Int32) (x4 : Int32) (M : v_M) : Option (Int32 × v_M) :=
  (f_X12_isMachine N x1 M).bind fun z1 => if z1.1 = 0 then (some ((-1000 : Int32), z1.2)) else ((f_X12_isPart N x2 z1.2).bind fun z2 => if z2.1 = 0 then (some ((-1000 : Int32), z2.2)) else ((f_X12_in N (x3).toInt64 (0 : Int64) (1 : Int64) z2.2).bind fun z3 => if z3.1 = 0 then (some ((-1000 : Int32), z3.2)) else (if x3 = 0 then (f_X12_turn_L40 N x1 x2 x3 x4 (0 : Int64) (x4).toInt64 z3.2) else (f_X12_turn_L40 N x1 x2 x3 x4 (-99 : Int64) (x4).toInt64 z3.2))))
def f_X12_anew (N : Nat) (x1 : Int32) (x2 : Int32) (M : v_M) : Option (Int32 × v_M) :=
  (f_X12_isMachine N x1 M).bind fun z1 => if z1.1 = 0 then (some ((-1 : Int32), z1.2)) else ((f_X12_isPart N x2 z1.2).bind fun z2 => if z2.1 = 0 then (some ((-1 : Int32), z2.2)) else (v_ck (v_ib x2 24) <| if (z2.2.1 80 x2.toNatClampNeg) = (1 : Int32) then (v_ck (v_ib (((24 : Int32) * x1) + x2) 480) <| v_let ((z2.2.1 90 (((24 : Int32) * x1) + x2).toNatClampNeg)) fun y3 => v_ck (v_ib (((24 : Int32) * x1) + x2) 480) <| v_let (v_wr z2.2 90 (((24 : Int32) * x1) + x2).toNatClampNeg (0 : Int32)) fun M4 => some (y3, M4)) else (some ((-1 : Int32), z2.2))))
def f_X12_takes_L2 (N : Nat) : Nat → Int32 → Int32 → v_M → Option (Int32 × v_M)
  | 0, _, _, _ => none
  | n + 1, x1, x2, M => if (M.1 79 2) ≤ x2 then (some (0, M)) else (v_let ((((24 : Int32) * x1) + x2)) fun y1 => v_ck (v_ib x2 24) <| v_ck (v_ib x2 24) <| v_let (v_wr M 94 x2.toNatClampNeg (M.1 82 x2.toNatClampNeg)) fun M2 => v_ck (v_ib x2 24) <| v_ck (v_ib y1 480) <| v_ck (v_ib x2 24) <| v_let (v_wr M2 95 x2.toNatClampNeg ((M2.1 86 x2.toNatClampNeg) + (M2.1 89 y1.toNatClampNeg))) fun M3 => v_ck (v_ib x2 24) <| v_ck (v_ib x2 24) <| v_let (v_wr M3 96 x2.toNatClampNeg (M3.1 85 x2.toNatClampNeg)) fun M4 => v_ck (v_ib y1 480) <| v_ck (v_ib x2 24) <| v_let (v_wr M4 97 x2.toNatClampNeg (M4.1 88 y1.toNatClampNeg)) fun M5 => v_ck (v_ib y1 480) <| v_ck (v_ib x2 24) <| v_let (v_wr M5 98 x2.toNatClampNeg (M5.1 90 y1.toNatClampNeg)) fun M6 => v_ck (v_ib y1 480) <| v_ck (v_ib x2 24) <| v_let (v_wr M6 99 x2.toNatClampNeg (M6.1 91 y1.toNatClampNeg)) fun M7 => f_X12_takes_L2 N n x1 (x2 + (1 : Int32)) M7)
def f_X12_takes (N : Nat) (x1 : Int32) (M : v_M) : Option (Int32 × v_M) :=
  f_X12_takes_L2 N N x1 (0 : Int32) M
def f_X12_lets_L212 (N : Nat) (k5 : Int32 → Int32 → Int32 → Int32 → v_M → Option (Int32 × v_M)) (x1 : Int32) (x2 : Int32) (x4 : Int32) (t0 : Int32) (M : v_M) : Option (Int32 × v_M) :=
  k5 x1 x2 t0 (x4 + (1 : Int32)) M
def f_X12_lets_L211 (N : Nat) (k5 : Int32 → Int32 → Int32 → Int32 → v_M → Option (Int32 × v_M)) (x1 : Int32) (x2 : Int32) (x4 : Int32) (M : v_M) : Option (Int32 × v_M) :=
  f_X12_lets_L212 N k5 x1 x2 x4 (0 : Int32) M
def f_X12_lets_L207 (N : Nat) (k5 : Int32 → Int32 → Int32 → Int32 → v_M → Option (Int32 × v_M)) (x1 : Int32) (x2 : Int32) (x4 : Int32) (M : v_M) : Option (Int32 × v_M) :=
  f_X12_lets_L212 N k5 x1 x2 x4 (1 : Int32) M
def f_X12_lets_L163 (N : Nat) (k5 : Int32 → Int32 → Int32 → Int32 → v_M → Option (Int32 × v_M)) (x1 : Int32) (x2 : Int32) (x3 : Int32) (x4 : Int32) (t0 : Int32) (t1 : Int32) (M : v_M) : Option (Int32 × v_M) :=
  v_ck (v_ib t1 24) <| v_let (v_wr M 99 t1.toNatClampNeg t0) fun M1 => if x3 = 0 then (f_X12_lets_L211 N k5 x1 x2 x4 M1) else (v_ck (v_ib x4 24) <| v_ck (v_ib x4 24) <| if (M1.1 100 x4.toNatClampNeg) ≤ (M1.1 84 x4.toNatClampNeg) then (f_X12_lets_L207 N k5 x1 x2 x4 M1) else (v_ck (v_ib x4 24) <| if (M1.1 80 x4.toNatClampNeg) = (1 : Int32) then (v_ck (v_ib x4 24) <| if x2 < (M1.1 96 x4.toNatClampNeg) then (f_X12_lets_L211 N k5 x1 x2 x4 M1) else (f_X12_lets_L207 N k5 x1 x2 x4 M1)) else (f_X12_lets_L211 N k5 x1 x2 x4 M1)))
def f_X12_lets_L136 (N : Nat) (k5 : Int32 → Int32 → Int32 → Int32 → v_M → Option (Int32 × v_M)) (x1 : Int32) (x2 : Int32) (x3 : Int32) (x4 : Int32) (t0 : Int32) (M : v_M) : Option (Int32 × v_M) :=
  v_ck (v_ib x4 24) <| v_let ((t0 - (M.1 98 x4.toNatClampNeg))) fun y1 => if 0 ≤ y1 then (f_X12_lets_L163 N k5 x1 x2 x3 x4 y1 x4 M) else (f_X12_lets_L163 N k5 x1 x2 x3 x4 (0 : Int32) x4 M)
def f_X12_lets_L101 (N : Nat) (k5 : Int32 → Int32 → Int32 → Int32 → v_M → Option (Int32 × v_M)) (x1 : Int32) (x2 : Int32) (x3 : Int32) (x4 : Int32) (t0 : Int32) (t1 : Int32) (M : v_M) : Option (Int32 × v_M) :=
  v_ck (v_ib t1 24) <| v_let (v_wr M 100 t1.toNatClampNeg t0) fun M1 => v_ck (v_ib x4 24) <| v_ck (v_ib x4 24) <| if (M1.1 84 x4.toNatClampNeg) ≤ (M1.1 100 x4.toNatClampNeg) then (v_ck (v_ib x4 24) <| f_X12_lets_L136 N k5 x1 x2 x3 x4 (M1.1 84 x4.toNatClampNeg) M1) else (v_ck (v_ib x4 24) <| f_X12_lets_L136 N k5 x1 x2 x3 x4 (M1.1 100 x4.toNatClampNeg) M1)
def f_X12_lets_L51 (N : Nat) (k5 : Int32 → Int32 → Int32 → Int32 → v_M → Option (Int32 × v_M)) (x1 : Int32) (x2 : Int32) (x3 : Int32) (x4 : Int32) (t0 : Int32) (M : v_M) : Option (Int32 × v_M) :=
  if x4 = 0 then (f_X12_lets_L101 N k5 x1 x2 x3 x4 x1 x4 M) else (if 0 < t0 then (v_ck (v_ib x4 24) <| v_ck (v_nz (10 : Int32)) <| v_ck (v_ib x4 24) <| v_ck (v_nz (10 : Int32)) <| v_ck (v_nz ((M.1 83 x4.toNatClampNeg) - (M.1 83 x4.toNatClampNeg) / (10 : Int32) * (10 : Int32))) <| f_X12_lets_L101 N k5 x1 x2 x3 x4 ((t0 * ((M.1 83 x4.toNatClampNeg) / (10 : Int32))) / ((M.1 83 x4.toNatClampNeg) - (M.1 83 x4.toNatClampNeg) / (10 : Int32) * (10 : Int32))) x4 M) else (f_X12_lets_L101 N k5 x1 x2 x3 x4 (0 : Int32) x4 M))
def f_X12_lets_L5 (N : Nat) : Nat → Int32 → Int32 → Int32 → Int32 → v_M → Option (Int32 × v_M)
  | 0, _, _, _, _, _ => none
  | n + 1, x1, x2, x3, x4, M => if (M.1 79 2) ≤ x4 then (v_ck (v_b01 x3) <| some (x3, M)) else (if x4 = 0 then (f_X12_lets_L51 N (f_X12_lets_L5 N n) x1 x2 x3 x4 x1 M) else (v_ck (v_ib x4 24) <| v_ck (v_ib (M.1 81 x4.toNatClampNeg) 24) <| v_ck (v_ib x4 24) <| v_ck (v_ib x4 24) <| f_X12_lets_L51 N (f_X12_lets_L5 N n) x1 x2 x3 x4 (((M.1 99 (M.1 81 x4.toNatClampNeg).toNatClampNeg) - (M.1 94 x4.toNatClampNeg)) - (M.1 97 x4.toNatClampNeg)) M))
def f_X12_lets (N : Nat) (x1 : Int32) (x2 : Int32) (M : v_M) : Option (Int32 × v_M) :=
  f_X12_lets_L5 N N x1 x2 (1 : Int32) (0 : Int32) M
def f_X12_pushes_L43 (N : Nat) (k5 : Int32 → Int32 → Int32 → v_M → Option (Int32 × v_M)) (x2 : Int32) (x3 : Int32) (x4 : Int32) (M : v_M) : Option (Int32 × v_M) :=
  k5 x2 x3 x4 M
def f_X12_pushes_L5 (N : Nat) : Nat → Int32 → Int32 → Int32 → v_M → Option (Int32 × v_M)
  | 0, _, _, _, _ => none
  | n + 1, x2, x3, x4, M => if x4 ≤ x3 then ((f_X12_lets N x3 x2 M).bind fun z1 => some (x3, z1.2)) else (v_ck (v_nz (2 : Int32)) <| v_let ((((x3 + x4) + (1 : Int32)) / (2 : Int32))) fun y2 => (f_X12_lets N y2 x2 M).bind fun z3 => if z3.1 = 0 then (v_let ((y2 - (1 : Int32))) fun y4 => f_X12_pushes_L43 N (f_X12_pushes_L5 N n) x2 x3 y4 z3.2) else (f_X12_pushes_L43 N (f_X12_pushes_L5 N n) x2 y2 x4 z3.2))
def f_X12_pushes (N : Nat) (x1 : Int32) (x2 : Int32) (M : v_M) : Option (Int32 × v_M) :=
  f_X12_pushes_L5 N N x2 (0 : Int32) x1 M
def f_X12_push_L168 (N : Nat) (k57 : Int32 → Int32 → Int32 → v_M → Option (Int32 × v_M)) (x1 : Int32) (x4 : Int32) (x5 : Int32) (t0 : Int32) (t1 : Int32) (M : v_M) : Option (Int32 × v_M) :=
  v_ck (v_ib t1 480) <| v_let (v_wr M 90 t1.toNatClampNeg t0) fun M1 => k57 x1 x4 (x5 + (1 : Int32)) M1
def f_X12_push_L143 (N : Nat) (k57 : Int32 → Int32 → Int32 → v_M → Option (Int32 × v_M)) (x1 : Int32) (x4 : Int32) (x5 : Int32) (x6 : Int32) (t0 : Int32) (t1 : Int32) (M : v_M) : Option (Int32 × v_M) :=
  v_let ((t1 + t0)) fun y1 => if y1 ≤ (9999 : Int32) then (f_X12_push_L168 N k57 x1 x4 x5 y1 x6 M) else (f_X12_push_L168 N k57 x1 x4 x5 (9999 : Int32) x6 M)
def f_X12_push_L142 (N : Nat) (k57 : Int32 → Int32 → Int32 → v_M → Option (Int32 × v_M)) (x1 : Int32) (x4 : Int32) (x5 : Int32) (x6 : Int32) (t0 : Int32) (M : v_M) : Option (Int32 × v_M) :=
  f_X12_push_L143 N k57 x1 x4 x5 x6 (0 : Int32) t0 M
def f_X12_push_L57 (N : Nat) : Nat → Int32 → Int32 → Int32 → v_M → Option (Int32 × v_M)
  | 0, _, _, _, _ => none
  | n + 1, x1, x4, x5, M => if (M.1 79 2) ≤ x5 then (some (x4, M)) else (v_let ((((24 : Int32) * x1) + x5)) fun y1 => v_ck (v_ib x5 24) <| v_ck (v_ib y1 480) <| v_let (v_wr M 91 y1.toNatClampNeg (M.1 99 x5.toNatClampNeg)) fun M2 => v_ck (v_ib y1 480) <| v_ck (v_ib x5 24) <| if (M2.1 80 x5.toNatClampNeg) = (1 : Int32) then (v_ck (v_ib x5 24) <| v_ck (v_ib x5 24) <| if (M2.1 100 x5.toNatClampNeg) ≤ (M2.1 84 x5.toNatClampNeg) then (f_X12_push_L142 N (f_X12_push_L57 N n) x1 x4 x5 y1 (M2.1 90 y1.toNatClampNeg) M2) else (v_ck (v_ib x5 24) <| v_ck (v_ib x5 24) <| f_X12_push_L143 N (f_X12_push_L57 N n) x1 x4 x5 y1 ((M2.1 100 x5.toNatClampNeg) - (M2.1 84 x5.toNatClampNeg)) (M2.1 90 y1.toNatClampNeg) M2)) else (f_X12_push_L142 N (f_X12_push_L57 N n) x1 x4 x5 y1 (M2.1 90 y1.toNatClampNeg) M2))
def f_X12_push (N : Nat) (x1 : Int32) (x2 : Int32) (x3 : Int32) (M : v_M) : Option (Int32 × v_M) :=
  (f_X12_isMachine N x1 M).bind fun z1 => if z1.1 = 0 then (some ((-1 : Int32), z1.2)) else (if (z1.2.1 79 2) = 0 then (some ((-1 : Int32), z1.2)) else ((f_X12_in N (x2).toInt64 (0 : Int64) (999 : Int64) z1.2).bind fun z2 => if z2.1 = 0 then (some ((-1 : Int32), z2.2)) else ((f_X12_in N (x3).toInt64 (0 : Int64) (999 : Int64) z2.2).bind fun z3 => if z3.1 = 0 then (some ((-1 : Int32), z3.2)) else ((f_X12_takes N x1 z3.2).bind fun z4 => (f_X12_pushes N x2 x3 z4.2).bind fun z5 => v_let (z5.1) fun y6 => f_X12_push_L57 N N x1 y6 (0 : Int32) z5.2))))
def f_X12_release_L12 (N : Nat) : Nat → Int32 → Int32 → v_M → Option (Int32 × v_M)
  | 0, _, _, _ => none
  | n + 1, x1, x2, M => if (24 : Int32) ≤ x2 then (v_ck (v_b01 (1 : Int32)) <| some ((1 : Int32), M)) else (v_ck (v_ib (((24 : Int32) * x1) + x2) 480) <| v_let (v_wr M 91 (((24 : Int32) * x1) + x2).toNatClampNeg (0 : Int32)) fun M1 => f_X12_release_L12 N n x1 (x2 + (1 : Int32)) M1)
def f_X12_release (N : Nat) (x1 : Int32) (M : v_M) : Option (Int32 × v_M) :=
  (f_X12_isMachine N x1 M).bind fun z1 => if z1.1 = 0 then (v_ck (v_b01 (0 : Int32)) <| some ((0 : Int32), z1.2)) else (f_X12_release_L12 N N x1 (0 : Int32) z1.2)
def f_X12_isOver_L24 (N : Nat) (x1 : Int32) (t0 : Int32) (M : v_M) : Option (Int32 × v_M) :=
  v_ck (v_ib t0 24) <| v_ck (v_ib x1 24) <| if (M.1 99 t0.toNatClampNeg) < (M.1 95 x1.toNatClampNeg) then (v_ck (v_b01 (0 : Int32)) <| some ((0 : Int32), M)) else (v_ck (v_b01 (1 : Int32)) <| some ((1 : Int32), M))
def f_X12_isOver (N : Nat) (x1 : Int32) (M : v_M) : Option (Int32 × v_M) :=
  v_ck (v_ib x1 24) <| if (M.1 80 x1.toNatClampNeg) = (5 : Int32) then (v_ck (v_ib x1 24) <| f_X12_isOver_L24 N x1 (M.1 81 x1.toNatClampNeg) M) else (f_X12_isOver_L24 N x1 x1 M)
def f_X12_state (N : Nat) (x1 : Int32) (x2 : Int32) (x3 : Int32) (M : v_M) : Option (Int32 × v_M) :=
  (f_X12_isMachine N x1 M).bind fun z1 => if z1.1 = 0 then (some ((-1000 : Int32), z1.2)) else ((f_X12_isPart N x2 z1.2).bind fun z2 => if z2.1 = 0 then (some ((-1000 : Int32), z2.2)) else (v_let ((((24 : Int32) * x1) + x2)) fun y3 => if x3 = (0 : Int32) then (v_ck (v_ib y3 480) <| some ((z2.2.1 91 y3.toNatClampNeg), z2.2)) else (if x3 = (1 : Int32) then (v_ck (v_ib y3 480) <| some ((z2.2.1 88 y3.toNatClampNeg), z2.2)) else (if x3 = (2 : Int32) then (v_ck (v_ib y3 480) <| some ((z2.2.1 89 y3.toNatClampNeg), z2.2)) else (if x3 = (3 : Int32) then (v_ck (v_ib y3 480) <| some ((z2.2.1 90 y3.toNatClampNeg), z2.2)) else (if x3 = (4 : Int32) then ((f_X12_takes N x1 z2.2).bind fun z4 => (f_X12_isOver N x2 z4.2).bind fun z5 => if z5.1 = 0 then (some ((0 : Int32), z5.2)) else (some ((1 : Int32), z5.2))) else (some ((-1000 : Int32), z2.2))))))))
def f_X12_isShut_L61 (N : Nat) (k6 : Int32 → Int32 → Int32 → v_M → Option (Int32 × v_M)) (x1 : Int32) (x3 : Int32) (t0 : Int32) (M : v_M) : Option (Int32 × v_M) :=
  k6 x1 t0 (x3 + (1 : Int32)) M
def f_X12_isShut_L60 (N : Nat) (k6 : Int32 → Int32 → Int32 → v_M → Option (Int32 × v_M)) (x1 : Int32) (x3 : Int32) (M : v_M) : Option (Int32 × v_M) :=
  f_X12_isShut_L61 N k6 x1 x3 (0 : Int32) M
def f_X12_isShut_L56 (N : Nat) (k6 : Int32 → Int32 → Int32 → v_M → Option (Int32 × v_M)) (x1 : Int32) (x3 : Int32) (M : v_M) : Option (Int32 × v_M) :=
  f_X12_isShut_L61 N k6 x1 x3 (1 : Int32) M
def f_X12_isShut_L33 (N : Nat) (k6 : Int32 → Int32 → Int32 → v_M → Option (Int32 × v_M)) (x2 : Int32) (x3 : Int32) (t0 : Int32) (M : v_M) : Option (Int32 × v_M) :=
  if x2 = 0 then (f_X12_isShut_L60 N k6 t0 x3 M) else (v_ck (v_ib x3 24) <| if (M.1 80 x3.toNatClampNeg) = (2 : Int32) then ((f_X12_isOver N x3 M).bind fun z1 => if z1.1 = 0 then (f_X12_isShut_L60 N k6 t0 x3 z1.2) else (f_X12_isShut_L56 N k6 t0 x3 z1.2)) else (f_X12_isShut_L56 N k6 t0 x3 M))
def f_X12_isShut_L28 (N : Nat) (k6 : Int32 → Int32 → Int32 → v_M → Option (Int32 × v_M)) (x2 : Int32) (x3 : Int32) (M : v_M) : Option (Int32 × v_M) :=
  f_X12_isShut_L33 N k6 x2 x3 (1 : Int32) M
def f_X12_isShut_L6 (N : Nat) : Nat → Int32 → Int32 → Int32 → v_M → Option (Int32 × v_M)
  | 0, _, _, _, _ => none
  | n + 1, x1, x2, x3, M => if (M.1 79 2) ≤ x3 then (if x1 = 0 then (v_ck (v_b01 (0 : Int32)) <| some ((0 : Int32), M)) else (if x2 = 0 then (v_ck (v_b01 (0 : Int32)) <| some ((0 : Int32), M)) else (v_ck (v_b01 (1 : Int32)) <| some ((1 : Int32), M)))) else (if x1 = 0 then (v_ck (v_ib x3 24) <| if (M.1 80 x3.toNatClampNeg) = (2 : Int32) then (f_X12_isShut_L28 N (f_X12_isShut_L6 N n) x2 x3 M) else (f_X12_isShut_L33 N (f_X12_isShut_L6 N n) x2 x3 (0 : Int32) M)) else (f_X12_isShut_L28 N (f_X12_isShut_L6 N n) x2 x3 M))
def f_X12_isShut (N : Nat) (M : v_M) : Option (Int32 × v_M) :=
  f_X12_isShut_L6 N N (0 : Int32) (1 : Int32) (0 : Int32) M
def f_X12_lookedBy (N : Nat) (x0 : Int32) (M : v_M) : Option (Int32 × v_M) :=
  if x0 = 0 then (some ((1 : Int32), M)) else (if x0 = (3 : Int32) then (some ((2 : Int32), M)) else (if x0 = (4 : Int32) then (some ((4 : Int32), M)) else (if x0 = (5 : Int32) then (some ((8 : Int32), M)) else (some ((0 : Int32), M)))))
def f_X12_looksSo_L43 (N : Nat) (k4 : Int32 → Int32 → Int32 → v_M → Option (Int32 × v_M)) (x1 : Int32) (x3 : Int32) (t0 : Int32) (M : v_M) : Option (Int32 × v_M) :=
  k4 x1 t0 (x3 + (1 : Int32)) M
def f_X12_looksSo_L42 (N : Nat) (k4 : Int32 → Int32 → Int32 → v_M → Option (Int32 × v_M)) (x1 : Int32) (x3 : Int32) (M : v_M) : Option (Int32 × v_M) :=
  f_X12_looksSo_L43 N k4 x1 x3 (0 : Int32) M
def f_X12_looksSo_L38 (N : Nat) (k4 : Int32 → Int32 → Int32 → v_M → Option (Int32 × v_M)) (x1 : Int32) (x3 : Int32) (M : v_M) : Option (Int32 × v_M) :=
  f_X12_looksSo_L43 N k4 x1 x3 (1 : Int32) M
def f_X12_looksSo_L4 (N : Nat) : Nat → Int32 → Int32 → Int32 → v_M → Option (Int32 × v_M)
  | 0, _, _, _, _ => none
  | n + 1, x1, x2, x3, M => if (M.1 79 2) ≤ x3 then (v_ck (v_b01 x2) <| some (x2, M)) else (if x2 = 0 then (f_X12_looksSo_L42 N (f_X12_looksSo_L4 N n) x1 x3 M) else (v_ck (v_ib x3 24) <| (f_X12_lookedBy N (M.1 80 x3.toNatClampNeg) M).bind fun z1 => if (z1.1 &&& x1) = 0 then (f_X12_looksSo_L38 N (f_X12_looksSo_L4 N n) x1 x3 z1.2) else ((f_X12_isOver N x3 z1.2).bind fun z2 => if z2.1 = 0 then (f_X12_looksSo_L42 N (f_X12_looksSo_L4 N n) x1 x3 z2.2) else (f_X12_looksSo_L38 N (f_X12_looksSo_L4 N n) x1 x3 z2.2))))
def f_X12_looksSo (N : Nat) (x1 : Int32) (M : v_M) : Option (Int32 × v_M) :=
  f_X12_looksSo_L4 N N x1 (1 : Int32) (0 : Int32) M
def f_X12_isUnlike (N : Nat) (x1 : Int32) (M : v_M) : Option (Int32 × v_M) :=
  (f_X12_looksSo N x1 M).bind fun z1 => if z1.1 = 0 then (v_ck (v_b01 (0 : Int32)) <| some ((0 : Int32), z1.2)) else ((f_X12_isShut N z1.2).bind fun z2 => if z2.1 = 0 then (v_ck (v_b01 (1 : Int32)) <| some ((1 : Int32), z2.2)) else (v_ck (v_b01 (0 : Int32)) <| some ((0 : Int32), z2.2)))
def f_X12_judged_L68 (N : Nat) (t0 : Int32) (M : v_M) : Option (Int32 × v_M) :=
  if t0 = 0 then (some ((0 : Int32), M)) else (some ((1 : Int32), M))
def f_X12_judged (N : Nat) (x1 : Int32) (x2 : Int32) (x3 : Int32) (M : v_M) : Option (Int32 × v_M) :=
  (f_X12_isMachine N x1 M).bind fun z1 => if z1.1 = 0 then (some ((-1 : Int32), z1.2)) else ((f_X12_in N (x2).toInt64 (0 : Int64) (2 : Int64) z1.2).bind fun z2 => if z2.1 = 0 then (some ((-1 : Int32), z2.2)) else ((f_X12_in N (x3).toInt64 (0 : Int64) (15 : Int64) z2.2).bind fun z3 => if z3.1 = 0 then (some ((-1 : Int32), z3.2)) else ((f_X12_takes N x1 z3.2).bind fun z4 => if x2 = 0 then ((f_X12_isShut N z4.2).bind fun z7 => f_X12_judged_L68 N z7.1 z7.2) else (if x2 = (1 : Int32) then ((f_X12_looksSo N x3 z4.2).bind fun z6 => f_X12_judged_L68 N z6.1 z6.2) else ((f_X12_isUnlike N x3 z4.2).bind fun z5 => f_X12_judged_L68 N z5.1 z5.2)))))
def f_X12_alters_L119 (N : Nat) (k87 : Int32 → v_M → Option (Int32 × v_M)) (x2 : Int32) (t0 : Int32) (t1 : Int32) (M : v_M) : Option (Int32 × v_M) :=
  v_ck (v_ib t1 24) <| v_let (v_wr M 94 t1.toNatClampNeg t0) fun M1 => k87 (x2 + (1 : Int32)) M1
def f_X12_alters_L87 (N : Nat) : Nat → Int32 → v_M → Option (Int32 × v_M)
  | 0, _, _ => none
  | n + 1, x2, M => if (M.1 79 2) ≤ x2 then (some (0, M)) else (v_ck (v_ib x2 24) <| if 0 ≤ (M.1 94 x2.toNatClampNeg) then (v_ck (v_ib x2 24) <| f_X12_alters_L119 N (f_X12_alters_L87 N n) x2 (M.1 94 x2.toNatClampNeg) x2 M) else (f_X12_alters_L119 N (f_X12_alters_L87 N n) x2 (0 : Int32) x2 M))
def f_X12_alters_L79 (N : Nat) (k2 : Int32 → Int32 → v_M → Option (Int32 × v_M)) (x1 : Int32) (x2 : Int32) (M : v_M) : Option (Int32 × v_M) :=
  k2 x1 (x2 + (1 : Int32)) M
def f_X12_alters_L2 (N : Nat) : Nat → Int32 → Int32 → v_M → Option (Int32 × v_M)
  | 0, _, _, _ => none
  | n + 1, x1, x2, M => if (M.1 79 25) ≤ x2 then (f_X12_alters_L87 N N (0 : Int32) M) else (if ((x1 >>> (x2 &&& 31)) &&& (1 : Int32)) = (1 : Int32) then (v_ck (v_ib x2 8) <| v_ck (v_ib (M.1 101 x2.toNatClampNeg) 24) <| v_ck (v_ib x2 8) <| v_ck (v_ib (M.1 101 x2.toNatClampNeg) 24) <| v_let (v_wr M 94 (M.1 101 x2.toNatClampNeg).toNatClampNeg ((M.1 94 (M.1 101 x2.toNatClampNeg).toNatClampNeg) - (M.1 102 x2.toNatClampNeg))) fun M1 => v_ck (v_ib x2 8) <| v_ck (v_ib (M1.1 101 x2.toNatClampNeg) 24) <| v_ck (v_ib x2 8) <| v_ck (v_ib (M1.1 101 x2.toNatClampNeg) 24) <| v_let (v_wr M1 95 (M1.1 101 x2.toNatClampNeg).toNatClampNeg ((M1.1 95 (M1.1 101 x2.toNatClampNeg).toNatClampNeg) + (M1.1 103 x2.toNatClampNeg))) fun M2 => v_ck (v_ib x2 8) <| v_ck (v_ib (M2.1 101 x2.toNatClampNeg) 24) <| v_ck (v_ib x2 8) <| v_ck (v_ib (M2.1 101 x2.toNatClampNeg) 24) <| v_let (v_wr M2 96 (M2.1 101 x2.toNatClampNeg).toNatClampNeg ((M2.1 96 (M2.1 101 x2.toNatClampNeg).toNatClampNeg) + (M2.1 104 x2.toNatClampNeg))) fun M3 => f_X12_alters_L79 N (f_X12_alters_L2 N n) x1 x2 M3) else (f_X12_alters_L79 N (f_X12_alters_L2 N n) x1 x2 M))
def f_X12_alters (N : Nat) (x1 : Int32) (M : v_M) : Option (Int32 × v_M) :=
  f_X12_alters_L2 N N x1 (0 : Int32) M
def f_X12_unlikes_L88 (N : Nat) (k17 : Int32 → Int32 → Int32 → Int32 → Int32 → Int32 → Int32 → Int32 → v_M → Option (Int32 × v_M)) (k27 : Int32 → Int32 → Int32 → Int32 → Int32 → Int32 → Int32 → Int32 → Int32 → v_M → Option (Int32 × v_M)) (x2 : Int32) (x3 : Int32) (x4 : Int32) (x5 : Int32) (x6 : Int32) (x8 : Int32) (x9 : Int32) (x10 : Int32) (x11 : Int32) (M : v_M) : Option (Int32 × v_M) :=
  k27 x2 x3 x4 x5 x6 x8 x9 x10 (x11 + (1 : Int32)) M
def f_X12_unlikes_L27 (N : Nat) (k17 : Int32 → Int32 → Int32 → Int32 → Int32 → Int32 → Int32 → Int32 → v_M → Option (Int32 × v_M)) : Nat → Int32 → Int32 → Int32 → Int32 → Int32 → Int32 → Int32 → Int32 → Int32 → v_M → Option (Int32 × v_M)
  | 0, _, _, _, _, _, _, _, _, _, _ => none
  | n + 1, x2, x3, x4, x5, x6, x8, x9, x10, x11, M => if x4 < x11 then (k17 x2 x3 x4 x5 x6 x8 x9 (x10 + (1 : Int32)) M) else (v_ck (v_ib x2 24) <| v_let (v_wr M 97 x2.toNatClampNeg x10) fun M1 => v_ck (v_ib x3 24) <| v_let (v_wr M1 97 x3.toNatClampNeg x11) fun M2 => (f_X12_pushes N (999 : Int32) x5 M2).bind fun z3 => (f_X12_isUnlike N x6 z3.2).bind fun z4 => if z4.1 = 0 then (f_X12_unlikes_L88 N k17 (f_X12_unlikes_L27 N k17 n) x2 x3 x4 x5 x6 x8 x9 x10 x11 z4.2) else (if x9 = x8 then (some ((((16 : Int32) * x10) + x11), z4.2)) else (f_X12_unlikes_L88 N k17 (f_X12_unlikes_L27 N k17 n) x2 x3 x4 x5 x6 x8 (x9 + (1 : Int32)) x10 x11 z4.2)))
def f_X12_unlikes_L17 (N : Nat) : Nat → Int32 → Int32 → Int32 → Int32 → Int32 → Int32 → Int32 → Int32 → v_M → Option (Int32 × v_M)
  | 0, _, _, _, _, _, _, _, _, _ => none
  | n + 1, x2, x3, x4, x5, x6, x8, x9, x10, M => if x4 < x10 then (if x8 = (-1 : Int32) then (some (x9, M)) else (some ((-1 : Int32), M))) else (f_X12_unlikes_L27 N (f_X12_unlikes_L17 N n) N x2 x3 x4 x5 x6 x8 x9 x10 (0 : Int32) M)
def f_X12_unlikes (N : Nat) (x1 : Int32) (x2 : Int32) (x3 : Int32) (x4 : Int32) (x5 : Int32) (x6 : Int32) (x7 : Int32) (x8 : Int32) (M : v_M) : Option (Int32 × v_M) :=
  (f_X12_takes N x1 M).bind fun z1 => (f_X12_alters N x7 z1.2).bind fun z2 => f_X12_unlikes_L17 N N x2 x3 x4 x5 x6 x8 (0 : Int32) (0 : Int32) z2.2
def f_X12_isTrial (N : Nat) (x1 : Int32) (x2 : Int32) (x3 : Int32) (x4 : Int32) (x5 : Int32) (x6 : Int32) (M : v_M) : Option (Int32 × v_M) :=
  (f_X12_isMachine N x1 M).bind fun z1 => if z1.1 = 0 then (v_ck (v_b01 (0 : Int32)) <| some ((0 : Int32), z1.2)) else ((f_X12_isPart N x2 z1.2).bind fun z2 => if z2.1 = 0 then (v_ck (v_b01 (0 : Int32)) <| some ((0 : Int32), z2.2)) else ((f_X12_isPart N x3 z2.2).bind fun z3 => if z3.1 = 0 then (v_ck (v_b01 (0 : Int32)) <| some ((0 : Int32), z3.2)) else (if x2 = x3 then (v_ck (v_b01 (0 : Int32)) <| some ((0 : Int32), z3.2)) else ((f_X12_in N (x4).toInt64 (0 : Int64) (15 : Int64) z3.2).bind fun z4 => if z4.1 = 0 then (v_ck (v_b01 (0 : Int32)) <| some ((0 : Int32), z4.2)) else ((f_X12_in N (x5).toInt64 (0 : Int64) (999 : Int64) z4.2).bind fun z5 => if z5.1 = 0 then (v_ck (v_b01 (0 : Int32)) <| some ((0 : Int32), z5.2)) else ((f_X12_in N (x6).toInt64 (0 : Int64) (15 : Int64) z5.2).bind fun z6 => if z6.1 = 0 then (v_ck (v_b01 (0 : Int32)) <| some ((0 : Int32), z6.2)) else (v_ck (v_b01 (1 : Int32)) <| some ((1 : Int32), z6.2))))))))
def f_X12_tried (N : Nat) (x1 : Int32) (x2 : Int32) (x3 : Int32) (x4 : Int32) (x5 : Int32) (x6 : Int32) (x7 : Int32) (M : v_M) : Option (Int32 × v_M) :=
  (f_X12_isTrial N x1 x2 x3 x4 x5 x6 M).bind fun z1 => if z1.1 = 0 then (some ((-1 : Int32), z1.2)) else ((f_X12_unlikes N x1 x2 x3 x4 x5 x6 (0 : Int32) x7 z1.2).bind fun z2 => some (z2.1, z2.2))
def f_X12_change (N : Nat) (x1 : Int32) (x2 : Int32) (x3 : Int32) (x4 : Int32) (x5 : Int32) (M : v_M) : Option (Int32 × v_M) :=
  if (M.1 79 25) = (8 : Int32) then (some ((-1 : Int32), M)) else ((f_X12_isPart N x1 M).bind fun z1 => if z1.1 = 0 then (some ((-1 : Int32), z1.2)) else ((f_X12_in N (x2).toInt64 (0 : Int64) (99 : Int64) z1.2).bind fun z2 => if z2.1 = 0 then (some ((-1 : Int32), z2.2)) else ((f_X12_in N (x3).toInt64 (-99 : Int64) (99 : Int64) z2.2).bind fun z3 => if z3.1 = 0 then (some ((-1 : Int32), z3.2)) else ((f_X12_in N (x4).toInt64 (0 : Int64) (999 : Int64) z3.2).bind fun z4 => if z4.1 = 0 then (some ((-1 : Int32), z4.2)) else ((f_X12_in N (x5).toInt64 (0 : Int64) (999 : Int64) z4.2).bind fun z5 => if z5.1 = 0 then (some ((-1 : Int32), z5.2)) else (v_ck (v_ib (z5.2.1 79 25) 8) <| v_let (v_wr z5.2 101 (z5.2.1 79 25).toNatClampNeg x1) fun M6 => v_ck (v_ib (M6.1 79 25) 8) <| v_let (v_wr M6 102 (M6.1 79 25).toNatClampNeg x2) fun M7 => v_ck (v_ib (M7.1 79 25) 8) <| v_let (v_wr M7 103 (M7.1 79 25).toNatClampNeg x3) fun M8 => v_ck (v_ib (M8.1 79 25) 8) <| v_let (v_wr M8 104 (M8.1 79 25).toNatClampNeg x4) fun M9 => v_ck (v_ib (M9.1 79 25) 8) <| v_let (v_wr M9 105 (M9.1 79 25).toNatClampNeg x5) fun M10 => v_let (v_wr M10 79 25 ((M10.1 79 25) + (1 : Int32))) fun M11 => some (((M11.1 79 25) - (1 : Int32)), M11)))))))
def f_X12_bits_L4 (N : Nat) : Nat → Int32 → Int32 → v_M → Option (Int32 × v_M)
  | 0, _, _, _ => none
  | n + 1, x1, x2, M => if x2 = 0 then (some (x1, M)) else (v_let ((x2 &&& (x2 - (1 : Int32)))) fun y1 => f_X12_bits_L4 N n (x1 + (1 : Int32)) y1 M)
def f_X12_bits (N : Nat) (x0 : Int32) (M : v_M) : Option (Int32 × v_M) :=
  f_X12_bits_L4 N N (0 : Int32) x0 M
def f_X12_cheapest_L161 (N : Nat) (k28 : Int32 → Int32 → Int32 → Int32 → Int32 → Int32 → Int32 → Int32 → Int32 → v_M → Option (Int32 × v_M)) (x1 : Int32) (x2 : Int32) (x3 : Int32) (x4 : Int32) (x5 : Int32) (x6 : Int32) (x7 : Int32) (x8 : Int32) (x9 : Int32) (M : v_M) : Option (Int32 × v_M) :=
  k28 x1 x2 x3 x4 x5 x6 x7 x8 (x9 + (1 : Int32)) M
def f_X12_cheapest_L126 (N : Nat) (k28 : Int32 → Int32 → Int32 → Int32 → Int32 → Int32 → Int32 → Int32 → Int32 → v_M → Option (Int32 × v_M)) (x1 : Int32) (x2 : Int32) (x3 : Int32) (x4 : Int32) (x5 : Int32) (x6 : Int32) (x7 : Int32) (x8 : Int32) (x9 : Int32) (x10 : Int32) (t0 : Int32) (M : v_M) : Option (Int32 × v_M) :=
  if t0 = 0 then (f_X12_cheapest_L161 N k28 x1 x2 x3 x4 x5 x6 x7 x8 x9 M) else ((f_X12_unlikes N x1 x2 x3 x4 x5 x6 x9 (0 : Int32) M).bind fun z1 => if z1.1 = (-1 : Int32) then (f_X12_cheapest_L161 N k28 x1 x2 x3 x4 x5 x6 x9 x10 x9 z1.2) else (f_X12_cheapest_L161 N k28 x1 x2 x3 x4 x5 x6 x7 x8 x9 z1.2))
def f_X12_cheapest_L125 (N : Nat) (k28 : Int32 → Int32 → Int32 → Int32 → Int32 → Int32 → Int32 → Int32 → Int32 → v_M → Option (Int32 × v_M)) (x1 : Int32) (x2 : Int32) (x3 : Int32) (x4 : Int32) (x5 : Int32) (x6 : Int32) (x7 : Int32) (x8 : Int32) (x9 : Int32) (x10 : Int32) (M : v_M) : Option (Int32 × v_M) :=
  f_X12_cheapest_L126 N k28 x1 x2 x3 x4 x5 x6 x7 x8 x9 x10 (0 : Int32) M
def f_X12_cheapest_L121 (N : Nat) (k28 : Int32 → Int32 → Int32 → Int32 → Int32 → Int32 → Int32 → Int32 → Int32 → v_M → Option (Int32 × v_M)) (x1 : Int32) (x2 : Int32) (x3 : Int32) (x4 : Int32) (x5 : Int32) (x6 : Int32) (x7 : Int32) (x8 : Int32) (x9 : Int32) (x10 : Int32) (M : v_M) : Option (Int32 × v_M) :=
  f_X12_cheapest_L126 N k28 x1 x2 x3 x4 x5 x6 x7 x8 x9 x10 (1 : Int32) M
def f_X12_cheapest_L78 (N : Nat) (k28 : Int32 → Int32 → Int32 → Int32 → Int32 → Int32 → Int32 → Int32 → Int32 → v_M → Option (Int32 × v_M)) (k45 : Int32 → Int32 → Int32 → Int32 → Int32 → Int32 → Int32 → Int32 → Int32 → Int32 → Int32 → v_M → Option (Int32 × v_M)) (x1 : Int32) (x2 : Int32) (x3 : Int32) (x4 : Int32) (x5 : Int32) (x6 : Int32) (x7 : Int32) (x8 : Int32) (x9 : Int32) (x11 : Int32) (t0 : Int32) (t1 : Int32) (M : v_M) : Option (Int32 × v_M) :=
  v_let ((t1 + t0)) fun y1 => k45 x1 x2 x3 x4 x5 x6 x7 x8 x9 y1 (x11 + (1 : Int32)) M
def f_X12_cheapest_L45 (N : Nat) (k28 : Int32 → Int32 → Int32 → Int32 → Int32 → Int32 → Int32 → Int32 → Int32 → v_M → Option (Int32 × v_M)) : Nat → Int32 → Int32 → Int32 → Int32 → Int32 → Int32 → Int32 → Int32 → Int32 → Int32 → Int32 → v_M → Option (Int32 × v_M)
  | 0, _, _, _, _, _, _, _, _, _, _, _, _ => none
  | n + 1, x1, x2, x3, x4, x5, x6, x7, x8, x9, x10, x11, M => if (M.1 79 25) ≤ x11 then (if x7 = (-2 : Int32) then (f_X12_cheapest_L121 N k28 x1 x2 x3 x4 x5 x6 x7 x8 x9 x10 M) else (if x10 < x8 then (f_X12_cheapest_L121 N k28 x1 x2 x3 x4 x5 x6 x7 x8 x9 x10 M) else (if x10 = x8 then ((f_X12_bits N x9 M).bind fun z1 => (f_X12_bits N x7 z1.2).bind fun z2 => if z2.1 ≤ z1.1 then (f_X12_cheapest_L125 N k28 x1 x2 x3 x4 x5 x6 x7 x8 x9 x10 z2.2) else (f_X12_cheapest_L121 N k28 x1 x2 x3 x4 x5 x6 x7 x8 x9 x10 z2.2)) else (f_X12_cheapest_L125 N k28 x1 x2 x3 x4 x5 x6 x7 x8 x9 x10 M)))) else (if ((x9 >>> (x11 &&& 31)) &&& (1 : Int32)) = (1 : Int32) then (v_ck (v_ib x11 8) <| f_X12_cheapest_L78 N k28 (f_X12_cheapest_L45 N k28 n) x1 x2 x3 x4 x5 x6 x7 x8 x9 x11 (M.1 105 x11.toNatClampNeg) x10 M) else (f_X12_cheapest_L78 N k28 (f_X12_cheapest_L45 N k28 n) x1 x2 x3 x4 x5 x6 x7 x8 x9 x11 (0 : Int32) x10 M))
def f_X12_cheapest_L28 (N : Nat) : Nat → Int32 → Int32 → Int32 → Int32 → Int32 → Int32 → Int32 → Int32 → Int32 → v_M → Option (Int32 × v_M)
  | 0, _, _, _, _, _, _, _, _, _, _ => none
  | n + 1, x1, x2, x3, x4, x5, x6, x7, x8, x9, M => if ((1 : Int32) <<< ((M.1 79 25) &&& 31)) ≤ x9 then (some (x7, M)) else (f_X12_cheapest_L45 N (f_X12_cheapest_L28 N n) N x1 x2 x3 x4 x5 x6 x7 x8 x9 (0 : Int32) (0 : Int32) M)
def f_X12_cheapest (N : Nat) (x1 : Int32) (x2 : Int32) (x3 : Int32) (x4 : Int32) (x5 : Int32) (x6 : Int32) (M : v_M) : Option (Int32 × v_M) :=
  (f_X12_isTrial N x1 x2 x3 x4 x5 x6 M).bind fun z1 => if z1.1 = 0 then (some ((-1 : Int32), z1.2)) else (f_X12_cheapest_L28 N N x1 x2 x3 x4 x5 x6 (-2 : Int32) (0 : Int32) (0 : Int32) z1.2)
def f_X12_goes_L250 (N : Nat) (k140 : Int32 → Int32 → Int32 → Int32 → v_M → Option (Int32 × v_M)) (x2 : Int32) (x3 : Int32) (x4 : Int32) (x5 : Int32) (M : v_M) : Option (Int32 × v_M) :=
  if x4 = 0 then (some (x5, M)) else (k140 x2 x3 x4 (x5 + (1 : Int32)) M)
def f_X12_goes_L237 (N : Nat) (k140 : Int32 → Int32 → Int32 → Int32 → v_M → Option (Int32 × v_M)) (k159 : Int32 → Int32 → Int32 → Int32 → Int32 → Int32 → v_M → Option (Int32 × v_M)) (k191 : Int32 → Int32 → Int32 → Int32 → Int32 → Int32 → Int32 → Int32 → v_M → Option (Int32 × v_M)) (x2 : Int32) (x3 : Int32) (x5 : Int32) (x6 : Int32) (x7 : Int32) (x8 : Int32) (x9 : Int32) (x10 : Int32) (M : v_M) : Option (Int32 × v_M) :=
  k191 x2 x3 x5 x6 x7 x8 x9 (x10 + (1 : Int32)) M
def f_X12_goes_L191 (N : Nat) (k140 : Int32 → Int32 → Int32 → Int32 → v_M → Option (Int32 × v_M)) (k159 : Int32 → Int32 → Int32 → Int32 → Int32 → Int32 → v_M → Option (Int32 × v_M)) : Nat → Int32 → Int32 → Int32 → Int32 → Int32 → Int32 → Int32 → Int32 → v_M → Option (Int32 × v_M)
  | 0, _, _, _, _, _, _, _, _, _ => none
  | n + 1, x2, x3, x5, x6, x7, x8, x9, x10, M => if (M.1 79 2) ≤ x10 then (k159 x2 x3 x9 x5 x6 x7 M) else (v_ck (v_ib x10 24) <| if (M.1 106 x10.toNatClampNeg) = (-1 : Int32) then (f_X12_goes_L237 N k140 k159 (f_X12_goes_L191 N k140 k159 n) x2 x3 x5 x6 x7 x8 x9 x10 M) else (v_ck (v_ib x10 24) <| if x8 ≤ (M.1 106 x10.toNatClampNeg) then (f_X12_goes_L237 N k140 k159 (f_X12_goes_L191 N k140 k159 n) x2 x3 x5 x6 x7 x8 x9 x10 M) else (v_ck (v_ib x10 24) <| v_let (v_wr M 106 x10.toNatClampNeg (-1 : Int32)) fun M1 => f_X12_goes_L237 N k140 k159 (f_X12_goes_L191 N k140 k159 n) x2 x3 x5 x6 (1 : Int32) x8 (x9 + (-1 : Int32)) x10 M1)))
def f_X12_goes_L159 (N : Nat) (k140 : Int32 → Int32 → Int32 → Int32 → v_M → Option (Int32 × v_M)) : Nat → Int32 → Int32 → Int32 → Int32 → Int32 → Int32 → v_M → Option (Int32 × v_M)
  | 0, _, _, _, _, _, _, _ => none
  | n + 1, x2, x3, x4, x5, x6, x7, M => if x7 = 0 then (f_X12_goes_L250 N k140 x2 x3 x4 x5 M) else (if x4 ≤ 0 then (f_X12_goes_L250 N k140 x2 x3 x4 x5 M) else (v_ck (v_nz x4) <| v_let ((((x6 + x4) - (1 : Int32)) / x4)) fun y1 => f_X12_goes_L191 N k140 (f_X12_goes_L159 N k140 n) N x2 x3 x5 x6 (0 : Int32) y1 x4 (0 : Int32) M))
def f_X12_goes_L140 (N : Nat) : Nat → Int32 → Int32 → Int32 → Int32 → v_M → Option (Int32 × v_M)
  | 0, _, _, _, _, _ => none
  | n + 1, x2, x3, x4, x5, M => if (400 : Int32) < x5 then (some ((-2 : Int32), M)) else (v_let (((x5 * x2) * x3)) fun y1 => f_X12_goes_L159 N (f_X12_goes_L140 N n) N x2 x3 x4 x5 y1 (1 : Int32) M)
def f_X12_goes_L128 (N : Nat) (k45 : Int32 → Int32 → Int32 → Int32 → v_M → Option (Int32 × v_M)) (x2 : Int32) (x3 : Int32) (x5 : Int32) (t0 : Int32) (t1 : Int32) (M : v_M) : Option (Int32 × v_M) :=
  v_let ((t1 + t0)) fun y1 => k45 x2 x3 y1 (x5 + (1 : Int32)) M
def f_X12_goes_L109 (N : Nat) (k45 : Int32 → Int32 → Int32 → Int32 → v_M → Option (Int32 × v_M)) (x2 : Int32) (x3 : Int32) (x4 : Int32) (x5 : Int32) (t0 : Int32) (t1 : Int32) (M : v_M) : Option (Int32 × v_M) :=
  v_ck (v_ib t1 24) <| v_let (v_wr M 106 t1.toNatClampNeg t0) fun M1 => v_ck (v_ib x5 24) <| if (M1.1 106 x5.toNatClampNeg) = (-1 : Int32) then (f_X12_goes_L128 N k45 x2 x3 x5 (0 : Int32) x4 M1) else (f_X12_goes_L128 N k45 x2 x3 x5 (1 : Int32) x4 M1)
def f_X12_goes_L108 (N : Nat) (k45 : Int32 → Int32 → Int32 → Int32 → v_M → Option (Int32 × v_M)) (x2 : Int32) (x3 : Int32) (x4 : Int32) (x5 : Int32) (t0 : Int32) (M : v_M) : Option (Int32 × v_M) :=
  f_X12_goes_L109 N k45 x2 x3 x4 x5 (-1 : Int32) t0 M
def f_X12_goes_L45 (N : Nat) : Nat → Int32 → Int32 → Int32 → Int32 → v_M → Option (Int32 × v_M)
  | 0, _, _, _, _, _ => none
  | n + 1, x2, x3, x4, x5, M => if (M.1 79 2) ≤ x5 then (f_X12_goes_L140 N N x2 x3 x4 (0 : Int32) M) else (v_ck (v_ib x5 24) <| if (M.1 80 x5.toNatClampNeg) = (2 : Int32) then ((f_X12_isOver N x5 M).bind fun z1 => if z1.1 = 0 then (f_X12_goes_L108 N (f_X12_goes_L45 N n) x2 x3 x4 x5 x5 z1.2) else (v_ck (v_ib x5 24) <| v_ck (v_ib x5 24) <| v_ck (v_ib x5 24) <| f_X12_goes_L109 N (f_X12_goes_L45 N n) x2 x3 x4 x5 ((z1.2.1 85 x5.toNatClampNeg) + ((5 : Int32) * ((z1.2.1 99 x5.toNatClampNeg) - (z1.2.1 95 x5.toNatClampNeg)))) x5 z1.2)) else (f_X12_goes_L108 N (f_X12_goes_L45 N n) x2 x3 x4 x5 x5 M))
def f_X12_goes (N : Nat) (x1 : Int32) (x2 : Int32) (x3 : Int32) (M : v_M) : Option (Int32 × v_M) :=
  (f_X12_isMachine N x1 M).bind fun z1 => if z1.1 = 0 then (some ((-1 : Int32), z1.2)) else ((f_X12_in N (x2).toInt64 (1 : Int64) (99 : Int64) z1.2).bind fun z2 => if z2.1 = 0 then (some ((-1 : Int32), z2.2)) else ((f_X12_in N (x3).toInt64 (1 : Int64) (999 : Int64) z2.2).bind fun z3 => if z3.1 = 0 then (some ((-1 : Int32), z3.2)) else ((f_X12_takes N x1 z3.2).bind fun z4 => f_X12_goes_L45 N N x2 x3 (0 : Int32) (0 : Int32) z4.2)))
def f_X12_floor_L143 (N : Nat) (x6 : Int32) (t0 : Int32) (M : v_M) : Option (Int32 × v_M) :=
  if x6 ≤ t0 then (some (x6, M)) else (some (t0, M))
def f_X12_floor (N : Nat) (x1 : Int32) (x2 : Int32) (x3 : Int32) (x4 : Int32) (x5 : Int32) (x6 : Int32) (x7 : Int32) (M : v_M) : Option (Int32 × v_M) :=
  (f_X12_in N (x1).toInt64 (0 : Int64) (400 : Int64) M).bind fun z1 => if z1.1 = 0 then (some ((-1 : Int32), z1.2)) else ((f_X12_in N (x2).toInt64 (1 : Int64) (99 : Int64) z1.2).bind fun z2 => if z2.1 = 0 then (some ((-1 : Int32), z2.2)) else ((f_X12_in N (x3).toInt64 (0 : Int64) (99999 : Int64) z2.2).bind fun z3 => if z3.1 = 0 then (some ((-1 : Int32), z3.2)) else ((f_X12_in N (x4).toInt64 (0 : Int64) (99 : Int64) z3.2).bind fun z4 => if z4.1 = 0 then (some ((-1 : Int32), z4.2)) else ((f_X12_in N (x5).toInt64 (0 : Int64) (400 : Int64) z4.2).bind fun z5 => if z5.1 = 0 then (some ((-1 : Int32), z5.2)) else ((f_X12_in N (x6).toInt64 (0 : Int64) (40 : Int64) z5.2).bind fun z6 => if z6.1 = 0 then (some ((-1 : Int32), z6.2)) else ((f_X12_in N (x7).toInt64 (0 : Int64) (1 : Int64) z6.2).bind fun z7 => if z7.1 = 0 then (some ((-1 : Int32), z7.2)) else (v_let ((((x1 * x2) * (10 : Int32)) - ((x3 + ((50 : Int32) * x4)) - ((20 : Int32) * x5)))) fun y8 => if x7 = 0 then (if y8 ≤ 0 then (some ((0 : Int32), z7.2)) else (some ((1 : Int32), z7.2))) else (if y8 ≤ 0 then (f_X12_floor_L143 N x6 (0 : Int32) z7.2) else (v_ck (v_nz (100 : Int32)) <| f_X12_floor_L143 N x6 ((y8 + (99 : Int32)) / (100 : Int32)) z7.2)))))))))
def f_X12_put_L3 (N : Nat) : Nat → Int32 → Int32 → v_M → Option (Int32 × v_M)
  | 0, _, _, _ => none
  | n + 1, x1, x2, M => if x2 < 0 then (some (0, M)) else (v_ck (v_ib (M.1 79 32) 400) <| v_let (v_wr M 107 (M.1 79 32).toNatClampNeg (vp_nar .byte ((x1 >>> (x2 &&& 31))).toInt8.toInt32)) fun M1 => v_let (v_wr M1 79 32 ((M1.1 79 32) + (1 : Int32))) fun M2 => f_X12_put_L3 N n x1 (x2 + (-8 : Int32)) M2)
def f_X12_put (N : Nat) (x1 : Int32) (M : v_M) : Option (Int32 × v_M) :=
  f_X12_put_L3 N N x1 (24 : Int32) M
def f_X12_end (N : Nat) (x1 : Int32) (M : v_M) : Option (Int32 × v_M) :=
  if x1 < 0 then (some ((-1 : Int32), M)) else (if x1 ≤ (M.1 79 32) then (v_let (v_wr M 79 32 x1) fun M1 => some (x1, M1)) else (some ((-1 : Int32), M)))
def f_X12_wordOf (N : Nat) (x0 : Int32) (M : v_M) : Option (Nat × v_M) :=
  if x0 = (0 : Int32) then (some (6, M)) else (if x0 = (1 : Int32) then (some (7, M)) else (if x0 = (2 : Int32) then (some (8, M)) else (if x0 = (3 : Int32) then (some (9, M)) else (if x0 = (4 : Int32) then (some (10, M)) else (if x0 = (5 : Int32) then (some (11, M)) else (some (12, M)))))))
def f_X12_clauseOf (N : Nat) (x0 : Int32) (M : v_M) : Option (Nat × v_M) :=
  if x0 = 0 then (some (1, M)) else (if x0 = (1 : Int32) then (some (2, M)) else (if x0 = (2 : Int32) then (some (3, M)) else (some (4, M))))
def f_X12_thingOf (N : Nat) (x0 : Int32) (M : v_M) : Option (Nat × v_M) :=
  if x0 = 0 then (some (13, M)) else (if x0 = (1 : Int32) then (some (14, M)) else (if x0 = (2 : Int32) then (some (15, M)) else (some (16, M))))
def f_X12_fails (N : Nat) (x1 : Int32) (x2 : Int32) (M : v_M) : Option (Int32 × v_M) :=
  if (M.1 79 34) = 0 then (v_let (v_wr M 79 34 (((1 : Int32) + ((8 : Int32) * x2)) + x1)) fun M2 => some (0, M2)) else (v_let (v_wr M 79 34 (M.1 79 34)) fun M1 => some (0, M1))
def f_X12_sign (N : Nat) (M : v_M) : Option (Int32 × v_M) :=
  if (M.1 79 32) ≤ (M.1 79 33) then (some ((-1 : Int32), M)) else (v_ck (v_ib (M.1 79 33) 400) <| some (((M.1 107 (M.1 79 33).toNatClampNeg) &&& (255 : Int32)), M))
def f_X12_blanks_L0 (N : Nat) : Nat → v_M → Option (Int32 × v_M)
  | 0, _ => none
  | n + 1, M => (f_X12_sign N M).bind fun z1 => if z1.1 = (32 : Int32) then (v_let (v_wr z1.2 79 33 ((z1.2.1 79 33) + (1 : Int32))) fun M2 => f_X12_blanks_L0 N n M2) else (some (0, z1.2))
def f_X12_blanks (N : Nat) (M : v_M) : Option (Int32 × v_M) :=
  f_X12_blanks_L0 N N M
def f_X12_isDigit (N : Nat) (M : v_M) : Option (Int32 × v_M) :=
  (f_X12_sign N M).bind fun z1 => (f_X12_in N (z1.1).toInt64 (48 : Int64) (57 : Int64) z1.2).bind fun z2 => v_ck (v_b01 z2.1) <| some (z2.1, z2.2)
def f_X12_stands_L102 (N : Nat) (k63 : Nat → Int32 → Int32 → v_M → Option (Int32 × v_M)) (s1 : Nat) (x4 : Int32) (t0 : Int32) (M : v_M) : Option (Int32 × v_M) :=
  k63 s1 t0 (x4 + (1 : Int32)) M
def f_X12_stands_L63 (N : Nat) : Nat → Nat → Int32 → Int32 → v_M → Option (Int32 × v_M)
  | 0, _, _, _, _ => none
  | n + 1, s1, x3, x4, M => (f_J0_length_8abf5 N s1 M).bind fun z1 => if z1.1 ≤ x4 then (v_ck (v_b01 x3) <| some (x3, z1.2)) else (if x3 = 0 then (v_ck (v_b01 x3) <| some (x3, z1.2)) else (v_ck (v_ib ((z1.2.1 79 33) + x4) 400) <| (f_J0_charAt_5068e N s1 x4 z1.2).bind fun z2 => if (z1.2.1 107 ((z1.2.1 79 33) + x4).toNatClampNeg) = z2.1 then (f_X12_stands_L102 N (f_X12_stands_L63 N n) s1 x4 (1 : Int32) z2.2) else (f_X12_stands_L102 N (f_X12_stands_L63 N n) s1 x4 (0 : Int32) z2.2)))
def f_X12_stands_L59 (N : Nat) (s1 : Nat) (t0 : Int32) (M : v_M) : Option (Int32 × v_M) :=
  f_X12_stands_L63 N N s1 t0 (0 : Int32) M
def f_X12_stands_L41 (N : Nat) (s1 : Nat) (x2 : Int32) (M : v_M) : Option (Int32 × v_M) :=
  (f_J0_length_8abf5 N s1 M).bind fun z1 => if (x2 - (M.1 79 33)) = z1.1 then (f_X12_stands_L59 N s1 (1 : Int32) z1.2) else (f_X12_stands_L59 N s1 (0 : Int32) z1.2)
def f_X12_stands_L5 (N : Nat) : Nat → Nat → Int32 → v_M → Option (Int32 × v_M)
  | 0, _, _, _ => none
  | n + 1, s1, x2, M => if (M.1 79 32) ≤ x2 then (f_X12_stands_L41 N s1 x2 M) else (v_ck (v_ib x2 400) <| if (M.1 107 x2.toNatClampNeg) < (97 : Int32) then (f_X12_stands_L41 N s1 x2 M) else (v_ck (v_ib x2 400) <| if (122 : Int32) < (M.1 107 x2.toNatClampNeg) then (f_X12_stands_L41 N s1 x2 M) else (f_X12_stands_L5 N n s1 (x2 + (1 : Int32)) M)))
def f_X12_stands (N : Nat) (s1 : Nat) (M : v_M) : Option (Int32 × v_M) :=
  v_let ((M.1 79 33)) fun y1 => f_X12_stands_L5 N N s1 y1 M
def f_X12_takes__L27 (N : Nat) (x2 : Int32) (t0 : Int32) (t1 : Int32) (M : v_M) : Option (Int32 × v_M) :=
  v_let (v_wr M 79 33 (t1 + t0)) fun M1 => v_ck (v_b01 x2) <| some (x2, M1)
def f_X12_takes_ (N : Nat) (s1 : Nat) (M : v_M) : Option (Int32 × v_M) :=
  (f_X12_blanks N M).bind fun z1 => (f_X12_stands N s1 z1.2).bind fun z2 => v_let (z2.1) fun y3 => if y3 = 0 then (f_X12_takes__L27 N y3 (0 : Int32) (z2.2.1 79 33) z2.2) else ((f_J0_length_8abf5 N s1 z2.2).bind fun z4 => f_X12_takes__L27 N y3 z4.1 (z2.2.1 79 33) z4.2)
def f_X12_entry (N : Nat) (x1 : Int32) (x2 : Int32) (M : v_M) : Option (Int32 × v_M) :=
  if (M.1 79 34) = 0 then (v_ck (v_ib (((300 : Int32) * (M.1 79 35)) + (M.1 79 36)) 3600) <| v_let (v_wr M 108 (((300 : Int32) * (M.1 79 35)) + (M.1 79 36)).toNatClampNeg x1) fun M1 => v_ck (v_ib (((300 : Int32) * (M1.1 79 35)) + (M1.1 79 36)) 3600) <| v_let (v_wr M1 109 (((300 : Int32) * (M1.1 79 35)) + (M1.1 79 36)).toNatClampNeg x2) fun M2 => v_let (v_wr M2 79 36 ((M2.1 79 36) + (1 : Int32))) fun M3 => some (0, M3)) else (some (0, M))
def f_X12_isCounted_L15 (N : Nat) (M : v_M) : Option (Int32 × v_M) :=
  v_let (v_wr M 79 38 ((M.1 79 38) + (1 : Int32))) fun M1 => some (0, M1)
def f_X12_isCounted (N : Nat) (x1 : Int32) (M : v_M) : Option (Int32 × v_M) :=
  if (M.1 79 38) = (60 : Int32) then ((f_X12_fails N (3 : Int32) x1 M).bind fun z1 => f_X12_isCounted_L15 N z1.2) else (f_X12_isCounted_L15 N M)
def f_X12_digits_L87 (N : Nat) (x2 : Int32) (x3 : Int32) (M : v_M) : Option (Int32 × v_M) :=
  (f_X12_fails N (1 : Int32) x2 M).bind fun z1 => some (x3, z1.2)
def f_X12_digits_L58 (N : Nat) (k25 : Int32 → Int32 → Int32 → v_M → Option (Int32 × v_M)) (x1 : Int32) (x2 : Int32) (t0 : Int32) (M : v_M) : Option (Int32 × v_M) :=
  v_let (v_wr M 79 33 ((M.1 79 33) + (1 : Int32))) fun M1 => k25 x1 x2 t0 M1
def f_X12_digits_L25 (N : Nat) : Nat → Int32 → Int32 → Int32 → v_M → Option (Int32 × v_M)
  | 0, _, _, _, _ => none
  | n + 1, x1, x2, x3, M => (f_X12_isDigit N M).bind fun z1 => if z1.1 = 0 then (if (5 : Int32) < ((z1.2.1 79 33) - x2) then (f_X12_digits_L87 N x2 x3 z1.2) else (if x3 ≤ x1 then (some (x3, z1.2)) else (f_X12_digits_L87 N x2 x3 z1.2))) else (if (5 : Int32) ≤ ((z1.2.1 79 33) - x2) then (f_X12_digits_L58 N (f_X12_digits_L25 N n) x1 x2 x3 z1.2) else ((f_X12_sign N z1.2).bind fun z2 => f_X12_digits_L58 N (f_X12_digits_L25 N n) x1 x2 ((((10 : Int32) * x3) + z2.1) - (48 : Int32)) z2.2))
def f_X12_digits (N : Nat) (x1 : Int32) (M : v_M) : Option (Int32 × v_M) :=
  (f_X12_isDigit N M).bind fun z1 => if z1.1 = 0 then ((f_X12_fails N (0 : Int32) (z1.2.1 79 33) z1.2).bind fun z3 => some ((0 : Int32), z3.2)) else (v_let ((z1.2.1 79 33)) fun y2 => f_X12_digits_L25 N N x1 y2 (0 : Int32) z1.2)
def f_X12_value_L61 (N : Nat) (x1 : Int32) (x2 : Int32) (M : v_M) : Option (Int32 × v_M) :=
  if x2 = (7 : Int32) then ((f_X12_fails N (0 : Int32) x1 M).bind fun z6 => some (0, z6.2)) else ((f_X12_isCounted N x1 M).bind fun z1 => (f_X12_wordOf N x2 z1.2).bind fun z2 => (f_J0_length_8abf5 N z2.1 z2.2).bind fun z3 => v_let (v_wr z3.2 79 33 ((z1.2.1 79 33) + z3.1)) fun M4 => (f_X12_entry N (1 : Int32) x2 M4).bind fun z5 => some (0, z5.2))
def f_X12_value_L38 (N : Nat) : Nat → Int32 → Int32 → v_M → Option (Int32 × v_M)
  | 0, _, _, _ => none
  | n + 1, x1, x2, M => if (7 : Int32) ≤ x2 then (f_X12_value_L61 N x1 x2 M) else ((f_X12_wordOf N x2 M).bind fun z1 => (f_X12_stands N z1.1 z1.2).bind fun z2 => if z2.1 = 0 then (f_X12_value_L38 N n x1 (x2 + (1 : Int32)) z2.2) else (f_X12_value_L61 N x1 x2 z2.2))
def f_X12_value (N : Nat) (M : v_M) : Option (Int32 × v_M) :=
  (f_X12_blanks N M).bind fun z1 => v_let ((z1.2.1 79 33)) fun y2 => (f_X12_isDigit N z1.2).bind fun z3 => if z3.1 = 0 then (f_X12_value_L38 N N y2 (0 : Int32) z3.2) else ((f_X12_digits N (99999 : Int32) z3.2).bind fun z4 => v_let (z4.1) fun y5 => (f_X12_isCounted N y2 z4.2).bind fun z6 => (f_X12_entry N (0 : Int32) y5 z6.2).bind fun z7 => some (0, z7.2))
def f_X12_sum_L47 (N : Nat) (k8 : v_M → Option (Int32 × v_M)) (t0 : Int32) (M : v_M) : Option (Int32 × v_M) :=
  v_let (v_wr M 79 33 ((M.1 79 33) + (1 : Int32))) fun M1 => (f_X12_value N M1).bind fun z2 => (f_X12_entry N t0 (0 : Int32) z2.2).bind fun z3 => (f_X12_blanks N z3.2).bind fun z4 => k8 z4.2
def f_X12_sum_L33 (N : Nat) (k8 : v_M → Option (Int32 × v_M)) (M : v_M) : Option (Int32 × v_M) :=
  (f_X12_sign N M).bind fun z1 => if z1.1 = (43 : Int32) then (f_X12_sum_L47 N k8 (2 : Int32) z1.2) else (f_X12_sum_L47 N k8 (3 : Int32) z1.2)
def f_X12_sum_L8 (N : Nat) : Nat → v_M → Option (Int32 × v_M)
  | 0, _ => none
  | n + 1, M => if (M.1 79 34) = 0 then ((f_X12_sign N M).bind fun z1 => if z1.1 = (43 : Int32) then (f_X12_sum_L33 N (f_X12_sum_L8 N n) z1.2) else ((f_X12_sign N z1.2).bind fun z2 => if z2.1 = (45 : Int32) then (f_X12_sum_L33 N (f_X12_sum_L8 N n) z2.2) else (some (0, z2.2)))) else (some (0, M))
def f_X12_sum (N : Nat) (M : v_M) : Option (Int32 × v_M) :=
  (f_X12_value N M).bind fun z1 => (f_X12_blanks N z1.2).bind fun z2 => f_X12_sum_L8 N N z2.2
def f_X12_compared_L90 (N : Nat) (x1 : Int32) (x2 : Int32) (t0 : Int32) (t1 : Int32) (M : v_M) : Option (Int32 × v_M) :=
  v_let (v_wr M 79 33 (t1 + t0)) fun M1 => (f_X12_sum N M1).bind fun z2 => if x1 = (61 : Int32) then ((f_X12_entry N (6 : Int32) (0 : Int32) z2.2).bind fun z7 => some (0, z7.2)) else (if x1 = (60 : Int32) then (if x2 = 0 then ((f_X12_entry N (4 : Int32) (0 : Int32) z2.2).bind fun z5 => some (0, z5.2)) else ((f_X12_entry N (5 : Int32) (0 : Int32) z2.2).bind fun z6 => some (0, z6.2))) else (if x2 = 0 then ((f_X12_entry N (8 : Int32) (0 : Int32) z2.2).bind fun z3 => some (0, z3.2)) else ((f_X12_entry N (7 : Int32) (0 : Int32) z2.2).bind fun z4 => some (0, z4.2))))
def f_X12_compared_L75 (N : Nat) (x1 : Int32) (t0 : Int32) (M : v_M) : Option (Int32 × v_M) :=
  if t0 = 0 then (f_X12_compared_L90 N x1 t0 (0 : Int32) (M.1 79 33) M) else (f_X12_compared_L90 N x1 t0 (1 : Int32) (M.1 79 33) M)
def f_X12_compared_L74 (N : Nat) (x1 : Int32) (M : v_M) : Option (Int32 × v_M) :=
  f_X12_compared_L75 N x1 (0 : Int32) M
def f_X12_compared_L37 (N : Nat) (x1 : Int32) (M : v_M) : Option (Int32 × v_M) :=
  (f_X12_isCounted N (M.1 79 33) M).bind fun z1 => v_let (v_wr z1.2 79 33 ((z1.2.1 79 33) + (1 : Int32))) fun M2 => if x1 = (61 : Int32) then (f_X12_compared_L74 N x1 M2) else ((f_X12_sign N M2).bind fun z3 => if z3.1 = (61 : Int32) then (f_X12_compared_L75 N x1 (1 : Int32) z3.2) else (f_X12_compared_L74 N x1 z3.2))
def f_X12_compared (N : Nat) (M : v_M) : Option (Int32 × v_M) :=
  (f_X12_sum N M).bind fun z1 => (f_X12_sign N z1.2).bind fun z2 => v_let (z2.1) fun y3 => if y3 = (60 : Int32) then (f_X12_compared_L37 N y3 z2.2) else (if y3 = (61 : Int32) then (f_X12_compared_L37 N y3 z2.2) else (if y3 = (62 : Int32) then (f_X12_compared_L37 N y3 z2.2) else ((f_X12_fails N (0 : Int32) (z2.2.1 79 33) z2.2).bind fun z4 => some (0, z4.2))))
def f_X12_top (N : Nat) (M : v_M) : Option (Int32 × v_M) :=
  if (M.1 79 39) = 0 then (some ((-1 : Int32), M)) else (v_ck (v_ib ((M.1 79 39) - (1 : Int32)) 402) <| some ((M.1 119 ((M.1 79 39) - (1 : Int32)).toNatClampNeg), M))
def f_X12_opens_L40 (N : Nat) (x1 : Int32) (M : v_M) : Option (Int32 × v_M) :=
  v_ck (v_ib (M.1 79 39) 402) <| v_let (v_wr M 119 (M.1 79 39).toNatClampNeg x1) fun M1 => v_let (v_wr M1 79 39 ((M1.1 79 39) + (1 : Int32))) fun M2 => some (0, M2)
def f_X12_opens_L30 (N : Nat) (x1 : Int32) (M : v_M) : Option (Int32 × v_M) :=
  v_let (v_wr M 79 37 ((M.1 79 37) + (1 : Int32))) fun M1 => f_X12_opens_L40 N x1 M1
def f_X12_opens_L12 (N : Nat) (x1 : Int32) (M : v_M) : Option (Int32 × v_M) :=
  if (M.1 79 37) = (10 : Int32) then ((f_X12_fails N (2 : Int32) (M.1 79 33) M).bind fun z1 => f_X12_opens_L30 N x1 z1.2) else (f_X12_opens_L30 N x1 M)
def f_X12_opens (N : Nat) (x1 : Int32) (M : v_M) : Option (Int32 × v_M) :=
  if x1 = (9 : Int32) then (f_X12_opens_L12 N x1 M) else (if x1 = (12 : Int32) then (f_X12_opens_L12 N x1 M) else (f_X12_opens_L40 N x1 M))
def f_X12_answers_L47 (N : Nat) (k0 : Int32 → v_M → Option (Int32 × v_M)) (x1 : Int32) (t0 : Int32) (t1 : Int32) (M : v_M) : Option (Int32 × v_M) :=
  v_let (v_wr M 79 37 (t1 - t0)) fun M1 => k0 x1 M1
def f_X12_answers_L0 (N : Nat) : Nat → Int32 → v_M → Option (Int32 × v_M)
  | 0, _, _ => none
  | n + 1, x1, M => (f_X12_top N M).bind fun z1 => if z1.1 = x1 then (if (z1.2.1 79 34) = 0 then ((f_X12_entry N x1 (0 : Int32) z1.2).bind fun z2 => v_let (v_wr z2.2 79 39 ((z2.2.1 79 39) - (1 : Int32))) fun M3 => if x1 = (9 : Int32) then (f_X12_answers_L47 N (f_X12_answers_L0 N n) x1 (1 : Int32) (M3.1 79 37) M3) else (f_X12_answers_L47 N (f_X12_answers_L0 N n) x1 (0 : Int32) (M3.1 79 37) M3)) else (some (0, z1.2))) else (some (0, z1.2))
def f_X12_answers (N : Nat) (x1 : Int32) (M : v_M) : Option (Int32 × v_M) :=
  f_X12_answers_L0 N N x1 M
def f_X12_fact (N : Nat) (M : v_M) : Option (Int32 × v_M) :=
  (f_X12_blanks N M).bind fun z1 => (f_X12_stands N 18 z1.2).bind fun z2 => if z2.1 = 0 then ((f_X12_sign N z2.2).bind fun z3 => if z3.1 = (91 : Int32) then ((f_X12_opens N (12 : Int32) z3.2).bind fun z5 => v_let (v_wr z5.2 79 33 ((z5.2.1 79 33) + (1 : Int32))) fun M6 => v_ck (v_b01 (0 : Int32)) <| some ((0 : Int32), M6)) else ((f_X12_compared N z3.2).bind fun z4 => v_ck (v_b01 (1 : Int32)) <| some ((1 : Int32), z4.2))) else ((f_X12_opens N (9 : Int32) z2.2).bind fun z7 => v_let (v_wr z7.2 79 33 ((z7.2.1 79 33) + (3 : Int32))) fun M8 => v_ck (v_b01 (0 : Int32)) <| some ((0 : Int32), M8))
def f_X12_test_L199 (N : Nat) (k9 : Int32 → Int32 → v_M → Option (Int32 × v_M)) (x1 : Int32) (x2 : Int32) (M : v_M) : Option (Int32 × v_M) :=
  k9 x1 x2 M
def f_X12_test_L164 (N : Nat) (k9 : Int32 → Int32 → v_M → Option (Int32 × v_M)) (x1 : Int32) (x2 : Int32) (M : v_M) : Option (Int32 × v_M) :=
  v_let (v_wr M 79 33 ((M.1 79 33) + (1 : Int32))) fun M1 => v_let (v_wr M1 79 39 ((M1.1 79 39) - (1 : Int32))) fun M2 => v_let (v_wr M2 79 37 ((M2.1 79 37) - (1 : Int32))) fun M3 => f_X12_test_L199 N k9 x1 x2 M3
def f_X12_test_L122 (N : Nat) (k9 : Int32 → Int32 → v_M → Option (Int32 × v_M)) (x2 : Int32) (t0 : Int32) (t1 : Int32) (M : v_M) : Option (Int32 × v_M) :=
  v_let (v_wr M 79 33 (t1 + t0)) fun M1 => f_X12_test_L199 N k9 (1 : Int32) x2 M1
def f_X12_test_L105 (N : Nat) (k9 : Int32 → Int32 → v_M → Option (Int32 × v_M)) (x2 : Int32) (x3 : Int32) (t0 : Int32) (M : v_M) : Option (Int32 × v_M) :=
  (f_X12_opens N t0 M).bind fun z1 => if x3 = 0 then (f_X12_test_L122 N k9 x2 (2 : Int32) (z1.2.1 79 33) z1.2) else (f_X12_test_L122 N k9 x2 (3 : Int32) (z1.2.1 79 33) z1.2)
def f_X12_test_L93 (N : Nat) (k9 : Int32 → Int32 → v_M → Option (Int32 × v_M)) (x2 : Int32) (x3 : Int32) (M : v_M) : Option (Int32 × v_M) :=
  if x3 = 0 then (f_X12_test_L105 N k9 x2 x3 (11 : Int32) M) else (f_X12_test_L105 N k9 x2 x3 (10 : Int32) M)
def f_X12_test_L82 (N : Nat) (k9 : Int32 → Int32 → v_M → Option (Int32 × v_M)) (x2 : Int32) (x3 : Int32) (x4 : Int32) (M : v_M) : Option (Int32 × v_M) :=
  if x4 = 0 then (f_X12_test_L93 N k9 x2 x3 M) else ((f_X12_answers N (11 : Int32) M).bind fun z1 => f_X12_test_L93 N k9 x2 x3 z1.2)
def f_X12_test_L36 (N : Nat) (k9 : Int32 → Int32 → v_M → Option (Int32 × v_M)) (x2 : Int32) (t0 : Int32) (M : v_M) : Option (Int32 × v_M) :=
  k9 t0 x2 M
def f_X12_test_L9 (N : Nat) : Nat → Int32 → Int32 → v_M → Option (Int32 × v_M)
  | 0, _, _, _ => none
  | n + 1, x1, x2, M => if x2 = 0 then (some (0, M)) else (if (M.1 79 34) = 0 then (if x1 = 0 then ((f_X12_answers N (9 : Int32) M).bind fun z1 => (f_X12_blanks N z1.2).bind fun z2 => (f_X12_stands N 19 z2.2).bind fun z3 => v_let (z3.1) fun y4 => (f_X12_stands N 20 z3.2).bind fun z5 => v_let (z5.1) fun y6 => (f_X12_answers N (10 : Int32) z5.2).bind fun z7 => if y4 = 0 then (if y6 = 0 then ((f_X12_answers N (11 : Int32) z7.2).bind fun z8 => (f_X12_top N z8.2).bind fun z9 => if z9.1 = (12 : Int32) then ((f_X12_sign N z9.2).bind fun z10 => if z10.1 = (93 : Int32) then (f_X12_test_L164 N (f_X12_test_L9 N n) x1 x2 z10.2) else ((f_X12_fails N (0 : Int32) (z10.2.1 79 33) z10.2).bind fun z11 => f_X12_test_L164 N (f_X12_test_L9 N n) x1 x2 z11.2)) else (f_X12_test_L199 N (f_X12_test_L9 N n) x1 (0 : Int32) z9.2)) else (f_X12_test_L82 N (f_X12_test_L9 N n) x2 y4 y6 z7.2)) else (f_X12_test_L82 N (f_X12_test_L9 N n) x2 y4 y6 z7.2)) else ((f_X12_fact N M).bind fun z12 => if z12.1 = 0 then (f_X12_test_L36 N (f_X12_test_L9 N n) x2 (1 : Int32) z12.2) else (f_X12_test_L36 N (f_X12_test_L9 N n) x2 (0 : Int32) z12.2))) else (some (0, M)))
def f_X12_test (N : Nat) (M : v_M) : Option (Int32 × v_M) :=
  v_let (v_wr M 79 39 (0 : Int32)) fun M1 => f_X12_test_L9 N N (1 : Int32) (1 : Int32) M1
def f_X12_clause_L309 (N : Nat) (x4 : Int32) (M : v_M) : Option (Int32 × v_M) :=
  v_ck (v_ib x4 144) <| v_let (v_wr M 118 x4.toNatClampNeg (M.1 79 36)) fun M1 => some (0, M1)
def f_X12_clause_L277 (N : Nat) (x4 : Int32) (M : v_M) : Option (Int32 × v_M) :=
  v_ck (v_ib x4 144) <| v_let (v_wr M 117 x4.toNatClampNeg (M.1 79 36)) fun M1 => if (M1.1 79 34) = 0 then ((f_X12_takes_ N 17 M1).bind fun z2 => if z2.1 = 0 then (f_X12_clause_L309 N x4 z2.2) else ((f_X12_test N z2.2).bind fun z3 => f_X12_clause_L309 N x4 z3.2)) else (f_X12_clause_L309 N x4 M1)
def f_X12_clause_L231 (N : Nat) (x4 : Int32) (x5 : Int32) (M : v_M) : Option (Int32 × v_M) :=
  if x5 = (4 : Int32) then ((f_X12_fails N (0 : Int32) (M.1 79 33) M).bind fun z5 => f_X12_clause_L277 N x4 z5.2) else (v_ck (v_ib x4 144) <| v_let (v_wr M 114 x4.toNatClampNeg ((1 : Int32) <<< (x5 &&& 31))) fun M1 => (f_X12_thingOf N x5 M1).bind fun z2 => (f_J0_length_8abf5 N z2.1 z2.2).bind fun z3 => v_let (v_wr z3.2 79 33 ((M1.1 79 33) + z3.1)) fun M4 => f_X12_clause_L277 N x4 M4)
def f_X12_clause_L207 (N : Nat) : Nat → Int32 → Int32 → v_M → Option (Int32 × v_M)
  | 0, _, _, _ => none
  | n + 1, x4, x5, M => if (4 : Int32) ≤ x5 then (f_X12_clause_L231 N x4 x5 M) else ((f_X12_thingOf N x5 M).bind fun z1 => (f_X12_stands N z1.1 z1.2).bind fun z2 => if z2.1 = 0 then (f_X12_clause_L207 N n x4 (x5 + (1 : Int32)) z2.2) else (f_X12_clause_L231 N x4 x5 z2.2))
def f_X12_clause_L183 (N : Nat) (x4 : Int32) (t0 : Int32) (t1 : Int32) (M : v_M) : Option (Int32 × v_M) :=
  v_ck (v_ib t1 144) <| v_let (v_wr M 115 t1.toNatClampNeg t0) fun M1 => f_X12_clause_L277 N x4 M1
def f_X12_clause_L155 (N : Nat) (x4 : Int32) (M : v_M) : Option (Int32 × v_M) :=
  (f_X12_blanks N M).bind fun z1 => if (z1.2.1 79 34) = 0 then ((f_X12_digits N (999 : Int32) z1.2).bind fun z2 => f_X12_clause_L183 N x4 z2.1 x4 z2.2) else (f_X12_clause_L183 N x4 (0 : Int32) x4 z1.2)
def f_X12_clause_L33 (N : Nat) (x1 : Int32) (x2 : Int32) (x3 : Int32) (M : v_M) : Option (Int32 × v_M) :=
  if x3 = (4 : Int32) then ((f_X12_fails N (0 : Int32) x2 M).bind fun z15 => some (0, z15.2)) else (if x1 = (12 : Int32) then ((f_X12_fails N (4 : Int32) x2 M).bind fun z14 => some (0, z14.2)) else ((f_X12_clauseOf N x3 M).bind fun z1 => (f_J0_length_8abf5 N z1.1 z1.2).bind fun z2 => v_let (v_wr z2.2 79 33 ((M.1 79 33) + z2.1)) fun M3 => v_let ((((12 : Int32) * (M3.1 79 35)) + x1)) fun y4 => v_ck (v_ib y4 144) <| v_let (v_wr M3 113 y4.toNatClampNeg x3) fun M5 => v_ck (v_ib y4 144) <| v_let (v_wr M5 116 y4.toNatClampNeg (M5.1 79 36)) fun M6 => (f_X12_blanks N M6).bind fun z7 => if x3 = 0 then ((f_X12_digits N (9 : Int32) z7.2).bind fun z9 => v_ck (v_ib y4 144) <| v_let (v_wr z9.2 114 y4.toNatClampNeg z9.1) fun M10 => (f_X12_blanks N M10).bind fun z11 => if (z11.2.1 79 34) = 0 then ((f_X12_takes_ N 5 z11.2).bind fun z12 => if z12.1 = 0 then ((f_X12_fails N (0 : Int32) (z12.2.1 79 33) z12.2).bind fun z13 => f_X12_clause_L155 N y4 z13.2) else (f_X12_clause_L155 N y4 z12.2)) else (f_X12_clause_L155 N y4 z11.2)) else (if x3 = (1 : Int32) then ((f_X12_sum N z7.2).bind fun z8 => f_X12_clause_L277 N y4 z8.2) else (if x3 = (2 : Int32) then (f_X12_clause_L207 N N y4 (0 : Int32) z7.2) else (f_X12_clause_L277 N y4 z7.2)))))
def f_X12_clause_L11 (N : Nat) : Nat → Int32 → Int32 → Int32 → v_M → Option (Int32 × v_M)
  | 0, _, _, _, _ => none
  | n + 1, x1, x2, x3, M => if (4 : Int32) ≤ x3 then (f_X12_clause_L33 N x1 x2 x3 M) else ((f_X12_clauseOf N x3 M).bind fun z1 => (f_X12_stands N z1.1 z1.2).bind fun z2 => if z2.1 = 0 then (f_X12_clause_L11 N n x1 x2 (x3 + (1 : Int32)) z2.2) else (f_X12_clause_L33 N x1 x2 x3 z2.2))
def f_X12_clause (N : Nat) (x1 : Int32) (M : v_M) : Option (Int32 × v_M) :=
  (f_X12_blanks N M).bind fun z1 => v_let ((z1.2.1 79 33)) fun y2 => f_X12_clause_L11 N N x1 y2 (0 : Int32) z1.2
def f_X12_order_L145 (N : Nat) (k69 : Int32 → Int32 → Int32 → Int32 → v_M → Option (Int32 × v_M)) (x1 : Int32) (x2 : Int32) (x3 : Int32) (t0 : Int32) (M : v_M) : Option (Int32 × v_M) :=
  v_let (v_wr M 79 33 ((M.1 79 33) + (1 : Int32))) fun M1 => k69 x1 x2 x3 t0 M1
def f_X12_order_L144 (N : Nat) (k69 : Int32 → Int32 → Int32 → Int32 → v_M → Option (Int32 × v_M)) (x1 : Int32) (x2 : Int32) (x3 : Int32) (M : v_M) : Option (Int32 × v_M) :=
  f_X12_order_L145 N k69 x1 x2 x3 (0 : Int32) M
def f_X12_order_L122 (N : Nat) (k69 : Int32 → Int32 → Int32 → Int32 → v_M → Option (Int32 × v_M)) (x1 : Int32) (x2 : Int32) (x3 : Int32) (M : v_M) : Option (Int32 × v_M) :=
  if (M.1 79 34) = 0 then (if (M.1 79 32) ≤ (M.1 79 33) then (f_X12_order_L144 N k69 x1 x2 x3 M) else (f_X12_order_L145 N k69 x1 x2 x3 (1 : Int32) M)) else (f_X12_order_L144 N k69 x1 x2 x3 M)
def f_X12_order_L69 (N : Nat) : Nat → Int32 → Int32 → Int32 → Int32 → v_M → Option (Int32 × v_M)
  | 0, _, _, _, _, _ => none
  | n + 1, x1, x2, x3, x4, M => if x4 = 0 then (v_let (v_wr M 79 32 (0 : Int32)) fun M1 => if (M1.1 79 34) ≤ 0 then (v_ck (v_ib (M1.1 79 35) 12) <| v_let (v_wr M1 110 (M1.1 79 35).toNatClampNeg x1) fun M2 => v_ck (v_ib (M2.1 79 35) 12) <| v_let (v_wr M2 111 (M2.1 79 35).toNatClampNeg x2) fun M3 => v_ck (v_ib (M3.1 79 35) 12) <| v_let (v_wr M3 112 (M3.1 79 35).toNatClampNeg x3) fun M4 => v_let (v_wr M4 79 35 ((M4.1 79 35) + (1 : Int32))) fun M5 => some (((M5.1 79 35) - (1 : Int32)), M5)) else (some (((-2 : Int32) - (M1.1 79 34)), M1))) else ((f_X12_clause N x3 M).bind fun z6 => (f_X12_blanks N z6.2).bind fun z7 => if (z7.2.1 79 34) = 0 then (if (z7.2.1 79 32) ≤ (z7.2.1 79 33) then (f_X12_order_L122 N (f_X12_order_L69 N n) x1 x2 (x3 + (1 : Int32)) z7.2) else ((f_X12_sign N z7.2).bind fun z8 => if z8.1 = (59 : Int32) then (f_X12_order_L122 N (f_X12_order_L69 N n) x1 x2 (x3 + (1 : Int32)) z8.2) else ((f_X12_fails N (0 : Int32) (z8.2.1 79 33) z8.2).bind fun z9 => f_X12_order_L122 N (f_X12_order_L69 N n) x1 x2 (x3 + (1 : Int32)) z9.2))) else (f_X12_order_L122 N (f_X12_order_L69 N n) x1 x2 (x3 + (1 : Int32)) z7.2))
def f_X12_order (N : Nat) (x1 : Int32) (x2 : Int32) (M : v_M) : Option (Int32 × v_M) :=
  if (M.1 79 35) = (12 : Int32) then (some ((-1 : Int32), M)) else ((f_X12_in N (x1).toInt64 (0 : Int64) (2 : Int64) M).bind fun z1 => if z1.1 = 0 then (some ((-1 : Int32), z1.2)) else ((f_X12_in N (x2).toInt64 ((z1.2.1 79 1)).toInt64 (9999 : Int64) z1.2).bind fun z2 => if z2.1 = 0 then (some ((-1 : Int32), z2.2)) else (v_let (v_wr z2.2 79 33 (0 : Int32)) fun M3 => v_let (v_wr M3 79 34 (0 : Int32)) fun M4 => v_let (v_wr M4 79 36 (0 : Int32)) fun M5 => v_let (v_wr M5 79 37 (0 : Int32)) fun M6 => v_let (v_wr M6 79 38 (0 : Int32)) fun M7 => f_X12_order_L69 N N x1 x2 (0 : Int32) (1 : Int32) M7)))
def f_X12_takes___L53 (N : Nat) (x1 : Int32) (x2 : Int32) (x3 : Int32) (t0 : Int32) (M : v_M) : Option (Int32 × v_M) :=
  if t0 = x3 then (v_ck (v_b01 (0 : Int32)) <| some ((0 : Int32), M)) else (v_ck (v_ib x1 20) <| v_ck (v_ib x1 20) <| v_let (v_wr M 93 x1.toNatClampNeg ((M.1 93 x1.toNatClampNeg) ^^^ ((1 : Int32) <<< (x2 &&& 31)))) fun M1 => v_ck (v_b01 (1 : Int32)) <| some ((1 : Int32), M1))
def f_X12_takes__ (N : Nat) (x1 : Int32) (x2 : Int32) (x3 : Int32) (M : v_M) : Option (Int32 × v_M) :=
  (f_X12_isMachine N x1 M).bind fun z1 => if z1.1 = 0 then (v_ck (v_b01 (0 : Int32)) <| some ((0 : Int32), z1.2)) else ((f_X12_in N (x2).toInt64 (0 : Int64) (((z1.2.1 79 35) - (1 : Int32))).toInt64 z1.2).bind fun z2 => if z2.1 = 0 then (v_ck (v_b01 (0 : Int32)) <| some ((0 : Int32), z2.2)) else (v_ck (v_ib x2 12) <| if (z2.2.1 110 x2.toNatClampNeg) = (1 : Int32) then (v_ck (v_ib x1 20) <| if (((z2.2.1 93 x1.toNatClampNeg) >>> (x2 &&& 31)) &&& (1 : Int32)) = (1 : Int32) then (f_X12_takes___L53 N x1 x2 x3 (1 : Int32) z2.2) else (f_X12_takes___L53 N x1 x2 x3 (0 : Int32) z2.2)) else (v_ck (v_b01 (0 : Int32)) <| some ((0 : Int32), z2.2))))
def f_X12_truth (N : Nat) (x0 : Int32) (M : v_M) : Option (Int64 × v_M) :=
  if x0 = 0 then (some ((0 : Int64), M)) else (some ((1 : Int64), M))
def f_X12_both (N : Nat) (x0 : Int32) (l1 : Int64) (l3 : Int64) (M : v_M) : Option (Int64 × v_M) :=
  if x0 = (2 : Int32) then (some ((l1 + l3), M)) else (if x0 = (3 : Int32) then (some ((l1 - l3), M)) else (if x0 = (4 : Int32) then (if 0 ≤ (lg_cmp l1 l3) then ((f_X12_truth N (0 : Int32) M).bind fun z1 => some (z1.1, z1.2)) else ((f_X12_truth N (1 : Int32) M).bind fun z2 => some (z2.1, z2.2))) else (if x0 = (5 : Int32) then (if 0 < (lg_cmp l1 l3) then ((f_X12_truth N (0 : Int32) M).bind fun z3 => some (z3.1, z3.2)) else ((f_X12_truth N (1 : Int32) M).bind fun z4 => some (z4.1, z4.2))) else (if x0 = (6 : Int32) then (if (lg_cmp l1 l3) = 0 then ((f_X12_truth N (1 : Int32) M).bind fun z6 => some (z6.1, z6.2)) else ((f_X12_truth N (0 : Int32) M).bind fun z5 => some (z5.1, z5.2))) else (if x0 = (7 : Int32) then (if (lg_cmp l1 l3) < 0 then ((f_X12_truth N (0 : Int32) M).bind fun z7 => some (z7.1, z7.2)) else ((f_X12_truth N (1 : Int32) M).bind fun z8 => some (z8.1, z8.2))) else (if x0 = (8 : Int32) then (if (lg_cmp l1 l3) ≤ 0 then ((f_X12_truth N (0 : Int32) M).bind fun z9 => some (z9.1, z9.2)) else ((f_X12_truth N (1 : Int32) M).bind fun z10 => some (z10.1, z10.2))) else (if x0 = (10 : Int32) then (some ((l1 &&& l3), M)) else (some ((l1 ||| l3), M)))))))))
def f_X12_answer_L147 (N : Nat) (k6 : Int32 → Int32 → Int32 → Int32 → v_M → Option (Int64 × v_M)) (x1 : Int32) (x3 : Int32) (x4 : Int32) (x5 : Int32) (M : v_M) : Option (Int64 × v_M) :=
  k6 x1 x3 x4 (x5 + (1 : Int32)) M
def f_X12_answer_L77 (N : Nat) (k6 : Int32 → Int32 → Int32 → Int32 → v_M → Option (Int64 × v_M)) (x1 : Int32) (x3 : Int32) (x4 : Int32) (x5 : Int32) (l0 : Int64) (t1 : Int32) (M : v_M) : Option (Int64 × v_M) :=
  v_ck (v_ib t1 300) <| v_let (v_wl M 121 t1.toNatClampNeg l0) fun M1 => f_X12_answer_L147 N k6 x1 x3 (x4 + (1 : Int32)) x5 M1
def f_X12_answer_L53 (N : Nat) (k6 : Int32 → Int32 → Int32 → Int32 → v_M → Option (Int64 × v_M)) (x1 : Int32) (x3 : Int32) (x4 : Int32) (x5 : Int32) (x6 : Int32) (x7 : Int32) (M : v_M) : Option (Int64 × v_M) :=
  if x6 = 0 then (f_X12_answer_L77 N k6 x1 x3 x4 x5 (x7).toInt64 x4 M) else (v_ck (v_ib x7 7) <| f_X12_answer_L77 N k6 x1 x3 x4 x5 (M.2 120 x7.toNatClampNeg) x4 M)
def f_X12_answer_L6 (N : Nat) : Nat → Int32 → Int32 → Int32 → Int32 → v_M → Option (Int64 × v_M)
  | 0, _, _, _, _, _ => none
  | n + 1, x1, x3, x4, x5, M => if x3 ≤ x5 then (v_ck (v_ib (0 : Int32) 300) <| some ((M.2 121 (0 : Int32).toNatClampNeg), M)) else (v_ck (v_ib (((300 : Int32) * x1) + x5) 3600) <| v_let ((M.1 108 (((300 : Int32) * x1) + x5).toNatClampNeg)) fun y1 => v_ck (v_ib (((300 : Int32) * x1) + x5) 3600) <| v_let ((M.1 109 (((300 : Int32) * x1) + x5).toNatClampNeg)) fun y2 => if y1 = 0 then (f_X12_answer_L53 N (f_X12_answer_L6 N n) x1 x3 x4 x5 y1 y2 M) else (if y1 = (1 : Int32) then (f_X12_answer_L53 N (f_X12_answer_L6 N n) x1 x3 x4 x5 y1 y2 M) else (if y1 = (9 : Int32) then (v_ck (v_ib (x4 - (1 : Int32)) 300) <| v_ck (v_ib (x4 - (1 : Int32)) 300) <| v_let (v_wl M 121 (x4 - (1 : Int32)).toNatClampNeg ((1 : Int64) - (M.2 121 (x4 - (1 : Int32)).toNatClampNeg))) fun M5 => f_X12_answer_L147 N (f_X12_answer_L6 N n) x1 x3 x4 x5 M5) else (v_ck (v_ib ((x4 + (-1 : Int32)) - (1 : Int32)) 300) <| v_ck (v_ib (x4 + (-1 : Int32)) 300) <| (f_X12_both N y1 (M.2 121 ((x4 + (-1 : Int32)) - (1 : Int32)).toNatClampNeg) (M.2 121 (x4 + (-1 : Int32)).toNatClampNeg) M).bind fun z3 => v_ck (v_ib ((x4 + (-1 : Int32)) - (1 : Int32)) 300) <| v_let (v_wl z3.2 121 ((x4 + (-1 : Int32)) - (1 : Int32)).toNatClampNeg z3.1) fun M4 => f_X12_answer_L147 N (f_X12_answer_L6 N n) x1 x3 (x4 + (-1 : Int32)) x5 M4))))
def f_X12_answer (N : Nat) (x1 : Int32) (x2 : Int32) (x3 : Int32) (M : v_M) : Option (Int64 × v_M) :=
  f_X12_answer_L6 N N x1 x3 (0 : Int32) x2 M
def f_X12_doneOf_L35 (N : Nat) (k4 : Int32 → Int32 → Int32 → v_M → Option (Int32 × v_M)) (x1 : Int32) (x3 : Int32) (t0 : Int32) (t1 : Int32) (M : v_M) : Option (Int32 × v_M) :=
  v_let ((t1 ||| t0)) fun y1 => k4 x1 y1 (x3 + (1 : Int32)) M
def f_X12_doneOf_L4 (N : Nat) : Nat → Int32 → Int32 → Int32 → v_M → Option (Int32 × v_M)
  | 0, _, _, _, _ => none
  | n + 1, x1, x2, x3, M => if (M.1 79 60) ≤ x3 then (some (x2, M)) else (v_ck (v_ib x3 200) <| if (M.1 122 x3.toNatClampNeg) = x1 then (v_ck (v_ib x3 200) <| f_X12_doneOf_L35 N (f_X12_doneOf_L4 N n) x1 x3 ((1 : Int32) <<< ((M.1 123 x3.toNatClampNeg) &&& 31)) x2 M) else (f_X12_doneOf_L35 N (f_X12_doneOf_L4 N n) x1 x3 (0 : Int32) x2 M))
def f_X12_doneOf (N : Nat) (x1 : Int32) (M : v_M) : Option (Int32 × v_M) :=
  f_X12_doneOf_L4 N N x1 (0 : Int32) (0 : Int32) M
def f_X12_binds__L143 (N : Nat) (l0 : Int64) (M : v_M) : Option (Int32 × v_M) :=
  v_let ((l0).toInt32) fun y1 => if (M.1 79 57) ≤ y1 then (v_let (v_wr M 79 57 (M.1 79 57)) fun M2 => some (0, M2)) else (v_let (v_wr M 79 57 y1) fun M3 => some (0, M3))
def f_X12_binds__L79 (N : Nat) (t0 : Int32) (t1 : Int32) (M : v_M) : Option (Int32 × v_M) :=
  v_let (v_wr M 79 56 (t1 ||| t0)) fun M1 => some (0, M1)
def f_X12_binds__L35 (N : Nat) (x1 : Int32) (x2 : Int32) (t0 : Int32) (M : v_M) : Option (Int32 × v_M) :=
  v_let (v_wr M 79 55 ((M.1 79 55) ||| t0)) fun M1 => v_ck (v_ib x1 12) <| v_ck (v_ib x2 144) <| if ((M1.1 79 1) - (M1.1 111 x1.toNatClampNeg)) ≤ (M1.1 115 x2.toNatClampNeg) then (f_X12_binds__L79 N (0 : Int32) (M1.1 79 56) M1) else (f_X12_binds__L79 N t0 (M1.1 79 56) M1)
def f_X12_binds_ (N : Nat) (x1 : Int32) (x2 : Int32) (x3 : Int32) (M : v_M) : Option (Int32 × v_M) :=
  v_ck (v_ib x2 144) <| if (M.1 113 x2.toNatClampNeg) = 0 then (v_ck (v_ib x2 144) <| if ((x3 >>> ((M.1 114 x2.toNatClampNeg) &&& 31)) &&& (1 : Int32)) = (1 : Int32) then (f_X12_binds__L35 N x1 x2 (0 : Int32) M) else (v_ck (v_ib x2 144) <| f_X12_binds__L35 N x1 x2 ((1 : Int32) <<< ((M.1 114 x2.toNatClampNeg) &&& 31)) M)) else (v_ck (v_ib x2 144) <| if (M.1 113 x2.toNatClampNeg) = (1 : Int32) then (v_ck (v_ib x2 144) <| v_ck (v_ib x2 144) <| (f_X12_answer N x1 (M.1 116 x2.toNatClampNeg) (M.1 117 x2.toNatClampNeg) M).bind fun z3 => v_let (z3.1) fun y4 => if 0 ≤ (lg_cmp y4 (0 : Int64)) then (if (lg_cmp y4 (999 : Int64)) ≤ 0 then (f_X12_binds__L143 N y4 z3.2) else (f_X12_binds__L143 N (999 : Int64) z3.2)) else (f_X12_binds__L143 N (0 : Int64) z3.2)) else (v_ck (v_ib x2 144) <| if (M.1 113 x2.toNatClampNeg) = (2 : Int32) then (v_ck (v_ib x2 144) <| v_let (v_wr M 79 58 ((M.1 79 58) ||| (M.1 114 x2.toNatClampNeg))) fun M2 => some (0, M2)) else (v_ck (v_b01 (1 : Int32)) <| v_let (v_wr M 79 59 (1 : Int32)) fun M1 => some (0, M1))))
def f_X12_stamp (N : Nat) (x1 : Int32) (x2 : Int32) (x3 : Int32) (x4 : Int32) (M : v_M) : Option (Int32 × v_M) :=
  if (M.1 79 60) = (200 : Int32) then (some ((-1 : Int32), M)) else ((f_X12_isMachine N x1 M).bind fun z1 => if z1.1 = 0 then (some ((-1 : Int32), z1.2)) else ((f_X12_in N (x2).toInt64 (0 : Int64) (9 : Int64) z1.2).bind fun z2 => if z2.1 = 0 then (some ((-1 : Int32), z2.2)) else ((f_X12_in N (x3).toInt64 (0 : Int64) (15 : Int64) z2.2).bind fun z3 => if z3.1 = 0 then (some ((-1 : Int32), z3.2)) else ((f_X12_in N (x4).toInt64 (0 : Int64) ((z3.2.1 79 1)).toInt64 z3.2).bind fun z4 => if z4.1 = 0 then (some ((-1 : Int32), z4.2)) else (v_ck (v_ib (z4.2.1 79 60) 200) <| v_let (v_wr z4.2 122 (z4.2.1 79 60).toNatClampNeg x1) fun M5 => v_ck (v_ib (M5.1 79 60) 200) <| v_let (v_wr M5 123 (M5.1 79 60).toNatClampNeg x2) fun M6 => v_ck (v_ib (M6.1 79 60) 200) <| v_let (v_wr M6 124 (M6.1 79 60).toNatClampNeg x3) fun M7 => v_ck (v_ib (M7.1 79 60) 200) <| v_let (v_wr M7 125 (M7.1 79 60).toNatClampNeg x4) fun M8 => v_let (v_wr M8 79 60 ((M8.1 79 60) + (1 : Int32))) fun M9 => some (((M9.1 79 60) - (1 : Int32)), M9))))))
def f_X12_see (N : Nat) (x1 : Int32) (x2 : Int32) (x3 : Int32) (x4 : Int32) (M : v_M) : Option (Int32 × v_M) :=
  if (M.1 79 61) = (100 : Int32) then (some ((-1 : Int32), M)) else ((f_X12_isMachine N x1 M).bind fun z1 => if z1.1 = 0 then (some ((-1 : Int32), z1.2)) else ((f_X12_in N (x2).toInt64 (0 : Int64) (9 : Int64) z1.2).bind fun z2 => if z2.1 = 0 then (some ((-1 : Int32), z2.2)) else ((f_X12_in N (x3).toInt64 (0 : Int64) ((z2.2.1 79 1)).toInt64 z2.2).bind fun z3 => if z3.1 = 0 then (some ((-1 : Int32), z3.2)) else (v_ck (v_ib (z3.2.1 79 61) 100) <| v_let (v_wr z3.2 128 (z3.2.1 79 61).toNatClampNeg x1) fun M4 => v_ck (v_ib (M4.1 79 61) 100) <| v_let (v_wr M4 129 (M4.1 79 61).toNatClampNeg x2) fun M5 => v_ck (v_ib (M5.1 79 61) 100) <| v_let (v_wr M5 130 (M5.1 79 61).toNatClampNeg x3) fun M6 => v_ck (v_ib (M6.1 79 61) 100) <| v_let (v_wr M6 131 (M6.1 79 61).toNatClampNeg (vp_nar .boolean x4)) fun M7 => v_let (v_wr M7 79 61 ((M7.1 79 61) + (1 : Int32))) fun M8 => some ((M8.1 79 61), M8)))))
def f_X12_needOf (N : Nat) (x1 : Int32) (M : v_M) : Option (Int32 × v_M) :=
  v_ck (v_ib x1 200) <| v_ck (v_ib x1 200) <| some ((((10 : Int32) * (M.1 122 x1.toNatClampNeg)) + (M.1 123 x1.toNatClampNeg)), M)
def f_X12_looks_L215 (N : Nat) (k145 : Int32 → v_M → Option (Int32 × v_M)) (k185 : Int32 → Int32 → v_M → Option (Int32 × v_M)) (x1 : Int32) (x2 : Int32) (M : v_M) : Option (Int32 × v_M) :=
  k185 x1 (x2 + (1 : Int32)) M
def f_X12_looks_L185 (N : Nat) (k145 : Int32 → v_M → Option (Int32 × v_M)) : Nat → Int32 → Int32 → v_M → Option (Int32 × v_M)
  | 0, _, _, _ => none
  | n + 1, x1, x2, M => v_ck (v_ib x2 200) <| v_ck (v_ib x1 200) <| if (M.1 124 x2.toNatClampNeg) = (M.1 124 x1.toNatClampNeg) then (v_ck (v_ib x2 200) <| v_ck (v_ib x1 200) <| if (M.1 125 x2.toNatClampNeg) = (M.1 125 x1.toNatClampNeg) then (v_ck (v_ib x1 200) <| v_let (v_wr M 126 x1.toNatClampNeg x2) fun M1 => k145 (x1 + (1 : Int32)) M1) else (f_X12_looks_L215 N k145 (f_X12_looks_L185 N k145 n) x1 x2 M)) else (f_X12_looks_L215 N k145 (f_X12_looks_L185 N k145 n) x1 x2 M)
def f_X12_looks_L182 (N : Nat) (k145 : Int32 → v_M → Option (Int32 × v_M)) (x1 : Int32) (t0 : Int32) (t1 : Int32) (M : v_M) : Option (Int32 × v_M) :=
  v_ck (v_ib t1 200) <| v_let (v_wr M 132 t1.toNatClampNeg (vp_nar .boolean t0)) fun M1 => f_X12_looks_L185 N k145 N x1 (0 : Int32) M1
def f_X12_looks_L145 (N : Nat) : Nat → Int32 → v_M → Option (Int32 × v_M)
  | 0, _, _ => none
  | n + 1, x1, M => if (M.1 79 60) ≤ x1 then (some (0, M)) else (v_ck (v_ib x1 200) <| (f_X12_needOf N x1 M).bind fun z1 => v_ck (v_ib z1.1 200) <| if (M.1 125 x1.toNatClampNeg) ≤ (z1.2.1 135 z1.1.toNatClampNeg) then (f_X12_looks_L182 N (f_X12_looks_L145 N n) x1 (0 : Int32) x1 z1.2) else (f_X12_looks_L182 N (f_X12_looks_L145 N n) x1 (1 : Int32) x1 z1.2))
def f_X12_looks_L137 (N : Nat) (k31 : Int32 → v_M → Option (Int32 × v_M)) (x1 : Int32) (M : v_M) : Option (Int32 × v_M) :=
  k31 (x1 + (1 : Int32)) M
def f_X12_looks_L136 (N : Nat) (k31 : Int32 → v_M → Option (Int32 × v_M)) (x1 : Int32) (t0 : Int32) (t1 : Int32) (M : v_M) : Option (Int32 × v_M) :=
  v_ck (v_ib t1 200) <| v_let (v_wr M 135 t1.toNatClampNeg t0) fun M1 => f_X12_looks_L137 N k31 x1 M1
def f_X12_looks_L107 (N : Nat) (k31 : Int32 → v_M → Option (Int32 × v_M)) (x1 : Int32) (t0 : Int32) (t1 : Int32) (M : v_M) : Option (Int32 × v_M) :=
  v_ck (v_ib t1 200) <| v_let (v_wr M 134 t1.toNatClampNeg t0) fun M1 => f_X12_looks_L137 N k31 x1 M1
def f_X12_looks_L97 (N : Nat) (k31 : Int32 → v_M → Option (Int32 × v_M)) (x1 : Int32) (x3 : Int32) (t0 : Int32) (M : v_M) : Option (Int32 × v_M) :=
  f_X12_looks_L107 N k31 x1 x3 t0 M
def f_X12_looks_L31 (N : Nat) : Nat → Int32 → v_M → Option (Int32 × v_M)
  | 0, _, _ => none
  | n + 1, x1, M => if (M.1 79 61) ≤ x1 then (f_X12_looks_L145 N N (0 : Int32) M) else (v_ck (v_ib x1 100) <| v_ck (v_ib x1 100) <| v_let ((((10 : Int32) * (M.1 128 x1.toNatClampNeg)) + (M.1 129 x1.toNatClampNeg))) fun y1 => v_ck (v_ib x1 100) <| v_let ((M.1 130 x1.toNatClampNeg)) fun y2 => v_ck (v_ib x1 100) <| if (M.1 131 x1.toNatClampNeg) = 0 then (v_ck (v_ib y1 200) <| if y2 ≤ (M.1 135 y1.toNatClampNeg) then (v_ck (v_ib y1 200) <| f_X12_looks_L136 N (f_X12_looks_L31 N n) x1 (M.1 135 y1.toNatClampNeg) y1 M) else (f_X12_looks_L136 N (f_X12_looks_L31 N n) x1 y2 y1 M)) else (v_ck (v_ib y1 200) <| if (M.1 134 y1.toNatClampNeg) = (-1 : Int32) then (f_X12_looks_L97 N (f_X12_looks_L31 N n) x1 y2 y1 M) else (v_ck (v_ib y1 200) <| if (M.1 134 y1.toNatClampNeg) ≤ y2 then (v_ck (v_ib y1 200) <| f_X12_looks_L107 N (f_X12_looks_L31 N n) x1 (M.1 134 y1.toNatClampNeg) y1 M) else (f_X12_looks_L97 N (f_X12_looks_L31 N n) x1 y2 y1 M))))
def f_X12_looks_L2 (N : Nat) : Nat → Int32 → v_M → Option (Int32 × v_M)
  | 0, _, _ => none
  | n + 1, x1, M => if (200 : Int32) ≤ x1 then (f_X12_looks_L31 N N (0 : Int32) M) else (v_ck (v_ib x1 200) <| v_let (v_wr M 134 x1.toNatClampNeg (-1 : Int32)) fun M1 => v_ck (v_ib x1 200) <| v_let (v_wr M1 135 x1.toNatClampNeg (-1 : Int32)) fun M2 => f_X12_looks_L2 N n (x1 + (1 : Int32)) M2)
def f_X12_looks (N : Nat) (M : v_M) : Option (Int32 × v_M) :=
  f_X12_looks_L2 N N (0 : Int32) M
def f_X12_fits (N : Nat) (x1 : Int32) (x2 : Int32) (x3 : Int32) (M : v_M) : Option (Int32 × v_M) :=
  if x1 = x3 then (v_ck (v_b01 (0 : Int32)) <| some ((0 : Int32), M)) else (v_ck (v_ib x1 200) <| if (M.1 132 x1.toNatClampNeg) = 0 then (v_ck (v_b01 (0 : Int32)) <| some ((0 : Int32), M)) else ((f_X12_needOf N x1 M).bind fun z1 => if z1.1 = x2 then (v_ck (v_ib x1 200) <| v_ck (v_ib x2 200) <| if (z1.2.1 134 x2.toNatClampNeg) < (z1.2.1 125 x1.toNatClampNeg) then (v_ck (v_b01 (0 : Int32)) <| some ((0 : Int32), z1.2)) else (v_ck (v_b01 (1 : Int32)) <| some ((1 : Int32), z1.2))) else (v_ck (v_b01 (0 : Int32)) <| some ((0 : Int32), z1.2))))
def f_X12_isIn_L31 (N : Nat) (k5 : Int32 → Int32 → Int32 → Int32 → v_M → Option (Int32 × v_M)) (x1 : Int32) (x2 : Int32) (x4 : Int32) (t0 : Int32) (M : v_M) : Option (Int32 × v_M) :=
  k5 x1 x2 t0 (x4 + (1 : Int32)) M
def f_X12_isIn_L26 (N : Nat) (k5 : Int32 → Int32 → Int32 → Int32 → v_M → Option (Int32 × v_M)) (x1 : Int32) (x2 : Int32) (x4 : Int32) (M : v_M) : Option (Int32 × v_M) :=
  f_X12_isIn_L31 N k5 x1 x2 x4 (1 : Int32) M
def f_X12_isIn_L5 (N : Nat) : Nat → Int32 → Int32 → Int32 → Int32 → v_M → Option (Int32 × v_M)
  | 0, _, _, _, _, _ => none
  | n + 1, x1, x2, x3, x4, M => if x2 ≤ x4 then (v_ck (v_b01 x3) <| some (x3, M)) else (if x3 = 0 then (v_ck (v_ib x4 200) <| if (M.1 139 x4.toNatClampNeg) = x1 then (f_X12_isIn_L26 N (f_X12_isIn_L5 N n) x1 x2 x4 M) else (f_X12_isIn_L31 N (f_X12_isIn_L5 N n) x1 x2 x4 (0 : Int32) M)) else (f_X12_isIn_L26 N (f_X12_isIn_L5 N n) x1 x2 x4 M))
def f_X12_isIn (N : Nat) (x1 : Int32) (x2 : Int32) (M : v_M) : Option (Int32 × v_M) :=
  f_X12_isIn_L5 N N x1 x2 (0 : Int32) (0 : Int32) M
def f_X12_gives_L5 (N : Nat) : Nat → Int32 → Int32 → v_M → Option (Int32 × v_M)
  | 0, _, _, _ => none
  | n + 1, x3, x4, M => if x3 = (-1 : Int32) then (some (0, M)) else (v_ck (v_ib x3 200) <| v_let (v_wr M 136 x3.toNatClampNeg x4) fun M1 => v_ck (v_ib x3 200) <| v_let ((M1.1 138 x3.toNatClampNeg)) fun y2 => v_ck (v_ib x3 200) <| v_let ((M1.1 137 x3.toNatClampNeg)) fun y3 => f_X12_gives_L5 N n y3 y2 M1)
def f_X12_gives (N : Nat) (x1 : Int32) (x2 : Int32) (M : v_M) : Option (Int32 × v_M) :=
  f_X12_gives_L5 N N x1 x2 M
def f_X12_paper_L22 (N : Nat) (x1 : Int32) (x2 : Int32) (x3 : Int32) (M : v_M) : Option (Int32 × v_M) :=
  (f_X12_in N (x2).toInt64 (0 : Int64) ((M.1 79 1)).toInt64 M).bind fun z1 => if z1.1 = 0 then (some ((-1 : Int32), z1.2)) else (if x3 < 0 then (some ((-1 : Int32), z1.2)) else (if (x3 >>> ((z1.2.1 79 80) &&& 31)) = 0 then (v_ck (v_ib (z1.2.1 79 80) 30) <| v_let (v_wr z1.2 140 (z1.2.1 79 80).toNatClampNeg x1) fun M2 => v_ck (v_ib (M2.1 79 80) 30) <| v_let (v_wr M2 141 (M2.1 79 80).toNatClampNeg x2) fun M3 => v_ck (v_ib (M3.1 79 80) 30) <| v_let (v_wr M3 142 (M3.1 79 80).toNatClampNeg x3) fun M4 => v_let (v_wr M4 79 80 ((M4.1 79 80) + (1 : Int32))) fun M5 => some (((M5.1 79 80) - (1 : Int32)), M5)) else (some ((-1 : Int32), z1.2))))
def f_X12_paper (N : Nat) (x1 : Int32) (x2 : Int32) (x3 : Int32) (M : v_M) : Option (Int32 × v_M) :=
  if (M.1 79 80) = (30 : Int32) then (some ((-1 : Int32), M)) else (if x1 = (-1 : Int32) then (f_X12_paper_L22 N x1 x2 x3 M) else ((f_X12_isMachine N x1 M).bind fun z1 => if z1.1 = 0 then (some ((-1 : Int32), z1.2)) else (f_X12_paper_L22 N x1 x2 x3 z1.2)))
def f_X12_read_L86 (N : Nat) (x3 : Int32) (t0 : Int32) (M : v_M) : Option (Int32 × v_M) :=
  v_ck (v_ib t0 480) <| v_let (v_wr M 143 t0.toNatClampNeg x3) fun M1 => v_ck (v_b01 (1 : Int32)) <| some ((1 : Int32), M1)
def f_X12_read (N : Nat) (x1 : Int32) (x2 : Int32) (x3 : Int32) (M : v_M) : Option (Int32 × v_M) :=
  (f_X12_in N (x1).toInt64 (0 : Int64) (15 : Int64) M).bind fun z1 => if z1.1 = 0 then (v_ck (v_b01 (0 : Int32)) <| some ((0 : Int32), z1.2)) else ((f_X12_in N (x2).toInt64 (0 : Int64) (((z1.2.1 79 80) - (1 : Int32))).toInt64 z1.2).bind fun z2 => if z2.1 = 0 then (v_ck (v_b01 (0 : Int32)) <| some ((0 : Int32), z2.2)) else (v_ck (v_ib x2 30) <| (f_X12_in N (x3).toInt64 ((z2.2.1 141 x2.toNatClampNeg)).toInt64 ((z2.2.1 79 1)).toInt64 z2.2).bind fun z3 => if z3.1 = 0 then (v_ck (v_b01 (0 : Int32)) <| some ((0 : Int32), z3.2)) else (v_let ((((30 : Int32) * x1) + x2)) fun y4 => v_ck (v_ib y4 480) <| if (z3.2.1 143 y4.toNatClampNeg) = (-1 : Int32) then (f_X12_read_L86 N x3 y4 z3.2) else (v_ck (v_ib y4 480) <| if (z3.2.1 143 y4.toNatClampNeg) ≤ x3 then (v_ck (v_ib y4 480) <| v_ck (v_ib y4 480) <| v_let (v_wr z3.2 143 y4.toNatClampNeg (z3.2.1 143 y4.toNatClampNeg)) fun M5 => v_ck (v_b01 (1 : Int32)) <| some ((1 : Int32), M5)) else (f_X12_read_L86 N x3 y4 z3.2)))))
def f_X12_knows_L95 (N : Nat) (k2 : Int32 → Int32 → v_M → Option (Int32 × v_M)) (x1 : Int32) (x2 : Int32) (x3 : Int32) (M : v_M) : Option (Int32 × v_M) :=
  v_ck (v_ib x2 30) <| v_let (v_wr M 144 x2.toNatClampNeg x3) fun M1 => k2 x1 (x2 + (1 : Int32)) M1
def f_X12_knows_L89 (N : Nat) (k2 : Int32 → Int32 → v_M → Option (Int32 × v_M)) (k25 : Int32 → Int32 → Int32 → Int32 → v_M → Option (Int32 × v_M)) (x1 : Int32) (x2 : Int32) (x3 : Int32) (x4 : Int32) (M : v_M) : Option (Int32 × v_M) :=
  k25 x1 x2 x3 (x4 + (1 : Int32)) M
def f_X12_knows_L88 (N : Nat) (k2 : Int32 → Int32 → v_M → Option (Int32 × v_M)) (k25 : Int32 → Int32 → Int32 → Int32 → v_M → Option (Int32 × v_M)) (x1 : Int32) (x2 : Int32) (x4 : Int32) (t0 : Int32) (M : v_M) : Option (Int32 × v_M) :=
  f_X12_knows_L89 N k2 k25 x1 x2 t0 x4 M
def f_X12_knows_L25 (N : Nat) (k2 : Int32 → Int32 → v_M → Option (Int32 × v_M)) : Nat → Int32 → Int32 → Int32 → Int32 → v_M → Option (Int32 × v_M)
  | 0, _, _, _, _, _ => none
  | n + 1, x1, x2, x3, x4, M => if x2 ≤ x4 then (f_X12_knows_L95 N k2 x1 x2 x3 M) else (if x3 = (-1 : Int32) then (f_X12_knows_L95 N k2 x1 x2 x3 M) else (v_ck (v_ib x2 30) <| if (((M.1 142 x2.toNatClampNeg) >>> (x4 &&& 31)) &&& (1 : Int32)) = (1 : Int32) then (v_ck (v_ib x4 30) <| if (M.1 144 x4.toNatClampNeg) = (-1 : Int32) then (f_X12_knows_L88 N k2 (f_X12_knows_L25 N k2 n) x1 x2 x4 (-1 : Int32) M) else (v_ck (v_ib x4 30) <| if (M.1 144 x4.toNatClampNeg) ≤ x3 then (f_X12_knows_L88 N k2 (f_X12_knows_L25 N k2 n) x1 x2 x4 x3 M) else (v_ck (v_ib x4 30) <| f_X12_knows_L88 N k2 (f_X12_knows_L25 N k2 n) x1 x2 x4 (M.1 144 x4.toNatClampNeg) M))) else (f_X12_knows_L89 N k2 (f_X12_knows_L25 N k2 n) x1 x2 x3 x4 M)))
def f_X12_knows_L2 (N : Nat) : Nat → Int32 → Int32 → v_M → Option (Int32 × v_M)
  | 0, _, _, _ => none
  | n + 1, x1, x2, M => if (M.1 79 80) ≤ x2 then (some (0, M)) else (v_ck (v_ib (((30 : Int32) * x1) + x2) 480) <| v_let ((M.1 143 (((30 : Int32) * x1) + x2).toNatClampNeg)) fun y1 => f_X12_knows_L25 N (f_X12_knows_L2 N n) N x1 x2 y1 (0 : Int32) M)
def f_X12_knows (N : Nat) (x1 : Int32) (M : v_M) : Option (Int32 × v_M) :=
  f_X12_knows_L2 N N x1 (0 : Int32) M
def f_X12_knew (N : Nat) (x1 : Int32) (x2 : Int32) (M : v_M) : Option (Int32 × v_M) :=
  (f_X12_in N (x1).toInt64 (0 : Int64) (15 : Int64) M).bind fun z1 => if z1.1 = 0 then (some ((-1 : Int32), z1.2)) else ((f_X12_in N (x2).toInt64 (0 : Int64) (((z1.2.1 79 80) - (1 : Int32))).toInt64 z1.2).bind fun z2 => if z2.1 = 0 then (some ((-1 : Int32), z2.2)) else ((f_X12_knows N x1 z2.2).bind fun z3 => v_ck (v_ib x2 30) <| if (z3.2.1 144 x2.toNatClampNeg) = (-1 : Int32) then (some ((-2 : Int32), z3.2)) else (v_ck (v_ib x2 30) <| if (z3.2.1 144 x2.toNatClampNeg) ≤ (z3.2.1 79 1) then (v_ck (v_ib x2 30) <| some ((z3.2.1 144 x2.toNatClampNeg), z3.2)) else (some ((-2 : Int32), z3.2)))))
def f_X12_warned_L89 (N : Nat) (k22 : Int32 → Int32 → Int32 → Int32 → v_M → Option (Int32 × v_M)) (k38 : Int32 → Int32 → Int32 → Int32 → Int32 → v_M → Option (Int32 × v_M)) (x1 : Int32) (x2 : Int32) (x4 : Int32) (x5 : Int32) (t0 : Int32) (t1 : Int32) (M : v_M) : Option (Int32 × v_M) :=
  v_let ((t1 ||| t0)) fun y1 => k38 x1 x2 y1 x4 (x5 + (1 : Int32)) M
def f_X12_warned_L88 (N : Nat) (k22 : Int32 → Int32 → Int32 → Int32 → v_M → Option (Int32 × v_M)) (k38 : Int32 → Int32 → Int32 → Int32 → Int32 → v_M → Option (Int32 × v_M)) (x1 : Int32) (x2 : Int32) (x4 : Int32) (x5 : Int32) (t0 : Int32) (M : v_M) : Option (Int32 × v_M) :=
  f_X12_warned_L89 N k22 k38 x1 x2 x4 x5 (0 : Int32) t0 M
def f_X12_warned_L38 (N : Nat) (k22 : Int32 → Int32 → Int32 → Int32 → v_M → Option (Int32 × v_M)) : Nat → Int32 → Int32 → Int32 → Int32 → Int32 → v_M → Option (Int32 × v_M)
  | 0, _, _, _, _, _, _ => none
  | n + 1, x1, x2, x3, x4, x5, M => if (M.1 79 80) ≤ x5 then (k22 x1 x2 x3 (x4 + (1 : Int32)) M) else (v_ck (v_ib x5 30) <| if (M.1 140 x5.toNatClampNeg) = x1 then (v_ck (v_ib x5 30) <| if (M.1 144 x5.toNatClampNeg) = (-1 : Int32) then (f_X12_warned_L88 N k22 (f_X12_warned_L38 N k22 n) x1 x2 x4 x5 x3 M) else (v_ck (v_ib x5 30) <| if x2 < (M.1 144 x5.toNatClampNeg) then (f_X12_warned_L88 N k22 (f_X12_warned_L38 N k22 n) x1 x2 x4 x5 x3 M) else (f_X12_warned_L89 N k22 (f_X12_warned_L38 N k22 n) x1 x2 x4 x5 ((1 : Int32) <<< (x4 &&& 31)) x3 M))) else (f_X12_warned_L88 N k22 (f_X12_warned_L38 N k22 n) x1 x2 x4 x5 x3 M))
def f_X12_warned_L22 (N : Nat) : Nat → Int32 → Int32 → Int32 → Int32 → v_M → Option (Int32 × v_M)
  | 0, _, _, _, _, _ => none
  | n + 1, x1, x2, x3, x4, M => if (16 : Int32) ≤ x4 then (some (x3, M)) else ((f_X12_knows N x4 M).bind fun z1 => f_X12_warned_L38 N (f_X12_warned_L22 N n) N x1 x2 x3 x4 (0 : Int32) z1.2)
def f_X12_warned (N : Nat) (x1 : Int32) (x2 : Int32) (M : v_M) : Option (Int32 × v_M) :=
  (f_X12_isMachine N x1 M).bind fun z1 => if z1.1 = 0 then (some ((-1 : Int32), z1.2)) else ((f_X12_isDay N x2 z1.2).bind fun z2 => if z2.1 = 0 then (some ((-1 : Int32), z2.2)) else (f_X12_warned_L22 N N x1 x2 (0 : Int32) (0 : Int32) z2.2))
def f_X12_wears (N : Nat) (x1 : Int32) (x2 : Int32) (M : v_M) : Option (Int32 × v_M) :=
  (f_X12_isPart N x1 M).bind fun z1 => if z1.1 = 0 then (some ((-1 : Int32), z1.2)) else ((f_X12_in N (x2).toInt64 (0 : Int64) (9999 : Int64) z1.2).bind fun z2 => if z2.1 = 0 then (some ((-1 : Int32), z2.2)) else (v_ck (v_ib x1 24) <| v_let ((z2.2.1 87 x1.toNatClampNeg)) fun y3 => v_ck (v_ib x1 24) <| v_let (v_wr z2.2 87 x1.toNatClampNeg x2) fun M4 => some (y3, M4)))
def f_X12_fly_L143 (N : Nat) (k56 : Int32 → Int32 → Int32 → v_M → Option (Int32 × v_M)) (x1 : Int32) (x3 : Int32) (x4 : Int32) (t0 : Int32) (t1 : Int32) (M : v_M) : Option (Int32 × v_M) :=
  v_ck (v_ib t1 480) <| v_let (v_wr M 88 t1.toNatClampNeg t0) fun M1 => k56 x1 x3 (x4 + (1 : Int32)) M1
def f_X12_fly_L115 (N : Nat) (k56 : Int32 → Int32 → Int32 → v_M → Option (Int32 × v_M)) (x1 : Int32) (x3 : Int32) (x4 : Int32) (t0 : Int32) (t1 : Int32) (M : v_M) : Option (Int32 × v_M) :=
  v_let ((t1 + t0)) fun y1 => if y1 ≤ (99 : Int32) then (f_X12_fly_L143 N k56 x1 x3 x4 y1 (((24 : Int32) * x1) + x4) M) else (f_X12_fly_L143 N k56 x1 x3 x4 (99 : Int32) (((24 : Int32) * x1) + x4) M)
def f_X12_fly_L56 (N : Nat) : Nat → Int32 → Int32 → Int32 → v_M → Option (Int32 × v_M)
  | 0, _, _, _, _ => none
  | n + 1, x1, x3, x4, M => if (M.1 79 2) ≤ x4 then (v_ck (v_ib x1 20) <| some ((M.1 92 x1.toNatClampNeg), M)) else (v_ck (v_ib (((24 : Int32) * x1) + x4) 480) <| v_ck (v_ib x4 24) <| if (M.1 87 x4.toNatClampNeg) = 0 then (f_X12_fly_L115 N (f_X12_fly_L56 N n) x1 x3 x4 (0 : Int32) (M.1 88 (((24 : Int32) * x1) + x4).toNatClampNeg) M) else (v_ck (v_ib x1 20) <| v_ck (v_ib x4 24) <| v_ck (v_nz (M.1 87 x4.toNatClampNeg)) <| v_ck (v_ib x4 24) <| v_ck (v_nz (M.1 87 x4.toNatClampNeg)) <| f_X12_fly_L115 N (f_X12_fly_L56 N n) x1 x3 x4 (((M.1 92 x1.toNatClampNeg) / (M.1 87 x4.toNatClampNeg)) - (x3 / (M.1 87 x4.toNatClampNeg))) (M.1 88 (((24 : Int32) * x1) + x4).toNatClampNeg) M))
def f_X12_fly_L52 (N : Nat) (x1 : Int32) (x3 : Int32) (t0 : Int32) (t1 : Int32) (M : v_M) : Option (Int32 × v_M) :=
  v_ck (v_ib t1 20) <| v_let (v_wr M 92 t1.toNatClampNeg t0) fun M1 => f_X12_fly_L56 N N x1 x3 (0 : Int32) M1
def f_X12_fly (N : Nat) (x1 : Int32) (x2 : Int32) (M : v_M) : Option (Int32 × v_M) :=
  (f_X12_isMachine N x1 M).bind fun z1 => if z1.1 = 0 then (some ((-1 : Int32), z1.2)) else ((f_X12_in N (x2).toInt64 (0 : Int64) (9999 : Int64) z1.2).bind fun z2 => if z2.1 = 0 then (some ((-1 : Int32), z2.2)) else (v_ck (v_ib x1 20) <| v_let ((z2.2.1 92 x1.toNatClampNeg)) fun y3 => if (y3 + x2) ≤ (999999 : Int32) then (f_X12_fly_L52 N x1 y3 (y3 + x2) x1 z2.2) else (f_X12_fly_L52 N x1 y3 (999999 : Int32) x1 z2.2)))
def f_X12_behind (N : Nat) (l0 : Int64) (x2 : Int32) (M : v_M) : Option (Int64 × v_M) :=
  v_ck (v_nzl (1000000 : Int64)) <| some ((l0 - ((((l0 * (x2).toInt64) + (1000000 : Int64)) - (1 : Int64)) / (1000000 : Int64))), M)
def f_X12_isChance (N : Nat) (x0 : Int32) (M : v_M) : Option (Int32 × v_M) :=
  (f_X12_in N (x0).toInt64 (0 : Int64) (1000000 : Int64) M).bind fun z1 => v_ck (v_b01 z1.1) <| some (z1.1, z1.2)
def f_X12_odds_L28 (N : Nat) : Nat → Int32 → Int32 → Int64 → Int32 → v_M → Option (Int32 × v_M)
  | 0, _, _, _, _, _ => none
  | n + 1, x1, x2, l3, x5, M => if x2 ≤ x5 then (some ((((1000000 : Int64) - l3)).toInt32, M)) else ((f_X12_behind N l3 x1 M).bind fun z1 => v_let (z1.1) fun y2 => f_X12_odds_L28 N n x1 x2 y2 (x5 + (1 : Int32)) z1.2)
def f_X12_odds (N : Nat) (x1 : Int32) (x2 : Int32) (M : v_M) : Option (Int32 × v_M) :=
  (f_X12_isChance N x1 M).bind fun z1 => if z1.1 = 0 then (some ((-1 : Int32), z1.2)) else ((f_X12_in N (x2).toInt64 (0 : Int64) (9999 : Int64) z1.2).bind fun z2 => if z2.1 = 0 then (some ((-1 : Int32), z2.2)) else (f_X12_odds_L28 N N x1 x2 (1000000 : Int64) (0 : Int32) z2.2))
def f_X12_first_L46 (N : Nat) (k36 : Int32 → Int32 → Int32 → Int64 → Int32 → v_M → Option (Int32 × v_M)) : Nat → Int32 → Int32 → Int32 → Int64 → Int32 → Int32 → v_M → Option (Int32 × v_M)
  | 0, _, _, _, _, _, _, _ => none
  | n + 1, x1, x2, x3, l4, x6, x7, M => if x2 ≤ x7 then (if (lg_cmp ((1000000 : Int64) - l4) (x3).toInt64) < 0 then (k36 x1 x2 x3 l4 (x6 + (1 : Int32)) M) else (some (x6, M))) else ((f_X12_behind N l4 x1 M).bind fun z1 => v_let (z1.1) fun y2 => f_X12_first_L46 N k36 n x1 x2 x3 y2 x6 (x7 + (1 : Int32)) z1.2)
def f_X12_first_L36 (N : Nat) : Nat → Int32 → Int32 → Int32 → Int64 → Int32 → v_M → Option (Int32 × v_M)
  | 0, _, _, _, _, _, _ => none
  | n + 1, x1, x2, x3, l4, x6, M => if (100 : Int32) ≤ x6 then (some ((-2 : Int32), M)) else (f_X12_first_L46 N (f_X12_first_L36 N n) N x1 x2 x3 l4 x6 (0 : Int32) M)
def f_X12_first (N : Nat) (x1 : Int32) (x2 : Int32) (x3 : Int32) (M : v_M) : Option (Int32 × v_M) :=
  (f_X12_isChance N x1 M).bind fun z1 => if z1.1 = 0 then (some ((-1 : Int32), z1.2)) else ((f_X12_in N (x2).toInt64 (1 : Int64) (9999 : Int64) z1.2).bind fun z2 => if z2.1 = 0 then (some ((-1 : Int32), z2.2)) else ((f_X12_isChance N x3 z2.2).bind fun z3 => if z3.1 = 0 then (some ((-1 : Int32), z3.2)) else (f_X12_first_L36 N N x1 x2 x3 (1000000 : Int64) (1 : Int32) z3.2)))
def f_X12_carry_L42 (N : Nat) (r1 n1 : Nat) (k2 : Int32 → v_M → Option (Int32 × v_M)) (x2 : Int32) (M : v_M) : Option (Int32 × v_M) :=
  v_let (v_wr M 79 91 ((M.1 79 91) + (1 : Int32))) fun M1 => k2 (x2 + (1 : Int32)) M1
def f_X12_carry_L2 (N : Nat) (r1 n1 : Nat) : Nat → Int32 → v_M → Option (Int32 × v_M)
  | 0, _, _ => none
  | n + 1, x2, M => if (Int32.ofNat n1) ≤ x2 then (some (0, M)) else (if (M.1 79 92) = 0 then (v_ck (v_ib x2 n1) <| v_ck (v_ib (M.1 79 91) 8000) <| v_let (v_wr M 145 (M.1 79 91).toNatClampNeg (M.1 r1 x2.toNatClampNeg)) fun M1 => f_X12_carry_L42 N r1 n1 (f_X12_carry_L2 N r1 n1 n) x2 M1) else (v_ck (v_ib (M.1 79 91) 8000) <| v_ck (v_ib x2 n1) <| v_let (v_wr M r1 x2.toNatClampNeg (M.1 145 (M.1 79 91).toNatClampNeg)) fun M2 => f_X12_carry_L42 N r1 n1 (f_X12_carry_L2 N r1 n1 n) x2 M2))
def f_X12_carry (N : Nat) (r1 n1 : Nat) (M : v_M) : Option (Int32 × v_M) :=
  f_X12_carry_L2 N r1 n1 N (0 : Int32) M
def f_X12_carries (N : Nat) (x1 : Int32) (M : v_M) : Option (Int32 × v_M) :=
  v_let (v_wr M 79 91 ((2000 : Int32) * x1)) fun M1 => (f_X12_carry N 88 480 M1).bind fun z2 => (f_X12_carry N 89 480 z2.2).bind fun z3 => (f_X12_carry N 90 480 z3.2).bind fun z4 => (f_X12_carry N 91 480 z4.2).bind fun z5 => (f_X12_carry N 92 20 z5.2).bind fun z6 => (f_X12_carry N 93 20 z6.2).bind fun z7 => some (0, z7.2)
def f_X12_mark (N : Nat) (x1 : Int32) (M : v_M) : Option (Int32 × v_M) :=
  (f_X12_in N (x1).toInt64 (0 : Int64) (3 : Int64) M).bind fun z1 => if z1.1 = 0 then (some ((-1 : Int32), z1.2)) else (v_ck (v_ib x1 4) <| v_let (v_wr z1.2 149 x1.toNatClampNeg (vp_nar .boolean (1 : Int32))) fun M2 => v_ck (v_ib x1 4) <| v_let (v_wr M2 148 x1.toNatClampNeg (M2.1 79 1)) fun M3 => v_ck (v_ib x1 4) <| v_let (v_wr M3 146 x1.toNatClampNeg (M3.1 79 2)) fun M4 => v_ck (v_ib x1 4) <| v_let (v_wr M4 147 x1.toNatClampNeg (M4.1 79 3)) fun M5 => v_ck (v_b01 (0 : Int32)) <| v_let (v_wr M5 79 92 (0 : Int32)) fun M6 => (f_X12_carries N x1 M6).bind fun z7 => some ((z7.2.1 79 1), z7.2))
def f_X12_forgets_L212 (N : Nat) (k176 : Int32 → v_M → Option (Int32 × v_M)) (x2 : Int32) (t0 : Int32) (t1 : Int32) (M : v_M) : Option (Int32 × v_M) :=
  v_ck (v_ib t1 30) <| v_let (v_wr M 140 t1.toNatClampNeg t0) fun M1 => k176 (x2 + (1 : Int32)) M1
def f_X12_forgets_L176 (N : Nat) : Nat → Int32 → v_M → Option (Int32 × v_M)
  | 0, _, _ => none
  | n + 1, x2, M => if (M.1 79 80) ≤ x2 then (some (0, M)) else (v_ck (v_ib x2 30) <| if (M.1 79 3) ≤ (M.1 140 x2.toNatClampNeg) then (f_X12_forgets_L212 N (f_X12_forgets_L176 N n) x2 (-1 : Int32) x2 M) else (v_ck (v_ib x2 30) <| f_X12_forgets_L212 N (f_X12_forgets_L176 N n) x2 (M.1 140 x2.toNatClampNeg) x2 M))
def f_X12_forgets_L163 (N : Nat) (k91 : Int32 → Int32 → v_M → Option (Int32 × v_M)) (x1 : Int32) (x2 : Int32) (M : v_M) : Option (Int32 × v_M) :=
  k91 x1 (x2 + (1 : Int32)) M
def f_X12_forgets_L91 (N : Nat) : Nat → Int32 → Int32 → v_M → Option (Int32 × v_M)
  | 0, _, _, _ => none
  | n + 1, x1, x2, M => if (M.1 79 61) ≤ x2 then (v_let (v_wr M 79 61 x1) fun M1 => f_X12_forgets_L176 N N (0 : Int32) M1) else (v_ck (v_ib x2 100) <| if (M.1 79 3) ≤ (M.1 128 x2.toNatClampNeg) then (f_X12_forgets_L163 N (f_X12_forgets_L91 N n) x1 x2 M) else (v_ck (v_ib x2 100) <| v_ck (v_ib x1 100) <| v_let (v_wr M 128 x1.toNatClampNeg (M.1 128 x2.toNatClampNeg)) fun M2 => v_ck (v_ib x2 100) <| v_ck (v_ib x1 100) <| v_let (v_wr M2 129 x1.toNatClampNeg (M2.1 129 x2.toNatClampNeg)) fun M3 => v_ck (v_ib x2 100) <| v_ck (v_ib x1 100) <| v_let (v_wr M3 130 x1.toNatClampNeg (M3.1 130 x2.toNatClampNeg)) fun M4 => v_ck (v_ib x2 100) <| v_ck (v_ib x1 100) <| v_let (v_wr M4 131 x1.toNatClampNeg (vp_nar .boolean (M4.1 131 x2.toNatClampNeg))) fun M5 => f_X12_forgets_L163 N (f_X12_forgets_L91 N n) (x1 + (1 : Int32)) x2 M5))
def f_X12_forgets_L76 (N : Nat) (k4 : Int32 → Int32 → v_M → Option (Int32 × v_M)) (x1 : Int32) (x2 : Int32) (M : v_M) : Option (Int32 × v_M) :=
  k4 x1 (x2 + (1 : Int32)) M
def f_X12_forgets_L4 (N : Nat) : Nat → Int32 → Int32 → v_M → Option (Int32 × v_M)
  | 0, _, _, _ => none
  | n + 1, x1, x2, M => if (M.1 79 60) ≤ x2 then (v_let (v_wr M 79 60 x1) fun M1 => f_X12_forgets_L91 N N (0 : Int32) (0 : Int32) M1) else (v_ck (v_ib x2 200) <| if (M.1 79 3) ≤ (M.1 122 x2.toNatClampNeg) then (f_X12_forgets_L76 N (f_X12_forgets_L4 N n) x1 x2 M) else (v_ck (v_ib x2 200) <| v_ck (v_ib x1 200) <| v_let (v_wr M 122 x1.toNatClampNeg (M.1 122 x2.toNatClampNeg)) fun M2 => v_ck (v_ib x2 200) <| v_ck (v_ib x1 200) <| v_let (v_wr M2 123 x1.toNatClampNeg (M2.1 123 x2.toNatClampNeg)) fun M3 => v_ck (v_ib x2 200) <| v_ck (v_ib x1 200) <| v_let (v_wr M3 124 x1.toNatClampNeg (M3.1 124 x2.toNatClampNeg)) fun M4 => v_ck (v_ib x2 200) <| v_ck (v_ib x1 200) <| v_let (v_wr M4 125 x1.toNatClampNeg (M4.1 125 x2.toNatClampNeg)) fun M5 => f_X12_forgets_L76 N (f_X12_forgets_L4 N n) (x1 + (1 : Int32)) x2 M5))
def f_X12_forgets (N : Nat) (M : v_M) : Option (Int32 × v_M) :=
  f_X12_forgets_L4 N N (0 : Int32) (0 : Int32) M
def f_X12_count (N : Nat) (x1 : Int32) (M : v_M) : Option (Int32 × v_M) :=
  if x1 = (0 : Int32) then (some ((M.1 79 1), M)) else (if x1 = (1 : Int32) then (some ((M.1 79 2), M)) else (if x1 = (2 : Int32) then (some ((M.1 79 3), M)) else (if x1 = (3 : Int32) then (some ((M.1 79 25), M)) else (if x1 = (4 : Int32) then (some ((M.1 79 35), M)) else (if x1 = (5 : Int32) then (some ((M.1 79 60), M)) else (if x1 = (6 : Int32) then (some ((M.1 79 61), M)) else (if x1 = (7 : Int32) then (some ((M.1 79 80), M)) else (if x1 = (8 : Int32) then (some ((M.1 79 32), M)) else (some ((-1 : Int32), M))))))))))
def f_J6_bitCount_0f7a4 (N : Nat) (x0 : Int32) (M : v_M) : Option (Int32 × v_M) :=
  v_let ((x0 - (((x0).toUInt32 >>> (((1 : Int32)).toUInt32 &&& Int32.toUInt32 31)).toInt32 &&& (1431655765 : Int32)))) fun y1 => v_let (((y1 &&& (858993459 : Int32)) + (((y1).toUInt32 >>> (((2 : Int32)).toUInt32 &&& Int32.toUInt32 31)).toInt32 &&& (858993459 : Int32)))) fun y2 => v_let (((y2 + ((y2).toUInt32 >>> (((4 : Int32)).toUInt32 &&& Int32.toUInt32 31)).toInt32) &&& (252645135 : Int32))) fun y3 => v_let ((y3 + ((y3).toUInt32 >>> (((8 : Int32)).toUInt32 &&& Int32.toUInt32 31)).toInt32)) fun y4 => v_let ((y4 + ((y4).toUInt32 >>> (((16 : Int32)).toUInt32 &&& Int32.toUInt32 31)).toInt32)) fun y5 => some ((y5 &&& (63 : Int32)), M)
def f_J7_rangeCheck_23922 (N : Nat) (x0 : Int32) (x1 : Int32) (x2 : Int32) (M : v_M) : Option (Int32 × v_M) :=
  if x1 ≤ x2 then (if 0 ≤ x1 then (if x2 ≤ x0 then (some (0, M)) else (none)) else (none)) else (none)
def f_J7_fill_53178_L5 (N : Nat) (r0 n0 : Nat) : Nat → Int32 → Int32 → Int32 → v_M → Option (Int32 × v_M)
  | 0, _, _, _, _ => none
  | n + 1, x1, x2, x3, M => if x3 ≤ x2 then (some (0, M)) else (v_ck (v_ib x2 n0) <| v_let (v_wr M r0 x2.toNatClampNeg x1) fun M1 => f_J7_fill_53178_L5 N r0 n0 n x1 (x2 + (1 : Int32)) x3 M1)
def f_J7_fill_53178 (N : Nat) (r0 n0 : Nat) (x1 : Int32) (M : v_M) : Option (Int32 × v_M) :=
  v_let ((Int32.ofNat n0)) fun y1 => f_J7_fill_53178_L5 N r0 n0 N x1 (0 : Int32) y1 M
def f_J7_fill_fda19_L10 (N : Nat) (r0 n0 : Nat) : Nat → Int32 → Int32 → Int32 → v_M → Option (Int32 × v_M)
  | 0, _, _, _, _ => none
  | n + 1, x2, x3, x4, M => if x2 ≤ x4 then (some (0, M)) else (v_ck (v_ib x4 n0) <| v_let (v_wr M r0 x4.toNatClampNeg x3) fun M1 => f_J7_fill_fda19_L10 N r0 n0 n x2 x3 (x4 + (1 : Int32)) M1)
def f_J7_fill_fda19 (N : Nat) (r0 n0 : Nat) (x1 : Int32) (x2 : Int32) (x3 : Int32) (M : v_M) : Option (Int32 × v_M) :=
  (f_J7_rangeCheck_23922 N (Int32.ofNat n0) x1 x2 M).bind fun z1 => f_J7_fill_fda19_L10 N r0 n0 N x2 x3 x1 z1.2
def f_X0_begin (N : Nat) (x1 : Int32) (x2 : Int32) (x3 : Int32) (M : v_M) : Option (Int32 × v_M) :=
  v_let (v_wr M 49 0 (0 : Int32)) fun M1 => v_let (v_wr M1 49 1 (0 : Int32)) fun M2 => v_let (v_wr M2 49 2 (0 : Int32)) fun M3 => v_ck (v_b01 (0 : Int32)) <| v_let (v_wr M3 49 3 (0 : Int32)) fun M4 => v_let (v_wr M4 49 4 (999 : Int32)) fun M5 => v_let (v_wr M5 49 5 x3) fun M6 => v_ck (v_ib (0 : Int32) 7) <| v_let (v_wr M6 50 (0 : Int32).toNatClampNeg x1) fun M7 => v_ck (v_ib (1 : Int32) 7) <| v_let (v_wr M7 50 (1 : Int32).toNatClampNeg x2) fun M8 => (f_J6_bitCount_0f7a4 N x3 M8).bind fun z9 => v_ck (v_ib (5 : Int32) 7) <| v_let (v_wr z9.2 50 (5 : Int32).toNatClampNeg z9.1) fun M10 => some (0, M10)
def f_X0_joined (N : Nat) (x0 : Int32) (x1 : Int32) (x2 : Int32) (M : v_M) : Option (Int32 × v_M) :=
  if x0 = (-16 : Int32) then (some ((x1 &&& x2), M)) else (if x0 = (-15 : Int32) then (if x1 ≤ x2 then ((f_X11_asNumber N (0 : Int32) M).bind fun z1 => some (z1.1, z1.2)) else ((f_X11_asNumber N (1 : Int32) M).bind fun z2 => some (z2.1, z2.2))) else (if x0 = (-14 : Int32) then (if x1 < x2 then ((f_X11_asNumber N (0 : Int32) M).bind fun z3 => some (z3.1, z3.2)) else ((f_X11_asNumber N (1 : Int32) M).bind fun z4 => some (z4.1, z4.2))) else (if x0 = (-13 : Int32) then (if x1 = x2 then ((f_X11_asNumber N (1 : Int32) M).bind fun z6 => some (z6.1, z6.2)) else ((f_X11_asNumber N (0 : Int32) M).bind fun z5 => some (z5.1, z5.2))) else (if x0 = (-12 : Int32) then (if x2 < x1 then ((f_X11_asNumber N (0 : Int32) M).bind fun z7 => some (z7.1, z7.2)) else ((f_X11_asNumber N (1 : Int32) M).bind fun z8 => some (z8.1, z8.2))) else (if x0 = (-11 : Int32) then (if x2 ≤ x1 then ((f_X11_asNumber N (0 : Int32) M).bind fun z9 => some (z9.1, z9.2)) else ((f_X11_asNumber N (1 : Int32) M).bind fun z10 => some (z10.1, z10.2))) else (if x0 = (-10 : Int32) then (some ((x1 - x2), M)) else (if x0 = (-9 : Int32) then (some ((x1 + x2), M)) else (some ((x1 ||| x2), M)))))))))
def f_X1_isCheaper (N : Nat) (x1 : Int32) (x2 : Int32) (M : v_M) : Option (Int32 × v_M) :=
  (f_X1_coinsOf N x1 M).bind fun z1 => v_let (z1.1) fun y2 => (f_X1_coinsOf N x2 z1.2).bind fun z3 => v_let (z3.1) fun y4 => if y2 = y4 then ((f_J6_bitCount_0f7a4 N x1 z3.2).bind fun z5 => v_let (z5.1) fun y6 => (f_J6_bitCount_0f7a4 N x2 z5.2).bind fun z7 => v_let (z7.1) fun y8 => if y6 < y8 then (v_ck (v_b01 (1 : Int32)) <| some ((1 : Int32), z7.2)) else (if y6 = y8 then (if x2 ≤ x1 then (v_ck (v_b01 (0 : Int32)) <| some ((0 : Int32), z7.2)) else (v_ck (v_b01 (1 : Int32)) <| some ((1 : Int32), z7.2))) else (v_ck (v_b01 (0 : Int32)) <| some ((0 : Int32), z7.2)))) else (if y4 ≤ y2 then (v_ck (v_b01 (0 : Int32)) <| some ((0 : Int32), z3.2)) else (v_ck (v_b01 (1 : Int32)) <| some ((1 : Int32), z3.2)))
def f_X1_applyTo_L95 (N : Nat) (k2 : Int32 → Int32 → v_M → Option (Int32 × v_M)) (x2 : Int32) (x3 : Int32) (M : v_M) : Option (Int32 × v_M) :=
  k2 x2 (x3 + (1 : Int32)) M
def f_X1_applyTo_L2 (N : Nat) : Nat → Int32 → Int32 → v_M → Option (Int32 × v_M)
  | 0, _, _, _ => none
  | n + 1, x2, x3, M => if (M.1 29 0) ≤ x3 then (some (0, M)) else (v_ck (v_ib x3 8) <| v_let ((M.1 30 x3.toNatClampNeg)) fun y1 => if ((x2 >>> (x3 &&& 31)) &&& (1 : Int32)) = (1 : Int32) then ((f_X11_within N y1 (0 : Int32) (23 : Int32) M).bind fun z2 => if z2.1 = 0 then (f_X1_applyTo_L95 N (f_X1_applyTo_L2 N n) x2 x3 z2.2) else (v_ck (v_ib y1 24) <| v_ck (v_ib x3 8) <| v_ck (v_ib y1 24) <| v_let (v_wr z2.2 19 y1.toNatClampNeg (v_mx (0 : Int32) ((z2.2.1 19 y1.toNatClampNeg) - (z2.2.1 31 x3.toNatClampNeg)))) fun M3 => v_ck (v_ib y1 24) <| v_ck (v_ib x3 8) <| v_ck (v_ib y1 24) <| v_let (v_wr M3 21 y1.toNatClampNeg ((M3.1 21 y1.toNatClampNeg) + (M3.1 32 x3.toNatClampNeg))) fun M4 => v_ck (v_ib y1 24) <| v_ck (v_ib x3 8) <| v_ck (v_ib y1 24) <| v_let (v_wr M4 20 y1.toNatClampNeg ((M4.1 20 y1.toNatClampNeg) + (M4.1 33 x3.toNatClampNeg))) fun M5 => f_X1_applyTo_L95 N (f_X1_applyTo_L2 N n) x2 x3 M5)) else (f_X1_applyTo_L95 N (f_X1_applyTo_L2 N n) x2 x3 M))
def f_X1_applyTo (N : Nat) (x2 : Int32) (M : v_M) : Option (Int32 × v_M) :=
  f_X1_applyTo_L2 N N x2 (0 : Int32) M
def f_X2_load (N : Nat) (q2 : Nat) (x3 : Int32) (M : v_M) : Option (Int32 × v_M) :=
  (f_X11_within N x3 (0 : Int32) (19 : Int32) M).bind fun z1 => if z1.1 = 0 then (some (0, z1.2)) else ((f_X4_spot N x3 (0 : Int32) z1.2).bind fun z2 => v_let (z2.1) fun y3 => v_ck (v_cpk (0 : Int32) (0 : Int32) (24 : Int32) 24 24) <| v_let (v_row z2.2 19 (va_cpy (z2.2.1 4) (z2.2.1 19) (0 : Int32).toNatClampNeg (0 : Int32).toNatClampNeg (24 : Int32).toNatClampNeg)) fun M4 => v_ck (v_cpk (0 : Int32) (0 : Int32) (24 : Int32) 24 24) <| v_let (v_row M4 20 (va_cpy (M4.1 8) (M4.1 20) (0 : Int32).toNatClampNeg (0 : Int32).toNatClampNeg (24 : Int32).toNatClampNeg)) fun M5 => v_ck (v_cpk (0 : Int32) (0 : Int32) (24 : Int32) 24 24) <| v_let (v_row M5 21 (va_cpy (M5.1 9) (M5.1 21) (0 : Int32).toNatClampNeg (0 : Int32).toNatClampNeg (24 : Int32).toNatClampNeg)) fun M6 => v_ck (v_cpk y3 (0 : Int32) (24 : Int32) 480 24) <| v_let (v_row M6 22 (va_cpy (M6.1 (q2 + 1)) (M6.1 22) y3.toNatClampNeg (0 : Int32).toNatClampNeg (24 : Int32).toNatClampNeg)) fun M7 => v_ck (v_cpk y3 (0 : Int32) (24 : Int32) 480 24) <| v_let (v_row M7 23 (va_cpy (M7.1 (q2 + 2)) (M7.1 23) y3.toNatClampNeg (0 : Int32).toNatClampNeg (24 : Int32).toNatClampNeg)) fun M8 => v_ck (v_cpk y3 (0 : Int32) (24 : Int32) 480 24) <| v_let (v_row M8 24 (va_cpy (M8.1 (q2 + 3)) (M8.1 24) y3.toNatClampNeg (0 : Int32).toNatClampNeg (24 : Int32).toNatClampNeg)) fun M9 => v_ck (v_cpk y3 (0 : Int32) (24 : Int32) 480 24) <| v_let (v_row M9 25 (va_cpy (M9.1 (q2 + 4)) (M9.1 25) y3.toNatClampNeg (0 : Int32).toNatClampNeg (24 : Int32).toNatClampNeg)) fun M10 => some (0, M10))
def f_X2_save (N : Nat) (q1 : Nat) (x2 : Int32) (M : v_M) : Option (Int32 × v_M) :=
  (f_X11_within N x2 (0 : Int32) (19 : Int32) M).bind fun z1 => if z1.1 = 0 then (some (0, z1.2)) else ((f_X4_spot N x2 (0 : Int32) z1.2).bind fun z2 => v_let (z2.1) fun y3 => v_ck (v_cpk (0 : Int32) y3 (24 : Int32) 24 480) <| v_let (v_row z2.2 (q1 + 3) (va_cpy (z2.2.1 24) (z2.2.1 (q1 + 3)) (0 : Int32).toNatClampNeg y3.toNatClampNeg (24 : Int32).toNatClampNeg)) fun M4 => v_ck (v_cpk (0 : Int32) y3 (24 : Int32) 24 480) <| v_let (v_row M4 (q1 + 4) (va_cpy (M4.1 25) (M4.1 (q1 + 4)) (0 : Int32).toNatClampNeg y3.toNatClampNeg (24 : Int32).toNatClampNeg)) fun M5 => some (0, M5))
def f_X2_farthest_L119 (N : Nat) (k16 : Int32 → Int32 → v_M → Option (Int32 × v_M)) (x2 : Int32) (x3 : Int32) (M : v_M) : Option (Int32 × v_M) :=
  k16 x2 (x3 + (-1 : Int32)) M
def f_X2_farthest_L16 (N : Nat) : Nat → Int32 → Int32 → v_M → Option (Int32 × v_M)
  | 0, _, _, _ => none
  | n + 1, x2, x3, M => if x3 ≤ 0 then (v_ck (v_ib (0 : Int32) 24) <| v_ck (v_ib (0 : Int32) 24) <| some ((v_mn (M.1 7 (0 : Int32).toNatClampNeg) (M.1 27 (0 : Int32).toNatClampNeg)), M)) else (v_ck (v_ib x3 24) <| v_let ((M.1 3 x3.toNatClampNeg)) fun y1 => v_ck (v_ib x3 24) <| v_let ((M.1 5 x3.toNatClampNeg)) fun y2 => (f_X2_mostAsked N x3 x2 M).bind fun z3 => v_let (z3.1) fun y4 => if (1000000 : Int32) ≤ y4 then (f_X2_farthest_L119 N (f_X2_farthest_L16 N n) x2 x3 z3.2) else (if y2 ≤ 0 then (f_X2_farthest_L119 N (f_X2_farthest_L16 N n) x2 x3 z3.2) else (if y1 < 0 then (f_X2_farthest_L119 N (f_X2_farthest_L16 N n) x2 x3 z3.2) else (if x3 ≤ y1 then (f_X2_farthest_L119 N (f_X2_farthest_L16 N n) x2 x3 z3.2) else (v_ck (v_ib x3 24) <| v_ck (v_nz y2) <| v_let (((((y4 + (1 : Int32)) * (z3.2.1 6 x3.toNatClampNeg)) - (1 : Int32)) / y2)) fun y5 => v_ck (v_ib y1 24) <| v_ck (v_ib x3 24) <| v_ck (v_ib x3 24) <| v_ck (v_ib y1 24) <| v_let (v_wr z3.2 27 y1.toNatClampNeg (v_mn (z3.2.1 27 y1.toNatClampNeg) (((z3.2.1 19 x3.toNatClampNeg) + (z3.2.1 22 x3.toNatClampNeg)) + y5))) fun M6 => f_X2_farthest_L119 N (f_X2_farthest_L16 N n) x2 x3 M6)))))
def f_X2_farthest (N : Nat) (x2 : Int32) (M : v_M) : Option (Int32 × v_M) :=
  (f_J7_fill_53178 N 27 24 (1000000 : Int32) M).bind fun z1 => v_let (((z1.2.1 1 0) - (1 : Int32))) fun y2 => f_X2_farthest_L16 N N x2 y2 z1.2
def f_X2_isOver_L66 (N : Nat) (x2 : Int32) (t0 : Int32) (M : v_M) : Option (Int32 × v_M) :=
  v_ck (v_ib x2 24) <| v_ck (v_ib x2 24) <| if t0 < ((M.1 21 x2.toNatClampNeg) + (M.1 23 x2.toNatClampNeg)) then (v_ck (v_b01 (0 : Int32)) <| some ((0 : Int32), M)) else (v_ck (v_b01 (1 : Int32)) <| some ((1 : Int32), M))
def f_X2_isOver_L44 (N : Nat) (x2 : Int32) (x3 : Int32) (t0 : Int32) (M : v_M) : Option (Int32 × v_M) :=
  if t0 = 0 then (v_ck (v_ib x2 24) <| f_X2_isOver_L66 N x2 (M.1 25 x2.toNatClampNeg) M) else (v_ck (v_ib x3 24) <| f_X2_isOver_L66 N x2 (M.1 25 x3.toNatClampNeg) M)
def f_X2_isOver_L43 (N : Nat) (x2 : Int32) (x3 : Int32) (M : v_M) : Option (Int32 × v_M) :=
  f_X2_isOver_L44 N x2 x3 (0 : Int32) M
def f_X2_isOver (N : Nat) (x2 : Int32) (M : v_M) : Option (Int32 × v_M) :=
  (f_X11_within N x2 (0 : Int32) (23 : Int32) M).bind fun z1 => if z1.1 = 0 then (v_ck (v_b01 (0 : Int32)) <| some ((0 : Int32), z1.2)) else (v_ck (v_ib x2 24) <| v_let ((z1.2.1 3 x2.toNatClampNeg)) fun y2 => v_ck (v_ib x2 24) <| if (z1.2.1 2 x2.toNatClampNeg) = (5 : Int32) then ((f_X11_within N y2 (0 : Int32) (23 : Int32) z1.2).bind fun z3 => if z3.1 = 0 then (f_X2_isOver_L43 N x2 y2 z3.2) else (f_X2_isOver_L44 N x2 y2 (1 : Int32) z3.2)) else (f_X2_isOver_L43 N x2 y2 z1.2))
def f_X2_isShut_L35 (N : Nat) (k4 : Int32 → Int32 → v_M → Option (Int32 × v_M)) (x2 : Int32) (x3 : Int32) (M : v_M) : Option (Int32 × v_M) :=
  k4 x2 (x3 + (1 : Int32)) M
def f_X2_isShut_L4 (N : Nat) : Nat → Int32 → Int32 → v_M → Option (Int32 × v_M)
  | 0, _, _, _ => none
  | n + 1, x2, x3, M => if (M.1 1 0) ≤ x3 then (v_ck (v_b01 x2) <| some (x2, M)) else (v_ck (v_ib x3 24) <| if (M.1 2 x3.toNatClampNeg) = (2 : Int32) then ((f_X2_isOver N x3 M).bind fun z1 => if z1.1 = 0 then (v_ck (v_b01 (0 : Int32)) <| some ((0 : Int32), z1.2)) else (f_X2_isShut_L35 N (f_X2_isShut_L4 N n) (1 : Int32) x3 z1.2)) else (f_X2_isShut_L35 N (f_X2_isShut_L4 N n) x2 x3 M))
def f_X2_isShut (N : Nat) (M : v_M) : Option (Int32 × v_M) :=
  f_X2_isShut_L4 N N (0 : Int32) (0 : Int32) M
def f_X2_looksShut_L35 (N : Nat) (k2 : Int32 → Int32 → v_M → Option (Int32 × v_M)) (x2 : Int32) (x3 : Int32) (M : v_M) : Option (Int32 × v_M) :=
  k2 x2 (x3 + (1 : Int32)) M
def f_X2_looksShut_L2 (N : Nat) : Nat → Int32 → Int32 → v_M → Option (Int32 × v_M)
  | 0, _, _, _ => none
  | n + 1, x2, x3, M => if (M.1 1 0) ≤ x3 then (v_ck (v_b01 (1 : Int32)) <| some ((1 : Int32), M)) else (v_ck (v_ib x3 24) <| (f_X2_lookBit N (M.1 2 x3.toNatClampNeg) M).bind fun z1 => if (x2 &&& z1.1) = 0 then (f_X2_looksShut_L35 N (f_X2_looksShut_L2 N n) x2 x3 z1.2) else ((f_X2_isOver N x3 z1.2).bind fun z2 => if z2.1 = 0 then (v_ck (v_b01 (0 : Int32)) <| some ((0 : Int32), z2.2)) else (f_X2_looksShut_L35 N (f_X2_looksShut_L2 N n) x2 x3 z2.2)))
def f_X2_looksShut (N : Nat) (x2 : Int32) (M : v_M) : Option (Int32 × v_M) :=
  f_X2_looksShut_L2 N N x2 (0 : Int32) M
def f_X2_isUnlike (N : Nat) (x2 : Int32) (M : v_M) : Option (Int32 × v_M) :=
  (f_X2_looksShut N x2 M).bind fun z1 => if z1.1 = 0 then (v_ck (v_b01 (0 : Int32)) <| some ((0 : Int32), z1.2)) else ((f_X2_isShut N z1.2).bind fun z2 => if z2.1 = 0 then (v_ck (v_b01 (1 : Int32)) <| some ((1 : Int32), z2.2)) else (v_ck (v_b01 (0 : Int32)) <| some ((0 : Int32), z2.2)))
def f_X2_gatherHooks_L69 (N : Nat) (k4 : Int32 → Int32 → v_M → Option (Int32 × v_M)) (x2 : Int32) (x3 : Int32) (M : v_M) : Option (Int32 × v_M) :=
  k4 x2 (x3 + (1 : Int32)) M
def f_X2_gatherHooks_L4 (N : Nat) : Nat → Int32 → Int32 → v_M → Option (Int32 × v_M)
  | 0, _, _, _ => none
  | n + 1, x2, x3, M => if (M.1 1 0) ≤ x3 then (some (x2, M)) else (v_ck (v_ib x3 24) <| if (M.1 2 x3.toNatClampNeg) = (2 : Int32) then ((f_X2_isOver N x3 M).bind fun z1 => if z1.1 = 0 then (f_X2_gatherHooks_L69 N (f_X2_gatherHooks_L4 N n) x2 x3 z1.2) else (v_ck (v_ib x3 24) <| v_ck (v_ib x3 24) <| v_ck (v_ib x3 24) <| v_ck (v_ib x3 24) <| v_ck (v_ib x2 24) <| v_let (v_wr z1.2 28 x2.toNatClampNeg ((z1.2.1 20 x3.toNatClampNeg) + ((5 : Int32) * (((z1.2.1 25 x3.toNatClampNeg) - (z1.2.1 21 x3.toNatClampNeg)) - (z1.2.1 23 x3.toNatClampNeg))))) fun M2 => f_X2_gatherHooks_L69 N (f_X2_gatherHooks_L4 N n) (x2 + (1 : Int32)) x3 M2)) else (f_X2_gatherHooks_L69 N (f_X2_gatherHooks_L4 N n) x2 x3 M))
def f_X2_gatherHooks (N : Nat) (M : v_M) : Option (Int32 × v_M) :=
  f_X2_gatherHooks_L4 N N (0 : Int32) (0 : Int32) M
def f_X3_takesKind (N : Nat) (x1 : Int32) (x2 : Int32) (M : v_M) : Option (Int32 × v_M) :=
  if (M.1 1 0) < (24 : Int32) then (if (M.1 1 0) = 0 then (if x1 = 0 then (if x2 = (-1 : Int32) then (v_ck (v_b01 (1 : Int32)) <| some ((1 : Int32), M)) else (v_ck (v_b01 (0 : Int32)) <| some ((0 : Int32), M))) else (v_ck (v_b01 (0 : Int32)) <| some ((0 : Int32), M))) else ((f_X11_within N x1 (1 : Int32) (5 : Int32) M).bind fun z1 => if z1.1 = 0 then (v_ck (v_b01 (0 : Int32)) <| some ((0 : Int32), z1.2)) else ((f_X11_within N x2 (0 : Int32) ((z1.2.1 1 0) - (1 : Int32)) z1.2).bind fun z2 => if z2.1 = 0 then (v_ck (v_b01 (0 : Int32)) <| some ((0 : Int32), z2.2)) else (if x1 = (5 : Int32) then (v_ck (v_ib x2 24) <| if (z2.2.1 2 x2.toNatClampNeg) = (2 : Int32) then (v_ck (v_b01 (1 : Int32)) <| some ((1 : Int32), z2.2)) else (v_ck (v_b01 (0 : Int32)) <| some ((0 : Int32), z2.2))) else (v_ck (v_ib x2 24) <| if (2 : Int32) < (z2.2.1 2 x2.toNatClampNeg) then (v_ck (v_b01 (0 : Int32)) <| some ((0 : Int32), z2.2)) else (v_ck (v_b01 (1 : Int32)) <| some ((1 : Int32), z2.2))))))) else (v_ck (v_b01 (0 : Int32)) <| some ((0 : Int32), M))
def f_X4_letGo (N : Nat) (q0 : Nat) (x1 : Int32) (M : v_M) : Option (Int32 × v_M) :=
  (f_X11_within N x1 (0 : Int32) ((M.1 q0 0) - (1 : Int32)) M).bind fun z1 => if z1.1 = 0 then (some (0, z1.2)) else ((f_X4_spot N x1 (0 : Int32) z1.2).bind fun z2 => (f_X4_spot N (x1 + (1 : Int32)) (0 : Int32) z2.2).bind fun z3 => (f_J7_fill_fda19 N (q0 + 4) 480 z2.1 z3.1 (0 : Int32) z3.2).bind fun z4 => some (0, z4.2))
def f_X4_hasTaken (N : Nat) (q0 : Nat) (x1 : Int32) (x2 : Int32) (M : v_M) : Option (Int32 × v_M) :=
  (f_X11_within N x1 (0 : Int32) ((M.1 q0 0) - (1 : Int32)) M).bind fun z1 => if z1.1 = 0 then (v_ck (v_b01 (0 : Int32)) <| some ((0 : Int32), z1.2)) else (v_ck (v_ib x1 20) <| if (((z1.2.1 (q0 + 6) x1.toNatClampNeg) >>> (x2 &&& 31)) &&& (1 : Int32)) = (1 : Int32) then (v_ck (v_b01 (1 : Int32)) <| some ((1 : Int32), z1.2)) else (v_ck (v_b01 (0 : Int32)) <| some ((0 : Int32), z1.2)))
def f_X4_addFlights_L99 (N : Nat) (q0 : Nat) (k37 : Int32 → Int32 → Int32 → Int32 → v_M → Option (Int32 × v_M)) (x2 : Int32) (x4 : Int32) (x5 : Int32) (x6 : Int32) (M : v_M) : Option (Int32 × v_M) :=
  k37 x2 x4 x5 (x6 + (1 : Int32)) M
def f_X4_addFlights_L37 (N : Nat) (q0 : Nat) : Nat → Int32 → Int32 → Int32 → Int32 → v_M → Option (Int32 × v_M)
  | 0, _, _, _, _, _ => none
  | n + 1, x2, x4, x5, x6, M => if (M.1 1 0) ≤ x6 then (v_ck (v_ib x2 20) <| v_let (v_wr M (q0 + 5) x2.toNatClampNeg x5) fun M1 => some (0, M1)) else (v_ck (v_ib x6 24) <| v_let ((M.1 10 x6.toNatClampNeg)) fun y2 => if y2 ≤ 0 then (f_X4_addFlights_L99 N q0 (f_X4_addFlights_L37 N q0 n) x2 x4 x5 x6 M) else ((f_X4_spot N x2 x6 M).bind fun z3 => v_let (z3.1) fun y4 => v_ck (v_ib y4 480) <| v_ck (v_nz y2) <| v_ck (v_nz y2) <| v_ck (v_ib y4 480) <| v_let (v_wr z3.2 (q0 + 1) y4.toNatClampNeg (v_mn (99 : Int32) (((z3.2.1 (q0 + 1) y4.toNatClampNeg) + (x5 / y2)) - (x4 / y2)))) fun M5 => f_X4_addFlights_L99 N q0 (f_X4_addFlights_L37 N q0 n) x2 x4 x5 x6 M5))
def f_X4_addFlights (N : Nat) (q0 : Nat) (x2 : Int32) (x3 : Int32) (M : v_M) : Option (Int32 × v_M) :=
  (f_X11_within N x2 (0 : Int32) ((M.1 q0 0) - (1 : Int32)) M).bind fun z1 => if z1.1 = 0 then (some (0, z1.2)) else (v_ck (v_ib x2 20) <| v_let ((z1.2.1 (q0 + 5) x2.toNatClampNeg)) fun y2 => v_let ((v_mn (y2 + x3) (999999 : Int32))) fun y3 => f_X4_addFlights_L37 N q0 N x2 y2 y3 (0 : Int32) z1.2)
def f_X4_sumOf_L43 (N : Nat) (q0 : Nat) (r1 n1 : Nat) (k9 : Int32 → Int32 → Int32 → v_M → Option (Int32 × v_M)) (x2 : Int32) (x4 : Int32) (t0 : Int32) (t1 : Int32) (M : v_M) : Option (Int32 × v_M) :=
  v_let ((t1 + t0)) fun y1 => k9 x2 y1 (x4 + (1 : Int32)) M
def f_X4_sumOf_L9 (N : Nat) (q0 : Nat) (r1 n1 : Nat) : Nat → Int32 → Int32 → Int32 → v_M → Option (Int32 × v_M)
  | 0, _, _, _, _ => none
  | n + 1, x2, x3, x4, M => (f_X4_spot N (x2 + (1 : Int32)) (0 : Int32) M).bind fun z1 => if z1.1 ≤ x4 then (some (x3, z1.2)) else ((f_X11_within N x4 (0 : Int32) ((Int32.ofNat n1) - (1 : Int32)) z1.2).bind fun z2 => if z2.1 = 0 then (f_X4_sumOf_L43 N q0 r1 n1 (f_X4_sumOf_L9 N q0 r1 n1 n) x2 x4 (0 : Int32) x3 z2.2) else (v_ck (v_ib x4 n1) <| f_X4_sumOf_L43 N q0 r1 n1 (f_X4_sumOf_L9 N q0 r1 n1 n) x2 x4 (z2.2.1 r1 x4.toNatClampNeg) x3 z2.2))
def f_X4_sumOf (N : Nat) (q0 : Nat) (r1 n1 : Nat) (x2 : Int32) (M : v_M) : Option (Int32 × v_M) :=
  (f_X4_spot N x2 (0 : Int32) M).bind fun z1 => v_let (z1.1) fun y2 => f_X4_sumOf_L9 N q0 r1 n1 N x2 (0 : Int32) y2 z1.2
def f_X6_putReading (N : Nat) (x1 : Int32) (x2 : Int32) (x3 : Int32) (M : v_M) : Option (Int32 × v_M) :=
  v_let (((x1 * (30 : Int32)) + x2)) fun y1 => (f_X11_within N y1 (0 : Int32) ((480 : Int32) - (1 : Int32)) M).bind fun z2 => if z2.1 = 0 then (some (0, z2.2)) else (v_ck (v_ib y1 480) <| v_ck (v_ib y1 480) <| v_let (v_wr z2.2 76 y1.toNatClampNeg (v_mn (z2.2.1 76 y1.toNatClampNeg) x3)) fun M3 => some (0, M3))
def f_X6_gatherKnowing_L69 (N : Nat) (k13 : Int32 → Int32 → v_M → Option (Int32 × v_M)) (k36 : Int32 → Int32 → Int32 → Int32 → v_M → Option (Int32 × v_M)) (x1 : Int32) (x2 : Int32) (x3 : Int32) (x4 : Int32) (M : v_M) : Option (Int32 × v_M) :=
  k36 x1 x2 x3 (x4 + (1 : Int32)) M
def f_X6_gatherKnowing_L36 (N : Nat) (k13 : Int32 → Int32 → v_M → Option (Int32 × v_M)) : Nat → Int32 → Int32 → Int32 → Int32 → v_M → Option (Int32 × v_M)
  | 0, _, _, _, _, _ => none
  | n + 1, x1, x2, x3, x4, M => if x2 ≤ x4 then (v_ck (v_ib x2 30) <| v_let (v_wr M 74 x2.toNatClampNeg x3) fun M1 => k13 x1 (x2 + (1 : Int32)) M1) else (v_ck (v_ib x2 30) <| if (((M.1 75 x2.toNatClampNeg) >>> (x4 &&& 31)) &&& (1 : Int32)) = (1 : Int32) then (v_ck (v_ib x4 30) <| v_let ((v_mx x3 (M.1 74 x4.toNatClampNeg))) fun y2 => f_X6_gatherKnowing_L69 N k13 (f_X6_gatherKnowing_L36 N k13 n) x1 x2 y2 x4 M) else (f_X6_gatherKnowing_L69 N k13 (f_X6_gatherKnowing_L36 N k13 n) x1 x2 x3 x4 M))
def f_X6_gatherKnowing_L13 (N : Nat) : Nat → Int32 → Int32 → v_M → Option (Int32 × v_M)
  | 0, _, _, _ => none
  | n + 1, x1, x2, M => if (M.1 71 0) ≤ x2 then (some (0, M)) else (v_ck (v_ib ((x1 * (30 : Int32)) + x2) 480) <| v_let ((M.1 76 ((x1 * (30 : Int32)) + x2).toNatClampNeg)) fun y1 => f_X6_gatherKnowing_L36 N (f_X6_gatherKnowing_L13 N n) N x1 x2 y1 (0 : Int32) M)
def f_X6_gatherKnowing (N : Nat) (x1 : Int32) (M : v_M) : Option (Int32 × v_M) :=
  (f_X11_within N x1 (0 : Int32) (15 : Int32) M).bind fun z1 => if z1.1 = 0 then (some (0, z1.2)) else (f_X6_gatherKnowing_L13 N N x1 (0 : Int32) z1.2)
def f_X7_isNumberTo (N : Nat) (x1 : Int32) (M : v_M) : Option (Int32 × v_M) :=
  if (M.1 35 3) = (256 : Int32) then ((f_X11_within N (M.1 35 4) (0 : Int32) x1 M).bind fun z1 => if z1.1 = 0 then ((f_X7_fail N (1 : Int32) z1.2).bind fun z2 => if z2.1 = 0 then (v_ck (v_b01 (0 : Int32)) <| some ((0 : Int32), z2.2)) else (v_ck (v_b01 (1 : Int32)) <| some ((1 : Int32), z2.2))) else (v_ck (v_b01 (1 : Int32)) <| some ((1 : Int32), z1.2))) else ((f_X7_fail N (0 : Int32) M).bind fun z3 => v_ck (v_b01 z3.1) <| some (z3.1, z3.2))
def f_X7_readLook (N : Nat) (qo : Nat) (x1 : Int32) (M : v_M) : Option (Int32 × v_M) :=
  (f_X11_within N (M.1 35 3) (264 : Int32) (267 : Int32) M).bind fun z1 => if z1.1 = 0 then ((f_X7_fail N (0 : Int32) z1.2).bind fun z4 => v_ck (v_b01 z4.1) <| some (z4.1, z4.2)) else (v_ck (v_ib x1 12) <| v_let (v_wr z1.2 (qo + 2) x1.toNatClampNeg ((1 : Int32) <<< (((z1.2.1 35 3) - (264 : Int32)) &&& 31))) fun M2 => (f_X7_step N M2).bind fun z3 => v_ck (v_b01 (1 : Int32)) <| some ((1 : Int32), z3.2))
def f_X7_readValue_L100 (N : Nat) (qo : Nat) (t0 : Int32) (M : v_M) : Option (Int32 × v_M) :=
  (f_X5_emit N qo t0 M).bind fun z1 => (f_X7_step N z1.2).bind fun z2 => v_ck (v_b01 (1 : Int32)) <| some ((1 : Int32), z2.2)
def f_X7_readValue_L52 (N : Nat) (qo : Nat) (x1 : Int32) (M : v_M) : Option (Int32 × v_M) :=
  if (M.1 35 5) < (60 : Int32) then (v_let (v_wr M 35 5 ((M.1 35 5) + (1 : Int32))) fun M1 => if x1 = 0 then (f_X7_readValue_L100 N qo (M1.1 35 4) M1) else (f_X7_readValue_L100 N qo ((267 : Int32) - (M1.1 35 3)) M1)) else ((f_X7_fail N (3 : Int32) M).bind fun z2 => v_ck (v_b01 z2.1) <| some (z2.1, z2.2))
def f_X7_readValue_L34 (N : Nat) (qo : Nat) (x1 : Int32) (M : v_M) : Option (Int32 × v_M) :=
  if x1 = 0 then (if (M.1 35 4) = (-1 : Int32) then ((f_X7_fail N (1 : Int32) M).bind fun z1 => v_ck (v_b01 z1.1) <| some (z1.1, z1.2)) else (f_X7_readValue_L52 N qo x1 M)) else (f_X7_readValue_L52 N qo x1 M)
def f_X7_readValue (N : Nat) (qo : Nat) (M : v_M) : Option (Int32 × v_M) :=
  (f_X11_within N (M.1 35 3) (268 : Int32) (274 : Int32) M).bind fun z1 => v_let (z1.1) fun y2 => if (z1.2.1 35 3) = (256 : Int32) then (f_X7_readValue_L34 N qo y2 z1.2) else (if y2 = 0 then ((f_X7_fail N (0 : Int32) z1.2).bind fun z3 => v_ck (v_b01 z3.1) <| some (z3.1, z3.2)) else (f_X7_readValue_L34 N qo y2 z1.2))
def f_X8_put_L115 (N : Nat) (x4 : Int32) (x5 : Int32) (t0 : Int32) (t1 : Int32) (M : v_M) : Option (Int32 × v_M) :=
  v_ck (v_ib t1 200) <| v_let (v_wr M 58 t1.toNatClampNeg t0) fun M1 => v_ck (v_ib x5 200) <| v_let (v_wr M1 60 x5.toNatClampNeg x4) fun M2 => v_let (v_wr M2 52 0 (x4 + (1 : Int32))) fun M3 => some (x4, M3)
def f_X8_put (N : Nat) (x1 : Int32) (x2 : Int32) (x3 : Int32) (M : v_M) : Option (Int32 × v_M) :=
  if (200 : Int32) ≤ (M.1 52 0) then (some ((-1 : Int32), M)) else ((f_X11_within N x1 (0 : Int32) (199 : Int32) M).bind fun z1 => if z1.1 = 0 then (some ((-1 : Int32), z1.2)) else (v_let ((z1.2.1 52 0)) fun y2 => (f_X8_findTurn N x2 x3 z1.2).bind fun z3 => v_let (z3.1) fun y4 => v_ck (v_ib y2 200) <| v_let (v_wr z3.2 53 y2.toNatClampNeg x1) fun M5 => v_ck (v_ib y2 200) <| v_let (v_wr M5 54 y2.toNatClampNeg x2) fun M6 => v_ck (v_ib y2 200) <| v_let (v_wr M6 55 y2.toNatClampNeg x3) fun M7 => v_ck (v_ib y2 200) <| v_let (v_wr M7 56 y2.toNatClampNeg y4) fun M8 => v_ck (v_ib x1 200) <| v_ck (v_ib y2 200) <| v_let (v_wr M8 57 y2.toNatClampNeg (M8.1 59 x1.toNatClampNeg)) fun M9 => v_ck (v_ib x1 200) <| v_let (v_wr M9 59 x1.toNatClampNeg y2) fun M10 => if y2 ≤ y4 then (f_X8_put_L115 N y2 y4 (-1 : Int32) y2 M10) else (v_ck (v_ib y4 200) <| f_X8_put_L115 N y2 y4 (M10.1 60 y4.toNatClampNeg) y2 M10)))
def f_X8_tasksOf_L47 (N : Nat) (k4 : Int32 → Int32 → Int32 → v_M → Option (Int32 × v_M)) (x1 : Int32) (x2 : Int32) (x3 : Int32) (M : v_M) : Option (Int32 × v_M) :=
  k4 x1 x2 (x3 + (1 : Int32)) M
def f_X8_tasksOf_L4 (N : Nat) : Nat → Int32 → Int32 → Int32 → v_M → Option (Int32 × v_M)
  | 0, _, _, _, _ => none
  | n + 1, x1, x2, x3, M => if (10 : Int32) ≤ x3 then (some (x2, M)) else (v_let (((x1 * (10 : Int32)) + x3)) fun y1 => (f_X11_within N y1 (0 : Int32) (199 : Int32) M).bind fun z2 => if z2.1 = 0 then (f_X8_tasksOf_L47 N (f_X8_tasksOf_L4 N n) x1 x2 x3 z2.2) else (v_ck (v_ib y1 200) <| if (z2.2.1 59 y1.toNatClampNeg) = (-1 : Int32) then (f_X8_tasksOf_L47 N (f_X8_tasksOf_L4 N n) x1 x2 x3 z2.2) else (v_let ((x2 ||| ((1 : Int32) <<< (x3 &&& 31)))) fun y3 => f_X8_tasksOf_L47 N (f_X8_tasksOf_L4 N n) x1 y3 x3 z2.2)))
def f_X8_tasksOf (N : Nat) (x1 : Int32) (M : v_M) : Option (Int32 × v_M) :=
  f_X8_tasksOf_L4 N N x1 (0 : Int32) (0 : Int32) M
def f_X8_forgetFrom_L140 (N : Nat) (k87 : Int32 → Int32 → Int32 → v_M → Option (Int32 × v_M)) (x1 : Int32) (x3 : Int32) (x4 : Int32) (M : v_M) : Option (Int32 × v_M) :=
  k87 x1 x3 (x4 + (1 : Int32)) M
def f_X8_forgetFrom_L87 (N : Nat) : Nat → Int32 → Int32 → Int32 → v_M → Option (Int32 × v_M)
  | 0, _, _, _, _ => none
  | n + 1, x1, x3, x4, M => if x3 ≤ x4 then (some (0, M)) else (if (100 : Int32) ≤ x4 then (some (0, M)) else (v_ck (v_ib x4 100) <| if (x1 * (10 : Int32)) ≤ (M.1 61 x4.toNatClampNeg) then (f_X8_forgetFrom_L140 N (f_X8_forgetFrom_L87 N n) x1 x3 x4 M) else (v_ck (v_ib x4 100) <| v_ck (v_ib x4 100) <| v_ck (v_ib x4 100) <| (f_X8_putSeen N (M.1 61 x4.toNatClampNeg) (M.1 62 x4.toNatClampNeg) (M.1 63 x4.toNatClampNeg) M).bind fun z1 => f_X8_forgetFrom_L140 N (f_X8_forgetFrom_L87 N n) x1 x3 x4 z1.2)))
def f_X8_forgetFrom_L74 (N : Nat) (x1 : Int32) (M : v_M) : Option (Int32 × v_M) :=
  v_let ((M.1 52 9)) fun y1 => v_let (v_wr M 52 9 (0 : Int32)) fun M2 => f_X8_forgetFrom_L87 N N x1 y1 (0 : Int32) M2
def f_X8_forgetFrom_L68 (N : Nat) (k20 : Int32 → Int32 → Int32 → v_M → Option (Int32 × v_M)) (x1 : Int32) (x2 : Int32) (x3 : Int32) (M : v_M) : Option (Int32 × v_M) :=
  k20 x1 x2 (x3 + (1 : Int32)) M
def f_X8_forgetFrom_L20 (N : Nat) : Nat → Int32 → Int32 → Int32 → v_M → Option (Int32 × v_M)
  | 0, _, _, _, _ => none
  | n + 1, x1, x2, x3, M => if x2 ≤ x3 then (f_X8_forgetFrom_L74 N x1 M) else (if (200 : Int32) ≤ x3 then (f_X8_forgetFrom_L74 N x1 M) else (v_ck (v_ib x3 200) <| if (x1 * (10 : Int32)) ≤ (M.1 53 x3.toNatClampNeg) then (f_X8_forgetFrom_L68 N (f_X8_forgetFrom_L20 N n) x1 x2 x3 M) else (v_ck (v_ib x3 200) <| v_ck (v_ib x3 200) <| v_ck (v_ib x3 200) <| (f_X8_put N (M.1 53 x3.toNatClampNeg) (M.1 54 x3.toNatClampNeg) (M.1 55 x3.toNatClampNeg) M).bind fun z1 => f_X8_forgetFrom_L68 N (f_X8_forgetFrom_L20 N n) x1 x2 x3 z1.2)))
def f_X8_forgetFrom (N : Nat) (x1 : Int32) (M : v_M) : Option (Int32 × v_M) :=
  v_let ((M.1 52 0)) fun y1 => v_let (v_wr M 52 0 (0 : Int32)) fun M2 => (f_J7_fill_53178 N 59 200 (-1 : Int32) M2).bind fun z3 => f_X8_forgetFrom_L20 N N x1 y1 (0 : Int32) z3.2
def f_X9_splitNumber_L50 (N : Nat) (k4 : Int32 → Int32 → v_M → Option (Int32 × v_M)) (x2 : Int32) (t0 : Int32) (M : v_M) : Option (Int32 × v_M) :=
  v_let (v_wr M 36 2 ((M.1 36 2) + (1 : Int32))) fun M1 => k4 t0 (x2 + (1 : Int32)) M1
def f_X9_splitNumber_L4 (N : Nat) : Nat → Int32 → Int32 → v_M → Option (Int32 × v_M)
  | 0, _, _, _ => none
  | n + 1, x1, x2, M => if (400 : Int32) ≤ x2 then (some (x1, M)) else ((f_X9_byteAt N (M.1 36 2) M).bind fun z1 => (f_X9_isDigit N z1.1 z1.2).bind fun z2 => if z2.1 = 0 then (some (x1, z2.2)) else (if (5 : Int32) ≤ x2 then (f_X9_splitNumber_L50 N (f_X9_splitNumber_L4 N n) x2 (-1 : Int32) z2.2) else ((f_X9_byteAt N (z2.2.1 36 2) z2.2).bind fun z3 => f_X9_splitNumber_L50 N (f_X9_splitNumber_L4 N n) x2 (((x1 * (10 : Int32)) + z3.1) - (48 : Int32)) z3.2)))
def f_X9_splitNumber (N : Nat) (M : v_M) : Option (Int32 × v_M) :=
  f_X9_splitNumber_L4 N N (0 : Int32) (0 : Int32) M
def f_X9_splitWord_L109 (N : Nat) (k51 : Int32 → Int32 → Int32 → Int32 → v_M → Option (Int32 × v_M)) (x1 : Int32) (x2 : Int32) (x3 : Int32) (x4 : Int32) (M : v_M) : Option (Int32 × v_M) :=
  k51 x1 x2 x3 (x4 + (1 : Int32)) M
def f_X9_splitWord_L101 (N : Nat) (k51 : Int32 → Int32 → Int32 → Int32 → v_M → Option (Int32 × v_M)) (x1 : Int32) (x2 : Int32) (x4 : Int32) (M : v_M) : Option (Int32 × v_M) :=
  v_let ((x4 + (1 : Int32))) fun y1 => f_X9_splitWord_L109 N k51 x1 (x2 + (1 : Int32)) y1 x4 M
def f_X9_splitWord_L51 (N : Nat) : Nat → Int32 → Int32 → Int32 → Int32 → v_M → Option (Int32 × v_M)
  | 0, _, _, _, _, _ => none
  | n + 1, x1, x2, x3, x4, M => (f_J0_length_8abf5 N 0 M).bind fun z1 => if z1.1 ≤ x4 then (some ((259 : Int32), z1.2)) else ((f_J0_charAt_5068e N 0 x4 z1.2).bind fun z2 => if z2.1 = (32 : Int32) then (if (x4 - x3) = ((z2.2.1 36 2) - x1) then ((f_X9_isSame N x3 x1 z2.2).bind fun z3 => if z3.1 = 0 then (f_X9_splitWord_L101 N (f_X9_splitWord_L51 N n) x1 x2 x4 z3.2) else (some (((260 : Int32) + x2), z3.2))) else (f_X9_splitWord_L101 N (f_X9_splitWord_L51 N n) x1 x2 x4 z2.2)) else (f_X9_splitWord_L109 N (f_X9_splitWord_L51 N n) x1 x2 x3 x4 z2.2))
def f_X9_splitWord_L44 (N : Nat) (x1 : Int32) (M : v_M) : Option (Int32 × v_M) :=
  f_X9_splitWord_L51 N N x1 (0 : Int32) (0 : Int32) (0 : Int32) M
def f_X9_splitWord_L7 (N : Nat) : Nat → Int32 → Int32 → v_M → Option (Int32 × v_M)
  | 0, _, _, _ => none
  | n + 1, x1, x2, M => if (400 : Int32) ≤ x2 then (f_X9_splitWord_L44 N x1 M) else ((f_X9_byteAt N (M.1 36 2) M).bind fun z1 => (f_X9_isLetter N z1.1 z1.2).bind fun z2 => if z2.1 = 0 then (f_X9_splitWord_L44 N x1 z2.2) else (v_let (v_wr z2.2 36 2 ((z2.2.1 36 2) + (1 : Int32))) fun M3 => f_X9_splitWord_L7 N n x1 (x2 + (1 : Int32)) M3))
def f_X9_splitWord (N : Nat) (M : v_M) : Option (Int32 × v_M) :=
  v_let ((M.1 36 2)) fun y1 => f_X9_splitWord_L7 N N y1 (0 : Int32) M
def f_X10_learn_L109 (N : Nat) (k20 : Int32 → v_M → Option (Int32 × v_M)) (x2 : Int32) (M : v_M) : Option (Int32 × v_M) :=
  k20 (x2 + (1 : Int32)) M
def f_X10_learn_L20 (N : Nat) : Nat → Int32 → v_M → Option (Int32 × v_M)
  | 0, _, _ => none
  | n + 1, x2, M => if (M.1 52 9) ≤ x2 then (some (0, M)) else (if (100 : Int32) ≤ x2 then (some (0, M)) else (v_ck (v_ib x2 100) <| v_let ((M.1 61 x2.toNatClampNeg)) fun y1 => v_ck (v_ib x2 100) <| v_let ((M.1 62 x2.toNatClampNeg)) fun y2 => (f_X11_within N y1 (0 : Int32) (199 : Int32) M).bind fun z3 => if z3.1 = 0 then (f_X10_learn_L109 N (f_X10_learn_L20 N n) x2 z3.2) else (v_ck (v_ib x2 100) <| if (z3.2.1 63 x2.toNatClampNeg) = 0 then (v_ck (v_ib y1 200) <| v_ck (v_ib y1 200) <| v_let (v_wr z3.2 65 y1.toNatClampNeg (v_mx (z3.2.1 65 y1.toNatClampNeg) y2)) fun M4 => f_X10_learn_L109 N (f_X10_learn_L20 N n) x2 M4) else (v_ck (v_ib y1 200) <| v_ck (v_ib y1 200) <| v_let (v_wr z3.2 66 y1.toNatClampNeg (v_mn (z3.2.1 66 y1.toNatClampNeg) y2)) fun M5 => f_X10_learn_L109 N (f_X10_learn_L20 N n) x2 M5))))
def f_X10_learn (N : Nat) (M : v_M) : Option (Int32 × v_M) :=
  (f_J7_fill_53178 N 65 200 (-1 : Int32) M).bind fun z1 => (f_J7_fill_53178 N 66 200 (10000 : Int32) z1.2).bind fun z2 => f_X10_learn_L20 N N (0 : Int32) z2.2
def f_X10_mayBeTrue (N : Nat) (x2 : Int32) (M : v_M) : Option (Int32 × v_M) :=
  (f_X11_within N x2 (0 : Int32) (199 : Int32) M).bind fun z1 => if z1.1 = 0 then (v_ck (v_b01 (0 : Int32)) <| some ((0 : Int32), z1.2)) else (v_ck (v_ib x2 200) <| v_ck (v_ib x2 200) <| v_ck (v_ib (z1.2.1 53 x2.toNatClampNeg) 200) <| if (z1.2.1 55 x2.toNatClampNeg) ≤ (z1.2.1 65 (z1.2.1 53 x2.toNatClampNeg).toNatClampNeg) then (v_ck (v_b01 (0 : Int32)) <| some ((0 : Int32), z1.2)) else (v_ck (v_b01 (1 : Int32)) <| some ((1 : Int32), z1.2)))
def f_X10_serves (N : Nat) (x2 : Int32) (M : v_M) : Option (Int32 × v_M) :=
  (f_X10_mayBeTrue N x2 M).bind fun z1 => if z1.1 = 0 then (v_ck (v_b01 (0 : Int32)) <| some ((0 : Int32), z1.2)) else (v_ck (v_ib x2 200) <| v_ck (v_ib (z1.2.1 53 x2.toNatClampNeg) 200) <| v_let ((z1.2.1 66 (z1.2.1 53 x2.toNatClampNeg).toNatClampNeg)) fun y2 => if y2 = (10000 : Int32) then (v_ck (v_b01 (0 : Int32)) <| some ((0 : Int32), z1.2)) else (v_ck (v_ib x2 200) <| if y2 < (z1.2.1 55 x2.toNatClampNeg) then (v_ck (v_b01 (0 : Int32)) <| some ((0 : Int32), z1.2)) else (v_ck (v_b01 (1 : Int32)) <| some ((1 : Int32), z1.2))))
def f_X10_leastFalse_L65 (N : Nat) (k12 : Int32 → Int32 → v_M → Option (Int32 × v_M)) (x2 : Int32) (x3 : Int32) (M : v_M) : Option (Int32 × v_M) :=
  k12 x2 (x3 + (1 : Int32)) M
def f_X10_leastFalse_L62 (N : Nat) (k12 : Int32 → Int32 → v_M → Option (Int32 × v_M)) (x2 : Int32) (x3 : Int32) (M : v_M) : Option (Int32 × v_M) :=
  f_X10_leastFalse_L65 N k12 (x2 + (1 : Int32)) x3 M
def f_X10_leastFalse_L12 (N : Nat) : Nat → Int32 → Int32 → v_M → Option (Int32 × v_M)
  | 0, _, _, _ => none
  | n + 1, x2, x3, M => if (M.1 52 0) ≤ x3 then (some (x2, M)) else (v_ck (v_ib x3 200) <| v_let ((M.1 56 x3.toNatClampNeg)) fun y1 => (f_X10_mayBeTrue N x3 M).bind fun z2 => if z2.1 = 0 then (f_X10_leastFalse_L62 N (f_X10_leastFalse_L12 N n) x2 x3 z2.2) else (v_ck (v_ib y1 200) <| if (2 : Int32) ≤ (z2.2.1 69 y1.toNatClampNeg) then (f_X10_leastFalse_L62 N (f_X10_leastFalse_L12 N n) x2 x3 z2.2) else (v_ck (v_ib y1 200) <| v_ck (v_ib y1 200) <| v_let (v_wr z2.2 69 y1.toNatClampNeg ((z2.2.1 69 y1.toNatClampNeg) + (1 : Int32))) fun M3 => f_X10_leastFalse_L65 N (f_X10_leastFalse_L12 N n) x2 x3 M3)))
def f_X10_leastFalse (N : Nat) (M : v_M) : Option (Int32 × v_M) :=
  (f_J7_fill_53178 N 69 200 (0 : Int32) M).bind fun z1 => f_X10_leastFalse_L12 N N (0 : Int32) (0 : Int32) z1.2
def f_X10_choose_L158 (N : Nat) (k20 : Int32 → Int32 → v_M → Option (Int32 × v_M)) (x3 : Int32) (x4 : Int32) (M : v_M) : Option (Int32 × v_M) :=
  k20 x3 (x4 + (1 : Int32)) M
def f_X10_choose_L143 (N : Nat) (k20 : Int32 → Int32 → v_M → Option (Int32 × v_M)) (k53 : Int32 → Int32 → Int32 → Int32 → v_M → Option (Int32 × v_M)) (x3 : Int32) (x4 : Int32) (x5 : Int32) (x6 : Int32) (M : v_M) : Option (Int32 × v_M) :=
  v_ck (v_ib x5 200) <| v_let ((M.1 57 x5.toNatClampNeg)) fun y1 => k53 x3 x4 y1 (x6 + (1 : Int32)) M
def f_X10_choose_L53 (N : Nat) (k20 : Int32 → Int32 → v_M → Option (Int32 × v_M)) : Nat → Int32 → Int32 → Int32 → Int32 → v_M → Option (Int32 × v_M)
  | 0, _, _, _, _, _ => none
  | n + 1, x3, x4, x5, x6, M => if (200 : Int32) ≤ x6 then (f_X10_choose_L158 N k20 x3 x4 M) else (if x5 < 0 then (f_X10_choose_L158 N k20 x3 x4 M) else (v_ck (v_ib x5 200) <| v_let ((M.1 56 x5.toNatClampNeg)) fun y1 => if x5 = (M.1 64 0) then (f_X10_choose_L143 N k20 (f_X10_choose_L53 N k20 n) x3 x4 x5 x6 M) else (v_ck (v_ib y1 200) <| if (M.1 70 y1.toNatClampNeg) = (-1 : Int32) then ((f_X10_serves N x5 M).bind fun z2 => if z2.1 = 0 then (f_X10_choose_L143 N k20 (f_X10_choose_L53 N k20 n) x3 x4 x5 x6 z2.2) else (v_ck (v_ib y1 200) <| v_let (v_wr z2.2 70 y1.toNatClampNeg x5) fun M3 => v_ck (v_ib y1 200) <| if (2 : Int32) ≤ (M3.1 69 y1.toNatClampNeg) then ((f_X10_queueHolders N y1 x3 M3).bind fun z4 => v_let (z4.1) fun y5 => f_X10_choose_L143 N k20 (f_X10_choose_L53 N k20 n) y5 x4 x5 x6 z4.2) else ((f_X10_moveChoices N y1 M3).bind fun z6 => v_ck (v_b01 (1 : Int32)) <| some ((1 : Int32), z6.2)))) else (f_X10_choose_L143 N k20 (f_X10_choose_L53 N k20 n) x3 x4 x5 x6 M))))
def f_X10_choose_L20 (N : Nat) : Nat → Int32 → Int32 → v_M → Option (Int32 × v_M)
  | 0, _, _, _ => none
  | n + 1, x3, x4, M => if x3 ≤ x4 then (v_ck (v_b01 (0 : Int32)) <| some ((0 : Int32), M)) else (if (200 : Int32) ≤ x4 then (v_ck (v_b01 (0 : Int32)) <| some ((0 : Int32), M)) else (v_ck (v_ib x4 200) <| v_ck (v_ib (M.1 68 x4.toNatClampNeg) 200) <| v_let ((M.1 59 (M.1 68 x4.toNatClampNeg).toNatClampNeg)) fun y1 => f_X10_choose_L53 N (f_X10_choose_L20 N n) N x3 x4 y1 (0 : Int32) M))
def f_X10_choose (N : Nat) (x2 : Int32) (M : v_M) : Option (Int32 × v_M) :=
  (f_J7_fill_53178 N 70 200 (-1 : Int32) M).bind fun z1 => v_ck (v_ib (0 : Int32) 200) <| v_let (v_wr z1.2 68 (0 : Int32).toNatClampNeg x2) fun M2 => f_X10_choose_L20 N N (1 : Int32) (0 : Int32) M2
def f_X11_clock (N : Nat) (x1 : Int32) (M : v_M) : Option (Int32 × v_M) :=
  (f_X11_within N x1 (M.1 0 0) (9999 : Int32) M).bind fun z1 => if z1.1 = 0 then (v_ck (v_b01 (0 : Int32)) <| some ((0 : Int32), z1.2)) else (v_let (v_wr z1.2 0 0 x1) fun M2 => v_ck (v_b01 (1 : Int32)) <| some ((1 : Int32), M2))
def f_X11_part_L86 (N : Nat) (x1 : Int32) (x2 : Int32) (x3 : Int32) (x4 : Int32) (x5 : Int32) (x6 : Int32) (x7 : Int32) (x8 : Int32) (t0 : Int32) (M : v_M) : Option (Int32 × v_M) :=
  if x8 = 0 then (some ((-1 : Int32), M)) else (if t0 = 0 then (some ((-1 : Int32), M)) else ((f_X3_takesKind N x1 x2 M).bind fun z1 => if z1.1 = 0 then (some ((-1 : Int32), z1.2)) else ((f_X3_add N x1 x2 x3 x4 x5 x6 x7 z1.2).bind fun z2 => some (z2.1, z2.2))))
def f_X11_part_L85 (N : Nat) (x1 : Int32) (x2 : Int32) (x3 : Int32) (x4 : Int32) (x5 : Int32) (x6 : Int32) (x7 : Int32) (x8 : Int32) (M : v_M) : Option (Int32 × v_M) :=
  f_X11_part_L86 N x1 x2 x3 x4 x5 x6 x7 x8 (0 : Int32) M
def f_X11_part_L43 (N : Nat) (x1 : Int32) (x2 : Int32) (x3 : Int32) (x4 : Int32) (x5 : Int32) (x6 : Int32) (x7 : Int32) (t0 : Int32) (M : v_M) : Option (Int32 × v_M) :=
  (f_X11_within N x5 (0 : Int32) (999 : Int32) M).bind fun z1 => if z1.1 = 0 then (f_X11_part_L85 N x1 x2 x3 x4 x5 x6 x7 t0 z1.2) else ((f_X11_within N x6 (0 : Int32) (999 : Int32) z1.2).bind fun z2 => if z2.1 = 0 then (f_X11_part_L85 N x1 x2 x3 x4 x5 x6 x7 t0 z2.2) else ((f_X11_within N x7 (0 : Int32) (999 : Int32) z2.2).bind fun z3 => if z3.1 = 0 then (f_X11_part_L85 N x1 x2 x3 x4 x5 x6 x7 t0 z3.2) else (f_X11_part_L86 N x1 x2 x3 x4 x5 x6 x7 t0 (1 : Int32) z3.2)))
def f_X11_part_L42 (N : Nat) (x1 : Int32) (x2 : Int32) (x3 : Int32) (x4 : Int32) (x5 : Int32) (x6 : Int32) (x7 : Int32) (M : v_M) : Option (Int32 × v_M) :=
  f_X11_part_L43 N x1 x2 x3 x4 x5 x6 x7 (0 : Int32) M
def f_X11_part (N : Nat) (x1 : Int32) (x2 : Int32) (x3 : Int32) (x4 : Int32) (x5 : Int32) (x6 : Int32) (x7 : Int32) (M : v_M) : Option (Int32 × v_M) :=
  (f_X11_within N x3 (0 : Int32) (99 : Int32) M).bind fun z1 => if z1.1 = 0 then (f_X11_part_L42 N x1 x2 x3 x4 x5 x6 x7 z1.2) else (v_ck (v_nz (10 : Int32)) <| (f_X11_within N (x4 / (10 : Int32)) (1 : Int32) (9 : Int32) z1.2).bind fun z2 => if z2.1 = 0 then (f_X11_part_L42 N x1 x2 x3 x4 x5 x6 x7 z2.2) else (v_ck (v_nz (10 : Int32)) <| (f_X11_within N (x4 - x4 / (10 : Int32) * (10 : Int32)) (1 : Int32) (9 : Int32) z2.2).bind fun z3 => if z3.1 = 0 then (f_X11_part_L42 N x1 x2 x3 x4 x5 x6 x7 z3.2) else (f_X11_part_L43 N x1 x2 x3 x4 x5 x6 x7 (1 : Int32) z3.2)))
def f_X11_turn_L46 (N : Nat) (x1 : Int32) (x2 : Int32) (x3 : Int32) (x4 : Int32) (M : v_M) : Option (Int32 × v_M) :=
  if x3 = (1 : Int32) then ((f_X11_within N x4 (-99 : Int32) (99 : Int32) M).bind fun z1 => if z1.1 = 0 then (some ((-1000 : Int32), z1.2)) else ((f_X4_spot N x1 x2 z1.2).bind fun z2 => (f_X11_swap N 13 480 z2.1 x4 z2.2).bind fun z3 => some (z3.1, z3.2))) else (some ((-1000 : Int32), M))
def f_X11_turn (N : Nat) (x1 : Int32) (x2 : Int32) (x3 : Int32) (x4 : Int32) (M : v_M) : Option (Int32 × v_M) :=
  (f_X11_hasPartOf N x1 x2 M).bind fun z1 => if z1.1 = 0 then (some ((-1000 : Int32), z1.2)) else (if x3 = 0 then ((f_X11_within N x4 (0 : Int32) (99 : Int32) z1.2).bind fun z2 => if z2.1 = 0 then (f_X11_turn_L46 N x1 x2 x3 x4 z2.2) else ((f_X4_spot N x1 x2 z2.2).bind fun z3 => (f_X11_swap N 12 480 z3.1 x4 z3.2).bind fun z4 => some (z4.1, z4.2))) else (f_X11_turn_L46 N x1 x2 x3 x4 z1.2))
def f_X11_anew (N : Nat) (x1 : Int32) (x2 : Int32) (M : v_M) : Option (Int32 × v_M) :=
  (f_X11_hasPartOf N x1 x2 M).bind fun z1 => if z1.1 = 0 then (some ((-1 : Int32), z1.2)) else (v_ck (v_ib x2 24) <| if (z1.2.1 2 x2.toNatClampNeg) = (1 : Int32) then ((f_X4_spot N x1 x2 z1.2).bind fun z2 => (f_X11_swap N 14 480 z2.1 (0 : Int32) z2.2).bind fun z3 => some (z3.1, z3.2)) else (some ((-1 : Int32), z1.2)))
def f_X11_release (N : Nat) (x1 : Int32) (M : v_M) : Option (Int32 × v_M) :=
  (f_X11_hasMachine N x1 M).bind fun z1 => if z1.1 = 0 then (v_ck (v_b01 (0 : Int32)) <| some ((0 : Int32), z1.2)) else ((f_X4_letGo N 11 x1 z1.2).bind fun z2 => v_ck (v_b01 (1 : Int32)) <| some ((1 : Int32), z2.2))
def f_X11_state (N : Nat) (x1 : Int32) (x2 : Int32) (x3 : Int32) (M : v_M) : Option (Int32 × v_M) :=
  (f_X11_hasPartOf N x1 x2 M).bind fun z1 => if z1.1 = 0 then (some ((-1000 : Int32), z1.2)) else ((f_X4_spot N x1 x2 z1.2).bind fun z2 => v_let (z2.1) fun y3 => if x3 = (0 : Int32) then (v_ck (v_ib y3 480) <| some ((z2.2.1 15 y3.toNatClampNeg), z2.2)) else (if x3 = (1 : Int32) then (v_ck (v_ib y3 480) <| some ((z2.2.1 12 y3.toNatClampNeg), z2.2)) else (if x3 = (2 : Int32) then (v_ck (v_ib y3 480) <| some ((z2.2.1 13 y3.toNatClampNeg), z2.2)) else (if x3 = (3 : Int32) then (v_ck (v_ib y3 480) <| some ((z2.2.1 14 y3.toNatClampNeg), z2.2)) else (if x3 = (4 : Int32) then ((f_X2_load N 11 x1 z2.2).bind fun z4 => (f_X2_isOver N x2 z4.2).bind fun z5 => (f_X11_asNumber N z5.1 z5.2).bind fun z6 => some (z6.1, z6.2)) else (some ((-1000 : Int32), z2.2)))))))
def f_X11_judged (N : Nat) (x1 : Int32) (x2 : Int32) (x3 : Int32) (M : v_M) : Option (Int32 × v_M) :=
  (f_X11_hasMachine N x1 M).bind fun z1 => if z1.1 = 0 then (some ((-1 : Int32), z1.2)) else ((f_X11_within N x3 (0 : Int32) (15 : Int32) z1.2).bind fun z2 => if z2.1 = 0 then (some ((-1 : Int32), z2.2)) else ((f_X2_load N 11 x1 z2.2).bind fun z3 => if x2 = (0 : Int32) then ((f_X2_isShut N z3.2).bind fun z4 => (f_X11_asNumber N z4.1 z4.2).bind fun z5 => some (z5.1, z5.2)) else (if x2 = (1 : Int32) then ((f_X2_looksShut N x3 z3.2).bind fun z6 => (f_X11_asNumber N z6.1 z6.2).bind fun z7 => some (z7.1, z7.2)) else (if x2 = (2 : Int32) then ((f_X2_isUnlike N x3 z3.2).bind fun z8 => (f_X11_asNumber N z8.1 z8.2).bind fun z9 => some (z9.1, z9.2)) else (some ((-1 : Int32), z3.2))))))
def f_X11_change_L26 (N : Nat) (x1 : Int32) (x2 : Int32) (x3 : Int32) (x4 : Int32) (x5 : Int32) (t0 : Int32) (M : v_M) : Option (Int32 × v_M) :=
  (f_X11_hasPart N x1 M).bind fun z1 => if z1.1 = 0 then (some ((-1 : Int32), z1.2)) else (if t0 = 0 then (some ((-1 : Int32), z1.2)) else ((f_X11_within N x4 (0 : Int32) (999 : Int32) z1.2).bind fun z2 => if z2.1 = 0 then (some ((-1 : Int32), z2.2)) else ((f_X11_within N x5 (0 : Int32) (999 : Int32) z2.2).bind fun z3 => if z3.1 = 0 then (some ((-1 : Int32), z3.2)) else ((f_X1_add N x1 x2 x3 x4 x5 z3.2).bind fun z4 => some (z4.1, z4.2)))))
def f_X11_change_L25 (N : Nat) (x1 : Int32) (x2 : Int32) (x3 : Int32) (x4 : Int32) (x5 : Int32) (M : v_M) : Option (Int32 × v_M) :=
  f_X11_change_L26 N x1 x2 x3 x4 x5 (0 : Int32) M
def f_X11_change (N : Nat) (x1 : Int32) (x2 : Int32) (x3 : Int32) (x4 : Int32) (x5 : Int32) (M : v_M) : Option (Int32 × v_M) :=
  (f_X11_within N x2 (0 : Int32) (99 : Int32) M).bind fun z1 => if z1.1 = 0 then (f_X11_change_L25 N x1 x2 x3 x4 x5 z1.2) else ((f_X11_within N x3 (-99 : Int32) (99 : Int32) z1.2).bind fun z2 => if z2.1 = 0 then (f_X11_change_L25 N x1 x2 x3 x4 x5 z2.2) else (f_X11_change_L26 N x1 x2 x3 x4 x5 (1 : Int32) z2.2))
def f_X11_canTry (N : Nat) (x1 : Int32) (x2 : Int32) (x3 : Int32) (x4 : Int32) (x5 : Int32) (x6 : Int32) (M : v_M) : Option (Int32 × v_M) :=
  (f_X11_hasPartOf N x1 x2 M).bind fun z1 => if z1.1 = 0 then (v_ck (v_b01 (0 : Int32)) <| some ((0 : Int32), z1.2)) else ((f_X11_hasPart N x3 z1.2).bind fun z2 => if z2.1 = 0 then (v_ck (v_b01 (0 : Int32)) <| some ((0 : Int32), z2.2)) else (if x2 = x3 then (v_ck (v_b01 (0 : Int32)) <| some ((0 : Int32), z2.2)) else ((f_X11_within N x4 (0 : Int32) (15 : Int32) z2.2).bind fun z3 => if z3.1 = 0 then (v_ck (v_b01 (0 : Int32)) <| some ((0 : Int32), z3.2)) else ((f_X11_within N x5 (0 : Int32) (999 : Int32) z3.2).bind fun z4 => if z4.1 = 0 then (v_ck (v_b01 (0 : Int32)) <| some ((0 : Int32), z4.2)) else ((f_X11_within N x6 (0 : Int32) (15 : Int32) z4.2).bind fun z5 => if z5.1 = 0 then (v_ck (v_b01 (0 : Int32)) <| some ((0 : Int32), z5.2)) else (v_ck (v_b01 (1 : Int32)) <| some ((1 : Int32), z5.2)))))))
def f_X11_floor_L66 (N : Nat) (x1 : Int32) (x2 : Int32) (x3 : Int32) (x4 : Int32) (x5 : Int32) (x6 : Int32) (x7 : Int32) (x8 : Int32) (t0 : Int32) (M : v_M) : Option (Int32 × v_M) :=
  if x8 = 0 then (some ((-1 : Int32), M)) else (if t0 = 0 then (some ((-1 : Int32), M)) else ((f_X11_within N x6 (0 : Int32) (40 : Int32) M).bind fun z1 => if z1.1 = 0 then (some ((-1 : Int32), z1.2)) else ((f_X11_within N x7 (0 : Int32) (1 : Int32) z1.2).bind fun z2 => if z2.1 = 0 then (some ((-1 : Int32), z2.2)) else (v_let ((((x2 * x1) * (10 : Int32)) - ((x3 + ((50 : Int32) * x4)) - ((20 : Int32) * x5)))) fun y3 => if 0 < y3 then (if x7 = 0 then (some ((1 : Int32), z2.2)) else (v_ck (v_nz (100 : Int32)) <| some ((v_mn x6 ((y3 + (99 : Int32)) / (100 : Int32))), z2.2))) else (some ((0 : Int32), z2.2))))))
def f_X11_floor_L65 (N : Nat) (x1 : Int32) (x2 : Int32) (x3 : Int32) (x4 : Int32) (x5 : Int32) (x6 : Int32) (x7 : Int32) (x8 : Int32) (M : v_M) : Option (Int32 × v_M) :=
  f_X11_floor_L66 N x1 x2 x3 x4 x5 x6 x7 x8 (0 : Int32) M
def f_X11_floor_L26 (N : Nat) (x1 : Int32) (x2 : Int32) (x3 : Int32) (x4 : Int32) (x5 : Int32) (x6 : Int32) (x7 : Int32) (t0 : Int32) (M : v_M) : Option (Int32 × v_M) :=
  (f_X11_within N x3 (0 : Int32) (99999 : Int32) M).bind fun z1 => if z1.1 = 0 then (f_X11_floor_L65 N x1 x2 x3 x4 x5 x6 x7 t0 z1.2) else ((f_X11_within N x4 (0 : Int32) (99 : Int32) z1.2).bind fun z2 => if z2.1 = 0 then (f_X11_floor_L65 N x1 x2 x3 x4 x5 x6 x7 t0 z2.2) else ((f_X11_within N x5 (0 : Int32) (400 : Int32) z2.2).bind fun z3 => if z3.1 = 0 then (f_X11_floor_L65 N x1 x2 x3 x4 x5 x6 x7 t0 z3.2) else (f_X11_floor_L66 N x1 x2 x3 x4 x5 x6 x7 t0 (1 : Int32) z3.2)))
def f_X11_floor_L25 (N : Nat) (x1 : Int32) (x2 : Int32) (x3 : Int32) (x4 : Int32) (x5 : Int32) (x6 : Int32) (x7 : Int32) (M : v_M) : Option (Int32 × v_M) :=
  f_X11_floor_L26 N x1 x2 x3 x4 x5 x6 x7 (0 : Int32) M
def f_X11_floor (N : Nat) (x1 : Int32) (x2 : Int32) (x3 : Int32) (x4 : Int32) (x5 : Int32) (x6 : Int32) (x7 : Int32) (M : v_M) : Option (Int32 × v_M) :=
  (f_X11_within N x1 (0 : Int32) (400 : Int32) M).bind fun z1 => if z1.1 = 0 then (f_X11_floor_L25 N x1 x2 x3 x4 x5 x6 x7 z1.2) else ((f_X11_within N x2 (1 : Int32) (99 : Int32) z1.2).bind fun z2 => if z2.1 = 0 then (f_X11_floor_L25 N x1 x2 x3 x4 x5 x6 x7 z2.2) else (f_X11_floor_L26 N x1 x2 x3 x4 x5 x6 x7 (1 : Int32) z2.2))
def f_X11_end (N : Nat) (x1 : Int32) (M : v_M) : Option (Int32 × v_M) :=
  (f_X11_within N x1 (0 : Int32) (M.1 36 0) M).bind fun z1 => if z1.1 = 0 then (some ((-1 : Int32), z1.2)) else (v_let (v_wr z1.2 36 0 x1) fun M2 => some (x1, M2))
def f_X11_takes (N : Nat) (P : v_P) (x1 : Int32) (x2 : Int32) (x3 : Int32) (M : v_M) : Option (Int32 × v_M) :=
  (f_X11_hasMachine N x1 M).bind fun z1 => if z1.1 = 0 then (v_ck (v_b01 (0 : Int32)) <| some ((0 : Int32), z1.2)) else ((f_X11_within N x2 (0 : Int32) ((z1.2.1 0 1) - (1 : Int32)) z1.2).bind fun z2 => if z2.1 = 0 then (v_ck (v_b01 (0 : Int32)) <| some ((0 : Int32), z2.2)) else (v_ck (v_ib x2 12) <| v_opt (P 48 x2.toNatClampNeg) (v_ck (v_b01 (0 : Int32)) <| some ((0 : Int32), z2.2)) (fun qd29 => if (z2.2.1 qd29 0) = (1 : Int32) then ((f_X4_hasTaken N 11 x1 x2 z2.2).bind fun z3 => if z3.1 = x3 then (v_ck (v_b01 (0 : Int32)) <| some ((0 : Int32), z3.2)) else (v_ck (v_ib x1 20) <| v_ck (v_ib x1 20) <| v_let (v_wr z3.2 17 x1.toNatClampNeg ((z3.2.1 17 x1.toNatClampNeg) ^^^ ((1 : Int32) <<< (x2 &&& 31)))) fun M4 => v_ck (v_b01 (1 : Int32)) <| some ((1 : Int32), M4))) else (v_ck (v_b01 (0 : Int32)) <| some ((0 : Int32), z2.2)))))
def f_X11_canBeDone (N : Nat) (x1 : Int32) (x2 : Int32) (x3 : Int32) (M : v_M) : Option (Int32 × v_M) :=
  (f_X11_hasMachine N x1 M).bind fun z1 => if z1.1 = 0 then (v_ck (v_b01 (0 : Int32)) <| some ((0 : Int32), z1.2)) else ((f_X11_within N x2 (0 : Int32) (9 : Int32) z1.2).bind fun z2 => if z2.1 = 0 then (v_ck (v_b01 (0 : Int32)) <| some ((0 : Int32), z2.2)) else ((f_X11_within N x3 (0 : Int32) (z2.2.1 0 0) z2.2).bind fun z3 => if z3.1 = 0 then (v_ck (v_b01 (0 : Int32)) <| some ((0 : Int32), z3.2)) else (v_ck (v_b01 (1 : Int32)) <| some ((1 : Int32), z3.2))))
def f_X11_paper_L18 (N : Nat) (x1 : Int32) (x2 : Int32) (x3 : Int32) (t0 : Int32) (M : v_M) : Option (Int32 × v_M) :=
  if t0 = 0 then (some ((-1 : Int32), M)) else ((f_X11_within N x2 (0 : Int32) (M.1 0 0) M).bind fun z1 => if z1.1 = 0 then (some ((-1 : Int32), z1.2)) else (if (z1.2.1 71 0) < (30 : Int32) then ((f_X11_within N x3 (0 : Int32) (((1 : Int32) <<< ((z1.2.1 71 0) &&& 31)) - (1 : Int32)) z1.2).bind fun z2 => if z2.1 = 0 then (some ((-1 : Int32), z2.2)) else ((f_X6_add N x1 x2 x3 z2.2).bind fun z3 => some (z3.1, z3.2))) else (some ((-1 : Int32), z1.2))))
def f_X11_paper_L13 (N : Nat) (x1 : Int32) (x2 : Int32) (x3 : Int32) (M : v_M) : Option (Int32 × v_M) :=
  f_X11_paper_L18 N x1 x2 x3 (1 : Int32) M
def f_X11_paper (N : Nat) (x1 : Int32) (x2 : Int32) (x3 : Int32) (M : v_M) : Option (Int32 × v_M) :=
  if x1 = (-1 : Int32) then (f_X11_paper_L13 N x1 x2 x3 M) else ((f_X11_hasMachine N x1 M).bind fun z1 => if z1.1 = 0 then (f_X11_paper_L18 N x1 x2 x3 (0 : Int32) z1.2) else (f_X11_paper_L13 N x1 x2 x3 z1.2))
def f_X11_read (N : Nat) (x1 : Int32) (x2 : Int32) (x3 : Int32) (M : v_M) : Option (Int32 × v_M) :=
  (f_X11_within N x1 (0 : Int32) (15 : Int32) M).bind fun z1 => if z1.1 = 0 then (v_ck (v_b01 (0 : Int32)) <| some ((0 : Int32), z1.2)) else ((f_X11_within N x2 (0 : Int32) ((z1.2.1 71 0) - (1 : Int32)) z1.2).bind fun z2 => if z2.1 = 0 then (v_ck (v_b01 (0 : Int32)) <| some ((0 : Int32), z2.2)) else (v_ck (v_ib x2 30) <| (f_X11_within N x3 (z2.2.1 73 x2.toNatClampNeg) (z2.2.1 0 0) z2.2).bind fun z3 => if z3.1 = 0 then (v_ck (v_b01 (0 : Int32)) <| some ((0 : Int32), z3.2)) else ((f_X6_putReading N x1 x2 x3 z3.2).bind fun z4 => v_ck (v_b01 (1 : Int32)) <| some ((1 : Int32), z4.2))))
def f_X11_knew (N : Nat) (x1 : Int32) (x2 : Int32) (M : v_M) : Option (Int32 × v_M) :=
  (f_X11_within N x1 (0 : Int32) (15 : Int32) M).bind fun z1 => if z1.1 = 0 then (some ((-1 : Int32), z1.2)) else ((f_X11_within N x2 (0 : Int32) ((z1.2.1 71 0) - (1 : Int32)) z1.2).bind fun z2 => if z2.1 = 0 then (some ((-1 : Int32), z2.2)) else ((f_X6_gatherKnowing N x1 z2.2).bind fun z3 => v_ck (v_ib x2 30) <| v_let ((z3.2.1 74 x2.toNatClampNeg)) fun y4 => if (z3.2.1 0 0) < y4 then (some ((-2 : Int32), z3.2)) else (some (y4, z3.2))))
def f_X11_warned_L61 (N : Nat) (k26 : Int32 → Int32 → Int32 → Int32 → v_M → Option (Int32 × v_M)) (x1 : Int32) (x2 : Int32) (x3 : Int32) (x4 : Int32) (M : v_M) : Option (Int32 × v_M) :=
  k26 x1 x2 x3 (x4 + (1 : Int32)) M
def f_X11_warned_L26 (N : Nat) : Nat → Int32 → Int32 → Int32 → Int32 → v_M → Option (Int32 × v_M)
  | 0, _, _, _, _, _ => none
  | n + 1, x1, x2, x3, x4, M => if (16 : Int32) ≤ x4 then (some (x3, M)) else ((f_X6_gatherKnowing N x4 M).bind fun z1 => (f_X6_warnsOf N x1 x2 z1.2).bind fun z2 => if z2.1 = 0 then (f_X11_warned_L61 N (f_X11_warned_L26 N n) x1 x2 x3 x4 z2.2) else (v_let ((x3 ||| ((1 : Int32) <<< (x4 &&& 31)))) fun y3 => f_X11_warned_L61 N (f_X11_warned_L26 N n) x1 x2 y3 x4 z2.2))
def f_X11_warned (N : Nat) (x1 : Int32) (x2 : Int32) (M : v_M) : Option (Int32 × v_M) :=
  (f_X11_hasMachine N x1 M).bind fun z1 => if z1.1 = 0 then (some ((-1 : Int32), z1.2)) else ((f_X11_within N x2 (0 : Int32) (9999 : Int32) z1.2).bind fun z2 => if z2.1 = 0 then (some ((-1 : Int32), z2.2)) else (f_X11_warned_L26 N N x1 x2 (0 : Int32) (0 : Int32) z2.2))
def f_X11_wears (N : Nat) (x1 : Int32) (x2 : Int32) (M : v_M) : Option (Int32 × v_M) :=
  (f_X11_hasPart N x1 M).bind fun z1 => if z1.1 = 0 then (some ((-1 : Int32), z1.2)) else ((f_X11_within N x2 (0 : Int32) (9999 : Int32) z1.2).bind fun z2 => if z2.1 = 0 then (some ((-1 : Int32), z2.2)) else ((f_X11_swap N 10 24 x1 x2 z2.2).bind fun z3 => some (z3.1, z3.2)))
def f_X11_fly (N : Nat) (x1 : Int32) (x2 : Int32) (M : v_M) : Option (Int32 × v_M) :=
  (f_X11_hasMachine N x1 M).bind fun z1 => if z1.1 = 0 then (some ((-1 : Int32), z1.2)) else ((f_X11_within N x2 (0 : Int32) (9999 : Int32) z1.2).bind fun z2 => if z2.1 = 0 then (some ((-1 : Int32), z2.2)) else ((f_X4_addFlights N 11 x1 x2 z2.2).bind fun z3 => v_ck (v_ib x1 20) <| some ((z3.2.1 16 x1.toNatClampNeg), z3.2)))
def f_X11_odds (N : Nat) (x1 : Int32) (x2 : Int32) (M : v_M) : Option (Int32 × v_M) :=
  (f_X11_within N x1 (0 : Int32) (1000000 : Int32) M).bind fun z1 => if z1.1 = 0 then (some ((-1 : Int32), z1.2)) else ((f_X11_within N x2 (0 : Int32) (9999 : Int32) z1.2).bind fun z2 => if z2.1 = 0 then (some ((-1 : Int32), z2.2)) else ((f_X11_noneAfter N (1000000 : Int32) x1 x2 z2.2).bind fun z3 => some (((1000000 : Int32) - z3.1), z3.2)))
def f_X11_first_L43 (N : Nat) : Nat → Int32 → Int32 → Int32 → Int32 → Int32 → v_M → Option (Int32 × v_M)
  | 0, _, _, _, _, _, _ => none
  | n + 1, x1, x2, x3, x4, x5, M => if (99 : Int32) < x5 then (some ((-2 : Int32), M)) else ((f_X11_noneAfter N x4 x1 x2 M).bind fun z1 => v_let (z1.1) fun y2 => if ((1000000 : Int32) - y2) < x3 then (f_X11_first_L43 N n x1 x2 x3 y2 (x5 + (1 : Int32)) z1.2) else (some (x5, z1.2)))
def f_X11_first (N : Nat) (x1 : Int32) (x2 : Int32) (x3 : Int32) (M : v_M) : Option (Int32 × v_M) :=
  (f_X11_within N x1 (0 : Int32) (1000000 : Int32) M).bind fun z1 => if z1.1 = 0 then (some ((-1 : Int32), z1.2)) else ((f_X11_within N x2 (1 : Int32) (9999 : Int32) z1.2).bind fun z2 => if z2.1 = 0 then (some ((-1 : Int32), z2.2)) else ((f_X11_within N x3 (0 : Int32) (1000000 : Int32) z2.2).bind fun z3 => if z3.1 = 0 then (some ((-1 : Int32), z3.2)) else (f_X11_first_L43 N N x1 x2 x3 (1000000 : Int32) (1 : Int32) z3.2)))
def f_X11_back (N : Nat) (P : v_P) (x1 : Int32) (M : v_M) : Option (Int32 × v_M) :=
  (f_X11_within N x1 (0 : Int32) (3 : Int32) M).bind fun z1 => if z1.1 = 0 then (some ((-1 : Int32), z1.2)) else (v_ck (v_ib x1 4) <| v_opt (P 77 x1.toNatClampNeg) (some ((-1 : Int32), z1.2)) (fun qd16 => (f_X4_become N 11 qd16 z1.2).bind fun z2 => v_ck (v_ib x1 4) <| v_let (v_wr z2.2 0 0 (z2.2.1 78 x1.toNatClampNeg)) fun M3 => (f_X8_forgetFrom N (M3.1 11 0) M3).bind fun z4 => (f_X6_forgetFrom N (z4.2.1 11 0) z4.2).bind fun z5 => some ((z5.2.1 0 0), z5.2)))
def f_X12_machine_L13 (N : Nat) : Nat → Int32 → v_M → Option (Int32 × v_M)
  | 0, _, _ => none
  | n + 1, x1, M => if (24 : Int32) ≤ x1 then (v_ck (v_ib (M.1 79 3) 20) <| v_let (v_wr M 92 (M.1 79 3).toNatClampNeg (0 : Int32)) fun M1 => v_ck (v_ib (M1.1 79 3) 20) <| v_let (v_wr M1 93 (M1.1 79 3).toNatClampNeg (0 : Int32)) fun M2 => v_let (v_wr M2 79 3 ((M2.1 79 3) + (1 : Int32))) fun M3 => some (((M3.1 79 3) - (1 : Int32)), M3)) else ((f_X12_clears N (M.1 79 3) x1 M).bind fun z4 => f_X12_machine_L13 N n (x1 + (1 : Int32)) z4.2)
def f_X12_machine (N : Nat) (M : v_M) : Option (Int32 × v_M) :=
  if (M.1 79 3) = (20 : Int32) then (some ((-1 : Int32), M)) else (f_X12_machine_L13 N N (0 : Int32) M)
def f_X12_feed (N : Nat) (x1 : Int32) (x2 : Int32) (x3 : Int32) (x4 : Int32) (x5 : Int32) (M : v_M) : Option (Int32 × v_M) :=
  if ((M.1 79 32) + (20 : Int32)) ≤ (400 : Int32) then ((f_X12_put N x1 M).bind fun z1 => (f_X12_put N x2 z1.2).bind fun z2 => (f_X12_put N x3 z2.2).bind fun z3 => (f_X12_put N x4 z3.2).bind fun z4 => (f_X12_put N x5 z4.2).bind fun z5 => some ((z5.2.1 79 32), z5.2)) else (some ((-1 : Int32), M))
def f_X12_binds_L333 (N : Nat) (M : v_M) : Option (Int32 × v_M) :=
  v_ck (v_b01 (1 : Int32)) <| v_let (v_wr M 79 59 (1 : Int32)) fun M1 => some (0, M1)
def f_X12_binds_L312 (N : Nat) (k150 : Int32 → Int32 → Int32 → v_M → Option (Int32 × v_M)) (x1 : Int32) (x2 : Int32) (x3 : Int32) (M : v_M) : Option (Int32 × v_M) :=
  k150 x1 x2 (x3 + (1 : Int32)) M
def f_X12_binds_L306 (N : Nat) (k150 : Int32 → Int32 → Int32 → v_M → Option (Int32 × v_M)) (k236 : Int32 → Int32 → Int32 → Int32 → Int32 → v_M → Option (Int32 × v_M)) (x1 : Int32) (x2 : Int32) (x3 : Int32) (x4 : Int32) (x5 : Int32) (M : v_M) : Option (Int32 × v_M) :=
  k236 x1 x2 x3 x4 (x5 + (1 : Int32)) M
def f_X12_binds_L298 (N : Nat) (k150 : Int32 → Int32 → Int32 → v_M → Option (Int32 × v_M)) (k236 : Int32 → Int32 → Int32 → Int32 → Int32 → v_M → Option (Int32 × v_M)) (x1 : Int32) (x2 : Int32) (x3 : Int32) (x4 : Int32) (x5 : Int32) (M : v_M) : Option (Int32 × v_M) :=
  (f_X12_binds_ N x3 x5 x2 M).bind fun z1 => f_X12_binds_L306 N k150 k236 x1 x2 x3 x4 x5 z1.2
def f_X12_binds_L236 (N : Nat) (k150 : Int32 → Int32 → Int32 → v_M → Option (Int32 × v_M)) : Nat → Int32 → Int32 → Int32 → Int32 → Int32 → v_M → Option (Int32 × v_M)
  | 0, _, _, _, _, _, _ => none
  | n + 1, x1, x2, x3, x4, x5, M => v_ck (v_ib x3 12) <| if (((12 : Int32) * x3) + (M.1 112 x3.toNatClampNeg)) ≤ x5 then (f_X12_binds_L312 N k150 x1 x2 x3 M) else (if x4 = 0 then (f_X12_binds_L312 N k150 x1 x2 x3 M) else (v_ck (v_ib x5 144) <| v_ck (v_ib x5 144) <| if (M.1 117 x5.toNatClampNeg) = (M.1 118 x5.toNatClampNeg) then (f_X12_binds_L298 N k150 (f_X12_binds_L236 N k150 n) x1 x2 x3 x4 x5 M) else (v_ck (v_ib x5 144) <| v_ck (v_ib x5 144) <| (f_X12_answer N x3 (M.1 117 x5.toNatClampNeg) (M.1 118 x5.toNatClampNeg) M).bind fun z1 => if (lg_cmp z1.1 (1 : Int64)) = 0 then (f_X12_binds_L298 N k150 (f_X12_binds_L236 N k150 n) x1 x2 x3 x4 x5 z1.2) else (f_X12_binds_L306 N k150 (f_X12_binds_L236 N k150 n) x1 x2 x3 x4 x5 z1.2))))
def f_X12_binds_L209 (N : Nat) (k150 : Int32 → Int32 → Int32 → v_M → Option (Int32 × v_M)) (x1 : Int32) (x2 : Int32) (x3 : Int32) (t0 : Int32) (M : v_M) : Option (Int32 × v_M) :=
  v_ck (v_ib x3 12) <| v_ck (v_ib (6 : Int32) 7) <| v_let (v_wl M 120 (6 : Int32).toNatClampNeg (((M.1 79 1) - (M.1 111 x3.toNatClampNeg))).toInt64) fun M1 => v_let (((12 : Int32) * x3)) fun y2 => f_X12_binds_L236 N k150 N x1 x2 x3 t0 y2 M1
def f_X12_binds_L208 (N : Nat) (k150 : Int32 → Int32 → Int32 → v_M → Option (Int32 × v_M)) (x1 : Int32) (x2 : Int32) (x3 : Int32) (M : v_M) : Option (Int32 × v_M) :=
  f_X12_binds_L209 N k150 x1 x2 x3 (0 : Int32) M
def f_X12_binds_L204 (N : Nat) (k150 : Int32 → Int32 → Int32 → v_M → Option (Int32 × v_M)) (x1 : Int32) (x2 : Int32) (x3 : Int32) (M : v_M) : Option (Int32 × v_M) :=
  f_X12_binds_L209 N k150 x1 x2 x3 (1 : Int32) M
def f_X12_binds_L150 (N : Nat) : Nat → Int32 → Int32 → Int32 → v_M → Option (Int32 × v_M)
  | 0, _, _, _, _ => none
  | n + 1, x1, x2, x3, M => if (M.1 79 35) ≤ x3 then (if (M.1 79 59) = 0 then (if (M.1 79 56) = 0 then (v_ck (v_b01 (0 : Int32)) <| v_let (v_wr M 79 59 (0 : Int32)) fun M1 => some (0, M1)) else (f_X12_binds_L333 N M)) else (f_X12_binds_L333 N M)) else (v_ck (v_ib x3 12) <| if (M.1 79 1) < (M.1 111 x3.toNatClampNeg) then (f_X12_binds_L208 N (f_X12_binds_L150 N n) x1 x2 x3 M) else (v_ck (v_ib x3 12) <| if (M.1 110 x3.toNatClampNeg) = 0 then (f_X12_binds_L204 N (f_X12_binds_L150 N n) x1 x2 x3 M) else (v_ck (v_ib x3 12) <| if (M.1 110 x3.toNatClampNeg) = (1 : Int32) then (v_ck (v_ib x1 20) <| if (((M.1 93 x1.toNatClampNeg) >>> (x3 &&& 31)) &&& (1 : Int32)) = (1 : Int32) then (f_X12_binds_L204 N (f_X12_binds_L150 N n) x1 x2 x3 M) else (f_X12_binds_L208 N (f_X12_binds_L150 N n) x1 x2 x3 M)) else (f_X12_binds_L208 N (f_X12_binds_L150 N n) x1 x2 x3 M))))
def f_X12_binds_L65 (N : Nat) : Nat → Int32 → Int32 → Int32 → v_M → Option (Int32 × v_M)
  | 0, _, _, _, _ => none
  | n + 1, x1, x2, x3, M => if (M.1 79 2) ≤ x3 then (v_let (v_wr M 79 55 (0 : Int32)) fun M1 => v_let (v_wr M1 79 56 (0 : Int32)) fun M2 => v_let (v_wr M2 79 57 (999 : Int32)) fun M3 => v_let (v_wr M3 79 58 (0 : Int32)) fun M4 => v_ck (v_b01 (0 : Int32)) <| v_let (v_wr M4 79 59 (0 : Int32)) fun M5 => f_X12_binds_L150 N N x1 x2 (0 : Int32) M5) else (v_ck (v_ib (3 : Int32) 7) <| v_ck (v_ib (((24 : Int32) * x1) + x3) 480) <| v_ck (v_ib (3 : Int32) 7) <| v_let (v_wl M 120 (3 : Int32).toNatClampNeg ((M.2 120 (3 : Int32).toNatClampNeg) + ((M.1 90 (((24 : Int32) * x1) + x3).toNatClampNeg)).toInt64)) fun M6 => v_ck (v_ib (4 : Int32) 7) <| v_ck (v_ib (((24 : Int32) * x1) + x3) 480) <| v_ck (v_ib (4 : Int32) 7) <| v_let (v_wl M6 120 (4 : Int32).toNatClampNeg ((M6.2 120 (4 : Int32).toNatClampNeg) + ((M6.1 88 (((24 : Int32) * x1) + x3).toNatClampNeg)).toInt64)) fun M7 => f_X12_binds_L65 N n x1 x2 (x3 + (1 : Int32)) M7)
def f_X12_binds (N : Nat) (x1 : Int32) (M : v_M) : Option (Int32 × v_M) :=
  (f_X12_doneOf N x1 M).bind fun z1 => v_let (z1.1) fun y2 => v_ck (v_ib (0 : Int32) 7) <| v_let (v_wl z1.2 120 (0 : Int32).toNatClampNeg ((z1.2.1 79 1)).toInt64) fun M3 => v_ck (v_ib (1 : Int32) 7) <| v_let (v_wl M3 120 (1 : Int32).toNatClampNeg (x1).toInt64) fun M4 => v_ck (v_ib x1 20) <| v_ck (v_ib (2 : Int32) 7) <| v_let (v_wl M4 120 (2 : Int32).toNatClampNeg ((M4.1 92 x1.toNatClampNeg)).toInt64) fun M5 => v_ck (v_ib (3 : Int32) 7) <| v_let (v_wl M5 120 (3 : Int32).toNatClampNeg (0 : Int64)) fun M6 => v_ck (v_ib (4 : Int32) 7) <| v_let (v_wl M6 120 (4 : Int32).toNatClampNeg (0 : Int64)) fun M7 => (f_X12_bits N y2 M7).bind fun z8 => v_ck (v_ib (5 : Int32) 7) <| v_let (v_wl z8.2 120 (5 : Int32).toNatClampNeg (z8.1).toInt64) fun M9 => f_X12_binds_L65 N N x1 y2 (0 : Int32) M9
def f_X12_bound (N : Nat) (x1 : Int32) (x2 : Int32) (M : v_M) : Option (Int32 × v_M) :=
  (f_X12_isMachine N x1 M).bind fun z1 => if z1.1 = 0 then (some ((-1 : Int32), z1.2)) else ((f_X12_in N (x2).toInt64 (0 : Int64) (4 : Int64) z1.2).bind fun z2 => if z2.1 = 0 then (some ((-1 : Int32), z2.2)) else ((f_X12_binds N x1 z2.2).bind fun z3 => if x2 = 0 then (some ((z3.2.1 79 55), z3.2)) else (if x2 = (1 : Int32) then (some ((z3.2.1 79 56), z3.2)) else (if x2 = (2 : Int32) then (some ((z3.2.1 79 57), z3.2)) else (if x2 = (3 : Int32) then (some ((z3.2.1 79 58), z3.2)) else (if (z3.2.1 79 59) = 0 then (some ((0 : Int32), z3.2)) else (some ((1 : Int32), z3.2))))))))
def f_X12_finds_L233 (N : Nat) (k42 : Int32 → Int32 → Int32 → v_M → Option (Int32 × v_M)) (k51 : Int32 → Int32 → Int32 → Int32 → v_M → Option (Int32 × v_M)) (x2 : Int32) (x3 : Int32) (x4 : Int32) (x5 : Int32) (M : v_M) : Option (Int32 × v_M) :=
  k51 x2 x3 x4 (x5 + (1 : Int32)) M
def f_X12_finds_L227 (N : Nat) (k42 : Int32 → Int32 → Int32 → v_M → Option (Int32 × v_M)) (k51 : Int32 → Int32 → Int32 → Int32 → v_M → Option (Int32 × v_M)) (k147 : Int32 → Int32 → Int32 → Int32 → Int32 → Int32 → v_M → Option (Int32 × v_M)) (x2 : Int32) (x3 : Int32) (x4 : Int32) (x5 : Int32) (x6 : Int32) (x7 : Int32) (M : v_M) : Option (Int32 × v_M) :=
  k147 x2 x3 x4 x5 x6 (x7 + (1 : Int32)) M
def f_X12_finds_L147 (N : Nat) (k42 : Int32 → Int32 → Int32 → v_M → Option (Int32 × v_M)) (k51 : Int32 → Int32 → Int32 → Int32 → v_M → Option (Int32 × v_M)) : Nat → Int32 → Int32 → Int32 → Int32 → Int32 → Int32 → v_M → Option (Int32 × v_M)
  | 0, _, _, _, _, _, _, _ => none
  | n + 1, x2, x3, x4, x5, x6, x7, M => if (200 : Int32) ≤ x7 then (f_X12_finds_L233 N k42 k51 x2 x3 x4 x5 M) else (v_ck (v_ib x7 200) <| if (M.1 136 x7.toNatClampNeg) = (-1 : Int32) then (f_X12_finds_L227 N k42 k51 (f_X12_finds_L147 N k42 k51 n) x2 x3 x4 x5 x6 x7 M) else (v_ck (v_ib x7 200) <| v_ck (v_ib (M.1 136 x7.toNatClampNeg) 200) <| if (M.1 126 (M.1 136 x7.toNatClampNeg).toNatClampNeg) = x6 then ((f_X12_isIn N x7 x3 M).bind fun z1 => if z1.1 = 0 then (v_ck (v_ib x4 200) <| v_ck (v_ib x7 200) <| v_let (v_wr z1.2 137 x7.toNatClampNeg (z1.2.1 139 x4.toNatClampNeg)) fun M2 => v_ck (v_ib x7 200) <| v_let (v_wr M2 138 x7.toNatClampNeg x5) fun M3 => v_ck (v_ib x3 200) <| v_let (v_wr M3 139 x3.toNatClampNeg x7) fun M4 => f_X12_finds_L227 N k42 k51 (f_X12_finds_L147 N k42 k51 n) x2 (x3 + (1 : Int32)) x4 x5 x6 x7 M4) else (f_X12_finds_L227 N k42 k51 (f_X12_finds_L147 N k42 k51 n) x2 x3 x4 x5 x6 x7 z1.2)) else (f_X12_finds_L227 N k42 k51 (f_X12_finds_L147 N k42 k51 n) x2 x3 x4 x5 x6 x7 M)))
def f_X12_finds_L51 (N : Nat) (k42 : Int32 → Int32 → Int32 → v_M → Option (Int32 × v_M)) : Nat → Int32 → Int32 → Int32 → Int32 → v_M → Option (Int32 × v_M)
  | 0, _, _, _, _, _ => none
  | n + 1, x2, x3, x4, x5, M => if (M.1 79 60) ≤ x5 then (k42 x2 x3 (x4 + (1 : Int32)) M) else (v_ck (v_ib x5 200) <| v_let ((M.1 126 x5.toNatClampNeg)) fun y1 => v_ck (v_ib x4 200) <| (f_X12_fits N x5 (M.1 139 x4.toNatClampNeg) x2 M).bind fun z2 => if z2.1 = 0 then (f_X12_finds_L233 N k42 (f_X12_finds_L51 N k42 n) x2 x3 x4 x5 z2.2) else (v_ck (v_ib y1 200) <| if (z2.2.1 133 y1.toNatClampNeg) = 0 then (v_ck (v_ib y1 200) <| v_let (v_wr z2.2 133 y1.toNatClampNeg (vp_nar .boolean (1 : Int32))) fun M3 => v_ck (v_ib y1 200) <| if (2 : Int32) ≤ (M3.1 127 y1.toNatClampNeg) then (f_X12_finds_L147 N k42 (f_X12_finds_L51 N k42 n) N x2 x3 x4 x5 y1 (0 : Int32) M3) else (v_ck (v_ib y1 200) <| v_ck (v_ib y1 200) <| v_let (v_wr M3 127 y1.toNatClampNeg ((M3.1 127 y1.toNatClampNeg) + (1 : Int32))) fun M4 => v_ck (v_ib x4 200) <| (f_X12_gives N (M4.1 139 x4.toNatClampNeg) x5 M4).bind fun z5 => v_ck (v_b01 (1 : Int32)) <| some ((1 : Int32), z5.2))) else (f_X12_finds_L233 N k42 (f_X12_finds_L51 N k42 n) x2 x3 x4 x5 z2.2)))
def f_X12_finds_L42 (N : Nat) : Nat → Int32 → Int32 → Int32 → v_M → Option (Int32 × v_M)
  | 0, _, _, _, _ => none
  | n + 1, x2, x3, x4, M => if x3 ≤ x4 then (v_ck (v_b01 (0 : Int32)) <| some ((0 : Int32), M)) else (f_X12_finds_L51 N (f_X12_finds_L42 N n) N x2 x3 x4 (0 : Int32) M)
def f_X12_finds_L2 (N : Nat) : Nat → Int32 → Int32 → Int32 → v_M → Option (Int32 × v_M)
  | 0, _, _, _, _ => none
  | n + 1, x1, x2, x3, M => if (M.1 79 60) ≤ x3 then (v_ck (v_ib (0 : Int32) 200) <| v_let (v_wr M 139 (0 : Int32).toNatClampNeg x1) fun M1 => v_ck (v_ib x1 200) <| v_let (v_wr M1 137 x1.toNatClampNeg (-1 : Int32)) fun M2 => f_X12_finds_L42 N N x2 (1 : Int32) (0 : Int32) M2) else (v_ck (v_ib x3 200) <| v_let (v_wr M 133 x3.toNatClampNeg (vp_nar .boolean (0 : Int32))) fun M3 => f_X12_finds_L2 N n x1 x2 (x3 + (1 : Int32)) M3)
def f_X12_finds (N : Nat) (x1 : Int32) (x2 : Int32) (M : v_M) : Option (Int32 × v_M) :=
  f_X12_finds_L2 N N x1 x2 (0 : Int32) M
def f_X12_canBe_L139 (N : Nat) (k94 : Int32 → Int32 → Int32 → Int32 → v_M → Option (Int32 × v_M)) (x1 : Int32) (x3 : Int32) (x5 : Int32) (t0 : Int32) (M : v_M) : Option (Int32 × v_M) :=
  k94 x1 x3 t0 (x5 + (1 : Int32)) M
def f_X12_canBe_L134 (N : Nat) (k94 : Int32 → Int32 → Int32 → Int32 → v_M → Option (Int32 × v_M)) (x1 : Int32) (x3 : Int32) (x5 : Int32) (M : v_M) : Option (Int32 × v_M) :=
  f_X12_canBe_L139 N k94 x1 x3 x5 (1 : Int32) M
def f_X12_canBe_L94 (N : Nat) : Nat → Int32 → Int32 → Int32 → Int32 → v_M → Option (Int32 × v_M)
  | 0, _, _, _, _, _ => none
  | n + 1, x1, x3, x4, x5, M => if (200 : Int32) ≤ x5 then (v_ck (v_b01 x4) <| some (x4, M)) else (if x4 = 0 then (v_ck (v_b01 x4) <| some (x4, M)) else (v_ck (v_ib x5 200) <| if (M.1 134 x5.toNatClampNeg) = (-1 : Int32) then (f_X12_canBe_L134 N (f_X12_canBe_L94 N n) x1 x3 x5 M) else (if x5 = x3 then (f_X12_canBe_L134 N (f_X12_canBe_L94 N n) x1 x3 x5 M) else ((f_X12_finds N x5 x1 M).bind fun z1 => if z1.1 = 0 then (f_X12_canBe_L139 N (f_X12_canBe_L94 N n) x1 x3 x5 (0 : Int32) z1.2) else (f_X12_canBe_L134 N (f_X12_canBe_L94 N n) x1 x3 x5 z1.2)))))
def f_X12_canBe_L88 (N : Nat) (x1 : Int32) (x3 : Int32) (M : v_M) : Option (Int32 × v_M) :=
  f_X12_canBe_L94 N N x1 x3 (1 : Int32) (0 : Int32) M
def f_X12_canBe_L87 (N : Nat) (x1 : Int32) (t0 : Int32) (M : v_M) : Option (Int32 × v_M) :=
  f_X12_canBe_L88 N x1 t0 M
def f_X12_canBe_L25 (N : Nat) : Nat → Int32 → Int32 → Int32 → v_M → Option (Int32 × v_M)
  | 0, _, _, _, _ => none
  | n + 1, x1, x2, x3, M => if (200 : Int32) ≤ x3 then (if x2 = (-1 : Int32) then (f_X12_canBe_L88 N x1 (-1 : Int32) M) else (v_ck (v_ib x2 200) <| v_ck (v_ib (M.1 126 x2.toNatClampNeg) 200) <| v_let (v_wr M 127 (M.1 126 x2.toNatClampNeg).toNatClampNeg (1 : Int32)) fun M1 => (f_X12_needOf N x2 M1).bind fun z2 => (f_X12_fits N x2 z2.1 (-1 : Int32) z2.2).bind fun z3 => if z3.1 = 0 then (f_X12_canBe_L87 N x1 (-1 : Int32) z3.2) else ((f_X12_needOf N x2 z3.2).bind fun z4 => f_X12_canBe_L87 N x1 z4.1 z4.2))) else (v_ck (v_ib x3 200) <| v_let (v_wr M 136 x3.toNatClampNeg (-1 : Int32)) fun M5 => f_X12_canBe_L25 N n x1 x2 (x3 + (1 : Int32)) M5)
def f_X12_canBe_L2 (N : Nat) : Nat → Int32 → Int32 → Int32 → v_M → Option (Int32 × v_M)
  | 0, _, _, _, _ => none
  | n + 1, x1, x2, x3, M => if (M.1 79 60) ≤ x3 then (f_X12_canBe_L25 N N x1 x2 (0 : Int32) M) else (v_ck (v_ib x3 200) <| v_let (v_wr M 127 x3.toNatClampNeg (0 : Int32)) fun M1 => f_X12_canBe_L2 N n x1 x2 (x3 + (1 : Int32)) M1)
def f_X12_canBe (N : Nat) (x1 : Int32) (x2 : Int32) (M : v_M) : Option (Int32 × v_M) :=
  f_X12_canBe_L2 N N x1 x2 (0 : Int32) M
def f_X12_fewest_L88 (N : Nat) (k20 : Int32 → Int32 → v_M → Option (Int32 × v_M)) (x2 : Int32) (t0 : Int32) (t1 : Int32) (M : v_M) : Option (Int32 × v_M) :=
  v_let ((t1 + t0)) fun y1 => k20 y1 (x2 + (1 : Int32)) M
def f_X12_fewest_L69 (N : Nat) (k20 : Int32 → Int32 → v_M → Option (Int32 × v_M)) (k33 : Int32 → Int32 → Int32 → Int32 → v_M → Option (Int32 × v_M)) (x1 : Int32) (x2 : Int32) (x4 : Int32) (t0 : Int32) (t1 : Int32) (M : v_M) : Option (Int32 × v_M) :=
  v_let ((t1 + t0)) fun y1 => k33 x1 x2 y1 (x4 + (1 : Int32)) M
def f_X12_fewest_L68 (N : Nat) (k20 : Int32 → Int32 → v_M → Option (Int32 × v_M)) (k33 : Int32 → Int32 → Int32 → Int32 → v_M → Option (Int32 × v_M)) (x1 : Int32) (x2 : Int32) (x4 : Int32) (t0 : Int32) (M : v_M) : Option (Int32 × v_M) :=
  f_X12_fewest_L69 N k20 k33 x1 x2 x4 (0 : Int32) t0 M
def f_X12_fewest_L33 (N : Nat) (k20 : Int32 → Int32 → v_M → Option (Int32 × v_M)) : Nat → Int32 → Int32 → Int32 → Int32 → v_M → Option (Int32 × v_M)
  | 0, _, _, _, _, _ => none
  | n + 1, x1, x2, x3, x4, M => if (M.1 79 60) ≤ x4 then (if (2 : Int32) ≤ x3 then (f_X12_fewest_L88 N k20 x2 (2 : Int32) x1 M) else (f_X12_fewest_L88 N k20 x2 x3 x1 M)) else (v_ck (v_ib x4 200) <| if (M.1 126 x4.toNatClampNeg) = x2 then (v_ck (v_ib x4 200) <| if (M.1 132 x4.toNatClampNeg) = 0 then (f_X12_fewest_L68 N k20 (f_X12_fewest_L33 N k20 n) x1 x2 x4 x3 M) else (f_X12_fewest_L69 N k20 (f_X12_fewest_L33 N k20 n) x1 x2 x4 (1 : Int32) x3 M)) else (f_X12_fewest_L68 N k20 (f_X12_fewest_L33 N k20 n) x1 x2 x4 x3 M))
def f_X12_fewest_L20 (N : Nat) : Nat → Int32 → Int32 → v_M → Option (Int32 × v_M)
  | 0, _, _, _ => none
  | n + 1, x1, x2, M => if (M.1 79 60) ≤ x2 then (some (((M.1 79 60) - x1), M)) else (f_X12_fewest_L33 N (f_X12_fewest_L20 N n) N x1 x2 (0 : Int32) (0 : Int32) M)
def f_X12_fewest (N : Nat) (M : v_M) : Option (Int32 × v_M) :=
  (f_X12_looks N M).bind fun z1 => (f_X12_canBe N (-1 : Int32) (-1 : Int32) z1.2).bind fun z2 => if z2.1 = 0 then (some ((-2 : Int32), z2.2)) else (f_X12_fewest_L20 N N (0 : Int32) (0 : Int32) z2.2)
def f_X12_sure (N : Nat) (x1 : Int32) (M : v_M) : Option (Int32 × v_M) :=
  (f_X12_in N (x1).toInt64 (0 : Int64) (((M.1 79 60) - (1 : Int32))).toInt64 M).bind fun z1 => if z1.1 = 0 then (some ((-1 : Int32), z1.2)) else ((f_X12_looks N z1.2).bind fun z2 => (f_X12_canBe N (-1 : Int32) (-1 : Int32) z2.2).bind fun z3 => if z3.1 = 0 then (some ((-2 : Int32), z3.2)) else ((f_X12_canBe N x1 (-1 : Int32) z3.2).bind fun z4 => if z4.1 = 0 then (some ((1 : Int32), z4.2)) else (v_ck (v_ib x1 200) <| if (z4.2.1 132 x1.toNatClampNeg) = 0 then (some ((2 : Int32), z4.2)) else ((f_X12_canBe N (-1 : Int32) x1 z4.2).bind fun z5 => if z5.1 = 0 then (some ((2 : Int32), z5.2)) else (some ((0 : Int32), z5.2))))))
def f_X12_back_L70 (N : Nat) (k55 : Int32 → Int32 → v_M → Option (Int32 × v_M)) : Nat → Int32 → Int32 → Int32 → v_M → Option (Int32 × v_M)
  | 0, _, _, _, _ => none
  | n + 1, x1, x2, x3, M => if (24 : Int32) ≤ x3 then (k55 x1 (x2 + (1 : Int32)) M) else ((f_X12_clears N x2 x3 M).bind fun z1 => f_X12_back_L70 N k55 n x1 x2 (x3 + (1 : Int32)) z1.2)
def f_X12_back_L55 (N : Nat) : Nat → Int32 → Int32 → v_M → Option (Int32 × v_M)
  | 0, _, _, _ => none
  | n + 1, x1, x2, M => if (M.1 79 3) ≤ x2 then ((f_X12_forgets N M).bind fun z1 => some ((z1.2.1 79 1), z1.2)) else (v_ck (v_ib x1 4) <| v_let ((M.1 146 x1.toNatClampNeg)) fun y2 => f_X12_back_L70 N (f_X12_back_L55 N n) N x1 x2 y2 M)
def f_X12_back (N : Nat) (x1 : Int32) (M : v_M) : Option (Int32 × v_M) :=
  (f_X12_in N (x1).toInt64 (0 : Int64) (3 : Int64) M).bind fun z1 => if z1.1 = 0 then (some ((-1 : Int32), z1.2)) else (v_ck (v_ib x1 4) <| if (z1.2.1 149 x1.toNatClampNeg) = 0 then (some ((-1 : Int32), z1.2)) else (v_ck (v_b01 (1 : Int32)) <| v_let (v_wr z1.2 79 92 (1 : Int32)) fun M2 => (f_X12_carries N x1 M2).bind fun z3 => v_ck (v_ib x1 4) <| v_let (v_wr z3.2 79 1 (z3.2.1 148 x1.toNatClampNeg)) fun M4 => v_ck (v_ib x1 4) <| v_let (v_wr M4 79 3 (M4.1 147 x1.toNatClampNeg)) fun M5 => f_X12_back_L55 N N x1 (0 : Int32) M5))
def f_X0_know (N : Nat) (q1 : Nat) (x2 : Int32) (M : v_M) : Option (Int32 × v_M) :=
  (f_X11_within N x2 (0 : Int32) (19 : Int32) M).bind fun z1 => if z1.1 = 0 then (some (0, z1.2)) else (v_ck (v_ib x2 20) <| v_ck (v_ib (2 : Int32) 7) <| v_let (v_wr z1.2 50 (2 : Int32).toNatClampNeg (z1.2.1 (q1 + 5) x2.toNatClampNeg)) fun M2 => (f_X4_sumOf N q1 (q1 + 3) 480 x2 M2).bind fun z3 => v_ck (v_ib (3 : Int32) 7) <| v_let (v_wr z3.2 50 (3 : Int32).toNatClampNeg z3.1) fun M4 => (f_X4_sumOf N q1 (q1 + 1) 480 x2 M4).bind fun z5 => v_ck (v_ib (4 : Int32) 7) <| v_let (v_wr z5.2 50 (4 : Int32).toNatClampNeg z5.1) fun M6 => some (0, M6))
def f_X0_valueOf_L159 (N : Nat) (q1 : Nat) (M : v_M) : Option (Int32 × v_M) :=
  v_ck (v_ib (0 : Int32) 64) <| some ((M.1 51 (0 : Int32).toNatClampNeg), M)
def f_X0_valueOf_L153 (N : Nat) (q1 : Nat) (k10 : Int32 → Int32 → Int32 → v_M → Option (Int32 × v_M)) (x3 : Int32) (x4 : Int32) (x5 : Int32) (M : v_M) : Option (Int32 × v_M) :=
  k10 x3 x4 (x5 + (1 : Int32)) M
def f_X0_valueOf_L72 (N : Nat) (q1 : Nat) (k10 : Int32 → Int32 → Int32 → v_M → Option (Int32 × v_M)) (x3 : Int32) (x4 : Int32) (x5 : Int32) (t0 : Int32) (t1 : Int32) (M : v_M) : Option (Int32 × v_M) :=
  v_ck (v_ib t1 64) <| v_let (v_wr M 51 t1.toNatClampNeg t0) fun M1 => f_X0_valueOf_L153 N q1 k10 x3 (x4 + (1 : Int32)) x5 M1
def f_X0_valueOf_L10 (N : Nat) (q1 : Nat) : Nat → Int32 → Int32 → Int32 → v_M → Option (Int32 × v_M)
  | 0, _, _, _, _ => none
  | n + 1, x3, x4, x5, M => if x3 ≤ x5 then (f_X0_valueOf_L159 N q1 M) else (if (400 : Int32) ≤ x5 then (f_X0_valueOf_L159 N q1 M) else (v_ck (v_ib x5 400) <| v_let ((M.1 (q1 + 6) x5.toNatClampNeg)) fun y1 => if y1 < (-7 : Int32) then (if y1 = (-8 : Int32) then (if x4 ≤ 0 then (f_X0_valueOf_L153 N q1 (f_X0_valueOf_L10 N q1 n) x3 x4 x5 M) else (v_ck (v_ib (x4 - (1 : Int32)) 64) <| v_ck (v_ib (x4 - (1 : Int32)) 64) <| v_let (v_wr M 51 (x4 - (1 : Int32)).toNatClampNeg ((1 : Int32) - (M.1 51 (x4 - (1 : Int32)).toNatClampNeg))) fun M4 => f_X0_valueOf_L153 N q1 (f_X0_valueOf_L10 N q1 n) x3 x4 x5 M4)) else (if x4 ≤ (1 : Int32) then (f_X0_valueOf_L153 N q1 (f_X0_valueOf_L10 N q1 n) x3 x4 x5 M) else (v_ck (v_ib ((x4 + (-1 : Int32)) - (1 : Int32)) 64) <| v_ck (v_ib (x4 + (-1 : Int32)) 64) <| (f_X0_joined N y1 (M.1 51 ((x4 + (-1 : Int32)) - (1 : Int32)).toNatClampNeg) (M.1 51 (x4 + (-1 : Int32)).toNatClampNeg) M).bind fun z2 => v_ck (v_ib ((x4 + (-1 : Int32)) - (1 : Int32)) 64) <| v_let (v_wr z2.2 51 ((x4 + (-1 : Int32)) - (1 : Int32)).toNatClampNeg z2.1) fun M3 => f_X0_valueOf_L153 N q1 (f_X0_valueOf_L10 N q1 n) x3 (x4 + (-1 : Int32)) x5 M3))) else (if (64 : Int32) ≤ x4 then (f_X0_valueOf_L153 N q1 (f_X0_valueOf_L10 N q1 n) x3 x4 x5 M) else (if y1 < 0 then (v_ck (v_ib ((-1 : Int32) - y1) 7) <| f_X0_valueOf_L72 N q1 (f_X0_valueOf_L10 N q1 n) x3 x4 x5 (M.1 50 ((-1 : Int32) - y1).toNatClampNeg) x4 M) else (f_X0_valueOf_L72 N q1 (f_X0_valueOf_L10 N q1 n) x3 x4 x5 y1 x4 M)))))
def f_X0_valueOf (N : Nat) (q1 : Nat) (x2 : Int32) (x3 : Int32) (M : v_M) : Option (Int32 × v_M) :=
  v_let ((v_mx (0 : Int32) x2)) fun y1 => f_X0_valueOf_L10 N q1 N x3 (0 : Int32) y1 M
def f_X2_press_L164 (N : Nat) (k31 : Int32 → v_M → Option (Int32 × v_M)) (x5 : Int32) (M : v_M) : Option (Int32 × v_M) :=
  k31 (x5 + (1 : Int32)) M
def f_X2_press_L31 (N : Nat) : Nat → Int32 → v_M → Option (Int32 × v_M)
  | 0, _, _ => none
  | n + 1, x5, M => if (M.1 1 0) ≤ x5 then (some (0, M)) else (v_ck (v_ib x5 24) <| v_let ((M.1 3 x5.toNatClampNeg)) fun y1 => v_ck (v_ib x5 24) <| v_let ((M.1 6 x5.toNatClampNeg)) fun y2 => if y1 < 0 then (f_X2_press_L164 N (f_X2_press_L31 N n) x5 M) else (if x5 ≤ y1 then (f_X2_press_L164 N (f_X2_press_L31 N n) x5 M) else (if (1 : Int32) ≤ y2 then (v_ck (v_ib y1 24) <| v_ck (v_ib x5 24) <| v_ck (v_ib x5 24) <| v_let ((v_mx (0 : Int32) (((M.1 25 y1.toNatClampNeg) - (M.1 19 x5.toNatClampNeg)) - (M.1 22 x5.toNatClampNeg)))) fun y3 => v_ck (v_ib x5 24) <| v_ck (v_nz y2) <| v_ck (v_ib x5 24) <| v_let (v_wr M 26 x5.toNatClampNeg ((y3 * (M.1 5 x5.toNatClampNeg)) / y2)) fun M4 => v_ck (v_ib x5 24) <| v_ck (v_ib x5 24) <| v_ck (v_ib x5 24) <| v_ck (v_ib x5 24) <| v_let (v_wr M4 25 x5.toNatClampNeg (v_mx (0 : Int32) ((v_mn (M4.1 26 x5.toNatClampNeg) (M4.1 7 x5.toNatClampNeg)) - (M4.1 24 x5.toNatClampNeg)))) fun M5 => f_X2_press_L164 N (f_X2_press_L31 N n) x5 M5) else (f_X2_press_L164 N (f_X2_press_L31 N n) x5 M))))
def f_X2_press (N : Nat) (x2 : Int32) (x3 : Int32) (M : v_M) : Option (Int32 × v_M) :=
  (f_X2_farthest N x3 M).bind fun z1 => v_let ((v_mn x2 z1.1)) fun y2 => v_ck (v_ib (0 : Int32) 24) <| v_let (v_wr z1.2 26 (0 : Int32).toNatClampNeg y2) fun M3 => v_ck (v_ib (0 : Int32) 24) <| v_let (v_wr M3 25 (0 : Int32).toNatClampNeg y2) fun M4 => f_X2_press_L31 N N (1 : Int32) M4
def f_X2_heightItGoes_L9 (N : Nat) : Nat → Int32 → Int32 → Int32 → v_M → Option (Int32 × v_M)
  | 0, _, _, _, _ => none
  | n + 1, x2, x3, x4, M => if (400 : Int32) < x4 then (some ((-2 : Int32), M)) else ((f_X2_holdAgainst N (x4 * x2) x3 M).bind fun z1 => v_let (z1.1) fun y2 => if y2 = 0 then (some (x4, z1.2)) else (f_X2_heightItGoes_L9 N n x2 y2 (x4 + (1 : Int32)) z1.2))
def f_X2_heightItGoes (N : Nat) (x2 : Int32) (M : v_M) : Option (Int32 × v_M) :=
  (f_X2_gatherHooks N M).bind fun z1 => v_let (z1.1) fun y2 => f_X2_heightItGoes_L9 N N x2 y2 (0 : Int32) z1.2
def f_X7_readMust (N : Nat) (qo : Nat) (x1 : Int32) (M : v_M) : Option (Int32 × v_M) :=
  (f_X7_isNumberTo N (9 : Int32) M).bind fun z1 => if z1.1 = 0 then (v_ck (v_b01 (0 : Int32)) <| some ((0 : Int32), z1.2)) else (v_ck (v_ib x1 12) <| v_let (v_wr z1.2 (qo + 2) x1.toNatClampNeg (z1.2.1 35 4)) fun M2 => (f_X7_step N M2).bind fun z3 => if (z3.2.1 35 3) = (275 : Int32) then ((f_X7_step N z3.2).bind fun z4 => (f_X7_isNumberTo N (999 : Int32) z4.2).bind fun z5 => if z5.1 = 0 then (v_ck (v_b01 (0 : Int32)) <| some ((0 : Int32), z5.2)) else (v_ck (v_ib x1 12) <| v_let (v_wr z5.2 (qo + 3) x1.toNatClampNeg (z5.2.1 35 4)) fun M6 => (f_X7_step N M6).bind fun z7 => v_ck (v_b01 (1 : Int32)) <| some ((1 : Int32), z7.2))) else ((f_X7_fail N (0 : Int32) z3.2).bind fun z8 => v_ck (v_b01 z8.1) <| some (z8.1, z8.2)))
def f_X7_readSum_L52 (N : Nat) (qo : Nat) (k11 : Int32 → v_M → Option (Int32 × v_M)) (x1 : Int32) (t0 : Int32) (M : v_M) : Option (Int32 × v_M) :=
  (f_X7_step N M).bind fun z1 => (f_X7_readValue N qo z1.2).bind fun z2 => if z2.1 = 0 then (v_ck (v_b01 (0 : Int32)) <| some ((0 : Int32), z2.2)) else ((f_X5_emit N qo t0 z2.2).bind fun z3 => k11 (x1 + (1 : Int32)) z3.2)
def f_X7_readSum_L36 (N : Nat) (qo : Nat) (k11 : Int32 → v_M → Option (Int32 × v_M)) (x1 : Int32) (M : v_M) : Option (Int32 × v_M) :=
  if (M.1 35 3) = (43 : Int32) then (f_X7_readSum_L52 N qo k11 x1 (-9 : Int32) M) else (f_X7_readSum_L52 N qo k11 x1 (-10 : Int32) M)
def f_X7_readSum_L11 (N : Nat) (qo : Nat) : Nat → Int32 → v_M → Option (Int32 × v_M)
  | 0, _, _ => none
  | n + 1, x1, M => if (400 : Int32) ≤ x1 then (v_ck (v_b01 (1 : Int32)) <| some ((1 : Int32), M)) else (if (M.1 35 3) = (43 : Int32) then (f_X7_readSum_L36 N qo (f_X7_readSum_L11 N qo n) x1 M) else (if (M.1 35 3) = (45 : Int32) then (f_X7_readSum_L36 N qo (f_X7_readSum_L11 N qo n) x1 M) else (v_ck (v_b01 (1 : Int32)) <| some ((1 : Int32), M))))
def f_X7_readSum (N : Nat) (qo : Nat) (M : v_M) : Option (Int32 × v_M) :=
  (f_X7_readValue N qo M).bind fun z1 => if z1.1 = 0 then (v_ck (v_b01 (0 : Int32)) <| some ((0 : Int32), z1.2)) else (f_X7_readSum_L11 N qo N (0 : Int32) z1.2)
def f_X9_splitOne_L73 (N : Nat) (x2 : Int32) (M : v_M) : Option (Int32 × v_M) :=
  (f_X9_byteAt N (M.1 36 2) M).bind fun z1 => if z1.1 = (61 : Int32) then (v_let (v_wr z1.2 36 2 ((z1.2.1 36 2) + (1 : Int32))) fun M2 => if x2 = (60 : Int32) then (some ((257 : Int32), M2)) else (some ((258 : Int32), M2))) else (some (x2, z1.2))
def f_X9_splitOne_L57 (N : Nat) (x2 : Int32) (t0 : Int32) (t1 : Int32) (M : v_M) : Option (Int32 × v_M) :=
  v_let (v_wr M 36 2 (t1 + t0)) fun M1 => if x2 = (60 : Int32) then (f_X9_splitOne_L73 N x2 M1) else (if x2 = (62 : Int32) then (f_X9_splitOne_L73 N x2 M1) else (some (x2, M1)))
def f_X9_splitOne (N : Nat) (x1 : Int32) (M : v_M) : Option (Int32 × v_M) :=
  (f_X9_byteAt N (M.1 36 2) M).bind fun z1 => v_let (z1.1) fun y2 => (f_X9_isDigit N y2 z1.2).bind fun z3 => if z3.1 = 0 then ((f_X9_isLetter N y2 z3.2).bind fun z4 => if z4.1 = 0 then (if y2 = (-1 : Int32) then (f_X9_splitOne_L57 N y2 (0 : Int32) (z4.2.1 36 2) z4.2) else (f_X9_splitOne_L57 N y2 (1 : Int32) (z4.2.1 36 2) z4.2)) else ((f_X9_splitWord N z4.2).bind fun z5 => some (z5.1, z5.2))) else ((f_X9_splitNumber N z3.2).bind fun z6 => v_ck (v_ib x1 401) <| v_let (v_wr z6.2 40 x1.toNatClampNeg z6.1) fun M7 => some ((256 : Int32), M7))
def f_X10_canBe_L111 (N : Nat) (k71 : Int32 → Int32 → v_M → Option (Int32 × v_M)) (x4 : Int32) (x5 : Int32) (M : v_M) : Option (Int32 × v_M) :=
  k71 x4 (x5 + (1 : Int32)) M
def f_X10_canBe_L71 (N : Nat) : Nat → Int32 → Int32 → v_M → Option (Int32 × v_M)
  | 0, _, _, _ => none
  | n + 1, x4, x5, M => if (200 : Int32) ≤ x5 then (v_ck (v_b01 (1 : Int32)) <| some ((1 : Int32), M)) else (v_ck (v_ib x5 200) <| if (M.1 66 x5.toNatClampNeg) = (10000 : Int32) then (f_X10_canBe_L111 N (f_X10_canBe_L71 N n) x4 x5 M) else (if x5 = x4 then (f_X10_canBe_L111 N (f_X10_canBe_L71 N n) x4 x5 M) else ((f_X10_choose N x5 M).bind fun z1 => if z1.1 = 0 then (v_ck (v_b01 (0 : Int32)) <| some ((0 : Int32), z1.2)) else (f_X10_canBe_L111 N (f_X10_canBe_L71 N n) x4 x5 z1.2))))
def f_X10_canBe_L68 (N : Nat) (x4 : Int32) (M : v_M) : Option (Int32 × v_M) :=
  f_X10_canBe_L71 N N x4 (0 : Int32) M
def f_X10_canBe_L66 (N : Nat) (t0 : Int32) (M : v_M) : Option (Int32 × v_M) :=
  f_X10_canBe_L68 N t0 M
def f_X10_canBe (N : Nat) (x2 : Int32) (x3 : Int32) (M : v_M) : Option (Int32 × v_M) :=
  (f_J7_fill_53178 N 67 200 (-1 : Int32) M).bind fun z1 => (f_J7_fill_53178 N 69 200 (0 : Int32) z1.2).bind fun z2 => v_let (v_wr z2.2 64 0 x2) fun M3 => (f_X11_within N x3 (0 : Int32) (199 : Int32) M3).bind fun z4 => if z4.1 = 0 then (f_X10_canBe_L68 N (-1 : Int32) z4.2) else (v_ck (v_ib x3 200) <| v_ck (v_ib (z4.2.1 56 x3.toNatClampNeg) 200) <| v_let (v_wr z4.2 69 (z4.2.1 56 x3.toNatClampNeg).toNatClampNeg (1 : Int32)) fun M5 => (f_X10_serves N x3 M5).bind fun z6 => if z6.1 = 0 then (f_X10_canBe_L66 N (-1 : Int32) z6.2) else (v_ck (v_ib x3 200) <| f_X10_canBe_L66 N (z6.2.1 53 x3.toNatClampNeg) z6.2))
def f_X11_push (N : Nat) (x1 : Int32) (x2 : Int32) (x3 : Int32) (M : v_M) : Option (Int32 × v_M) :=
  (f_X11_hasPartOf N x1 (0 : Int32) M).bind fun z1 => if z1.1 = 0 then (some ((-1 : Int32), z1.2)) else ((f_X11_within N x2 (0 : Int32) (999 : Int32) z1.2).bind fun z2 => if z2.1 = 0 then (some ((-1 : Int32), z2.2)) else ((f_X11_within N x3 (0 : Int32) (999 : Int32) z2.2).bind fun z3 => if z3.1 = 0 then (some ((-1 : Int32), z3.2)) else ((f_X2_load N 11 x1 z3.2).bind fun z4 => (f_X2_press N x2 x3 z4.2).bind fun z5 => (f_X2_bend N z5.2).bind fun z6 => (f_X2_save N 11 x1 z6.2).bind fun z7 => v_ck (v_ib (0 : Int32) 24) <| some ((z7.2.1 25 (0 : Int32).toNatClampNeg), z7.2))))
def f_X11_isUnlikeAt (N : Nat) (x1 : Int32) (x2 : Int32) (x3 : Int32) (x4 : Int32) (x5 : Int32) (M : v_M) : Option (Int32 × v_M) :=
  (f_X11_hasPart N x1 M).bind fun z1 => if z1.1 = 0 then (v_ck (v_b01 (0 : Int32)) <| some ((0 : Int32), z1.2)) else ((f_X11_hasPart N x2 z1.2).bind fun z2 => if z2.1 = 0 then (v_ck (v_b01 (0 : Int32)) <| some ((0 : Int32), z2.2)) else (v_ck (v_nz (16 : Int32)) <| v_ck (v_ib x1 24) <| v_let (v_wr z2.2 22 x1.toNatClampNeg (x3 / (16 : Int32))) fun M3 => v_ck (v_nz (16 : Int32)) <| v_ck (v_ib x2 24) <| v_let (v_wr M3 22 x2.toNatClampNeg (x3 - x3 / (16 : Int32) * (16 : Int32))) fun M4 => (f_X2_press N (999 : Int32) x4 M4).bind fun z5 => (f_X2_isUnlike N x5 z5.2).bind fun z6 => v_ck (v_b01 z6.1) <| some (z6.1, z6.2)))
def f_X11_goes (N : Nat) (x1 : Int32) (x2 : Int32) (x3 : Int32) (M : v_M) : Option (Int32 × v_M) :=
  (f_X11_hasMachine N x1 M).bind fun z1 => if z1.1 = 0 then (some ((-1 : Int32), z1.2)) else ((f_X11_within N x2 (1 : Int32) (99 : Int32) z1.2).bind fun z2 => if z2.1 = 0 then (some ((-1 : Int32), z2.2)) else ((f_X11_within N x3 (1 : Int32) (999 : Int32) z2.2).bind fun z3 => if z3.1 = 0 then (some ((-1 : Int32), z3.2)) else ((f_X2_load N 11 x1 z3.2).bind fun z4 => (f_X2_heightItGoes N (x2 * x3) z4.2).bind fun z5 => some (z5.1, z5.2))))
def f_X11_stamp (N : Nat) (x1 : Int32) (x2 : Int32) (x3 : Int32) (x4 : Int32) (M : v_M) : Option (Int32 × v_M) :=
  (f_X11_canBeDone N x1 x2 x4 M).bind fun z1 => if z1.1 = 0 then (some ((-1 : Int32), z1.2)) else ((f_X11_within N x3 (0 : Int32) (15 : Int32) z1.2).bind fun z2 => if z2.1 = 0 then (some ((-1 : Int32), z2.2)) else (if (z2.2.1 52 0) < (200 : Int32) then ((f_X8_put N ((x1 * (10 : Int32)) + x2) x3 x4 z2.2).bind fun z3 => some (z3.1, z3.2)) else (some ((-1 : Int32), z2.2))))
def f_X11_see (N : Nat) (x1 : Int32) (x2 : Int32) (x3 : Int32) (x4 : Int32) (M : v_M) : Option (Int32 × v_M) :=
  (f_X11_canBeDone N x1 x2 x3 M).bind fun z1 => if z1.1 = 0 then (some ((-1 : Int32), z1.2)) else (if (z1.2.1 52 9) < (100 : Int32) then ((f_X8_putSeen N ((x1 * (10 : Int32)) + x2) x3 x4 z1.2).bind fun z2 => some (z2.1, z2.2)) else (some ((-1 : Int32), z1.2)))
def f_X11_fewest (N : Nat) (M : v_M) : Option (Int32 × v_M) :=
  (f_X10_learn N M).bind fun z1 => (f_X10_canBe N (-1 : Int32) (-1 : Int32) z1.2).bind fun z2 => if z2.1 = 0 then (some ((-2 : Int32), z2.2)) else ((f_X10_leastFalse N z2.2).bind fun z3 => some (z3.1, z3.2))
def f_X11_sure_L82 (N : Nat) (x1 : Int32) (M : v_M) : Option (Int32 × v_M) :=
  (f_X10_mayBeTrue N x1 M).bind fun z1 => if z1.1 = 0 then (some ((2 : Int32), z1.2)) else ((f_X10_canBe N (-1 : Int32) x1 z1.2).bind fun z2 => if z2.1 = 0 then (some ((2 : Int32), z2.2)) else (some ((0 : Int32), z2.2)))
def f_X11_sure (N : Nat) (x1 : Int32) (M : v_M) : Option (Int32 × v_M) :=
  (f_X11_within N x1 (0 : Int32) ((M.1 52 0) - (1 : Int32)) M).bind fun z1 => if z1.1 = 0 then (some ((-1 : Int32), z1.2)) else ((f_X10_learn N z1.2).bind fun z2 => (f_X10_canBe N (-1 : Int32) (-1 : Int32) z2.2).bind fun z3 => if z3.1 = 0 then (some ((-2 : Int32), z3.2)) else ((f_X10_serves N x1 z3.2).bind fun z4 => if z4.1 = 0 then (f_X11_sure_L82 N x1 z4.2) else ((f_X10_canBe N x1 (-1 : Int32) z4.2).bind fun z5 => if z5.1 = 0 then (some ((1 : Int32), z5.2)) else (f_X11_sure_L82 N x1 z5.2))))
def f_X0_bindByClause_L85 (N : Nat) (q1 : Nat) (t0 : Int32) (t1 : Int32) (M : v_M) : Option (Int32 × v_M) :=
  v_let (v_wr M 49 1 (t1 ||| t0)) fun M1 => some (0, M1)
def f_X0_bindByClause (N : Nat) (q1 : Nat) (x2 : Int32) (x3 : Int32) (M : v_M) : Option (Int32 × v_M) :=
  v_ck (v_ib x2 12) <| v_let ((M.1 (q1 + 2) x2.toNatClampNeg)) fun y1 => v_ck (v_ib x2 12) <| if (M.1 (q1 + 1) x2.toNatClampNeg) = (0 : Int32) then (v_let ((((1 : Int32) <<< (y1 &&& 31)) &&& ((M.1 49 5) ^^^ (-1 : Int32)))) fun y2 => v_let (v_wr M 49 0 ((M.1 49 0) ||| y2)) fun M3 => v_ck (v_ib x2 12) <| if x3 ≤ (M3.1 (q1 + 3) x2.toNatClampNeg) then (f_X0_bindByClause_L85 N q1 (0 : Int32) (M3.1 49 1) M3) else (f_X0_bindByClause_L85 N q1 y2 (M3.1 49 1) M3)) else (if (M.1 (q1 + 1) x2.toNatClampNeg) = (1 : Int32) then (v_ck (v_ib x2 12) <| (f_X0_valueOf N q1 y1 (M.1 (q1 + 4) x2.toNatClampNeg) M).bind fun z4 => v_let (v_wr z4.2 49 4 (v_mn (M.1 49 4) z4.1)) fun M5 => some (0, M5)) else (if (M.1 (q1 + 1) x2.toNatClampNeg) = (2 : Int32) then (v_let (v_wr M 49 2 ((M.1 49 2) ||| y1)) fun M6 => some (0, M6)) else (v_ck (v_b01 (1 : Int32)) <| v_let (v_wr M 49 3 (1 : Int32)) fun M7 => some (0, M7))))
def f_X7_readBody (N : Nat) (qo : Nat) (x1 : Int32) (x2 : Int32) (M : v_M) : Option (Int32 × v_M) :=
  if x1 = (0 : Int32) then ((f_X7_readMust N qo x2 M).bind fun z1 => v_ck (v_b01 z1.1) <| some (z1.1, z1.2)) else (if x1 = (1 : Int32) then (v_ck (v_ib x2 12) <| v_let (v_wr M (qo + 2) x2.toNatClampNeg (M.1 qo 3)) fun M2 => (f_X7_readSum N qo M2).bind fun z3 => v_ck (v_b01 z3.1) <| some (z3.1, z3.2)) else (if x1 = (2 : Int32) then ((f_X7_readLook N qo x2 M).bind fun z4 => v_ck (v_b01 z4.1) <| some (z4.1, z4.2)) else (v_ck (v_b01 (1 : Int32)) <| some ((1 : Int32), M))))
def f_X7_readFact_L19 (N : Nat) (qo : Nat) (rf : Int32 → v_M → Option (Int32 × v_M)) (x1 : Int32) (M : v_M) : Option (Int32 × v_M) :=
  (f_X7_readInner N qo rf (x1 + (1 : Int32)) M).bind fun z1 => v_ck (v_b01 z1.1) <| some (z1.1, z1.2)
def f_X7_readFact (N : Nat) (qo : Nat) (rf : Int32 → v_M → Option (Int32 × v_M)) (x1 : Int32) (M : v_M) : Option (Int32 × v_M) :=
  if (M.1 35 3) = (279 : Int32) then (f_X7_readFact_L19 N qo rf x1 M) else (if (M.1 35 3) = (91 : Int32) then (f_X7_readFact_L19 N qo rf x1 M) else ((f_X7_readSum N qo M).bind fun z1 => if z1.1 = 0 then (v_ck (v_b01 (0 : Int32)) <| some ((0 : Int32), z1.2)) else ((f_X7_comparing N z1.2).bind fun z2 => v_let (z2.1) fun y3 => if y3 = 0 then ((f_X7_fail N (0 : Int32) z2.2).bind fun z9 => v_ck (v_b01 z9.1) <| some (z9.1, z9.2)) else (if (z2.2.1 35 5) < (60 : Int32) then (v_let (v_wr z2.2 35 5 ((z2.2.1 35 5) + (1 : Int32))) fun M4 => (f_X7_step N M4).bind fun z5 => (f_X7_readSum N qo z5.2).bind fun z6 => if z6.1 = 0 then (v_ck (v_b01 (0 : Int32)) <| some ((0 : Int32), z6.2)) else ((f_X5_emit N qo y3 z6.2).bind fun z7 => v_ck (v_b01 (1 : Int32)) <| some ((1 : Int32), z7.2))) else ((f_X7_fail N (3 : Int32) z2.2).bind fun z8 => v_ck (v_b01 z8.1) <| some (z8.1, z8.2))))))
def f_fact (N qo : Nat) : Nat → Int32 → v_M → Option (Int32 × v_M)
  | 0, _, _ => none
  | k + 1, x, M => f_X7_readFact N qo (f_fact N qo k) x M
def f_X9_split_L12 (N : Nat) : Nat → Int32 → v_M → Option (Int32 × v_M)
  | 0, _, _ => none
  | n + 1, x1, M => if (400 : Int32) < x1 then (some (0, M)) else ((f_X9_skipBlanks N M).bind fun z1 => v_ck (v_ib x1 401) <| v_let (v_wr z1.2 39 x1.toNatClampNeg (z1.2.1 36 2)) fun M2 => (f_X9_splitOne N x1 M2).bind fun z3 => v_ck (v_ib x1 401) <| v_let (v_wr z3.2 38 x1.toNatClampNeg z3.1) fun M4 => v_let (v_wr M4 36 1 (x1 + (1 : Int32))) fun M5 => v_ck (v_ib x1 401) <| if (M5.1 38 x1.toNatClampNeg) = (-1 : Int32) then (some (0, M5)) else (f_X9_split_L12 N n (x1 + (1 : Int32)) M5))
def f_X9_split (N : Nat) (M : v_M) : Option (Int32 × v_M) :=
  v_let (v_wr M 36 2 (0 : Int32)) fun M1 => v_let (v_wr M1 36 1 (0 : Int32)) fun M2 => f_X9_split_L12 N N (0 : Int32) M2
def f_X11_tried_L101 (N : Nat) (k46 : Int32 → Int32 → Int32 → Int32 → Int32 → Int32 → Int32 → Int32 → v_M → Option (Int32 × v_M)) (k56 : Int32 → Int32 → Int32 → Int32 → Int32 → Int32 → Int32 → Int32 → Int32 → v_M → Option (Int32 × v_M)) (x2 : Int32) (x3 : Int32) (x4 : Int32) (x5 : Int32) (x6 : Int32) (x7 : Int32) (x8 : Int32) (x9 : Int32) (x10 : Int32) (M : v_M) : Option (Int32 × v_M) :=
  k56 x2 x3 x4 x5 x6 x7 x8 x9 (x10 + (1 : Int32)) M
def f_X11_tried_L56 (N : Nat) (k46 : Int32 → Int32 → Int32 → Int32 → Int32 → Int32 → Int32 → Int32 → v_M → Option (Int32 × v_M)) : Nat → Int32 → Int32 → Int32 → Int32 → Int32 → Int32 → Int32 → Int32 → Int32 → v_M → Option (Int32 × v_M)
  | 0, _, _, _, _, _, _, _, _, _, _ => none
  | n + 1, x2, x3, x4, x5, x6, x7, x8, x9, x10, M => if x4 < x10 then (k46 x2 x3 x4 x5 x6 x7 x8 (x9 + (1 : Int32)) M) else (v_let ((((16 : Int32) * x9) + x10)) fun y1 => (f_X11_isUnlikeAt N x2 x3 y1 x5 x6 M).bind fun z2 => if z2.1 = 0 then (f_X11_tried_L101 N k46 (f_X11_tried_L56 N k46 n) x2 x3 x4 x5 x6 x7 x8 x9 x10 z2.2) else (if x8 = x7 then (some (y1, z2.2)) else (f_X11_tried_L101 N k46 (f_X11_tried_L56 N k46 n) x2 x3 x4 x5 x6 x7 (x8 + (1 : Int32)) x9 x10 z2.2)))
def f_X11_tried_L46 (N : Nat) : Nat → Int32 → Int32 → Int32 → Int32 → Int32 → Int32 → Int32 → Int32 → v_M → Option (Int32 × v_M)
  | 0, _, _, _, _, _, _, _, _, _ => none
  | n + 1, x2, x3, x4, x5, x6, x7, x8, x9, M => if x4 < x9 then (if x7 = (-1 : Int32) then (some (x8, M)) else (some ((-1 : Int32), M))) else (f_X11_tried_L56 N (f_X11_tried_L46 N n) N x2 x3 x4 x5 x6 x7 x8 x9 (0 : Int32) M)
def f_X11_tried (N : Nat) (x1 : Int32) (x2 : Int32) (x3 : Int32) (x4 : Int32) (x5 : Int32) (x6 : Int32) (x7 : Int32) (M : v_M) : Option (Int32 × v_M) :=
  (f_X11_canTry N x1 x2 x3 x4 x5 x6 M).bind fun z1 => if z1.1 = 0 then (some ((-1 : Int32), z1.2)) else (if (-1 : Int32) ≤ x7 then ((f_X2_load N 11 x1 z1.2).bind fun z2 => f_X11_tried_L46 N N x2 x3 x4 x5 x6 x7 (0 : Int32) (0 : Int32) z2.2) else (some ((-1 : Int32), z1.2)))
def f_X11_unlikePair_L36 (N : Nat) (k27 : Int32 → Int32 → Int32 → Int32 → Int32 → Int32 → v_M → Option (Int32 × v_M)) : Nat → Int32 → Int32 → Int32 → Int32 → Int32 → Int32 → Int32 → v_M → Option (Int32 × v_M)
  | 0, _, _, _, _, _, _, _, _ => none
  | n + 1, x1, x2, x3, x4, x5, x7, x8, M => if x3 < x8 then (k27 x1 x2 x3 x4 x5 (x7 + (1 : Int32)) M) else ((f_X11_isUnlikeAt N x1 x2 (((16 : Int32) * x7) + x8) x4 x5 M).bind fun z1 => if z1.1 = 0 then (f_X11_unlikePair_L36 N k27 n x1 x2 x3 x4 x5 x7 (x8 + (1 : Int32)) z1.2) else (some ((((16 : Int32) * x7) + x8), z1.2)))
def f_X11_unlikePair_L27 (N : Nat) : Nat → Int32 → Int32 → Int32 → Int32 → Int32 → Int32 → v_M → Option (Int32 × v_M)
  | 0, _, _, _, _, _, _, _ => none
  | n + 1, x1, x2, x3, x4, x5, x7, M => if x3 < x7 then (some ((-1 : Int32), M)) else (f_X11_unlikePair_L36 N (f_X11_unlikePair_L27 N n) N x1 x2 x3 x4 x5 x7 (0 : Int32) M)
def f_X11_unlikePair_L24 (N : Nat) (x1 : Int32) (x2 : Int32) (x3 : Int32) (x4 : Int32) (x5 : Int32) (M : v_M) : Option (Int32 × v_M) :=
  f_X11_unlikePair_L27 N N x1 x2 x3 x4 x5 (0 : Int32) M
def f_X11_unlikePair (N : Nat) (x1 : Int32) (x2 : Int32) (x3 : Int32) (x4 : Int32) (x5 : Int32) (x6 : Int32) (M : v_M) : Option (Int32 × v_M) :=
  if x6 = (-1 : Int32) then (f_X11_unlikePair_L24 N x1 x2 x3 x4 x5 M) else ((f_X11_isUnlikeAt N x1 x2 x6 x4 x5 M).bind fun z1 => if z1.1 = 0 then (f_X11_unlikePair_L24 N x1 x2 x3 x4 x5 z1.2) else (some (x6, z1.2)))
def f_X0_bindBy_L70 (N : Nat) (q1 : Nat) (k14 : Int32 → Int32 → v_M → Option (Int32 × v_M)) (x2 : Int32) (x3 : Int32) (M : v_M) : Option (Int32 × v_M) :=
  k14 x2 (x3 + (1 : Int32)) M
def f_X0_bindBy_L63 (N : Nat) (q1 : Nat) (k14 : Int32 → Int32 → v_M → Option (Int32 × v_M)) (x2 : Int32) (x3 : Int32) (M : v_M) : Option (Int32 × v_M) :=
  (f_X0_bindByClause N q1 x3 x2 M).bind fun z1 => f_X0_bindBy_L70 N q1 k14 x2 x3 z1.2
def f_X0_bindBy_L14 (N : Nat) (q1 : Nat) : Nat → Int32 → Int32 → v_M → Option (Int32 × v_M)
  | 0, _, _, _ => none
  | n + 1, x2, x3, M => if (M.1 q1 2) ≤ x3 then (some (0, M)) else (if (12 : Int32) ≤ x3 then (some (0, M)) else (v_ck (v_ib x3 12) <| v_let ((M.1 (q1 + 4) x3.toNatClampNeg)) fun y1 => v_ck (v_ib x3 12) <| v_let ((M.1 (q1 + 5) x3.toNatClampNeg)) fun y2 => if y1 = y2 then (f_X0_bindBy_L63 N q1 (f_X0_bindBy_L14 N q1 n) x2 x3 M) else ((f_X0_valueOf N q1 y1 y2 M).bind fun z3 => if z3.1 = 0 then (f_X0_bindBy_L70 N q1 (f_X0_bindBy_L14 N q1 n) x2 x3 z3.2) else (f_X0_bindBy_L63 N q1 (f_X0_bindBy_L14 N q1 n) x2 x3 z3.2))))
def f_X0_bindBy (N : Nat) (q1 : Nat) (x2 : Int32) (M : v_M) : Option (Int32 × v_M) :=
  v_ck (v_ib (6 : Int32) 7) <| v_let (v_wr M 50 (6 : Int32).toNatClampNeg (v_mx (0 : Int32) x2)) fun M1 => f_X0_bindBy_L14 N q1 N x2 (0 : Int32) M1
def f_X7_readClause_L108 (N : Nat) (qo : Nat) (x1 : Int32) (M : v_M) : Option (Int32 × v_M) :=
  v_ck (v_ib x1 12) <| v_let (v_wr M (qo + 5) x1.toNatClampNeg (M.1 qo 3)) fun M1 => v_let (v_wr M1 qo 2 (x1 + (1 : Int32))) fun M2 => v_ck (v_b01 (1 : Int32)) <| some ((1 : Int32), M2)
def f_X7_readClause (N : Nat) (qo : Nat) (x1 : Int32) (M : v_M) : Option (Int32 × v_M) :=
  (f_X11_within N (M.1 35 3) (260 : Int32) (263 : Int32) M).bind fun z1 => if z1.1 = 0 then ((f_X7_fail N (0 : Int32) z1.2).bind fun z10 => v_ck (v_b01 z10.1) <| some (z10.1, z10.2)) else (if x1 < (12 : Int32) then (v_let (((z1.2.1 35 3) - (260 : Int32))) fun y2 => v_ck (v_ib x1 12) <| v_let (v_wr z1.2 (qo + 1) x1.toNatClampNeg y2) fun M3 => (f_X7_step N M3).bind fun z4 => (f_X7_readBody N qo y2 x1 z4.2).bind fun z5 => if z5.1 = 0 then (v_ck (v_b01 (0 : Int32)) <| some ((0 : Int32), z5.2)) else (v_ck (v_ib x1 12) <| v_let (v_wr z5.2 (qo + 4) x1.toNatClampNeg (z5.2.1 qo 3)) fun M6 => if (M6.1 35 3) = (276 : Int32) then ((f_X7_step N M6).bind fun z7 => (f_X7_readTest N qo (f_fact N qo 12) (0 : Int32) z7.2).bind fun z8 => if z8.1 = 0 then (v_ck (v_b01 (0 : Int32)) <| some ((0 : Int32), z8.2)) else (f_X7_readClause_L108 N qo x1 z8.2)) else (f_X7_readClause_L108 N qo x1 M6))) else ((f_X7_fail N (4 : Int32) z1.2).bind fun z9 => v_ck (v_b01 z9.1) <| some (z9.1, z9.2)))
def f_X11_cheapest_L125 (N : Nat) (k28 : Int32 → Int32 → Int32 → Int32 → Int32 → Int32 → Int32 → Int32 → Int32 → v_M → Option (Int32 × v_M)) (x1 : Int32) (x2 : Int32) (x3 : Int32) (x4 : Int32) (x5 : Int32) (x6 : Int32) (x7 : Int32) (x8 : Int32) (x9 : Int32) (M : v_M) : Option (Int32 × v_M) :=
  k28 x1 x2 x3 x4 x5 x6 x7 x8 (x9 + (1 : Int32)) M
def f_X11_cheapest_L63 (N : Nat) (k28 : Int32 → Int32 → Int32 → Int32 → Int32 → Int32 → Int32 → Int32 → Int32 → v_M → Option (Int32 × v_M)) (x1 : Int32) (x2 : Int32) (x3 : Int32) (x4 : Int32) (x5 : Int32) (x6 : Int32) (x7 : Int32) (x8 : Int32) (x9 : Int32) (M : v_M) : Option (Int32 × v_M) :=
  (f_X2_load N 11 x1 M).bind fun z1 => (f_X1_applyTo N x9 z1.2).bind fun z2 => (f_X11_unlikePair N x2 x3 x4 x5 x6 x8 z2.2).bind fun z3 => v_let (z3.1) fun y4 => if y4 = (-1 : Int32) then (f_X11_cheapest_L125 N k28 x1 x2 x3 x4 x5 x6 x9 x8 x9 z3.2) else (f_X11_cheapest_L125 N k28 x1 x2 x3 x4 x5 x6 x7 y4 x9 z3.2)
def f_X11_cheapest_L28 (N : Nat) : Nat → Int32 → Int32 → Int32 → Int32 → Int32 → Int32 → Int32 → Int32 → Int32 → v_M → Option (Int32 × v_M)
  | 0, _, _, _, _, _, _, _, _, _, _ => none
  | n + 1, x1, x2, x3, x4, x5, x6, x7, x8, x9, M => if ((1 : Int32) <<< ((M.1 29 0) &&& 31)) ≤ x9 then (some (x7, M)) else (if x7 = (-2 : Int32) then (f_X11_cheapest_L63 N (f_X11_cheapest_L28 N n) x1 x2 x3 x4 x5 x6 x7 x8 x9 M) else ((f_X1_isCheaper N x9 x7 M).bind fun z1 => if z1.1 = 0 then (f_X11_cheapest_L125 N (f_X11_cheapest_L28 N n) x1 x2 x3 x4 x5 x6 x7 x8 x9 z1.2) else (f_X11_cheapest_L63 N (f_X11_cheapest_L28 N n) x1 x2 x3 x4 x5 x6 x7 x8 x9 z1.2)))
def f_X11_cheapest (N : Nat) (x1 : Int32) (x2 : Int32) (x3 : Int32) (x4 : Int32) (x5 : Int32) (x6 : Int32) (M : v_M) : Option (Int32 × v_M) :=
  (f_X11_canTry N x1 x2 x3 x4 x5 x6 M).bind fun z1 => if z1.1 = 0 then (some ((-1 : Int32), z1.2)) else (f_X11_cheapest_L28 N N x1 x2 x3 x4 x5 x6 (-2 : Int32) (-1 : Int32) (0 : Int32) z1.2)
def f_X11_gatherBinding_L108 (N : Nat) (P : v_P) (k34 : Int32 → Int32 → v_M → Option (Int32 × v_M)) (x1 : Int32) (x2 : Int32) (M : v_M) : Option (Int32 × v_M) :=
  k34 x1 (x2 + (1 : Int32)) M
def f_X11_gatherBinding_L91 (N : Nat) (P : v_P) (k34 : Int32 → Int32 → v_M → Option (Int32 × v_M)) (x1 : Int32) (x2 : Int32) (qd47 : Nat) (M : v_M) : Option (Int32 × v_M) :=
  (f_X0_bindBy N qd47 ((M.1 0 0) - (M.1 qd47 1)) M).bind fun z1 => f_X11_gatherBinding_L108 N P k34 x1 x2 z1.2
def f_X11_gatherBinding_L34 (N : Nat) (P : v_P) : Nat → Int32 → Int32 → v_M → Option (Int32 × v_M)
  | 0, _, _, _ => none
  | n + 1, x1, x2, M => if (M.1 0 1) ≤ x2 then (some (0, M)) else (v_ck (v_ib x2 12) <| v_opt (P 48 x2.toNatClampNeg) (f_X11_gatherBinding_L108 N P (f_X11_gatherBinding_L34 N P n) x1 x2 M) (fun qd47 => if (M.1 0 0) < (M.1 qd47 1) then (f_X11_gatherBinding_L108 N P (f_X11_gatherBinding_L34 N P n) x1 x2 M) else (if (M.1 qd47 0) = 0 then (f_X11_gatherBinding_L91 N P (f_X11_gatherBinding_L34 N P n) x1 x2 qd47 M) else (if (M.1 qd47 0) = (1 : Int32) then ((f_X4_hasTaken N 11 x1 x2 M).bind fun z1 => if z1.1 = 0 then (f_X11_gatherBinding_L108 N P (f_X11_gatherBinding_L34 N P n) x1 x2 z1.2) else (f_X11_gatherBinding_L91 N P (f_X11_gatherBinding_L34 N P n) x1 x2 qd47 z1.2)) else (f_X11_gatherBinding_L108 N P (f_X11_gatherBinding_L34 N P n) x1 x2 M)))))
def f_X11_gatherBinding (N : Nat) (P : v_P) (x1 : Int32) (M : v_M) : Option (Int32 × v_M) :=
  (f_X8_tasksOf N x1 M).bind fun z1 => (f_X0_begin N (M.1 0 0) x1 z1.1 z1.2).bind fun z2 => (f_X0_know N 11 x1 z2.2).bind fun z3 => f_X11_gatherBinding_L34 N P N x1 (0 : Int32) z3.2
def f_X7_compile_L35 (N : Nat) (qo : Nat) : Nat → Int32 → v_M → Option (Int32 × v_M)
  | 0, _, _ => none
  | n + 1, x1, M => if (12 : Int32) < x1 then (some ((M.1 35 6), M)) else ((f_X7_readClause N qo x1 M).bind fun z1 => if z1.1 = 0 then (some ((z1.2.1 35 6), z1.2)) else (if (z1.2.1 35 3) = (-1 : Int32) then (some ((z1.2.1 35 6), z1.2)) else (if (z1.2.1 35 3) = (59 : Int32) then ((f_X7_step N z1.2).bind fun z2 => f_X7_compile_L35 N qo n (x1 + (1 : Int32)) z2.2) else ((f_X7_fail N (0 : Int32) z1.2).bind fun z3 => some ((z3.2.1 35 6), z3.2)))))
def f_X7_compile (N : Nat) (qo : Nat) (M : v_M) : Option (Int32 × v_M) :=
  (f_X9_split N M).bind fun z1 => (f_X5_clear N qo z1.2).bind fun z2 => v_let (v_wr z2.2 35 2 (-1 : Int32)) fun M3 => v_let (v_wr M3 35 5 (0 : Int32)) fun M4 => v_let (v_wr M4 35 6 (0 : Int32)) fun M5 => (f_X7_step N M5).bind fun z6 => f_X7_compile_L35 N qo N (0 : Int32) z6.2
def f_X11_bound_L104 (N : Nat) (P : v_P) (M : v_M) : Option (Int32 × v_M) :=
  (f_X11_asNumber N (1 : Int32) M).bind fun z1 => some (z1.1, z1.2)
def f_X11_bound (N : Nat) (P : v_P) (x1 : Int32) (x2 : Int32) (M : v_M) : Option (Int32 × v_M) :=
  (f_X11_hasMachine N x1 M).bind fun z1 => if z1.1 = 0 then (some ((-1 : Int32), z1.2)) else ((f_X11_gatherBinding N P x1 z1.2).bind fun z2 => if x2 = (0 : Int32) then (some ((z2.2.1 49 0), z2.2)) else (if x2 = (1 : Int32) then (some ((z2.2.1 49 1), z2.2)) else (if x2 = (2 : Int32) then ((f_X0_heldForce N z2.2).bind fun z3 => some (z3.1, z3.2)) else (if x2 = (3 : Int32) then (some ((z2.2.1 49 2), z2.2)) else (if x2 = (4 : Int32) then (if (z2.2.1 49 3) = 0 then (if (z2.2.1 49 1) = 0 then ((f_X11_asNumber N (0 : Int32) z2.2).bind fun z4 => some (z4.1, z4.2)) else (f_X11_bound_L104 N P z2.2)) else (f_X11_bound_L104 N P z2.2)) else (some ((-1 : Int32), z2.2)))))))
