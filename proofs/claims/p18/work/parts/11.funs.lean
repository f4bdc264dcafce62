/-! FUNCTIONS: what each method computes, out of its bytecode (by program: wip/gen) -/
def f_J7_fill_53178_L5 : Nat → Nat → Int32 → Int32 → Int32 → Hp → Option Hp
  | 0, _, _, _, _, _ => none
  | n + 1, v0, v1, v2, v3, h =>
    if v3 ≤ v2 then
      some h
    else
      (tI v0 v2 v1 h).bind fun h13 =>
      f_J7_fill_53178_L5 n v0 v1 (v2 + 1) v3 h13
def f_J7_fill_53178 (n : Nat) (v0 : Nat) (v1 : Int32) (h : Hp) : Option Hp :=
  (aln v0 h).bind fun x3 =>
  f_J7_fill_53178_L5 n v0 v1 0 x3 h
def f_X0_init (n : Nat) (v0 : Nat) (h : Hp) : Option Hp :=
  (ck 0 v0 h).bind fun _ =>
  (pI 0 3 v0 (-9) h).bind fun h7 =>
  (pI 0 8 v0 (-9) h7).bind fun h13 =>
  (pI 0 10 v0 (-9) h13).bind fun h19 =>
  (nwA 0 8 h19).bind fun x25 =>
  (pR 0 12 v0 x25.1 x25.2).bind fun h27 =>
  (nwA 0 2 h27).bind fun x32 =>
  (pR 0 13 v0 x32.1 x32.2).bind fun h34 =>
  (nwA 0 2 h34).bind fun x39 =>
  (pR 0 14 v0 x39.1 x39.2).bind fun h41 =>
  (gR 0 14 v0 h41).bind fun x45 =>
  (f_J7_fill_53178 n x45 (-9) h41).bind fun x50 =>
  some x50
def f_X7_at (n : Nat) (v0 : Nat) (v1 : Int32) (h : Hp) : Option (Int32 × Hp) :=
  if v1 < 0 then
    some (0, h)
  else
    (aln v0 h).bind fun x6 =>
    if x6 ≤ v1 then
      some (0, h)
    else
      (aI 0 v0 v1 h).bind fun x12 =>
      some (x12, h)
def f_X5_timesOf (n : Nat) (v0 : Nat) (v1 : Int32) (h : Hp) : Option (Int32 × Hp) :=
  (ck 5 v0 h).bind fun _ =>
  (gR 5 2 v0 h).bind fun x1 =>
  (f_X7_at n x1 v1 h).bind fun x5 =>
  some (x5.1, x5.2)
def f_X7_put (n : Nat) (v0 : Nat) (v1 : Int32) (v2 : Int32) (h : Hp) : Option Hp :=
  if v1 < 0 then
    some h
  else
    (aln v0 h).bind fun x6 =>
    if x6 ≤ v1 then
      some h
    else
      (tI v0 v1 v2 h).bind fun h13 =>
      some h13
def f_X0_begin_L66 : Nat → Nat → Nat → Int32 → Hp → Option Hp
  | 0, _, _, _, _ => none
  | n + 1, v0, v1, v2, h =>
    if 8 ≤ v2 then
      some h
    else
      (gR 0 12 v0 h).bind fun x73 =>
      (f_X5_timesOf n v1 v2 h).bind fun x79 =>
      (f_X7_put n x73 v2 x79.1 x79.2).bind fun x82 =>
      f_X0_begin_L66 n v0 v1 (v2 + 1) x82
def f_X0_begin (n : Nat) (v0 : Nat) (v1 : Nat) (h : Hp) : Option Hp :=
  (ck 0 v0 h).bind fun _ =>
  (pI 0 0 v0 0 h).bind fun h2 =>
  (pI 0 1 v0 0 h2).bind fun h7 =>
  (pI 0 2 v0 0 h7).bind fun h12 =>
  (pI 0 3 v0 (-9) h12).bind fun h18 =>
  (pZ 0 4 v0 0 h18).bind fun h23 =>
  (pZ 0 6 v0 0 h23).bind fun h28 =>
  (pI 0 7 v0 0 h28).bind fun h33 =>
  (pI 0 8 v0 (-9) h33).bind fun h39 =>
  (pL 0 5 v0 0 h39).bind fun h44 =>
  (gR 0 13 v0 h44).bind fun x48 =>
  (f_J7_fill_53178 n x48 0 h44).bind fun x52 =>
  (gR 0 14 v0 x52).bind fun x56 =>
  (f_J7_fill_53178 n x56 (-9) x52).bind fun x61 =>
  f_X0_begin_L66 n v0 v1 0 x61
def f_X0_copy (n : Nat) (v0 : Nat) (v1 : Nat) (h : Hp) : Option Hp :=
  (ck 0 v0 h).bind fun _ =>
  (gI 0 0 v1 h).bind fun x2 =>
  (pI 0 0 v0 x2 h).bind fun h5 =>
  (gI 0 1 v1 h5).bind fun x10 =>
  (pI 0 1 v0 x10 h5).bind fun h13 =>
  (gI 0 2 v1 h13).bind fun x18 =>
  (pI 0 2 v0 x18 h13).bind fun h21 =>
  (gI 0 3 v1 h21).bind fun x26 =>
  (pI 0 3 v0 x26 h21).bind fun h29 =>
  (gI 0 4 v1 h29).bind fun x34 =>
  (pZ 0 4 v0 x34 h29).bind fun h37 =>
  (gI 0 6 v1 h37).bind fun x42 =>
  (pZ 0 6 v0 x42 h37).bind fun h45 =>
  (gI 0 7 v1 h45).bind fun x50 =>
  (pI 0 7 v0 x50 h45).bind fun h53 =>
  (gI 0 8 v1 h53).bind fun x58 =>
  (pI 0 8 v0 x58 h53).bind fun h61 =>
  (gI 0 9 v1 h61).bind fun x66 =>
  (pI 0 9 v0 x66 h61).bind fun h69 =>
  (gI 0 10 v1 h69).bind fun x74 =>
  (pI 0 10 v0 x74 h69).bind fun h77 =>
  (gL 0 5 v1 h77).bind fun x82 =>
  (pL 0 5 v0 x82 h77).bind fun h85 =>
  (gR 0 12 v1 h85).bind fun x89 =>
  (gR 0 12 v0 h85).bind fun x94 =>
  (cpy x89 0 x94 0 8 h85).bind fun h100 =>
  (gR 0 13 v1 h100).bind fun x104 =>
  (gR 0 13 v0 h100).bind fun x109 =>
  (cpy x104 0 x109 0 2 h100).bind fun h114 =>
  (gR 0 14 v1 h114).bind fun x118 =>
  (gR 0 14 v0 h114).bind fun x123 =>
  (cpy x118 0 x123 0 2 h114).bind fun h128 =>
  some h128
def f_X0_slip_J15 (n : Nat) (v0 : Nat) (h : Hp) : Option Hp :=
  (gI 0 2 v0 h).bind fun x17 =>
  (pI 0 2 v0 (x17 + 1) h).bind fun h22 =>
  some h22
def f_X0_slip (n : Nat) (v0 : Nat) (h : Hp) : Option Hp :=
  (ck 0 v0 h).bind fun _ =>
  (gI 0 2 v0 h).bind fun x1 =>
  if x1 = 0 then
    (gI 0 1 v0 h).bind fun x9 =>
    (pI 0 3 v0 x9 h).bind fun h12 =>
    f_X0_slip_J15 n v0 h12
  else
    f_X0_slip_J15 n v0 h
def f_X0_doneOf (n : Nat) (v0 : Nat) (v1 : Int32) (h : Hp) : Option (Int32 × Hp) :=
  (ck 0 v0 h).bind fun _ =>
  (gR 0 13 v0 h).bind fun x1 =>
  (f_X7_at n x1 v1 h).bind fun x5 =>
  some (x5.1, x5.2)
def f_X0_lastOf (n : Nat) (v0 : Nat) (v1 : Int32) (h : Hp) : Option (Int32 × Hp) :=
  (ck 0 v0 h).bind fun _ =>
  (gR 0 14 v0 h).bind fun x1 =>
  (f_X7_at n x1 v1 h).bind fun x5 =>
  some (x5.1, x5.2)
def f_X0_setRun (n : Nat) (v0 : Nat) (v1 : Int32) (v2 : Int32) (v3 : Int32) (h : Hp) : Option Hp :=
  (ck 0 v0 h).bind fun _ =>
  (gR 0 13 v0 h).bind fun x1 =>
  (f_X7_put n x1 v1 v2 h).bind fun x6 =>
  (gR 0 14 v0 x6).bind fun x10 =>
  (f_X7_put n x10 v1 v3 x6).bind fun x15 =>
  some x15
def f_X0_useOne (n : Nat) (v0 : Nat) (v1 : Int32) (h : Hp) : Option Hp :=
  (ck 0 v0 h).bind fun _ =>
  (gR 0 12 v0 h).bind fun x1 =>
  (gR 0 12 v0 h).bind fun x6 =>
  (f_X7_at n x6 v1 h).bind fun x10 =>
  (f_X7_put n x1 v1 (x10.1 - 1) x10.2).bind fun x15 =>
  some x15
def f_X0_isMadeHoly (n : Nat) (v0 : Nat) (v1 : Int32) (h : Hp) : Option (Int32 × Hp) :=
  (ck 0 v0 h).bind fun _ =>
  (gL 0 5 v0 h).bind fun x1 =>
  if (lg_cmp ((x1 >>> (v1.toInt64 &&& 63)) &&& 1) 1) = 0 then
    zr 1 h
  else
    zr 0 h
def f_X0_makeHoly (n : Nat) (v0 : Nat) (v1 : Int32) (h : Hp) : Option Hp :=
  (ck 0 v0 h).bind fun _ =>
  (gL 0 5 v0 h).bind fun x2 =>
  (pL 0 5 v0 (x2 ||| (1 <<< (v1.toInt64 &&& 63))) h).bind fun h9 =>
  some h9
def f_X1_init (n : Nat) (v0 : Nat) (v1 : Nat) (h : Hp) : Option Hp :=
  (ck 1 v0 h).bind fun _ =>
  (nwA 0 4 h).bind fun x6 =>
  (pR 1 0 v0 x6.1 x6.2).bind fun h8 =>
  (nwA 0 60 h8).bind fun x14 =>
  (pR 1 5 v0 x14.1 x14.2).bind fun h16 =>
  (nwA 0 61 h16).bind fun x22 =>
  (pR 1 6 v0 x22.1 x22.2).bind fun h24 =>
  (nwA 0 240 h24).bind fun x31 =>
  (pR 1 7 v0 x31.1 x31.2).bind fun h33 =>
  (nwA 0 240 h33).bind fun x40 =>
  (pR 1 8 v0 x40.1 x40.2).bind fun h42 =>
  (pR 1 2 v0 v1 h42).bind fun h47 =>
  some h47
def f_X2_kindOf (n : Nat) (v0 : Nat) (v1 : Int32) (h : Hp) : Option (Int32 × Hp) :=
  (ck 2 v0 h).bind fun _ =>
  (gR 2 3 v0 h).bind fun x1 =>
  (f_X7_at n x1 v1 h).bind fun x5 =>
  some (x5.1, x5.2)
def f_X1_see_J68 (n : Nat) (v0 : Nat) (v1 : Nat) (v2 : Nat) (v3 : Int32) (s0 : Nat) (s1 : Int32) (s2 : Int32) (s3 : Int32) (h : Hp) (k7 : Nat → Nat → Nat → Int32 → Hp → Option Hp) : Option Hp :=
  (f_X7_put n s0 s1 (s2 + s3) h).bind fun x69 =>
  k7 v0 v1 v2 (v3 + 1) x69
def f_X1_see_J30 (n : Nat) (v0 : Nat) (v1 : Nat) (v2 : Nat) (v3 : Int32) (s0 : Int32) (h : Hp) (k7 : Nat → Nat → Nat → Int32 → Hp → Option Hp) : Option Hp :=
  (gR 1 5 v0 h).bind fun x33 =>
  (f_X7_put n x33 v3 s0 h).bind fun x39 =>
  (gR 1 6 v0 x39).bind fun x43 =>
  (gR 1 6 v0 x39).bind fun x50 =>
  (f_X7_at n x50 v3 x39).bind fun x54 =>
  if s0 = 1 then
    f_X1_see_J68 n v0 v1 v2 v3 x43 (v3 + 1) x54.1 1 x54.2 k7
  else
    f_X1_see_J68 n v0 v1 v2 v3 x43 (v3 + 1) x54.1 0 x54.2 k7
def f_X1_see_L7 : Nat → Nat → Nat → Nat → Int32 → Hp → Option Hp
  | 0, _, _, _, _, _ => none
  | n + 1, v0, v1, v2, v3, h =>
    if 60 ≤ v3 then
      some h
    else
      (f_X0_isMadeHoly n v2 v3 h).bind fun x15 =>
      if x15.1 = 0 then
        (f_X2_kindOf n v1 v3 x15.2).bind fun x27 =>
        f_X1_see_J30 n v0 v1 v2 v3 x27.1 x27.2 (fun a0 a1 a2 a3 h => f_X1_see_L7 n a0 a1 a2 a3 h)
      else
        f_X1_see_J30 n v0 v1 v2 v3 2 x15.2 (fun a0 a1 a2 a3 h => f_X1_see_L7 n a0 a1 a2 a3 h)
def f_X1_see (n : Nat) (v0 : Nat) (v1 : Nat) (v2 : Nat) (h : Hp) : Option Hp :=
  (ck 1 v0 h).bind fun _ =>
  (pR 1 2 v0 v1 h).bind fun h2 =>
  f_X1_see_L7 n v0 v1 v2 0 h2
def f_X1_isOfItsKinds (n : Nat) (v0 : Nat) (v1 : Nat) (v2 : Int32) (h : Hp) : Option (Int32 × Hp) :=
  (ck 1 v0 h).bind fun _ =>
  (gI 6 0 v1 h).bind fun x1 =>
  (gR 1 5 v0 h).bind fun x5 =>
  (f_X7_at n x5 v2 h).bind fun x9 =>
  if ((x1 >>> (x9.1 &&& 31)) &&& 1) = 1 then
    zr 1 x9.2
  else
    zr 0 x9.2
def f_X1_isFarEnough_J46 (n : Nat) (v1 : Nat) (v4 : Int32) (s0 : Int32) (h : Hp) : Option (Int32 × Hp) :=
  if v4 < 0 then
    zr 0 h
  else
    (gI 6 1 v1 h).bind fun x56 =>
    if s0 < x56 then
      zr 0 h
    else
      (gI 6 3 v1 h).bind fun x63 =>
      if x63 = (-9) then
        zr 1 h
      else
        (gI 6 3 v1 h).bind fun x74 =>
        if x74 < v4 then
          zr 0 h
        else
          zr 1 h
def f_X1_isFarEnough (n : Nat) (v0 : Nat) (v1 : Nat) (v2 : Int32) (v3 : Int32) (h : Hp) : Option (Int32 × Hp) :=
  (ck 1 v0 h).bind fun _ =>
  if v2 = (-9) then
    zr 1 h
  else
    (gI 6 2 v1 h).bind fun x14 =>
    if x14 = 0 then
      f_X1_isFarEnough_J46 n v1 (v3 - v2) (v3 - v2) h
    else
      (gR 1 6 v0 h).bind fun x21 =>
      (f_X7_at n x21 (v3 + 1) h).bind fun x27 =>
      (gR 1 6 v0 x27.2).bind fun x31 =>
      (f_X7_at n x31 (v2 + 1) x27.2).bind fun x37 =>
      f_X1_isFarEnough_J46 n v1 (v3 - v2) (x27.1 - x37.1) x37.2
def f_X1_place (n : Nat) (v0 : Int32) (v1 : Int32) (h : Hp) : Option (Int32 × Hp) :=
  some (((v0 * 60) + v1), h)
def f_J9_min_7cf53 (n : Nat) (v0 : Int32) (v1 : Int32) (h : Hp) : Option (Int32 × Hp) :=
  if v1 < v0 then
    some (v1, h)
  else
    some (v0, h)
def f_X2_stepsOf (n : Nat) (v0 : Nat) (v1 : Int32) (h : Hp) : Option (Int32 × Hp) :=
  (ck 2 v0 h).bind fun _ =>
  (gR 2 4 v0 h).bind fun x1 =>
  (f_X7_at n x1 v1 h).bind fun x5 =>
  some (x5.1, x5.2)
def f_X2_stepAt_J26 (n : Nat) (v0 : Nat) (v3 : Int32) (h : Hp) (k27 : Nat → Int32 → Int32 → Hp → Option (Nat × Hp)) : Option (Nat × Hp) :=
  k27 v0 v3 0 h
def f_X2_stepAt_J47 (n : Nat) (v0 : Nat) (h : Hp) : Option (Nat × Hp) :=
  (gR 2 6 v0 h).bind fun x48 =>
  some (x48, h)
def f_X2_stepAt_J27 (n : Nat) (v0 : Nat) (v3 : Int32) (s0 : Int32) (h : Hp) : Option (Nat × Hp) :=
  if s0 = 0 then
    f_X2_stepAt_J47 n v0 h
  else
    if v3 < 0 then
      f_X2_stepAt_J47 n v0 h
    else
      (gR 2 5 v0 h).bind fun x40 =>
      (aln x40 h).bind fun x43 =>
      if v3 < x43 then
        (gR 2 5 v0 h).bind fun x53 =>
        (aR 4 x53 v3 h).bind fun x57 =>
        some (x57, h)
      else
        f_X2_stepAt_J47 n v0 h
def f_X2_stepAt (n : Nat) (v0 : Nat) (v1 : Int32) (v2 : Int32) (h : Hp) : Option (Nat × Hp) :=
  (ck 2 v0 h).bind fun _ =>
  if v2 < 0 then
    f_X2_stepAt_J26 n v0 ((v1 * 4) + v2) h (fun a0 a3 b0 h => f_X2_stepAt_J27 n a0 a3 b0 h)
  else
    (gR 2 4 v0 h).bind fun x12 =>
    (f_X7_at n x12 v1 h).bind fun x16 =>
    if x16.1 ≤ v2 then
      f_X2_stepAt_J26 n v0 ((v1 * 4) + v2) x16.2 (fun a0 a3 b0 h => f_X2_stepAt_J27 n a0 a3 b0 h)
    else
      f_X2_stepAt_J27 n v0 ((v1 * 4) + v2) 1 x16.2
def f_X1_costOn (n : Nat) (v0 : Nat) (v1 : Nat) (v2 : Int32) (h : Hp) : Option (Int32 × Hp) :=
  (ck 1 v0 h).bind fun _ =>
  (f_X1_isOfItsKinds n v0 v1 v2 h).bind fun x3 =>
  if x3.1 = 0 then
    (gI 1 4 v0 x3.2).bind fun x12 =>
    if x12 = 0 then
      some (1000, x3.2)
    else
      some (1, x3.2)
  else
    some (0, x3.2)
def f_X1_leastRest_J72 (n : Nat) (v0 : Nat) (v1 : Int32) (v2 : Int32) (v4 : Nat) (v5 : Int32) (v6 : Int32) (h : Hp) (k22 : Nat → Int32 → Int32 → Nat → Int32 → Int32 → Hp → Option (Int32 × Hp)) : Option (Int32 × Hp) :=
  k22 v0 v1 v2 v4 v5 (v6 + 1) h
def f_X1_leastRest_L22 : Nat → Nat → Int32 → Int32 → Nat → Int32 → Int32 → Hp → Option (Int32 × Hp)
  | 0, _, _, _, _, _, _, _ => none
  | n + 1, v0, v1, v2, v4, v5, v6, h =>
    (gR 1 2 v0 h).bind fun x25 =>
    (gI 2 0 x25 h).bind fun x28 =>
    if x28 ≤ v6 then
      some (v5, h)
    else
      (gR 1 7 v0 h).bind fun x35 =>
      (f_X1_place n v1 v6 h).bind fun x41 =>
      (f_X7_at n x35 x41.1 x41.2).bind fun x44 =>
      if v5 ≤ x44.1 then
        f_X1_leastRest_J72 n v0 v1 v2 v4 v5 v6 x44.2 (fun a0 a1 a2 a4 a5 a6 h => f_X1_leastRest_L22 n a0 a1 a2 a4 a5 a6 h)
      else
        (f_X1_isFarEnough n v0 v4 v2 v6 x44.2).bind fun x62 =>
        if x62.1 = 0 then
          f_X1_leastRest_J72 n v0 v1 v2 v4 v5 v6 x62.2 (fun a0 a1 a2 a4 a5 a6 h => f_X1_leastRest_L22 n a0 a1 a2 a4 a5 a6 h)
        else
          f_X1_leastRest_J72 n v0 v1 v2 v4 x44.1 v6 x62.2 (fun a0 a1 a2 a4 a5 a6 h => f_X1_leastRest_L22 n a0 a1 a2 a4 a5 a6 h)
def f_X1_leastRest (n : Nat) (v0 : Nat) (v1 : Int32) (v2 : Int32) (v3 : Int32) (h : Hp) : Option (Int32 × Hp) :=
  (ck 1 v0 h).bind fun _ =>
  (gR 1 2 v0 h).bind fun x1 =>
  (gI 1 3 v0 h).bind fun x5 =>
  (f_X2_stepAt n x1 x5 v1 h).bind fun x9 =>
  f_X1_leastRest_L22 n v0 v1 v2 x9.1 1000 v3 x9.2
def f_X1_fillRest_J120 (n : Nat) (v0 : Nat) (v4 : Int32) (v5 : Int32) (v6 : Nat) (v7 : Int32) (s0 : Int32) (s1 : Int32) (h : Hp) (k123 : Nat → Int32 → Int32 → Nat → Int32 → Int32 → Hp → Option Hp) : Option Hp :=
  k123 v0 v4 v5 v6 v7 (s0 + s1) h
def f_X1_fillRest_J123 (n : Nat) (v0 : Nat) (v4 : Int32) (v5 : Int32) (v6 : Nat) (v7 : Int32) (v8 : Int32) (h : Hp) (k53 : Nat → Int32 → Int32 → Nat → Int32 → Hp → Option Hp) : Option Hp :=
  (gR 1 7 v0 h).bind fun x124 =>
  (f_X1_place n v5 v7 h).bind fun x131 =>
  (f_J9_min_7cf53 n 1000 v8 x131.2).bind fun x139 =>
  (f_X7_put n x124 x131.1 x139.1 x139.2).bind fun x142 =>
  k53 v0 v4 v5 v6 (v7 + 1) x142
def f_X1_fillRest_L53 : Nat → Nat → Int32 → Int32 → Nat → Int32 → Hp → (Nat → Int32 → Int32 → Hp → Option Hp) → Option Hp
  | 0, _, _, _, _, _, _, _ => none
  | n + 1, v0, v4, v5, v6, v7, h, k151 =>
    (gR 1 2 v0 h).bind fun x56 =>
    (gI 2 0 x56 h).bind fun x59 =>
    if x59 ≤ v7 then
      k151 v0 v4 v5 h
    else
      (f_X1_costOn n v0 v6 v7 h).bind fun x70 =>
      if 1000 ≤ x70.1 then
        f_X1_fillRest_J123 n v0 v4 v5 v6 v7 x70.1 x70.2 (fun a0 a4 a5 a6 a7 h => f_X1_fillRest_L53 n a0 a4 a5 a6 a7 h k151)
      else
        if v4 ≤ v5 then
          (gI 1 4 v0 x70.2).bind fun x108 =>
          if x108 = 0 then
            f_X1_fillRest_J120 n v0 v4 v5 v6 v7 x70.1 v7 x70.2 (fun a0 a4 a5 a6 a7 a8 h => f_X1_fillRest_J123 n a0 a4 a5 a6 a7 a8 h (fun a0 a4 a5 a6 a7 h => f_X1_fillRest_L53 n a0 a4 a5 a6 a7 h k151))
          else
            f_X1_fillRest_J120 n v0 v4 v5 v6 v7 x70.1 0 x70.2 (fun a0 a4 a5 a6 a7 a8 h => f_X1_fillRest_J123 n a0 a4 a5 a6 a7 a8 h (fun a0 a4 a5 a6 a7 h => f_X1_fillRest_L53 n a0 a4 a5 a6 a7 h k151))
        else
          (f_X1_leastRest n v0 (v5 + 1) v7 v7 x70.2).bind fun x101 =>
          f_X1_fillRest_J120 n v0 v4 v5 v6 v7 x70.1 x101.1 x101.2 (fun a0 a4 a5 a6 a7 a8 h => f_X1_fillRest_J123 n a0 a4 a5 a6 a7 a8 h (fun a0 a4 a5 a6 a7 h => f_X1_fillRest_L53 n a0 a4 a5 a6 a7 h k151))
def f_X1_fillRest_J151 (n : Nat) (v0 : Nat) (v4 : Int32) (v5 : Int32) (h : Hp) (k30 : Nat → Int32 → Int32 → Hp → Option Hp) : Option Hp :=
  k30 v0 v4 (v5 + (-1)) h
def f_X1_fillRest_L30 : Nat → Nat → Int32 → Int32 → Hp → Option Hp
  | 0, _, _, _, _ => none
  | n + 1, v0, v4, v5, h =>
    if v5 < 0 then
      some h
    else
      (gR 1 2 v0 h).bind fun x36 =>
      (gI 1 3 v0 h).bind fun x40 =>
      (f_X2_stepAt n x36 x40 v5 h).bind fun x45 =>
      f_X1_fillRest_L53 n v0 v4 v5 x45.1 0 x45.2 (fun a0 a4 a5 h => f_X1_fillRest_J151 n a0 a4 a5 h (fun a0 a4 a5 h => f_X1_fillRest_L30 n a0 a4 a5 h))
def f_X1_fillRest (n : Nat) (v0 : Nat) (v1 : Nat) (v2 : Nat) (v3 : Int32) (h : Hp) : Option Hp :=
  (ck 1 v0 h).bind fun _ =>
  (f_X1_see n v0 v1 v2 h).bind fun x3 =>
  (pI 1 3 v0 v3 x3).bind fun h8 =>
  (gR 1 2 v0 h8).bind fun x12 =>
  (gI 1 3 v0 h8).bind fun x16 =>
  (f_X2_stepsOf n x12 x16 h8).bind fun x19 =>
  f_X1_fillRest_L30 n v0 (x19.1 - 1) (x19.1 - 1) x19.2
def f_X1_firstDay (n : Nat) (v0 : Nat) (h : Hp) : Option (Int32 × Hp) :=
  (gI 0 4 v0 h).bind fun x1 =>
  if x1 = 0 then
    (gI 0 0 v0 h).bind fun x17 =>
    some (x17, h)
  else
    (gI 0 0 v0 h).bind fun x8 =>
    some ((x8 + 1), h)
def f_X1_leastSpent_J68 (n : Nat) (v0 : Nat) (v1 : Int32) (v3 : Int32) (v4 : Nat) (v5 : Int32) (v6 : Int32) (h : Hp) (k22 : Nat → Int32 → Int32 → Nat → Int32 → Int32 → Hp → Option (Int32 × Hp)) : Option (Int32 × Hp) :=
  k22 v0 v1 v3 v4 v5 (v6 + 1) h
def f_X1_leastSpent_L22 : Nat → Nat → Int32 → Int32 → Nat → Int32 → Int32 → Hp → Option (Int32 × Hp)
  | 0, _, _, _, _, _, _, _ => none
  | n + 1, v0, v1, v3, v4, v5, v6, h =>
    if v3 < v6 then
      some (v5, h)
    else
      (gR 1 8 v0 h).bind fun x29 =>
      (f_X1_place n (v1 - 1) v6 h).bind fun x37 =>
      (f_X7_at n x29 x37.1 x37.2).bind fun x40 =>
      if v5 ≤ x40.1 then
        f_X1_leastSpent_J68 n v0 v1 v3 v4 v5 v6 x40.2 (fun a0 a1 a3 a4 a5 a6 h => f_X1_leastSpent_L22 n a0 a1 a3 a4 a5 a6 h)
      else
        (f_X1_isFarEnough n v0 v4 v6 v3 x40.2).bind fun x58 =>
        if x58.1 = 0 then
          f_X1_leastSpent_J68 n v0 v1 v3 v4 v5 v6 x58.2 (fun a0 a1 a3 a4 a5 a6 h => f_X1_leastSpent_L22 n a0 a1 a3 a4 a5 a6 h)
        else
          f_X1_leastSpent_J68 n v0 v1 v3 v4 x40.1 v6 x58.2 (fun a0 a1 a3 a4 a5 a6 h => f_X1_leastSpent_L22 n a0 a1 a3 a4 a5 a6 h)
def f_X1_leastSpent (n : Nat) (v0 : Nat) (v1 : Int32) (v2 : Int32) (v3 : Int32) (h : Hp) : Option (Int32 × Hp) :=
  (ck 1 v0 h).bind fun _ =>
  (gR 1 2 v0 h).bind fun x1 =>
  (gI 1 3 v0 h).bind fun x5 =>
  (f_X2_stepAt n x1 x5 v1 h).bind fun x9 =>
  f_X1_leastSpent_L22 n v0 v1 v3 x9.1 1000 v2 x9.2
def f_X1_fillSpent_J106 (n : Nat) (v0 : Nat) (v1 : Int32) (v2 : Int32) (v3 : Int32) (v4 : Int32) (v5 : Nat) (v6 : Int32) (s0 : Int32) (s1 : Int32) (h : Hp) (k109 : Nat → Int32 → Int32 → Int32 → Int32 → Nat → Int32 → Int32 → Hp → Option Hp) : Option Hp :=
  k109 v0 v1 v2 v3 v4 v5 v6 (s0 + s1) h
def f_X1_fillSpent_J109 (n : Nat) (v0 : Nat) (v1 : Int32) (v2 : Int32) (v3 : Int32) (v4 : Int32) (v5 : Nat) (v6 : Int32) (v7 : Int32) (h : Hp) (k37 : Nat → Int32 → Int32 → Int32 → Int32 → Nat → Int32 → Hp → Option Hp) : Option Hp :=
  (gR 1 8 v0 h).bind fun x110 =>
  (f_X1_place n v4 v6 h).bind fun x117 =>
  (f_J9_min_7cf53 n 1000 v7 x117.2).bind fun x125 =>
  (f_X7_put n x110 x117.1 x125.1 x125.2).bind fun x128 =>
  k37 v0 v1 v2 v3 v4 v5 (v6 + 1) x128
def f_X1_fillSpent_L37 : Nat → Nat → Int32 → Int32 → Int32 → Int32 → Nat → Int32 → Hp → (Nat → Int32 → Int32 → Int32 → Int32 → Hp → Option Hp) → Option Hp
  | 0, _, _, _, _, _, _, _, _, _ => none
  | n + 1, v0, v1, v2, v3, v4, v5, v6, h, k137 =>
    (gR 1 2 v0 h).bind fun x40 =>
    (gI 2 0 x40 h).bind fun x43 =>
    if x43 ≤ v6 then
      k137 v0 v1 v2 v3 v4 h
    else
      (f_X1_costOn n v0 v5 v6 h).bind fun x54 =>
      if 1000 ≤ x54.1 then
        f_X1_fillSpent_J109 n v0 v1 v2 v3 v4 v5 v6 x54.1 x54.2 (fun a0 a1 a2 a3 a4 a5 a6 h => f_X1_fillSpent_L37 n a0 a1 a2 a3 a4 a5 a6 h k137)
      else
        if v4 ≤ v1 then
          (f_X1_isFarEnough n v0 v5 v2 v6 x54.2).bind fun x93 =>
          if x93.1 = 0 then
            f_X1_fillSpent_J106 n v0 v1 v2 v3 v4 v5 v6 x54.1 1000 x93.2 (fun a0 a1 a2 a3 a4 a5 a6 a7 h => f_X1_fillSpent_J109 n a0 a1 a2 a3 a4 a5 a6 a7 h (fun a0 a1 a2 a3 a4 a5 a6 h => f_X1_fillSpent_L37 n a0 a1 a2 a3 a4 a5 a6 h k137))
          else
            f_X1_fillSpent_J106 n v0 v1 v2 v3 v4 v5 v6 x54.1 0 x93.2 (fun a0 a1 a2 a3 a4 a5 a6 a7 h => f_X1_fillSpent_J109 n a0 a1 a2 a3 a4 a5 a6 a7 h (fun a0 a1 a2 a3 a4 a5 a6 h => f_X1_fillSpent_L37 n a0 a1 a2 a3 a4 a5 a6 h k137))
        else
          (f_X1_leastSpent n v0 v4 v3 v6 x54.2).bind fun x81 =>
          f_X1_fillSpent_J106 n v0 v1 v2 v3 v4 v5 v6 x54.1 x81.1 x81.2 (fun a0 a1 a2 a3 a4 a5 a6 a7 h => f_X1_fillSpent_J109 n a0 a1 a2 a3 a4 a5 a6 a7 h (fun a0 a1 a2 a3 a4 a5 a6 h => f_X1_fillSpent_L37 n a0 a1 a2 a3 a4 a5 a6 h k137))
def f_X1_fillSpent_J137 (n : Nat) (v0 : Nat) (v1 : Int32) (v2 : Int32) (v3 : Int32) (v4 : Int32) (h : Hp) (k3 : Nat → Int32 → Int32 → Int32 → Int32 → Hp → Option Hp) : Option Hp :=
  k3 v0 v1 v2 v3 (v4 + 1) h
def f_X1_fillSpent_L3 : Nat → Nat → Int32 → Int32 → Int32 → Int32 → Hp → Option Hp
  | 0, _, _, _, _, _, _ => none
  | n + 1, v0, v1, v2, v3, v4, h =>
    (gR 1 2 v0 h).bind fun x6 =>
    (gI 1 3 v0 h).bind fun x10 =>
    (f_X2_stepsOf n x6 x10 h).bind fun x13 =>
    if x13.1 ≤ v4 then
      some x13.2
    else
      (gR 1 2 v0 x13.2).bind fun x20 =>
      (gI 1 3 v0 x13.2).bind fun x24 =>
      (f_X2_stepAt n x20 x24 v4 x13.2).bind fun x29 =>
      f_X1_fillSpent_L37 n v0 v1 v2 v3 v4 x29.1 v3 x29.2 (fun a0 a1 a2 a3 a4 h => f_X1_fillSpent_J137 n a0 a1 a2 a3 a4 h (fun a0 a1 a2 a3 a4 h => f_X1_fillSpent_L3 n a0 a1 a2 a3 a4 h))
def f_X1_fillSpent (n : Nat) (v0 : Nat) (v1 : Int32) (v2 : Int32) (v3 : Int32) (h : Hp) : Option Hp :=
  (ck 1 v0 h).bind fun _ =>
  f_X1_fillSpent_L3 n v0 v1 v2 v3 v1 h
def f_X1_leastFromFall (n : Nat) (v0 : Nat) (v1 : Int32) (v2 : Int32) (v3 : Int32) (h : Hp) : Option (Int32 × Hp) :=
  (ck 1 v0 h).bind fun _ =>
  (gR 1 2 v0 h).bind fun x1 =>
  (gI 1 3 v0 h).bind fun x5 =>
  (f_X2_stepAt n x1 x5 v1 h).bind fun x9 =>
  (gI 6 3 x9.1 x9.2).bind fun x12 =>
  if x12 = (-9) then
    some (1000, x9.2)
  else
    if v3 < 1000 then
      (gI 1 9 v0 x9.2).bind fun x45 =>
      (f_J9_min_7cf53 n x45 ((v2 + x12) + 1) x9.2).bind fun x50 =>
      (pI 1 9 v0 x50.1 x50.2).bind fun h53 =>
      (f_X1_leastRest n v0 0 (-9) ((v2 + x12) + 1) h53).bind fun x66 =>
      (f_J9_min_7cf53 n 1000 (v3 + x66.1) x66.2).bind fun x70 =>
      some (x70.1, x70.2)
    else
      some (1000, x9.2)
def f_X1_leastFallen_L51 : Nat → Nat → Int32 → Int32 → Int32 → Int32 → Int32 → Hp → (Nat → Int32 → Int32 → Int32 → Int32 → Hp → Option (Int32 × Hp)) → Option (Int32 × Hp)
  | 0, _, _, _, _, _, _, _, _ => none
  | n + 1, v0, v3, v4, v5, v6, v7, h, k100 =>
    (gR 1 2 v0 h).bind fun x54 =>
    (gI 2 0 x54 h).bind fun x57 =>
    if x57 ≤ v7 then
      k100 v0 v3 v4 v5 v6 h
    else
      (gR 1 8 v0 h).bind fun x73 =>
      (f_X1_place n v6 v7 h).bind fun x80 =>
      (f_X7_at n x73 x80.1 x80.2).bind fun x83 =>
      (f_X1_leastFromFall n v0 (v6 + 1) v7 x83.1 x83.2).bind fun x86 =>
      (f_J9_min_7cf53 n v4 x86.1 x86.2).bind fun x89 =>
      f_X1_leastFallen_L51 n v0 v3 x89.1 v5 v6 (v7 + 1) x89.2 k100
def f_X1_leastFallen_J100 (n : Nat) (v0 : Nat) (v3 : Int32) (v4 : Int32) (v5 : Int32) (v6 : Int32) (h : Hp) (k41 : Nat → Int32 → Int32 → Int32 → Int32 → Hp → Option (Int32 × Hp)) : Option (Int32 × Hp) :=
  k41 v0 v3 v4 v5 (v6 + 1) h
def f_X1_leastFallen_L41 : Nat → Nat → Int32 → Int32 → Int32 → Int32 → Hp → Option (Int32 × Hp)
  | 0, _, _, _, _, _, _ => none
  | n + 1, v0, v3, v4, v5, v6, h =>
    if v5 ≤ v6 then
      some (v4, h)
    else
      f_X1_leastFallen_L51 n v0 v3 v4 v5 v6 v3 h (fun a0 a3 a4 a5 a6 h => f_X1_leastFallen_J100 n a0 a3 a4 a5 a6 h (fun a0 a3 a4 a5 a6 h => f_X1_leastFallen_L41 n a0 a3 a4 a5 a6 h))
def f_X1_leastFallen (n : Nat) (v0 : Nat) (v1 : Int32) (v2 : Int32) (v3 : Int32) (h : Hp) : Option (Int32 × Hp) :=
  (ck 1 v0 h).bind fun _ =>
  (f_X1_fillSpent n v0 v1 v2 v3 h).bind fun x4 =>
  (pI 1 9 v0 1000 x4).bind fun h11 =>
  (f_X1_leastFromFall n v0 v1 v2 0 h11).bind fun x18 =>
  (gR 1 2 v0 x18.2).bind fun x24 =>
  (gI 1 3 v0 x18.2).bind fun x28 =>
  (f_X2_stepsOf n x24 x28 x18.2).bind fun x31 =>
  f_X1_leastFallen_L41 n v0 v3 x18.1 (x31.1 - 1) v1 x31.2
def f_X1_fillRow_J84 (n : Nat) (v0 : Nat) (v4 : Int32) (v5 : Int32) (v6 : Int32) (v7 : Int32) (v8 : Nat) (h : Hp) (k40 : Nat → Int32 → Int32 → Int32 → Int32 → Nat → Hp → Option Hp) : Option Hp :=
  k40 v0 v4 v5 (v6 + 1) v7 v8 h
def f_X1_fillRow_L40 : Nat → Nat → Int32 → Int32 → Int32 → Int32 → Nat → Hp → (Nat → Int32 → Int32 → Int32 → Hp → Option Hp) → Option Hp
  | 0, _, _, _, _, _, _, _, _ => none
  | n + 1, v0, v4, v5, v6, v7, v8, h, k90 =>
    (gR 1 2 v0 h).bind fun x43 =>
    (gI 2 0 x43 h).bind fun x46 =>
    if x46 ≤ v6 then
      k90 v0 v4 v6 v7 h
    else
      (gR 1 7 v0 h).bind fun x53 =>
      (f_X1_place n v7 v6 h).bind fun x60 =>
      (f_X7_at n x53 x60.1 x60.2).bind fun x63 =>
      if x63.1 = v4 then
        (f_X1_isFarEnough n v0 v8 v5 v6 x63.2).bind fun x78 =>
        if x78.1 = 0 then
          f_X1_fillRow_J84 n v0 v4 v5 v6 v7 v8 x78.2 (fun a0 a4 a5 a6 a7 a8 h => f_X1_fillRow_L40 n a0 a4 a5 a6 a7 a8 h k90)
        else
          k90 v0 v4 v6 v7 x78.2
      else
        f_X1_fillRow_J84 n v0 v4 v5 v6 v7 v8 x63.2 (fun a0 a4 a5 a6 a7 a8 h => f_X1_fillRow_L40 n a0 a4 a5 a6 a7 a8 h k90)
def f_X1_fillRow_J90 (n : Nat) (v0 : Nat) (v4 : Int32) (v6 : Int32) (v7 : Int32) (h : Hp) (k9 : Nat → Int32 → Int32 → Int32 → Int32 → Hp → Option Hp) : Option Hp :=
  (gR 1 0 v0 h).bind fun x91 =>
  (gI 1 1 v0 h).bind fun x95 =>
  (f_X7_put n x91 x95 v6 h).bind fun x100 =>
  (gI 1 1 v0 x100).bind fun x105 =>
  (pI 1 1 v0 (x105 + 1) x100).bind fun h110 =>
  k9 v0 v4 v6 v6 (v7 + 1) h110
def f_X1_fillRow_L9 : Nat → Nat → Int32 → Int32 → Int32 → Int32 → Hp → Option Hp
  | 0, _, _, _, _, _, _ => none
  | n + 1, v0, v4, v5, v6, v7, h =>
    (gR 1 2 v0 h).bind fun x12 =>
    (gI 1 3 v0 h).bind fun x16 =>
    (f_X2_stepsOf n x12 x16 h).bind fun x19 =>
    if x19.1 ≤ v7 then
      some x19.2
    else
      (gR 1 2 v0 x19.2).bind fun x26 =>
      (gI 1 3 v0 x19.2).bind fun x30 =>
      (f_X2_stepAt n x26 x30 v7 x19.2).bind fun x35 =>
      f_X1_fillRow_L40 n v0 v4 v5 v6 v7 x35.1 x35.2 (fun a0 a4 a6 a7 h => f_X1_fillRow_J90 n a0 a4 a6 a7 h (fun a0 a4 a5 a6 a7 h => f_X1_fillRow_L9 n a0 a4 a5 a6 a7 h))
def f_X1_fillRow (n : Nat) (v0 : Nat) (v1 : Int32) (v2 : Int32) (v3 : Int32) (v4 : Int32) (h : Hp) : Option Hp :=
  (ck 1 v0 h).bind fun _ =>
  f_X1_fillRow_L9 n v0 v4 v2 v3 v1 h
def f_X1_findSoonest_J91 (n : Nat) (v0 : Nat) (v4 : Int32) (v5 : Int32) (v6 : Int32) (v7 : Int32) (v8 : Int32) (h : Hp) : Option (Int32 × Hp) :=
  if v8 < v7 then
    (gI 1 9 v0 h).bind fun x118 =>
    (f_X1_fillRow n v0 0 (-9) x118 v8 h).bind fun x123 =>
    some (v8, x123)
  else
    (f_X1_fillRow n v0 v4 v5 v6 v7 h).bind fun x107 =>
    some (v7, x107)
def f_X1_findSoonest_J65 (n : Nat) (v0 : Nat) (v4 : Int32) (v5 : Int32) (v6 : Int32) (v7 : Int32) (s0 : Int32) (h : Hp) : Option (Int32 × Hp) :=
  (pI 1 1 v0 0 h).bind fun h69 =>
  if v7 < 1000 then
    f_X1_findSoonest_J91 n v0 v4 v5 v6 v7 s0 h69
  else
    if s0 < 1000 then
      f_X1_findSoonest_J91 n v0 v4 v5 v6 v7 s0 h69
    else
      some ((-9), h69)
def f_X1_findSoonest (n : Nat) (v0 : Nat) (v1 : Nat) (v2 : Nat) (v3 : Int32) (h : Hp) : Option (Int32 × Hp) :=
  (ck 1 v0 h).bind fun _ =>
  (pZ 1 4 v0 0 h).bind fun h2 =>
  (f_X1_fillRest n v0 v1 v2 v3 h2).bind fun x9 =>
  (f_X0_doneOf n v2 v3 x9).bind fun x14 =>
  (f_X0_lastOf n v2 v3 x14.2).bind fun x21 =>
  (f_X1_firstDay n v2 x21.2).bind fun x27 =>
  (f_X1_leastRest n v0 x14.1 x21.1 x27.1 x27.2).bind fun x39 =>
  if x14.1 = 0 then
    f_X1_findSoonest_J65 n v0 x14.1 x21.1 x27.1 x39.1 1000 x39.2
  else
    (f_X1_leastFallen n v0 x14.1 x21.1 x27.1 x39.2).bind fun x62 =>
    f_X1_findSoonest_J65 n v0 x14.1 x21.1 x27.1 x39.1 x62.1 x62.2
def f_X1_isSure (n : Nat) (v0 : Nat) (v1 : Nat) (v2 : Nat) (v3 : Int32) (h : Hp) : Option (Int32 × Hp) :=
  (ck 1 v0 h).bind fun _ =>
  (pZ 1 4 v0 0 h).bind fun h2 =>
  (f_X1_fillRest n v0 v1 v2 v3 h2).bind fun x9 =>
  (f_X2_stepsOf n v1 v3 x9).bind fun x14 =>
  if x14.1 = 0 then
    zr 1 x14.2
  else
    (f_X1_leastRest n v0 0 (-9) 0 x14.2).bind fun x25 =>
    if 1000 ≤ x25.1 then
      zr 0 x25.2
    else
      zr 1 x25.2
def f_X1_findFewestAgainst_J66 (n : Nat) (v7 : Int32) (h : Hp) : Option (Int32 × Hp) :=
  if v7 < 1000 then
    some (v7, h)
  else
    some ((-9), h)
def f_X1_findFewestAgainst (n : Nat) (v0 : Nat) (v1 : Nat) (v2 : Nat) (v3 : Int32) (h : Hp) : Option (Int32 × Hp) :=
  (ck 1 v0 h).bind fun _ =>
  (pZ 1 4 v0 1 h).bind fun h2 =>
  (f_X1_fillRest n v0 v1 v2 v3 h2).bind fun x9 =>
  (f_X0_doneOf n v2 v3 x9).bind fun x14 =>
  (f_X0_lastOf n v2 v3 x14.2).bind fun x21 =>
  (f_X1_firstDay n v2 x21.2).bind fun x27 =>
  (f_X1_leastRest n v0 x14.1 x21.1 x27.1 x27.2).bind fun x39 =>
  if x14.1 ≤ 0 then
    f_X1_findFewestAgainst_J66 n x39.1 x39.2
  else
    (f_X1_leastFallen n v0 x14.1 x21.1 x27.1 x39.2).bind fun x58 =>
    (f_J9_min_7cf53 n x39.1 x58.1 x58.2).bind fun x61 =>
    f_X1_findFewestAgainst_J66 n x61.1 x61.2
def f_X6_init (n : Nat) (v0 : Nat) (h : Hp) : Option Hp :=
  (ck 6 v0 h).bind fun _ =>
  (pI 6 3 v0 (-9) h).bind fun h7 =>
  some h7
def f_X2_init (n : Nat) (v0 : Nat) (h : Hp) : Option Hp :=
  (ck 2 v0 h).bind fun _ =>
  (pI 2 0 v0 30 h).bind fun h7 =>
  (nwA 0 60 h7).bind fun x13 =>
  (pR 2 3 v0 x13.1 x13.2).bind fun h15 =>
  (nwA 0 2 h15).bind fun x20 =>
  (pR 2 4 v0 x20.1 x20.2).bind fun h22 =>
  (nwA 4 8 h22).bind fun x28 =>
  (pR 2 5 v0 x28.1 x28.2).bind fun h31 =>
  (nwO 6 h31).bind fun x35 =>
  (f_X6_init n x35.1 x35.2).bind fun x39 =>
  (pR 2 6 v0 x35.1 x39).bind fun h42 =>
  (gR 2 5 v0 h42).bind fun x49 =>
  (aln x49 h42).bind fun x52 =>
  if x52 ≤ 0 then
    some h42
  else
    (gR 2 5 v0 h42).bind fun x57 =>
    (nwO 6 h42).bind fun x61 =>
    (f_X6_init n x61.1 x61.2).bind fun x65 =>
    (tR 4 6 x57 0 x61.1 x65).bind fun h68 =>
    (gR 2 5 v0 h68).bind fun x49_2 =>
    (aln x49_2 h68).bind fun x52_2 =>
    if x52_2 ≤ (0 + 1) then
      some h68
    else
      (gR 2 5 v0 h68).bind fun x57_2 =>
      (nwO 6 h68).bind fun x61_2 =>
      (f_X6_init n x61_2.1 x61_2.2).bind fun x65_2 =>
      (tR 4 6 x57_2 (0 + 1) x61_2.1 x65_2).bind fun h68_2 =>
      (gR 2 5 v0 h68_2).bind fun x49_3 =>
      (aln x49_3 h68_2).bind fun x52_3 =>
      if x52_3 ≤ ((0 + 1) + 1) then
        some h68_2
      else
        (gR 2 5 v0 h68_2).bind fun x57_3 =>
        (nwO 6 h68_2).bind fun x61_3 =>
        (f_X6_init n x61_3.1 x61_3.2).bind fun x65_3 =>
        (tR 4 6 x57_3 ((0 + 1) + 1) x61_3.1 x65_3).bind fun h68_3 =>
        (gR 2 5 v0 h68_3).bind fun x49_4 =>
        (aln x49_4 h68_3).bind fun x52_4 =>
        if x52_4 ≤ (((0 + 1) + 1) + 1) then
          some h68_3
        else
          (gR 2 5 v0 h68_3).bind fun x57_4 =>
          (nwO 6 h68_3).bind fun x61_4 =>
          (f_X6_init n x61_4.1 x61_4.2).bind fun x65_4 =>
          (tR 4 6 x57_4 (((0 + 1) + 1) + 1) x61_4.1 x65_4).bind fun h68_4 =>
          (gR 2 5 v0 h68_4).bind fun x49_5 =>
          (aln x49_5 h68_4).bind fun x52_5 =>
          if x52_5 ≤ ((((0 + 1) + 1) + 1) + 1) then
            some h68_4
          else
            (gR 2 5 v0 h68_4).bind fun x57_5 =>
            (nwO 6 h68_4).bind fun x61_5 =>
            (f_X6_init n x61_5.1 x61_5.2).bind fun x65_5 =>
            (tR 4 6 x57_5 ((((0 + 1) + 1) + 1) + 1) x61_5.1 x65_5).bind fun h68_5 =>
            (gR 2 5 v0 h68_5).bind fun x49_6 =>
            (aln x49_6 h68_5).bind fun x52_6 =>
            if x52_6 ≤ (((((0 + 1) + 1) + 1) + 1) + 1) then
              some h68_5
            else
              (gR 2 5 v0 h68_5).bind fun x57_6 =>
              (nwO 6 h68_5).bind fun x61_6 =>
              (f_X6_init n x61_6.1 x61_6.2).bind fun x65_6 =>
              (tR 4 6 x57_6 (((((0 + 1) + 1) + 1) + 1) + 1) x61_6.1 x65_6).bind fun h68_6 =>
              (gR 2 5 v0 h68_6).bind fun x49_7 =>
              (aln x49_7 h68_6).bind fun x52_7 =>
              if x52_7 ≤ ((((((0 + 1) + 1) + 1) + 1) + 1) + 1) then
                some h68_6
              else
                (gR 2 5 v0 h68_6).bind fun x57_7 =>
                (nwO 6 h68_6).bind fun x61_7 =>
                (f_X6_init n x61_7.1 x61_7.2).bind fun x65_7 =>
                (tR 4 6 x57_7 ((((((0 + 1) + 1) + 1) + 1) + 1) + 1) x61_7.1 x65_7).bind fun h68_7 =>
                (gR 2 5 v0 h68_7).bind fun x49_8 =>
                (aln x49_8 h68_7).bind fun x52_8 =>
                if x52_8 ≤ (((((((0 + 1) + 1) + 1) + 1) + 1) + 1) + 1) then
                  some h68_7
                else
                  (gR 2 5 v0 h68_7).bind fun x57_8 =>
                  (nwO 6 h68_7).bind fun x61_8 =>
                  (f_X6_init n x61_8.1 x61_8.2).bind fun x65_8 =>
                  (tR 4 6 x57_8 (((((((0 + 1) + 1) + 1) + 1) + 1) + 1) + 1) x61_8.1 x65_8).bind fun h68_8 =>
                  (gR 2 5 v0 h68_8).bind fun x49_9 =>
                  (aln x49_9 h68_8).bind fun x52_9 =>
                  if x52_9 ≤ ((((((((0 + 1) + 1) + 1) + 1) + 1) + 1) + 1) + 1) then
                    some h68_8
                  else
                    (gR 2 5 v0 h68_8).bind fun x57_9 =>
                    (nwO 6 h68_8).bind fun x61_9 =>
                    (f_X6_init n x61_9.1 x61_9.2).bind fun x65_9 =>
                    (tR 4 6 x57_9 ((((((((0 + 1) + 1) + 1) + 1) + 1) + 1) + 1) + 1) x61_9.1 x65_9).bind fun h68_9 =>
                    none
def f_X2_wipe (n : Nat) (v0 : Nat) (h : Hp) : Option Hp :=
  (ck 2 v0 h).bind fun _ =>
  (pI 2 0 v0 30 h).bind fun h3 =>
  (pI 2 1 v0 0 h3).bind fun h8 =>
  (pI 2 2 v0 0 h8).bind fun h13 =>
  (gR 2 3 v0 h13).bind fun x17 =>
  (f_J7_fill_53178 n x17 0 h13).bind fun x21 =>
  (gR 2 4 v0 x21).bind fun x25 =>
  (f_J7_fill_53178 n x25 0 x21).bind fun x29 =>
  some x29
def f_X6_copy (n : Nat) (v0 : Nat) (v1 : Nat) (h : Hp) : Option Hp :=
  (ck 6 v0 h).bind fun _ =>
  (gI 6 0 v1 h).bind fun x2 =>
  (pI 6 0 v0 x2 h).bind fun h5 =>
  (gI 6 1 v1 h5).bind fun x10 =>
  (pI 6 1 v0 x10 h5).bind fun h13 =>
  (gI 6 2 v1 h13).bind fun x18 =>
  (pZ 6 2 v0 x18 h13).bind fun h21 =>
  (gI 6 3 v1 h21).bind fun x26 =>
  (pI 6 3 v0 x26 h21).bind fun h29 =>
  (gI 6 4 v1 h29).bind fun x34 =>
  (pI 6 4 v0 x34 h29).bind fun h37 =>
  some h37
def f_X2_copy_L62 : Nat → Nat → Nat → Int32 → Int32 → Hp → (Nat → Nat → Int32 → Hp → Option Hp) → Option Hp
  | 0, _, _, _, _, _, _ => none
  | n + 1, v0, v1, v2, v3, h, k92 =>
    (f_X2_stepsOf n v0 v2 h).bind fun x65 =>
    if x65.1 ≤ v3 then
      k92 v0 v1 v2 x65.2
    else
      (f_X2_stepAt n v0 v2 v3 x65.2).bind fun x74 =>
      (f_X2_stepAt n v1 v2 v3 x74.2).bind fun x80 =>
      (f_X6_copy n x74.1 x80.1 x80.2).bind fun x83 =>
      f_X2_copy_L62 n v0 v1 v2 (v3 + 1) x83 k92
def f_X2_copy_J92 (n : Nat) (v0 : Nat) (v1 : Nat) (v2 : Int32) (h : Hp) (k55 : Nat → Nat → Int32 → Hp → Option Hp) : Option Hp :=
  k55 v0 v1 (v2 + 1) h
def f_X2_copy_L55 : Nat → Nat → Nat → Int32 → Hp → Option Hp
  | 0, _, _, _, _ => none
  | n + 1, v0, v1, v2, h =>
    if 2 ≤ v2 then
      some h
    else
      f_X2_copy_L62 n v0 v1 v2 0 h (fun a0 a1 a2 h => f_X2_copy_J92 n a0 a1 a2 h (fun a0 a1 a2 h => f_X2_copy_L55 n a0 a1 a2 h))
def f_X2_copy (n : Nat) (v0 : Nat) (v1 : Nat) (h : Hp) : Option Hp :=
  (ck 2 v0 h).bind fun _ =>
  (gI 2 0 v1 h).bind fun x2 =>
  (pI 2 0 v0 x2 h).bind fun h5 =>
  (gI 2 1 v1 h5).bind fun x10 =>
  (pI 2 1 v0 x10 h5).bind fun h13 =>
  (gI 2 2 v1 h13).bind fun x18 =>
  (pI 2 2 v0 x18 h13).bind fun h21 =>
  (gR 2 3 v1 h21).bind fun x25 =>
  (gR 2 3 v0 h21).bind fun x30 =>
  (cpy x25 0 x30 0 60 h21).bind fun h36 =>
  (gR 2 4 v1 h36).bind fun x40 =>
  (gR 2 4 v0 h36).bind fun x45 =>
  (cpy x40 0 x45 0 2 h36).bind fun h50 =>
  f_X2_copy_L55 n v0 v1 0 h50
def f_X2_setKind (n : Nat) (v0 : Nat) (v1 : Int32) (v2 : Int32) (h : Hp) : Option Hp :=
  (ck 2 v0 h).bind fun _ =>
  (gR 2 3 v0 h).bind fun x1 =>
  (f_X7_put n x1 v1 v2 h).bind fun x6 =>
  some x6
def f_X2_hasStep (n : Nat) (v0 : Nat) (v1 : Int32) (v2 : Int32) (h : Hp) : Option (Int32 × Hp) :=
  (ck 2 v0 h).bind fun _ =>
  if v2 < 0 then
    zr 0 h
  else
    (gR 2 4 v0 h).bind fun x6 =>
    (f_X7_at n x6 v1 h).bind fun x10 =>
    if x10.1 ≤ v2 then
      zr 0 x10.2
    else
      zr 1 x10.2
def f_X6_wipe (n : Nat) (v0 : Nat) (h : Hp) : Option Hp :=
  (ck 6 v0 h).bind fun _ =>
  (pI 6 0 v0 0 h).bind fun h2 =>
  (pI 6 1 v0 0 h2).bind fun h7 =>
  (pZ 6 2 v0 0 h7).bind fun h12 =>
  (pI 6 3 v0 (-9) h12).bind fun h18 =>
  (pI 6 4 v0 0 h18).bind fun h23 =>
  some h23
def f_X2_addStep (n : Nat) (v0 : Nat) (h : Hp) : Option (Nat × Hp) :=
  (ck 2 v0 h).bind fun _ =>
  (gI 2 2 v0 h).bind fun x1 =>
  (f_X2_stepsOf n v0 (x1 - 1) h).bind fun x9 =>
  (gR 2 4 v0 x9.2).bind fun x14 =>
  (f_X7_put n x14 (x1 - 1) (x9.1 + 1) x9.2).bind fun x21 =>
  (f_X2_stepAt n v0 (x1 - 1) x9.1 x21).bind fun x27 =>
  (f_X6_wipe n x27.1 x27.2).bind fun x32 =>
  some (x27.1, x32)
def f_X3_init (n : Nat) (v0 : Nat) (v1 : Nat) (v2 : Nat) (h : Hp) : Option Hp :=
  (ck 3 v0 h).bind fun _ =>
  (pR 3 0 v0 v1 h).bind fun h6 =>
  (pR 3 2 v0 v2 h6).bind fun h11 =>
  some h11
def f_X3_byteAt (n : Nat) (v0 : Nat) (v1 : Int32) (h : Hp) : Option (Int32 × Hp) :=
  (ck 3 v0 h).bind fun _ =>
  if v1 < 0 then
    some ((-9), h)
  else
    (gI 3 1 v0 h).bind fun x6 =>
    if x6 ≤ v1 then
      some ((-9), h)
    else
      (gR 3 0 v0 h).bind fun x14 =>
      (aln x14 h).bind fun x17 =>
      if x17 ≤ v1 then
        some ((-9), h)
      else
        (gR 3 0 v0 h).bind fun x22 =>
        (aI 1 x22 v1 h).bind fun x26 =>
        some ((x26 &&& 255), h)
def f_X3_isLetter (n : Nat) (v0 : Int32) (h : Hp) : Option (Int32 × Hp) :=
  if v0 < 97 then
    zr 0 h
  else
    if 122 < v0 then
      zr 0 h
    else
      zr 1 h
def f_X3_advanceLetters_L0 : Nat → Nat → Hp → (Nat → Hp → Option Hp) → Option Hp
  | 0, _, _, _ => none
  | n + 1, v0, h, k38 =>
    (gI 3 5 v0 h).bind fun x1 =>
    (gI 3 1 v0 h).bind fun x5 =>
    if x5 ≤ x1 then
      k38 v0 h
    else
      (gI 3 5 v0 h).bind fun x13 =>
      (f_X3_byteAt n v0 x13 h).bind fun x16 =>
      (f_X3_isLetter n x16.1 x16.2).bind fun x19 =>
      if x19.1 = 0 then
        k38 v0 x19.2
      else
        (gI 3 5 v0 x19.2).bind fun x27 =>
        (pI 3 5 v0 (x27 + 1) x19.2).bind fun h32 =>
        f_X3_advanceLetters_L0 n v0 h32 k38
def f_X3_advanceLetters_J38 (n : Nat) (v0 : Nat) (h : Hp) : Option Hp :=
  (pI 3 3 v0 1 h).bind fun h40 =>
  some h40
def f_X3_advanceLetters (n : Nat) (v0 : Nat) (h : Hp) : Option Hp :=
  (ck 3 v0 h).bind fun _ =>
  f_X3_advanceLetters_L0 n v0 h (fun a0 h => f_X3_advanceLetters_J38 n a0 h)
def f_X3_isDigit (n : Nat) (v0 : Int32) (h : Hp) : Option (Int32 × Hp) :=
  if v0 < 48 then
    zr 0 h
  else
    if 57 < v0 then
      zr 0 h
    else
      zr 1 h
def f_X3_advanceNumber_L0 : Nat → Nat → Hp → (Nat → Hp → Option Hp) → Option Hp
  | 0, _, _, _ => none
  | n + 1, v0, h, k38 =>
    (gI 3 5 v0 h).bind fun x1 =>
    (gI 3 1 v0 h).bind fun x5 =>
    if x5 ≤ x1 then
      k38 v0 h
    else
      (gI 3 5 v0 h).bind fun x13 =>
      (f_X3_byteAt n v0 x13 h).bind fun x16 =>
      (f_X3_isDigit n x16.1 x16.2).bind fun x19 =>
      if x19.1 = 0 then
        k38 v0 x19.2
      else
        (gI 3 5 v0 x19.2).bind fun x27 =>
        (pI 3 5 v0 (x27 + 1) x19.2).bind fun h32 =>
        f_X3_advanceNumber_L0 n v0 h32 k38
def f_X3_advanceNumber_J74 (n : Nat) (v0 : Nat) (v1 : Int32) (v2 : Int32) (h : Hp) (k79 : Nat → Int32 → Int32 → Int32 → Hp → Option Hp) : Option Hp :=
  k79 v0 v1 v2 1 h
def f_X3_advanceNumber_J78 (n : Nat) (v0 : Nat) (v1 : Int32) (v2 : Int32) (h : Hp) (k79 : Nat → Int32 → Int32 → Int32 → Hp → Option Hp) : Option Hp :=
  k79 v0 v1 v2 0 h
def f_X3_advanceNumber_J121 (n : Nat) (s0 : Nat) (s1 : Int32) (h : Hp) : Option Hp :=
  (pI 3 6 s0 s1 h).bind fun h121 =>
  some h121
def f_X3_advanceNumber_J90 (n : Nat) (v0 : Nat) (v1 : Int32) (v2 : Int32) (s0 : Nat) (s1 : Int32) (h : Hp) : Option Hp :=
  (pI 3 3 s0 s1 h).bind fun h90 =>
  if v2 = 1 then
    f_X3_advanceNumber_J121 n v0 v1 h90
  else
    (gI 3 4 v0 h90).bind fun x109 =>
    (f_X3_byteAt n v0 (x109 + 1) h90).bind fun x114 =>
    f_X3_advanceNumber_J121 n v0 (((v1 * 10) + x114.1) - 48) x114.2
def f_X3_advanceNumber_J79 (n : Nat) (v0 : Nat) (v1 : Int32) (v2 : Int32) (s0 : Int32) (h : Hp) : Option Hp :=
  if s0 = 0 then
    f_X3_advanceNumber_J90 n v0 v1 v2 v0 4 h
  else
    f_X3_advanceNumber_J90 n v0 v1 v2 v0 2 h
def f_X3_advanceNumber_J38 (n : Nat) (v0 : Nat) (h : Hp) : Option Hp :=
  (gI 3 4 v0 h).bind fun x40 =>
  (f_X3_byteAt n v0 x40 h).bind fun x43 =>
  (gI 3 5 v0 x43.2).bind fun x51 =>
  (gI 3 4 v0 x43.2).bind fun x55 =>
  if (x51 - x55) = 1 then
    f_X3_advanceNumber_J74 n v0 (x43.1 - 48) (x51 - x55) x43.2 (fun a0 a1 a2 b0 h => f_X3_advanceNumber_J79 n a0 a1 a2 b0 h)
  else
    if (x51 - x55) = 2 then
      if (x43.1 - 48) = 0 then
        f_X3_advanceNumber_J78 n v0 (x43.1 - 48) (x51 - x55) x43.2 (fun a0 a1 a2 b0 h => f_X3_advanceNumber_J79 n a0 a1 a2 b0 h)
      else
        f_X3_advanceNumber_J74 n v0 (x43.1 - 48) (x51 - x55) x43.2 (fun a0 a1 a2 b0 h => f_X3_advanceNumber_J79 n a0 a1 a2 b0 h)
    else
      f_X3_advanceNumber_J78 n v0 (x43.1 - 48) (x51 - x55) x43.2 (fun a0 a1 a2 b0 h => f_X3_advanceNumber_J79 n a0 a1 a2 b0 h)
def f_X3_advanceNumber (n : Nat) (v0 : Nat) (h : Hp) : Option Hp :=
  (ck 3 v0 h).bind fun _ =>
  f_X3_advanceNumber_L0 n v0 h (fun a0 h => f_X3_advanceNumber_J38 n a0 h)
def f_X3_advance_L8 : Nat → Nat → Hp → (Nat → Hp → Option Hp) → Option Hp
  | 0, _, _, _ => none
  | n + 1, v0, h, k45 =>
    (gI 3 4 v0 h).bind fun x9 =>
    (gI 3 1 v0 h).bind fun x13 =>
    if x13 ≤ x9 then
      k45 v0 h
    else
      (gI 3 4 v0 h).bind fun x21 =>
      (f_X3_byteAt n v0 x21 h).bind fun x24 =>
      if x24.1 = 32 then
        (gI 3 4 v0 x24.2).bind fun x34 =>
        (pI 3 4 v0 (x34 + 1) x24.2).bind fun h39 =>
        f_X3_advance_L8 n v0 h39 k45
      else
        k45 v0 x24.2
def f_X3_advance_J45 (n : Nat) (v0 : Nat) (h : Hp) : Option Hp :=
  (gI 3 4 v0 h).bind fun x47 =>
  (pI 3 5 v0 (x47 + 1) h).bind fun h52 =>
  (gI 3 4 v0 h52).bind fun x57 =>
  (f_X3_byteAt n v0 x57 h52).bind fun x60 =>
  (gI 3 4 v0 x60.2).bind fun x65 =>
  (gI 3 1 v0 x60.2).bind fun x69 =>
  if x65 < x69 then
    if x60.1 = 59 then
      (pI 3 3 v0 3 x60.2).bind fun h99 =>
      some h99
    else
      (f_X3_isLetter n x60.1 x60.2).bind fun x106 =>
      if x106.1 = 0 then
        (f_X3_isDigit n x60.1 x106.2).bind fun x120 =>
        if x120.1 = 0 then
          (pI 3 3 v0 4 x120.2).bind fun h135 =>
          some h135
        else
          (f_X3_advanceNumber n v0 x120.2).bind fun x127 =>
          some x127
      else
        (f_X3_advanceLetters n v0 x106.2).bind fun x113 =>
        some x113
  else
    (pI 3 3 v0 0 x60.2).bind fun h77 =>
    (gI 3 1 v0 h77).bind fun x82 =>
    (pI 3 5 v0 x82 h77).bind fun h85 =>
    some h85
def f_X3_advance (n : Nat) (v0 : Nat) (h : Hp) : Option Hp :=
  (ck 3 v0 h).bind fun _ =>
  (gI 3 5 v0 h).bind fun x2 =>
  (pI 3 4 v0 x2 h).bind fun h5 =>
  f_X3_advance_L8 n v0 h5 (fun a0 h => f_X3_advance_J45 n a0 h)
def f_X3_isName_L28 : Nat → Nat → Nat → Int32 → Hp → Option (Int32 × Hp)
  | 0, _, _, _, _ => none
  | n + 1, v0, v1, v2, h =>
    (sLen v1).bind fun x30 =>
    if x30 ≤ v2 then
      zr 1 h
    else
      (gI 3 4 v0 h).bind fun x38 =>
      (f_X3_byteAt n v0 (x38 + v2) h).bind fun x43 =>
      (sChr v1 v2).bind fun x48 =>
      if x43.1 = x48 then
        f_X3_isName_L28 n v0 v1 (v2 + 1) x43.2
      else
        zr 0 x43.2
def f_X3_isName (n : Nat) (v0 : Nat) (v1 : Nat) (h : Hp) : Option (Int32 × Hp) :=
  (ck 3 v0 h).bind fun _ =>
  (gI 3 3 v0 h).bind fun x1 =>
  if x1 = 1 then
    (gI 3 5 v0 h).bind fun x9 =>
    (gI 3 4 v0 h).bind fun x13 =>
    (sLen v1).bind fun x18 =>
    if (x9 - x13) = x18 then
      f_X3_isName_L28 n v0 v1 0 h
    else
      zr 0 h
  else
    zr 0 h
def f_X3_refuse (n : Nat) (v0 : Nat) (h : Hp) : Option (Int32 × Hp) :=
  (ck 3 v0 h).bind fun _ =>
  (gI 3 4 v0 h).bind fun x2 =>
  (pI 3 7 v0 x2 h).bind fun h5 =>
  zr 0 h5
def f_X3_takeNumber_J24 (n : Nat) (v0 : Nat) (h : Hp) : Option (Int32 × Hp) :=
  (f_X3_refuse n v0 h).bind fun x25 =>
  some ((-9), x25.2)
def f_X3_takeNumber (n : Nat) (v0 : Nat) (v1 : Int32) (v2 : Int32) (h : Hp) : Option (Int32 × Hp) :=
  (ck 3 v0 h).bind fun _ =>
  (gI 3 3 v0 h).bind fun x1 =>
  if x1 = 2 then
    (gI 3 6 v0 h).bind fun x9 =>
    if x9 < v1 then
      f_X3_takeNumber_J24 n v0 h
    else
      (gI 3 6 v0 h).bind fun x17 =>
      if x17 ≤ v2 then
        (gI 3 6 v0 h).bind fun x33 =>
        (f_X3_advance n v0 h).bind fun x38 =>
        some (x33, x38)
      else
        f_X3_takeNumber_J24 n v0 h
  else
    f_X3_takeNumber_J24 n v0 h
def f_X3_takeMark (n : Nat) (v0 : Nat) (h : Hp) : Option (Int32 × Hp) :=
  (ck 3 v0 h).bind fun _ =>
  (gI 3 3 v0 h).bind fun x1 =>
  if x1 = 3 then
    (f_X3_advance n v0 h).bind fun x14 =>
    zr 1 x14
  else
    (f_X3_refuse n v0 h).bind fun x9 =>
    zr x9.1 x9.2
def f_X3_isYear (n : Nat) (v0 : Nat) (h : Hp) : Option (Int32 × Hp) :=
  (ck 3 v0 h).bind fun _ =>
  (gR 3 2 v0 h).bind fun x1 =>
  (gI 2 1 x1 h).bind fun x4 =>
  if x4 ≤ 0 then
    (f_X3_advance n v0 h).bind fun x16 =>
    (f_X3_takeNumber n v0 10 60 x16).bind fun x24 =>
    if x24.1 = (-9) then
      zr 0 x24.2
    else
      (gR 3 2 v0 x24.2).bind fun x37 =>
      (pI 2 0 x37 x24.1 x24.2).bind fun h41 =>
      (f_X3_takeMark n v0 h41).bind fun x45 =>
      zr x45.1 x45.2
  else
    (f_X3_refuse n v0 h).bind fun x11 =>
    zr x11.1 x11.2
def f_X3_take (n : Nat) (v0 : Nat) (v1 : Nat) (h : Hp) : Option (Int32 × Hp) :=
  (ck 3 v0 h).bind fun _ =>
  (f_X3_isName n v0 v1 h).bind fun x2 =>
  if x2.1 = 0 then
    (f_X3_refuse n v0 x2.2).bind fun x9 =>
    zr x9.1 x9.2
  else
    (f_X3_advance n v0 x2.2).bind fun x14 =>
    zr 1 x14
def f_X3_kindHere (n : Nat) (v0 : Nat) (h : Hp) : Option (Int32 × Hp) :=
  (ck 3 v0 h).bind fun _ =>
  (f_X3_isName n v0 10003 h).bind fun x3 =>
  if x3.1 = 0 then
    (f_X3_isName n v0 10004 x3.2).bind fun x14 =>
    if x14.1 = 0 then
      (f_X3_isName n v0 10005 x14.2).bind fun x25 =>
      if x25.1 = 0 then
        (f_X3_isName n v0 10006 x25.2).bind fun x36 =>
        if x36.1 = 0 then
          some ((-9), x36.2)
        else
          some (3, x36.2)
      else
        some (2, x25.2)
    else
      some (1, x14.2)
  else
    some (0, x3.2)
def f_X3_takeKind (n : Nat) (v0 : Nat) (h : Hp) : Option (Int32 × Hp) :=
  (ck 3 v0 h).bind fun _ =>
  (f_X3_kindHere n v0 h).bind fun x1 =>
  if x1.1 = (-9) then
    (f_X3_refuse n v0 x1.2).bind fun x12 =>
    some (x1.1, x12.2)
  else
    (f_X3_advance n v0 x1.2).bind fun x20 =>
    some (x1.1, x20)
def f_X3_isEvery_L64 : Nat → Nat → Int32 → Int32 → Int32 → Int32 → Hp → (Nat → Hp → Option (Int32 × Hp)) → Option (Int32 × Hp)
  | 0, _, _, _, _, _, _, _ => none
  | n + 1, v0, v1, v2, v3, v4, h, k102 =>
    if 60 ≤ v4 then
      k102 v0 h
    else
      if 60 ≤ (v2 + (v4 * v1)) then
        k102 v0 h
      else
        (gR 3 2 v0 h).bind fun x83 =>
        (f_X2_setKind n x83 (v2 + (v4 * v1)) v3 h).bind fun x93 =>
        f_X3_isEvery_L64 n v0 v1 v2 v3 (v4 + 1) x93 k102
def f_X3_isEvery_J102 (n : Nat) (v0 : Nat) (h : Hp) : Option (Int32 × Hp) :=
  (f_X3_takeMark n v0 h).bind fun x103 =>
  zr x103.1 x103.2
def f_X3_isEvery_J52 (n : Nat) (v0 : Nat) (v1 : Int32) (v2 : Int32) (s0 : Int32) (h : Hp) : Option (Int32 × Hp) :=
  if s0 = (-9) then
    zr 0 h
  else
    f_X3_isEvery_L64 n v0 v1 v2 s0 0 h (fun a0 h => f_X3_isEvery_J102 n a0 h)
def f_X3_isEvery (n : Nat) (v0 : Nat) (h : Hp) : Option (Int32 × Hp) :=
  (ck 3 v0 h).bind fun _ =>
  (f_X3_advance n v0 h).bind fun x1 =>
  (f_X3_takeNumber n v0 1 60 x1).bind fun x8 =>
  if x8.1 = (-9) then
    zr 0 x8.2
  else
    (f_X3_take n v0 10002 x8.2).bind fun x21 =>
    if x21.1 = 0 then
      zr 0 x21.2
    else
      (f_X3_takeNumber n v0 0 59 x21.2).bind fun x33 =>
      if x33.1 = (-9) then
        f_X3_isEvery_J52 n v0 x8.1 x33.1 (-9) x33.2
      else
        (f_X3_takeKind n v0 x33.2).bind fun x49 =>
        f_X3_isEvery_J52 n v0 x8.1 x33.1 x49.1 x49.2
def f_X3_isDays_L58 : Nat → Nat → Int32 → Int32 → Int32 → Hp → (Nat → Hp → Option (Int32 × Hp)) → Option (Int32 × Hp)
  | 0, _, _, _, _, _, _ => none
  | n + 1, v0, v2, v3, v4, h, k87 =>
    if v2 < v4 then
      k87 v0 h
    else
      if 60 ≤ v4 then
        k87 v0 h
      else
        (gR 3 2 v0 h).bind fun x72 =>
        (f_X2_setKind n x72 v4 v3 h).bind fun x78 =>
        f_X3_isDays_L58 n v0 v2 v3 (v4 + 1) x78 k87
def f_X3_isDays_J87 (n : Nat) (v0 : Nat) (h : Hp) : Option (Int32 × Hp) :=
  (f_X3_takeMark n v0 h).bind fun x88 =>
  zr x88.1 x88.2
def f_X3_isDays_J46 (n : Nat) (v0 : Nat) (v1 : Int32) (v2 : Int32) (s0 : Int32) (h : Hp) : Option (Int32 × Hp) :=
  if s0 = (-9) then
    zr 0 h
  else
    f_X3_isDays_L58 n v0 v2 s0 v1 h (fun a0 h => f_X3_isDays_J87 n a0 h)
def f_X3_isDays_J30 (n : Nat) (v0 : Nat) (v1 : Int32) (s0 : Int32) (h : Hp) : Option (Int32 × Hp) :=
  if s0 = (-9) then
    f_X3_isDays_J46 n v0 v1 s0 (-9) h
  else
    (f_X3_takeKind n v0 h).bind fun x43 =>
    f_X3_isDays_J46 n v0 v1 s0 x43.1 x43.2
def f_X3_isDays (n : Nat) (v0 : Nat) (h : Hp) : Option (Int32 × Hp) :=
  (ck 3 v0 h).bind fun _ =>
  (f_X3_advance n v0 h).bind fun x1 =>
  (f_X3_takeNumber n v0 0 59 x1).bind fun x8 =>
  if x8.1 = (-9) then
    f_X3_isDays_J30 n v0 x8.1 (-9) x8.2
  else
    (f_X3_takeNumber n v0 x8.1 59 x8.2).bind fun x27 =>
    f_X3_isDays_J30 n v0 x8.1 x27.1 x27.2
def f_X3_isBillItem (n : Nat) (v0 : Nat) (h : Hp) : Option (Int32 × Hp) :=
  (ck 3 v0 h).bind fun _ =>
  (gR 3 2 v0 h).bind fun x1 =>
  (gI 2 2 x1 h).bind fun x4 =>
  if x4 < 2 then
    (f_X3_advance n v0 h).bind fun x17 =>
    (gR 3 2 v0 x17).bind fun x21 =>
    (gI 2 2 x21 x17).bind fun x25 =>
    (pI 2 2 x21 (x25 + 1) x17).bind fun h30 =>
    (f_X3_takeMark n v0 h30).bind fun x34 =>
    zr x34.1 x34.2
  else
    (f_X3_refuse n v0 h).bind fun x12 =>
    zr x12.1 x12.2
def f_X3_areKinds_L2 : Nat → Nat → Nat → Int32 → Hp → (Nat → Nat → Hp → Option (Int32 × Hp)) → Option (Int32 × Hp)
  | 0, _, _, _, _, _ => none
  | n + 1, v0, v1, v2, h, k57 =>
    if 3 < v2 then
      k57 v0 v1 h
    else
      (f_X3_kindHere n v0 h).bind fun x8 =>
      if x8.1 = (-9) then
        k57 v0 v1 x8.2
      else
        (f_X3_kindHere n v0 x8.2).bind fun x18 =>
        (gI 6 0 v1 x18.2).bind fun x24 =>
        if (x24 &&& (1 <<< (x18.1 &&& 31))) = 0 then
          (gI 6 0 v1 x18.2).bind fun x39 =>
          (pI 6 0 v1 (x39 ||| (1 <<< (x18.1 &&& 31))) x18.2).bind fun h44 =>
          (f_X3_advance n v0 h44).bind fun x48 =>
          f_X3_areKinds_L2 n v0 v1 (v2 + 1) x48 k57
        else
          (f_X3_refuse n v0 x18.2).bind fun x33 =>
          zr x33.1 x33.2
def f_X3_areKinds_J57 (n : Nat) (v0 : Nat) (v1 : Nat) (h : Hp) : Option (Int32 × Hp) :=
  (gI 6 0 v1 h).bind fun x58 =>
  if x58 = 0 then
    (f_X3_refuse n v0 h).bind fun x65 =>
    if x65.1 = 0 then
      zr 0 x65.2
    else
      zr 1 x65.2
  else
    zr 1 h
def f_X3_areKinds (n : Nat) (v0 : Nat) (v1 : Nat) (h : Hp) : Option (Int32 × Hp) :=
  (ck 3 v0 h).bind fun _ =>
  f_X3_areKinds_L2 n v0 v1 0 h (fun a0 a1 h => f_X3_areKinds_J57 n a0 a1 h)
def f_X3_perhapsTake (n : Nat) (v0 : Nat) (v1 : Nat) (h : Hp) : Option (Int32 × Hp) :=
  (ck 3 v0 h).bind fun _ =>
  (f_X3_isName n v0 v1 h).bind fun x2 =>
  if x2.1 = 0 then
    zr x2.1 x2.2
  else
    (f_X3_advance n v0 x2.2).bind fun x11 =>
    zr x2.1 x11
def f_X3_isStep_J30 (n : Nat) (v0 : Nat) (h : Hp) : Option (Int32 × Hp) :=
  (f_X3_refuse n v0 h).bind fun x31 =>
  zr x31.1 x31.2
def f_X3_isStep_J166 (n : Nat) (v0 : Nat) (s0 : Nat) (s1 : Int32) (s2 : Int32) (h : Hp) : Option (Int32 × Hp) :=
  (pI 6 4 s0 (s1 ||| s2) h).bind fun h167 =>
  (f_X3_takeMark n v0 h167).bind fun x171 =>
  zr x171.1 x171.2
def f_X3_isStep_J144 (n : Nat) (v0 : Nat) (v1 : Nat) (s0 : Nat) (s1 : Int32) (h : Hp) : Option (Int32 × Hp) :=
  (pI 6 4 s0 s1 h).bind fun h144 =>
  (gI 6 4 v1 h144).bind fun x149 =>
  (f_X3_perhapsTake n v0 10013 h144).bind fun x155 =>
  if x155.1 = 0 then
    f_X3_isStep_J166 n v0 v1 x149 0 x155.2
  else
    f_X3_isStep_J166 n v0 v1 x149 2 x155.2
def f_X3_isStep_J129 (n : Nat) (v0 : Nat) (v1 : Nat) (h : Hp) : Option (Int32 × Hp) :=
  (f_X3_perhapsTake n v0 10012 h).bind fun x133 =>
  if x133.1 = 0 then
    f_X3_isStep_J144 n v0 v1 v1 0 x133.2
  else
    f_X3_isStep_J144 n v0 v1 v1 1 x133.2
def f_X3_isStep (n : Nat) (v0 : Nat) (h : Hp) : Option (Int32 × Hp) :=
  (ck 3 v0 h).bind fun _ =>
  (gR 3 2 v0 h).bind fun x1 =>
  (gI 2 2 x1 h).bind fun x4 =>
  if x4 = 0 then
    f_X3_isStep_J30 n v0 h
  else
    (gR 3 2 v0 h).bind fun x11 =>
    (gR 3 2 v0 h).bind fun x15 =>
    (gI 2 2 x15 h).bind fun x18 =>
    (f_X2_stepsOf n x11 (x18 - 1) h).bind fun x23 =>
    if x23.1 < 4 then
      (f_X3_advance n v0 x23.2).bind fun x36 =>
      (gR 3 2 v0 x36).bind fun x40 =>
      (f_X2_addStep n x40 x36).bind fun x43 =>
      (f_X3_areKinds n v0 x43.1 x43.2).bind fun x49 =>
      if x49.1 = 0 then
        zr 0 x49.2
      else
        (f_X3_take n v0 10010 x49.2).bind fun x58 =>
        if x58.1 = 0 then
          zr 0 x58.2
        else
          (f_X3_takeNumber n v0 0 59 x58.2).bind fun x71 =>
          (pI 6 1 x43.1 x71.1 x71.2).bind fun h74 =>
          (gI 6 1 x43.1 h74).bind fun x78 =>
          if x78 = (-9) then
            zr 0 h74
          else
            (f_X3_perhapsTake n v0 10004 h74).bind fun x92 =>
            (pZ 6 2 x43.1 x92.1 x92.2).bind fun h95 =>
            (f_X3_perhapsTake n v0 10011 h95).bind fun x101 =>
            if x101.1 = 0 then
              f_X3_isStep_J129 n v0 x43.1 x101.2
            else
              (f_X3_takeNumber n v0 1 60 x101.2).bind fun x112 =>
              (pI 6 3 x43.1 x112.1 x112.2).bind fun h115 =>
              (gI 6 3 x43.1 h115).bind fun x119 =>
              if x119 = (-9) then
                zr 0 h115
              else
                f_X3_isStep_J129 n v0 x43.1 h115
    else
      f_X3_isStep_J30 n v0 x23.2
def f_X3_read_J148 (n : Nat) (v0 : Nat) (v3 : Int32) (s0 : Int32) (h : Hp) (k150 : Nat → Int32 → Int32 → Hp → Option (Int32 × Hp)) : Option (Int32 × Hp) :=
  k150 v0 v3 s0 h
def f_X3_read_J150 (n : Nat) (v0 : Nat) (v3 : Int32) (v4 : Int32) (h : Hp) (k42 : Nat → Int32 → Hp → Option (Int32 × Hp)) : Option (Int32 × Hp) :=
  if v4 = 0 then
    (gI 3 7 v0 h).bind fun x156 =>
    some (x156, h)
  else
    (gR 3 2 v0 h).bind fun x161 =>
    (gI 2 1 x161 h).bind fun x165 =>
    (pI 2 1 x161 (x165 + 1) h).bind fun h170 =>
    k42 v0 (v3 + 1) h170
def f_X3_read_L42 : Nat → Nat → Int32 → Hp → Option (Int32 × Hp)
  | 0, _, _, _ => none
  | n + 1, v0, v3, h =>
    if 400 ≤ v3 then
      some ((-9), h)
    else
      (gI 3 3 v0 h).bind fun x50 =>
      if x50 = 0 then
        some ((-9), h)
      else
        (f_X3_isName n v0 10000 h).bind fun x59 =>
        if x59.1 = 0 then
          (f_X3_isName n v0 10001 x59.2).bind fun x77 =>
          if x77.1 = 0 then
            (f_X3_isName n v0 10007 x77.2).bind fun x95 =>
            if x95.1 = 0 then
              (f_X3_isName n v0 10008 x95.2).bind fun x113 =>
              if x113.1 = 0 then
                (f_X3_isName n v0 10009 x113.2).bind fun x131 =>
                if x131.1 = 0 then
                  (f_X3_refuse n v0 x131.2).bind fun x145 =>
                  f_X3_read_J148 n v0 v3 x145.1 x145.2 (fun a0 a3 a4 h => f_X3_read_J150 n a0 a3 a4 h (fun a0 a3 h => f_X3_read_L42 n a0 a3 h))
                else
                  (f_X3_isStep n v0 x131.2).bind fun x138 =>
                  f_X3_read_J148 n v0 v3 x138.1 x138.2 (fun a0 a3 a4 h => f_X3_read_J150 n a0 a3 a4 h (fun a0 a3 h => f_X3_read_L42 n a0 a3 h))
              else
                (f_X3_isBillItem n v0 x113.2).bind fun x120 =>
                f_X3_read_J150 n v0 v3 x120.1 x120.2 (fun a0 a3 h => f_X3_read_L42 n a0 a3 h)
            else
              (f_X3_isDays n v0 x95.2).bind fun x102 =>
              f_X3_read_J150 n v0 v3 x102.1 x102.2 (fun a0 a3 h => f_X3_read_L42 n a0 a3 h)
          else
            (f_X3_isEvery n v0 x77.2).bind fun x84 =>
            f_X3_read_J150 n v0 v3 x84.1 x84.2 (fun a0 a3 h => f_X3_read_L42 n a0 a3 h)
        else
          (f_X3_isYear n v0 x59.2).bind fun x66 =>
          f_X3_read_J150 n v0 v3 x66.1 x66.2 (fun a0 a3 h => f_X3_read_L42 n a0 a3 h)
def f_X3_read (n : Nat) (v0 : Nat) (v1 : Int32) (v2 : Nat) (h : Hp) : Option (Int32 × Hp) :=
  (ck 3 v0 h).bind fun _ =>
  (gR 3 0 v0 h).bind fun x3 =>
  (aln x3 h).bind fun x6 =>
  (f_J9_min_7cf53 n v1 x6 h).bind fun x7 =>
  (pI 3 1 v0 x7.1 x7.2).bind fun h10 =>
  (pR 3 2 v0 v2 h10).bind fun h15 =>
  (gR 3 2 v0 h15).bind fun x19 =>
  (f_X2_wipe n x19 h15).bind fun x22 =>
  (pI 3 5 v0 0 x22).bind fun h27 =>
  (pI 3 7 v0 (-9) h27).bind fun h33 =>
  (f_X3_advance n v0 h33).bind fun x37 =>
  f_X3_read_L42 n v0 0 x37
def f_X4_init (n : Nat) (v0 : Nat) (h : Hp) : Option Hp :=
  (ck 4 v0 h).bind fun _ =>
  (nwA 0 54 h).bind fun x7 =>
  (pR 4 1 v0 x7.1 x7.2).bind fun h9 =>
  some h9
def f_X4_addGroup (n : Nat) (v0 : Nat) (h : Hp) : Option (Int32 × Hp) :=
  (ck 4 v0 h).bind fun _ =>
  (gI 4 0 v0 h).bind fun x1 =>
  if x1 < 9 then
    (gI 4 0 v0 h).bind fun x13 =>
    (gI 4 0 v0 h).bind fun x19 =>
    (pI 4 0 v0 (x19 + 1) h).bind fun h24 =>
    some (x13, h24)
  else
    some ((-3), h)
def f_X4_hasGroup (n : Nat) (v0 : Nat) (v1 : Int32) (h : Hp) : Option (Int32 × Hp) :=
  (ck 4 v0 h).bind fun _ =>
  if v1 < 0 then
    zr 0 h
  else
    (gI 4 0 v0 h).bind fun x6 =>
    if x6 ≤ v1 then
      zr 0 h
    else
      zr 1 h
def f_X4_setWish (n : Nat) (v0 : Nat) (v1 : Int32) (v2 : Int32) (v3 : Int32) (h : Hp) : Option (Int32 × Hp) :=
  (ck 4 v0 h).bind fun _ =>
  (gR 4 1 v0 h).bind fun x9 =>
  (f_X7_at n x9 ((v1 * 6) + v2) h).bind fun x14 =>
  (gR 4 1 v0 x14.2).bind fun x20 =>
  (f_X7_put n x20 ((v1 * 6) + v2) v3 x14.2).bind fun x26 =>
  some (x14.1, x26)
def f_X4_sumOf_J39 (n : Nat) (v0 : Nat) (v1 : Int32) (v2 : Int32) (v3 : Int32) (v4 : Int32) (h : Hp) (k5 : Nat → Int32 → Int32 → Int32 → Int32 → Hp → Option (Int32 × Hp)) : Option (Int32 × Hp) :=
  k5 v0 v1 v2 v3 (v4 + 1) h
def f_X4_sumOf_L5 : Nat → Nat → Int32 → Int32 → Int32 → Int32 → Hp → Option (Int32 × Hp)
  | 0, _, _, _, _, _, _ => none
  | n + 1, v0, v1, v2, v3, v4, h =>
    if 6 ≤ v4 then
      some (v3, h)
    else
      if ((v2 >>> (v4 &&& 31)) &&& 1) = 1 then
        (gR 4 1 v0 h).bind fun x24 =>
        (f_X7_at n x24 ((v1 * 6) + v4) h).bind fun x34 =>
        f_X4_sumOf_J39 n v0 v1 v2 (v3 + x34.1) v4 x34.2 (fun a0 a1 a2 a3 a4 h => f_X4_sumOf_L5 n a0 a1 a2 a3 a4 h)
      else
        f_X4_sumOf_J39 n v0 v1 v2 v3 v4 h (fun a0 a1 a2 a3 a4 h => f_X4_sumOf_L5 n a0 a1 a2 a3 a4 h)
def f_X4_sumOf (n : Nat) (v0 : Nat) (v1 : Int32) (v2 : Int32) (h : Hp) : Option (Int32 × Hp) :=
  (ck 4 v0 h).bind fun _ =>
  f_X4_sumOf_L5 n v0 v1 v2 0 0 h
def f_X4_doPass_J39 (n : Nat) (v0 : Nat) (v1 : Int32) (v2 : Int32) (v3 : Int32) (h : Hp) (k4 : Nat → Int32 → Int32 → Int32 → Hp → Option (Int32 × Hp)) : Option (Int32 × Hp) :=
  k4 v0 v1 v2 (v3 + 1) h
def f_X4_doPass_L4 : Nat → Nat → Int32 → Int32 → Int32 → Hp → (Int32 → Hp → Option (Int32 × Hp)) → Option (Int32 × Hp)
  | 0, _, _, _, _, _, _ => none
  | n + 1, v0, v1, v2, v3, h, k45 =>
    (gI 4 0 v0 h).bind fun x6 =>
    if x6 ≤ v3 then
      k45 v2 h
    else
      (f_X4_sumOf n v0 v3 v1 h).bind fun x15 =>
      if x15.1 ≤ 0 then
        if 0 ≤ x15.1 then
          f_X4_doPass_J39 n v0 v1 v2 v3 x15.2 (fun a0 a1 a2 a3 h => f_X4_doPass_L4 n a0 a1 a2 a3 h k45)
        else
          f_X4_doPass_J39 n v0 v1 (v2 + (-1)) v3 x15.2 (fun a0 a1 a2 a3 h => f_X4_doPass_L4 n a0 a1 a2 a3 h k45)
      else
        f_X4_doPass_J39 n v0 v1 (v2 + 1) v3 x15.2 (fun a0 a1 a2 a3 h => f_X4_doPass_L4 n a0 a1 a2 a3 h k45)
def f_X4_doPass_J45 (n : Nat) (v2 : Int32) (h : Hp) : Option (Int32 × Hp) :=
  if v2 ≤ 0 then
    zr 0 h
  else
    zr 1 h
def f_X4_doPass (n : Nat) (v0 : Nat) (v1 : Int32) (h : Hp) : Option (Int32 × Hp) :=
  (ck 4 v0 h).bind fun _ =>
  f_X4_doPass_L4 n v0 v1 0 0 h (fun a2 h => f_X4_doPass_J45 n a2 h)
def f_J6_bitCount_0f7a4 (n : Nat) (v0 : Int32) (h : Hp) : Option (Int32 × Hp) :=
  some (((((((((v0 - (((v0.toUInt32 >>> ((1 : Int32).toUInt32 &&& Int32.toUInt32 31)).toInt32) &&& 1431655765)) &&& 858993459) + ((((v0 - (((v0.toUInt32 >>> ((1 : Int32).toUInt32 &&& Int32.toUInt32 31)).toInt32) &&& 1431655765)).toUInt32 >>> ((2 : Int32).toUInt32 &&& Int32.toUInt32 31)).toInt32) &&& 858993459)) + (((((v0 - (((v0.toUInt32 >>> ((1 : Int32).toUInt32 &&& Int32.toUInt32 31)).toInt32) &&& 1431655765)) &&& 858993459) + ((((v0 - (((v0.toUInt32 >>> ((1 : Int32).toUInt32 &&& Int32.toUInt32 31)).toInt32) &&& 1431655765)).toUInt32 >>> ((2 : Int32).toUInt32 &&& Int32.toUInt32 31)).toInt32) &&& 858993459)).toUInt32 >>> ((4 : Int32).toUInt32 &&& Int32.toUInt32 31)).toInt32)) &&& 252645135) + (((((((v0 - (((v0.toUInt32 >>> ((1 : Int32).toUInt32 &&& Int32.toUInt32 31)).toInt32) &&& 1431655765)) &&& 858993459) + ((((v0 - (((v0.toUInt32 >>> ((1 : Int32).toUInt32 &&& Int32.toUInt32 31)).toInt32) &&& 1431655765)).toUInt32 >>> ((2 : Int32).toUInt32 &&& Int32.toUInt32 31)).toInt32) &&& 858993459)) + (((((v0 - (((v0.toUInt32 >>> ((1 : Int32).toUInt32 &&& Int32.toUInt32 31)).toInt32) &&& 1431655765)) &&& 858993459) + ((((v0 - (((v0.toUInt32 >>> ((1 : Int32).toUInt32 &&& Int32.toUInt32 31)).toInt32) &&& 1431655765)).toUInt32 >>> ((2 : Int32).toUInt32 &&& Int32.toUInt32 31)).toInt32) &&& 858993459)).toUInt32 >>> ((4 : Int32).toUInt32 &&& Int32.toUInt32 31)).toInt32)) &&& 252645135).toUInt32 >>> ((8 : Int32).toUInt32 &&& Int32.toUInt32 31)).toInt32)) + ((((((((v0 - (((v0.toUInt32 >>> ((1 : Int32).toUInt32 &&& Int32.toUInt32 31)).toInt32) &&& 1431655765)) &&& 858993459) + ((((v0 - (((v0.toUInt32 >>> ((1 : Int32).toUInt32 &&& Int32.toUInt32 31)).toInt32) &&& 1431655765)).toUInt32 >>> ((2 : Int32).toUInt32 &&& Int32.toUInt32 31)).toInt32) &&& 858993459)) + (((((v0 - (((v0.toUInt32 >>> ((1 : Int32).toUInt32 &&& Int32.toUInt32 31)).toInt32) &&& 1431655765)) &&& 858993459) + ((((v0 - (((v0.toUInt32 >>> ((1 : Int32).toUInt32 &&& Int32.toUInt32 31)).toInt32) &&& 1431655765)).toUInt32 >>> ((2 : Int32).toUInt32 &&& Int32.toUInt32 31)).toInt32) &&& 858993459)).toUInt32 >>> ((4 : Int32).toUInt32 &&& Int32.toUInt32 31)).toInt32)) &&& 252645135) + (((((((v0 - (((v0.toUInt32 >>> ((1 : Int32).toUInt32 &&& Int32.toUInt32 31)).toInt32) &&& 1431655765)) &&& 858993459) + ((((v0 - (((v0.toUInt32 >>> ((1 : Int32).toUInt32 &&& Int32.toUInt32 31)).toInt32) &&& 1431655765)).toUInt32 >>> ((2 : Int32).toUInt32 &&& Int32.toUInt32 31)).toInt32) &&& 858993459)) + (((((v0 - (((v0.toUInt32 >>> ((1 : Int32).toUInt32 &&& Int32.toUInt32 31)).toInt32) &&& 1431655765)) &&& 858993459) + ((((v0 - (((v0.toUInt32 >>> ((1 : Int32).toUInt32 &&& Int32.toUInt32 31)).toInt32) &&& 1431655765)).toUInt32 >>> ((2 : Int32).toUInt32 &&& Int32.toUInt32 31)).toInt32) &&& 858993459)).toUInt32 >>> ((4 : Int32).toUInt32 &&& Int32.toUInt32 31)).toInt32)) &&& 252645135).toUInt32 >>> ((8 : Int32).toUInt32 &&& Int32.toUInt32 31)).toInt32)).toUInt32 >>> ((16 : Int32).toUInt32 &&& Int32.toUInt32 31)).toInt32)) &&& 63), h)
def f_X4_fewestToRideWith_J28 (n : Nat) (v0 : Nat) (v1 : Int32) (v2 : Int32) (v3 : Int32) (h : Hp) (k33 : Nat → Int32 → Int32 → Int32 → Int32 → Hp → Option (Int32 × Hp)) : Option (Int32 × Hp) :=
  k33 v0 v1 v2 v3 1 h
def f_X4_fewestToRideWith_J58 (n : Nat) (v0 : Nat) (v1 : Int32) (v2 : Int32) (v3 : Int32) (h : Hp) (k5 : Nat → Int32 → Int32 → Int32 → Hp → Option (Int32 × Hp)) : Option (Int32 × Hp) :=
  k5 v0 v1 v2 (v3 + 1) h
def f_X4_fewestToRideWith_J33 (n : Nat) (v0 : Nat) (v1 : Int32) (v2 : Int32) (v3 : Int32) (s0 : Int32) (h : Hp) (k5 : Nat → Int32 → Int32 → Int32 → Hp → Option (Int32 × Hp)) : Option (Int32 × Hp) :=
  if (v3 &&& v1) = 0 then
    if s0 = 0 then
      f_X4_fewestToRideWith_J58 n v0 v1 v2 v3 h k5
    else
      (f_X4_doPass n v0 (v3 ||| v1) h).bind fun x50 =>
      if x50.1 = 0 then
        f_X4_fewestToRideWith_J58 n v0 v1 v2 v3 x50.2 k5
      else
        f_X4_fewestToRideWith_J58 n v0 v1 v3 v3 x50.2 k5
  else
    f_X4_fewestToRideWith_J58 n v0 v1 v2 v3 h k5
def f_X4_fewestToRideWith_L5 : Nat → Nat → Int32 → Int32 → Int32 → Hp → Option (Int32 × Hp)
  | 0, _, _, _, _, _ => none
  | n + 1, v0, v1, v2, v3, h =>
    if 64 ≤ v3 then
      some (v2, h)
    else
      if v2 = (-9) then
        f_X4_fewestToRideWith_J28 n v0 v1 v2 v3 h (fun a0 a1 a2 a3 b0 h => f_X4_fewestToRideWith_J33 n a0 a1 a2 a3 b0 h (fun a0 a1 a2 a3 h => f_X4_fewestToRideWith_L5 n a0 a1 a2 a3 h))
      else
        (f_J6_bitCount_0f7a4 n v3 h).bind fun x18 =>
        (f_J6_bitCount_0f7a4 n v2 x18.2).bind fun x22 =>
        if x22.1 ≤ x18.1 then
          f_X4_fewestToRideWith_J33 n v0 v1 v2 v3 0 x22.2 (fun a0 a1 a2 a3 h => f_X4_fewestToRideWith_L5 n a0 a1 a2 a3 h)
        else
          f_X4_fewestToRideWith_J28 n v0 v1 v2 v3 x22.2 (fun a0 a1 a2 a3 b0 h => f_X4_fewestToRideWith_J33 n a0 a1 a2 a3 b0 h (fun a0 a1 a2 a3 h => f_X4_fewestToRideWith_L5 n a0 a1 a2 a3 h))
def f_X4_fewestToRideWith (n : Nat) (v0 : Nat) (v1 : Int32) (h : Hp) : Option (Int32 × Hp) :=
  (ck 4 v0 h).bind fun _ =>
  f_X4_fewestToRideWith_L5 n v0 v1 (-9) 0 h
def f_X4_tearsOf_J42 (n : Nat) (v0 : Nat) (v1 : Int32) (v2 : Int32) (v3 : Int32) (h : Hp) (k14 : Nat → Int32 → Int32 → Int32 → Hp → Option (Int32 × Hp)) : Option (Int32 × Hp) :=
  k14 v0 v1 v2 (v3 + 1) h
def f_X4_tearsOf_L14 : Nat → Nat → Int32 → Int32 → Int32 → Hp → Option (Int32 × Hp)
  | 0, _, _, _, _, _ => none
  | n + 1, v0, v1, v2, v3, h =>
    if 6 ≤ v3 then
      some (v2, h)
    else
      if ((v1 >>> (v3 &&& 31)) &&& 1) = 1 then
        (f_X4_doPass n v0 (1 <<< (v3 &&& 31)) h).bind fun x33 =>
        if x33.1 = 0 then
          f_X4_tearsOf_J42 n v0 v1 (v2 + 1) v3 x33.2 (fun a0 a1 a2 a3 h => f_X4_tearsOf_L14 n a0 a1 a2 a3 h)
        else
          f_X4_tearsOf_J42 n v0 v1 v2 v3 x33.2 (fun a0 a1 a2 a3 h => f_X4_tearsOf_L14 n a0 a1 a2 a3 h)
      else
        f_X4_tearsOf_J42 n v0 v1 v2 v3 h (fun a0 a1 a2 a3 h => f_X4_tearsOf_L14 n a0 a1 a2 a3 h)
def f_X4_tearsOf (n : Nat) (v0 : Nat) (v1 : Int32) (h : Hp) : Option (Int32 × Hp) :=
  (ck 4 v0 h).bind fun _ =>
  (f_X4_doPass n v0 v1 h).bind fun x2 =>
  if x2.1 = 0 then
    some (0, x2.2)
  else
    f_X4_tearsOf_L14 n v0 v1 0 0 x2.2
def f_X5_init (n : Nat) (v0 : Nat) (h : Hp) : Option Hp :=
  (ck 5 v0 h).bind fun _ =>
  (nwA 0 8 h).bind fun x7 =>
  (pR 5 1 v0 x7.1 x7.2).bind fun h9 =>
  (nwA 0 8 h9).bind fun x15 =>
  (pR 5 2 v0 x15.1 x15.2).bind fun h17 =>
  some h17
def f_X5_has (n : Nat) (v0 : Nat) (v1 : Int32) (h : Hp) : Option (Int32 × Hp) :=
  (ck 5 v0 h).bind fun _ =>
  if v1 < 0 then
    zr 0 h
  else
    (gI 5 0 v0 h).bind fun x6 =>
    if x6 ≤ v1 then
      zr 0 h
    else
      zr 1 h
def f_X5_officeOf (n : Nat) (v0 : Nat) (v1 : Int32) (h : Hp) : Option (Int32 × Hp) :=
  (ck 5 v0 h).bind fun _ =>
  (gR 5 1 v0 h).bind fun x1 =>
  (f_X7_at n x1 v1 h).bind fun x5 =>
  some (x5.1, x5.2)
def f_X5_hasRoom_J50 (n : Nat) (v0 : Nat) (v1 : Int32) (v3 : Int32) (v4 : Int32) (h : Hp) (k22 : Nat → Int32 → Int32 → Int32 → Hp → Option (Int32 × Hp)) : Option (Int32 × Hp) :=
  k22 v0 v1 v3 (v4 + 1) h
def f_X5_hasRoom_L22 : Nat → Nat → Int32 → Int32 → Int32 → Hp → (Int32 → Hp → Option (Int32 × Hp)) → Option (Int32 × Hp)
  | 0, _, _, _, _, _, _ => none
  | n + 1, v0, v1, v3, v4, h, k56 =>
    (gI 5 0 v0 h).bind fun x25 =>
    if x25 ≤ v4 then
      k56 v3 h
    else
      (f_X5_officeOf n v0 v4 h).bind fun x34 =>
      if x34.1 = v1 then
        (f_X5_timesOf n v0 v4 x34.2).bind fun x45 =>
        f_X5_hasRoom_J50 n v0 v1 (v3 + x45.1) v4 x45.2 (fun a0 a1 a3 a4 h => f_X5_hasRoom_L22 n a0 a1 a3 a4 h k56)
      else
        f_X5_hasRoom_J50 n v0 v1 v3 v4 x34.2 (fun a0 a1 a3 a4 h => f_X5_hasRoom_L22 n a0 a1 a3 a4 h k56)
def f_X5_hasRoom_J56 (n : Nat) (v3 : Int32) (h : Hp) : Option (Int32 × Hp) :=
  if 6 < v3 then
    zr 0 h
  else
    zr 1 h
def f_X5_hasRoom (n : Nat) (v0 : Nat) (v1 : Int32) (v2 : Int32) (h : Hp) : Option (Int32 × Hp) :=
  (ck 5 v0 h).bind fun _ =>
  (gI 5 0 v0 h).bind fun x1 =>
  if x1 < 8 then
    if v1 = 0 then
      zr 1 h
    else
      f_X5_hasRoom_L22 n v0 v1 v2 0 h (fun a3 h => f_X5_hasRoom_J56 n a3 h)
  else
    zr 0 h
def f_X5_add (n : Nat) (v0 : Nat) (v1 : Int32) (v2 : Int32) (h : Hp) : Option (Int32 × Hp) :=
  (ck 5 v0 h).bind fun _ =>
  (gI 5 0 v0 h).bind fun x1 =>
  (gR 5 1 v0 h).bind fun x6 =>
  (f_X7_put n x6 x1 v1 h).bind fun x11 =>
  (gR 5 2 v0 x11).bind fun x15 =>
  (f_X7_put n x15 x1 v2 x11).bind fun x20 =>
  (gI 5 0 v0 x20).bind fun x25 =>
  (pI 5 0 v0 (x25 + 1) x20).bind fun h30 =>
  some (x1, h30)
def f_X7_init (n : Nat) (v0 : Nat) (h : Hp) : Option Hp :=
  (ck 7 v0 h).bind fun _ =>
  (nwA 1 400 h).bind fun x8 =>
  (pR 7 0 v0 x8.1 x8.2).bind fun h10 =>
  (nwO 2 h10).bind fun x14 =>
  (f_X2_init n x14.1 x14.2).bind fun x18 =>
  (pR 7 2 v0 x14.1 x18).bind fun h21 =>
  (nwO 2 h21).bind fun x25 =>
  (f_X2_init n x25.1 x25.2).bind fun x29 =>
  (pR 7 3 v0 x25.1 x29).bind fun h32 =>
  (nwO 3 h32).bind fun x36 =>
  (gR 7 0 v0 x36.2).bind fun x41 =>
  (gR 7 3 v0 x36.2).bind fun x45 =>
  (f_X3_init n x36.1 x41 x45 x36.2).bind fun x48 =>
  (pR 7 4 v0 x36.1 x48).bind fun h51 =>
  (nwO 5 h51).bind fun x55 =>
  (f_X5_init n x55.1 x55.2).bind fun x59 =>
  (pR 7 5 v0 x55.1 x59).bind fun h62 =>
  (nwO 0 h62).bind fun x66 =>
  (f_X0_init n x66.1 x66.2).bind fun x70 =>
  (pR 7 6 v0 x66.1 x70).bind fun h73 =>
  (nwO 0 h73).bind fun x77 =>
  (f_X0_init n x77.1 x77.2).bind fun x81 =>
  (pR 7 7 v0 x77.1 x81).bind fun h84 =>
  (nwA 5 2 h84).bind fun x89 =>
  (pR 7 8 v0 x89.1 x89.2).bind fun h92 =>
  (nwO 1 h92).bind fun x96 =>
  (gR 7 2 v0 x96.2).bind fun x101 =>
  (f_X1_init n x96.1 x101 x96.2).bind fun x104 =>
  (pR 7 10 v0 x96.1 x104).bind fun h107 =>
  (nwO 4 h107).bind fun x111 =>
  (f_X4_init n x111.1 x111.2).bind fun x115 =>
  (pR 7 11 v0 x111.1 x115).bind fun h118 =>
  (nwA 0 5 h118).bind fun x123 =>
  (pR 7 12 v0 x123.1 x123.2).bind fun h125 =>
  (nwA 0 5 h125).bind fun x130 =>
  (pR 7 13 v0 x130.1 x130.2).bind fun h132 =>
  (nwA 0 5 h132).bind fun x137 =>
  (pR 7 14 v0 x137.1 x137.2).bind fun h139 =>
  (gR 7 8 v0 h139).bind fun x146 =>
  (aln x146 h139).bind fun x149 =>
  if x149 ≤ 0 then
    some h139
  else
    (gR 7 8 v0 h139).bind fun x154 =>
    (nwO 0 h139).bind fun x158 =>
    (f_X0_init n x158.1 x158.2).bind fun x162 =>
    (tR 5 0 x154 0 x158.1 x162).bind fun h165 =>
    (gR 7 8 v0 h165).bind fun x146_2 =>
    (aln x146_2 h165).bind fun x149_2 =>
    if x149_2 ≤ (0 + 1) then
      some h165
    else
      (gR 7 8 v0 h165).bind fun x154_2 =>
      (nwO 0 h165).bind fun x158_2 =>
      (f_X0_init n x158_2.1 x158_2.2).bind fun x162_2 =>
      (tR 5 0 x154_2 (0 + 1) x158_2.1 x162_2).bind fun h165_2 =>
      (gR 7 8 v0 h165_2).bind fun x146_3 =>
      (aln x146_3 h165_2).bind fun x149_3 =>
      if x149_3 ≤ ((0 + 1) + 1) then
        some h165_2
      else
        (gR 7 8 v0 h165_2).bind fun x154_3 =>
        (nwO 0 h165_2).bind fun x158_3 =>
        (f_X0_init n x158_3.1 x158_3.2).bind fun x162_3 =>
        (tR 5 0 x154_3 ((0 + 1) + 1) x158_3.1 x162_3).bind fun h165_3 =>
        none
def f_X7_type_J85 (n : Nat) (v0 : Nat) (v1 : Int64) (v4 : Int32) (h : Hp) (k33 : Nat → Int64 → Int32 → Hp → Option (Int32 × Hp)) : Option (Int32 × Hp) :=
  k33 v0 v1 (v4 + (-1)) h
def f_X7_type_L33 : Nat → Nat → Int64 → Int32 → Hp → (Nat → Hp → Option (Int32 × Hp)) → Option (Int32 × Hp)
  | 0, _, _, _, _, _ => none
  | n + 1, v0, v1, v4, h, k91 =>
    if v4 < 0 then
      k91 v0 h
    else
      (gI 7 1 v0 h).bind fun x39 =>
      if x39 < 0 then
        f_X7_type_J85 n v0 v1 v4 h (fun a0 a1 a4 h => f_X7_type_L33 n a0 a1 a4 h k91)
      else
        (gI 7 1 v0 h).bind fun x46 =>
        (gR 7 0 v0 h).bind fun x50 =>
        (aln x50 h).bind fun x53 =>
        if x53 ≤ x46 then
          f_X7_type_J85 n v0 v1 v4 h (fun a0 a1 a4 h => f_X7_type_L33 n a0 a1 a4 h k91)
        else
          (gR 7 0 v0 h).bind fun x58 =>
          (gI 7 1 v0 h).bind fun x62 =>
          (tB x58 x62 ((((v1.toUInt64 >>> ((8 * v4).toInt64.toUInt64 &&& Int64.toUInt64 63)).toInt64).toInt32).toInt8.toInt32) h).bind fun h74 =>
          (gI 7 1 v0 h74).bind fun x77 =>
          (pI 7 1 v0 (x77 + 1) h74).bind fun h82 =>
          f_X7_type_J85 n v0 v1 v4 h82 (fun a0 a1 a4 h => f_X7_type_L33 n a0 a1 a4 h k91)
def f_X7_type_J91 (n : Nat) (v0 : Nat) (h : Hp) : Option (Int32 × Hp) :=
  (gI 7 1 v0 h).bind fun x92 =>
  some (x92, h)
def f_X7_type (n : Nat) (v0 : Nat) (v1 : Int64) (v3 : Int32) (h : Hp) : Option (Int32 × Hp) :=
  (ck 7 v0 h).bind fun _ =>
  if v3 < 1 then
    some ((-1), h)
  else
    if v3 ≤ 8 then
      (gI 7 1 v0 h).bind fun x14 =>
      if (x14 + v3) ≤ 400 then
        f_X7_type_L33 n v0 v1 (v3 - 1) h (fun a0 h => f_X7_type_J91 n a0 h)
      else
        some ((-3), h)
    else
      some ((-1), h)
def f_X7_clear (n : Nat) (v0 : Nat) (h : Hp) : Option (Int32 × Hp) :=
  (ck 7 v0 h).bind fun _ =>
  (gI 7 1 v0 h).bind fun x1 =>
  (pI 7 1 v0 0 h).bind fun h7 =>
  some (x1, h7)
def f_X7_law (n : Nat) (v0 : Nat) (h : Hp) : Option (Int32 × Hp) :=
  (ck 7 v0 h).bind fun _ =>
  (gR 7 4 v0 h).bind fun x1 =>
  (gI 7 1 v0 h).bind fun x5 =>
  (gR 7 3 v0 h).bind fun x9 =>
  (f_X3_read n x1 x5 x9 h).bind fun x12 =>
  if x12.1 < 0 then
    (gR 7 3 v0 x12.2).bind fun x26 =>
    (gR 7 2 v0 x12.2).bind fun x32 =>
    (pR 7 3 v0 x32 x12.2).bind fun h35 =>
    (pR 7 2 v0 x26 h35).bind fun h40 =>
    (pI 7 1 v0 0 h40).bind fun h45 =>
    (gR 7 6 v0 h45).bind fun x49 =>
    (gR 7 5 v0 h45).bind fun x53 =>
    (f_X0_begin n x49 x53 h45).bind fun x56 =>
    (pI 7 9 v0 0 x56).bind fun h61 =>
    (gR 7 2 v0 h61).bind fun x65 =>
    (gI 2 1 x65 h61).bind fun x68 =>
    some (x68, h61)
  else
    some (((-10) - x12.1), x12.2)
def f_X7_isDay (n : Nat) (v0 : Nat) (v1 : Int32) (h : Hp) : Option (Int32 × Hp) :=
  (ck 7 v0 h).bind fun _ =>
  if v1 < 0 then
    zr 0 h
  else
    (gR 7 2 v0 h).bind fun x6 =>
    (gI 2 0 x6 h).bind fun x9 =>
    if x9 ≤ v1 then
      zr 0 h
    else
      zr 1 h
def f_X7_kindNow (n : Nat) (v0 : Nat) (v1 : Int32) (h : Hp) : Option (Int32 × Hp) :=
  (ck 7 v0 h).bind fun _ =>
  (gR 7 6 v0 h).bind fun x1 =>
  (f_X0_isMadeHoly n x1 v1 h).bind fun x5 =>
  if x5.1 = 0 then
    (gR 7 2 v0 x5.2).bind fun x16 =>
    (f_X2_kindOf n x16 v1 x5.2).bind fun x20 =>
    some (x20.1, x20.2)
  else
    some (2, x5.2)
def f_X7_day (n : Nat) (v0 : Nat) (v1 : Int32) (h : Hp) : Option (Int32 × Hp) :=
  (ck 7 v0 h).bind fun _ =>
  (f_X7_isDay n v0 v1 h).bind fun x2 =>
  if x2.1 = 0 then
    some ((-1), x2.2)
  else
    (f_X7_kindNow n v0 v1 x2.2).bind fun x10 =>
    some (x10.1, x10.2)
def f_X7_isKind (n : Nat) (v0 : Int32) (h : Hp) : Option (Int32 × Hp) :=
  if v0 < 0 then
    zr 0 h
  else
    if 3 < v0 then
      zr 0 h
    else
      zr 1 h
def f_X7_days_J50 (n : Nat) (v0 : Nat) (v1 : Int32) (v3 : Int32) (v4 : Int32) (v5 : Int32) (h : Hp) (k31 : Nat → Int32 → Int32 → Int32 → Int32 → Hp → Option (Int32 × Hp)) : Option (Int32 × Hp) :=
  k31 v0 v1 v3 v4 (v5 + 1) h
def f_X7_days_L31 : Nat → Nat → Int32 → Int32 → Int32 → Int32 → Hp → Option (Int32 × Hp)
  | 0, _, _, _, _, _, _ => none
  | n + 1, v0, v1, v3, v4, v5, h =>
    if v3 < v5 then
      some (v4, h)
    else
      (f_X7_kindNow n v0 v5 h).bind fun x40 =>
      if x40.1 = v1 then
        f_X7_days_J50 n v0 v1 v3 (v4 + 1) v5 x40.2 (fun a0 a1 a3 a4 a5 h => f_X7_days_L31 n a0 a1 a3 a4 a5 h)
      else
        f_X7_days_J50 n v0 v1 v3 v4 v5 x40.2 (fun a0 a1 a3 a4 a5 h => f_X7_days_L31 n a0 a1 a3 a4 a5 h)
def f_X7_days (n : Nat) (v0 : Nat) (v1 : Int32) (v2 : Int32) (v3 : Int32) (h : Hp) : Option (Int32 × Hp) :=
  (ck 7 v0 h).bind fun _ =>
  (f_X7_isKind n v1 h).bind fun x1 =>
  if x1.1 = 0 then
    some ((-1), x1.2)
  else
    (f_X7_isDay n v0 v2 x1.2).bind fun x9 =>
    if x9.1 = 0 then
      some ((-1), x9.2)
    else
      (f_X7_isDay n v0 v3 x9.2).bind fun x17 =>
      if x17.1 = 0 then
        some ((-1), x17.2)
      else
        f_X7_days_L31 n v0 v1 v3 0 v2 x17.2
def f_X7_step (n : Nat) (v0 : Nat) (v1 : Int32) (v2 : Int32) (v3 : Int32) (h : Hp) : Option (Int32 × Hp) :=
  (ck 7 v0 h).bind fun _ =>
  (gR 7 2 v0 h).bind fun x1 =>
  (f_X2_hasStep n x1 v1 v2 h).bind fun x6 =>
  if x6.1 = 0 then
    some ((-1), x6.2)
  else
    if v3 < 0 then
      some ((-1), x6.2)
    else
      if v3 ≤ 4 then
        (gR 7 2 v0 x6.2).bind fun x24 =>
        (f_X2_stepAt n x24 v1 v2 x6.2).bind fun x29 =>
        if v3 = 0 then
          (gI 6 0 x29.1 x29.2).bind fun x66 =>
          some (x66, x29.2)
        else if v3 = 1 then
          (gI 6 1 x29.1 x29.2).bind fun x72 =>
          some (x72, x29.2)
        else if v3 = 2 then
          (gI 6 2 x29.1 x29.2).bind fun x78 =>
          if x78 = 0 then
            some (0, x29.2)
          else
            some (1, x29.2)
        else if v3 = 3 then
          (gI 6 3 x29.1 x29.2).bind fun x92 =>
          some (x92, x29.2)
        else 
          (gI 6 4 x29.1 x29.2).bind fun x98 =>
          some (x98, x29.2)
      else
        some ((-1), x6.2)
def f_X7_mayBeDone_J56 (n : Nat) (v4 : Int32) (s0 : Nat) (s1 : Nat) (s2 : Int32) (h : Hp) : Option (Int32 × Hp) :=
  (f_X1_isFarEnough n s0 s1 s2 v4 h).bind fun x58 =>
  if x58.1 = 0 then
    zr 0 x58.2
  else
    zr 1 x58.2
def f_X7_mayBeDone (n : Nat) (v0 : Nat) (v1 : Int32) (v2 : Int32) (v3 : Int32) (v4 : Int32) (h : Hp) : Option (Int32 × Hp) :=
  (ck 7 v0 h).bind fun _ =>
  (gR 7 10 v0 h).bind fun x1 =>
  (gR 7 2 v0 h).bind fun x5 =>
  (gR 7 6 v0 h).bind fun x9 =>
  (f_X1_see n x1 x5 x9 h).bind fun x12 =>
  (gR 7 2 v0 x12).bind fun x16 =>
  (f_X2_stepAt n x16 v1 v2 x12).bind fun x21 =>
  (gR 7 10 v0 x21.2).bind fun x27 =>
  (f_X1_isOfItsKinds n x27 x21.1 v4 x21.2).bind fun x34 =>
  if x34.1 = 0 then
    zr 0 x34.2
  else
    (gR 7 10 v0 x34.2).bind fun x41 =>
    if v2 = 0 then
      f_X7_mayBeDone_J56 n v4 x41 x21.1 (-9) x34.2
    else
      f_X7_mayBeDone_J56 n v4 x41 x21.1 v3 x34.2
def f_X7_may_J37 (n : Nat) (v0 : Nat) (v1 : Int32) (v2 : Int32) (v3 : Int32) (v4 : Int32) (h : Hp) : Option (Int32 × Hp) :=
  (f_X7_mayBeDone n v0 v1 v2 v3 v4 h).bind fun x43 =>
  if x43.1 = 0 then
    some (0, x43.2)
  else
    some (1, x43.2)
def f_X7_may (n : Nat) (v0 : Nat) (v1 : Int32) (v2 : Int32) (v3 : Int32) (v4 : Int32) (h : Hp) : Option (Int32 × Hp) :=
  (ck 7 v0 h).bind fun _ =>
  (gR 7 2 v0 h).bind fun x1 =>
  (f_X2_hasStep n x1 v1 v2 h).bind fun x6 =>
  if x6.1 = 0 then
    some ((-1), x6.2)
  else
    (f_X7_isDay n v0 v4 x6.2).bind fun x15 =>
    if x15.1 = 0 then
      some ((-1), x15.2)
    else
      if v3 = (-9) then
        f_X7_may_J37 n v0 v1 v2 v3 v4 x15.2
      else
        (f_X7_isDay n v0 v3 x15.2).bind fun x29 =>
        if x29.1 = 0 then
          some ((-1), x29.2)
        else
          f_X7_may_J37 n v0 v1 v2 v3 v4 x29.2
def f_X7_isBill (n : Nat) (v0 : Int32) (h : Hp) : Option (Int32 × Hp) :=
  if v0 < 0 then
    zr 0 h
  else
    if 2 ≤ v0 then
      zr 0 h
    else
      zr 1 h
def f_X7_person (n : Nat) (v0 : Nat) (v1 : Int32) (v2 : Int32) (h : Hp) : Option (Int32 × Hp) :=
  (ck 7 v0 h).bind fun _ =>
  if v1 < 0 then
    some ((-1), h)
  else
    if 2 < v1 then
      some ((-1), h)
    else
      if v2 < 0 then
        some ((-1), h)
      else
        if v2 ≤ 3 then
          (gR 7 5 v0 h).bind fun x21 =>
          (f_X5_hasRoom n x21 v1 v2 h).bind fun x26 =>
          if x26.1 = 0 then
            some ((-3), x26.2)
          else
            (gR 7 5 v0 x26.2).bind fun x36 =>
            (f_X5_add n x36 v1 v2 x26.2).bind fun x41 =>
            (gR 7 6 v0 x41.2).bind fun x46 =>
            (gR 0 12 x46 x41.2).bind fun x49 =>
            (f_X7_put n x49 x41.1 v2 x41.2).bind fun x54 =>
            some (x41.1, x54)
        else
          some ((-1), h)
def f_X7_who (n : Nat) (v0 : Nat) (v1 : Int32) (v2 : Int32) (h : Hp) : Option (Int32 × Hp) :=
  (ck 7 v0 h).bind fun _ =>
  (gR 7 5 v0 h).bind fun x1 =>
  (f_X5_has n x1 v1 h).bind fun x5 =>
  if x5.1 = 0 then
    some ((-1), x5.2)
  else
    if v2 < 0 then
      some ((-1), x5.2)
    else
      if v2 ≤ 2 then
        if v2 = 0 then
          (gR 7 5 v0 x5.2).bind fun x49 =>
          (f_X5_officeOf n x49 v1 x5.2).bind fun x53 =>
          some (x53.1, x53.2)
        else if v2 = 1 then
          (gR 7 5 v0 x5.2).bind fun x58 =>
          (f_X5_timesOf n x58 v1 x5.2).bind fun x62 =>
          some (x62.1, x62.2)
        else 
          (gR 7 6 v0 x5.2).bind fun x67 =>
          (gR 0 12 x67 x5.2).bind fun x70 =>
          (f_X7_at n x70 v1 x5.2).bind fun x74 =>
          some (x74.1, x74.2)
      else
        some ((-1), x5.2)
def f_X7_canBeOf (n : Nat) (v0 : Nat) (v1 : Int32) (v2 : Int32) (h : Hp) : Option (Int32 × Hp) :=
  (ck 7 v0 h).bind fun _ =>
  if v1 = 0 then
    (f_X7_isBill n v2 h).bind fun x5 =>
    zr x5.1 x5.2
  else
    if v1 = 3 then
      (f_X7_isDay n v0 v2 h).bind fun x16 =>
      zr x16.1 x16.2
    else
      if v2 = 0 then
        zr 1 h
      else
        zr 0 h
def f_X7_callOf (n : Nat) (v0 : Nat) (v1 : Int32) (h : Hp) : Option (Int32 × Hp) :=
  (ck 7 v0 h).bind fun _ =>
  (gR 7 6 v0 h).bind fun x1 =>
  (f_X0_doneOf n x1 v1 h).bind fun x5 =>
  (gR 7 6 v0 x5.2).bind fun x10 =>
  (f_X0_lastOf n x10 v1 x5.2).bind fun x14 =>
  (gR 7 2 v0 x14.2).bind fun x19 =>
  (f_X2_hasStep n x19 v1 x5.1 x14.2).bind fun x24 =>
  if x24.1 = 0 then
    zr 0 x24.2
  else
    (gR 7 6 v0 x24.2).bind fun x31 =>
    (gI 0 4 x31 x24.2).bind fun x34 =>
    if x34 = 0 then
      (gR 7 6 v0 x24.2).bind fun x45 =>
      (gI 0 0 x45 x24.2).bind fun x48 =>
      (f_X7_mayBeDone n v0 v1 x5.1 x14.1 x48 x24.2).bind fun x51 =>
      if x51.1 = 0 then
        zr 0 x51.2
      else
        (gR 7 6 v0 x51.2).bind fun x60 =>
        (pZ 0 6 x60 1 x51.2).bind fun h64 =>
        (gR 7 6 v0 h64).bind fun x68 =>
        (pI 0 9 x68 v1 h64).bind fun h72 =>
        (gR 7 6 v0 h72).bind fun x76 =>
        (pI 0 10 x76 x14.1 h72).bind fun h80 =>
        (gR 7 6 v0 h80).bind fun x84 =>
        (gR 7 6 v0 h80).bind fun x92 =>
        (gI 0 0 x92 h80).bind fun x95 =>
        (f_X0_setRun n x84 v1 (x5.1 + 1) x95 h80).bind fun x98 =>
        zr 1 x98
    else
      zr 0 x24.2
def f_X7_forbidBy (n : Nat) (v0 : Nat) (v1 : Int32) (h : Hp) : Option (Int32 × Hp) :=
  (ck 7 v0 h).bind fun _ =>
  (gR 7 6 v0 h).bind fun x1 =>
  (gI 0 8 x1 h).bind fun x4 =>
  if x4 = 0 then
    (gR 7 6 v0 h).bind fun x11 =>
    (gR 0 12 x11 h).bind fun x14 =>
    (f_X7_at n x14 v1 h).bind fun x18 =>
    if 0 < x18.1 then
      (gR 7 6 v0 x18.2).bind fun x27 =>
      (gI 0 9 x27 x18.2).bind fun x30 =>
      (gR 7 6 v0 x18.2).bind fun x35 =>
      (f_X0_doneOf n x35 x30 x18.2).bind fun x39 =>
      (gR 7 2 v0 x39.2).bind fun x46 =>
      (f_X2_stepAt n x46 x30 (x39.1 - 1) x39.2).bind fun x51 =>
      (gI 6 4 x51.1 x51.2).bind fun x54 =>
      (gR 7 5 v0 x51.2).bind fun x58 =>
      (f_X5_officeOf n x58 v1 x51.2).bind fun x62 =>
      if (x54 &&& x62.1) = 0 then
        zr 0 x62.2
      else
        (gR 7 6 v0 x62.2).bind fun x72 =>
        (gR 7 6 v0 x62.2).bind fun x78 =>
        (gI 0 10 x78 x62.2).bind fun x81 =>
        (f_X0_setRun n x72 x30 (x39.1 - 1) x81 x62.2).bind fun x84 =>
        (gR 7 6 v0 x84).bind fun x88 =>
        (f_X0_useOne n x88 v1 x84).bind fun x92 =>
        zr 1 x92
    else
      zr 0 x18.2
  else
    zr 0 h
def f_X7_hasSignLeft (n : Nat) (v0 : Nat) (v1 : Int32) (h : Hp) : Option (Int32 × Hp) :=
  (ck 7 v0 h).bind fun _ =>
  (gR 7 5 v0 h).bind fun x1 =>
  (f_X5_officeOf n x1 v1 h).bind fun x5 =>
  if x5.1 = 2 then
    (gR 7 6 v0 x5.2).bind fun x13 =>
    (gR 0 12 x13 x5.2).bind fun x16 =>
    (f_X7_at n x16 v1 x5.2).bind fun x20 =>
    if x20.1 ≤ 0 then
      zr 0 x20.2
    else
      zr 1 x20.2
  else
    zr 0 x5.2
def f_X7_watchBy (n : Nat) (v0 : Nat) (v1 : Int32) (h : Hp) : Option (Int32 × Hp) :=
  (ck 7 v0 h).bind fun _ =>
  (f_X7_hasSignLeft n v0 v1 h).bind fun x2 =>
  if x2.1 = 0 then
    zr 0 x2.2
  else
    (gR 7 6 v0 x2.2).bind fun x9 =>
    (gI 0 6 x9 x2.2).bind fun x12 =>
    if x12 = 0 then
      (gR 7 6 v0 x2.2).bind fun x19 =>
      (gI 0 4 x19 x2.2).bind fun x22 =>
      if x22 = 0 then
        (gR 7 6 v0 x2.2).bind fun x31 =>
        (pZ 0 4 x31 1 x2.2).bind fun h35 =>
        (gR 7 6 v0 h35).bind fun x39 =>
        (f_X0_useOne n x39 v1 h35).bind fun x43 =>
        zr 1 x43
      else
        zr 0 x2.2
    else
      zr 0 x2.2
def f_X7_makeHolyBy (n : Nat) (v0 : Nat) (v1 : Int32) (v2 : Int32) (h : Hp) : Option (Int32 × Hp) :=
  (ck 7 v0 h).bind fun _ =>
  (f_X7_hasSignLeft n v0 v1 h).bind fun x2 =>
  if x2.1 = 0 then
    zr 0 x2.2
  else
    (gR 7 6 v0 x2.2).bind fun x10 =>
    (gI 0 0 x10 x2.2).bind fun x13 =>
    if v2 ≤ x13 then
      zr 0 x2.2
    else
      (f_X7_kindNow n v0 v2 x2.2).bind fun x21 =>
      if x21.1 = 2 then
        zr 0 x21.2
      else
        (gR 7 6 v0 x21.2).bind fun x31 =>
        (f_X0_makeHoly n x31 v2 x21.2).bind fun x35 =>
        (gR 7 6 v0 x35).bind fun x39 =>
        (f_X0_useOne n x39 v1 x35).bind fun x43 =>
        zr 1 x43
def f_X7_forceOn (n : Nat) (v0 : Nat) (h : Hp) : Option (Int32 × Hp) :=
  (ck 7 v0 h).bind fun _ =>
  (gR 7 6 v0 h).bind fun x1 =>
  (gI 0 8 x1 h).bind fun x4 =>
  if x4 = 1 then
    (gR 7 6 v0 h).bind fun x14 =>
    (gI 0 9 x14 h).bind fun x17 =>
    (gR 7 6 v0 h).bind fun x22 =>
    (gR 7 6 v0 h).bind fun x27 =>
    (f_X0_doneOf n x27 x17 h).bind fun x31 =>
    (gR 7 6 v0 x31.2).bind fun x37 =>
    (gI 0 0 x37 x31.2).bind fun x40 =>
    (f_X0_setRun n x22 x17 (x31.1 + 1) x40 x31.2).bind fun x43 =>
    (gR 7 6 v0 x43).bind fun x47 =>
    (gI 0 7 x47 x43).bind fun x51 =>
    (pI 0 7 x47 (x51 ||| (1 <<< (x17 &&& 31))) x43).bind fun h58 =>
    zr 1 h58
  else
    zr 0 h
def f_X7_fallBackIfLate (n : Nat) (v0 : Nat) (v1 : Int32) (h : Hp) : Option Hp :=
  (ck 7 v0 h).bind fun _ =>
  (gR 7 6 v0 h).bind fun x1 =>
  (f_X0_doneOf n x1 v1 h).bind fun x5 =>
  if x5.1 = 0 then
    some x5.2
  else
    (gR 7 2 v0 x5.2).bind fun x14 =>
    (f_X2_hasStep n x14 v1 x5.1 x5.2).bind fun x19 =>
    if x19.1 = 0 then
      some x19.2
    else
      (gR 7 2 v0 x19.2).bind fun x27 =>
      (f_X2_stepAt n x27 v1 x5.1 x19.2).bind fun x32 =>
      (gI 6 3 x32.1 x32.2).bind fun x35 =>
      if x35 = (-9) then
        some x32.2
      else
        (gR 7 6 v0 x32.2).bind fun x46 =>
        (gI 0 0 x46 x32.2).bind fun x49 =>
        (gR 7 6 v0 x32.2).bind fun x53 =>
        (f_X0_lastOf n x53 v1 x32.2).bind fun x57 =>
        if (x49 - x57.1) ≤ x35 then
          some x57.2
        else
          (gR 7 6 v0 x57.2).bind fun x66 =>
          (f_X0_setRun n x66 v1 0 (-9) x57.2).bind fun x73 =>
          some x73
def f_X7_waitOn_L52 : Nat → Nat → Int32 → Hp → Option (Int32 × Hp)
  | 0, _, _, _ => none
  | n + 1, v0, v1, h =>
    if 2 ≤ v1 then
      zr 1 h
    else
      (f_X7_fallBackIfLate n v0 v1 h).bind fun x59 =>
      f_X7_waitOn_L52 n v0 (v1 + 1) x59
def f_X7_waitOn (n : Nat) (v0 : Nat) (h : Hp) : Option (Int32 × Hp) :=
  (ck 7 v0 h).bind fun _ =>
  (gR 7 6 v0 h).bind fun x1 =>
  (gI 0 0 x1 h).bind fun x4 =>
  (gR 7 2 v0 h).bind fun x10 =>
  (gI 2 0 x10 h).bind fun x13 =>
  if (x4 + 1) < x13 then
    (gR 7 6 v0 h).bind fun x22 =>
    (gI 0 0 x22 h).bind fun x26 =>
    (pI 0 0 x22 (x26 + 1) h).bind fun h31 =>
    (gR 7 6 v0 h31).bind fun x35 =>
    (pZ 0 4 x35 0 h31).bind fun h39 =>
    (gR 7 6 v0 h39).bind fun x43 =>
    (pZ 0 6 x43 0 h39).bind fun h47 =>
    f_X7_waitOn_L52 n v0 0 h47
  else
    zr 0 h
def f_X7_isDoneLawfully (n : Nat) (v0 : Nat) (v1 : Int32) (v2 : Int32) (v3 : Int32) (h : Hp) : Option (Int32 × Hp) :=
  (ck 7 v0 h).bind fun _ =>
  if v1 = 0 then
    (f_X7_callOf n v0 v3 h).bind fun x38 =>
    zr x38.1 x38.2
  else if v1 = 1 then
    (f_X7_forbidBy n v0 v2 h).bind fun x44 =>
    zr x44.1 x44.2
  else if v1 = 2 then
    (f_X7_watchBy n v0 v2 h).bind fun x50 =>
    zr x50.1 x50.2
  else if v1 = 3 then
    (f_X7_makeHolyBy n v0 v2 v3 h).bind fun x57 =>
    zr x57.1 x57.2
  else if v1 = 4 then
    (f_X7_forceOn n v0 h).bind fun x62 =>
    zr x62.1 x62.2
  else 
    (f_X7_waitOn n v0 h).bind fun x67 =>
    zr x67.1 x67.2
def f_X7_act_J67 (n : Nat) (v0 : Nat) (v4 : Int32) (s0 : Nat) (s1 : Int32) (h : Hp) : Option (Int32 × Hp) :=
  (pI 0 8 s0 s1 h).bind fun h67 =>
  (gR 7 6 v0 h67).bind fun x71 =>
  (gI 0 1 x71 h67).bind fun x75 =>
  (pI 0 1 x71 (x75 + 1) h67).bind fun h80 =>
  if v4 = 0 then
    some (0, h80)
  else
    some (1, h80)
def f_X7_act_J52 (n : Nat) (v0 : Nat) (v1 : Int32) (v4 : Int32) (h : Hp) : Option (Int32 × Hp) :=
  (gR 7 6 v0 h).bind fun x53 =>
  if v4 = 0 then
    f_X7_act_J67 n v0 v4 x53 (-9) h
  else
    f_X7_act_J67 n v0 v4 x53 v1 h
def f_X7_act (n : Nat) (v0 : Nat) (v1 : Int32) (v2 : Int32) (v3 : Int32) (h : Hp) : Option (Int32 × Hp) :=
  (ck 7 v0 h).bind fun _ =>
  if v1 < 0 then
    some ((-1), h)
  else
    if 5 < v1 then
      some ((-1), h)
    else
      (gR 7 5 v0 h).bind fun x10 =>
      (f_X5_has n x10 v2 h).bind fun x14 =>
      if x14.1 = 0 then
        some ((-1), x14.2)
      else
        (f_X7_canBeOf n v0 v1 v3 x14.2).bind fun x23 =>
        if x23.1 = 0 then
          some ((-1), x23.2)
        else
          (f_X7_isDoneLawfully n v0 v1 v2 v3 x23.2).bind fun x35 =>
          if x35.1 = 0 then
            (gR 7 6 v0 x35.2).bind fun x46 =>
            (f_X0_slip n x46 x35.2).bind fun x49 =>
            f_X7_act_J52 n v0 v1 x35.1 x49
          else
            f_X7_act_J52 n v0 v1 x35.1 x35.2
def f_X7_isVoid (n : Nat) (v0 : Nat) (v1 : Int32) (h : Hp) : Option (Int32 × Hp) :=
  (ck 7 v0 h).bind fun _ =>
  (gR 7 6 v0 h).bind fun x1 =>
  (gI 0 7 x1 h).bind fun x4 =>
  if ((x4 >>> (v1 &&& 31)) &&& 1) = 1 then
    zr 1 h
  else
    zr 0 h
def f_X7_isCarried (n : Nat) (v0 : Nat) (v1 : Int32) (h : Hp) : Option (Int32 × Hp) :=
  (ck 7 v0 h).bind fun _ =>
  (gR 7 2 v0 h).bind fun x1 =>
  (f_X2_stepsOf n x1 v1 h).bind fun x5 =>
  if x5.1 ≤ 0 then
    zr 0 x5.2
  else
    (gR 7 6 v0 x5.2).bind fun x14 =>
    (f_X0_doneOf n x14 v1 x5.2).bind fun x18 =>
    if x18.1 = x5.1 then
      (f_X7_isVoid n v0 v1 x18.2).bind fun x27 =>
      if x27.1 = 0 then
        zr 1 x27.2
      else
        zr 0 x27.2
    else
      zr 0 x18.2
def f_X7_carriedBills_J23 (n : Nat) (v0 : Nat) (v1 : Int32) (v2 : Int32) (h : Hp) (k4 : Nat → Int32 → Int32 → Hp → Option (Int32 × Hp)) : Option (Int32 × Hp) :=
  k4 v0 v1 (v2 + 1) h
def f_X7_carriedBills_L4 : Nat → Nat → Int32 → Int32 → Hp → Option (Int32 × Hp)
  | 0, _, _, _, _ => none
  | n + 1, v0, v1, v2, h =>
    if 2 ≤ v2 then
      some (v1, h)
    else
      (f_X7_isCarried n v0 v2 h).bind fun x11 =>
      if x11.1 = 0 then
        f_X7_carriedBills_J23 n v0 v1 v2 x11.2 (fun a0 a1 a2 h => f_X7_carriedBills_L4 n a0 a1 a2 h)
      else
        f_X7_carriedBills_J23 n v0 (v1 ||| (1 <<< (v2 &&& 31))) v2 x11.2 (fun a0 a1 a2 h => f_X7_carriedBills_L4 n a0 a1 a2 h)
def f_X7_carriedBills (n : Nat) (v0 : Nat) (h : Hp) : Option (Int32 × Hp) :=
  (ck 7 v0 h).bind fun _ =>
  f_X7_carriedBills_L4 n v0 0 0 h
def f_X7_now (n : Nat) (v0 : Nat) (v1 : Int32) (h : Hp) : Option (Int32 × Hp) :=
  (ck 7 v0 h).bind fun _ =>
  if v1 = 0 then
    (gR 7 6 v0 h).bind fun x45 =>
    (gI 0 0 x45 h).bind fun x48 =>
    some (x48, h)
  else if v1 = 1 then
    (gR 7 6 v0 h).bind fun x53 =>
    (gI 0 1 x53 h).bind fun x56 =>
    some (x56, h)
  else if v1 = 2 then
    (gR 7 6 v0 h).bind fun x61 =>
    (gI 0 2 x61 h).bind fun x64 =>
    some (x64, h)
  else if v1 = 3 then
    (gR 7 6 v0 h).bind fun x69 =>
    (gI 0 3 x69 h).bind fun x72 =>
    some (x72, h)
  else if v1 = 4 then
    (gR 7 6 v0 h).bind fun x77 =>
    (gI 0 4 x77 h).bind fun x80 =>
    if x80 = 0 then
      some (0, h)
    else
      some (1, h)
  else if v1 = 5 then
    (f_X7_carriedBills n v0 h).bind fun x93 =>
    some (x93.1, x93.2)
  else if v1 = 6 then
    (gR 7 6 v0 h).bind fun x98 =>
    (gI 0 7 x98 h).bind fun x101 =>
    some (x101, h)
  else 
    some ((-1), h)
def f_X7_bill (n : Nat) (v0 : Nat) (v1 : Int32) (v2 : Int32) (h : Hp) : Option (Int32 × Hp) :=
  (ck 7 v0 h).bind fun _ =>
  (f_X7_isBill n v1 h).bind fun x1 =>
  if x1.1 = 0 then
    some ((-1), x1.2)
  else
    if v2 = 0 then
      (gR 7 2 v0 x1.2).bind fun x37 =>
      (f_X2_stepsOf n x37 v1 x1.2).bind fun x41 =>
      some (x41.1, x41.2)
    else if v2 = 1 then
      (gR 7 6 v0 x1.2).bind fun x46 =>
      (f_X0_doneOf n x46 v1 x1.2).bind fun x50 =>
      some (x50.1, x50.2)
    else if v2 = 2 then
      (gR 7 6 v0 x1.2).bind fun x55 =>
      (f_X0_lastOf n x55 v1 x1.2).bind fun x59 =>
      some (x59.1, x59.2)
    else 
      some ((-1), x1.2)
def f_X7_isOpen (n : Nat) (v0 : Nat) (v1 : Int32) (h : Hp) : Option (Int32 × Hp) :=
  (ck 7 v0 h).bind fun _ =>
  (gR 7 2 v0 h).bind fun x1 =>
  (f_X2_stepsOf n x1 v1 h).bind fun x5 =>
  if x5.1 ≤ 0 then
    zr 0 x5.2
  else
    (f_X7_isCarried n v0 v1 x5.2).bind fun x13 =>
    if x13.1 = 0 then
      (f_X7_isVoid n v0 v1 x13.2).bind fun x21 =>
      if x21.1 = 0 then
        zr 1 x21.2
      else
        zr 0 x21.2
    else
      zr 0 x13.2
def f_X7_soon (n : Nat) (v0 : Nat) (v1 : Int32) (v2 : Int32) (h : Hp) : Option (Int32 × Hp) :=
  (ck 7 v0 h).bind fun _ =>
  (f_X7_isBill n v1 h).bind fun x1 =>
  if x1.1 = 0 then
    some ((-1), x1.2)
  else
    if v2 < (-1) then
      some ((-1), x1.2)
    else
      (gR 7 2 v0 x1.2).bind fun x14 =>
      (f_X2_stepsOf n x14 v1 x1.2).bind fun x18 =>
      if v2 < x18.1 then
        (f_X7_isOpen n v0 v1 x18.2).bind fun x28 =>
        if x28.1 = 0 then
          some ((-2), x28.2)
        else
          (gR 7 10 v0 x28.2).bind fun x38 =>
          (gR 7 2 v0 x28.2).bind fun x42 =>
          (gR 7 6 v0 x28.2).bind fun x46 =>
          (f_X1_findSoonest n x38 x42 x46 v1 x28.2).bind fun x50 =>
          if v2 = (-1) then
            some (x50.1, x50.2)
          else
            if x50.1 = (-9) then
              some (x50.1, x50.2)
            else
              (gR 7 10 v0 x50.2).bind fun x69 =>
              (gI 1 1 x69 x50.2).bind fun x72 =>
              if x72 ≤ v2 then
                some ((-1), x50.2)
              else
                (gR 7 10 v0 x50.2).bind fun x79 =>
                (gR 1 0 x79 x50.2).bind fun x82 =>
                (f_X7_at n x82 v2 x50.2).bind fun x86 =>
                some (x86.1, x86.2)
      else
        some ((-1), x18.2)
def f_X7_against (n : Nat) (v0 : Nat) (v1 : Int32) (h : Hp) : Option (Int32 × Hp) :=
  (ck 7 v0 h).bind fun _ =>
  (f_X7_isBill n v1 h).bind fun x1 =>
  if x1.1 = 0 then
    some ((-1), x1.2)
  else
    (f_X7_isOpen n v0 v1 x1.2).bind fun x11 =>
    if x11.1 = 0 then
      some ((-2), x11.2)
    else
      (gR 7 10 v0 x11.2).bind fun x18 =>
      (gR 7 2 v0 x11.2).bind fun x22 =>
      (gR 7 6 v0 x11.2).bind fun x26 =>
      (f_X1_findFewestAgainst n x18 x22 x26 v1 x11.2).bind fun x30 =>
      some (x30.1, x30.2)
def f_X7_sure (n : Nat) (v0 : Nat) (v1 : Int32) (v2 : Int32) (v3 : Int32) (h : Hp) : Option (Int32 × Hp) :=
  (ck 7 v0 h).bind fun _ =>
  (f_X7_isBill n v1 h).bind fun x1 =>
  if x1.1 = 0 then
    some ((-1), x1.2)
  else
    if v2 < 0 then
      some ((-1), x1.2)
    else
      if 6 < v2 then
        some ((-1), x1.2)
      else
        if v3 < 0 then
          some ((-1), x1.2)
        else
          if v3 ≤ 6 then
            (f_X7_isOpen n v0 v1 x1.2).bind fun x31 =>
            if x31.1 = 0 then
              some ((-2), x31.2)
            else
              (gR 7 10 v0 x31.2).bind fun x38 =>
              (gR 7 2 v0 x31.2).bind fun x42 =>
              (gR 7 6 v0 x31.2).bind fun x46 =>
              (f_X1_findSoonest n x38 x42 x46 v1 x31.2).bind fun x50 =>
              some (x50.1, x50.2)
          else
            some ((-1), x1.2)
def f_X7_delay (n : Nat) (v0 : Nat) (v1 : Int32) (v2 : Int32) (h : Hp) : Option (Int32 × Hp) :=
  (ck 7 v0 h).bind fun _ =>
  (f_X7_isBill n v1 h).bind fun x1 =>
  if x1.1 = 0 then
    some ((-1), x1.2)
  else
    (gR 7 5 v0 x1.2).bind fun x8 =>
    (f_X5_has n x8 v2 x1.2).bind fun x12 =>
    if x12.1 = 0 then
      some ((-1), x12.2)
    else
      (f_X7_isOpen n v0 v1 x12.2).bind fun x22 =>
      if x22.1 = 0 then
        some ((-2), x22.2)
      else
        (gR 7 10 v0 x22.2).bind fun x29 =>
        (gR 7 2 v0 x22.2).bind fun x33 =>
        (gR 7 6 v0 x22.2).bind fun x37 =>
        (f_X1_findSoonest n x29 x33 x37 v1 x22.2).bind fun x41 =>
        if x41.1 = (-9) then
          some ((-2), x41.2)
        else
          some (0, x41.2)
def f_X7_stop (n : Nat) (v0 : Nat) (v1 : Int32) (v2 : Int32) (h : Hp) : Option (Int32 × Hp) :=
  (ck 7 v0 h).bind fun _ =>
  (f_X7_isBill n v1 h).bind fun x1 =>
  if x1.1 = 0 then
    some ((-1), x1.2)
  else
    if v2 < 0 then
      some ((-1), x1.2)
    else
      if v2 ≤ 1 then
        (f_X7_isOpen n v0 v1 x1.2).bind fun x20 =>
        if x20.1 = 0 then
          some ((-2), x20.2)
        else
          (gR 7 10 v0 x20.2).bind fun x30 =>
          (gR 7 2 v0 x20.2).bind fun x34 =>
          (gR 7 6 v0 x20.2).bind fun x38 =>
          (f_X1_findSoonest n x30 x34 x38 v1 x20.2).bind fun x42 =>
          if x42.1 = (-9) then
            some (0, x42.2)
          else
            some ((-9), x42.2)
      else
        some ((-1), x1.2)
def f_X7_group (n : Nat) (v0 : Nat) (h : Hp) : Option (Int32 × Hp) :=
  (ck 7 v0 h).bind fun _ =>
  (gR 7 11 v0 h).bind fun x1 =>
  (f_X4_addGroup n x1 h).bind fun x4 =>
  some (x4.1, x4.2)
def f_X7_isMatter (n : Nat) (v0 : Int32) (h : Hp) : Option (Int32 × Hp) :=
  if v0 < 0 then
    zr 0 h
  else
    if 6 ≤ v0 then
      zr 0 h
    else
      zr 1 h
def f_X7_wish (n : Nat) (v0 : Nat) (v1 : Int32) (v2 : Int32) (v3 : Int32) (h : Hp) : Option (Int32 × Hp) :=
  (ck 7 v0 h).bind fun _ =>
  (gR 7 11 v0 h).bind fun x1 =>
  (f_X4_hasGroup n x1 v1 h).bind fun x5 =>
  if x5.1 = 0 then
    some ((-100), x5.2)
  else
    (f_X7_isMatter n v2 x5.2).bind fun x12 =>
    if x12.1 = 0 then
      some ((-100), x12.2)
    else
      if v3 < (-9) then
        some ((-100), x12.2)
      else
        if v3 ≤ 9 then
          (gR 7 11 v0 x12.2).bind fun x34 =>
          (f_X4_setWish n x34 v1 v2 v3 x12.2).bind fun x40 =>
          some (x40.1, x40.2)
        else
          some ((-100), x12.2)
def f_X7_isSet (n : Nat) (v0 : Int32) (h : Hp) : Option (Int32 × Hp) :=
  if v0 < 1 then
    zr 0 h
  else
    if 64 ≤ v0 then
      zr 0 h
    else
      zr 1 h
def f_X7_passes (n : Nat) (v0 : Nat) (v1 : Int32) (h : Hp) : Option (Int32 × Hp) :=
  (ck 7 v0 h).bind fun _ =>
  (f_X7_isSet n v1 h).bind fun x1 =>
  if x1.1 = 0 then
    some ((-1), x1.2)
  else
    (gR 7 11 v0 x1.2).bind fun x10 =>
    (f_X4_doPass n x10 v1 x1.2).bind fun x14 =>
    if x14.1 = 0 then
      some (0, x14.2)
    else
      some (1, x14.2)
def f_X7_ride (n : Nat) (v0 : Nat) (v1 : Int32) (v2 : Int32) (h : Hp) : Option (Int32 × Hp) :=
  (ck 7 v0 h).bind fun _ =>
  (f_X7_isMatter n v1 h).bind fun x1 =>
  if x1.1 = 0 then
    some ((-1), x1.2)
  else
    if v2 < 0 then
      some ((-1), x1.2)
    else
      if v2 ≤ 1 then
        (gR 7 11 v0 x1.2).bind fun x19 =>
        (f_X4_fewestToRideWith n x19 (1 <<< (v1 &&& 31)) x1.2).bind fun x25 =>
        if x25.1 = (-9) then
          some (x25.1, x25.2)
        else
          if v2 = 1 then
            some (x25.1, x25.2)
          else
            (f_J6_bitCount_0f7a4 n x25.1 x25.2).bind fun x43 =>
            some (x43.1, x43.2)
      else
        some ((-1), x1.2)
def f_X7_tears (n : Nat) (v0 : Nat) (v1 : Int32) (h : Hp) : Option (Int32 × Hp) :=
  (ck 7 v0 h).bind fun _ =>
  (f_X7_isSet n v1 h).bind fun x1 =>
  if x1.1 = 0 then
    some ((-1), x1.2)
  else
    (gR 7 11 v0 x1.2).bind fun x8 =>
    (f_X4_tearsOf n x8 v1 x1.2).bind fun x12 =>
    some (x12.1, x12.2)
def f_X7_isWord_J29 (n : Nat) (v0 : Int32) (v1 : Int32) (v2 : Int32) (h : Hp) (k34 : Int32 → Int32 → Int32 → Int32 → Hp → Option (Int32 × Hp)) : Option (Int32 × Hp) :=
  k34 v0 v1 v2 1 h
def f_X7_isWord_J57 (n : Nat) (v1 : Int32) (v2 : Int32) (v4 : Int32) (s0 : Int32) (h : Hp) : Option (Int32 × Hp) :=
  if v4 < v1 then
    zr 0 h
  else
    if s0 < v2 then
      zr 0 h
    else
      zr 1 h
def f_X7_isWord_J44 (n : Nat) (v0 : Int32) (v1 : Int32) (v2 : Int32) (s0 : Int32) (h : Hp) : Option (Int32 × Hp) :=
  if v0 = 3 then
    f_X7_isWord_J57 n v1 v2 s0 3 h
  else
    f_X7_isWord_J57 n v1 v2 s0 59 h
def f_X7_isWord_J34 (n : Nat) (v0 : Int32) (v1 : Int32) (v2 : Int32) (s0 : Int32) (h : Hp) : Option (Int32 × Hp) :=
  if s0 = 0 then
    f_X7_isWord_J44 n v0 v1 v2 1 h
  else
    f_X7_isWord_J44 n v0 v1 v2 3 h
def f_X7_isWord (n : Nat) (v0 : Int32) (v1 : Int32) (v2 : Int32) (h : Hp) : Option (Int32 × Hp) :=
  if v0 < 0 then
    zr 0 h
  else
    if 3 < v0 then
      zr 0 h
    else
      if v1 < 0 then
        zr 0 h
      else
        if 0 ≤ v2 then
          if v0 = 2 then
            f_X7_isWord_J29 n v0 v1 v2 h (fun a0 a1 a2 b0 h => f_X7_isWord_J34 n a0 a1 a2 b0 h)
          else
            if v0 = 3 then
              f_X7_isWord_J29 n v0 v1 v2 h (fun a0 a1 a2 b0 h => f_X7_isWord_J34 n a0 a1 a2 b0 h)
            else
              f_X7_isWord_J34 n v0 v1 v2 0 h
        else
          zr 0 h
def f_X7_word (n : Nat) (v0 : Nat) (v1 : Int32) (v2 : Int32) (v3 : Int32) (v4 : Int32) (h : Hp) : Option (Int32 × Hp) :=
  (ck 7 v0 h).bind fun _ =>
  if v1 < 0 then
    some ((-1), h)
  else
    if 5 ≤ v1 then
      some ((-1), h)
    else
      (f_X7_isWord n v2 v3 v4 h).bind fun x13 =>
      if x13.1 = 0 then
        some ((-1), x13.2)
      else
        (gR 7 12 v0 x13.2).bind fun x22 =>
        (f_X7_at n x22 v1 x13.2).bind fun x26 =>
        (gR 7 12 v0 x26.2).bind fun x32 =>
        (f_X7_put n x32 v1 v2 x26.2).bind fun x37 =>
        (gR 7 13 v0 x37).bind fun x41 =>
        (f_X7_put n x41 v1 v3 x37).bind fun x46 =>
        (gR 7 14 v0 x46).bind fun x50 =>
        (f_X7_put n x50 v1 v4 x46).bind fun x56 =>
        some (x26.1, x56)
def f_J9_max_7cf53 (n : Nat) (v0 : Int32) (v1 : Int32) (h : Hp) : Option (Int32 × Hp) :=
  if v0 < v1 then
    some (v1, h)
  else
    some (v0, h)
def f_X7_rewriteStep (n : Nat) (v0 : Nat) (v1 : Int32) (v2 : Int32) (h : Hp) : Option Hp :=
  if v1 = 2 then
    (gI 6 1 v0 h).bind fun x8 =>
    (f_J9_max_7cf53 n 0 (x8 - v2) h).bind fun x13 =>
    (pI 6 1 v0 x13.1 x13.2).bind fun h16 =>
    some h16
  else
    if v1 = 3 then
      (gI 6 0 v0 h).bind fun x29 =>
      (pI 6 0 v0 (x29 ||| (1 <<< (v2 &&& 31))) h).bind fun h36 =>
      some h36
    else
      some h
def f_X7_rewriteDraft_J56 (n : Nat) (v0 : Nat) (v1 : Int32) (v2 : Int32) (h : Hp) (k2 : Nat → Int32 → Int32 → Hp → Option Hp) : Option Hp :=
  k2 v0 v1 (v2 + 1) h
def f_X7_rewriteDraft_L2 : Nat → Nat → Int32 → Int32 → Hp → Option Hp
  | 0, _, _, _, _ => none
  | n + 1, v0, v1, v2, h =>
    if 2 ≤ v2 then
      some h
    else
      (gR 7 13 v0 h).bind fun x8 =>
      (f_X7_at n x8 v1 h).bind fun x12 =>
      (gR 7 3 v0 x12.2).bind fun x17 =>
      (f_X2_hasStep n x17 v2 x12.1 x12.2).bind fun x22 =>
      if x22.1 = 0 then
        f_X7_rewriteDraft_J56 n v0 v1 v2 x22.2 (fun a0 a1 a2 h => f_X7_rewriteDraft_L2 n a0 a1 a2 h)
      else
        (gR 7 3 v0 x22.2).bind fun x29 =>
        (f_X2_stepAt n x29 v2 x12.1 x22.2).bind fun x34 =>
        (gR 7 12 v0 x34.2).bind fun x38 =>
        (f_X7_at n x38 v1 x34.2).bind fun x42 =>
        (gR 7 14 v0 x42.2).bind fun x46 =>
        (f_X7_at n x46 v1 x42.2).bind fun x50 =>
        (f_X7_rewriteStep n x34.1 x42.1 x50.1 x50.2).bind fun x53 =>
        f_X7_rewriteDraft_J56 n v0 v1 v2 x53 (fun a0 a1 a2 h => f_X7_rewriteDraft_L2 n a0 a1 a2 h)
def f_X7_rewriteDraft (n : Nat) (v0 : Nat) (v1 : Int32) (h : Hp) : Option Hp :=
  (ck 7 v0 h).bind fun _ =>
  f_X7_rewriteDraft_L2 n v0 v1 0 h
def f_X7_doMend_J32 (n : Nat) (v0 : Nat) (v1 : Int32) (v2 : Int32) (h : Hp) (k13 : Nat → Int32 → Int32 → Hp → Option (Int32 × Hp)) : Option (Int32 × Hp) :=
  k13 v0 v1 (v2 + 1) h
def f_X7_doMend_L13 : Nat → Nat → Int32 → Int32 → Hp → (Nat → Hp → Option (Int32 × Hp)) → Option (Int32 × Hp)
  | 0, _, _, _, _, _ => none
  | n + 1, v0, v1, v2, h, k38 =>
    if 5 ≤ v2 then
      k38 v0 h
    else
      if ((v1 >>> (v2 &&& 31)) &&& 1) = 1 then
        (f_X7_rewriteDraft n v0 v2 h).bind fun x29 =>
        f_X7_doMend_J32 n v0 v1 v2 x29 (fun a0 a1 a2 h => f_X7_doMend_L13 n a0 a1 a2 h k38)
      else
        f_X7_doMend_J32 n v0 v1 v2 h (fun a0 a1 a2 h => f_X7_doMend_L13 n a0 a1 a2 h k38)
def f_X7_doMend_J38 (n : Nat) (v0 : Nat) (h : Hp) : Option (Int32 × Hp) :=
  (gR 7 10 v0 h).bind fun x39 =>
  (gR 7 3 v0 h).bind fun x43 =>
  (gR 7 7 v0 h).bind fun x47 =>
  (f_X1_isSure n x39 x43 x47 0 h).bind fun x51 =>
  if x51.1 = 0 then
    zr 0 x51.2
  else
    (gR 7 10 v0 x51.2).bind fun x58 =>
    (gR 7 3 v0 x51.2).bind fun x62 =>
    (gR 7 7 v0 x51.2).bind fun x66 =>
    (f_X1_isSure n x58 x62 x66 1 x51.2).bind fun x70 =>
    if x70.1 = 0 then
      zr 1 x70.2
    else
      zr 0 x70.2
def f_X7_doMend (n : Nat) (v0 : Nat) (v1 : Int32) (h : Hp) : Option (Int32 × Hp) :=
  (ck 7 v0 h).bind fun _ =>
  (gR 7 3 v0 h).bind fun x1 =>
  (gR 7 2 v0 h).bind fun x5 =>
  (f_X2_copy n x1 x5 h).bind fun x8 =>
  f_X7_doMend_L13 n v0 v1 0 x8 (fun a0 h => f_X7_doMend_J38 n a0 h)
def f_X7_mended_J58 (n : Nat) (v0 : Nat) (v1 : Int32) (v2 : Int32) (v3 : Int32) (v4 : Int32) (v5 : Int32) (h : Hp) (k28 : Nat → Int32 → Int32 → Int32 → Int32 → Int32 → Hp → Option (Int32 × Hp)) : Option (Int32 × Hp) :=
  k28 v0 v1 v2 v3 v4 (v5 + (-1)) h
def f_X7_mended_L28 : Nat → Nat → Int32 → Int32 → Int32 → Int32 → Int32 → Hp → (Nat → Int32 → Int32 → Int32 → Int32 → Hp → Option (Int32 × Hp)) → Option (Int32 × Hp)
  | 0, _, _, _, _, _, _, _, _ => none
  | n + 1, v0, v1, v2, v3, v4, v5, h, k64 =>
    if v5 < 0 then
      k64 v0 v1 v2 v3 v4 h
    else
      (f_J6_bitCount_0f7a4 n v5 h).bind fun x35 =>
      if x35.1 = v2 then
        (f_X7_doMend n v0 v5 x35.2).bind fun x45 =>
        if x45.1 = 0 then
          f_X7_mended_J58 n v0 v1 v2 v3 v4 v5 x45.2 (fun a0 a1 a2 a3 a4 a5 h => f_X7_mended_L28 n a0 a1 a2 a3 a4 a5 h k64)
        else
          f_X7_mended_J58 n v0 v1 v2 (v3 + 1) v5 v5 x45.2 (fun a0 a1 a2 a3 a4 a5 h => f_X7_mended_L28 n a0 a1 a2 a3 a4 a5 h k64)
      else
        f_X7_mended_J58 n v0 v1 v2 v3 v4 v5 x35.2 (fun a0 a1 a2 a3 a4 a5 h => f_X7_mended_L28 n a0 a1 a2 a3 a4 a5 h k64)
def f_X7_mended_J64 (n : Nat) (v0 : Nat) (v1 : Int32) (v2 : Int32) (v3 : Int32) (v4 : Int32) (h : Hp) (k13 : Nat → Int32 → Int32 → Hp → Option (Int32 × Hp)) : Option (Int32 × Hp) :=
  if v3 ≤ 0 then
    k13 v0 v1 (v2 + 1) h
  else
    if v1 = 0 then
      some (v2, h)
    else
      if v1 = 1 then
        some (v4, h)
      else
        some (v3, h)
def f_X7_mended_L13 : Nat → Nat → Int32 → Int32 → Hp → Option (Int32 × Hp)
  | 0, _, _, _, _ => none
  | n + 1, v0, v1, v2, h =>
    if 5 < v2 then
      some ((-9), h)
    else
      f_X7_mended_L28 n v0 v1 v2 0 (-9) 31 h (fun a0 a1 a2 a3 a4 h => f_X7_mended_J64 n a0 a1 a2 a3 a4 h (fun a0 a1 a2 h => f_X7_mended_L13 n a0 a1 a2 h))
def f_X7_mended (n : Nat) (v0 : Nat) (v1 : Int32) (h : Hp) : Option (Int32 × Hp) :=
  (ck 7 v0 h).bind fun _ =>
  if v1 < 0 then
    some ((-1), h)
  else
    if v1 ≤ 2 then
      f_X7_mended_L13 n v0 v1 0 h
    else
      some ((-1), h)
def f_X7_priceOfAct (n : Nat) (v0 : Nat) (v1 : Int32) (h : Hp) : Option (Int32 × Hp) :=
  (ck 7 v0 h).bind fun _ =>
  (gL 7 15 v0 h).bind fun x2 =>
  (pL 7 15 v0 (x2 + 1) h).bind fun h7 =>
  (f_X7_kindNow n v0 v1 h7).bind fun x12 =>
  some ((x12.1 + 1), x12.2)
def f_X7_priceOfStep_L26 : Nat → Nat → Int32 → Int32 → Int32 → Int32 → Int32 → Hp → (Nat → Int32 → Int32 → Int32 → Int32 → Hp → Option (Int32 × Hp)) → Option (Int32 × Hp)
  | 0, _, _, _, _, _, _, _, _ => none
  | n + 1, v0, v1, v2, v3, v4, v5, h, k71 =>
    (gR 7 2 v0 h).bind fun x29 =>
    (f_X2_stepsOf n x29 v4 h).bind fun x34 =>
    if x34.1 ≤ v5 then
      k71 v0 v1 v2 v3 v4 x34.2
    else
      (gR 7 2 v0 x34.2).bind fun x42 =>
      (f_X2_stepAt n x42 v4 v5 x34.2).bind fun x49 =>
      (gI 6 0 x49.1 x49.2).bind fun x52 =>
      (f_X7_kindNow n v0 v2 x49.2).bind fun x57 =>
      f_X7_priceOfStep_L26 n v0 v1 v2 (v3 + ((x52 >>> (x57.1 &&& 31)) &&& 1)) v4 (v5 + 1) x57.2 k71
def f_X7_priceOfStep_J71 (n : Nat) (v0 : Nat) (v1 : Int32) (v2 : Int32) (v3 : Int32) (v4 : Int32) (h : Hp) (k17 : Nat → Int32 → Int32 → Int32 → Int32 → Hp → Option (Int32 × Hp)) : Option (Int32 × Hp) :=
  k17 v0 v1 v2 v3 (v4 + 1) h
def f_X7_priceOfStep_L17 : Nat → Nat → Int32 → Int32 → Int32 → Int32 → Hp → (Int32 → Int32 → Hp → Option (Int32 × Hp)) → Option (Int32 × Hp)
  | 0, _, _, _, _, _, _, _ => none
  | n + 1, v0, v1, v2, v3, v4, h, k77 =>
    if 2 ≤ v4 then
      k77 v1 v3 h
    else
      f_X7_priceOfStep_L26 n v0 v1 v2 v3 v4 0 h (fun a0 a1 a2 a3 a4 h => f_X7_priceOfStep_J71 n a0 a1 a2 a3 a4 h (fun a0 a1 a2 a3 a4 h => f_X7_priceOfStep_L17 n a0 a1 a2 a3 a4 h k77))
def f_X7_priceOfStep_J77 (n : Nat) (v1 : Int32) (v3 : Int32) (h : Hp) : Option (Int32 × Hp) :=
  some ((v1 + v3), h)
def f_X7_priceOfStep (n : Nat) (v0 : Nat) (v1 : Int32) (v2 : Int32) (h : Hp) : Option (Int32 × Hp) :=
  (ck 7 v0 h).bind fun _ =>
  (gL 7 15 v0 h).bind fun x2 =>
  (pL 7 15 v0 (x2 + 10) h).bind fun h9 =>
  f_X7_priceOfStep_L17 n v0 v1 v2 0 0 h9 (fun a1 a3 h => f_X7_priceOfStep_J77 n a1 a3 h)
def f_X7_priceOfForbid (n : Nat) (v0 : Nat) (v1 : Int32) (h : Hp) : Option (Int32 × Hp) :=
  (ck 7 v0 h).bind fun _ =>
  (gL 7 15 v0 h).bind fun x2 =>
  (pL 7 15 v0 (x2 + 100) h).bind fun h9 =>
  some ((3 * v1), h9)
def f_X7_priceOfWatch (n : Nat) (v0 : Nat) (v1 : Int32) (v2 : Int32) (h : Hp) : Option (Int32 × Hp) :=
  (ck 7 v0 h).bind fun _ =>
  (gL 7 15 v0 h).bind fun x2 =>
  (pL 7 15 v0 (x2 + 1000) h).bind fun h9 =>
  (gR 7 2 v0 h9).bind fun x14 =>
  (gI 2 0 x14 h9).bind fun x17 =>
  some ((((v1 + x17) - 1) - v2), h9)
def f_X7_priceOfHoly (n : Nat) (v0 : Nat) (v1 : Int32) (v2 : Int32) (h : Hp) : Option (Int32 × Hp) :=
  (ck 7 v0 h).bind fun _ =>
  (gL 7 15 v0 h).bind fun x2 =>
  (pL 7 15 v0 (x2 + 10000) h).bind fun h9 =>
  (gR 7 6 v0 h9).bind fun x13 =>
  (f_X0_isMadeHoly n x13 v2 h9).bind fun x17 =>
  if x17.1 = 0 then
    some (v1, x17.2)
  else
    some ((v1 + 5), x17.2)
def f_X7_priceOfJoin_J35 (n : Nat) (v0 : Nat) (v1 : Int32) (v2 : Int32) (v3 : Int32) (h : Hp) (k16 : Nat → Int32 → Int32 → Int32 → Hp → Option (Int32 × Hp)) : Option (Int32 × Hp) :=
  k16 v0 v1 v2 (v3 + 1) h
def f_X7_priceOfJoin_L16 : Nat → Nat → Int32 → Int32 → Int32 → Hp → (Int32 → Int32 → Hp → Option (Int32 × Hp)) → Option (Int32 × Hp)
  | 0, _, _, _, _, _, _ => none
  | n + 1, v0, v1, v2, v3, h, k41 =>
    if 2 ≤ v3 then
      k41 v1 v2 h
    else
      (gR 7 2 v0 h).bind fun x22 =>
      (f_X2_stepsOf n x22 v3 h).bind fun x26 =>
      if x26.1 ≤ 0 then
        f_X7_priceOfJoin_J35 n v0 v1 v2 v3 x26.2 (fun a0 a1 a2 a3 h => f_X7_priceOfJoin_L16 n a0 a1 a2 a3 h k41)
      else
        f_X7_priceOfJoin_J35 n v0 v1 (v2 + 1) v3 x26.2 (fun a0 a1 a2 a3 h => f_X7_priceOfJoin_L16 n a0 a1 a2 a3 h k41)
def f_X7_priceOfJoin_J41 (n : Nat) (v1 : Int32) (v2 : Int32) (h : Hp) : Option (Int32 × Hp) :=
  some ((v1 * v2), h)
def f_X7_priceOfJoin (n : Nat) (v0 : Nat) (v1 : Int32) (h : Hp) : Option (Int32 × Hp) :=
  (ck 7 v0 h).bind fun _ =>
  (gL 7 15 v0 h).bind fun x2 =>
  (pL 7 15 v0 (x2 + 100000) h).bind fun h9 =>
  f_X7_priceOfJoin_L16 n v0 v1 0 0 h9 (fun a1 a2 h => f_X7_priceOfJoin_J41 n a1 a2 h)
def f_J9_floorDiv_7cf53 (n : Nat) (v0 : Int32) (v1 : Int32) (h : Hp) : Option (Int32 × Hp) :=
  if v1 = 0 then none else
  if 0 ≤ (v0 ^^^ v1) then
    some ((v0 / v1), h)
  else
    if ((v0 / v1) * v1) = v0 then
      some ((v0 / v1), h)
    else
      some (((v0 / v1) - 1), h)
def f_X7_priceOfForce (n : Nat) (v0 : Nat) (v1 : Int32) (h : Hp) : Option (Int32 × Hp) :=
  (ck 7 v0 h).bind fun _ =>
  (gL 7 15 v0 h).bind fun x2 =>
  (pL 7 15 v0 (x2 + 1000000) h).bind fun h9 =>
  (f_J9_floorDiv_7cf53 n v1 2 h9).bind fun x14 =>
  some (x14.1, x14.2)
def f_X7_price (n : Nat) (v0 : Nat) (v1 : Int32) (v2 : Int32) (h : Hp) : Option (Int32 × Hp) :=
  (ck 7 v0 h).bind fun _ =>
  if v1 < 0 then
    some ((-1), h)
  else
    if 6 < v1 then
      some ((-1), h)
    else
      (f_X7_isDay n v0 v2 h).bind fun x12 =>
      if x12.1 = 0 then
        some ((-1), x12.2)
      else
        (f_X7_priceOfAct n v0 v2 x12.2).bind fun x22 =>
        if v1 = 1 then
          (f_X7_priceOfStep n v0 x22.1 v2 x22.2).bind fun x67 =>
          some (x67.1, x67.2)
        else if v1 = 2 then
          (f_X7_priceOfForbid n v0 x22.1 x22.2).bind fun x73 =>
          some (x73.1, x73.2)
        else if v1 = 3 then
          (f_X7_priceOfForbid n v0 x22.1 x22.2).bind fun x80 =>
          (f_X7_priceOfWatch n v0 x80.1 v2 x80.2).bind fun x84 =>
          some (x84.1, x84.2)
        else if v1 = 4 then
          (f_X7_priceOfHoly n v0 x22.1 v2 x22.2).bind fun x91 =>
          some (x91.1, x91.2)
        else if v1 = 5 then
          (f_X7_priceOfStep n v0 x22.1 v2 x22.2).bind fun x99 =>
          (f_X7_priceOfJoin n v0 x99.1 x99.2).bind fun x102 =>
          some (x102.1, x102.2)
        else if v1 = 6 then
          (f_X7_priceOfForce n v0 x22.1 x22.2).bind fun x108 =>
          some (x108.1, x108.2)
        else 
          some (x22.1, x22.2)
def f_X7_isImage (n : Nat) (v0 : Nat) (v1 : Int32) (h : Hp) : Option (Int32 × Hp) :=
  (ck 7 v0 h).bind fun _ =>
  if v1 < 0 then
    zr 0 h
  else
    (gR 7 8 v0 h).bind fun x6 =>
    (aln x6 h).bind fun x9 =>
    if x9 ≤ v1 then
      zr 0 h
    else
      zr 1 h
def f_X7_keep (n : Nat) (v0 : Nat) (v1 : Int32) (h : Hp) : Option (Int32 × Hp) :=
  (ck 7 v0 h).bind fun _ =>
  (f_X7_isImage n v0 v1 h).bind fun x2 =>
  if x2.1 = 0 then
    some ((-1), x2.2)
  else
    (gR 7 8 v0 x2.2).bind fun x11 =>
    (aR 5 x11 v1 x2.2).bind fun x15 =>
    (gR 7 6 v0 x2.2).bind fun x25 =>
    (f_X0_copy n x15 x25 x2.2).bind fun x28 =>
    (gR 7 5 v0 x28).bind fun x33 =>
    (gI 5 0 x33 x28).bind fun x36 =>
    (pI 0 11 x15 x36 x28).bind fun h39 =>
    (gI 7 9 v0 h39).bind fun x44 =>
    (pI 7 9 v0 (x44 ||| (1 <<< (v1 &&& 31))) h39).bind fun h51 =>
    (gR 7 6 v0 h51).bind fun x55 =>
    (gI 0 1 x55 h51).bind fun x58 =>
    some (x58, h51)
def f_X7_back_L48 : Nat → Nat → Int32 → Hp → (Nat → Hp → Option (Int32 × Hp)) → Option (Int32 × Hp)
  | 0, _, _, _, _ => none
  | n + 1, v0, v3, h, k84 =>
    (gR 7 5 v0 h).bind fun x50 =>
    (gI 5 0 x50 h).bind fun x53 =>
    if x53 ≤ v3 then
      k84 v0 h
    else
      (gR 7 6 v0 h).bind fun x60 =>
      (gR 0 12 x60 h).bind fun x63 =>
      (gR 7 5 v0 h).bind fun x68 =>
      (f_X5_timesOf n x68 v3 h).bind fun x72 =>
      (f_X7_put n x63 v3 x72.1 x72.2).bind fun x75 =>
      f_X7_back_L48 n v0 (v3 + 1) x75 k84
def f_X7_back_J84 (n : Nat) (v0 : Nat) (h : Hp) : Option (Int32 × Hp) :=
  (gR 7 6 v0 h).bind fun x85 =>
  (gI 0 1 x85 h).bind fun x88 =>
  some (x88, h)
def f_X7_back (n : Nat) (v0 : Nat) (v1 : Int32) (h : Hp) : Option (Int32 × Hp) :=
  (ck 7 v0 h).bind fun _ =>
  (f_X7_isImage n v0 v1 h).bind fun x2 =>
  if x2.1 = 0 then
    some ((-1), x2.2)
  else
    (gR 7 8 v0 x2.2).bind fun x11 =>
    (aR 5 x11 v1 x2.2).bind fun x15 =>
    (gI 7 9 v0 x2.2).bind fun x18 =>
    if ((x18 >>> (v1 &&& 31)) &&& 1) = 0 then
      some ((-2), x2.2)
    else
      (gR 7 6 v0 x2.2).bind fun x36 =>
      (f_X0_copy n x36 x15 x2.2).bind fun x40 =>
      (gI 0 11 x15 x40).bind fun x44 =>
      f_X7_back_L48 n v0 x44 x40 (fun a0 h => f_X7_back_J84 n a0 h)
def f_X7_leftOf_J41 (n : Nat) (v0 : Nat) (v1 : Int32) (v2 : Int32) (v3 : Int32) (h : Hp) (k4 : Nat → Int32 → Int32 → Int32 → Hp → Option (Int32 × Hp)) : Option (Int32 × Hp) :=
  k4 v0 v1 v2 (v3 + 1) h
def f_X7_leftOf_L4 : Nat → Nat → Int32 → Int32 → Int32 → Hp → Option (Int32 × Hp)
  | 0, _, _, _, _, _ => none
  | n + 1, v0, v1, v2, v3, h =>
    (gR 7 5 v0 h).bind fun x6 =>
    (gI 5 0 x6 h).bind fun x9 =>
    if x9 ≤ v3 then
      some (v2, h)
    else
      (gR 7 5 v0 h).bind fun x16 =>
      (f_X5_officeOf n x16 v3 h).bind fun x20 =>
      if x20.1 = v1 then
        (gR 7 6 v0 x20.2).bind fun x29 =>
        (gR 0 12 x29 x20.2).bind fun x32 =>
        (f_X7_at n x32 v3 x20.2).bind fun x36 =>
        f_X7_leftOf_J41 n v0 v1 (v2 + x36.1) v3 x36.2 (fun a0 a1 a2 a3 h => f_X7_leftOf_L4 n a0 a1 a2 a3 h)
      else
        f_X7_leftOf_J41 n v0 v1 v2 v3 x20.2 (fun a0 a1 a2 a3 h => f_X7_leftOf_L4 n a0 a1 a2 a3 h)
def f_X7_leftOf (n : Nat) (v0 : Nat) (v1 : Int32) (h : Hp) : Option (Int32 × Hp) :=
  (ck 7 v0 h).bind fun _ =>
  f_X7_leftOf_L4 n v0 v1 0 0 h
def f_J13_bitCount_95d88 (n : Nat) (v0 : Int64) (h : Hp) : Option (Int32 × Hp) :=
  some ((((((((((v0 - (((v0.toUInt64 >>> ((1 : Int32).toInt64.toUInt64 &&& Int64.toUInt64 63)).toInt64) &&& 6148914691236517205)) &&& 3689348814741910323) + ((((v0 - (((v0.toUInt64 >>> ((1 : Int32).toInt64.toUInt64 &&& Int64.toUInt64 63)).toInt64) &&& 6148914691236517205)).toUInt64 >>> ((2 : Int32).toInt64.toUInt64 &&& Int64.toUInt64 63)).toInt64) &&& 3689348814741910323)) + (((((v0 - (((v0.toUInt64 >>> ((1 : Int32).toInt64.toUInt64 &&& Int64.toUInt64 63)).toInt64) &&& 6148914691236517205)) &&& 3689348814741910323) + ((((v0 - (((v0.toUInt64 >>> ((1 : Int32).toInt64.toUInt64 &&& Int64.toUInt64 63)).toInt64) &&& 6148914691236517205)).toUInt64 >>> ((2 : Int32).toInt64.toUInt64 &&& Int64.toUInt64 63)).toInt64) &&& 3689348814741910323)).toUInt64 >>> ((4 : Int32).toInt64.toUInt64 &&& Int64.toUInt64 63)).toInt64)) &&& 1085102592571150095) + (((((((v0 - (((v0.toUInt64 >>> ((1 : Int32).toInt64.toUInt64 &&& Int64.toUInt64 63)).toInt64) &&& 6148914691236517205)) &&& 3689348814741910323) + ((((v0 - (((v0.toUInt64 >>> ((1 : Int32).toInt64.toUInt64 &&& Int64.toUInt64 63)).toInt64) &&& 6148914691236517205)).toUInt64 >>> ((2 : Int32).toInt64.toUInt64 &&& Int64.toUInt64 63)).toInt64) &&& 3689348814741910323)) + (((((v0 - (((v0.toUInt64 >>> ((1 : Int32).toInt64.toUInt64 &&& Int64.toUInt64 63)).toInt64) &&& 6148914691236517205)) &&& 3689348814741910323) + ((((v0 - (((v0.toUInt64 >>> ((1 : Int32).toInt64.toUInt64 &&& Int64.toUInt64 63)).toInt64) &&& 6148914691236517205)).toUInt64 >>> ((2 : Int32).toInt64.toUInt64 &&& Int64.toUInt64 63)).toInt64) &&& 3689348814741910323)).toUInt64 >>> ((4 : Int32).toInt64.toUInt64 &&& Int64.toUInt64 63)).toInt64)) &&& 1085102592571150095).toUInt64 >>> ((8 : Int32).toInt64.toUInt64 &&& Int64.toUInt64 63)).toInt64)) + ((((((((v0 - (((v0.toUInt64 >>> ((1 : Int32).toInt64.toUInt64 &&& Int64.toUInt64 63)).toInt64) &&& 6148914691236517205)) &&& 3689348814741910323) + ((((v0 - (((v0.toUInt64 >>> ((1 : Int32).toInt64.toUInt64 &&& Int64.toUInt64 63)).toInt64) &&& 6148914691236517205)).toUInt64 >>> ((2 : Int32).toInt64.toUInt64 &&& Int64.toUInt64 63)).toInt64) &&& 3689348814741910323)) + (((((v0 - (((v0.toUInt64 >>> ((1 : Int32).toInt64.toUInt64 &&& Int64.toUInt64 63)).toInt64) &&& 6148914691236517205)) &&& 3689348814741910323) + ((((v0 - (((v0.toUInt64 >>> ((1 : Int32).toInt64.toUInt64 &&& Int64.toUInt64 63)).toInt64) &&& 6148914691236517205)).toUInt64 >>> ((2 : Int32).toInt64.toUInt64 &&& Int64.toUInt64 63)).toInt64) &&& 3689348814741910323)).toUInt64 >>> ((4 : Int32).toInt64.toUInt64 &&& Int64.toUInt64 63)).toInt64)) &&& 1085102592571150095) + (((((((v0 - (((v0.toUInt64 >>> ((1 : Int32).toInt64.toUInt64 &&& Int64.toUInt64 63)).toInt64) &&& 6148914691236517205)) &&& 3689348814741910323) + ((((v0 - (((v0.toUInt64 >>> ((1 : Int32).toInt64.toUInt64 &&& Int64.toUInt64 63)).toInt64) &&& 6148914691236517205)).toUInt64 >>> ((2 : Int32).toInt64.toUInt64 &&& Int64.toUInt64 63)).toInt64) &&& 3689348814741910323)) + (((((v0 - (((v0.toUInt64 >>> ((1 : Int32).toInt64.toUInt64 &&& Int64.toUInt64 63)).toInt64) &&& 6148914691236517205)) &&& 3689348814741910323) + ((((v0 - (((v0.toUInt64 >>> ((1 : Int32).toInt64.toUInt64 &&& Int64.toUInt64 63)).toInt64) &&& 6148914691236517205)).toUInt64 >>> ((2 : Int32).toInt64.toUInt64 &&& Int64.toUInt64 63)).toInt64) &&& 3689348814741910323)).toUInt64 >>> ((4 : Int32).toInt64.toUInt64 &&& Int64.toUInt64 63)).toInt64)) &&& 1085102592571150095).toUInt64 >>> ((8 : Int32).toInt64.toUInt64 &&& Int64.toUInt64 63)).toInt64)).toUInt64 >>> ((16 : Int32).toInt64.toUInt64 &&& Int64.toUInt64 63)).toInt64)) + (((((((((v0 - (((v0.toUInt64 >>> ((1 : Int32).toInt64.toUInt64 &&& Int64.toUInt64 63)).toInt64) &&& 6148914691236517205)) &&& 3689348814741910323) + ((((v0 - (((v0.toUInt64 >>> ((1 : Int32).toInt64.toUInt64 &&& Int64.toUInt64 63)).toInt64) &&& 6148914691236517205)).toUInt64 >>> ((2 : Int32).toInt64.toUInt64 &&& Int64.toUInt64 63)).toInt64) &&& 3689348814741910323)) + (((((v0 - (((v0.toUInt64 >>> ((1 : Int32).toInt64.toUInt64 &&& Int64.toUInt64 63)).toInt64) &&& 6148914691236517205)) &&& 3689348814741910323) + ((((v0 - (((v0.toUInt64 >>> ((1 : Int32).toInt64.toUInt64 &&& Int64.toUInt64 63)).toInt64) &&& 6148914691236517205)).toUInt64 >>> ((2 : Int32).toInt64.toUInt64 &&& Int64.toUInt64 63)).toInt64) &&& 3689348814741910323)).toUInt64 >>> ((4 : Int32).toInt64.toUInt64 &&& Int64.toUInt64 63)).toInt64)) &&& 1085102592571150095) + (((((((v0 - (((v0.toUInt64 >>> ((1 : Int32).toInt64.toUInt64 &&& Int64.toUInt64 63)).toInt64) &&& 6148914691236517205)) &&& 3689348814741910323) + ((((v0 - (((v0.toUInt64 >>> ((1 : Int32).toInt64.toUInt64 &&& Int64.toUInt64 63)).toInt64) &&& 6148914691236517205)).toUInt64 >>> ((2 : Int32).toInt64.toUInt64 &&& Int64.toUInt64 63)).toInt64) &&& 3689348814741910323)) + (((((v0 - (((v0.toUInt64 >>> ((1 : Int32).toInt64.toUInt64 &&& Int64.toUInt64 63)).toInt64) &&& 6148914691236517205)) &&& 3689348814741910323) + ((((v0 - (((v0.toUInt64 >>> ((1 : Int32).toInt64.toUInt64 &&& Int64.toUInt64 63)).toInt64) &&& 6148914691236517205)).toUInt64 >>> ((2 : Int32).toInt64.toUInt64 &&& Int64.toUInt64 63)).toInt64) &&& 3689348814741910323)).toUInt64 >>> ((4 : Int32).toInt64.toUInt64 &&& Int64.toUInt64 63)).toInt64)) &&& 1085102592571150095).toUInt64 >>> ((8 : Int32).toInt64.toUInt64 &&& Int64.toUInt64 63)).toInt64)) + ((((((((v0 - (((v0.toUInt64 >>> ((1 : Int32).toInt64.toUInt64 &&& Int64.toUInt64 63)).toInt64) &&& 6148914691236517205)) &&& 3689348814741910323) + ((((v0 - (((v0.toUInt64 >>> ((1 : Int32).toInt64.toUInt64 &&& Int64.toUInt64 63)).toInt64) &&& 6148914691236517205)).toUInt64 >>> ((2 : Int32).toInt64.toUInt64 &&& Int64.toUInt64 63)).toInt64) &&& 3689348814741910323)) + (((((v0 - (((v0.toUInt64 >>> ((1 : Int32).toInt64.toUInt64 &&& Int64.toUInt64 63)).toInt64) &&& 6148914691236517205)) &&& 3689348814741910323) + ((((v0 - (((v0.toUInt64 >>> ((1 : Int32).toInt64.toUInt64 &&& Int64.toUInt64 63)).toInt64) &&& 6148914691236517205)).toUInt64 >>> ((2 : Int32).toInt64.toUInt64 &&& Int64.toUInt64 63)).toInt64) &&& 3689348814741910323)).toUInt64 >>> ((4 : Int32).toInt64.toUInt64 &&& Int64.toUInt64 63)).toInt64)) &&& 1085102592571150095) + (((((((v0 - (((v0.toUInt64 >>> ((1 : Int32).toInt64.toUInt64 &&& Int64.toUInt64 63)).toInt64) &&& 6148914691236517205)) &&& 3689348814741910323) + ((((v0 - (((v0.toUInt64 >>> ((1 : Int32).toInt64.toUInt64 &&& Int64.toUInt64 63)).toInt64) &&& 6148914691236517205)).toUInt64 >>> ((2 : Int32).toInt64.toUInt64 &&& Int64.toUInt64 63)).toInt64) &&& 3689348814741910323)) + (((((v0 - (((v0.toUInt64 >>> ((1 : Int32).toInt64.toUInt64 &&& Int64.toUInt64 63)).toInt64) &&& 6148914691236517205)) &&& 3689348814741910323) + ((((v0 - (((v0.toUInt64 >>> ((1 : Int32).toInt64.toUInt64 &&& Int64.toUInt64 63)).toInt64) &&& 6148914691236517205)).toUInt64 >>> ((2 : Int32).toInt64.toUInt64 &&& Int64.toUInt64 63)).toInt64) &&& 3689348814741910323)).toUInt64 >>> ((4 : Int32).toInt64.toUInt64 &&& Int64.toUInt64 63)).toInt64)) &&& 1085102592571150095).toUInt64 >>> ((8 : Int32).toInt64.toUInt64 &&& Int64.toUInt64 63)).toInt64)).toUInt64 >>> ((16 : Int32).toInt64.toUInt64 &&& Int64.toUInt64 63)).toInt64)).toUInt64 >>> ((32 : Int32).toInt64.toUInt64 &&& Int64.toUInt64 63)).toInt64)).toInt32 &&& 127), h)
def f_X7_count (n : Nat) (v0 : Nat) (v1 : Int32) (h : Hp) : Option (Int32 × Hp) :=
  (ck 7 v0 h).bind fun _ =>
  if v1 = 0 then
    (gR 7 2 v0 h).bind fun x45 =>
    (gI 2 0 x45 h).bind fun x48 =>
    some (x48, h)
  else if v1 = 1 then
    (gR 7 5 v0 h).bind fun x53 =>
    (gI 5 0 x53 h).bind fun x56 =>
    some (x56, h)
  else if v1 = 2 then
    (gR 7 11 v0 h).bind fun x61 =>
    (gI 4 0 x61 h).bind fun x64 =>
    some (x64, h)
  else if v1 = 3 then
    (gI 7 1 v0 h).bind fun x69 =>
    some (x69, h)
  else if v1 = 4 then
    (f_X7_leftOf n v0 1 h).bind fun x75 =>
    some (x75.1, x75.2)
  else if v1 = 5 then
    (f_X7_leftOf n v0 2 h).bind fun x81 =>
    some (x81.1, x81.2)
  else if v1 = 6 then
    (gR 7 6 v0 h).bind fun x86 =>
    (gL 0 5 x86 h).bind fun x89 =>
    (f_J13_bitCount_95d88 n x89 h).bind fun x92 =>
    some (x92.1, x92.2)
  else 
    some ((-1), h)
def f_X7_trace (n : Nat) (v0 : Nat) (h : Hp) : Option (Int64 × Hp) :=
  (ck 7 v0 h).bind fun _ =>
  (gL 7 15 v0 h).bind fun x1 =>
  some (x1, h)
def f_X8_begin_L2 : Nat → Nat → Int32 → Hp → (Nat → Hp → Option Hp) → Option Hp
  | 0, _, _, _, _ => none
  | n + 1, v0, v1, h, k21 =>
    if 40 ≤ v1 then
      k21 v0 h
    else
      (gR 8 16 v0 h).bind fun x9 =>
      (tI x9 v1 0 h).bind fun h14 =>
      f_X8_begin_L2 n v0 (v1 + 1) h14 k21
def f_X8_begin_L58 : Nat → Nat → Int32 → Hp → (Nat → Hp → Option Hp) → Option Hp
  | 0, _, _, _, _ => none
  | n + 1, v0, v1, h, k87 =>
    (gI 8 20 v0 h).bind fun x60 =>
    if x60 ≤ v1 then
      k87 v0 h
    else
      (gR 8 16 v0 h).bind fun x67 =>
      (gR 8 22 v0 h).bind fun x75 =>
      (aI 0 x75 v1 h).bind fun x79 =>
      (tI x67 (20 + v1) x79 h).bind fun h80 =>
      f_X8_begin_L58 n v0 (v1 + 1) h80 k87
def f_X8_begin_J87 (n : Nat) (v0 : Nat) (h : Hp) : Option Hp :=
  (gR 8 17 v0 h).bind fun x88 =>
  (tL x88 0 0 h).bind fun h93 =>
  some h93
def f_X8_begin_J21 (n : Nat) (v0 : Nat) (h : Hp) : Option Hp :=
  (gR 8 16 v0 h).bind fun x22 =>
  (tI x22 3 (-9) h).bind fun h28 =>
  (gR 8 16 v0 h28).bind fun x30 =>
  (tI x30 8 (-9) h28).bind fun h37 =>
  (gR 8 16 v0 h37).bind fun x39 =>
  (tI x39 18 (-9) h37).bind fun h46 =>
  (gR 8 16 v0 h46).bind fun x48 =>
  (tI x48 19 (-9) h46).bind fun h55 =>
  f_X8_begin_L58 n v0 0 h55 (fun a0 h => f_X8_begin_J87 n a0 h)
def f_X8_begin (n : Nat) (v0 : Nat) (h : Hp) : Option Hp :=
  (ck 8 v0 h).bind fun _ =>
  f_X8_begin_L2 n v0 0 h (fun a0 h => f_X8_begin_J21 n a0 h)
def f_X8_init (n : Nat) (v0 : Nat) (h : Hp) : Option Hp :=
  (ck 8 v0 h).bind fun _ =>
  (nwA 0 2 h).bind fun x6 =>
  (pR 8 1 v0 x6.1 x6.2).bind fun h8 =>
  (nwA 0 120 h8).bind fun x14 =>
  (pR 8 2 v0 x14.1 x14.2).bind fun h16 =>
  (nwA 0 4 h16).bind fun x21 =>
  (pR 8 3 v0 x21.1 x21.2).bind fun h23 =>
  (nwA 0 16 h23).bind fun x29 =>
  (pR 8 4 v0 x29.1 x29.2).bind fun h31 =>
  (nwA 0 16 h31).bind fun x37 =>
  (pR 8 5 v0 x37.1 x37.2).bind fun h39 =>
  (nwA 0 16 h39).bind fun x45 =>
  (pR 8 6 v0 x45.1 x45.2).bind fun h47 =>
  (nwA 0 16 h47).bind fun x53 =>
  (pR 8 7 v0 x53.1 x53.2).bind fun h55 =>
  (nwA 0 16 h55).bind fun x61 =>
  (pR 8 8 v0 x61.1 x61.2).bind fun h63 =>
  (nwA 1 400 h63).bind fun x70 =>
  (pR 8 9 v0 x70.1 x70.2).bind fun h72 =>
  (nwA 0 120 h72).bind fun x78 =>
  (pR 8 16 v0 x78.1 x78.2).bind fun h80 =>
  (nwA 3 3 h80).bind fun x85 =>
  (pR 8 17 v0 x85.1 x85.2).bind fun h87 =>
  (nwA 2 2 h87).bind fun x92 =>
  (pR 8 18 v0 x92.1 x92.2).bind fun h94 =>
  (nwA 0 2 h94).bind fun x99 =>
  (pR 8 19 v0 x99.1 x99.2).bind fun h101 =>
  (nwA 0 8 h101).bind fun x107 =>
  (pR 8 21 v0 x107.1 x107.2).bind fun h109 =>
  (nwA 0 8 h109).bind fun x115 =>
  (pR 8 22 v0 x115.1 x115.2).bind fun h117 =>
  (nwA 0 60 h117).bind fun x123 =>
  (pR 8 25 v0 x123.1 x123.2).bind fun h125 =>
  (nwA 0 61 h125).bind fun x131 =>
  (pR 8 26 v0 x131.1 x131.2).bind fun h133 =>
  (nwA 0 4 h133).bind fun x138 =>
  (pR 8 27 v0 x138.1 x138.2).bind fun h140 =>
  (nwA 0 4 h140).bind fun x145 =>
  (pR 8 28 v0 x145.1 x145.2).bind fun h147 =>
  (nwA 0 4 h147).bind fun x152 =>
  (pR 8 29 v0 x152.1 x152.2).bind fun h154 =>
  (nwA 0 4 h154).bind fun x159 =>
  (pR 8 30 v0 x159.1 x159.2).bind fun h161 =>
  (nwA 0 4 h161).bind fun x166 =>
  (pR 8 31 v0 x166.1 x166.2).bind fun h168 =>
  (nwA 0 240 h168).bind fun x175 =>
  (pR 8 32 v0 x175.1 x175.2).bind fun h177 =>
  (nwA 0 240 h177).bind fun x184 =>
  (pR 8 33 v0 x184.1 x184.2).bind fun h186 =>
  (nwA 0 11760 h186).bind fun x193 =>
  (pR 8 37 v0 x193.1 x193.2).bind fun h195 =>
  (nwA 0 11760 h195).bind fun x202 =>
  (pR 8 38 v0 x202.1 x202.2).bind fun h204 =>
  (nwA 0 54 h204).bind fun x210 =>
  (pR 8 40 v0 x210.1 x210.2).bind fun h212 =>
  (nwA 0 5 h212).bind fun x217 =>
  (pR 8 41 v0 x217.1 x217.2).bind fun h219 =>
  (nwA 0 5 h219).bind fun x224 =>
  (pR 8 42 v0 x224.1 x224.2).bind fun h226 =>
  (nwA 0 5 h226).bind fun x231 =>
  (pR 8 43 v0 x231.1 x231.2).bind fun h233 =>
  (gR 8 1 v0 h233).bind fun x237 =>
  (tI x237 0 30 h233).bind fun h243 =>
  (f_X8_begin n v0 h243).bind fun x245 =>
  some x245
def f_X8_in (n : Nat) (v0 : Int32) (v1 : Int32) (v2 : Int32) (h : Hp) : Option (Int32 × Hp) :=
  if v0 < v1 then
    zr 0 h
  else
    if v2 < v0 then
      zr 0 h
    else
      zr 1 h
def f_X8_type_L32 : Nat → Nat → Int64 → Int32 → Hp → (Nat → Hp → Option (Int32 × Hp)) → Option (Int32 × Hp)
  | 0, _, _, _, _, _ => none
  | n + 1, v0, v1, v4, h, k75 =>
    if v4 < 0 then
      k75 v0 h
    else
      (gR 8 9 v0 h).bind fun x38 =>
      (gI 8 10 v0 h).bind fun x42 =>
      (tB x38 x42 ((((v1 >>> ((8 * v4).toInt64 &&& 63)) &&& 255).toInt32).toInt8.toInt32) h).bind fun h58 =>
      (gI 8 10 v0 h58).bind fun x61 =>
      (pI 8 10 v0 (x61 + 1) h58).bind fun h66 =>
      f_X8_type_L32 n v0 v1 (v4 + (-1)) h66 k75
def f_X8_type_J75 (n : Nat) (v0 : Nat) (h : Hp) : Option (Int32 × Hp) :=
  (gI 8 10 v0 h).bind fun x76 =>
  some (x76, h)
def f_X8_type (n : Nat) (v0 : Nat) (v1 : Int64) (v3 : Int32) (h : Hp) : Option (Int32 × Hp) :=
  (ck 8 v0 h).bind fun _ =>
  (f_X8_in n v3 1 8 h).bind fun x4 =>
  if x4.1 = 0 then
    some ((-1), x4.2)
  else
    (gI 8 10 v0 x4.2).bind fun x13 =>
    if (x13 + v3) ≤ 400 then
      f_X8_type_L32 n v0 v1 (v3 - 1) x4.2 (fun a0 h => f_X8_type_J75 n a0 h)
    else
      some ((-3), x4.2)
def f_X8_clear (n : Nat) (v0 : Nat) (h : Hp) : Option (Int32 × Hp) :=
  (ck 8 v0 h).bind fun _ =>
  (gI 8 10 v0 h).bind fun x1 =>
  (pI 8 10 v0 0 h).bind fun h7 =>
  some (x1, h7)
def f_X8_here (n : Nat) (v0 : Nat) (h : Hp) : Option (Int32 × Hp) :=
  (ck 8 v0 h).bind fun _ =>
  (gI 8 11 v0 h).bind fun x1 =>
  (gI 8 10 v0 h).bind fun x5 =>
  if x5 ≤ x1 then
    some ((-1), h)
  else
    (gR 8 9 v0 h).bind fun x12 =>
    (gI 8 11 v0 h).bind fun x16 =>
    (aI 1 x12 x16 h).bind fun x19 =>
    some ((x19 &&& 255), h)
def f_X8_mean (n : Nat) (v0 : Nat) (v1 : Int32) (h : Hp) : Option Hp :=
  (ck 8 v0 h).bind fun _ =>
  (pI 8 14 v0 0 h).bind fun h2 =>
  if v1 = 46263 then
    (pI 8 13 v0 5 h2).bind fun h162 =>
    some h162
  else if v1 = 79958 then
    (pI 8 13 v0 11 h2).bind fun h258 =>
    (pI 8 14 v0 3 h258).bind fun h263 =>
    some h263
  else if v1 = 80155 then
    (pI 8 13 v0 4 h2).bind fun h154 =>
    some h154
  else if v1 = 131360 then
    (pI 8 13 v0 11 h2).bind fun h216 =>
    (pI 8 14 v0 0 h216).bind fun h221 =>
    some h221
  else if v1 = 131638 then
    (pI 8 13 v0 3 h2).bind fun h146 =>
    some h146
  else if v1 = 168748 then
    (pI 8 13 v0 11 h2).bind fun h244 =>
    (pI 8 14 v0 2 h244).bind fun h249 =>
    some h249
  else if v1 = 380741 then
    (pI 8 13 v0 10 h2).bind fun h207 =>
    some h207
  else if v1 = 388708 then
    (pI 8 13 v0 6 h2).bind fun h171 =>
    some h171
  else if v1 = 495765 then
    (pI 8 13 v0 1 h2).bind fun h130 =>
    some h130
  else if v1 = 664272 then
    (pI 8 13 v0 7 h2).bind fun h180 =>
    some h180
  else if v1 = 3094387 then
    (pI 8 13 v0 2 h2).bind fun h138 =>
    some h138
  else if v1 = 11993594 then
    (pI 8 13 v0 9 h2).bind fun h198 =>
    some h198
  else if v1 = 187429700 then
    (pI 8 13 v0 11 h2).bind fun h230 =>
    (pI 8 14 v0 1 h230).bind fun h235 =>
    some h235
  else if v1 = 335207579 then
    (pI 8 13 v0 8 h2).bind fun h189 =>
    some h189
  else 
    (pI 8 13 v0 14 h2).bind fun h272 =>
    some h272
def f_X8_next_L0 : Nat → Nat → Hp → (Nat → Hp → Option Hp) → Option Hp
  | 0, _, _, _ => none
  | n + 1, v0, h, k22 =>
    (f_X8_here n v0 h).bind fun x1 =>
    if x1.1 = 32 then
      (gI 8 11 v0 x1.2).bind fun x11 =>
      (pI 8 11 v0 (x11 + 1) x1.2).bind fun h16 =>
      f_X8_next_L0 n v0 h16 k22
    else
      k22 v0 x1.2
def f_X8_next_J109 (n : Nat) (v0 : Nat) (s0 : Int32) (h : Hp) (k65 : Nat → Int32 → Hp → Option Hp) : Option Hp :=
  (gI 8 11 v0 h).bind fun x112 =>
  (pI 8 11 v0 (x112 + 1) h).bind fun h117 =>
  k65 v0 s0 h117
def f_X8_next_L65 : Nat → Nat → Int32 → Hp → (Nat → Int32 → Hp → Option Hp) → Option Hp
  | 0, _, _, _, _ => none
  | n + 1, v0, v2, h, k123 =>
    (f_X8_here n v0 h).bind fun x66 =>
    (f_X8_in n x66.1 97 122 x66.2).bind fun x73 =>
    if x73.1 = 0 then
      k123 v0 v2 x73.2
    else
      (gI 8 11 v0 x73.2).bind fun x80 =>
      (gI 8 12 v0 x73.2).bind fun x84 =>
      if 6 ≤ (x80 - x84) then
        f_X8_next_J109 n v0 0 x73.2 (fun a0 a2 h => f_X8_next_L65 n a0 a2 h k123)
      else
        (f_X8_here n v0 x73.2).bind fun x98 =>
        f_X8_next_J109 n v0 (((27 * v2) + x98.1) - 96) x98.2 (fun a0 a2 h => f_X8_next_L65 n a0 a2 h k123)
def f_X8_next_J143 (n : Nat) (s0 : Nat) (s1 : Int32) (h : Hp) : Option Hp :=
  (f_X8_mean n s0 s1 h).bind fun x143 =>
  some x143
def f_X8_next_J123 (n : Nat) (v0 : Nat) (v2 : Int32) (h : Hp) : Option Hp :=
  (gI 8 11 v0 h).bind fun x125 =>
  (gI 8 12 v0 h).bind fun x129 =>
  if (x125 - x129) ≤ 6 then
    f_X8_next_J143 n v0 v2 h
  else
    f_X8_next_J143 n v0 0 h
def f_X8_next_J206 (n : Nat) (v0 : Nat) (v1 : Int32) (s0 : Nat) (s1 : Int32) (h : Hp) (k160 : Nat → Int32 → Hp → Option Hp) : Option Hp :=
  (pI 8 14 s0 s1 h).bind fun h206 =>
  (gI 8 11 v0 h206).bind fun x211 =>
  (pI 8 11 v0 (x211 + 1) h206).bind fun h216 =>
  k160 v0 v1 h216
def f_X8_next_L160 : Nat → Nat → Int32 → Hp → (Nat → Int32 → Hp → Option Hp) → Option Hp
  | 0, _, _, _, _ => none
  | n + 1, v0, v1, h, k222 =>
    (f_X8_here n v0 h).bind fun x161 =>
    (f_X8_in n x161.1 48 57 x161.2).bind fun x168 =>
    if x168.1 = 0 then
      k222 v0 v1 x168.2
    else
      (gI 8 14 v0 x168.2).bind fun x176 =>
      if x176 ≤ 99 then
        (gI 8 14 v0 x168.2).bind fun x194 =>
        (f_X8_here n v0 x168.2).bind fun x199 =>
        f_X8_next_J206 n v0 v1 v0 (((10 * x194) + x199.1) - 48) x199.2 (fun a0 a1 h => f_X8_next_L160 n a0 a1 h k222)
      else
        (gI 8 14 v0 x168.2).bind fun x185 =>
        f_X8_next_J206 n v0 v1 v0 x185 x168.2 (fun a0 a1 h => f_X8_next_L160 n a0 a1 h k222)
def f_X8_next_J251 (n : Nat) (s0 : Nat) (h : Hp) (k258 : Nat → Int32 → Hp → Option Hp) : Option Hp :=
  k258 s0 14 h
def f_X8_next_J256 (n : Nat) (s0 : Nat) (h : Hp) (k258 : Nat → Int32 → Hp → Option Hp) : Option Hp :=
  k258 s0 12 h
def f_X8_next_J258 (n : Nat) (s0 : Nat) (s1 : Int32) (h : Hp) : Option Hp :=
  (pI 8 13 s0 s1 h).bind fun h258 =>
  some h258
def f_X8_next_J222 (n : Nat) (v0 : Nat) (v1 : Int32) (h : Hp) : Option Hp :=
  (gI 8 14 v0 h).bind fun x224 =>
  if 99 < x224 then
    f_X8_next_J251 n v0 h (fun b0 b1 h => f_X8_next_J258 n b0 b1 h)
  else
    if v1 = 48 then
      (gI 8 11 v0 h).bind fun x239 =>
      (gI 8 12 v0 h).bind fun x243 =>
      if (x239 - x243) ≤ 1 then
        f_X8_next_J256 n v0 h (fun b0 b1 h => f_X8_next_J258 n b0 b1 h)
      else
        f_X8_next_J251 n v0 h (fun b0 b1 h => f_X8_next_J258 n b0 b1 h)
    else
      f_X8_next_J256 n v0 h (fun b0 b1 h => f_X8_next_J258 n b0 b1 h)
def f_X8_next_J288 (n : Nat) (s0 : Nat) (s1 : Int32) (h : Hp) : Option Hp :=
  (pI 8 13 s0 s1 h).bind fun h288 =>
  some h288
def f_X8_next_J22 (n : Nat) (v0 : Nat) (h : Hp) : Option Hp :=
  (gI 8 11 v0 h).bind fun x24 =>
  (pI 8 12 v0 x24 h).bind fun h27 =>
  (pI 8 14 v0 0 h27).bind fun h32 =>
  (f_X8_here n v0 h32).bind fun x36 =>
  if 0 ≤ x36.1 then
    (f_X8_in n x36.1 97 122 x36.2).bind fun x57 =>
    if x57.1 = 0 then
      (f_X8_in n x36.1 48 57 x57.2).bind fun x154 =>
      if x154.1 = 0 then
        (gI 8 11 v0 x154.2).bind fun x266 =>
        (pI 8 11 v0 (x266 + 1) x154.2).bind fun h271 =>
        if x36.1 = 59 then
          f_X8_next_J288 n v0 13 h271
        else
          f_X8_next_J288 n v0 14 h271
      else
        f_X8_next_L160 n v0 x36.1 x154.2 (fun a0 a1 h => f_X8_next_J222 n a0 a1 h)
    else
      f_X8_next_L65 n v0 0 x57.2 (fun a0 a2 h => f_X8_next_J123 n a0 a2 h)
  else
    (pI 8 13 v0 0 x36.2).bind fun h46 =>
    some h46
def f_X8_next (n : Nat) (v0 : Nat) (h : Hp) : Option Hp :=
  (ck 8 v0 h).bind fun _ =>
  f_X8_next_L0 n v0 h (fun a0 h => f_X8_next_J22 n a0 h)
def f_X8_due (n : Nat) (v0 : Nat) (v1 : Int32) (h : Hp) : Option (Int32 × Hp) :=
  (ck 8 v0 h).bind fun _ =>
  (gI 8 14 v0 h).bind fun x1 =>
  (gI 8 15 v0 h).bind fun x6 =>
  if x6 = (-9) then
    if v1 = 0 then
      (gI 8 12 v0 h).bind fun x27 =>
      (pI 8 15 v0 x27 h).bind fun h30 =>
      some (x1, h30)
    else
      (f_X8_next n v0 h).bind fun x19 =>
      some (x1, x19)
  else
    some (x1, h)
def f_X8_number_J26 (n : Nat) (s0 : Nat) (h : Hp) (k27 : Nat → Int32 → Hp → Option (Int32 × Hp)) : Option (Int32 × Hp) :=
  k27 s0 0 h
def f_X8_number_J27 (n : Nat) (s0 : Nat) (s1 : Int32) (h : Hp) : Option (Int32 × Hp) :=
  (f_X8_due n s0 s1 h).bind fun x27 =>
  some (x27.1, x27.2)
def f_X8_number (n : Nat) (v0 : Nat) (v1 : Int32) (v2 : Int32) (h : Hp) : Option (Int32 × Hp) :=
  (ck 8 v0 h).bind fun _ =>
  (gI 8 13 v0 h).bind fun x2 =>
  if x2 = 12 then
    (gI 8 14 v0 h).bind fun x11 =>
    (f_X8_in n x11 v1 v2 h).bind fun x16 =>
    if x16.1 = 0 then
      f_X8_number_J26 n v0 x16.2 (fun b0 b1 h => f_X8_number_J27 n b0 b1 h)
    else
      f_X8_number_J27 n v0 1 x16.2
  else
    f_X8_number_J26 n v0 h (fun b0 b1 h => f_X8_number_J27 n b0 b1 h)
def f_X8_readEvery_L56 : Nat → Nat → Int32 → Int32 → Int32 → Hp → Option Hp
  | 0, _, _, _, _, _ => none
  | n + 1, v0, v1, v3, v4, h =>
    (gI 8 15 v0 h).bind fun x57 =>
    if x57 = (-9) then
      if 60 ≤ v4 then
        some h
      else
        (gR 8 2 v0 h).bind fun x73 =>
        (tI x73 (60 + v4) v3 h).bind fun h82 =>
        f_X8_readEvery_L56 n v0 v1 v3 (v4 + v1) h82
    else
      some h
def f_X8_readEvery_J49 (n : Nat) (v0 : Nat) (v1 : Int32) (v2 : Int32) (s0 : Nat) (s1 : Int32) (h : Hp) : Option Hp :=
  (f_X8_due n s0 s1 h).bind fun x49 =>
  f_X8_readEvery_L56 n v0 v1 x49.1 v2 x49.2
def f_X8_readEvery_J22 (n : Nat) (v0 : Nat) (v1 : Int32) (s0 : Nat) (s1 : Int32) (h : Hp) : Option Hp :=
  (f_X8_due n s0 s1 h).bind fun x22 =>
  (f_X8_number n v0 0 59 x22.2).bind fun x30 =>
  (gI 8 13 v0 x30.2).bind fun x36 =>
  if x36 = 11 then
    f_X8_readEvery_J49 n v0 v1 x30.1 v0 1 x30.2
  else
    f_X8_readEvery_J49 n v0 v1 x30.1 v0 0 x30.2
def f_X8_readEvery (n : Nat) (v0 : Nat) (h : Hp) : Option Hp :=
  (ck 8 v0 h).bind fun _ =>
  (f_X8_number n v0 1 60 h).bind fun x4 =>
  (gI 8 13 v0 x4.2).bind fun x10 =>
  if x10 = 3 then
    f_X8_readEvery_J22 n v0 x4.1 v0 1 x4.2
  else
    f_X8_readEvery_J22 n v0 x4.1 v0 0 x4.2
def f_X8_readDays_L38 : Nat → Nat → Int32 → Int32 → Int32 → Hp → Option Hp
  | 0, _, _, _, _, _ => none
  | n + 1, v0, v2, v3, v4, h =>
    (gI 8 15 v0 h).bind fun x39 =>
    if x39 = (-9) then
      if v2 < v4 then
        some h
      else
        (gR 8 2 v0 h).bind fun x54 =>
        (tI x54 (60 + v4) v3 h).bind fun h63 =>
        f_X8_readDays_L38 n v0 v2 v3 (v4 + 1) h63
    else
      some h
def f_X8_readDays_J31 (n : Nat) (v0 : Nat) (v1 : Int32) (v2 : Int32) (s0 : Nat) (s1 : Int32) (h : Hp) : Option Hp :=
  (f_X8_due n s0 s1 h).bind fun x31 =>
  f_X8_readDays_L38 n v0 v2 x31.1 v1 x31.2
def f_X8_readDays (n : Nat) (v0 : Nat) (h : Hp) : Option Hp :=
  (ck 8 v0 h).bind fun _ =>
  (f_X8_number n v0 0 59 h).bind fun x4 =>
  (f_X8_number n v0 x4.1 59 x4.2).bind fun x12 =>
  (gI 8 13 v0 x12.2).bind fun x18 =>
  if x18 = 11 then
    f_X8_readDays_J31 n v0 x4.1 x12.1 v0 1 x12.2
  else
    f_X8_readDays_J31 n v0 x4.1 x12.1 v0 0 x12.2
def f_X8_readStep_J34 (n : Nat) (v0 : Nat) (v2 : Int32) (s0 : Int32) (h : Hp) (k46 : Nat → Int32 → Int32 → Int32 → Hp → Option Hp) : Option Hp :=
  k46 v0 v2 s0 0 h
def f_X8_readStep_J69 (n : Nat) (v0 : Nat) (v2 : Int32) (v3 : Int32) (s0 : Nat) (h : Hp) (k70 : Nat → Int32 → Int32 → Nat → Int32 → Hp → Option Hp) : Option Hp :=
  k70 v0 v2 v3 s0 0 h
def f_X8_readStep_J141 (n : Nat) (v0 : Nat) (v2 : Int32) (v3 : Int32) (s0 : Int32) (s1 : Int32) (s2 : Nat) (s3 : Int32) (h : Hp) (k102 : Nat → Int32 → Int32 → Int32 → Hp → Option Hp) : Option Hp :=
  (f_X8_due n s2 s3 h).bind fun x141 =>
  k102 v0 v2 v3 (s0 ||| (s1 <<< (x141.1 &&& 31))) x141.2
def f_X8_readStep_L102 : Nat → Nat → Int32 → Int32 → Int32 → Hp → (Nat → Int32 → Int32 → Int32 → Hp → Option Hp) → Option Hp
  | 0, _, _, _, _, _, _ => none
  | n + 1, v0, v2, v3, v4, h, k151 =>
    (gI 8 15 v0 h).bind fun x103 =>
    if x103 = (-9) then
      (gI 8 13 v0 h).bind fun x112 =>
      if x112 = 11 then
        (gI 8 14 v0 h).bind fun x127 =>
        if ((v4 >>> (x127 &&& 31)) &&& 1) = 0 then
          f_X8_readStep_J141 n v0 v2 v3 v4 1 v0 1 h (fun a0 a2 a3 a4 h => f_X8_readStep_L102 n a0 a2 a3 a4 h k151)
        else
          f_X8_readStep_J141 n v0 v2 v3 v4 1 v0 0 h (fun a0 a2 a3 a4 h => f_X8_readStep_L102 n a0 a2 a3 a4 h k151)
      else
        k151 v0 v2 v3 v4 h
    else
      k151 v0 v2 v3 v4 h
def f_X8_readStep_J200 (n : Nat) (v0 : Nat) (v2 : Int32) (v3 : Int32) (v4 : Int32) (v5 : Int32) (h : Hp) (k201 : Nat → Int32 → Int32 → Int32 → Int32 → Int32 → Hp → Option Hp) : Option Hp :=
  k201 v0 v2 v3 v4 v5 0 h
def f_X8_readStep_J321 (n : Nat) (v0 : Nat) (v2 : Int32) (v3 : Int32) (v7 : Int32) (v8 : Int32) (s0 : Nat) (s1 : Int32) (s2 : Int32) (h : Hp) : Option Hp :=
  (tI s0 s1 s2 h).bind fun h321 =>
  (gR 8 7 v0 h321).bind fun x323 =>
  (tI x323 v3 v7 h321).bind fun h329 =>
  (gR 8 8 v0 h329).bind fun x331 =>
  (tI x331 v3 v8 h329).bind fun h337 =>
  (gR 8 3 v0 h337).bind fun x339 =>
  (aI 0 x339 (2 + v2) h337).bind fun x346 =>
  (tI x339 (2 + v2) (x346 + 1) h337).bind fun h349 =>
  some h349
def f_X8_readStep_J281 (n : Nat) (v0 : Nat) (v2 : Int32) (v3 : Int32) (v4 : Int32) (v5 : Int32) (v6 : Int32) (v7 : Int32) (v8 : Int32) (h : Hp) : Option Hp :=
  (gI 8 15 v0 h).bind fun x282 =>
  if x282 = (-9) then
    (gR 8 4 v0 h).bind fun x291 =>
    (tI x291 v3 v4 h).bind fun h297 =>
    (gR 8 5 v0 h297).bind fun x299 =>
    (tI x299 v3 v5 h297).bind fun h305 =>
    (gR 8 6 v0 h305).bind fun x307 =>
    if v6 = 0 then
      f_X8_readStep_J321 n v0 v2 v3 v7 v8 x307 v3 0 h305
    else
      f_X8_readStep_J321 n v0 v2 v3 v7 v8 x307 v3 1 h305
  else
    some h
def f_X8_readStep_J263 (n : Nat) (v0 : Nat) (v2 : Int32) (v3 : Int32) (v4 : Int32) (v5 : Int32) (v6 : Int32) (v7 : Int32) (v8 : Int32) (h : Hp) : Option Hp :=
  (gI 8 13 v0 h).bind fun x264 =>
  if x264 = 10 then
    (f_X8_due n v0 1 h).bind fun x274 =>
    f_X8_readStep_J281 n v0 v2 v3 v4 v5 v6 v7 (v8 + 2) x274.2
  else
    f_X8_readStep_J281 n v0 v2 v3 v4 v5 v6 v7 v8 h
def f_X8_readStep_J242 (n : Nat) (v0 : Nat) (v2 : Int32) (v3 : Int32) (v4 : Int32) (v5 : Int32) (v6 : Int32) (v7 : Int32) (h : Hp) : Option Hp :=
  (gI 8 13 v0 h).bind fun x246 =>
  if x246 = 9 then
    (f_X8_due n v0 1 h).bind fun x256 =>
    f_X8_readStep_J263 n v0 v2 v3 v4 v5 v6 v7 1 x256.2
  else
    f_X8_readStep_J263 n v0 v2 v3 v4 v5 v6 v7 0 h
def f_X8_readStep_J214 (n : Nat) (v0 : Nat) (v2 : Int32) (v3 : Int32) (v4 : Int32) (v5 : Int32) (v6 : Int32) (h : Hp) : Option Hp :=
  (gI 8 13 v0 h).bind fun x219 =>
  if x219 = 8 then
    (f_X8_due n v0 1 h).bind fun x229 =>
    (f_X8_number n v0 1 60 x229.2).bind fun x237 =>
    f_X8_readStep_J242 n v0 v2 v3 v4 v5 v6 x237.1 x237.2
  else
    f_X8_readStep_J242 n v0 v2 v3 v4 v5 v6 (-9) h
def f_X8_readStep_J201 (n : Nat) (v0 : Nat) (v2 : Int32) (v3 : Int32) (v4 : Int32) (v5 : Int32) (s0 : Int32) (h : Hp) : Option Hp :=
  if s0 = 0 then
    f_X8_readStep_J214 n v0 v2 v3 v4 v5 s0 h
  else
    (f_X8_due n v0 1 h).bind fun x210 =>
    f_X8_readStep_J214 n v0 v2 v3 v4 v5 s0 x210.2
def f_X8_readStep_J166 (n : Nat) (v0 : Nat) (v2 : Int32) (v3 : Int32) (v4 : Int32) (s0 : Nat) (s1 : Int32) (h : Hp) : Option Hp :=
  (f_X8_due n s0 s1 h).bind fun x166 =>
  (f_X8_number n v0 0 59 x166.2).bind fun x174 =>
  (gI 8 13 v0 x174.2).bind fun x180 =>
  if x180 = 11 then
    (gI 8 14 v0 x174.2).bind fun x189 =>
    if x189 = 1 then
      f_X8_readStep_J201 n v0 v2 v3 v4 x174.1 1 x174.2
    else
      f_X8_readStep_J200 n v0 v2 v3 v4 x174.1 x174.2 (fun a0 a2 a3 a4 a5 b0 h => f_X8_readStep_J201 n a0 a2 a3 a4 a5 b0 h)
  else
    f_X8_readStep_J200 n v0 v2 v3 v4 x174.1 x174.2 (fun a0 a2 a3 a4 a5 b0 h => f_X8_readStep_J201 n a0 a2 a3 a4 a5 b0 h)
def f_X8_readStep_J151 (n : Nat) (v0 : Nat) (v2 : Int32) (v3 : Int32) (v4 : Int32) (h : Hp) : Option Hp :=
  (gI 8 13 v0 h).bind fun x153 =>
  if x153 = 7 then
    f_X8_readStep_J166 n v0 v2 v3 v4 v0 1 h
  else
    f_X8_readStep_J166 n v0 v2 v3 v4 v0 0 h
def f_X8_readStep_J95 (n : Nat) (v0 : Nat) (v2 : Int32) (v3 : Int32) (s0 : Int32) (s1 : Int32) (s2 : Nat) (s3 : Int32) (h : Hp) : Option Hp :=
  (f_X8_due n s2 s3 h).bind fun x95 =>
  f_X8_readStep_L102 n v0 v2 v3 (s0 ||| (s1 <<< (x95.1 &&& 31))) x95.2 (fun a0 a2 a3 a4 h => f_X8_readStep_J151 n a0 a2 a3 a4 h)
def f_X8_readStep_J70 (n : Nat) (v0 : Nat) (v2 : Int32) (v3 : Int32) (s0 : Nat) (s1 : Int32) (h : Hp) : Option Hp :=
  (f_X8_due n s0 s1 h).bind fun x70 =>
  (gI 8 13 v0 x70.2).bind fun x82 =>
  if x82 = 11 then
    f_X8_readStep_J95 n v0 v2 v3 0 1 v0 1 x70.2
  else
    f_X8_readStep_J95 n v0 v2 v3 0 1 v0 0 x70.2
def f_X8_readStep_J46 (n : Nat) (v0 : Nat) (v2 : Int32) (s0 : Int32) (s1 : Int32) (h : Hp) : Option Hp :=
  if v2 < 0 then
    f_X8_readStep_J69 n v0 v2 (s0 + s1) v0 h (fun a0 a2 a3 b0 b1 h => f_X8_readStep_J70 n a0 a2 a3 b0 b1 h)
  else
    (gR 8 3 v0 h).bind fun x54 =>
    (aI 0 x54 (2 + v2) h).bind fun x60 =>
    if 4 ≤ x60 then
      f_X8_readStep_J69 n v0 v2 (s0 + s1) v0 h (fun a0 a2 a3 b0 b1 h => f_X8_readStep_J70 n a0 a2 a3 b0 b1 h)
    else
      f_X8_readStep_J70 n v0 v2 (s0 + s1) v0 1 h
def f_X8_readStep_J16 (n : Nat) (v0 : Nat) (v2 : Int32) (s0 : Int32) (s1 : Int32) (s2 : Int32) (h : Hp) : Option Hp :=
  if v2 < 0 then
    f_X8_readStep_J34 n v0 v2 (s0 + (s1 * s2)) h (fun a0 a2 b0 b1 h => f_X8_readStep_J46 n a0 a2 b0 b1 h)
  else
    (gR 8 3 v0 h).bind fun x23 =>
    (aI 0 x23 (2 + v2) h).bind fun x29 =>
    if x29 = 4 then
      f_X8_readStep_J34 n v0 v2 (s0 + (s1 * s2)) h (fun a0 a2 b0 b1 h => f_X8_readStep_J46 n a0 a2 b0 b1 h)
    else
      (gR 8 3 v0 h).bind fun x39 =>
      (aI 0 x39 (2 + v2) h).bind fun x45 =>
      f_X8_readStep_J46 n v0 v2 (s0 + (s1 * s2)) x45 h
def f_X8_readStep (n : Nat) (v0 : Nat) (v1 : Int32) (h : Hp) : Option Hp :=
  (ck 8 v0 h).bind fun _ =>
  if 0 ≤ (v1 - 1) then
    f_X8_readStep_J16 n v0 (v1 - 1) 8 4 (v1 - 1) h
  else
    f_X8_readStep_J16 n v0 (v1 - 1) 8 4 0 h
def f_X8_law_L35 : Nat → Nat → Int32 → Hp → (Nat → Hp → Option (Int32 × Hp)) → Option (Int32 × Hp)
  | 0, _, _, _, _ => none
  | n + 1, v0, v1, h, k57 =>
    if 60 ≤ v1 then
      k57 v0 h
    else
      (gR 8 2 v0 h).bind fun x42 =>
      (tI x42 (60 + v1) 0 h).bind fun h50 =>
      f_X8_law_L35 n v0 (v1 + 1) h50 k57
def f_X8_law_J138 (n : Nat) (v0 : Nat) (v1 : Int32) (v2 : Int32) (v3 : Int32) (s0 : Nat) (h : Hp) (k143 : Nat → Int32 → Int32 → Int32 → Nat → Int32 → Hp → Option (Int32 × Hp)) : Option (Int32 × Hp) :=
  k143 v0 v1 v2 v3 s0 1 h
def f_X8_law_J142 (n : Nat) (v0 : Nat) (v1 : Int32) (v2 : Int32) (v3 : Int32) (s0 : Nat) (h : Hp) (k143 : Nat → Int32 → Int32 → Int32 → Nat → Int32 → Hp → Option (Int32 × Hp)) : Option (Int32 × Hp) :=
  k143 v0 v1 v2 v3 s0 0 h
def f_X8_law_J143 (n : Nat) (v0 : Nat) (v1 : Int32) (v2 : Int32) (v3 : Int32) (s0 : Nat) (s1 : Int32) (h : Hp) (k196 : Nat → Int32 → Int32 → Hp → Option (Int32 × Hp)) : Option (Int32 × Hp) :=
  (f_X8_due n s0 s1 h).bind fun x143 =>
  if v3 = 1 then
    (gR 8 1 v0 x143.2).bind fun x153 =>
    (f_X8_number n v0 10 60 x143.2).bind fun x162 =>
    (tI x153 1 x162.1 x162.2).bind fun h165 =>
    k196 v0 v1 v2 h165
  else
    if v3 = 2 then
      (f_X8_readEvery n v0 x143.2).bind fun x175 =>
      k196 v0 v1 v2 x175
    else
      if v3 = 4 then
        (f_X8_readDays n v0 x143.2).bind fun x187 =>
        k196 v0 v1 v2 x187
      else
        k196 v0 v1 (v2 + 1) x143.2
def f_X8_law_J211 (n : Nat) (v0 : Nat) (v1 : Int32) (v2 : Int32) (s0 : Nat) (s1 : Int32) (h : Hp) (k65 : Nat → Int32 → Int32 → Hp → Option (Int32 × Hp)) : Option (Int32 × Hp) :=
  (f_X8_due n s0 s1 h).bind fun x211 =>
  k65 v0 (v1 + 1) v2 x211.2
def f_X8_law_J196 (n : Nat) (v0 : Nat) (v1 : Int32) (v2 : Int32) (h : Hp) (k65 : Nat → Int32 → Int32 → Hp → Option (Int32 × Hp)) : Option (Int32 × Hp) :=
  (gI 8 13 v0 h).bind fun x198 =>
  if x198 = 13 then
    f_X8_law_J211 n v0 v1 v2 v0 1 h k65
  else
    f_X8_law_J211 n v0 v1 v2 v0 0 h k65
def f_X8_law_L65 : Nat → Nat → Int32 → Int32 → Hp → (Nat → Int32 → Hp → Option (Int32 × Hp)) → Option (Int32 × Hp)
  | 0, _, _, _, _, _ => none
  | n + 1, v0, v1, v2, h, k221 =>
    (gI 8 15 v0 h).bind fun x66 =>
    if x66 = (-9) then
      (gI 8 13 v0 h).bind fun x75 =>
      if x75 = 0 then
        k221 v0 v1 h
      else
        (gI 8 13 v0 h).bind fun x82 =>
        if x82 = 6 then
          (f_X8_readStep n v0 v2 h).bind fun x94 =>
          f_X8_law_J196 n v0 v1 v2 x94 (fun a0 a1 a2 h => f_X8_law_L65 n a0 a1 a2 h k221)
        else
          if x82 = 1 then
            if v1 = 0 then
              f_X8_law_J143 n v0 v1 v2 x82 v0 1 h (fun a0 a1 a2 h => f_X8_law_J196 n a0 a1 a2 h (fun a0 a1 a2 h => f_X8_law_L65 n a0 a1 a2 h k221))
            else
              f_X8_law_J143 n v0 v1 v2 x82 v0 0 h (fun a0 a1 a2 h => f_X8_law_J196 n a0 a1 a2 h (fun a0 a1 a2 h => f_X8_law_L65 n a0 a1 a2 h k221))
          else
            if x82 = 2 then
              f_X8_law_J138 n v0 v1 v2 x82 v0 h (fun a0 a1 a2 a3 b0 b1 h => f_X8_law_J143 n a0 a1 a2 a3 b0 b1 h (fun a0 a1 a2 h => f_X8_law_J196 n a0 a1 a2 h (fun a0 a1 a2 h => f_X8_law_L65 n a0 a1 a2 h k221)))
            else
              if x82 = 4 then
                f_X8_law_J138 n v0 v1 v2 x82 v0 h (fun a0 a1 a2 a3 b0 b1 h => f_X8_law_J143 n a0 a1 a2 a3 b0 b1 h (fun a0 a1 a2 h => f_X8_law_J196 n a0 a1 a2 h (fun a0 a1 a2 h => f_X8_law_L65 n a0 a1 a2 h k221)))
              else
                if x82 = 5 then
                  if 2 ≤ v2 then
                    f_X8_law_J142 n v0 v1 v2 x82 v0 h (fun a0 a1 a2 a3 b0 b1 h => f_X8_law_J143 n a0 a1 a2 a3 b0 b1 h (fun a0 a1 a2 h => f_X8_law_J196 n a0 a1 a2 h (fun a0 a1 a2 h => f_X8_law_L65 n a0 a1 a2 h k221)))
                  else
                    f_X8_law_J138 n v0 v1 v2 x82 v0 h (fun a0 a1 a2 a3 b0 b1 h => f_X8_law_J143 n a0 a1 a2 a3 b0 b1 h (fun a0 a1 a2 h => f_X8_law_J196 n a0 a1 a2 h (fun a0 a1 a2 h => f_X8_law_L65 n a0 a1 a2 h k221)))
                else
                  f_X8_law_J142 n v0 v1 v2 x82 v0 h (fun a0 a1 a2 a3 b0 b1 h => f_X8_law_J143 n a0 a1 a2 a3 b0 b1 h (fun a0 a1 a2 h => f_X8_law_J196 n a0 a1 a2 h (fun a0 a1 a2 h => f_X8_law_L65 n a0 a1 a2 h k221)))
    else
      k221 v0 v1 h
def f_X8_law_L276 : Nat → Nat → Int32 → Int32 → Hp → (Nat → Int32 → Hp → Option (Int32 × Hp)) → Option (Int32 × Hp)
  | 0, _, _, _, _, _ => none
  | n + 1, v0, v1, v3, h, k303 =>
    if 60 ≤ v3 then
      k303 v0 v1 h
    else
      (gR 8 2 v0 h).bind fun x283 =>
      (gR 8 2 v0 h).bind fun x288 =>
      (aI 0 x288 (60 + v3) h).bind fun x295 =>
      (tI x283 v3 x295 h).bind fun h296 =>
      f_X8_law_L276 n v0 v1 (v3 + 1) h296 k303
def f_X8_law_L305 : Nat → Nat → Int32 → Int32 → Hp → (Nat → Int32 → Hp → Option (Int32 × Hp)) → Option (Int32 × Hp)
  | 0, _, _, _, _, _ => none
  | n + 1, v0, v1, v3, h, k392 =>
    if 8 ≤ v3 then
      k392 v0 v1 h
    else
      (gR 8 4 v0 h).bind fun x312 =>
      (gR 8 4 v0 h).bind fun x317 =>
      (aI 0 x317 (8 + v3) h).bind fun x324 =>
      (tI x312 v3 x324 h).bind fun h325 =>
      (gR 8 5 v0 h325).bind fun x327 =>
      (gR 8 5 v0 h325).bind fun x332 =>
      (aI 0 x332 (8 + v3) h325).bind fun x339 =>
      (tI x327 v3 x339 h325).bind fun h340 =>
      (gR 8 6 v0 h340).bind fun x342 =>
      (gR 8 6 v0 h340).bind fun x347 =>
      (aI 0 x347 (8 + v3) h340).bind fun x354 =>
      (tI x342 v3 x354 h340).bind fun h355 =>
      (gR 8 7 v0 h355).bind fun x357 =>
      (gR 8 7 v0 h355).bind fun x362 =>
      (aI 0 x362 (8 + v3) h355).bind fun x369 =>
      (tI x357 v3 x369 h355).bind fun h370 =>
      (gR 8 8 v0 h370).bind fun x372 =>
      (gR 8 8 v0 h370).bind fun x377 =>
      (aI 0 x377 (8 + v3) h370).bind fun x384 =>
      (tI x372 v3 x384 h370).bind fun h385 =>
      f_X8_law_L305 n v0 v1 (v3 + 1) h385 k392
def f_X8_law_J392 (n : Nat) (v0 : Nat) (v1 : Int32) (h : Hp) : Option (Int32 × Hp) :=
  (f_X8_begin n v0 h).bind fun x393 =>
  (gR 8 18 v0 x393).bind fun x397 =>
  (tZ x397 0 0 x393).bind fun h402 =>
  (gR 8 18 v0 h402).bind fun x404 =>
  (tZ x404 1 0 h402).bind fun h409 =>
  (pI 8 10 v0 0 h409).bind fun h412 =>
  some (v1, h412)
def f_X8_law_J303 (n : Nat) (v0 : Nat) (v1 : Int32) (h : Hp) : Option (Int32 × Hp) :=
  f_X8_law_L305 n v0 v1 0 h (fun a0 a1 h => f_X8_law_J392 n a0 a1 h)
def f_X8_law_J221 (n : Nat) (v0 : Nat) (v1 : Int32) (h : Hp) : Option (Int32 × Hp) :=
  (gI 8 15 v0 h).bind fun x222 =>
  if x222 = (-9) then
    (gR 8 1 v0 h).bind fun x239 =>
    (gR 8 1 v0 h).bind fun x244 =>
    (aI 0 x244 1 h).bind fun x248 =>
    (tI x239 0 x248 h).bind fun h249 =>
    (gR 8 3 v0 h249).bind fun x251 =>
    (gR 8 3 v0 h249).bind fun x256 =>
    (aI 0 x256 2 h249).bind fun x260 =>
    (tI x251 0 x260 h249).bind fun h261 =>
    (gR 8 3 v0 h261).bind fun x263 =>
    (gR 8 3 v0 h261).bind fun x268 =>
    (aI 0 x268 3 h261).bind fun x272 =>
    (tI x263 1 x272 h261).bind fun h273 =>
    f_X8_law_L276 n v0 v1 0 h273 (fun a0 a1 h => f_X8_law_J303 n a0 a1 h)
  else
    (gI 8 15 v0 h).bind fun x233 =>
    some (((-10) - x233), h)
def f_X8_law_J57 (n : Nat) (v0 : Nat) (h : Hp) : Option (Int32 × Hp) :=
  (f_X8_next n v0 h).bind fun x62 =>
  f_X8_law_L65 n v0 0 0 x62 (fun a0 a1 h => f_X8_law_J221 n a0 a1 h)
def f_X8_law (n : Nat) (v0 : Nat) (h : Hp) : Option (Int32 × Hp) :=
  (ck 8 v0 h).bind fun _ =>
  (pI 8 11 v0 0 h).bind fun h2 =>
  (pI 8 15 v0 (-9) h2).bind fun h8 =>
  (gR 8 1 v0 h8).bind fun x12 =>
  (tI x12 1 30 h8).bind fun h18 =>
  (gR 8 3 v0 h18).bind fun x20 =>
  (tI x20 2 0 h18).bind fun h25 =>
  (gR 8 3 v0 h25).bind fun x27 =>
  (tI x27 3 0 h25).bind fun h32 =>
  f_X8_law_L35 n v0 0 h32 (fun a0 h => f_X8_law_J57 n a0 h)
def f_X8_kindNow (n : Nat) (v0 : Nat) (v1 : Int32) (h : Hp) : Option (Int32 × Hp) :=
  (ck 8 v0 h).bind fun _ =>
  (gR 8 17 v0 h).bind fun x1 =>
  (aL x1 0 h).bind fun x5 =>
  if (lg_cmp ((x5 >>> (v1.toInt64 &&& 63)) &&& 1) 1) = 0 then
    some (2, h)
  else
    (gR 8 2 v0 h).bind fun x20 =>
    (aI 0 x20 v1 h).bind fun x24 =>
    some (x24, h)
def f_X8_isDay (n : Nat) (v0 : Nat) (v1 : Int32) (h : Hp) : Option (Int32 × Hp) :=
  (ck 8 v0 h).bind fun _ =>
  (gR 8 1 v0 h).bind fun x3 =>
  (aI 0 x3 0 h).bind fun x7 =>
  (f_X8_in n v1 0 (x7 - 1) h).bind fun x10 =>
  zr x10.1 x10.2
def f_X8_isBill (n : Nat) (v0 : Int32) (h : Hp) : Option (Int32 × Hp) :=
  (f_X8_in n v0 0 1 h).bind fun x3 =>
  zr x3.1 x3.2
def f_X8_day (n : Nat) (v0 : Nat) (v1 : Int32) (h : Hp) : Option (Int32 × Hp) :=
  (ck 8 v0 h).bind fun _ =>
  (f_X8_isDay n v0 v1 h).bind fun x2 =>
  if x2.1 = 0 then
    some ((-1), x2.2)
  else
    (f_X8_kindNow n v0 v1 x2.2).bind fun x10 =>
    some (x10.1, x10.2)
def f_X8_days_J56 (n : Nat) (v0 : Nat) (v1 : Int32) (v3 : Int32) (v5 : Int32) (s0 : Int32) (s1 : Int32) (h : Hp) (k33 : Nat → Int32 → Int32 → Int32 → Int32 → Hp → Option (Int32 × Hp)) : Option (Int32 × Hp) :=
  k33 v0 v1 v3 (s0 + s1) (v5 + 1) h
def f_X8_days_L33 : Nat → Nat → Int32 → Int32 → Int32 → Int32 → Hp → Option (Int32 × Hp)
  | 0, _, _, _, _, _, _ => none
  | n + 1, v0, v1, v3, v4, v5, h =>
    if v3 < v5 then
      some (v4, h)
    else
      (f_X8_kindNow n v0 v5 h).bind fun x44 =>
      if x44.1 = v1 then
        f_X8_days_J56 n v0 v1 v3 v5 v4 1 x44.2 (fun a0 a1 a3 a4 a5 h => f_X8_days_L33 n a0 a1 a3 a4 a5 h)
      else
        f_X8_days_J56 n v0 v1 v3 v5 v4 0 x44.2 (fun a0 a1 a3 a4 a5 h => f_X8_days_L33 n a0 a1 a3 a4 a5 h)
def f_X8_days (n : Nat) (v0 : Nat) (v1 : Int32) (v2 : Int32) (v3 : Int32) (h : Hp) : Option (Int32 × Hp) :=
  (ck 8 v0 h).bind fun _ =>
  (f_X8_in n v1 0 3 h).bind fun x3 =>
  if x3.1 = 0 then
    some ((-1), x3.2)
  else
    (f_X8_isDay n v0 v2 x3.2).bind fun x11 =>
    if x11.1 = 0 then
      some ((-1), x11.2)
    else
      (f_X8_isDay n v0 v3 x11.2).bind fun x19 =>
      if x19.1 = 0 then
        some ((-1), x19.2)
      else
        f_X8_days_L33 n v0 v1 v3 0 v2 x19.2
def f_X8_isStep (n : Nat) (v0 : Nat) (v1 : Int32) (v2 : Int32) (h : Hp) : Option (Int32 × Hp) :=
  (ck 8 v0 h).bind fun _ =>
  (f_X8_isBill n v1 h).bind fun x1 =>
  if x1.1 = 0 then
    zr 0 x1.2
  else
    (gR 8 3 v0 x1.2).bind fun x10 =>
    (aI 0 x10 v1 x1.2).bind fun x14 =>
    (f_X8_in n v2 0 (x14 - 1) x1.2).bind fun x17 =>
    if x17.1 = 0 then
      zr 0 x17.2
    else
      zr 1 x17.2
def f_X8_step (n : Nat) (v0 : Nat) (v1 : Int32) (v2 : Int32) (v3 : Int32) (h : Hp) : Option (Int32 × Hp) :=
  (ck 8 v0 h).bind fun _ =>
  (f_X8_isStep n v0 v1 v2 h).bind fun x3 =>
  if x3.1 = 0 then
    some ((-1), x3.2)
  else
    if v3 = 0 then
      (gR 8 4 v0 x3.2).bind fun x53 =>
      (aI 0 x53 ((4 * v1) + v2) x3.2).bind fun x58 =>
      some (x58, x3.2)
    else if v3 = 1 then
      (gR 8 5 v0 x3.2).bind fun x61 =>
      (aI 0 x61 ((4 * v1) + v2) x3.2).bind fun x66 =>
      some (x66, x3.2)
    else if v3 = 2 then
      (gR 8 6 v0 x3.2).bind fun x69 =>
      (aI 0 x69 ((4 * v1) + v2) x3.2).bind fun x74 =>
      some (x74, x3.2)
    else if v3 = 3 then
      (gR 8 7 v0 x3.2).bind fun x77 =>
      (aI 0 x77 ((4 * v1) + v2) x3.2).bind fun x82 =>
      some (x82, x3.2)
    else if v3 = 4 then
      (gR 8 8 v0 x3.2).bind fun x85 =>
      (aI 0 x85 ((4 * v1) + v2) x3.2).bind fun x90 =>
      some (x90, x3.2)
    else 
      some ((-1), x3.2)
def f_X8_lay_J89 (n : Nat) (v0 : Nat) (v1 : Int32) (v2 : Int32) (v3 : Int32) (s0 : Nat) (s1 : Int32) (s2 : Int32) (s3 : Int32) (h : Hp) (k29 : Nat → Int32 → Int32 → Int32 → Hp → Option Hp) : Option Hp :=
  (tI s0 s1 (s2 + s3) h).bind fun h90 =>
  k29 v0 v1 v2 (v3 + 1) h90
def f_X8_lay_J60 (n : Nat) (v0 : Nat) (v1 : Int32) (v2 : Int32) (v3 : Int32) (s0 : Nat) (s1 : Int32) (s2 : Int32) (h : Hp) (k29 : Nat → Int32 → Int32 → Int32 → Hp → Option Hp) : Option Hp :=
  (tI s0 s1 s2 h).bind fun h60 =>
  (gR 8 26 v0 h60).bind fun x62 =>
  (gR 8 26 v0 h60).bind fun x69 =>
  (aI 0 x69 v3 h60).bind fun x73 =>
  (gR 8 25 v0 h60).bind fun x75 =>
  (aI 0 x75 v3 h60).bind fun x79 =>
  if x79 = 1 then
    f_X8_lay_J89 n v0 v1 v2 v3 x62 (v3 + 1) x73 1 h60 k29
  else
    f_X8_lay_J89 n v0 v1 v2 v3 x62 (v3 + 1) x73 0 h60 k29
def f_X8_lay_L29 : Nat → Nat → Int32 → Int32 → Int32 → Hp → (Nat → Int32 → Hp → Option Hp) → Option Hp
  | 0, _, _, _, _, _, _ => none
  | n + 1, v0, v1, v2, v3, h, k97 =>
    (gI 8 23 v0 h).bind fun x31 =>
    if x31 ≤ v3 then
      k97 v0 v1 h
    else
      (gR 8 25 v0 h).bind fun x38 =>
      if v2 = 0 then
        (gR 8 2 v0 h).bind fun x55 =>
        (aI 0 x55 v3 h).bind fun x59 =>
        f_X8_lay_J60 n v0 v1 v2 v3 x38 v3 x59 h (fun a0 a1 a2 a3 h => f_X8_lay_L29 n a0 a1 a2 a3 h k97)
      else
        (f_X8_kindNow n v0 v3 h).bind fun x48 =>
        f_X8_lay_J60 n v0 v1 v2 v3 x38 v3 x48.1 x48.2 (fun a0 a1 a2 a3 h => f_X8_lay_L29 n a0 a1 a2 a3 h k97)
def f_X8_lay_L99 : Nat → Nat → Int32 → Int32 → Hp → Option Hp
  | 0, _, _, _, _ => none
  | n + 1, v0, v1, v3, h =>
    if 4 ≤ v3 then
      some h
    else
      (gR 8 27 v0 h).bind fun x105 =>
      (gR 8 4 v0 h).bind fun x110 =>
      (aI 0 x110 ((4 * v1) + v3) h).bind fun x118 =>
      (tI x105 v3 x118 h).bind fun h119 =>
      (gR 8 28 v0 h119).bind fun x121 =>
      (gR 8 5 v0 h119).bind fun x126 =>
      (aI 0 x126 ((4 * v1) + v3) h119).bind fun x134 =>
      (tI x121 v3 x134 h119).bind fun h135 =>
      (gR 8 29 v0 h135).bind fun x137 =>
      (gR 8 6 v0 h135).bind fun x142 =>
      (aI 0 x142 ((4 * v1) + v3) h135).bind fun x150 =>
      (tI x137 v3 x150 h135).bind fun h151 =>
      (gR 8 30 v0 h151).bind fun x153 =>
      (gR 8 7 v0 h151).bind fun x158 =>
      (aI 0 x158 ((4 * v1) + v3) h151).bind fun x166 =>
      (tI x153 v3 x166 h151).bind fun h167 =>
      (gR 8 31 v0 h167).bind fun x169 =>
      (gR 8 8 v0 h167).bind fun x174 =>
      (aI 0 x174 ((4 * v1) + v3) h167).bind fun x182 =>
      (tI x169 v3 x182 h167).bind fun h183 =>
      f_X8_lay_L99 n v0 v1 (v3 + 1) h183
def f_X8_lay_J97 (n : Nat) (v0 : Nat) (v1 : Int32) (h : Hp) : Option Hp :=
  f_X8_lay_L99 n v0 v1 0 h
def f_X8_lay (n : Nat) (v0 : Nat) (v1 : Int32) (v2 : Int32) (h : Hp) : Option Hp :=
  (ck 8 v0 h).bind fun _ =>
  (gR 8 1 v0 h).bind fun x2 =>
  (aI 0 x2 0 h).bind fun x6 =>
  (pI 8 23 v0 x6 h).bind fun h7 =>
  (gR 8 3 v0 h7).bind fun x12 =>
  (aI 0 x12 v1 h7).bind fun x16 =>
  (pI 8 24 v0 x16 h7).bind fun h17 =>
  (gR 8 26 v0 h17).bind fun x21 =>
  (tI x21 0 0 h17).bind fun h26 =>
  f_X8_lay_L29 n v0 v1 v2 0 h26 (fun a0 a1 h => f_X8_lay_J97 n a0 a1 h)
def f_X8_isKind (n : Nat) (v0 : Nat) (v1 : Int32) (v2 : Int32) (h : Hp) : Option (Int32 × Hp) :=
  (ck 8 v0 h).bind fun _ =>
  (gR 8 27 v0 h).bind fun x1 =>
  (aI 0 x1 v1 h).bind fun x5 =>
  (gR 8 25 v0 h).bind fun x7 =>
  (aI 0 x7 v2 h).bind fun x11 =>
  if ((x5 >>> (x11 &&& 31)) &&& 1) = 1 then
    zr 1 h
  else
    zr 0 h
def f_X8_isFar_J46 (n : Nat) (v0 : Nat) (v1 : Int32) (v2 : Int32) (v3 : Int32) (s0 : Int32) (h : Hp) : Option (Int32 × Hp) :=
  (gR 8 28 v0 h).bind fun x51 =>
  (aI 0 x51 v1 h).bind fun x55 =>
  if s0 < x55 then
    zr 0 h
  else
    (gR 8 30 v0 h).bind fun x60 =>
    (aI 0 x60 v1 h).bind fun x64 =>
    if x64 = (-9) then
      zr 1 h
    else
      (gR 8 30 v0 h).bind fun x74 =>
      (aI 0 x74 v1 h).bind fun x78 =>
      if x78 < (v3 - v2) then
        zr 0 h
      else
        zr 1 h
def f_X8_isFar (n : Nat) (v0 : Nat) (v1 : Int32) (v2 : Int32) (v3 : Int32) (h : Hp) : Option (Int32 × Hp) :=
  (ck 8 v0 h).bind fun _ =>
  if v1 = 0 then
    zr 1 h
  else
    if v2 ≤ v3 then
      (gR 8 29 v0 h).bind fun x14 =>
      (aI 0 x14 v1 h).bind fun x18 =>
      if x18 = 1 then
        (gR 8 26 v0 h).bind fun x24 =>
        (aI 0 x24 (v3 + 1) h).bind fun x30 =>
        (gR 8 26 v0 h).bind fun x32 =>
        (aI 0 x32 (v2 + 1) h).bind fun x38 =>
        f_X8_isFar_J46 n v0 v1 v2 v3 (x30 - x38) h
      else
        f_X8_isFar_J46 n v0 v1 v2 v3 (v3 - v2) h
    else
      zr 0 h
def f_X8_isFallen (n : Nat) (v0 : Nat) (v1 : Int32) (v2 : Int32) (v3 : Int32) (h : Hp) : Option (Int32 × Hp) :=
  (ck 8 v0 h).bind fun _ =>
  if v1 ≤ 0 then
    zr 0 h
  else
    (gR 8 30 v0 h).bind fun x5 =>
    (aI 0 x5 v1 h).bind fun x9 =>
    if x9 = (-9) then
      zr 0 h
    else
      (gR 8 30 v0 h).bind fun x19 =>
      (aI 0 x19 v1 h).bind fun x23 =>
      if (v3 - v2) ≤ x23 then
        zr 0 h
      else
        zr 1 h
def f_X8_canOn (n : Nat) (v0 : Nat) (v1 : Int32) (v2 : Int32) (v3 : Int32) (h : Hp) : Option (Int32 × Hp) :=
  (ck 8 v0 h).bind fun _ =>
  (f_X8_isKind n v0 v1 v3 h).bind fun x3 =>
  if x3.1 = 0 then
    zr 0 x3.2
  else
    (f_X8_isFar n v0 v1 v2 v3 x3.2).bind fun x13 =>
    if x13.1 = 0 then
      zr 0 x13.2
    else
      zr 1 x13.2
def f_X8_may_J34 (n : Nat) (v0 : Nat) (v1 : Int32) (v2 : Int32) (v3 : Int32) (v4 : Int32) (h : Hp) : Option (Int32 × Hp) :=
  (f_X8_lay n v0 v1 1 h).bind fun x37 =>
  (f_X8_isKind n v0 v2 v4 x37).bind fun x44 =>
  if x44.1 = 0 then
    some (0, x44.2)
  else
    if v3 = (-9) then
      some (1, x44.2)
    else
      (f_X8_isFar n v0 v2 v3 v4 x44.2).bind fun x61 =>
      if x61.1 = 0 then
        some (0, x61.2)
      else
        some (1, x61.2)
def f_X8_may (n : Nat) (v0 : Nat) (v1 : Int32) (v2 : Int32) (v3 : Int32) (v4 : Int32) (h : Hp) : Option (Int32 × Hp) :=
  (ck 8 v0 h).bind fun _ =>
  (f_X8_isStep n v0 v1 v2 h).bind fun x3 =>
  if x3.1 = 0 then
    some ((-1), x3.2)
  else
    (f_X8_isDay n v0 v4 x3.2).bind fun x12 =>
    if x12.1 = 0 then
      some ((-1), x12.2)
    else
      if v3 = (-9) then
        f_X8_may_J34 n v0 v1 v2 v3 v4 x12.2
      else
        (f_X8_isDay n v0 v3 x12.2).bind fun x26 =>
        if x26.1 = 0 then
          some ((-1), x26.2)
        else
          f_X8_may_J34 n v0 v1 v2 v3 v4 x26.2
def f_X8_timesOf_J33 (n : Nat) (v0 : Nat) (v1 : Int32) (v3 : Int32) (s0 : Int32) (s1 : Int32) (h : Hp) (k4 : Nat → Int32 → Int32 → Int32 → Hp → Option (Int32 × Hp)) : Option (Int32 × Hp) :=
  k4 v0 v1 (s0 + s1) (v3 + 1) h
def f_X8_timesOf_L4 : Nat → Nat → Int32 → Int32 → Int32 → Hp → Option (Int32 × Hp)
  | 0, _, _, _, _, _ => none
  | n + 1, v0, v1, v2, v3, h =>
    (gI 8 20 v0 h).bind fun x6 =>
    if x6 ≤ v3 then
      some (v2, h)
    else
      (gR 8 21 v0 h).bind fun x14 =>
      (aI 0 x14 v3 h).bind fun x18 =>
      if x18 = v1 then
        (gR 8 22 v0 h).bind fun x24 =>
        (aI 0 x24 v3 h).bind fun x28 =>
        f_X8_timesOf_J33 n v0 v1 v3 v2 x28 h (fun a0 a1 a2 a3 h => f_X8_timesOf_L4 n a0 a1 a2 a3 h)
      else
        f_X8_timesOf_J33 n v0 v1 v3 v2 0 h (fun a0 a1 a2 a3 h => f_X8_timesOf_L4 n a0 a1 a2 a3 h)
def f_X8_timesOf (n : Nat) (v0 : Nat) (v1 : Int32) (h : Hp) : Option (Int32 × Hp) :=
  (ck 8 v0 h).bind fun _ =>
  f_X8_timesOf_L4 n v0 v1 0 0 h
def f_X8_leftOf_J36 (n : Nat) (v0 : Nat) (v1 : Int32) (v3 : Int32) (s0 : Int32) (s1 : Int32) (h : Hp) (k4 : Nat → Int32 → Int32 → Int32 → Hp → Option (Int32 × Hp)) : Option (Int32 × Hp) :=
  k4 v0 v1 (s0 + s1) (v3 + 1) h
def f_X8_leftOf_L4 : Nat → Nat → Int32 → Int32 → Int32 → Hp → Option (Int32 × Hp)
  | 0, _, _, _, _, _ => none
  | n + 1, v0, v1, v2, v3, h =>
    (gI 8 20 v0 h).bind fun x6 =>
    if x6 ≤ v3 then
      some (v2, h)
    else
      (gR 8 21 v0 h).bind fun x14 =>
      (aI 0 x14 v3 h).bind fun x18 =>
      if x18 = v1 then
        (gR 8 16 v0 h).bind fun x24 =>
        (aI 0 x24 (20 + v3) h).bind fun x31 =>
        f_X8_leftOf_J36 n v0 v1 v3 v2 x31 h (fun a0 a1 a2 a3 h => f_X8_leftOf_L4 n a0 a1 a2 a3 h)
      else
        f_X8_leftOf_J36 n v0 v1 v3 v2 0 h (fun a0 a1 a2 a3 h => f_X8_leftOf_L4 n a0 a1 a2 a3 h)
def f_X8_leftOf (n : Nat) (v0 : Nat) (v1 : Int32) (h : Hp) : Option (Int32 × Hp) :=
  (ck 8 v0 h).bind fun _ =>
  f_X8_leftOf_L4 n v0 v1 0 0 h
def f_X8_person_J48 (n : Nat) (v0 : Nat) (v1 : Int32) (v2 : Int32) (h : Hp) : Option (Int32 × Hp) :=
  (gR 8 21 v0 h).bind fun x49 =>
  (gI 8 20 v0 h).bind fun x53 =>
  (tI x49 x53 v1 h).bind fun h57 =>
  (gR 8 22 v0 h57).bind fun x59 =>
  (gI 8 20 v0 h57).bind fun x63 =>
  (tI x59 x63 v2 h57).bind fun h67 =>
  (gR 8 16 v0 h67).bind fun x69 =>
  (gI 8 20 v0 h67).bind fun x75 =>
  (tI x69 (20 + x75) v2 h67).bind fun h80 =>
  (gI 8 20 v0 h80).bind fun x83 =>
  (pI 8 20 v0 (x83 + 1) h80).bind fun h88 =>
  (gI 8 20 v0 h88).bind fun x92 =>
  some ((x92 - 1), h88)
def f_X8_person (n : Nat) (v0 : Nat) (v1 : Int32) (v2 : Int32) (h : Hp) : Option (Int32 × Hp) :=
  (ck 8 v0 h).bind fun _ =>
  (f_X8_in n v1 0 2 h).bind fun x3 =>
  if x3.1 = 0 then
    some ((-1), x3.2)
  else
    (f_X8_in n v2 0 3 x3.2).bind fun x12 =>
    if x12.1 = 0 then
      some ((-1), x12.2)
    else
      (gI 8 20 v0 x12.2).bind fun x21 =>
      if x21 = 8 then
        some ((-3), x12.2)
      else
        if v1 ≤ 0 then
          f_X8_person_J48 n v0 v1 v2 x12.2
        else
          (f_X8_timesOf n v0 v1 x12.2).bind fun x35 =>
          if (x35.1 + v2) ≤ 6 then
            f_X8_person_J48 n v0 v1 v2 x35.2
          else
            some ((-3), x35.2)
def f_X8_isPerson (n : Nat) (v0 : Nat) (v1 : Int32) (h : Hp) : Option (Int32 × Hp) :=
  (ck 8 v0 h).bind fun _ =>
  (gI 8 20 v0 h).bind fun x3 =>
  (f_X8_in n v1 0 (x3 - 1) h).bind fun x8 =>
  zr x8.1 x8.2
def f_X8_who (n : Nat) (v0 : Nat) (v1 : Int32) (v2 : Int32) (h : Hp) : Option (Int32 × Hp) :=
  (ck 8 v0 h).bind fun _ =>
  (f_X8_isPerson n v0 v1 h).bind fun x2 =>
  if x2.1 = 0 then
    some ((-1), x2.2)
  else
    if v2 = 0 then
      (gR 8 21 v0 x2.2).bind fun x15 =>
      (aI 0 x15 v1 x2.2).bind fun x19 =>
      some (x19, x2.2)
    else
      if v2 = 1 then
        (gR 8 22 v0 x2.2).bind fun x29 =>
        (aI 0 x29 v1 x2.2).bind fun x33 =>
        some (x33, x2.2)
      else
        if v2 = 2 then
          (gR 8 16 v0 x2.2).bind fun x43 =>
          (aI 0 x43 (20 + v1) x2.2).bind fun x50 =>
          some (x50, x2.2)
        else
          some ((-1), x2.2)
def f_X8_doneOf_J72 (n : Nat) (v2 : Int32) (h : Hp) (k73 : Int32 → Int32 → Hp → Option (Int32 × Hp)) : Option (Int32 × Hp) :=
  k73 v2 0 h
def f_X8_doneOf_J73 (n : Nat) (v2 : Int32) (s0 : Int32) (h : Hp) : Option (Int32 × Hp) :=
  if s0 = 0 then
    some (v2, h)
  else
    some (0, h)
def f_X8_doneOf (n : Nat) (v0 : Nat) (v1 : Int32) (h : Hp) : Option (Int32 × Hp) :=
  (ck 8 v0 h).bind fun _ =>
  (gR 8 16 v0 h).bind fun x1 =>
  (aI 0 x1 (16 + v1) h).bind fun x8 =>
  if x8 ≤ 0 then
    f_X8_doneOf_J72 n x8 h (fun a2 b0 h => f_X8_doneOf_J73 n a2 b0 h)
  else
    (gR 8 3 v0 h).bind fun x16 =>
    (aI 0 x16 v1 h).bind fun x20 =>
    if x20 ≤ x8 then
      f_X8_doneOf_J72 n x8 h (fun a2 b0 h => f_X8_doneOf_J73 n a2 b0 h)
    else
      (gR 8 7 v0 h).bind fun x25 =>
      (aI 0 x25 ((4 * v1) + x8) h).bind fun x33 =>
      if x33 = (-9) then
        f_X8_doneOf_J72 n x8 h (fun a2 b0 h => f_X8_doneOf_J73 n a2 b0 h)
      else
        (gR 8 16 v0 h).bind fun x40 =>
        (aI 0 x40 0 h).bind fun x44 =>
        (gR 8 16 v0 h).bind fun x46 =>
        (aI 0 x46 (18 + v1) h).bind fun x53 =>
        (gR 8 7 v0 h).bind fun x56 =>
        (aI 0 x56 ((4 * v1) + x8) h).bind fun x64 =>
        if (x44 - x53) ≤ x64 then
          f_X8_doneOf_J72 n x8 h (fun a2 b0 h => f_X8_doneOf_J73 n a2 b0 h)
        else
          f_X8_doneOf_J73 n x8 1 h
def f_X8_isCarried (n : Nat) (v0 : Nat) (v1 : Int32) (h : Hp) : Option (Int32 × Hp) :=
  (ck 8 v0 h).bind fun _ =>
  (gR 8 16 v0 h).bind fun x1 =>
  (aI 0 x1 5 h).bind fun x5 =>
  if ((x5 >>> (v1 &&& 31)) &&& 1) = 1 then
    zr 1 h
  else
    zr 0 h
def f_X8_isVoid (n : Nat) (v0 : Nat) (v1 : Int32) (h : Hp) : Option (Int32 × Hp) :=
  (ck 8 v0 h).bind fun _ =>
  (gR 8 16 v0 h).bind fun x1 =>
  (aI 0 x1 6 h).bind fun x6 =>
  if ((x6 >>> (v1 &&& 31)) &&& 1) = 1 then
    zr 1 h
  else
    zr 0 h
def f_X8_call_J190 (n : Nat) (s0 : Nat) (s1 : Int32) (s2 : Int32) (h : Hp) (k191 : Nat → Int32 → Int32 → Int32 → Hp → Option (Int32 × Hp)) : Option (Int32 × Hp) :=
  k191 s0 s1 s2 0 h
def f_X8_call_J191 (n : Nat) (s0 : Nat) (s1 : Int32) (s2 : Int32) (s3 : Int32) (h : Hp) : Option (Int32 × Hp) :=
  (tI s0 s1 (s2 ||| s3) h).bind fun h192 =>
  zr 1 h192
def f_X8_call (n : Nat) (v0 : Nat) (v1 : Int32) (h : Hp) : Option (Int32 × Hp) :=
  (ck 8 v0 h).bind fun _ =>
  (f_X8_doneOf n v0 v1 h).bind fun x2 =>
  (gR 8 3 v0 x2.2).bind fun x8 =>
  (aI 0 x8 v1 x2.2).bind fun x12 =>
  if x2.1 = x12 then
    zr 0 x2.2
  else
    (gR 8 16 v0 x2.2).bind fun x17 =>
    (aI 0 x17 4 x2.2).bind fun x21 =>
    if x21 = 1 then
      zr 0 x2.2
    else
      (f_X8_lay n v0 v1 1 x2.2).bind fun x31 =>
      (gR 8 16 v0 x31).bind fun x35 =>
      (aI 0 x35 0 x31).bind fun x39 =>
      (gR 8 16 v0 x31).bind fun x44 =>
      (aI 0 x44 (18 + v1) x31).bind fun x51 =>
      (f_X8_canOn n v0 x2.1 x51 x39 x31).bind fun x53 =>
      if x53.1 = 0 then
        zr 0 x53.2
      else
        (gR 8 16 v0 x53.2).bind fun x62 =>
        (tI x62 9 v1 x53.2).bind fun h68 =>
        (gR 8 16 v0 h68).bind fun x70 =>
        (tI x70 10 x2.1 h68).bind fun h76 =>
        (gR 8 16 v0 h76).bind fun x78 =>
        (gR 8 16 v0 h76).bind fun x84 =>
        (aI 0 x84 (16 + v1) h76).bind fun x91 =>
        (tI x78 11 x91 h76).bind fun h92 =>
        (gR 8 16 v0 h92).bind fun x94 =>
        (gR 8 16 v0 h92).bind fun x100 =>
        (aI 0 x100 (18 + v1) h92).bind fun x107 =>
        (tI x94 12 x107 h92).bind fun h108 =>
        (gR 8 16 v0 h108).bind fun x110 =>
        (tI x110 13 (x2.1 + 1) h108).bind fun h118 =>
        (gR 8 16 v0 h118).bind fun x120 =>
        (tI x120 14 x39 h118).bind fun h126 =>
        (gR 8 16 v0 h126).bind fun x128 =>
        (tI x128 (16 + v1) (x2.1 + 1) h126).bind fun h138 =>
        (gR 8 16 v0 h138).bind fun x140 =>
        (tI x140 (18 + v1) x39 h138).bind fun h148 =>
        (gR 8 16 v0 h148).bind fun x150 =>
        (tI x150 7 1 h148).bind fun h156 =>
        (gR 8 16 v0 h156).bind fun x158 =>
        (aI 0 x158 5 h156).bind fun x163 =>
        (gR 8 3 v0 h156).bind fun x168 =>
        (aI 0 x168 v1 h156).bind fun x172 =>
        if (x2.1 + 1) = x172 then
          (f_X8_isVoid n v0 v1 h156).bind fun x178 =>
          if x178.1 = 0 then
            f_X8_call_J191 n x158 5 x163 (1 <<< (v1 &&& 31)) x178.2
          else
            f_X8_call_J190 n x158 5 x163 x178.2 (fun b0 b1 b2 b3 h => f_X8_call_J191 n b0 b1 b2 b3 h)
        else
          f_X8_call_J190 n x158 5 x163 h156 (fun b0 b1 b2 b3 h => f_X8_call_J191 n b0 b1 b2 b3 h)
def f_X8_forbids_J43 (n : Nat) (v0 : Nat) (v1 : Int32) (v2 : Int32) (h : Hp) (k44 : Nat → Int32 → Int32 → Int32 → Hp → Option (Int32 × Hp)) : Option (Int32 × Hp) :=
  k44 v0 v1 v2 0 h
def f_X8_forbids_J44 (n : Nat) (v0 : Nat) (v1 : Int32) (v2 : Int32) (s0 : Int32) (h : Hp) : Option (Int32 × Hp) :=
  if s0 = 0 then
    zr 0 h
  else
    (gR 8 8 v0 h).bind fun x50 =>
    (gR 8 16 v0 h).bind fun x57 =>
    (aI 0 x57 10 h).bind fun x62 =>
    (aI 0 x50 ((4 * v2) + x62) h).bind fun x64 =>
    (gR 8 21 v0 h).bind fun x66 =>
    (aI 0 x66 v1 h).bind fun x70 =>
    if (x64 &&& x70) = 0 then
      zr 0 h
    else
      (gR 8 16 v0 h).bind fun x78 =>
      (gR 8 16 v0 h).bind fun x86 =>
      (aI 0 x86 11 h).bind fun x91 =>
      (tI x78 (16 + v2) x91 h).bind fun h92 =>
      (gR 8 16 v0 h92).bind fun x94 =>
      (gR 8 16 v0 h92).bind fun x102 =>
      (aI 0 x102 12 h92).bind fun x107 =>
      (tI x94 (18 + v2) x107 h92).bind fun h108 =>
      (gR 8 16 v0 h108).bind fun x110 =>
      (aI 0 x110 5 h108).bind fun x115 =>
      (tI x110 5 (x115 &&& ((1 <<< (v2 &&& 31)) ^^^ (-1))) h108).bind fun h122 =>
      (gR 8 16 v0 h122).bind fun x124 =>
      (aI 0 x124 (20 + v1) h122).bind fun x132 =>
      (tI x124 (20 + v1) (x132 - 1) h122).bind fun h135 =>
      zr 1 h135
def f_X8_forbids (n : Nat) (v0 : Nat) (v1 : Int32) (h : Hp) : Option (Int32 × Hp) :=
  (ck 8 v0 h).bind fun _ =>
  (gR 8 16 v0 h).bind fun x1 =>
  (aI 0 x1 9 h).bind fun x6 =>
  (gR 8 16 v0 h).bind fun x9 =>
  (aI 0 x9 8 h).bind fun x14 =>
  if x14 = 0 then
    (gR 8 21 v0 h).bind fun x19 =>
    (aI 0 x19 v1 h).bind fun x23 =>
    if x23 ≤ 0 then
      f_X8_forbids_J43 n v0 v1 x6 h (fun a0 a1 a2 b0 h => f_X8_forbids_J44 n a0 a1 a2 b0 h)
    else
      (gR 8 16 v0 h).bind fun x28 =>
      (aI 0 x28 (20 + v1) h).bind fun x35 =>
      if x35 ≤ 0 then
        f_X8_forbids_J43 n v0 v1 x6 h (fun a0 a1 a2 b0 h => f_X8_forbids_J44 n a0 a1 a2 b0 h)
      else
        f_X8_forbids_J44 n v0 v1 x6 1 h
  else
    f_X8_forbids_J43 n v0 v1 x6 h (fun a0 a1 a2 b0 h => f_X8_forbids_J44 n a0 a1 a2 b0 h)
def f_X8_isSigner (n : Nat) (v0 : Nat) (v1 : Int32) (h : Hp) : Option (Int32 × Hp) :=
  (ck 8 v0 h).bind fun _ =>
  (gR 8 21 v0 h).bind fun x1 =>
  (aI 0 x1 v1 h).bind fun x5 =>
  if x5 = 2 then
    (gR 8 16 v0 h).bind fun x11 =>
    (aI 0 x11 (20 + v1) h).bind fun x18 =>
    if x18 ≤ 0 then
      zr 0 h
    else
      zr 1 h
  else
    zr 0 h
def f_X8_isLawful (n : Nat) (v0 : Nat) (v1 : Int32) (v2 : Int32) (v3 : Int32) (h : Hp) : Option (Int32 × Hp) :=
  (ck 8 v0 h).bind fun _ =>
  if v1 = 0 then
    (f_X8_call n v0 v3 h).bind fun x38 =>
    zr x38.1 x38.2
  else if v1 = 1 then
    (f_X8_forbids n v0 v2 h).bind fun x44 =>
    zr x44.1 x44.2
  else if v1 = 2 then
    (f_X8_isSigner n v0 v2 h).bind fun x50 =>
    if x50.1 = 0 then
      zr 0 x50.2
    else
      (gR 8 16 v0 x50.2).bind fun x57 =>
      (aI 0 x57 7 x50.2).bind fun x62 =>
      if x62 = 1 then
        zr 0 x50.2
      else
        (gR 8 16 v0 x50.2).bind fun x68 =>
        (aI 0 x68 4 x50.2).bind fun x72 =>
        if x72 = 1 then
          zr 0 x50.2
        else
          (gR 8 16 v0 x50.2).bind fun x80 =>
          (tI x80 4 1 x50.2).bind fun h85 =>
          (gR 8 16 v0 h85).bind fun x87 =>
          (aI 0 x87 (20 + v2) h85).bind fun x95 =>
          (tI x87 (20 + v2) (x95 - 1) h85).bind fun h98 =>
          zr 1 h98
  else if v1 = 3 then
    (f_X8_isSigner n v0 v2 h).bind fun x103 =>
    if x103.1 = 0 then
      zr 0 x103.2
    else
      (gR 8 16 v0 x103.2).bind fun x111 =>
      (aI 0 x111 0 x103.2).bind fun x115 =>
      if v3 ≤ x115 then
        zr 0 x103.2
      else
        (f_X8_kindNow n v0 v3 x103.2).bind fun x121 =>
        if x121.1 = 2 then
          zr 0 x121.2
        else
          (gR 8 17 v0 x121.2).bind fun x131 =>
          (aL x131 0 x121.2).bind fun x136 =>
          (tL x131 0 (x136 ||| (1 <<< (v3.toInt64 &&& 63))) x121.2).bind fun h141 =>
          (gR 8 16 v0 h141).bind fun x143 =>
          (aI 0 x143 (20 + v2) h141).bind fun x151 =>
          (tI x143 (20 + v2) (x151 - 1) h141).bind fun h154 =>
          zr 1 h154
  else if v1 = 4 then
    (gR 8 16 v0 h).bind fun x158 =>
    (aI 0 x158 8 h).bind fun x163 =>
    if x163 = 1 then
      (gR 8 16 v0 h).bind fun x171 =>
      (gR 8 16 v0 h).bind fun x177 =>
      (aI 0 x177 9 h).bind fun x182 =>
      (gR 8 16 v0 h).bind fun x185 =>
      (aI 0 x185 13 h).bind fun x190 =>
      (tI x171 (16 + x182) x190 h).bind fun h191 =>
      (gR 8 16 v0 h191).bind fun x193 =>
      (gR 8 16 v0 h191).bind fun x199 =>
      (aI 0 x199 9 h191).bind fun x204 =>
      (gR 8 16 v0 h191).bind fun x207 =>
      (aI 0 x207 14 h191).bind fun x212 =>
      (tI x193 (18 + x204) x212 h191).bind fun h213 =>
      (gR 8 16 v0 h213).bind fun x215 =>
      (aI 0 x215 6 h213).bind fun x221 =>
      (gR 8 16 v0 h213).bind fun x224 =>
      (aI 0 x224 9 h213).bind fun x229 =>
      (tI x215 6 (x221 ||| (1 <<< (x229 &&& 31))) h213).bind fun h232 =>
      zr 1 h232
    else
      zr 0 h
  else 
    (gR 8 16 v0 h).bind fun x236 =>
    (aI 0 x236 0 h).bind fun x240 =>
    (gR 8 1 v0 h).bind fun x242 =>
    (aI 0 x242 0 h).bind fun x246 =>
    if x240 = (x246 - 1) then
      zr 0 h
    else
      (gR 8 16 v0 h).bind fun x255 =>
      (aI 0 x255 0 h).bind fun x260 =>
      (tI x255 0 (x260 + 1) h).bind fun h263 =>
      (gR 8 16 v0 h263).bind fun x265 =>
      (tI x265 4 0 h263).bind fun h270 =>
      (gR 8 16 v0 h270).bind fun x272 =>
      (tI x272 7 0 h270).bind fun h278 =>
      zr 1 h278
def f_X8_act_J114 (n : Nat) (v0 : Nat) (v4 : Int32) (s0 : Nat) (s1 : Int32) (s2 : Int32) (h : Hp) (k125 : Nat → Int32 → Hp → Option (Int32 × Hp)) : Option (Int32 × Hp) :=
  (tI s0 s1 s2 h).bind fun h114 =>
  (gR 8 16 v0 h114).bind fun x116 =>
  (aI 0 x116 2 h114).bind fun x121 =>
  (tI x116 2 (x121 + 1) h114).bind fun h124 =>
  k125 v0 v4 h124
def f_X8_act_J125 (n : Nat) (v0 : Nat) (v4 : Int32) (h : Hp) : Option (Int32 × Hp) :=
  (gR 8 16 v0 h).bind fun x126 =>
  (aI 0 x126 1 h).bind fun x131 =>
  (tI x126 1 (x131 + 1) h).bind fun h134 =>
  if v4 = 0 then
    some (0, h134)
  else
    some (1, h134)
def f_X8_act_J79 (n : Nat) (v0 : Nat) (v4 : Int32) (s0 : Nat) (s1 : Int32) (s2 : Int32) (h : Hp) : Option (Int32 × Hp) :=
  (tI s0 s1 s2 h).bind fun h79 =>
  if v4 = 0 then
    (gR 8 16 v0 h79).bind fun x86 =>
    (gR 8 16 v0 h79).bind fun x91 =>
    (aI 0 x91 2 h79).bind fun x95 =>
    if x95 = 0 then
      (gR 8 16 v0 h79).bind fun x100 =>
      (aI 0 x100 1 h79).bind fun x104 =>
      f_X8_act_J114 n v0 v4 x86 3 x104 h79 (fun a0 a4 h => f_X8_act_J125 n a0 a4 h)
    else
      (gR 8 16 v0 h79).bind fun x109 =>
      (aI 0 x109 3 h79).bind fun x113 =>
      f_X8_act_J114 n v0 v4 x86 3 x113 h79 (fun a0 a4 h => f_X8_act_J125 n a0 a4 h)
  else
    f_X8_act_J125 n v0 v4 h79
def f_X8_act_J53 (n : Nat) (v0 : Nat) (v1 : Int32) (v2 : Int32) (v3 : Int32) (h : Hp) : Option (Int32 × Hp) :=
  (f_X8_isLawful n v0 v1 v2 v3 h).bind fun x57 =>
  (gR 8 16 v0 x57.2).bind fun x63 =>
  if x57.1 = 0 then
    f_X8_act_J79 n v0 x57.1 x63 8 (-9) x57.2
  else
    f_X8_act_J79 n v0 x57.1 x63 8 v1 x57.2
def f_X8_act (n : Nat) (v0 : Nat) (v1 : Int32) (v2 : Int32) (v3 : Int32) (h : Hp) : Option (Int32 × Hp) :=
  (ck 8 v0 h).bind fun _ =>
  (f_X8_in n v1 0 5 h).bind fun x3 =>
  if x3.1 = 0 then
    some ((-1), x3.2)
  else
    (f_X8_isPerson n v0 v2 x3.2).bind fun x11 =>
    if x11.1 = 0 then
      some ((-1), x11.2)
    else
      if v1 = 0 then
        (f_X8_isBill n v3 x11.2).bind fun x22 =>
        if x22.1 = 0 then
          some ((-1), x22.2)
        else
          f_X8_act_J53 n v0 v1 v2 v3 x22.2
      else
        if v1 = 3 then
          (f_X8_isDay n v0 v3 x11.2).bind fun x38 =>
          if x38.1 = 0 then
            some ((-1), x38.2)
          else
            f_X8_act_J53 n v0 v1 v2 v3 x38.2
        else
          if v3 = 0 then
            f_X8_act_J53 n v0 v1 v2 v3 x11.2
          else
            some ((-1), x11.2)
def f_X8_now (n : Nat) (v0 : Nat) (v1 : Int32) (h : Hp) : Option (Int32 × Hp) :=
  (ck 8 v0 h).bind fun _ =>
  (f_X8_in n v1 0 6 h).bind fun x4 =>
  if x4.1 = 0 then
    some ((-1), x4.2)
  else
    (gR 8 16 v0 x4.2).bind fun x11 =>
    (aI 0 x11 v1 x4.2).bind fun x15 =>
    some (x15, x4.2)
def f_X8_bill (n : Nat) (v0 : Nat) (v1 : Int32) (v2 : Int32) (h : Hp) : Option (Int32 × Hp) :=
  (ck 8 v0 h).bind fun _ =>
  (f_X8_isBill n v1 h).bind fun x1 =>
  if x1.1 = 0 then
    some ((-1), x1.2)
  else
    (f_X8_in n v2 0 2 x1.2).bind fun x10 =>
    if x10.1 = 0 then
      some ((-1), x10.2)
    else
      (f_X8_doneOf n v0 v1 x10.2).bind fun x20 =>
      if v2 = 0 then
        (gR 8 3 v0 x20.2).bind fun x29 =>
        (aI 0 x29 v1 x20.2).bind fun x33 =>
        some (x33, x20.2)
      else
        if v2 = 1 then
          some (x20.1, x20.2)
        else
          if x20.1 = 0 then
            some ((-9), x20.2)
          else
            (gR 8 16 v0 x20.2).bind fun x56 =>
            (aI 0 x56 (18 + v1) x20.2).bind fun x63 =>
            some (x63, x20.2)
def f_X8_isOpen (n : Nat) (v0 : Nat) (v1 : Int32) (h : Hp) : Option (Int32 × Hp) :=
  (ck 8 v0 h).bind fun _ =>
  (gR 8 3 v0 h).bind fun x1 =>
  (aI 0 x1 v1 h).bind fun x5 =>
  if x5 ≤ 0 then
    zr 0 h
  else
    (f_X8_isCarried n v0 v1 h).bind fun x11 =>
    if x11.1 = 0 then
      (f_X8_isVoid n v0 v1 x11.2).bind fun x19 =>
      if x19.1 = 0 then
        zr 1 x19.2
      else
        zr 0 x19.2
    else
      zr 0 x11.2
def f_X8_findEnds_J62 (n : Nat) (v0 : Nat) (v1 : Int32) (v2 : Int32) (v3 : Int32) (h : Hp) (k80 : Nat → Int32 → Int32 → Int32 → Int32 → Hp → Option Hp) : Option Hp :=
  k80 v0 v1 v2 v3 9999 h
def f_X8_findEnds_J192 (n : Nat) (v0 : Nat) (v1 : Int32) (v2 : Int32) (v3 : Int32) (v5 : Int32) (s0 : Int32) (h : Hp) (k194 : Nat → Int32 → Int32 → Int32 → Int32 → Int32 → Hp → Option Hp) : Option Hp :=
  k194 v0 v1 v2 v3 s0 v5 h
def f_X8_findEnds_J153 (n : Nat) (v0 : Nat) (v1 : Int32) (v2 : Int32) (v4 : Int32) (v5 : Int32) (s0 : Int32) (h : Hp) (k194 : Nat → Int32 → Int32 → Int32 → Int32 → Int32 → Hp → Option Hp) : Option Hp :=
  (gR 8 33 v0 h).bind fun x155 =>
  (aI 0 x155 ((60 * (v1 + 1)) + v5) h).bind fun x167 =>
  if v4 ≤ x167 then
    f_X8_findEnds_J192 n v0 v1 v2 s0 v5 v4 h k194
  else
    (gR 8 33 v0 h).bind fun x174 =>
    (aI 0 x174 ((60 * (v1 + 1)) + v5) h).bind fun x186 =>
    f_X8_findEnds_J192 n v0 v1 v2 s0 v5 x186 h k194
def f_X8_findEnds_J194 (n : Nat) (v0 : Nat) (v1 : Int32) (v2 : Int32) (v3 : Int32) (v4 : Int32) (v5 : Int32) (h : Hp) (k85 : Nat → Int32 → Int32 → Int32 → Int32 → Int32 → Hp → Option Hp) : Option Hp :=
  k85 v0 v1 v2 v3 v4 (v5 + 1) h
def f_X8_findEnds_L85 : Nat → Nat → Int32 → Int32 → Int32 → Int32 → Int32 → Hp → (Nat → Int32 → Int32 → Int32 → Int32 → Hp → Option Hp) → Option Hp
  | 0, _, _, _, _, _, _, _, _ => none
  | n + 1, v0, v1, v2, v3, v4, v5, h, k200 =>
    (gI 8 23 v0 h).bind fun x88 =>
    if x88 ≤ v5 then
      k200 v0 v1 v2 v3 v4 h
    else
      (gI 8 24 v0 h).bind fun x98 =>
      if x98 ≤ (v1 + 1) then
        k200 v0 v1 v2 v3 v4 h
      else
        (f_X8_canOn n v0 (v1 + 1) v2 v5 h).bind fun x111 =>
        if x111.1 = 0 then
          f_X8_findEnds_J194 n v0 v1 v2 v3 v4 v5 x111.2 (fun a0 a1 a2 a3 a4 a5 h => f_X8_findEnds_L85 n a0 a1 a2 a3 a4 a5 h k200)
        else
          (gR 8 32 v0 x111.2).bind fun x118 =>
          (aI 0 x118 ((60 * (v1 + 1)) + v5) x111.2).bind fun x130 =>
          if v3 ≤ x130 then
            f_X8_findEnds_J153 n v0 v1 v2 v4 v5 v3 x111.2 (fun a0 a1 a2 a3 a4 a5 h => f_X8_findEnds_J194 n a0 a1 a2 a3 a4 a5 h (fun a0 a1 a2 a3 a4 a5 h => f_X8_findEnds_L85 n a0 a1 a2 a3 a4 a5 h k200))
          else
            (gR 8 32 v0 x111.2).bind fun x136 =>
            (aI 0 x136 ((60 * (v1 + 1)) + v5) x111.2).bind fun x148 =>
            f_X8_findEnds_J153 n v0 v1 v2 v4 v5 x148 x111.2 (fun a0 a1 a2 a3 a4 a5 h => f_X8_findEnds_J194 n a0 a1 a2 a3 a4 a5 h (fun a0 a1 a2 a3 a4 a5 h => f_X8_findEnds_L85 n a0 a1 a2 a3 a4 a5 h k200))
def f_X8_findEnds_J200 (n : Nat) (v0 : Nat) (v1 : Int32) (v2 : Int32) (v3 : Int32) (v4 : Int32) (h : Hp) (k13 : Nat → Int32 → Int32 → Hp → Option Hp) : Option Hp :=
  (gR 8 32 v0 h).bind fun x201 =>
  (tI x201 ((60 * v1) + v2) v3 h).bind fun h211 =>
  (gR 8 33 v0 h211).bind fun x213 =>
  (tI x213 ((60 * v1) + v2) v4 h211).bind fun h224 =>
  k13 v0 v1 (v2 + 1) h224
def f_X8_findEnds_J80 (n : Nat) (v0 : Nat) (v1 : Int32) (v2 : Int32) (v3 : Int32) (s0 : Int32) (h : Hp) (k13 : Nat → Int32 → Int32 → Hp → Option Hp) : Option Hp :=
  f_X8_findEnds_L85 n v0 v1 v2 v3 s0 v2 h (fun a0 a1 a2 a3 a4 h => f_X8_findEnds_J200 n a0 a1 a2 a3 a4 h k13)
def f_X8_findEnds_J38 (n : Nat) (v0 : Nat) (v1 : Int32) (v2 : Int32) (s0 : Int32) (h : Hp) (k13 : Nat → Int32 → Int32 → Hp → Option Hp) : Option Hp :=
  (gI 8 24 v0 h).bind fun x43 =>
  if (v1 + 1) = x43 then
    f_X8_findEnds_J62 n v0 v1 v2 s0 h (fun a0 a1 a2 a3 b0 h => f_X8_findEnds_J80 n a0 a1 a2 a3 b0 h k13)
  else
    (gR 8 30 v0 h).bind fun x50 =>
    (aI 0 x50 (v1 + 1) h).bind fun x56 =>
    if x56 = (-9) then
      f_X8_findEnds_J62 n v0 v1 v2 s0 h (fun a0 a1 a2 a3 b0 h => f_X8_findEnds_J80 n a0 a1 a2 a3 b0 h k13)
    else
      (gR 8 30 v0 h).bind fun x70 =>
      (aI 0 x70 (v1 + 1) h).bind fun x76 =>
      f_X8_findEnds_J80 n v0 v1 v2 s0 ((v2 + x76) + 1) h k13
def f_X8_findEnds_L13 : Nat → Nat → Int32 → Int32 → Hp → (Nat → Int32 → Hp → Option Hp) → Option Hp
  | 0, _, _, _, _, _ => none
  | n + 1, v0, v1, v2, h, k231 =>
    (gI 8 23 v0 h).bind fun x15 =>
    if x15 ≤ v2 then
      k231 v0 v1 h
    else
      (gI 8 24 v0 h).bind fun x25 =>
      if (v1 + 1) = x25 then
        f_X8_findEnds_J38 n v0 v1 v2 v2 h (fun a0 a1 a2 h => f_X8_findEnds_L13 n a0 a1 a2 h k231)
      else
        f_X8_findEnds_J38 n v0 v1 v2 9999 h (fun a0 a1 a2 h => f_X8_findEnds_L13 n a0 a1 a2 h k231)
def f_X8_findEnds_J231 (n : Nat) (v0 : Nat) (v1 : Int32) (h : Hp) (k7 : Nat → Int32 → Hp → Option Hp) : Option Hp :=
  k7 v0 (v1 + (-1)) h
def f_X8_findEnds_L7 : Nat → Nat → Int32 → Hp → Option Hp
  | 0, _, _, _ => none
  | n + 1, v0, v1, h =>
    if v1 < 0 then
      some h
    else
      f_X8_findEnds_L13 n v0 v1 0 h (fun a0 a1 h => f_X8_findEnds_J231 n a0 a1 h (fun a0 a1 h => f_X8_findEnds_L7 n a0 a1 h))
def f_X8_findEnds (n : Nat) (v0 : Nat) (h : Hp) : Option Hp :=
  (ck 8 v0 h).bind fun _ =>
  (gI 8 24 v0 h).bind fun x1 =>
  f_X8_findEnds_L7 n v0 (x1 - 1) h
def f_X8_endFrom_J60 (n : Nat) (v0 : Nat) (v1 : Int32) (v2 : Int32) (v4 : Int32) (v5 : Int32) (h : Hp) (k62 : Nat → Int32 → Int32 → Int32 → Int32 → Hp → Option (Int32 × Hp)) : Option (Int32 × Hp) :=
  k62 v0 v1 v2 v5 v4 h
def f_X8_endFrom_J62 (n : Nat) (v0 : Nat) (v1 : Int32) (v2 : Int32) (v5 : Int32) (s0 : Int32) (h : Hp) (k8 : Nat → Int32 → Int32 → Int32 → Int32 → Hp → Option (Int32 × Hp)) : Option (Int32 × Hp) :=
  k8 v0 v1 v2 s0 (v5 + 1) h
def f_X8_endFrom_L8 : Nat → Nat → Int32 → Int32 → Int32 → Int32 → Hp → Option (Int32 × Hp)
  | 0, _, _, _, _, _, _ => none
  | n + 1, v0, v1, v2, v4, v5, h =>
    (gI 8 23 v0 h).bind fun x11 =>
    if x11 ≤ v5 then
      some (v4, h)
    else
      (f_X8_canOn n v0 v1 v2 v5 h).bind fun x22 =>
      if x22.1 = 0 then
        f_X8_endFrom_J60 n v0 v1 v2 v4 v5 x22.2 (fun a0 a1 a2 a5 b0 h => f_X8_endFrom_J62 n a0 a1 a2 a5 b0 h (fun a0 a1 a2 a4 a5 h => f_X8_endFrom_L8 n a0 a1 a2 a4 a5 h))
      else
        (gR 8 32 v0 x22.2).bind fun x29 =>
        (aI 0 x29 ((60 * v1) + v5) x22.2).bind fun x39 =>
        if v4 ≤ x39 then
          f_X8_endFrom_J60 n v0 v1 v2 v4 v5 x22.2 (fun a0 a1 a2 a5 b0 h => f_X8_endFrom_J62 n a0 a1 a2 a5 b0 h (fun a0 a1 a2 a4 a5 h => f_X8_endFrom_L8 n a0 a1 a2 a4 a5 h))
        else
          (gR 8 32 v0 x22.2).bind fun x46 =>
          (aI 0 x46 ((60 * v1) + v5) x22.2).bind fun x56 =>
          f_X8_endFrom_J62 n v0 v1 v2 v5 x56 x22.2 (fun a0 a1 a2 a4 a5 h => f_X8_endFrom_L8 n a0 a1 a2 a4 a5 h)
def f_X8_endFrom (n : Nat) (v0 : Nat) (v1 : Int32) (v2 : Int32) (v3 : Int32) (h : Hp) : Option (Int32 × Hp) :=
  (ck 8 v0 h).bind fun _ =>
  f_X8_endFrom_L8 n v0 v1 v2 9999 v3 h
def f_X8_findSoon_J179 (n : Nat) (v0 : Nat) (v2 : Int32) (v3 : Int32) (v4 : Int32) (h : Hp) (k180 : Nat → Int32 → Int32 → Int32 → Hp → Option (Int32 × Hp)) : Option (Int32 × Hp) :=
  k180 v0 v2 v4 v3 h
def f_X8_findSoon_J180 (n : Nat) (v0 : Nat) (v2 : Int32) (v4 : Int32) (s0 : Int32) (h : Hp) (k116 : Nat → Int32 → Int32 → Int32 → Hp → Option (Int32 × Hp)) : Option (Int32 × Hp) :=
  k116 v0 v2 s0 (v4 + 1) h
def f_X8_findSoon_L116 : Nat → Nat → Int32 → Int32 → Int32 → Hp → (Nat → Int32 → Int32 → Hp → Option (Int32 × Hp)) → Option (Int32 × Hp)
  | 0, _, _, _, _, _, _ => none
  | n + 1, v0, v2, v3, v4, h, k187 =>
    (gI 8 23 v0 h).bind fun x119 =>
    if x119 ≤ v4 then
      k187 v0 v2 v3 h
    else
      (gI 8 34 v0 h).bind fun x127 =>
      (gI 8 35 v0 h).bind fun x131 =>
      (f_X8_canOn n v0 x127 x131 v4 h).bind fun x136 =>
      if x136.1 = 0 then
        f_X8_findSoon_J179 n v0 v2 v3 v4 x136.2 (fun a0 a2 a4 b0 h => f_X8_findSoon_J180 n a0 a2 a4 b0 h (fun a0 a2 a3 a4 h => f_X8_findSoon_L116 n a0 a2 a3 a4 h k187))
      else
        (gR 8 33 v0 x136.2).bind fun x143 =>
        (gI 8 34 v0 x136.2).bind fun x149 =>
        (aI 0 x143 ((60 * x149) + v4) x136.2).bind fun x156 =>
        if v3 ≤ x156 then
          f_X8_findSoon_J179 n v0 v2 v3 v4 x136.2 (fun a0 a2 a4 b0 h => f_X8_findSoon_J180 n a0 a2 a4 b0 h (fun a0 a2 a3 a4 h => f_X8_findSoon_L116 n a0 a2 a3 a4 h k187))
        else
          (gR 8 33 v0 x136.2).bind fun x162 =>
          (gI 8 34 v0 x136.2).bind fun x168 =>
          (aI 0 x162 ((60 * x168) + v4) x136.2).bind fun x175 =>
          f_X8_findSoon_J180 n v0 v2 v4 x175 x136.2 (fun a0 a2 a3 a4 h => f_X8_findSoon_L116 n a0 a2 a3 a4 h k187)
def f_X8_findSoon_J207 (n : Nat) (v0 : Nat) (v2 : Int32) (v3 : Int32) (s0 : Nat) (s1 : Int32) (s2 : Int32) (s3 : Int32) (h : Hp) : Option (Int32 × Hp) :=
  (f_X8_endFrom n s0 s1 s2 s3 h).bind fun x207 =>
  if v2 ≤ x207.1 then
    some (v2, x207.2)
  else
    (pI 8 34 v0 0 x207.2).bind fun h223 =>
    (pI 8 35 v0 (-9) h223).bind fun h229 =>
    (pI 8 36 v0 v3 h229).bind fun h234 =>
    some (x207.1, h234)
def f_X8_findSoon_J187 (n : Nat) (v0 : Nat) (v2 : Int32) (v3 : Int32) (h : Hp) : Option (Int32 × Hp) :=
  (gI 8 36 v0 h).bind fun x193 =>
  if x193 ≤ v3 then
    f_X8_findSoon_J207 n v0 v2 v3 v0 0 (-9) v3 h
  else
    (gI 8 36 v0 h).bind fun x200 =>
    f_X8_findSoon_J207 n v0 v2 v3 v0 0 (-9) x200 h
def f_X8_findSoon_J109 (n : Nat) (v0 : Nat) (v2 : Int32) (s0 : Int32) (h : Hp) : Option (Int32 × Hp) :=
  (gI 8 36 v0 h).bind fun x111 =>
  f_X8_findSoon_L116 n v0 v2 s0 x111 h (fun a0 a2 a3 h => f_X8_findSoon_J187 n a0 a2 a3 h)
def f_X8_findSoon (n : Nat) (v0 : Nat) (v1 : Int32) (h : Hp) : Option (Int32 × Hp) :=
  (ck 8 v0 h).bind fun _ =>
  (f_X8_lay n v0 v1 1 h).bind fun x3 =>
  (f_X8_findEnds n v0 x3).bind fun x7 =>
  (f_X8_doneOf n v0 v1 x7).bind fun x13 =>
  (pI 8 34 v0 x13.1 x13.2).bind fun h16 =>
  (gR 8 16 v0 h16).bind fun x21 =>
  (aI 0 x21 (18 + v1) h16).bind fun x28 =>
  (pI 8 35 v0 x28 h16).bind fun h29 =>
  (gR 8 16 v0 h29).bind fun x34 =>
  (aI 0 x34 0 h29).bind fun x38 =>
  (gR 8 16 v0 h29).bind fun x40 =>
  (aI 0 x40 4 h29).bind fun x44 =>
  (pI 8 36 v0 (x38 + x44) h29).bind fun h46 =>
  (gI 8 34 v0 h46).bind fun x51 =>
  (gI 8 35 v0 h46).bind fun x55 =>
  (gI 8 36 v0 h46).bind fun x59 =>
  (f_X8_endFrom n v0 x51 x55 x59 h46).bind fun x62 =>
  (gI 8 34 v0 x62.2).bind fun x67 =>
  if x67 ≤ 0 then
    some (x62.1, x62.2)
  else
    (gR 8 30 v0 x62.2).bind fun x74 =>
    (gI 8 34 v0 x62.2).bind fun x78 =>
    (aI 0 x74 x78 x62.2).bind fun x81 =>
    if x81 = (-9) then
      f_X8_findSoon_J109 n v0 x62.1 9999 x62.2
    else
      (gI 8 35 v0 x62.2).bind fun x94 =>
      (gR 8 30 v0 x62.2).bind fun x98 =>
      (gI 8 34 v0 x62.2).bind fun x102 =>
      (aI 0 x98 x102 x62.2).bind fun x105 =>
      f_X8_findSoon_J109 n v0 x62.1 ((x94 + x105) + 1) x62.2
def f_X8_soon_J42 (n : Nat) (v3 : Int32) (h : Hp) : Option (Int32 × Hp) :=
  if v3 = 9999 then
    some ((-9), h)
  else
    some (v3, h)
def f_X8_soon_J130 (n : Nat) (v0 : Nat) (v2 : Int32) (v3 : Int32) (v4 : Int32) (v5 : Int32) (v6 : Int32) (h : Hp) (k100 : Nat → Int32 → Int32 → Int32 → Int32 → Int32 → Hp → Option (Int32 × Hp)) : Option (Int32 × Hp) :=
  k100 v0 v2 v3 (v4 + 1) v5 v6 h
def f_X8_soon_L100 : Nat → Nat → Int32 → Int32 → Int32 → Int32 → Int32 → Hp → (Nat → Int32 → Int32 → Int32 → Int32 → Hp → Option (Int32 × Hp)) → Option (Int32 × Hp)
  | 0, _, _, _, _, _, _, _, _ => none
  | n + 1, v0, v2, v3, v4, v5, v6, h, k136 =>
    (f_X8_canOn n v0 v6 v5 v4 h).bind fun x107 =>
    if x107.1 = 0 then
      f_X8_soon_J130 n v0 v2 v3 v4 v5 v6 x107.2 (fun a0 a2 a3 a4 a5 a6 h => f_X8_soon_L100 n a0 a2 a3 a4 a5 a6 h k136)
    else
      (gR 8 32 v0 x107.2).bind fun x114 =>
      (aI 0 x114 ((60 * v6) + v4) x107.2).bind fun x125 =>
      if x125 ≤ v3 then
        k136 v0 v2 v3 v4 v6 x107.2
      else
        f_X8_soon_J130 n v0 v2 v3 v4 v5 v6 x107.2 (fun a0 a2 a3 a4 a5 a6 h => f_X8_soon_L100 n a0 a2 a3 a4 a5 a6 h k136)
def f_X8_soon_J136 (n : Nat) (v0 : Nat) (v2 : Int32) (v3 : Int32) (v4 : Int32) (v6 : Int32) (h : Hp) (k89 : Nat → Int32 → Int32 → Int32 → Int32 → Int32 → Hp → Option (Int32 × Hp)) : Option (Int32 × Hp) :=
  k89 v0 v2 v3 v4 v4 (v6 + 1) h
def f_X8_soon_L89 : Nat → Nat → Int32 → Int32 → Int32 → Int32 → Int32 → Hp → Option (Int32 × Hp)
  | 0, _, _, _, _, _, _, _ => none
  | n + 1, v0, v2, v3, v4, v5, v6, h =>
    (gI 8 34 v0 h).bind fun x92 =>
    if (x92 + v2) < v6 then
      some (v5, h)
    else
      f_X8_soon_L100 n v0 v2 v3 v4 v5 v6 h (fun a0 a2 a3 a4 a6 h => f_X8_soon_J136 n a0 a2 a3 a4 a6 h (fun a0 a2 a3 a4 a5 a6 h => f_X8_soon_L89 n a0 a2 a3 a4 a5 a6 h))
def f_X8_soon (n : Nat) (v0 : Nat) (v1 : Int32) (v2 : Int32) (h : Hp) : Option (Int32 × Hp) :=
  (ck 8 v0 h).bind fun _ =>
  (f_X8_isBill n v1 h).bind fun x1 =>
  if x1.1 = 0 then
    some ((-1), x1.2)
  else
    if (-1) ≤ v2 then
      (f_X8_isOpen n v0 v1 x1.2).bind fun x16 =>
      if x16.1 = 0 then
        some ((-2), x16.2)
      else
        (f_X8_findSoon n v0 v1 x16.2).bind fun x27 =>
        if x27.1 = 9999 then
          f_X8_soon_J42 n x27.1 x27.2
        else
          if 0 ≤ v2 then
            (gI 8 24 v0 x27.2).bind fun x58 =>
            (gI 8 34 v0 x27.2).bind fun x62 =>
            if v2 < (x58 - x62) then
              (gI 8 36 v0 x27.2).bind fun x72 =>
              (gI 8 35 v0 x27.2).bind fun x78 =>
              (gI 8 34 v0 x27.2).bind fun x84 =>
              f_X8_soon_L89 n v0 v2 x27.1 x72 x78 x84 x27.2
            else
              some ((-1), x27.2)
          else
            f_X8_soon_J42 n x27.1 x27.2
    else
      some ((-1), x1.2)
def f_X8_place_J13 (n : Nat) (v2 : Int32) (v3 : Int32) (s0 : Int32) (s1 : Int32) (h : Hp) : Option (Int32 × Hp) :=
  some ((((((s0 + s1) * 7) + v2) * 7) + v3), h)
def f_X8_place (n : Nat) (v0 : Int32) (v1 : Int32) (v2 : Int32) (v3 : Int32) (h : Hp) : Option (Int32 × Hp) :=
  if v0 = 0 then
    f_X8_place_J13 n v2 v3 (60 * v0) 0 h
  else
    f_X8_place_J13 n v2 v3 (60 * v0) v1 h
def f_X8_closeDay_L2 : Nat → Nat → Int32 → Hp → Option Hp
  | 0, _, _, _ => none
  | n + 1, v0, v1, h =>
    (gI 8 24 v0 h).bind fun x7 =>
    if (2940 * x7) ≤ v1 then
      some h
    else
      (gR 8 38 v0 h).bind fun x15 =>
      (gR 8 37 v0 h).bind fun x20 =>
      (aI 0 x20 v1 h).bind fun x24 =>
      (tI x15 v1 x24 h).bind fun h25 =>
      f_X8_closeDay_L2 n v0 (v1 + 1) h25
def f_X8_closeDay (n : Nat) (v0 : Nat) (h : Hp) : Option Hp :=
  (ck 8 v0 h).bind fun _ =>
  f_X8_closeDay_L2 n v0 0 h
def f_X8_fallBack_L45 : Nat → Nat → Int32 → Int32 → Int32 → Int32 → Int32 → Int32 → Int32 → Hp → (Nat → Int32 → Int32 → Int32 → Int32 → Int32 → Int32 → Hp → Option Hp) → Option Hp
  | 0, _, _, _, _, _, _, _, _, _, _ => none
  | n + 1, v0, v1, v2, v3, v4, v5, v6, v7, h, k87 =>
    if v3 < v7 then
      k87 v0 v1 v2 v3 v4 v5 v6 h
    else
      (gR 8 37 v0 h).bind fun x52 =>
      (f_X8_place n v4 v5 v6 v7 h).bind fun x63 =>
      (gR 8 37 v0 x63.2).bind fun x67 =>
      (f_X8_place n 0 0 v6 v7 x63.2).bind fun x76 =>
      (aI 0 x67 x76.1 x76.2).bind fun x79 =>
      (tI x52 x63.1 x79 x76.2).bind fun h80 =>
      f_X8_fallBack_L45 n v0 v1 v2 v3 v4 v5 v6 (v7 + 1) h80 k87
def f_X8_fallBack_J87 (n : Nat) (v0 : Nat) (v1 : Int32) (v2 : Int32) (v3 : Int32) (v4 : Int32) (v5 : Int32) (v6 : Int32) (h : Hp) (k24 : Nat → Int32 → Int32 → Int32 → Int32 → Int32 → Int32 → Hp → Option Hp) : Option Hp :=
  k24 v0 v1 v2 v3 v4 v5 (v6 + 1) h
def f_X8_fallBack_L24 : Nat → Nat → Int32 → Int32 → Int32 → Int32 → Int32 → Int32 → Hp → (Nat → Int32 → Int32 → Int32 → Int32 → Int32 → Hp → Option Hp) → Option Hp
  | 0, _, _, _, _, _, _, _, _, _ => none
  | n + 1, v0, v1, v2, v3, v4, v5, v6, h, k93 =>
    if v2 < v6 then
      k93 v0 v1 v2 v3 v4 v5 h
    else
      (f_X8_isFallen n v0 v4 v5 v1 h).bind fun x36 =>
      if x36.1 = 0 then
        k93 v0 v1 v2 v3 v4 v5 x36.2
      else
        f_X8_fallBack_L45 n v0 v1 v2 v3 v4 v5 v6 0 x36.2 (fun a0 a1 a2 a3 a4 a5 a6 h => f_X8_fallBack_J87 n a0 a1 a2 a3 a4 a5 a6 h (fun a0 a1 a2 a3 a4 a5 a6 h => f_X8_fallBack_L24 n a0 a1 a2 a3 a4 a5 a6 h k93))
def f_X8_fallBack_J93 (n : Nat) (v0 : Nat) (v1 : Int32) (v2 : Int32) (v3 : Int32) (v4 : Int32) (v5 : Int32) (h : Hp) (k15 : Nat → Int32 → Int32 → Int32 → Int32 → Int32 → Hp → Option Hp) : Option Hp :=
  k15 v0 v1 v2 v3 v4 (v5 + 1) h
def f_X8_fallBack_L15 : Nat → Nat → Int32 → Int32 → Int32 → Int32 → Int32 → Hp → (Nat → Int32 → Int32 → Int32 → Int32 → Hp → Option Hp) → Option Hp
  | 0, _, _, _, _, _, _, _, _ => none
  | n + 1, v0, v1, v2, v3, v4, v5, h, k99 =>
    if v1 < v5 then
      k99 v0 v1 v2 v3 v4 h
    else
      f_X8_fallBack_L24 n v0 v1 v2 v3 v4 v5 0 h (fun a0 a1 a2 a3 a4 a5 h => f_X8_fallBack_J93 n a0 a1 a2 a3 a4 a5 h (fun a0 a1 a2 a3 a4 a5 h => f_X8_fallBack_L15 n a0 a1 a2 a3 a4 a5 h k99))
def f_X8_fallBack_J99 (n : Nat) (v0 : Nat) (v1 : Int32) (v2 : Int32) (v3 : Int32) (v4 : Int32) (h : Hp) (k3 : Nat → Int32 → Int32 → Int32 → Int32 → Hp → Option Hp) : Option Hp :=
  k3 v0 v1 v2 v3 (v4 + 1) h
def f_X8_fallBack_L3 : Nat → Nat → Int32 → Int32 → Int32 → Int32 → Hp → Option Hp
  | 0, _, _, _, _, _, _ => none
  | n + 1, v0, v1, v2, v3, v4, h =>
    (gI 8 24 v0 h).bind fun x6 =>
    if x6 ≤ v4 then
      some h
    else
      f_X8_fallBack_L15 n v0 v1 v2 v3 v4 0 h (fun a0 a1 a2 a3 a4 h => f_X8_fallBack_J99 n a0 a1 a2 a3 a4 h (fun a0 a1 a2 a3 a4 h => f_X8_fallBack_L3 n a0 a1 a2 a3 a4 h))
def f_X8_fallBack (n : Nat) (v0 : Nat) (v1 : Int32) (v2 : Int32) (v3 : Int32) (h : Hp) : Option Hp :=
  (ck 8 v0 h).bind fun _ =>
  f_X8_fallBack_L3 n v0 v1 v2 v3 1 h
def f_X8_callAt_J88 (n : Nat) (v0 : Nat) (v1 : Int32) (v2 : Int32) (v4 : Int32) (v5 : Int32) (v6 : Int32) (h : Hp) : Option (Int32 × Hp) :=
  if v5 ≤ 0 then
    some (v6, h)
  else
    (gR 8 31 v0 h).bind fun x94 =>
    (aI 0 x94 v1 h).bind fun x98 =>
    if (x98 &&& 2) = 2 then
      (gR 8 37 v0 h).bind fun x106 =>
      (f_X8_place n v1 v2 v4 (v5 - 1) h).bind fun x117 =>
      (aI 0 x106 x117.1 x117.2).bind fun x120 =>
      if x120 ≤ v6 then
        some (v6, x117.2)
      else
        (gR 8 37 v0 x117.2).bind fun x127 =>
        (f_X8_place n v1 v2 v4 (v5 - 1) x117.2).bind fun x138 =>
        (aI 0 x127 x138.1 x138.2).bind fun x141 =>
        some (x141, x138.2)
    else
      some (v6, h)
def f_X8_callAt_J30 (n : Nat) (v0 : Nat) (v1 : Int32) (v2 : Int32) (v4 : Int32) (v5 : Int32) (s0 : Int32) (h : Hp) : Option (Int32 × Hp) :=
  if v4 ≤ 0 then
    f_X8_callAt_J88 n v0 v1 v2 v4 v5 s0 h
  else
    (gR 8 31 v0 h).bind fun x38 =>
    (aI 0 x38 v1 h).bind fun x42 =>
    if (x42 &&& 1) = 1 then
      (gR 8 37 v0 h).bind fun x50 =>
      (f_X8_place n v1 v2 (v4 - 1) v5 h).bind fun x61 =>
      (aI 0 x50 x61.1 x61.2).bind fun x64 =>
      if x64 ≤ s0 then
        f_X8_callAt_J88 n v0 v1 v2 v4 v5 s0 x61.2
      else
        (gR 8 37 v0 x61.2).bind fun x71 =>
        (f_X8_place n v1 v2 (v4 - 1) v5 x61.2).bind fun x82 =>
        (aI 0 x71 x82.1 x82.2).bind fun x85 =>
        f_X8_callAt_J88 n v0 v1 v2 v4 v5 x85 x82.2
    else
      f_X8_callAt_J88 n v0 v1 v2 v4 v5 s0 h
def f_X8_callAt (n : Nat) (v0 : Nat) (v1 : Int32) (v2 : Int32) (v3 : Int32) (v4 : Int32) (v5 : Int32) (h : Hp) : Option (Int32 × Hp) :=
  (ck 8 v0 h).bind fun _ =>
  (gI 8 24 v0 h).bind fun x4 =>
  if (v1 + 1) = x4 then
    f_X8_callAt_J30 n v0 v1 v2 v4 v5 v3 h
  else
    (gR 8 37 v0 h).bind fun x15 =>
    (f_X8_place n (v1 + 1) v3 v4 v5 h).bind fun x26 =>
    (aI 0 x15 x26.1 x26.2).bind fun x29 =>
    f_X8_callAt_J30 n v0 v1 v2 v4 v5 x29 x26.2
def f_X8_play_L3 : Nat → Nat → Int32 → Int32 → Int32 → Int32 → Int32 → Hp → (Nat → Int32 → Int32 → Int32 → Int32 → Hp → Option Hp) → Option Hp
  | 0, _, _, _, _, _, _, _, _ => none
  | n + 1, v0, v1, v2, v3, v4, v5, h, k27 =>
    if 11760 ≤ v5 then
      k27 v0 v1 v2 v3 v4 h
    else
      (gR 8 38 v0 h).bind fun x12 =>
      (tI x12 v5 9999 h).bind fun h20 =>
      f_X8_play_L3 n v0 v1 v2 v3 v4 (v5 + 1) h20 k27
def f_X8_play_J96 (n : Nat) (v0 : Nat) (v1 : Int32) (v2 : Int32) (v3 : Int32) (v4 : Int32) (v5 : Int32) (v6 : Int32) (v7 : Int32) (h : Hp) (k113 : Nat → Int32 → Int32 → Int32 → Int32 → Int32 → Int32 → Int32 → Hp → Option Hp) (k114 : Nat → Int32 → Int32 → Int32 → Int32 → Int32 → Int32 → Int32 → Int32 → Hp → Option Hp) : Option Hp :=
  (f_X8_canOn n v0 v6 v7 v5 h).bind fun x103 =>
  if x103.1 = 0 then
    k113 v0 v1 v2 v3 v4 v5 v6 v7 x103.2
  else
    k114 v0 v1 v2 v3 v4 v5 v6 v7 1 x103.2
def f_X8_play_J113 (n : Nat) (v0 : Nat) (v1 : Int32) (v2 : Int32) (v3 : Int32) (v4 : Int32) (v5 : Int32) (v6 : Int32) (v7 : Int32) (h : Hp) (k114 : Nat → Int32 → Int32 → Int32 → Int32 → Int32 → Int32 → Int32 → Int32 → Hp → Option Hp) : Option Hp :=
  k114 v0 v1 v2 v3 v4 v5 v6 v7 0 h
def f_X8_play_J204 (n : Nat) (v0 : Nat) (v1 : Int32) (v2 : Int32) (v3 : Int32) (v4 : Int32) (v5 : Int32) (v6 : Int32) (v7 : Int32) (v8 : Int32) (v9 : Int32) (v10 : Int32) (s0 : Nat) (s1 : Int32) (s2 : Int32) (h : Hp) (k128 : Nat → Int32 → Int32 → Int32 → Int32 → Int32 → Int32 → Int32 → Int32 → Int32 → Int32 → Hp → Option Hp) : Option Hp :=
  (tI s0 s1 s2 h).bind fun h204 =>
  k128 v0 v1 v2 v3 v4 v5 v6 v7 v8 v9 (v10 + 1) h204
def f_X8_play_J182 (n : Nat) (v0 : Nat) (v1 : Int32) (v2 : Int32) (v3 : Int32) (v4 : Int32) (v5 : Int32) (v6 : Int32) (v7 : Int32) (v8 : Int32) (v9 : Int32) (v10 : Int32) (v11 : Int32) (v12 : Int32) (s0 : Int32) (h : Hp) (k128 : Nat → Int32 → Int32 → Int32 → Int32 → Int32 → Int32 → Int32 → Int32 → Int32 → Int32 → Hp → Option Hp) : Option Hp :=
  (gR 8 37 v0 h).bind fun x185 =>
  if v12 ≤ s0 then
    f_X8_play_J204 n v0 v1 v2 v3 v4 v5 v6 v7 v8 v9 v10 x185 v11 v12 h k128
  else
    f_X8_play_J204 n v0 v1 v2 v3 v4 v5 v6 v7 v8 v9 v10 x185 v11 s0 h k128
def f_X8_play_L128 : Nat → Nat → Int32 → Int32 → Int32 → Int32 → Int32 → Int32 → Int32 → Int32 → Int32 → Int32 → Hp → (Nat → Int32 → Int32 → Int32 → Int32 → Int32 → Int32 → Int32 → Int32 → Int32 → Hp → Option Hp) → Option Hp
  | 0, _, _, _, _, _, _, _, _, _, _, _, _, _ => none
  | n + 1, v0, v1, v2, v3, v4, v5, v6, v7, v8, v9, v10, h, k211 =>
    if v4 < v10 then
      k211 v0 v1 v2 v3 v4 v5 v6 v7 v8 v9 h
    else
      (f_X8_place n v6 v7 v9 v10 h).bind fun x143 =>
      (gR 8 38 v0 x143.2).bind fun x149 =>
      (aI 0 x149 x143.1 x143.2).bind fun x154 =>
      if v8 = 0 then
        f_X8_play_J182 n v0 v1 v2 v3 v4 v5 v6 v7 v8 v9 v10 x143.1 x154 9999 x143.2 (fun a0 a1 a2 a3 a4 a5 a6 a7 a8 a9 a10 h => f_X8_play_L128 n a0 a1 a2 a3 a4 a5 a6 a7 a8 a9 a10 h k211)
      else
        (f_X8_callAt n v0 v6 v7 v5 v9 v10 x143.2).bind fun x173 =>
        f_X8_play_J182 n v0 v1 v2 v3 v4 v5 v6 v7 v8 v9 v10 x143.1 x154 x173.1 x173.2 (fun a0 a1 a2 a3 a4 a5 a6 a7 a8 a9 a10 h => f_X8_play_L128 n a0 a1 a2 a3 a4 a5 a6 a7 a8 a9 a10 h k211)
def f_X8_play_J211 (n : Nat) (v0 : Nat) (v1 : Int32) (v2 : Int32) (v3 : Int32) (v4 : Int32) (v5 : Int32) (v6 : Int32) (v7 : Int32) (v8 : Int32) (v9 : Int32) (h : Hp) (k119 : Nat → Int32 → Int32 → Int32 → Int32 → Int32 → Int32 → Int32 → Int32 → Int32 → Hp → Option Hp) : Option Hp :=
  k119 v0 v1 v2 v3 v4 v5 v6 v7 v8 (v9 + 1) h
def f_X8_play_L119 : Nat → Nat → Int32 → Int32 → Int32 → Int32 → Int32 → Int32 → Int32 → Int32 → Int32 → Hp → (Nat → Int32 → Int32 → Int32 → Int32 → Int32 → Int32 → Int32 → Hp → Option Hp) → Option Hp
  | 0, _, _, _, _, _, _, _, _, _, _, _, _ => none
  | n + 1, v0, v1, v2, v3, v4, v5, v6, v7, v8, v9, h, k217 =>
    if v3 < v9 then
      k217 v0 v1 v2 v3 v4 v5 v6 v7 h
    else
      f_X8_play_L128 n v0 v1 v2 v3 v4 v5 v6 v7 v8 v9 0 h (fun a0 a1 a2 a3 a4 a5 a6 a7 a8 a9 h => f_X8_play_J211 n a0 a1 a2 a3 a4 a5 a6 a7 a8 a9 h (fun a0 a1 a2 a3 a4 a5 a6 a7 a8 a9 h => f_X8_play_L119 n a0 a1 a2 a3 a4 a5 a6 a7 a8 a9 h k217))
def f_X8_play_J114 (n : Nat) (v0 : Nat) (v1 : Int32) (v2 : Int32) (v3 : Int32) (v4 : Int32) (v5 : Int32) (v6 : Int32) (v7 : Int32) (s0 : Int32) (h : Hp) (k217 : Nat → Int32 → Int32 → Int32 → Int32 → Int32 → Int32 → Int32 → Hp → Option Hp) : Option Hp :=
  f_X8_play_L119 n v0 v1 v2 v3 v4 v5 v6 v7 s0 0 h k217
def f_X8_play_J217 (n : Nat) (v0 : Nat) (v1 : Int32) (v2 : Int32) (v3 : Int32) (v4 : Int32) (v5 : Int32) (v6 : Int32) (v7 : Int32) (h : Hp) (k57 : Nat → Int32 → Int32 → Int32 → Int32 → Int32 → Int32 → Int32 → Hp → Option Hp) : Option Hp :=
  k57 v0 v1 v2 v3 v4 v5 v6 (v7 + 1) h
def f_X8_play_J70 (n : Nat) (v0 : Nat) (v1 : Int32) (v2 : Int32) (v3 : Int32) (v4 : Int32) (v5 : Int32) (v6 : Int32) (v7 : Int32) (s0 : Int32) (s1 : Int32) (h : Hp) (k223 : Nat → Int32 → Int32 → Int32 → Int32 → Int32 → Int32 → Hp → Option Hp) (k57 : Nat → Int32 → Int32 → Int32 → Int32 → Int32 → Int32 → Int32 → Hp → Option Hp) : Option Hp :=
  if s1 < s0 then
    k223 v0 v1 v2 v3 v4 v5 v6 h
  else
    (f_X8_isFallen n v0 v6 v7 v5 h).bind fun x80 =>
    if x80.1 = 0 then
      if v2 = 0 then
        f_X8_play_J96 n v0 v1 v2 v3 v4 v5 v6 v7 x80.2 (fun a0 a1 a2 a3 a4 a5 a6 a7 h => f_X8_play_J113 n a0 a1 a2 a3 a4 a5 a6 a7 h (fun a0 a1 a2 a3 a4 a5 a6 a7 b0 h => f_X8_play_J114 n a0 a1 a2 a3 a4 a5 a6 a7 b0 h (fun a0 a1 a2 a3 a4 a5 a6 a7 h => f_X8_play_J217 n a0 a1 a2 a3 a4 a5 a6 a7 h k57))) (fun a0 a1 a2 a3 a4 a5 a6 a7 b0 h => f_X8_play_J114 n a0 a1 a2 a3 a4 a5 a6 a7 b0 h (fun a0 a1 a2 a3 a4 a5 a6 a7 h => f_X8_play_J217 n a0 a1 a2 a3 a4 a5 a6 a7 h k57))
      else
        if v5 = v1 then
          f_X8_play_J113 n v0 v1 v2 v3 v4 v5 v6 v7 x80.2 (fun a0 a1 a2 a3 a4 a5 a6 a7 b0 h => f_X8_play_J114 n a0 a1 a2 a3 a4 a5 a6 a7 b0 h (fun a0 a1 a2 a3 a4 a5 a6 a7 h => f_X8_play_J217 n a0 a1 a2 a3 a4 a5 a6 a7 h k57))
        else
          f_X8_play_J96 n v0 v1 v2 v3 v4 v5 v6 v7 x80.2 (fun a0 a1 a2 a3 a4 a5 a6 a7 h => f_X8_play_J113 n a0 a1 a2 a3 a4 a5 a6 a7 h (fun a0 a1 a2 a3 a4 a5 a6 a7 b0 h => f_X8_play_J114 n a0 a1 a2 a3 a4 a5 a6 a7 b0 h (fun a0 a1 a2 a3 a4 a5 a6 a7 h => f_X8_play_J217 n a0 a1 a2 a3 a4 a5 a6 a7 h k57))) (fun a0 a1 a2 a3 a4 a5 a6 a7 b0 h => f_X8_play_J114 n a0 a1 a2 a3 a4 a5 a6 a7 b0 h (fun a0 a1 a2 a3 a4 a5 a6 a7 h => f_X8_play_J217 n a0 a1 a2 a3 a4 a5 a6 a7 h k57))
    else
      f_X8_play_J217 n v0 v1 v2 v3 v4 v5 v6 v7 x80.2 k57
def f_X8_play_L57 : Nat → Nat → Int32 → Int32 → Int32 → Int32 → Int32 → Int32 → Int32 → Hp → (Nat → Int32 → Int32 → Int32 → Int32 → Int32 → Int32 → Hp → Option Hp) → Option Hp
  | 0, _, _, _, _, _, _, _, _, _, _ => none
  | n + 1, v0, v1, v2, v3, v4, v5, v6, v7, h, k223 =>
    if v6 = 0 then
      f_X8_play_J70 n v0 v1 v2 v3 v4 v5 v6 v7 v7 0 h k223 (fun a0 a1 a2 a3 a4 a5 a6 a7 h => f_X8_play_L57 n a0 a1 a2 a3 a4 a5 a6 a7 h k223)
    else
      f_X8_play_J70 n v0 v1 v2 v3 v4 v5 v6 v7 v7 v5 h k223 (fun a0 a1 a2 a3 a4 a5 a6 a7 h => f_X8_play_L57 n a0 a1 a2 a3 a4 a5 a6 a7 h k223)
def f_X8_play_J223 (n : Nat) (v0 : Nat) (v1 : Int32) (v2 : Int32) (v3 : Int32) (v4 : Int32) (v5 : Int32) (v6 : Int32) (h : Hp) (k49 : Nat → Int32 → Int32 → Int32 → Int32 → Int32 → Int32 → Hp → Option Hp) : Option Hp :=
  k49 v0 v1 v2 v3 v4 v5 (v6 + (-1)) h
def f_X8_play_L49 : Nat → Nat → Int32 → Int32 → Int32 → Int32 → Int32 → Int32 → Hp → (Nat → Int32 → Int32 → Int32 → Int32 → Int32 → Hp → Option Hp) → Option Hp
  | 0, _, _, _, _, _, _, _, _, _ => none
  | n + 1, v0, v1, v2, v3, v4, v5, v6, h, k229 =>
    if v6 < 0 then
      k229 v0 v1 v2 v3 v4 v5 h
    else
      f_X8_play_L57 n v0 v1 v2 v3 v4 v5 v6 0 h (fun a0 a1 a2 a3 a4 a5 a6 h => f_X8_play_J223 n a0 a1 a2 a3 a4 a5 a6 h (fun a0 a1 a2 a3 a4 a5 a6 h => f_X8_play_L49 n a0 a1 a2 a3 a4 a5 a6 h k229))
def f_X8_play_J229 (n : Nat) (v0 : Nat) (v1 : Int32) (v2 : Int32) (v3 : Int32) (v4 : Int32) (v5 : Int32) (h : Hp) (k35 : Nat → Int32 → Int32 → Int32 → Int32 → Int32 → Hp → Option Hp) : Option Hp :=
  (f_X8_fallBack n v0 v5 v3 v4 h).bind fun x235 =>
  (f_X8_closeDay n v0 x235).bind fun x239 =>
  k35 v0 v1 v2 v3 v4 (v5 + (-1)) x239
def f_X8_play_L35 : Nat → Nat → Int32 → Int32 → Int32 → Int32 → Int32 → Hp → Option Hp
  | 0, _, _, _, _, _, _, _ => none
  | n + 1, v0, v1, v2, v3, v4, v5, h =>
    if v5 < v1 then
      some h
    else
      (gI 8 24 v0 h).bind fun x42 =>
      f_X8_play_L49 n v0 v1 v2 v3 v4 v5 (x42 - 1) h (fun a0 a1 a2 a3 a4 a5 h => f_X8_play_J229 n a0 a1 a2 a3 a4 a5 h (fun a0 a1 a2 a3 a4 a5 h => f_X8_play_L35 n a0 a1 a2 a3 a4 a5 h))
def f_X8_play_J27 (n : Nat) (v0 : Nat) (v1 : Int32) (v2 : Int32) (v3 : Int32) (v4 : Int32) (h : Hp) : Option Hp :=
  (gI 8 23 v0 h).bind fun x28 =>
  f_X8_play_L35 n v0 v1 v2 v3 v4 (x28 - 1) h
def f_X8_play (n : Nat) (v0 : Nat) (v1 : Int32) (v2 : Int32) (v3 : Int32) (v4 : Int32) (h : Hp) : Option Hp :=
  (ck 8 v0 h).bind fun _ =>
  f_X8_play_L3 n v0 v1 v2 v3 v4 0 h (fun a0 a1 a2 a3 a4 h => f_X8_play_J27 n a0 a1 a2 a3 a4 h)
def f_X8_playNow_J28 (n : Nat) (v2 : Int32) (v3 : Int32) (s0 : Nat) (s1 : Int32) (s2 : Int32) (h : Hp) : Option Hp :=
  (f_X8_play n s0 s1 s2 v2 v3 h).bind fun x30 =>
  some x30
def f_X8_playNow (n : Nat) (v0 : Nat) (v1 : Int32) (v2 : Int32) (v3 : Int32) (h : Hp) : Option Hp :=
  (ck 8 v0 h).bind fun _ =>
  (f_X8_lay n v0 v1 1 h).bind fun x3 =>
  (gR 8 16 v0 x3).bind fun x8 =>
  (aI 0 x8 0 x3).bind fun x12 =>
  (gR 8 16 v0 x3).bind fun x14 =>
  (aI 0 x14 4 x3).bind fun x18 =>
  if x18 = 1 then
    f_X8_playNow_J28 n v2 v3 v0 x12 1 x3
  else
    f_X8_playNow_J28 n v2 v3 v0 x12 0 x3
def f_X8_tells_J31 (n : Nat) (v2 : Int32) (v3 : Int32) (s0 : Nat) (s1 : Int32) (s2 : Int32) (h : Hp) : Option (Int32 × Hp) :=
  (f_X8_place n s1 s2 v2 v3 h).bind fun x33 =>
  (aI 0 s0 x33.1 x33.2).bind fun x36 =>
  some (x36, x33.2)
def f_X8_tells (n : Nat) (v0 : Nat) (v1 : Int32) (v2 : Int32) (v3 : Int32) (h : Hp) : Option (Int32 × Hp) :=
  (ck 8 v0 h).bind fun _ =>
  (f_X8_doneOf n v0 v1 h).bind fun x2 =>
  (gR 8 38 v0 x2.2).bind fun x8 =>
  if x2.1 = 0 then
    f_X8_tells_J31 n v2 v3 x8 x2.1 0 x2.2
  else
    (gR 8 16 v0 x2.2).bind fun x23 =>
    (aI 0 x23 (18 + v1) x2.2).bind fun x30 =>
    f_X8_tells_J31 n v2 v3 x8 x2.1 x30 x2.2
def f_X8_against_L28 : Nat → Nat → Int32 → Int32 → Hp → (Nat → Int32 → Hp → Option (Int32 × Hp)) → Option (Int32 × Hp)
  | 0, _, _, _, _, _ => none
  | n + 1, v0, v1, v2, h, k50 =>
    if 11760 ≤ v2 then
      k50 v0 v1 h
    else
      (gR 8 38 v0 h).bind fun x36 =>
      (tI x36 v2 9999 h).bind fun h43 =>
      f_X8_against_L28 n v0 v1 (v2 + 1) h43 k50
def f_X8_against_J150 (n : Nat) (v0 : Nat) (v1 : Int32) (v2 : Int32) (v3 : Int32) (v4 : Int32) (v5 : Int32) (h : Hp) (k165 : Nat → Int32 → Int32 → Int32 → Int32 → Int32 → Hp → Option (Int32 × Hp)) (k166 : Nat → Int32 → Int32 → Int32 → Int32 → Int32 → Int32 → Hp → Option (Int32 × Hp)) : Option (Int32 × Hp) :=
  (f_X8_isFar n v0 v3 v4 v2 h).bind fun x155 =>
  if x155.1 = 0 then
    k165 v0 v1 v2 v3 v4 v5 x155.2
  else
    k166 v0 v1 v2 v3 v4 v5 1 x155.2
def f_X8_against_J165 (n : Nat) (v0 : Nat) (v1 : Int32) (v2 : Int32) (v3 : Int32) (v4 : Int32) (v5 : Int32) (h : Hp) (k166 : Nat → Int32 → Int32 → Int32 → Int32 → Int32 → Int32 → Hp → Option (Int32 × Hp)) : Option (Int32 × Hp) :=
  k166 v0 v1 v2 v3 v4 v5 0 h
def f_X8_against_J197 (n : Nat) (v0 : Nat) (v1 : Int32) (v2 : Int32) (v3 : Int32) (v4 : Int32) (v5 : Int32) (v6 : Int32) (s0 : Int32) (h : Hp) (k215 : Nat → Int32 → Int32 → Int32 → Int32 → Int32 → Int32 → Int32 → Int32 → Hp → Option (Int32 × Hp)) : Option (Int32 × Hp) :=
  k215 v0 v1 v2 v3 v4 v5 v6 s0 0 h
def f_X8_against_J246 (n : Nat) (v0 : Nat) (v1 : Int32) (v2 : Int32) (v3 : Int32) (v4 : Int32) (v5 : Int32) (s0 : Nat) (s1 : Int32) (h : Hp) (k253 : Nat → Int32 → Int32 → Int32 → Int32 → Nat → Int32 → Int32 → Hp → Option (Int32 × Hp)) : Option (Int32 × Hp) :=
  (gR 8 37 v0 h).bind fun x247 =>
  (aI 0 x247 v5 h).bind fun x252 =>
  k253 v0 v1 v2 v3 v4 s0 s1 x252 h
def f_X8_against_J253 (n : Nat) (v0 : Nat) (v1 : Int32) (v2 : Int32) (v3 : Int32) (v4 : Int32) (s0 : Nat) (s1 : Int32) (s2 : Int32) (h : Hp) (k254 : Nat → Int32 → Int32 → Int32 → Int32 → Hp → Option (Int32 × Hp)) : Option (Int32 × Hp) :=
  (tI s0 s1 s2 h).bind fun h253 =>
  k254 v0 v1 v2 v3 v4 h253
def f_X8_against_J215 (n : Nat) (v0 : Nat) (v1 : Int32) (v2 : Int32) (v3 : Int32) (v4 : Int32) (v5 : Int32) (v6 : Int32) (s0 : Int32) (s1 : Int32) (h : Hp) (k254 : Nat → Int32 → Int32 → Int32 → Int32 → Hp → Option (Int32 × Hp)) : Option (Int32 × Hp) :=
  (gR 8 37 v0 h).bind fun x219 =>
  if v6 = 0 then
    f_X8_against_J246 n v0 v1 v2 v3 v4 v5 x219 v5 h (fun a0 a1 a2 a3 a4 b0 b1 b2 h => f_X8_against_J253 n a0 a1 a2 a3 a4 b0 b1 b2 h k254)
  else
    (gR 8 37 v0 h).bind fun x232 =>
    (aI 0 x232 v5 h).bind fun x237 =>
    if x237 ≤ (s0 + s1) then
      f_X8_against_J246 n v0 v1 v2 v3 v4 v5 x219 v5 h (fun a0 a1 a2 a3 a4 b0 b1 b2 h => f_X8_against_J253 n a0 a1 a2 a3 a4 b0 b1 b2 h k254)
    else
      f_X8_against_J253 n v0 v1 v2 v3 v4 x219 v5 (s0 + s1) h k254
def f_X8_against_J182 (n : Nat) (v0 : Nat) (v1 : Int32) (v2 : Int32) (v3 : Int32) (v4 : Int32) (v5 : Int32) (v6 : Int32) (s0 : Int32) (h : Hp) (k254 : Nat → Int32 → Int32 → Int32 → Int32 → Hp → Option (Int32 × Hp)) : Option (Int32 × Hp) :=
  (gI 8 24 v0 h).bind fun x186 =>
  if (v3 + 1) = x186 then
    f_X8_against_J197 n v0 v1 v2 v3 v4 v5 v6 s0 h (fun a0 a1 a2 a3 a4 a5 a6 b0 b1 h => f_X8_against_J215 n a0 a1 a2 a3 a4 a5 a6 b0 b1 h k254)
  else
    if v6 = 0 then
      f_X8_against_J197 n v0 v1 v2 v3 v4 v5 v6 s0 h (fun a0 a1 a2 a3 a4 a5 a6 b0 b1 h => f_X8_against_J215 n a0 a1 a2 a3 a4 a5 a6 b0 b1 h k254)
    else
      (gR 8 37 v0 h).bind fun x202 =>
      (f_X8_place n (v3 + 1) v2 0 0 h).bind fun x211 =>
      (aI 0 x202 x211.1 x211.2).bind fun x214 =>
      f_X8_against_J215 n v0 v1 v2 v3 v4 v5 v6 s0 x214 x211.2 k254
def f_X8_against_J166 (n : Nat) (v0 : Nat) (v1 : Int32) (v2 : Int32) (v3 : Int32) (v4 : Int32) (v5 : Int32) (s0 : Int32) (h : Hp) (k254 : Nat → Int32 → Int32 → Int32 → Int32 → Hp → Option (Int32 × Hp)) : Option (Int32 × Hp) :=
  (f_X8_isKind n v0 v3 v2 h).bind fun x171 =>
  if x171.1 = 0 then
    f_X8_against_J182 n v0 v1 v2 v3 v4 v5 s0 1 x171.2 k254
  else
    f_X8_against_J182 n v0 v1 v2 v3 v4 v5 s0 0 x171.2 k254
def f_X8_against_J254 (n : Nat) (v0 : Nat) (v1 : Int32) (v2 : Int32) (v3 : Int32) (v4 : Int32) (h : Hp) (k81 : Nat → Int32 → Int32 → Int32 → Int32 → Hp → Option (Int32 × Hp)) : Option (Int32 × Hp) :=
  k81 v0 v1 v2 v3 (v4 + 1) h
def f_X8_against_J92 (n : Nat) (v0 : Nat) (v1 : Int32) (v2 : Int32) (v3 : Int32) (v4 : Int32) (s0 : Int32) (s1 : Int32) (h : Hp) (k260 : Nat → Int32 → Int32 → Int32 → Hp → Option (Int32 × Hp)) (k81 : Nat → Int32 → Int32 → Int32 → Int32 → Hp → Option (Int32 × Hp)) : Option (Int32 × Hp) :=
  if s1 < s0 then
    k260 v0 v1 v2 v3 h
  else
    (f_X8_isFallen n v0 v3 v4 v2 h).bind fun x100 =>
    if x100.1 = 0 then
      (f_X8_place n v3 v4 0 0 x100.2).bind fun x111 =>
      (gR 8 37 v0 x111.2).bind fun x117 =>
      (gR 8 38 v0 x111.2).bind fun x123 =>
      (aI 0 x123 x111.1 x111.2).bind fun x128 =>
      (tI x117 x111.1 x128 x111.2).bind fun h129 =>
      (gR 8 16 v0 h129).bind fun x131 =>
      (aI 0 x131 4 h129).bind fun x135 =>
      if x135 = 1 then
        (gR 8 16 v0 h129).bind fun x142 =>
        (aI 0 x142 0 h129).bind fun x146 =>
        if v2 = x146 then
          f_X8_against_J165 n v0 v1 v2 v3 v4 x111.1 h129 (fun a0 a1 a2 a3 a4 a5 b0 h => f_X8_against_J166 n a0 a1 a2 a3 a4 a5 b0 h (fun a0 a1 a2 a3 a4 h => f_X8_against_J254 n a0 a1 a2 a3 a4 h k81))
        else
          f_X8_against_J150 n v0 v1 v2 v3 v4 x111.1 h129 (fun a0 a1 a2 a3 a4 a5 h => f_X8_against_J165 n a0 a1 a2 a3 a4 a5 h (fun a0 a1 a2 a3 a4 a5 b0 h => f_X8_against_J166 n a0 a1 a2 a3 a4 a5 b0 h (fun a0 a1 a2 a3 a4 h => f_X8_against_J254 n a0 a1 a2 a3 a4 h k81))) (fun a0 a1 a2 a3 a4 a5 b0 h => f_X8_against_J166 n a0 a1 a2 a3 a4 a5 b0 h (fun a0 a1 a2 a3 a4 h => f_X8_against_J254 n a0 a1 a2 a3 a4 h k81))
      else
        f_X8_against_J150 n v0 v1 v2 v3 v4 x111.1 h129 (fun a0 a1 a2 a3 a4 a5 h => f_X8_against_J165 n a0 a1 a2 a3 a4 a5 h (fun a0 a1 a2 a3 a4 a5 b0 h => f_X8_against_J166 n a0 a1 a2 a3 a4 a5 b0 h (fun a0 a1 a2 a3 a4 h => f_X8_against_J254 n a0 a1 a2 a3 a4 h k81))) (fun a0 a1 a2 a3 a4 a5 b0 h => f_X8_against_J166 n a0 a1 a2 a3 a4 a5 b0 h (fun a0 a1 a2 a3 a4 h => f_X8_against_J254 n a0 a1 a2 a3 a4 h k81))
    else
      f_X8_against_J254 n v0 v1 v2 v3 v4 x100.2 k81
def f_X8_against_L81 : Nat → Nat → Int32 → Int32 → Int32 → Int32 → Hp → (Nat → Int32 → Int32 → Int32 → Hp → Option (Int32 × Hp)) → Option (Int32 × Hp)
  | 0, _, _, _, _, _, _, _ => none
  | n + 1, v0, v1, v2, v3, v4, h, k260 =>
    if v3 = 0 then
      f_X8_against_J92 n v0 v1 v2 v3 v4 v4 0 h k260 (fun a0 a1 a2 a3 a4 h => f_X8_against_L81 n a0 a1 a2 a3 a4 h k260)
    else
      f_X8_against_J92 n v0 v1 v2 v3 v4 v4 v2 h k260 (fun a0 a1 a2 a3 a4 h => f_X8_against_L81 n a0 a1 a2 a3 a4 h k260)
def f_X8_against_J260 (n : Nat) (v0 : Nat) (v1 : Int32) (v2 : Int32) (v3 : Int32) (h : Hp) (k74 : Nat → Int32 → Int32 → Int32 → Hp → Option (Int32 × Hp)) : Option (Int32 × Hp) :=
  k74 v0 v1 v2 (v3 + (-1)) h
def f_X8_against_L74 : Nat → Nat → Int32 → Int32 → Int32 → Hp → (Nat → Int32 → Int32 → Hp → Option (Int32 × Hp)) → Option (Int32 × Hp)
  | 0, _, _, _, _, _, _ => none
  | n + 1, v0, v1, v2, v3, h, k266 =>
    if v3 < 0 then
      k266 v0 v1 v2 h
    else
      f_X8_against_L81 n v0 v1 v2 v3 0 h (fun a0 a1 a2 a3 h => f_X8_against_J260 n a0 a1 a2 a3 h (fun a0 a1 a2 a3 h => f_X8_against_L74 n a0 a1 a2 a3 h k266))
def f_X8_against_J266 (n : Nat) (v0 : Nat) (v1 : Int32) (v2 : Int32) (h : Hp) (k57 : Nat → Int32 → Int32 → Hp → Option (Int32 × Hp)) : Option (Int32 × Hp) :=
  (f_X8_fallBack n v0 v2 0 0 h).bind fun x270 =>
  (f_X8_closeDay n v0 x270).bind fun x274 =>
  k57 v0 v1 (v2 + (-1)) x274
def f_X8_against_L57 : Nat → Nat → Int32 → Int32 → Hp → (Nat → Int32 → Hp → Option (Int32 × Hp)) → Option (Int32 × Hp)
  | 0, _, _, _, _, _ => none
  | n + 1, v0, v1, v2, h, k283 =>
    (gR 8 16 v0 h).bind fun x59 =>
    (aI 0 x59 0 h).bind fun x63 =>
    if v2 < x63 then
      k283 v0 v1 h
    else
      (gI 8 24 v0 h).bind fun x68 =>
      f_X8_against_L74 n v0 v1 v2 (x68 - 1) h (fun a0 a1 a2 h => f_X8_against_J266 n a0 a1 a2 h (fun a0 a1 a2 h => f_X8_against_L57 n a0 a1 a2 h k283))
def f_X8_against_J283 (n : Nat) (v0 : Nat) (v1 : Int32) (h : Hp) : Option (Int32 × Hp) :=
  (f_X8_tells n v0 v1 0 0 h).bind fun x287 =>
  if x287.1 < 9999 then
    some (x287.1, x287.2)
  else
    some ((-9), x287.2)
def f_X8_against_J50 (n : Nat) (v0 : Nat) (v1 : Int32) (h : Hp) : Option (Int32 × Hp) :=
  (gI 8 23 v0 h).bind fun x51 =>
  f_X8_against_L57 n v0 v1 (x51 - 1) h (fun a0 a1 h => f_X8_against_J283 n a0 a1 h)
def f_X8_against (n : Nat) (v0 : Nat) (v1 : Int32) (h : Hp) : Option (Int32 × Hp) :=
  (ck 8 v0 h).bind fun _ =>
  (f_X8_isBill n v1 h).bind fun x1 =>
  if x1.1 = 0 then
    some ((-1), x1.2)
  else
    (f_X8_isOpen n v0 v1 x1.2).bind fun x11 =>
    if x11.1 = 0 then
      some ((-2), x11.2)
    else
      (f_X8_lay n v0 v1 1 x11.2).bind fun x23 =>
      f_X8_against_L28 n v0 v1 0 x23 (fun a0 a1 h => f_X8_against_J50 n a0 a1 h)
def f_X8_sure (n : Nat) (v0 : Nat) (v1 : Int32) (v2 : Int32) (v3 : Int32) (h : Hp) : Option (Int32 × Hp) :=
  (ck 8 v0 h).bind fun _ =>
  (f_X8_isBill n v1 h).bind fun x1 =>
  if x1.1 = 0 then
    some ((-1), x1.2)
  else
    (f_X8_in n v2 0 6 x1.2).bind fun x11 =>
    if x11.1 = 0 then
      some ((-1), x11.2)
    else
      (f_X8_in n v3 0 6 x11.2).bind fun x21 =>
      if x21.1 = 0 then
        some ((-1), x21.2)
      else
        (f_X8_isOpen n v0 v1 x21.2).bind fun x31 =>
        if x31.1 = 0 then
          some ((-2), x31.2)
        else
          (f_X8_playNow n v0 v1 v2 v3 x31.2).bind fun x44 =>
          (f_X8_tells n v0 v1 v2 v3 x44).bind fun x51 =>
          if x51.1 = 9999 then
            some ((-9), x51.2)
          else
            some (x51.1, x51.2)
def f_X8_delay_J114 (n : Nat) (v4 : Int32) (s0 : Nat) (s1 : Int32) (s2 : Int32) (s3 : Int32) (h : Hp) : Option (Int32 × Hp) :=
  (f_X8_tells n s0 s1 s2 s3 h).bind fun x114 =>
  if v4 = 9999 then
    some ((-2), x114.2)
  else
    if x114.1 = 9999 then
      some ((-9), x114.2)
    else
      some ((x114.1 - v4), x114.2)
def f_X8_delay_J99 (n : Nat) (v0 : Nat) (v2 : Int32) (v3 : Int32) (v4 : Int32) (s0 : Nat) (s1 : Int32) (s2 : Int32) (h : Hp) : Option (Int32 × Hp) :=
  (gR 8 21 v0 h).bind fun x100 =>
  (aI 0 x100 v2 h).bind fun x104 =>
  if x104 = 2 then
    f_X8_delay_J114 n v4 s0 s1 s2 v3 h
  else
    f_X8_delay_J114 n v4 s0 s1 s2 0 h
def f_X8_delay_J70 (n : Nat) (v0 : Nat) (v1 : Int32) (v2 : Int32) (v3 : Int32) (s0 : Nat) (s1 : Int32) (s2 : Int32) (s3 : Int32) (h : Hp) : Option (Int32 × Hp) :=
  (f_X8_playNow n s0 s1 s2 s3 h).bind fun x70 =>
  (f_X8_tells n v0 v1 0 0 x70).bind fun x77 =>
  (gR 8 21 v0 x77.2).bind fun x85 =>
  (aI 0 x85 v2 x77.2).bind fun x89 =>
  if x89 = 1 then
    f_X8_delay_J99 n v0 v2 v3 x77.1 v0 v1 v3 x77.2
  else
    f_X8_delay_J99 n v0 v2 v3 x77.1 v0 v1 0 x77.2
def f_X8_delay_J55 (n : Nat) (v0 : Nat) (v1 : Int32) (v2 : Int32) (v3 : Int32) (s0 : Nat) (s1 : Int32) (s2 : Int32) (h : Hp) : Option (Int32 × Hp) :=
  (gR 8 21 v0 h).bind fun x56 =>
  (aI 0 x56 v2 h).bind fun x60 =>
  if x60 = 2 then
    f_X8_delay_J70 n v0 v1 v2 v3 s0 s1 s2 v3 h
  else
    f_X8_delay_J70 n v0 v1 v2 v3 s0 s1 s2 0 h
def f_X8_delay (n : Nat) (v0 : Nat) (v1 : Int32) (v2 : Int32) (h : Hp) : Option (Int32 × Hp) :=
  (ck 8 v0 h).bind fun _ =>
  (f_X8_isBill n v1 h).bind fun x1 =>
  if x1.1 = 0 then
    some ((-1), x1.2)
  else
    (f_X8_isPerson n v0 v2 x1.2).bind fun x9 =>
    if x9.1 = 0 then
      some ((-1), x9.2)
    else
      (f_X8_isOpen n v0 v1 x9.2).bind fun x19 =>
      if x19.1 = 0 then
        some ((-2), x19.2)
      else
        (gR 8 16 v0 x19.2).bind fun x29 =>
        (aI 0 x29 (20 + v2) x19.2).bind fun x36 =>
        (gR 8 21 v0 x19.2).bind fun x41 =>
        (aI 0 x41 v2 x19.2).bind fun x45 =>
        if x45 = 1 then
          f_X8_delay_J55 n v0 v1 v2 x36 v0 v1 x36 x19.2
        else
          f_X8_delay_J55 n v0 v1 v2 x36 v0 v1 0 x19.2
def f_X8_bitsIn_L4 : Nat → Int32 → Int32 → Int32 → Hp → Option (Int32 × Hp)
  | 0, _, _, _, _ => none
  | n + 1, v0, v1, v2, h =>
    if 9 ≤ v2 then
      some (v1, h)
    else
      f_X8_bitsIn_L4 n v0 (v1 + ((v0 >>> (v2 &&& 31)) &&& 1)) (v2 + 1) h
def f_X8_bitsIn (n : Nat) (v0 : Int32) (h : Hp) : Option (Int32 × Hp) :=
  f_X8_bitsIn_L4 n v0 0 0 h
def f_X8_stop_J110 (n : Nat) (v0 : Nat) (v1 : Int32) (v2 : Int32) (v3 : Int32) (v4 : Int32) (v6 : Int32) (v7 : Int32) (s0 : Int32) (h : Hp) (k111 : Nat → Int32 → Int32 → Int32 → Int32 → Int32 → Int32 → Int32 → Int32 → Hp → Option (Int32 × Hp)) : Option (Int32 × Hp) :=
  k111 v0 v1 v2 v3 v4 v6 v7 s0 0 h
def f_X8_stop_J151 (n : Nat) (v0 : Nat) (v1 : Int32) (v2 : Int32) (v3 : Int32) (v4 : Int32) (v5 : Int32) (v7 : Int32) (s0 : Int32) (h : Hp) (k152 : Nat → Int32 → Int32 → Int32 → Int32 → Int32 → Int32 → Int32 → Int32 → Hp → Option (Int32 × Hp)) : Option (Int32 × Hp) :=
  k152 v0 v1 v2 v3 v4 v5 v7 s0 0 h
def f_X8_stop_J152 (n : Nat) (v0 : Nat) (v1 : Int32) (v2 : Int32) (v3 : Int32) (v4 : Int32) (v5 : Int32) (v7 : Int32) (s0 : Int32) (s1 : Int32) (h : Hp) (k64 : Nat → Int32 → Int32 → Int32 → Int32 → Int32 → Int32 → Int32 → Hp → Option (Int32 × Hp)) : Option (Int32 × Hp) :=
  k64 v0 v1 v2 v3 v4 v5 (s0 + s1) (v7 + 1) h
def f_X8_stop_J111 (n : Nat) (v0 : Nat) (v1 : Int32) (v2 : Int32) (v3 : Int32) (v4 : Int32) (v6 : Int32) (v7 : Int32) (s0 : Int32) (s1 : Int32) (h : Hp) (k64 : Nat → Int32 → Int32 → Int32 → Int32 → Int32 → Int32 → Int32 → Hp → Option (Int32 × Hp)) : Option (Int32 × Hp) :=
  if ((v4 >>> (v7 &&& 31)) &&& 1) = 1 then
    (gR 8 21 v0 h).bind fun x128 =>
    (aI 0 x128 v7 h).bind fun x133 =>
    if x133 = 2 then
      (gR 8 16 v0 h).bind fun x139 =>
      (aI 0 x139 (20 + v7) h).bind fun x147 =>
      f_X8_stop_J152 n v0 v1 v2 v3 v4 (s0 + s1) v7 v6 x147 h k64
    else
      f_X8_stop_J151 n v0 v1 v2 v3 v4 (s0 + s1) v7 v6 h (fun a0 a1 a2 a3 a4 a5 a7 b0 b1 h => f_X8_stop_J152 n a0 a1 a2 a3 a4 a5 a7 b0 b1 h k64)
  else
    f_X8_stop_J151 n v0 v1 v2 v3 v4 (s0 + s1) v7 v6 h (fun a0 a1 a2 a3 a4 a5 a7 b0 b1 h => f_X8_stop_J152 n a0 a1 a2 a3 a4 a5 a7 b0 b1 h k64)
def f_X8_stop_L64 : Nat → Nat → Int32 → Int32 → Int32 → Int32 → Int32 → Int32 → Int32 → Hp → (Nat → Int32 → Int32 → Int32 → Int32 → Int32 → Int32 → Hp → Option (Int32 × Hp)) → Option (Int32 × Hp)
  | 0, _, _, _, _, _, _, _, _, _, _ => none
  | n + 1, v0, v1, v2, v3, v4, v5, v6, v7, h, k161 =>
    (gI 8 20 v0 h).bind fun x67 =>
    if x67 ≤ v7 then
      k161 v0 v1 v2 v3 v4 v5 v6 h
    else
      if ((v4 >>> (v7 &&& 31)) &&& 1) = 1 then
        (gR 8 21 v0 h).bind fun x87 =>
        (aI 0 x87 v7 h).bind fun x92 =>
        if x92 = 1 then
          (gR 8 16 v0 h).bind fun x98 =>
          (aI 0 x98 (20 + v7) h).bind fun x106 =>
          f_X8_stop_J111 n v0 v1 v2 v3 v4 v6 v7 v5 x106 h (fun a0 a1 a2 a3 a4 a5 a6 a7 h => f_X8_stop_L64 n a0 a1 a2 a3 a4 a5 a6 a7 h k161)
        else
          f_X8_stop_J110 n v0 v1 v2 v3 v4 v6 v7 v5 h (fun a0 a1 a2 a3 a4 a6 a7 b0 b1 h => f_X8_stop_J111 n a0 a1 a2 a3 a4 a6 a7 b0 b1 h (fun a0 a1 a2 a3 a4 a5 a6 a7 h => f_X8_stop_L64 n a0 a1 a2 a3 a4 a5 a6 a7 h k161))
      else
        f_X8_stop_J110 n v0 v1 v2 v3 v4 v6 v7 v5 h (fun a0 a1 a2 a3 a4 a6 a7 b0 b1 h => f_X8_stop_J111 n a0 a1 a2 a3 a4 a6 a7 b0 b1 h (fun a0 a1 a2 a3 a4 a5 a6 a7 h => f_X8_stop_L64 n a0 a1 a2 a3 a4 a5 a6 a7 h k161))
def f_X8_stop_J179 (n : Nat) (v0 : Nat) (v1 : Int32) (v2 : Int32) (v3 : Int32) (v4 : Int32) (v5 : Int32) (v6 : Int32) (h : Hp) (k184 : Nat → Int32 → Int32 → Int32 → Int32 → Int32 → Int32 → Int32 → Hp → Option (Int32 × Hp)) : Option (Int32 × Hp) :=
  k184 v0 v1 v2 v3 v4 v5 v6 1 h
def f_X8_stop_J211 (n : Nat) (v0 : Nat) (v1 : Int32) (v2 : Int32) (v3 : Int32) (v4 : Int32) (h : Hp) (k212 : Nat → Int32 → Int32 → Int32 → Int32 → Hp → Option (Int32 × Hp)) : Option (Int32 × Hp) :=
  k212 v0 v1 v2 v4 v3 h
def f_X8_stop_J212 (n : Nat) (v0 : Nat) (v1 : Int32) (v2 : Int32) (v4 : Int32) (s0 : Int32) (h : Hp) (k44 : Nat → Int32 → Int32 → Int32 → Int32 → Hp → Option (Int32 × Hp)) : Option (Int32 × Hp) :=
  k44 v0 v1 v2 s0 (v4 + 1) h
def f_X8_stop_J184 (n : Nat) (v0 : Nat) (v1 : Int32) (v2 : Int32) (v3 : Int32) (v4 : Int32) (v5 : Int32) (v6 : Int32) (s0 : Int32) (h : Hp) (k44 : Nat → Int32 → Int32 → Int32 → Int32 → Hp → Option (Int32 × Hp)) : Option (Int32 × Hp) :=
  if s0 = 0 then
    f_X8_stop_J211 n v0 v1 v2 v3 v4 h (fun a0 a1 a2 a4 b0 h => f_X8_stop_J212 n a0 a1 a2 a4 b0 h k44)
  else
    (f_X8_tells n v0 v1 v5 v6 h).bind fun x197 =>
    if x197.1 = 9999 then
      f_X8_stop_J212 n v0 v1 v2 v4 v4 x197.2 k44
    else
      f_X8_stop_J211 n v0 v1 v2 v3 v4 x197.2 (fun a0 a1 a2 a4 b0 h => f_X8_stop_J212 n a0 a1 a2 a4 b0 h k44)
def f_X8_stop_J161 (n : Nat) (v0 : Nat) (v1 : Int32) (v2 : Int32) (v3 : Int32) (v4 : Int32) (v5 : Int32) (v6 : Int32) (h : Hp) (k44 : Nat → Int32 → Int32 → Int32 → Int32 → Hp → Option (Int32 × Hp)) : Option (Int32 × Hp) :=
  if v3 = (-9) then
    f_X8_stop_J179 n v0 v1 v2 v3 v4 v5 v6 h (fun a0 a1 a2 a3 a4 a5 a6 b0 h => f_X8_stop_J184 n a0 a1 a2 a3 a4 a5 a6 b0 h k44)
  else
    (f_X8_bitsIn n v4 h).bind fun x169 =>
    (f_X8_bitsIn n v3 x169.2).bind fun x173 =>
    if x173.1 ≤ x169.1 then
      f_X8_stop_J184 n v0 v1 v2 v3 v4 v5 v6 0 x173.2 k44
    else
      f_X8_stop_J179 n v0 v1 v2 v3 v4 v5 v6 x173.2 (fun a0 a1 a2 a3 a4 a5 a6 b0 h => f_X8_stop_J184 n a0 a1 a2 a3 a4 a5 a6 b0 h k44)
def f_X8_stop_L44 : Nat → Nat → Int32 → Int32 → Int32 → Int32 → Hp → (Int32 → Int32 → Hp → Option (Int32 × Hp)) → Option (Int32 × Hp)
  | 0, _, _, _, _, _, _, _ => none
  | n + 1, v0, v1, v2, v3, v4, h, k219 =>
    (gI 8 20 v0 h).bind fun x48 =>
    if (1 <<< (x48 &&& 31)) ≤ v4 then
      k219 v2 v3 h
    else
      f_X8_stop_L64 n v0 v1 v2 v3 v4 0 0 0 h (fun a0 a1 a2 a3 a4 a5 a6 h => f_X8_stop_J161 n a0 a1 a2 a3 a4 a5 a6 h (fun a0 a1 a2 a3 a4 h => f_X8_stop_L44 n a0 a1 a2 a3 a4 h k219))
def f_X8_stop_J219 (n : Nat) (v2 : Int32) (v3 : Int32) (h : Hp) : Option (Int32 × Hp) :=
  if v3 = (-9) then
    some (v3, h)
  else
    if v2 = 1 then
      some (v3, h)
    else
      (f_X8_bitsIn n v3 h).bind fun x235 =>
      some (x235.1, x235.2)
def f_X8_stop (n : Nat) (v0 : Nat) (v1 : Int32) (v2 : Int32) (h : Hp) : Option (Int32 × Hp) :=
  (ck 8 v0 h).bind fun _ =>
  (f_X8_isBill n v1 h).bind fun x1 =>
  if x1.1 = 0 then
    some ((-1), x1.2)
  else
    (f_X8_in n v2 0 1 x1.2).bind fun x10 =>
    if x10.1 = 0 then
      some ((-1), x10.2)
    else
      (f_X8_isOpen n v0 v1 x10.2).bind fun x20 =>
      if x20.1 = 0 then
        some ((-2), x20.2)
      else
        (f_X8_playNow n v0 v1 6 6 x20.2).bind fun x35 =>
        f_X8_stop_L44 n v0 v1 v2 (-9) 0 x35 (fun a2 a3 h => f_X8_stop_J219 n a2 a3 h)
def f_X8_group_L14 : Nat → Nat → Int32 → Hp → (Nat → Hp → Option (Int32 × Hp)) → Option (Int32 × Hp)
  | 0, _, _, _, _ => none
  | n + 1, v0, v1, h, k41 =>
    if 6 ≤ v1 then
      k41 v0 h
    else
      (gR 8 40 v0 h).bind fun x21 =>
      (gI 8 39 v0 h).bind fun x27 =>
      (tI x21 ((6 * x27) + v1) 0 h).bind fun h34 =>
      f_X8_group_L14 n v0 (v1 + 1) h34 k41
def f_X8_group_J41 (n : Nat) (v0 : Nat) (h : Hp) : Option (Int32 × Hp) :=
  (gI 8 39 v0 h).bind fun x43 =>
  (pI 8 39 v0 (x43 + 1) h).bind fun h48 =>
  (gI 8 39 v0 h48).bind fun x52 =>
  some ((x52 - 1), h48)
def f_X8_group (n : Nat) (v0 : Nat) (h : Hp) : Option (Int32 × Hp) :=
  (ck 8 v0 h).bind fun _ =>
  (gI 8 39 v0 h).bind fun x1 =>
  if x1 = 9 then
    some ((-3), h)
  else
    f_X8_group_L14 n v0 0 h (fun a0 h => f_X8_group_J41 n a0 h)
def f_X8_wish (n : Nat) (v0 : Nat) (v1 : Int32) (v2 : Int32) (v3 : Int32) (h : Hp) : Option (Int32 × Hp) :=
  (ck 8 v0 h).bind fun _ =>
  (gI 8 39 v0 h).bind fun x3 =>
  (f_X8_in n v1 0 (x3 - 1) h).bind fun x8 =>
  if x8.1 = 0 then
    some ((-100), x8.2)
  else
    (f_X8_in n v2 0 5 x8.2).bind fun x17 =>
    if x17.1 = 0 then
      some ((-100), x17.2)
    else
      (f_X8_in n v3 (-9) 9 x17.2).bind fun x28 =>
      if x28.1 = 0 then
        some ((-100), x28.2)
      else
        (gR 8 40 v0 x28.2).bind fun x38 =>
        (aI 0 x38 ((6 * v1) + v2) x28.2).bind fun x47 =>
        (gR 8 40 v0 x28.2).bind fun x51 =>
        (tI x51 ((6 * v1) + v2) v3 x28.2).bind fun h61 =>
        some (x47, h61)
def f_X8_doesPass_J53 (n : Nat) (v0 : Nat) (v1 : Int32) (v2 : Int32) (v3 : Int32) (v5 : Int32) (s0 : Int32) (s1 : Int32) (h : Hp) (k18 : Nat → Int32 → Int32 → Int32 → Int32 → Int32 → Hp → Option (Int32 × Hp)) : Option (Int32 × Hp) :=
  k18 v0 v1 v2 v3 (s0 + s1) (v5 + 1) h
def f_X8_doesPass_L18 : Nat → Nat → Int32 → Int32 → Int32 → Int32 → Int32 → Hp → (Nat → Int32 → Int32 → Int32 → Int32 → Hp → Option (Int32 × Hp)) → Option (Int32 × Hp)
  | 0, _, _, _, _, _, _, _, _ => none
  | n + 1, v0, v1, v2, v3, v4, v5, h, k62 =>
    if 6 ≤ v5 then
      k62 v0 v1 v2 v3 v4 h
    else
      if ((v1 >>> (v5 &&& 31)) &&& 1) = 1 then
        (gR 8 40 v0 h).bind fun x38 =>
        (aI 0 x38 ((6 * v3) + v5) h).bind fun x48 =>
        f_X8_doesPass_J53 n v0 v1 v2 v3 v5 v4 x48 h (fun a0 a1 a2 a3 a4 a5 h => f_X8_doesPass_L18 n a0 a1 a2 a3 a4 a5 h k62)
      else
        f_X8_doesPass_J53 n v0 v1 v2 v3 v5 v4 0 h (fun a0 a1 a2 a3 a4 a5 h => f_X8_doesPass_L18 n a0 a1 a2 a3 a4 a5 h k62)
def f_X8_doesPass_J82 (n : Nat) (v0 : Nat) (v1 : Int32) (v3 : Int32) (s0 : Int32) (s1 : Int32) (h : Hp) (k4 : Nat → Int32 → Int32 → Int32 → Hp → Option (Int32 × Hp)) : Option (Int32 × Hp) :=
  k4 v0 v1 (s0 + s1) (v3 + 1) h
def f_X8_doesPass_J62 (n : Nat) (v0 : Nat) (v1 : Int32) (v2 : Int32) (v3 : Int32) (v4 : Int32) (h : Hp) (k4 : Nat → Int32 → Int32 → Int32 → Hp → Option (Int32 × Hp)) : Option (Int32 × Hp) :=
  if v4 ≤ 0 then
    if 0 ≤ v4 then
      f_X8_doesPass_J82 n v0 v1 v3 v2 0 h k4
    else
      f_X8_doesPass_J82 n v0 v1 v3 v2 (-1) h k4
  else
    f_X8_doesPass_J82 n v0 v1 v3 v2 1 h k4
def f_X8_doesPass_L4 : Nat → Nat → Int32 → Int32 → Int32 → Hp → (Int32 → Hp → Option (Int32 × Hp)) → Option (Int32 × Hp)
  | 0, _, _, _, _, _, _ => none
  | n + 1, v0, v1, v2, v3, h, k90 =>
    (gI 8 39 v0 h).bind fun x6 =>
    if x6 ≤ v3 then
      k90 v2 h
    else
      f_X8_doesPass_L18 n v0 v1 v2 v3 0 0 h (fun a0 a1 a2 a3 a4 h => f_X8_doesPass_J62 n a0 a1 a2 a3 a4 h (fun a0 a1 a2 a3 h => f_X8_doesPass_L4 n a0 a1 a2 a3 h k90))
def f_X8_doesPass_J90 (n : Nat) (v2 : Int32) (h : Hp) : Option (Int32 × Hp) :=
  if v2 ≤ 0 then
    zr 0 h
  else
    zr 1 h
def f_X8_doesPass (n : Nat) (v0 : Nat) (v1 : Int32) (h : Hp) : Option (Int32 × Hp) :=
  (ck 8 v0 h).bind fun _ =>
  f_X8_doesPass_L4 n v0 v1 0 0 h (fun a2 h => f_X8_doesPass_J90 n a2 h)
def f_X8_passes (n : Nat) (v0 : Nat) (v1 : Int32) (h : Hp) : Option (Int32 × Hp) :=
  (ck 8 v0 h).bind fun _ =>
  (f_X8_in n v1 1 63 h).bind fun x4 =>
  if x4.1 = 0 then
    some ((-1), x4.2)
  else
    (f_X8_doesPass n v0 v1 x4.2).bind fun x16 =>
    if x16.1 = 0 then
      some (0, x16.2)
    else
      some (1, x16.2)
def f_X8_ride_J51 (n : Nat) (v0 : Nat) (v1 : Int32) (v2 : Int32) (v3 : Int32) (v4 : Int32) (h : Hp) (k56 : Nat → Int32 → Int32 → Int32 → Int32 → Int32 → Hp → Option (Int32 × Hp)) : Option (Int32 × Hp) :=
  k56 v0 v1 v2 v3 v4 1 h
def f_X8_ride_J90 (n : Nat) (v0 : Nat) (v1 : Int32) (v2 : Int32) (v3 : Int32) (v4 : Int32) (h : Hp) (k91 : Nat → Int32 → Int32 → Int32 → Int32 → Hp → Option (Int32 × Hp)) : Option (Int32 × Hp) :=
  k91 v0 v1 v2 v4 v3 h
def f_X8_ride_J91 (n : Nat) (v0 : Nat) (v1 : Int32) (v2 : Int32) (v4 : Int32) (s0 : Int32) (h : Hp) (k26 : Nat → Int32 → Int32 → Int32 → Int32 → Hp → Option (Int32 × Hp)) : Option (Int32 × Hp) :=
  k26 v0 v1 v2 s0 (v4 + 1) h
def f_X8_ride_J56 (n : Nat) (v0 : Nat) (v1 : Int32) (v2 : Int32) (v3 : Int32) (v4 : Int32) (s0 : Int32) (h : Hp) (k26 : Nat → Int32 → Int32 → Int32 → Int32 → Hp → Option (Int32 × Hp)) : Option (Int32 × Hp) :=
  if ((v4 >>> (v1 &&& 31)) &&& 1) = 0 then
    if s0 = 0 then
      f_X8_ride_J90 n v0 v1 v2 v3 v4 h (fun a0 a1 a2 a4 b0 h => f_X8_ride_J91 n a0 a1 a2 a4 b0 h k26)
    else
      (f_X8_doesPass n v0 (v4 ||| (1 <<< (v1 &&& 31))) h).bind fun x79 =>
      if x79.1 = 0 then
        f_X8_ride_J90 n v0 v1 v2 v3 v4 x79.2 (fun a0 a1 a2 a4 b0 h => f_X8_ride_J91 n a0 a1 a2 a4 b0 h k26)
      else
        f_X8_ride_J91 n v0 v1 v2 v4 v4 x79.2 k26
  else
    f_X8_ride_J90 n v0 v1 v2 v3 v4 h (fun a0 a1 a2 a4 b0 h => f_X8_ride_J91 n a0 a1 a2 a4 b0 h k26)
def f_X8_ride_L26 : Nat → Nat → Int32 → Int32 → Int32 → Int32 → Hp → (Int32 → Int32 → Hp → Option (Int32 × Hp)) → Option (Int32 × Hp)
  | 0, _, _, _, _, _, _, _ => none
  | n + 1, v0, v1, v2, v3, v4, h, k98 =>
    if 64 ≤ v4 then
      k98 v2 v3 h
    else
      if v3 = (-9) then
        f_X8_ride_J51 n v0 v1 v2 v3 v4 h (fun a0 a1 a2 a3 a4 b0 h => f_X8_ride_J56 n a0 a1 a2 a3 a4 b0 h (fun a0 a1 a2 a3 a4 h => f_X8_ride_L26 n a0 a1 a2 a3 a4 h k98))
      else
        (f_X8_bitsIn n v4 h).bind fun x41 =>
        (f_X8_bitsIn n v3 x41.2).bind fun x45 =>
        if x45.1 ≤ x41.1 then
          f_X8_ride_J56 n v0 v1 v2 v3 v4 0 x45.2 (fun a0 a1 a2 a3 a4 h => f_X8_ride_L26 n a0 a1 a2 a3 a4 h k98)
        else
          f_X8_ride_J51 n v0 v1 v2 v3 v4 x45.2 (fun a0 a1 a2 a3 a4 b0 h => f_X8_ride_J56 n a0 a1 a2 a3 a4 b0 h (fun a0 a1 a2 a3 a4 h => f_X8_ride_L26 n a0 a1 a2 a3 a4 h k98))
def f_X8_ride_J98 (n : Nat) (v2 : Int32) (v3 : Int32) (h : Hp) : Option (Int32 × Hp) :=
  if v3 = (-9) then
    some (v3, h)
  else
    if v2 = 1 then
      some (v3, h)
    else
      (f_X8_bitsIn n v3 h).bind fun x114 =>
      some (x114.1, x114.2)
def f_X8_ride (n : Nat) (v0 : Nat) (v1 : Int32) (v2 : Int32) (h : Hp) : Option (Int32 × Hp) :=
  (ck 8 v0 h).bind fun _ =>
  (f_X8_in n v1 0 5 h).bind fun x3 =>
  if x3.1 = 0 then
    some ((-1), x3.2)
  else
    (f_X8_in n v2 0 1 x3.2).bind fun x12 =>
    if x12.1 = 0 then
      some ((-1), x12.2)
    else
      f_X8_ride_L26 n v0 v1 v2 (-9) 0 x12.2 (fun a2 a3 h => f_X8_ride_J98 n a2 a3 h)
def f_X8_tears_J54 (n : Nat) (v0 : Nat) (v1 : Int32) (v3 : Int32) (s0 : Int32) (h : Hp) (k55 : Nat → Int32 → Int32 → Int32 → Int32 → Hp → Option (Int32 × Hp)) : Option (Int32 × Hp) :=
  k55 v0 v1 v3 s0 0 h
def f_X8_tears_J55 (n : Nat) (v0 : Nat) (v1 : Int32) (v3 : Int32) (s0 : Int32) (s1 : Int32) (h : Hp) (k16 : Nat → Int32 → Int32 → Int32 → Hp → Option (Int32 × Hp)) : Option (Int32 × Hp) :=
  k16 v0 v1 (s0 + s1) (v3 + 1) h
def f_X8_tears_L16 : Nat → Nat → Int32 → Int32 → Int32 → Hp → Option (Int32 × Hp)
  | 0, _, _, _, _, _ => none
  | n + 1, v0, v1, v2, v3, h =>
    if 6 ≤ v3 then
      some (v2, h)
    else
      (f_X8_doesPass n v0 v1 h).bind fun x24 =>
      if x24.1 = 0 then
        some (v2, x24.2)
      else
        if ((v1 >>> (v3 &&& 31)) &&& 1) = 1 then
          (f_X8_doesPass n v0 (1 <<< (v3 &&& 31)) x24.2).bind fun x44 =>
          if x44.1 = 0 then
            f_X8_tears_J55 n v0 v1 v3 v2 1 x44.2 (fun a0 a1 a2 a3 h => f_X8_tears_L16 n a0 a1 a2 a3 h)
          else
            f_X8_tears_J54 n v0 v1 v3 v2 x44.2 (fun a0 a1 a3 b0 b1 h => f_X8_tears_J55 n a0 a1 a3 b0 b1 h (fun a0 a1 a2 a3 h => f_X8_tears_L16 n a0 a1 a2 a3 h))
        else
          f_X8_tears_J54 n v0 v1 v3 v2 x24.2 (fun a0 a1 a3 b0 b1 h => f_X8_tears_J55 n a0 a1 a3 b0 b1 h (fun a0 a1 a2 a3 h => f_X8_tears_L16 n a0 a1 a2 a3 h))
def f_X8_tears (n : Nat) (v0 : Nat) (v1 : Int32) (h : Hp) : Option (Int32 × Hp) :=
  (ck 8 v0 h).bind fun _ =>
  (f_X8_in n v1 1 63 h).bind fun x4 =>
  if x4.1 = 0 then
    some ((-1), x4.2)
  else
    f_X8_tears_L16 n v0 v1 0 0 x4.2
def f_X8_word_J50 (n : Nat) (v0 : Nat) (v1 : Int32) (v2 : Int32) (v3 : Int32) (v4 : Int32) (s0 : Int32) (s1 : Int32) (s2 : Int32) (h : Hp) (k60 : Nat → Int32 → Int32 → Int32 → Int32 → Hp → Option (Int32 × Hp)) (k61 : Nat → Int32 → Int32 → Int32 → Int32 → Int32 → Hp → Option (Int32 × Hp)) : Option (Int32 × Hp) :=
  (f_X8_in n s0 s1 s2 h).bind fun x50 =>
  if x50.1 = 0 then
    k60 v0 v1 v2 v3 v4 x50.2
  else
    k61 v0 v1 v2 v3 v4 1 x50.2
def f_X8_word_J30 (n : Nat) (v0 : Nat) (v1 : Int32) (v2 : Int32) (v3 : Int32) (v4 : Int32) (s0 : Int32) (s1 : Int32) (s2 : Int32) (h : Hp) (k60 : Nat → Int32 → Int32 → Int32 → Int32 → Hp → Option (Int32 × Hp)) (k61 : Nat → Int32 → Int32 → Int32 → Int32 → Int32 → Hp → Option (Int32 × Hp)) : Option (Int32 × Hp) :=
  (f_X8_in n s0 s1 s2 h).bind fun x30 =>
  if x30.1 = 0 then
    k60 v0 v1 v2 v3 v4 x30.2
  else
    if v2 = 3 then
      f_X8_word_J50 n v0 v1 v2 v3 v4 v4 0 3 x30.2 k60 k61
    else
      f_X8_word_J50 n v0 v1 v2 v3 v4 v4 0 59 x30.2 k60 k61
def f_X8_word_J60 (n : Nat) (v0 : Nat) (v1 : Int32) (v2 : Int32) (v3 : Int32) (v4 : Int32) (h : Hp) (k61 : Nat → Int32 → Int32 → Int32 → Int32 → Int32 → Hp → Option (Int32 × Hp)) : Option (Int32 × Hp) :=
  k61 v0 v1 v2 v3 v4 0 h
def f_X8_word_J61 (n : Nat) (v0 : Nat) (v1 : Int32) (v2 : Int32) (v3 : Int32) (v4 : Int32) (s0 : Int32) (h : Hp) : Option (Int32 × Hp) :=
  if s0 = 0 then
    some ((-1), h)
  else
    (gR 8 41 v0 h).bind fun x71 =>
    (aI 0 x71 v1 h).bind fun x75 =>
    (gR 8 41 v0 h).bind fun x79 =>
    (tI x79 v1 v2 h).bind fun h84 =>
    (gR 8 42 v0 h84).bind fun x86 =>
    (tI x86 v1 v3 h84).bind fun h91 =>
    (gR 8 43 v0 h91).bind fun x93 =>
    (tI x93 v1 v4 h91).bind fun h99 =>
    some (x75, h99)
def f_X8_word (n : Nat) (v0 : Nat) (v1 : Int32) (v2 : Int32) (v3 : Int32) (v4 : Int32) (h : Hp) : Option (Int32 × Hp) :=
  (ck 8 v0 h).bind fun _ =>
  (f_X8_in n v1 0 4 h).bind fun x3 =>
  if x3.1 = 0 then
    f_X8_word_J60 n v0 v1 v2 v3 v4 x3.2 (fun a0 a1 a2 a3 a4 b0 h => f_X8_word_J61 n a0 a1 a2 a3 a4 b0 h)
  else
    (f_X8_in n v2 0 3 x3.2).bind fun x12 =>
    if x12.1 = 0 then
      f_X8_word_J60 n v0 v1 v2 v3 v4 x12.2 (fun a0 a1 a2 a3 a4 b0 h => f_X8_word_J61 n a0 a1 a2 a3 a4 b0 h)
    else
      if 2 ≤ v2 then
        f_X8_word_J30 n v0 v1 v2 v3 v4 v3 0 3 x12.2 (fun a0 a1 a2 a3 a4 h => f_X8_word_J60 n a0 a1 a2 a3 a4 h (fun a0 a1 a2 a3 a4 b0 h => f_X8_word_J61 n a0 a1 a2 a3 a4 b0 h)) (fun a0 a1 a2 a3 a4 b0 h => f_X8_word_J61 n a0 a1 a2 a3 a4 b0 h)
      else
        f_X8_word_J30 n v0 v1 v2 v3 v4 v3 0 1 x12.2 (fun a0 a1 a2 a3 a4 h => f_X8_word_J60 n a0 a1 a2 a3 a4 h (fun a0 a1 a2 a3 a4 b0 h => f_X8_word_J61 n a0 a1 a2 a3 a4 b0 h)) (fun a0 a1 a2 a3 a4 b0 h => f_X8_word_J61 n a0 a1 a2 a3 a4 b0 h)
def f_X8_less (n : Nat) (v0 : Int32) (v1 : Int32) (h : Hp) : Option (Int32 × Hp) :=
  if v0 ≤ v1 then
    some (0, h)
  else
    some ((v0 - v1), h)
def f_X8_sureWith_J81 (n : Nat) (v0 : Nat) (v2 : Int32) (v3 : Int32) (v4 : Int32) (v5 : Int32) (v6 : Int32) (v7 : Int32) (h : Hp) (k82 : Nat → Int32 → Int32 → Int32 → Int32 → Int32 → Int32 → Hp → Option (Int32 × Hp)) : Option (Int32 × Hp) :=
  k82 v0 v2 v4 v5 v6 v7 v3 h
def f_X8_sureWith_J110 (n : Nat) (v0 : Nat) (v2 : Int32) (v3 : Int32) (v4 : Int32) (v5 : Int32) (v6 : Int32) (v7 : Int32) (h : Hp) (k112 : Nat → Int32 → Int32 → Int32 → Int32 → Int32 → Int32 → Hp → Option (Int32 × Hp)) : Option (Int32 × Hp) :=
  k112 v0 v2 v3 v5 v6 v7 v4 h
def f_X8_sureWith_J181 (n : Nat) (v0 : Nat) (v2 : Int32) (v3 : Int32) (v4 : Int32) (v5 : Int32) (s0 : Nat) (s1 : Int32) (s2 : Int32) (s3 : Int32) (h : Hp) (k183 : Nat → Int32 → Int32 → Int32 → Int32 → Hp → Option (Int32 × Hp)) : Option (Int32 × Hp) :=
  (tI s0 s1 (s2 ||| s3) h).bind fun h182 =>
  k183 v0 v2 v3 v4 v5 h182
def f_X8_sureWith_J153 (n : Nat) (v0 : Nat) (v2 : Int32) (v3 : Int32) (v4 : Int32) (v5 : Int32) (v6 : Int32) (v7 : Int32) (s0 : Nat) (s1 : Int32) (s2 : Int32) (h : Hp) (k183 : Nat → Int32 → Int32 → Int32 → Int32 → Hp → Option (Int32 × Hp)) : Option (Int32 × Hp) :=
  (tI s0 s1 s2 h).bind fun h153 =>
  (gR 8 27 v0 h153).bind fun x155 =>
  (aI 0 x155 v6 h153).bind fun x161 =>
  (gR 8 41 v0 h153).bind fun x163 =>
  (aI 0 x163 v5 h153).bind fun x168 =>
  if x168 = 3 then
    f_X8_sureWith_J181 n v0 v2 v3 v4 v5 x155 v6 x161 (1 <<< (v7 &&& 31)) h153 k183
  else
    f_X8_sureWith_J181 n v0 v2 v3 v4 v5 x155 v6 x161 0 h153 k183
def f_X8_sureWith_J112 (n : Nat) (v0 : Nat) (v2 : Int32) (v3 : Int32) (v5 : Int32) (v6 : Int32) (v7 : Int32) (s0 : Int32) (h : Hp) (k183 : Nat → Int32 → Int32 → Int32 → Int32 → Hp → Option (Int32 × Hp)) : Option (Int32 × Hp) :=
  (gR 8 28 v0 h).bind fun x115 =>
  (gR 8 41 v0 h).bind fun x121 =>
  (aI 0 x121 v5 h).bind fun x126 =>
  if x126 = 2 then
    (gR 8 28 v0 h).bind fun x132 =>
    (aI 0 x132 v6 h).bind fun x137 =>
    (f_X8_less n x137 v7 h).bind fun x140 =>
    f_X8_sureWith_J153 n v0 v2 v3 s0 v5 v6 v7 x115 v6 x140.1 x140.2 k183
  else
    (gR 8 28 v0 h).bind fun x147 =>
    (aI 0 x147 v6 h).bind fun x152 =>
    f_X8_sureWith_J153 n v0 v2 v3 s0 v5 v6 v7 x115 v6 x152 h k183
def f_X8_sureWith_J82 (n : Nat) (v0 : Nat) (v2 : Int32) (v4 : Int32) (v5 : Int32) (v6 : Int32) (v7 : Int32) (s0 : Int32) (h : Hp) (k183 : Nat → Int32 → Int32 → Int32 → Int32 → Hp → Option (Int32 × Hp)) : Option (Int32 × Hp) :=
  (gR 8 41 v0 h).bind fun x84 =>
  (aI 0 x84 v5 h).bind fun x89 =>
  if x89 = 1 then
    if v6 = 1 then
      (f_X8_less n v4 v7 h).bind fun x104 =>
      f_X8_sureWith_J112 n v0 v2 s0 v5 v6 v7 x104.1 x104.2 k183
    else
      f_X8_sureWith_J110 n v0 v2 s0 v4 v5 v6 v7 h (fun a0 a2 a3 a5 a6 a7 b0 h => f_X8_sureWith_J112 n a0 a2 a3 a5 a6 a7 b0 h k183)
  else
    f_X8_sureWith_J110 n v0 v2 s0 v4 v5 v6 v7 h (fun a0 a2 a3 a5 a6 a7 b0 h => f_X8_sureWith_J112 n a0 a2 a3 a5 a6 a7 b0 h k183)
def f_X8_sureWith_J183 (n : Nat) (v0 : Nat) (v2 : Int32) (v3 : Int32) (v4 : Int32) (v5 : Int32) (h : Hp) (k22 : Nat → Int32 → Int32 → Int32 → Int32 → Hp → Option (Int32 × Hp)) : Option (Int32 × Hp) :=
  k22 v0 v2 v3 v4 (v5 + 1) h
def f_X8_sureWith_L22 : Nat → Nat → Int32 → Int32 → Int32 → Int32 → Hp → (Nat → Int32 → Int32 → Hp → Option (Int32 × Hp)) → Option (Int32 × Hp)
  | 0, _, _, _, _, _, _, _ => none
  | n + 1, v0, v2, v3, v4, v5, h, k189 =>
    if 5 ≤ v5 then
      k189 v0 v3 v4 h
    else
      if ((v2 >>> (v5 &&& 31)) &&& 1) = 1 then
        (gR 8 42 v0 h).bind fun x39 =>
        (aI 0 x39 v5 h).bind fun x44 =>
        (gR 8 43 v0 h).bind fun x48 =>
        (aI 0 x48 v5 h).bind fun x53 =>
        (gR 8 41 v0 h).bind fun x57 =>
        (aI 0 x57 v5 h).bind fun x62 =>
        if x62 = 1 then
          if x44 = 0 then
            (f_X8_less n v3 x53 h).bind fun x75 =>
            f_X8_sureWith_J82 n v0 v2 v4 v5 x44 x53 x75.1 x75.2 (fun a0 a2 a3 a4 a5 h => f_X8_sureWith_J183 n a0 a2 a3 a4 a5 h (fun a0 a2 a3 a4 a5 h => f_X8_sureWith_L22 n a0 a2 a3 a4 a5 h k189))
          else
            f_X8_sureWith_J81 n v0 v2 v3 v4 v5 x44 x53 h (fun a0 a2 a4 a5 a6 a7 b0 h => f_X8_sureWith_J82 n a0 a2 a4 a5 a6 a7 b0 h (fun a0 a2 a3 a4 a5 h => f_X8_sureWith_J183 n a0 a2 a3 a4 a5 h (fun a0 a2 a3 a4 a5 h => f_X8_sureWith_L22 n a0 a2 a3 a4 a5 h k189)))
        else
          f_X8_sureWith_J81 n v0 v2 v3 v4 v5 x44 x53 h (fun a0 a2 a4 a5 a6 a7 b0 h => f_X8_sureWith_J82 n a0 a2 a4 a5 a6 a7 b0 h (fun a0 a2 a3 a4 a5 h => f_X8_sureWith_J183 n a0 a2 a3 a4 a5 h (fun a0 a2 a3 a4 a5 h => f_X8_sureWith_L22 n a0 a2 a3 a4 a5 h k189)))
      else
        f_X8_sureWith_J183 n v0 v2 v3 v4 v5 h (fun a0 a2 a3 a4 a5 h => f_X8_sureWith_L22 n a0 a2 a3 a4 a5 h k189)
def f_X8_sureWith_J189 (n : Nat) (v0 : Nat) (v3 : Int32) (v4 : Int32) (h : Hp) : Option (Int32 × Hp) :=
  (gI 8 24 v0 h).bind fun x190 =>
  if x190 = 0 then
    some (0, h)
  else
    (f_X8_play n v0 0 0 v3 v4 h).bind fun x204 =>
    (gR 8 38 v0 x204).bind fun x208 =>
    (f_X8_place n 0 0 v3 v4 x204).bind fun x216 =>
    (aI 0 x208 x216.1 x216.2).bind fun x219 =>
    some (x219, x216.2)
def f_X8_sureWith (n : Nat) (v0 : Nat) (v1 : Int32) (v2 : Int32) (h : Hp) : Option (Int32 × Hp) :=
  (ck 8 v0 h).bind fun _ =>
  (f_X8_lay n v0 v1 0 h).bind fun x3 =>
  (f_X8_timesOf n v0 1 x3).bind fun x8 =>
  (f_X8_timesOf n v0 2 x8.2).bind fun x14 =>
  f_X8_sureWith_L22 n v0 v2 x8.1 x14.1 0 x14.2 (fun a0 a3 a4 h => f_X8_sureWith_J189 n a0 a3 a4 h)
def f_X8_mended_J81 (n : Nat) (v0 : Nat) (v1 : Int32) (v2 : Int32) (v4 : Int32) (v5 : Int32) (s0 : Int32) (h : Hp) (k85 : Nat → Int32 → Int32 → Int32 → Int32 → Int32 → Hp → Option (Int32 × Hp)) : Option (Int32 × Hp) :=
  k85 v0 v1 v2 s0 (v4 + 1) v5 h
def f_X8_mended_J85 (n : Nat) (v0 : Nat) (v1 : Int32) (v2 : Int32) (v3 : Int32) (v4 : Int32) (v5 : Int32) (h : Hp) (k27 : Nat → Int32 → Int32 → Int32 → Int32 → Int32 → Hp → Option (Int32 × Hp)) : Option (Int32 × Hp) :=
  k27 v0 v1 v2 v3 v4 (v5 + 1) h
def f_X8_mended_L27 : Nat → Nat → Int32 → Int32 → Int32 → Int32 → Int32 → Hp → (Nat → Int32 → Int32 → Int32 → Int32 → Hp → Option (Int32 × Hp)) → Option (Int32 × Hp)
  | 0, _, _, _, _, _, _, _, _ => none
  | n + 1, v0, v1, v2, v3, v4, v5, h, k91 =>
    if 32 ≤ v5 then
      k91 v0 v1 v2 v3 v4 h
    else
      (f_X8_bitsIn n v5 h).bind fun x36 =>
      if x36.1 = v2 then
        (f_X8_sureWith n v0 0 v5 x36.2).bind fun x47 =>
        if x47.1 = 9999 then
          f_X8_mended_J85 n v0 v1 v2 v3 v4 v5 x47.2 (fun a0 a1 a2 a3 a4 a5 h => f_X8_mended_L27 n a0 a1 a2 a3 a4 a5 h k91)
        else
          (f_X8_sureWith n v0 1 v5 x47.2).bind fun x60 =>
          if x60.1 = 9999 then
            if v3 = (-9) then
              f_X8_mended_J81 n v0 v1 v2 v4 v5 v5 x60.2 (fun a0 a1 a2 a3 a4 a5 h => f_X8_mended_J85 n a0 a1 a2 a3 a4 a5 h (fun a0 a1 a2 a3 a4 a5 h => f_X8_mended_L27 n a0 a1 a2 a3 a4 a5 h k91))
            else
              f_X8_mended_J81 n v0 v1 v2 v4 v5 v3 x60.2 (fun a0 a1 a2 a3 a4 a5 h => f_X8_mended_J85 n a0 a1 a2 a3 a4 a5 h (fun a0 a1 a2 a3 a4 a5 h => f_X8_mended_L27 n a0 a1 a2 a3 a4 a5 h k91))
          else
            f_X8_mended_J85 n v0 v1 v2 v3 v4 v5 x60.2 (fun a0 a1 a2 a3 a4 a5 h => f_X8_mended_L27 n a0 a1 a2 a3 a4 a5 h k91)
      else
        f_X8_mended_J85 n v0 v1 v2 v3 v4 v5 x36.2 (fun a0 a1 a2 a3 a4 a5 h => f_X8_mended_L27 n a0 a1 a2 a3 a4 a5 h k91)
def f_X8_mended_J91 (n : Nat) (v0 : Nat) (v1 : Int32) (v2 : Int32) (v3 : Int32) (v4 : Int32) (h : Hp) (k13 : Nat → Int32 → Int32 → Hp → Option (Int32 × Hp)) : Option (Int32 × Hp) :=
  if v4 ≤ 0 then
    k13 v0 v1 (v2 + 1) h
  else
    if v1 = 0 then
      some (v2, h)
    else
      if v1 = 1 then
        some (v3, h)
      else
        some (v4, h)
def f_X8_mended_L13 : Nat → Nat → Int32 → Int32 → Hp → Option (Int32 × Hp)
  | 0, _, _, _, _ => none
  | n + 1, v0, v1, v2, h =>
    if 5 < v2 then
      some ((-9), h)
    else
      f_X8_mended_L27 n v0 v1 v2 (-9) 0 0 h (fun a0 a1 a2 a3 a4 h => f_X8_mended_J91 n a0 a1 a2 a3 a4 h (fun a0 a1 a2 h => f_X8_mended_L13 n a0 a1 a2 h))
def f_X8_mended (n : Nat) (v0 : Nat) (v1 : Int32) (h : Hp) : Option (Int32 × Hp) :=
  (ck 8 v0 h).bind fun _ =>
  (f_X8_in n v1 0 2 h).bind fun x3 =>
  if x3.1 = 0 then
    some ((-1), x3.2)
  else
    f_X8_mended_L13 n v0 v1 0 x3.2
def f_X8_price_L66 : Nat → Nat → Int32 → Int32 → Int32 → Int32 → Int32 → Int32 → Int32 → Hp → (Nat → Int32 → Int32 → Int32 → Int32 → Int32 → Int32 → Hp → Option (Int32 × Hp)) → Option (Int32 × Hp)
  | 0, _, _, _, _, _, _, _, _, _, _ => none
  | n + 1, v0, v1, v2, v3, v4, v5, v6, v7, h, k109 =>
    (gR 8 3 v0 h).bind fun x69 =>
    (aI 0 x69 v6 h).bind fun x74 =>
    if x74 ≤ v7 then
      k109 v0 v1 v2 v3 v4 v5 v6 h
    else
      (gR 8 4 v0 h).bind fun x81 =>
      (aI 0 x81 ((4 * v6) + v7) h).bind fun x91 =>
      (f_X8_kindNow n v0 v2 h).bind fun x94 =>
      f_X8_price_L66 n v0 v1 v2 v3 (v4 + ((x91 >>> (x94.1 &&& 31)) &&& 1)) v5 v6 (v7 + 1) x94.2 k109
def f_X8_price_J109 (n : Nat) (v0 : Nat) (v1 : Int32) (v2 : Int32) (v3 : Int32) (v4 : Int32) (v5 : Int32) (v6 : Int32) (h : Hp) (k37 : Nat → Int32 → Int32 → Int32 → Int32 → Int32 → Int32 → Hp → Option (Int32 × Hp)) : Option (Int32 × Hp) :=
  k37 v0 v1 v2 v3 v4 v5 (v6 + 1) h
def f_X8_price_J60 (n : Nat) (v0 : Nat) (v1 : Int32) (v2 : Int32) (v3 : Int32) (v4 : Int32) (v6 : Int32) (s0 : Int32) (s1 : Int32) (h : Hp) (k37 : Nat → Int32 → Int32 → Int32 → Int32 → Int32 → Int32 → Hp → Option (Int32 × Hp)) : Option (Int32 × Hp) :=
  f_X8_price_L66 n v0 v1 v2 v3 v4 (s0 + s1) v6 0 h (fun a0 a1 a2 a3 a4 a5 a6 h => f_X8_price_J109 n a0 a1 a2 a3 a4 a5 a6 h k37)
def f_X8_price_L37 : Nat → Nat → Int32 → Int32 → Int32 → Int32 → Int32 → Int32 → Hp → (Nat → Int32 → Int32 → Int32 → Int32 → Int32 → Hp → Option (Int32 × Hp)) → Option (Int32 × Hp)
  | 0, _, _, _, _, _, _, _, _, _ => none
  | n + 1, v0, v1, v2, v3, v4, v5, v6, h, k115 =>
    if 2 ≤ v6 then
      k115 v0 v1 v2 v3 v4 v5 h
    else
      (gR 8 3 v0 h).bind fun x46 =>
      (aI 0 x46 v6 h).bind fun x51 =>
      if x51 ≤ 0 then
        f_X8_price_J60 n v0 v1 v2 v3 v4 v6 v5 0 h (fun a0 a1 a2 a3 a4 a5 a6 h => f_X8_price_L37 n a0 a1 a2 a3 a4 a5 a6 h k115)
      else
        f_X8_price_J60 n v0 v1 v2 v3 v4 v6 v5 1 h (fun a0 a1 a2 a3 a4 a5 a6 h => f_X8_price_L37 n a0 a1 a2 a3 a4 a5 a6 h k115)
def f_X8_price_J261 (n : Nat) (s0 : Int32) (s1 : Int32) (h : Hp) : Option (Int32 × Hp) :=
  some ((s0 + s1), h)
def f_X8_price_J115 (n : Nat) (v0 : Nat) (v1 : Int32) (v2 : Int32) (v3 : Int32) (v4 : Int32) (v5 : Int32) (h : Hp) : Option (Int32 × Hp) :=
  if v1 = 0 then
    (gL 8 0 v0 h).bind fun x158 =>
    (pL 8 0 v0 (x158 + 1) h).bind fun h163 =>
    some (v3, h163)
  else if v1 = 1 then
    (gL 8 0 v0 h).bind fun x170 =>
    (pL 8 0 v0 (x170 + 11) h).bind fun h177 =>
    some ((v3 + v4), h177)
  else if v1 = 2 then
    (gL 8 0 v0 h).bind fun x187 =>
    (pL 8 0 v0 (x187 + 101) h).bind fun h194 =>
    some ((3 * v3), h194)
  else if v1 = 3 then
    (gL 8 0 v0 h).bind fun x203 =>
    (pL 8 0 v0 (x203 + 1101) h).bind fun h210 =>
    (gR 8 1 v0 h210).bind fun x217 =>
    (aI 0 x217 0 h210).bind fun x221 =>
    some (((((3 * v3) + x221) - 1) - v2), h210)
  else if v1 = 4 then
    (gL 8 0 v0 h).bind fun x230 =>
    (pL 8 0 v0 (x230 + 10001) h).bind fun h237 =>
    (gR 8 17 v0 h237).bind fun x242 =>
    (aL x242 0 h237).bind fun x246 =>
    if (lg_cmp ((x246 >>> (v2.toInt64 &&& 63)) &&& 1) 1) = 0 then
      f_X8_price_J261 n v3 5 h237
    else
      f_X8_price_J261 n v3 0 h237
  else if v1 = 5 then
    (gL 8 0 v0 h).bind fun x265 =>
    (pL 8 0 v0 (x265 + 100011) h).bind fun h272 =>
    some (((v3 + v4) * v5), h272)
  else 
    (gL 8 0 v0 h).bind fun x285 =>
    (pL 8 0 v0 (x285 + 1000001) h).bind fun h292 =>
    if (2 : Int32) = 0 then none else
    some ((v3 / (2 : Int32)), h292)
def f_X8_price (n : Nat) (v0 : Nat) (v1 : Int32) (v2 : Int32) (h : Hp) : Option (Int32 × Hp) :=
  (ck 8 v0 h).bind fun _ =>
  (f_X8_in n v1 0 6 h).bind fun x4 =>
  if x4.1 = 0 then
    some ((-1), x4.2)
  else
    (f_X8_isDay n v0 v2 x4.2).bind fun x12 =>
    if x12.1 = 0 then
      some ((-1), x12.2)
    else
      (f_X8_kindNow n v0 v2 x12.2).bind fun x22 =>
      f_X8_price_L37 n v0 v1 v2 (x22.1 + 1) 0 0 0 x22.2 (fun a0 a1 a2 a3 a4 a5 h => f_X8_price_J115 n a0 a1 a2 a3 a4 a5 h)
def f_X8_copy_L2 : Nat → Nat → Int32 → Int32 → Int32 → Hp → (Nat → Int32 → Int32 → Hp → Option Hp) → Option Hp
  | 0, _, _, _, _, _, _ => none
  | n + 1, v0, v1, v2, v3, h, k36 =>
    if 40 ≤ v3 then
      k36 v0 v1 v2 h
    else
      (gR 8 16 v0 h).bind fun x9 =>
      (gR 8 16 v0 h).bind fun x19 =>
      (aI 0 x19 ((40 * v1) + v3) h).bind fun x28 =>
      (tI x9 ((40 * v2) + v3) x28 h).bind fun h29 =>
      f_X8_copy_L2 n v0 v1 v2 (v3 + 1) h29 k36
def f_X8_copy_J36 (n : Nat) (v0 : Nat) (v1 : Int32) (v2 : Int32) (h : Hp) : Option Hp :=
  (gR 8 17 v0 h).bind fun x37 =>
  (gR 8 17 v0 h).bind fun x42 =>
  (aL x42 v1 h).bind fun x46 =>
  (tL x37 v2 x46 h).bind fun h47 =>
  some h47
def f_X8_copy (n : Nat) (v0 : Nat) (v1 : Int32) (v2 : Int32) (h : Hp) : Option Hp :=
  (ck 8 v0 h).bind fun _ =>
  f_X8_copy_L2 n v0 v1 v2 0 h (fun a0 a1 a2 h => f_X8_copy_J36 n a0 a1 a2 h)
def f_X8_keep (n : Nat) (v0 : Nat) (v1 : Int32) (h : Hp) : Option (Int32 × Hp) :=
  (ck 8 v0 h).bind fun _ =>
  (f_X8_in n v1 0 1 h).bind fun x3 =>
  if x3.1 = 0 then
    some ((-1), x3.2)
  else
    (f_X8_copy n v0 0 (1 + v1) x3.2).bind fun x16 =>
    (gR 8 18 v0 x16).bind fun x20 =>
    (tZ x20 v1 1 x16).bind fun h25 =>
    (gR 8 19 v0 h25).bind fun x27 =>
    (gI 8 20 v0 h25).bind fun x32 =>
    (tI x27 v1 x32 h25).bind fun h35 =>
    (gR 8 16 v0 h35).bind fun x37 =>
    (aI 0 x37 1 h35).bind fun x41 =>
    some (x41, h35)
def f_X8_back_L38 : Nat → Nat → Int32 → Hp → (Nat → Hp → Option (Int32 × Hp)) → Option (Int32 × Hp)
  | 0, _, _, _, _ => none
  | n + 1, v0, v2, h, k67 =>
    (gI 8 20 v0 h).bind fun x40 =>
    if x40 ≤ v2 then
      k67 v0 h
    else
      (gR 8 16 v0 h).bind fun x47 =>
      (gR 8 22 v0 h).bind fun x55 =>
      (aI 0 x55 v2 h).bind fun x59 =>
      (tI x47 (20 + v2) x59 h).bind fun h60 =>
      f_X8_back_L38 n v0 (v2 + 1) h60 k67
def f_X8_back_J67 (n : Nat) (v0 : Nat) (h : Hp) : Option (Int32 × Hp) :=
  (gR 8 16 v0 h).bind fun x68 =>
  (aI 0 x68 1 h).bind fun x72 =>
  some (x72, h)
def f_X8_back (n : Nat) (v0 : Nat) (v1 : Int32) (h : Hp) : Option (Int32 × Hp) :=
  (ck 8 v0 h).bind fun _ =>
  (f_X8_in n v1 0 1 h).bind fun x3 =>
  if x3.1 = 0 then
    some ((-1), x3.2)
  else
    (gR 8 18 v0 x3.2).bind fun x12 =>
    (aI 2 x12 v1 x3.2).bind fun x16 =>
    if x16 = 0 then
      some ((-2), x3.2)
    else
      (f_X8_copy n v0 (1 + v1) 0 x3.2).bind fun x28 =>
      (gR 8 19 v0 x28).bind fun x32 =>
      (aI 0 x32 v1 x28).bind fun x36 =>
      f_X8_back_L38 n v0 x36 x28 (fun a0 h => f_X8_back_J67 n a0 h)
def f_X8_count_L80 : Nat → Nat → Int32 → Int32 → Hp → Option (Int32 × Hp)
  | 0, _, _, _, _ => none
  | n + 1, v0, v2, v3, h =>
    if 60 ≤ v3 then
      some (v2, h)
    else
      (gR 8 17 v0 h).bind fun x88 =>
      (aL x88 0 h).bind fun x92 =>
      f_X8_count_L80 n v0 (v2 + ((x92 >>> (v3.toInt64 &&& 63)) &&& 1).toInt32) (v3 + 1) h
def f_X8_count (n : Nat) (v0 : Nat) (v1 : Int32) (h : Hp) : Option (Int32 × Hp) :=
  (ck 8 v0 h).bind fun _ =>
  if v1 = 0 then
    (gR 8 1 v0 h).bind fun x45 =>
    (aI 0 x45 0 h).bind fun x49 =>
    some (x49, h)
  else if v1 = 1 then
    (gI 8 20 v0 h).bind fun x52 =>
    some (x52, h)
  else if v1 = 2 then
    (gI 8 39 v0 h).bind fun x57 =>
    some (x57, h)
  else if v1 = 3 then
    (gI 8 10 v0 h).bind fun x62 =>
    some (x62, h)
  else if v1 = 4 then
    (f_X8_leftOf n v0 1 h).bind fun x68 =>
    some (x68.1, x68.2)
  else if v1 = 5 then
    (f_X8_leftOf n v0 2 h).bind fun x74 =>
    some (x74.1, x74.2)
  else if v1 = 6 then
    f_X8_count_L80 n v0 0 0 h
  else 
    some ((-1), h)
def f_X8_trace (n : Nat) (v0 : Nat) (h : Hp) : Option (Int64 × Hp) :=
  (ck 8 v0 h).bind fun _ =>
  (gL 8 0 v0 h).bind fun x1 =>
  some (x1, h)
