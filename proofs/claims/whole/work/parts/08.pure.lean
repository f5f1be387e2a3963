def f_J9_floorDiv_7cf53 (Y : Yt) (a0 : Int32) (a1 : Int32) (σ : Mm) : Option (Int32 × Mm) :=
  if a1 = 0 then none else
    lt_ (a0 / a1) (fun (x2_2 : Int32) =>
    if 0 ≤ (a0 ^^^ a1) then
    some (x2_2, σ)
  else
    if (x2_2 * a1) = a0 then
    some (x2_2, σ)
  else
    some ((x2_2 - 1), σ))
def f_J9_floorDiv_f86c9 (Y : Yt) (a0 : Int64) (a2 : Int64) (σ : Mm) : Option (Int64 × Mm) :=
  if a2 = 0 then none else
    lt_ (a0 / a2) (fun (x4_2 : Int64) =>
    if 0 ≤ (a0 ^^^ a2) then
    some (x4_2, σ)
  else
    if (x4_2 * a2) = a0 then
    some (x4_2, σ)
  else
    some ((x4_2 - 1), σ))
def f_X1_floor (Y : Yt) (a0 : Int64) (a2 : Int64) (σ : Mm) : Option (Int64 × Mm) :=
  bnd (f_J9_floorDiv_f86c9 Y a0 (if 1 < a2 then a2 else 1) σ) (fun (r_3 : Int64) (σ_2 : Mm) =>
    some (r_3, σ_2))
def f_X1_ceiling (Y : Yt) (a0 : Int64) (a2 : Int64) (σ : Mm) : Option (Int64 × Mm) :=
  bnd (f_J9_floorDiv_f86c9 Y (-a0) (if 1 < a2 then a2 else 1) σ) (fun (r_3 : Int64) (σ_2 : Mm) =>
    some ((-r_3), σ_2))
def f_X1_isAtLeast (Y : Yt) (a0 : Int64) (a2 : Int64) (a4 : Int64) (a6 : Int64) (σ : Mm) : Option (Int32 × Mm) :=
  bnd (f_X1_floor Y a0 a2 σ) (fun (r_3 : Int64) (σ_2 : Mm) =>
    bnd (f_X1_floor Y a4 a6 σ_2) (fun (r_6 : Int64) (σ_5 : Mm) =>
    if r_3 = r_6 then
    if ((a0 - (r_3 * a2)) * a6) < ((a4 - (r_6 * a6)) * a2) then
    zret 0 σ_5
  else
    zret 1 σ_5
  else
    if r_3 ≤ r_6 then
    zret 0 σ_5
  else
    zret 1 σ_5))
def s_X1_commonDivisor_15 (Y : Yt) (fu : Nat) (a0 : Int64) (a2 : Int64) (k15 : Int64 → Int64 → Int32 → Mm → Option (Int64 × Mm)) (x4 : Int64) (x6 : Int64) (x8 : Int32) (σ : Mm) : Option (Int64 × Mm) :=
  if 200 ≤ x8 then
    some ((if 1 < x4 then x4 else 1), σ)
  else
    if x6 = 0 then
    some ((if 1 < x4 then x4 else 1), σ)
  else
    if x6 = 0 then none else
    lt_ (x4 - x4 / x6 * x6) (fun (x9_4 : Int64) =>
    lt_ (x8 + 1) (fun (x8_5 : Int32) =>
    k15 x6 x9_4 x8_5 σ))
def b_X1_commonDivisor_15 (Y : Yt) (fu : Nat) (a0 : Int64) (a2 : Int64) (n : Nat) : Int64 → Int64 → Int32 → Mm → Option (Int64 × Mm) := lp (s_X1_commonDivisor_15 Y fu a0 a2 ) (fun _ _ _ _ => none) n
def f_X1_commonDivisor (Y : Yt) (fu : Nat) (a0 : Int64) (a2 : Int64) (σ : Mm) : Option (Int64 × Mm) :=
  lt_ (if 0 < a0 then a0 else -a0) (fun (x4_1 : Int64) =>
    lt_ (if 0 < a2 then a2 else -a2) (fun (x6_2 : Int64) =>
    b_X1_commonDivisor_15 Y fu a0 a2 fu x4_1 x6_2 0 σ))
def f_X0_stands (Y : Yt) (this : Nat) (σ : Mm) : Option (Int32 × Mm) :=
  if (Mm.gi σ this 0) = 0 then
    zret 0 σ
  else
    if (Mm.gi σ this 1) = 0 then
    zret 1 σ
  else
    zret 0 σ
def f_X0_begin (Y : Yt) (this : Nat) (a1 : Int32) (σ : Mm) : Option (Mm) :=
  lt_ (Mm.si σ this 0 1) (fun (σ_1 : Mm) =>
    lt_ (Mm.si σ_1 this 1 0) (fun (σ_2 : Mm) =>
    lt_ (Mm.si σ_2 this 2 a1) (fun (σ_3 : Mm) =>
    lt_ (Mm.si σ_3 this 3 0) (fun (σ_4 : Mm) =>
    lt_ (Mm.si σ_4 this 4 0) (fun (σ_5 : Mm) =>
    some σ_5)))))
def f_X0_put (Y : Yt) (this : Nat) (a1 : Int32) (a2 : Int32) (a3 : Int32) (σ : Mm) : Option (Mm) :=
  if inb a1 24 = true then
    lt_ (Mm.si σ 18 (ix a1) a2) (fun (σ_4 : Mm) =>
    if inb a1 24 = true then
    lt_ (Mm.si σ_4 19 (ix a1) a3) (fun (σ_8 : Mm) =>
    some σ_8)
  else none)
  else none
def f_X5_copy (Y : Yt) (this : Nat) (a1 : Nat) (σ : Mm) : Option (Mm) :=
  lt_ (Mm.sl σ this 0 (Mm.gl σ a1 0)) (fun (σ_1 : Mm) =>
    lt_ (Mm.sl σ_1 this 1 (Mm.gl σ_1 a1 1)) (fun (σ_2 : Mm) =>
    lt_ (Mm.sl σ_2 this 2 (Mm.gl σ_2 a1 2)) (fun (σ_3 : Mm) =>
    lt_ (Mm.sl σ_3 this 3 (Mm.gl σ_3 a1 3)) (fun (σ_4 : Mm) =>
    some σ_4))))
def f_X0_keep (Y : Yt) (this : Nat) (σ : Mm) : Option (Mm) :=
  if (Mm.gi σ this 3) < 500 then
    if ¬ (0 : Int32) < 0 ∧ ¬ (((Mm.gi σ this 3) * 24) : Int32) < 0 ∧ ¬ ((Mm.gi σ this 2) : Int32) < 0 ∧ ix 0 + ix (Mm.gi σ this 2) ≤ 24 ∧ ix ((Mm.gi σ this 3) * 24) + ix (Mm.gi σ this 2) ≤ 12000 then
    lt_ (Mm.cp σ 20 (ix 0) 24 (ix ((Mm.gi σ this 3) * 24)) (ix (Mm.gi σ this 2))) (fun (σ_10 : Mm) =>
    if inb (Mm.gi σ_10 this 3) 500 = true then
    if inb ((Mm.gi σ_10 this 2) - 1) 24 = true then
    bn1 (f_X5_copy Y (50 + 1 * ix (Mm.gi σ_10 this 3)) (26 + 1 * ix ((Mm.gi σ_10 this 2) - 1)) σ_10) (fun (σ_22 : Mm) =>
    lt_ (Mm.si σ_22 this 3 ((Mm.gi σ_22 this 3) + 1)) (fun (σ_23 : Mm) =>
    some σ_23))
  else none
  else none)
  else none
  else
    lt_ (Mm.si σ this 1 1) (fun (σ_24 : Mm) =>
    some σ_24)
def f_X0_highest (Y : Yt) (this : Nat) (a1 : Int32) (a2 : Int32) (σ : Mm) : Option (Int64 × Mm) :=
  if inb 0 24 = true then
    if inb 0 24 = true then
    some ((1000 * (Int32.toInt64 (((a1 - (Mm.gi σ 18 (ix 0))) + a2) + (Mm.gi σ 19 (ix 0))))), σ)
  else none
  else none
def f_X0_lowest (Y : Yt) (this : Nat) (a1 : Int32) (a2 : Int32) (σ : Mm) : Option (Int64 × Mm) :=
  if inb 0 24 = true then
    if inb 0 24 = true then
    some ((1000 * (Int32.toInt64 (((a1 - (Mm.gi σ 18 (ix 0))) - a2) - (Mm.gi σ 19 (ix 0))))), σ)
  else none
  else none
def f_X5_greatestCount (Y : Yt) (this : Nat) (a1 : Int64) (σ : Mm) : Option (Int64 × Mm) :=
  bnd (f_X1_floor Y (a1 * (Mm.gl σ this 1)) (Mm.gl σ this 0) σ) (fun (r_3 : Int64) (σ_2 : Mm) =>
    some (r_3, σ_2))
def f_X5_leastCount (Y : Yt) (this : Nat) (a1 : Int64) (σ : Mm) : Option (Int64 × Mm) :=
  bnd (f_X1_ceiling Y (a1 * (Mm.gl σ this 3)) (Mm.gl σ this 2) σ) (fun (r_3 : Int64) (σ_2 : Mm) =>
    some (r_3, σ_2))
def f_X0_open (Y : Yt) (this : Nat) (a1 : Int32) (σ : Mm) : Option (Mm) :=
  if inb a1 24 = true then
    if inb a1 24 = true then
    bnd (f_X0_lowest Y this (Mm.gi σ 18 (ix a1)) (Mm.gi σ 19 (ix a1)) σ) (fun (r_9 : Int64) (σ_8 : Mm) =>
    if inb a1 24 = true then
    if inb a1 24 = true then
    bnd (f_X0_highest Y this (Mm.gi σ_8 18 (ix a1)) (Mm.gi σ_8 19 (ix a1)) σ_8) (fun (r_18 : Int64) (σ_17 : Mm) =>
    if inb (a1 - 1) 24 = true then
    if inb (a1 - 1) 24 = true then
    bnd (f_X5_leastCount Y (26 + 1 * ix (a1 - 1)) r_9 σ_17) (fun (r_31 : Int64) (σ_30 : Mm) =>
    if inb a1 24 = true then
    lt_ (Mm.sl σ_30 21 (ix a1) (if r_31 < ((Int32.toInt64 (Mm.gi σ_17 20 (ix (a1 - 1)))) + 1) then ((Int32.toInt64 (Mm.gi σ_17 20 (ix (a1 - 1)))) + 1) else r_31)) (fun (σ_33 : Mm) =>
    if inb (a1 - 1) 24 = true then
    bnd (f_X5_greatestCount Y (26 + 1 * ix (a1 - 1)) r_18 σ_33) (fun (r_43 : Int64) (σ_42 : Mm) =>
    if inb a1 24 = true then
    lt_ (Mm.sl σ_42 22 (ix a1) r_43) (fun (σ_45 : Mm) =>
    some σ_45)
  else none)
  else none)
  else none)
  else none
  else none)
  else none
  else none)
  else none
  else none
def b_X5_narrow_33 (Y : Yt) (this : Nat) (a1 : Nat) (a2 : Int64) (a4 : Int64) (a6 : Int64) (σ : Mm) : Option (Mm) :=
  if ((Mm.gl σ this 2) * a6) ≤ (a4 * (Mm.gl σ this 3)) then
    some σ
  else
    lt_ (Mm.sl σ this 2 a4) (fun (σ_3 : Mm) =>
    lt_ (Mm.sl σ_3 this 3 a6) (fun (σ_4 : Mm) =>
    some σ_4))
def f_X5_narrow (Y : Yt) (this : Nat) (a1 : Nat) (a2 : Int64) (a4 : Int64) (a6 : Int64) (σ : Mm) : Option (Mm) :=
  bn1 (f_X5_copy Y this a1 σ) (fun (σ_2 : Mm) =>
    if (a2 * (Mm.gl σ_2 this 1)) ≤ ((Mm.gl σ_2 this 0) * a6) then
    b_X5_narrow_33 Y this a1 a2 a4 a6 σ_2
  else
    lt_ (Mm.sl σ_2 this 0 a2) (fun (σ_5 : Mm) =>
    lt_ (Mm.sl σ_5 this 1 a6) (fun (σ_6 : Mm) =>
    b_X5_narrow_33 Y this a1 a2 a4 a6 σ_6)))
def f_X0_tryNext (Y : Yt) (this : Nat) (a1 : Int32) (σ : Mm) : Option (Int32 × Mm) :=
  lt_ (Mm.si σ this 4 ((Mm.gi σ this 4) + 1)) (fun (σ_1 : Mm) =>
    if (Mm.gi σ_1 this 4) ≤ 20000 then
    if inb a1 24 = true then
    if inb a1 24 = true then
    lt_ (Mm.si σ_1 20 (ix a1) (Int64.toInt32 (Mm.gl σ_1 21 (ix a1)))) (fun (σ_8 : Mm) =>
    if inb a1 24 = true then
    if inb a1 24 = true then
    lt_ (Mm.sl σ_8 21 (ix a1) ((Mm.gl σ_8 21 (ix a1)) + 1)) (fun (σ_13 : Mm) =>
    if inb a1 24 = true then
    if inb (a1 - 1) 24 = true then
    if inb a1 24 = true then
    if inb a1 24 = true then
    bnd (f_X0_lowest Y this (Mm.gi σ_13 18 (ix a1)) (Mm.gi σ_13 19 (ix a1)) σ_13) (fun (r_32 : Int64) (σ_31 : Mm) =>
    if inb a1 24 = true then
    if inb a1 24 = true then
    bnd (f_X0_highest Y this (Mm.gi σ_31 18 (ix a1)) (Mm.gi σ_31 19 (ix a1)) σ_31) (fun (r_41 : Int64) (σ_40 : Mm) =>
    if inb a1 24 = true then
    bn1 (f_X5_narrow Y (26 + 1 * ix a1) (26 + 1 * ix (a1 - 1)) r_32 r_41 (Int32.toInt64 (Mm.gi σ_40 20 (ix a1))) σ_40) (fun (σ_46 : Mm) =>
    zret 1 σ_46)
  else none)
  else none
  else none)
  else none
  else none
  else none
  else none)
  else none
  else none)
  else none
  else none
  else
    lt_ (Mm.si σ_1 this 1 1) (fun (σ_47 : Mm) =>
    zret 0 σ_47))
def f_X5_span (Y : Yt) (this : Nat) (a1 : Int32) (a2 : Int32) (σ : Mm) : Option (Mm) :=
  lt_ (Mm.sl σ this 0 (Int32.toInt64 a1)) (fun (σ_1 : Mm) =>
    lt_ (Mm.sl σ_1 this 1 1) (fun (σ_2 : Mm) =>
    lt_ (Mm.sl σ_2 this 2 (Int32.toInt64 a2)) (fun (σ_3 : Mm) =>
    lt_ (Mm.sl σ_3 this 3 1) (fun (σ_4 : Mm) =>
    some σ_4))))
def b_X0_seek_107 (Y : Yt) (fu : Nat) (this : Nat) (a1 : Int32) (a2 : Int32) (σ : Mm) : Option (Int32 × Mm) :=
  if (Mm.gi σ this 1) = 0 then
    some ((Mm.gi σ this 3), σ)
  else
    lt_ (Mm.si σ this 3 0) (fun (σ_14 : Mm) =>
    some ((-5), σ_14))
def b_X0_seek_101 (Y : Yt) (fu : Nat) (this : Nat) (a1 : Int32) (a2 : Int32) (k28 : Int32 → Int32 → Mm → Option (Int32 × Mm)) (x3 : Int32) (x4 : Int32) (σ : Mm) : Option (Int32 × Mm) :=
  lt_ (x4 + 1) (fun (x4_24 : Int32) =>
    k28 x3 x4_24 σ)
def s_X0_seek_28 (Y : Yt) (fu : Nat) (this : Nat) (a1 : Int32) (a2 : Int32) (k28 : Int32 → Int32 → Mm → Option (Int32 × Mm)) (x3 : Int32) (x4 : Int32) (σ : Mm) : Option (Int32 × Mm) :=
  if 1000000 ≤ x4 then
    b_X0_seek_107 Y fu this a1 a2 σ
  else
    if x3 ≤ 0 then
    b_X0_seek_107 Y fu this a1 a2 σ
  else
    if (Mm.gi σ this 1) = 0 then
    if inb x3 24 = true then
    if inb x3 24 = true then
    if (Mm.gl σ 21 (ix x3)) ≤ (Mm.gl σ 22 (ix x3)) then
    bnd (f_X0_tryNext Y this x3 σ) (fun (r_23 : Int32) (σ_22 : Mm) =>
    if r_23 = 0 then
    b_X0_seek_101 Y fu this a1 a2 k28 x3 x4 σ_22
  else
    if ((Mm.gi σ_22 this 2) - 1) ≤ x3 then
    bn1 (f_X0_keep Y this σ_22) (fun (σ_26 : Mm) =>
    b_X0_seek_101 Y fu this a1 a2 k28 x3 x4 σ_26)
  else
    lt_ (x3 + 1) (fun (x3_27 : Int32) =>
    bn1 (f_X0_open Y this x3_27 σ_22) (fun (σ_29 : Mm) =>
    b_X0_seek_101 Y fu this a1 a2 k28 x3_27 x4 σ_29)))
  else
    lt_ (x3 + (-1)) (fun (x3_30 : Int32) =>
    b_X0_seek_101 Y fu this a1 a2 k28 x3_30 x4 σ)
  else none
  else none
  else
    b_X0_seek_107 Y fu this a1 a2 σ
def b_X0_seek_28 (Y : Yt) (fu : Nat) (this : Nat) (a1 : Int32) (a2 : Int32) (n : Nat) : Int32 → Int32 → Mm → Option (Int32 × Mm) := lp (s_X0_seek_28 Y fu this a1 a2 ) (fun _ _ _ => none) n
def f_X0_seek (Y : Yt) (fu : Nat) (this : Nat) (a1 : Int32) (a2 : Int32) (σ : Mm) : Option (Int32 × Mm) :=
  if inb 0 24 = true then
    lt_ (Mm.si σ 20 (ix 0) 0) (fun (σ_4 : Mm) =>
    if inb 0 24 = true then
    bn1 (f_X5_span Y (26 + 1 * ix 0) a1 a2 σ_4) (fun (σ_11 : Mm) =>
    bn1 (f_X0_open Y this 1 σ_11) (fun (σ_13 : Mm) =>
    b_X0_seek_28 Y fu this a1 a2 fu 1 0 σ_13))
  else none)
  else none
def f_X0_countOf (Y : Yt) (this : Nat) (a1 : Int32) (a2 : Int32) (σ : Mm) : Option (Int32 × Mm) :=
  if inb ((a1 * 24) + a2) 12000 = true then
    some ((Mm.gi σ 24 (ix ((a1 * 24) + a2))), σ)
  else none
def s_X0_oneCount_2 (Y : Yt) (fu : Nat) (this : Nat) (a1 : Int32) (k2 : Int32 → Mm → Option (Int32 × Mm)) (x2 : Int32) (σ : Mm) : Option (Int32 × Mm) :=
  if (Mm.gi σ this 3) ≤ x2 then
    if (Mm.gi σ this 3) = 0 then
    some ((-4), σ)
  else
    bnd (f_X0_countOf Y this 0 a1 σ) (fun (r_3 : Int32) (σ_2 : Mm) =>
    some (r_3, σ_2))
  else
    bnd (f_X0_countOf Y this x2 a1 σ) (fun (r_6 : Int32) (σ_5 : Mm) =>
    bnd (f_X0_countOf Y this 0 a1 σ_5) (fun (r_9 : Int32) (σ_8 : Mm) =>
    if r_6 = r_9 then
    lt_ (x2 + 1) (fun (x2_10 : Int32) =>
    k2 x2_10 σ_8)
  else
    some ((-4), σ_8)))
def b_X0_oneCount_2 (Y : Yt) (fu : Nat) (this : Nat) (a1 : Int32) (n : Nat) : Int32 → Mm → Option (Int32 × Mm) := lp (s_X0_oneCount_2 Y fu this a1 ) (fun _ _ => none) n
def f_X0_oneCount (Y : Yt) (fu : Nat) (this : Nat) (a1 : Int32) (σ : Mm) : Option (Int32 × Mm) :=
  b_X0_oneCount_2 Y fu this a1 fu 1 σ
def f_X0_canLook (Y : Yt) (this : Nat) (a1 : Int32) (σ : Mm) : Option (Int32 × Mm) :=
  bnd (f_X0_stands Y this σ) (fun (r_3 : Int32) (σ_2 : Mm) =>
    if r_3 = 0 then
    zret 0 σ_2
  else
    if inb ((Mm.gi σ_2 this 2) - 1) 24 = true then
    if a1 < (Mm.gi σ_2 18 (ix ((Mm.gi σ_2 this 2) - 1))) then
    zret 0 σ_2
  else
    zret 1 σ_2
  else none)
def b_X0_goOn_75 (Y : Yt) (fu : Nat) (this : Nat) (a1 : Int32) (a2 : Int32) (k5 : Int32 → Int32 → Mm → Option (Int32 × Mm)) (x3 : Int32) (x4 : Int32) (σ : Mm) : Option (Int32 × Mm) :=
  lt_ (x4 + 1) (fun (x4_27 : Int32) =>
    k5 x3 x4_27 σ)
def s_X0_goOn_5 (Y : Yt) (fu : Nat) (this : Nat) (a1 : Int32) (a2 : Int32) (k5 : Int32 → Int32 → Mm → Option (Int32 × Mm)) (x3 : Int32) (x4 : Int32) (σ : Mm) : Option (Int32 × Mm) :=
  if (Mm.gi σ this 3) ≤ x4 then
    some (x3, σ)
  else
    bnd (f_X0_countOf Y this x4 ((Mm.gi σ this 2) - 1) σ) (fun (r_3 : Int32) (σ_2 : Mm) =>
    if inb x4 500 = true then
    bnd (f_X0_lowest Y this a1 a2 σ_2) (fun (r_11 : Int64) (σ_10 : Mm) =>
    bnd (f_X5_leastCount Y (50 + 1 * ix x4) r_11 σ_10) (fun (r_14 : Int64) (σ_13 : Mm) =>
    lt_ (if r_14 < ((Int32.toInt64 r_3) + 1) then ((Int32.toInt64 r_3) + 1) else r_14) (fun (x5_15 : Int64) =>
    if inb x4 500 = true then
    bnd (f_X0_highest Y this a1 a2 σ_13) (fun (r_23 : Int64) (σ_22 : Mm) =>
    bnd (f_X5_greatestCount Y (50 + 1 * ix x4) r_23 σ_22) (fun (r_26 : Int64) (σ_25 : Mm) =>
    if r_26 < x5_15 then
    b_X0_goOn_75 Y fu this a1 a2 k5 x3 x4 σ_25
  else
    lt_ (x3 + 1) (fun (x3_28 : Int32) =>
    b_X0_goOn_75 Y fu this a1 a2 k5 x3_28 x4 σ_25)))
  else none)))
  else none)
def b_X0_goOn_5 (Y : Yt) (fu : Nat) (this : Nat) (a1 : Int32) (a2 : Int32) (n : Nat) : Int32 → Int32 → Mm → Option (Int32 × Mm) := lp (s_X0_goOn_5 Y fu this a1 a2 ) (fun _ _ _ => none) n
def f_X0_goOn (Y : Yt) (fu : Nat) (this : Nat) (a1 : Int32) (a2 : Int32) (σ : Mm) : Option (Int32 × Mm) :=
  b_X0_goOn_5 Y fu this a1 a2 fu 0 0 σ
def b_X0_bestLook_56 (Y : Yt) (fu : Nat) (this : Nat) (a1 : Int32) (a2 : Int32) (a3 : Int32) (a4 : Int32) (k12 : Int32 → Int32 → Int32 → Mm → Option (Int32 × Mm)) (x5 : Int32) (x6 : Int32) (x7 : Int32) (σ : Mm) : Option (Int32 × Mm) :=
  lt_ (x7 + 1) (fun (x7_4 : Int32) =>
    k12 x5 x6 x7_4 σ)
def s_X0_bestLook_12 (Y : Yt) (fu : Nat) (this : Nat) (a1 : Int32) (a2 : Int32) (a3 : Int32) (a4 : Int32) (k12 : Int32 → Int32 → Int32 → Mm → Option (Int32 × Mm)) (x5 : Int32) (x6 : Int32) (x7 : Int32) (σ : Mm) : Option (Int32 × Mm) :=
  if a3 ≤ x7 then
    some (x5, σ)
  else
    bnd (f_X0_goOn Y fu this (a1 + (x7 * a2)) a4 σ) (fun (r_3 : Int32) (σ_2 : Mm) =>
    if r_3 ≤ 0 then
    b_X0_bestLook_56 Y fu this a1 a2 a3 a4 k12 x5 x6 x7 σ_2
  else
    if x6 ≤ r_3 then
    b_X0_bestLook_56 Y fu this a1 a2 a3 a4 k12 x5 x6 x7 σ_2
  else
    lt_ (a1 + (x7 * a2)) (fun (x5_5 : Int32) =>
    b_X0_bestLook_56 Y fu this a1 a2 a3 a4 k12 x5_5 r_3 x7 σ_2))
def b_X0_bestLook_12 (Y : Yt) (fu : Nat) (this : Nat) (a1 : Int32) (a2 : Int32) (a3 : Int32) (a4 : Int32) (n : Nat) : Int32 → Int32 → Int32 → Mm → Option (Int32 × Mm) := lp (s_X0_bestLook_12 Y fu this a1 a2 a3 a4 ) (fun _ _ _ _ => none) n
def f_X0_bestLook (Y : Yt) (fu : Nat) (this : Nat) (a1 : Int32) (a2 : Int32) (a3 : Int32) (a4 : Int32) (σ : Mm) : Option (Int32 × Mm) :=
  b_X0_bestLook_12 Y fu this a1 a2 a3 a4 fu (-4) 501 0 σ
def b_X0_outside_61 (Y : Yt) (fu : Nat) (this : Nat) (a1 : Int32) (a2 : Int64) (a4 : Int64) (a6 : Int64) (k6 : Int32 → Int32 → Mm → Option (Int32 × Mm)) (x8 : Int32) (x9 : Int32) (σ : Mm) : Option (Int32 × Mm) :=
  lt_ (x9 + 1) (fun (x9_10 : Int32) =>
    k6 x8 x9_10 σ)
def s_X0_outside_6 (Y : Yt) (fu : Nat) (this : Nat) (a1 : Int32) (a2 : Int64) (a4 : Int64) (a6 : Int64) (k6 : Int32 → Int32 → Mm → Option (Int32 × Mm)) (x8 : Int32) (x9 : Int32) (σ : Mm) : Option (Int32 × Mm) :=
  if (Mm.gi σ this 2) ≤ x9 then
    some (x8, σ)
  else
    if inb x9 24 = true then
    bnd (f_X0_countOf Y this a1 x9 σ) (fun (r_6 : Int32) (σ_5 : Mm) =>
    if inb x9 24 = true then
    if (if 0 < ((((Int32.toInt64 (Mm.gi σ 18 (ix x9))) * a6) - a2) - ((Int32.toInt64 r_6) * a4)) then ((((Int32.toInt64 (Mm.gi σ 18 (ix x9))) * a6) - a2) - ((Int32.toInt64 r_6) * a4)) else -((((Int32.toInt64 (Mm.gi σ 18 (ix x9))) * a6) - a2) - ((Int32.toInt64 r_6) * a4))) ≤ ((Int32.toInt64 (Mm.gi σ_5 19 (ix x9))) * a6) then
    b_X0_outside_61 Y fu this a1 a2 a4 a6 k6 x8 x9 σ_5
  else
    lt_ (x8 + 1) (fun (x8_11 : Int32) =>
    b_X0_outside_61 Y fu this a1 a2 a4 a6 k6 x8_11 x9 σ_5)
  else none)
  else none
def b_X0_outside_6 (Y : Yt) (fu : Nat) (this : Nat) (a1 : Int32) (a2 : Int64) (a4 : Int64) (a6 : Int64) (n : Nat) : Int32 → Int32 → Mm → Option (Int32 × Mm) := lp (s_X0_outside_6 Y fu this a1 a2 a4 a6 ) (fun _ _ _ => none) n
def f_X0_outside (Y : Yt) (fu : Nat) (this : Nat) (a1 : Int32) (a2 : Int64) (a4 : Int64) (a6 : Int64) (σ : Mm) : Option (Int32 × Mm) :=
  b_X0_outside_6 Y fu this a1 a2 a4 a6 fu 0 0 σ
def s_X0_fitted_14 (Y : Yt) (fu : Nat) (this : Nat) (a1 : Int32) (a2 : Int32) (k14 : Int64 → Int64 → Int64 → Int64 → Int32 → Mm → Option (Int64 × Mm)) (x3 : Int64) (x5 : Int64) (x7 : Int64) (x9 : Int64) (x11 : Int32) (σ : Mm) : Option (Int64 × Mm) :=
  if (Mm.gi σ this 2) ≤ x11 then
    lt_ (((Int32.toInt64 (Mm.gi σ this 2)) * x7) - (x3 * x3)) (fun (x11_1 : Int64) =>
    lt_ ((x5 * x7) - (x3 * x9)) (fun (x13_2 : Int64) =>
    lt_ (((Int32.toInt64 (Mm.gi σ this 2)) * x9) - (x3 * x5)) (fun (x15_3 : Int64) =>
    if a2 = 0 then
    bnd (f_X1_commonDivisor Y fu x13_2 x11_1 σ) (fun (r_9 : Int64) (σ_8 : Mm) =>
    if r_9 = 0 then none else
    some ((x13_2 / r_9), σ_8))
  else
    if a2 = 1 then
    bnd (f_X1_commonDivisor Y fu x13_2 x11_1 σ) (fun (r_13 : Int64) (σ_12 : Mm) =>
    if r_13 = 0 then none else
    some ((x11_1 / r_13), σ_12))
  else
    if a2 = 2 then
    bnd (f_X1_commonDivisor Y fu x15_3 x11_1 σ) (fun (r_17 : Int64) (σ_16 : Mm) =>
    if r_17 = 0 then none else
    some ((x15_3 / r_17), σ_16))
  else
    if a2 = 3 then
    bnd (f_X1_commonDivisor Y fu x15_3 x11_1 σ) (fun (r_21 : Int64) (σ_20 : Mm) =>
    if r_21 = 0 then none else
    some ((x11_1 / r_21), σ_20))
  else
    bnd (f_X0_outside Y fu this a1 x13_2 x15_3 x11_1 σ) (fun (r_6 : Int32) (σ_5 : Mm) =>
    some ((Int32.toInt64 r_6), σ_5)))))
  else
    bnd (f_X0_countOf Y this a1 x11 σ) (fun (r_25 : Int32) (σ_24 : Mm) =>
    lt_ (Int32.toInt64 r_25) (fun (x12_26 : Int64) =>
    lt_ (x3 + x12_26) (fun (x3_27 : Int64) =>
    if inb x11 24 = true then
    lt_ (x5 + (Int32.toInt64 (Mm.gi σ_24 18 (ix x11)))) (fun (x5_31 : Int64) =>
    lt_ (x7 + (x12_26 * x12_26)) (fun (x7_32 : Int64) =>
    if inb x11 24 = true then
    lt_ (x9 + (x12_26 * (Int32.toInt64 (Mm.gi σ_24 18 (ix x11))))) (fun (x9_36 : Int64) =>
    lt_ (x11 + 1) (fun (x11_37 : Int32) =>
    k14 x3_27 x5_31 x7_32 x9_36 x11_37 σ_24))
  else none))
  else none)))
def b_X0_fitted_14 (Y : Yt) (fu : Nat) (this : Nat) (a1 : Int32) (a2 : Int32) (n : Nat) : Int64 → Int64 → Int64 → Int64 → Int32 → Mm → Option (Int64 × Mm) := lp (s_X0_fitted_14 Y fu this a1 a2 ) (fun _ _ _ _ _ _ => none) n
def f_X0_fitted (Y : Yt) (fu : Nat) (this : Nat) (a1 : Int32) (a2 : Int32) (σ : Mm) : Option (Int64 × Mm) :=
  b_X0_fitted_14 Y fu this a1 a2 fu 0 0 0 0 0 σ
def f_X2_empty (Y : Yt) (this : Nat) (σ : Mm) : Option (Mm) :=
  lt_ (Mm.si σ this 1 0) (fun (σ_1 : Mm) =>
    some σ_1)
def f_X2_put (Y : Yt) (this : Nat) (a1 : Int32) (σ : Mm) : Option (Mm) :=
  if 576 ≤ (Mm.gi σ this 1) then
    some σ
  else
    if inb (Mm.gi σ this 1) 576 = true then
    lt_ (Mm.si σ 554 (ix (Mm.gi σ this 1)) a1) (fun (σ_4 : Mm) =>
    lt_ (Mm.si σ_4 this 1 ((Mm.gi σ_4 this 1) + 1)) (fun (σ_5 : Mm) =>
    some σ_5))
  else none
def b_X2_howManyUpTo_25 (Y : Yt) (fu : Nat) (this : Nat) (a1 : Int32) (k4 : Int32 → Int32 → Mm → Option (Int32 × Mm)) (x2 : Int32) (x3 : Int32) (σ : Mm) : Option (Int32 × Mm) :=
  lt_ (x3 + 1) (fun (x3_4 : Int32) =>
    k4 x2 x3_4 σ)
def s_X2_howManyUpTo_4 (Y : Yt) (fu : Nat) (this : Nat) (a1 : Int32) (k4 : Int32 → Int32 → Mm → Option (Int32 × Mm)) (x2 : Int32) (x3 : Int32) (σ : Mm) : Option (Int32 × Mm) :=
  if (Mm.gi σ this 1) ≤ x3 then
    some (x2, σ)
  else
    if inb x3 576 = true then
    if a1 < (Mm.gi σ 554 (ix x3)) then
    b_X2_howManyUpTo_25 Y fu this a1 k4 x2 x3 σ
  else
    lt_ (x2 + 1) (fun (x2_5 : Int32) =>
    b_X2_howManyUpTo_25 Y fu this a1 k4 x2_5 x3 σ)
  else none
def b_X2_howManyUpTo_4 (Y : Yt) (fu : Nat) (this : Nat) (a1 : Int32) (n : Nat) : Int32 → Int32 → Mm → Option (Int32 × Mm) := lp (s_X2_howManyUpTo_4 Y fu this a1 ) (fun _ _ _ => none) n
def f_X2_howManyUpTo (Y : Yt) (fu : Nat) (this : Nat) (a1 : Int32) (σ : Mm) : Option (Int32 × Mm) :=
  b_X2_howManyUpTo_4 Y fu this a1 fu 0 0 σ
def b_X2_middle_56 (Y : Yt) (fu : Nat) (this : Nat) (k8 : Int32 → Int32 → Int32 → Mm → Option (Int32 × Mm)) (x1 : Int32) (x2 : Int32) (x3 : Int32) (σ : Mm) : Option (Int32 × Mm) :=
  lt_ (x3 + 1) (fun (x3_8 : Int32) =>
    k8 x1 x2 x3_8 σ)
def s_X2_middle_8 (Y : Yt) (fu : Nat) (this : Nat) (k8 : Int32 → Int32 → Int32 → Mm → Option (Int32 × Mm)) (x1 : Int32) (x2 : Int32) (x3 : Int32) (σ : Mm) : Option (Int32 × Mm) :=
  if 32 ≤ x3 then
    some (x1, σ)
  else
    if x2 ≤ x1 then
    some (x1, σ)
  else
    bnd (f_J9_floorDiv_7cf53 Y (x1 + x2) 2 σ) (fun (r_3 : Int32) (σ_2 : Mm) =>
    bnd (f_X2_howManyUpTo Y fu this r_3 σ_2) (fun (r_6 : Int32) (σ_5 : Mm) =>
    if r_6 ≤ (((Mm.gi σ_5 this 1) - 1) / 2) then
    lt_ (r_3 + 1) (fun (x1_7 : Int32) =>
    b_X2_middle_56 Y fu this k8 x1_7 x2 x3 σ_5)
  else
    b_X2_middle_56 Y fu this k8 x1 r_3 x3 σ_5))
def b_X2_middle_8 (Y : Yt) (fu : Nat) (this : Nat) (n : Nat) : Int32 → Int32 → Int32 → Mm → Option (Int32 × Mm) := lp (s_X2_middle_8 Y fu this ) (fun _ _ _ _ => none) n
def f_X2_middle (Y : Yt) (fu : Nat) (this : Nat) (σ : Mm) : Option (Int32 × Mm) :=
  b_X2_middle_8 Y fu this fu (-1000000) 1000000 0 σ
def s_X3_products_5 (Y : Yt) (fu : Nat) (a0 : Nat) (a1 : Nat) (a2 : Int32) (k5 : Int64 → Int32 → Mm → Option (Int64 × Mm)) (x3 : Int64) (x5 : Int32) (σ : Mm) : Option (Int64 × Mm) :=
  if a2 ≤ x5 then
    some (x3, σ)
  else
    if inb x5 (Y a0).2 = true then
    if inb x5 (Y a1).2 = true then
    lt_ (x3 + ((Int32.toInt64 (Mm.gi σ a0 (ix x5))) * (Int32.toInt64 (Mm.gi σ a1 (ix x5))))) (fun (x3_3 : Int64) =>
    lt_ (x5 + 1) (fun (x5_4 : Int32) =>
    k5 x3_3 x5_4 σ))
  else none
  else none
def b_X3_products_5 (Y : Yt) (fu : Nat) (a0 : Nat) (a1 : Nat) (a2 : Int32) (n : Nat) : Int64 → Int32 → Mm → Option (Int64 × Mm) := lp (s_X3_products_5 Y fu a0 a1 a2 ) (fun _ _ _ => none) n
def f_X3_products (Y : Yt) (fu : Nat) (a0 : Nat) (a1 : Nat) (a2 : Int32) (σ : Mm) : Option (Int64 × Mm) :=
  b_X3_products_5 Y fu a0 a1 a2 fu 0 0 σ
def b_X3_asGreatFrom_11 (Y : Yt) (fu : Nat) (self : Nat → Nat → Int32 → Int32 → Int32 → Int64 → Mm → Option (Int32 × Mm)) (a0 : Nat) (a1 : Nat) (a2 : Int32) (a3 : Int32) (a4 : Int32) (a5 : Int64) (σ : Mm) : Option (Int32 × Mm) :=
  if 0 < a5 then
    some (0, σ)
  else
    some (1, σ)
def b_X3_asGreatFrom_80 (Y : Yt) (fu : Nat) (self : Nat → Nat → Int32 → Int32 → Int32 → Int64 → Mm → Option (Int32 × Mm)) (a0 : Nat) (a1 : Nat) (a2 : Int32) (a3 : Int32) (a4 : Int32) (a5 : Int64) (k30 : Int32 → Int32 → Mm → Option (Int32 × Mm)) (x7 : Int32) (x8 : Int32) (σ : Mm) : Option (Int32 × Mm) :=
  lt_ (x8 + 1) (fun (x8_1 : Int32) =>
    k30 x7 x8_1 σ)
def s_X3_asGreatFrom_30 (Y : Yt) (fu : Nat) (self : Nat → Nat → Int32 → Int32 → Int32 → Int64 → Mm → Option (Int32 × Mm)) (a0 : Nat) (a1 : Nat) (a2 : Int32) (a3 : Int32) (a4 : Int32) (a5 : Int64) (k30 : Int32 → Int32 → Mm → Option (Int32 × Mm)) (x7 : Int32) (x8 : Int32) (σ : Mm) : Option (Int32 × Mm) :=
  if a2 ≤ x8 then
    some (x7, σ)
  else
    if ((a4 >>> (x8 &&& 31)) &&& 1) = 0 then
    if inb a3 (Y a0).2 = true then
    if inb x8 (Y a1).2 = true then
    bnd (self a0 a1 a2 (a3 + 1) (a4 ||| (1 <<< (x8 &&& 31))) (a5 - ((Int32.toInt64 (Mm.gi σ a0 (ix a3))) * (Int32.toInt64 (Mm.gi σ a1 (ix x8))))) σ) (fun (r_6 : Int32) (σ_5 : Mm) =>
    lt_ (x7 + r_6) (fun (x7_7 : Int32) =>
    b_X3_asGreatFrom_80 Y fu self a0 a1 a2 a3 a4 a5 k30 x7_7 x8 σ_5))
  else none
  else none
  else
    b_X3_asGreatFrom_80 Y fu self a0 a1 a2 a3 a4 a5 k30 x7 x8 σ
def b_X3_asGreatFrom_30 (Y : Yt) (fu : Nat) (self : Nat → Nat → Int32 → Int32 → Int32 → Int64 → Mm → Option (Int32 × Mm)) (a0 : Nat) (a1 : Nat) (a2 : Int32) (a3 : Int32) (a4 : Int32) (a5 : Int64) (n : Nat) : Int32 → Int32 → Mm → Option (Int32 × Mm) := lp (s_X3_asGreatFrom_30 Y fu self a0 a1 a2 a3 a4 a5 ) (fun _ _ _ => none) n
def g_X3_asGreatFrom (Y : Yt) (fu : Nat) (self : Nat → Nat → Int32 → Int32 → Int32 → Int64 → Mm → Option (Int32 × Mm)) (a0 : Nat) (a1 : Nat) (a2 : Int32) (a3 : Int32) (a4 : Int32) (a5 : Int64) (σ : Mm) : Option (Int32 × Mm) :=
  if a2 ≤ a3 then
    b_X3_asGreatFrom_11 Y fu self a0 a1 a2 a3 a4 a5 σ
  else
    if a3 < 7 then
    b_X3_asGreatFrom_30 Y fu self a0 a1 a2 a3 a4 a5 fu 0 0 σ
  else
    b_X3_asGreatFrom_11 Y fu self a0 a1 a2 a3 a4 a5 σ
def f_X3_asGreatFrom (Y : Yt) (fu : Nat) (dp : Nat) : Nat → Nat → Int32 → Int32 → Int32 → Int64 → Mm → Option (Int32 × Mm) := lp (g_X3_asGreatFrom Y fu) (fun _ _ _ _ _ _ _ => none) dp
def f_X3_asGreatOrders (Y : Yt) (fu : Nat) (a0 : Nat) (a1 : Nat) (a2 : Int32) (σ : Mm) : Option (Int32 × Mm) :=
  bnd (f_X3_products Y fu a0 a1 a2 σ) (fun (r_3 : Int64) (σ_2 : Mm) =>
    bnd (f_X3_asGreatFrom Y fu 9 a0 a1 a2 0 0 r_3 σ_2) (fun (r_6 : Int32) (σ_5 : Mm) =>
    some (r_6, σ_5)))
def f_X4_empty (Y : Yt) (this : Nat) (σ : Mm) : Option (Mm) :=
  lt_ (Mm.si σ this 0 0) (fun (σ_1 : Mm) =>
    lt_ (Mm.si σ_1 this 1 0) (fun (σ_2 : Mm) =>
    lt_ (Mm.si σ_2 this 2 0) (fun (σ_3 : Mm) =>
    lt_ (Mm.si σ_3 this 3 0) (fun (σ_4 : Mm) =>
    lt_ (Mm.si σ_4 this 4 0) (fun (σ_5 : Mm) =>
    lt_ (Mm.si σ_5 this 5 0) (fun (σ_6 : Mm) =>
    lt_ (Mm.si σ_6 this 6 0) (fun (σ_7 : Mm) =>
    lt_ (Mm.si σ_7 this 9 0) (fun (σ_8 : Mm) =>
    some σ_8))))))))
def f_X11_within (Y : Yt) (a0 : Int32) (a1 : Int32) (a2 : Int32) (σ : Mm) : Option (Int32 × Mm) :=
  if a0 < a1 then
    zret 0 σ
  else
    if a2 < a0 then
    zret 0 σ
  else
    zret 1 σ
def f_X4_isLate (Y : Yt) (a0 : Int32) (σ : Mm) : Option (Int32 × Mm) :=
  bnd (f_X11_within Y a0 (-50000) 50000 σ) (fun (r_3 : Int32) (σ_2 : Mm) =>
    zret r_3 σ_2)
def s_X4_putCompanion_25 (Y : Yt) (fu : Nat) (this : Nat) (a1 : Nat) (k25 : Int32 → Mm → Option (Int32 × Mm)) (x2 : Int32) (σ : Mm) : Option (Int32 × Mm) :=
  if 4 ≤ x2 then
    if inb 0 (Y a1).2 = true then
    if inb (Mm.gi σ this 9) 2 = true then
    lt_ (Mm.si σ (this + 3) (ix (Mm.gi σ this 9)) (Mm.gi σ a1 (ix 0))) (fun (σ_9 : Mm) =>
    lt_ (Mm.si σ_9 this 9 ((Mm.gi σ_9 this 9) + 1)) (fun (σ_10 : Mm) =>
    zret 1 σ_10))
  else none
  else none
  else
    if inb (x2 + 1) (Y a1).2 = true then
    bnd (f_X4_isLate Y (Mm.gi σ a1 (ix (x2 + 1))) σ) (fun (r_14 : Int32) (σ_13 : Mm) =>
    if r_14 = 0 then
    zret 0 σ_13
  else
    if inb (x2 + 1) (Y a1).2 = true then
    if inb (((Mm.gi σ_13 this 9) * 4) + x2) 8 = true then
    lt_ (Mm.si σ_13 (this + 4) (ix (((Mm.gi σ_13 this 9) * 4) + x2)) (Mm.gi σ_13 a1 (ix (x2 + 1)))) (fun (σ_19 : Mm) =>
    lt_ (x2 + 1) (fun (x2_20 : Int32) =>
    k25 x2_20 σ_19))
  else none
  else none)
  else none
def b_X4_putCompanion_25 (Y : Yt) (fu : Nat) (this : Nat) (a1 : Nat) (n : Nat) : Int32 → Mm → Option (Int32 × Mm) := lp (s_X4_putCompanion_25 Y fu this a1 ) (fun _ _ => none) n
def f_X4_putCompanion (Y : Yt) (fu : Nat) (this : Nat) (a1 : Nat) (σ : Mm) : Option (Int32 × Mm) :=
  if 2 ≤ (Mm.gi σ this 9) then
    zret 0 σ
  else
    if inb 0 (Y a1).2 = true then
    bnd (f_X11_within Y (Mm.gi σ a1 (ix 0)) 4 1000 σ) (fun (r_4 : Int32) (σ_3 : Mm) =>
    if r_4 = 0 then
    zret 0 σ_3
  else
    b_X4_putCompanion_25 Y fu this a1 fu 0 σ_3)
  else none
def f_X4_putDrift (Y : Yt) (this : Nat) (a1 : Int32) (σ : Mm) : Option (Int32 × Mm) :=
  if (Mm.gi σ this 5) = 0 then
    bnd (f_X11_within Y a1 (-100000) 100000 σ) (fun (r_3 : Int32) (σ_2 : Mm) =>
    if r_3 = 0 then
    zret 0 σ_2
  else
    lt_ (Mm.si σ_2 this 5 1) (fun (σ_4 : Mm) =>
    lt_ (Mm.si σ_4 this 4 a1) (fun (σ_5 : Mm) =>
    zret 1 σ_5)))
  else
    zret 0 σ
def f_X4_putPeriod (Y : Yt) (this : Nat) (a1 : Int32) (σ : Mm) : Option (Int32 × Mm) :=
  lt_ (Mm.si σ this 1 a1) (fun (σ_1 : Mm) =>
    bnd (f_X11_within Y a1 100000 100000000 σ_1) (fun (r_4 : Int32) (σ_3 : Mm) =>
    zret r_4 σ_3))
def f_X4_putSlip (Y : Yt) (this : Nat) (a1 : Int32) (a2 : Int32) (σ : Mm) : Option (Int32 × Mm) :=
  if 3 ≤ (Mm.gi σ this 6) then
    zret 0 σ
  else
    bnd (f_X11_within Y a1 0 1000000 σ) (fun (r_3 : Int32) (σ_2 : Mm) =>
    if r_3 = 0 then
    zret 0 σ_2
  else
    bnd (f_X4_isLate Y a2 σ_2) (fun (r_6 : Int32) (σ_5 : Mm) =>
    if r_6 = 0 then
    zret 0 σ_5
  else
    if inb (Mm.gi σ_5 this 6) 3 = true then
    lt_ (Mm.si σ_5 (this + 1) (ix (Mm.gi σ_5 this 6)) a1) (fun (σ_10 : Mm) =>
    if inb (Mm.gi σ_10 this 6) 3 = true then
    lt_ (Mm.si σ_10 (this + 2) (ix (Mm.gi σ_10 this 6)) a2) (fun (σ_14 : Mm) =>
    lt_ (Mm.si σ_14 this 6 ((Mm.gi σ_14 this 6) + 1)) (fun (σ_15 : Mm) =>
    zret 1 σ_15))
  else none)
  else none))
def f_X4_putZero (Y : Yt) (this : Nat) (a1 : Int32) (σ : Mm) : Option (Int32 × Mm) :=
  if (Mm.gi σ this 3) = 0 then
    bnd (f_X11_within Y a1 0 1000000 σ) (fun (r_3 : Int32) (σ_2 : Mm) =>
    if r_3 = 0 then
    zret 0 σ_2
  else
    lt_ (Mm.si σ_2 this 3 1) (fun (σ_4 : Mm) =>
    lt_ (Mm.si σ_4 this 2 a1) (fun (σ_5 : Mm) =>
    zret 1 σ_5)))
  else
    zret 0 σ
def f_X4_taken (Y : Yt) (fu : Nat) (this : Nat) (a1 : Int32) (a2 : Nat) (σ : Mm) : Option (Int32 × Mm) :=
  if a1 = 99 then
    bnd (f_X4_putCompanion Y fu this a2 σ) (fun (r_3 : Int32) (σ_2 : Mm) =>
    zret r_3 σ_2)
  else
    if a1 = 100 then
    if inb 0 (Y a2).2 = true then
    bnd (f_X4_putDrift Y this (Mm.gi σ a2 (ix 0)) σ) (fun (r_7 : Int32) (σ_6 : Mm) =>
    zret r_7 σ_6)
  else none
  else
    if a1 = 112 then
    if inb 0 (Y a2).2 = true then
    bnd (f_X4_putPeriod Y this (Mm.gi σ a2 (ix 0)) σ) (fun (r_11 : Int32) (σ_10 : Mm) =>
    zret r_11 σ_10)
  else none
  else
    if a1 = 115 then
    if inb 0 (Y a2).2 = true then
    if inb 1 (Y a2).2 = true then
    bnd (f_X4_putSlip Y this (Mm.gi σ a2 (ix 0)) (Mm.gi σ a2 (ix 1)) σ) (fun (r_16 : Int32) (σ_15 : Mm) =>
    zret r_16 σ_15)
  else none
  else none
  else
    if a1 = 122 then
    if inb 0 (Y a2).2 = true then
    bnd (f_X4_putZero Y this (Mm.gi σ a2 (ix 0)) σ) (fun (r_20 : Int32) (σ_19 : Mm) =>
    zret r_20 σ_19)
  else none
  else
    zret 0 σ
def b_X4_put_25 (Y : Yt) (fu : Nat) (this : Nat) (a1 : Int32) (a2 : Nat) (t0 : Int32) (t1 : Int32) (σ : Mm) : Option (Int32 × Mm) :=
  if t1 = t0 then
    bnd (f_X4_taken Y fu this a1 a2 σ) (fun (r_3 : Int32) (σ_2 : Mm) =>
    if r_3 = 0 then
    zret 0 σ_2
  else
    lt_ (Mm.si σ_2 this 0 ((Mm.gi σ_2 this 0) + 1)) (fun (σ_4 : Mm) =>
    zret 1 σ_4))
  else
    zret 0 σ
def b_X4_put_12 (Y : Yt) (fu : Nat) (this : Nat) (a1 : Int32) (a2 : Nat) (t0 : Int32) (σ : Mm) : Option (Int32 × Mm) :=
  if a1 = 112 then
    b_X4_put_25 Y fu this a1 a2 1 t0 σ
  else
    b_X4_put_25 Y fu this a1 a2 0 t0 σ
def f_X4_put (Y : Yt) (fu : Nat) (this : Nat) (a1 : Int32) (a2 : Nat) (σ : Mm) : Option (Int32 × Mm) :=
  if (Mm.gi σ this 0) = 0 then
    b_X4_put_12 Y fu this a1 a2 1 σ
  else
    b_X4_put_12 Y fu this a1 a2 0 σ
def b_X4_lengthOf_66 (Y : Yt) (fu : Nat) (this : Nat) (a1 : Int32) (a2 : Int64) (k23 : Int64 → Int32 → Mm → Option (Int64 × Mm)) (x4 : Int64) (x6 : Int32) (σ : Mm) : Option (Int64 × Mm) :=
  lt_ (x6 + 1) (fun (x6_5 : Int32) =>
    k23 x4 x6_5 σ)
def s_X4_lengthOf_23 (Y : Yt) (fu : Nat) (this : Nat) (a1 : Int32) (a2 : Int64) (k23 : Int64 → Int32 → Mm → Option (Int64 × Mm)) (x4 : Int64) (x6 : Int32) (σ : Mm) : Option (Int64 × Mm) :=
  if (Mm.gi σ this 6) ≤ x6 then
    some ((if 1000000 < x4 then x4 else 1000000), σ)
  else
    if inb x6 3 = true then
    if a2 < ((Int32.toInt64 (Mm.gi σ (this + 1) (ix x6))) * 1000000) then
    b_X4_lengthOf_66 Y fu this a1 a2 k23 x4 x6 σ
  else
    if inb x6 3 = true then
    lt_ (x4 + (1000 * (Int32.toInt64 (Mm.gi σ (this + 2) (ix x6))))) (fun (x4_9 : Int64) =>
    b_X4_lengthOf_66 Y fu this a1 a2 k23 x4_9 x6 σ)
  else none
  else none
def b_X4_lengthOf_23 (Y : Yt) (fu : Nat) (this : Nat) (a1 : Int32) (a2 : Int64) (n : Nat) : Int64 → Int32 → Mm → Option (Int64 × Mm) := lp (s_X4_lengthOf_23 Y fu this a1 a2 ) (fun _ _ _ => none) n
def f_X4_lengthOf (Y : Yt) (fu : Nat) (this : Nat) (a1 : Int32) (a2 : Int64) (σ : Mm) : Option (Int64 × Mm) :=
  lt_ ((1000 * (Int32.toInt64 (Mm.gi σ this 1))) + ((Int32.toInt64 a1) * (Int32.toInt64 (Mm.gi σ this 4)))) (fun (x4_1 : Int64) =>
    b_X4_lengthOf_23 Y fu this a1 a2 fu x4_1 0 σ)
def b_X4_lateOf_59 (Y : Yt) (fu : Nat) (this : Nat) (a1 : Int32) (k5 : Int64 → Int32 → Mm → Option (Int64 × Mm)) (x2 : Int64) (x4 : Int32) (σ : Mm) : Option (Int64 × Mm) :=
  lt_ (x4 + 1) (fun (x4_5 : Int32) =>
    k5 x2 x4_5 σ)
def s_X4_lateOf_5 (Y : Yt) (fu : Nat) (this : Nat) (a1 : Int32) (k5 : Int64 → Int32 → Mm → Option (Int64 × Mm)) (x2 : Int64) (x4 : Int32) (σ : Mm) : Option (Int64 × Mm) :=
  if (Mm.gi σ this 9) ≤ x4 then
    some (x2, σ)
  else
    if inb x4 2 = true then
    lt_ (Mm.gi σ (this + 3) (ix x4)) (fun (x5_4 : Int32) =>
    if x5_4 ≤ 0 then
    b_X4_lateOf_59 Y fu this a1 k5 x2 x4 σ
  else
    if x5_4 = 0 then none else
    if x5_4 = 0 then none else
    lt_ ((4 * (a1 - a1 / x5_4 * x5_4)) / x5_4) (fun (x6_8 : Int32) =>
    if inb ((x4 * 4) + x6_8) 8 = true then
    lt_ (x2 + (1000 * (Int32.toInt64 (Mm.gi σ (this + 4) (ix ((x4 * 4) + x6_8)))))) (fun (x2_12 : Int64) =>
    b_X4_lateOf_59 Y fu this a1 k5 x2_12 x4 σ)
  else none))
  else none
def b_X4_lateOf_5 (Y : Yt) (fu : Nat) (this : Nat) (a1 : Int32) (n : Nat) : Int64 → Int32 → Mm → Option (Int64 × Mm) := lp (s_X4_lateOf_5 Y fu this a1 ) (fun _ _ _ => none) n
def f_X4_lateOf (Y : Yt) (fu : Nat) (this : Nat) (a1 : Int32) (σ : Mm) : Option (Int64 × Mm) :=
  b_X4_lateOf_5 Y fu this a1 fu 0 0 σ
def s_X6_sumOf_5 (Y : Yt) (fu : Nat) (a0 : Nat) (a1 : Int32) (k5 : Int64 → Int32 → Mm → Option (Int64 × Mm)) (x2 : Int64) (x4 : Int32) (σ : Mm) : Option (Int64 × Mm) :=
  if a1 ≤ x4 then
    some (x2, σ)
  else
    if inb x4 (Y a0).2 = true then
    lt_ (x2 + (Int32.toInt64 (Mm.gi σ a0 (ix x4)))) (fun (x2_2 : Int64) =>
    lt_ (x4 + 1) (fun (x4_3 : Int32) =>
    k5 x2_2 x4_3 σ))
  else none
def b_X6_sumOf_5 (Y : Yt) (fu : Nat) (a0 : Nat) (a1 : Int32) (n : Nat) : Int64 → Int32 → Mm → Option (Int64 × Mm) := lp (s_X6_sumOf_5 Y fu a0 a1 ) (fun _ _ _ => none) n
def f_X6_sumOf (Y : Yt) (fu : Nat) (a0 : Nat) (a1 : Int32) (σ : Mm) : Option (Int64 × Mm) :=
  b_X6_sumOf_5 Y fu a0 a1 fu 0 0 σ
def f_X6_squareAt (Y : Yt) (fu : Nat) (a0 : Nat) (a1 : Int32) (a2 : Int32) (a3 : Int64) (σ : Mm) : Option (Int64 × Mm) :=
  bnd (f_X6_sumOf Y fu a0 a2 σ) (fun (r_3 : Int64) (σ_2 : Mm) =>
    lt_ (((Int32.toInt64 a1) * r_3) - ((Int32.toInt64 a2) * a3)) (fun (x5_4 : Int64) =>
    some ((x5_4 * x5_4), σ_2)))
def f_X6_weight (Y : Yt) (a0 : Int32) (a1 : Int32) (σ : Mm) : Option (Int32 × Mm) :=
  some ((a1 * (a0 - a1)), σ)
def b_X6_placeOf_60 (Y : Yt) (fu : Nat) (a0 : Nat) (a1 : Int32) (k12 : Int64 → Int32 → Int32 → Mm → Option (Int32 × Mm)) (x2 : Int64) (x4 : Int32) (x5 : Int32) (σ : Mm) : Option (Int32 × Mm) :=
  lt_ (x5 + 1) (fun (x5_19 : Int32) =>
    k12 x2 x4 x5_19 σ)
def s_X6_placeOf_12 (Y : Yt) (fu : Nat) (a0 : Nat) (a1 : Int32) (k12 : Int64 → Int32 → Int32 → Mm → Option (Int32 × Mm)) (x2 : Int64) (x4 : Int32) (x5 : Int32) (σ : Mm) : Option (Int32 × Mm) :=
  if (a1 - 2) < x5 then
    some (x4, σ)
  else
    bnd (f_X6_squareAt Y fu a0 a1 x4 x2 σ) (fun (r_6 : Int64) (σ_5 : Mm) =>
    bnd (f_X6_weight Y a1 x4 σ_5) (fun (r_9 : Int32) (σ_8 : Mm) =>
    bnd (f_X6_squareAt Y fu a0 a1 x5 x2 σ_8) (fun (r_12 : Int64) (σ_11 : Mm) =>
    bnd (f_X6_weight Y a1 x5 σ_11) (fun (r_15 : Int32) (σ_14 : Mm) =>
    bnd (f_X1_isAtLeast Y r_6 (Int32.toInt64 r_9) r_12 (Int32.toInt64 r_15) σ_14) (fun (r_18 : Int32) (σ_17 : Mm) =>
    if r_18 = 0 then
    b_X6_placeOf_60 Y fu a0 a1 k12 x2 x5 x5 σ_17
  else
    b_X6_placeOf_60 Y fu a0 a1 k12 x2 x4 x5 σ_17)))))
def b_X6_placeOf_12 (Y : Yt) (fu : Nat) (a0 : Nat) (a1 : Int32) (n : Nat) : Int64 → Int32 → Int32 → Mm → Option (Int32 × Mm) := lp (s_X6_placeOf_12 Y fu a0 a1 ) (fun _ _ _ _ => none) n
def f_X6_placeOf (Y : Yt) (fu : Nat) (a0 : Nat) (a1 : Int32) (σ : Mm) : Option (Int32 × Mm) :=
  bnd (f_X6_sumOf Y fu a0 a1 σ) (fun (r_3 : Int64) (σ_2 : Mm) =>
    b_X6_placeOf_12 Y fu a0 a1 fu r_3 2 3 σ_2)
def f_X6_signed (Y : Yt) (a0 : Nat) (a1 : Int32) (a2 : Int32) (σ : Mm) : Option (Int32 × Mm) :=
  if ((a2 >>> (a1 &&& 31)) &&& 1) = 1 then
    if inb a1 (Y a0).2 = true then
    some ((-(Mm.gi σ a0 (ix a1))), σ)
  else none
  else
    if inb a1 (Y a0).2 = true then
    some ((Mm.gi σ a0 (ix a1)), σ)
  else none
def s_X6_isAsGreat_43 (Y : Yt) (fu : Nat) (a0 : Nat) (a1 : Int32) (a2 : Int32) (a3 : Int64) (a5 : Int32) (k43 : Int64 → Int64 → Int32 → Mm → Option (Int32 × Mm)) (x6 : Int64) (x8 : Int64) (x10 : Int32) (σ : Mm) : Option (Int32 × Mm) :=
  if (a1 - 2) < x10 then
    zret 0 σ
  else
    bnd (f_X6_signed Y a0 (x10 - 1) a2 σ) (fun (r_7 : Int32) (σ_6 : Mm) =>
    lt_ (x8 + (Int32.toInt64 r_7)) (fun (x8_8 : Int64) =>
    lt_ (((Int32.toInt64 a1) * x8_8) - ((Int32.toInt64 x10) * x6)) (fun (x11_9 : Int64) =>
    bnd (f_X6_weight Y a1 x10 σ_6) (fun (r_12 : Int32) (σ_11 : Mm) =>
    bnd (f_X1_isAtLeast Y (x11_9 * x11_9) (Int32.toInt64 r_12) a3 (Int32.toInt64 a5) σ_11) (fun (r_15 : Int32) (σ_14 : Mm) =>
    if r_15 = 0 then
    lt_ (x10 + 1) (fun (x10_16 : Int32) =>
    k43 x6 x8_8 x10_16 σ_14)
  else
    zret 1 σ_14)))))
def b_X6_isAsGreat_43 (Y : Yt) (fu : Nat) (a0 : Nat) (a1 : Int32) (a2 : Int32) (a3 : Int64) (a5 : Int32) (n : Nat) : Int64 → Int64 → Int32 → Mm → Option (Int32 × Mm) := lp (s_X6_isAsGreat_43 Y fu a0 a1 a2 a3 a5 ) (fun _ _ _ _ => none) n
def s_X6_isAsGreat_6 (Y : Yt) (fu : Nat) (a0 : Nat) (a1 : Int32) (a2 : Int32) (a3 : Int64) (a5 : Int32) (k6 : Int64 → Int32 → Mm → Option (Int32 × Mm)) (x6 : Int64) (x8 : Int32) (σ : Mm) : Option (Int32 × Mm) :=
  if a1 ≤ x8 then
    bnd (f_X6_signed Y a0 0 a2 σ) (fun (r_3 : Int32) (σ_2 : Mm) =>
    lt_ (Int32.toInt64 r_3) (fun (x8_4 : Int64) =>
    b_X6_isAsGreat_43 Y fu a0 a1 a2 a3 a5 fu x6 x8_4 2 σ_2))
  else
    bnd (f_X6_signed Y a0 x8 a2 σ) (fun (r_19 : Int32) (σ_18 : Mm) =>
    lt_ (x6 + (Int32.toInt64 r_19)) (fun (x6_20 : Int64) =>
    lt_ (x8 + 1) (fun (x8_21 : Int32) =>
    k6 x6_20 x8_21 σ_18)))
def b_X6_isAsGreat_6 (Y : Yt) (fu : Nat) (a0 : Nat) (a1 : Int32) (a2 : Int32) (a3 : Int64) (a5 : Int32) (n : Nat) : Int64 → Int32 → Mm → Option (Int32 × Mm) := lp (s_X6_isAsGreat_6 Y fu a0 a1 a2 a3 a5 ) (fun _ _ _ => none) n
def f_X6_isAsGreat (Y : Yt) (fu : Nat) (a0 : Nat) (a1 : Int32) (a2 : Int32) (a3 : Int64) (a5 : Int32) (σ : Mm) : Option (Int32 × Mm) :=
  b_X6_isAsGreat_6 Y fu a0 a1 a2 a3 a5 fu 0 0 σ
def b_X6_asGreatRows_53 (Y : Yt) (fu : Nat) (a0 : Nat) (a1 : Int32) (k24 : Int32 → Int64 → Int32 → Int32 → Mm → Option (Int32 × Mm)) (x2 : Int32) (x3 : Int64) (x5 : Int32) (x6 : Int32) (σ : Mm) : Option (Int32 × Mm) :=
  lt_ (x6 + 1) (fun (x6_16 : Int32) =>
    k24 x2 x3 x5 x6_16 σ)
def s_X6_asGreatRows_24 (Y : Yt) (fu : Nat) (a0 : Nat) (a1 : Int32) (k24 : Int32 → Int64 → Int32 → Int32 → Mm → Option (Int32 × Mm)) (x2 : Int32) (x3 : Int64) (x5 : Int32) (x6 : Int32) (σ : Mm) : Option (Int32 × Mm) :=
  if (1 <<< ((a1 - 1) &&& 31)) ≤ x6 then
    some (x5, σ)
  else
    bnd (f_X6_weight Y a1 x2 σ) (fun (r_12 : Int32) (σ_11 : Mm) =>
    bnd (f_X6_isAsGreat Y fu a0 a1 x6 x3 r_12 σ_11) (fun (r_15 : Int32) (σ_14 : Mm) =>
    if r_15 = 0 then
    b_X6_asGreatRows_53 Y fu a0 a1 k24 x2 x3 x5 x6 σ_14
  else
    lt_ (x5 + 2) (fun (x5_17 : Int32) =>
    b_X6_asGreatRows_53 Y fu a0 a1 k24 x2 x3 x5_17 x6 σ_14)))
def b_X6_asGreatRows_24 (Y : Yt) (fu : Nat) (a0 : Nat) (a1 : Int32) (n : Nat) : Int32 → Int64 → Int32 → Int32 → Mm → Option (Int32 × Mm) := lp (s_X6_asGreatRows_24 Y fu a0 a1 ) (fun _ _ _ _ _ => none) n
def f_X6_asGreatRows (Y : Yt) (fu : Nat) (a0 : Nat) (a1 : Int32) (σ : Mm) : Option (Int32 × Mm) :=
  bnd (f_X6_placeOf Y fu a0 a1 σ) (fun (r_3 : Int32) (σ_2 : Mm) =>
    bnd (f_X6_sumOf Y fu a0 a1 σ_2) (fun (r_6 : Int64) (σ_5 : Mm) =>
    bnd (f_X6_squareAt Y fu a0 a1 r_3 r_6 σ_5) (fun (r_9 : Int64) (σ_8 : Mm) =>
    b_X6_asGreatRows_24 Y fu a0 a1 fu r_3 r_9 0 0 σ_8)))
def f_X7_isFull (Y : Yt) (this : Nat) (σ : Mm) : Option (Int32 × Mm) :=
  if (Mm.gi σ this 2) < 24 then
    zret 0 σ
  else
    zret 1 σ
def s_X7_placeBehind_5 (Y : Yt) (fu : Nat) (this : Nat) (a1 : Int32) (k5 : Int32 → Mm → Option (Int32 × Mm)) (x2 : Int32) (σ : Mm) : Option (Int32 × Mm) :=
  if x2 ≤ 0 then
    some (x2, σ)
  else
    if inb (((x2 - 1) * 4) + 0) 96 = true then
    if (Mm.gi σ (this + 1) (ix (((x2 - 1) * 4) + 0))) ≤ a1 then
    some (x2, σ)
  else
    lt_ (x2 + (-1)) (fun (x2_5 : Int32) =>
    k5 x2_5 σ)
  else none
def b_X7_placeBehind_5 (Y : Yt) (fu : Nat) (this : Nat) (a1 : Int32) (n : Nat) : Int32 → Mm → Option (Int32 × Mm) := lp (s_X7_placeBehind_5 Y fu this a1 ) (fun _ _ => none) n
def f_X7_placeBehind (Y : Yt) (fu : Nat) (this : Nat) (a1 : Int32) (σ : Mm) : Option (Int32 × Mm) :=
  lt_ (Mm.gi σ this 2) (fun (x2_1 : Int32) =>
    b_X7_placeBehind_5 Y fu this a1 fu x2_1 σ)
def b_X7_see_49 (Y : Yt) (fu : Nat) (this : Nat) (a1 : Int32) (k7 : Int32 → Mm → Option (Mm)) (x2 : Int32) (σ : Mm) : Option (Mm) :=
  lt_ (x2 + 1) (fun (x2_5 : Int32) =>
    k7 x2_5 σ)
def s_X7_see_7 (Y : Yt) (fu : Nat) (this : Nat) (a1 : Int32) (k7 : Int32 → Mm → Option (Mm)) (x2 : Int32) (σ : Mm) : Option (Mm) :=
  if (Mm.gi σ this 2) ≤ x2 then
    some σ
  else
    if inb ((x2 * 4) + 3) 96 = true then
    if a1 < (Mm.gi σ (this + 1) (ix ((x2 * 4) + 3))) then
    b_X7_see_49 Y fu this a1 k7 x2 σ
  else
    if inb (Mm.gi σ this 3) 24 = true then
    lt_ (Mm.si σ (this + 2) (ix (Mm.gi σ this 3)) x2) (fun (σ_9 : Mm) =>
    lt_ (Mm.si σ_9 this 3 ((Mm.gi σ_9 this 3) + 1)) (fun (σ_10 : Mm) =>
    b_X7_see_49 Y fu this a1 k7 x2 σ_10))
  else none
  else none
def b_X7_see_7 (Y : Yt) (fu : Nat) (this : Nat) (a1 : Int32) (n : Nat) : Int32 → Mm → Option (Mm) := lp (s_X7_see_7 Y fu this a1 ) (fun _ _ => none) n
def f_X7_see (Y : Yt) (fu : Nat) (this : Nat) (a1 : Int32) (σ : Mm) : Option (Mm) :=
  lt_ (Mm.si σ this 3 0) (fun (σ_1 : Mm) =>
    b_X7_see_7 Y fu this a1 fu 0 σ_1)
def f_X7_put (Y : Yt) (fu : Nat) (this : Nat) (a1 : Int32) (a2 : Int32) (a3 : Int32) (a4 : Int32) (a5 : Int32) (σ : Mm) : Option (Int32 × Mm) :=
  bnd (f_X7_placeBehind Y fu this a1 σ) (fun (r_3 : Int32) (σ_2 : Mm) =>
    lt_ (r_3 * 4) (fun (x6_4 : Int32) =>
    if ¬ (x6_4 : Int32) < 0 ∧ ¬ ((x6_4 + 4) : Int32) < 0 ∧ ¬ ((((Mm.gi σ_2 this 2) * 4) - x6_4) : Int32) < 0 ∧ ix x6_4 + ix (((Mm.gi σ_2 this 2) * 4) - x6_4) ≤ 96 ∧ ix (x6_4 + 4) + ix (((Mm.gi σ_2 this 2) * 4) - x6_4) ≤ 96 then
    lt_ (Mm.cp σ_2 (this + 1) (ix x6_4) (this + 1) (ix (x6_4 + 4)) (ix (((Mm.gi σ_2 this 2) * 4) - x6_4))) (fun (σ_14 : Mm) =>
    if inb (x6_4 + 0) 96 = true then
    lt_ (Mm.si σ_14 (this + 1) (ix (x6_4 + 0)) a1) (fun (σ_18 : Mm) =>
    if inb (x6_4 + 1) 96 = true then
    lt_ (Mm.si σ_18 (this + 1) (ix (x6_4 + 1)) a2) (fun (σ_22 : Mm) =>
    if inb (x6_4 + 2) 96 = true then
    lt_ (Mm.si σ_22 (this + 1) (ix (x6_4 + 2)) a3) (fun (σ_26 : Mm) =>
    if inb (x6_4 + 3) 96 = true then
    lt_ (Mm.si σ_26 (this + 1) (ix (x6_4 + 3)) a4) (fun (σ_30 : Mm) =>
    lt_ (Mm.si σ_30 this 2 ((Mm.gi σ_30 this 2) + 1)) (fun (σ_31 : Mm) =>
    bn1 (f_X7_see Y fu this a5 σ_31) (fun (σ_33 : Mm) =>
    some ((Mm.gi σ_33 this 2), σ_33))))
  else none)
  else none)
  else none)
  else none)
  else none))
def f_X7_dropAll (Y : Yt) (this : Nat) (σ : Mm) : Option (Int32 × Mm) :=
  lt_ (Mm.gi σ this 2) (fun (x1_1 : Int32) =>
    lt_ (Mm.si σ this 2 0) (fun (σ_2 : Mm) =>
    lt_ (Mm.si σ_2 this 3 0) (fun (σ_3 : Mm) =>
    some (x1_1, σ_3))))
def f_X7_value (Y : Yt) (this : Nat) (a1 : Int32) (a2 : Int32) (σ : Mm) : Option (Int32 × Mm) :=
  if inb a1 24 = true then
    if inb (((Mm.gi σ (this + 2) (ix a1)) * 4) + a2) 96 = true then
    some ((Mm.gi σ (this + 1) (ix (((Mm.gi σ (this + 2) (ix a1)) * 4) + a2))), σ)
  else none
  else none
def f_X8_correct (Y : Yt) (this : Nat) (a1 : Int32) (a2 : Int32) (a3 : Int32) (σ : Mm) : Option (Int32 × Mm) :=
  if inb a2 3 = true then
    if inb a3 2 = true then
    if inb (a1 / 100000) 11 = true then
    some (((a1 - (Mm.gi σ 3 (ix a2))) + (Mm.gi σ (5 + 1 * ix a3) (ix (a1 / 100000)))), σ)
  else none
  else none
  else none
def f_X9_hasRoom (Y : Yt) (this : Nat) (a1 : Int32) (σ : Mm) : Option (Int32 × Mm) :=
  if 200 < ((Mm.gi σ this 1) + a1) then
    zret 0 σ
  else
    zret 1 σ
def s_X9_append_5 (Y : Yt) (fu : Nat) (this : Nat) (a1 : Int32) (a2 : Int64) (k5 : Int32 → Mm → Option (Int32 × Mm)) (x4 : Int32) (σ : Mm) : Option (Int32 × Mm) :=
  if x4 < 0 then
    some ((Mm.gi σ this 1), σ)
  else
    if inb (Mm.gi σ this 1) 200 = true then
    lt_ (Mm.si σ 10 (ix (Mm.gi σ this 1)) ((Int64.toInt32 ((Int64.toUInt64 a2 >>> ((Int32.toInt64 (8 * x4)).toUInt64 &&& Int64.toUInt64 63)).toInt64)) &&& 255)) (fun (σ_5 : Mm) =>
    lt_ (Mm.si σ_5 this 1 ((Mm.gi σ_5 this 1) + 1)) (fun (σ_6 : Mm) =>
    lt_ (x4 + (-1)) (fun (x4_7 : Int32) =>
    k5 x4_7 σ_6)))
  else none
def b_X9_append_5 (Y : Yt) (fu : Nat) (this : Nat) (a1 : Int32) (a2 : Int64) (n : Nat) : Int32 → Mm → Option (Int32 × Mm) := lp (s_X9_append_5 Y fu this a1 a2 ) (fun _ _ => none) n
def f_X9_append (Y : Yt) (fu : Nat) (this : Nat) (a1 : Int32) (a2 : Int64) (σ : Mm) : Option (Int32 × Mm) :=
  lt_ (a1 - 1) (fun (x4_1 : Int32) =>
    b_X9_append_5 Y fu this a1 a2 fu x4_1 σ)
def f_X9_empty (Y : Yt) (this : Nat) (σ : Mm) : Option (Int32 × Mm) :=
  lt_ (Mm.gi σ this 1) (fun (x1_1 : Int32) =>
    lt_ (Mm.si σ this 1 0) (fun (σ_2 : Mm) =>
    some (x1_1, σ_2)))
def f_X9_peek (Y : Yt) (this : Nat) (σ : Mm) : Option (Int32 × Mm) :=
  if (Mm.gi σ this 1) ≤ (Mm.gi σ this 2) then
    some ((-1), σ)
  else
    if inb (Mm.gi σ this 2) 200 = true then
    some ((Mm.gi σ 10 (ix (Mm.gi σ this 2))), σ)
  else none
def f_X9_nextByte (Y : Yt) (this : Nat) (σ : Mm) : Option (Int32 × Mm) :=
  bnd (f_X9_peek Y this σ) (fun (r_3 : Int32) (σ_2 : Mm) =>
    lt_ (Mm.si σ_2 this 2 ((Mm.gi σ_2 this 2) + 1)) (fun (σ_4 : Mm) =>
    some (r_3, σ_4)))
def f_X9_numbersOf (Y : Yt) (a0 : Int32) (σ : Mm) : Option (Int32 × Mm) :=
  if a0 = 99 then
    some (5, σ)
  else
    if a0 = 100 then
    some (1, σ)
  else
    if a0 = 112 then
    some (1, σ)
  else
    if a0 = 115 then
    some (2, σ)
  else
    if a0 = 122 then
    some (1, σ)
  else
    some (0, σ)
def f_X9_isFigure (Y : Yt) (a0 : Int32) (σ : Mm) : Option (Int32 × Mm) :=
  if a0 < 48 then
    zret 0 σ
  else
    if 57 < a0 then
    zret 0 σ
  else
    zret 1 σ
def b_X9_readNumber_85 (Y : Yt) (fu : Nat) (this : Nat) (a1 : Int32) (x4 : Int32) (t0 : Int32) (t1 : Int32) (t2 : Nat) (σ : Mm) : Option (Int32 × Mm) :=
  if inb t1 (Y t2).2 = true then
    lt_ (Mm.si σ t2 (ix t1) t0) (fun (σ_7 : Mm) =>
    if x4 ≤ 0 then
    zret 0 σ_7
  else
    zret 1 σ_7)
  else none
def b_X9_readNumber_70 (Y : Yt) (fu : Nat) (this : Nat) (a1 : Int32) (x2 : Int32) (x3 : Int32) (x4 : Int32) (σ : Mm) : Option (Int32 × Mm) :=
  if x2 = 0 then
    b_X9_readNumber_85 Y fu this a1 x4 x3 a1 11 σ
  else
    b_X9_readNumber_85 Y fu this a1 x4 (-x3) a1 11 σ
def s_X9_readNumber_34 (Y : Yt) (fu : Nat) (this : Nat) (a1 : Int32) (k34 : Int32 → Int32 → Int32 → Mm → Option (Int32 × Mm)) (x2 : Int32) (x3 : Int32) (x4 : Int32) (σ : Mm) : Option (Int32 × Mm) :=
  if 9 ≤ x4 then
    b_X9_readNumber_70 Y fu this a1 x2 x3 x4 σ
  else
    bnd (f_X9_peek Y this σ) (fun (r_10 : Int32) (σ_9 : Mm) =>
    bnd (f_X9_isFigure Y r_10 σ_9) (fun (r_13 : Int32) (σ_12 : Mm) =>
    if r_13 = 0 then
    b_X9_readNumber_70 Y fu this a1 x2 x3 x4 σ_12
  else
    bnd (f_X9_nextByte Y this σ_12) (fun (r_16 : Int32) (σ_15 : Mm) =>
    lt_ (((10 * x3) + r_16) - 48) (fun (x3_17 : Int32) =>
    lt_ (x4 + 1) (fun (x4_18 : Int32) =>
    k34 x2 x3_17 x4_18 σ_15)))))
def b_X9_readNumber_34 (Y : Yt) (fu : Nat) (this : Nat) (a1 : Int32) (n : Nat) : Int32 → Int32 → Int32 → Mm → Option (Int32 × Mm) := lp (s_X9_readNumber_34 Y fu this a1 ) (fun _ _ _ _ => none) n
def b_X9_readNumber_29 (Y : Yt) (fu : Nat) (this : Nat) (a1 : Int32) (x2 : Int32) (σ : Mm) : Option (Int32 × Mm) :=
  b_X9_readNumber_34 Y fu this a1 fu x2 0 0 σ
def b_X9_readNumber_14 (Y : Yt) (fu : Nat) (this : Nat) (a1 : Int32) (t0 : Int32) (σ : Mm) : Option (Int32 × Mm) :=
  if t0 = 0 then
    b_X9_readNumber_29 Y fu this a1 t0 σ
  else
    lt_ (Mm.si σ this 2 ((Mm.gi σ this 2) + 1)) (fun (σ_19 : Mm) =>
    b_X9_readNumber_29 Y fu this a1 t0 σ_19)
def f_X9_readNumber (Y : Yt) (fu : Nat) (this : Nat) (a1 : Int32) (σ : Mm) : Option (Int32 × Mm) :=
  bnd (f_X9_peek Y this σ) (fun (r_3 : Int32) (σ_2 : Mm) =>
    if r_3 = 45 then
    b_X9_readNumber_14 Y fu this a1 1 σ_2
  else
    b_X9_readNumber_14 Y fu this a1 0 σ_2)
def b_X9_readItem_47 (Y : Yt) (fu : Nat) (this : Nat) (a1 : Nat) (k13 : Int32 → Int32 → Int32 → Mm → Option (Int32 × Mm)) (x2 : Int32) (x3 : Int32) (x4 : Int32) (t0 : Int32) (t1 : Int32) (σ : Mm) : Option (Int32 × Mm) :=
  if t1 = t0 then
    lt_ (x4 + 1) (fun (x4_18 : Int32) =>
    k13 x2 x3 x4_18 σ)
  else
    zret 0 σ
def s_X9_readItem_13 (Y : Yt) (fu : Nat) (this : Nat) (a1 : Nat) (k13 : Int32 → Int32 → Int32 → Mm → Option (Int32 × Mm)) (x2 : Int32) (x3 : Int32) (x4 : Int32) (σ : Mm) : Option (Int32 × Mm) :=
  if x3 ≤ x4 then
    if x3 ≤ 0 then
    zret 0 σ
  else
    bnd (f_X4_put Y fu a1 x2 11 σ) (fun (r_11 : Int32) (σ_10 : Mm) =>
    if r_11 = 0 then
    zret 0 σ_10
  else
    zret 1 σ_10)
  else
    bnd (f_X9_readNumber Y fu this x4 σ) (fun (r_14 : Int32) (σ_13 : Mm) =>
    if r_14 = 0 then
    zret 0 σ_13
  else
    bnd (f_X9_nextByte Y this σ_13) (fun (r_17 : Int32) (σ_16 : Mm) =>
    if (x3 - 1) ≤ x4 then
    b_X9_readItem_47 Y fu this a1 k13 x2 x3 x4 59 r_17 σ_16
  else
    b_X9_readItem_47 Y fu this a1 k13 x2 x3 x4 44 r_17 σ_16))
def b_X9_readItem_13 (Y : Yt) (fu : Nat) (this : Nat) (a1 : Nat) (n : Nat) : Int32 → Int32 → Int32 → Mm → Option (Int32 × Mm) := lp (s_X9_readItem_13 Y fu this a1 ) (fun _ _ _ _ => none) n
def f_X9_readItem (Y : Yt) (fu : Nat) (this : Nat) (a1 : Nat) (σ : Mm) : Option (Int32 × Mm) :=
  bnd (f_X9_nextByte Y this σ) (fun (r_3 : Int32) (σ_2 : Mm) =>
    bnd (f_X9_numbersOf Y r_3 σ_2) (fun (r_6 : Int32) (σ_5 : Mm) =>
    b_X9_readItem_13 Y fu this a1 fu r_3 r_6 0 σ_5))
def b_X9_read_50 (Y : Yt) (fu : Nat) (this : Nat) (a1 : Nat) (σ : Mm) : Option (Int32 × Mm) :=
  if (Mm.gi σ a1 0) = 0 then
    some (0, σ)
  else
    some ((-4), σ)
def s_X9_read_11 (Y : Yt) (fu : Nat) (this : Nat) (a1 : Nat) (k11 : Int32 → Mm → Option (Int32 × Mm)) (x2 : Int32) (σ : Mm) : Option (Int32 × Mm) :=
  if 200 ≤ x2 then
    b_X9_read_50 Y fu this a1 σ
  else
    if (Mm.gi σ this 1) ≤ (Mm.gi σ this 2) then
    b_X9_read_50 Y fu this a1 σ
  else
    lt_ (Mm.gi σ this 2) (fun (x3_4 : Int32) =>
    bnd (f_X9_readItem Y fu this a1 σ) (fun (r_7 : Int32) (σ_6 : Mm) =>
    if r_7 = 0 then
    some (x3_4, σ_6)
  else
    lt_ (x2 + 1) (fun (x2_8 : Int32) =>
    k11 x2_8 σ_6)))
def b_X9_read_11 (Y : Yt) (fu : Nat) (this : Nat) (a1 : Nat) (n : Nat) : Int32 → Mm → Option (Int32 × Mm) := lp (s_X9_read_11 Y fu this a1 ) (fun _ _ => none) n
def f_X9_read (Y : Yt) (fu : Nat) (this : Nat) (a1 : Nat) (σ : Mm) : Option (Int32 × Mm) :=
  bn1 (f_X4_empty Y a1 σ) (fun (σ_2 : Mm) =>
    lt_ (Mm.si σ_2 this 2 0) (fun (σ_3 : Mm) =>
    b_X9_read_11 Y fu this a1 fu 0 σ_3))
def f_X10_stands (Y : Yt) (this : Nat) (σ : Mm) : Option (Int32 × Mm) :=
  if (Mm.gi σ this 2) ≤ 0 then
    zret 0 σ
  else
    zret 1 σ
def s_X10_exchange_30 (Y : Yt) (fu : Nat) (this : Nat) (a1 : Nat) (k30 : Nat → Mm → Option (Nat × Mm)) (x2 : Nat) (σ : Mm) : Option (Nat × Mm) :=
  if 10000 < (Mm.gi σ this 2) then
    some (x2, σ)
  else
    if inb ((Mm.gi σ this 2) - 1) 10001 = true then
    if inb ((Mm.gi σ this 2) - 1) 10001 = true then
    bnd (f_X4_lengthOf Y fu a1 ((Mm.gi σ this 2) - 1) (Mm.gl σ (this + 1) (ix ((Mm.gi σ this 2) - 1))) σ) (fun (r_16 : Int64) (σ_15 : Mm) =>
    lt_ ((Mm.gl σ (this + 1) (ix ((Mm.gi σ this 2) - 1))) + r_16) (fun (x3_17 : Int64) =>
    if x3_17 ≤ 2000000000000 then
    if inb (Mm.gi σ_15 this 2) 10001 = true then
    lt_ (Mm.sl σ_15 (this + 1) (ix (Mm.gi σ_15 this 2)) x3_17) (fun (σ_21 : Mm) =>
    lt_ (Mm.si σ_21 this 2 ((Mm.gi σ_21 this 2) + 1)) (fun (σ_22 : Mm) =>
    k30 x2 σ_22))
  else none
  else
    some (x2, σ_15)))
  else none
  else none
def b_X10_exchange_30 (Y : Yt) (fu : Nat) (this : Nat) (a1 : Nat) (n : Nat) : Nat → Mm → Option (Nat × Mm) := lp (s_X10_exchange_30 Y fu this a1 ) (fun _ _ => none) n
def f_X10_exchange (Y : Yt) (fu : Nat) (this : Nat) (a1 : Nat) (σ : Mm) : Option (Nat × Mm) :=
  lt_ (Mm.sr σ this 1 a1) (fun (σ_2 : Mm) =>
    if inb 0 10001 = true then
    lt_ (Mm.sl σ_2 (this + 1) (ix 0) ((Int32.toInt64 (Mm.gi σ_2 a1 2)) * 1000000)) (fun (σ_6 : Mm) =>
    lt_ (Mm.si σ_6 this 2 1) (fun (σ_7 : Mm) =>
    b_X10_exchange_30 Y fu this a1 fu (Mm.gr σ this 1) σ_7))
  else none)
def f_X10_comesAt (Y : Yt) (fu : Nat) (this : Nat) (a1 : Int32) (σ : Mm) : Option (Int64 × Mm) :=
  if inb a1 10001 = true then
    bnd (f_X4_lateOf Y fu (Mm.gr σ this 1) a1 σ) (fun (r_7 : Int64) (σ_6 : Mm) =>
    some (((Mm.gl σ (this + 1) (ix a1)) + r_7), σ_6))
  else none
def b_X10_firstFrom_56 (Y : Yt) (fu : Nat) (this : Nat) (a1 : Int64) (k11 : Int32 → Int32 → Int32 → Mm → Option (Int32 × Mm)) (x3 : Int32) (x4 : Int32) (x5 : Int32) (σ : Mm) : Option (Int32 × Mm) :=
  lt_ (x5 + 1) (fun (x5_6 : Int32) =>
    k11 x3 x4 x5_6 σ)
def s_X10_firstFrom_11 (Y : Yt) (fu : Nat) (this : Nat) (a1 : Int64) (k11 : Int32 → Int32 → Int32 → Mm → Option (Int32 × Mm)) (x3 : Int32) (x4 : Int32) (x5 : Int32) (σ : Mm) : Option (Int32 × Mm) :=
  if 32 ≤ x5 then
    some (x3, σ)
  else
    if x4 ≤ x3 then
    some (x3, σ)
  else
    lt_ ((x3 + x4) / 2) (fun (x6_2 : Int32) =>
    if inb x6_2 10001 = true then
    if a1 ≤ (Mm.gl σ (this + 1) (ix x6_2)) then
    b_X10_firstFrom_56 Y fu this a1 k11 x3 x6_2 x5 σ
  else
    lt_ (x6_2 + 1) (fun (x3_7 : Int32) =>
    b_X10_firstFrom_56 Y fu this a1 k11 x3_7 x4 x5 σ)
  else none)
def b_X10_firstFrom_11 (Y : Yt) (fu : Nat) (this : Nat) (a1 : Int64) (n : Nat) : Int32 → Int32 → Int32 → Mm → Option (Int32 × Mm) := lp (s_X10_firstFrom_11 Y fu this a1 ) (fun _ _ _ _ => none) n
def f_X10_firstFrom (Y : Yt) (fu : Nat) (this : Nat) (a1 : Int64) (σ : Mm) : Option (Int32 × Mm) :=
  lt_ (Mm.gi σ this 2) (fun (x4_1 : Int32) =>
    b_X10_firstFrom_11 Y fu this a1 fu 0 x4_1 0 σ)
def b_X10_nearest_138 (Y : Yt) (fu : Nat) (this : Nat) (a1 : Int64) (k81 : Int32 → Int64 → Int32 → Mm → Option (Int32 × Mm)) (x4 : Int32) (x5 : Int64) (x7 : Int32) (σ : Mm) : Option (Int32 × Mm) :=
  lt_ (x7 + 1) (fun (x7_12 : Int32) =>
    k81 x4 x5 x7_12 σ)
def s_X10_nearest_81 (Y : Yt) (fu : Nat) (this : Nat) (a1 : Int64) (k81 : Int32 → Int64 → Int32 → Mm → Option (Int32 × Mm)) (x4 : Int32) (x5 : Int64) (x7 : Int32) (σ : Mm) : Option (Int32 × Mm) :=
  if (Mm.gi σ this 2) ≤ x7 then
    some (x4, σ)
  else
    if inb x7 10001 = true then
    if x5 < (((Mm.gl σ (this + 1) (ix x7)) - a1) - 100000000) then
    some (x4, σ)
  else
    bnd (f_X10_comesAt Y fu this x7 σ) (fun (r_10 : Int64) (σ_9 : Mm) =>
    lt_ (if 0 < (r_10 - a1) then (r_10 - a1) else -(r_10 - a1)) (fun (x8_11 : Int64) =>
    if x5 ≤ x8_11 then
    b_X10_nearest_138 Y fu this a1 k81 x4 x5 x7 σ_9
  else
    b_X10_nearest_138 Y fu this a1 k81 x7 x8_11 x7 σ_9))
  else none
def b_X10_nearest_81 (Y : Yt) (fu : Nat) (this : Nat) (a1 : Int64) (n : Nat) : Int32 → Int64 → Int32 → Mm → Option (Int32 × Mm) := lp (s_X10_nearest_81 Y fu this a1 ) (fun _ _ _ _ => none) n
def b_X10_nearest_78 (Y : Yt) (fu : Nat) (this : Nat) (a1 : Int64) (x3 : Int32) (x4 : Int32) (x5 : Int64) (σ : Mm) : Option (Int32 × Mm) :=
  b_X10_nearest_81 Y fu this a1 fu x4 x5 x3 σ
def b_X10_nearest_72 (Y : Yt) (fu : Nat) (this : Nat) (a1 : Int64) (k19 : Int32 → Int32 → Int64 → Int32 → Mm → Option (Int32 × Mm)) (x3 : Int32) (x4 : Int32) (x5 : Int64) (x7 : Int32) (σ : Mm) : Option (Int32 × Mm) :=
  lt_ (x7 + (-1)) (fun (x7_20 : Int32) =>
    k19 x3 x4 x5 x7_20 σ)
def s_X10_nearest_19 (Y : Yt) (fu : Nat) (this : Nat) (a1 : Int64) (k19 : Int32 → Int32 → Int64 → Int32 → Mm → Option (Int32 × Mm)) (x3 : Int32) (x4 : Int32) (x5 : Int64) (x7 : Int32) (σ : Mm) : Option (Int32 × Mm) :=
  if x7 < 0 then
    b_X10_nearest_78 Y fu this a1 x3 x4 x5 σ
  else
    if inb x7 10001 = true then
    if x5 < ((a1 - (Mm.gl σ (this + 1) (ix x7))) - 100000000) then
    b_X10_nearest_78 Y fu this a1 x3 x4 x5 σ
  else
    bnd (f_X10_comesAt Y fu this x7 σ) (fun (r_18 : Int64) (σ_17 : Mm) =>
    lt_ (if 0 < (r_18 - a1) then (r_18 - a1) else -(r_18 - a1)) (fun (x8_19 : Int64) =>
    if x5 < x8_19 then
    b_X10_nearest_72 Y fu this a1 k19 x3 x4 x5 x7 σ_17
  else
    b_X10_nearest_72 Y fu this a1 k19 x3 x7 x8_19 x7 σ_17))
  else none
def b_X10_nearest_19 (Y : Yt) (fu : Nat) (this : Nat) (a1 : Int64) (n : Nat) : Int32 → Int32 → Int64 → Int32 → Mm → Option (Int32 × Mm) := lp (s_X10_nearest_19 Y fu this a1 ) (fun _ _ _ _ _ => none) n
def f_X10_nearest (Y : Yt) (fu : Nat) (this : Nat) (a1 : Int64) (σ : Mm) : Option (Int32 × Mm) :=
  bnd (f_X10_firstFrom Y fu this a1 σ) (fun (r_3 : Int32) (σ_2 : Mm) =>
    lt_ (r_3 - 1) (fun (x7_4 : Int32) =>
    b_X10_nearest_19 Y fu this a1 fu r_3 0 9223372036854775807 x7_4 σ_2))
def f_X10_residueAt (Y : Yt) (fu : Nat) (this : Nat) (a1 : Int32) (σ : Mm) : Option (Int32 × Mm) :=
  lt_ ((Int32.toInt64 a1) * 1000000) (fun (x2_1 : Int64) =>
    bnd (f_X10_nearest Y fu this x2_1 σ) (fun (r_4 : Int32) (σ_3 : Mm) =>
    bnd (f_X10_comesAt Y fu this r_4 σ_3) (fun (r_7 : Int64) (σ_6 : Mm) =>
    some ((Int64.toInt32 ((x2_1 - r_7) / 1000000)), σ_6))))
def f_X11_corrected (Y : Yt) (this : Nat) (a1 : Int32) (a2 : Int32) (a3 : Int32) (σ : Mm) : Option (Int32 × Mm) :=
  if inb a1 4 = true then
    bnd (f_X7_value Y (555 + 10 * ix a1) a2 0 σ) (fun (r_10 : Int32) (σ_9 : Mm) =>
    if inb a1 4 = true then
    bnd (f_X7_value Y (555 + 10 * ix a1) a2 2 σ_9) (fun (r_18 : Int32) (σ_17 : Mm) =>
    bnd (f_X8_correct Y 2 r_10 r_18 a3 σ_17) (fun (r_21 : Int32) (σ_20 : Mm) =>
    some (r_21, σ_20)))
  else none)
  else none
def f_X11_residueBy (Y : Yt) (fu : Nat) (this : Nat) (a1 : Int32) (a2 : Int32) (a3 : Int32) (σ : Mm) : Option (Int32 × Mm) :=
  if inb a1 4 = true then
    bnd (f_X11_corrected Y this a1 a2 a3 σ) (fun (r_8 : Int32) (σ_7 : Mm) =>
    bnd (f_X10_residueAt Y fu (558 + 10 * ix a1) r_8 σ_7) (fun (r_11 : Int32) (σ_10 : Mm) =>
    some (r_11, σ_10)))
  else none
def f_X11_isLoud (Y : Yt) (fu : Nat) (this : Nat) (a1 : Int32) (a2 : Int32) (σ : Mm) : Option (Int32 × Mm) :=
  bnd (f_X11_residueBy Y fu this a1 a2 (Mm.gi σ 2 2) σ) (fun (r_5 : Int32) (σ_4 : Mm) =>
    if inb a1 4 = true then
    bnd (f_X7_value Y (555 + 10 * ix a1) a2 1 σ_4) (fun (r_13 : Int32) (σ_12 : Mm) =>
    if (if 0 ≤ r_5 then r_5 else 0 - r_5) ≤ (3 * r_13) then
    zret 0 σ_12
  else
    zret 1 σ_12)
  else none)
def f_X11_isStar (Y : Yt) (a0 : Int32) (σ : Mm) : Option (Int32 × Mm) :=
  bnd (f_X11_within Y a0 0 3 σ) (fun (r_3 : Int32) (σ_2 : Mm) =>
    zret r_3 σ_2)
def b_X11_alarm_96 (Y : Yt) (fu : Nat) (this : Nat) (a1 : Int32) (k29 : Int32 → Int32 → Mm → Option (Int32 × Mm)) (x2 : Int32) (x3 : Int32) (σ : Mm) : Option (Int32 × Mm) :=
  lt_ (x3 + 1) (fun (x3_17 : Int32) =>
    k29 x2 x3_17 σ)
def b_X11_alarm_78 (Y : Yt) (fu : Nat) (this : Nat) (a1 : Int32) (k29 : Int32 → Int32 → Mm → Option (Int32 × Mm)) (x2 : Int32) (x3 : Int32) (t0 : Int32) (σ : Mm) : Option (Int32 × Mm) :=
  if t0 = 0 then
    b_X11_alarm_96 Y fu this a1 k29 x2 x3 σ
  else
    bnd (f_X11_isLoud Y fu this a1 x3 σ) (fun (r_20 : Int32) (σ_19 : Mm) =>
    if r_20 = 0 then
    b_X11_alarm_96 Y fu this a1 k29 x2 x3 σ_19
  else
    b_X11_alarm_96 Y fu this a1 k29 x3 x3 σ_19)
def b_X11_alarm_73 (Y : Yt) (fu : Nat) (this : Nat) (a1 : Int32) (k29 : Int32 → Int32 → Mm → Option (Int32 × Mm)) (x2 : Int32) (x3 : Int32) (σ : Mm) : Option (Int32 × Mm) :=
  b_X11_alarm_78 Y fu this a1 k29 x2 x3 1 σ
def s_X11_alarm_29 (Y : Yt) (fu : Nat) (this : Nat) (a1 : Int32) (k29 : Int32 → Int32 → Mm → Option (Int32 × Mm)) (x2 : Int32) (x3 : Int32) (σ : Mm) : Option (Int32 × Mm) :=
  if inb a1 4 = true then
    if (Mm.gi σ (555 + 10 * ix a1) 3) ≤ x3 then
    some (x2, σ)
  else
    if x2 = (-4) then
    b_X11_alarm_73 Y fu this a1 k29 x2 x3 σ
  else
    if inb a1 4 = true then
    bnd (f_X7_value Y (555 + 10 * ix a1) x3 3 σ) (fun (r_28 : Int32) (σ_27 : Mm) =>
    if inb a1 4 = true then
    bnd (f_X7_value Y (555 + 10 * ix a1) x2 3 σ_27) (fun (r_36 : Int32) (σ_35 : Mm) =>
    if r_36 ≤ r_28 then
    b_X11_alarm_78 Y fu this a1 k29 x2 x3 0 σ_35
  else
    b_X11_alarm_73 Y fu this a1 k29 x2 x3 σ_35)
  else none)
  else none
  else none
def b_X11_alarm_29 (Y : Yt) (fu : Nat) (this : Nat) (a1 : Int32) (n : Nat) : Int32 → Int32 → Mm → Option (Int32 × Mm) := lp (s_X11_alarm_29 Y fu this a1 ) (fun _ _ _ => none) n
def f_X11_alarm (Y : Yt) (fu : Nat) (this : Nat) (a1 : Int32) (σ : Mm) : Option (Int32 × Mm) :=
  bnd (f_X11_isStar Y a1 σ) (fun (r_3 : Int32) (σ_2 : Mm) =>
    if r_3 = 0 then
    some ((-1), σ_2)
  else
    if inb a1 4 = true then
    bnd (f_X10_stands Y (558 + 10 * ix a1) σ_2) (fun (r_11 : Int32) (σ_10 : Mm) =>
    if r_11 = 0 then
    some ((-2), σ_10)
  else
    b_X11_alarm_29 Y fu this a1 fu (-4) 0 σ_10)
  else none)
def f_X11_isInstrument (Y : Yt) (a0 : Int32) (σ : Mm) : Option (Int32 × Mm) :=
  bnd (f_X11_within Y a0 0 2 σ) (fun (r_3 : Int32) (σ_2 : Mm) =>
    zret r_3 σ_2)
def f_X11_arrival (Y : Yt) (fu : Nat) (this : Nat) (a1 : Int32) (a2 : Int32) (a3 : Int32) (a4 : Int32) (a5 : Int32) (σ : Mm) : Option (Int32 × Mm) :=
  bnd (f_X11_isStar Y a1 σ) (fun (r_3 : Int32) (σ_2 : Mm) =>
    if r_3 = 0 then
    some ((-1), σ_2)
  else
    bnd (f_X11_within Y a2 0 1000000 σ_2) (fun (r_6 : Int32) (σ_5 : Mm) =>
    if r_6 = 0 then
    some ((-1), σ_5)
  else
    bnd (f_X11_within Y a3 0 1000 σ_5) (fun (r_9 : Int32) (σ_8 : Mm) =>
    if r_9 = 0 then
    some ((-1), σ_8)
  else
    bnd (f_X11_isInstrument Y a4 σ_8) (fun (r_12 : Int32) (σ_11 : Mm) =>
    if r_12 = 0 then
    some ((-1), σ_11)
  else
    bnd (f_X11_within Y a5 0 2000000 σ_11) (fun (r_15 : Int32) (σ_14 : Mm) =>
    if r_15 = 0 then
    some ((-1), σ_14)
  else
    if inb a1 4 = true then
    bnd (f_X7_isFull Y (555 + 10 * ix a1) σ_14) (fun (r_23 : Int32) (σ_22 : Mm) =>
    if r_23 = 0 then
    if inb a1 4 = true then
    bnd (f_X7_put Y fu (555 + 10 * ix a1) a2 a3 a4 a5 (Mm.gi σ_22 2 3) σ_22) (fun (r_33 : Int32) (σ_32 : Mm) =>
    some (r_33, σ_32))
  else none
  else
    some ((-3), σ_22))
  else none)))))
def f_X11_isPlace (Y : Yt) (a0 : Int32) (σ : Mm) : Option (Int32 × Mm) :=
  bnd (f_X11_within Y a0 0 23 σ) (fun (r_3 : Int32) (σ_2 : Mm) =>
    zret r_3 σ_2)
def f_X11_at (Y : Yt) (this : Nat) (a1 : Int32) (a2 : Int32) (a3 : Int32) (σ : Mm) : Option (Int32 × Mm) :=
  bnd (f_X11_isStar Y a1 σ) (fun (r_3 : Int32) (σ_2 : Mm) =>
    if r_3 = 0 then
    some ((-100000), σ_2)
  else
    bnd (f_X11_isPlace Y a2 σ_2) (fun (r_6 : Int32) (σ_5 : Mm) =>
    if r_6 = 0 then
    some ((-100000), σ_5)
  else
    bnd (f_X11_within Y a3 0 4 σ_5) (fun (r_9 : Int32) (σ_8 : Mm) =>
    if r_9 = 0 then
    some ((-100000), σ_8)
  else
    if inb a1 4 = true then
    if a2 < (Mm.gi σ_8 (555 + 10 * ix a1) 3) then
    if a3 = 4 then
    bnd (f_X11_corrected Y this a1 a2 (Mm.gi σ_8 2 2) σ_8) (fun (r_27 : Int32) (σ_26 : Mm) =>
    some (r_27, σ_26))
  else
    if inb a1 4 = true then
    bnd (f_X7_value Y (555 + 10 * ix a1) a2 a3 σ_8) (fun (r_22 : Int32) (σ_21 : Mm) =>
    some (r_22, σ_21))
  else none
  else
    some ((-100002), σ_8)
  else none)))
def f_X11_turnOf (Y : Yt) (fu : Nat) (this : Nat) (a1 : Int32) (a2 : Int32) (σ : Mm) : Option (Int32 × Mm) :=
  if inb a1 4 = true then
    bnd (f_X11_corrected Y this a1 a2 (Mm.gi σ 2 2) σ) (fun (r_10 : Int32) (σ_9 : Mm) =>
    bnd (f_X10_nearest Y fu (558 + 10 * ix a1) ((Int32.toInt64 r_10) * 1000000) σ_9) (fun (r_13 : Int32) (σ_12 : Mm) =>
    some (r_13, σ_12)))
  else none
def b_X11_gatherGaps_132 (Y : Yt) (fu : Nat) (this : Nat) (a1 : Int32) (a2 : Int32) (a3 : Int32) (k44 : Nat → Int32 → Mm → Option (Mm)) (k57 : Nat → Int32 → Int32 → Mm → Option (Mm)) (x4 : Nat) (x5 : Int32) (x6 : Int32) (σ : Mm) : Option (Mm) :=
  lt_ (x6 + 1) (fun (x6_10 : Int32) =>
    k57 x4 x5 x6_10 σ)
def s_X11_gatherGaps_57 (Y : Yt) (fu : Nat) (this : Nat) (a1 : Int32) (a2 : Int32) (a3 : Int32) (k44 : Nat → Int32 → Mm → Option (Mm)) (k57 : Nat → Int32 → Int32 → Mm → Option (Mm)) (x4 : Nat) (x5 : Int32) (x6 : Int32) (σ : Mm) : Option (Mm) :=
  if (Mm.gi σ x4 3) ≤ x6 then
    lt_ (x5 + 1) (fun (x5_6 : Int32) =>
    k44 x4 x5_6 σ)
  else
    bnd (f_X7_value Y x4 x5 2 σ) (fun (r_9 : Int32) (σ_8 : Mm) =>
    if r_9 = a2 then
    bnd (f_X7_value Y x4 x6 2 σ_8) (fun (r_13 : Int32) (σ_12 : Mm) =>
    if r_13 = a3 then
    if inb x5 24 = true then
    if inb x6 24 = true then
    if (Mm.gi σ_12 552 (ix x5)) = (Mm.gi σ_12 552 (ix x6)) then
    bnd (f_X7_value Y x4 x5 0 σ_12) (fun (r_24 : Int32) (σ_23 : Mm) =>
    bnd (f_X7_value Y x4 x6 0 σ_23) (fun (r_27 : Int32) (σ_26 : Mm) =>
    bn1 (f_X2_put Y 553 (r_24 - r_27) σ_26) (fun (σ_29 : Mm) =>
    b_X11_gatherGaps_132 Y fu this a1 a2 a3 k44 k57 x4 x5 x6 σ_29)))
  else
    b_X11_gatherGaps_132 Y fu this a1 a2 a3 k44 k57 x4 x5 x6 σ_12
  else none
  else none
  else
    b_X11_gatherGaps_132 Y fu this a1 a2 a3 k44 k57 x4 x5 x6 σ_12)
  else
    b_X11_gatherGaps_132 Y fu this a1 a2 a3 k44 k57 x4 x5 x6 σ_8)
def b_X11_gatherGaps_57 (Y : Yt) (fu : Nat) (this : Nat) (a1 : Int32) (a2 : Int32) (a3 : Int32) (k44 : Nat → Int32 → Mm → Option (Mm)) (n : Nat) : Nat → Int32 → Int32 → Mm → Option (Mm) := lp (s_X11_gatherGaps_57 Y fu this a1 a2 a3 k44) (fun _ _ _ _ => none) n
def s_X11_gatherGaps_44 (Y : Yt) (fu : Nat) (this : Nat) (a1 : Int32) (a2 : Int32) (a3 : Int32) (k44 : Nat → Int32 → Mm → Option (Mm)) (x4 : Nat) (x5 : Int32) (σ : Mm) : Option (Mm) :=
  if (Mm.gi σ x4 3) ≤ x5 then
    some σ
  else
    b_X11_gatherGaps_57 Y fu this a1 a2 a3 k44 fu x4 x5 0 σ
def b_X11_gatherGaps_44 (Y : Yt) (fu : Nat) (this : Nat) (a1 : Int32) (a2 : Int32) (a3 : Int32) (n : Nat) : Nat → Int32 → Mm → Option (Mm) := lp (s_X11_gatherGaps_44 Y fu this a1 a2 a3 ) (fun _ _ _ => none) n
def s_X11_gatherGaps_11 (Y : Yt) (fu : Nat) (this : Nat) (a1 : Int32) (a2 : Int32) (a3 : Int32) (k11 : Nat → Int32 → Mm → Option (Mm)) (x4 : Nat) (x5 : Int32) (σ : Mm) : Option (Mm) :=
  if (Mm.gi σ x4 3) ≤ x5 then
    b_X11_gatherGaps_44 Y fu this a1 a2 a3 fu x4 0 σ
  else
    bnd (f_X11_turnOf Y fu this a1 x5 σ) (fun (r_34 : Int32) (σ_33 : Mm) =>
    if inb x5 24 = true then
    lt_ (Mm.si σ_33 552 (ix x5) r_34) (fun (σ_36 : Mm) =>
    lt_ (x5 + 1) (fun (x5_37 : Int32) =>
    k11 x4 x5_37 σ_36))
  else none)
def b_X11_gatherGaps_11 (Y : Yt) (fu : Nat) (this : Nat) (a1 : Int32) (a2 : Int32) (a3 : Int32) (n : Nat) : Nat → Int32 → Mm → Option (Mm) := lp (s_X11_gatherGaps_11 Y fu this a1 a2 a3 ) (fun _ _ _ => none) n
def f_X11_gatherGaps (Y : Yt) (fu : Nat) (this : Nat) (a1 : Int32) (a2 : Int32) (a3 : Int32) (σ : Mm) : Option (Mm) :=
  if inb a1 4 = true then
    b_X11_gatherGaps_11 Y fu this a1 a2 a3 fu (555 + 10 * ix a1) 0 σ
  else none
def b_X11_middleGap_33 (Y : Yt) (fu : Nat) (this : Nat) (a1 : Int32) (a2 : Int32) (k9 : Int32 → Mm → Option (Int32 × Mm)) (x3 : Int32) (σ : Mm) : Option (Int32 × Mm) :=
  lt_ (x3 + 1) (fun (x3_20 : Int32) =>
    k9 x3_20 σ)
def s_X11_middleGap_9 (Y : Yt) (fu : Nat) (this : Nat) (a1 : Int32) (a2 : Int32) (k9 : Int32 → Mm → Option (Int32 × Mm)) (x3 : Int32) (σ : Mm) : Option (Int32 × Mm) :=
  if 4 ≤ x3 then
    if (Mm.gi σ 553 1) = 0 then
    some ((-10000002), σ)
  else
    bnd (f_X2_middle Y fu 553 σ) (fun (r_11 : Int32) (σ_10 : Mm) =>
    some (r_11, σ_10))
  else
    if inb x3 4 = true then
    bnd (f_X10_stands Y (558 + 10 * ix x3) σ) (fun (r_19 : Int32) (σ_18 : Mm) =>
    if r_19 = 0 then
    b_X11_middleGap_33 Y fu this a1 a2 k9 x3 σ_18
  else
    bn1 (f_X11_gatherGaps Y fu this x3 a1 a2 σ_18) (fun (σ_22 : Mm) =>
    b_X11_middleGap_33 Y fu this a1 a2 k9 x3 σ_22))
  else none
def b_X11_middleGap_9 (Y : Yt) (fu : Nat) (this : Nat) (a1 : Int32) (a2 : Int32) (n : Nat) : Int32 → Mm → Option (Int32 × Mm) := lp (s_X11_middleGap_9 Y fu this a1 a2 ) (fun _ _ => none) n
def f_X11_middleGap (Y : Yt) (fu : Nat) (this : Nat) (a1 : Int32) (a2 : Int32) (σ : Mm) : Option (Int32 × Mm) :=
  bn1 (f_X2_empty Y 553 σ) (fun (σ_4 : Mm) =>
    b_X11_middleGap_9 Y fu this a1 a2 fu 0 σ_4)
def f_X11_between (Y : Yt) (fu : Nat) (this : Nat) (a1 : Int32) (a2 : Int32) (σ : Mm) : Option (Int32 × Mm) :=
  bnd (f_X11_isInstrument Y a1 σ) (fun (r_3 : Int32) (σ_2 : Mm) =>
    if r_3 = 0 then
    some ((-10000000), σ_2)
  else
    bnd (f_X11_isInstrument Y a2 σ_2) (fun (r_6 : Int32) (σ_5 : Mm) =>
    if r_6 = 0 then
    some ((-10000000), σ_5)
  else
    if a1 = a2 then
    some ((-10000000), σ_5)
  else
    bnd (f_X11_middleGap Y fu this a1 a2 σ_5) (fun (r_9 : Int32) (σ_8 : Mm) =>
    some (r_9, σ_8))))
def f_X11_clear (Y : Yt) (this : Nat) (a1 : Int32) (σ : Mm) : Option (Int32 × Mm) :=
  bnd (f_X11_isStar Y a1 σ) (fun (r_3 : Int32) (σ_2 : Mm) =>
    if r_3 = 0 then
    some ((-1), σ_2)
  else
    if inb a1 4 = true then
    bnd (f_X7_dropAll Y (555 + 10 * ix a1) σ_2) (fun (r_11 : Int32) (σ_10 : Mm) =>
    some (r_11, σ_10))
  else none)
def f_X11_comes (Y : Yt) (fu : Nat) (this : Nat) (a1 : Int32) (a2 : Int32) (σ : Mm) : Option (Int64 × Mm) :=
  bnd (f_X11_isStar Y a1 σ) (fun (r_3 : Int32) (σ_2 : Mm) =>
    if r_3 = 0 then
    some ((-1), σ_2)
  else
    bnd (f_X11_within Y a2 0 10000 σ_2) (fun (r_6 : Int32) (σ_5 : Mm) =>
    if r_6 = 0 then
    some ((-1), σ_5)
  else
    if inb a1 4 = true then
    if (Mm.gi σ_5 (558 + 10 * ix a1) 2) ≤ a2 then
    some ((-2), σ_5)
  else
    if inb a1 4 = true then
    bnd (f_X10_comesAt Y fu (558 + 10 * ix a1) a2 σ_5) (fun (r_19 : Int64) (σ_18 : Mm) =>
    some (r_19, σ_18))
  else none
  else none))
def s_X11_countingArrivals_4 (Y : Yt) (fu : Nat) (this : Nat) (k4 : Int32 → Int32 → Mm → Option (Int32 × Mm)) (x1 : Int32) (x2 : Int32) (σ : Mm) : Option (Int32 × Mm) :=
  if 4 ≤ x2 then
    some (x1, σ)
  else
    if inb x2 4 = true then
    lt_ (x1 + (Mm.gi σ (555 + 10 * ix x2) 3)) (fun (x1_6 : Int32) =>
    lt_ (x2 + 1) (fun (x2_7 : Int32) =>
    k4 x1_6 x2_7 σ))
  else none
def b_X11_countingArrivals_4 (Y : Yt) (fu : Nat) (this : Nat) (n : Nat) : Int32 → Int32 → Mm → Option (Int32 × Mm) := lp (s_X11_countingArrivals_4 Y fu this ) (fun _ _ _ => none) n
def f_X11_countingArrivals (Y : Yt) (fu : Nat) (this : Nat) (σ : Mm) : Option (Int32 × Mm) :=
  b_X11_countingArrivals_4 Y fu this fu 0 0 σ
def b_X11_standingModels_24 (Y : Yt) (fu : Nat) (this : Nat) (k4 : Int32 → Int32 → Mm → Option (Int32 × Mm)) (x1 : Int32) (x2 : Int32) (σ : Mm) : Option (Int32 × Mm) :=
  lt_ (x2 + 1) (fun (x2_9 : Int32) =>
    k4 x1 x2_9 σ)
def s_X11_standingModels_4 (Y : Yt) (fu : Nat) (this : Nat) (k4 : Int32 → Int32 → Mm → Option (Int32 × Mm)) (x1 : Int32) (x2 : Int32) (σ : Mm) : Option (Int32 × Mm) :=
  if 4 ≤ x2 then
    some (x1, σ)
  else
    if inb x2 4 = true then
    bnd (f_X10_stands Y (558 + 10 * ix x2) σ) (fun (r_8 : Int32) (σ_7 : Mm) =>
    if r_8 = 0 then
    b_X11_standingModels_24 Y fu this k4 x1 x2 σ_7
  else
    lt_ (x1 + 1) (fun (x1_10 : Int32) =>
    b_X11_standingModels_24 Y fu this k4 x1_10 x2 σ_7))
  else none
def b_X11_standingModels_4 (Y : Yt) (fu : Nat) (this : Nat) (n : Nat) : Int32 → Int32 → Mm → Option (Int32 × Mm) := lp (s_X11_standingModels_4 Y fu this ) (fun _ _ _ => none) n
def f_X11_standingModels (Y : Yt) (fu : Nat) (this : Nat) (σ : Mm) : Option (Int32 × Mm) :=
  b_X11_standingModels_4 Y fu this fu 0 0 σ
def f_X11_count (Y : Yt) (fu : Nat) (this : Nat) (a1 : Int32) (σ : Mm) : Option (Int32 × Mm) :=
  if a1 = 0 then
    bnd (f_X11_countingArrivals Y fu this σ) (fun (r_3 : Int32) (σ_2 : Mm) =>
    some (r_3, σ_2))
  else
    if a1 = 1 then
    bnd (f_X11_standingModels Y fu this σ) (fun (r_6 : Int32) (σ_5 : Mm) =>
    some (r_6, σ_5))
  else
    if a1 = 2 then
    some ((Mm.gi σ 9 1), σ)
  else
    if a1 = 3 then
    some ((Mm.gi σ 17 3), σ)
  else
    some ((-1), σ)
def s_X11_residuesOf_27 (Y : Yt) (fu : Nat) (this : Nat) (a1 : Int32) (a2 : Nat) (k27 : Int32 → Int32 → Mm → Option (Int32 × Mm)) (x3 : Int32) (x4 : Int32) (σ : Mm) : Option (Int32 × Mm) :=
  if x3 ≤ x4 then
    some (x3, σ)
  else
    bnd (f_X11_residueBy Y fu this a1 x4 (Mm.gi σ 2 2) σ) (fun (r_19 : Int32) (σ_18 : Mm) =>
    if inb x4 (Y a2).2 = true then
    lt_ (Mm.si σ_18 a2 (ix x4) r_19) (fun (σ_21 : Mm) =>
    lt_ (x4 + 1) (fun (x4_22 : Int32) =>
    k27 x3 x4_22 σ_21))
  else none)
def b_X11_residuesOf_27 (Y : Yt) (fu : Nat) (this : Nat) (a1 : Int32) (a2 : Nat) (n : Nat) : Int32 → Int32 → Mm → Option (Int32 × Mm) := lp (s_X11_residuesOf_27 Y fu this a1 a2 ) (fun _ _ _ => none) n
def f_X11_residuesOf (Y : Yt) (fu : Nat) (this : Nat) (a1 : Int32) (a2 : Nat) (σ : Mm) : Option (Int32 × Mm) :=
  if inb a1 4 = true then
    bnd (f_X10_stands Y (558 + 10 * ix a1) σ) (fun (r_8 : Int32) (σ_7 : Mm) =>
    if r_8 = 0 then
    some (0, σ_7)
  else
    if inb a1 4 = true then
    lt_ (Mm.gi σ_7 (555 + 10 * ix a1) 3) (fun (x3_14 : Int32) =>
    b_X11_residuesOf_27 Y fu this a1 a2 fu x3_14 0 σ_7)
  else none)
  else none
def f_X11_falseShare (Y : Yt) (fu : Nat) (this : Nat) (a1 : Int32) (σ : Mm) : Option (Int32 × Mm) :=
  bnd (f_X11_isStar Y a1 σ) (fun (r_3 : Int32) (σ_2 : Mm) =>
    if r_3 = 0 then
    some ((-1), σ_2)
  else
    bnd (f_X11_residuesOf Y fu this a1 550 σ_2) (fun (r_8 : Int32) (σ_7 : Mm) =>
    bnd (f_X11_within Y r_8 4 12 σ_7) (fun (r_11 : Int32) (σ_10 : Mm) =>
    if r_11 = 0 then
    some ((-2), σ_10)
  else
    bnd (f_X6_asGreatRows Y fu 550 r_8 σ_10) (fun (r_16 : Int32) (σ_15 : Mm) =>
    some (r_16, σ_15)))))
def f_X11_fault (Y : Yt) (fu : Nat) (this : Nat) (σ : Mm) : Option (Int32 × Mm) :=
  bnd (f_X9_read Y fu 9 (Mm.gr σ this 4) σ) (fun (r_6 : Int32) (σ_5 : Mm) =>
    some (r_6, σ_5))
def f_X11_fit (Y : Yt) (fu : Nat) (this : Nat) (a1 : Int32) (a2 : Int32) (σ : Mm) : Option (Int64 × Mm) :=
  if a1 < 0 then
    some ((-1000000000000000000), σ)
  else
    bnd (f_X11_within Y a2 0 4 σ) (fun (r_3 : Int32) (σ_2 : Mm) =>
    if r_3 = 0 then
    some ((-1000000000000000000), σ_2)
  else
    bnd (f_X0_stands Y 17 σ_2) (fun (r_8 : Int32) (σ_7 : Mm) =>
    if r_8 = 0 then
    some ((-1000000000000000002), σ_7)
  else
    if a1 < (Mm.gi σ_7 17 3) then
    bnd (f_X0_fitted Y fu 17 a1 a2 σ_7) (fun (r_15 : Int64) (σ_14 : Mm) =>
    some (r_15, σ_14))
  else
    some ((-1000000000000000002), σ_7)))
def f_X11_commonResidues (Y : Yt) (fu : Nat) (this : Nat) (a1 : Int32) (a2 : Int32) (σ : Mm) : Option (Int32 × Mm) :=
  bnd (f_X11_residuesOf Y fu this a1 550 σ) (fun (r_5 : Int32) (σ_4 : Mm) =>
    bnd (f_X11_residuesOf Y fu this a2 551 σ_4) (fun (r_10 : Int32) (σ_9 : Mm) =>
    lt_ (if r_10 < r_5 then r_10 else r_5) (fun (x3_11 : Int32) =>
    some ((if 7 < x3_11 then 7 else x3_11), σ_9))))
def f_X11_hum (Y : Yt) (fu : Nat) (this : Nat) (a1 : Int32) (a2 : Int32) (σ : Mm) : Option (Int64 × Mm) :=
  bnd (f_X11_isStar Y a1 σ) (fun (r_3 : Int32) (σ_2 : Mm) =>
    if r_3 = 0 then
    some ((-1000000000000000000), σ_2)
  else
    bnd (f_X11_isStar Y a2 σ_2) (fun (r_6 : Int32) (σ_5 : Mm) =>
    if r_6 = 0 then
    some ((-1000000000000000000), σ_5)
  else
    if a1 = a2 then
    some ((-1000000000000000000), σ_5)
  else
    bnd (f_X11_commonResidues Y fu this a1 a2 σ_5) (fun (r_9 : Int32) (σ_8 : Mm) =>
    if 2 ≤ r_9 then
    bnd (f_X3_products Y fu 550 551 r_9 σ_8) (fun (r_16 : Int64) (σ_15 : Mm) =>
    some (r_16, σ_15))
  else
    some ((-1000000000000000002), σ_8))))
def f_X11_left (Y : Yt) (fu : Nat) (this : Nat) (a1 : Int32) (a2 : Int32) (σ : Mm) : Option (Int32 × Mm) :=
  bnd (f_X11_within Y a1 0 2000000 σ) (fun (r_3 : Int32) (σ_2 : Mm) =>
    if r_3 = 0 then
    some ((-1), σ_2)
  else
    bnd (f_X11_within Y a2 0 1000 σ_2) (fun (r_6 : Int32) (σ_5 : Mm) =>
    if r_6 = 0 then
    some ((-1), σ_5)
  else
    bnd (f_X0_canLook Y 17 a1 σ_5) (fun (r_11 : Int32) (σ_10 : Mm) =>
    if r_11 = 0 then
    some ((-2), σ_10)
  else
    bnd (f_X0_goOn Y fu 17 a1 a2 σ_10) (fun (r_16 : Int32) (σ_15 : Mm) =>
    some (r_16, σ_15)))))
def f_X11_look (Y : Yt) (fu : Nat) (this : Nat) (a1 : Int32) (a2 : Int32) (a3 : Int32) (a4 : Int32) (σ : Mm) : Option (Int32 × Mm) :=
  bnd (f_X11_within Y a1 0 2000000 σ) (fun (r_3 : Int32) (σ_2 : Mm) =>
    if r_3 = 0 then
    some ((-1), σ_2)
  else
    bnd (f_X11_within Y a2 1 100000 σ_2) (fun (r_6 : Int32) (σ_5 : Mm) =>
    if r_6 = 0 then
    some ((-1), σ_5)
  else
    bnd (f_X11_within Y a3 1 20 σ_5) (fun (r_9 : Int32) (σ_8 : Mm) =>
    if r_9 = 0 then
    some ((-1), σ_8)
  else
    bnd (f_X11_within Y a4 0 1000 σ_8) (fun (r_12 : Int32) (σ_11 : Mm) =>
    if r_12 = 0 then
    some ((-1), σ_11)
  else
    if (a1 + (a2 * (a3 - 1))) ≤ 2000000 then
    bnd (f_X0_canLook Y 17 a1 σ_11) (fun (r_17 : Int32) (σ_16 : Mm) =>
    if r_17 = 0 then
    some ((-2), σ_16)
  else
    bnd (f_X0_bestLook Y fu 17 a1 a2 a3 a4 σ_16) (fun (r_22 : Int32) (σ_21 : Mm) =>
    some (r_22, σ_21)))
  else
    some ((-1), σ_11)))))
def f_X11_loop (Y : Yt) (fu : Nat) (this : Nat) (a1 : Int32) (a2 : Int32) (a3 : Int32) (σ : Mm) : Option (Int32 × Mm) :=
  bnd (f_X11_isInstrument Y a1 σ) (fun (r_3 : Int32) (σ_2 : Mm) =>
    if r_3 = 0 then
    some ((-10000000), σ_2)
  else
    bnd (f_X11_isInstrument Y a2 σ_2) (fun (r_6 : Int32) (σ_5 : Mm) =>
    if r_6 = 0 then
    some ((-10000000), σ_5)
  else
    bnd (f_X11_isInstrument Y a3 σ_5) (fun (r_9 : Int32) (σ_8 : Mm) =>
    if r_9 = 0 then
    some ((-10000000), σ_8)
  else
    if a1 = a2 then
    some ((-10000000), σ_8)
  else
    if a2 = a3 then
    some ((-10000000), σ_8)
  else
    if a1 = a3 then
    some ((-10000000), σ_8)
  else
    bnd (f_X11_middleGap Y fu this a1 a2 σ_8) (fun (r_12 : Int32) (σ_11 : Mm) =>
    bnd (f_X11_middleGap Y fu this a2 a3 σ_11) (fun (r_15 : Int32) (σ_14 : Mm) =>
    bnd (f_X11_middleGap Y fu this a1 a3 σ_14) (fun (r_18 : Int32) (σ_17 : Mm) =>
    if r_12 = (-10000002) then
    some ((-10000002), σ_17)
  else
    if r_15 = (-10000002) then
    some ((-10000002), σ_17)
  else
    if r_18 = (-10000002) then
    some ((-10000002), σ_17)
  else
    some (((r_12 + r_15) - r_18), σ_17)))))))
def f_X11_many (Y : Yt) (this : Nat) (a1 : Int32) (σ : Mm) : Option (Int32 × Mm) :=
  bnd (f_X11_isStar Y a1 σ) (fun (r_3 : Int32) (σ_2 : Mm) =>
    if r_3 = 0 then
    some ((-1), σ_2)
  else
    if inb a1 4 = true then
    some ((Mm.gi σ_2 (555 + 10 * ix a1) 3), σ_2)
  else none)
def f_X11_model (Y : Yt) (fu : Nat) (this : Nat) (a1 : Int32) (σ : Mm) : Option (Int32 × Mm) :=
  bnd (f_X11_isStar Y a1 σ) (fun (r_3 : Int32) (σ_2 : Mm) =>
    if r_3 = 0 then
    some ((-1), σ_2)
  else
    bnd (f_X9_read Y fu 9 (Mm.gr σ_2 this 4) σ_2) (fun (r_9 : Int32) (σ_8 : Mm) =>
    if r_9 = (-4) then
    lt_ (Mm.gi σ_8 (Mm.gr σ_8 this 4) 0) (fun (x2_11 : Int32) =>
    if inb a1 4 = true then
    bnd (f_X10_exchange Y fu (558 + 10 * ix a1) (Mm.gr σ_8 this 4) σ_8) (fun (r_20 : Nat) (σ_19 : Mm) =>
    lt_ (Mm.sr σ_19 this 4 r_20) (fun (σ_22 : Mm) =>
    some (x2_11, σ_22)))
  else none)
  else
    some ((-2), σ_8)))
def s_X11_moved_32 (Y : Yt) (fu : Nat) (this : Nat) (a1 : Int32) (k32 : Int64 → Int32 → Mm → Option (Int64 × Mm)) (x2 : Int64) (x4 : Int32) (σ : Mm) : Option (Int64 × Mm) :=
  if inb a1 4 = true then
    if (Mm.gi σ (555 + 10 * ix a1) 3) ≤ x4 then
    some (x2, σ)
  else
    bnd (f_X11_residueBy Y fu this a1 x4 1 σ) (fun (r_19 : Int32) (σ_18 : Mm) =>
    bnd (f_X11_residueBy Y fu this a1 x4 0 σ_18) (fun (r_22 : Int32) (σ_21 : Mm) =>
    lt_ (x2 + (Int32.toInt64 (if 0 ≤ (r_19 - r_22) then (r_19 - r_22) else 0 - (r_19 - r_22)))) (fun (x2_23 : Int64) =>
    lt_ (x4 + 1) (fun (x4_24 : Int32) =>
    k32 x2_23 x4_24 σ_21))))
  else none
def b_X11_moved_32 (Y : Yt) (fu : Nat) (this : Nat) (a1 : Int32) (n : Nat) : Int64 → Int32 → Mm → Option (Int64 × Mm) := lp (s_X11_moved_32 Y fu this a1 ) (fun _ _ _ => none) n
def f_X11_moved (Y : Yt) (fu : Nat) (this : Nat) (a1 : Int32) (σ : Mm) : Option (Int64 × Mm) :=
  bnd (f_X11_isStar Y a1 σ) (fun (r_3 : Int32) (σ_2 : Mm) =>
    if r_3 = 0 then
    some ((-1), σ_2)
  else
    if inb a1 4 = true then
    bnd (f_X10_stands Y (558 + 10 * ix a1) σ_2) (fun (r_11 : Int32) (σ_10 : Mm) =>
    if r_11 = 0 then
    some ((-2), σ_10)
  else
    b_X11_moved_32 Y fu this a1 fu 0 0 σ_10)
  else none)
def f_X11_offset (Y : Yt) (this : Nat) (a1 : Int32) (a2 : Int32) (σ : Mm) : Option (Int32 × Mm) :=
  bnd (f_X11_isInstrument Y a1 σ) (fun (r_3 : Int32) (σ_2 : Mm) =>
    if r_3 = 0 then
    some ((-100000), σ_2)
  else
    bnd (f_X11_within Y a2 (-1000) 1000 σ_2) (fun (r_6 : Int32) (σ_5 : Mm) =>
    if r_6 = 0 then
    some ((-100000), σ_5)
  else
    if inb a1 3 = true then
    lt_ (Mm.gi σ_5 3 (ix a1)) (fun (x3_12 : Int32) =>
    if inb a1 3 = true then
    lt_ (Mm.si σ_5 3 (ix a1) a2) (fun (σ_18 : Mm) =>
    some (x3_12, σ_18))
  else none)
  else none))
def f_X11_hasResidue (Y : Yt) (this : Nat) (a1 : Int32) (a2 : Int32) (σ : Mm) : Option (Int32 × Mm) :=
  if inb a1 4 = true then
    bnd (f_X10_stands Y (558 + 10 * ix a1) σ) (fun (r_8 : Int32) (σ_7 : Mm) =>
    if r_8 = 0 then
    zret 0 σ_7
  else
    if inb a1 4 = true then
    if (Mm.gi σ_7 (555 + 10 * ix a1) 3) ≤ a2 then
    zret 0 σ_7
  else
    zret 1 σ_7
  else none)
  else none
def f_X11_residue (Y : Yt) (fu : Nat) (this : Nat) (a1 : Int32) (a2 : Int32) (σ : Mm) : Option (Int32 × Mm) :=
  bnd (f_X11_isStar Y a1 σ) (fun (r_3 : Int32) (σ_2 : Mm) =>
    if r_3 = 0 then
    some ((-1000000000), σ_2)
  else
    bnd (f_X11_isPlace Y a2 σ_2) (fun (r_6 : Int32) (σ_5 : Mm) =>
    if r_6 = 0 then
    some ((-1000000000), σ_5)
  else
    bnd (f_X11_hasResidue Y this a1 a2 σ_5) (fun (r_9 : Int32) (σ_8 : Mm) =>
    if r_9 = 0 then
    some ((-1000000002), σ_8)
  else
    bnd (f_X11_residueBy Y fu this a1 a2 (Mm.gi σ_8 2 2) σ_8) (fun (r_14 : Int32) (σ_13 : Mm) =>
    some (r_14, σ_13)))))
def s_X11_seeAll_2 (Y : Yt) (fu : Nat) (this : Nat) (k2 : Int32 → Mm → Option (Mm)) (x1 : Int32) (σ : Mm) : Option (Mm) :=
  if 4 ≤ x1 then
    some σ
  else
    if inb x1 4 = true then
    bn1 (f_X7_see Y fu (555 + 10 * ix x1) (Mm.gi σ 2 3) σ) (fun (σ_9 : Mm) =>
    lt_ (x1 + 1) (fun (x1_10 : Int32) =>
    k2 x1_10 σ_9))
  else none
def b_X11_seeAll_2 (Y : Yt) (fu : Nat) (this : Nat) (n : Nat) : Int32 → Mm → Option (Mm) := lp (s_X11_seeAll_2 Y fu this ) (fun _ _ => none) n
def f_X11_seeAll (Y : Yt) (fu : Nat) (this : Nat) (σ : Mm) : Option (Mm) :=
  b_X11_seeAll_2 Y fu this fu 0 σ
def b_X11_rule_31 (Y : Yt) (fu : Nat) (this : Nat) (a1 : Int32) (a2 : Int32) (σ : Mm) : Option (Int32 × Mm) :=
  if a1 = 1 then
    bnd (f_X11_within Y a2 0 2000000 σ) (fun (r_3 : Int32) (σ_2 : Mm) =>
    if r_3 = 0 then
    some ((-1), σ_2)
  else
    lt_ (Mm.gi σ_2 2 3) (fun (x3_6 : Int32) =>
    lt_ (Mm.si σ_2 2 3 a2) (fun (σ_9 : Mm) =>
    bn1 (f_X11_seeAll Y fu this σ_9) (fun (σ_11 : Mm) =>
    some (x3_6, σ_11)))))
  else
    some ((-1), σ)
def f_X11_rule (Y : Yt) (fu : Nat) (this : Nat) (a1 : Int32) (a2 : Int32) (σ : Mm) : Option (Int32 × Mm) :=
  if a1 = 0 then
    bnd (f_X11_within Y a2 0 1 σ) (fun (r_14 : Int32) (σ_13 : Mm) =>
    if r_14 = 0 then
    b_X11_rule_31 Y fu this a1 a2 σ_13
  else
    lt_ (Mm.gi σ_13 2 2) (fun (x3_17 : Int32) =>
    lt_ (Mm.si σ_13 2 2 a2) (fun (σ_20 : Mm) =>
    some (x3_17, σ_20))))
  else
    b_X11_rule_31 Y fu this a1 a2 σ
def f_X11_shift (Y : Yt) (this : Nat) (a1 : Int32) (a2 : Int32) (a3 : Int32) (σ : Mm) : Option (Int32 × Mm) :=
  bnd (f_X11_within Y a1 0 1 σ) (fun (r_3 : Int32) (σ_2 : Mm) =>
    if r_3 = 0 then
    some ((-100000), σ_2)
  else
    bnd (f_X11_within Y a2 0 10 σ_2) (fun (r_6 : Int32) (σ_5 : Mm) =>
    if r_6 = 0 then
    some ((-100000), σ_5)
  else
    bnd (f_X11_within Y a3 (-500) 500 σ_5) (fun (r_9 : Int32) (σ_8 : Mm) =>
    if r_9 = 0 then
    some ((-100000), σ_8)
  else
    if inb a1 2 = true then
    if inb a2 11 = true then
    lt_ (Mm.gi σ_8 (5 + 1 * ix a1) (ix a2)) (fun (x4_18 : Int32) =>
    if inb a1 2 = true then
    if inb a2 11 = true then
    lt_ (Mm.si σ_8 (5 + 1 * ix a1) (ix a2) a3) (fun (σ_27 : Mm) =>
    some (x4_18, σ_27))
  else none
  else none)
  else none
  else none)))
def f_X11_shuffled (Y : Yt) (fu : Nat) (this : Nat) (a1 : Int32) (a2 : Int32) (σ : Mm) : Option (Int32 × Mm) :=
  bnd (f_X11_isStar Y a1 σ) (fun (r_3 : Int32) (σ_2 : Mm) =>
    if r_3 = 0 then
    some ((-1), σ_2)
  else
    bnd (f_X11_isStar Y a2 σ_2) (fun (r_6 : Int32) (σ_5 : Mm) =>
    if r_6 = 0 then
    some ((-1), σ_5)
  else
    if a1 = a2 then
    some ((-1), σ_5)
  else
    bnd (f_X11_commonResidues Y fu this a1 a2 σ_5) (fun (r_9 : Int32) (σ_8 : Mm) =>
    if 2 ≤ r_9 then
    bnd (f_X3_asGreatOrders Y fu 550 551 r_9 σ_8) (fun (r_16 : Int32) (σ_15 : Mm) =>
    some (r_16, σ_15))
  else
    some ((-2), σ_8))))
def f_X11_slip (Y : Yt) (fu : Nat) (this : Nat) (a1 : Int32) (σ : Mm) : Option (Int32 × Mm) :=
  bnd (f_X11_isStar Y a1 σ) (fun (r_3 : Int32) (σ_2 : Mm) =>
    if r_3 = 0 then
    some ((-1), σ_2)
  else
    bnd (f_X11_residuesOf Y fu this a1 550 σ_2) (fun (r_8 : Int32) (σ_7 : Mm) =>
    if 4 ≤ r_8 then
    bnd (f_X6_placeOf Y fu 550 r_8 σ_7) (fun (r_13 : Int32) (σ_12 : Mm) =>
    some (r_13, σ_12))
  else
    some ((-2), σ_7)))
def f_X11_sure (Y : Yt) (fu : Nat) (this : Nat) (a1 : Int32) (σ : Mm) : Option (Int32 × Mm) :=
  bnd (f_X11_isPlace Y a1 σ) (fun (r_3 : Int32) (σ_2 : Mm) =>
    if r_3 = 0 then
    some ((-1), σ_2)
  else
    bnd (f_X0_stands Y 17 σ_2) (fun (r_8 : Int32) (σ_7 : Mm) =>
    if r_8 = 0 then
    some ((-2), σ_7)
  else
    if a1 < (Mm.gi σ_7 17 2) then
    bnd (f_X0_oneCount Y fu 17 a1 σ_7) (fun (r_15 : Int32) (σ_14 : Mm) =>
    some (r_15, σ_14))
  else
    some ((-2), σ_7)))
def f_X11_turn (Y : Yt) (fu : Nat) (this : Nat) (a1 : Int32) (a2 : Int32) (σ : Mm) : Option (Int32 × Mm) :=
  bnd (f_X11_isStar Y a1 σ) (fun (r_3 : Int32) (σ_2 : Mm) =>
    if r_3 = 0 then
    some ((-1), σ_2)
  else
    bnd (f_X11_isPlace Y a2 σ_2) (fun (r_6 : Int32) (σ_5 : Mm) =>
    if r_6 = 0 then
    some ((-1), σ_5)
  else
    bnd (f_X11_hasResidue Y this a1 a2 σ_5) (fun (r_9 : Int32) (σ_8 : Mm) =>
    if r_9 = 0 then
    some ((-2), σ_8)
  else
    bnd (f_X11_turnOf Y fu this a1 a2 σ_8) (fun (r_12 : Int32) (σ_11 : Mm) =>
    some (r_12, σ_11)))))
def f_X11_way (Y : Yt) (this : Nat) (a1 : Int32) (a2 : Int32) (σ : Mm) : Option (Int32 × Mm) :=
  if a1 < 0 then
    some ((-1), σ)
  else
    bnd (f_X11_isPlace Y a2 σ) (fun (r_3 : Int32) (σ_2 : Mm) =>
    if r_3 = 0 then
    some ((-1), σ_2)
  else
    bnd (f_X0_stands Y 17 σ_2) (fun (r_8 : Int32) (σ_7 : Mm) =>
    if r_8 = 0 then
    some ((-2), σ_7)
  else
    if a2 < (Mm.gi σ_7 17 2) then
    if (Mm.gi σ_7 17 3) ≤ a1 then
    some ((-4), σ_7)
  else
    bnd (f_X0_countOf Y 17 a1 a2 σ_7) (fun (r_17 : Int32) (σ_16 : Mm) =>
    some (r_17, σ_16))
  else
    some ((-2), σ_7)))
def s_X11_ways_68 (Y : Yt) (fu : Nat) (this : Nat) (a1 : Int32) (a2 : Int32) (a3 : Int32) (k68 : Int32 → Int32 → Mm → Option (Int32 × Mm)) (x4 : Int32) (x5 : Int32) (σ : Mm) : Option (Int32 × Mm) :=
  if x4 ≤ x5 then
    bnd (f_X0_seek Y fu 17 a2 a3 σ) (fun (r_24 : Int32) (σ_23 : Mm) =>
    some (r_24, σ_23))
  else
    bnd (f_X11_corrected Y this a1 x5 (Mm.gi σ 2 2) σ) (fun (r_31 : Int32) (σ_30 : Mm) =>
    if inb a1 4 = true then
    bnd (f_X7_value Y (555 + 10 * ix a1) x5 1 σ_30) (fun (r_39 : Int32) (σ_38 : Mm) =>
    bn1 (f_X0_put Y 17 x5 r_31 r_39 σ_38) (fun (σ_41 : Mm) =>
    lt_ (x5 + 1) (fun (x5_42 : Int32) =>
    k68 x4 x5_42 σ_41)))
  else none)
def b_X11_ways_68 (Y : Yt) (fu : Nat) (this : Nat) (a1 : Int32) (a2 : Int32) (a3 : Int32) (n : Nat) : Int32 → Int32 → Mm → Option (Int32 × Mm) := lp (s_X11_ways_68 Y fu this a1 a2 a3 ) (fun _ _ _ => none) n
def f_X11_ways (Y : Yt) (fu : Nat) (this : Nat) (a1 : Int32) (a2 : Int32) (a3 : Int32) (σ : Mm) : Option (Int32 × Mm) :=
  bnd (f_X11_isStar Y a1 σ) (fun (r_3 : Int32) (σ_2 : Mm) =>
    if r_3 = 0 then
    some ((-1), σ_2)
  else
    bnd (f_X11_within Y a2 100000 100000000 σ_2) (fun (r_6 : Int32) (σ_5 : Mm) =>
    if r_6 = 0 then
    some ((-1), σ_5)
  else
    bnd (f_X11_within Y a3 100000 100000000 σ_5) (fun (r_9 : Int32) (σ_8 : Mm) =>
    if r_9 = 0 then
    some ((-1), σ_8)
  else
    if a2 ≤ a3 then
    if inb a1 4 = true then
    lt_ (Mm.gi σ_8 (555 + 10 * ix a1) 3) (fun (x4_15 : Int32) =>
    if 2 ≤ x4_15 then
    bn1 (f_X0_begin Y 17 x4_15 σ_8) (fun (σ_19 : Mm) =>
    b_X11_ways_68 Y fu this a1 a2 a3 fu x4_15 0 σ_19)
  else
    some ((-2), σ_8))
  else none
  else
    some ((-1), σ_8))))
def f_X11_wipe (Y : Yt) (this : Nat) (σ : Mm) : Option (Int32 × Mm) :=
  bnd (f_X9_empty Y 9 σ) (fun (r_5 : Int32) (σ_4 : Mm) =>
    some (r_5, σ_4))
def f_X11_write (Y : Yt) (fu : Nat) (this : Nat) (a1 : Int32) (a2 : Int64) (σ : Mm) : Option (Int32 × Mm) :=
  bnd (f_X11_within Y a1 1 8 σ) (fun (r_3 : Int32) (σ_2 : Mm) =>
    if r_3 = 0 then
    some ((-1), σ_2)
  else
    bnd (f_X9_hasRoom Y 9 a1 σ_2) (fun (r_8 : Int32) (σ_7 : Mm) =>
    if r_8 = 0 then
    some ((-3), σ_7)
  else
    bnd (f_X9_append Y fu 9 a1 a2 σ_7) (fun (r_13 : Int32) (σ_12 : Mm) =>
    some (r_13, σ_12))))
def f_X12_in (Y : Yt) (a0 : Int64) (a2 : Int64) (a4 : Int64) (σ : Mm) : Option (Int32 × Mm) :=
  if a0 < a2 then
    zret 0 σ
  else
    if a4 < a0 then
    zret 0 σ
  else
    zret 1 σ
def f_X12_isStar (Y : Yt) (a0 : Int32) (σ : Mm) : Option (Int32 × Mm) :=
  bnd (f_X12_in Y (Int32.toInt64 a0) 0 3 σ) (fun (r_3 : Int32) (σ_2 : Mm) =>
    zret r_3 σ_2)
def f_X12_corrected (Y : Yt) (this : Nat) (a1 : Int32) (a2 : Int32) (σ : Mm) : Option (Int32 × Mm) :=
  if inb a1 96 = true then
    if inb a1 96 = true then
    if inb (Mm.gi σ 599 (ix a1)) 3 = true then
    if inb a1 96 = true then
    if inb ((11 * a2) + ((Mm.gi σ 597 (ix a1)) / 100000)) 22 = true then
    some ((((Mm.gi σ 597 (ix a1)) - (Mm.gi σ 601 (ix (Mm.gi σ 599 (ix a1))))) + (Mm.gi σ 602 (ix ((11 * a2) + ((Mm.gi σ 597 (ix a1)) / 100000))))), σ)
  else none
  else none
  else none
  else none
  else none
def b_X12_layCounts_58 (Y : Yt) (fu : Nat) (this : Nat) (a1 : Int32) (k10 : Int32 → Mm → Option (Mm)) (x2 : Int32) (σ : Mm) : Option (Mm) :=
  lt_ (x2 + 1) (fun (x2_9 : Int32) =>
    k10 x2_9 σ)
def s_X12_layCounts_10 (Y : Yt) (fu : Nat) (this : Nat) (a1 : Int32) (k10 : Int32 → Mm → Option (Mm)) (x2 : Int32) (σ : Mm) : Option (Mm) :=
  if inb a1 4 = true then
    if ((24 * a1) + (Mm.gi σ 596 (ix a1))) ≤ x2 then
    some σ
  else
    if inb x2 96 = true then
    if (Mm.gi σ this 8) < (Mm.gi σ 600 (ix x2)) then
    b_X12_layCounts_58 Y fu this a1 k10 x2 σ
  else
    if inb (Mm.gi σ this 22) 24 = true then
    lt_ (Mm.si σ 614 (ix (Mm.gi σ this 22)) x2) (fun (σ_13 : Mm) =>
    lt_ (Mm.si σ_13 this 22 ((Mm.gi σ_13 this 22) + 1)) (fun (σ_14 : Mm) =>
    b_X12_layCounts_58 Y fu this a1 k10 x2 σ_14))
  else none
  else none
  else none
def b_X12_layCounts_10 (Y : Yt) (fu : Nat) (this : Nat) (a1 : Int32) (n : Nat) : Int32 → Mm → Option (Mm) := lp (s_X12_layCounts_10 Y fu this a1 ) (fun _ _ => none) n
def f_X12_layCounts (Y : Yt) (fu : Nat) (this : Nat) (a1 : Int32) (σ : Mm) : Option (Mm) :=
  lt_ (Mm.si σ this 22 0) (fun (σ_1 : Mm) =>
    lt_ (24 * a1) (fun (x2_2 : Int32) =>
    b_X12_layCounts_10 Y fu this a1 fu x2_2 σ_1))
def s_X12_later_5 (Y : Yt) (fu : Nat) (this : Nat) (a1 : Int32) (a2 : Int32) (k5 : Int64 → Int32 → Mm → Option (Int64 × Mm)) (x3 : Int64) (x5 : Int32) (σ : Mm) : Option (Int64 × Mm) :=
  if inb a1 5 = true then
    if (Mm.gi σ 610 (ix a1)) ≤ x5 then
    some ((1000 * x3), σ)
  else
    if inb ((2 * a1) + x5) 10 = true then
    lt_ (Mm.gi σ 611 (ix ((2 * a1) + x5))) (fun (x6_7 : Int32) =>
    if x6_7 = 0 then none else
    if x6_7 = 0 then none else
    if inb ((4 * ((2 * a1) + x5)) + ((4 * (a2 - a2 / x6_7 * x6_7)) / x6_7)) 40 = true then
    lt_ (x3 + (Int32.toInt64 (Mm.gi σ 612 (ix ((4 * ((2 * a1) + x5)) + ((4 * (a2 - a2 / x6_7 * x6_7)) / x6_7)))))) (fun (x3_13 : Int64) =>
    lt_ (x5 + 1) (fun (x5_14 : Int32) =>
    k5 x3_13 x5_14 σ))
  else none)
  else none
  else none
def b_X12_later_5 (Y : Yt) (fu : Nat) (this : Nat) (a1 : Int32) (a2 : Int32) (n : Nat) : Int64 → Int32 → Mm → Option (Int64 × Mm) := lp (s_X12_later_5 Y fu this a1 a2 ) (fun _ _ _ => none) n
def f_X12_later (Y : Yt) (fu : Nat) (this : Nat) (a1 : Int32) (a2 : Int32) (σ : Mm) : Option (Int64 × Mm) :=
  b_X12_later_5 Y fu this a1 a2 fu 0 0 σ
def b_X12_layTurns_166 (Y : Yt) (fu : Nat) (this : Nat) (a1 : Int32) (k17 : Int64 → Mm → Option (Mm)) (t0 : Int64) (t1 : Int64) (σ : Mm) : Option (Mm) :=
  lt_ (t1 + t0) (fun (x2_23 : Int64) =>
    lt_ (Mm.si σ this 29 ((Mm.gi σ this 29) + 1)) (fun (σ_24 : Mm) =>
    k17 x2_23 σ_24))
def b_X12_layTurns_139 (Y : Yt) (fu : Nat) (this : Nat) (a1 : Int32) (k17 : Int64 → Mm → Option (Mm)) (k85 : Int64 → Int64 → Int32 → Mm → Option (Mm)) (x2 : Int64) (x6 : Int32) (t0 : Int64) (t1 : Int64) (σ : Mm) : Option (Mm) :=
  lt_ (t1 + t0) (fun (x4_28 : Int64) =>
    lt_ (x6 + 1) (fun (x6_29 : Int32) =>
    k85 x2 x4_28 x6_29 σ))
def s_X12_layTurns_85 (Y : Yt) (fu : Nat) (this : Nat) (a1 : Int32) (k17 : Int64 → Mm → Option (Mm)) (k85 : Int64 → Int64 → Int32 → Mm → Option (Mm)) (x2 : Int64) (x4 : Int64) (x6 : Int32) (σ : Mm) : Option (Mm) :=
  if inb a1 5 = true then
    if (Mm.gi σ 607 (ix a1)) ≤ x6 then
    if 1000000 ≤ x4 then
    b_X12_layTurns_166 Y fu this a1 k17 x4 x2 σ
  else
    b_X12_layTurns_166 Y fu this a1 k17 1000000 x2 σ
  else
    if inb ((3 * a1) + x6) 15 = true then
    if x2 < (1000000 * (Int32.toInt64 (Mm.gi σ 608 (ix ((3 * a1) + x6))))) then
    b_X12_layTurns_139 Y fu this a1 k17 k85 x2 x6 0 x4 σ
  else
    if inb ((3 * a1) + x6) 15 = true then
    b_X12_layTurns_139 Y fu this a1 k17 k85 x2 x6 (1000 * (Int32.toInt64 (Mm.gi σ 609 (ix ((3 * a1) + x6))))) x4 σ
  else none
  else none
  else none
def b_X12_layTurns_85 (Y : Yt) (fu : Nat) (this : Nat) (a1 : Int32) (k17 : Int64 → Mm → Option (Mm)) (n : Nat) : Int64 → Int64 → Int32 → Mm → Option (Mm) := lp (s_X12_layTurns_85 Y fu this a1 k17) (fun _ _ _ _ => none) n
def s_X12_layTurns_17 (Y : Yt) (fu : Nat) (this : Nat) (a1 : Int32) (k17 : Int64 → Mm → Option (Mm)) (x2 : Int64) (σ : Mm) : Option (Mm) :=
  if 10001 ≤ (Mm.gi σ this 29) then
    some σ
  else
    if 2000000000000 < x2 then
    some σ
  else
    bnd (f_X12_later Y fu this a1 (Mm.gi σ this 29) σ) (fun (r_10 : Int64) (σ_9 : Mm) =>
    if inb (Mm.gi σ this 29) 10001 = true then
    lt_ (Mm.sl σ_9 615 (ix (Mm.gi σ this 29)) (x2 + r_10)) (fun (σ_12 : Mm) =>
    if inb a1 5 = true then
    if inb a1 5 = true then
    lt_ ((1000 * (Int32.toInt64 (Mm.gi σ_12 604 (ix a1)))) + ((Int32.toInt64 (Mm.gi σ_12 this 29)) * (Int32.toInt64 (Mm.gi σ_12 606 (ix a1))))) (fun (x4_19 : Int64) =>
    b_X12_layTurns_85 Y fu this a1 k17 fu x2 x4_19 0 σ_12)
  else none
  else none)
  else none)
def b_X12_layTurns_17 (Y : Yt) (fu : Nat) (this : Nat) (a1 : Int32) (n : Nat) : Int64 → Mm → Option (Mm) := lp (s_X12_layTurns_17 Y fu this a1 ) (fun _ _ => none) n
def f_X12_layTurns (Y : Yt) (fu : Nat) (this : Nat) (a1 : Int32) (σ : Mm) : Option (Mm) :=
  lt_ (Mm.si σ this 29 0) (fun (σ_1 : Mm) =>
    if inb a1 5 = true then
    lt_ (1000000 * (Int32.toInt64 (Mm.gi σ_1 605 (ix a1)))) (fun (x2_5 : Int64) =>
    b_X12_layTurns_17 Y fu this a1 fu x2_5 σ_1)
  else none)
def f_X12_size (Y : Yt) (a0 : Int64) (σ : Mm) : Option (Int64 × Mm) :=
  if 0 ≤ a0 then
    some (a0, σ)
  else
    some ((-a0), σ)
def b_X12_layRest_101 (Y : Yt) (fu : Nat) (this : Nat) (a1 : Int32) (a2 : Int32) (k23 : Int32 → Mm → Option (Int32 × Mm)) (k55 : Int32 → Int64 → Int32 → Int32 → Mm → Option (Int32 × Mm)) (x3 : Int32) (x4 : Int64) (x7 : Int32) (t0 : Int32) (σ : Mm) : Option (Int32 × Mm) :=
  lt_ (x7 + 1) (fun (x7_39 : Int32) =>
    k55 x3 x4 t0 x7_39 σ)
def s_X12_layRest_55 (Y : Yt) (fu : Nat) (this : Nat) (a1 : Int32) (a2 : Int32) (k23 : Int32 → Mm → Option (Int32 × Mm)) (k55 : Int32 → Int64 → Int32 → Int32 → Mm → Option (Int32 × Mm)) (x3 : Int32) (x4 : Int64) (x6 : Int32) (x7 : Int32) (σ : Mm) : Option (Int32 × Mm) :=
  if (Mm.gi σ this 29) ≤ x7 then
    if inb x6 10001 = true then
    if inb x3 24 = true then
    lt_ (Mm.si σ 616 (ix x3) (Int64.toInt32 ((x4 - (Mm.gl σ 615 (ix x6))) / 1000000))) (fun (σ_21 : Mm) =>
    if inb x3 24 = true then
    lt_ (Mm.si σ_21 617 (ix x3) x6) (fun (σ_25 : Mm) =>
    lt_ (x3 + 1) (fun (x3_26 : Int32) =>
    k23 x3_26 σ_25))
  else none)
  else none
  else none
  else
    if inb x7 10001 = true then
    bnd (f_X12_size Y (x4 - (Mm.gl σ 615 (ix x7))) σ) (fun (r_32 : Int64) (σ_31 : Mm) =>
    if inb x6 10001 = true then
    bnd (f_X12_size Y (x4 - (Mm.gl σ_31 615 (ix x6))) σ_31) (fun (r_38 : Int64) (σ_37 : Mm) =>
    if r_38 ≤ r_32 then
    b_X12_layRest_101 Y fu this a1 a2 k23 k55 x3 x4 x7 x6 σ_37
  else
    b_X12_layRest_101 Y fu this a1 a2 k23 k55 x3 x4 x7 x7 σ_37)
  else none)
  else none
def b_X12_layRest_55 (Y : Yt) (fu : Nat) (this : Nat) (a1 : Int32) (a2 : Int32) (k23 : Int32 → Mm → Option (Int32 × Mm)) (n : Nat) : Int32 → Int64 → Int32 → Int32 → Mm → Option (Int32 × Mm) := lp (s_X12_layRest_55 Y fu this a1 a2 k23) (fun _ _ _ _ _ => none) n
def s_X12_layRest_23 (Y : Yt) (fu : Nat) (this : Nat) (a1 : Int32) (a2 : Int32) (k23 : Int32 → Mm → Option (Int32 × Mm)) (x3 : Int32) (σ : Mm) : Option (Int32 × Mm) :=
  if (Mm.gi σ this 22) ≤ x3 then
    zret 1 σ
  else
    if inb x3 24 = true then
    bnd (f_X12_corrected Y this (Mm.gi σ 614 (ix x3)) a2 σ) (fun (r_13 : Int32) (σ_12 : Mm) =>
    lt_ (1000000 * (Int32.toInt64 r_13)) (fun (x4_14 : Int64) =>
    b_X12_layRest_55 Y fu this a1 a2 k23 fu x3 x4_14 0 1 σ_12))
  else none
def b_X12_layRest_23 (Y : Yt) (fu : Nat) (this : Nat) (a1 : Int32) (a2 : Int32) (n : Nat) : Int32 → Mm → Option (Int32 × Mm) := lp (s_X12_layRest_23 Y fu this a1 a2 ) (fun _ _ => none) n
def f_X12_layRest (Y : Yt) (fu : Nat) (this : Nat) (a1 : Int32) (a2 : Int32) (σ : Mm) : Option (Int32 × Mm) :=
  if inb a1 4 = true then
    if (Mm.gi σ 603 (ix a1)) = 0 then
    zret 0 σ
  else
    bn1 (f_X12_layCounts Y fu this a1 σ) (fun (σ_5 : Mm) =>
    bn1 (f_X12_layTurns Y fu this a1 σ_5) (fun (σ_7 : Mm) =>
    b_X12_layRest_23 Y fu this a1 a2 fu 0 σ_7))
  else none
def b_X12_alarm_115 (Y : Yt) (fu : Nat) (this : Nat) (a1 : Int32) (k29 : Int32 → Int32 → Mm → Option (Int32 × Mm)) (x3 : Int32) (t0 : Int32) (σ : Mm) : Option (Int32 × Mm) :=
  lt_ (x3 + 1) (fun (x3_19 : Int32) =>
    k29 t0 x3_19 σ)
def b_X12_alarm_114 (Y : Yt) (fu : Nat) (this : Nat) (a1 : Int32) (k29 : Int32 → Int32 → Mm → Option (Int32 × Mm)) (x2 : Int32) (x3 : Int32) (σ : Mm) : Option (Int32 × Mm) :=
  b_X12_alarm_115 Y fu this a1 k29 x3 x2 σ
def b_X12_alarm_110 (Y : Yt) (fu : Nat) (this : Nat) (a1 : Int32) (k29 : Int32 → Int32 → Mm → Option (Int32 × Mm)) (x3 : Int32) (σ : Mm) : Option (Int32 × Mm) :=
  b_X12_alarm_115 Y fu this a1 k29 x3 x3 σ
def b_X12_alarm_72 (Y : Yt) (fu : Nat) (this : Nat) (a1 : Int32) (k29 : Int32 → Int32 → Mm → Option (Int32 × Mm)) (x2 : Int32) (x3 : Int32) (t0 : Int32) (σ : Mm) : Option (Int32 × Mm) :=
  if t0 = 0 then
    b_X12_alarm_114 Y fu this a1 k29 x2 x3 σ
  else
    if x2 = (-4) then
    b_X12_alarm_110 Y fu this a1 k29 x3 σ
  else
    if inb x3 24 = true then
    if inb (Mm.gi σ 614 (ix x3)) 96 = true then
    if inb x2 24 = true then
    if inb (Mm.gi σ 614 (ix x2)) 96 = true then
    if (Mm.gi σ 600 (ix (Mm.gi σ 614 (ix x2)))) ≤ (Mm.gi σ 600 (ix (Mm.gi σ 614 (ix x3)))) then
    b_X12_alarm_114 Y fu this a1 k29 x2 x3 σ
  else
    b_X12_alarm_110 Y fu this a1 k29 x3 σ
  else none
  else none
  else none
  else none
def s_X12_alarm_29 (Y : Yt) (fu : Nat) (this : Nat) (a1 : Int32) (k29 : Int32 → Int32 → Mm → Option (Int32 × Mm)) (x2 : Int32) (x3 : Int32) (σ : Mm) : Option (Int32 × Mm) :=
  if (Mm.gi σ this 22) ≤ x3 then
    some (x2, σ)
  else
    if inb x3 24 = true then
    bnd (f_X12_size Y (Int32.toInt64 (Mm.gi σ 616 (ix x3))) σ) (fun (r_12 : Int64) (σ_11 : Mm) =>
    if inb x3 24 = true then
    if inb (Mm.gi σ_11 614 (ix x3)) 96 = true then
    if r_12 ≤ (3 * (Int32.toInt64 (Mm.gi σ_11 598 (ix (Mm.gi σ_11 614 (ix x3)))))) then
    b_X12_alarm_72 Y fu this a1 k29 x2 x3 0 σ_11
  else
    b_X12_alarm_72 Y fu this a1 k29 x2 x3 1 σ_11
  else none
  else none)
  else none
def b_X12_alarm_29 (Y : Yt) (fu : Nat) (this : Nat) (a1 : Int32) (n : Nat) : Int32 → Int32 → Mm → Option (Int32 × Mm) := lp (s_X12_alarm_29 Y fu this a1 ) (fun _ _ _ => none) n
def f_X12_alarm (Y : Yt) (fu : Nat) (this : Nat) (a1 : Int32) (σ : Mm) : Option (Int32 × Mm) :=
  bnd (f_X12_isStar Y a1 σ) (fun (r_3 : Int32) (σ_2 : Mm) =>
    if r_3 = 0 then
    some ((-1), σ_2)
  else
    bnd (f_X12_layRest Y fu this a1 (Mm.gi σ_2 this 7) σ_2) (fun (r_6 : Int32) (σ_5 : Mm) =>
    if r_6 = 0 then
    some ((-2), σ_5)
  else
    b_X12_alarm_29 Y fu this a1 fu (-4) 0 σ_5))
def f_X12_isTool (Y : Yt) (a0 : Int32) (σ : Mm) : Option (Int32 × Mm) :=
  bnd (f_X12_in Y (Int32.toInt64 a0) 0 2 σ) (fun (r_3 : Int32) (σ_2 : Mm) =>
    zret r_3 σ_2)
def b_X12_arrival_173 (Y : Yt) (fu : Nat) (this : Nat) (a1 : Int32) (a2 : Int32) (a3 : Int32) (a4 : Int32) (a5 : Int32) (x6 : Int32) (σ : Mm) : Option (Int32 × Mm) :=
  if inb x6 96 = true then
    lt_ (Mm.si σ 597 (ix x6) a2) (fun (σ_26 : Mm) =>
    if inb x6 96 = true then
    lt_ (Mm.si σ_26 598 (ix x6) a3) (fun (σ_30 : Mm) =>
    if inb x6 96 = true then
    lt_ (Mm.si σ_30 599 (ix x6) a4) (fun (σ_34 : Mm) =>
    if inb x6 96 = true then
    lt_ (Mm.si σ_34 600 (ix x6) a5) (fun (σ_38 : Mm) =>
    if inb a1 4 = true then
    if inb a1 4 = true then
    lt_ (Mm.si σ_38 596 (ix a1) ((Mm.gi σ_38 596 (ix a1)) + 1)) (fun (σ_43 : Mm) =>
    if inb a1 4 = true then
    some ((Mm.gi σ_43 596 (ix a1)), σ_43)
  else none)
  else none
  else none)
  else none)
  else none)
  else none)
  else none
def s_X12_arrival_81 (Y : Yt) (fu : Nat) (this : Nat) (a1 : Int32) (a2 : Int32) (a3 : Int32) (a4 : Int32) (a5 : Int32) (k81 : Int32 → Mm → Option (Int32 × Mm)) (x6 : Int32) (σ : Mm) : Option (Int32 × Mm) :=
  if x6 ≤ (24 * a1) then
    b_X12_arrival_173 Y fu this a1 a2 a3 a4 a5 x6 σ
  else
    if inb (x6 - 1) 96 = true then
    if (Mm.gi σ 597 (ix (x6 - 1))) ≤ a2 then
    b_X12_arrival_173 Y fu this a1 a2 a3 a4 a5 x6 σ
  else
    if inb (x6 - 1) 96 = true then
    if inb x6 96 = true then
    lt_ (Mm.si σ 597 (ix x6) (Mm.gi σ 597 (ix (x6 - 1)))) (fun (σ_56 : Mm) =>
    if inb (x6 - 1) 96 = true then
    if inb x6 96 = true then
    lt_ (Mm.si σ_56 598 (ix x6) (Mm.gi σ_56 598 (ix (x6 - 1)))) (fun (σ_63 : Mm) =>
    if inb (x6 - 1) 96 = true then
    if inb x6 96 = true then
    lt_ (Mm.si σ_63 599 (ix x6) (Mm.gi σ_63 599 (ix (x6 - 1)))) (fun (σ_70 : Mm) =>
    if inb (x6 - 1) 96 = true then
    if inb x6 96 = true then
    lt_ (Mm.si σ_70 600 (ix x6) (Mm.gi σ_70 600 (ix (x6 - 1)))) (fun (σ_77 : Mm) =>
    lt_ (x6 + (-1)) (fun (x6_78 : Int32) =>
    k81 x6_78 σ_77))
  else none
  else none)
  else none
  else none)
  else none
  else none)
  else none
  else none
  else none
def b_X12_arrival_81 (Y : Yt) (fu : Nat) (this : Nat) (a1 : Int32) (a2 : Int32) (a3 : Int32) (a4 : Int32) (a5 : Int32) (n : Nat) : Int32 → Mm → Option (Int32 × Mm) := lp (s_X12_arrival_81 Y fu this a1 a2 a3 a4 a5 ) (fun _ _ => none) n
def f_X12_arrival (Y : Yt) (fu : Nat) (this : Nat) (a1 : Int32) (a2 : Int32) (a3 : Int32) (a4 : Int32) (a5 : Int32) (σ : Mm) : Option (Int32 × Mm) :=
  bnd (f_X12_isStar Y a1 σ) (fun (r_3 : Int32) (σ_2 : Mm) =>
    if r_3 = 0 then
    some ((-1), σ_2)
  else
    bnd (f_X12_in Y (Int32.toInt64 a2) 0 1000000 σ_2) (fun (r_6 : Int32) (σ_5 : Mm) =>
    if r_6 = 0 then
    some ((-1), σ_5)
  else
    bnd (f_X12_in Y (Int32.toInt64 a3) 0 1000 σ_5) (fun (r_9 : Int32) (σ_8 : Mm) =>
    if r_9 = 0 then
    some ((-1), σ_8)
  else
    bnd (f_X12_isTool Y a4 σ_8) (fun (r_12 : Int32) (σ_11 : Mm) =>
    if r_12 = 0 then
    some ((-1), σ_11)
  else
    bnd (f_X12_in Y (Int32.toInt64 a5) 0 2000000 σ_11) (fun (r_15 : Int32) (σ_14 : Mm) =>
    if r_15 = 0 then
    some ((-1), σ_14)
  else
    if inb a1 4 = true then
    if (Mm.gi σ_14 596 (ix a1)) = 24 then
    some ((-3), σ_14)
  else
    if inb a1 4 = true then
    lt_ ((24 * a1) + (Mm.gi σ_14 596 (ix a1))) (fun (x6_22 : Int32) =>
    b_X12_arrival_81 Y fu this a1 a2 a3 a4 a5 fu x6_22 σ_14)
  else none
  else none)))))
def f_X12_at (Y : Yt) (fu : Nat) (this : Nat) (a1 : Int32) (a2 : Int32) (a3 : Int32) (σ : Mm) : Option (Int32 × Mm) :=
  bnd (f_X12_isStar Y a1 σ) (fun (r_3 : Int32) (σ_2 : Mm) =>
    if r_3 = 0 then
    some ((-100000), σ_2)
  else
    bnd (f_X12_in Y (Int32.toInt64 a2) 0 23 σ_2) (fun (r_6 : Int32) (σ_5 : Mm) =>
    if r_6 = 0 then
    some ((-100000), σ_5)
  else
    bnd (f_X12_in Y (Int32.toInt64 a3) 0 4 σ_5) (fun (r_9 : Int32) (σ_8 : Mm) =>
    if r_9 = 0 then
    some ((-100000), σ_8)
  else
    bn1 (f_X12_layCounts Y fu this a1 σ_8) (fun (σ_11 : Mm) =>
    if a2 < (Mm.gi σ_11 this 22) then
    if inb a2 24 = true then
    lt_ (Mm.gi σ_11 614 (ix a2)) (fun (x4_15 : Int32) =>
    if a3 = 0 then
    if inb x4_15 96 = true then
    some ((Mm.gi σ_11 597 (ix x4_15)), σ_11)
  else none
  else
    if a3 = 1 then
    if inb x4_15 96 = true then
    some ((Mm.gi σ_11 598 (ix x4_15)), σ_11)
  else none
  else
    if a3 = 2 then
    if inb x4_15 96 = true then
    some ((Mm.gi σ_11 599 (ix x4_15)), σ_11)
  else none
  else
    if a3 = 3 then
    if inb x4_15 96 = true then
    some ((Mm.gi σ_11 600 (ix x4_15)), σ_11)
  else none
  else
    bnd (f_X12_corrected Y this x4_15 (Mm.gi σ_11 this 7) σ_11) (fun (r_18 : Int32) (σ_17 : Mm) =>
    some (r_18, σ_17)))
  else none
  else
    some ((-100002), σ_11)))))
def b_X12_layPairs_165 (Y : Yt) (fu : Nat) (this : Nat) (a1 : Int32) (a2 : Int32) (k7 : Int32 → Mm → Option (Mm)) (x3 : Int32) (σ : Mm) : Option (Mm) :=
  lt_ (x3 + 1) (fun (x3_5 : Int32) =>
    k7 x3_5 σ)
def b_X12_layPairs_159 (Y : Yt) (fu : Nat) (this : Nat) (a1 : Int32) (a2 : Int32) (k7 : Int32 → Mm → Option (Mm)) (k27 : Int32 → Int32 → Mm → Option (Mm)) (x3 : Int32) (x4 : Int32) (σ : Mm) : Option (Mm) :=
  lt_ (x4 + 1) (fun (x4_10 : Int32) =>
    k27 x3 x4_10 σ)
def s_X12_layPairs_27 (Y : Yt) (fu : Nat) (this : Nat) (a1 : Int32) (a2 : Int32) (k7 : Int32 → Mm → Option (Mm)) (k27 : Int32 → Int32 → Mm → Option (Mm)) (x3 : Int32) (x4 : Int32) (σ : Mm) : Option (Mm) :=
  if ((Mm.gi σ this 22) * (Mm.gi σ this 22)) ≤ x4 then
    b_X12_layPairs_165 Y fu this a1 a2 k7 x3 σ
  else
    if (Mm.gi σ this 22) = 0 then none else
    lt_ (x4 / (Mm.gi σ this 22)) (fun (x5_7 : Int32) =>
    if (Mm.gi σ this 22) = 0 then none else
    lt_ (x4 - x4 / (Mm.gi σ this 22) * (Mm.gi σ this 22)) (fun (x6_9 : Int32) =>
    if x5_7 = x6_9 then
    b_X12_layPairs_159 Y fu this a1 a2 k7 k27 x3 x4 σ
  else
    if inb x5_7 24 = true then
    if inb (Mm.gi σ 614 (ix x5_7)) 96 = true then
    if (Mm.gi σ 599 (ix (Mm.gi σ 614 (ix x5_7)))) = a1 then
    if inb x6_9 24 = true then
    if inb (Mm.gi σ 614 (ix x6_9)) 96 = true then
    if (Mm.gi σ 599 (ix (Mm.gi σ 614 (ix x6_9)))) = a2 then
    if inb x5_7 24 = true then
    if inb x6_9 24 = true then
    if (Mm.gi σ 617 (ix x5_7)) = (Mm.gi σ 617 (ix x6_9)) then
    if inb x5_7 24 = true then
    if inb (Mm.gi σ 614 (ix x5_7)) 96 = true then
    if inb x6_9 24 = true then
    if inb (Mm.gi σ 614 (ix x6_9)) 96 = true then
    if inb (Mm.gi σ this 56) 2304 = true then
    lt_ (Mm.si σ 634 (ix (Mm.gi σ this 56)) ((Mm.gi σ 597 (ix (Mm.gi σ 614 (ix x5_7)))) - (Mm.gi σ 597 (ix (Mm.gi σ 614 (ix x6_9)))))) (fun (σ_44 : Mm) =>
    lt_ (Mm.si σ_44 this 56 ((Mm.gi σ_44 this 56) + 1)) (fun (σ_45 : Mm) =>
    b_X12_layPairs_159 Y fu this a1 a2 k7 k27 x3 x4 σ_45))
  else none
  else none
  else none
  else none
  else none
  else
    b_X12_layPairs_159 Y fu this a1 a2 k7 k27 x3 x4 σ
  else none
  else none
  else
    b_X12_layPairs_159 Y fu this a1 a2 k7 k27 x3 x4 σ
  else none
  else none
  else
    b_X12_layPairs_159 Y fu this a1 a2 k7 k27 x3 x4 σ
  else none
  else none))
def b_X12_layPairs_27 (Y : Yt) (fu : Nat) (this : Nat) (a1 : Int32) (a2 : Int32) (k7 : Int32 → Mm → Option (Mm)) (n : Nat) : Int32 → Int32 → Mm → Option (Mm) := lp (s_X12_layPairs_27 Y fu this a1 a2 k7) (fun _ _ _ => none) n
def s_X12_layPairs_7 (Y : Yt) (fu : Nat) (this : Nat) (a1 : Int32) (a2 : Int32) (k7 : Int32 → Mm → Option (Mm)) (x3 : Int32) (σ : Mm) : Option (Mm) :=
  if 4 ≤ x3 then
    some σ
  else
    bnd (f_X12_layRest Y fu this x3 (Mm.gi σ this 7) σ) (fun (r_4 : Int32) (σ_3 : Mm) =>
    if r_4 = 0 then
    b_X12_layPairs_165 Y fu this a1 a2 k7 x3 σ_3
  else
    b_X12_layPairs_27 Y fu this a1 a2 k7 fu x3 0 σ_3)
def b_X12_layPairs_7 (Y : Yt) (fu : Nat) (this : Nat) (a1 : Int32) (a2 : Int32) (n : Nat) : Int32 → Mm → Option (Mm) := lp (s_X12_layPairs_7 Y fu this a1 a2 ) (fun _ _ => none) n
def f_X12_layPairs (Y : Yt) (fu : Nat) (this : Nat) (a1 : Int32) (a2 : Int32) (σ : Mm) : Option (Mm) :=
  lt_ (Mm.si σ this 56 0) (fun (σ_1 : Mm) =>
    b_X12_layPairs_7 Y fu this a1 a2 fu 0 σ_1)
def b_X12_middle_122 (Y : Yt) (fu : Nat) (this : Nat) (k4 : Int32 → Int32 → Mm → Option (Int32 × Mm)) (x2 : Int32) (t0 : Int32) (σ : Mm) : Option (Int32 × Mm) :=
  lt_ (x2 + 1) (fun (x2_1 : Int32) =>
    k4 t0 x2_1 σ)
def b_X12_middle_121 (Y : Yt) (fu : Nat) (this : Nat) (k4 : Int32 → Int32 → Mm → Option (Int32 × Mm)) (x1 : Int32) (x2 : Int32) (σ : Mm) : Option (Int32 × Mm) :=
  b_X12_middle_122 Y fu this k4 x2 x1 σ
def b_X12_middle_76 (Y : Yt) (fu : Nat) (this : Nat) (k4 : Int32 → Int32 → Mm → Option (Int32 × Mm)) (k20 : Int32 → Int32 → Int32 → Int32 → Int32 → Mm → Option (Int32 × Mm)) (x1 : Int32) (x2 : Int32) (x3 : Int32) (x5 : Int32) (t0 : Int32) (t1 : Int32) (σ : Mm) : Option (Int32 × Mm) :=
  lt_ (t1 + t0) (fun (x4_18 : Int32) =>
    lt_ (x5 + 1) (fun (x5_19 : Int32) =>
    k20 x1 x2 x3 x4_18 x5_19 σ))
def b_X12_middle_51 (Y : Yt) (fu : Nat) (this : Nat) (k4 : Int32 → Int32 → Mm → Option (Int32 × Mm)) (k20 : Int32 → Int32 → Int32 → Int32 → Int32 → Mm → Option (Int32 × Mm)) (x1 : Int32) (x2 : Int32) (x4 : Int32) (x5 : Int32) (t0 : Int32) (t1 : Int32) (σ : Mm) : Option (Int32 × Mm) :=
  lt_ (t1 + t0) (fun (x3_11 : Int32) =>
    if inb x5 2304 = true then
    if inb x2 2304 = true then
    if (Mm.gi σ 634 (ix x5)) = (Mm.gi σ 634 (ix x2)) then
    b_X12_middle_76 Y fu this k4 k20 x1 x2 x3_11 x5 1 x4 σ
  else
    b_X12_middle_76 Y fu this k4 k20 x1 x2 x3_11 x5 0 x4 σ
  else none
  else none)
def s_X12_middle_20 (Y : Yt) (fu : Nat) (this : Nat) (k4 : Int32 → Int32 → Mm → Option (Int32 × Mm)) (k20 : Int32 → Int32 → Int32 → Int32 → Int32 → Mm → Option (Int32 × Mm)) (x1 : Int32) (x2 : Int32) (x3 : Int32) (x4 : Int32) (x5 : Int32) (σ : Mm) : Option (Int32 × Mm) :=
  if (Mm.gi σ this 56) ≤ x5 then
    if (((Mm.gi σ this 56) - 1) / 2) < x3 then
    b_X12_middle_121 Y fu this k4 x1 x2 σ
  else
    if (x3 + x4) ≤ (((Mm.gi σ this 56) - 1) / 2) then
    b_X12_middle_121 Y fu this k4 x1 x2 σ
  else
    if inb x2 2304 = true then
    b_X12_middle_122 Y fu this k4 x2 (Mm.gi σ 634 (ix x2)) σ
  else none
  else
    if inb x5 2304 = true then
    if inb x2 2304 = true then
    if (Mm.gi σ 634 (ix x2)) ≤ (Mm.gi σ 634 (ix x5)) then
    b_X12_middle_51 Y fu this k4 k20 x1 x2 x4 x5 0 x3 σ
  else
    b_X12_middle_51 Y fu this k4 k20 x1 x2 x4 x5 1 x3 σ
  else none
  else none
def b_X12_middle_20 (Y : Yt) (fu : Nat) (this : Nat) (k4 : Int32 → Int32 → Mm → Option (Int32 × Mm)) (n : Nat) : Int32 → Int32 → Int32 → Int32 → Int32 → Mm → Option (Int32 × Mm) := lp (s_X12_middle_20 Y fu this k4) (fun _ _ _ _ _ _ => none) n
def s_X12_middle_4 (Y : Yt) (fu : Nat) (this : Nat) (k4 : Int32 → Int32 → Mm → Option (Int32 × Mm)) (x1 : Int32) (x2 : Int32) (σ : Mm) : Option (Int32 × Mm) :=
  if (Mm.gi σ this 56) ≤ x2 then
    some (x1, σ)
  else
    b_X12_middle_20 Y fu this k4 fu x1 x2 0 0 0 σ
def b_X12_middle_4 (Y : Yt) (fu : Nat) (this : Nat) (n : Nat) : Int32 → Int32 → Mm → Option (Int32 × Mm) := lp (s_X12_middle_4 Y fu this ) (fun _ _ _ => none) n
def f_X12_middle (Y : Yt) (fu : Nat) (this : Nat) (σ : Mm) : Option (Int32 × Mm) :=
  b_X12_middle_4 Y fu this fu 0 0 σ
def f_X12_between (Y : Yt) (fu : Nat) (this : Nat) (a1 : Int32) (a2 : Int32) (σ : Mm) : Option (Int32 × Mm) :=
  bnd (f_X12_isTool Y a1 σ) (fun (r_3 : Int32) (σ_2 : Mm) =>
    if r_3 = 0 then
    some ((-10000000), σ_2)
  else
    bnd (f_X12_isTool Y a2 σ_2) (fun (r_6 : Int32) (σ_5 : Mm) =>
    if r_6 = 0 then
    some ((-10000000), σ_5)
  else
    if a1 = a2 then
    some ((-10000000), σ_5)
  else
    bn1 (f_X12_layPairs Y fu this a1 a2 σ_5) (fun (σ_8 : Mm) =>
    if (Mm.gi σ_8 this 56) = 0 then
    some ((-10000002), σ_8)
  else
    bnd (f_X12_middle Y fu this σ_8) (fun (r_11 : Int32) (σ_10 : Mm) =>
    some (r_11, σ_10)))))
def f_X12_clear (Y : Yt) (this : Nat) (a1 : Int32) (σ : Mm) : Option (Int32 × Mm) :=
  bnd (f_X12_isStar Y a1 σ) (fun (r_3 : Int32) (σ_2 : Mm) =>
    if r_3 = 0 then
    some ((-1), σ_2)
  else
    if inb a1 4 = true then
    lt_ (Mm.gi σ_2 596 (ix a1)) (fun (x2_7 : Int32) =>
    if inb a1 4 = true then
    lt_ (Mm.si σ_2 596 (ix a1) 0) (fun (σ_11 : Mm) =>
    some (x2_7, σ_11))
  else none)
  else none)
def f_X12_comes (Y : Yt) (fu : Nat) (this : Nat) (a1 : Int32) (a2 : Int32) (σ : Mm) : Option (Int64 × Mm) :=
  bnd (f_X12_isStar Y a1 σ) (fun (r_3 : Int32) (σ_2 : Mm) =>
    if r_3 = 0 then
    some ((-1), σ_2)
  else
    bnd (f_X12_in Y (Int32.toInt64 a2) 0 10000 σ_2) (fun (r_6 : Int32) (σ_5 : Mm) =>
    if r_6 = 0 then
    some ((-1), σ_5)
  else
    if inb a1 4 = true then
    if (Mm.gi σ_5 603 (ix a1)) = 0 then
    some ((-2), σ_5)
  else
    bn1 (f_X12_layTurns Y fu this a1 σ_5) (fun (σ_11 : Mm) =>
    if (Mm.gi σ_11 this 29) ≤ a2 then
    some ((-2), σ_11)
  else
    if inb a2 10001 = true then
    some ((Mm.gl σ_11 615 (ix a2)), σ_11)
  else none)
  else none))
def s_X12_count_34 (Y : Yt) (fu : Nat) (this : Nat) (a1 : Int32) (k34 : Int32 → Int32 → Mm → Option (Int32 × Mm)) (x2 : Int32) (x3 : Int32) (σ : Mm) : Option (Int32 × Mm) :=
  if 4 ≤ x3 then
    some (x2, σ)
  else
    bn1 (f_X12_layCounts Y fu this x3 σ) (fun (σ_2 : Mm) =>
    lt_ (x2 + (Mm.gi σ_2 this 22)) (fun (x2_3 : Int32) =>
    lt_ (x3 + 1) (fun (x3_4 : Int32) =>
    k34 x2_3 x3_4 σ_2)))
def b_X12_count_34 (Y : Yt) (fu : Nat) (this : Nat) (a1 : Int32) (n : Nat) : Int32 → Int32 → Mm → Option (Int32 × Mm) := lp (s_X12_count_34 Y fu this a1 ) (fun _ _ _ => none) n
def b_X12_count_81 (Y : Yt) (fu : Nat) (this : Nat) (a1 : Int32) (k61 : Int32 → Int32 → Mm → Option (Int32 × Mm)) (x3 : Int32) (t0 : Int32) (t1 : Int32) (σ : Mm) : Option (Int32 × Mm) :=
  lt_ (t1 + t0) (fun (x2_8 : Int32) =>
    lt_ (x3 + 1) (fun (x3_9 : Int32) =>
    k61 x2_8 x3_9 σ))
def s_X12_count_61 (Y : Yt) (fu : Nat) (this : Nat) (a1 : Int32) (k61 : Int32 → Int32 → Mm → Option (Int32 × Mm)) (x2 : Int32) (x3 : Int32) (σ : Mm) : Option (Int32 × Mm) :=
  if 4 ≤ x3 then
    some (x2, σ)
  else
    if inb x3 4 = true then
    if (Mm.gi σ 603 (ix x3)) = 0 then
    b_X12_count_81 Y fu this a1 k61 x3 0 x2 σ
  else
    b_X12_count_81 Y fu this a1 k61 x3 1 x2 σ
  else none
def b_X12_count_61 (Y : Yt) (fu : Nat) (this : Nat) (a1 : Int32) (n : Nat) : Int32 → Int32 → Mm → Option (Int32 × Mm) := lp (s_X12_count_61 Y fu this a1 ) (fun _ _ _ => none) n
def f_X12_count (Y : Yt) (fu : Nat) (this : Nat) (a1 : Int32) (σ : Mm) : Option (Int32 × Mm) :=
  if a1 = 0 then
    b_X12_count_34 Y fu this a1 fu 0 0 σ
  else
    if a1 = 1 then
    b_X12_count_61 Y fu this a1 fu 0 0 σ
  else
    if a1 = 2 then
    some ((Mm.gi σ this 20), σ)
  else
    if a1 = 3 then
    if (Mm.gi σ this 32) = 1 then
    some ((Mm.gi σ this 33), σ)
  else
    some (0, σ)
  else
    some ((-1), σ)
def f_X12_isAbove (Y : Yt) (a0 : Int64) (a2 : Int64) (a4 : Int64) (a6 : Int64) (σ : Mm) : Option (Int32 × Mm) :=
  if a2 = 0 then none else
    if a6 = 0 then none else
    if (a0 / a2) = (a4 / a6) then
    if a2 = 0 then none else
    if a6 = 0 then none else
    if ((a0 - a0 / a2 * a2) * a6) ≤ ((a4 - a4 / a6 * a6) * a2) then
    zret 0 σ
  else
    zret 1 σ
  else
    if a2 = 0 then none else
    if a6 = 0 then none else
    if (a0 / a2) ≤ (a4 / a6) then
    zret 0 σ
  else
    zret 1 σ
def b_X12_layGreat_144 (Y : Yt) (fu : Nat) (this : Nat) (a1 : Int32) (k44 : Int64 → Int64 → Int32 → Mm → Option (Mm)) (x2 : Int64) (x4 : Int64) (x6 : Int32) (σ : Mm) : Option (Mm) :=
  lt_ (x6 + 1) (fun (x6_14 : Int32) =>
    k44 x2 x4 x6_14 σ)
def b_X12_layGreat_116 (Y : Yt) (fu : Nat) (this : Nat) (a1 : Int32) (k44 : Int64 → Int64 → Int32 → Mm → Option (Mm)) (x2 : Int64) (x4 : Int64) (x6 : Int32) (x7 : Int64) (σ : Mm) : Option (Mm) :=
  lt_ (Mm.si σ this 51 x6) (fun (σ_11 : Mm) =>
    lt_ (Mm.sl σ_11 this 49 (x7 * x7)) (fun (σ_12 : Mm) =>
    lt_ (Mm.sl σ_12 this 50 ((Int32.toInt64 x6) * (Int32.toInt64 (a1 - x6)))) (fun (σ_13 : Mm) =>
    b_X12_layGreat_144 Y fu this a1 k44 x2 x4 x6 σ_13)))
def s_X12_layGreat_44 (Y : Yt) (fu : Nat) (this : Nat) (a1 : Int32) (k44 : Int64 → Int64 → Int32 → Mm → Option (Mm)) (x2 : Int64) (x4 : Int64) (x6 : Int32) (σ : Mm) : Option (Mm) :=
  if (a1 - 2) < x6 then
    some σ
  else
    if inb (x6 - 1) 24 = true then
    lt_ (x4 + (Mm.gl σ 631 (ix (x6 - 1)))) (fun (x4_9 : Int64) =>
    lt_ (((Int32.toInt64 a1) * x4_9) - ((Int32.toInt64 x6) * x2)) (fun (x7_10 : Int64) =>
    if (Mm.gi σ this 51) = (-4) then
    b_X12_layGreat_116 Y fu this a1 k44 x2 x4_9 x6 x7_10 σ
  else
    bnd (f_X12_isAbove Y (x7_10 * x7_10) ((Int32.toInt64 x6) * (Int32.toInt64 (a1 - x6))) (Mm.gl σ this 49) (Mm.gl σ this 50) σ) (fun (r_17 : Int32) (σ_16 : Mm) =>
    if r_17 = 0 then
    b_X12_layGreat_144 Y fu this a1 k44 x2 x4_9 x6 σ_16
  else
    b_X12_layGreat_116 Y fu this a1 k44 x2 x4_9 x6 x7_10 σ_16)))
  else none
def b_X12_layGreat_44 (Y : Yt) (fu : Nat) (this : Nat) (a1 : Int32) (n : Nat) : Int64 → Int64 → Int32 → Mm → Option (Mm) := lp (s_X12_layGreat_44 Y fu this a1 ) (fun _ _ _ _ => none) n
def s_X12_layGreat_5 (Y : Yt) (fu : Nat) (this : Nat) (a1 : Int32) (k5 : Int64 → Int32 → Mm → Option (Mm)) (x2 : Int64) (x4 : Int32) (σ : Mm) : Option (Mm) :=
  if a1 ≤ x4 then
    lt_ (Mm.si σ this 51 (-4)) (fun (σ_1 : Mm) =>
    if inb 0 24 = true then
    lt_ (Mm.gl σ_1 631 (ix 0)) (fun (x4_5 : Int64) =>
    b_X12_layGreat_44 Y fu this a1 fu x2 x4_5 2 σ_1)
  else none)
  else
    if inb x4 24 = true then
    lt_ (x2 + (Mm.gl σ 631 (ix x4))) (fun (x2_21 : Int64) =>
    lt_ (x4 + 1) (fun (x4_22 : Int32) =>
    k5 x2_21 x4_22 σ))
  else none
def b_X12_layGreat_5 (Y : Yt) (fu : Nat) (this : Nat) (a1 : Int32) (n : Nat) : Int64 → Int32 → Mm → Option (Mm) := lp (s_X12_layGreat_5 Y fu this a1 ) (fun _ _ _ => none) n
def f_X12_layGreat (Y : Yt) (fu : Nat) (this : Nat) (a1 : Int32) (σ : Mm) : Option (Mm) :=
  b_X12_layGreat_5 Y fu this a1 fu 0 0 σ
def s_X12_slip_34 (Y : Yt) (fu : Nat) (this : Nat) (a1 : Int32) (k34 : Int32 → Mm → Option (Int32 × Mm)) (x2 : Int32) (σ : Mm) : Option (Int32 × Mm) :=
  if (Mm.gi σ this 22) ≤ x2 then
    bn1 (f_X12_layGreat Y fu this (Mm.gi σ this 22) σ) (fun (σ_8 : Mm) =>
    some ((Mm.gi σ_8 this 51), σ_8))
  else
    if inb x2 24 = true then
    if inb x2 24 = true then
    lt_ (Mm.sl σ 631 (ix x2) (Int32.toInt64 (Mm.gi σ 616 (ix x2)))) (fun (σ_15 : Mm) =>
    lt_ (x2 + 1) (fun (x2_16 : Int32) =>
    k34 x2_16 σ_15))
  else none
  else none
def b_X12_slip_34 (Y : Yt) (fu : Nat) (this : Nat) (a1 : Int32) (n : Nat) : Int32 → Mm → Option (Int32 × Mm) := lp (s_X12_slip_34 Y fu this a1 ) (fun _ _ => none) n
def f_X12_slip (Y : Yt) (fu : Nat) (this : Nat) (a1 : Int32) (σ : Mm) : Option (Int32 × Mm) :=
  bnd (f_X12_isStar Y a1 σ) (fun (r_3 : Int32) (σ_2 : Mm) =>
    if r_3 = 0 then
    some ((-1), σ_2)
  else
    bnd (f_X12_layRest Y fu this a1 (Mm.gi σ_2 this 7) σ_2) (fun (r_6 : Int32) (σ_5 : Mm) =>
    if r_6 = 0 then
    some ((-2), σ_5)
  else
    if 4 ≤ (Mm.gi σ_5 this 22) then
    b_X12_slip_34 Y fu this a1 fu 0 σ_5
  else
    some ((-2), σ_5)))
def b_X12_falseShare_147 (Y : Yt) (fu : Nat) (this : Nat) (a1 : Int32) (k48 : Int64 → Int64 → Int32 → Int32 → Mm → Option (Int32 × Mm)) (x2 : Int64) (x4 : Int64) (x7 : Int32) (t0 : Int32) (t1 : Int32) (σ : Mm) : Option (Int32 × Mm) :=
  lt_ (t1 + t0) (fun (x6_14 : Int32) =>
    lt_ (x7 + 1) (fun (x7_15 : Int32) =>
    k48 x2 x4 x6_14 x7_15 σ))
def b_X12_falseShare_108 (Y : Yt) (fu : Nat) (this : Nat) (a1 : Int32) (k48 : Int64 → Int64 → Int32 → Int32 → Mm → Option (Int32 × Mm)) (k62 : Int64 → Int64 → Int32 → Int32 → Int32 → Mm → Option (Int32 × Mm)) (x2 : Int64) (x4 : Int64) (x6 : Int32) (x7 : Int32) (x8 : Int32) (t0 : Int64) (t1 : Int32) (t2 : Nat) (σ : Mm) : Option (Int32 × Mm) :=
  if inb t1 (Y t2).2 = true then
    lt_ (Mm.sl σ t2 (ix t1) t0) (fun (σ_22 : Mm) =>
    lt_ (x8 + 1) (fun (x8_23 : Int32) =>
    k62 x2 x4 x6 x7 x8_23 σ_22))
  else none
def s_X12_falseShare_62 (Y : Yt) (fu : Nat) (this : Nat) (a1 : Int32) (k48 : Int64 → Int64 → Int32 → Int32 → Mm → Option (Int32 × Mm)) (k62 : Int64 → Int64 → Int32 → Int32 → Int32 → Mm → Option (Int32 × Mm)) (x2 : Int64) (x4 : Int64) (x6 : Int32) (x7 : Int32) (x8 : Int32) (σ : Mm) : Option (Int32 × Mm) :=
  if (Mm.gi σ this 22) ≤ x8 then
    bn1 (f_X12_layGreat Y fu this (Mm.gi σ this 22) σ) (fun (σ_10 : Mm) =>
    bnd (f_X12_isAbove Y x2 x4 (Mm.gl σ_10 this 49) (Mm.gl σ_10 this 50) σ_10) (fun (r_13 : Int32) (σ_12 : Mm) =>
    if r_13 = 0 then
    b_X12_falseShare_147 Y fu this a1 k48 x2 x4 x7 1 x6 σ_12
  else
    b_X12_falseShare_147 Y fu this a1 k48 x2 x4 x7 0 x6 σ_12))
  else
    if ((x7 >>> (x8 &&& 31)) &&& 1) = 1 then
    if inb x8 24 = true then
    b_X12_falseShare_108 Y fu this a1 k48 k62 x2 x4 x6 x7 x8 (Int32.toInt64 (-(Mm.gi σ 616 (ix x8)))) x8 631 σ
  else none
  else
    if inb x8 24 = true then
    b_X12_falseShare_108 Y fu this a1 k48 k62 x2 x4 x6 x7 x8 (Int32.toInt64 (Mm.gi σ 616 (ix x8))) x8 631 σ
  else none
def b_X12_falseShare_62 (Y : Yt) (fu : Nat) (this : Nat) (a1 : Int32) (k48 : Int64 → Int64 → Int32 → Int32 → Mm → Option (Int32 × Mm)) (n : Nat) : Int64 → Int64 → Int32 → Int32 → Int32 → Mm → Option (Int32 × Mm) := lp (s_X12_falseShare_62 Y fu this a1 k48) (fun _ _ _ _ _ _ => none) n
def s_X12_falseShare_48 (Y : Yt) (fu : Nat) (this : Nat) (a1 : Int32) (k48 : Int64 → Int64 → Int32 → Int32 → Mm → Option (Int32 × Mm)) (x2 : Int64) (x4 : Int64) (x6 : Int32) (x7 : Int32) (σ : Mm) : Option (Int32 × Mm) :=
  if (1 <<< ((Mm.gi σ this 22) &&& 31)) ≤ x7 then
    some (x6, σ)
  else
    b_X12_falseShare_62 Y fu this a1 k48 fu x2 x4 x6 x7 0 σ
def b_X12_falseShare_48 (Y : Yt) (fu : Nat) (this : Nat) (a1 : Int32) (n : Nat) : Int64 → Int64 → Int32 → Int32 → Mm → Option (Int32 × Mm) := lp (s_X12_falseShare_48 Y fu this a1 ) (fun _ _ _ _ _ => none) n
def f_X12_falseShare (Y : Yt) (fu : Nat) (this : Nat) (a1 : Int32) (σ : Mm) : Option (Int32 × Mm) :=
  bnd (f_X12_isStar Y a1 σ) (fun (r_3 : Int32) (σ_2 : Mm) =>
    if r_3 = 0 then
    some ((-1), σ_2)
  else
    bnd (f_X12_slip Y fu this a1 σ_2) (fun (r_6 : Int32) (σ_5 : Mm) =>
    if r_6 = (-2) then
    some ((-2), σ_5)
  else
    if (Mm.gi σ_5 this 22) ≤ 12 then
    lt_ (Mm.gl σ_5 this 49) (fun (x2_7 : Int64) =>
    lt_ (Mm.gl σ_5 this 50) (fun (x4_8 : Int64) =>
    b_X12_falseShare_48 Y fu this a1 fu x2_7 x4_8 0 0 σ_5))
  else
    some ((-2), σ_5)))
def f_X12_isFigure (Y : Yt) (this : Nat) (σ : Mm) : Option (Int32 × Mm) :=
  if (Mm.gi σ this 20) ≤ (Mm.gi σ this 23) then
    zret 0 σ
  else
    if inb (Mm.gi σ this 23) 200 = true then
    if (Mm.gi σ 613 (ix (Mm.gi σ this 23))) < 48 then
    zret 0 σ
  else
    if inb (Mm.gi σ this 23) 200 = true then
    if 57 < (Mm.gi σ 613 (ix (Mm.gi σ this 23))) then
    zret 0 σ
  else
    zret 1 σ
  else none
  else none
def f_X12_isAt (Y : Yt) (this : Nat) (a1 : Int32) (σ : Mm) : Option (Int32 × Mm) :=
  if (Mm.gi σ this 20) ≤ (Mm.gi σ this 23) then
    zret 0 σ
  else
    if inb (Mm.gi σ this 23) 200 = true then
    if (Mm.gi σ 613 (ix (Mm.gi σ this 23))) = a1 then
    zret 1 σ
  else
    zret 0 σ
  else none
def f_X12_skip (Y : Yt) (this : Nat) (a1 : Int32) (σ : Mm) : Option (Int32 × Mm) :=
  bnd (f_X12_isAt Y this a1 σ) (fun (r_3 : Int32) (σ_2 : Mm) =>
    if r_3 = 0 then
    lt_ (Mm.si σ_2 this 23 ((Mm.gi σ_2 this 23) + 0)) (fun (σ_4 : Mm) =>
    zret r_3 σ_4)
  else
    lt_ (Mm.si σ_2 this 23 ((Mm.gi σ_2 this 23) + 1)) (fun (σ_5 : Mm) =>
    zret r_3 σ_5))
def b_X12_number_76 (Y : Yt) (fu : Nat) (this : Nat) (a1 : Int32) (a2 : Int32) (x4 : Int32) (t0 : Int32) (t1 : Nat) (σ : Mm) : Option (Int32 × Mm) :=
  lt_ (Mm.si σ t1 24 t0) (fun (σ_4 : Mm) =>
    if x4 ≤ 0 then
    zret 0 σ_4
  else
    bnd (f_X12_in Y (Int32.toInt64 (Mm.gi σ_4 this 24)) (Int32.toInt64 a1) (Int32.toInt64 a2) σ_4) (fun (r_7 : Int32) (σ_6 : Mm) =>
    if r_7 = 0 then
    zret 0 σ_6
  else
    zret 1 σ_6))
def b_X12_number_63 (Y : Yt) (fu : Nat) (this : Nat) (a1 : Int32) (a2 : Int32) (x3 : Int32) (x4 : Int32) (x5 : Int32) (σ : Mm) : Option (Int32 × Mm) :=
  if x3 = 0 then
    b_X12_number_76 Y fu this a1 a2 x4 x5 this σ
  else
    b_X12_number_76 Y fu this a1 a2 x4 (-x5) this σ
def s_X12_number_13 (Y : Yt) (fu : Nat) (this : Nat) (a1 : Int32) (a2 : Int32) (k13 : Int32 → Int32 → Int32 → Mm → Option (Int32 × Mm)) (x3 : Int32) (x4 : Int32) (x5 : Int32) (σ : Mm) : Option (Int32 × Mm) :=
  if 9 ≤ x4 then
    b_X12_number_63 Y fu this a1 a2 x3 x4 x5 σ
  else
    bnd (f_X12_isFigure Y this σ) (fun (r_10 : Int32) (σ_9 : Mm) =>
    if r_10 = 0 then
    b_X12_number_63 Y fu this a1 a2 x3 x4 x5 σ_9
  else
    if inb (Mm.gi σ_9 this 23) 200 = true then
    lt_ (((10 * x5) + (Mm.gi σ_9 613 (ix (Mm.gi σ_9 this 23)))) - 48) (fun (x5_14 : Int32) =>
    lt_ (Mm.si σ_9 this 23 ((Mm.gi σ_9 this 23) + 1)) (fun (σ_15 : Mm) =>
    lt_ (x4 + 1) (fun (x4_16 : Int32) =>
    k13 x3 x4_16 x5_14 σ_15)))
  else none)
def b_X12_number_13 (Y : Yt) (fu : Nat) (this : Nat) (a1 : Int32) (a2 : Int32) (n : Nat) : Int32 → Int32 → Int32 → Mm → Option (Int32 × Mm) := lp (s_X12_number_13 Y fu this a1 a2 ) (fun _ _ _ _ => none) n
def f_X12_number (Y : Yt) (fu : Nat) (this : Nat) (a1 : Int32) (a2 : Int32) (σ : Mm) : Option (Int32 × Mm) :=
  bnd (f_X12_skip Y this 45 σ) (fun (r_3 : Int32) (σ_2 : Mm) =>
    b_X12_number_13 Y fu this a1 a2 fu r_3 0 0 σ_2)
def s_X12_friendItem_45 (Y : Yt) (fu : Nat) (this : Nat) (k45 : Int32 → Int32 → Mm → Option (Int32 × Mm)) (x1 : Int32) (x2 : Int32) (σ : Mm) : Option (Int32 × Mm) :=
  if 4 ≤ x2 then
    if inb 4 5 = true then
    if inb 4 5 = true then
    lt_ (Mm.si σ 610 (ix 4) ((Mm.gi σ 610 (ix 4)) + 1)) (fun (σ_19 : Mm) =>
    zret 1 σ_19)
  else none
  else none
  else
    bnd (f_X12_skip Y this 44 σ) (fun (r_22 : Int32) (σ_21 : Mm) =>
    if r_22 = 0 then
    zret 0 σ_21
  else
    bnd (f_X12_number Y fu this (-50000) 50000 σ_21) (fun (r_25 : Int32) (σ_24 : Mm) =>
    if r_25 = 0 then
    zret 0 σ_24
  else
    if inb ((4 * x1) + x2) 40 = true then
    lt_ (Mm.si σ_24 612 (ix ((4 * x1) + x2)) (Mm.gi σ_24 this 24)) (fun (σ_29 : Mm) =>
    lt_ (x2 + 1) (fun (x2_30 : Int32) =>
    k45 x1 x2_30 σ_29))
  else none))
def b_X12_friendItem_45 (Y : Yt) (fu : Nat) (this : Nat) (n : Nat) : Int32 → Int32 → Mm → Option (Int32 × Mm) := lp (s_X12_friendItem_45 Y fu this ) (fun _ _ _ => none) n
def f_X12_friendItem (Y : Yt) (fu : Nat) (this : Nat) (σ : Mm) : Option (Int32 × Mm) :=
  if inb 4 5 = true then
    if (Mm.gi σ 610 (ix 4)) = 2 then
    zret 0 σ
  else
    bnd (f_X12_number Y fu this 4 1000 σ) (fun (r_6 : Int32) (σ_5 : Mm) =>
    if r_6 = 0 then
    zret 0 σ_5
  else
    if inb 4 5 = true then
    lt_ (8 + (Mm.gi σ_5 610 (ix 4))) (fun (x1_10 : Int32) =>
    if inb x1_10 10 = true then
    lt_ (Mm.si σ_5 611 (ix x1_10) (Mm.gi σ_5 this 24)) (fun (σ_14 : Mm) =>
    b_X12_friendItem_45 Y fu this fu x1_10 0 σ_14)
  else none)
  else none)
  else none
def f_X12_slipItem (Y : Yt) (fu : Nat) (this : Nat) (σ : Mm) : Option (Int32 × Mm) :=
  if inb 4 5 = true then
    if (Mm.gi σ 607 (ix 4)) = 3 then
    zret 0 σ
  else
    bnd (f_X12_number Y fu this 0 1000000 σ) (fun (r_6 : Int32) (σ_5 : Mm) =>
    if r_6 = 0 then
    zret 0 σ_5
  else
    if inb 4 5 = true then
    if inb (12 + (Mm.gi σ_5 607 (ix 4))) 15 = true then
    lt_ (Mm.si σ_5 608 (ix (12 + (Mm.gi σ_5 607 (ix 4)))) (Mm.gi σ_5 this 24)) (fun (σ_13 : Mm) =>
    bnd (f_X12_skip Y this 44 σ_13) (fun (r_16 : Int32) (σ_15 : Mm) =>
    if r_16 = 0 then
    zret 0 σ_15
  else
    bnd (f_X12_number Y fu this (-50000) 50000 σ_15) (fun (r_19 : Int32) (σ_18 : Mm) =>
    if r_19 = 0 then
    zret 0 σ_18
  else
    if inb 4 5 = true then
    if inb (12 + (Mm.gi σ_18 607 (ix 4))) 15 = true then
    lt_ (Mm.si σ_18 609 (ix (12 + (Mm.gi σ_18 607 (ix 4)))) (Mm.gi σ_18 this 24)) (fun (σ_26 : Mm) =>
    if inb 4 5 = true then
    if inb 4 5 = true then
    lt_ (Mm.si σ_26 607 (ix 4) ((Mm.gi σ_26 607 (ix 4)) + 1)) (fun (σ_31 : Mm) =>
    zret 1 σ_31)
  else none
  else none)
  else none
  else none)))
  else none
  else none)
  else none
def b_X12_item_229 (Y : Yt) (fu : Nat) (this : Nat) (x2 : Int32) (σ : Mm) : Option (Int32 × Mm) :=
  if x2 = 0 then
    zret 0 σ
  else
    bnd (f_X12_skip Y this 59 σ) (fun (r_8 : Int32) (σ_7 : Mm) =>
    if r_8 = 0 then
    zret 0 σ_7
  else
    zret 1 σ_7)
def b_X12_item_228 (Y : Yt) (fu : Nat) (this : Nat) (t0 : Int32) (σ : Mm) : Option (Int32 × Mm) :=
  b_X12_item_229 Y fu this t0 σ
def b_X12_item_227 (Y : Yt) (fu : Nat) (this : Nat) (σ : Mm) : Option (Int32 × Mm) :=
  b_X12_item_228 Y fu this 0 σ
def b_X12_item_199 (Y : Yt) (fu : Nat) (this : Nat) (t0 : Int32) (σ : Mm) : Option (Int32 × Mm) :=
  b_X12_item_229 Y fu this t0 σ
def b_X12_item_198 (Y : Yt) (fu : Nat) (this : Nat) (σ : Mm) : Option (Int32 × Mm) :=
  b_X12_item_199 Y fu this 0 σ
def b_X12_item_155 (Y : Yt) (fu : Nat) (this : Nat) (t0 : Int32) (σ : Mm) : Option (Int32 × Mm) :=
  if inb 4 5 = true then
    lt_ (Mm.si σ 606 (ix 4) (Mm.gi σ this 24)) (fun (σ_18 : Mm) =>
    lt_ (Mm.si σ_18 this 27 1) (fun (σ_19 : Mm) =>
    b_X12_item_229 Y fu this t0 σ_19))
  else none
def b_X12_item_154 (Y : Yt) (fu : Nat) (this : Nat) (σ : Mm) : Option (Int32 × Mm) :=
  b_X12_item_155 Y fu this 0 σ
def b_X12_item_100 (Y : Yt) (fu : Nat) (this : Nat) (t0 : Int32) (σ : Mm) : Option (Int32 × Mm) :=
  if inb 4 5 = true then
    lt_ (Mm.si σ 605 (ix 4) (Mm.gi σ this 24)) (fun (σ_26 : Mm) =>
    lt_ (Mm.si σ_26 this 26 1) (fun (σ_27 : Mm) =>
    b_X12_item_229 Y fu this t0 σ_27))
  else none
def b_X12_item_99 (Y : Yt) (fu : Nat) (this : Nat) (σ : Mm) : Option (Int32 × Mm) :=
  b_X12_item_100 Y fu this 0 σ
def b_X12_item_51 (Y : Yt) (fu : Nat) (this : Nat) (t0 : Int32) (σ : Mm) : Option (Int32 × Mm) :=
  if inb 4 5 = true then
    lt_ (Mm.si σ 604 (ix 4) (Mm.gi σ this 24)) (fun (σ_34 : Mm) =>
    b_X12_item_229 Y fu this t0 σ_34)
  else none
def b_X12_item_50 (Y : Yt) (fu : Nat) (this : Nat) (σ : Mm) : Option (Int32 × Mm) :=
  b_X12_item_51 Y fu this 0 σ
def f_X12_item (Y : Yt) (fu : Nat) (this : Nat) (σ : Mm) : Option (Int32 × Mm) :=
  if inb (Mm.gi σ this 23) 200 = true then
    lt_ (Mm.gi σ 613 (ix (Mm.gi σ this 23))) (fun (x1_4 : Int32) =>
    lt_ (Mm.si σ this 23 ((Mm.gi σ this 23) + 1)) (fun (σ_5 : Mm) =>
    if x1_4 = 112 then
    if (Mm.gi σ_5 this 25) = 0 then
    bnd (f_X12_number Y fu this 100000 100000000 σ_5) (fun (r_37 : Int32) (σ_36 : Mm) =>
    if r_37 = 0 then
    b_X12_item_50 Y fu this σ_36
  else
    b_X12_item_51 Y fu this 1 σ_36)
  else
    b_X12_item_50 Y fu this σ_5
  else
    if x1_4 = 122 then
    if (Mm.gi σ_5 this 25) ≤ 0 then
    b_X12_item_99 Y fu this σ_5
  else
    if (Mm.gi σ_5 this 26) = 0 then
    bnd (f_X12_number Y fu this 0 1000000 σ_5) (fun (r_30 : Int32) (σ_29 : Mm) =>
    if r_30 = 0 then
    b_X12_item_99 Y fu this σ_29
  else
    b_X12_item_100 Y fu this 1 σ_29)
  else
    b_X12_item_99 Y fu this σ_5
  else
    if x1_4 = 100 then
    if (Mm.gi σ_5 this 25) ≤ 0 then
    b_X12_item_154 Y fu this σ_5
  else
    if (Mm.gi σ_5 this 27) = 0 then
    bnd (f_X12_number Y fu this (-100000) 100000 σ_5) (fun (r_22 : Int32) (σ_21 : Mm) =>
    if r_22 = 0 then
    b_X12_item_154 Y fu this σ_21
  else
    b_X12_item_155 Y fu this 1 σ_21)
  else
    b_X12_item_154 Y fu this σ_5
  else
    if x1_4 = 115 then
    if (Mm.gi σ_5 this 25) ≤ 0 then
    b_X12_item_198 Y fu this σ_5
  else
    bnd (f_X12_slipItem Y fu this σ_5) (fun (r_14 : Int32) (σ_13 : Mm) =>
    if r_14 = 0 then
    b_X12_item_198 Y fu this σ_13
  else
    b_X12_item_199 Y fu this 1 σ_13)
  else
    if x1_4 = 99 then
    if (Mm.gi σ_5 this 25) ≤ 0 then
    b_X12_item_227 Y fu this σ_5
  else
    bnd (f_X12_friendItem Y fu this σ_5) (fun (r_11 : Int32) (σ_10 : Mm) =>
    if r_11 = 0 then
    b_X12_item_227 Y fu this σ_10
  else
    b_X12_item_228 Y fu this 1 σ_10)
  else
    b_X12_item_229 Y fu this 0 σ_5))
  else none
def s_X12_fault_57 (Y : Yt) (fu : Nat) (this : Nat) (k57 : Mm → Option (Int32 × Mm)) (σ : Mm) : Option (Int32 × Mm) :=
  if (Mm.gi σ this 20) ≤ (Mm.gi σ this 23) then
    some ((-4), σ)
  else
    lt_ (Mm.gi σ this 23) (fun (x1_21 : Int32) =>
    bnd (f_X12_item Y fu this σ) (fun (r_24 : Int32) (σ_23 : Mm) =>
    if r_24 = 0 then
    some (x1_21, σ_23)
  else
    lt_ (Mm.si σ_23 this 25 ((Mm.gi σ_23 this 25) + 1)) (fun (σ_25 : Mm) =>
    k57 σ_25)))
def b_X12_fault_57 (Y : Yt) (fu : Nat) (this : Nat) (n : Nat) : Mm → Option (Int32 × Mm) := lp (s_X12_fault_57 Y fu this ) (fun _ => none) n
def f_X12_fault (Y : Yt) (fu : Nat) (this : Nat) (σ : Mm) : Option (Int32 × Mm) :=
  lt_ (Mm.si σ this 23 0) (fun (σ_1 : Mm) =>
    lt_ (Mm.si σ_1 this 25 0) (fun (σ_2 : Mm) =>
    lt_ (Mm.si σ_2 this 26 0) (fun (σ_3 : Mm) =>
    lt_ (Mm.si σ_3 this 27 0) (fun (σ_4 : Mm) =>
    if inb 4 5 = true then
    lt_ (Mm.si σ_4 605 (ix 4) 0) (fun (σ_8 : Mm) =>
    if inb 4 5 = true then
    lt_ (Mm.si σ_8 606 (ix 4) 0) (fun (σ_12 : Mm) =>
    if inb 4 5 = true then
    lt_ (Mm.si σ_12 607 (ix 4) 0) (fun (σ_16 : Mm) =>
    if inb 4 5 = true then
    lt_ (Mm.si σ_16 610 (ix 4) 0) (fun (σ_20 : Mm) =>
    if (Mm.gi σ_20 this 20) = 0 then
    some (0, σ_20)
  else
    b_X12_fault_57 Y fu this fu σ_20)
  else none)
  else none)
  else none)
  else none))))
def s_X12_divisor_12 (Y : Yt) (fu : Nat) (a0 : Int64) (a2 : Int64) (k12 : Int64 → Int64 → Mm → Option (Int64 × Mm)) (x4 : Int64) (x6 : Int64) (σ : Mm) : Option (Int64 × Mm) :=
  if x6 = 0 then
    some (x4, σ)
  else
    if x6 = 0 then none else
    lt_ (x4 - x4 / x6 * x6) (fun (x8_8 : Int64) =>
    k12 x6 x8_8 σ)
def b_X12_divisor_12 (Y : Yt) (fu : Nat) (a0 : Int64) (a2 : Int64) (n : Nat) : Int64 → Int64 → Mm → Option (Int64 × Mm) := lp (s_X12_divisor_12 Y fu a0 a2 ) (fun _ _ _ => none) n
def f_X12_divisor (Y : Yt) (fu : Nat) (a0 : Int64) (a2 : Int64) (σ : Mm) : Option (Int64 × Mm) :=
  bnd (f_X12_size Y a0 σ) (fun (r_3 : Int64) (σ_2 : Mm) =>
    bnd (f_X12_size Y a2 σ_2) (fun (r_6 : Int64) (σ_5 : Mm) =>
    b_X12_divisor_12 Y fu a0 a2 fu r_3 r_6 σ_5))
def b_X12_fit_279 (Y : Yt) (fu : Nat) (this : Nat) (a1 : Int32) (a2 : Int32) (x13 : Int64) (t0 : Int64) (σ : Mm) : Option (Int64 × Mm) :=
  bnd (f_X12_divisor Y fu t0 x13 σ) (fun (r_10 : Int64) (σ_9 : Mm) =>
    if (a2 - a2 / 2 * 2) = 0 then
    if r_10 = 0 then none else
    some ((t0 / r_10), σ_9)
  else
    if r_10 = 0 then none else
    some ((x13 / r_10), σ_9))
def b_X12_fit_254 (Y : Yt) (fu : Nat) (this : Nat) (a1 : Int32) (a2 : Int32) (k185 : Int64 → Int64 → Int64 → Int32 → Int32 → Mm → Option (Int64 × Mm)) (x13 : Int64) (x15 : Int64) (x17 : Int64) (x20 : Int32) (t0 : Int32) (t1 : Int32) (σ : Mm) : Option (Int64 × Mm) :=
  lt_ (t1 + t0) (fun (x19_26 : Int32) =>
    lt_ (x20 + 1) (fun (x20_27 : Int32) =>
    k185 x13 x15 x17 x19_26 x20_27 σ))
def s_X12_fit_185 (Y : Yt) (fu : Nat) (this : Nat) (a1 : Int32) (a2 : Int32) (k185 : Int64 → Int64 → Int64 → Int32 → Int32 → Mm → Option (Int64 × Mm)) (x13 : Int64) (x15 : Int64) (x17 : Int64) (x19 : Int32) (x20 : Int32) (σ : Mm) : Option (Int64 × Mm) :=
  if (Mm.gi σ this 34) ≤ x20 then
    some ((Int32.toInt64 x19), σ)
  else
    if inb x20 24 = true then
    if inb ((24 * a1) + x20) 12000 = true then
    lt_ ((((Int32.toInt64 (Mm.gi σ 618 (ix x20))) * x13) - x15) - ((Int32.toInt64 (Mm.gi σ 620 (ix ((24 * a1) + x20)))) * x17)) (fun (x21_19 : Int64) =>
    bnd (f_X12_size Y x21_19 σ) (fun (r_22 : Int64) (σ_21 : Mm) =>
    if inb x20 24 = true then
    if r_22 ≤ ((Int32.toInt64 (Mm.gi σ_21 619 (ix x20))) * x13) then
    b_X12_fit_254 Y fu this a1 a2 k185 x13 x15 x17 x20 0 x19 σ_21
  else
    b_X12_fit_254 Y fu this a1 a2 k185 x13 x15 x17 x20 1 x19 σ_21
  else none))
  else none
  else none
def b_X12_fit_185 (Y : Yt) (fu : Nat) (this : Nat) (a1 : Int32) (a2 : Int32) (n : Nat) : Int64 → Int64 → Int64 → Int32 → Int32 → Mm → Option (Int64 × Mm) := lp (s_X12_fit_185 Y fu this a1 a2 ) (fun _ _ _ _ _ _ => none) n
def s_X12_fit_61 (Y : Yt) (fu : Nat) (this : Nat) (a1 : Int32) (a2 : Int32) (k61 : Int64 → Int64 → Int64 → Int64 → Int64 → Int32 → Mm → Option (Int64 × Mm)) (x3 : Int64) (x5 : Int64) (x7 : Int64) (x9 : Int64) (x11 : Int64) (x13 : Int32) (σ : Mm) : Option (Int64 × Mm) :=
  if (Mm.gi σ this 34) ≤ x13 then
    lt_ ((x3 * x7) - (x5 * x5)) (fun (x13_5 : Int64) =>
    lt_ ((x7 * x9) - (x5 * x11)) (fun (x15_6 : Int64) =>
    lt_ ((x3 * x11) - (x5 * x9)) (fun (x17_7 : Int64) =>
    if a2 = 4 then
    b_X12_fit_185 Y fu this a1 a2 fu x13_5 x15_6 x17_7 0 0 σ
  else
    if 2 ≤ a2 then
    b_X12_fit_279 Y fu this a1 a2 x13_5 x17_7 σ
  else
    b_X12_fit_279 Y fu this a1 a2 x13_5 x15_6 σ)))
  else
    if inb ((24 * a1) + x13) 12000 = true then
    lt_ (Int32.toInt64 (Mm.gi σ 620 (ix ((24 * a1) + x13)))) (fun (x14_31 : Int64) =>
    lt_ (x5 + x14_31) (fun (x5_32 : Int64) =>
    lt_ (x7 + (x14_31 * x14_31)) (fun (x7_33 : Int64) =>
    if inb x13 24 = true then
    lt_ (x9 + (Int32.toInt64 (Mm.gi σ 618 (ix x13)))) (fun (x9_37 : Int64) =>
    if inb x13 24 = true then
    lt_ (x11 + (x14_31 * (Int32.toInt64 (Mm.gi σ 618 (ix x13))))) (fun (x11_41 : Int64) =>
    lt_ (x13 + 1) (fun (x13_42 : Int32) =>
    k61 x3 x5_32 x7_33 x9_37 x11_41 x13_42 σ))
  else none)
  else none)))
  else none
def b_X12_fit_61 (Y : Yt) (fu : Nat) (this : Nat) (a1 : Int32) (a2 : Int32) (n : Nat) : Int64 → Int64 → Int64 → Int64 → Int64 → Int32 → Mm → Option (Int64 × Mm) := lp (s_X12_fit_61 Y fu this a1 a2 ) (fun _ _ _ _ _ _ _ => none) n
def f_X12_fit (Y : Yt) (fu : Nat) (this : Nat) (a1 : Int32) (a2 : Int32) (σ : Mm) : Option (Int64 × Mm) :=
  if a1 < 0 then
    some ((-1000000000000000000), σ)
  else
    bnd (f_X12_in Y (Int32.toInt64 a2) 0 4 σ) (fun (r_3 : Int32) (σ_2 : Mm) =>
    if r_3 = 0 then
    some ((-1000000000000000000), σ_2)
  else
    if (Mm.gi σ_2 this 32) = 1 then
    if a1 < (Mm.gi σ_2 this 33) then
    lt_ (Int32.toInt64 (Mm.gi σ_2 this 34)) (fun (x3_4 : Int64) =>
    b_X12_fit_61 Y fu this a1 a2 fu x3_4 0 0 0 0 0 σ_2)
  else
    some ((-1000000000000000002), σ_2)
  else
    some ((-1000000000000000002), σ_2))
def s_X12_layBoth_106 (Y : Yt) (fu : Nat) (this : Nat) (a1 : Int32) (a2 : Int32) (k106 : Int32 → Mm → Option (Int32 × Mm)) (x3 : Int32) (σ : Mm) : Option (Int32 × Mm) :=
  if (Mm.gi σ this 54) ≤ x3 then
    if (Mm.gi σ this 54) < 2 then
    zret 0 σ
  else
    zret 1 σ
  else
    if inb x3 24 = true then
    if inb x3 7 = true then
    lt_ (Mm.si σ 633 (ix x3) (Mm.gi σ 616 (ix x3))) (fun (σ_15 : Mm) =>
    lt_ (x3 + 1) (fun (x3_16 : Int32) =>
    k106 x3_16 σ_15))
  else none
  else none
def b_X12_layBoth_106 (Y : Yt) (fu : Nat) (this : Nat) (a1 : Int32) (a2 : Int32) (n : Nat) : Int32 → Mm → Option (Int32 × Mm) := lp (s_X12_layBoth_106 Y fu this a1 a2 ) (fun _ _ => none) n
def b_X12_layBoth_101 (Y : Yt) (fu : Nat) (this : Nat) (a1 : Int32) (a2 : Int32) (t0 : Int32) (t1 : Nat) (σ : Mm) : Option (Int32 × Mm) :=
  lt_ (Mm.si σ t1 54 t0) (fun (σ_8 : Mm) =>
    b_X12_layBoth_106 Y fu this a1 a2 fu 0 σ_8)
def s_X12_layBoth_38 (Y : Yt) (fu : Nat) (this : Nat) (a1 : Int32) (a2 : Int32) (k38 : Int32 → Mm → Option (Int32 × Mm)) (x3 : Int32) (σ : Mm) : Option (Int32 × Mm) :=
  if (Mm.gi σ this 54) ≤ x3 then
    bnd (f_X12_layRest Y fu this a2 (Mm.gi σ this 7) σ) (fun (r_7 : Int32) (σ_6 : Mm) =>
    if r_7 = 0 then
    zret 0 σ_6
  else
    if (Mm.gi σ_6 this 54) ≤ (Mm.gi σ_6 this 22) then
    b_X12_layBoth_101 Y fu this a1 a2 (Mm.gi σ_6 this 54) this σ_6
  else
    b_X12_layBoth_101 Y fu this a1 a2 (Mm.gi σ_6 this 22) this σ_6)
  else
    if inb x3 24 = true then
    if inb x3 7 = true then
    lt_ (Mm.si σ 632 (ix x3) (Mm.gi σ 616 (ix x3))) (fun (σ_23 : Mm) =>
    lt_ (x3 + 1) (fun (x3_24 : Int32) =>
    k38 x3_24 σ_23))
  else none
  else none
def b_X12_layBoth_38 (Y : Yt) (fu : Nat) (this : Nat) (a1 : Int32) (a2 : Int32) (n : Nat) : Int32 → Mm → Option (Int32 × Mm) := lp (s_X12_layBoth_38 Y fu this a1 a2 ) (fun _ _ => none) n
def b_X12_layBoth_33 (Y : Yt) (fu : Nat) (this : Nat) (a1 : Int32) (a2 : Int32) (t0 : Int32) (t1 : Nat) (σ : Mm) : Option (Int32 × Mm) :=
  lt_ (Mm.si σ t1 54 t0) (fun (σ_4 : Mm) =>
    b_X12_layBoth_38 Y fu this a1 a2 fu 0 σ_4)
def f_X12_layBoth (Y : Yt) (fu : Nat) (this : Nat) (a1 : Int32) (a2 : Int32) (σ : Mm) : Option (Int32 × Mm) :=
  bnd (f_X12_layRest Y fu this a1 (Mm.gi σ this 7) σ) (fun (r_3 : Int32) (σ_2 : Mm) =>
    if r_3 = 0 then
    zret 0 σ_2
  else
    if 7 ≤ (Mm.gi σ_2 this 22) then
    b_X12_layBoth_33 Y fu this a1 a2 7 this σ_2
  else
    b_X12_layBoth_33 Y fu this a1 a2 (Mm.gi σ_2 this 22) this σ_2)
def b_X12_productsBy_75 (Y : Yt) (fu : Nat) (this : Nat) (a1 : Int32) (k10 : Int32 → Int32 → Int64 → Int32 → Mm → Option (Int64 × Mm)) (k43 : Int32 → Int32 → Int64 → Int32 → Int32 → Int32 → Mm → Option (Int64 × Mm)) (x2 : Int32) (x3 : Int32) (x4 : Int64) (x6 : Int32) (x8 : Int32) (t0 : Int32) (t1 : Int32) (σ : Mm) : Option (Int64 × Mm) :=
  lt_ (t1 - t0) (fun (x7_5 : Int32) =>
    lt_ (x8 + 1) (fun (x8_6 : Int32) =>
    k43 x2 x3 x4 x6 x7_5 x8_6 σ))
def b_X12_productsBy_58 (Y : Yt) (fu : Nat) (this : Nat) (a1 : Int32) (k10 : Int32 → Int32 → Int64 → Int32 → Mm → Option (Int64 × Mm)) (k43 : Int32 → Int32 → Int64 → Int32 → Int32 → Int32 → Mm → Option (Int64 × Mm)) (x2 : Int32) (x3 : Int32) (x4 : Int64) (x6 : Int32) (x7 : Int32) (x8 : Int32) (σ : Mm) : Option (Int64 × Mm) :=
  if ((x3 >>> (x8 &&& 31)) &&& 1) = 1 then
    b_X12_productsBy_75 Y fu this a1 k10 k43 x2 x3 x4 x6 x8 0 x7 σ
  else
    b_X12_productsBy_75 Y fu this a1 k10 k43 x2 x3 x4 x6 x8 1 x7 σ
def s_X12_productsBy_43 (Y : Yt) (fu : Nat) (this : Nat) (a1 : Int32) (k10 : Int32 → Int32 → Int64 → Int32 → Mm → Option (Int64 × Mm)) (k43 : Int32 → Int32 → Int64 → Int32 → Int32 → Int32 → Mm → Option (Int64 × Mm)) (x2 : Int32) (x3 : Int32) (x4 : Int64) (x6 : Int32) (x7 : Int32) (x8 : Int32) (σ : Mm) : Option (Int64 × Mm) :=
  if ((x3 >>> (x8 &&& 31)) &&& 1) = 1 then
    b_X12_productsBy_58 Y fu this a1 k10 k43 x2 x3 x4 x6 x7 x8 σ
  else
    if x7 ≤ 0 then
    lt_ (x3 ||| (1 <<< (x8 &&& 31))) (fun (x3_7 : Int32) =>
    if inb x6 7 = true then
    if inb x8 7 = true then
    lt_ (x4 + ((Int32.toInt64 (Mm.gi σ 632 (ix x6))) * (Int32.toInt64 (Mm.gi σ 633 (ix x8))))) (fun (x4_14 : Int64) =>
    lt_ (x6 + 1) (fun (x6_15 : Int32) =>
    k10 x2 x3_7 x4_14 x6_15 σ))
  else none
  else none)
  else
    b_X12_productsBy_58 Y fu this a1 k10 k43 x2 x3 x4 x6 x7 x8 σ
def b_X12_productsBy_43 (Y : Yt) (fu : Nat) (this : Nat) (a1 : Int32) (k10 : Int32 → Int32 → Int64 → Int32 → Mm → Option (Int64 × Mm)) (n : Nat) : Int32 → Int32 → Int64 → Int32 → Int32 → Int32 → Mm → Option (Int64 × Mm) := lp (s_X12_productsBy_43 Y fu this a1 k10) (fun _ _ _ _ _ _ _ => none) n
def s_X12_productsBy_10 (Y : Yt) (fu : Nat) (this : Nat) (a1 : Int32) (k10 : Int32 → Int32 → Int64 → Int32 → Mm → Option (Int64 × Mm)) (x2 : Int32) (x3 : Int32) (x4 : Int64) (x6 : Int32) (σ : Mm) : Option (Int64 × Mm) :=
  if (Mm.gi σ this 54) ≤ x6 then
    some (x4, σ)
  else
    if ((Mm.gi σ this 54) - x6) = 0 then none else
    lt_ (x2 - x2 / ((Mm.gi σ this 54) - x6) * ((Mm.gi σ this 54) - x6)) (fun (x7_2 : Int32) =>
    if ((Mm.gi σ this 54) - x6) = 0 then none else
    lt_ (x2 / ((Mm.gi σ this 54) - x6)) (fun (x2_4 : Int32) =>
    b_X12_productsBy_43 Y fu this a1 k10 fu x2_4 x3 x4 x6 x7_2 0 σ))
def b_X12_productsBy_10 (Y : Yt) (fu : Nat) (this : Nat) (a1 : Int32) (n : Nat) : Int32 → Int32 → Int64 → Int32 → Mm → Option (Int64 × Mm) := lp (s_X12_productsBy_10 Y fu this a1 ) (fun _ _ _ _ _ => none) n
def f_X12_productsBy (Y : Yt) (fu : Nat) (this : Nat) (a1 : Int32) (σ : Mm) : Option (Int64 × Mm) :=
  b_X12_productsBy_10 Y fu this a1 fu a1 0 0 0 σ
def f_X12_hum (Y : Yt) (fu : Nat) (this : Nat) (a1 : Int32) (a2 : Int32) (σ : Mm) : Option (Int64 × Mm) :=
  bnd (f_X12_isStar Y a1 σ) (fun (r_3 : Int32) (σ_2 : Mm) =>
    if r_3 = 0 then
    some ((-1000000000000000000), σ_2)
  else
    bnd (f_X12_isStar Y a2 σ_2) (fun (r_6 : Int32) (σ_5 : Mm) =>
    if r_6 = 0 then
    some ((-1000000000000000000), σ_5)
  else
    if a1 = a2 then
    some ((-1000000000000000000), σ_5)
  else
    bnd (f_X12_layBoth Y fu this a1 a2 σ_5) (fun (r_9 : Int32) (σ_8 : Mm) =>
    if r_9 = 0 then
    some ((-1000000000000000002), σ_8)
  else
    bnd (f_X12_productsBy Y fu this 0 σ_8) (fun (r_12 : Int64) (σ_11 : Mm) =>
    some (r_12, σ_11)))))
def f_X12_down (Y : Yt) (a0 : Int64) (a2 : Int64) (σ : Mm) : Option (Int64 × Mm) :=
  if a0 < 0 then
    if a2 = 0 then none else
    some ((-((((-a0) + a2) - 1) / a2)), σ)
  else
    if a2 = 0 then none else
    some ((a0 / a2), σ)
def f_X12_up (Y : Yt) (a0 : Int64) (a2 : Int64) (σ : Mm) : Option (Int64 × Mm) :=
  if a0 < 0 then
    if a2 = 0 then none else
    some ((-((-a0) / a2)), σ)
  else
    if a2 = 0 then none else
    some ((((a0 + a2) - 1) / a2), σ)
def b_X12_leftAt_155 (Y : Yt) (fu : Nat) (this : Nat) (a1 : Int32) (a2 : Int32) (k53 : Int64 → Int64 → Int32 → Int32 → Mm → Option (Int32 × Mm)) (x3 : Int64) (x5 : Int64) (x8 : Int32) (t0 : Int32) (t1 : Int32) (σ : Mm) : Option (Int32 × Mm) :=
  lt_ (t1 + t0) (fun (x7_37 : Int32) =>
    lt_ (x8 + 1) (fun (x8_38 : Int32) =>
    k53 x3 x5 x7_37 x8_38 σ))
def b_X12_leftAt_120 (Y : Yt) (fu : Nat) (this : Nat) (a1 : Int32) (a2 : Int32) (k53 : Int64 → Int64 → Int32 → Int32 → Mm → Option (Int32 × Mm)) (x3 : Int64) (x5 : Int64) (x7 : Int32) (x8 : Int32) (t0 : Int64) (σ : Mm) : Option (Int32 × Mm) :=
  if inb x8 500 = true then
    if inb x8 500 = true then
    bnd (f_X12_down Y (x5 * (Mm.gl σ 622 (ix x8))) (Mm.gl σ 621 (ix x8)) σ) (fun (r_36 : Int64) (σ_35 : Mm) =>
    if r_36 < t0 then
    b_X12_leftAt_155 Y fu this a1 a2 k53 x3 x5 x8 0 x7 σ_35
  else
    b_X12_leftAt_155 Y fu this a1 a2 k53 x3 x5 x8 1 x7 σ_35)
  else none
  else none
def s_X12_leftAt_53 (Y : Yt) (fu : Nat) (this : Nat) (a1 : Int32) (a2 : Int32) (k53 : Int64 → Int64 → Int32 → Int32 → Mm → Option (Int32 × Mm)) (x3 : Int64) (x5 : Int64) (x7 : Int32) (x8 : Int32) (σ : Mm) : Option (Int32 × Mm) :=
  if (Mm.gi σ this 33) ≤ x8 then
    some (x7, σ)
  else
    if inb x8 500 = true then
    if inb x8 500 = true then
    bnd (f_X12_up Y (x3 * (Mm.gl σ 624 (ix x8))) (Mm.gl σ 623 (ix x8)) σ) (fun (r_23 : Int64) (σ_22 : Mm) =>
    if inb (((24 * x8) + (Mm.gi σ_22 this 34)) - 1) 12000 = true then
    lt_ (Int32.toInt64 ((Mm.gi σ_22 620 (ix (((24 * x8) + (Mm.gi σ_22 this 34)) - 1))) + 1)) (fun (x11_27 : Int64) =>
    if r_23 ≤ x11_27 then
    b_X12_leftAt_120 Y fu this a1 a2 k53 x3 x5 x7 x8 x11_27 σ_22
  else
    b_X12_leftAt_120 Y fu this a1 a2 k53 x3 x5 x7 x8 r_23 σ_22)
  else none)
  else none
  else none
def b_X12_leftAt_53 (Y : Yt) (fu : Nat) (this : Nat) (a1 : Int32) (a2 : Int32) (n : Nat) : Int64 → Int64 → Int32 → Int32 → Mm → Option (Int32 × Mm) := lp (s_X12_leftAt_53 Y fu this a1 a2 ) (fun _ _ _ _ _ => none) n
def f_X12_leftAt (Y : Yt) (fu : Nat) (this : Nat) (a1 : Int32) (a2 : Int32) (σ : Mm) : Option (Int32 × Mm) :=
  if inb 0 24 = true then
    if inb 0 24 = true then
    lt_ (1000 * (Int32.toInt64 (((a1 - (Mm.gi σ 618 (ix 0))) - a2) - (Mm.gi σ 619 (ix 0))))) (fun (x3_7 : Int64) =>
    if inb 0 24 = true then
    if inb 0 24 = true then
    lt_ (1000 * (Int32.toInt64 (((a1 - (Mm.gi σ 618 (ix 0))) + a2) + (Mm.gi σ 619 (ix 0))))) (fun (x5_14 : Int64) =>
    b_X12_leftAt_53 Y fu this a1 a2 fu x3_7 x5_14 0 0 σ)
  else none
  else none)
  else none
  else none
def f_X12_left (Y : Yt) (fu : Nat) (this : Nat) (a1 : Int32) (a2 : Int32) (σ : Mm) : Option (Int32 × Mm) :=
  bnd (f_X12_in Y (Int32.toInt64 a1) 0 2000000 σ) (fun (r_3 : Int32) (σ_2 : Mm) =>
    if r_3 = 0 then
    some ((-1), σ_2)
  else
    bnd (f_X12_in Y (Int32.toInt64 a2) 0 1000 σ_2) (fun (r_6 : Int32) (σ_5 : Mm) =>
    if r_6 = 0 then
    some ((-1), σ_5)
  else
    if (Mm.gi σ_5 this 32) = 1 then
    if inb ((Mm.gi σ_5 this 34) - 1) 24 = true then
    if (Mm.gi σ_5 618 (ix ((Mm.gi σ_5 this 34) - 1))) ≤ a1 then
    bnd (f_X12_leftAt Y fu this a1 a2 σ_5) (fun (r_12 : Int32) (σ_11 : Mm) =>
    some (r_12, σ_11))
  else
    some ((-2), σ_5)
  else none
  else
    some ((-2), σ_5)))
def b_X12_look_150 (Y : Yt) (fu : Nat) (this : Nat) (a1 : Int32) (a2 : Int32) (a3 : Int32) (a4 : Int32) (k99 : Int32 → Int32 → Int32 → Mm → Option (Int32 × Mm)) (x5 : Int32) (x6 : Int32) (x7 : Int32) (σ : Mm) : Option (Int32 × Mm) :=
  lt_ (x7 + 1) (fun (x7_19 : Int32) =>
    k99 x5 x6 x7_19 σ)
def b_X12_look_138 (Y : Yt) (fu : Nat) (this : Nat) (a1 : Int32) (a2 : Int32) (a3 : Int32) (a4 : Int32) (k99 : Int32 → Int32 → Int32 → Mm → Option (Int32 × Mm)) (x7 : Int32) (x8 : Int32) (σ : Mm) : Option (Int32 × Mm) :=
  lt_ (a1 + (a2 * x7)) (fun (x5_20 : Int32) =>
    b_X12_look_150 Y fu this a1 a2 a3 a4 k99 x5_20 x8 x7 σ)
def s_X12_look_99 (Y : Yt) (fu : Nat) (this : Nat) (a1 : Int32) (a2 : Int32) (a3 : Int32) (a4 : Int32) (k99 : Int32 → Int32 → Int32 → Mm → Option (Int32 × Mm)) (x5 : Int32) (x6 : Int32) (x7 : Int32) (σ : Mm) : Option (Int32 × Mm) :=
  if a3 ≤ x7 then
    some (x5, σ)
  else
    bnd (f_X12_leftAt Y fu this (a1 + (a2 * x7)) a4 σ) (fun (r_18 : Int32) (σ_17 : Mm) =>
    if r_18 ≤ 0 then
    b_X12_look_150 Y fu this a1 a2 a3 a4 k99 x5 x6 x7 σ_17
  else
    if x5 = (-4) then
    b_X12_look_138 Y fu this a1 a2 a3 a4 k99 x7 r_18 σ_17
  else
    if x6 ≤ r_18 then
    b_X12_look_150 Y fu this a1 a2 a3 a4 k99 x5 x6 x7 σ_17
  else
    b_X12_look_138 Y fu this a1 a2 a3 a4 k99 x7 r_18 σ_17)
def b_X12_look_99 (Y : Yt) (fu : Nat) (this : Nat) (a1 : Int32) (a2 : Int32) (a3 : Int32) (a4 : Int32) (n : Nat) : Int32 → Int32 → Int32 → Mm → Option (Int32 × Mm) := lp (s_X12_look_99 Y fu this a1 a2 a3 a4 ) (fun _ _ _ _ => none) n
def f_X12_look (Y : Yt) (fu : Nat) (this : Nat) (a1 : Int32) (a2 : Int32) (a3 : Int32) (a4 : Int32) (σ : Mm) : Option (Int32 × Mm) :=
  bnd (f_X12_in Y (Int32.toInt64 a1) 0 2000000 σ) (fun (r_3 : Int32) (σ_2 : Mm) =>
    if r_3 = 0 then
    some ((-1), σ_2)
  else
    bnd (f_X12_in Y (Int32.toInt64 a2) 1 100000 σ_2) (fun (r_6 : Int32) (σ_5 : Mm) =>
    if r_6 = 0 then
    some ((-1), σ_5)
  else
    bnd (f_X12_in Y (Int32.toInt64 a3) 1 20 σ_5) (fun (r_9 : Int32) (σ_8 : Mm) =>
    if r_9 = 0 then
    some ((-1), σ_8)
  else
    bnd (f_X12_in Y (Int32.toInt64 a4) 0 1000 σ_8) (fun (r_12 : Int32) (σ_11 : Mm) =>
    if r_12 = 0 then
    some ((-1), σ_11)
  else
    if (a1 + (a2 * (a3 - 1))) ≤ 2000000 then
    if (Mm.gi σ_11 this 32) = 1 then
    if inb ((Mm.gi σ_11 this 34) - 1) 24 = true then
    if (Mm.gi σ_11 618 (ix ((Mm.gi σ_11 this 34) - 1))) ≤ a1 then
    b_X12_look_99 Y fu this a1 a2 a3 a4 fu (-4) 0 0 σ_11
  else
    some ((-2), σ_11)
  else none
  else
    some ((-2), σ_11)
  else
    some ((-1), σ_11)))))
def f_X12_loop (Y : Yt) (fu : Nat) (this : Nat) (a1 : Int32) (a2 : Int32) (a3 : Int32) (σ : Mm) : Option (Int32 × Mm) :=
  bnd (f_X12_isTool Y a1 σ) (fun (r_3 : Int32) (σ_2 : Mm) =>
    if r_3 = 0 then
    some ((-10000000), σ_2)
  else
    bnd (f_X12_isTool Y a2 σ_2) (fun (r_6 : Int32) (σ_5 : Mm) =>
    if r_6 = 0 then
    some ((-10000000), σ_5)
  else
    bnd (f_X12_isTool Y a3 σ_5) (fun (r_9 : Int32) (σ_8 : Mm) =>
    if r_9 = 0 then
    some ((-10000000), σ_8)
  else
    if a1 = a2 then
    some ((-10000000), σ_8)
  else
    if a2 = a3 then
    some ((-10000000), σ_8)
  else
    if a1 = a3 then
    some ((-10000000), σ_8)
  else
    bnd (f_X12_between Y fu this a1 a2 σ_8) (fun (r_12 : Int32) (σ_11 : Mm) =>
    bnd (f_X12_between Y fu this a2 a3 σ_11) (fun (r_15 : Int32) (σ_14 : Mm) =>
    bnd (f_X12_between Y fu this a1 a3 σ_14) (fun (r_18 : Int32) (σ_17 : Mm) =>
    if r_12 = (-10000002) then
    some ((-10000002), σ_17)
  else
    if r_15 = (-10000002) then
    some ((-10000002), σ_17)
  else
    if r_18 = (-10000002) then
    some ((-10000002), σ_17)
  else
    some (((r_12 + r_15) - r_18), σ_17)))))))
def f_X12_many (Y : Yt) (fu : Nat) (this : Nat) (a1 : Int32) (σ : Mm) : Option (Int32 × Mm) :=
  bnd (f_X12_isStar Y a1 σ) (fun (r_3 : Int32) (σ_2 : Mm) =>
    if r_3 = 0 then
    some ((-1), σ_2)
  else
    bn1 (f_X12_layCounts Y fu this a1 σ_2) (fun (σ_5 : Mm) =>
    some ((Mm.gi σ_5 this 22), σ_5)))
def s_X12_model_167 (Y : Yt) (fu : Nat) (this : Nat) (a1 : Int32) (k141 : Int32 → Mm → Option (Int32 × Mm)) (k167 : Int32 → Int32 → Mm → Option (Int32 × Mm)) (x2 : Int32) (x3 : Int32) (σ : Mm) : Option (Int32 × Mm) :=
  if 4 ≤ x3 then
    lt_ (x2 + 1) (fun (x2_53 : Int32) =>
    k141 x2_53 σ)
  else
    if inb ((4 * (8 + x2)) + x3) 40 = true then
    if inb ((4 * ((2 * a1) + x2)) + x3) 40 = true then
    lt_ (Mm.si σ 612 (ix ((4 * ((2 * a1) + x2)) + x3)) (Mm.gi σ 612 (ix ((4 * (8 + x2)) + x3)))) (fun (σ_60 : Mm) =>
    lt_ (x3 + 1) (fun (x3_61 : Int32) =>
    k167 x2 x3_61 σ_60))
  else none
  else none
def b_X12_model_167 (Y : Yt) (fu : Nat) (this : Nat) (a1 : Int32) (k141 : Int32 → Mm → Option (Int32 × Mm)) (n : Nat) : Int32 → Int32 → Mm → Option (Int32 × Mm) := lp (s_X12_model_167 Y fu this a1 k141) (fun _ _ _ => none) n
def s_X12_model_141 (Y : Yt) (fu : Nat) (this : Nat) (a1 : Int32) (k141 : Int32 → Mm → Option (Int32 × Mm)) (x2 : Int32) (σ : Mm) : Option (Int32 × Mm) :=
  if 2 ≤ x2 then
    some ((Mm.gi σ this 25), σ)
  else
    if inb (8 + x2) 10 = true then
    if inb ((2 * a1) + x2) 10 = true then
    lt_ (Mm.si σ 611 (ix ((2 * a1) + x2)) (Mm.gi σ 611 (ix (8 + x2)))) (fun (σ_52 : Mm) =>
    b_X12_model_167 Y fu this a1 k141 fu x2 0 σ_52)
  else none
  else none
def b_X12_model_141 (Y : Yt) (fu : Nat) (this : Nat) (a1 : Int32) (n : Nat) : Int32 → Mm → Option (Int32 × Mm) := lp (s_X12_model_141 Y fu this a1 ) (fun _ _ => none) n
def s_X12_model_78 (Y : Yt) (fu : Nat) (this : Nat) (a1 : Int32) (k78 : Int32 → Mm → Option (Int32 × Mm)) (x2 : Int32) (σ : Mm) : Option (Int32 × Mm) :=
  if 3 ≤ x2 then
    if inb 4 5 = true then
    if inb a1 5 = true then
    lt_ (Mm.si σ 610 (ix a1) (Mm.gi σ 610 (ix 4))) (fun (σ_45 : Mm) =>
    b_X12_model_141 Y fu this a1 fu 0 σ_45)
  else none
  else none
  else
    if inb (12 + x2) 15 = true then
    if inb ((3 * a1) + x2) 15 = true then
    lt_ (Mm.si σ 608 (ix ((3 * a1) + x2)) (Mm.gi σ 608 (ix (12 + x2)))) (fun (σ_68 : Mm) =>
    if inb (12 + x2) 15 = true then
    if inb ((3 * a1) + x2) 15 = true then
    lt_ (Mm.si σ_68 609 (ix ((3 * a1) + x2)) (Mm.gi σ_68 609 (ix (12 + x2)))) (fun (σ_75 : Mm) =>
    lt_ (x2 + 1) (fun (x2_76 : Int32) =>
    k78 x2_76 σ_75))
  else none
  else none)
  else none
  else none
def b_X12_model_78 (Y : Yt) (fu : Nat) (this : Nat) (a1 : Int32) (n : Nat) : Int32 → Mm → Option (Int32 × Mm) := lp (s_X12_model_78 Y fu this a1 ) (fun _ _ => none) n
def f_X12_model (Y : Yt) (fu : Nat) (this : Nat) (a1 : Int32) (σ : Mm) : Option (Int32 × Mm) :=
  bnd (f_X12_isStar Y a1 σ) (fun (r_3 : Int32) (σ_2 : Mm) =>
    if r_3 = 0 then
    some ((-1), σ_2)
  else
    bnd (f_X12_fault Y fu this σ_2) (fun (r_6 : Int32) (σ_5 : Mm) =>
    if r_6 = (-4) then
    if inb a1 4 = true then
    lt_ (Mm.si σ_5 603 (ix a1) 1) (fun (σ_10 : Mm) =>
    if inb 4 5 = true then
    if inb a1 5 = true then
    lt_ (Mm.si σ_10 604 (ix a1) (Mm.gi σ_10 604 (ix 4))) (fun (σ_17 : Mm) =>
    if inb 4 5 = true then
    if inb a1 5 = true then
    lt_ (Mm.si σ_17 605 (ix a1) (Mm.gi σ_17 605 (ix 4))) (fun (σ_24 : Mm) =>
    if inb 4 5 = true then
    if inb a1 5 = true then
    lt_ (Mm.si σ_24 606 (ix a1) (Mm.gi σ_24 606 (ix 4))) (fun (σ_31 : Mm) =>
    if inb 4 5 = true then
    if inb a1 5 = true then
    lt_ (Mm.si σ_31 607 (ix a1) (Mm.gi σ_31 607 (ix 4))) (fun (σ_38 : Mm) =>
    b_X12_model_78 Y fu this a1 fu 0 σ_38)
  else none
  else none)
  else none
  else none)
  else none
  else none)
  else none
  else none)
  else none
  else
    some ((-2), σ_5)))
def s_X12_moved_65 (Y : Yt) (fu : Nat) (this : Nat) (a1 : Int32) (k65 : Int64 → Int32 → Mm → Option (Int64 × Mm)) (x2 : Int64) (x4 : Int32) (σ : Mm) : Option (Int64 × Mm) :=
  if (Mm.gi σ this 22) ≤ x4 then
    some (x2, σ)
  else
    if inb x4 24 = true then
    if inb x4 24 = true then
    bnd (f_X12_size Y ((Int32.toInt64 (Mm.gi σ 616 (ix x4))) - (Mm.gl σ 631 (ix x4))) σ) (fun (r_18 : Int64) (σ_17 : Mm) =>
    lt_ (x2 + r_18) (fun (x2_19 : Int64) =>
    lt_ (x4 + 1) (fun (x4_20 : Int32) =>
    k65 x2_19 x4_20 σ_17)))
  else none
  else none
def b_X12_moved_65 (Y : Yt) (fu : Nat) (this : Nat) (a1 : Int32) (n : Nat) : Int64 → Int32 → Mm → Option (Int64 × Mm) := lp (s_X12_moved_65 Y fu this a1 ) (fun _ _ _ => none) n
def s_X12_moved_26 (Y : Yt) (fu : Nat) (this : Nat) (a1 : Int32) (k26 : Int32 → Mm → Option (Int64 × Mm)) (x2 : Int32) (σ : Mm) : Option (Int64 × Mm) :=
  if (Mm.gi σ this 22) ≤ x2 then
    bnd (f_X12_layRest Y fu this a1 1 σ) (fun (r_9 : Int32) (σ_8 : Mm) =>
    b_X12_moved_65 Y fu this a1 fu 0 0 σ_8)
  else
    if inb x2 24 = true then
    if inb x2 24 = true then
    lt_ (Mm.sl σ 631 (ix x2) (Int32.toInt64 (Mm.gi σ 616 (ix x2)))) (fun (σ_27 : Mm) =>
    lt_ (x2 + 1) (fun (x2_28 : Int32) =>
    k26 x2_28 σ_27))
  else none
  else none
def b_X12_moved_26 (Y : Yt) (fu : Nat) (this : Nat) (a1 : Int32) (n : Nat) : Int32 → Mm → Option (Int64 × Mm) := lp (s_X12_moved_26 Y fu this a1 ) (fun _ _ => none) n
def f_X12_moved (Y : Yt) (fu : Nat) (this : Nat) (a1 : Int32) (σ : Mm) : Option (Int64 × Mm) :=
  bnd (f_X12_isStar Y a1 σ) (fun (r_3 : Int32) (σ_2 : Mm) =>
    if r_3 = 0 then
    some ((-1), σ_2)
  else
    bnd (f_X12_layRest Y fu this a1 0 σ_2) (fun (r_6 : Int32) (σ_5 : Mm) =>
    if r_6 = 0 then
    some ((-2), σ_5)
  else
    b_X12_moved_26 Y fu this a1 fu 0 σ_5))
def f_X12_offset (Y : Yt) (this : Nat) (a1 : Int32) (a2 : Int32) (σ : Mm) : Option (Int32 × Mm) :=
  bnd (f_X12_isTool Y a1 σ) (fun (r_3 : Int32) (σ_2 : Mm) =>
    if r_3 = 0 then
    some ((-100000), σ_2)
  else
    bnd (f_X12_in Y (Int32.toInt64 a2) (-1000) 1000 σ_2) (fun (r_6 : Int32) (σ_5 : Mm) =>
    if r_6 = 0 then
    some ((-100000), σ_5)
  else
    if inb a1 3 = true then
    lt_ (Mm.gi σ_5 601 (ix a1)) (fun (x3_10 : Int32) =>
    if inb a1 3 = true then
    lt_ (Mm.si σ_5 601 (ix a1) a2) (fun (σ_14 : Mm) =>
    some (x3_10, σ_14))
  else none)
  else none))
def f_X12_residue (Y : Yt) (fu : Nat) (this : Nat) (a1 : Int32) (a2 : Int32) (σ : Mm) : Option (Int32 × Mm) :=
  bnd (f_X12_isStar Y a1 σ) (fun (r_3 : Int32) (σ_2 : Mm) =>
    if r_3 = 0 then
    some ((-1000000000), σ_2)
  else
    bnd (f_X12_in Y (Int32.toInt64 a2) 0 23 σ_2) (fun (r_6 : Int32) (σ_5 : Mm) =>
    if r_6 = 0 then
    some ((-1000000000), σ_5)
  else
    bnd (f_X12_layRest Y fu this a1 (Mm.gi σ_5 this 7) σ_5) (fun (r_9 : Int32) (σ_8 : Mm) =>
    if r_9 = 0 then
    some ((-1000000002), σ_8)
  else
    if (Mm.gi σ_8 this 22) ≤ a2 then
    some ((-1000000002), σ_8)
  else
    if inb a2 24 = true then
    some ((Mm.gi σ_8 616 (ix a2)), σ_8)
  else none)))
def b_X12_rule_61 (Y : Yt) (this : Nat) (a1 : Int32) (a2 : Int32) (x3 : Int32) (t0 : Int32) (t1 : Nat) (σ : Mm) : Option (Int32 × Mm) :=
  lt_ (Mm.si σ t1 7 t0) (fun (σ_7 : Mm) =>
    if a1 = 1 then
    lt_ (Mm.si σ_7 this 8 a2) (fun (σ_9 : Mm) =>
    some (x3, σ_9))
  else
    lt_ (Mm.si σ_7 this 8 (Mm.gi σ_7 this 8)) (fun (σ_8 : Mm) =>
    some (x3, σ_8)))
def b_X12_rule_47 (Y : Yt) (this : Nat) (a1 : Int32) (a2 : Int32) (t0 : Int32) (σ : Mm) : Option (Int32 × Mm) :=
  if a1 = 0 then
    b_X12_rule_61 Y this a1 a2 t0 a2 this σ
  else
    b_X12_rule_61 Y this a1 a2 t0 (Mm.gi σ this 7) this σ
def b_X12_rule_24 (Y : Yt) (this : Nat) (a1 : Int32) (a2 : Int32) (t0 : Int64) (t1 : Int64) (t2 : Int64) (σ : Mm) : Option (Int32 × Mm) :=
  bnd (f_X12_in Y t2 t1 t0 σ) (fun (r_6 : Int32) (σ_5 : Mm) =>
    if r_6 = 0 then
    some ((-1), σ_5)
  else
    if a1 = 0 then
    b_X12_rule_47 Y this a1 a2 (Mm.gi σ_5 this 7) σ_5
  else
    b_X12_rule_47 Y this a1 a2 (Mm.gi σ_5 this 8) σ_5)
def f_X12_rule (Y : Yt) (this : Nat) (a1 : Int32) (a2 : Int32) (σ : Mm) : Option (Int32 × Mm) :=
  bnd (f_X12_in Y (Int32.toInt64 a1) 0 1 σ) (fun (r_3 : Int32) (σ_2 : Mm) =>
    if r_3 = 0 then
    some ((-1), σ_2)
  else
    if a1 = 0 then
    b_X12_rule_24 Y this a1 a2 1 0 (Int32.toInt64 a2) σ_2
  else
    b_X12_rule_24 Y this a1 a2 2000000 0 (Int32.toInt64 a2) σ_2)
def f_X12_shift (Y : Yt) (this : Nat) (a1 : Int32) (a2 : Int32) (a3 : Int32) (σ : Mm) : Option (Int32 × Mm) :=
  bnd (f_X12_in Y (Int32.toInt64 a1) 0 1 σ) (fun (r_3 : Int32) (σ_2 : Mm) =>
    if r_3 = 0 then
    some ((-100000), σ_2)
  else
    bnd (f_X12_in Y (Int32.toInt64 a2) 0 10 σ_2) (fun (r_6 : Int32) (σ_5 : Mm) =>
    if r_6 = 0 then
    some ((-100000), σ_5)
  else
    bnd (f_X12_in Y (Int32.toInt64 a3) (-500) 500 σ_5) (fun (r_9 : Int32) (σ_8 : Mm) =>
    if r_9 = 0 then
    some ((-100000), σ_8)
  else
    if inb ((11 * a1) + a2) 22 = true then
    lt_ (Mm.gi σ_8 602 (ix ((11 * a1) + a2))) (fun (x4_13 : Int32) =>
    if inb ((11 * a1) + a2) 22 = true then
    lt_ (Mm.si σ_8 602 (ix ((11 * a1) + a2)) a3) (fun (σ_17 : Mm) =>
    some (x4_13, σ_17))
  else none)
  else none)))
def b_X12_shuffled_96 (Y : Yt) (fu : Nat) (this : Nat) (a1 : Int32) (a2 : Int32) (k71 : Int32 → Int64 → Int32 → Int32 → Mm → Option (Int32 × Mm)) (x3 : Int32) (x4 : Int64) (x7 : Int32) (t0 : Int32) (t1 : Int32) (σ : Mm) : Option (Int32 × Mm) :=
  lt_ (t1 + t0) (fun (x6_16 : Int32) =>
    lt_ (x7 + 1) (fun (x7_17 : Int32) =>
    k71 x3 x4 x6_16 x7_17 σ))
def s_X12_shuffled_71 (Y : Yt) (fu : Nat) (this : Nat) (a1 : Int32) (a2 : Int32) (k71 : Int32 → Int64 → Int32 → Int32 → Mm → Option (Int32 × Mm)) (x3 : Int32) (x4 : Int64) (x6 : Int32) (x7 : Int32) (σ : Mm) : Option (Int32 × Mm) :=
  if x3 ≤ x7 then
    some (x6, σ)
  else
    bnd (f_X12_productsBy Y fu this x7 σ) (fun (r_15 : Int64) (σ_14 : Mm) =>
    if r_15 < x4 then
    b_X12_shuffled_96 Y fu this a1 a2 k71 x3 x4 x7 0 x6 σ_14
  else
    b_X12_shuffled_96 Y fu this a1 a2 k71 x3 x4 x7 1 x6 σ_14)
def b_X12_shuffled_71 (Y : Yt) (fu : Nat) (this : Nat) (a1 : Int32) (a2 : Int32) (n : Nat) : Int32 → Int64 → Int32 → Int32 → Mm → Option (Int32 × Mm) := lp (s_X12_shuffled_71 Y fu this a1 a2 ) (fun _ _ _ _ _ => none) n
def s_X12_shuffled_38 (Y : Yt) (fu : Nat) (this : Nat) (a1 : Int32) (a2 : Int32) (k38 : Int32 → Int32 → Mm → Option (Int32 × Mm)) (x3 : Int32) (x4 : Int32) (σ : Mm) : Option (Int32 × Mm) :=
  if (Mm.gi σ this 54) < x4 then
    bnd (f_X12_productsBy Y fu this 0 σ) (fun (r_12 : Int64) (σ_11 : Mm) =>
    b_X12_shuffled_71 Y fu this a1 a2 fu x3 r_12 0 0 σ_11)
  else
    lt_ (x3 * x4) (fun (x3_18 : Int32) =>
    lt_ (x4 + 1) (fun (x4_19 : Int32) =>
    k38 x3_18 x4_19 σ))
def b_X12_shuffled_38 (Y : Yt) (fu : Nat) (this : Nat) (a1 : Int32) (a2 : Int32) (n : Nat) : Int32 → Int32 → Mm → Option (Int32 × Mm) := lp (s_X12_shuffled_38 Y fu this a1 a2 ) (fun _ _ _ => none) n
def f_X12_shuffled (Y : Yt) (fu : Nat) (this : Nat) (a1 : Int32) (a2 : Int32) (σ : Mm) : Option (Int32 × Mm) :=
  bnd (f_X12_isStar Y a1 σ) (fun (r_3 : Int32) (σ_2 : Mm) =>
    if r_3 = 0 then
    some ((-1), σ_2)
  else
    bnd (f_X12_isStar Y a2 σ_2) (fun (r_6 : Int32) (σ_5 : Mm) =>
    if r_6 = 0 then
    some ((-1), σ_5)
  else
    if a1 = a2 then
    some ((-1), σ_5)
  else
    bnd (f_X12_layBoth Y fu this a1 a2 σ_5) (fun (r_9 : Int32) (σ_8 : Mm) =>
    if r_9 = 0 then
    some ((-2), σ_8)
  else
    b_X12_shuffled_38 Y fu this a1 a2 fu 1 2 σ_8)))
def b_X12_sure_85 (Y : Yt) (fu : Nat) (this : Nat) (a1 : Int32) (k48 : Int32 → Int32 → Mm → Option (Int32 × Mm)) (x3 : Int32) (t0 : Int32) (σ : Mm) : Option (Int32 × Mm) :=
  lt_ (x3 + 1) (fun (x3_7 : Int32) =>
    k48 t0 x3_7 σ)
def b_X12_sure_84 (Y : Yt) (fu : Nat) (this : Nat) (a1 : Int32) (k48 : Int32 → Int32 → Mm → Option (Int32 × Mm)) (x3 : Int32) (σ : Mm) : Option (Int32 × Mm) :=
  b_X12_sure_85 Y fu this a1 k48 x3 0 σ
def s_X12_sure_48 (Y : Yt) (fu : Nat) (this : Nat) (a1 : Int32) (k48 : Int32 → Int32 → Mm → Option (Int32 × Mm)) (x2 : Int32) (x3 : Int32) (σ : Mm) : Option (Int32 × Mm) :=
  if (Mm.gi σ this 33) ≤ x3 then
    if x2 = 0 then
    some ((-4), σ)
  else
    if inb a1 12000 = true then
    some ((Mm.gi σ 620 (ix a1)), σ)
  else none
  else
    if x2 = 0 then
    b_X12_sure_84 Y fu this a1 k48 x3 σ
  else
    if inb ((24 * x3) + a1) 12000 = true then
    if inb a1 12000 = true then
    if (Mm.gi σ 620 (ix ((24 * x3) + a1))) = (Mm.gi σ 620 (ix a1)) then
    b_X12_sure_85 Y fu this a1 k48 x3 1 σ
  else
    b_X12_sure_84 Y fu this a1 k48 x3 σ
  else none
  else none
def b_X12_sure_48 (Y : Yt) (fu : Nat) (this : Nat) (a1 : Int32) (n : Nat) : Int32 → Int32 → Mm → Option (Int32 × Mm) := lp (s_X12_sure_48 Y fu this a1 ) (fun _ _ _ => none) n
def b_X12_sure_45 (Y : Yt) (fu : Nat) (this : Nat) (a1 : Int32) (t0 : Int32) (σ : Mm) : Option (Int32 × Mm) :=
  b_X12_sure_48 Y fu this a1 fu t0 1 σ
def f_X12_sure (Y : Yt) (fu : Nat) (this : Nat) (a1 : Int32) (σ : Mm) : Option (Int32 × Mm) :=
  bnd (f_X12_in Y (Int32.toInt64 a1) 0 23 σ) (fun (r_3 : Int32) (σ_2 : Mm) =>
    if r_3 = 0 then
    some ((-1), σ_2)
  else
    if (Mm.gi σ_2 this 32) = 1 then
    if a1 < (Mm.gi σ_2 this 34) then
    if (Mm.gi σ_2 this 33) ≤ 0 then
    b_X12_sure_45 Y fu this a1 0 σ_2
  else
    b_X12_sure_45 Y fu this a1 1 σ_2
  else
    some ((-2), σ_2)
  else
    some ((-2), σ_2))
def f_X12_turn (Y : Yt) (fu : Nat) (this : Nat) (a1 : Int32) (a2 : Int32) (σ : Mm) : Option (Int32 × Mm) :=
  bnd (f_X12_isStar Y a1 σ) (fun (r_3 : Int32) (σ_2 : Mm) =>
    if r_3 = 0 then
    some ((-1), σ_2)
  else
    bnd (f_X12_in Y (Int32.toInt64 a2) 0 23 σ_2) (fun (r_6 : Int32) (σ_5 : Mm) =>
    if r_6 = 0 then
    some ((-1), σ_5)
  else
    bnd (f_X12_layRest Y fu this a1 (Mm.gi σ_5 this 7) σ_5) (fun (r_9 : Int32) (σ_8 : Mm) =>
    if r_9 = 0 then
    some ((-2), σ_8)
  else
    if (Mm.gi σ_8 this 22) ≤ a2 then
    some ((-2), σ_8)
  else
    if inb a2 24 = true then
    some ((Mm.gi σ_8 617 (ix a2)), σ_8)
  else none)))
def f_X12_way (Y : Yt) (this : Nat) (a1 : Int32) (a2 : Int32) (σ : Mm) : Option (Int32 × Mm) :=
  if a1 < 0 then
    some ((-1), σ)
  else
    bnd (f_X12_in Y (Int32.toInt64 a2) 0 23 σ) (fun (r_3 : Int32) (σ_2 : Mm) =>
    if r_3 = 0 then
    some ((-1), σ_2)
  else
    if (Mm.gi σ_2 this 32) = 1 then
    if a2 < (Mm.gi σ_2 this 34) then
    if (Mm.gi σ_2 this 33) ≤ a1 then
    some ((-4), σ_2)
  else
    if inb ((24 * a1) + a2) 12000 = true then
    some ((Mm.gi σ_2 620 (ix ((24 * a1) + a2))), σ_2)
  else none
  else
    some ((-2), σ_2)
  else
    some ((-2), σ_2))
def f_X12_early (Y : Yt) (this : Nat) (a1 : Int32) (σ : Mm) : Option (Int64 × Mm) :=
  if inb a1 24 = true then
    if inb 0 24 = true then
    if inb a1 24 = true then
    if inb 0 24 = true then
    some ((1000 * (Int32.toInt64 ((((Mm.gi σ 618 (ix a1)) - (Mm.gi σ 618 (ix 0))) - (Mm.gi σ 619 (ix a1))) - (Mm.gi σ 619 (ix 0))))), σ)
  else none
  else none
  else none
  else none
def f_X12_late (Y : Yt) (this : Nat) (a1 : Int32) (σ : Mm) : Option (Int64 × Mm) :=
  if inb a1 24 = true then
    if inb 0 24 = true then
    if inb a1 24 = true then
    if inb 0 24 = true then
    some ((1000 * (Int32.toInt64 ((((Mm.gi σ 618 (ix a1)) - (Mm.gi σ 618 (ix 0))) + (Mm.gi σ 619 (ix a1))) + (Mm.gi σ 619 (ix 0))))), σ)
  else none
  else none
  else none
  else none
def b_X12_bind_163 (Y : Yt) (this : Nat) (a1 : Int32) (x7 : Int32) (t0 : Int64) (t1 : Int32) (t2 : Nat) (σ : Mm) : Option (Mm) :=
  if inb t1 (Y t2).2 = true then
    lt_ (Mm.sl σ t2 (ix t1) t0) (fun (σ_45 : Mm) =>
    if x7 = 0 then
    if inb (a1 - 1) 24 = true then
    if inb a1 24 = true then
    lt_ (Mm.sl σ_45 630 (ix a1) (Mm.gl σ_45 630 (ix (a1 - 1)))) (fun (σ_52 : Mm) =>
    some σ_52)
  else none
  else none
  else
    if inb a1 24 = true then
    if inb a1 24 = true then
    lt_ (Mm.sl σ_45 630 (ix a1) (Int32.toInt64 (Mm.gi σ_45 625 (ix a1)))) (fun (σ_57 : Mm) =>
    some σ_57)
  else none
  else none)
  else none
def b_X12_bind_138 (Y : Yt) (this : Nat) (a1 : Int32) (x4 : Int64) (t0 : Int32) (σ : Mm) : Option (Mm) :=
  if t0 = 0 then
    if inb (a1 - 1) 24 = true then
    b_X12_bind_163 Y this a1 t0 (Mm.gl σ 629 (ix (a1 - 1))) a1 629 σ
  else none
  else
    b_X12_bind_163 Y this a1 t0 x4 a1 629 σ
def b_X12_bind_101 (Y : Yt) (this : Nat) (a1 : Int32) (x4 : Int64) (t0 : Int64) (t1 : Int32) (t2 : Nat) (σ : Mm) : Option (Mm) :=
  if inb t1 (Y t2).2 = true then
    lt_ (Mm.sl σ t2 (ix t1) t0) (fun (σ_29 : Mm) =>
    if inb (a1 - 1) 24 = true then
    if inb (a1 - 1) 24 = true then
    if inb a1 24 = true then
    if ((Mm.gl σ_29 629 (ix (a1 - 1))) * (Int32.toInt64 (Mm.gi σ_29 625 (ix a1)))) ≤ (x4 * (Mm.gl σ_29 630 (ix (a1 - 1)))) then
    b_X12_bind_138 Y this a1 x4 0 σ_29
  else
    b_X12_bind_138 Y this a1 x4 1 σ_29
  else none
  else none
  else none)
  else none
def b_X12_bind_72 (Y : Yt) (this : Nat) (a1 : Int32) (x4 : Int64) (x6 : Int32) (t0 : Int64) (t1 : Int32) (t2 : Nat) (σ : Mm) : Option (Mm) :=
  if inb t1 (Y t2).2 = true then
    lt_ (Mm.sl σ t2 (ix t1) t0) (fun (σ_22 : Mm) =>
    if x6 = 0 then
    if inb (a1 - 1) 24 = true then
    b_X12_bind_101 Y this a1 x4 (Mm.gl σ_22 628 (ix (a1 - 1))) a1 628 σ_22
  else none
  else
    if inb a1 24 = true then
    b_X12_bind_101 Y this a1 x4 (Int32.toInt64 (Mm.gi σ_22 625 (ix a1))) a1 628 σ_22
  else none)
  else none
def b_X12_bind_48 (Y : Yt) (this : Nat) (a1 : Int32) (x2 : Int64) (x4 : Int64) (t0 : Int32) (σ : Mm) : Option (Mm) :=
  if t0 = 0 then
    if inb (a1 - 1) 24 = true then
    b_X12_bind_72 Y this a1 x4 t0 (Mm.gl σ 627 (ix (a1 - 1))) a1 627 σ
  else none
  else
    b_X12_bind_72 Y this a1 x4 t0 x2 a1 627 σ
def f_X12_bind (Y : Yt) (this : Nat) (a1 : Int32) (σ : Mm) : Option (Mm) :=
  bnd (f_X12_early Y this a1 σ) (fun (r_3 : Int64) (σ_2 : Mm) =>
    bnd (f_X12_late Y this a1 σ_2) (fun (r_6 : Int64) (σ_5 : Mm) =>
    if inb (a1 - 1) 24 = true then
    if inb (a1 - 1) 24 = true then
    if inb a1 24 = true then
    if (r_3 * (Mm.gl σ_5 628 (ix (a1 - 1)))) ≤ ((Mm.gl σ_5 627 (ix (a1 - 1))) * (Int32.toInt64 (Mm.gi σ_5 625 (ix a1)))) then
    b_X12_bind_48 Y this a1 r_3 r_6 0 σ_5
  else
    b_X12_bind_48 Y this a1 r_3 r_6 1 σ_5
  else none
  else none
  else none))
def s_X12_keep_2 (Y : Yt) (fu : Nat) (this : Nat) (k2 : Int32 → Mm → Option (Mm)) (x1 : Int32) (σ : Mm) : Option (Mm) :=
  if (Mm.gi σ this 34) ≤ x1 then
    lt_ ((Mm.gi σ this 34) - 1) (fun (x1_1 : Int32) =>
    if inb x1_1 24 = true then
    if inb (Mm.gi σ this 33) 500 = true then
    lt_ (Mm.sl σ 621 (ix (Mm.gi σ this 33)) (Mm.gl σ 627 (ix x1_1))) (fun (σ_8 : Mm) =>
    if inb x1_1 24 = true then
    if inb (Mm.gi σ_8 this 33) 500 = true then
    lt_ (Mm.sl σ_8 622 (ix (Mm.gi σ_8 this 33)) (Mm.gl σ_8 628 (ix x1_1))) (fun (σ_15 : Mm) =>
    if inb x1_1 24 = true then
    if inb (Mm.gi σ_15 this 33) 500 = true then
    lt_ (Mm.sl σ_15 623 (ix (Mm.gi σ_15 this 33)) (Mm.gl σ_15 629 (ix x1_1))) (fun (σ_22 : Mm) =>
    if inb x1_1 24 = true then
    if inb (Mm.gi σ_22 this 33) 500 = true then
    lt_ (Mm.sl σ_22 624 (ix (Mm.gi σ_22 this 33)) (Mm.gl σ_22 630 (ix x1_1))) (fun (σ_29 : Mm) =>
    lt_ (Mm.si σ_29 this 33 ((Mm.gi σ_29 this 33) + 1)) (fun (σ_30 : Mm) =>
    some σ_30))
  else none
  else none)
  else none
  else none)
  else none
  else none)
  else none
  else none)
  else
    if inb x1 24 = true then
    if inb ((24 * (Mm.gi σ this 33)) + x1) 12000 = true then
    lt_ (Mm.si σ 620 (ix ((24 * (Mm.gi σ this 33)) + x1)) (Mm.gi σ 625 (ix x1))) (fun (σ_37 : Mm) =>
    lt_ (x1 + 1) (fun (x1_38 : Int32) =>
    k2 x1_38 σ_37))
  else none
  else none
def b_X12_keep_2 (Y : Yt) (fu : Nat) (this : Nat) (n : Nat) : Int32 → Mm → Option (Mm) := lp (s_X12_keep_2 Y fu this ) (fun _ _ => none) n
def f_X12_keep (Y : Yt) (fu : Nat) (this : Nat) (σ : Mm) : Option (Mm) :=
  b_X12_keep_2 Y fu this fu 0 σ
def b_X12_open_62 (Y : Yt) (this : Nat) (a1 : Int32) (t0 : Int64) (t1 : Int32) (t2 : Nat) (σ : Mm) : Option (Mm) :=
  if inb t1 (Y t2).2 = true then
    lt_ (Mm.si σ t2 (ix t1) ((Int64.toInt32 t0) - 1)) (fun (σ_22 : Mm) =>
    bnd (f_X12_late Y this a1 σ_22) (fun (r_27 : Int64) (σ_26 : Mm) =>
    if inb (a1 - 1) 24 = true then
    if inb (a1 - 1) 24 = true then
    bnd (f_X12_down Y (r_27 * (Mm.gl σ_26 628 (ix (a1 - 1)))) (Mm.gl σ_26 627 (ix (a1 - 1))) σ_26) (fun (r_36 : Int64) (σ_35 : Mm) =>
    if inb a1 24 = true then
    lt_ (Mm.sl σ_35 626 (ix a1) r_36) (fun (σ_38 : Mm) =>
    some σ_38)
  else none)
  else none
  else none))
  else none
def f_X12_open (Y : Yt) (this : Nat) (a1 : Int32) (σ : Mm) : Option (Mm) :=
  bnd (f_X12_early Y this a1 σ) (fun (r_3 : Int64) (σ_2 : Mm) =>
    if inb (a1 - 1) 24 = true then
    if inb (a1 - 1) 24 = true then
    bnd (f_X12_up Y (r_3 * (Mm.gl σ_2 630 (ix (a1 - 1)))) (Mm.gl σ_2 629 (ix (a1 - 1))) σ_2) (fun (r_12 : Int64) (σ_11 : Mm) =>
    if inb (a1 - 1) 24 = true then
    if r_12 ≤ (Int32.toInt64 ((Mm.gi σ_11 625 (ix (a1 - 1))) + 1)) then
    if inb (a1 - 1) 24 = true then
    b_X12_open_62 Y this a1 (Int32.toInt64 ((Mm.gi σ_11 625 (ix (a1 - 1))) + 1)) a1 625 σ_11
  else none
  else
    b_X12_open_62 Y this a1 r_12 a1 625 σ_11
  else none)
  else none
  else none)
def b_X12_goThrough_83 (Y : Yt) (fu : Nat) (this : Nat) (k9 : Int32 → Int32 → Mm → Option (Int32 × Mm)) (x1 : Int32) (x2 : Int32) (σ : Mm) : Option (Int32 × Mm) :=
  if x2 = ((Mm.gi σ this 34) - 1) then
    bn1 (f_X12_keep Y fu this σ) (fun (σ_21 : Mm) =>
    k9 x1 x2 σ_21)
  else
    lt_ (x2 + 1) (fun (x2_17 : Int32) =>
    bn1 (f_X12_open Y this x2_17 σ) (fun (σ_19 : Mm) =>
    k9 x1 x2_17 σ_19))
def s_X12_goThrough_9 (Y : Yt) (fu : Nat) (this : Nat) (k9 : Int32 → Int32 → Mm → Option (Int32 × Mm)) (x1 : Int32) (x2 : Int32) (σ : Mm) : Option (Int32 × Mm) :=
  if x2 ≤ 0 then
    zret 1 σ
  else
    if inb x2 24 = true then
    if inb x2 24 = true then
    if (Int32.toInt64 (Mm.gi σ 625 (ix x2))) < (Mm.gl σ 626 (ix x2)) then
    if inb x2 24 = true then
    if inb x2 24 = true then
    lt_ (Mm.si σ 625 (ix x2) ((Mm.gi σ 625 (ix x2)) + 1)) (fun (σ_13 : Mm) =>
    lt_ (x1 + 1) (fun (x1_14 : Int32) =>
    bn1 (f_X12_bind Y this x2 σ_13) (fun (σ_16 : Mm) =>
    if 20000 < x1_14 then
    zret 0 σ_16
  else
    if x2 = ((Mm.gi σ_16 this 34) - 1) then
    if (Mm.gi σ_16 this 33) = 500 then
    zret 0 σ_16
  else
    b_X12_goThrough_83 Y fu this k9 x1_14 x2 σ_16
  else
    b_X12_goThrough_83 Y fu this k9 x1_14 x2 σ_16)))
  else none
  else none
  else
    lt_ (x2 + (-1)) (fun (x2_22 : Int32) =>
    k9 x1 x2_22 σ)
  else none
  else none
def b_X12_goThrough_9 (Y : Yt) (fu : Nat) (this : Nat) (n : Nat) : Int32 → Int32 → Mm → Option (Int32 × Mm) := lp (s_X12_goThrough_9 Y fu this ) (fun _ _ _ => none) n
def f_X12_goThrough (Y : Yt) (fu : Nat) (this : Nat) (σ : Mm) : Option (Int32 × Mm) :=
  bn1 (f_X12_open Y this 1 σ) (fun (σ_2 : Mm) =>
    b_X12_goThrough_9 Y fu this fu 0 1 σ_2)
def b_X12_ways_195 (Y : Yt) (fu : Nat) (this : Nat) (a1 : Int32) (a2 : Int32) (a3 : Int32) (x4 : Int32) (t0 : Int32) (t1 : Nat) (σ : Mm) : Option (Int32 × Mm) :=
  lt_ (Mm.si σ t1 33 t0) (fun (σ_38 : Mm) =>
    if x4 = 0 then
    some ((-5), σ_38)
  else
    some ((Mm.gi σ_38 this 33), σ_38))
def b_X12_ways_178 (Y : Yt) (fu : Nat) (this : Nat) (a1 : Int32) (a2 : Int32) (a3 : Int32) (x4 : Int32) (t0 : Int32) (t1 : Nat) (σ : Mm) : Option (Int32 × Mm) :=
  lt_ (Mm.si σ t1 32 t0) (fun (σ_37 : Mm) =>
    if x4 = 0 then
    b_X12_ways_195 Y fu this a1 a2 a3 x4 0 this σ_37
  else
    b_X12_ways_195 Y fu this a1 a2 a3 x4 (Mm.gi σ_37 this 33) this σ_37)
def s_X12_ways_63 (Y : Yt) (fu : Nat) (this : Nat) (a1 : Int32) (a2 : Int32) (a3 : Int32) (k63 : Int32 → Mm → Option (Int32 × Mm)) (x4 : Int32) (σ : Mm) : Option (Int32 × Mm) :=
  if (Mm.gi σ this 22) ≤ x4 then
    lt_ (Mm.si σ this 33 0) (fun (σ_13 : Mm) =>
    if inb 0 24 = true then
    lt_ (Mm.si σ_13 625 (ix 0) 0) (fun (σ_17 : Mm) =>
    if inb 0 24 = true then
    lt_ (Mm.sl σ_17 627 (ix 0) (Int32.toInt64 a2)) (fun (σ_21 : Mm) =>
    if inb 0 24 = true then
    lt_ (Mm.sl σ_21 628 (ix 0) 1) (fun (σ_25 : Mm) =>
    if inb 0 24 = true then
    lt_ (Mm.sl σ_25 629 (ix 0) (Int32.toInt64 a3)) (fun (σ_29 : Mm) =>
    if inb 0 24 = true then
    lt_ (Mm.sl σ_29 630 (ix 0) 1) (fun (σ_33 : Mm) =>
    bnd (f_X12_goThrough Y fu this σ_33) (fun (r_36 : Int32) (σ_35 : Mm) =>
    if r_36 = 0 then
    b_X12_ways_178 Y fu this a1 a2 a3 r_36 2 this σ_35
  else
    b_X12_ways_178 Y fu this a1 a2 a3 r_36 1 this σ_35))
  else none)
  else none)
  else none)
  else none)
  else none)
  else
    if inb x4 24 = true then
    bnd (f_X12_corrected Y this (Mm.gi σ 614 (ix x4)) (Mm.gi σ this 7) σ) (fun (r_46 : Int32) (σ_45 : Mm) =>
    if inb x4 24 = true then
    lt_ (Mm.si σ_45 618 (ix x4) r_46) (fun (σ_48 : Mm) =>
    if inb x4 24 = true then
    if inb (Mm.gi σ_48 614 (ix x4)) 96 = true then
    if inb x4 24 = true then
    lt_ (Mm.si σ_48 619 (ix x4) (Mm.gi σ_48 598 (ix (Mm.gi σ_48 614 (ix x4))))) (fun (σ_58 : Mm) =>
    lt_ (x4 + 1) (fun (x4_59 : Int32) =>
    k63 x4_59 σ_58))
  else none
  else none
  else none)
  else none)
  else none
def b_X12_ways_63 (Y : Yt) (fu : Nat) (this : Nat) (a1 : Int32) (a2 : Int32) (a3 : Int32) (n : Nat) : Int32 → Mm → Option (Int32 × Mm) := lp (s_X12_ways_63 Y fu this a1 a2 a3 ) (fun _ _ => none) n
def f_X12_ways (Y : Yt) (fu : Nat) (this : Nat) (a1 : Int32) (a2 : Int32) (a3 : Int32) (σ : Mm) : Option (Int32 × Mm) :=
  bnd (f_X12_isStar Y a1 σ) (fun (r_3 : Int32) (σ_2 : Mm) =>
    if r_3 = 0 then
    some ((-1), σ_2)
  else
    bnd (f_X12_in Y (Int32.toInt64 a2) 100000 100000000 σ_2) (fun (r_6 : Int32) (σ_5 : Mm) =>
    if r_6 = 0 then
    some ((-1), σ_5)
  else
    bnd (f_X12_in Y (Int32.toInt64 a3) (Int32.toInt64 a2) 100000000 σ_5) (fun (r_9 : Int32) (σ_8 : Mm) =>
    if r_9 = 0 then
    some ((-1), σ_8)
  else
    bn1 (f_X12_layCounts Y fu this a1 σ_8) (fun (σ_11 : Mm) =>
    if 2 ≤ (Mm.gi σ_11 this 22) then
    lt_ (Mm.si σ_11 this 34 (Mm.gi σ_11 this 22)) (fun (σ_12 : Mm) =>
    b_X12_ways_63 Y fu this a1 a2 a3 fu 0 σ_12)
  else
    some ((-2), σ_11)))))
def f_X12_wipe (Y : Yt) (this : Nat) (σ : Mm) : Option (Int32 × Mm) :=
  lt_ (Mm.gi σ this 20) (fun (x1_1 : Int32) =>
    lt_ (Mm.si σ this 20 0) (fun (σ_2 : Mm) =>
    some (x1_1, σ_2)))
def s_X12_write_34 (Y : Yt) (fu : Nat) (this : Nat) (a1 : Int32) (a2 : Int64) (k34 : Int32 → Mm → Option (Int32 × Mm)) (x4 : Int32) (σ : Mm) : Option (Int32 × Mm) :=
  if x4 < 0 then
    some ((Mm.gi σ this 20), σ)
  else
    if inb (Mm.gi σ this 20) 200 = true then
    lt_ (Mm.si σ 613 (ix (Mm.gi σ this 20)) (Int64.toInt32 ((a2 >>> (Int32.toInt64 (8 * x4) &&& 63)) &&& 255))) (fun (σ_8 : Mm) =>
    lt_ (Mm.si σ_8 this 20 ((Mm.gi σ_8 this 20) + 1)) (fun (σ_9 : Mm) =>
    lt_ (x4 + (-1)) (fun (x4_10 : Int32) =>
    k34 x4_10 σ_9)))
  else none
def b_X12_write_34 (Y : Yt) (fu : Nat) (this : Nat) (a1 : Int32) (a2 : Int64) (n : Nat) : Int32 → Mm → Option (Int32 × Mm) := lp (s_X12_write_34 Y fu this a1 a2 ) (fun _ _ => none) n
def f_X12_write (Y : Yt) (fu : Nat) (this : Nat) (a1 : Int32) (a2 : Int64) (σ : Mm) : Option (Int32 × Mm) :=
  bnd (f_X12_in Y (Int32.toInt64 a1) 1 8 σ) (fun (r_3 : Int32) (σ_2 : Mm) =>
    if r_3 = 0 then
    some ((-1), σ_2)
  else
    if ((Mm.gi σ_2 this 20) + a1) ≤ 200 then
    lt_ (a1 - 1) (fun (x4_4 : Int32) =>
    b_X12_write_34 Y fu this a1 a2 fu x4_4 σ_2)
  else
    some ((-3), σ_2))
