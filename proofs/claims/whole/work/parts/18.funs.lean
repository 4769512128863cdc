/-! the methods as partial functions over the memory (by program, out of the bytecode) -/
def f_Hi_forget (o : Nat) (μ : q_M) : Option q_M :=
  q_fs μ o 0 0 fun μ1 =>
  q_fi μ1 (o + 9) 5 0 fun μ2 =>
  some μ2
def f_Ch_dropMarkers (o : Nat) (μ : q_M) : Option q_M :=
  q_fi μ (o + 6) 25 ((-1)) fun μ1 =>
  some μ1
def f_Ch_clearAll (o : Nat) (μ : q_M) : Option q_M :=
  q_fs μ o 0 0 fun μ1 =>
  q_b (f_Ch_dropMarkers o μ1) fun μ3 =>
  some μ3
def f_Sn_forget (o : Nat) (μ : q_M) : Option q_M :=
  q_fs μ o 0 0 fun μ1 =>
  q_fi μ1 (o + 1) 5 ((-1)) fun μ2 =>
  some μ2
def f_Wo_begin (o : Nat) (a0 : Int) (μ : q_M) : Option q_M :=
  q_fs μ o 0 a0 fun μ1 =>
  q_fi μ1 (o + 1) 10 0 fun μ2 =>
  q_fi μ2 (o + 2) 10 0 fun μ3 =>
  q_fi μ3 (o + 3) 5 0 fun μ4 =>
  q_b (f_Hi_forget (o + 4) μ4) fun μ6 =>
  q_b (f_Ch_clearAll (o + 14) μ6) fun μ8 =>
  q_b (f_Sn_forget (o + 21) μ8) fun μ10 =>
  some μ10
def f_Co_setToFirst (μ : q_M) : Option q_M :=
  q_fi μ 55 25 1 fun μ1 =>
  q_fs μ1 54 1 100 fun μ2 =>
  q_fs μ2 54 2 100 fun μ3 =>
  some μ3
def f_CR_startWith (a0 : Int) (μ : q_M) : Option q_M :=
  q_b (f_Wo_begin 1 a0 μ) fun μ2 =>
  q_fs μ2 49 0 0 fun μ3 =>
  q_b (f_Co_setToFirst μ3) fun μ5 =>
  q_fz μ5 0 2 0 fun μ6 =>
  some μ6
def f_CR_within (a0 : Int) (a1 : Int) (a2 : Int) (μ : q_M) : Option Int :=
  q_jn (fun (x1 : Int) =>
      q_rz x1 (some x1)
  ) fun (j15 : Int → Option Int) =>
  q_jn (
      j15 0
  ) fun (j14 : Option Int) =>
  if a0 < a1 then
    j14
  else
    if a2 < a0 then
      j14
    else
      j15 1
def f_CR_reset (a0 : Int) (μ : q_M) : Option (Int × q_M) :=
  q_b (f_CR_within a0 2 5 μ) fun x2 =>
  if x2 = 0 then
    some ((-100002), μ)
  else
    q_fl μ 1 0 fun x3 =>
    q_b (f_CR_startWith a0 μ) fun μ5 =>
    some (x3, μ5)
def f_CR_isProcess (a0 : Int) (μ : q_M) : Option Int :=
  q_fl μ 1 0 fun x1 =>
  q_ck (x1 - 1) fun x2 =>
  q_b (f_CR_within a0 0 x2 μ) fun x4 =>
  q_rz x4 (some x4)
def f_CR_isStock (a0 : Int) (μ : q_M) : Option Int :=
  q_b (f_CR_within a0 0 1 μ) fun x2 =>
  q_rz x2 (some x2)
def f_CR_slot (a0 : Int) (a1 : Int) (μ : q_M) : Option Int :=
  q_ck (a0 * 2) fun x1 =>
  q_ck (x1 + a1) fun x2 =>
  some x2
def f_CR_setStock (a0 : Int) (a1 : Int) (a2 : Int) (μ : q_M) : Option (Int × q_M) :=
  q_b (f_CR_isProcess a0 μ) fun x2 =>
  q_jn (
      some ((-100001), μ)
  ) fun (j15 : Option (Int × q_M)) =>
  if x2 = 0 then
    j15
  else
    q_b (f_CR_isStock a1 μ) fun x4 =>
    if x4 = 0 then
      j15
    else
      q_b (f_CR_within a2 0 1000 μ) fun x6 =>
      if x6 = 0 then
        some ((-100002), μ)
      else
        q_fl μ 5 0 fun x7 =>
        if x7 ≤ 0 then
          q_b (f_CR_slot a0 a1 μ) fun x9 =>
          q_ld μ 2 10 x9 fun x10 =>
          q_b (f_CR_slot a0 a1 μ) fun x12 =>
          q_st μ 2 10 x12 a2 fun μ13 =>
          q_b (f_CR_slot a0 a1 μ13) fun x15 =>
          q_st μ13 3 10 x15 a2 fun μ16 =>
          some (x10, μ16)
        else
          some ((-100003), μ)
def f_Hi_latestOf_L7 (o : Nat) (a0 : Int) (μ : q_M) (k21 : Int → Option Int) (k29 : Option Int) : Nat → Int → Option Int
  | 0, _ => none
  | nf7 + 1, x3 =>
    if x3 < 0 then
      k29
    else
      q_ld μ (o + 1) 100 x3 fun x5 =>
      if x5 = a0 then
        k21 x3
      else
        q_ck (x3 + (-1)) fun x6 =>
        f_Hi_latestOf_L7 o a0 μ k21 k29 nf7 x6
def f_Hi_latestOf (N : Nat) (o : Nat) (a0 : Int) (μ : q_M) : Option Int :=
  q_fl μ o 0 fun x1 =>
  q_ck (x1 - 1) fun x2 =>
  f_Hi_latestOf_L7 o a0 μ
      (fun (x4 : Int) =>
        some x4
      )
      (
        some ((-1))
      )
      N x2
def f_Hi_add_L53 (o : Nat) (x3 : Int) (x1 : Int) (k99 : q_M → Option (Int × q_M)) : Nat → Int → q_M → Option (Int × q_M)
  | 0, _, _ => none
  | nf53 + 1, x9, μ10 =>
    if 5 ≤ x9 then
      k99 μ10
    else
      q_ck (x1 * 5) fun x12 =>
      q_ck (x12 + x9) fun x13 =>
      q_jn (fun (x14 : Int) =>
          q_st μ10 (o + 8) 500 x13 x14 fun μ15 =>
          q_ck (x9 + 1) fun x16 =>
          f_Hi_add_L53 o x3 x1 k99 nf53 x16 μ15
      ) fun (j92 : Int → Option (Int × q_M)) =>
      if x3 = (-1) then
        j92 0
      else
        q_ck (x3 * 5) fun x17 =>
        q_ck (x17 + x9) fun x18 =>
        q_ld μ10 (o + 8) 500 x18 fun x19 =>
        j92 x19
def f_Hi_add (N : Nat) (o : Nat) (a0 : Int) (a1 : Int) (a2 : Int) (μ : q_M) : Option (Int × q_M) :=
  q_fl μ o 0 fun x1 =>
  q_b (f_Hi_latestOf N o a0 μ) fun x3 =>
  q_st μ (o + 1) 100 x1 a0 fun μ4 =>
  q_st μ4 (o + 2) 100 x1 a1 fun μ5 =>
  q_st μ5 (o + 6) 100 x1 a2 fun μ6 =>
  q_ld μ6 (o + 9) 5 a0 fun x7 =>
  q_st μ6 (o + 7) 100 x1 x7 fun μ8 =>
  f_Hi_add_L53 o x3 x1
      (fun (μ11 : q_M) =>
        q_ck (x1 * 5) fun x22 =>
        q_ck (x22 + a0) fun x23 =>
        q_ld μ11 (o + 8) 500 x23 fun x24 =>
        q_ck (x24 + 1) fun x25 =>
        q_st μ11 (o + 8) 500 x23 x25 fun μ26 =>
        q_ld μ26 (o + 9) 5 a0 fun x27 =>
        q_ck (x27 + 1) fun x28 =>
        q_st μ26 (o + 9) 5 a0 x28 fun μ29 =>
        q_fl μ29 o 0 fun x30 =>
        q_ck (x30 + 1) fun x31 =>
        q_fs μ29 o 0 x31 fun μ32 =>
        some (x1, μ32)
      )
      N 0 μ8
def f_Hi_describe (o : Nat) (a0 : Int) (a1 : Int) (a2 : Int) (a3 : Int) (μ : q_M) : Option q_M :=
  q_st μ (o + 3) 100 a0 a1 fun μ1 =>
  q_st μ1 (o + 4) 100 a0 a2 fun μ2 =>
  q_st μ2 (o + 5) 100 a0 a3 fun μ3 =>
  some μ3
def f_Wo_tryChange (N : Nat) (o : Nat) (a0 : Int) (a1 : Int) (a2 : Int) (μ : q_M) : Option (Int × q_M) :=
  q_b (f_CR_slot a0 a1 μ) fun x2 =>
  q_ld μ (o + 1) 10 x2 fun x3 =>
  q_ck (x3 + a2) fun x4 =>
  q_b (f_CR_within x4 0 1000 μ) fun x6 =>
  if x6 = 0 then
    some ((-100004), μ)
  else
    q_fl μ (o + 4) 0 fun x7 =>
    if x7 < 100 then
      q_b (f_CR_slot a0 a1 μ) fun x9 =>
      q_st μ (o + 1) 10 x9 x4 fun μ10 =>
      q_b2 (f_Hi_add N (o + 4) a0 0 ((-1)) μ10) fun x12 μ13 =>
      q_b (f_Hi_describe (o + 4) x12 a1 a2 ((-100006)) μ13) fun μ15 =>
      some (x12, μ15)
    else
      some ((-100005), μ)
def f_CR_change (N : Nat) (a0 : Int) (a1 : Int) (a2 : Int) (μ : q_M) : Option (Int × q_M) :=
  q_b (f_CR_isProcess a0 μ) fun x2 =>
  q_jn (
      some ((-100001), μ)
  ) fun (j15 : Option (Int × q_M)) =>
  if x2 = 0 then
    j15
  else
    q_b (f_CR_isStock a1 μ) fun x4 =>
    if x4 = 0 then
      j15
    else
      q_b (f_CR_within a2 ((-100)) 100 μ) fun x6 =>
      q_jn (
          some ((-100002), μ)
      ) fun (j33 : Option (Int × q_M)) =>
      if x6 = 0 then
        j33
      else
        if a2 = 0 then
          j33
        else
          q_b2 (f_Wo_tryChange N 1 a0 a1 a2 μ) fun x8 μ9 =>
          some (x8, μ9)
def f_CR_isPair (a0 : Int) (a1 : Int) (μ : q_M) : Option Int :=
  q_b (f_CR_isProcess a0 μ) fun x2 =>
  q_jn (fun (x3 : Int) =>
      q_rz x3 (some x3)
  ) fun (j26 : Int → Option Int) =>
  q_jn (
      j26 0
  ) fun (j25 : Option Int) =>
  if x2 = 0 then
    j25
  else
    q_b (f_CR_isProcess a1 μ) fun x5 =>
    if x5 = 0 then
      j25
    else
      if a0 = a1 then
        j25
      else
        j26 1
def f_CR_channelOf (a0 : Int) (a1 : Int) (μ : q_M) : Option Int :=
  q_ck (a0 * 5) fun x1 =>
  q_ck (x1 + a1) fun x2 =>
  some x2
def f_Ch_waitingAhead_L5 (o : Nat) (a0 : Int) (a1 : Int) (μ : q_M) (k42 : Int → Option Int) : Nat → Int → Int → Option Int
  | 0, _, _ => none
  | nf5 + 1, x1, x2 =>
    if a1 ≤ x2 then
      k42 x1
    else
      q_ld μ (o + 1) 512 x2 fun x4 =>
      q_jn (fun (x5 : Int) =>
          q_ck (x2 + 1) fun x6 =>
          f_Ch_waitingAhead_L5 o a0 a1 μ k42 nf5 x5 x6
      ) fun (j36 : Int → Option Int) =>
      if x4 = a0 then
        q_ld μ (o + 5) 512 x2 fun x7 =>
        if x7 = (-1) then
          q_ck (x1 + 1) fun x8 =>
          j36 x8
        else
          j36 x1
      else
        j36 x1
def f_Ch_waitingAhead (N : Nat) (o : Nat) (a0 : Int) (a1 : Int) (μ : q_M) : Option Int :=
  f_Ch_waitingAhead_L5 o a0 a1 μ
      (fun (x3 : Int) =>
        some x3
      )
      N 0 0
def f_Ch_waitingIn (N : Nat) (o : Nat) (a0 : Int) (μ : q_M) : Option Int :=
  q_fl μ o 0 fun x1 =>
  q_b (f_Ch_waitingAhead N o a0 x1 μ) fun x3 =>
  some x3
def f_Ch_put (o : Nat) (a0 : Int) (a1 : Int) (a2 : Int) (a3 : Int) (μ : q_M) : Option (Int × q_M) :=
  q_fl μ o 0 fun x1 =>
  q_st μ (o + 1) 512 x1 a0 fun μ2 =>
  q_st μ2 (o + 2) 512 x1 a1 fun μ3 =>
  q_st μ3 (o + 3) 512 x1 a2 fun μ4 =>
  q_st μ4 (o + 4) 512 x1 a3 fun μ5 =>
  q_st μ5 (o + 5) 512 x1 ((-1)) fun μ6 =>
  q_fl μ6 o 0 fun x7 =>
  q_ck (x7 + 1) fun x8 =>
  q_fs μ6 o 0 x8 fun μ9 =>
  some (x1, μ9)
def f_Wo_trySend (N : Nat) (o : Nat) (a0 : Int) (a1 : Int) (a2 : Int) (a3 : Int) (μ : q_M) : Option (Int × q_M) :=
  q_b (f_CR_slot a0 a2 μ) fun x2 =>
  q_ld μ (o + 1) 10 x2 fun x3 =>
  q_ck (x3 - a3) fun x4 =>
  if 0 ≤ x4 then
    q_b (f_CR_channelOf a0 a1 μ) fun x6 =>
    q_fl μ (o + 4) 0 fun x7 =>
    q_jn (
        some ((-100005), μ)
    ) fun (j69 : Option (Int × q_M)) =>
    if 100 ≤ x7 then
      j69
    else
      q_fl μ (o + 14) 0 fun x8 =>
      if 512 ≤ x8 then
        j69
      else
        q_b (f_Ch_waitingIn N (o + 14) x6 μ) fun x10 =>
        if x10 < 6 then
          q_b (f_CR_slot a0 a2 μ) fun x12 =>
          q_st μ (o + 1) 10 x12 x4 fun μ13 =>
          q_fl μ13 (o + 4) 0 fun x14 =>
          q_b2 (f_Ch_put (o + 14) x6 a2 a3 x14 μ13) fun x16 μ17 =>
          q_b2 (f_Hi_add N (o + 4) a0 1 x16 μ17) fun x19 μ20 =>
          q_b (f_Hi_describe (o + 4) x19 a2 a3 a1 μ20) fun μ22 =>
          some (x19, μ22)
        else
          j69
  else
    some ((-100004), μ)
def f_CR_send (N : Nat) (a0 : Int) (a1 : Int) (a2 : Int) (a3 : Int) (μ : q_M) : Option (Int × q_M) :=
  q_b (f_CR_isPair a0 a1 μ) fun x2 =>
  q_jn (
      some ((-100001), μ)
  ) fun (j16 : Option (Int × q_M)) =>
  if x2 = 0 then
    j16
  else
    q_b (f_CR_isStock a2 μ) fun x4 =>
    if x4 = 0 then
      j16
    else
      q_b (f_CR_within a3 1 100 μ) fun x6 =>
      if x6 = 0 then
        some ((-100002), μ)
      else
        q_b2 (f_Wo_trySend N 1 a0 a1 a2 a3 μ) fun x8 μ9 =>
        some (x8, μ9)
def f_Ch_messageAt_L5 (o : Nat) (a0 : Int) (a1 : Int) (μ : q_M) (k41 : Int → Option Int) (k53 : Option Int) : Nat → Int → Int → Option Int
  | 0, _, _ => none
  | nf5 + 1, x1, x2 =>
    q_fl μ o 0 fun x4 =>
    if x4 ≤ x2 then
      k53
    else
      q_ld μ (o + 1) 512 x2 fun x5 =>
      q_jn (fun (x6 : Int) =>
          q_ck (x2 + 1) fun x7 =>
          f_Ch_messageAt_L5 o a0 a1 μ k41 k53 nf5 x6 x7
      ) fun (j47 : Int → Option Int) =>
      if x5 = a0 then
        q_ld μ (o + 5) 512 x2 fun x8 =>
        if x8 = (-1) then
          if x1 = a1 then
            k41 x2
          else
            q_ck (x1 + 1) fun x9 =>
            j47 x9
        else
          j47 x1
      else
        j47 x1
def f_Ch_messageAt (N : Nat) (o : Nat) (a0 : Int) (a1 : Int) (μ : q_M) : Option Int :=
  f_Ch_messageAt_L5 o a0 a1 μ
      (fun (x3 : Int) =>
        some x3
      )
      (
        some ((-1))
      )
      N 0 0
def f_Ch_markerPlace (N : Nat) (o : Nat) (a0 : Int) (μ : q_M) : Option Int :=
  q_ld μ (o + 6) 25 a0 fun x1 =>
  q_jn (fun (x2 : Int) =>
      some x2
  ) fun (j22 : Int → Option Int) =>
  if x1 = (-1) then
    j22 ((-1))
  else
    q_b (f_Ch_waitingAhead N o a0 x1 μ) fun x4 =>
    j22 x4
def f_Ch_putMarker (o : Nat) (a0 : Int) (μ : q_M) : Option q_M :=
  q_fl μ o 0 fun x1 =>
  q_st μ (o + 6) 25 a0 x1 fun μ2 =>
  some μ2
def f_Wo_noteEvents_L20 (o : Nat) (a0 : Int) (k51 : q_M → Option q_M) : Nat → Int → q_M → Option q_M
  | 0, _, _ => none
  | nf20 + 1, x3, μ4 =>
    q_fl μ4 o 0 fun x6 =>
    if x6 ≤ x3 then
      k51 μ4
    else
      q_jn (fun (μ7 : q_M) =>
          q_ck (x3 + 1) fun x8 =>
          f_Wo_noteEvents_L20 o a0 k51 nf20 x8 μ7
      ) fun (j45 : q_M → Option q_M) =>
      if x3 = a0 then
        j45 μ4
      else
        q_b (f_CR_channelOf a0 x3 μ4) fun x10 =>
        q_b (f_Ch_putMarker (o + 14) x10 μ4) fun μ12 =>
        j45 μ12
def f_Wo_noteEvents (N : Nat) (o : Nat) (a0 : Int) (μ : q_M) : Option q_M :=
  q_ld μ (o + 13) 5 a0 fun x1 =>
  q_st μ (o + 22) 5 a0 x1 fun μ2 =>
  f_Wo_noteEvents_L20 o a0
      (fun (μ5 : q_M) =>
        some μ5
      )
      N 0 μ2
def f_Sn_hasAll_L2 (o : Nat) (a0 : Int) (μ : q_M) (k17 : Option Int) (k25 : Option Int) : Nat → Int → Option Int
  | 0, _ => none
  | nf2 + 1, x1 =>
    if a0 ≤ x1 then
      k25
    else
      q_ld μ (o + 1) 5 x1 fun x2 =>
      if x2 = (-1) then
        k17
      else
        q_ck (x1 + 1) fun x3 =>
        f_Sn_hasAll_L2 o a0 μ k17 k25 nf2 x3
def f_Sn_hasAll (N : Nat) (o : Nat) (a0 : Int) (μ : q_M) : Option Int :=
  f_Sn_hasAll_L2 o a0 μ
      (
        some 0
      )
      (
        some 1
      )
      N 0
def f_Ch_waitingMarkers_L4 (o : Nat) (μ : q_M) (k32 : Int → Option Int) : Nat → Int → Int → Option Int
  | 0, _, _ => none
  | nf4 + 1, x1, x2 =>
    if 25 ≤ x2 then
      k32 x1
    else
      q_ld μ (o + 6) 25 x2 fun x4 =>
      q_jn (fun (x5 : Int) =>
          q_ck (x2 + 1) fun x6 =>
          f_Ch_waitingMarkers_L4 o μ k32 nf4 x5 x6
      ) fun (j26 : Int → Option Int) =>
      if x4 = (-1) then
        j26 x1
      else
        q_ck (x1 + 1) fun x7 =>
        j26 x7
def f_Ch_waitingMarkers (N : Nat) (o : Nat) (μ : q_M) : Option Int :=
  f_Ch_waitingMarkers_L4 o μ
      (fun (x3 : Int) =>
        some x3
      )
      N 0 0
def f_Wo_takeMarker (N : Nat) (o : Nat) (a0 : Int) (a1 : Int) (μ : q_M) : Option q_M :=
  q_st μ (o + 20) 25 a1 ((-1)) fun μ1 =>
  q_ld μ1 (o + 22) 5 a0 fun x2 =>
  q_jn (fun (μ3 : q_M) =>
      q_fl μ3 o 0 fun x4 =>
      q_b (f_Sn_hasAll N (o + 21) x4 μ3) fun x6 =>
      q_jn (fun (μ7 : q_M) =>
          some μ7
      ) fun (j60 : q_M → Option q_M) =>
      if x6 = 0 then
        j60 μ3
      else
        q_b (f_Ch_waitingMarkers N (o + 14) μ3) fun x9 =>
        if x9 = 0 then
          q_fs μ3 (o + 21) 0 2 fun μ10 =>
          j60 μ10
        else
          j60 μ3
  ) fun (j28 : q_M → Option q_M) =>
  if x2 = (-1) then
    q_b (f_Wo_noteEvents N o a0 μ1) fun μ14 =>
    j28 μ14
  else
    j28 μ1
def f_Hi_learnFrom_L8 (o : Nat) (a0 : Int) (a1 : Int) (k53 : q_M → Option q_M) : Nat → Int → q_M → Option q_M
  | 0, _, _ => none
  | nf8 + 1, x1, μ2 =>
    if 5 ≤ x1 then
      k53 μ2
    else
      q_ck (a0 * 5) fun x4 =>
      q_ck (x4 + x1) fun x5 =>
      q_ld μ2 (o + 8) 500 x5 fun x6 =>
      q_ck (a1 * 5) fun x7 =>
      q_ck (x7 + x1) fun x8 =>
      q_ld μ2 (o + 8) 500 x8 fun x9 =>
      q_mx x6 x9 fun x10 =>
      q_st μ2 (o + 8) 500 x5 x10 fun μ11 =>
      q_ck (x1 + 1) fun x12 =>
      f_Hi_learnFrom_L8 o a0 a1 k53 nf8 x12 μ11
def f_Hi_learnFrom (N : Nat) (o : Nat) (a0 : Int) (a1 : Int) (μ : q_M) : Option q_M :=
  if a1 = (-1) then
    some μ
  else
    f_Hi_learnFrom_L8 o a0 a1
        (fun (μ3 : q_M) =>
          some μ3
        )
        N 0 μ
def f_Wo_tryReceive (N : Nat) (o : Nat) (a0 : Int) (a1 : Int) (μ : q_M) : Option (Int × q_M) :=
  q_b (f_CR_channelOf a1 a0 μ) fun x2 =>
  q_b (f_Ch_messageAt N (o + 14) x2 0 μ) fun x4 =>
  q_b (f_Ch_markerPlace N (o + 14) x2 μ) fun x6 =>
  if x6 = 0 then
    q_b (f_Wo_takeMarker N o a0 x2 μ) fun μ32 =>
    some (1000, μ32)
  else
    if x4 = (-1) then
      some ((-100006), μ)
    else
      q_ld μ (o + 16) 512 x4 fun x7 =>
      q_ld μ (o + 17) 512 x4 fun x8 =>
      q_b (f_CR_slot a0 x7 μ) fun x10 =>
      q_ld μ (o + 1) 10 x10 fun x11 =>
      q_ck (x11 + x8) fun x12 =>
      if x12 ≤ 1000 then
        q_fl μ (o + 4) 0 fun x13 =>
        if x13 < 100 then
          q_b (f_CR_slot a0 x7 μ) fun x15 =>
          q_ld μ (o + 1) 10 x15 fun x16 =>
          q_ck (x16 + x8) fun x17 =>
          q_st μ (o + 1) 10 x15 x17 fun μ18 =>
          q_b2 (f_Hi_add N (o + 4) a0 2 x4 μ18) fun x20 μ21 =>
          q_b (f_Hi_describe (o + 4) x20 x7 x8 a1 μ21) fun μ23 =>
          q_ld μ23 (o + 18) 512 x4 fun x24 =>
          q_b (f_Hi_learnFrom N (o + 4) x20 x24 μ23) fun μ26 =>
          q_st μ26 (o + 19) 512 x4 x20 fun μ27 =>
          some (x20, μ27)
        else
          some ((-100005), μ)
      else
        some ((-100004), μ)
def f_CR_receive (N : Nat) (a0 : Int) (a1 : Int) (μ : q_M) : Option (Int × q_M) :=
  q_b (f_CR_isPair a1 a0 μ) fun x2 =>
  if x2 = 0 then
    some ((-100001), μ)
  else
    q_b2 (f_Wo_tryReceive N 1 a0 a1 μ) fun x4 μ5 =>
    some (x4, μ5)
def f_CR_stock (a0 : Int) (a1 : Int) (μ : q_M) : Option Int :=
  q_b (f_CR_isProcess a0 μ) fun x2 =>
  q_jn (
      some ((-100001))
  ) fun (j15 : Option Int) =>
  if x2 = 0 then
    j15
  else
    q_b (f_CR_isStock a1 μ) fun x4 =>
    if x4 = 0 then
      j15
    else
      q_b (f_CR_slot a0 a1 μ) fun x6 =>
      q_ld μ 2 10 x6 fun x7 =>
      some x7
def f_Ch_propertyAt (N : Nat) (o : Nat) (a0 : Int) (a1 : Int) (a2 : Int) (μ : q_M) : Option Int :=
  q_b (f_Ch_markerPlace N o a0 μ) fun x2 =>
  if x2 = a1 then
    q_jn (fun (x20 : Int) =>
        some x20
    ) fun (j32 : Int → Option Int) =>
    if a2 = 0 then
      j32 2
    else
      if a2 = 1 then
        j32 0
      else
        j32 ((-100006))
  else
    q_jn (fun (x3 : Int) =>
        q_jn (fun (x4 : Int) =>
            q_b (f_Ch_messageAt N o a0 x4 μ) fun x6 =>
            if x6 = (-1) then
              some ((-100006))
            else
              if a2 = 0 then
                q_ld μ (o + 2) 512 x6 fun x13 =>
                some x13
              else
                if a2 = 1 then
                  q_ld μ (o + 3) 512 x6 fun x11 =>
                  some x11
                else
                  q_ld μ (o + 4) 512 x6 fun x7 =>
                  q_jn (fun (x8 : Int) =>
                      some x8
                  ) fun (j128 : Int → Option Int) =>
                  if x7 = (-1) then
                    j128 ((-100006))
                  else
                    q_ld μ (o + 4) 512 x6 fun x9 =>
                    j128 x9
        ) fun (j66 : Int → Option Int) =>
        if x3 = 0 then
          j66 a1
        else
          q_ck (a1 - 1) fun x16 =>
          j66 x16
    ) fun (j50 : Int → Option Int) =>
    q_jn (
        j50 0
    ) fun (j49 : Option Int) =>
    if x2 = (-1) then
      j49
    else
      if a1 ≤ x2 then
        j49
      else
        j50 1
def f_CR_inChannel (N : Nat) (a0 : Int) (a1 : Int) (a2 : Int) (a3 : Int) (μ : q_M) : Option Int :=
  q_b (f_CR_isPair a0 a1 μ) fun x2 =>
  if x2 = 0 then
    some ((-100001))
  else
    q_jn (
        some ((-100002))
    ) fun (j26 : Option Int) =>
    if a2 < 0 then
      j26
    else
      q_b (f_CR_within a3 0 2 μ) fun x4 =>
      if x4 = 0 then
        j26
      else
        q_b (f_CR_channelOf a0 a1 μ) fun x6 =>
        q_b (f_Ch_propertyAt N 15 x6 a2 a3 μ) fun x8 =>
        some x8
def f_CR_isEvent (a0 : Int) (μ : q_M) : Option Int :=
  q_fl μ 5 0 fun x1 =>
  q_ck (x1 - 1) fun x2 =>
  q_b (f_CR_within a0 0 x2 μ) fun x4 =>
  q_rz x4 (some x4)
def f_Wo_partnerOf (o : Nat) (a0 : Int) (μ : q_M) : Option Int :=
  q_ld μ (o + 10) 100 a0 fun x1 =>
  q_fl μ (o + 14) 0 fun x2 =>
  q_ck (x2 - 1) fun x3 =>
  q_b (f_CR_within x1 0 x3 μ) fun x5 =>
  if x5 = 0 then
    some ((-100006))
  else
    q_ld μ (o + 6) 100 a0 fun x6 =>
    q_jn (fun (x7 : Int) =>
        q_jn (fun (x8 : Int) =>
            some x8
        ) fun (j76 : Int → Option Int) =>
        if x7 = (-1) then
          j76 ((-100006))
        else
          j76 x7
    ) fun (j64 : Int → Option Int) =>
    if x6 = 1 then
      q_ld μ (o + 19) 512 x1 fun x11 =>
      j64 x11
    else
      q_ld μ (o + 18) 512 x1 fun x10 =>
      j64 x10
def f_Wo_eventProperty (o : Nat) (a0 : Int) (a1 : Int) (μ : q_M) : Option Int :=
  if a1 = 0 then
    q_ld μ (o + 5) 100 a0 fun x1 =>
    some x1
  else if a1 = 1 then
    q_ld μ (o + 6) 100 a0 fun x3 =>
    some x3
  else if a1 = 2 then
    q_ld μ (o + 7) 100 a0 fun x5 =>
    some x5
  else if a1 = 3 then
    q_ld μ (o + 8) 100 a0 fun x7 =>
    some x7
  else if a1 = 4 then
    q_ld μ (o + 9) 100 a0 fun x9 =>
    some x9
  else
    q_b (f_Wo_partnerOf o a0 μ) fun x12 =>
    some x12
def f_CR_event (a0 : Int) (a1 : Int) (μ : q_M) : Option Int :=
  q_b (f_CR_isEvent a0 μ) fun x2 =>
  if x2 = 0 then
    some ((-100001))
  else
    q_b (f_CR_within a1 0 5 μ) fun x4 =>
    if x4 = 0 then
      some ((-100002))
    else
      q_b (f_Wo_eventProperty 1 a0 a1 μ) fun x6 =>
      some x6
def f_CR_clock (a0 : Int) (a1 : Int) (μ : q_M) : Option Int :=
  q_b (f_CR_isEvent a0 μ) fun x2 =>
  q_jn (
      some ((-100001))
  ) fun (j16 : Option Int) =>
  if x2 = 0 then
    j16
  else
    q_b (f_CR_isProcess a1 μ) fun x4 =>
    if x4 = 0 then
      j16
    else
      q_ck (a0 * 5) fun x5 =>
      q_ck (x5 + a1) fun x6 =>
      q_ld μ 13 500 x6 fun x7 =>
      some x7
def f_Hi_happensBefore (o : Nat) (a0 : Int) (a1 : Int) (μ : q_M) : Option Int :=
  q_jn (fun (x1 : Int) =>
      q_rz x1 (some x1)
  ) fun (j34 : Int → Option Int) =>
  q_jn (
      j34 0
  ) fun (j33 : Option Int) =>
  if a0 = a1 then
    j33
  else
    q_ck (a1 * 5) fun x2 =>
    q_ld μ (o + 1) 100 a0 fun x3 =>
    q_ck (x2 + x3) fun x4 =>
    q_ld μ (o + 8) 500 x4 fun x5 =>
    q_ld μ (o + 7) 100 a0 fun x6 =>
    if x5 ≤ x6 then
      j33
    else
      j34 1
def f_CR_order (a0 : Int) (a1 : Int) (μ : q_M) : Option Int :=
  q_b (f_CR_isEvent a0 μ) fun x2 =>
  q_jn (
      some ((-100001))
  ) fun (j16 : Option Int) =>
  if x2 = 0 then
    j16
  else
    q_b (f_CR_isEvent a1 μ) fun x4 =>
    if x4 = 0 then
      j16
    else
      q_b (f_Hi_happensBefore 5 a0 a1 μ) fun x6 =>
      if x6 = 0 then
        q_b (f_Hi_happensBefore 5 a1 a0 μ) fun x8 =>
        q_jn (fun (x9 : Int) =>
            some x9
        ) fun (j56 : Int → Option Int) =>
        if x8 = 0 then
          j56 0
        else
          j56 ((-1))
      else
        some 1
def f_Ch_waitingMessages_L4 (o : Nat) (μ : q_M) (k31 : Int → Option Int) : Nat → Int → Int → Option Int
  | 0, _, _ => none
  | nf4 + 1, x1, x2 =>
    q_fl μ o 0 fun x4 =>
    if x4 ≤ x2 then
      k31 x1
    else
      q_ld μ (o + 5) 512 x2 fun x5 =>
      q_jn (fun (x6 : Int) =>
          q_ck (x2 + 1) fun x7 =>
          f_Ch_waitingMessages_L4 o μ k31 nf4 x6 x7
      ) fun (j25 : Int → Option Int) =>
      if x5 = (-1) then
        q_ck (x1 + 1) fun x8 =>
        j25 x8
      else
        j25 x1
def f_Ch_waitingMessages (N : Nat) (o : Nat) (μ : q_M) : Option Int :=
  f_Ch_waitingMessages_L4 o μ
      (fun (x3 : Int) =>
        some x3
      )
      N 0 0
def f_Wo_eventsInCut_L4 (o : Nat) (μ : q_M) (k27 : Int → Option Int) : Nat → Int → Int → Option Int
  | 0, _, _ => none
  | nf4 + 1, x1, x2 =>
    q_fl μ o 0 fun x4 =>
    if x4 ≤ x2 then
      k27 x1
    else
      q_ld μ (o + 3) 5 x2 fun x5 =>
      q_ck (x1 + x5) fun x6 =>
      q_ck (x2 + 1) fun x7 =>
      f_Wo_eventsInCut_L4 o μ k27 nf4 x6 x7
def f_Wo_eventsInCut (N : Nat) (o : Nat) (μ : q_M) : Option Int :=
  f_Wo_eventsInCut_L4 o μ
      (fun (x3 : Int) =>
        some x3
      )
      N 0 0
def f_CR_count (N : Nat) (a0 : Int) (μ : q_M) : Option Int :=
  if a0 = 0 then
    q_fl μ 1 0 fun x1 =>
    some x1
  else if a0 = 1 then
    q_fl μ 5 0 fun x3 =>
    some x3
  else if a0 = 2 then
    q_b (f_Ch_waitingMessages N 15 μ) fun x6 =>
    some x6
  else if a0 = 3 then
    q_b (f_Ch_waitingMarkers N 15 μ) fun x9 =>
    some x9
  else if a0 = 4 then
    q_fl μ 49 0 fun x11 =>
    some x11
  else if a0 = 5 then
    q_fl μ 22 0 fun x13 =>
    some x13
  else if a0 = 6 then
    q_b (f_Wo_eventsInCut N 1 μ) fun x16 =>
    some x16
  else if a0 = 7 then
    q_fl μ 0 2 fun x18 =>
    q_jn (fun (x19 : Int) =>
        some x19
    ) fun (j128 : Int → Option Int) =>
    if x18 = 0 then
      j128 0
    else
      j128 1
  else
    some ((-100002))
def f_CR_eventsOf (a0 : Int) (μ : q_M) : Option Int :=
  q_b (f_CR_isProcess a0 μ) fun x2 =>
  q_jn (fun (x3 : Int) =>
      some x3
  ) fun (j25 : Int → Option Int) =>
  if x2 = 0 then
    j25 ((-100001))
  else
    q_ld μ 14 5 a0 fun x4 =>
    j25 x4
def f_CR_beginSnapshot (N : Nat) (a0 : Int) (μ : q_M) : Option (Int × q_M) :=
  q_b (f_CR_isProcess a0 μ) fun x2 =>
  if x2 = 0 then
    some ((-100001), μ)
  else
    q_fl μ 22 0 fun x3 =>
    if x3 = 1 then
      some ((-100003), μ)
    else
      q_b (f_Sn_forget 22 μ) fun μ5 =>
      q_fs μ5 22 0 1 fun μ6 =>
      q_b (f_Wo_noteEvents N 1 a0 μ6) fun μ8 =>
      q_b (f_Ch_waitingMarkers N 15 μ8) fun x10 =>
      some (x10, μ8)
def f_CR_abandonSnapshot (N : Nat) (μ : q_M) : Option (Int × q_M) :=
  q_fl μ 22 0 fun x1 =>
  if x1 = 1 then
    q_b (f_Ch_waitingMarkers N 15 μ) fun x3 =>
    q_b (f_Ch_dropMarkers 15 μ) fun μ5 =>
    q_b (f_Sn_forget 22 μ5) fun μ7 =>
    some (x3, μ7)
  else
    some ((-100003), μ)
def f_CR_recorded (a0 : Int) (μ : q_M) : Option Int :=
  q_b (f_CR_isProcess a0 μ) fun x2 =>
  if x2 = 0 then
    some ((-100001))
  else
    q_ld μ 23 5 a0 fun x3 =>
    q_jn (fun (x4 : Int) =>
        some x4
    ) fun (j35 : Int → Option Int) =>
    if x3 = (-1) then
      j35 ((-100006))
    else
      j35 x3
def f_CR_takeSnapshot_L19 (k57 : q_M → Option (Int × q_M)) : Nat → Int → q_M → Option (Int × q_M)
  | 0, _, _ => none
  | nf19 + 1, x2, μ3 =>
    q_fl μ3 1 0 fun x5 =>
    if x5 ≤ x2 then
      k57 μ3
    else
      q_ld μ3 23 5 x2 fun x6 =>
      q_st μ3 4 5 x2 x6 fun μ7 =>
      q_ck (x2 + 1) fun x8 =>
      f_CR_takeSnapshot_L19  k57 nf19 x8 μ7
def f_CR_takeSnapshot (N : Nat) (μ : q_M) : Option (Int × q_M) :=
  q_fl μ 22 0 fun x1 =>
  if x1 = 2 then
    f_CR_takeSnapshot_L19 
        (fun (μ4 : q_M) =>
          q_b (f_Wo_eventsInCut N 1 μ4) fun x11 =>
          some (x11, μ4)
        )
        N 0 μ
  else
    some ((-100003), μ)
def f_CR_setCut (a0 : Int) (a1 : Int) (μ : q_M) : Option (Int × q_M) :=
  q_b (f_CR_isProcess a0 μ) fun x2 =>
  if x2 = 0 then
    some ((-100001), μ)
  else
    q_ld μ 14 5 a0 fun x3 =>
    q_b (f_CR_within a1 0 x3 μ) fun x5 =>
    if x5 = 0 then
      some ((-100002), μ)
    else
      q_ld μ 4 5 a0 fun x6 =>
      q_st μ 4 5 a0 a1 fun μ7 =>
      some (x6, μ7)
def f_CR_cut (a0 : Int) (μ : q_M) : Option Int :=
  q_b (f_CR_isProcess a0 μ) fun x2 =>
  q_jn (fun (x3 : Int) =>
      some x3
  ) fun (j22 : Int → Option Int) =>
  if x2 = 0 then
    j22 ((-100001))
  else
    q_ld μ 4 5 a0 fun x4 =>
    j22 x4
def f_Wo_inCut (o : Nat) (a0 : Int) (μ : q_M) : Option Int :=
  q_fl μ (o + 4) 0 fun x1 =>
  q_ck (x1 - 1) fun x2 =>
  q_b (f_CR_within a0 0 x2 μ) fun x4 =>
  q_jn (fun (x5 : Int) =>
      q_rz x5 (some x5)
  ) fun (j48 : Int → Option Int) =>
  q_jn (
      j48 0
  ) fun (j47 : Option Int) =>
  if x4 = 0 then
    j47
  else
    q_ld μ (o + 11) 100 a0 fun x6 =>
    q_ld μ (o + 5) 100 a0 fun x7 =>
    q_ld μ (o + 3) 5 x7 fun x8 =>
    if x8 ≤ x6 then
      j47
    else
      j48 1
def f_Wo_isOrphan (o : Nat) (a0 : Int) (μ : q_M) : Option Int :=
  q_ld μ (o + 18) 512 a0 fun x1 =>
  q_jn (fun (x2 : Int) =>
      q_rz x2 (some x2)
  ) fun (j44 : Int → Option Int) =>
  q_jn (
      j44 0
  ) fun (j43 : Option Int) =>
  if x1 = (-1) then
    j43
  else
    q_b (f_Wo_inCut o x1 μ) fun x4 =>
    if x4 = 0 then
      q_ld μ (o + 19) 512 a0 fun x5 =>
      q_b (f_Wo_inCut o x5 μ) fun x7 =>
      if x7 = 0 then
        j43
      else
        j44 1
    else
      j43
def f_Wo_countOrphans_L4 (o : Nat) (μ : q_M) (k32 : Int → Option Int) : Nat → Int → Int → Option Int
  | 0, _, _ => none
  | nf4 + 1, x1, x2 =>
    q_fl μ (o + 14) 0 fun x4 =>
    if x4 ≤ x2 then
      k32 x1
    else
      q_b (f_Wo_isOrphan o x2 μ) fun x6 =>
      q_jn (fun (x7 : Int) =>
          q_ck (x2 + 1) fun x8 =>
          f_Wo_countOrphans_L4 o μ k32 nf4 x7 x8
      ) fun (j26 : Int → Option Int) =>
      if x6 = 0 then
        j26 x1
      else
        q_ck (x1 + 1) fun x9 =>
        j26 x9
def f_Wo_countOrphans (N : Nat) (o : Nat) (μ : q_M) : Option Int :=
  f_Wo_countOrphans_L4 o μ
      (fun (x3 : Int) =>
        some x3
      )
      N 0 0
def f_CR_orphans (N : Nat) (μ : q_M) : Option Int :=
  q_b (f_Wo_countOrphans N 1 μ) fun x2 =>
  some x2
def f_Wo_dropOrphanReceives_L2 (o : Nat) (k60 : q_M → Option q_M) : Nat → Int → q_M → Option q_M
  | 0, _, _ => none
  | nf2 + 1, x1, μ2 =>
    q_fl μ2 (o + 14) 0 fun x4 =>
    if x4 ≤ x1 then
      k60 μ2
    else
      q_b (f_Wo_isOrphan o x1 μ2) fun x6 =>
      q_jn (fun (μ7 : q_M) =>
          q_ck (x1 + 1) fun x8 =>
          f_Wo_dropOrphanReceives_L2 o k60 nf2 x8 μ7
      ) fun (j54 : q_M → Option q_M) =>
      if x6 = 0 then
        j54 μ2
      else
        q_ld μ2 (o + 19) 512 x1 fun x9 =>
        q_ld μ2 (o + 5) 100 x9 fun x10 =>
        q_ld μ2 (o + 11) 100 x9 fun x11 =>
        q_st μ2 (o + 3) 5 x10 x11 fun μ12 =>
        j54 μ12
def f_Wo_dropOrphanReceives (N : Nat) (o : Nat) (μ : q_M) : Option q_M :=
  f_Wo_dropOrphanReceives_L2 o
      (fun (μ3 : q_M) =>
        some μ3
      )
      N 0 μ
def f_CR_lowerCut_L10 (N : Nat) (k39 : q_M → Option (Int × q_M)) : Nat → Int → q_M → Option (Int × q_M)
  | 0, _, _ => none
  | nf10 + 1, x3, μ4 =>
    if 100 < x3 then
      k39 μ4
    else
      q_b (f_Wo_countOrphans N 1 μ4) fun x7 =>
      if x7 ≤ 0 then
        k39 μ4
      else
        q_b (f_Wo_dropOrphanReceives N 1 μ4) fun μ9 =>
        q_ck (x3 + 1) fun x10 =>
        f_CR_lowerCut_L10 N k39 nf10 x10 μ9
def f_CR_lowerCut (N : Nat) (μ : q_M) : Option (Int × q_M) :=
  q_b (f_Wo_eventsInCut N 1 μ) fun x2 =>
  f_CR_lowerCut_L10 N
      (fun (μ5 : q_M) =>
        q_b (f_Wo_eventsInCut N 1 μ5) fun x14 =>
        q_ck (x2 - x14) fun x15 =>
        some (x15, μ5)
      )
      N 0 μ
def f_Wo_includeOrphanSends_L2 (o : Nat) (k62 : q_M → Option q_M) : Nat → Int → q_M → Option q_M
  | 0, _, _ => none
  | nf2 + 1, x1, μ2 =>
    q_fl μ2 (o + 14) 0 fun x4 =>
    if x4 ≤ x1 then
      k62 μ2
    else
      q_b (f_Wo_isOrphan o x1 μ2) fun x6 =>
      q_jn (fun (μ7 : q_M) =>
          q_ck (x1 + 1) fun x8 =>
          f_Wo_includeOrphanSends_L2 o k62 nf2 x8 μ7
      ) fun (j56 : q_M → Option q_M) =>
      if x6 = 0 then
        j56 μ2
      else
        q_ld μ2 (o + 18) 512 x1 fun x9 =>
        q_ld μ2 (o + 5) 100 x9 fun x10 =>
        q_ld μ2 (o + 11) 100 x9 fun x11 =>
        q_ck (x11 + 1) fun x12 =>
        q_st μ2 (o + 3) 5 x10 x12 fun μ13 =>
        j56 μ13
def f_Wo_includeOrphanSends (N : Nat) (o : Nat) (μ : q_M) : Option q_M :=
  f_Wo_includeOrphanSends_L2 o
      (fun (μ3 : q_M) =>
        some μ3
      )
      N 0 μ
def f_CR_raiseCut_L10 (N : Nat) (k39 : q_M → Option (Int × q_M)) : Nat → Int → q_M → Option (Int × q_M)
  | 0, _, _ => none
  | nf10 + 1, x3, μ4 =>
    if 100 < x3 then
      k39 μ4
    else
      q_b (f_Wo_countOrphans N 1 μ4) fun x7 =>
      if x7 ≤ 0 then
        k39 μ4
      else
        q_b (f_Wo_includeOrphanSends N 1 μ4) fun μ9 =>
        q_ck (x3 + 1) fun x10 =>
        f_CR_raiseCut_L10 N k39 nf10 x10 μ9
def f_CR_raiseCut (N : Nat) (μ : q_M) : Option (Int × q_M) :=
  q_b (f_Wo_eventsInCut N 1 μ) fun x2 =>
  f_CR_raiseCut_L10 N
      (fun (μ5 : q_M) =>
        q_b (f_Wo_eventsInCut N 1 μ5) fun x14 =>
        q_ck (x14 - x2) fun x15 =>
        some (x15, μ5)
      )
      N 0 μ
def f_Wo_cutStock_L14 (o : Nat) (a0 : Int) (a1 : Int) (μ : q_M) (k110 : Int → Option Int) : Nat → Int → Int → Option Int
  | 0, _, _ => none
  | nf14 + 1, x4, x5 =>
    q_fl μ (o + 4) 0 fun x7 =>
    if x7 ≤ x5 then
      k110 x4
    else
      q_ld μ (o + 5) 100 x5 fun x8 =>
      q_jn (fun (x9 : Int) =>
          q_ck (x5 + 1) fun x10 =>
          f_Wo_cutStock_L14 o a0 a1 μ k110 nf14 x9 x10
      ) fun (j104 : Int → Option Int) =>
      if x8 = a0 then
        q_ld μ (o + 7) 100 x5 fun x11 =>
        if x11 = a1 then
          q_b (f_Wo_inCut o x5 μ) fun x13 =>
          if x13 = 0 then
            j104 x4
          else
            q_ld μ (o + 6) 100 x5 fun x14 =>
            q_jn (fun (x15 : Int) =>
                q_ck (x4 + x15) fun x16 =>
                j104 x16
            ) fun (j102 : Int → Option Int) =>
            if x14 = 1 then
              q_ld μ (o + 8) 100 x5 fun x18 =>
              q_ck (-x18) fun x19 =>
              j102 x19
            else
              q_ld μ (o + 8) 100 x5 fun x17 =>
              j102 x17
        else
          j104 x4
      else
        j104 x4
def f_Wo_cutStock (N : Nat) (o : Nat) (a0 : Int) (a1 : Int) (μ : q_M) : Option Int :=
  q_b (f_CR_slot a0 a1 μ) fun x2 =>
  q_ld μ (o + 2) 10 x2 fun x3 =>
  f_Wo_cutStock_L14 o a0 a1 μ
      (fun (x6 : Int) =>
        some x6
      )
      N x3 0
def f_CR_stockAtCut (N : Nat) (a0 : Int) (a1 : Int) (μ : q_M) : Option Int :=
  q_b (f_CR_isProcess a0 μ) fun x2 =>
  q_jn (
      some ((-100001))
  ) fun (j15 : Option Int) =>
  if x2 = 0 then
    j15
  else
    q_b (f_CR_isStock a1 μ) fun x4 =>
    if x4 = 0 then
      j15
    else
      q_b (f_Wo_cutStock N 1 a0 a1 μ) fun x6 =>
      some x6
def f_Wo_crossesCut (o : Nat) (a0 : Int) (μ : q_M) : Option Int :=
  q_ld μ (o + 18) 512 a0 fun x1 =>
  q_jn (fun (x2 : Int) =>
      q_rz x2 (some x2)
  ) fun (j44 : Int → Option Int) =>
  q_jn (
      j44 0
  ) fun (j43 : Option Int) =>
  q_jn (
      q_ld μ (o + 19) 512 a0 fun x3 =>
      q_b (f_Wo_inCut o x3 μ) fun x5 =>
      if x5 = 0 then
        j44 1
      else
        j43
  ) fun (j23 : Option Int) =>
  if x1 = (-1) then
    j23
  else
    q_b (f_Wo_inCut o x1 μ) fun x8 =>
    if x8 = 0 then
      j43
    else
      j23
def f_Wo_countCrossing_L4 (o : Nat) (a0 : Int) (μ : q_M) (k45 : Int → Option Int) : Nat → Int → Int → Option Int
  | 0, _, _ => none
  | nf4 + 1, x1, x2 =>
    q_fl μ (o + 14) 0 fun x4 =>
    if x4 ≤ x2 then
      k45 x1
    else
      q_ld μ (o + 15) 512 x2 fun x5 =>
      q_jn (fun (x6 : Int) =>
          q_ck (x2 + 1) fun x7 =>
          f_Wo_countCrossing_L4 o a0 μ k45 nf4 x6 x7
      ) fun (j39 : Int → Option Int) =>
      if x5 = a0 then
        q_b (f_Wo_crossesCut o x2 μ) fun x9 =>
        if x9 = 0 then
          j39 x1
        else
          q_ck (x1 + 1) fun x10 =>
          j39 x10
      else
        j39 x1
def f_Wo_countCrossing (N : Nat) (o : Nat) (a0 : Int) (μ : q_M) : Option Int :=
  f_Wo_countCrossing_L4 o a0 μ
      (fun (x3 : Int) =>
        some x3
      )
      N 0 0
def f_Wo_crossingAt_L5 (o : Nat) (a0 : Int) (a1 : Int) (μ : q_M) (k45 : Int → Option Int) (k57 : Option Int) : Nat → Int → Int → Option Int
  | 0, _, _ => none
  | nf5 + 1, x1, x2 =>
    q_fl μ (o + 14) 0 fun x4 =>
    if x4 ≤ x2 then
      k57
    else
      q_ld μ (o + 15) 512 x2 fun x5 =>
      q_jn (fun (x6 : Int) =>
          q_ck (x2 + 1) fun x7 =>
          f_Wo_crossingAt_L5 o a0 a1 μ k45 k57 nf5 x6 x7
      ) fun (j51 : Int → Option Int) =>
      if x5 = a0 then
        q_b (f_Wo_crossesCut o x2 μ) fun x9 =>
        if x9 = 0 then
          j51 x1
        else
          if x1 = a1 then
            k45 x2
          else
            q_ck (x1 + 1) fun x10 =>
            j51 x10
      else
        j51 x1
def f_Wo_crossingAt (N : Nat) (o : Nat) (a0 : Int) (a1 : Int) (μ : q_M) : Option Int :=
  f_Wo_crossingAt_L5 o a0 a1 μ
      (fun (x3 : Int) =>
        some x3
      )
      (
        some ((-1))
      )
      N 0 0
def f_CR_inTransit (N : Nat) (a0 : Int) (a1 : Int) (a2 : Int) (a3 : Int) (μ : q_M) : Option Int :=
  q_b (f_CR_isPair a0 a1 μ) fun x2 =>
  if x2 = 0 then
    some ((-100001))
  else
    q_jn (
        some ((-100002))
    ) fun (j27 : Option Int) =>
    if a2 < (-1) then
      j27
    else
      q_b (f_CR_within a3 0 1 μ) fun x4 =>
      if x4 = 0 then
        j27
      else
        q_b (f_Wo_countOrphans N 1 μ) fun x6 =>
        if x6 ≤ 0 then
          if a2 = (-1) then
            q_b (f_CR_channelOf a0 a1 μ) fun x17 =>
            q_b (f_Wo_countCrossing N 1 x17 μ) fun x19 =>
            some x19
          else
            q_b (f_CR_channelOf a0 a1 μ) fun x8 =>
            q_b (f_Wo_crossingAt N 1 x8 a2 μ) fun x10 =>
            if x10 = (-1) then
              some ((-100006))
            else
              q_jn (fun (x11 : Int) =>
                  some x11
              ) fun (j119 : Int → Option Int) =>
              if a3 = 0 then
                q_ld μ 17 512 x10 fun x13 =>
                j119 x13
              else
                q_ld μ 18 512 x10 fun x12 =>
                j119 x12
        else
          some ((-100004))
def f_RT_append (a0 : Int) (μ : q_M) : Option q_M :=
  q_fl μ 47 0 fun x1 =>
  q_stc μ 48 20 x1 a0 fun μ2 =>
  q_fl μ2 47 0 fun x3 =>
  q_ck (x3 + 1) fun x4 =>
  q_fs μ2 47 0 x4 fun μ5 =>
  some μ5
def f_CR_type (a0 : Int) (μ : q_M) : Option (Int × q_M) :=
  q_fl μ 47 0 fun x1 =>
  if x1 < 20 then
    q_b (f_RT_append a0 μ) fun μ3 =>
    q_fl μ3 47 0 fun x4 =>
    some (x4, μ3)
  else
    some ((-100005), μ)
def f_CR_clearText (μ : q_M) : Option (Int × q_M) :=
  q_fl μ 47 0 fun x1 =>
  q_fs μ 47 0 0 fun μ2 =>
  some (x1, μ2)
def f_RT_characterAt (a0 : Int) (μ : q_M) : Option Int :=
  q_fl μ 47 0 fun x1 =>
  q_ck (x1 - 1) fun x2 =>
  q_b (f_CR_within a0 0 x2 μ) fun x4 =>
  q_jn (fun (x5 : Int) =>
      some x5
  ) fun (j24 : Int → Option Int) =>
  if x4 = 0 then
    j24 ((-1))
  else
    q_ld μ 48 20 a0 fun x6 =>
    j24 x6
def f_RT_subjectFor (a0 : Int) (a1 : Int) (μ : q_M) : Option Int :=
  if a0 = 42 then
    some 8
  else
    if a0 = 126 then
      some 9
    else
      q_ck (48 + a1) fun x1 =>
      q_ck (x1 - 1) fun x2 =>
      q_b (f_CR_within a0 48 x2 μ) fun x4 =>
      q_jn (fun (x5 : Int) =>
          some x5
      ) fun (j41 : Int → Option Int) =>
      if x4 = 0 then
        j41 ((-1))
      else
        q_ck (a0 - 48) fun x6 =>
        j41 x6
def f_RT_relationFor (a0 : Int) (μ : q_M) : Option Int :=
  if a0 = 60 then
    some 0
  else if a0 = 61 then
    some 2
  else if a0 = 62 then
    some 1
  else
    some ((-1))
def f_RT_readNumber_L7 (a0 : Int) (k55 : Int → q_M → Option (Int × q_M)) : Nat → Int → q_M → Option (Int × q_M)
  | 0, _, _ => none
  | nf7 + 1, x2, μ3 =>
    q_ck (a0 + 4) fun x6 =>
    if x6 ≤ x2 then
      k55 x2 μ3
    else
      q_b (f_RT_characterAt x2 μ3) fun x8 =>
      q_b (f_CR_within x8 48 57 μ3) fun x10 =>
      if x10 = 0 then
        k55 x2 μ3
      else
        q_fl μ3 47 5 fun x11 =>
        q_ck (x11 * 10) fun x12 =>
        q_b (f_RT_characterAt x2 μ3) fun x14 =>
        q_ck (x12 + x14) fun x15 =>
        q_ck (x15 - 48) fun x16 =>
        q_fs μ3 47 5 x16 fun μ17 =>
        q_ck (x2 + 1) fun x18 =>
        f_RT_readNumber_L7 a0 k55 nf7 x18 μ17
def f_RT_readNumber (N : Nat) (a0 : Int) (μ : q_M) : Option (Int × q_M) :=
  q_fs μ 47 5 0 fun μ1 =>
  f_RT_readNumber_L7 a0
      (fun (x4 : Int) (μ5 : q_M) =>
        q_jn (fun (x21 : Int) =>
            some (x21, μ5)
        ) fun (j73 : Int → Option (Int × q_M)) =>
        q_jn (
            j73 x4
        ) fun (j72 : Option (Int × q_M)) =>
        if x4 ≤ a0 then
          j72
        else
          q_fl μ5 47 0 fun x22 =>
          if x4 = x22 then
            j73 ((-1))
          else
            j72
      )
      N a0 μ1
def f_RT_read (N : Nat) (a0 : Int) (μ : q_M) : Option (Int × q_M) :=
  q_b (f_RT_characterAt 0 μ) fun x2 =>
  q_b (f_RT_subjectFor x2 a0 μ) fun x4 =>
  q_fs μ 47 2 x4 fun μ5 =>
  q_fl μ5 47 2 fun x6 =>
  if x6 = (-1) then
    some (0, μ5)
  else
    q_b (f_RT_characterAt 1 μ5) fun x8 =>
    q_ck (x8 - 97) fun x9 =>
    q_fs μ5 47 3 x9 fun μ10 =>
    q_fl μ10 47 3 fun x11 =>
    q_b (f_CR_isStock x11 μ10) fun x13 =>
    if x13 = 0 then
      some (1, μ10)
    else
      q_b (f_RT_characterAt 2 μ10) fun x15 =>
      q_b (f_RT_relationFor x15 μ10) fun x17 =>
      q_fs μ10 47 4 x17 fun μ18 =>
      q_fl μ18 47 4 fun x19 =>
      if x19 = (-1) then
        some (2, μ18)
      else
        q_fl μ18 47 4 fun x20 =>
        if x20 = 2 then
          q_b2 (f_RT_readNumber N 3 μ18) fun x30 μ31 =>
          some (x30, μ31)
        else
          q_b (f_RT_characterAt 3 μ18) fun x22 =>
          q_jn (fun (x23 : Int) (μ24 : q_M) =>
              some (x23, μ24)
          ) fun (j104 : Int → q_M → Option (Int × q_M)) =>
          if x22 = 61 then
            q_b2 (f_RT_readNumber N 4 μ18) fun x26 μ27 =>
            j104 x26 μ27
          else
            j104 3 μ18
def f_RB_append (μ : q_M) : Option q_M :=
  q_fl μ 49 0 fun x1 =>
  q_fl μ 47 2 fun x2 =>
  q_st μ 50 12 x1 x2 fun μ3 =>
  q_fl μ3 49 0 fun x4 =>
  q_fl μ3 47 3 fun x5 =>
  q_st μ3 51 12 x4 x5 fun μ6 =>
  q_fl μ6 49 0 fun x7 =>
  q_fl μ6 47 4 fun x8 =>
  q_st μ6 52 12 x7 x8 fun μ9 =>
  q_fl μ9 49 0 fun x10 =>
  q_fl μ9 47 5 fun x11 =>
  q_st μ9 53 12 x10 x11 fun μ12 =>
  q_fl μ12 49 0 fun x13 =>
  q_ck (x13 + 1) fun x14 =>
  q_fs μ12 49 0 x14 fun μ15 =>
  some μ15
def f_CR_addRule (N : Nat) (μ : q_M) : Option (Int × q_M) :=
  q_fl μ 1 0 fun x1 =>
  q_b2 (f_RT_read N x1 μ) fun x3 μ4 =>
  if x3 = (-1) then
    q_fl μ4 49 0 fun x5 =>
    if x5 < 12 then
      q_b (f_RB_append μ4) fun μ7 =>
      q_fl μ7 49 0 fun x8 =>
      q_ck (x8 - 1) fun x9 =>
      some (x9, μ7)
    else
      some ((-100005), μ4)
  else
    q_ck ((-100) - x3) fun x11 =>
    some (x11, μ4)
def f_RB_drop_L12 (k82 : q_M → Option q_M) : Nat → Int → q_M → Option q_M
  | 0, _, _ => none
  | nf12 + 1, x4, μ5 =>
    q_fl μ5 49 0 fun x7 =>
    if x7 ≤ x4 then
      k82 μ5
    else
      q_ck (x4 + 1) fun x8 =>
      q_ld μ5 50 12 x8 fun x9 =>
      q_st μ5 50 12 x4 x9 fun μ10 =>
      q_ck (x4 + 1) fun x11 =>
      q_ld μ10 51 12 x11 fun x12 =>
      q_st μ10 51 12 x4 x12 fun μ13 =>
      q_ck (x4 + 1) fun x14 =>
      q_ld μ13 52 12 x14 fun x15 =>
      q_st μ13 52 12 x4 x15 fun μ16 =>
      q_ck (x4 + 1) fun x17 =>
      q_ld μ16 53 12 x17 fun x18 =>
      q_st μ16 53 12 x4 x18 fun μ19 =>
      q_ck (x4 + 1) fun x20 =>
      f_RB_drop_L12  k82 nf12 x20 μ19
def f_RB_drop (N : Nat) (a0 : Int) (μ : q_M) : Option q_M :=
  q_fl μ 49 0 fun x1 =>
  q_ck (x1 - 1) fun x2 =>
  q_fs μ 49 0 x2 fun μ3 =>
  f_RB_drop_L12 
      (fun (μ6 : q_M) =>
        some μ6
      )
      N a0 μ3
def f_CR_removeRule (N : Nat) (a0 : Int) (μ : q_M) : Option (Int × q_M) :=
  q_fl μ 49 0 fun x1 =>
  q_ck (x1 - 1) fun x2 =>
  q_b (f_CR_within a0 0 x2 μ) fun x4 =>
  if x4 = 0 then
    some ((-100001), μ)
  else
    q_b (f_RB_drop N a0 μ) fun μ6 =>
    q_fl μ6 49 0 fun x7 =>
    some (x7, μ6)
def f_CR_rule (a0 : Int) (a1 : Int) (μ : q_M) : Option Int :=
  q_fl μ 49 0 fun x1 =>
  q_ck (x1 - 1) fun x2 =>
  q_b (f_CR_within a0 0 x2 μ) fun x4 =>
  if x4 = 0 then
    some ((-100001))
  else
    if a1 = 0 then
      q_ld μ 50 12 a0 fun x5 =>
      some x5
    else if a1 = 1 then
      q_ld μ 51 12 a0 fun x7 =>
      some x7
    else if a1 = 2 then
      q_ld μ 52 12 a0 fun x9 =>
      some x9
    else if a1 = 3 then
      q_ld μ 53 12 a0 fun x11 =>
      some x11
    else
      some ((-100002))
def f_St_readPresent_L29 (oa : Nat) (k85 : q_M → Option q_M) : Nat → Int → q_M → Option q_M
  | 0, _, _ => none
  | nf29 + 1, x5, μ6 =>
    q_fl μ6 (oa + 14) 0 fun x8 =>
    if x8 ≤ x5 then
      k85 μ6
    else
      q_ld μ6 (oa + 19) 512 x5 fun x9 =>
      q_jn (fun (μ10 : q_M) =>
          q_ck (x5 + 1) fun x11 =>
          f_St_readPresent_L29 oa k85 nf29 x11 μ10
      ) fun (j79 : q_M → Option q_M) =>
      if x9 = (-1) then
        q_ld μ6 (oa + 16) 512 x5 fun x12 =>
        q_ld μ6 58 2 x12 fun x13 =>
        q_ld μ6 (oa + 17) 512 x5 fun x14 =>
        q_ck (x13 + x14) fun x15 =>
        q_st μ6 58 2 x12 x15 fun μ16 =>
        j79 μ16
      else
        j79 μ6
def f_St_readPresent (N : Nat) (oa : Nat) (μ : q_M) : Option q_M :=
  q_fl μ oa 0 fun x1 =>
  q_fs μ 56 0 x1 fun μ2 =>
  q_cp μ2 (oa + 1) 57 10 fun μ3 =>
  q_fi μ3 58 2 0 fun μ4 =>
  f_St_readPresent_L29 oa
      (fun (μ7 : q_M) =>
        some μ7
      )
      N 0 μ4
def f_St_valueOf_L58 (a1 : Int) (μ : q_M) (k87 : Int → Option Int) : Nat → Int → Int → Option Int
  | 0, _, _ => none
  | nf58 + 1, x2, x3 =>
    q_fl μ 56 0 fun x5 =>
    if x5 ≤ x3 then
      k87 x2
    else
      q_b (f_CR_slot x3 a1 μ) fun x7 =>
      q_ld μ 57 10 x7 fun x8 =>
      q_ck (x2 + x8) fun x9 =>
      q_ck (x3 + 1) fun x10 =>
      f_St_valueOf_L58 a1 μ k87 nf58 x9 x10
def f_St_valueOf (N : Nat) (a0 : Int) (a1 : Int) (μ : q_M) : Option Int :=
  if a0 = 9 then
    q_ld μ 58 2 a1 fun x22 =>
    some x22
  else
    if a0 = 8 then
      q_ld μ 58 2 a1 fun x1 =>
      f_St_valueOf_L58 a1 μ
          (fun (x4 : Int) =>
            some x4
          )
          N x1 0
    else
      q_fl μ 56 0 fun x12 =>
      q_ck (x12 - 1) fun x13 =>
      q_b (f_CR_within a0 0 x13 μ) fun x15 =>
      q_jn (fun (x16 : Int) =>
          some x16
      ) fun (j47 : Int → Option Int) =>
      if x15 = 0 then
        j47 0
      else
        q_b (f_CR_slot a0 a1 μ) fun x18 =>
        q_ld μ 57 10 x18 fun x19 =>
        j47 x19
def f_RB_lowest (a0 : Int) (μ : q_M) : Option Int :=
  q_ld μ 52 12 a0 fun x1 =>
  q_jn (fun (x2 : Int) =>
      some x2
  ) fun (j20 : Int → Option Int) =>
  if x1 = 0 then
    j20 ((-1000000))
  else
    q_ld μ 53 12 a0 fun x3 =>
    j20 x3
def f_RB_highest (a0 : Int) (μ : q_M) : Option Int :=
  q_ld μ 52 12 a0 fun x1 =>
  q_jn (fun (x2 : Int) =>
      some x2
  ) fun (j21 : Int → Option Int) =>
  if x1 = 1 then
    j21 1000000
  else
    q_ld μ 53 12 a0 fun x3 =>
    j21 x3
def f_RB_isKept (N : Nat) (a0 : Int) (μ : q_M) : Option Int :=
  q_ld μ 50 12 a0 fun x1 =>
  q_ld μ 51 12 a0 fun x2 =>
  q_b (f_St_valueOf N x1 x2 μ) fun x4 =>
  q_b (f_RB_lowest a0 μ) fun x6 =>
  q_b (f_RB_highest a0 μ) fun x8 =>
  q_b (f_CR_within x4 x6 x8 μ) fun x10 =>
  q_rz x10 (some x10)
def f_RB_brokenIn_L4 (N : Nat) (μ : q_M) (k33 : Int → Option Int) : Nat → Int → Int → Option Int
  | 0, _, _ => none
  | nf4 + 1, x1, x2 =>
    q_fl μ 49 0 fun x4 =>
    if x4 ≤ x2 then
      k33 x1
    else
      q_b (f_RB_isKept N x2 μ) fun x6 =>
      q_jn (fun (x7 : Int) =>
          q_ck (x2 + 1) fun x8 =>
          f_RB_brokenIn_L4 N μ k33 nf4 x7 x8
      ) fun (j27 : Int → Option Int) =>
      if x6 = 0 then
        q_sl 1 x2 fun x9 =>
        q_or x1 x9 fun x10 =>
        j27 x10
      else
        j27 x1
def f_RB_brokenIn (N : Nat) (μ : q_M) : Option Int :=
  f_RB_brokenIn_L4 N μ
      (fun (x3 : Int) =>
        some x3
      )
      N 0 0
def f_St_readCut_L20 (N : Nat) (oa : Nat) (x3 : Int) (k47 : q_M → Option q_M) : Nat → Int → q_M → Option q_M
  | 0, _, _ => none
  | nf20 + 1, x7, μ8 =>
    if 2 ≤ x7 then
      k47 μ8
    else
      q_b (f_CR_slot x3 x7 μ8) fun x11 =>
      q_b (f_Wo_cutStock N oa x3 x7 μ8) fun x13 =>
      q_st μ8 57 10 x11 x13 fun μ14 =>
      q_ck (x7 + 1) fun x15 =>
      f_St_readCut_L20 N oa x3 k47 nf20 x15 μ14
def f_St_readCut_L10 (N : Nat) (oa : Nat) (k53 : q_M → Option q_M) : Nat → Int → q_M → Option q_M
  | 0, _, _ => none
  | nf10 + 1, x3, μ4 =>
    q_fl μ4 56 0 fun x6 =>
    if x6 ≤ x3 then
      k53 μ4
    else
      f_St_readCut_L20 N oa x3
          (fun (μ9 : q_M) =>
            q_ck (x3 + 1) fun x17 =>
            f_St_readCut_L10 N oa k53 nf10 x17 μ9
          )
          N 0 μ4
def f_St_readCut_L63 (oa : Nat) (k114 : q_M → Option q_M) : Nat → Int → q_M → Option q_M
  | 0, _, _ => none
  | nf63 + 1, x20, μ21 =>
    q_fl μ21 (oa + 14) 0 fun x23 =>
    if x23 ≤ x20 then
      k114 μ21
    else
      q_b (f_Wo_crossesCut oa x20 μ21) fun x25 =>
      q_jn (fun (μ26 : q_M) =>
          q_ck (x20 + 1) fun x27 =>
          f_St_readCut_L63 oa k114 nf63 x27 μ26
      ) fun (j108 : q_M → Option q_M) =>
      if x25 = 0 then
        j108 μ21
      else
        q_ld μ21 (oa + 16) 512 x20 fun x28 =>
        q_ld μ21 58 2 x28 fun x29 =>
        q_ld μ21 (oa + 17) 512 x20 fun x30 =>
        q_ck (x29 + x30) fun x31 =>
        q_st μ21 58 2 x28 x31 fun μ32 =>
        j108 μ32
def f_St_readCut (N : Nat) (oa : Nat) (μ : q_M) : Option q_M :=
  q_fl μ oa 0 fun x1 =>
  q_fs μ 56 0 x1 fun μ2 =>
  f_St_readCut_L10 N oa
      (fun (μ5 : q_M) =>
        q_fi μ5 58 2 0 fun μ19 =>
        f_St_readCut_L63 oa
            (fun (μ22 : q_M) =>
              some μ22
            )
            N 0 μ19
      )
      N 0 μ2
def f_CR_broken (N : Nat) (a0 : Int) (μ : q_M) : Option (Int × q_M) :=
  if a0 = 0 then
    q_b (f_St_readPresent N 1 μ) fun μ9 =>
    q_b (f_RB_brokenIn N μ9) fun x11 =>
    some (x11, μ9)
  else
    q_b (f_Wo_countOrphans N 1 μ) fun x2 =>
    if x2 ≤ 0 then
      q_b (f_St_readCut N 1 μ) fun μ4 =>
      q_b (f_RB_brokenIn N μ4) fun x6 =>
      some (x6, μ4)
    else
      some ((-100004), μ)
def f_CR_setMoveCost (a0 : Int) (a1 : Int) (a2 : Int) (μ : q_M) : Option (Int × q_M) :=
  q_b (f_CR_isPair a0 a1 μ) fun x2 =>
  if x2 = 0 then
    some ((-100001), μ)
  else
    q_b (f_CR_within a2 1 1000 μ) fun x4 =>
    if x4 = 0 then
      some ((-100002), μ)
    else
      q_b (f_CR_channelOf a0 a1 μ) fun x6 =>
      q_ld μ 55 25 x6 fun x7 =>
      q_b (f_CR_channelOf a0 a1 μ) fun x9 =>
      q_st μ 55 25 x9 a2 fun μ10 =>
      some (x7, μ10)
def f_CR_setOutsideCosts (a0 : Int) (a1 : Int) (μ : q_M) : Option (Int × q_M) :=
  q_b (f_CR_within a0 1 1000 μ) fun x2 =>
  q_jn (
      some ((-100002), μ)
  ) fun (j22 : Option (Int × q_M)) =>
  if x2 = 0 then
    j22
  else
    q_b (f_CR_within a1 1 1000 μ) fun x4 =>
    if x4 = 0 then
      j22
    else
      q_fl μ 54 1 fun x5 =>
      q_jn (fun (x6 : Int) =>
          q_fs μ 54 1 a0 fun μ7 =>
          q_fs μ7 54 2 a1 fun μ8 =>
          q_jn (fun (x9 : Int) =>
              some (x9, μ8)
          ) fun (j78 : Int → Option (Int × q_M)) =>
          if x6 = 0 then
            j78 0
          else
            j78 1
      ) fun (j52 : Int → Option (Int × q_M)) =>
      q_jn (
          j52 1
      ) fun (j47 : Option (Int × q_M)) =>
      if a0 = x5 then
        q_fl μ 54 2 fun x11 =>
        if a1 = x11 then
          j52 0
        else
          j47
      else
        j47
def f_Fl_arc (a0 : Int) (a1 : Int) (μ : q_M) : Option Int :=
  q_ck (a0 * 7) fun x1 =>
  q_ck (x1 + a1) fun x2 =>
  some x2
def f_Fl_layPriced (o : Nat) (a0 : Int) (a1 : Int) (a2 : Int) (μ : q_M) : Option q_M :=
  q_st μ (o + 3) 49 a0 1000000 fun μ1 =>
  q_lsl a1 30 fun x2 =>
  q_lsl 1 a2 fun x3 =>
  q_cl (x2 + x3) fun x4 =>
  q_st μ1 (o + 4) 49 a0 x4 fun μ5 =>
  some μ5
def f_Fl_layPricedArcs_L15 (o : Nat) (a0 : Int) (x2 : Int) (k61 : Int → q_M → Option q_M) : Nat → Int → Int → q_M → Option q_M
  | 0, _, _, _ => none
  | nf15 + 1, x6, x7, μ8 =>
    if a0 ≤ x7 then
      k61 x6 μ8
    else
      q_jn (fun (x11 : Int) (μ12 : q_M) =>
          q_ck (x7 + 1) fun x13 =>
          f_Fl_layPricedArcs_L15 o a0 x2 k61 nf15 x11 x13 μ12
      ) fun (j55 : Int → q_M → Option q_M) =>
      if x2 = x7 then
        j55 x6 μ8
      else
        q_b (f_Fl_arc x2 x7 μ8) fun x15 =>
        q_b (f_CR_channelOf x2 x7 μ8) fun x17 =>
        q_ld μ8 55 25 x17 fun x18 =>
        q_b (f_Fl_layPriced o x15 x18 x6 μ8) fun μ20 =>
        q_ck (x6 + (-1)) fun x21 =>
        j55 x21 μ20
def f_Fl_layPricedArcs_L6 (N : Nat) (o : Nat) (a0 : Int) (k67 : Int → q_M → Option q_M) : Nat → Int → Int → q_M → Option q_M
  | 0, _, _, _ => none
  | nf6 + 1, x1, x2, μ3 =>
    if a0 ≤ x2 then
      k67 x1 μ3
    else
      f_Fl_layPricedArcs_L15 o a0 x2
          (fun (x9 : Int) (μ10 : q_M) =>
            q_ck (x2 + 1) fun x24 =>
            f_Fl_layPricedArcs_L6 N o a0 k67 nf6 x9 x24 μ10
          )
          N x1 0 μ3
def f_Fl_layPricedArcs_L70 (o : Nat) (a0 : Int) (k100 : Int → q_M → Option q_M) : Nat → Int → Int → q_M → Option q_M
  | 0, _, _, _ => none
  | nf70 + 1, x26, x27, μ28 =>
    if a0 ≤ x27 then
      k100 x26 μ28
    else
      q_b (f_Fl_arc 5 x27 μ28) fun x32 =>
      q_fl μ28 54 1 fun x33 =>
      q_b (f_Fl_layPriced o x32 x33 x26 μ28) fun μ35 =>
      q_ck (x26 + (-1)) fun x36 =>
      q_ck (x27 + 1) fun x37 =>
      f_Fl_layPricedArcs_L70 o a0 k100 nf70 x36 x37 μ35
def f_Fl_layPricedArcs_L103 (o : Nat) (a0 : Int) (k133 : q_M → Option q_M) : Nat → Int → Int → q_M → Option q_M
  | 0, _, _, _ => none
  | nf103 + 1, x39, x40, μ41 =>
    if a0 ≤ x40 then
      k133 μ41
    else
      q_b (f_Fl_arc x40 5 μ41) fun x44 =>
      q_fl μ41 54 2 fun x45 =>
      q_b (f_Fl_layPriced o x44 x45 x39 μ41) fun μ47 =>
      q_ck (x39 + (-1)) fun x48 =>
      q_ck (x40 + 1) fun x49 =>
      f_Fl_layPricedArcs_L103 o a0 k133 nf103 x48 x49 μ47
def f_Fl_layPricedArcs (N : Nat) (o : Nat) (a0 : Int) (μ : q_M) : Option q_M :=
  f_Fl_layPricedArcs_L6 N o a0
      (fun (x4 : Int) (μ5 : q_M) =>
        f_Fl_layPricedArcs_L70 o a0
            (fun (x29 : Int) (μ30 : q_M) =>
              f_Fl_layPricedArcs_L103 o a0
                  (fun (μ42 : q_M) =>
                    some μ42
                  )
                  N x29 0 μ30
            )
            N x4 0 μ5
      )
      N 29 0 μ
def f_Fl_layOut_L48 (o : Nat) (a0 : Int) (k73 : q_M → Option q_M) : Nat → Int → q_M → Option q_M
  | 0, _, _ => none
  | nf48 + 1, x8, μ9 =>
    if a0 ≤ x8 then
      k73 μ9
    else
      q_b (f_Fl_arc x8 6 μ9) fun x12 =>
      q_st μ9 (o + 3) 49 x12 1000 fun μ13 =>
      q_ck (x8 + 1) fun x14 =>
      f_Fl_layOut_L48 o a0 k73 nf48 x14 μ13
def f_Fl_layOut (N : Nat) (o : Nat) (a0 : Int) (μ : q_M) : Option q_M :=
  q_fi μ (o + 1) 49 0 fun μ1 =>
  q_fi μ1 (o + 2) 49 0 fun μ2 =>
  q_fi μ2 (o + 3) 49 0 fun μ3 =>
  q_fi μ3 (o + 4) 49 0 fun μ4 =>
  q_fi μ4 (o + 5) 7 0 fun μ5 =>
  q_b (f_Fl_layPricedArcs N o a0 μ5) fun μ7 =>
  f_Fl_layOut_L48 o a0
      (fun (μ10 : q_M) =>
        q_b (f_Fl_arc 6 5 μ10) fun x17 =>
        q_ck (a0 * 1000) fun x18 =>
        q_st μ10 (o + 3) 49 x17 x18 fun μ19 =>
        some μ19
      )
      N 0 μ7
def f_Fl_narrow (o : Nat) (a0 : Int) (a1 : Int) (a2 : Int) (a3 : Int) (μ : q_M) : Option q_M :=
  q_b (f_Fl_arc a0 a1 μ) fun x2 =>
  q_ld μ (o + 2) 49 x2 fun x3 =>
  q_mx x3 a2 fun x4 =>
  q_st μ (o + 2) 49 x2 x4 fun μ5 =>
  q_ld μ5 (o + 3) 49 x2 fun x6 =>
  q_mn x6 a3 fun x7 =>
  q_st μ5 (o + 3) 49 x2 x7 fun μ8 =>
  some μ8
def f_Re_obey_L3 (N : Nat) (a2 : Int) (k52 : q_M → Option (Int × q_M)) (k133 : q_M → Option (Int × q_M)) : Nat → Int → q_M → Option (Int × q_M)
  | 0, _, _ => none
  | nf3 + 1, x1, μ2 =>
    q_fl μ2 49 0 fun x5 =>
    if x5 ≤ x1 then
      k133 μ2
    else
      q_ld μ2 51 12 x1 fun x6 =>
      q_jn (fun (μ7 : q_M) =>
          q_ck (x1 + 1) fun x8 =>
          f_Re_obey_L3 N a2 k52 k133 nf3 x8 μ7
      ) fun (j127 : q_M → Option (Int × q_M)) =>
      if x6 = a2 then
        q_ld μ2 50 12 x1 fun x9 =>
        if x9 = 9 then
          q_b (f_RB_isKept N x1 μ2) fun x29 =>
          if x29 = 0 then
            k52 μ2
          else
            j127 μ2
        else
          if x9 = 8 then
            q_ld μ2 58 2 a2 fun x17 =>
            q_ao a2 61 69 fun o18 =>
            q_b (f_RB_lowest x1 μ2) fun x20 =>
            q_ck (x20 - x17) fun x21 =>
            q_b (f_RB_highest x1 μ2) fun x23 =>
            q_ck (x23 - x17) fun x24 =>
            q_b (f_Fl_narrow o18 6 5 x21 x24 μ2) fun μ26 =>
            j127 μ26
          else
            q_ao a2 61 69 fun o10 =>
            q_b (f_RB_lowest x1 μ2) fun x12 =>
            q_b (f_RB_highest x1 μ2) fun x14 =>
            q_b (f_Fl_narrow o10 x9 6 x12 x14 μ2) fun μ16 =>
            j127 μ16
      else
        j127 μ2
def f_Re_obey (N : Nat) (a2 : Int) (μ : q_M) : Option (Int × q_M) :=
  f_Re_obey_L3 N a2
      (fun (μ3 : q_M) =>
        some (0, μ3)
      )
      (fun (μ4 : q_M) =>
        some (1, μ4)
      )
      N 0 μ
def f_Fl_canBalance_L6 (o : Nat) (μ : q_M) (k36 : Option Int) (k72 : Int → Int → Option Int) : Nat → Int → Int → Int → Option Int
  | 0, _, _, _ => none
  | nf6 + 1, x1, x2, x3 =>
    if 5 ≤ x3 then
      k72 x1 x2
    else
      q_b (f_Fl_arc x3 6 μ) fun x7 =>
      q_ld μ (o + 2) 49 x7 fun x8 =>
      q_b (f_Fl_arc x3 6 μ) fun x10 =>
      q_ld μ (o + 3) 49 x10 fun x11 =>
      if x8 ≤ x11 then
        q_b (f_Fl_arc x3 6 μ) fun x13 =>
        q_ld μ (o + 2) 49 x13 fun x14 =>
        q_ck (x1 + x14) fun x15 =>
        q_b (f_Fl_arc x3 6 μ) fun x17 =>
        q_ld μ (o + 3) 49 x17 fun x18 =>
        q_ck (x2 + x18) fun x19 =>
        q_ck (x3 + 1) fun x20 =>
        f_Fl_canBalance_L6 o μ k36 k72 nf6 x15 x19 x20
      else
        k36
def f_Fl_canBalance (N : Nat) (o : Nat) (μ : q_M) : Option Int :=
  f_Fl_canBalance_L6 o μ
      (
        some 0
      )
      (fun (x4 : Int) (x5 : Int) =>
        q_b (f_Fl_arc 6 5 μ) fun x24 =>
        q_ld μ (o + 2) 49 x24 fun x25 =>
        q_ld μ (o + 3) 49 x24 fun x26 =>
        q_jn (fun (x27 : Int) =>
            q_rz x27 (some x27)
        ) fun (j119 : Int → Option Int) =>
        q_jn (
            j119 0
        ) fun (j118 : Option Int) =>
        if x26 < x25 then
          j118
        else
          q_ld μ (o + 3) 49 x24 fun x28 =>
          if x28 < x4 then
            j118
          else
            q_ld μ (o + 2) 49 x24 fun x29 =>
            if x5 < x29 then
              j118
            else
              j119 1
      )
      N 0 0 0
def f_Fl_fit (o : Nat) (a0 : Int) (a1 : Int) (μ : q_M) : Option (Int × q_M) :=
  q_ld μ (o + 2) 49 a0 fun x1 =>
  q_ld μ (o + 3) 49 a0 fun x2 =>
  q_mn x2 a1 fun x3 =>
  q_mx x1 x3 fun x4 =>
  q_st μ (o + 1) 49 a0 x4 fun μ5 =>
  q_ld μ5 (o + 1) 49 a0 fun x6 =>
  some (x6, μ5)
def f_Fl_load_L8 (o : Nat) (a1 : Int) (k75 : Int → Int → q_M → Option q_M) : Nat → Int → Int → Int → q_M → Option q_M
  | 0, _, _, _, _ => none
  | nf8 + 1, x1, x2, x3, μ4 =>
    q_fl μ4 56 0 fun x8 =>
    if x8 ≤ x3 then
      k75 x1 x2 μ4
    else
      q_b (f_CR_slot x3 a1 μ4) fun x10 =>
      q_ld μ4 57 10 x10 fun x11 =>
      q_b (f_Fl_arc x3 6 μ4) fun x13 =>
      q_b2 (f_Fl_fit o x13 x11 μ4) fun x15 μ16 =>
      q_ck (x11 - x15) fun x17 =>
      q_st μ16 (o + 5) 7 x3 x17 fun μ18 =>
      q_ck (x1 + x15) fun x19 =>
      q_ck (x2 + x11) fun x20 =>
      q_ck (x3 + 1) fun x21 =>
      f_Fl_load_L8 o a1 k75 nf8 x19 x20 x21 μ18
def f_Fl_load (N : Nat) (o : Nat) (a1 : Int) (μ : q_M) : Option q_M :=
  f_Fl_load_L8 o a1
      (fun (x5 : Int) (x6 : Int) (μ7 : q_M) =>
        q_b (f_Fl_arc 6 5 μ7) fun x24 =>
        q_b2 (f_Fl_fit o x24 x5 μ7) fun x26 μ27 =>
        q_ck (x5 - x26) fun x28 =>
        q_st μ27 (o + 5) 7 6 x28 fun μ29 =>
        q_ck (x26 - x6) fun x30 =>
        q_st μ29 (o + 5) 7 5 x30 fun μ31 =>
        some μ31
      )
      N 0 0 0 μ
def f_Re_layOut_L3 (N : Nat) (k48 : q_M → Option (Int × q_M)) (k69 : q_M → Option (Int × q_M)) : Nat → Int → q_M → Option (Int × q_M)
  | 0, _, _ => none
  | nf3 + 1, x1, μ2 =>
    if 2 ≤ x1 then
      k69 μ2
    else
      q_ao x1 61 69 fun o5 =>
      q_fl μ2 56 0 fun x6 =>
      q_b (f_Fl_layOut N o5 x6 μ2) fun μ8 =>
      q_b2 (f_Re_obey N x1 μ8) fun x10 μ11 =>
      if x10 = 0 then
        k48 μ11
      else
        q_ao x1 61 69 fun o12 =>
        q_b (f_Fl_canBalance N o12 μ11) fun x14 =>
        if x14 = 0 then
          k48 μ11
        else
          q_ao x1 61 69 fun o15 =>
          q_b (f_Fl_load N o15 x1 μ11) fun μ17 =>
          q_ck (x1 + 1) fun x18 =>
          f_Re_layOut_L3 N k48 k69 nf3 x18 μ17
def f_Re_layOut (N : Nat) (μ : q_M) : Option (Int × q_M) :=
  f_Re_layOut_L3 N
      (fun (μ3 : q_M) =>
        some (0, μ3)
      )
      (fun (μ4 : q_M) =>
        some (1, μ4)
      )
      N 0 μ
def f_Fl_canTakeBack (o : Nat) (a0 : Int) (μ : q_M) : Option Int :=
  q_ld μ (o + 1) 49 a0 fun x1 =>
  q_ld μ (o + 2) 49 a0 fun x2 =>
  q_jn (fun (x3 : Int) =>
      q_rz x3 (some x3)
  ) fun (j20 : Int → Option Int) =>
  if x1 ≤ x2 then
    j20 0
  else
    j20 1
def f_Fl_room (o : Nat) (a0 : Int) (a1 : Int) (μ : q_M) : Option Int :=
  q_b (f_Fl_arc a1 a0 μ) fun x2 =>
  q_b (f_Fl_arc a0 a1 μ) fun x4 =>
  q_b (f_Fl_canTakeBack o x2 μ) fun x6 =>
  q_jn (fun (x7 : Int) =>
      some x7
  ) fun (j52 : Int → Option Int) =>
  if x6 = 0 then
    q_ld μ (o + 3) 49 x4 fun x8 =>
    q_ld μ (o + 1) 49 x4 fun x9 =>
    q_ck (x8 - x9) fun x10 =>
    j52 x10
  else
    q_ld μ (o + 1) 49 x2 fun x11 =>
    q_ld μ (o + 2) 49 x2 fun x12 =>
    q_ck (x11 - x12) fun x13 =>
    j52 x13
def f_Fl_price (o : Nat) (a0 : Int) (a1 : Int) (μ : q_M) : Option Int :=
  q_b (f_Fl_arc a1 a0 μ) fun x2 =>
  q_b (f_Fl_canTakeBack o x2 μ) fun x4 =>
  q_jn (fun (x5 : Int) =>
      some x5
  ) fun (j34 : Int → Option Int) =>
  if x4 = 0 then
    q_b (f_Fl_arc a0 a1 μ) fun x7 =>
    q_ld μ (o + 4) 49 x7 fun x8 =>
    j34 x8
  else
    q_ld μ (o + 4) 49 x2 fun x9 =>
    q_cl (-x9) fun x10 =>
    j34 x10
def f_Fl_shortenFrom_L4 (o : Nat) (a0 : Int) (k81 : Int → q_M → Option (Int × q_M)) : Nat → Int → Int → q_M → Option (Int × q_M)
  | 0, _, _, _ => none
  | nf4 + 1, x1, x2, μ3 =>
    if 7 ≤ x2 then
      k81 x1 μ3
    else
      q_jn (fun (x6 : Int) (μ7 : q_M) =>
          q_ck (x2 + 1) fun x8 =>
          f_Fl_shortenFrom_L4 o a0 k81 nf4 x6 x8 μ7
      ) fun (j75 : Int → q_M → Option (Int × q_M)) =>
      if x2 = a0 then
        j75 x1 μ3
      else
        q_b (f_Fl_room o a0 x2 μ3) fun x10 =>
        if x10 ≤ 0 then
          j75 x1 μ3
        else
          q_ld μ3 (o + 6) 7 a0 fun x11 =>
          q_b (f_Fl_price o a0 x2 μ3) fun x13 =>
          q_cl (x11 + x13) fun x14 =>
          q_ld μ3 (o + 6) 7 x2 fun x15 =>
          q_lc x14 x15 fun x16 =>
          if 0 ≤ x16 then
            j75 x1 μ3
          else
            q_ld μ3 (o + 6) 7 a0 fun x17 =>
            q_b (f_Fl_price o a0 x2 μ3) fun x19 =>
            q_cl (x17 + x19) fun x20 =>
            q_st μ3 (o + 6) 7 x2 x20 fun μ21 =>
            q_st μ21 (o + 7) 7 x2 a0 fun μ22 =>
            j75 1 μ22
def f_Fl_shortenFrom (N : Nat) (o : Nat) (a0 : Int) (μ : q_M) : Option (Int × q_M) :=
  f_Fl_shortenFrom_L4 o a0
      (fun (x4 : Int) (μ5 : q_M) =>
        q_rz x4 (some (x4, μ5))
      )
      N 0 0 μ
def f_Fl_findWays_L2 (o : Nat) (k43 : q_M → Option q_M) : Nat → Int → q_M → Option q_M
  | 0, _, _ => none
  | nf2 + 1, x1, μ2 =>
    if 7 ≤ x1 then
      k43 μ2
    else
      q_ld μ2 (o + 5) 7 x1 fun x4 =>
      q_jn (fun (x5 : Int) =>
          q_st μ2 (o + 6) 7 x1 x5 fun μ6 =>
          q_st μ6 (o + 7) 7 x1 ((-1)) fun μ7 =>
          q_ck (x1 + 1) fun x8 =>
          f_Fl_findWays_L2 o k43 nf2 x8 μ7
      ) fun (j29 : Int → Option q_M) =>
      if x4 ≤ 0 then
        j29 1152921504606846976
      else
        j29 0
def f_Fl_findWays_L61 (N : Nat) (o : Nat) (k96 : Int → q_M → Option q_M) : Nat → Int → Int → q_M → Option q_M
  | 0, _, _, _ => none
  | nf61 + 1, x15, x16, μ17 =>
    if 7 ≤ x16 then
      k96 x15 μ17
    else
      q_ld μ17 (o + 6) 7 x16 fun x20 =>
      q_lc x20 1152921504606846976 fun x21 =>
      q_jn (fun (x22 : Int) (μ23 : q_M) =>
          q_ck (x16 + 1) fun x24 =>
          f_Fl_findWays_L61 N o k96 nf61 x22 x24 μ23
      ) fun (j90 : Int → q_M → Option q_M) =>
      if 0 ≤ x21 then
        j90 x15 μ17
      else
        q_b2 (f_Fl_shortenFrom N o x16 μ17) fun x26 μ27 =>
        if x26 = 0 then
          j90 x15 μ27
        else
          j90 1 μ27
def f_Fl_findWays_L47 (N : Nat) (o : Nat) (k102 : q_M → Option q_M) : Nat → Int → Int → q_M → Option q_M
  | 0, _, _, _ => none
  | nf47 + 1, x11, x12, μ13 =>
    if 7 ≤ x12 then
      k102 μ13
    else
      if x11 = 0 then
        k102 μ13
      else
        f_Fl_findWays_L61 N o
            (fun (x18 : Int) (μ19 : q_M) =>
              q_ck (x12 + 1) fun x31 =>
              f_Fl_findWays_L47 N o k102 nf47 x18 x31 μ19
            )
            N 0 0 μ13
def f_Fl_findWays (N : Nat) (o : Nat) (μ : q_M) : Option q_M :=
  f_Fl_findWays_L2 o
      (fun (μ3 : q_M) =>
        f_Fl_findWays_L47 N o
            (fun (μ14 : q_M) =>
              some μ14
            )
            N 1 0 μ3
      )
      N 0 μ
def f_Fl_nearestLack_L4 (o : Nat) (μ : q_M) (k61 : Int → Option Int) : Nat → Int → Int → Option Int
  | 0, _, _ => none
  | nf4 + 1, x1, x2 =>
    if 7 ≤ x2 then
      k61 x1
    else
      q_ld μ (o + 5) 7 x2 fun x4 =>
      q_jn (fun (x5 : Int) =>
          q_ck (x2 + 1) fun x6 =>
          f_Fl_nearestLack_L4 o μ k61 nf4 x5 x6
      ) fun (j55 : Int → Option Int) =>
      if 0 ≤ x4 then
        j55 x1
      else
        q_ld μ (o + 6) 7 x2 fun x7 =>
        q_lc x7 1152921504606846976 fun x8 =>
        if 0 ≤ x8 then
          j55 x1
        else
          q_jn (
              j55 x2
          ) fun (j53 : Option Int) =>
          if x1 = (-1) then
            j53
          else
            q_ld μ (o + 6) 7 x2 fun x9 =>
            q_ld μ (o + 6) 7 x1 fun x10 =>
            q_lc x9 x10 fun x11 =>
            if 0 ≤ x11 then
              j55 x1
            else
              j53
def f_Fl_nearestLack (N : Nat) (o : Nat) (μ : q_M) : Option Int :=
  f_Fl_nearestLack_L4 o μ
      (fun (x3 : Int) =>
        some x3
      )
      N ((-1)) 0
def f_Fl_shiftUnits (o : Nat) (a0 : Int) (a1 : Int) (a2 : Int) (μ : q_M) : Option q_M :=
  q_b (f_Fl_arc a1 a0 μ) fun x2 =>
  q_b (f_Fl_canTakeBack o x2 μ) fun x4 =>
  q_jn (fun (μ5 : q_M) =>
      some μ5
  ) fun (j44 : q_M → Option q_M) =>
  if x4 = 0 then
    q_b (f_Fl_arc a0 a1 μ) fun x7 =>
    q_ld μ (o + 1) 49 x7 fun x8 =>
    q_ck (x8 + a2) fun x9 =>
    q_st μ (o + 1) 49 x7 x9 fun μ10 =>
    j44 μ10
  else
    q_ld μ (o + 1) 49 x2 fun x11 =>
    q_ck (x11 - a2) fun x12 =>
    q_st μ (o + 1) 49 x2 x12 fun μ13 =>
    j44 μ13
def f_Fl_pushTo_L13 (o : Nat) (μ : q_M) (k59 : Int → Int → Option (Int × q_M)) : Nat → Int → Int → Int → Option (Int × q_M)
  | 0, _, _, _ => none
  | nf13 + 1, x3, x4, x5 =>
    if 7 ≤ x5 then
      k59 x3 x4
    else
      q_ld μ (o + 7) 7 x4 fun x8 =>
      if x8 = (-1) then
        k59 x3 x4
      else
        q_ld μ (o + 7) 7 x4 fun x9 =>
        q_b (f_Fl_room o x9 x4 μ) fun x11 =>
        q_mn x3 x11 fun x12 =>
        q_ld μ (o + 7) 7 x4 fun x13 =>
        q_ck (x5 + 1) fun x14 =>
        f_Fl_pushTo_L13 o μ k59 nf13 x12 x13 x14
def f_Fl_pushTo_L82 (o : Nat) (x18 : Int) (k129 : q_M → Option (Int × q_M)) : Nat → Int → Int → q_M → Option (Int × q_M)
  | 0, _, _, _ => none
  | nf82 + 1, x19, x20, μ21 =>
    if 7 ≤ x20 then
      k129 μ21
    else
      q_ld μ21 (o + 7) 7 x19 fun x23 =>
      if x23 = (-1) then
        k129 μ21
      else
        q_ld μ21 (o + 7) 7 x19 fun x24 =>
        q_b (f_Fl_shiftUnits o x24 x19 x18 μ21) fun μ26 =>
        q_ld μ26 (o + 7) 7 x19 fun x27 =>
        q_ck (x20 + 1) fun x28 =>
        f_Fl_pushTo_L82 o x18 k129 nf82 x27 x28 μ26
def f_Fl_pushTo (N : Nat) (o : Nat) (a0 : Int) (μ : q_M) : Option (Int × q_M) :=
  q_ld μ (o + 5) 7 a0 fun x1 =>
  q_ck (-x1) fun x2 =>
  f_Fl_pushTo_L13 o μ
      (fun (x6 : Int) (x7 : Int) =>
        q_ld μ (o + 5) 7 x7 fun x17 =>
        q_mn x6 x17 fun x18 =>
        if 0 < x18 then
          f_Fl_pushTo_L82 o x18
              (fun (μ22 : q_M) =>
                q_ld μ22 (o + 5) 7 a0 fun x31 =>
                q_ck (x31 + x18) fun x32 =>
                q_st μ22 (o + 5) 7 a0 x32 fun μ33 =>
                q_ld μ33 (o + 5) 7 x7 fun x34 =>
                q_ck (x34 - x18) fun x35 =>
                q_st μ33 (o + 5) 7 x7 x35 fun μ36 =>
                some (1, μ36)
              )
              N a0 0 μ
        else
          some (0, μ)
      )
      N x2 a0 0
def f_Fl_balance_L4 (N : Nat) (o : Nat) (k48 : q_M → Option q_M) : Nat → Int → Int → q_M → Option q_M
  | 0, _, _, _ => none
  | nf4 + 1, x1, x2, μ3 =>
    if 1000000 ≤ x2 then
      k48 μ3
    else
      if x1 = 0 then
        k48 μ3
      else
        q_b (f_Fl_findWays N o μ3) fun μ6 =>
        q_b (f_Fl_nearestLack N o μ6) fun x8 =>
        q_jn (fun (x9 : Int) (μ10 : q_M) =>
            q_ck (x2 + 1) fun x11 =>
            f_Fl_balance_L4 N o k48 nf4 x9 x11 μ10
        ) fun (j41 : Int → q_M → Option q_M) =>
        q_jn (fun (μ12 : q_M) =>
            j41 0 μ12
        ) fun (j40 : q_M → Option q_M) =>
        if x8 = (-1) then
          j40 μ6
        else
          q_b2 (f_Fl_pushTo N o x8 μ6) fun x14 μ15 =>
          if x14 = 0 then
            j40 μ15
          else
            j41 1 μ15
def f_Fl_balance (N : Nat) (o : Nat) (μ : q_M) : Option q_M :=
  f_Fl_balance_L4 N o
      (fun (μ4 : q_M) =>
        some μ4
      )
      N 1 0 μ
def f_CR_findRepair_L62 (N : Nat) (k83 : q_M → Option (Int × q_M)) : Nat → Int → q_M → Option (Int × q_M)
  | 0, _, _ => none
  | nf62 + 1, x8, μ9 =>
    if 2 ≤ x8 then
      k83 μ9
    else
      q_ao x8 61 69 fun o11 =>
      q_b (f_Fl_balance N o11 μ9) fun μ13 =>
      q_ck (x8 + 1) fun x14 =>
      f_CR_findRepair_L62 N k83 nf62 x14 μ13
def f_CR_findRepair (N : Nat) (μ : q_M) : Option (Int × q_M) :=
  q_b (f_Wo_countOrphans N 1 μ) fun x2 =>
  if x2 ≤ 0 then
    q_b (f_St_readCut N 1 μ) fun μ4 =>
    q_b2 (f_Re_layOut N μ4) fun x6 μ7 =>
    if x6 = 0 then
      some ((-100006), μ7)
    else
      f_CR_findRepair_L62 N
          (fun (μ10 : q_M) =>
            some (0, μ10)
          )
          N 0 μ7
  else
    some ((-100004), μ)
def f_Fl_plainCost_L4 (o : Nat) (μ : q_M) (k39 : Int → Option Int) : Nat → Int → Int → Option Int
  | 0, _, _ => none
  | nf4 + 1, x1, x2 =>
    if 49 ≤ x2 then
      k39 x1
    else
      q_ld μ (o + 1) 49 x2 fun x4 =>
      q_ld μ (o + 4) 49 x2 fun x5 =>
      q_lsr x5 30 fun x6 =>
      q_cl (x4 * x6) fun x7 =>
      q_cl (x1 + x7) fun x8 =>
      q_ck (x2 + 1) fun x9 =>
      f_Fl_plainCost_L4 o μ k39 nf4 x8 x9
def f_Fl_plainCost (N : Nat) (o : Nat) (μ : q_M) : Option Int :=
  f_Fl_plainCost_L4 o μ
      (fun (x3 : Int) =>
        q_ck x3 fun _ =>
        some x3
      )
      N 0 0
def f_Re_totalCost (N : Nat) (μ : q_M) : Option Int :=
  q_ao 0 61 69 fun o1 =>
  q_b (f_Fl_plainCost N o1 μ) fun x3 =>
  q_ao 1 61 69 fun o4 =>
  q_b (f_Fl_plainCost N o4 μ) fun x6 =>
  q_ck (x3 + x6) fun x7 =>
  some x7
def f_CR_repairCost (N : Nat) (μ : q_M) : Option (Int × q_M) :=
  q_b2 (f_CR_findRepair N μ) fun x2 μ3 =>
  q_jn (fun (x4 : Int) =>
      some (x4, μ3)
  ) fun (j20 : Int → Option (Int × q_M)) =>
  if x2 = 0 then
    q_b (f_Re_totalCost N μ3) fun x6 =>
    j20 x6
  else
    j20 x2
def f_Fl_along (o : Nat) (a0 : Int) (a1 : Int) (μ : q_M) : Option Int :=
  q_b (f_Fl_arc a0 a1 μ) fun x2 =>
  q_ld μ (o + 1) 49 x2 fun x3 =>
  some x3
def f_Re_amountMoved (a0 : Int) (a1 : Int) (a2 : Int) (μ : q_M) : Option Int :=
  q_ao a2 61 69 fun o1 =>
  q_b (f_Fl_along o1 a0 a1 μ) fun x3 =>
  some x3
def f_CR_moved (N : Nat) (a0 : Int) (a1 : Int) (a2 : Int) (μ : q_M) : Option (Int × q_M) :=
  q_b (f_CR_isPair a0 a1 μ) fun x2 =>
  q_jn (
      some ((-100001), μ)
  ) fun (j16 : Option (Int × q_M)) =>
  if x2 = 0 then
    j16
  else
    q_b (f_CR_isStock a2 μ) fun x4 =>
    if x4 = 0 then
      j16
    else
      q_b2 (f_CR_findRepair N μ) fun x6 μ7 =>
      q_jn (fun (x8 : Int) =>
          some (x8, μ7)
      ) fun (j45 : Int → Option (Int × q_M)) =>
      if x6 = 0 then
        q_b (f_Re_amountMoved a0 a1 a2 μ7) fun x10 =>
        j45 x10
      else
        j45 x6
def f_Re_amountBurnt (a0 : Int) (a1 : Int) (μ : q_M) : Option Int :=
  q_ao a1 61 69 fun o1 =>
  q_b (f_Fl_along o1 a0 5 μ) fun x3 =>
  some x3
def f_Re_amountGranted (a0 : Int) (a1 : Int) (μ : q_M) : Option Int :=
  q_ao a1 61 69 fun o1 =>
  q_b (f_Fl_along o1 5 a0 μ) fun x3 =>
  some x3
def f_CR_outside (N : Nat) (a0 : Int) (a1 : Int) (a2 : Int) (μ : q_M) : Option (Int × q_M) :=
  q_b (f_CR_isProcess a0 μ) fun x2 =>
  q_jn (
      some ((-100001), μ)
  ) fun (j15 : Option (Int × q_M)) =>
  if x2 = 0 then
    j15
  else
    q_b (f_CR_isStock a1 μ) fun x4 =>
    if x4 = 0 then
      j15
    else
      q_b2 (f_CR_findRepair N μ) fun x6 μ7 =>
      if x6 = 0 then
        q_jn (fun (x8 : Int) =>
            some (x8, μ7)
        ) fun (j57 : Int → Option (Int × q_M)) =>
        if a2 = 0 then
          q_b (f_Re_amountGranted a0 a1 μ7) fun x10 =>
          j57 x10
        else
          q_b (f_Re_amountBurnt a0 a1 μ7) fun x12 =>
          j57 x12
      else
        some (x6, μ7)
def f_Re_stockAfter (a0 : Int) (a1 : Int) (μ : q_M) : Option Int :=
  q_ao a1 61 69 fun o1 =>
  q_b (f_Fl_along o1 a0 6 μ) fun x3 =>
  some x3
def f_CR_repairedStock (N : Nat) (a0 : Int) (a1 : Int) (μ : q_M) : Option (Int × q_M) :=
  q_b (f_CR_isProcess a0 μ) fun x2 =>
  q_jn (
      some ((-100001), μ)
  ) fun (j15 : Option (Int × q_M)) =>
  if x2 = 0 then
    j15
  else
    q_b (f_CR_isStock a1 μ) fun x4 =>
    if x4 = 0 then
      j15
    else
      q_b2 (f_CR_findRepair N μ) fun x6 μ7 =>
      q_jn (fun (x8 : Int) =>
          some (x8, μ7)
      ) fun (j40 : Int → Option (Int × q_M)) =>
      if x6 = 0 then
        q_b (f_Re_stockAfter a0 a1 μ7) fun x10 =>
        j40 x10
      else
        j40 x6
def f_Hi_copyFrom (o : Nat) (oa : Nat) (μ : q_M) : Option q_M :=
  q_fl μ oa 0 fun x1 =>
  q_fs μ o 0 x1 fun μ2 =>
  q_cp μ2 (oa + 1) (o + 1) 100 fun μ3 =>
  q_cp μ3 (oa + 2) (o + 2) 100 fun μ4 =>
  q_cp μ4 (oa + 3) (o + 3) 100 fun μ5 =>
  q_cp μ5 (oa + 4) (o + 4) 100 fun μ6 =>
  q_cp μ6 (oa + 5) (o + 5) 100 fun μ7 =>
  q_cp μ7 (oa + 6) (o + 6) 100 fun μ8 =>
  q_cp μ8 (oa + 7) (o + 7) 100 fun μ9 =>
  q_cp μ9 (oa + 8) (o + 8) 500 fun μ10 =>
  q_cp μ10 (oa + 9) (o + 9) 5 fun μ11 =>
  some μ11
def f_Ch_copyFrom (o : Nat) (oa : Nat) (μ : q_M) : Option q_M :=
  q_fl μ oa 0 fun x1 =>
  q_fs μ o 0 x1 fun μ2 =>
  q_cp μ2 (oa + 1) (o + 1) 512 fun μ3 =>
  q_cp μ3 (oa + 2) (o + 2) 512 fun μ4 =>
  q_cp μ4 (oa + 3) (o + 3) 512 fun μ5 =>
  q_cp μ5 (oa + 4) (o + 4) 512 fun μ6 =>
  q_cp μ6 (oa + 5) (o + 5) 512 fun μ7 =>
  q_cp μ7 (oa + 6) (o + 6) 25 fun μ8 =>
  some μ8
def f_Sn_copyFrom (o : Nat) (oa : Nat) (μ : q_M) : Option q_M :=
  q_fl μ oa 0 fun x1 =>
  q_fs μ o 0 x1 fun μ2 =>
  q_cp μ2 (oa + 1) (o + 1) 5 fun μ3 =>
  some μ3
def f_Wo_copyFrom (o : Nat) (oa : Nat) (μ : q_M) : Option q_M :=
  q_fl μ oa 0 fun x1 =>
  q_fs μ o 0 x1 fun μ2 =>
  q_cp μ2 (oa + 1) (o + 1) 10 fun μ3 =>
  q_cp μ3 (oa + 2) (o + 2) 10 fun μ4 =>
  q_cp μ4 (oa + 3) (o + 3) 5 fun μ5 =>
  q_b (f_Hi_copyFrom (o + 4) (oa + 4) μ5) fun μ7 =>
  q_b (f_Ch_copyFrom (o + 14) (oa + 14) μ7) fun μ9 =>
  q_b (f_Sn_copyFrom (o + 21) (oa + 21) μ9) fun μ11 =>
  some μ11
def f_Wo_beginAfterCutOf_L10 (o : Nat) (oa : Nat) (k71 : q_M → Option q_M) : Nat → Int → q_M → Option q_M
  | 0, _, _ => none
  | nf10 + 1, x4, μ5 =>
    q_fl μ5 (oa + 14) 0 fun x7 =>
    if x7 ≤ x4 then
      k71 μ5
    else
      q_b (f_Wo_crossesCut oa x4 μ5) fun x9 =>
      q_jn (fun (μ10 : q_M) =>
          q_ck (x4 + 1) fun x11 =>
          f_Wo_beginAfterCutOf_L10 o oa k71 nf10 x11 μ10
      ) fun (j65 : q_M → Option q_M) =>
      if x9 = 0 then
        j65 μ5
      else
        q_ld μ5 (oa + 15) 512 x4 fun x12 =>
        q_ld μ5 (oa + 16) 512 x4 fun x13 =>
        q_ld μ5 (oa + 17) 512 x4 fun x14 =>
        q_b2 (f_Ch_put (o + 14) x12 x13 x14 ((-1)) μ5) fun x16 μ17 =>
        j65 μ17
def f_Wo_beginAfterCutOf (N : Nat) (o : Nat) (oa : Nat) (μ : q_M) : Option q_M :=
  q_fl μ oa 0 fun x1 =>
  q_b (f_Wo_begin o x1 μ) fun μ3 =>
  f_Wo_beginAfterCutOf_L10 o oa
      (fun (μ6 : q_M) =>
        some μ6
      )
      N 0 μ3
def f_St_shift (a0 : Int) (a1 : Int) (a2 : Int) (a3 : Int) (μ : q_M) : Option q_M :=
  q_b (f_CR_slot a0 a1 μ) fun x2 =>
  q_ld μ 57 10 x2 fun x3 =>
  q_ck (x3 + a2) fun x4 =>
  q_st μ 57 10 x2 x4 fun μ5 =>
  q_ld μ5 58 2 a1 fun x6 =>
  q_ck (x6 + a3) fun x7 =>
  q_st μ5 58 2 a1 x7 fun μ8 =>
  some μ8
def f_CR_shiftStanding (N : Nat) (a0 : Int) (μ : q_M) : Option q_M :=
  q_ld μ 29 100 a0 fun x1 =>
  q_ld μ 31 100 a0 fun x2 =>
  q_ld μ 32 100 a0 fun x3 =>
  q_ld μ 30 100 a0 fun x4 =>
  q_jn (fun (μ5 : q_M) =>
      some μ5
  ) fun (j168 : q_M → Option q_M) =>
  if x4 = 0 then
    q_b (f_St_shift x1 x2 x3 0 μ) fun μ7 =>
    j168 μ7
  else if x4 = 1 then
    q_ck (-x3) fun x9 =>
    q_b (f_St_shift x1 x2 x9 x3 μ) fun μ11 =>
    j168 μ11
  else
    q_ld μ 33 100 a0 fun x13 =>
    q_b (f_CR_channelOf x13 x1 μ) fun x15 =>
    q_b (f_Ch_messageAt N 15 x15 0 μ) fun x17 =>
    if x17 = (-1) then
      j168 μ
    else
      q_ld μ 18 512 x17 fun x18 =>
      q_ld μ 17 512 x17 fun x19 =>
      q_ck (-x18) fun x20 =>
      q_b (f_St_shift x1 x19 x18 x20 μ) fun μ22 =>
      j168 μ22
def f_CR_wouldBreak (N : Nat) (a0 : Int) (μ : q_M) : Option (Int × q_M) :=
  q_b (f_St_readPresent N 1 μ) fun μ2 =>
  q_b (f_RB_brokenIn N μ2) fun x4 =>
  q_b (f_CR_shiftStanding N a0 μ2) fun μ6 =>
  q_b (f_RB_brokenIn N μ6) fun x8 =>
  q_xo x4 ((-1)) fun x9 =>
  q_an x8 x9 fun x10 =>
  q_jn (fun (x11 : Int) =>
      q_rz x11 (some (x11, μ6))
  ) fun (j51 : Int → Option (Int × q_M)) =>
  if x10 = 0 then
    j51 0
  else
    j51 1
def f_CR_tryAgain (N : Nat) (a0 : Int) (μ : q_M) : Option (Int × q_M) :=
  q_ld μ 29 100 a0 fun x1 =>
  q_ld μ 30 100 a0 fun x2 =>
  if x2 = 0 then
    q_ld μ 31 100 a0 fun x3 =>
    q_ld μ 32 100 a0 fun x4 =>
    q_b2 (f_Wo_tryChange N 1 x1 x3 x4 μ) fun x6 μ7 =>
    some (x6, μ7)
  else if x2 = 1 then
    q_ld μ 33 100 a0 fun x9 =>
    q_ld μ 31 100 a0 fun x10 =>
    q_ld μ 32 100 a0 fun x11 =>
    q_b2 (f_Wo_trySend N 1 x1 x9 x10 x11 μ) fun x13 μ14 =>
    some (x13, μ14)
  else
    q_ld μ 33 100 a0 fun x16 =>
    q_b2 (f_Wo_tryReceive N 1 x1 x16 μ) fun x18 μ19 =>
    some (x18, μ19)
def f_CR_replay_L4 (N : Nat) (a0 : Int) (k58 : Int → q_M → Option (Int × q_M)) : Nat → Int → Int → q_M → Option (Int × q_M)
  | 0, _, _, _ => none
  | nf4 + 1, x1, x2, μ3 =>
    q_fl μ3 28 0 fun x6 =>
    if x6 ≤ x2 then
      k58 x1 μ3
    else
      q_b (f_Wo_inCut 24 x2 μ3) fun x8 =>
      q_jn (fun (x9 : Int) (μ10 : q_M) =>
          q_ck (x2 + 1) fun x11 =>
          f_CR_replay_L4 N a0 k58 nf4 x9 x11 μ10
      ) fun (j52 : Int → q_M → Option (Int × q_M)) =>
      if x8 = 0 then
        q_jn (fun (μ12 : q_M) =>
            q_b2 (f_CR_tryAgain N x2 μ12) fun x14 μ15 =>
            if x14 < 0 then
              j52 x1 μ15
            else
              q_ck (x1 + 1) fun x16 =>
              j52 x16 μ15
        ) fun (j41 : q_M → Option (Int × q_M)) =>
        if a0 = 0 then
          j41 μ3
        else
          q_b2 (f_CR_wouldBreak N x2 μ3) fun x19 μ20 =>
          if x19 = 0 then
            j41 μ20
          else
            j52 x1 μ20
      else
        j52 x1 μ3
def f_CR_replay (N : Nat) (a0 : Int) (μ : q_M) : Option (Int × q_M) :=
  f_CR_replay_L4 N a0
      (fun (x4 : Int) (μ5 : q_M) =>
        some (x4, μ5)
      )
      N 0 0 μ
def f_CR_apply_L54 (x9 : Int) (k114 : q_M → Option (Int × q_M)) : Nat → Int → q_M → Option (Int × q_M)
  | 0, _, _ => none
  | nf54 + 1, x13, μ14 =>
    if 2 ≤ x13 then
      k114 μ14
    else
      q_b (f_CR_slot x9 x13 μ14) fun x17 =>
      q_b (f_Re_stockAfter x9 x13 μ14) fun x19 =>
      q_st μ14 2 10 x17 x19 fun μ20 =>
      q_b (f_CR_slot x9 x13 μ20) fun x22 =>
      q_b (f_Re_stockAfter x9 x13 μ20) fun x24 =>
      q_st μ20 3 10 x22 x24 fun μ25 =>
      q_ck (x13 + 1) fun x26 =>
      f_CR_apply_L54 x9 k114 nf54 x26 μ25
def f_CR_apply_L40 (N : Nat) (k120 : q_M → Option (Int × q_M)) : Nat → Int → q_M → Option (Int × q_M)
  | 0, _, _ => none
  | nf40 + 1, x9, μ10 =>
    q_fl μ10 1 0 fun x12 =>
    if x12 ≤ x9 then
      k120 μ10
    else
      f_CR_apply_L54 x9
          (fun (μ15 : q_M) =>
            q_ck (x9 + 1) fun x28 =>
            f_CR_apply_L40 N k120 nf40 x28 μ15
          )
          N 0 μ10
def f_CR_apply (N : Nat) (a0 : Int) (μ : q_M) : Option (Int × q_M) :=
  q_b2 (f_CR_findRepair N μ) fun x2 μ3 =>
  if x2 = 0 then
    q_b (f_Wo_copyFrom 24 1 μ3) fun μ5 =>
    q_fz μ5 0 2 1 fun μ6 =>
    q_b (f_Wo_beginAfterCutOf N 1 24 μ6) fun μ8 =>
    f_CR_apply_L40 N
        (fun (μ11 : q_M) =>
          q_b2 (f_CR_replay N a0 μ11) fun x31 μ32 =>
          some (x31, μ32)
        )
        N 0 μ8
  else
    some (x2, μ3)
def f_CR_restore (μ : q_M) : Option (Int × q_M) :=
  q_fl μ 0 2 fun x1 =>
  if x1 = 0 then
    some ((-100006), μ)
  else
    q_b (f_Wo_copyFrom 1 24 μ) fun μ3 =>
    q_fz μ3 0 2 0 fun μ4 =>
    q_fl μ4 5 0 fun x5 =>
    some (x5, μ4)
def f_M_clearSnapshot_L10 (k31 : q_M → Option q_M) : Nat → Int → q_M → Option q_M
  | 0, _, _ => none
  | nf10 + 1, x2, μ3 =>
    if 5 ≤ x2 then
      k31 μ3
    else
      q_ck (30 + x2) fun x5 =>
      q_st μ3 1 5104 x5 ((-1)) fun μ6 =>
      q_ck (x2 + 1) fun x7 =>
      f_M_clearSnapshot_L10  k31 nf10 x7 μ6
def f_M_clearSnapshot_L33 (k55 : q_M → Option q_M) : Nat → Int → q_M → Option q_M
  | 0, _, _ => none
  | nf33 + 1, x9, μ10 =>
    if 25 ≤ x9 then
      k55 μ10
    else
      q_ck (38 + x9) fun x12 =>
      q_st μ10 1 5104 x12 ((-1)) fun μ13 =>
      q_ck (x9 + 1) fun x14 =>
      f_M_clearSnapshot_L33  k55 nf33 x14 μ13
def f_M_clearSnapshot (N : Nat) (μ : q_M) : Option q_M :=
  q_st μ 1 5104 35 0 fun μ1 =>
  f_M_clearSnapshot_L10 
      (fun (μ4 : q_M) =>
        f_M_clearSnapshot_L33 
            (fun (μ11 : q_M) =>
              some μ11
            )
            N 0 μ4
      )
      N 0 μ1
def f_M_begin_L7 (k27 : q_M → Option q_M) : Nat → Int → q_M → Option q_M
  | 0, _, _ => none
  | nf7 + 1, x2, μ3 =>
    if 5104 ≤ x2 then
      k27 μ3
    else
      q_st μ3 1 5104 x2 0 fun μ5 =>
      q_ck (x2 + 1) fun x6 =>
      f_M_begin_L7  k27 nf7 x6 μ5
def f_M_begin_L55 (k74 : q_M → Option q_M) : Nat → Int → q_M → Option q_M
  | 0, _, _ => none
  | nf55 + 1, x14, μ15 =>
    if 25 ≤ x14 then
      k74 μ15
    else
      q_st μ15 8 25 x14 1 fun μ17 =>
      q_ck (x14 + 1) fun x18 =>
      f_M_begin_L55  k74 nf55 x18 μ17
def f_M_begin (N : Nat) (a0 : Int) (μ : q_M) : Option q_M :=
  q_fs μ 0 0 a0 fun μ1 =>
  f_M_begin_L7 
      (fun (μ4 : q_M) =>
        q_b (f_M_clearSnapshot N μ4) fun μ9 =>
        q_fz μ9 0 3 0 fun μ10 =>
        q_fs μ10 0 6 0 fun μ11 =>
        q_fs μ11 0 12 100 fun μ12 =>
        q_fs μ12 0 13 100 fun μ13 =>
        f_M_begin_L55 
            (fun (μ16 : q_M) =>
              some μ16
            )
            N 0 μ13
      )
      N 0 μ1
def f_M_in (a0 : Int) (a1 : Int) (a2 : Int) (μ : q_M) : Option Int :=
  q_jn (fun (x1 : Int) =>
      q_rz x1 (some x1)
  ) fun (j15 : Int → Option Int) =>
  q_jn (
      j15 0
  ) fun (j14 : Option Int) =>
  if a0 < a1 then
    j14
  else
    if a2 < a0 then
      j14
    else
      j15 1
def f_M_reset (N : Nat) (a0 : Int) (μ : q_M) : Option (Int × q_M) :=
  q_b (f_M_in a0 2 5 μ) fun x2 =>
  if x2 = 0 then
    some ((-100002), μ)
  else
    q_fl μ 0 0 fun x3 =>
    q_b (f_M_begin N a0 μ) fun μ5 =>
    some (x3, μ5)
def f_M_noProcess (a0 : Int) (μ : q_M) : Option Int :=
  q_fl μ 0 0 fun x1 =>
  q_ck (x1 - 1) fun x2 =>
  q_b (f_M_in a0 0 x2 μ) fun x4 =>
  q_jn (fun (x5 : Int) =>
      q_rz x5 (some x5)
  ) fun (j19 : Int → Option Int) =>
  if x4 = 0 then
    j19 1
  else
    j19 0
def f_M_noStock (a0 : Int) (a1 : Int) (μ : q_M) : Option Int :=
  q_b (f_M_noProcess a0 μ) fun x2 =>
  q_jn (fun (x3 : Int) =>
      q_rz x3 (some x3)
  ) fun (j22 : Int → Option Int) =>
  q_jn (
      j22 1
  ) fun (j17 : Option Int) =>
  if x2 = 0 then
    q_b (f_M_in a1 0 1 μ) fun x5 =>
    if x5 = 0 then
      j17
    else
      j22 0
  else
    j17
def f_M_noChannel (a0 : Int) (a1 : Int) (μ : q_M) : Option Int :=
  q_b (f_M_noProcess a0 μ) fun x2 =>
  q_jn (fun (x3 : Int) =>
      q_rz x3 (some x3)
  ) fun (j26 : Int → Option Int) =>
  q_jn (
      j26 1
  ) fun (j21 : Option Int) =>
  if x2 = 0 then
    q_b (f_M_noProcess a1 μ) fun x5 =>
    if x5 = 0 then
      if a0 = a1 then
        j21
      else
        j26 0
    else
      j21
  else
    j21
def f_M_setStock (a0 : Int) (a1 : Int) (a2 : Int) (μ : q_M) : Option (Int × q_M) :=
  q_b (f_M_noStock a0 a1 μ) fun x2 =>
  if x2 = 0 then
    q_b (f_M_in a2 0 1000 μ) fun x4 =>
    if x4 = 0 then
      some ((-100002), μ)
    else
      q_ld μ 1 5104 36 fun x5 =>
      if x5 ≤ 0 then
        q_ck (2 * a0) fun x6 =>
        q_ck (0 + x6) fun x7 =>
        q_ck (x7 + a1) fun x8 =>
        q_ld μ 1 5104 x8 fun x9 =>
        q_ck (2 * a0) fun x10 =>
        q_ck (0 + x10) fun x11 =>
        q_ck (x11 + a1) fun x12 =>
        q_st μ 1 5104 x12 a2 fun μ13 =>
        q_ck (2 * a0) fun x14 =>
        q_ck (10 + x14) fun x15 =>
        q_ck (x15 + a1) fun x16 =>
        q_st μ13 1 5104 x16 a2 fun μ17 =>
        some (x9, μ17)
      else
        some ((-100003), μ)
  else
    some ((-100001), μ)
def f_M_ofEvent (a0 : Int) (a1 : Int) (μ : q_M) : Option Int :=
  q_ck (12 * a0) fun x1 =>
  q_ck (64 + x1) fun x2 =>
  q_ck (x2 + a1) fun x3 =>
  q_ld μ 1 5104 x3 fun x4 =>
  some x4
def f_M_ofMessage (a0 : Int) (a1 : Int) (μ : q_M) : Option Int :=
  q_ck (6 * a0) fun x1 =>
  q_ck (1264 + x1) fun x2 =>
  q_ck (x2 + a1) fun x3 =>
  q_ld μ 1 5104 x3 fun x4 =>
  some x4
def f_M_waitingFrom_L3 (a0 : Int) (a1 : Int) (μ : q_M) (k53 : Int → Option Int) : Nat → Int → Option Int
  | 0, _ => none
  | nf3 + 1, x1 =>
    q_ld μ 1 5104 37 fun x3 =>
    if x3 ≤ x1 then
      k53 x1
    else
      q_b (f_M_ofMessage x1 0 μ) fun x5 =>
      q_jn (
          q_ck (x1 + 1) fun x6 =>
          f_M_waitingFrom_L3 a0 a1 μ k53 nf3 x6
      ) fun (j47 : Option Int) =>
      if x5 = a0 then
        q_b (f_M_ofMessage x1 1 μ) fun x8 =>
        if x8 = a1 then
          q_b (f_M_ofMessage x1 5 μ) fun x10 =>
          if x10 < 0 then
            k53 x1
          else
            j47
        else
          j47
      else
        j47
def f_M_waitingFrom (N : Nat) (a0 : Int) (a1 : Int) (a2 : Int) (μ : q_M) : Option Int :=
  f_M_waitingFrom_L3 a0 a1 μ
      (fun (x2 : Int) =>
        some x2
      )
      N a2
def f_M_waiting_L11 (N : Nat) (a0 : Int) (a1 : Int) (μ : q_M) (k41 : Int → Option Int) : Nat → Int → Int → Option Int
  | 0, _, _ => none
  | nf11 + 1, x3, x4 =>
    q_ld μ 1 5104 37 fun x6 =>
    if x6 ≤ x4 then
      k41 x3
    else
      q_ck (x3 + 1) fun x7 =>
      q_ck (x4 + 1) fun x8 =>
      q_b (f_M_waitingFrom N a0 a1 x8 μ) fun x10 =>
      f_M_waiting_L11 N a0 a1 μ k41 nf11 x7 x10
def f_M_waiting (N : Nat) (a0 : Int) (a1 : Int) (μ : q_M) : Option Int :=
  q_b (f_M_waitingFrom N a0 a1 0 μ) fun x2 =>
  f_M_waiting_L11 N a0 a1 μ
      (fun (x5 : Int) =>
        some x5
      )
      N 0 x2
def f_M_write (a0 : Int) (a1 : Int) (a2 : Int) (a3 : Int) (a4 : Int) (μ : q_M) : Option q_M :=
  q_ld μ 1 5104 37 fun x1 =>
  q_ck (6 * x1) fun x2 =>
  q_ck (1264 + x2) fun x3 =>
  q_st μ 1 5104 x3 a0 fun μ4 =>
  q_ck (x3 + 1) fun x5 =>
  q_st μ4 1 5104 x5 a1 fun μ6 =>
  q_ck (x3 + 2) fun x7 =>
  q_st μ6 1 5104 x7 a2 fun μ8 =>
  q_ck (x3 + 3) fun x9 =>
  q_st μ8 1 5104 x9 a3 fun μ10 =>
  q_ck (x3 + 4) fun x11 =>
  q_st μ10 1 5104 x11 a4 fun μ12 =>
  q_ck (x3 + 5) fun x13 =>
  q_st μ12 1 5104 x13 ((-1)) fun μ14 =>
  q_ld μ14 1 5104 37 fun x15 =>
  q_ck (x15 + 1) fun x16 =>
  q_st μ14 1 5104 37 x16 fun μ17 =>
  some μ17
def f_M_happens_L102 (x3 : Int) (k128 : q_M → Option (Int × q_M)) : Nat → Int → q_M → Option (Int × q_M)
  | 0, _, _ => none
  | nf102 + 1, x19, μ20 =>
    if 5 ≤ x19 then
      k128 μ20
    else
      q_ck (x3 + 7) fun x22 =>
      q_ck (x22 + x19) fun x23 =>
      q_st μ20 1 5104 x23 0 fun μ24 =>
      q_ck (x19 + 1) fun x25 =>
      f_M_happens_L102 x3 k128 nf102 x25 μ24
def f_M_happens_L176 (x32 : Int) (x3 : Int) (x27 : Int) (k260 : q_M → Option (Int × q_M)) : Nat → Int → q_M → Option (Int × q_M)
  | 0, _, _ => none
  | nf176 + 1, x33, μ34 =>
    if 5 ≤ x33 then
      k260 μ34
    else
      if x32 = 0 then
        k260 μ34
      else
        q_ck (x3 + 7) fun x36 =>
        q_ck (x36 + x33) fun x37 =>
        q_ck (7 + x33) fun x38 =>
        q_b (f_M_ofEvent x27 x38 μ34) fun x40 =>
        q_ck (x3 + 7) fun x41 =>
        q_ck (x41 + x33) fun x42 =>
        q_ld μ34 1 5104 x42 fun x43 =>
        q_jn (fun (x44 : Int) =>
            q_st μ34 1 5104 x37 x44 fun μ45 =>
            q_ck (x33 + 1) fun x46 =>
            f_M_happens_L176 x32 x3 x27 k260 nf176 x46 μ45
        ) fun (j253 : Int → Option (Int × q_M)) =>
        if x40 ≤ x43 then
          q_ck (x3 + 7) fun x47 =>
          q_ck (x47 + x33) fun x48 =>
          q_ld μ34 1 5104 x48 fun x49 =>
          j253 x49
        else
          q_ck (7 + x33) fun x50 =>
          q_b (f_M_ofEvent x27 x50 μ34) fun x52 =>
          j253 x52
def f_M_happens_L131 (N : Nat) (a0 : Int) (a1 : Int) (a5 : Int) (x1 : Int) (x3 : Int) (k266 : q_M → Option (Int × q_M)) : Nat → Int → q_M → Option (Int × q_M)
  | 0, _, _ => none
  | nf131 + 1, x27, μ28 =>
    if x1 ≤ x27 then
      k266 μ28
    else
      q_b (f_M_ofEvent x27 0 μ28) fun x31 =>
      q_jn (fun (x32 : Int) =>
          f_M_happens_L176 x32 x3 x27
              (fun (μ35 : q_M) =>
                q_ck (x27 + 1) fun x56 =>
                f_M_happens_L131 N a0 a1 a5 x1 x3 k266 nf131 x56 μ35
              )
              N 0 μ28
      ) fun (j171 : Int → Option (Int × q_M)) =>
      q_jn (
          j171 1
      ) fun (j166 : Option (Int × q_M)) =>
      if x31 = a0 then
        j166
      else
        q_jn (
            j171 0
        ) fun (j170 : Option (Int × q_M)) =>
        if a1 = 2 then
          q_b (f_M_ofMessage a5 4 μ28) fun x58 =>
          if x58 = x27 then
            j166
          else
            j170
        else
          j170
def f_M_happens (N : Nat) (a0 : Int) (a1 : Int) (a2 : Int) (a3 : Int) (a4 : Int) (a5 : Int) (μ : q_M) : Option (Int × q_M) :=
  q_ld μ 1 5104 36 fun x1 =>
  q_ck (12 * x1) fun x2 =>
  q_ck (64 + x2) fun x3 =>
  q_st μ 1 5104 x3 a0 fun μ4 =>
  q_ck (x3 + 1) fun x5 =>
  q_st μ4 1 5104 x5 a1 fun μ6 =>
  q_ck (x3 + 2) fun x7 =>
  q_st μ6 1 5104 x7 a2 fun μ8 =>
  q_ck (x3 + 3) fun x9 =>
  q_st μ8 1 5104 x9 a3 fun μ10 =>
  q_ck (x3 + 4) fun x11 =>
  q_st μ10 1 5104 x11 a4 fun μ12 =>
  q_ck (x3 + 5) fun x13 =>
  q_st μ12 1 5104 x13 a5 fun μ14 =>
  q_ck (x3 + 6) fun x15 =>
  q_ck (25 + a0) fun x16 =>
  q_ld μ14 1 5104 x16 fun x17 =>
  q_st μ14 1 5104 x15 x17 fun μ18 =>
  f_M_happens_L102 x3
      (fun (μ21 : q_M) =>
        f_M_happens_L131 N a0 a1 a5 x1 x3
            (fun (μ29 : q_M) =>
              q_ck (25 + a0) fun x63 =>
              q_ld μ29 1 5104 x63 fun x64 =>
              q_ck (x64 + 1) fun x65 =>
              q_st μ29 1 5104 x63 x65 fun μ66 =>
              q_ck (x3 + 7) fun x67 =>
              q_ck (x67 + a0) fun x68 =>
              q_ck (25 + a0) fun x69 =>
              q_ld μ66 1 5104 x69 fun x70 =>
              q_st μ66 1 5104 x68 x70 fun μ71 =>
              q_ld μ71 1 5104 36 fun x72 =>
              q_ck (x72 + 1) fun x73 =>
              q_st μ71 1 5104 36 x73 fun μ74 =>
              some (x1, μ74)
            )
            N 0 μ21
      )
      N 0 μ18
def f_M_changeNow (N : Nat) (a0 : Int) (a1 : Int) (a2 : Int) (μ : q_M) : Option (Int × q_M) :=
  q_ck (2 * a0) fun x1 =>
  q_ck (0 + x1) fun x2 =>
  q_ck (x2 + a1) fun x3 =>
  q_ld μ 1 5104 x3 fun x4 =>
  q_ck (x4 + a2) fun x5 =>
  q_b (f_M_in x5 0 1000 μ) fun x7 =>
  if x7 = 0 then
    some ((-100004), μ)
  else
    q_ld μ 1 5104 36 fun x8 =>
    if x8 = 100 then
      some ((-100005), μ)
    else
      q_ck (2 * a0) fun x9 =>
      q_ck (0 + x9) fun x10 =>
      q_ck (x10 + a1) fun x11 =>
      q_st μ 1 5104 x11 x5 fun μ12 =>
      q_b2 (f_M_happens N a0 0 a1 a2 ((-100006)) ((-1)) μ12) fun x14 μ15 =>
      some (x14, μ15)
def f_M_change (N : Nat) (a0 : Int) (a1 : Int) (a2 : Int) (μ : q_M) : Option (Int × q_M) :=
  q_b (f_M_noStock a0 a1 μ) fun x2 =>
  if x2 = 0 then
    q_b (f_M_in a2 ((-100)) 100 μ) fun x4 =>
    q_jn (fun (x5 : Int) (μ6 : q_M) =>
        some (x5, μ6)
    ) fun (j39 : Int → q_M → Option (Int × q_M)) =>
    q_jn (
        j39 ((-100002)) μ
    ) fun (j37 : Option (Int × q_M)) =>
    if x4 = 0 then
      j37
    else
      if a2 = 0 then
        j37
      else
        q_b2 (f_M_changeNow N a0 a1 a2 μ) fun x8 μ9 =>
        j39 x8 μ9
  else
    some ((-100001), μ)
def f_M_sendNow (N : Nat) (a0 : Int) (a1 : Int) (a2 : Int) (a3 : Int) (μ : q_M) : Option (Int × q_M) :=
  q_ck (2 * a0) fun x1 =>
  q_ck (0 + x1) fun x2 =>
  q_ck (x2 + a2) fun x3 =>
  q_ld μ 1 5104 x3 fun x4 =>
  if a3 ≤ x4 then
    q_ld μ 1 5104 36 fun x5 =>
    q_jn (
        some ((-100005), μ)
    ) fun (j43 : Option (Int × q_M)) =>
    if x5 = 100 then
      j43
    else
      q_b (f_M_waiting N a0 a1 μ) fun x7 =>
      if x7 < 6 then
        q_ck (2 * a0) fun x8 =>
        q_ck (0 + x8) fun x9 =>
        q_ck (x9 + a2) fun x10 =>
        q_ld μ 1 5104 x10 fun x11 =>
        q_ck (x11 - a3) fun x12 =>
        q_st μ 1 5104 x10 x12 fun μ13 =>
        q_ld μ13 1 5104 36 fun x14 =>
        q_b (f_M_write a0 a1 a2 a3 x14 μ13) fun μ16 =>
        q_ld μ16 1 5104 37 fun x17 =>
        q_ck (x17 - 1) fun x18 =>
        q_b2 (f_M_happens N a0 1 a2 a3 a1 x18 μ16) fun x20 μ21 =>
        some (x20, μ21)
      else
        j43
  else
    some ((-100004), μ)
def f_M_send (N : Nat) (a0 : Int) (a1 : Int) (a2 : Int) (a3 : Int) (μ : q_M) : Option (Int × q_M) :=
  q_b (f_M_noChannel a0 a1 μ) fun x2 =>
  q_jn (
      some ((-100001), μ)
  ) fun (j18 : Option (Int × q_M)) =>
  if x2 = 0 then
    q_b (f_M_in a2 0 1 μ) fun x4 =>
    if x4 = 0 then
      j18
    else
      q_b (f_M_in a3 1 100 μ) fun x6 =>
      q_jn (fun (x7 : Int) (μ8 : q_M) =>
          some (x7, μ8)
      ) fun (j46 : Int → q_M → Option (Int × q_M)) =>
      if x6 = 0 then
        j46 ((-100002)) μ
      else
        q_b2 (f_M_sendNow N a0 a1 a2 a3 μ) fun x10 μ11 =>
        j46 x10 μ11
  else
    j18
def f_M_record_L20 (a0 : Int) (k63 : q_M → Option q_M) : Nat → Int → q_M → Option q_M
  | 0, _, _ => none
  | nf20 + 1, x5, μ6 =>
    q_fl μ6 0 0 fun x8 =>
    if x8 ≤ x5 then
      k63 μ6
    else
      q_ck (5 * a0) fun x9 =>
      q_ck (38 + x9) fun x10 =>
      q_ck (x10 + x5) fun x11 =>
      q_jn (fun (x12 : Int) =>
          q_st μ6 1 5104 x11 x12 fun μ13 =>
          q_ck (x5 + 1) fun x14 =>
          f_M_record_L20 a0 k63 nf20 x14 μ13
      ) fun (j56 : Int → Option q_M) =>
      if x5 = a0 then
        j56 ((-1))
      else
        q_ld μ6 1 5104 37 fun x15 =>
        j56 x15
def f_M_record (N : Nat) (a0 : Int) (μ : q_M) : Option q_M :=
  q_ck (30 + a0) fun x1 =>
  q_ck (25 + a0) fun x2 =>
  q_ld μ 1 5104 x2 fun x3 =>
  q_st μ 1 5104 x1 x3 fun μ4 =>
  f_M_record_L20 a0
      (fun (μ7 : q_M) =>
        some μ7
      )
      N 0 μ4
def f_M_markers_L4 (μ : q_M) (k36 : Int → Option Int) : Nat → Int → Int → Option Int
  | 0, _, _ => none
  | nf4 + 1, x1, x2 =>
    if 25 ≤ x2 then
      k36 x1
    else
      q_ck (38 + x2) fun x4 =>
      q_ld μ 1 5104 x4 fun x5 =>
      q_jn (fun (x6 : Int) =>
          q_ck (x1 + x6) fun x7 =>
          q_ck (x2 + 1) fun x8 =>
          f_M_markers_L4 μ k36 nf4 x7 x8
      ) fun (j28 : Int → Option Int) =>
      if x5 < 0 then
        j28 0
      else
        j28 1
def f_M_markers (N : Nat) (μ : q_M) : Option Int :=
  f_M_markers_L4 μ
      (fun (x3 : Int) =>
        some x3
      )
      N 0 0
def f_M_takeMarker_L36 (μ7 : q_M) (k74 : Int → Option q_M) : Nat → Int → Int → Option q_M
  | 0, _, _ => none
  | nf36 + 1, x8, x9 =>
    q_fl μ7 0 0 fun x11 =>
    if x11 ≤ x9 then
      k74 x8
    else
      q_jn (fun (x12 : Int) =>
          q_ck (x9 + 1) fun x13 =>
          f_M_takeMarker_L36 μ7 k74 nf36 x12 x13
      ) fun (j67 : Int → Option q_M) =>
      q_jn (
          j67 0
      ) fun (j66 : Option q_M) =>
      if x8 = 0 then
        j66
      else
        q_ck (30 + x9) fun x14 =>
        q_ld μ7 1 5104 x14 fun x15 =>
        if x15 < 0 then
          j66
        else
          j67 1
def f_M_takeMarker (N : Nat) (a0 : Int) (a1 : Int) (μ : q_M) : Option q_M :=
  q_ck (5 * a0) fun x1 =>
  q_ck (38 + x1) fun x2 =>
  q_ck (x2 + a1) fun x3 =>
  q_st μ 1 5104 x3 ((-1)) fun μ4 =>
  q_ck (30 + a1) fun x5 =>
  q_ld μ4 1 5104 x5 fun x6 =>
  q_jn (fun (μ7 : q_M) =>
      f_M_takeMarker_L36 μ7
          (fun (x10 : Int) =>
            q_jn (fun (x19 : Int) =>
                q_st μ7 1 5104 35 x19 fun μ20 =>
                some μ20
            ) fun (j96 : Int → Option q_M) =>
            q_jn (
                j96 1
            ) fun (j95 : Option q_M) =>
            if x10 = 0 then
              j95
            else
              q_b (f_M_markers N μ7) fun x22 =>
              if x22 = 0 then
                j96 2
              else
                j95
          )
          N 1 0
  ) fun (j31 : q_M → Option q_M) =>
  if 0 ≤ x6 then
    j31 μ4
  else
    q_b (f_M_record N a1 μ4) fun μ26 =>
    j31 μ26
def f_M_receiveNow (N : Nat) (a0 : Int) (a1 : Int) (a2 : Int) (μ : q_M) : Option (Int × q_M) :=
  q_b (f_M_ofMessage a2 2 μ) fun x2 =>
  q_ck (2 * a0) fun x3 =>
  q_ck (0 + x3) fun x4 =>
  q_ck (x4 + x2) fun x5 =>
  q_ld μ 1 5104 x5 fun x6 =>
  q_b (f_M_ofMessage a2 3 μ) fun x8 =>
  q_ck (x6 + x8) fun x9 =>
  if x9 ≤ 1000 then
    q_ld μ 1 5104 36 fun x10 =>
    if x10 = 100 then
      some ((-100005), μ)
    else
      q_ck (2 * a0) fun x11 =>
      q_ck (0 + x11) fun x12 =>
      q_ck (x12 + x2) fun x13 =>
      q_st μ 1 5104 x13 x9 fun μ14 =>
      q_ck (6 * a2) fun x15 =>
      q_ck (1264 + x15) fun x16 =>
      q_ck (x16 + 5) fun x17 =>
      q_ld μ14 1 5104 36 fun x18 =>
      q_st μ14 1 5104 x17 x18 fun μ19 =>
      q_b (f_M_ofMessage a2 3 μ19) fun x21 =>
      q_b2 (f_M_happens N a0 2 x2 x21 a1 a2 μ19) fun x23 μ24 =>
      some (x23, μ24)
  else
    some ((-100004), μ)
def f_M_receive (N : Nat) (a0 : Int) (a1 : Int) (μ : q_M) : Option (Int × q_M) :=
  q_b (f_M_noChannel a1 a0 μ) fun x2 =>
  if x2 = 0 then
    q_b (f_M_waitingFrom N a1 a0 0 μ) fun x4 =>
    q_ck (5 * a1) fun x5 =>
    q_ck (38 + x5) fun x6 =>
    q_ck (x6 + a0) fun x7 =>
    q_ld μ 1 5104 x7 fun x8 =>
    q_jn (
        q_ld μ 1 5104 37 fun x9 =>
        q_jn (fun (x10 : Int) (μ11 : q_M) =>
            some (x10, μ11)
        ) fun (j79 : Int → q_M → Option (Int × q_M)) =>
        if x4 = x9 then
          j79 ((-100006)) μ
        else
          q_b2 (f_M_receiveNow N a0 a1 x4 μ) fun x13 μ14 =>
          j79 x13 μ14
    ) fun (j56 : Option (Int × q_M)) =>
    if x8 < 0 then
      j56
    else
      if x4 < x8 then
        j56
      else
        q_b (f_M_takeMarker N a1 a0 μ) fun μ17 =>
        some (1000, μ17)
  else
    some ((-100001), μ)
def f_M_stock (a0 : Int) (a1 : Int) (μ : q_M) : Option Int :=
  q_b (f_M_noStock a0 a1 μ) fun x2 =>
  q_jn (fun (x3 : Int) =>
      some x3
  ) fun (j26 : Int → Option Int) =>
  if x2 = 0 then
    q_ck (2 * a0) fun x4 =>
    q_ck (0 + x4) fun x5 =>
    q_ck (x5 + a1) fun x6 =>
    q_ld μ 1 5104 x6 fun x7 =>
    j26 x7
  else
    j26 ((-100001))
def f_M_inChannel_L59 (N : Nat) (a0 : Int) (a1 : Int) (a2 : Int) (μ : q_M) (k82 : Option Int) (k140 : Int → Option Int) (k210 : Option Int) : Nat → Int → Int → Int → Int → Option Int
  | 0, _, _, _, _ => none
  | nf59 + 1, x11, x12, x13, x14 =>
    if x14 = 0 then
      k210
    else
      q_jn (fun (x16 : Int) (x17 : Int) =>
          q_ld μ 1 5104 37 fun x18 =>
          q_jn (fun (x19 : Int) =>
              q_jn (
                  q_ck (x17 + 1) fun x20 =>
                  q_jn (fun (x21 : Int) =>
                      f_M_inChannel_L59 N a0 a1 a2 μ k82 k140 k210 nf59 x16 x20 x21 x19
                  ) fun (j205 : Int → Option Int) =>
                  if x19 = 0 then
                    j205 x13
                  else
                    q_ck (x13 + 1) fun x22 =>
                    q_b (f_M_waitingFrom N a0 a1 x22 μ) fun x24 =>
                    j205 x24
              ) fun (j182 : Option Int) =>
              if x19 = 0 then
                j182
              else
                if x17 = a2 then
                  k140 x13
                else
                  j182
          ) fun (j127 : Int → Option Int) =>
          if x18 ≤ x13 then
            j127 0
          else
            j127 1
      ) fun (j110 : Int → Int → Option Int) =>
      if x11 < 0 then
        j110 x11 x12
      else
        if x13 < x11 then
          j110 x11 x12
        else
          if x12 = a2 then
            k82
          else
            q_ck (x12 + 1) fun x29 =>
            j110 ((-1)) x29
def f_M_inChannel (N : Nat) (a0 : Int) (a1 : Int) (a2 : Int) (a3 : Int) (μ : q_M) : Option Int :=
  q_b (f_M_noChannel a0 a1 μ) fun x2 =>
  if x2 = 0 then
    q_jn (
        some ((-100002))
    ) fun (j26 : Option Int) =>
    if a2 < 0 then
      j26
    else
      q_b (f_M_in a3 0 2 μ) fun x4 =>
      if x4 = 0 then
        j26
      else
        q_ck (5 * a0) fun x5 =>
        q_ck (38 + x5) fun x6 =>
        q_ck (x6 + a1) fun x7 =>
        q_ld μ 1 5104 x7 fun x8 =>
        q_b (f_M_waitingFrom N a0 a1 0 μ) fun x10 =>
        f_M_inChannel_L59 N a0 a1 a2 μ
            (
              q_jn (fun (x34 : Int) =>
                  some x34
              ) fun (j103 : Int → Option Int) =>
              if a3 = 0 then
                j103 2
              else
                if a3 = 1 then
                  j103 0
                else
                  j103 ((-100006))
            )
            (fun (x15 : Int) =>
              q_jn (fun (x37 : Int) =>
                  some x37
              ) fun (j181 : Int → Option Int) =>
              if 2 ≤ a3 then
                q_b (f_M_ofMessage x15 4 μ) fun x39 =>
                if 0 ≤ x39 then
                  q_b (f_M_ofMessage x15 4 μ) fun x41 =>
                  j181 x41
                else
                  j181 ((-100006))
              else
                q_ck (2 + a3) fun x43 =>
                q_b (f_M_ofMessage x15 x43 μ) fun x45 =>
                j181 x45
            )
            (
              some ((-100006))
            )
            N x8 0 x10 1
  else
    some ((-100001))
def f_M_noEvent (a0 : Int) (μ : q_M) : Option Int :=
  q_ld μ 1 5104 36 fun x1 =>
  q_ck (x1 - 1) fun x2 =>
  q_b (f_M_in a0 0 x2 μ) fun x4 =>
  q_jn (fun (x5 : Int) =>
      q_rz x5 (some x5)
  ) fun (j22 : Int → Option Int) =>
  if x4 = 0 then
    j22 1
  else
    j22 0
def f_M_event (a0 : Int) (a1 : Int) (μ : q_M) : Option Int :=
  q_b (f_M_noEvent a0 μ) fun x2 =>
  if x2 = 0 then
    q_b (f_M_in a1 0 5 μ) fun x4 =>
    if x4 = 0 then
      some ((-100002))
    else
      if 5 ≤ a1 then
        q_b (f_M_ofEvent a0 5 μ) fun x6 =>
        q_jn (fun (x7 : Int) =>
            q_jn (fun (x8 : Int) =>
                some x8
            ) fun (j84 : Int → Option Int) =>
            if 0 ≤ x7 then
              j84 x7
            else
              j84 ((-100006))
        ) fun (j70 : Int → Option Int) =>
        if 0 ≤ x6 then
          q_b (f_M_ofEvent a0 1 μ) fun x11 =>
          q_jn (fun (x12 : Int) =>
              q_b (f_M_ofMessage x6 x12 μ) fun x14 =>
              j70 x14
          ) fun (j67 : Int → Option Int) =>
          if x11 = 1 then
            j67 5
          else
            j67 4
        else
          j70 ((-1))
      else
        q_b (f_M_ofEvent a0 a1 μ) fun x18 =>
        some x18
  else
    some ((-100001))
def f_M_clock (a0 : Int) (a1 : Int) (μ : q_M) : Option Int :=
  q_b (f_M_noEvent a0 μ) fun x2 =>
  q_jn (fun (x3 : Int) =>
      some x3
  ) fun (j30 : Int → Option Int) =>
  q_jn (
      j30 ((-100001))
  ) fun (j16 : Option Int) =>
  if x2 = 0 then
    q_b (f_M_noProcess a1 μ) fun x5 =>
    if x5 = 0 then
      q_ck (7 + a1) fun x6 =>
      q_b (f_M_ofEvent a0 x6 μ) fun x8 =>
      j30 x8
    else
      j16
  else
    j16
def f_M_isKnown (a0 : Int) (a1 : Int) (μ : q_M) : Option Int :=
  q_b (f_M_ofEvent a0 0 μ) fun x2 =>
  q_ck (7 + x2) fun x3 =>
  q_b (f_M_ofEvent a1 x3 μ) fun x5 =>
  q_b (f_M_ofEvent a0 6 μ) fun x7 =>
  q_jn (fun (x8 : Int) =>
      q_rz x8 (some x8)
  ) fun (j29 : Int → Option Int) =>
  if x5 ≤ x7 then
    j29 0
  else
    j29 1
def f_M_order (a0 : Int) (a1 : Int) (μ : q_M) : Option Int :=
  q_b (f_M_noEvent a0 μ) fun x2 =>
  q_jn (
      some ((-100001))
  ) fun (j16 : Option Int) =>
  if x2 = 0 then
    q_b (f_M_noEvent a1 μ) fun x4 =>
    if x4 = 0 then
      q_jn (fun (x5 : Int) =>
          some x5
      ) fun (j55 : Int → Option Int) =>
      if a0 = a1 then
        j55 0
      else
        q_b (f_M_isKnown a0 a1 μ) fun x7 =>
        if x7 = 0 then
          q_b (f_M_isKnown a1 a0 μ) fun x9 =>
          if x9 = 0 then
            j55 0
          else
            j55 ((-1))
        else
          j55 1
    else
      j16
  else
    j16
def f_M_cutSize_L4 (μ : q_M) (k30 : Int → Option Int) : Nat → Int → Int → Option Int
  | 0, _, _ => none
  | nf4 + 1, x1, x2 =>
    q_fl μ 0 0 fun x4 =>
    if x4 ≤ x2 then
      k30 x1
    else
      q_ck (20 + x2) fun x5 =>
      q_ld μ 1 5104 x5 fun x6 =>
      q_ck (x1 + x6) fun x7 =>
      q_ck (x2 + 1) fun x8 =>
      f_M_cutSize_L4 μ k30 nf4 x7 x8
def f_M_cutSize (N : Nat) (μ : q_M) : Option Int :=
  f_M_cutSize_L4 μ
      (fun (x3 : Int) =>
        some x3
      )
      N 0 0
def f_M_count_L4 (μ : q_M) (k38 : Int → Option Int) : Nat → Int → Int → Option Int
  | 0, _, _ => none
  | nf4 + 1, x1, x2 =>
    q_ld μ 1 5104 37 fun x4 =>
    if x4 ≤ x2 then
      k38 x1
    else
      q_b (f_M_ofMessage x2 5 μ) fun x6 =>
      q_jn (fun (x7 : Int) =>
          q_ck (x1 + x7) fun x8 =>
          q_ck (x2 + 1) fun x9 =>
          f_M_count_L4 μ k38 nf4 x8 x9
      ) fun (j30 : Int → Option Int) =>
      if 0 ≤ x6 then
        j30 0
      else
        j30 1
def f_M_count (N : Nat) (a0 : Int) (μ : q_M) : Option Int :=
  f_M_count_L4 μ
      (fun (x3 : Int) =>
        if a0 = 0 then
          q_fl μ 0 0 fun x12 =>
          some x12
        else if a0 = 1 then
          q_ld μ 1 5104 36 fun x14 =>
          some x14
        else if a0 = 2 then
          some x3
        else if a0 = 3 then
          q_b (f_M_markers N μ) fun x18 =>
          some x18
        else if a0 = 4 then
          q_fl μ 0 6 fun x20 =>
          some x20
        else if a0 = 5 then
          q_ld μ 1 5104 35 fun x22 =>
          some x22
        else if a0 = 6 then
          q_b (f_M_cutSize N μ) fun x25 =>
          some x25
        else if a0 = 7 then
          q_fl μ 0 3 fun x27 =>
          q_jn (fun (x28 : Int) =>
              some x28
          ) fun (j134 : Int → Option Int) =>
          if x27 = 0 then
            j134 0
          else
            j134 1
        else
          some ((-100002))
      )
      N 0 0
def f_M_eventsOf (a0 : Int) (μ : q_M) : Option Int :=
  q_b (f_M_noProcess a0 μ) fun x2 =>
  q_jn (fun (x3 : Int) =>
      some x3
  ) fun (j22 : Int → Option Int) =>
  if x2 = 0 then
    q_ck (25 + a0) fun x4 =>
    q_ld μ 1 5104 x4 fun x5 =>
    j22 x5
  else
    j22 ((-100001))
def f_M_beginSnapshot (N : Nat) (a0 : Int) (μ : q_M) : Option (Int × q_M) :=
  q_b (f_M_noProcess a0 μ) fun x2 =>
  if x2 = 0 then
    q_ld μ 1 5104 35 fun x3 =>
    if x3 = 1 then
      some ((-100003), μ)
    else
      q_b (f_M_clearSnapshot N μ) fun μ5 =>
      q_st μ5 1 5104 35 1 fun μ6 =>
      q_b (f_M_record N a0 μ6) fun μ8 =>
      q_b (f_M_markers N μ8) fun x10 =>
      some (x10, μ8)
  else
    some ((-100001), μ)
def f_M_abandonSnapshot (N : Nat) (μ : q_M) : Option (Int × q_M) :=
  q_ld μ 1 5104 35 fun x1 =>
  if x1 = 1 then
    q_b (f_M_markers N μ) fun x3 =>
    q_b (f_M_clearSnapshot N μ) fun μ5 =>
    some (x3, μ5)
  else
    some ((-100003), μ)
def f_M_recorded (a0 : Int) (μ : q_M) : Option Int :=
  q_b (f_M_noProcess a0 μ) fun x2 =>
  if x2 = 0 then
    q_ck (30 + a0) fun x3 =>
    q_ld μ 1 5104 x3 fun x4 =>
    q_jn (fun (x5 : Int) =>
        some x5
    ) fun (j37 : Int → Option Int) =>
    if 0 ≤ x4 then
      q_ck (30 + a0) fun x6 =>
      q_ld μ 1 5104 x6 fun x7 =>
      j37 x7
    else
      j37 ((-100006))
  else
    some ((-100001))
def f_M_takeSnapshot_L16 (k48 : q_M → Option (Int × q_M)) : Nat → Int → q_M → Option (Int × q_M)
  | 0, _, _ => none
  | nf16 + 1, x2, μ3 =>
    q_fl μ3 0 0 fun x5 =>
    if x5 ≤ x2 then
      k48 μ3
    else
      q_ck (20 + x2) fun x6 =>
      q_ck (30 + x2) fun x7 =>
      q_ld μ3 1 5104 x7 fun x8 =>
      q_st μ3 1 5104 x6 x8 fun μ9 =>
      q_ck (x2 + 1) fun x10 =>
      f_M_takeSnapshot_L16  k48 nf16 x10 μ9
def f_M_takeSnapshot (N : Nat) (μ : q_M) : Option (Int × q_M) :=
  q_ld μ 1 5104 35 fun x1 =>
  if x1 = 2 then
    f_M_takeSnapshot_L16 
        (fun (μ4 : q_M) =>
          q_b (f_M_cutSize N μ4) fun x13 =>
          some (x13, μ4)
        )
        N 0 μ
  else
    some ((-100003), μ)
def f_M_setCut (a0 : Int) (a1 : Int) (μ : q_M) : Option (Int × q_M) :=
  q_b (f_M_noProcess a0 μ) fun x2 =>
  if x2 = 0 then
    q_ck (25 + a0) fun x3 =>
    q_ld μ 1 5104 x3 fun x4 =>
    q_b (f_M_in a1 0 x4 μ) fun x6 =>
    if x6 = 0 then
      some ((-100002), μ)
    else
      q_ck (20 + a0) fun x7 =>
      q_ld μ 1 5104 x7 fun x8 =>
      q_ck (20 + a0) fun x9 =>
      q_st μ 1 5104 x9 a1 fun μ10 =>
      some (x8, μ10)
  else
    some ((-100001), μ)
def f_M_cut (a0 : Int) (μ : q_M) : Option Int :=
  q_b (f_M_noProcess a0 μ) fun x2 =>
  q_jn (fun (x3 : Int) =>
      some x3
  ) fun (j22 : Int → Option Int) =>
  if x2 = 0 then
    q_ck (20 + a0) fun x4 =>
    q_ld μ 1 5104 x4 fun x5 =>
    j22 x5
  else
    j22 ((-100001))
def f_M_isCut (a0 : Int) (μ : q_M) : Option Int :=
  q_b (f_M_ofEvent a0 6 μ) fun x2 =>
  q_b (f_M_ofEvent a0 0 μ) fun x4 =>
  q_ck (20 + x4) fun x5 =>
  q_ld μ 1 5104 x5 fun x6 =>
  q_jn (fun (x7 : Int) =>
      q_rz x7 (some x7)
  ) fun (j29 : Int → Option Int) =>
  if x6 ≤ x2 then
    j29 0
  else
    j29 1
def f_M_isOrphan (a0 : Int) (μ : q_M) : Option Int :=
  q_b (f_M_ofMessage a0 4 μ) fun x2 =>
  q_b (f_M_ofMessage a0 5 μ) fun x4 =>
  q_jn (fun (x5 : Int) =>
      q_rz x5 (some x5)
  ) fun (j43 : Int → Option Int) =>
  q_jn (
      j43 0
  ) fun (j42 : Option Int) =>
  if x2 < 0 then
    j42
  else
    if x4 < 0 then
      j42
    else
      q_b (f_M_isCut x4 μ) fun x7 =>
      if x7 = 0 then
        j42
      else
        q_b (f_M_isCut x2 μ) fun x9 =>
        if x9 = 0 then
          j43 1
        else
          j42
def f_M_orphansNow_L4 (μ : q_M) (k37 : Int → Option Int) : Nat → Int → Int → Option Int
  | 0, _, _ => none
  | nf4 + 1, x1, x2 =>
    q_ld μ 1 5104 37 fun x4 =>
    if x4 ≤ x2 then
      k37 x1
    else
      q_b (f_M_isOrphan x2 μ) fun x6 =>
      q_jn (fun (x7 : Int) =>
          q_ck (x1 + x7) fun x8 =>
          q_ck (x2 + 1) fun x9 =>
          f_M_orphansNow_L4 μ k37 nf4 x8 x9
      ) fun (j29 : Int → Option Int) =>
      if x6 = 0 then
        j29 0
      else
        j29 1
def f_M_orphansNow (N : Nat) (μ : q_M) : Option Int :=
  f_M_orphansNow_L4 μ
      (fun (x3 : Int) =>
        some x3
      )
      N 0 0
def f_M_orphans (N : Nat) (μ : q_M) : Option Int :=
  q_b (f_M_orphansNow N μ) fun x2 =>
  some x2
def f_M_lowerCut_L14 (k67 : q_M → Option (Int × q_M)) : Nat → Int → q_M → Option (Int × q_M)
  | 0, _, _ => none
  | nf14 + 1, x7, μ8 =>
    q_ld μ8 1 5104 37 fun x10 =>
    if x10 ≤ x7 then
      k67 μ8
    else
      q_b (f_M_isOrphan x7 μ8) fun x12 =>
      q_jn (fun (μ13 : q_M) =>
          q_ck (x7 + 1) fun x14 =>
          f_M_lowerCut_L14  k67 nf14 x14 μ13
      ) fun (j61 : q_M → Option (Int × q_M)) =>
      if x12 = 0 then
        j61 μ8
      else
        q_b (f_M_ofMessage x7 5 μ8) fun x16 =>
        q_b (f_M_ofEvent x16 0 μ8) fun x18 =>
        q_ck (20 + x18) fun x19 =>
        q_b (f_M_ofEvent x16 6 μ8) fun x21 =>
        q_st μ8 1 5104 x19 x21 fun μ22 =>
        j61 μ22
def f_M_lowerCut_L5 (N : Nat) (k70 : q_M → Option (Int × q_M)) : Nat → q_M → Option (Int × q_M)
  | 0, _ => none
  | nf5 + 1, μ3 =>
    q_b (f_M_orphansNow N μ3) fun x6 =>
    if x6 ≤ 0 then
      k70 μ3
    else
      f_M_lowerCut_L14 
          (fun (μ9 : q_M) =>
            f_M_lowerCut_L5 N k70 nf5 μ9
          )
          N 0 μ3
def f_M_lowerCut (N : Nat) (μ : q_M) : Option (Int × q_M) :=
  q_b (f_M_cutSize N μ) fun x2 =>
  f_M_lowerCut_L5 N
      (fun (μ4 : q_M) =>
        q_b (f_M_cutSize N μ4) fun x27 =>
        q_ck (x2 - x27) fun x28 =>
        some (x28, μ4)
      )
      N μ
def f_M_raiseCut_L14 (k69 : q_M → Option (Int × q_M)) : Nat → Int → q_M → Option (Int × q_M)
  | 0, _, _ => none
  | nf14 + 1, x7, μ8 =>
    q_ld μ8 1 5104 37 fun x10 =>
    if x10 ≤ x7 then
      k69 μ8
    else
      q_b (f_M_isOrphan x7 μ8) fun x12 =>
      q_jn (fun (μ13 : q_M) =>
          q_ck (x7 + 1) fun x14 =>
          f_M_raiseCut_L14  k69 nf14 x14 μ13
      ) fun (j63 : q_M → Option (Int × q_M)) =>
      if x12 = 0 then
        j63 μ8
      else
        q_b (f_M_ofMessage x7 4 μ8) fun x16 =>
        q_b (f_M_ofEvent x16 0 μ8) fun x18 =>
        q_ck (20 + x18) fun x19 =>
        q_b (f_M_ofEvent x16 6 μ8) fun x21 =>
        q_ck (x21 + 1) fun x22 =>
        q_st μ8 1 5104 x19 x22 fun μ23 =>
        j63 μ23
def f_M_raiseCut_L5 (N : Nat) (k72 : q_M → Option (Int × q_M)) : Nat → q_M → Option (Int × q_M)
  | 0, _ => none
  | nf5 + 1, μ3 =>
    q_b (f_M_orphansNow N μ3) fun x6 =>
    if x6 ≤ 0 then
      k72 μ3
    else
      f_M_raiseCut_L14 
          (fun (μ9 : q_M) =>
            f_M_raiseCut_L5 N k72 nf5 μ9
          )
          N 0 μ3
def f_M_raiseCut (N : Nat) (μ : q_M) : Option (Int × q_M) :=
  q_b (f_M_cutSize N μ) fun x2 =>
  f_M_raiseCut_L5 N
      (fun (μ4 : q_M) =>
        q_b (f_M_cutSize N μ4) fun x28 =>
        q_ck (x28 - x2) fun x29 =>
        some (x29, μ4)
      )
      N μ
def f_M_stockThen_L17 (a0 : Int) (a1 : Int) (μ : q_M) (k114 : Int → Option Int) : Nat → Int → Int → Option Int
  | 0, _, _ => none
  | nf17 + 1, x5, x6 =>
    q_ld μ 1 5104 36 fun x8 =>
    if x8 ≤ x6 then
      k114 x5
    else
      q_b (f_M_ofEvent x6 0 μ) fun x10 =>
      q_jn (fun (x11 : Int) =>
          q_jn (fun (x12 : Int) =>
              q_ck (x5 + x12) fun x13 =>
              q_ck (x6 + 1) fun x14 =>
              f_M_stockThen_L17 a0 a1 μ k114 nf17 x13 x14
          ) fun (j106 : Int → Option Int) =>
          if x11 = 0 then
            j106 0
          else
            q_b (f_M_ofEvent x6 1 μ) fun x16 =>
            if x16 = 1 then
              q_b (f_M_ofEvent x6 3 μ) fun x20 =>
              q_ck (-x20) fun x21 =>
              j106 x21
            else
              q_b (f_M_ofEvent x6 3 μ) fun x18 =>
              j106 x18
      ) fun (j65 : Int → Option Int) =>
      q_jn (
          j65 0
      ) fun (j64 : Option Int) =>
      if x10 = a0 then
        q_b (f_M_ofEvent x6 2 μ) fun x25 =>
        if x25 = a1 then
          q_b (f_M_isCut x6 μ) fun x27 =>
          if x27 = 0 then
            j64
          else
            j65 1
        else
          j64
      else
        j64
def f_M_stockThen (N : Nat) (a0 : Int) (a1 : Int) (μ : q_M) : Option Int :=
  q_ck (2 * a0) fun x1 =>
  q_ck (10 + x1) fun x2 =>
  q_ck (x2 + a1) fun x3 =>
  q_ld μ 1 5104 x3 fun x4 =>
  f_M_stockThen_L17 a0 a1 μ
      (fun (x7 : Int) =>
        some x7
      )
      N x4 0
def f_M_stockAtCut (N : Nat) (a0 : Int) (a1 : Int) (μ : q_M) : Option Int :=
  q_b (f_M_noStock a0 a1 μ) fun x2 =>
  q_jn (fun (x3 : Int) =>
      some x3
  ) fun (j20 : Int → Option Int) =>
  if x2 = 0 then
    q_b (f_M_stockThen N a0 a1 μ) fun x5 =>
    j20 x5
  else
    j20 ((-100001))
def f_M_isInTransit (a0 : Int) (μ : q_M) : Option Int :=
  q_b (f_M_ofMessage a0 4 μ) fun x2 =>
  q_b (f_M_ofMessage a0 5 μ) fun x4 =>
  q_jn (fun (x5 : Int) =>
      q_rz x5 (some x5)
  ) fun (j43 : Int → Option Int) =>
  q_jn (
      j43 0
  ) fun (j42 : Option Int) =>
  q_jn (
      q_jn (
          j43 1
      ) fun (j38 : Option Int) =>
      if x4 < 0 then
        j38
      else
        q_b (f_M_isCut x4 μ) fun x7 =>
        if x7 = 0 then
          j38
        else
          j42
  ) fun (j26 : Option Int) =>
  if x2 < 0 then
    j26
  else
    q_b (f_M_isCut x2 μ) fun x11 =>
    if x11 = 0 then
      j42
    else
      j26
def f_M_inTransit_L46 (a0 : Int) (a1 : Int) (a2 : Int) (μ : q_M) (k95 : Int → Option Int) (k115 : Int → Option Int) : Nat → Int → Int → Option Int
  | 0, _, _ => none
  | nf46 + 1, x7, x8 =>
    q_ld μ 1 5104 37 fun x11 =>
    if x11 ≤ x8 then
      k115 x7
    else
      q_b (f_M_ofMessage x8 0 μ) fun x13 =>
      q_jn (fun (x14 : Int) =>
          q_ck (x8 + 1) fun x15 =>
          f_M_inTransit_L46 a0 a1 a2 μ k95 k115 nf46 x14 x15
      ) fun (j109 : Int → Option Int) =>
      if x13 = a0 then
        q_b (f_M_ofMessage x8 1 μ) fun x17 =>
        if x17 = a1 then
          q_b (f_M_isInTransit x8 μ) fun x19 =>
          if x19 = 0 then
            j109 x7
          else
            if x7 = a2 then
              k95 x8
            else
              q_ck (x7 + 1) fun x20 =>
              j109 x20
        else
          j109 x7
      else
        j109 x7
def f_M_inTransit (N : Nat) (a0 : Int) (a1 : Int) (a2 : Int) (a3 : Int) (μ : q_M) : Option Int :=
  q_b (f_M_noChannel a0 a1 μ) fun x2 =>
  if x2 = 0 then
    q_jn (
        some ((-100002))
    ) fun (j27 : Option Int) =>
    if a2 < (-1) then
      j27
    else
      q_b (f_M_in a3 0 1 μ) fun x4 =>
      if x4 = 0 then
        j27
      else
        q_b (f_M_orphansNow N μ) fun x6 =>
        if x6 ≤ 0 then
          f_M_inTransit_L46 a0 a1 a2 μ
              (fun (x9 : Int) =>
                q_ck (2 + a3) fun x26 =>
                q_b (f_M_ofMessage x9 x26 μ) fun x28 =>
                some x28
              )
              (fun (x10 : Int) =>
                q_jn (fun (x29 : Int) =>
                    some x29
                ) fun (j126 : Int → Option Int) =>
                if 0 ≤ a2 then
                  j126 ((-100006))
                else
                  j126 x10
              )
              N 0 0
        else
          some ((-100004))
  else
    some ((-100001))
def f_M_type (a0 : Int) (μ : q_M) : Option (Int × q_M) :=
  q_fl μ 0 4 fun x1 =>
  if x1 = 20 then
    some ((-100005), μ)
  else
    q_fl μ 0 4 fun x2 =>
    q_stc μ 3 20 x2 a0 fun μ3 =>
    q_fl μ3 0 4 fun x4 =>
    q_ck (x4 + 1) fun x5 =>
    q_fs μ3 0 4 x5 fun μ6 =>
    q_fl μ6 0 4 fun x7 =>
    some (x7, μ6)
def f_M_clearText (μ : q_M) : Option (Int × q_M) :=
  q_fl μ 0 4 fun x1 =>
  q_fs μ 0 4 0 fun μ2 =>
  some (x1, μ2)
def f_M_isAt (a0 : Int) (a1 : Int) (μ : q_M) : Option Int :=
  q_fl μ 0 4 fun x1 =>
  q_jn (fun (x2 : Int) =>
      q_rz x2 (some x2)
  ) fun (j23 : Int → Option Int) =>
  q_jn (
      j23 0
  ) fun (j22 : Option Int) =>
  if x1 ≤ a0 then
    j22
  else
    q_ld μ 3 20 a0 fun x3 =>
    if x3 = a1 then
      j23 1
    else
      j22
def f_M_isDigitAt (a0 : Int) (μ : q_M) : Option Int :=
  q_fl μ 0 4 fun x1 =>
  q_jn (fun (x2 : Int) =>
      q_rz x2 (some x2)
  ) fun (j35 : Int → Option Int) =>
  q_jn (
      j35 0
  ) fun (j34 : Option Int) =>
  if x1 ≤ a0 then
    j34
  else
    q_ld μ 3 20 a0 fun x3 =>
    if x3 < 48 then
      j34
    else
      q_ld μ 3 20 a0 fun x4 =>
      if 57 < x4 then
        j34
      else
        j35 1
def f_M_addRule_L144 (μ : q_M) (k184 : Int → Int → Int → Option (Int × q_M)) : Nat → Int → Int → Int → Option (Int × q_M)
  | 0, _, _, _ => none
  | nf144 + 1, x14, x15, x16 =>
    if 4 ≤ x15 then
      k184 x14 x15 x16
    else
      q_b (f_M_isDigitAt x14 μ) fun x21 =>
      if x21 = 0 then
        k184 x14 x15 x16
      else
        q_ck (10 * x16) fun x22 =>
        q_ld μ 3 20 x14 fun x23 =>
        q_ck (x22 + x23) fun x24 =>
        q_ck (x24 - 48) fun x25 =>
        q_ck (x14 + 1) fun x26 =>
        q_ck (x15 + 1) fun x27 =>
        f_M_addRule_L144 μ k184 nf144 x26 x27 x25
def f_M_addRule (N : Nat) (μ : q_M) : Option (Int × q_M) :=
  q_b (f_M_isDigitAt 0 μ) fun x2 =>
  q_jn (fun (x3 : Int) =>
      q_jn (
          q_b (f_M_isAt 1 97 μ) fun x5 =>
          q_jn (
              q_b (f_M_isAt 2 60 μ) fun x7 =>
              q_jn (fun (x8 : Int) =>
                  q_jn (fun (x9 : Int) =>
                      q_ck (2 + x9) fun x10 =>
                      q_b (f_M_isAt x10 61 μ) fun x12 =>
                      if x12 = 0 then
                        q_ck ((-100) - x10) fun x62 =>
                        some (x62, μ)
                      else
                        q_ck (x10 + 1) fun x13 =>
                        f_M_addRule_L144 μ
                            (fun (x17 : Int) (x18 : Int) (x19 : Int) =>
                              q_jn (
                                  q_ck ((-100) - x17) fun x30 =>
                                  some (x30, μ)
                              ) fun (j197 : Option (Int × q_M)) =>
                              if x18 = 0 then
                                j197
                              else
                                q_fl μ 0 4 fun x31 =>
                                if x31 ≤ x17 then
                                  q_fl μ 0 6 fun x32 =>
                                  if x32 = 12 then
                                    some ((-100005), μ)
                                  else
                                    q_fl μ 0 6 fun x33 =>
                                    q_jn (fun (x34 : Int) =>
                                        q_st μ 4 12 x33 x34 fun μ35 =>
                                        q_fl μ35 0 6 fun x36 =>
                                        q_ld μ35 3 20 1 fun x37 =>
                                        q_ck (x37 - 97) fun x38 =>
                                        q_st μ35 5 12 x36 x38 fun μ39 =>
                                        q_fl μ39 0 6 fun x40 =>
                                        q_ld μ39 3 20 2 fun x41 =>
                                        q_jn (fun (x42 : Int) =>
                                            q_st μ39 6 12 x40 x42 fun μ43 =>
                                            q_fl μ43 0 6 fun x44 =>
                                            q_st μ43 7 12 x44 x19 fun μ45 =>
                                            q_fl μ45 0 6 fun x46 =>
                                            q_ck (x46 + 1) fun x47 =>
                                            q_fs μ45 0 6 x47 fun μ48 =>
                                            q_fl μ48 0 6 fun x49 =>
                                            q_ck (x49 - 1) fun x50 =>
                                            some (x50, μ48)
                                        ) fun (j314 : Int → Option (Int × q_M)) =>
                                        if x41 = 60 then
                                          j314 0
                                        else
                                          q_ld μ39 3 20 2 fun x51 =>
                                          if x51 = 62 then
                                            j314 1
                                          else
                                            j314 2
                                    ) fun (j256 : Int → Option (Int × q_M)) =>
                                    if x3 = 0 then
                                      q_ld μ 3 20 0 fun x54 =>
                                      if x54 = 42 then
                                        j256 8
                                      else
                                        j256 9
                                    else
                                      q_ld μ 3 20 0 fun x56 =>
                                      q_ck (x56 - 48) fun x57 =>
                                      j256 x57
                                else
                                  j197
                            )
                            N x13 0 0
                  ) fun (j118 : Int → Option (Int × q_M)) =>
                  if x8 = 0 then
                    j118 0
                  else
                    j118 1
              ) fun (j107 : Int → Option (Int × q_M)) =>
              q_jn (
                  j107 1
              ) fun (j102 : Option (Int × q_M)) =>
              if x7 = 0 then
                q_b (f_M_isAt 2 62 μ) fun x66 =>
                if x66 = 0 then
                  j107 0
                else
                  j102
              else
                j102
          ) fun (j80 : Option (Int × q_M)) =>
          if x5 = 0 then
            q_b (f_M_isAt 1 98 μ) fun x70 =>
            if x70 = 0 then
              some ((-101), μ)
            else
              j80
          else
            j80
      ) fun (j57 : Option (Int × q_M)) =>
      if x3 = 0 then
        q_b (f_M_isAt 0 42 μ) fun x74 =>
        if x74 = 0 then
          q_b (f_M_isAt 0 126 μ) fun x76 =>
          if x76 = 0 then
            some ((-100), μ)
          else
            j57
        else
          j57
      else
        j57
  ) fun (j29 : Int → Option (Int × q_M)) =>
  q_jn (
      j29 0
  ) fun (j28 : Option (Int × q_M)) =>
  if x2 = 0 then
    j28
  else
    q_ld μ 3 20 0 fun x80 =>
    q_ck (x80 - 48) fun x81 =>
    q_fl μ 0 0 fun x82 =>
    if x82 ≤ x81 then
      j28
    else
      j29 1
def f_M_noRule (a0 : Int) (μ : q_M) : Option Int :=
  q_fl μ 0 6 fun x1 =>
  q_ck (x1 - 1) fun x2 =>
  q_b (f_M_in a0 0 x2 μ) fun x4 =>
  q_jn (fun (x5 : Int) =>
      q_rz x5 (some x5)
  ) fun (j19 : Int → Option Int) =>
  if x4 = 0 then
    j19 1
  else
    j19 0
def f_M_removeRule_L23 (k93 : q_M → Option (Int × q_M)) : Nat → Int → q_M → Option (Int × q_M)
  | 0, _, _ => none
  | nf23 + 1, x6, μ7 =>
    q_fl μ7 0 6 fun x9 =>
    if x9 ≤ x6 then
      k93 μ7
    else
      q_ck (x6 + 1) fun x10 =>
      q_ld μ7 4 12 x10 fun x11 =>
      q_st μ7 4 12 x6 x11 fun μ12 =>
      q_ck (x6 + 1) fun x13 =>
      q_ld μ12 5 12 x13 fun x14 =>
      q_st μ12 5 12 x6 x14 fun μ15 =>
      q_ck (x6 + 1) fun x16 =>
      q_ld μ15 6 12 x16 fun x17 =>
      q_st μ15 6 12 x6 x17 fun μ18 =>
      q_ck (x6 + 1) fun x19 =>
      q_ld μ18 7 12 x19 fun x20 =>
      q_st μ18 7 12 x6 x20 fun μ21 =>
      q_ck (x6 + 1) fun x22 =>
      f_M_removeRule_L23  k93 nf23 x22 μ21
def f_M_removeRule (N : Nat) (a0 : Int) (μ : q_M) : Option (Int × q_M) :=
  q_b (f_M_noRule a0 μ) fun x2 =>
  if x2 = 0 then
    q_fl μ 0 6 fun x3 =>
    q_ck (x3 - 1) fun x4 =>
    q_fs μ 0 6 x4 fun μ5 =>
    f_M_removeRule_L23 
        (fun (μ8 : q_M) =>
          q_fl μ8 0 6 fun x24 =>
          some (x24, μ8)
        )
        N a0 μ5
  else
    some ((-100001), μ)
def f_M_rule (a0 : Int) (a1 : Int) (μ : q_M) : Option Int :=
  q_b (f_M_noRule a0 μ) fun x2 =>
  if x2 = 0 then
    if a1 = 0 then
      q_ld μ 4 12 a0 fun x3 =>
      some x3
    else if a1 = 1 then
      q_ld μ 5 12 a0 fun x5 =>
      some x5
    else if a1 = 2 then
      q_ld μ 6 12 a0 fun x7 =>
      some x7
    else if a1 = 3 then
      q_ld μ 7 12 a0 fun x9 =>
      some x9
    else
      some ((-100002))
  else
    some ((-100001))
def f_M_keeps (a0 : Int) (a1 : Int) (μ : q_M) : Option Int :=
  q_ld μ 6 12 a0 fun x1 =>
  q_jn (fun (x2 : Int) =>
      q_rz x2 (some x2)
  ) fun (j70 : Int → Option Int) =>
  if x1 = 0 then
    q_ld μ 7 12 a0 fun x9 =>
    if x9 < a1 then
      j70 0
    else
      j70 1
  else
    q_ld μ 6 12 a0 fun x3 =>
    if x3 = 1 then
      q_ld μ 7 12 a0 fun x6 =>
      if a1 < x6 then
        j70 0
      else
        j70 1
    else
      q_ld μ 7 12 a0 fun x4 =>
      if a1 = x4 then
        j70 1
      else
        j70 0
def f_M_transitOf_L5 (a0 : Int) (a1 : Int) (μ : q_M) (k83 : Int → Option Int) : Nat → Int → Int → Option Int
  | 0, _, _ => none
  | nf5 + 1, x1, x2 =>
    q_ld μ 1 5104 37 fun x4 =>
    if x4 ≤ x2 then
      k83 x1
    else
      q_jn (fun (x5 : Int) =>
          q_jn (fun (x6 : Int) =>
              q_ck (x1 + x6) fun x7 =>
              q_ck (x2 + 1) fun x8 =>
              f_M_transitOf_L5 a0 a1 μ k83 nf5 x7 x8
          ) fun (j75 : Int → Option Int) =>
          q_jn (
              j75 0
          ) fun (j74 : Option Int) =>
          if x5 = 0 then
            j74
          else
            q_b (f_M_ofMessage x2 2 μ) fun x10 =>
            if x10 = a0 then
              q_b (f_M_ofMessage x2 3 μ) fun x12 =>
              j75 x12
            else
              j74
      ) fun (j45 : Int → Option Int) =>
      if a1 = 0 then
        q_b (f_M_ofMessage x2 5 μ) fun x16 =>
        if 0 ≤ x16 then
          j45 0
        else
          j45 1
      else
        q_b (f_M_isInTransit x2 μ) fun x19 =>
        j45 x19
def f_M_transitOf (N : Nat) (a0 : Int) (a1 : Int) (μ : q_M) : Option Int :=
  f_M_transitOf_L5 a0 a1 μ
      (fun (x3 : Int) =>
        some x3
      )
      N 0 0
def f_M_valueOf_L33 (N : Nat) (a0 : Int) (a1 : Int) (x1 : Int) (μ : q_M) (k118 : Int → Option Int) : Nat → Int → Int → Option Int
  | 0, _, _ => none
  | nf33 + 1, x4, x5 =>
    q_fl μ 0 0 fun x7 =>
    if x7 ≤ x5 then
      k118 x4
    else
      q_ld μ 4 12 a0 fun x8 =>
      q_jn (fun (x9 : Int) =>
          q_jn (fun (x10 : Int) =>
              q_ck (x4 + x10) fun x11 =>
              q_ck (x5 + 1) fun x12 =>
              f_M_valueOf_L33 N a0 a1 x1 μ k118 nf33 x11 x12
          ) fun (j109 : Int → Option Int) =>
          if x9 = 0 then
            j109 0
          else
            if a1 = 0 then
              q_ck (2 * x5) fun x13 =>
              q_ck (0 + x13) fun x14 =>
              q_ck (x14 + x1) fun x15 =>
              q_ld μ 1 5104 x15 fun x16 =>
              j109 x16
            else
              q_b (f_M_stockThen N x5 x1 μ) fun x18 =>
              j109 x18
      ) fun (j69 : Int → Option Int) =>
      q_jn (
          j69 1
      ) fun (j64 : Option Int) =>
      if x8 = 8 then
        j64
      else
        q_ld μ 4 12 a0 fun x21 =>
        if x21 = x5 then
          j64
        else
          j69 0
def f_M_valueOf (N : Nat) (a0 : Int) (a1 : Int) (μ : q_M) : Option Int :=
  q_ld μ 5 12 a0 fun x1 =>
  q_ld μ 4 12 a0 fun x2 =>
  q_jn (fun (x3 : Int) =>
      f_M_valueOf_L33 N a0 a1 x1 μ
          (fun (x6 : Int) =>
            some x6
          )
          N x3 0
  ) fun (j28 : Int → Option Int) =>
  if x2 ≤ 7 then
    j28 0
  else
    q_b (f_M_transitOf N x1 a1 μ) fun x26 =>
    j28 x26
def f_M_brokenNow_L4 (N : Nat) (a0 : Int) (μ : q_M) (k42 : Int → Option Int) : Nat → Int → Int → Option Int
  | 0, _, _ => none
  | nf4 + 1, x1, x2 =>
    q_fl μ 0 6 fun x4 =>
    if x4 ≤ x2 then
      k42 x1
    else
      q_b (f_M_valueOf N x2 a0 μ) fun x6 =>
      q_b (f_M_keeps x2 x6 μ) fun x8 =>
      q_jn (fun (x9 : Int) =>
          q_or x1 x9 fun x10 =>
          q_ck (x2 + 1) fun x11 =>
          f_M_brokenNow_L4 N a0 μ k42 nf4 x10 x11
      ) fun (j34 : Int → Option Int) =>
      if x8 = 0 then
        q_sl 1 x2 fun x12 =>
        j34 x12
      else
        j34 0
def f_M_brokenNow (N : Nat) (a0 : Int) (μ : q_M) : Option Int :=
  f_M_brokenNow_L4 N a0 μ
      (fun (x3 : Int) =>
        some x3
      )
      N 0 0
def f_M_broken (N : Nat) (a0 : Int) (μ : q_M) : Option Int :=
  q_jn (fun (x1 : Int) =>
      some x1
  ) fun (j21 : Int → Option Int) =>
  q_jn (
      q_b (f_M_brokenNow N a0 μ) fun x3 =>
      j21 x3
  ) fun (j16 : Option Int) =>
  if a0 = 0 then
    j16
  else
    q_b (f_M_orphansNow N μ) fun x5 =>
    if x5 ≤ 0 then
      j16
    else
      j21 ((-100004))
def f_M_setMoveCost (a0 : Int) (a1 : Int) (a2 : Int) (μ : q_M) : Option (Int × q_M) :=
  q_b (f_M_noChannel a0 a1 μ) fun x2 =>
  if x2 = 0 then
    q_b (f_M_in a2 1 1000 μ) fun x4 =>
    if x4 = 0 then
      some ((-100002), μ)
    else
      q_ck (5 * a0) fun x5 =>
      q_ck (x5 + a1) fun x6 =>
      q_ld μ 8 25 x6 fun x7 =>
      q_ck (5 * a0) fun x8 =>
      q_ck (x8 + a1) fun x9 =>
      q_st μ 8 25 x9 a2 fun μ10 =>
      some (x7, μ10)
  else
    some ((-100001), μ)
def f_M_setOutsideCosts (a0 : Int) (a1 : Int) (μ : q_M) : Option (Int × q_M) :=
  q_b (f_M_in a0 1 1000 μ) fun x2 =>
  q_jn (
      some ((-100002), μ)
  ) fun (j22 : Option (Int × q_M)) =>
  if x2 = 0 then
    j22
  else
    q_b (f_M_in a1 1 1000 μ) fun x4 =>
    if x4 = 0 then
      j22
    else
      q_fl μ 0 12 fun x5 =>
      q_jn (fun (x6 : Int) =>
          q_fs μ 0 12 a0 fun μ7 =>
          q_fs μ7 0 13 a1 fun μ8 =>
          some (x6, μ8)
      ) fun (j46 : Int → Option (Int × q_M)) =>
      q_jn (
          j46 1
      ) fun (j41 : Option (Int × q_M)) =>
      if x5 = a0 then
        q_fl μ 0 13 fun x9 =>
        if x9 = a1 then
          j46 0
        else
          j41
      else
        j41
def f_M_edge (a0 : Int) (a1 : Int) (a2 : Int) (a3 : Int) (a4 : Int) (a5 : Int) (μ : q_M) : Option q_M :=
  q_fl μ 0 14 fun x1 =>
  q_st μ 9 48 x1 a0 fun μ2 =>
  q_fl μ2 0 14 fun x3 =>
  q_st μ2 10 48 x3 a1 fun μ4 =>
  q_fl μ4 0 14 fun x5 =>
  q_st μ4 12 48 x5 a2 fun μ6 =>
  q_fl μ6 0 14 fun x7 =>
  q_st μ6 11 48 x7 a3 fun μ8 =>
  q_fl μ8 0 14 fun x9 =>
  q_st μ8 13 48 x9 a4 fun μ10 =>
  q_fl μ10 0 14 fun x11 =>
  q_st μ10 14 48 x11 a5 fun μ12 =>
  q_fl μ12 0 14 fun x13 =>
  q_st μ12 15 48 x13 a2 fun μ14 =>
  q_ld μ14 16 7 a0 fun x15 =>
  q_ck (x15 - a2) fun x16 =>
  q_st μ14 16 7 a0 x16 fun μ17 =>
  q_ld μ17 16 7 a1 fun x18 =>
  q_ck (x18 + a2) fun x19 =>
  q_st μ17 16 7 a1 x19 fun μ20 =>
  q_fl μ20 0 14 fun x21 =>
  q_ck (x21 + 1) fun x22 =>
  q_fs μ20 0 14 x22 fun μ23 =>
  some μ23
def f_M_findBounds_L13 (a0 : Int) (a1 : Int) (k152 : q_M → Option q_M) : Nat → Int → q_M → Option q_M
  | 0, _, _ => none
  | nf13 + 1, x3, μ4 =>
    q_fl μ4 0 6 fun x6 =>
    if x6 ≤ x3 then
      k152 μ4
    else
      q_ld μ4 4 12 x3 fun x7 =>
      q_jn (fun (x8 : Int) =>
          q_jn (fun (x9 : Int) =>
              q_fs μ4 0 23 x9 fun μ10 =>
              q_jn (fun (x11 : Int) =>
                  q_fs μ10 0 24 x11 fun μ12 =>
                  q_ck (x3 + 1) fun x13 =>
                  f_M_findBounds_L13 a0 a1 k152 nf13 x13 μ12
              ) fun (j143 : Int → Option q_M) =>
              q_jn (
                  q_fl μ10 0 24 fun x14 =>
                  j143 x14
              ) fun (j139 : Option q_M) =>
              if x8 = 0 then
                j139
              else
                q_ld μ10 6 12 x3 fun x15 =>
                if x15 = 1 then
                  j139
                else
                  q_ld μ10 7 12 x3 fun x16 =>
                  q_fl μ10 0 24 fun x17 =>
                  if x17 ≤ x16 then
                    j139
                  else
                    q_ld μ10 7 12 x3 fun x18 =>
                    j143 x18
          ) fun (j95 : Int → Option q_M) =>
          q_jn (
              q_fl μ4 0 23 fun x22 =>
              j95 x22
          ) fun (j91 : Option q_M) =>
          if x8 = 0 then
            j91
          else
            q_ld μ4 6 12 x3 fun x23 =>
            if x23 ≤ 0 then
              j91
            else
              q_ld μ4 7 12 x3 fun x24 =>
              q_fl μ4 0 23 fun x25 =>
              if x24 ≤ x25 then
                j91
              else
                q_ld μ4 7 12 x3 fun x26 =>
                j95 x26
      ) fun (j49 : Int → Option q_M) =>
      q_jn (
          j49 0
      ) fun (j48 : Option q_M) =>
      if x7 = a0 then
        q_ld μ4 5 12 x3 fun x30 =>
        if x30 = a1 then
          j49 1
        else
          j48
      else
        j48
def f_M_findBounds (N : Nat) (a0 : Int) (a1 : Int) (a2 : Int) (μ : q_M) : Option q_M :=
  q_fs μ 0 23 0 fun μ1 =>
  q_fs μ1 0 24 a2 fun μ2 =>
  f_M_findBounds_L13 a0 a1
      (fun (μ5 : q_M) =>
        some μ5
      )
      N 0 μ2
def f_M_layEdges_L12 (k31 : q_M → Option (Int × q_M)) : Nat → Int → q_M → Option (Int × q_M)
  | 0, _, _ => none
  | nf12 + 1, x3, μ4 =>
    if 7 ≤ x3 then
      k31 μ4
    else
      q_st μ4 16 7 x3 0 fun μ6 =>
      q_ck (x3 + 1) fun x7 =>
      f_M_layEdges_L12  k31 nf12 x7 μ6
def f_M_layEdges_L67 (x1 : Int) (k128 : Int → q_M → Option (Int × q_M)) : Nat → Int → Int → q_M → Option (Int × q_M)
  | 0, _, _, _ => none
  | nf67 + 1, x17, x18, μ19 =>
    q_ck (x1 * x1) fun x22 =>
    if x22 ≤ x18 then
      k128 x17 μ19
    else
      q_dv x18 x1 fun x23 =>
      q_rm x18 x1 fun x24 =>
      q_jn (fun (x25 : Int) (μ26 : q_M) =>
          q_ck (x18 + 1) fun x27 =>
          f_M_layEdges_L67 x1 k128 nf67 x25 x27 μ26
      ) fun (j122 : Int → q_M → Option (Int × q_M)) =>
      if x23 = x24 then
        j122 x17 μ19
      else
        q_dv x18 x1 fun x28 =>
        q_rm x18 x1 fun x29 =>
        q_dv x18 x1 fun x30 =>
        q_ck (5 * x30) fun x31 =>
        q_rm x18 x1 fun x32 =>
        q_ck (x31 + x32) fun x33 =>
        q_ld μ19 8 25 x33 fun x34 =>
        q_b (f_M_edge x28 x29 0 100000 x34 x17 μ19) fun μ36 =>
        q_ck (x17 + 1) fun x37 =>
        j122 x37 μ36
def f_M_layEdges_L131 (N : Nat) (a0 : Int) (x1 : Int) (x20 : Int) (k276 : Int → q_M → Option (Int × q_M)) : Nat → Int → Int → q_M → Option (Int × q_M)
  | 0, _, _, _ => none
  | nf131 + 1, x40, x41, μ42 =>
    if x1 ≤ x41 then
      k276 x40 μ42
    else
      q_b (f_M_stockThen N x41 a0 μ42) fun x46 =>
      q_b (f_M_findBounds N x41 a0 1000 μ42) fun μ48 =>
      q_jn (fun (x49 : Int) =>
          q_b (f_M_edge 6 x41 x46 x46 0 ((-1)) μ48) fun μ51 =>
          q_fl μ51 0 12 fun x52 =>
          q_ck (x20 + x41) fun x53 =>
          q_b (f_M_edge 6 x41 0 100000 x52 x53 μ51) fun μ55 =>
          q_fl μ55 0 13 fun x56 =>
          q_ck (x20 + x1) fun x57 =>
          q_ck (x57 + x41) fun x58 =>
          q_b (f_M_edge x41 6 0 100000 x56 x58 μ55) fun μ60 =>
          q_fl μ60 0 23 fun x61 =>
          q_fl μ60 0 23 fun x62 =>
          q_fl μ60 0 24 fun x63 =>
          q_jn (fun (x64 : Int) =>
              q_b (f_M_edge x41 5 x61 x64 0 ((-1)) μ60) fun μ66 =>
              q_ck (x41 + 1) fun x67 =>
              f_M_layEdges_L131 N a0 x1 x20 k276 nf131 x49 x67 μ66
          ) fun (j265 : Int → Option (Int × q_M)) =>
          if x63 < x62 then
            q_fl μ60 0 23 fun x68 =>
            j265 x68
          else
            q_fl μ60 0 24 fun x69 =>
            j265 x69
      ) fun (j177 : Int → Option (Int × q_M)) =>
      q_jn (
          j177 0
      ) fun (j176 : Option (Int × q_M)) =>
      if x40 = 0 then
        j176
      else
        q_fl μ48 0 23 fun x71 =>
        q_fl μ48 0 24 fun x72 =>
        if x72 < x71 then
          j176
        else
          j177 1
def f_M_layEdges (N : Nat) (a0 : Int) (μ : q_M) : Option (Int × q_M) :=
  q_fl μ 0 0 fun x1 =>
  q_fs μ 0 14 0 fun μ2 =>
  f_M_layEdges_L12 
      (fun (μ5 : q_M) =>
        q_b (f_M_transitOf N a0 1 μ5) fun x10 =>
        q_b (f_M_findBounds N 9 a0 100000 μ5) fun μ12 =>
        q_fl μ12 0 23 fun x13 =>
        q_fl μ12 0 24 fun x14 =>
        q_b (f_M_in x10 x13 x14 μ12) fun x16 =>
        f_M_layEdges_L67 x1
            (fun (x20 : Int) (μ21 : q_M) =>
              f_M_layEdges_L131 N a0 x1 x20
                  (fun (x43 : Int) (μ44 : q_M) =>
                    q_b (f_M_findBounds N 8 a0 100000 μ44) fun μ77 =>
                    q_fl μ77 0 23 fun x78 =>
                    q_jn (fun (x79 : Int) =>
                        q_fs μ77 0 23 x79 fun μ80 =>
                        q_fl μ80 0 24 fun x81 =>
                        q_ck (x81 - x10) fun x82 =>
                        q_fs μ80 0 24 x82 fun μ83 =>
                        q_fl μ83 0 23 fun x84 =>
                        q_fl μ83 0 23 fun x85 =>
                        q_fl μ83 0 24 fun x86 =>
                        q_jn (fun (x87 : Int) =>
                            q_b (f_M_edge 5 6 x84 x87 0 ((-1)) μ83) fun μ89 =>
                            q_jn (fun (x90 : Int) =>
                                q_rz x90 (some (x90, μ89))
                            ) fun (j373 : Int → Option (Int × q_M)) =>
                            q_jn (
                                j373 0
                            ) fun (j372 : Option (Int × q_M)) =>
                            if x43 = 0 then
                              j372
                            else
                              q_fl μ89 0 23 fun x91 =>
                              q_fl μ89 0 24 fun x92 =>
                              if x92 < x91 then
                                j372
                              else
                                j373 1
                        ) fun (j347 : Int → Option (Int × q_M)) =>
                        if x86 < x85 then
                          q_fl μ83 0 23 fun x95 =>
                          j347 x95
                        else
                          q_fl μ83 0 24 fun x96 =>
                          j347 x96
                    ) fun (j304 : Int → Option (Int × q_M)) =>
                    if x78 ≤ x10 then
                      j304 0
                    else
                      q_fl μ77 0 23 fun x98 =>
                      q_ck (x98 - x10) fun x99 =>
                      j304 x99
                  )
                  N x16 0 μ21
            )
            N 0 0 μ12
      )
      N 0 μ2
def f_M_room (a0 : Int) (μ : q_M) : Option Int :=
  q_rm a0 100 fun x1 =>
  q_jn (fun (x2 : Int) =>
      some x2
  ) fun (j40 : Int → Option Int) =>
  if 100 ≤ a0 then
    q_ld μ 15 48 x1 fun x3 =>
    q_ld μ 12 48 x1 fun x4 =>
    q_ck (x3 - x4) fun x5 =>
    j40 x5
  else
    q_ld μ 11 48 x1 fun x6 =>
    q_ld μ 15 48 x1 fun x7 =>
    q_ck (x6 - x7) fun x8 =>
    j40 x8
def f_M_relaxes_L42 (a0 : Int) (a1 : Int) (x1 : Int) (x2 : Int) (μ : q_M) (k161 : Int → Option (Int × q_M)) : Nat → Int → Int → Int → Option (Int × q_M)
  | 0, _, _, _ => none
  | nf42 + 1, x5, x6, x7 =>
    if 31 ≤ x7 then
      k161 x5
    else
      if x6 = 0 then
        q_ck (31 * a0) fun x9 =>
        q_ck (x9 + x7) fun x10 =>
        q_ld μ 18 217 x10 fun x11 =>
        q_jn (fun (x12 : Int) =>
            q_ck (x11 + x12) fun x13 =>
            q_ck (31 * a1) fun x14 =>
            q_ck (x14 + x7) fun x15 =>
            q_ld μ 18 217 x15 fun x16 =>
            q_jn (fun (x17 : Int) =>
                q_ck (31 * a1) fun x18 =>
                q_ck (x18 + x7) fun x19 =>
                q_ld μ 18 217 x19 fun x20 =>
                q_jn (fun (x21 : Int) =>
                    q_ck (x7 + 1) fun x22 =>
                    f_M_relaxes_L42 a0 a1 x1 x2 μ k161 nf42 x21 x17 x22
                ) fun (j153 : Int → Option (Int × q_M)) =>
                if x20 ≤ x13 then
                  j153 0
                else
                  j153 1
            ) fun (j129 : Int → Option (Int × q_M)) =>
            if x13 = x16 then
              j129 0
            else
              j129 1
        ) fun (j104 : Int → Option (Int × q_M)) =>
        if x7 = 0 then
          q_ld μ 13 48 x1 fun x28 =>
          q_ck (x2 * x28) fun x29 =>
          j104 x29
        else
          q_ck (x7 - 1) fun x25 =>
          q_ld μ 14 48 x1 fun x26 =>
          if x25 = x26 then
            j104 x2
          else
            j104 0
      else
        k161 x5
def f_M_relaxes_L171 (a0 : Int) (a1 : Int) (x1 : Int) (x2 : Int) (k247 : q_M → Option (Int × q_M)) : Nat → Int → q_M → Option (Int × q_M)
  | 0, _, _ => none
  | nf171 + 1, x33, μ34 =>
    if 31 ≤ x33 then
      k247 μ34
    else
      q_ck (31 * a1) fun x36 =>
      q_ck (x36 + x33) fun x37 =>
      q_ck (31 * a0) fun x38 =>
      q_ck (x38 + x33) fun x39 =>
      q_ld μ34 18 217 x39 fun x40 =>
      q_jn (fun (x41 : Int) =>
          q_ck (x40 + x41) fun x42 =>
          q_st μ34 18 217 x37 x42 fun μ43 =>
          q_ck (x33 + 1) fun x44 =>
          f_M_relaxes_L171 a0 a1 x1 x2 k247 nf171 x44 μ43
      ) fun (j239 : Int → Option (Int × q_M)) =>
      if x33 = 0 then
        q_ld μ34 13 48 x1 fun x48 =>
        q_ck (x2 * x48) fun x49 =>
        j239 x49
      else
        q_ck (x33 - 1) fun x45 =>
        q_ld μ34 14 48 x1 fun x46 =>
        if x45 = x46 then
          j239 x2
        else
          j239 0
def f_M_relaxes (N : Nat) (a0 : Int) (a1 : Int) (a2 : Int) (μ : q_M) : Option (Int × q_M) :=
  q_rm a2 100 fun x1 =>
  q_jn (fun (x2 : Int) =>
      q_ld μ 17 7 a1 fun x3 =>
      q_jn (fun (x4 : Int) =>
          f_M_relaxes_L42 a0 a1 x1 x2 μ
              (fun (x8 : Int) =>
                if x8 = 0 then
                  some (0, μ)
                else
                  f_M_relaxes_L171 a0 a1 x1 x2
                      (fun (μ35 : q_M) =>
                        q_stz μ35 17 7 a1 1 fun μ52 =>
                        q_st μ52 19 7 a1 a2 fun μ53 =>
                        some (1, μ53)
                      )
                      N 0 μ
              )
              N x4 x4 0
      ) fun (j33 : Int → Option (Int × q_M)) =>
      if x3 = 0 then
        j33 1
      else
        j33 0
  ) fun (j17 : Int → Option (Int × q_M)) =>
  if 100 ≤ a2 then
    j17 ((-1))
  else
    j17 1
def f_M_findWays_L2 (k41 : q_M → Option q_M) : Nat → Int → q_M → Option q_M
  | 0, _, _ => none
  | nf2 + 1, x1, μ2 =>
    if 7 ≤ x1 then
      k41 μ2
    else
      q_ld μ2 16 7 x1 fun x4 =>
      q_jn (fun (x5 : Int) =>
          q_stz μ2 17 7 x1 x5 fun μ6 =>
          q_st μ6 19 7 x1 ((-1)) fun μ7 =>
          q_ck (x1 + 1) fun x8 =>
          f_M_findWays_L2  k41 nf2 x8 μ7
      ) fun (j27 : Int → Option q_M) =>
      if x4 ≤ 0 then
        j27 0
      else
        j27 1
def f_M_findWays_L43 (k63 : q_M → Option q_M) : Nat → Int → q_M → Option q_M
  | 0, _, _ => none
  | nf43 + 1, x11, μ12 =>
    if 217 ≤ x11 then
      k63 μ12
    else
      q_st μ12 18 217 x11 0 fun μ14 =>
      q_ck (x11 + 1) fun x15 =>
      f_M_findWays_L43  k63 nf43 x15 μ14
def f_M_findWays_L73 (N : Nat) (k197 : Int → q_M → Option q_M) : Nat → Int → Int → q_M → Option q_M
  | 0, _, _, _ => none
  | nf73 + 1, x20, x21, μ22 =>
    q_fl μ22 0 14 fun x25 =>
    if x25 ≤ x21 then
      k197 x20 μ22
    else
      q_ld μ22 9 48 x21 fun x26 =>
      q_ld μ22 17 7 x26 fun x27 =>
      q_jn (fun (x28 : Int) (μ29 : q_M) =>
          q_ld μ29 10 48 x21 fun x30 =>
          q_ld μ29 17 7 x30 fun x31 =>
          q_jn (fun (x32 : Int) (μ33 : q_M) =>
              q_ck (x21 + 1) fun x34 =>
              f_M_findWays_L73 N k197 nf73 x32 x34 μ33
          ) fun (j191 : Int → q_M → Option q_M) =>
          if x31 = 0 then
            j191 x28 μ29
          else
            q_ck (x21 + 100) fun x35 =>
            q_b (f_M_room x35 μ29) fun x37 =>
            if x37 ≤ 0 then
              j191 x28 μ29
            else
              q_ld μ29 10 48 x21 fun x38 =>
              q_ld μ29 9 48 x21 fun x39 =>
              q_ck (x21 + 100) fun x40 =>
              q_b2 (f_M_relaxes N x38 x39 x40 μ29) fun x42 μ43 =>
              q_jn (fun (x44 : Int) =>
                  j191 x44 μ43
              ) fun (j190 : Int → Option q_M) =>
              q_jn (
                  j190 1
              ) fun (j185 : Option q_M) =>
              if x42 = 0 then
                if x28 = 0 then
                  j190 0
                else
                  j185
              else
                j185
      ) fun (j133 : Int → q_M → Option q_M) =>
      if x27 = 0 then
        j133 x20 μ22
      else
        q_b (f_M_room x21 μ22) fun x50 =>
        if x50 ≤ 0 then
          j133 x20 μ22
        else
          q_ld μ22 9 48 x21 fun x51 =>
          q_ld μ22 10 48 x21 fun x52 =>
          q_b2 (f_M_relaxes N x51 x52 x21 μ22) fun x54 μ55 =>
          q_jn (fun (x56 : Int) =>
              j133 x56 μ55
          ) fun (j132 : Int → Option q_M) =>
          q_jn (
              j132 1
          ) fun (j127 : Option q_M) =>
          if x54 = 0 then
            if x20 = 0 then
              j132 0
            else
              j127
          else
            j127
def f_M_findWays_L65 (N : Nat) (k200 : q_M → Option q_M) : Nat → Int → q_M → Option q_M
  | 0, _, _ => none
  | nf65 + 1, x17, μ18 =>
    if x17 = 0 then
      k200 μ18
    else
      f_M_findWays_L73 N
          (fun (x23 : Int) (μ24 : q_M) =>
            f_M_findWays_L65 N k200 nf65 x23 μ24
          )
          N 0 0 μ18
def f_M_findWays (N : Nat) (μ : q_M) : Option q_M :=
  f_M_findWays_L2 
      (fun (μ3 : q_M) =>
        f_M_findWays_L43 
            (fun (μ13 : q_M) =>
              f_M_findWays_L65 N
                  (fun (μ19 : q_M) =>
                    some μ19
                  )
                  N 1 μ13
            )
            N 0 μ3
      )
      N 0 μ
def f_M_isCheaper_L2 (a0 : Int) (a1 : Int) (μ : q_M) (k33 : Int → Option Int) (k70 : Option Int) : Nat → Int → Option Int
  | 0, _ => none
  | nf2 + 1, x1 =>
    if 31 ≤ x1 then
      k70
    else
      q_ck (31 * a0) fun x3 =>
      q_ck (x3 + x1) fun x4 =>
      q_ld μ 18 217 x4 fun x5 =>
      q_ck (31 * a1) fun x6 =>
      q_ck (x6 + x1) fun x7 =>
      q_ld μ 18 217 x7 fun x8 =>
      if x5 = x8 then
        q_ck (x1 + 1) fun x9 =>
        f_M_isCheaper_L2 a0 a1 μ k33 k70 nf2 x9
      else
        k33 x1
def f_M_isCheaper (N : Nat) (a0 : Int) (a1 : Int) (μ : q_M) : Option Int :=
  f_M_isCheaper_L2 a0 a1 μ
      (fun (x2 : Int) =>
        q_ck (31 * a0) fun x12 =>
        q_ck (x12 + x2) fun x13 =>
        q_ld μ 18 217 x13 fun x14 =>
        q_ck (31 * a1) fun x15 =>
        q_ck (x15 + x2) fun x16 =>
        q_ld μ 18 217 x16 fun x17 =>
        q_jn (fun (x18 : Int) =>
            q_rz x18 (some x18)
        ) fun (j63 : Int → Option Int) =>
        if x17 ≤ x14 then
          j63 0
        else
          j63 1
      )
      (
        some 0
      )
      N 0
def f_M_sendOn_L8 (N : Nat) (μ2 : q_M) (k57 : Int → Option (Int × q_M)) : Nat → Int → Int → Option (Int × q_M)
  | 0, _, _ => none
  | nf8 + 1, x3, x4 =>
    if 7 ≤ x4 then
      k57 x3
    else
      q_ld μ2 16 7 x4 fun x6 =>
      q_jn (fun (x7 : Int) =>
          q_ck (x4 + 1) fun x8 =>
          f_M_sendOn_L8 N μ2 k57 nf8 x7 x8
      ) fun (j50 : Int → Option (Int × q_M)) =>
      q_jn (
          j50 x3
      ) fun (j49 : Option (Int × q_M)) =>
      if 0 ≤ x6 then
        j49
      else
        q_ld μ2 17 7 x4 fun x9 =>
        if x9 = 0 then
          j49
        else
          q_jn (
              j50 x4
          ) fun (j45 : Option (Int × q_M)) =>
          if x3 < 0 then
            j45
          else
            q_b (f_M_isCheaper N x4 x3 μ2) fun x11 =>
            if x11 = 0 then
              j49
            else
              j45
def f_M_sendOn_L73 (μ2 : q_M) (k154 : Int → Int → Option (Int × q_M)) : Nat → Int → Int → Option (Int × q_M)
  | 0, _, _ => none
  | nf73 + 1, x19, x20 =>
    q_ld μ2 19 7 x20 fun x23 =>
    if x23 < 0 then
      k154 x19 x20
    else
      q_ld μ2 19 7 x20 fun x24 =>
      q_b (f_M_room x24 μ2) fun x26 =>
      q_jn (fun (x27 : Int) =>
          q_ld μ2 19 7 x20 fun x28 =>
          q_jn (fun (x29 : Int) =>
              f_M_sendOn_L73 μ2 k154 nf73 x27 x29
          ) fun (j150 : Int → Option (Int × q_M)) =>
          if 100 ≤ x28 then
            q_ld μ2 19 7 x20 fun x30 =>
            q_ck (x30 - 100) fun x31 =>
            q_ld μ2 10 48 x31 fun x32 =>
            j150 x32
          else
            q_ld μ2 19 7 x20 fun x33 =>
            q_ld μ2 9 48 x33 fun x34 =>
            j150 x34
      ) fun (j110 : Int → Option (Int × q_M)) =>
      if x19 ≤ x26 then
        j110 x19
      else
        q_ld μ2 19 7 x20 fun x36 =>
        q_b (f_M_room x36 μ2) fun x38 =>
        j110 x38
def f_M_sendOn_L197 (x42 : Int) (k276 : q_M → Option (Int × q_M)) : Nat → Int → q_M → Option (Int × q_M)
  | 0, _, _ => none
  | nf197 + 1, x49, μ50 =>
    q_ld μ50 19 7 x49 fun x52 =>
    if x52 < 0 then
      k276 μ50
    else
      q_ld μ50 19 7 x49 fun x53 =>
      q_rm x53 100 fun x54 =>
      q_ld μ50 15 48 x54 fun x55 =>
      q_ld μ50 19 7 x49 fun x56 =>
      q_jn (fun (x57 : Int) =>
          q_ck (x55 + x57) fun x58 =>
          q_st μ50 15 48 x54 x58 fun μ59 =>
          q_ld μ59 19 7 x49 fun x60 =>
          q_jn (fun (x61 : Int) =>
              f_M_sendOn_L197 x42 k276 nf197 x61 μ59
          ) fun (j272 : Int → Option (Int × q_M)) =>
          if 100 ≤ x60 then
            q_ld μ59 10 48 x54 fun x62 =>
            j272 x62
          else
            q_ld μ59 9 48 x54 fun x63 =>
            j272 x63
      ) fun (j242 : Int → Option (Int × q_M)) =>
      if 100 ≤ x56 then
        q_ck (-x42) fun x65 =>
        j242 x65
      else
        j242 x42
def f_M_sendOn (N : Nat) (μ : q_M) : Option (Int × q_M) :=
  q_b (f_M_findWays N μ) fun μ2 =>
  f_M_sendOn_L8 N μ2
      (fun (x5 : Int) =>
        if 0 ≤ x5 then
          q_ld μ2 16 7 x5 fun x17 =>
          q_ck (-x17) fun x18 =>
          f_M_sendOn_L73 μ2
              (fun (x21 : Int) (x22 : Int) =>
                q_ld μ2 16 7 x22 fun x41 =>
                q_jn (fun (x42 : Int) =>
                    q_ld μ2 16 7 x22 fun x43 =>
                    q_ck (x43 - x42) fun x44 =>
                    q_st μ2 16 7 x22 x44 fun μ45 =>
                    q_ld μ45 16 7 x5 fun x46 =>
                    q_ck (x46 + x42) fun x47 =>
                    q_st μ45 16 7 x5 x47 fun μ48 =>
                    f_M_sendOn_L197 x42
                        (fun (μ51 : q_M) =>
                          some (1, μ51)
                        )
                        N x5 μ48
                ) fun (j174 : Int → Option (Int × q_M)) =>
                if x21 ≤ x41 then
                  j174 x21
                else
                  q_ld μ2 16 7 x22 fun x68 =>
                  j174 x68
              )
              N x18 x5
        else
          some (0, μ2)
      )
      N ((-1)) 0
def f_M_findFlow_L12 (N : Nat) (k24 : q_M → Option (Int × q_M)) : Nat → Int → q_M → Option (Int × q_M)
  | 0, _, _ => none
  | nf12 + 1, x4, μ5 =>
    if x4 = 0 then
      k24 μ5
    else
      q_b2 (f_M_sendOn N μ5) fun x8 μ9 =>
      f_M_findFlow_L12 N k24 nf12 x8 μ9
def f_M_findFlow_L29 (μ6 : q_M) (k62 : Int → Option (Int × q_M)) : Nat → Int → Int → Option (Int × q_M)
  | 0, _, _ => none
  | nf29 + 1, x11, x12 =>
    if 7 ≤ x12 then
      k62 x11
    else
      q_jn (fun (x14 : Int) =>
          q_ck (x12 + 1) fun x15 =>
          f_M_findFlow_L29 μ6 k62 nf29 x14 x15
      ) fun (j55 : Int → Option (Int × q_M)) =>
      q_jn (
          j55 0
      ) fun (j54 : Option (Int × q_M)) =>
      if x11 = 0 then
        j54
      else
        q_ld μ6 16 7 x12 fun x16 =>
        if x16 = 0 then
          j55 1
        else
          j54
def f_M_findFlow_L65 (a0 : Int) (k172 : q_M → Option (Int × q_M)) : Nat → Int → q_M → Option (Int × q_M)
  | 0, _, _ => none
  | nf65 + 1, x20, μ21 =>
    q_fl μ21 0 14 fun x23 =>
    if x23 ≤ x20 then
      k172 μ21
    else
      q_fl μ21 0 28 fun x24 =>
      q_ld μ21 15 48 x20 fun x25 =>
      q_ld μ21 13 48 x20 fun x26 =>
      q_ck (x25 * x26) fun x27 =>
      q_ck (x24 + x27) fun x28 =>
      q_fs μ21 0 28 x28 fun μ29 =>
      q_ld μ29 14 48 x20 fun x30 =>
      q_jn (fun (μ31 : q_M) =>
          q_ld μ31 10 48 x20 fun x32 =>
          q_jn (fun (μ33 : q_M) =>
              q_ck (x20 + 1) fun x34 =>
              f_M_findFlow_L65 a0 k172 nf65 x34 μ33
          ) fun (j166 : q_M → Option (Int × q_M)) =>
          if x32 = 5 then
            q_ld μ31 9 48 x20 fun x35 =>
            q_ck (2 * x35) fun x36 =>
            q_ck (x36 + a0) fun x37 =>
            q_ld μ31 15 48 x20 fun x38 =>
            q_st μ31 21 10 x37 x38 fun μ39 =>
            j166 μ39
          else
            j166 μ31
      ) fun (j132 : q_M → Option (Int × q_M)) =>
      if x30 < 0 then
        j132 μ29
      else
        q_ck (30 * a0) fun x41 =>
        q_ld μ29 14 48 x20 fun x42 =>
        q_ck (x41 + x42) fun x43 =>
        q_ld μ29 15 48 x20 fun x44 =>
        q_st μ29 20 60 x43 x44 fun μ45 =>
        j132 μ45
def f_M_findFlow (N : Nat) (a0 : Int) (μ : q_M) : Option (Int × q_M) :=
  q_b2 (f_M_layEdges N a0 μ) fun x2 μ3 =>
  if x2 = 0 then
    some (0, μ3)
  else
    f_M_findFlow_L12 N
        (fun (μ6 : q_M) =>
          f_M_findFlow_L29 μ6
              (fun (x13 : Int) =>
                f_M_findFlow_L65 a0
                    (fun (μ22 : q_M) =>
                      q_rz x13 (some (x13, μ22))
                    )
                    N 0 μ6
              )
              N 1 0
        )
        N 1 μ3
def f_M_findRepair (N : Nat) (μ : q_M) : Option (Int × q_M) :=
  q_b (f_M_orphansNow N μ) fun x2 =>
  if x2 ≤ 0 then
    q_fs μ 0 28 0 fun μ3 =>
    q_b2 (f_M_findFlow N 0 μ3) fun x5 μ6 =>
    q_jn (fun (x7 : Int) (μ8 : q_M) =>
        some (x7, μ8)
    ) fun (j37 : Int → q_M → Option (Int × q_M)) =>
    q_jn (fun (μ9 : q_M) =>
        j37 ((-100006)) μ9
    ) fun (j35 : q_M → Option (Int × q_M)) =>
    if x5 = 0 then
      j35 μ6
    else
      q_b2 (f_M_findFlow N 1 μ6) fun x11 μ12 =>
      if x11 = 0 then
        j35 μ12
      else
        j37 0 μ12
  else
    some ((-100004), μ)
def f_M_repairCost (N : Nat) (μ : q_M) : Option (Int × q_M) :=
  q_b2 (f_M_findRepair N μ) fun x2 μ3 =>
  q_jn (fun (x4 : Int) =>
      some (x4, μ3)
  ) fun (j17 : Int → Option (Int × q_M)) =>
  if 0 ≤ x2 then
    q_fl μ3 0 28 fun x5 =>
    j17 x5
  else
    j17 x2
def f_M_moved (N : Nat) (a0 : Int) (a1 : Int) (a2 : Int) (μ : q_M) : Option (Int × q_M) :=
  q_b (f_M_noChannel a0 a1 μ) fun x2 =>
  q_jn (
      some ((-100001), μ)
  ) fun (j18 : Option (Int × q_M)) =>
  if x2 = 0 then
    q_b (f_M_in a2 0 1 μ) fun x4 =>
    if x4 = 0 then
      j18
    else
      q_b2 (f_M_findRepair N μ) fun x6 μ7 =>
      q_jn (fun (x8 : Int) =>
          some (x8, μ7)
      ) fun (j68 : Int → Option (Int × q_M)) =>
      if 0 ≤ x6 then
        q_ck (30 * a2) fun x9 =>
        q_fl μ7 0 0 fun x10 =>
        q_ck (x10 - 1) fun x11 =>
        q_ck (x11 * a0) fun x12 =>
        q_ck (x9 + x12) fun x13 =>
        q_jn (fun (x14 : Int) =>
            q_ck (x13 + x14) fun x15 =>
            q_ld μ7 20 60 x15 fun x16 =>
            j68 x16
        ) fun (j66 : Int → Option (Int × q_M)) =>
        if a1 ≤ a0 then
          j66 a1
        else
          q_ck (a1 - 1) fun x17 =>
          j66 x17
      else
        j68 x6
  else
    j18
def f_M_outside (N : Nat) (a0 : Int) (a1 : Int) (a2 : Int) (μ : q_M) : Option (Int × q_M) :=
  q_b (f_M_noStock a0 a1 μ) fun x2 =>
  if x2 = 0 then
    q_b2 (f_M_findRepair N μ) fun x4 μ5 =>
    q_jn (fun (x6 : Int) =>
        some (x6, μ5)
    ) fun (j64 : Int → Option (Int × q_M)) =>
    if 0 ≤ x4 then
      q_ck (30 * a1) fun x7 =>
      q_fl μ5 0 0 fun x8 =>
      q_fl μ5 0 0 fun x9 =>
      q_ck (x9 - 1) fun x10 =>
      q_ck (x8 * x10) fun x11 =>
      q_ck (x7 + x11) fun x12 =>
      q_jn (fun (x13 : Int) =>
          q_ck (x12 + x13) fun x14 =>
          q_ck (x14 + a0) fun x15 =>
          q_ld μ5 20 60 x15 fun x16 =>
          j64 x16
      ) fun (j60 : Int → Option (Int × q_M)) =>
      if a2 = 0 then
        j60 0
      else
        q_fl μ5 0 0 fun x17 =>
        j60 x17
    else
      j64 x4
  else
    some ((-100001), μ)
def f_M_repairedStock (N : Nat) (a0 : Int) (a1 : Int) (μ : q_M) : Option (Int × q_M) :=
  q_b (f_M_noStock a0 a1 μ) fun x2 =>
  if x2 = 0 then
    q_b2 (f_M_findRepair N μ) fun x4 μ5 =>
    q_jn (fun (x6 : Int) =>
        some (x6, μ5)
    ) fun (j35 : Int → Option (Int × q_M)) =>
    if 0 ≤ x4 then
      q_ck (2 * a0) fun x7 =>
      q_ck (x7 + a1) fun x8 =>
      q_ld μ5 21 10 x8 fun x9 =>
      j35 x9
    else
      j35 x4
  else
    some ((-100001), μ)
def f_M_happensAgain (N : Nat) (a0 : Int) (μ : q_M) : Option (Int × q_M) :=
  q_ld μ 2 5104 a0 fun x1 =>
  q_ck (a0 + 1) fun x2 =>
  q_ld μ 2 5104 x2 fun x3 =>
  q_ck (a0 + 4) fun x4 =>
  q_ld μ 2 5104 x4 fun x5 =>
  q_jn (fun (x6 : Int) =>
      q_jn (fun (x7 : Int) (μ8 : q_M) =>
          q_jn (fun (x9 : Int) =>
              q_rz x9 (some (x9, μ8))
          ) fun (j142 : Int → Option (Int × q_M)) =>
          if x7 < 0 then
            j142 0
          else
            j142 1
      ) fun (j130 : Int → q_M → Option (Int × q_M)) =>
      if x3 = 0 then
        q_ck (a0 + 2) fun x24 =>
        q_ld μ 2 5104 x24 fun x25 =>
        q_ck (a0 + 3) fun x26 =>
        q_ld μ 2 5104 x26 fun x27 =>
        q_b2 (f_M_changeNow N x1 x25 x27 μ) fun x29 μ30 =>
        j130 x29 μ30
      else
        if x3 = 1 then
          q_ck (a0 + 2) fun x16 =>
          q_ld μ 2 5104 x16 fun x17 =>
          q_ck (a0 + 3) fun x18 =>
          q_ld μ 2 5104 x18 fun x19 =>
          q_b2 (f_M_sendNow N x1 x5 x17 x19 μ) fun x21 μ22 =>
          j130 x21 μ22
        else
          q_ld μ 1 5104 37 fun x11 =>
          if x6 = x11 then
            j130 ((-100006)) μ
          else
            q_b2 (f_M_receiveNow N x1 x5 x6 μ) fun x13 μ14 =>
            j130 x13 μ14
  ) fun (j43 : Int → Option (Int × q_M)) =>
  if x3 = 2 then
    q_b (f_M_waitingFrom N x5 x1 0 μ) fun x33 =>
    j43 x33
  else
    j43 0
def f_M_takeBack (μ : q_M) : Option q_M :=
  q_ld μ 1 5104 36 fun x1 =>
  q_ck (x1 - 1) fun x2 =>
  q_st μ 1 5104 36 x2 fun μ3 =>
  q_ld μ3 1 5104 36 fun x4 =>
  q_b (f_M_ofEvent x4 0 μ3) fun x6 =>
  q_ck (2 * x6) fun x7 =>
  q_ck (0 + x7) fun x8 =>
  q_b (f_M_ofEvent x4 2 μ3) fun x10 =>
  q_ck (x8 + x10) fun x11 =>
  q_ld μ3 1 5104 x11 fun x12 =>
  q_b (f_M_ofEvent x4 1 μ3) fun x14 =>
  q_jn (fun (x15 : Int) =>
      q_ck (x12 - x15) fun x16 =>
      q_st μ3 1 5104 x11 x16 fun μ17 =>
      q_b (f_M_ofEvent x4 0 μ17) fun x19 =>
      q_ck (25 + x19) fun x20 =>
      q_ld μ17 1 5104 x20 fun x21 =>
      q_ck (x21 - 1) fun x22 =>
      q_st μ17 1 5104 x20 x22 fun μ23 =>
      q_ld μ23 1 5104 37 fun x24 =>
      q_b (f_M_ofEvent x4 1 μ23) fun x26 =>
      q_jn (fun (x27 : Int) =>
          q_ck (x24 - x27) fun x28 =>
          q_st μ23 1 5104 37 x28 fun μ29 =>
          q_b (f_M_ofEvent x4 1 μ29) fun x31 =>
          q_jn (fun (μ32 : q_M) =>
              some μ32
          ) fun (j146 : q_M → Option q_M) =>
          if x31 = 2 then
            q_b (f_M_ofEvent x4 5 μ29) fun x34 =>
            q_ck (6 * x34) fun x35 =>
            q_ck (1264 + x35) fun x36 =>
            q_ck (x36 + 5) fun x37 =>
            q_st μ29 1 5104 x37 ((-1)) fun μ38 =>
            j146 μ38
          else
            j146 μ29
      ) fun (j113 : Int → Option q_M) =>
      if x26 = 1 then
        j113 1
      else
        j113 0
  ) fun (j70 : Int → Option q_M) =>
  if x14 = 1 then
    q_b (f_M_ofEvent x4 3 μ3) fun x44 =>
    q_ck (-x44) fun x45 =>
    j70 x45
  else
    q_b (f_M_ofEvent x4 3 μ3) fun x42 =>
    j70 x42
def f_M_apply_L13 (k38 : q_M → Option (Int × q_M)) : Nat → Int → q_M → Option (Int × q_M)
  | 0, _, _ => none
  | nf13 + 1, x4, μ5 =>
    if 5104 ≤ x4 then
      k38 μ5
    else
      q_ld μ5 1 5104 x4 fun x7 =>
      q_st μ5 2 5104 x4 x7 fun μ8 =>
      q_ck (x4 + 1) fun x9 =>
      f_M_apply_L13  k38 nf13 x9 μ8
def f_M_apply_L72 (x12 : Int) (x13 : Int) (k108 : q_M → Option (Int × q_M)) : Nat → Int → q_M → Option (Int × q_M)
  | 0, _, _ => none
  | nf72 + 1, x23, μ24 =>
    if 4 ≤ x23 then
      k108 μ24
    else
      q_ck (6 * x12) fun x26 =>
      q_ck (1264 + x26) fun x27 =>
      q_ck (x27 + x23) fun x28 =>
      q_b (f_M_ofMessage x13 x23 μ24) fun x30 =>
      q_st μ24 1 5104 x28 x30 fun μ31 =>
      q_ck (x23 + 1) fun x32 =>
      f_M_apply_L72 x12 x13 k108 nf72 x32 μ31
def f_M_apply_L48 (N : Nat) (k117 : Int → q_M → Option (Int × q_M)) : Nat → Int → Int → q_M → Option (Int × q_M)
  | 0, _, _, _ => none
  | nf48 + 1, x12, x13, μ14 =>
    q_ld μ14 1 5104 37 fun x17 =>
    if x17 ≤ x13 then
      k117 x12 μ14
    else
      q_b (f_M_isInTransit x13 μ14) fun x19 =>
      q_jn (fun (x20 : Int) (μ21 : q_M) =>
          q_ck (x13 + 1) fun x22 =>
          f_M_apply_L48 N k117 nf48 x20 x22 μ21
      ) fun (j111 : Int → q_M → Option (Int × q_M)) =>
      if x19 = 0 then
        j111 x12 μ14
      else
        f_M_apply_L72 x12 x13
            (fun (μ25 : q_M) =>
              q_ck (x12 + 1) fun x34 =>
              j111 x34 μ25
            )
            N 0 μ14
def f_M_apply_L120 (x15 : Int) (k166 : q_M → Option (Int × q_M)) : Nat → Int → q_M → Option (Int × q_M)
  | 0, _, _ => none
  | nf120 + 1, x37, μ38 =>
    if x15 ≤ x37 then
      k166 μ38
    else
      q_ck (6 * x37) fun x40 =>
      q_ck (1264 + x40) fun x41 =>
      q_ck (x41 + 4) fun x42 =>
      q_st μ38 1 5104 x42 ((-1)) fun μ43 =>
      q_ck (6 * x37) fun x44 =>
      q_ck (1264 + x44) fun x45 =>
      q_ck (x45 + 5) fun x46 =>
      q_st μ43 1 5104 x46 ((-1)) fun μ47 =>
      q_ck (x37 + 1) fun x48 =>
      f_M_apply_L120 x15 k166 nf120 x48 μ47
def f_M_apply_L185 (k219 : q_M → Option (Int × q_M)) : Nat → Int → q_M → Option (Int × q_M)
  | 0, _, _ => none
  | nf185 + 1, x52, μ53 =>
    if 5 ≤ x52 then
      k219 μ53
    else
      q_ck (20 + x52) fun x55 =>
      q_st μ53 1 5104 x55 0 fun μ56 =>
      q_ck (25 + x52) fun x57 =>
      q_st μ56 1 5104 x57 0 fun μ58 =>
      q_ck (x52 + 1) fun x59 =>
      f_M_apply_L185  k219 nf185 x59 μ58
def f_M_apply_L222 (k272 : q_M → Option (Int × q_M)) : Nat → Int → q_M → Option (Int × q_M)
  | 0, _, _ => none
  | nf222 + 1, x61, μ62 =>
    q_fl μ62 0 0 fun x64 =>
    q_ck (2 * x64) fun x65 =>
    if x65 ≤ x61 then
      k272 μ62
    else
      q_ck (0 + x61) fun x66 =>
      q_ld μ62 21 10 x61 fun x67 =>
      q_st μ62 1 5104 x66 x67 fun μ68 =>
      q_ck (10 + x61) fun x69 =>
      q_ld μ68 21 10 x61 fun x70 =>
      q_st μ68 1 5104 x69 x70 fun μ71 =>
      q_ck (x61 + 1) fun x72 =>
      f_M_apply_L222  k272 nf222 x72 μ71
def f_M_apply_L279 (N : Nat) (a0 : Int) (k384 : q_M → Option (Int × q_M)) : Nat → Int → q_M → Option (Int × q_M)
  | 0, _, _ => none
  | nf279 + 1, x76, μ77 =>
    q_ld μ77 2 5104 36 fun x79 =>
    if x79 ≤ x76 then
      k384 μ77
    else
      q_ck (12 * x76) fun x80 =>
      q_ck (64 + x80) fun x81 =>
      q_b (f_M_brokenNow N 0 μ77) fun x83 =>
      q_ck (x81 + 6) fun x84 =>
      q_ld μ77 2 5104 x84 fun x85 =>
      q_ld μ77 2 5104 x81 fun x86 =>
      q_ck (20 + x86) fun x87 =>
      q_ld μ77 2 5104 x87 fun x88 =>
      q_jn (fun (x89 : Int) =>
          q_jn (fun (μ90 : q_M) =>
              q_ck (x76 + 1) fun x91 =>
              f_M_apply_L279 N a0 k384 nf279 x91 μ90
          ) fun (j378 : q_M → Option (Int × q_M)) =>
          if x89 = 0 then
            q_b2 (f_M_happensAgain N x81 μ77) fun x93 μ94 =>
            if x93 = 0 then
              j378 μ94
            else
              if a0 = 0 then
                j378 μ94
              else
                q_b (f_M_brokenNow N 0 μ94) fun x96 =>
                q_xo x83 ((-1)) fun x97 =>
                q_an x96 x97 fun x98 =>
                if x98 = 0 then
                  j378 μ94
                else
                  q_b (f_M_takeBack μ94) fun μ100 =>
                  j378 μ100
          else
            j378 μ77
      ) fun (j341 : Int → Option (Int × q_M)) =>
      if x88 ≤ x85 then
        j341 0
      else
        j341 1
def f_M_apply (N : Nat) (a0 : Int) (μ : q_M) : Option (Int × q_M) :=
  q_b2 (f_M_findRepair N μ) fun x2 μ3 =>
  if 0 ≤ x2 then
    f_M_apply_L13 
        (fun (μ6 : q_M) =>
          q_fz μ6 0 3 1 fun μ11 =>
          f_M_apply_L48 N
              (fun (x15 : Int) (μ16 : q_M) =>
                f_M_apply_L120 x15
                    (fun (μ39 : q_M) =>
                      q_st μ39 1 5104 37 x15 fun μ50 =>
                      q_st μ50 1 5104 36 0 fun μ51 =>
                      f_M_apply_L185 
                          (fun (μ54 : q_M) =>
                            f_M_apply_L222 
                                (fun (μ63 : q_M) =>
                                  q_b (f_M_clearSnapshot N μ63) fun μ75 =>
                                  f_M_apply_L279 N a0
                                      (fun (μ78 : q_M) =>
                                        q_ld μ78 1 5104 36 fun x107 =>
                                        some (x107, μ78)
                                      )
                                      N 0 μ75
                                )
                                N 0 μ54
                          )
                          N 0 μ51
                    )
                    N 0 μ16
              )
              N 0 0 μ11
        )
        N 0 μ3
  else
    some (x2, μ3)
def f_M_restore_L17 (k42 : q_M → Option (Int × q_M)) : Nat → Int → q_M → Option (Int × q_M)
  | 0, _, _ => none
  | nf17 + 1, x3, μ4 =>
    if 5104 ≤ x3 then
      k42 μ4
    else
      q_ld μ4 2 5104 x3 fun x6 =>
      q_st μ4 1 5104 x3 x6 fun μ7 =>
      q_ck (x3 + 1) fun x8 =>
      f_M_restore_L17  k42 nf17 x8 μ7
def f_M_restore (N : Nat) (μ : q_M) : Option (Int × q_M) :=
  q_fl μ 0 3 fun x1 =>
  if x1 = 0 then
    some ((-100006), μ)
  else
    q_fz μ 0 3 0 fun μ2 =>
    f_M_restore_L17 
        (fun (μ5 : q_M) =>
          q_ld μ5 1 5104 36 fun x10 =>
          some (x10, μ5)
        )
        N 0 μ2
