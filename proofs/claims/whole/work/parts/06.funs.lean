/-! LastRower.contradictsSeen(II)Z -/
def sX11_contradictsSeen_2  (rec2 : Mem → Int32 → Int32 → Int32 → Option (Mem × Int32)) (M : Mem) (x1 : Int32) (x2 : Int32) (x3 : Int32) : Option (Mem × Int32) :=
  if (gM M 0 9) ≤ x3 then
    some (M, (0 : Int32))
  else
    if (5 : Int32) ≤ x3 then
      some (M, (0 : Int32))
    else
      if inB x3 5 then
        if (gM M 55 x3.toNatClampNeg) = x1 then
          if (gM M 56 x3.toNatClampNeg) = x2 then
            rec2 M x1 x2 (x3 + 1)
          else
            some (M, (1 : Int32))
        else
          rec2 M x1 x2 (x3 + 1)
      else none
def lX11_contradictsSeen_2  (n : Nat) : Mem → Int32 → Int32 → Int32 → Option (Mem × Int32) := itr (sX11_contradictsSeen_2 ) (fun _ _ _ _ => none) n
def fX11_contradictsSeen (M : Mem) (x1 : Int32) (x2 : Int32) : Option (Mem × Int32) :=
  lX11_contradictsSeen_2 fuel M x1 x2 (0 : Int32)
/-! LastRower.latestSeen()I -/
def sX11_latestSeen_4  (rec4 : Mem → Int32 → Int32 → Option (Mem × Int32)) (M : Mem) (x1 : Int32) (x2 : Int32) : Option (Mem × Int32) :=
  if (gM M 0 9) ≤ x2 then
    some (M, x1)
  else
    if (5 : Int32) ≤ x2 then
      some (M, x1)
    else
      if inB x2 5 then
        rec4 M (if x1 < (gM M 55 x2.toNatClampNeg) then (gM M 55 x2.toNatClampNeg) else x1) (x2 + 1)
      else none
def lX11_latestSeen_4  (n : Nat) : Mem → Int32 → Int32 → Option (Mem × Int32) := itr (sX11_latestSeen_4 ) (fun _ _ _ => none) n
def fX11_latestSeen (M : Mem)  : Option (Mem × Int32) :=
  lX11_latestSeen_4 fuel M (-1 : Int32) (0 : Int32)
/-! LastRower$Ferry.flowAt(I)I -/
def fX2_flowAt (M : Mem) (n0 : Nat) (x1 : Int32) : Option (Mem × Int32) :=
  if 0 ≤ x1 then
    if inB (if (199 : Int32) < x1 then (199 : Int32) else x1) 200 then
      some (M, (gM M (n0 + 7) (if (199 : Int32) < x1 then (199 : Int32) else x1).toNatClampNeg))
    else none
  else
    some (M, (0 : Int32))
/-! LastRower$Ferry.isOver(I)Z -/
def fX2_isOver (M : Mem) (n0 : Nat) (x1 : Int32) : Option (Mem × Int32) :=
  if x1 < (gM M n0 7) then
    some (M, (0 : Int32))
  else
    some (M, (1 : Int32))
/-! LastRower$Ferry.pullOf(I)I -/
def fX2_pullOf (M : Mem) (n0 : Nat) (x1 : Int32) : Option (Mem × Int32) :=
  if x1 < 0 then
    some (M, (0 : Int32))
  else
    if x1 < (64 : Int32) then
      if inB x1 64 then
        some (M, (gM M (n0 + 6) x1.toNatClampNeg))
      else none
    else
      some (M, (0 : Int32))
/-! LastRower$Moment.speak(LLastRower$Ferry;I)V -/
def sX4_speak_89 (rec13 : Mem → Nat → Nat → Int32 → Int32 → Option (Mem)) (M : Mem) (n0 : Nat) (n1 : Nat) (x2 : Int32) (x3 : Int32) (ns0 : Nat) (s1 : Int32) : Option (Mem) :=
  rec13 (sM M ns0 5 s1) n0 n1 x2 (x3 + 1)
def sX4_speak_55 (rec13 : Mem → Nat → Nat → Int32 → Int32 → Option (Mem)) (M : Mem) (n0 : Nat) (n1 : Nat) (x2 : Int32) (x3 : Int32) : Option (Mem) :=
  if inB x3 6 then
    if (gM M n0 5) ≤ ((gM M (n0 + 1) x3.toNatClampNeg) + (gM M (n1 + 2) x3.toNatClampNeg)) then
      sX4_speak_89 rec13 M n0 n1 x2 x3 n0 (gM M n0 5)
    else
      sX4_speak_89 rec13 M n0 n1 x2 x3 n0 ((gM M (n0 + 1) x3.toNatClampNeg) + (gM M (n1 + 2) x3.toNatClampNeg))
  else none
def sX4_speak_13  (rec13 : Mem → Nat → Nat → Int32 → Int32 → Option (Mem)) (M : Mem) (n0 : Nat) (n1 : Nat) (x2 : Int32) (x3 : Int32) : Option (Mem) :=
  if (gM M n1 0) ≤ x3 then
    some M
  else
    if (6 : Int32) ≤ x3 then
      some M
    else
      if ((x2 >>> (x3 &&& 31)) &&& (1 : Int32)) = 0 then
        sX4_speak_55 rec13 M n0 n1 x2 x3
      else
        if inB x3 6 then
          sX4_speak_55 rec13 (sM (sM M (n0 + 1) x3.toNatClampNeg (gM M n0 0)) (n0 + 2) x3.toNatClampNeg ((gM (sM M (n0 + 1) x3.toNatClampNeg (gM M n0 0)) (n0 + 2) x3.toNatClampNeg) + (1 : Int32))) n0 n1 x2 x3
        else none
def lX4_speak_13  (n : Nat) : Mem → Nat → Nat → Int32 → Int32 → Option (Mem) := itr (sX4_speak_13 ) (fun _ _ _ _ _ => none) n
def fX4_speak (M : Mem) (n0 : Nat) (n1 : Nat) (x2 : Int32) : Option (Mem) :=
  lX4_speak_13 fuel (sM (sM M n0 2 x2) n0 5 (1000000000 : Int32)) n0 n1 x2 (0 : Int32)
/-! LastRower$Moment.whoIsDueAt(LLastRower$Ferry;I)I -/
def sX4_whoIsDueAt_5  (rec5 : Mem → Nat → Nat → Int32 → Int32 → Int32 → Option (Mem × Int32)) (M : Mem) (n0 : Nat) (n1 : Nat) (x2 : Int32) (x3 : Int32) (x4 : Int32) : Option (Mem × Int32) :=
  if (gM M n1 0) ≤ x4 then
    some (M, x3)
  else
    if (6 : Int32) ≤ x4 then
      some (M, x3)
    else
      if inB x4 6 then
        if x2 < ((gM M (n0 + 1) x4.toNatClampNeg) + (gM M (n1 + 2) x4.toNatClampNeg)) then
          rec5 M n0 n1 x2 x3 (x4 + 1)
        else
          rec5 M n0 n1 x2 (x3 ||| ((1 : Int32) <<< (x4 &&& 31))) (x4 + 1)
      else none
def lX4_whoIsDueAt_5  (n : Nat) : Mem → Nat → Nat → Int32 → Int32 → Int32 → Option (Mem × Int32) := itr (sX4_whoIsDueAt_5 ) (fun _ _ _ _ _ _ => none) n
def fX4_whoIsDueAt (M : Mem) (n0 : Nat) (n1 : Nat) (x2 : Int32) : Option (Mem × Int32) :=
  lX4_whoIsDueAt_5 fuel M n0 n1 x2 (0 : Int32) (0 : Int32)
/-! LastRower$Moment.passTime(LLastRower$Ferry;)V -/
def fX4_passTime (M : Mem) (n0 : Nat) (n1 : Nat) : Option (Mem) :=
  if (gM (sM M n0 0 ((gM M n0 0) + (1 : Int32))) n0 0) < (gM (sM M n0 0 ((gM M n0 0) + (1 : Int32))) n0 5) then
    some (sM M n0 0 ((gM M n0 0) + (1 : Int32)))
  else
    bI (fX4_whoIsDueAt (sM M n0 0 ((gM M n0 0) + (1 : Int32))) n0 n1 (gM (sM M n0 0 ((gM M n0 0) + (1 : Int32))) n0 0)) fun M2 r3 =>
      bV (fX4_speak M2 n0 n1 r3) fun M4 =>
        some M4
/-! LastRower$Moment.row(LLastRower$Ferry;)V -/
def sX4_row_50  (M : Mem) (n0 : Nat) (n1 : Nat) : Option (Mem) :=
  bV (fX4_passTime M n0 n1) fun M9 =>
    some M9
def fX4_row (M : Mem) (n0 : Nat) (n1 : Nat) : Option (Mem) :=
  bI (fX2_isOver M n1 (gM M n0 1)) fun M1 r2 =>
    if r2 = 0 then
      bI (fX2_pullOf M1 n1 (gM M1 n0 2)) fun M4 r5 =>
        if r5 = (-9 : Int32) then
          sX4_row_50 M4 n0 n1
        else
          bI (fX2_flowAt M4 n1 (gM M4 n0 1)) fun M7 r8 =>
            sX4_row_50 (sM M7 n0 1 (if (0 : Int32) < (((gM M4 n0 1) + r5) - r8) then (((gM M4 n0 1) + r5) - r8) else (0 : Int32))) n0 n1
    else
      some M1
/-! LastRower.agreesWithSeen(LLastRower$Moment;)Z -/
def sX11_agreesWithSeen_7  (rec7 : Mem → Nat → Int32 → Int32 → Option (Mem × Int32)) (M : Mem) (n1 : Nat) (x2 : Int32) (x3 : Int32) : Option (Mem × Int32) :=
  if x2 < x3 then
    some (M, (1 : Int32))
  else
    bI (fX11_contradictsSeen M x3 (gM M n1 2)) fun M4 r5 =>
      if r5 = 0 then
        bV (fX4_row M4 n1 (feB (gM M4 0 1))) fun M7 =>
          rec7 M7 n1 x2 (x3 + 1)
      else
        some (M4, (0 : Int32))
def lX11_agreesWithSeen_7  (n : Nat) : Mem → Nat → Int32 → Int32 → Option (Mem × Int32) := itr (sX11_agreesWithSeen_7 ) (fun _ _ _ _ => none) n
def fX11_agreesWithSeen (M : Mem) (n1 : Nat) : Option (Mem × Int32) :=
  bI (fX11_latestSeen M) fun M1 r2 =>
    lX11_agreesWithSeen_7 fuel M1 n1 r2 (0 : Int32)
/-! LastRower$Moment.copyFrom(LLastRower$Moment;)V -/
def sX4_copyFrom_34  (rec34 : Mem → Nat → Nat → Int32 → Option (Mem)) (M : Mem) (n0 : Nat) (n1 : Nat) (x2 : Int32) : Option (Mem) :=
  if (6 : Int32) ≤ x2 then
    some M
  else
    if inB x2 6 then
      rec34 (sM (sM M (n0 + 1) x2.toNatClampNeg (gM M (n1 + 1) x2.toNatClampNeg)) (n0 + 2) x2.toNatClampNeg (gM (sM M (n0 + 1) x2.toNatClampNeg (gM M (n1 + 1) x2.toNatClampNeg)) (n1 + 2) x2.toNatClampNeg)) n0 n1 (x2 + 1)
    else none
def lX4_copyFrom_34  (n : Nat) : Mem → Nat → Nat → Int32 → Option (Mem) := itr (sX4_copyFrom_34 ) (fun _ _ _ _ => none) n
def fX4_copyFrom (M : Mem) (n0 : Nat) (n1 : Nat) : Option (Mem) :=
  lX4_copyFrom_34 fuel (sM (sM (sM (sM M n0 0 (gM M n1 0)) n0 1 (gM (sM M n0 0 (gM M n1 0)) n1 1)) n0 2 (gM (sM (sM M n0 0 (gM M n1 0)) n0 1 (gM (sM M n0 0 (gM M n1 0)) n1 1)) n1 2)) n0 5 (gM (sM (sM (sM M n0 0 (gM M n1 0)) n0 1 (gM (sM M n0 0 (gM M n1 0)) n1 1)) n0 2 (gM (sM (sM M n0 0 (gM M n1 0)) n0 1 (gM (sM M n0 0 (gM M n1 0)) n1 1)) n1 2)) n1 5)) n0 n1 (0 : Int32)
/-! LastRower$Past.lose()V -/
def fX8_lose (M : Mem)  : Option (Mem) :=
  some (sM M 22 2 (0 : Int32))
/-! LastRower.back(I)I -/
def fX11_back (M : Mem) (x1 : Int32) : Option (Mem × Int32) :=
  if x1 < 0 then
    some (M, (-1 : Int32))
  else
    if x1 < (2 : Int32) then
      if (((gM M 0 6) >>> (x1 &&& 31)) &&& (1 : Int32)) = 0 then
        some (M, (-2 : Int32))
      else
        if inB x1 2 then
          bV (fX4_copyFrom M 19 (76 + 3 * x1.toNatClampNeg)) fun M5 =>
            bV (fX8_lose M5) fun M6 =>
              some (M6, (gM M6 19 0))
        else none
    else
      some (M, (-1 : Int32))
/-! LastRower.isOver()Z -/
def fX11_isOver (M : Mem)  : Option (Mem × Int32) :=
  bI (fX2_isOver M (feB (gM M 0 1)) (gM M 19 1)) fun M1 r2 =>
    if r2 = 0 ∨ r2 = 1 then some (M1, r2) else none
/-! LastRower$Past.add(LLastRower$Moment;)V -/
def fX8_add (M : Mem) (n1 : Nat) : Option (Mem) :=
  if inB (gM (sM M 22 1 (((gM M 22 1) + (1 : Int32)) - ((gM M 22 1) + (1 : Int32)) / (10 : Int32) * (10 : Int32))) 22 1) 10 then
    bV (fX4_copyFrom (sM M 22 1 (((gM M 22 1) + (1 : Int32)) - ((gM M 22 1) + (1 : Int32)) / (10 : Int32) * (10 : Int32))) (24 + 3 * (gM (sM M 22 1 (((gM M 22 1) + (1 : Int32)) - ((gM M 22 1) + (1 : Int32)) / (10 : Int32) * (10 : Int32))) 22 1).toNatClampNeg) n1) fun M2 =>
      some (sM M2 22 2 (if (10 : Int32) < ((gM M2 22 2) + (1 : Int32)) then (10 : Int32) else ((gM M2 22 2) + (1 : Int32))))
  else none
/-! LastRower.beat()I -/
def fX11_beat (M : Mem)  : Option (Mem × Int32) :=
  bI (fX11_isOver M) fun M1 r2 =>
    if r2 = 0 then
      if (gM M1 19 0) < (9999 : Int32) then
        bV (fX8_add M1 19) fun M5 =>
          bV (fX4_row M5 19 (feB (gM M5 0 1))) fun M6 =>
            some (M6, (gM M6 19 1))
      else
        some (M1, (-2 : Int32))
    else
      some (M1, (-2 : Int32))
/-! LastRower.copyOfNow()LLastRower$Moment; -/
def fX11_copyOfNow (M : Mem)  : Option (Mem) :=
  bV (fX4_copyFrom M 82 19) fun M1 =>
    some M1
/-! LastRower.copyWherePinched(I)LLastRower$Moment; -/
def fX11_copyWherePinched (M : Mem) (x1 : Int32) : Option (Mem) :=
  bV (fX11_copyOfNow M) fun M1 =>
    bV (fX4_speak M1 82 (feB (gM M1 0 1)) ((1 : Int32) <<< (x1 &&& 31))) fun M2 =>
      some M2
/-! LastRower.countPinchable()I -/
def fX11_countPinchable (M : Mem)  : Option (Mem × Int32) :=
  bI (fX11_isOver M) fun M1 r2 =>
    if r2 = 0 then
      some (M1, (gM M1 (feB (gM M1 0 1)) 0))
    else
      some (M1, (0 : Int32))
/-! LastRower$Moment.rowTillOver(LLastRower$Ferry;I)I -/
def sX4_rowTillOver_2  (rec2 : Mem → Nat → Nat → Int32 → Int32 → Option (Mem × Int32)) (M : Mem) (n0 : Nat) (n1 : Nat) (x2 : Int32) (x3 : Int32) : Option (Mem × Int32) :=
  if x2 < x3 then
    some (M, (-9 : Int32))
  else
    bI (fX2_isOver M n1 (gM M n0 1)) fun M2 r3 =>
      if r3 = 0 then
        bV (fX4_row M2 n0 n1) fun M5 =>
          rec2 M5 n0 n1 x2 (x3 + 1)
      else
        some (M2, x3)
def lX4_rowTillOver_2  (n : Nat) : Mem → Nat → Nat → Int32 → Int32 → Option (Mem × Int32) := itr (sX4_rowTillOver_2 ) (fun _ _ _ _ _ => none) n
def fX4_rowTillOver (M : Mem) (n0 : Nat) (n1 : Nat) (x2 : Int32) : Option (Mem × Int32) :=
  lX4_rowTillOver_2 fuel M n0 n1 x2 (0 : Int32)
/-! LastRower.best()I -/
def sX11_best_15  (rec15 : Mem → Int32 → Int32 → Int32 → Int32 → Option (Mem × Int32)) (M : Mem) (x1 : Int32) (x2 : Int32) (x3 : Int32) (x4 : Int32) : Option (Mem × Int32) :=
  if x3 ≤ x4 then
    some (M, x1)
  else
    bV (fX11_copyWherePinched M x4) fun M4 =>
      bI (fX4_rowTillOver M4 82 (feB (gM M4 0 1)) (x2 - (1 : Int32))) fun M5 r6 =>
        if r6 = (-9 : Int32) then
          rec15 M5 x1 x2 x3 (x4 + 1)
        else
          rec15 M5 x4 r6 x3 (x4 + 1)
def lX11_best_15  (n : Nat) : Mem → Int32 → Int32 → Int32 → Int32 → Option (Mem × Int32) := itr (sX11_best_15 ) (fun _ _ _ _ _ => none) n
def fX11_best (M : Mem)  : Option (Mem × Int32) :=
  bI (fX11_countPinchable M) fun M1 r2 =>
    lX11_best_15 fuel M1 (-9 : Int32) (401 : Int32) r2 (0 : Int32)
/-! LastRower.clear()I -/
def fX11_clear (M : Mem)  : Option (Mem × Int32) :=
  some ((sM M 1 1 (0 : Int32)), (gM M 1 1))
/-! LastRower.count(I)I -/
def fX11_count (M : Mem) (x1 : Int32) : Option (Mem × Int32) :=
  if x1 = 0 then
    some (M, (gM M (feB (gM M 0 1)) 0))
  else if x1 = 1 then
    some (M, (gM M (feB (gM M 0 1)) 7))
  else if x1 = 2 then
    some (M, (gM M (feB (gM M 0 1)) 4))
  else if x1 = 3 then
    some (M, (gM M 0 9))
  else if x1 = 4 then
    some (M, (gM M 1 1))
  else
    some (M, (-1 : Int32))
/-! LastRower.current(I)I -/
def fX11_current (M : Mem) (x1 : Int32) : Option (Mem × Int32) :=
  if x1 < 0 then
    some (M, (-1 : Int32))
  else
    if x1 ≤ (400 : Int32) then
      bI (fX2_flowAt M (feB (gM M 0 1)) x1) fun M3 r4 =>
        some (M3, r4)
    else
      some (M, (-1 : Int32))
/-! LastRower.drift()I -/
def sX11_drift_7  (rec7 : Mem → Int32 → Option (Mem × Int32)) (M : Mem) (x2 : Int32) : Option (Mem × Int32) :=
  if (400 : Int32) < x2 then
    some (M, (-9 : Int32))
  else
    bI (fX2_isOver M (feB (gM M 0 1)) (gM M 82 1)) fun M3 r4 =>
      if r4 = 0 then
        bV (fX4_row M3 82 (feB (gM M3 0 1))) fun M6 =>
          if (gM M6 19 1) ≤ (gM M6 82 1) then
            rec7 M6 (x2 + 1)
          else
            some (M6, x2)
      else
        some (M3, (-9 : Int32))
def lX11_drift_7  (n : Nat) : Mem → Int32 → Option (Mem × Int32) := itr (sX11_drift_7 ) (fun _ _ => none) n
def fX11_drift (M : Mem)  : Option (Mem × Int32) :=
  bV (fX11_copyOfNow M) fun M1 =>
    lX11_drift_7 fuel M1 (1 : Int32)
/-! LastRower.ends()I -/
def fX11_ends (M : Mem)  : Option (Mem × Int32) :=
  bV (fX11_copyOfNow M) fun M1 =>
    bI (fX4_rowTillOver M1 82 (feB (gM M1 0 1)) (400 : Int32)) fun M2 r3 =>
      some (M2, r3)
/-! java/util/Arrays.fill([II)V -/
def sJ7_fill_53178_5  (rec5 : Mem → Nat → Int32 → Int32 → Int32 → Option (Mem)) (M : Mem) (n0 : Nat) (x1 : Int32) (x2 : Int32) (x3 : Int32) : Option (Mem) :=
  if x3 ≤ x2 then
    some M
  else
    if inB x2 6 then
      rec5 (sM M n0 x2.toNatClampNeg x1) n0 x1 (x2 + 1) x3
    else none
def lJ7_fill_53178_5  (n : Nat) : Mem → Nat → Int32 → Int32 → Int32 → Option (Mem) := itr (sJ7_fill_53178_5 ) (fun _ _ _ _ _ => none) n
def fJ7_fill_53178 (M : Mem) (n0 : Nat) (x1 : Int32) : Option (Mem) :=
  lJ7_fill_53178_5 fuel M n0 x1 (0 : Int32) (6 : Int32)
/-! LastRower$Moment.start(LLastRower$Ferry;)V -/
def fX4_start (M : Mem) (n0 : Nat) (n1 : Nat) : Option (Mem) :=
  bV (fJ7_fill_53178 (sM (sM M n0 0 (0 : Int32)) n0 1 (0 : Int32)) (n0 + 1) (0 : Int32)) fun M1 =>
    bV (fJ7_fill_53178 M1 (n0 + 2) (0 : Int32)) fun M2 =>
      bV (fX4_speak M2 n0 n1 (0 : Int32)) fun M3 =>
        some M3
/-! LastRower$Ferry.empty()V -/
def fX2_empty (M : Mem) (n0 : Nat) : Option (Mem) :=
  some (sM (sM (sM (sM M n0 0 (0 : Int32)) n0 4 (0 : Int32)) n0 7 (60 : Int32)) n0 8 (0 : Int32))
/-! LastRower$Ferry.findFlow(I)I -/
def sX2_findFlow_7  (rec7 : Mem → Nat → Int32 → Int32 → Int32 → Int32 → Option (Mem × Int32)) (M : Mem) (n0 : Nat) (x1 : Int32) (x2 : Int32) (x3 : Int32) (x4 : Int32) : Option (Mem × Int32) :=
  if (gM M n0 4) ≤ x4 then
    some (M, x2)
  else
    if (4 : Int32) ≤ x4 then
      some (M, x2)
    else
      if inB x4 4 then
        if x1 < (gM M (n0 + 4) x4.toNatClampNeg) then
          rec7 M n0 x1 x2 x3 (x4 + 1)
        else
          if (gM M (n0 + 4) x4.toNatClampNeg) ≤ x3 then
            rec7 M n0 x1 x2 x3 (x4 + 1)
          else
            rec7 M n0 x1 (gM M (n0 + 5) x4.toNatClampNeg) (gM M (n0 + 4) x4.toNatClampNeg) (x4 + 1)
      else none
def lX2_findFlow_7  (n : Nat) : Mem → Nat → Int32 → Int32 → Int32 → Int32 → Option (Mem × Int32) := itr (sX2_findFlow_7 ) (fun _ _ _ _ _ _ => none) n
def fX2_findFlow (M : Mem) (n0 : Nat) (x1 : Int32) : Option (Mem × Int32) :=
  lX2_findFlow_7 fuel M n0 x1 (0 : Int32) (-1 : Int32) (0 : Int32)
/-! LastRower$Ferry.findPull(I)I -/
def sX2_findPull_59 (rec7 : Mem → Nat → Int32 → Int32 → Int32 → Int32 → Option (Mem × Int32)) (M : Mem) (n0 : Nat) (x1 : Int32) (x3 : Int32) (x4 : Int32) (s0 : Int32) : Option (Mem × Int32) :=
  if s0 = 0 then
    some (M, (-9 : Int32))
  else
    if inB x4 6 then
      rec7 M n0 x1 (gM M (n0 + 3) x4.toNatClampNeg) (x3 + (gM M (n0 + 1) x4.toNatClampNeg)) (x4 + 1)
    else none
def sX2_findPull_58 (rec7 : Mem → Nat → Int32 → Int32 → Int32 → Int32 → Option (Mem × Int32)) (M : Mem) (n0 : Nat) (x1 : Int32) (x3 : Int32) (x4 : Int32) : Option (Mem × Int32) :=
  sX2_findPull_59 rec7 M n0 x1 x3 x4 (0 : Int32)
def sX2_findPull_7  (rec7 : Mem → Nat → Int32 → Int32 → Int32 → Int32 → Option (Mem × Int32)) (M : Mem) (n0 : Nat) (x1 : Int32) (x2 : Int32) (x3 : Int32) (x4 : Int32) : Option (Mem × Int32) :=
  if (gM M n0 0) ≤ x4 then
    some (M, x3)
  else
    if (6 : Int32) ≤ x4 then
      some (M, x3)
    else
      if ((x1 >>> (x4 &&& 31)) &&& (1 : Int32)) = 0 then
        rec7 M n0 x1 x2 x3 (x4 + 1)
      else
        if x2 < 0 then
          sX2_findPull_59 rec7 M n0 x1 x3 x4 (1 : Int32)
        else
          if inB x4 6 then
            if x2 = (gM M (n0 + 3) x4.toNatClampNeg) then
              if x2 = 0 then
                sX2_findPull_58 rec7 M n0 x1 x3 x4
              else
                sX2_findPull_59 rec7 M n0 x1 x3 x4 (1 : Int32)
            else
              sX2_findPull_58 rec7 M n0 x1 x3 x4
          else none
def lX2_findPull_7  (n : Nat) : Mem → Nat → Int32 → Int32 → Int32 → Int32 → Option (Mem × Int32) := itr (sX2_findPull_7 ) (fun _ _ _ _ _ _ => none) n
def fX2_findPull (M : Mem) (n0 : Nat) (x1 : Int32) : Option (Mem × Int32) :=
  lX2_findPull_7 fuel M n0 x1 (-1 : Int32) (0 : Int32) (0 : Int32)
/-! LastRower$Ferry.settle()V -/
def sX2_settle_30  (rec30 : Mem → Nat → Int32 → Option (Mem)) (M : Mem) (n0 : Nat) (x1 : Int32) : Option (Mem) :=
  if (200 : Int32) ≤ x1 then
    some M
  else
    bI (fX2_findFlow M n0 x1) fun M6 r7 =>
      if inB x1 200 then
        rec30 (sM M6 (n0 + 7) x1.toNatClampNeg r7) n0 (x1 + 1)
      else none
def lX2_settle_30  (n : Nat) : Mem → Nat → Int32 → Option (Mem) := itr (sX2_settle_30 ) (fun _ _ _ => none) n
def sX2_settle_2  (rec2 : Mem → Nat → Int32 → Option (Mem)) (M : Mem) (n0 : Nat) (x1 : Int32) : Option (Mem) :=
  if (64 : Int32) ≤ x1 then
    lX2_settle_30 fuel M n0 (0 : Int32)
  else
    bI (fX2_findPull M n0 x1) fun M2 r3 =>
      if inB x1 64 then
        rec2 (sM M2 (n0 + 6) x1.toNatClampNeg r3) n0 (x1 + 1)
      else none
def lX2_settle_2  (n : Nat) : Mem → Nat → Int32 → Option (Mem) := itr (sX2_settle_2 ) (fun _ _ _ => none) n
def fX2_settle (M : Mem) (n0 : Nat) : Option (Mem) :=
  lX2_settle_2 fuel M n0 (0 : Int32)
/-! LastRower$Ferry.addCurrent(II)V -/
def fX2_addCurrent (M : Mem) (n0 : Nat) (x1 : Int32) (x2 : Int32) : Option (Mem) :=
  if (4 : Int32) ≤ (gM M n0 4) then
    some M
  else
    if inB (gM M n0 4) 4 then
      if inB (gM (sM M (n0 + 4) (gM M n0 4).toNatClampNeg x1) n0 4) 4 then
        some (sM (sM (sM M (n0 + 4) (gM M n0 4).toNatClampNeg x1) (n0 + 5) (gM (sM M (n0 + 4) (gM M n0 4).toNatClampNeg x1) n0 4).toNatClampNeg x2) n0 4 ((gM (sM (sM M (n0 + 4) (gM M n0 4).toNatClampNeg x1) (n0 + 5) (gM (sM M (n0 + 4) (gM M n0 4).toNatClampNeg x1) n0 4).toNatClampNeg x2) n0 4) + (1 : Int32)))
      else none
    else none
/-! LastRower$Ferry.hasCurrentFrom(I)Z -/
def sX2_hasCurrentFrom_2  (rec2 : Mem → Nat → Int32 → Int32 → Option (Mem × Int32)) (M : Mem) (n0 : Nat) (x1 : Int32) (x2 : Int32) : Option (Mem × Int32) :=
  if (gM M n0 4) ≤ x2 then
    some (M, (0 : Int32))
  else
    if (4 : Int32) ≤ x2 then
      some (M, (0 : Int32))
    else
      if inB x2 4 then
        if (gM M (n0 + 4) x2.toNatClampNeg) = x1 then
          some (M, (1 : Int32))
        else
          rec2 M n0 x1 (x2 + 1)
      else none
def lX2_hasCurrentFrom_2  (n : Nat) : Mem → Nat → Int32 → Int32 → Option (Mem × Int32) := itr (sX2_hasCurrentFrom_2 ) (fun _ _ _ _ => none) n
def fX2_hasCurrentFrom (M : Mem) (n0 : Nat) (x1 : Int32) : Option (Mem × Int32) :=
  lX2_hasCurrentFrom_2 fuel M n0 x1 (0 : Int32)
/-! LastRower$Reader.isDigit(I)Z -/
def fX10_isDigit (M : Mem) (x0 : Int32) : Option (Mem × Int32) :=
  if x0 < (48 : Int32) then
    some (M, (0 : Int32))
  else
    if (57 : Int32) < x0 then
      some (M, (0 : Int32))
    else
      some (M, (1 : Int32))
/-! LastRower$Reader.readDigits()V -/
def sX10_readDigits_129  (M : Mem) (s1 : Int32) : Option (Mem) :=
  some (sM M 1 3 s1)
def sX10_readDigits_106  (M : Mem) (s0 : Int32) : Option (Mem) :=
  if s0 = 0 then
    if (gM M 1 5) ≤ (200 : Int32) then
      sX10_readDigits_129 M (-2 : Int32)
    else
      sX10_readDigits_129 M (-3 : Int32)
  else
    sX10_readDigits_129 M (-3 : Int32)
def sX10_readDigits_105  (M : Mem)  : Option (Mem) :=
  sX10_readDigits_106 M (0 : Int32)
def sX10_readDigits_74  (M : Mem)  : Option (Mem) :=
  if inB (gM M 1 4) 200 then
    if (gM M 2 (gM M 1 4).toNatClampNeg) = (48 : Int32) then
      if ((gM M 1 2) - (gM M 1 4)) ≤ (1 : Int32) then
        sX10_readDigits_105 M
      else
        sX10_readDigits_106 M (1 : Int32)
    else
      sX10_readDigits_105 M
  else none
def sX10_readDigits_5  (rec5 : Mem → Option (Mem)) (M : Mem)  : Option (Mem) :=
  if (gM M 1 1) ≤ (gM M 1 2) then
    sX10_readDigits_74 M
  else
    if inB (gM M 1 2) 200 then
      bI (fX10_isDigit M (gM M 2 (gM M 1 2).toNatClampNeg)) fun M3 r4 =>
        if r4 = 0 then
          sX10_readDigits_74 M3
        else
          if inB (gM M3 1 2) 200 then
            rec5 (sM (sM M3 1 5 (if (201 : Int32) < ((((gM M3 1 5) * (10 : Int32)) + (gM M3 2 (gM M3 1 2).toNatClampNeg)) - (48 : Int32)) then (201 : Int32) else ((((gM M3 1 5) * (10 : Int32)) + (gM M3 2 (gM M3 1 2).toNatClampNeg)) - (48 : Int32)))) 1 2 ((gM (sM M3 1 5 (if (201 : Int32) < ((((gM M3 1 5) * (10 : Int32)) + (gM M3 2 (gM M3 1 2).toNatClampNeg)) - (48 : Int32)) then (201 : Int32) else ((((gM M3 1 5) * (10 : Int32)) + (gM M3 2 (gM M3 1 2).toNatClampNeg)) - (48 : Int32)))) 1 2) + (1 : Int32)))
          else none
    else none
def lX10_readDigits_5  (n : Nat) : Mem → Option (Mem) := itr (sX10_readDigits_5 ) (fun _ => none) n
def fX10_readDigits (M : Mem)  : Option (Mem) :=
  lX10_readDigits_5 fuel (sM M 1 5 (0 : Int32))
/-! LastRower$Reader.readToken()V -/
def sX10_readToken_38  (M : Mem)  : Option (Mem) :=
  if (gM (sM M 1 4 (gM M 1 2)) 1 2) < (gM (sM M 1 4 (gM M 1 2)) 1 1) then
    if inB (gM (sM M 1 4 (gM M 1 2)) 1 2) 200 then
      bI (fX10_isDigit (sM M 1 4 (gM M 1 2)) (gM (sM M 1 4 (gM M 1 2)) 2 (gM (sM M 1 4 (gM M 1 2)) 1 2).toNatClampNeg)) fun M6 r7 =>
        if r7 = 0 then
          if inB (gM M6 1 2) 200 then
            some (sM (sM M6 1 3 (gM M6 2 (gM M6 1 2).toNatClampNeg)) 1 2 ((gM (sM M6 1 3 (gM M6 2 (gM M6 1 2).toNatClampNeg)) 1 2) + (1 : Int32)))
          else none
        else
          bV (fX10_readDigits M6) fun M10 =>
            some M10
    else none
  else
    some (sM (sM M 1 4 (gM M 1 2)) 1 3 (-1 : Int32))
def sX10_readToken_0  (rec0 : Mem → Option (Mem)) (M : Mem)  : Option (Mem) :=
  if (gM M 1 1) ≤ (gM M 1 2) then
    sX10_readToken_38 M
  else
    if inB (gM M 1 2) 200 then
      if (gM M 2 (gM M 1 2).toNatClampNeg) = (32 : Int32) then
        rec0 (sM M 1 2 ((gM M 1 2) + (1 : Int32)))
      else
        sX10_readToken_38 M
    else none
def lX10_readToken_0  (n : Nat) : Mem → Option (Mem) := itr (sX10_readToken_0 ) (fun _ => none) n
def fX10_readToken (M : Mem)  : Option (Mem) :=
  lX10_readToken_0 fuel M
/-! LastRower$Reader.readNumber(II)Z -/
def fX10_readNumber (M : Mem) (x1 : Int32) (x2 : Int32) : Option (Mem × Int32) :=
  bV (fX10_readToken M) fun M1 =>
    if (gM M1 1 3) = (-2 : Int32) then
      if (gM M1 1 5) < x1 then
        some (M1, (0 : Int32))
      else
        if x2 < (gM M1 1 5) then
          some (M1, (0 : Int32))
        else
          some (M1, (1 : Int32))
    else
      some (M1, (0 : Int32))
/-! LastRower$Reader.readCurrent(LLastRower$Ferry;)Z -/
def fX10_readCurrent (M : Mem) (n1 : Nat) : Option (Mem × Int32) :=
  bI (fX10_readNumber M (0 : Int32) (199 : Int32)) fun M1 r2 =>
    if r2 = 0 then
      some (M1, (0 : Int32))
    else
      bI (fX2_hasCurrentFrom M1 n1 (gM M1 1 5)) fun M4 r5 =>
        if r5 = 0 then
          bI (fX10_readNumber M4 (0 : Int32) (8 : Int32)) fun M7 r8 =>
            if r8 = 0 then
              some (M7, (0 : Int32))
            else
              bV (fX2_addCurrent M7 n1 (gM M4 1 5) (gM M7 1 5)) fun M10 =>
                some (M10, (1 : Int32))
        else
          some (M4, (0 : Int32))
/-! LastRower$Ferry.addPassenger(III)V -/
def fX2_addPassenger (M : Mem) (n0 : Nat) (x1 : Int32) (x2 : Int32) (x3 : Int32) : Option (Mem) :=
  if (6 : Int32) ≤ (gM M n0 0) then
    some M
  else
    if inB (gM M n0 0) 6 then
      if inB (gM (sM M (n0 + 1) (gM M n0 0).toNatClampNeg x1) n0 0) 6 then
        if inB (gM (sM (sM M (n0 + 1) (gM M n0 0).toNatClampNeg x1) (n0 + 2) (gM (sM M (n0 + 1) (gM M n0 0).toNatClampNeg x1) n0 0).toNatClampNeg x2) n0 0) 6 then
          some (sM (sM (sM (sM M (n0 + 1) (gM M n0 0).toNatClampNeg x1) (n0 + 2) (gM (sM M (n0 + 1) (gM M n0 0).toNatClampNeg x1) n0 0).toNatClampNeg x2) (n0 + 3) (gM (sM (sM M (n0 + 1) (gM M n0 0).toNatClampNeg x1) (n0 + 2) (gM (sM M (n0 + 1) (gM M n0 0).toNatClampNeg x1) n0 0).toNatClampNeg x2) n0 0).toNatClampNeg x3) n0 0 ((gM (sM (sM (sM M (n0 + 1) (gM M n0 0).toNatClampNeg x1) (n0 + 2) (gM (sM M (n0 + 1) (gM M n0 0).toNatClampNeg x1) n0 0).toNatClampNeg x2) (n0 + 3) (gM (sM (sM M (n0 + 1) (gM M n0 0).toNatClampNeg x1) (n0 + 2) (gM (sM M (n0 + 1) (gM M n0 0).toNatClampNeg x1) n0 0).toNatClampNeg x2) n0 0).toNatClampNeg x3) n0 0) + (1 : Int32)))
        else none
      else none
    else none
/-! LastRower$Reader.readPassenger(LLastRower$Ferry;)Z -/
def fX10_readPassenger (M : Mem) (n1 : Nat) : Option (Mem × Int32) :=
  bI (fX10_readNumber M (1 : Int32) (9 : Int32)) fun M1 r2 =>
    if r2 = 0 then
      some (M1, (0 : Int32))
    else
      bI (fX10_readNumber M1 (1 : Int32) (30 : Int32)) fun M4 r5 =>
        if r5 = 0 then
          some (M4, (0 : Int32))
        else
          bI (fX10_readNumber M4 (0 : Int32) (3 : Int32)) fun M7 r8 =>
            if r8 = 0 then
              some (M7, (0 : Int32))
            else
              bV (fX2_addPassenger M7 n1 (gM M1 1 5) (gM M4 1 5) (gM M7 1 5)) fun M10 =>
                some (M10, (1 : Int32))
/-! LastRower$Reader.readWide(LLastRower$Ferry;)Z -/
def fX10_readWide (M : Mem) (n1 : Nat) : Option (Mem × Int32) :=
  bI (fX10_readNumber M (10 : Int32) (200 : Int32)) fun M1 r2 =>
    if r2 = 0 then
      some (M1, (0 : Int32))
    else
      some ((sM (sM M1 n1 7 (gM M1 1 5)) n1 8 (1 : Int32)), (1 : Int32))
/-! LastRower$Reader.readItem(LLastRower$Ferry;)Z -/
def fX10_readItem (M : Mem) (n1 : Nat) : Option (Mem × Int32) :=
  if (gM M 1 3) = 99 then
    if (4 : Int32) ≤ (gM M n1 4) then
      some (M, (0 : Int32))
    else
      bI (fX10_readCurrent M n1) fun M3 r4 =>
        if r4 = 0 then
          some (M3, (0 : Int32))
        else
          some (M3, (1 : Int32))
  else if (gM M 1 3) = 112 then
    if (6 : Int32) ≤ (gM M n1 0) then
      some (M, (0 : Int32))
    else
      bI (fX10_readPassenger M n1) fun M8 r9 =>
        if r9 = 0 then
          some (M8, (0 : Int32))
        else
          some (M8, (1 : Int32))
  else if (gM M 1 3) = 119 then
    if (gM M n1 8) = 0 then
      bI (fX10_readWide M n1) fun M13 r14 =>
        if r14 = 0 then
          some (M13, (0 : Int32))
        else
          some (M13, (1 : Int32))
    else
      some (M, (0 : Int32))
  else
    some (M, (0 : Int32))
/-! LastRower$Reader.readSemicolon()Z -/
def fX10_readSemicolon (M : Mem)  : Option (Mem × Int32) :=
  bV (fX10_readToken M) fun M1 =>
    if (gM M1 1 3) = (59 : Int32) then
      some (M1, (1 : Int32))
    else
      some (M1, (0 : Int32))
/-! LastRower$Reader.readInto(LLastRower$Ferry;)I -/
def sX10_readInto_63  (M : Mem) (n1 : Nat) (x2 : Int32) : Option (Mem × Int32) :=
  bV (fX2_settle M n1) fun M12 =>
    some (M12, x2)
def sX10_readInto_45  (M : Mem)  : Option (Mem × Int32) :=
  some (M, ((-10 : Int32) - (gM M 1 4)))
def sX10_readInto_15  (rec15 : Mem → Nat → Int32 → Option (Mem × Int32)) (M : Mem) (n1 : Nat) (x2 : Int32) : Option (Mem × Int32) :=
  if (200 : Int32) ≤ x2 then
    sX10_readInto_63 M n1 x2
  else
    if (gM M 1 3) = (-1 : Int32) then
      sX10_readInto_63 M n1 x2
    else
      bI (fX10_readItem M n1) fun M5 r6 =>
        if r6 = 0 then
          sX10_readInto_45 M5
        else
          bI (fX10_readSemicolon M5) fun M8 r9 =>
            if r9 = 0 then
              sX10_readInto_45 M8
            else
              bV (fX10_readToken M8) fun M11 =>
                rec15 M11 n1 (x2 + 1)
def lX10_readInto_15  (n : Nat) : Mem → Nat → Int32 → Option (Mem × Int32) := itr (sX10_readInto_15 ) (fun _ _ _ => none) n
def fX10_readInto (M : Mem) (n1 : Nat) : Option (Mem × Int32) :=
  bV (fX2_empty M n1) fun M1 =>
    bV (fX10_readToken (sM M1 1 2 (0 : Int32))) fun M2 =>
      lX10_readInto_15 fuel M2 n1 (0 : Int32)
/-! LastRower.ferry()I -/
def fX11_ferry (M : Mem)  : Option (Mem × Int32) :=
  bI (fX10_readInto M (feB (gM M 0 2))) fun M1 r2 =>
    if 0 ≤ r2 then
      bV (fX4_start (sM (sM (sM M1 0 1 (gM M1 0 2)) 0 2 (gM M1 0 1)) 1 1 (0 : Int32)) 19 (feB (gM (sM (sM (sM M1 0 1 (gM M1 0 2)) 0 2 (gM M1 0 1)) 1 1 (0 : Int32)) 0 1))) fun M4 =>
        bV (fX8_lose M4) fun M5 =>
          some ((sM (sM M5 0 6 (0 : Int32)) 0 9 (0 : Int32)), r2)
    else
      some (M1, r2)
/-! LastRower.first(I)I -/
def fX11_first (M : Mem) (x1 : Int32) : Option (Mem × Int32) :=
  if x1 < 0 then
    some (M, (-1 : Int32))
  else
    if x1 ≤ (1 : Int32) then
      if (gM M (feB (gM M 0 1)) 0) = 0 then
        some (M, (-9 : Int32))
      else
        if x1 = 0 then
          some (M, ((gM M 19 5) - (gM M 19 0)))
        else
          bI (fX4_whoIsDueAt M 19 (feB (gM M 0 1)) (gM M 19 5)) fun M5 r6 =>
            some (M5, r6)
    else
      some (M, (-1 : Int32))
/-! LastRower.forget()I -/
def fX11_forget (M : Mem)  : Option (Mem × Int32) :=
  some ((sM M 0 9 (0 : Int32)), (gM M 0 9))
/-! LastRower.greatestShared(II)I -/
def sX11_greatestShared_7  (rec7 : Mem → Int32 → Int32 → Int32 → Option (Mem × Int32)) (M : Mem) (x2 : Int32) (x3 : Int32) (x4 : Int32) : Option (Mem × Int32) :=
  if (64 : Int32) ≤ x4 then
    some (M, x2)
  else
    if x3 = 0 then
      some (M, x2)
    else
      if ¬ x3 = 0 then
        rec7 M x3 (x2 - x2 / x3 * x3) (x4 + 1)
      else none
def lX11_greatestShared_7  (n : Nat) : Mem → Int32 → Int32 → Int32 → Option (Mem × Int32) := itr (sX11_greatestShared_7 ) (fun _ _ _ _ => none) n
def fX11_greatestShared (M : Mem) (x0 : Int32) (x1 : Int32) : Option (Mem × Int32) :=
  lX11_greatestShared_7 fuel M x0 x1 (0 : Int32)
/-! LastRower$Moment.allWords()I -/
def sX4_allWords_4  (rec4 : Mem → Nat → Int32 → Int32 → Option (Mem × Int32)) (M : Mem) (n0 : Nat) (x1 : Int32) (x2 : Int32) : Option (Mem × Int32) :=
  if (6 : Int32) ≤ x2 then
    some (M, x1)
  else
    if inB x2 6 then
      rec4 M n0 (x1 + (gM M (n0 + 2) x2.toNatClampNeg)) (x2 + 1)
    else none
def lX4_allWords_4  (n : Nat) : Mem → Nat → Int32 → Int32 → Option (Mem × Int32) := itr (sX4_allWords_4 ) (fun _ _ _ _ => none) n
def fX4_allWords (M : Mem) (n0 : Nat) : Option (Mem × Int32) :=
  lX4_allWords_4 fuel M n0 (0 : Int32) (0 : Int32)
/-! LastRower.inBeats(II)I -/
def sX11_inBeats_50  (M : Mem) (x2 : Int32) : Option (Mem × Int32) :=
  if x2 = 0 then
    some (M, (gM M 82 1))
  else
    if x2 = (1 : Int32) then
      some (M, (gM M 82 2))
    else
      bI (fX4_allWords M 82) fun M10 r11 =>
        bI (fX4_allWords M10 19) fun M12 r13 =>
          some (M12, (r11 - r13))
def sX11_inBeats_30  (rec30 : Mem → Int32 → Int32 → Int32 → Option (Mem × Int32)) (M : Mem) (x1 : Int32) (x2 : Int32) (x4 : Int32) : Option (Mem × Int32) :=
  if x1 ≤ x4 then
    sX11_inBeats_50 M x2
  else
    bV (fX4_row M 82 (feB (gM M 0 1))) fun M7 =>
      rec30 M7 x1 x2 (x4 + 1)
def lX11_inBeats_30  (n : Nat) : Mem → Int32 → Int32 → Int32 → Option (Mem × Int32) := itr (sX11_inBeats_30 ) (fun _ _ _ _ => none) n
def fX11_inBeats (M : Mem) (x1 : Int32) (x2 : Int32) : Option (Mem × Int32) :=
  if x1 < 0 then
    some (M, (-1 : Int32))
  else
    if (200 : Int32) < x1 then
      some (M, (-1 : Int32))
    else
      if x2 < 0 then
        some (M, (-1 : Int32))
      else
        if x2 ≤ (2 : Int32) then
          bV (fX11_copyOfNow M) fun M5 =>
            lX11_inBeats_30 fuel M5 x1 x2 (0 : Int32)
        else
          some (M, (-1 : Int32))
/-! LastRower.keep(I)I -/
def fX11_keep (M : Mem) (x1 : Int32) : Option (Mem × Int32) :=
  if x1 < 0 then
    some (M, (-1 : Int32))
  else
    if x1 < (2 : Int32) then
      if inB x1 2 then
        bV (fX4_copyFrom M (76 + 3 * x1.toNatClampNeg) 19) fun M4 =>
          some ((sM M4 0 6 ((gM M4 0 6) ||| ((1 : Int32) <<< (x1 &&& 31)))), (gM (sM M4 0 6 ((gM M4 0 6) ||| ((1 : Int32) <<< (x1 &&& 31)))) 19 0))
      else none
    else
      some (M, (-1 : Int32))
/-! LastRower.last()I -/
def fX11_last (M : Mem)  : Option (Mem × Int32) :=
  bV (fX11_copyOfNow M) fun M1 =>
    bI (fX4_rowTillOver M1 82 (feB (gM M1 0 1)) (400 : Int32)) fun M2 r3 =>
      if r3 = (-9 : Int32) then
        some (M2, (-9 : Int32))
      else
        some (M2, (gM M2 82 2))
/-! LastRower$Ferry.everybody()I -/
def fX2_everybody (M : Mem) (n0 : Nat) : Option (Mem × Int32) :=
  some (M, (((1 : Int32) <<< ((gM M n0 0) &&& 31)) - (1 : Int32)))
/-! LastRower.mute(I)I -/
def sX11_mute_53  (M : Mem) (x3 : Int32) : Option (Mem × Int32) :=
  bI (fX2_everybody M (feB (gM M 0 1))) fun M6 r7 =>
    some (M6, (r7 &&& (x3 ^^^ (-1 : Int32))))
def sX11_mute_26  (rec26 : Mem → Int32 → Int32 → Int32 → Option (Mem × Int32)) (M : Mem) (x1 : Int32) (x3 : Int32) (x4 : Int32) : Option (Mem × Int32) :=
  if x1 ≤ x4 then
    sX11_mute_53 M x3
  else
    bV (fX4_row M 82 (feB (gM M 0 1))) fun M5 =>
      rec26 M5 x1 (x3 ||| (gM M5 82 2)) (x4 + 1)
def lX11_mute_26  (n : Nat) : Mem → Int32 → Int32 → Int32 → Option (Mem × Int32) := itr (sX11_mute_26 ) (fun _ _ _ _ => none) n
def fX11_mute (M : Mem) (x1 : Int32) : Option (Mem × Int32) :=
  if x1 < 0 then
    some (M, (-1 : Int32))
  else
    if x1 ≤ (200 : Int32) then
      bV (fX11_copyOfNow M) fun M3 =>
        lX11_mute_26 fuel M3 x1 (gM M3 82 2) (0 : Int32)
    else
      some (M, (-1 : Int32))
/-! LastRower.now(I)I -/
def fX11_now (M : Mem) (x1 : Int32) : Option (Mem × Int32) :=
  if x1 = 0 then
    some (M, (gM M 19 0))
  else if x1 = 1 then
    some (M, (gM M 19 1))
  else if x1 = 2 then
    some (M, (gM M 19 2))
  else if x1 = 3 then
    bI (fX2_pullOf M (feB (gM M 0 1)) (gM M 19 2)) fun M5 r6 =>
      some (M5, r6)
  else if x1 = 4 then
    bI (fX11_isOver M) fun M8 r9 =>
      if r9 = 0 then
        some (M8, (0 : Int32))
      else
        some (M8, (1 : Int32))
  else if x1 = 5 then
    bI (fX4_allWords M 19) fun M12 r13 =>
      some (M12, r13)
  else if x1 = 6 then
    some (M, (gM M 22 2))
  else
    some (M, (-1 : Int32))
/-! LastRower.powerOfTen(I)I -/
def sX11_powerOfTen_4  (rec4 : Mem → Int32 → Int32 → Int32 → Option (Mem × Int32)) (M : Mem) (x0 : Int32) (x1 : Int32) (x2 : Int32) : Option (Mem × Int32) :=
  if x0 ≤ x2 then
    some (M, x1)
  else
    rec4 M x0 (x1 * (10 : Int32)) (x2 + 1)
def lX11_powerOfTen_4  (n : Nat) : Mem → Int32 → Int32 → Int32 → Option (Mem × Int32) := itr (sX11_powerOfTen_4 ) (fun _ _ _ _ => none) n
def fX11_powerOfTen (M : Mem) (x0 : Int32) : Option (Mem × Int32) :=
  lX11_powerOfTen_4 fuel M x0 (1 : Int32) (0 : Int32)
/-! LastRower.waysOver(IIII)I -/
def eX11_waysOver (self : Mem → Int32 → Int32 → Int32 → Int32 → Option (Mem × Int32)) (M : Mem) (x1 : Int32) (x2 : Int32) (x3 : Int32) (x4 : Int32) : Option (Mem × Int32) :=
  if x3 < 0 then
    some (M, (0 : Int32))
  else
    if x3 < (7 : Int32) then
      if inB x3 7 then
        bI (fX2_isOver M (feB (gM M 0 1)) (gM M (82 + 3 * x3.toNatClampNeg) 1)) fun M4 r5 =>
          if r5 = 0 then
            if x4 ≤ 0 then
              some (M4, (0 : Int32))
            else
              if (x3 + (1 : Int32)) < (7 : Int32) then
                if inB (x3 + (1 : Int32)) 7 then
                  bV (fX4_copyFrom M4 (82 + 3 * (x3 + (1 : Int32)).toNatClampNeg) (82 + 3 * x3.toNatClampNeg)) fun M10 =>
                    bV (fX4_speak M10 (82 + 3 * (x3 + (1 : Int32)).toNatClampNeg) (feB (gM M10 0 1)) ((1 : Int32) <<< (x1 &&& 31))) fun M11 =>
                      bV (fX4_row M11 (82 + 3 * (x3 + (1 : Int32)).toNatClampNeg) (feB (gM M11 0 1))) fun M12 =>
                        bI (self M12 x1 x2 (x3 + (1 : Int32)) (x4 - (1 : Int32))) fun M13 r14 =>
                          bV (fX4_copyFrom M13 (82 + 3 * (x3 + (1 : Int32)).toNatClampNeg) (82 + 3 * x3.toNatClampNeg)) fun M15 =>
                            bV (fX4_row M15 (82 + 3 * (x3 + (1 : Int32)).toNatClampNeg) (feB (gM M15 0 1))) fun M16 =>
                              bI (self M16 x1 x2 (x3 + (1 : Int32)) (x4 - (1 : Int32))) fun M17 r18 =>
                                some (M17, ((x2 * r14) + (((10 : Int32) - x2) * r18)))
                else none
              else
                some (M4, (0 : Int32))
          else
            bI (fX11_powerOfTen M4 x4) fun M19 r20 =>
              some (M19, r20)
      else none
    else
      some (M, (0 : Int32))
def rX11_waysOver (n : Nat) : Mem → Int32 → Int32 → Int32 → Int32 → Option (Mem × Int32) := itr eX11_waysOver (fun _ _ _ _ _ => none) n
def fX11_waysOver (M : Mem) (x1 : Int32) (x2 : Int32) (x3 : Int32) (x4 : Int32) : Option (Mem × Int32) := rX11_waysOver 8 M x1 x2 x3 x4
/-! LastRower$Ferry.has(I)Z -/
def fX2_has (M : Mem) (n0 : Nat) (x1 : Int32) : Option (Mem × Int32) :=
  if x1 < 0 then
    some (M, (0 : Int32))
  else
    if (gM M n0 0) ≤ x1 then
      some (M, (0 : Int32))
    else
      if (6 : Int32) ≤ x1 then
        some (M, (0 : Int32))
      else
        some (M, (1 : Int32))
/-! LastRower.odds(IIII)I -/
def sX11_odds_86  (M : Mem) (x7 : Int32) (s0 : Int32) : Option (Mem × Int32) :=
  if ¬ (if x7 < (1 : Int32) then (1 : Int32) else x7) = 0 then
    some (M, (s0 / (if x7 < (1 : Int32) then (1 : Int32) else x7)))
  else none
def fX11_odds (M : Mem) (x1 : Int32) (x2 : Int32) (x3 : Int32) (x4 : Int32) : Option (Mem × Int32) :=
  bI (fX2_has M (feB (gM M 0 1)) x1) fun M1 r2 =>
    if r2 = 0 then
      some (M1, (-1 : Int32))
    else
      if x2 < 0 then
        some (M1, (-1 : Int32))
      else
        if (10 : Int32) < x2 then
          some (M1, (-1 : Int32))
        else
          if x3 < 0 then
            some (M1, (-1 : Int32))
          else
            if (6 : Int32) < x3 then
              some (M1, (-1 : Int32))
            else
              if x4 < 0 then
                some (M1, (-1 : Int32))
              else
                if x4 ≤ (1 : Int32) then
                  bV (fX11_copyOfNow M1) fun M10 =>
                    bI (fX11_waysOver M10 x1 x2 (0 : Int32) x3) fun M11 r12 =>
                      bI (fX11_powerOfTen M11 x3) fun M13 r14 =>
                        bI (fX11_greatestShared M13 r12 r14) fun M15 r16 =>
                          if x4 = 0 then
                            sX11_odds_86 M15 r16 r12
                          else
                            sX11_odds_86 M15 r16 r14
                else
                  some (M1, (-1 : Int32))
/-! LastRower$Moment.silenceOf(I)I -/
def fX4_silenceOf (M : Mem) (n0 : Nat) (x1 : Int32) : Option (Mem × Int32) :=
  if x1 < 0 then
    some (M, (0 : Int32))
  else
    if x1 < (6 : Int32) then
      if inB x1 6 then
        some (M, ((gM M n0 0) - (gM M (n0 + 1) x1.toNatClampNeg)))
      else none
    else
      some (M, (0 : Int32))
/-! LastRower.passenger(II)I -/
def fX11_passenger (M : Mem) (x1 : Int32) (x2 : Int32) : Option (Mem × Int32) :=
  bI (fX2_has M (feB (gM M 0 1)) x1) fun M1 r2 =>
    if r2 = 0 then
      some (M1, (-1 : Int32))
    else
      if x2 = 0 then
        if inB x1 6 then
          some (M1, (gM M1 ((feB (gM M1 0 1)) + 1) x1.toNatClampNeg))
        else none
      else if x2 = 1 then
        if inB x1 6 then
          some (M1, (gM M1 ((feB (gM M1 0 1)) + 2) x1.toNatClampNeg))
        else none
      else if x2 = 2 then
        if inB x1 6 then
          some (M1, (gM M1 ((feB (gM M1 0 1)) + 3) x1.toNatClampNeg))
        else none
      else if x2 = 3 then
        bI (fX4_silenceOf M1 19 x1) fun M11 r12 =>
          some (M11, r12)
      else if x2 = 4 then
        if inB x1 6 then
          some (M1, (gM M1 21 x1.toNatClampNeg))
        else none
      else if x2 = 5 then
        some (M1, (((gM M1 19 2) >>> (x1 &&& 31)) &&& (1 : Int32)))
      else
        some (M1, (-1 : Int32))
/-! LastRower.utter(I)V -/
def fX11_utter (M : Mem) (x1 : Int32) : Option (Mem) :=
  bV (fX8_add M 19) fun M1 =>
    bV (fX4_speak M1 19 (feB (gM M1 0 1)) x1) fun M2 =>
      some M2
/-! LastRower.pinches(I)I -/
def fX11_pinches (M : Mem) (x1 : Int32) : Option (Mem × Int32) :=
  bI (fX2_has M (feB (gM M 0 1)) x1) fun M1 r2 =>
    if r2 = 0 then
      some (M1, (-1 : Int32))
    else
      bI (fX11_isOver M1) fun M4 r5 =>
        if r5 = 0 then
          bV (fX11_utter M4 ((1 : Int32) <<< (x1 &&& 31))) fun M7 =>
            if inB x1 6 then
              some (M7, (gM M7 21 x1.toNatClampNeg))
            else none
        else
          some (M4, (-2 : Int32))
/-! LastRower$Planner.weigh(LLastRower$Ferry;I)V -/
def sX9_weigh_90 (rec60 : Mem → Int32 → Int32 → Option (Mem)) (M : Mem) (x2 : Int32) (x5 : Int32) (s1 : Int32) (s2 : Int32) : Option (Mem) :=
  if inB s1 3 then
    rec60 (sM M 61 s1.toNatClampNeg s2) x2 (x5 + 1)
  else none
def sX9_weigh_60  (rec60 : Mem → Int32 → Int32 → Option (Mem)) (M : Mem) (x2 : Int32) (x5 : Int32) : Option (Mem) :=
  if (3 : Int32) ≤ x5 then
    some M
  else
    if x2 ≤ x5 then
      sX9_weigh_90 rec60 M x2 x5 x5 (-5 : Int32)
    else
      if inB x5 3 then
        sX9_weigh_90 rec60 M x2 x5 x5 (gM M 60 x5.toNatClampNeg)
      else none
def lX9_weigh_60  (n : Nat) : Mem → Int32 → Int32 → Option (Mem) := itr (sX9_weigh_60 ) (fun _ _ _ => none) n
def fX9_weigh (M : Mem) (n1 : Nat) (x2 : Int32) : Option (Mem) :=
  if inB x2 4 then
    bI (fX4_rowTillOver M (62 + 3 * x2.toNatClampNeg) n1 (((gM M 58 5) - (1 : Int32)) - x2)) fun M2 r3 =>
      if r3 = (-9 : Int32) then
        some M2
      else
        bI (fX2_pullOf M2 n1 (gM M2 (62 + 3 * x2.toNatClampNeg) 2)) fun M5 r6 =>
          if (gM M5 58 4) ≤ (if (0 : Int32) < r6 then r6 else (0 : Int32)) then
            lX9_weigh_60 fuel (sM M5 58 5 (x2 + r3)) x2 (0 : Int32)
          else
            some M5
  else none
/-! LastRower$Planner.tryAll(LLastRower$Ferry;I)V -/
def sX9_tryAll_113 (rec55 : Mem → Nat → Int32 → Int32 → Option (Mem)) (self : Mem → Nat → Int32 → Option (Mem)) (M : Mem) (n1 : Nat) (x2 : Int32) (x3 : Int32) (n4 : Nat) : Option (Mem) :=
  bV (fX4_row M n4 n1) fun M18 =>
    bV (self M18 n1 (x2 + (1 : Int32))) fun M19 =>
      rec55 M19 n1 x2 (x3 + 1)
def sX9_tryAll_78 (rec55 : Mem → Nat → Int32 → Int32 → Option (Mem)) (self : Mem → Nat → Int32 → Option (Mem)) (M : Mem) (n1 : Nat) (x2 : Int32) (x3 : Int32) (s1 : Int32) (s2 : Int32) : Option (Mem) :=
  if inB s1 3 then
    if inB (x2 + (1 : Int32)) 4 then
      if inB x2 4 then
        bV (fX4_copyFrom (sM M 60 s1.toNatClampNeg s2) (62 + 3 * (x2 + (1 : Int32)).toNatClampNeg) (62 + 3 * x2.toNatClampNeg)) fun M15 =>
          if x3 < 0 then
            sX9_tryAll_113 rec55 self M15 n1 x2 x3 (62 + 3 * (x2 + (1 : Int32)).toNatClampNeg)
          else
            bV (fX4_speak M15 (62 + 3 * (x2 + (1 : Int32)).toNatClampNeg) n1 ((1 : Int32) <<< (x3 &&& 31))) fun M17 =>
              sX9_tryAll_113 rec55 self M17 n1 x2 x3 (62 + 3 * (x2 + (1 : Int32)).toNatClampNeg)
      else none
    else none
  else none
def sX9_tryAll_55  (self : Mem → Nat → Int32 → Option (Mem)) (rec55 : Mem → Nat → Int32 → Int32 → Option (Mem)) (M : Mem) (n1 : Nat) (x2 : Int32) (x3 : Int32) : Option (Mem) :=
  if (gM M n1 0) ≤ x3 then
    some M
  else
    if 0 ≤ x3 then
      sX9_tryAll_78 rec55 self M n1 x2 x3 x2 x3
    else
      sX9_tryAll_78 rec55 self M n1 x2 x3 x2 (-5 : Int32)
def lX9_tryAll_55  (self : Mem → Nat → Int32 → Option (Mem)) (n : Nat) : Mem → Nat → Int32 → Int32 → Option (Mem) := itr (sX9_tryAll_55  self) (fun _ _ _ _ => none) n
def sX9_tryAll_46  (self : Mem → Nat → Int32 → Option (Mem)) (M : Mem) (n1 : Nat) (x2 : Int32) : Option (Mem) :=
  bV (fX9_weigh M n1 x2) fun M9 =>
    some M9
def eX9_tryAll (self : Mem → Nat → Int32 → Option (Mem)) (M : Mem) (n1 : Nat) (x2 : Int32) : Option (Mem) :=
  if x2 < 0 then
    some M
  else
    if (gM M 58 3) < x2 then
      some M
    else
      if x2 < (4 : Int32) then
        if x2 = (gM M 58 3) then
          sX9_tryAll_46 self M n1 x2
        else
          if inB x2 4 then
            bI (fX2_isOver M n1 (gM M (62 + 3 * x2.toNatClampNeg) 1)) fun M6 r7 =>
              if r7 = 0 then
                lX9_tryAll_55 self fuel M6 n1 x2 (-1 : Int32)
              else
                sX9_tryAll_46 self M6 n1 x2
          else none
      else
        some M
def rX9_tryAll (n : Nat) : Mem → Nat → Int32 → Option (Mem) := itr eX9_tryAll (fun _ _ _ => none) n
def fX9_tryAll (M : Mem) (n1 : Nat) (x2 : Int32) : Option (Mem) := rX9_tryAll 5 M n1 x2
/-! LastRower$Planner.search(LLastRower$Ferry;LLastRower$Moment;II)V -/
def fX9_search (M : Mem) (n1 : Nat) (n2 : Nat) (x3 : Int32) (x4 : Int32) : Option (Mem) :=
  bV (fX4_copyFrom (sM (sM (sM M 58 3 (if (3 : Int32) < x3 then (3 : Int32) else x3)) 58 4 x4) 58 5 (401 : Int32)) 62 n2) fun M1 =>
    bV (fX9_tryAll M1 n1 (0 : Int32)) fun M2 =>
      some M2
/-! LastRower.plan(III)I -/
def fX11_plan (M : Mem) (x1 : Int32) (x2 : Int32) (x3 : Int32) : Option (Mem × Int32) :=
  if x1 < (1 : Int32) then
    some (M, (-1 : Int32))
  else
    if (3 : Int32) < x1 then
      some (M, (-1 : Int32))
    else
      if x2 < 0 then
        some (M, (-1 : Int32))
      else
        if (60 : Int32) < x2 then
          some (M, (-1 : Int32))
        else
          if x3 < (-1 : Int32) then
            some (M, (-1 : Int32))
          else
            if x3 < (3 : Int32) then
              if x3 < x1 then
                bV (fX9_search M (feB (gM M 0 1)) 19 x1 x2) fun M8 =>
                  if (gM M8 58 5) ≤ (400 : Int32) then
                    if 0 ≤ x3 then
                      if inB x3 3 then
                        some (M8, (gM M8 61 x3.toNatClampNeg))
                      else none
                    else
                      some (M8, (gM M8 58 5))
                  else
                    some (M8, (-9 : Int32))
              else
                some (M, (-9 : Int32))
            else
              some (M, (-1 : Int32))
/-! LastRower.quarrels(II)I -/
def fX11_quarrels (M : Mem) (x1 : Int32) (x2 : Int32) : Option (Mem × Int32) :=
  bI (fX2_has M (feB (gM M 0 1)) x1) fun M1 r2 =>
    if r2 = 0 then
      some (M1, (-1 : Int32))
    else
      bI (fX2_has M1 (feB (gM M1 0 1)) x2) fun M4 r5 =>
        if r5 = 0 then
          some (M4, (-1 : Int32))
        else
          if x1 = x2 then
            some (M4, (-1 : Int32))
          else
            bI (fX11_isOver M4) fun M8 r9 =>
              if r9 = 0 then
                bV (fX11_utter M8 (((1 : Int32) <<< (x1 &&& 31)) ||| ((1 : Int32) <<< (x2 &&& 31)))) fun M11 =>
                  bI (fX2_pullOf M11 (feB (gM M11 0 1)) (gM M11 19 2)) fun M12 r13 =>
                    some (M12, r13)
              else
                some (M8, (-2 : Int32))
/-! LastRower$Passenger.worth(LLastRower$Ferry;LLastRower$Moment;I[J)I -/
def fX7_worth (M : Mem) (n1 : Nat) (n2 : Nat) (x3 : Int32) : Option (Mem × Int32) :=
  if inB x3 6 then
    some ((sL M 75 ((gL M 75) + (1 : Int64))), (gM (sL M 75 ((gL M 75) + (1 : Int64))) (n1 + 1) x3.toNatClampNeg))
  else none
/-! LastRower$Child.worth(LLastRower$Ferry;LLastRower$Moment;I[J)I -/
def fX0_worth (M : Mem) (n1 : Nat) (n2 : Nat) (x3 : Int32) : Option (Mem × Int32) :=
  bI (fX7_worth (sL M 75 ((gL M 75) + (100000 : Int64))) n1 n2 x3) fun M1 r2 =>
    if inB x3 6 then
      some (M1, (r2 + (gM M1 (n2 + 2) x3.toNatClampNeg)))
    else none
/-! LastRower$Dog.worth(LLastRower$Ferry;LLastRower$Moment;I[J)I -/
def fX1_worth (M : Mem) (n1 : Nat) (n2 : Nat) (x3 : Int32) : Option (Mem × Int32) :=
  bI (fX7_worth (sL M 75 ((gL M 75) + (100 : Int64))) n1 n2 x3) fun M1 r2 =>
    if inB x3 6 then
      some (M1, (r2 - (gM M1 (n1 + 2) x3.toNatClampNeg)))
    else none
/-! LastRower$Nun.worth(LLastRower$Ferry;LLastRower$Moment;I[J)I -/
def fX5_worth (M : Mem) (n1 : Nat) (n2 : Nat) (x3 : Int32) : Option (Mem × Int32) :=
  bI (fX7_worth (sL M 75 ((gL M 75) + (10 : Int64))) n1 n2 x3) fun M1 r2 =>
    bI (fX4_silenceOf M1 n2 x3) fun M3 r4 =>
      some (M3, (r2 + r4))
/-! LastRower$Lover.worth(LLastRower$Ferry;LLastRower$Moment;I[J)I -/
def fX3_worth (M : Mem) (n1 : Nat) (n2 : Nat) (x3 : Int32) : Option (Mem × Int32) :=
  bI (fX5_worth (sL M 75 ((gL M 75) + (1000 : Int64))) n1 n2 x3) fun M1 r2 =>
    some (M1, ((2 : Int32) * r2))
/-! LastRower$Parrot.worth(LLastRower$Ferry;LLastRower$Moment;I[J)I -/
def fX6_worth (M : Mem) (n1 : Nat) (n2 : Nat) (x3 : Int32) : Option (Mem × Int32) :=
  bI (fX1_worth (sL M 75 ((gL M 75) + (10000 : Int64))) n1 n2 x3) fun M1 r2 =>
    some (M1, (r2 + x3))
/-! LastRower.rate(II)I -/
def fworth (x : Int32) (M : Mem) (f b : Nat) (p : Int32) : Option (Mem × Int32) :=
  if x = 0 then fX7_worth M f b p else if x = 1 then fX5_worth M f b p else if x = 2 then fX1_worth M f b p else if x = 3 then fX3_worth M f b p else if x = 4 then fX6_worth M f b p else if x = 5 then fX0_worth M f b p else none
def fX11_rate (M : Mem) (x1 : Int32) (x2 : Int32) : Option (Mem × Int32) :=
  if x1 < 0 then
    some (M, (-1000000 : Int32))
  else
    if (6 : Int32) ≤ x1 then
      some (M, (-1000000 : Int32))
    else
      bI (fX2_has M (feB (gM M 0 1)) x2) fun M3 r4 =>
        if r4 = 0 then
          some (M3, (-1000000 : Int32))
        else
          if inB x1 6 then
            bI (fworth x1 M3 (feB (gM M3 0 1)) 19 x2) fun M7 r8 =>
              some (M7, r8)
          else none
/-! LastRower$Moment.soundsLike(LLastRower$Ferry;LLastRower$Moment;)Z -/
def sX4_soundsLike_20  (rec20 : Mem → Nat → Nat → Nat → Int32 → Int32 → Option (Mem × Int32)) (M : Mem) (n0 : Nat) (n1 : Nat) (n2 : Nat) (x3 : Int32) (x4 : Int32) : Option (Mem × Int32) :=
  if (gM M n1 0) ≤ x4 then
    if x3 = 0 ∨ x3 = 1 then some (M, x3) else none
  else
    if x3 = 0 then
      if x3 = 0 ∨ x3 = 1 then some (M, x3) else none
    else
      bI (fX4_silenceOf M n0 x4) fun M4 r5 =>
        bI (fX4_silenceOf M4 n2 x4) fun M6 r7 =>
          if r5 = r7 then
            rec20 M6 n0 n1 n2 (1 : Int32) (x4 + 1)
          else
            rec20 M6 n0 n1 n2 (0 : Int32) (x4 + 1)
def lX4_soundsLike_20  (n : Nat) : Mem → Nat → Nat → Nat → Int32 → Int32 → Option (Mem × Int32) := itr (sX4_soundsLike_20 ) (fun _ _ _ _ _ _ => none) n
def fX4_soundsLike (M : Mem) (n0 : Nat) (n1 : Nat) (n2 : Nat) : Option (Mem × Int32) :=
  if (gM M n0 2) = (gM M n2 2) then
    lX4_soundsLike_20 fuel M n0 n1 n2 (1 : Int32) (0 : Int32)
  else
    lX4_soundsLike_20 fuel M n0 n1 n2 (0 : Int32) (0 : Int32)
/-! LastRower.ring()I -/
def sX11_ring_7  (rec7 : Mem → Int32 → Option (Mem × Int32)) (M : Mem) (x2 : Int32) : Option (Mem × Int32) :=
  if (400 : Int32) < x2 then
    some (M, (-9 : Int32))
  else
    bV (fX4_passTime M 82 (feB (gM M 0 1))) fun M3 =>
      bI (fX4_soundsLike M3 82 (feB (gM M3 0 1)) 19) fun M4 r5 =>
        if r5 = 0 then
          rec7 M4 (x2 + 1)
        else
          some (M4, x2)
def lX11_ring_7  (n : Nat) : Mem → Int32 → Option (Mem × Int32) := itr (sX11_ring_7 ) (fun _ _ => none) n
def fX11_ring (M : Mem)  : Option (Mem × Int32) :=
  bV (fX11_copyOfNow M) fun M1 =>
    lX11_ring_7 fuel M1 (1 : Int32)
/-! LastRower.seen(II)I -/
def fX11_seen (M : Mem) (x1 : Int32) (x2 : Int32) : Option (Mem × Int32) :=
  if x1 < 0 then
    some (M, (-1 : Int32))
  else
    if (60 : Int32) < x1 then
      some (M, (-1 : Int32))
    else
      if x2 < 0 then
        some (M, (-1 : Int32))
      else
        bI (fX2_everybody M (feB (gM M 0 1))) fun M4 r5 =>
          if x2 ≤ r5 then
            if (gM M4 0 9) < (5 : Int32) then
              if inB (gM M4 0 9) 5 then
                if inB (gM (sM M4 55 (gM M4 0 9).toNatClampNeg x1) 0 9) 5 then
                  some ((sM (sM (sM M4 55 (gM M4 0 9).toNatClampNeg x1) 56 (gM (sM M4 55 (gM M4 0 9).toNatClampNeg x1) 0 9).toNatClampNeg x2) 0 9 ((gM (sM (sM M4 55 (gM M4 0 9).toNatClampNeg x1) 56 (gM (sM M4 55 (gM M4 0 9).toNatClampNeg x1) 0 9).toNatClampNeg x2) 0 9) + (1 : Int32))), (gM (sM (sM (sM M4 55 (gM M4 0 9).toNatClampNeg x1) 56 (gM (sM M4 55 (gM M4 0 9).toNatClampNeg x1) 0 9).toNatClampNeg x2) 0 9 ((gM (sM (sM M4 55 (gM M4 0 9).toNatClampNeg x1) 56 (gM (sM M4 55 (gM M4 0 9).toNatClampNeg x1) 0 9).toNatClampNeg x2) 0 9) + (1 : Int32))) 0 9))
                else none
              else none
            else
              some (M4, (-3 : Int32))
          else
            some (M4, (-1 : Int32))
/-! LastRower$Ferry.singersOf(I)I -/
def sX2_singersOf_4  (rec4 : Mem → Nat → Int32 → Int32 → Int32 → Option (Mem × Int32)) (M : Mem) (n0 : Nat) (x1 : Int32) (x2 : Int32) (x3 : Int32) : Option (Mem × Int32) :=
  if (gM M n0 0) ≤ x3 then
    some (M, x2)
  else
    if (6 : Int32) ≤ x3 then
      some (M, x2)
    else
      if inB x3 6 then
        if (gM M (n0 + 3) x3.toNatClampNeg) = x1 then
          rec4 M n0 x1 (x2 ||| ((1 : Int32) <<< (x3 &&& 31))) (x3 + 1)
        else
          rec4 M n0 x1 x2 (x3 + 1)
      else none
def lX2_singersOf_4  (n : Nat) : Mem → Nat → Int32 → Int32 → Int32 → Option (Mem × Int32) := itr (sX2_singersOf_4 ) (fun _ _ _ _ _ => none) n
def fX2_singersOf (M : Mem) (n0 : Nat) (x1 : Int32) : Option (Mem × Int32) :=
  lX2_singersOf_4 fuel M n0 x1 (0 : Int32) (0 : Int32)
/-! LastRower.sings(I)I -/
def fX11_sings (M : Mem) (x1 : Int32) : Option (Mem × Int32) :=
  if x1 < (1 : Int32) then
    some (M, (-1 : Int32))
  else
    if x1 ≤ (3 : Int32) then
      bI (fX2_singersOf M (feB (gM M 0 1)) x1) fun M3 r4 =>
        bI (fX11_isOver M3) fun M5 r6 =>
          if r6 = 0 then
            if r4 = 0 then
              some (M5, (-2 : Int32))
            else
              bV (fX11_utter M5 r4) fun M9 =>
                bI (fX2_pullOf M9 (feB (gM M9 0 1)) (gM M9 19 2)) fun M10 r11 =>
                  some (M10, r11)
          else
            some (M5, (-2 : Int32))
    else
      some (M, (-1 : Int32))
/-! LastRower.trace()J -/
def fX11_trace (M : Mem)  : Option (Mem × Int64) :=
  some (M, (gL M 75))
/-! LastRower$Reader.append(I)Z -/
def fX10_append (M : Mem) (x1 : Int32) : Option (Mem × Int32) :=
  if (gM M 1 1) < (200 : Int32) then
    if inB (gM M 1 1) 200 then
      some ((sM (sM M 2 (gM M 1 1).toNatClampNeg x1) 1 1 ((gM (sM M 2 (gM M 1 1).toNatClampNeg x1) 1 1) + (1 : Int32))), (1 : Int32))
    else none
  else
    some (M, (0 : Int32))
/-! LastRower.type(I)I -/
def fX11_type (M : Mem) (x1 : Int32) : Option (Mem × Int32) :=
  if x1 < 0 then
    some (M, (-1 : Int32))
  else
    if x1 ≤ (255 : Int32) then
      bI (fX10_append M x1) fun M3 r4 =>
        if r4 = 0 then
          some (M3, (-3 : Int32))
        else
          some (M3, (gM M3 1 1))
    else
      some (M, (-1 : Int32))
/-! LastRower$Past.restore(LLastRower$Moment;)Z -/
def fX8_restore (M : Mem) (n1 : Nat) : Option (Mem × Int32) :=
  if 0 < (gM M 22 2) then
    if inB (gM M 22 1) 10 then
      bV (fX4_copyFrom M n1 (24 + 3 * (gM M 22 1).toNatClampNeg)) fun M3 =>
        some ((sM (sM M3 22 1 ((((gM M3 22 1) + (10 : Int32)) - (1 : Int32)) - (((gM M3 22 1) + (10 : Int32)) - (1 : Int32)) / (10 : Int32) * (10 : Int32))) 22 2 ((gM (sM M3 22 1 ((((gM M3 22 1) + (10 : Int32)) - (1 : Int32)) - (((gM M3 22 1) + (10 : Int32)) - (1 : Int32)) / (10 : Int32) * (10 : Int32))) 22 2) - (1 : Int32))), (1 : Int32))
    else none
  else
    some (M, (0 : Int32))
/-! LastRower.undo()I -/
def fX11_undo (M : Mem)  : Option (Mem × Int32) :=
  bI (fX8_restore M 19) fun M1 r2 =>
    if r2 = 0 then
      some (M1, (-2 : Int32))
    else
      some (M1, (gM M1 22 2))
/-! LastRower.who()I -/
def sX11_who_25  (rec25 : Mem → Int32 → Int32 → Int32 → Option (Mem × Int32)) (M : Mem) (x1 : Int32) (x2 : Int32) (x3 : Int32) : Option (Mem × Int32) :=
  if x2 ≤ x3 then
    some (M, x1)
  else
    bV (fX11_copyWherePinched M x3) fun M8 =>
      bI (fX11_agreesWithSeen M8 82) fun M9 r10 =>
        if r10 = 0 then
          rec25 M9 x1 x2 (x3 + 1)
        else
          rec25 M9 (x1 ||| ((1 : Int32) <<< (x3 &&& 31))) x2 (x3 + 1)
def lX11_who_25  (n : Nat) : Mem → Int32 → Int32 → Int32 → Option (Mem × Int32) := itr (sX11_who_25 ) (fun _ _ _ _ => none) n
def sX11_who_17  (M : Mem) (s0 : Int32) : Option (Mem × Int32) :=
  bI (fX11_countPinchable M) fun M5 r6 =>
    lX11_who_25 fuel M5 s0 r6 (0 : Int32)
def fX11_who (M : Mem)  : Option (Mem × Int32) :=
  bV (fX11_copyOfNow M) fun M1 =>
    bI (fX11_agreesWithSeen M1 82) fun M2 r3 =>
      if r3 = 0 then
        sX11_who_17 M2 (0 : Int32)
      else
        sX11_who_17 M2 (64 : Int32)
/-! LastRowerModel.in(III)Z -/
def fX12_in (M : Mem) (x0 : Int32) (x1 : Int32) (x2 : Int32) : Option (Mem × Int32) :=
  if x0 < x1 then
    some (M, (0 : Int32))
  else
    if x2 < x0 then
      some (M, (0 : Int32))
    else
      some (M, (1 : Int32))
/-! LastRowerModel.letterAt(I)I -/
def fX12_letterAt (M : Mem) (x1 : Int32) : Option (Mem × Int32) :=
  if (gM M 109 3) ≤ x1 then
    some (M, (-1 : Int32))
  else
    if inB x1 200 then
      some (M, (gM M 110 x1.toNatClampNeg))
    else none
/-! LastRowerModel.advances()V -/
def sX12_advances_232  (M : Mem) (s1 : Int32) : Option (Mem) :=
  some (sM M 109 5 s1)
def sX12_advances_177  (M : Mem) (s1 : Int32) : Option (Mem) :=
  some (sM M 109 5 s1)
def sX12_advances_176  (M : Mem)  : Option (Mem) :=
  sX12_advances_177 M (2 : Int32)
def sX12_advances_142  (M : Mem) (x1 : Int32) : Option (Mem) :=
  if (200 : Int32) < (gM M 109 7) then
    sX12_advances_177 M (4 : Int32)
  else
    if x1 = (48 : Int32) then
      if ((gM M 109 4) - (gM M 109 6)) ≤ (1 : Int32) then
        sX12_advances_176 M
      else
        sX12_advances_177 M (4 : Int32)
    else
      sX12_advances_176 M
def sX12_advances_126 (rec71 : Mem → Int32 → Option (Mem)) (M : Mem) (x1 : Int32) (s1 : Int32) : Option (Mem) :=
  rec71 (sM (sM M 109 7 s1) 109 4 ((gM (sM M 109 7 s1) 109 4) + (1 : Int32))) x1
def sX12_advances_71  (rec71 : Mem → Int32 → Option (Mem)) (M : Mem) (x1 : Int32) : Option (Mem) :=
  bI (fX12_letterAt M (gM M 109 4)) fun M14 r15 =>
    bI (fX12_in M14 r15 (48 : Int32) (57 : Int32)) fun M16 r17 =>
      if r17 = 0 then
        sX12_advances_142 M16 x1
      else
        if (gM M16 109 7) ≤ (200 : Int32) then
          bI (fX12_letterAt M16 (gM M16 109 4)) fun M20 r21 =>
            sX12_advances_126 rec71 M20 x1 ((((10 : Int32) * (gM M16 109 7)) + r21) - (48 : Int32))
        else
          sX12_advances_126 rec71 M16 x1 (gM M16 109 7)
def lX12_advances_71  (n : Nat) : Mem → Int32 → Option (Mem) := itr (sX12_advances_71 ) (fun _ _ => none) n
def sX12_advances_26  (M : Mem)  : Option (Mem) :=
  bI (fX12_letterAt (sM M 109 6 (gM M 109 4)) (gM (sM M 109 6 (gM M 109 4)) 109 4)) fun M4 r5 =>
    if 0 ≤ r5 then
      bI (fX12_in M4 r5 (48 : Int32) (57 : Int32)) fun M7 r8 =>
        if r8 = 0 then
          if r5 = (59 : Int32) then
            sX12_advances_232 (sM (sM M7 109 4 ((gM M7 109 4) + (1 : Int32))) 109 7 r5) (3 : Int32)
          else
            if r5 = (112 : Int32) then
              sX12_advances_232 (sM (sM M7 109 4 ((gM M7 109 4) + (1 : Int32))) 109 7 r5) (1 : Int32)
            else
              if r5 = (99 : Int32) then
                sX12_advances_232 (sM (sM M7 109 4 ((gM M7 109 4) + (1 : Int32))) 109 7 r5) (1 : Int32)
              else
                if r5 = (119 : Int32) then
                  sX12_advances_232 (sM (sM M7 109 4 ((gM M7 109 4) + (1 : Int32))) 109 7 r5) (1 : Int32)
                else
                  sX12_advances_232 (sM (sM M7 109 4 ((gM M7 109 4) + (1 : Int32))) 109 7 r5) (4 : Int32)
        else
          lX12_advances_71 fuel (sM M7 109 7 (0 : Int32)) r5
    else
      some (sM M4 109 5 (0 : Int32))
def sX12_advances_0  (rec0 : Mem → Option (Mem)) (M : Mem)  : Option (Mem) :=
  bI (fX12_letterAt M (gM M 109 4)) fun M1 r2 =>
    if r2 = (32 : Int32) then
      rec0 (sM M1 109 4 ((gM M1 109 4) + (1 : Int32)))
    else
      sX12_advances_26 M1
def lX12_advances_0  (n : Nat) : Mem → Option (Mem) := itr (sX12_advances_0 ) (fun _ => none) n
def fX12_advances (M : Mem)  : Option (Mem) :=
  lX12_advances_0 fuel M
/-! LastRowerModel.asNow()V -/
def sX12_asNow_2  (rec2 : Mem → Int32 → Option (Mem)) (M : Mem) (x1 : Int32) : Option (Mem) :=
  if (15 : Int32) ≤ x1 then
    some M
  else
    if inB x1 15 then
      rec2 (sM M 118 x1.toNatClampNeg (gM M 117 x1.toNatClampNeg)) (x1 + 1)
    else none
def lX12_asNow_2  (n : Nat) : Mem → Int32 → Option (Mem) := itr (sX12_asNow_2 ) (fun _ _ => none) n
def fX12_asNow (M : Mem)  : Option (Mem) :=
  lX12_asNow_2 fuel M (0 : Int32)
/-! LastRowerModel.back(I)I -/
def sX12_back_59  (M : Mem)  : Option (Mem × Int32) :=
  some ((sM M 109 21 (0 : Int32)), (gM (sM M 109 21 (0 : Int32)) 117 0))
def sX12_back_30  (rec30 : Mem → Int32 → Int32 → Option (Mem × Int32)) (M : Mem) (x1 : Int32) (x2 : Int32) : Option (Mem × Int32) :=
  if (15 : Int32) ≤ x2 then
    sX12_back_59 M
  else
    if inB (((15 : Int32) * x1) + x2) 30 then
      if inB x2 15 then
        rec30 (sM M 117 x2.toNatClampNeg (gM M 119 (((15 : Int32) * x1) + x2).toNatClampNeg)) x1 (x2 + 1)
      else none
    else none
def lX12_back_30  (n : Nat) : Mem → Int32 → Int32 → Option (Mem × Int32) := itr (sX12_back_30 ) (fun _ _ _ => none) n
def fX12_back (M : Mem) (x1 : Int32) : Option (Mem × Int32) :=
  bI (fX12_in (sM M 109 0 (0 : Int32)) x1 (0 : Int32) (1 : Int32)) fun M1 r2 =>
    if r2 = 0 then
      some (M1, (-1 : Int32))
    else
      if inB x1 2 then
        if (gM M1 120 x1.toNatClampNeg) = 0 then
          some (M1, (-2 : Int32))
        else
          lX12_back_30 fuel M1 x1 (0 : Int32)
      else none
/-! LastRowerModel.flowAt(I)I -/
def sX12_flowAt_8  (rec8 : Mem → Int32 → Int32 → Int32 → Int32 → Option (Mem × Int32)) (M : Mem) (x1 : Int32) (x2 : Int32) (x3 : Int32) (x4 : Int32) : Option (Mem × Int32) :=
  if (gM M 111 2) ≤ x4 then
    some (M, x3)
  else
    if inB x4 8 then
      if x1 < (gM M 115 x4.toNatClampNeg) then
        rec8 M x1 x2 x3 (x4 + 1)
      else
        if (gM M 115 x4.toNatClampNeg) ≤ x2 then
          rec8 M x1 x2 x3 (x4 + 1)
        else
          rec8 M x1 (gM M 115 x4.toNatClampNeg) (gM M 116 x4.toNatClampNeg) (x4 + 1)
    else none
def lX12_flowAt_8  (n : Nat) : Mem → Int32 → Int32 → Int32 → Int32 → Option (Mem × Int32) := itr (sX12_flowAt_8 ) (fun _ _ _ _ _ => none) n
def fX12_flowAt (M : Mem) (x1 : Int32) : Option (Mem × Int32) :=
  lX12_flowAt_8 fuel M x1 (-9 : Int32) (0 : Int32) (0 : Int32)
/-! LastRowerModel.speak([II)V -/
def sX12_speak_38 (rec6 : Mem → Nat → Int32 → Int32 → Option (Mem)) (M : Mem) (n1 : Nat) (x2 : Int32) (x3 : Int32) (ns0 : Nat) (s1 : Int32) (s2 : Int32) : Option (Mem) :=
  if inB s1 15 then
    if inB ((9 : Int32) + x3) 15 then
      rec6 (sM (sM M ns0 s1.toNatClampNeg s2) n1 ((9 : Int32) + x3).toNatClampNeg ((gM (sM M ns0 s1.toNatClampNeg s2) n1 ((9 : Int32) + x3).toNatClampNeg) + ((x2 >>> (x3 &&& 31)) &&& (1 : Int32)))) n1 x2 (x3 + 1)
    else none
  else none
def sX12_speak_6  (rec6 : Mem → Nat → Int32 → Int32 → Option (Mem)) (M : Mem) (n1 : Nat) (x2 : Int32) (x3 : Int32) : Option (Mem) :=
  if (gM M 111 0) ≤ x3 then
    some M
  else
    if ((x2 >>> (x3 &&& 31)) &&& (1 : Int32)) = (1 : Int32) then
      sX12_speak_38 rec6 M n1 x2 x3 n1 ((3 : Int32) + x3) (0 : Int32)
    else
      if inB ((3 : Int32) + x3) 15 then
        sX12_speak_38 rec6 M n1 x2 x3 n1 ((3 : Int32) + x3) (gM M n1 ((3 : Int32) + x3).toNatClampNeg)
      else none
def lX12_speak_6  (n : Nat) : Mem → Nat → Int32 → Int32 → Option (Mem) := itr (sX12_speak_6 ) (fun _ _ _ _ => none) n
def fX12_speak (M : Mem) (n1 : Nat) (x2 : Int32) : Option (Mem) :=
  lX12_speak_6 fuel (sM M n1 2 x2) n1 x2 (0 : Int32)
/-! LastRowerModel.hushes([I)V -/
def sX12_hushes_53  (M : Mem) (n1 : Nat) (x2 : Int32) : Option (Mem) :=
  if x2 = 0 then
    some M
  else
    bV (fX12_speak M n1 x2) fun M6 =>
      some M6
def sX12_hushes_45 (rec4 : Mem → Nat → Int32 → Int32 → Option (Mem)) (M : Mem) (n1 : Nat) (x3 : Int32) (s0 : Int32) (s1 : Int32) : Option (Mem) :=
  rec4 M n1 (s0 ||| s1) (x3 + 1)
def sX12_hushes_4  (rec4 : Mem → Nat → Int32 → Int32 → Option (Mem)) (M : Mem) (n1 : Nat) (x2 : Int32) (x3 : Int32) : Option (Mem) :=
  if (gM M 111 0) ≤ x3 then
    sX12_hushes_53 M n1 x2
  else
    if inB ((3 : Int32) + x3) 15 then
      if inB x3 12 then
        if (gM (sM M n1 ((3 : Int32) + x3).toNatClampNeg ((gM M n1 ((3 : Int32) + x3).toNatClampNeg) + (1 : Int32))) n1 ((3 : Int32) + x3).toNatClampNeg) = (gM (sM M n1 ((3 : Int32) + x3).toNatClampNeg ((gM M n1 ((3 : Int32) + x3).toNatClampNeg) + (1 : Int32))) 113 x3.toNatClampNeg) then
          sX12_hushes_45 rec4 (sM M n1 ((3 : Int32) + x3).toNatClampNeg ((gM M n1 ((3 : Int32) + x3).toNatClampNeg) + (1 : Int32))) n1 x3 x2 ((1 : Int32) <<< (x3 &&& 31))
        else
          sX12_hushes_45 rec4 (sM M n1 ((3 : Int32) + x3).toNatClampNeg ((gM M n1 ((3 : Int32) + x3).toNatClampNeg) + (1 : Int32))) n1 x3 x2 (0 : Int32)
      else none
    else none
def lX12_hushes_4  (n : Nat) : Mem → Nat → Int32 → Int32 → Option (Mem) := itr (sX12_hushes_4 ) (fun _ _ _ _ => none) n
def fX12_hushes (M : Mem) (n1 : Nat) : Option (Mem) :=
  lX12_hushes_4 fuel M n1 (0 : Int32) (0 : Int32)
/-! LastRowerModel.isOver([I)Z -/
def fX12_isOver (M : Mem) (n1 : Nat) : Option (Mem × Int32) :=
  if (gM M n1 1) < (gM M 111 1) then
    some (M, (0 : Int32))
  else
    some (M, (1 : Int32))
/-! LastRowerModel.pullOf(I)I -/
def sX12_pullOf_104  (M : Mem) (x2 : Int32) (x3 : Int32) (x5 : Int32) : Option (Mem × Int32) :=
  if x2 < (2 : Int32) then
    some (M, x3)
  else
    if x5 = 0 then
      some (M, (-9 : Int32))
    else
      some (M, x3)
def sX12_pullOf_87 (rec14 : Mem → Int32 → Int32 → Int32 → Int32 → Int32 → Int32 → Option (Mem × Int32)) (M : Mem) (x1 : Int32) (x2 : Int32) (x3 : Int32) (x6 : Int32) (s0 : Int32) : Option (Mem × Int32) :=
  if inB x6 12 then
    rec14 M x1 x2 x3 (gM M 114 x6.toNatClampNeg) s0 (x6 + 1)
  else none
def sX12_pullOf_86 (rec14 : Mem → Int32 → Int32 → Int32 → Int32 → Int32 → Int32 → Option (Mem × Int32)) (M : Mem) (x1 : Int32) (x2 : Int32) (x3 : Int32) (x6 : Int32) : Option (Mem × Int32) :=
  sX12_pullOf_87 rec14 M x1 x2 x3 x6 (0 : Int32)
def sX12_pullOf_14  (rec14 : Mem → Int32 → Int32 → Int32 → Int32 → Int32 → Int32 → Option (Mem × Int32)) (M : Mem) (x1 : Int32) (x2 : Int32) (x3 : Int32) (x4 : Int32) (x5 : Int32) (x6 : Int32) : Option (Mem × Int32) :=
  if (gM M 111 0) ≤ x6 then
    sX12_pullOf_104 M x2 x3 x5
  else
    if ((x1 >>> (x6 &&& 31)) &&& (1 : Int32)) = (1 : Int32) then
      if inB x6 12 then
        if x5 = 0 then
          sX12_pullOf_86 rec14 M x1 (x2 + 1) (x3 + (gM M 112 x6.toNatClampNeg)) x6
        else
          if (gM M 114 x6.toNatClampNeg) ≤ 0 then
            sX12_pullOf_86 rec14 M x1 (x2 + 1) (x3 + (gM M 112 x6.toNatClampNeg)) x6
          else
            if x4 = (-9 : Int32) then
              sX12_pullOf_87 rec14 M x1 (x2 + 1) (x3 + (gM M 112 x6.toNatClampNeg)) x6 (1 : Int32)
            else
              if (gM M 114 x6.toNatClampNeg) = x4 then
                sX12_pullOf_87 rec14 M x1 (x2 + 1) (x3 + (gM M 112 x6.toNatClampNeg)) x6 (1 : Int32)
              else
                sX12_pullOf_86 rec14 M x1 (x2 + 1) (x3 + (gM M 112 x6.toNatClampNeg)) x6
      else none
    else
      rec14 M x1 x2 x3 x4 x5 (x6 + 1)
def lX12_pullOf_14  (n : Nat) : Mem → Int32 → Int32 → Int32 → Int32 → Int32 → Int32 → Option (Mem × Int32) := itr (sX12_pullOf_14 ) (fun _ _ _ _ _ _ _ => none) n
def fX12_pullOf (M : Mem) (x1 : Int32) : Option (Mem × Int32) :=
  lX12_pullOf_14 fuel M x1 (0 : Int32) (0 : Int32) (-9 : Int32) (1 : Int32) (0 : Int32)
/-! LastRowerModel.goes([I)V -/
def sX12_goes_53  (M : Mem) (n1 : Nat) (ns0 : Nat) (s1 : Int32) (s2 : Int32) : Option (Mem) :=
  if inB s1 15 then
    bV (fX12_hushes (sM (sM M ns0 s1.toNatClampNeg s2) n1 0 ((gM (sM M ns0 s1.toNatClampNeg s2) n1 0) + (1 : Int32))) n1) fun M11 =>
      some M11
  else none
def sX12_goes_41  (M : Mem) (n1 : Nat) (s0 : Int32) : Option (Mem) :=
  if 0 ≤ s0 then
    sX12_goes_53 M n1 n1 (1 : Int32) s0
  else
    sX12_goes_53 M n1 n1 (1 : Int32) (0 : Int32)
def fX12_goes (M : Mem) (n1 : Nat) : Option (Mem) :=
  bI (fX12_isOver M n1) fun M1 r2 =>
    if r2 = 0 then
      bI (fX12_pullOf M1 (gM M1 n1 2)) fun M4 r5 =>
        if r5 = (-9 : Int32) then
          sX12_goes_41 M4 n1 (gM M4 n1 1)
        else
          bI (fX12_flowAt M4 (gM M4 n1 1)) fun M7 r8 =>
            sX12_goes_41 M7 n1 (((gM M4 n1 1) + r5) - r8)
    else
      some M1
/-! LastRowerModel.notes()V -/
def sX12_notes_79  (M : Mem)  : Option (Mem) :=
  some (sM M 109 21 ((gM M 109 21) + (1 : Int32)))
def sX12_notes_47  (rec47 : Mem → Int32 → Option (Mem)) (M : Mem) (x1 : Int32) : Option (Mem) :=
  if (15 : Int32) ≤ x1 then
    sX12_notes_79 M
  else
    if inB x1 15 then
      if inB (((15 : Int32) * (gM M 109 21)) + x1) 150 then
        rec47 (sM M 121 (((15 : Int32) * (gM M 109 21)) + x1).toNatClampNeg (gM M 117 x1.toNatClampNeg)) (x1 + 1)
      else none
    else none
def lX12_notes_47  (n : Nat) : Mem → Int32 → Option (Mem) := itr (sX12_notes_47 ) (fun _ _ => none) n
def sX12_notes_39  (M : Mem)  : Option (Mem) :=
  lX12_notes_47 fuel (sM M 109 21 (9 : Int32)) (0 : Int32)
def sX12_notes_11  (rec11 : Mem → Int32 → Option (Mem)) (M : Mem) (x1 : Int32) : Option (Mem) :=
  if (135 : Int32) ≤ x1 then
    sX12_notes_39 M
  else
    if inB (x1 + (15 : Int32)) 150 then
      if inB x1 150 then
        rec11 (sM M 121 x1.toNatClampNeg (gM M 121 (x1 + (15 : Int32)).toNatClampNeg)) (x1 + 1)
      else none
    else none
def lX12_notes_11  (n : Nat) : Mem → Int32 → Option (Mem) := itr (sX12_notes_11 ) (fun _ _ => none) n
def fX12_notes (M : Mem)  : Option (Mem) :=
  if (gM M 109 21) = (10 : Int32) then
    lX12_notes_11 fuel M (0 : Int32)
  else
    lX12_notes_47 fuel M (0 : Int32)
/-! LastRowerModel.beat()I -/
def fX12_beat (M : Mem)  : Option (Mem × Int32) :=
  bI (fX12_isOver (sM M 109 0 (0 : Int32)) 117) fun M1 r2 =>
    if r2 = 0 then
      if (gM M1 117 0) = (9999 : Int32) then
        some (M1, (-2 : Int32))
      else
        bV (fX12_notes M1) fun M5 =>
          bV (fX12_goes M5 117) fun M6 =>
            some (M6, (gM M6 117 1))
    else
      some (M1, (-2 : Int32))
/-! LastRowerModel.endsBehind(I)I -/
def sX12_endsBehind_2  (rec2 : Mem → Int32 → Option (Mem × Int32)) (M : Mem) (x2 : Int32) : Option (Mem × Int32) :=
  if (400 : Int32) < x2 then
    some (M, (-9 : Int32))
  else
    bI (fX12_isOver M 118) fun M2 r3 =>
      if r3 = 0 then
        bV (fX12_goes M2 118) fun M5 =>
          rec2 M5 (x2 + 1)
      else
        some (M2, x2)
def lX12_endsBehind_2  (n : Nat) : Mem → Int32 → Option (Mem × Int32) := itr (sX12_endsBehind_2 ) (fun _ _ => none) n
def fX12_endsBehind (M : Mem) (x1 : Int32) : Option (Mem × Int32) :=
  lX12_endsBehind_2 fuel M x1
/-! LastRowerModel.best()I -/
def sX12_best_75 (rec13 : Mem → Int32 → Int32 → Int32 → Option (Mem × Int32)) (M : Mem) (x3 : Int32) (x4 : Int32) : Option (Mem × Int32) :=
  rec13 M x3 x4 (x3 + 1)
def sX12_best_13  (rec13 : Mem → Int32 → Int32 → Int32 → Option (Mem × Int32)) (M : Mem) (x1 : Int32) (x2 : Int32) (x3 : Int32) : Option (Mem × Int32) :=
  if (gM M 111 0) ≤ x3 then
    some (M, x1)
  else
    bI (fX12_isOver M 117) fun M2 r3 =>
      if r3 = 0 then
        bV (fX12_asNow M2) fun M5 =>
          bV (fX12_speak M5 118 ((1 : Int32) <<< (x3 &&& 31))) fun M6 =>
            bI (fX12_endsBehind M6 (0 : Int32)) fun M7 r8 =>
              if r8 = (-9 : Int32) then
                rec13 M7 x1 x2 (x3 + 1)
              else
                if x2 = (-9 : Int32) then
                  sX12_best_75 rec13 M7 x3 r8
                else
                  if x2 ≤ r8 then
                    rec13 M7 x1 x2 (x3 + 1)
                  else
                    sX12_best_75 rec13 M7 x3 r8
      else
        some (M2, x1)
def lX12_best_13  (n : Nat) : Mem → Int32 → Int32 → Int32 → Option (Mem × Int32) := itr (sX12_best_13 ) (fun _ _ _ _ => none) n
def fX12_best (M : Mem)  : Option (Mem × Int32) :=
  lX12_best_13 fuel (sM M 109 0 (0 : Int32)) (-9 : Int32) (-9 : Int32) (0 : Int32)
/-! LastRowerModel.clear()I -/
def fX12_clear (M : Mem)  : Option (Mem × Int32) :=
  some ((sM (sM M 109 0 (0 : Int32)) 109 3 (0 : Int32)), (gM (sM M 109 0 (0 : Int32)) 109 3))
/-! LastRowerModel.count(I)I -/
def fX12_count (M : Mem) (x1 : Int32) : Option (Mem × Int32) :=
  bI (fX12_in (sM M 109 0 (0 : Int32)) x1 (0 : Int32) (2 : Int32)) fun M1 r2 =>
    if r2 = 0 then
      if x1 = (3 : Int32) then
        some (M1, (gM M1 109 24))
      else
        if x1 = (4 : Int32) then
          some (M1, (gM M1 109 3))
        else
          some (M1, (-1 : Int32))
    else
      if inB x1 6 then
        some (M1, (gM M1 111 x1.toNatClampNeg))
      else none
/-! LastRowerModel.current(I)I -/
def fX12_current (M : Mem) (x1 : Int32) : Option (Mem × Int32) :=
  bI (fX12_in (sM M 109 0 (0 : Int32)) x1 (0 : Int32) (400 : Int32)) fun M1 r2 =>
    if r2 = 0 then
      some (M1, (-1 : Int32))
    else
      bI (fX12_flowAt M1 x1) fun M4 r5 =>
        some (M4, r5)
/-! LastRowerModel.drift()I -/
def sX12_drift_11  (rec11 : Mem → Int32 → Option (Mem × Int32)) (M : Mem) (x1 : Int32) : Option (Mem × Int32) :=
  if (400 : Int32) < x1 then
    some (M, (-9 : Int32))
  else
    bI (fX12_isOver M 118) fun M3 r4 =>
      if r4 = 0 then
        bV (fX12_goes M3 118) fun M6 =>
          if (gM M6 117 1) ≤ (gM M6 118 1) then
            rec11 M6 (x1 + 1)
          else
            some (M6, x1)
      else
        some (M3, (-9 : Int32))
def lX12_drift_11  (n : Nat) : Mem → Int32 → Option (Mem × Int32) := itr (sX12_drift_11 ) (fun _ _ => none) n
def fX12_drift (M : Mem)  : Option (Mem × Int32) :=
  bV (fX12_asNow (sM M 109 0 (0 : Int32))) fun M1 =>
    lX12_drift_11 fuel M1 (1 : Int32)
/-! LastRowerModel.ends()I -/
def fX12_ends (M : Mem)  : Option (Mem × Int32) :=
  bV (fX12_asNow (sM M 109 0 (0 : Int32))) fun M1 =>
    bI (fX12_endsBehind M1 (0 : Int32)) fun M2 r3 =>
      some (M2, r3)
/-! LastRowerModel.endsBy(II)I -/
def sX12_endsBy_151  (M : Mem) (x2 : Int32) (x4 : Int32) (s0 : Int32) : Option (Mem × Int32) :=
  if s0 < x2 then
    some (M, (-9 : Int32))
  else
    some (M, x4)
def sX12_endsBy_117  (M : Mem) (x2 : Int32) (s0 : Int32) : Option (Mem × Int32) :=
  bI (fX12_pullOf M (gM M 118 2)) fun M18 r19 =>
    if s0 = (-9 : Int32) then
      some (M18, (-9 : Int32))
    else
      if r19 = (-9 : Int32) then
        sX12_endsBy_151 M18 x2 s0 (0 : Int32)
      else
        sX12_endsBy_151 M18 x2 s0 r19
def sX12_endsBy_83  (M : Mem) (x2 : Int32) : Option (Mem × Int32) :=
  bI (fX12_isOver M 118) fun M13 r14 =>
    if r14 = 0 then
      bI (fX12_endsBehind M13 ((gM M 118 0) - (gM M 117 0))) fun M16 r17 =>
        sX12_endsBy_117 M16 x2 r17
    else
      sX12_endsBy_117 M13 x2 ((gM M 118 0) - (gM M 117 0))
def sX12_endsBy_69 (rec6 : Mem → Int32 → Int32 → Int32 → Option (Mem × Int32)) (M : Mem) (x1 : Int32) (x2 : Int32) (x3 : Int32) : Option (Mem × Int32) :=
  bV (fX12_goes M 118) fun M12 =>
    rec6 M12 x1 x2 (x3 + 1)
def sX12_endsBy_46 (rec6 : Mem → Int32 → Int32 → Int32 → Option (Mem × Int32)) (M : Mem) (x1 : Int32) (x2 : Int32) (x3 : Int32) (x4 : Int32) : Option (Mem × Int32) :=
  if x4 = 0 then
    if inB x3 3 then
      bV (fX12_speak M 118 ((1 : Int32) <<< (((gM M 124 x3.toNatClampNeg) - (1 : Int32)) &&& 31))) fun M11 =>
        sX12_endsBy_69 rec6 M11 x1 x2 x3
    else none
  else
    sX12_endsBy_69 rec6 M x1 x2 x3
def sX12_endsBy_25 (rec6 : Mem → Int32 → Int32 → Int32 → Option (Mem × Int32)) (M : Mem) (x1 : Int32) (x2 : Int32) (x3 : Int32) (s0 : Int32) : Option (Mem × Int32) :=
  bI (fX12_isOver M 118) fun M5 r6 =>
    if r6 = 0 then
      sX12_endsBy_46 rec6 M5 x1 x2 x3 s0
    else
      if s0 = 0 then
        some (M5, (-9 : Int32))
      else
        sX12_endsBy_46 rec6 M5 x1 x2 x3 s0
def sX12_endsBy_6  (rec6 : Mem → Int32 → Int32 → Int32 → Option (Mem × Int32)) (M : Mem) (x1 : Int32) (x2 : Int32) (x3 : Int32) : Option (Mem × Int32) :=
  if x1 ≤ x3 then
    sX12_endsBy_83 M x2
  else
    if inB x3 3 then
      if (gM M 124 x3.toNatClampNeg) = 0 then
        sX12_endsBy_25 rec6 M x1 x2 x3 (1 : Int32)
      else
        sX12_endsBy_25 rec6 M x1 x2 x3 (0 : Int32)
    else none
def lX12_endsBy_6  (n : Nat) : Mem → Int32 → Int32 → Int32 → Option (Mem × Int32) := itr (sX12_endsBy_6 ) (fun _ _ _ _ => none) n
def fX12_endsBy (M : Mem) (x1 : Int32) (x2 : Int32) : Option (Mem × Int32) :=
  bV (fX12_asNow M) fun M1 =>
    lX12_endsBy_6 fuel M1 x1 x2 (0 : Int32)
/-! LastRowerModel.isWell()Z -/
def fX12_isWell (M : Mem)  : Option (Mem × Int32) :=
  if 0 ≤ (gM M 109 8) then
    some (M, (0 : Int32))
  else
    some (M, (1 : Int32))
/-! LastRowerModel.isNewYard()Z -/
def sX12_isNewYard_37 (rec4 : Mem → Int32 → Int32 → Option (Mem × Int32)) (M : Mem) (x2 : Int32) : Option (Mem × Int32) :=
  rec4 M (0 : Int32) (x2 + 1)
def sX12_isNewYard_4  (rec4 : Mem → Int32 → Int32 → Option (Mem × Int32)) (M : Mem) (x1 : Int32) (x2 : Int32) : Option (Mem × Int32) :=
  if (gM M 111 5) ≤ x2 then
    if x1 = 0 ∨ x1 = 1 then some (M, x1) else none
  else
    if x1 = 0 then
      sX12_isNewYard_37 rec4 M x2
    else
      if inB ((4 : Int32) + x2) 8 then
        if (gM M 115 ((4 : Int32) + x2).toNatClampNeg) = (gM M 109 7) then
          sX12_isNewYard_37 rec4 M x2
        else
          rec4 M (1 : Int32) (x2 + 1)
      else none
def lX12_isNewYard_4  (n : Nat) : Mem → Int32 → Int32 → Option (Mem × Int32) := itr (sX12_isNewYard_4 ) (fun _ _ _ => none) n
def fX12_isNewYard (M : Mem)  : Option (Mem × Int32) :=
  lX12_isNewYard_4 fuel M (1 : Int32) (0 : Int32)
/-! LastRowerModel.takes(Z)I -/
def fX12_takes (M : Mem) (x1 : Int32) : Option (Mem × Int32) :=
  bI (fX12_isWell M) fun M1 r2 =>
    if r2 = 0 then
      some (M1, (0 : Int32))
    else
      if x1 = 0 then
        some ((sM M1 109 8 (gM M1 109 6)), (0 : Int32))
      else
        bV (fX12_advances M1) fun M5 =>
          some (M5, (gM M1 109 7))
/-! LastRowerModel.number(II)I -/
def sX12_number_26  (M : Mem) (s1 : Int32) : Option (Mem × Int32) :=
  bI (fX12_takes M s1) fun M5 r6 =>
    some (M5, r6)
def sX12_number_25  (M : Mem)  : Option (Mem × Int32) :=
  sX12_number_26 M (0 : Int32)
def fX12_number (M : Mem) (x1 : Int32) (x2 : Int32) : Option (Mem × Int32) :=
  if (gM M 109 5) = (2 : Int32) then
    bI (fX12_in M (gM M 109 7) x1 x2) fun M2 r3 =>
      if r3 = 0 then
        sX12_number_25 M2
      else
        sX12_number_26 M2 (1 : Int32)
  else
    sX12_number_25 M
/-! LastRowerModel.readsItem(I)V -/
def sX12_readsItem_120  (M : Mem) (s1 : Int32) (s3 : Int32) : Option (Mem) :=
  bI (fX12_takes M s3) fun M19 r20 =>
    if inB s1 8 then
      bI (fX12_number (sM M19 115 s1.toNatClampNeg r20) (0 : Int32) (8 : Int32)) fun M22 r23 =>
        if inB ((4 : Int32) + (gM (sM M19 115 s1.toNatClampNeg r20) 111 5)) 8 then
          some (sM (sM M22 116 ((4 : Int32) + (gM (sM M19 115 s1.toNatClampNeg r20) 111 5)).toNatClampNeg r23) 111 5 ((gM (sM M22 116 ((4 : Int32) + (gM (sM M19 115 s1.toNatClampNeg r20) 111 5)).toNatClampNeg r23) 111 5) + (1 : Int32)))
        else none
    else none
def sX12_readsItem_119  (M : Mem) (s1 : Int32) : Option (Mem) :=
  sX12_readsItem_120 M s1 (0 : Int32)
def fX12_readsItem (M : Mem) (x1 : Int32) : Option (Mem) :=
  if x1 = (112 : Int32) then
    bI (fX12_number M (1 : Int32) (9 : Int32)) fun M12 r13 =>
      if inB ((6 : Int32) + (gM M 111 3)) 12 then
        bI (fX12_number (sM M12 112 ((6 : Int32) + (gM M 111 3)).toNatClampNeg r13) (1 : Int32) (30 : Int32)) fun M15 r16 =>
          bI (fX12_number (sM M15 113 ((6 : Int32) + (gM M 111 3)).toNatClampNeg r16) (0 : Int32) (3 : Int32)) fun M17 r18 =>
            some (sM (sM M17 114 ((6 : Int32) + (gM M 111 3)).toNatClampNeg r18) 111 3 ((gM (sM M17 114 ((6 : Int32) + (gM M 111 3)).toNatClampNeg r18) 111 3) + (1 : Int32)))
      else none
  else
    if x1 = (99 : Int32) then
      if (gM M 109 5) = (2 : Int32) then
        bI (fX12_in M (gM M 109 7) (0 : Int32) (199 : Int32)) fun M6 r7 =>
          if r7 = 0 then
            sX12_readsItem_119 M6 ((4 : Int32) + (gM M 111 5))
          else
            bI (fX12_isNewYard M6) fun M9 r10 =>
              if r10 = 0 then
                sX12_readsItem_119 M9 ((4 : Int32) + (gM M 111 5))
              else
                sX12_readsItem_120 M9 ((4 : Int32) + (gM M 111 5)) (1 : Int32)
      else
        sX12_readsItem_119 M ((4 : Int32) + (gM M 111 5))
    else
      bI (fX12_number M (10 : Int32) (200 : Int32)) fun M3 r4 =>
        some (sM (sM M3 111 4 r4) 109 15 (1 : Int32))
/-! LastRowerModel.settles()V -/
def sX12_settles_148  (M : Mem)  : Option (Mem) :=
  some (sM (sM (sM (sM (sM M 109 3 (0 : Int32)) 109 24 (0 : Int32)) 109 21 (0 : Int32)) 120 0 (0 : Int32)) 120 1 (0 : Int32))
def sX12_settles_129  (rec129 : Mem → Int32 → Option (Mem)) (M : Mem) (x1 : Int32) : Option (Mem) :=
  if (15 : Int32) ≤ x1 then
    sX12_settles_148 M
  else
    if inB x1 15 then
      rec129 (sM M 117 x1.toNatClampNeg (0 : Int32)) (x1 + 1)
    else none
def lX12_settles_129  (n : Nat) : Mem → Int32 → Option (Mem) := itr (sX12_settles_129 ) (fun _ _ => none) n
def sX12_settles_88  (rec88 : Mem → Int32 → Option (Mem)) (M : Mem) (x1 : Int32) : Option (Mem) :=
  if (4 : Int32) ≤ x1 then
    lX12_settles_129 fuel M (0 : Int32)
  else
    if inB ((4 : Int32) + x1) 8 then
      if inB x1 8 then
        rec88 (sM (sM M 115 x1.toNatClampNeg (gM M 115 ((4 : Int32) + x1).toNatClampNeg)) 116 x1.toNatClampNeg (gM (sM M 115 x1.toNatClampNeg (gM M 115 ((4 : Int32) + x1).toNatClampNeg)) 116 ((4 : Int32) + x1).toNatClampNeg)) (x1 + 1)
      else none
    else none
def lX12_settles_88  (n : Nat) : Mem → Int32 → Option (Mem) := itr (sX12_settles_88 ) (fun _ _ => none) n
def sX12_settles_29  (rec29 : Mem → Int32 → Option (Mem)) (M : Mem) (x1 : Int32) : Option (Mem) :=
  if (6 : Int32) ≤ x1 then
    lX12_settles_88 fuel M (0 : Int32)
  else
    if inB ((6 : Int32) + x1) 12 then
      if inB x1 12 then
        rec29 (sM (sM (sM M 112 x1.toNatClampNeg (gM M 112 ((6 : Int32) + x1).toNatClampNeg)) 113 x1.toNatClampNeg (gM (sM M 112 x1.toNatClampNeg (gM M 112 ((6 : Int32) + x1).toNatClampNeg)) 113 ((6 : Int32) + x1).toNatClampNeg)) 114 x1.toNatClampNeg (gM (sM (sM M 112 x1.toNatClampNeg (gM M 112 ((6 : Int32) + x1).toNatClampNeg)) 113 x1.toNatClampNeg (gM (sM M 112 x1.toNatClampNeg (gM M 112 ((6 : Int32) + x1).toNatClampNeg)) 113 ((6 : Int32) + x1).toNatClampNeg)) 114 ((6 : Int32) + x1).toNatClampNeg)) (x1 + 1)
      else none
    else none
def lX12_settles_29  (n : Nat) : Mem → Int32 → Option (Mem) := itr (sX12_settles_29 ) (fun _ _ => none) n
def sX12_settles_2  (rec2 : Mem → Int32 → Option (Mem)) (M : Mem) (x1 : Int32) : Option (Mem) :=
  if (3 : Int32) ≤ x1 then
    lX12_settles_29 fuel M (0 : Int32)
  else
    if inB ((3 : Int32) + x1) 6 then
      if inB x1 6 then
        rec2 (sM M 111 x1.toNatClampNeg (gM M 111 ((3 : Int32) + x1).toNatClampNeg)) (x1 + 1)
      else none
    else none
def lX12_settles_2  (n : Nat) : Mem → Int32 → Option (Mem) := itr (sX12_settles_2 ) (fun _ _ => none) n
def fX12_settles (M : Mem)  : Option (Mem) :=
  lX12_settles_2 fuel M (0 : Int32)
/-! LastRowerModel.ferry()I -/
def sX12_ferry_168  (M : Mem) (x1 : Int32) : Option (Mem × Int32) :=
  bI (fX12_isWell M) fun M21 r22 =>
    if r22 = 0 then
      some (M21, ((-10 : Int32) - (gM M21 109 8)))
    else
      bV (fX12_settles M21) fun M24 =>
        some (M24, x1)
def sX12_ferry_158 (rec48 : Mem → Int32 → Option (Mem × Int32)) (M : Mem) (x1 : Int32) (s1 : Int32) : Option (Mem × Int32) :=
  bI (fX12_takes M s1) fun M19 r20 =>
    rec48 M19 (x1 + 1)
def sX12_ferry_144 (rec48 : Mem → Int32 → Option (Mem × Int32)) (M : Mem) (x1 : Int32) : Option (Mem × Int32) :=
  if (gM M 109 5) = (3 : Int32) then
    sX12_ferry_158 rec48 M x1 (1 : Int32)
  else
    sX12_ferry_158 rec48 M x1 (0 : Int32)
def sX12_ferry_128 (rec48 : Mem → Int32 → Option (Mem × Int32)) (M : Mem) (x1 : Int32) (s1 : Int32) : Option (Mem × Int32) :=
  bI (fX12_takes M s1) fun M12 r13 =>
    bI (fX12_isWell M12) fun M14 r15 =>
      if r15 = 0 then
        sX12_ferry_144 rec48 M14 x1
      else
        bV (fX12_readsItem M14 r13) fun M17 =>
          sX12_ferry_144 rec48 M17 x1
def sX12_ferry_127 (rec48 : Mem → Int32 → Option (Mem × Int32)) (M : Mem) (x1 : Int32) : Option (Mem × Int32) :=
  sX12_ferry_128 rec48 M x1 (0 : Int32)
def sX12_ferry_48  (rec48 : Mem → Int32 → Option (Mem × Int32)) (M : Mem) (x1 : Int32) : Option (Mem × Int32) :=
  bI (fX12_isWell M) fun M2 r3 =>
    if r3 = 0 then
      sX12_ferry_168 M2 x1
    else
      if (gM M2 109 5) = 0 then
        sX12_ferry_168 M2 x1
      else
        if (gM M2 109 5) = (1 : Int32) then
          if (gM M2 109 7) = (112 : Int32) then
            if (6 : Int32) ≤ (gM M2 111 3) then
              sX12_ferry_127 rec48 M2 x1
            else
              sX12_ferry_128 rec48 M2 x1 (1 : Int32)
          else
            if (gM M2 109 7) = (99 : Int32) then
              if (4 : Int32) ≤ (gM M2 111 5) then
                sX12_ferry_127 rec48 M2 x1
              else
                sX12_ferry_128 rec48 M2 x1 (1 : Int32)
            else
              if (gM M2 109 15) = 0 then
                sX12_ferry_128 rec48 M2 x1 (1 : Int32)
              else
                sX12_ferry_127 rec48 M2 x1
        else
          sX12_ferry_127 rec48 M2 x1
def lX12_ferry_48  (n : Nat) : Mem → Int32 → Option (Mem × Int32) := itr (sX12_ferry_48 ) (fun _ _ => none) n
def fX12_ferry (M : Mem)  : Option (Mem × Int32) :=
  bV (fX12_advances (sM (sM (sM (sM (sM (sM (sM M 109 0 (0 : Int32)) 109 8 (-1 : Int32)) 109 4 (0 : Int32)) 111 3 (0 : Int32)) 111 4 (60 : Int32)) 111 5 (0 : Int32)) 109 15 (0 : Int32))) fun M1 =>
    lX12_ferry_48 fuel M1 (0 : Int32)
/-! LastRowerModel.first(I)I -/
def sX12_first_115  (M : Mem) (x1 : Int32) (x2 : Int32) (x3 : Int32) : Option (Mem × Int32) :=
  if x2 = (-9 : Int32) then
    some (M, x2)
  else
    if x1 = 0 then
      some (M, x2)
    else
      some (M, x3)
def sX12_first_89 (rec24 : Mem → Int32 → Int32 → Int32 → Int32 → Option (Mem × Int32)) (M : Mem) (x1 : Int32) (x2 : Int32) (x4 : Int32) (x5 : Int32) (s0 : Int32) : Option (Mem × Int32) :=
  if x2 = (-9 : Int32) then
    rec24 M x1 x5 s0 (x4 + 1)
  else
    if x2 ≤ x5 then
      rec24 M x1 x2 s0 (x4 + 1)
    else
      rec24 M x1 x5 s0 (x4 + 1)
def sX12_first_66 (rec24 : Mem → Int32 → Int32 → Int32 → Int32 → Option (Mem × Int32)) (M : Mem) (x1 : Int32) (x2 : Int32) (x4 : Int32) (x5 : Int32) : Option (Mem × Int32) :=
  sX12_first_89 rec24 M x1 x2 x4 x5 ((1 : Int32) <<< (x4 &&& 31))
def sX12_first_24  (rec24 : Mem → Int32 → Int32 → Int32 → Int32 → Option (Mem × Int32)) (M : Mem) (x1 : Int32) (x2 : Int32) (x3 : Int32) (x4 : Int32) : Option (Mem × Int32) :=
  if (gM M 111 0) ≤ x4 then
    sX12_first_115 M x1 x2 x3
  else
    if inB x4 12 then
      if inB ((3 : Int32) + x4) 15 then
        if x2 = (-9 : Int32) then
          sX12_first_66 rec24 M x1 x2 x4 ((gM M 113 x4.toNatClampNeg) - (gM M 117 ((3 : Int32) + x4).toNatClampNeg))
        else
          if x2 ≤ ((gM M 113 x4.toNatClampNeg) - (gM M 117 ((3 : Int32) + x4).toNatClampNeg)) then
            if ((gM M 113 x4.toNatClampNeg) - (gM M 117 ((3 : Int32) + x4).toNatClampNeg)) = x2 then
              sX12_first_89 rec24 M x1 x2 x4 ((gM M 113 x4.toNatClampNeg) - (gM M 117 ((3 : Int32) + x4).toNatClampNeg)) (x3 ||| ((1 : Int32) <<< (x4 &&& 31)))
            else
              sX12_first_89 rec24 M x1 x2 x4 ((gM M 113 x4.toNatClampNeg) - (gM M 117 ((3 : Int32) + x4).toNatClampNeg)) x3
          else
            sX12_first_66 rec24 M x1 x2 x4 ((gM M 113 x4.toNatClampNeg) - (gM M 117 ((3 : Int32) + x4).toNatClampNeg))
      else none
    else none
def lX12_first_24  (n : Nat) : Mem → Int32 → Int32 → Int32 → Int32 → Option (Mem × Int32) := itr (sX12_first_24 ) (fun _ _ _ _ _ => none) n
def fX12_first (M : Mem) (x1 : Int32) : Option (Mem × Int32) :=
  bI (fX12_in (sM M 109 0 (0 : Int32)) x1 (0 : Int32) (1 : Int32)) fun M1 r2 =>
    if r2 = 0 then
      some (M1, (-1 : Int32))
    else
      lX12_first_24 fuel M1 x1 (-9 : Int32) (0 : Int32) (0 : Int32)
/-! LastRowerModel.forget()I -/
def fX12_forget (M : Mem)  : Option (Mem × Int32) :=
  some ((sM (sM M 109 0 (0 : Int32)) 109 24 (0 : Int32)), (gM (sM M 109 0 (0 : Int32)) 109 24))
/-! LastRowerModel.gcd(II)I -/
def sX12_gcd_4  (rec4 : Mem → Int32 → Int32 → Option (Mem × Int32)) (M : Mem) (x2 : Int32) (x3 : Int32) : Option (Mem × Int32) :=
  if x3 = 0 then
    some (M, x2)
  else
    if ¬ x3 = 0 then
      rec4 M x3 (x2 - x2 / x3 * x3)
    else none
def lX12_gcd_4  (n : Nat) : Mem → Int32 → Int32 → Option (Mem × Int32) := itr (sX12_gcd_4 ) (fun _ _ _ => none) n
def fX12_gcd (M : Mem) (x0 : Int32) (x1 : Int32) : Option (Mem × Int32) :=
  lX12_gcd_4 fuel M x0 x1
/-! LastRowerModel.wordsOf([I)I -/
def sX12_wordsOf_4  (rec4 : Mem → Nat → Int32 → Int32 → Option (Mem × Int32)) (M : Mem) (n1 : Nat) (x2 : Int32) (x3 : Int32) : Option (Mem × Int32) :=
  if (gM M 111 0) ≤ x3 then
    some (M, x2)
  else
    if inB ((9 : Int32) + x3) 15 then
      rec4 M n1 (x2 + (gM M n1 ((9 : Int32) + x3).toNatClampNeg)) (x3 + 1)
    else none
def lX12_wordsOf_4  (n : Nat) : Mem → Nat → Int32 → Int32 → Option (Mem × Int32) := itr (sX12_wordsOf_4 ) (fun _ _ _ _ => none) n
def fX12_wordsOf (M : Mem) (n1 : Nat) : Option (Mem × Int32) :=
  lX12_wordsOf_4 fuel M n1 (0 : Int32) (0 : Int32)
/-! LastRowerModel.inBeats(II)I -/
def sX12_inBeats_52  (M : Mem) (x2 : Int32) : Option (Mem × Int32) :=
  if x2 = 0 then
    some (M, (gM M 118 1))
  else
    if x2 = (1 : Int32) then
      some (M, (gM M 118 2))
    else
      bI (fX12_wordsOf M 118) fun M12 r13 =>
        bI (fX12_wordsOf M12 117) fun M14 r15 =>
          some (M14, (r13 - r15))
def sX12_inBeats_33  (rec33 : Mem → Int32 → Int32 → Int32 → Option (Mem × Int32)) (M : Mem) (x1 : Int32) (x2 : Int32) (x3 : Int32) : Option (Mem × Int32) :=
  if x1 ≤ x3 then
    sX12_inBeats_52 M x2
  else
    bV (fX12_goes M 118) fun M9 =>
      rec33 M9 x1 x2 (x3 + 1)
def lX12_inBeats_33  (n : Nat) : Mem → Int32 → Int32 → Int32 → Option (Mem × Int32) := itr (sX12_inBeats_33 ) (fun _ _ _ _ => none) n
def fX12_inBeats (M : Mem) (x1 : Int32) (x2 : Int32) : Option (Mem × Int32) :=
  bI (fX12_in (sM M 109 0 (0 : Int32)) x1 (0 : Int32) (200 : Int32)) fun M1 r2 =>
    if r2 = 0 then
      some (M1, (-1 : Int32))
    else
      bI (fX12_in M1 x2 (0 : Int32) (2 : Int32)) fun M4 r5 =>
        if r5 = 0 then
          some (M4, (-1 : Int32))
        else
          bV (fX12_asNow M4) fun M7 =>
            lX12_inBeats_33 fuel M7 x1 x2 (0 : Int32)
/-! LastRowerModel.isAsSeen()Z -/
def sX12_isAsSeen_61 (rec4 : Mem → Int32 → Int32 → Option (Mem × Int32)) (M : Mem) (x1 : Int32) (x2 : Int32) : Option (Mem × Int32) :=
  bV (fX12_goes M 118) fun M7 =>
    rec4 M7 x1 (x2 + 1)
def sX12_isAsSeen_53 (rec12 : Mem → Int32 → Int32 → Int32 → Option (Mem × Int32)) (M : Mem) (x2 : Int32) (x3 : Int32) : Option (Mem × Int32) :=
  rec12 M (0 : Int32) x2 (x3 + 1)
def sX12_isAsSeen_12 (rec4 : Mem → Int32 → Int32 → Option (Mem × Int32)) (rec12 : Mem → Int32 → Int32 → Int32 → Option (Mem × Int32)) (M : Mem) (x1 : Int32) (x2 : Int32) (x3 : Int32) : Option (Mem × Int32) :=
  if (gM M 109 24) ≤ x3 then
    sX12_isAsSeen_61 rec4 M x1 x2
  else
    if x1 = 0 then
      sX12_isAsSeen_53 rec12 M x2 x3
    else
      if inB x3 5 then
        if (gM M 122 x3.toNatClampNeg) = x2 then
          if (gM M 123 x3.toNatClampNeg) = (gM M 118 2) then
            rec12 M (1 : Int32) x2 (x3 + 1)
          else
            sX12_isAsSeen_53 rec12 M x2 x3
        else
          rec12 M (1 : Int32) x2 (x3 + 1)
      else none
def lX12_isAsSeen_12 (rec4 : Mem → Int32 → Int32 → Option (Mem × Int32)) (n : Nat) : Mem → Int32 → Int32 → Int32 → Option (Mem × Int32) := itr (sX12_isAsSeen_12 rec4) (fun _ _ _ _ => none) n
def sX12_isAsSeen_4  (rec4 : Mem → Int32 → Int32 → Option (Mem × Int32)) (M : Mem) (x1 : Int32) (x2 : Int32) : Option (Mem × Int32) :=
  if (60 : Int32) < x2 then
    if x1 = 0 ∨ x1 = 1 then some (M, x1) else none
  else
    lX12_isAsSeen_12 rec4 fuel M x1 x2 (0 : Int32)
def lX12_isAsSeen_4  (n : Nat) : Mem → Int32 → Int32 → Option (Mem × Int32) := itr (sX12_isAsSeen_4 ) (fun _ _ _ => none) n
def fX12_isAsSeen (M : Mem)  : Option (Mem × Int32) :=
  lX12_isAsSeen_4 fuel M (1 : Int32) (0 : Int32)
/-! LastRowerModel.isPassenger(I)Z -/
def fX12_isPassenger (M : Mem) (x1 : Int32) : Option (Mem × Int32) :=
  bI (fX12_in M x1 (0 : Int32) ((gM M 111 0) - (1 : Int32))) fun M1 r2 =>
    if r2 = 0 ∨ r2 = 1 then some (M1, r2) else none
/-! LastRowerModel.keep(I)I -/
def sX12_keep_47  (M : Mem) (x1 : Int32) : Option (Mem × Int32) :=
  if inB x1 2 then
    some ((sM M 120 x1.toNatClampNeg (1 : Int32)), (gM (sM M 120 x1.toNatClampNeg (1 : Int32)) 117 0))
  else none
def sX12_keep_18  (rec18 : Mem → Int32 → Int32 → Option (Mem × Int32)) (M : Mem) (x1 : Int32) (x2 : Int32) : Option (Mem × Int32) :=
  if (15 : Int32) ≤ x2 then
    sX12_keep_47 M x1
  else
    if inB x2 15 then
      if inB (((15 : Int32) * x1) + x2) 30 then
        rec18 (sM M 119 (((15 : Int32) * x1) + x2).toNatClampNeg (gM M 117 x2.toNatClampNeg)) x1 (x2 + 1)
      else none
    else none
def lX12_keep_18  (n : Nat) : Mem → Int32 → Int32 → Option (Mem × Int32) := itr (sX12_keep_18 ) (fun _ _ _ => none) n
def fX12_keep (M : Mem) (x1 : Int32) : Option (Mem × Int32) :=
  bI (fX12_in (sM M 109 0 (0 : Int32)) x1 (0 : Int32) (1 : Int32)) fun M1 r2 =>
    if r2 = 0 then
      some (M1, (-1 : Int32))
    else
      lX12_keep_18 fuel M1 x1 (0 : Int32)
/-! LastRowerModel.last()I -/
def fX12_last (M : Mem)  : Option (Mem × Int32) :=
  bV (fX12_asNow (sM M 109 0 (0 : Int32))) fun M1 =>
    bI (fX12_endsBehind M1 (0 : Int32)) fun M2 r3 =>
      if r3 = (-9 : Int32) then
        some (M2, (-9 : Int32))
      else
        some (M2, (gM M2 118 2))
/-! LastRowerModel.mute(I)I -/
def sX12_mute_59  (M : Mem) (x2 : Int32) : Option (Mem × Int32) :=
  some (M, ((((1 : Int32) <<< ((gM M 111 0) &&& 31)) - (1 : Int32)) &&& (x2 ^^^ (-1 : Int32))))
def sX12_mute_31  (rec31 : Mem → Int32 → Int32 → Int32 → Option (Mem × Int32)) (M : Mem) (x1 : Int32) (x2 : Int32) (x3 : Int32) : Option (Mem × Int32) :=
  if x1 ≤ x3 then
    sX12_mute_59 M x2
  else
    bV (fX12_goes M 118) fun M6 =>
      rec31 M6 x1 (x2 ||| (gM M6 118 2)) (x3 + 1)
def lX12_mute_31  (n : Nat) : Mem → Int32 → Int32 → Int32 → Option (Mem × Int32) := itr (sX12_mute_31 ) (fun _ _ _ _ => none) n
def fX12_mute (M : Mem) (x1 : Int32) : Option (Mem × Int32) :=
  bI (fX12_in (sM M 109 0 (0 : Int32)) x1 (0 : Int32) (200 : Int32)) fun M1 r2 =>
    if r2 = 0 then
      some (M1, (-1 : Int32))
    else
      bV (fX12_asNow M1) fun M4 =>
        lX12_mute_31 fuel M4 x1 (gM M4 118 2) (0 : Int32)
/-! LastRowerModel.now(I)I -/
def fX12_now (M : Mem) (x1 : Int32) : Option (Mem × Int32) :=
  bI (fX12_in (sM M 109 0 (0 : Int32)) x1 (0 : Int32) (6 : Int32)) fun M1 r2 =>
    if r2 = 0 then
      some (M1, (-1 : Int32))
    else
      if (3 : Int32) ≤ x1 then
        if x1 = (3 : Int32) then
          bI (fX12_pullOf M1 (gM M1 117 2)) fun M13 r14 =>
            some (M13, r14)
        else
          if x1 = (4 : Int32) then
            bI (fX12_isOver M1 117) fun M10 r11 =>
              if r11 = 0 then
                some (M10, (0 : Int32))
              else
                some (M10, (1 : Int32))
          else
            if x1 = (5 : Int32) then
              bI (fX12_wordsOf M1 117) fun M8 r9 =>
                some (M8, r9)
            else
              some (M1, (gM M1 109 21))
      else
        if inB x1 15 then
          some (M1, (gM M1 117 x1.toNatClampNeg))
        else none
/-! LastRowerModel.power(II)I -/
def sX12_power_4  (rec4 : Mem → Int32 → Int32 → Int32 → Int32 → Option (Mem × Int32)) (M : Mem) (x0 : Int32) (x1 : Int32) (x2 : Int32) (x3 : Int32) : Option (Mem × Int32) :=
  if x1 ≤ x3 then
    some (M, x2)
  else
    rec4 M x0 x1 (x2 * x0) (x3 + 1)
def lX12_power_4  (n : Nat) : Mem → Int32 → Int32 → Int32 → Int32 → Option (Mem × Int32) := itr (sX12_power_4 ) (fun _ _ _ _ _ => none) n
def fX12_power (M : Mem) (x0 : Int32) (x1 : Int32) : Option (Mem × Int32) :=
  lX12_power_4 fuel M x0 x1 (1 : Int32) (0 : Int32)
/-! LastRowerModel.odds(IIII)I -/
def sX12_odds_180  (M : Mem) (x3 : Int32) (x4 : Int32) (x5 : Int32) : Option (Mem × Int32) :=
  bI (fX12_power M (10 : Int32) x3) fun M27 r28 =>
    bI (fX12_gcd M27 x5 r28) fun M29 r30 =>
      if x4 = 0 then
        if ¬ r30 = 0 then
          some (M29, (x5 / r30))
        else none
      else
        if ¬ r30 = 0 then
          some (M29, (r28 / r30))
        else none
def sX12_odds_171 (rec51 : Mem → Int32 → Int32 → Int32 → Int32 → Int32 → Int32 → Option (Mem × Int32)) (M : Mem) (x1 : Int32) (x2 : Int32) (x3 : Int32) (x4 : Int32) (x6 : Int32) (s0 : Int32) (s1 : Int32) : Option (Mem × Int32) :=
  rec51 M x1 x2 x3 x4 (s0 + s1) (x6 + 1)
def sX12_odds_152 (rec51 : Mem → Int32 → Int32 → Int32 → Int32 → Int32 → Int32 → Option (Mem × Int32)) (M : Mem) (x1 : Int32) (x2 : Int32) (x3 : Int32) (x4 : Int32) (x5 : Int32) (x6 : Int32) (x7 : Int32) : Option (Mem × Int32) :=
  bI (fX12_isOver M 118) fun M24 r25 =>
    if r25 = 0 then
      sX12_odds_171 rec51 M24 x1 x2 x3 x4 x6 x5 (0 : Int32)
    else
      sX12_odds_171 rec51 M24 x1 x2 x3 x4 x6 x5 x7
def sX12_odds_138 (rec69 : Mem → Int32 → Int32 → Int32 → Int32 → Int32 → Int32 → Int32 → Int32 → Option (Mem × Int32)) (M : Mem) (x1 : Int32) (x2 : Int32) (x3 : Int32) (x4 : Int32) (x5 : Int32) (x6 : Int32) (x7 : Int32) (x8 : Int32) : Option (Mem × Int32) :=
  bV (fX12_goes M 118) fun M23 =>
    rec69 M23 x1 x2 x3 x4 x5 x6 x7 (x8 + 1)
def sX12_odds_108 (rec69 : Mem → Int32 → Int32 → Int32 → Int32 → Int32 → Int32 → Int32 → Int32 → Option (Mem × Int32)) (M : Mem) (x1 : Int32) (x2 : Int32) (x3 : Int32) (x4 : Int32) (x5 : Int32) (x6 : Int32) (x8 : Int32) (x9 : Int32) (s0 : Int32) (s1 : Int32) : Option (Mem × Int32) :=
  if x9 = 0 then
    sX12_odds_138 rec69 M x1 x2 x3 x4 x5 x6 (s0 * s1) x8
  else
    bI (fX12_isOver M 118) fun M19 r20 =>
      if r20 = 0 then
        bV (fX12_speak M19 118 ((1 : Int32) <<< (x1 &&& 31))) fun M22 =>
          sX12_odds_138 rec69 M22 x1 x2 x3 x4 x5 x6 (s0 * s1) x8
      else
        sX12_odds_138 rec69 M19 x1 x2 x3 x4 x5 x6 (s0 * s1) x8
def sX12_odds_91 (rec69 : Mem → Int32 → Int32 → Int32 → Int32 → Int32 → Int32 → Int32 → Int32 → Option (Mem × Int32)) (M : Mem) (x1 : Int32) (x2 : Int32) (x3 : Int32) (x4 : Int32) (x5 : Int32) (x6 : Int32) (x7 : Int32) (x8 : Int32) (s0 : Int32) : Option (Mem × Int32) :=
  if s0 = 0 then
    sX12_odds_108 rec69 M x1 x2 x3 x4 x5 x6 x8 s0 x7 ((10 : Int32) - x2)
  else
    sX12_odds_108 rec69 M x1 x2 x3 x4 x5 x6 x8 s0 x7 x2
def sX12_odds_69 (rec51 : Mem → Int32 → Int32 → Int32 → Int32 → Int32 → Int32 → Option (Mem × Int32)) (rec69 : Mem → Int32 → Int32 → Int32 → Int32 → Int32 → Int32 → Int32 → Int32 → Option (Mem × Int32)) (M : Mem) (x1 : Int32) (x2 : Int32) (x3 : Int32) (x4 : Int32) (x5 : Int32) (x6 : Int32) (x7 : Int32) (x8 : Int32) : Option (Mem × Int32) :=
  if x3 ≤ x8 then
    sX12_odds_152 rec51 M x1 x2 x3 x4 x5 x6 x7
  else
    if ((x6 >>> (x8 &&& 31)) &&& (1 : Int32)) = (1 : Int32) then
      sX12_odds_91 rec69 M x1 x2 x3 x4 x5 x6 x7 x8 (1 : Int32)
    else
      sX12_odds_91 rec69 M x1 x2 x3 x4 x5 x6 x7 x8 (0 : Int32)
def lX12_odds_69 (rec51 : Mem → Int32 → Int32 → Int32 → Int32 → Int32 → Int32 → Option (Mem × Int32)) (n : Nat) : Mem → Int32 → Int32 → Int32 → Int32 → Int32 → Int32 → Int32 → Int32 → Option (Mem × Int32) := itr (sX12_odds_69 rec51) (fun _ _ _ _ _ _ _ _ _ => none) n
def sX12_odds_51  (rec51 : Mem → Int32 → Int32 → Int32 → Int32 → Int32 → Int32 → Option (Mem × Int32)) (M : Mem) (x1 : Int32) (x2 : Int32) (x3 : Int32) (x4 : Int32) (x5 : Int32) (x6 : Int32) : Option (Mem × Int32) :=
  if ((1 : Int32) <<< (x3 &&& 31)) ≤ x6 then
    sX12_odds_180 M x3 x4 x5
  else
    bV (fX12_asNow M) fun M14 =>
      lX12_odds_69 rec51 fuel M14 x1 x2 x3 x4 x5 x6 (1 : Int32) (0 : Int32)
def lX12_odds_51  (n : Nat) : Mem → Int32 → Int32 → Int32 → Int32 → Int32 → Int32 → Option (Mem × Int32) := itr (sX12_odds_51 ) (fun _ _ _ _ _ _ _ => none) n
def fX12_odds (M : Mem) (x1 : Int32) (x2 : Int32) (x3 : Int32) (x4 : Int32) : Option (Mem × Int32) :=
  bI (fX12_isPassenger (sM M 109 0 (0 : Int32)) x1) fun M1 r2 =>
    if r2 = 0 then
      some (M1, (-1 : Int32))
    else
      bI (fX12_in M1 x2 (0 : Int32) (10 : Int32)) fun M4 r5 =>
        if r5 = 0 then
          some (M4, (-1 : Int32))
        else
          bI (fX12_in M4 x3 (0 : Int32) (6 : Int32)) fun M7 r8 =>
            if r8 = 0 then
              some (M7, (-1 : Int32))
            else
              bI (fX12_in M7 x4 (0 : Int32) (1 : Int32)) fun M10 r11 =>
                if r11 = 0 then
                  some (M10, (-1 : Int32))
                else
                  lX12_odds_51 fuel M10 x1 x2 x3 x4 (0 : Int32) (0 : Int32)
/-! LastRowerModel.passenger(II)I -/
def fX12_passenger (M : Mem) (x1 : Int32) (x2 : Int32) : Option (Mem × Int32) :=
  bI (fX12_isPassenger (sM M 109 0 (0 : Int32)) x1) fun M1 r2 =>
    if r2 = 0 then
      some (M1, (-1 : Int32))
    else
      bI (fX12_in M1 x2 (0 : Int32) (5 : Int32)) fun M4 r5 =>
        if r5 = 0 then
          some (M4, (-1 : Int32))
        else
          if (3 : Int32) ≤ x2 then
            if x2 = (3 : Int32) then
              if inB ((3 : Int32) + x1) 15 then
                some (M4, (gM M4 117 ((3 : Int32) + x1).toNatClampNeg))
              else none
            else
              if x2 = (4 : Int32) then
                if inB ((9 : Int32) + x1) 15 then
                  some (M4, (gM M4 117 ((9 : Int32) + x1).toNatClampNeg))
                else none
              else
                some (M4, (((gM M4 117 2) >>> (x1 &&& 31)) &&& (1 : Int32)))
          else
            if x2 = 0 then
              if inB x1 12 then
                some (M4, (gM M4 112 x1.toNatClampNeg))
              else none
            else
              if x2 = (1 : Int32) then
                if inB x1 12 then
                  some (M4, (gM M4 113 x1.toNatClampNeg))
                else none
              else
                if inB x1 12 then
                  some (M4, (gM M4 114 x1.toNatClampNeg))
                else none
/-! LastRowerModel.pinches(I)I -/
def fX12_pinches (M : Mem) (x1 : Int32) : Option (Mem × Int32) :=
  bI (fX12_isPassenger (sM M 109 0 (0 : Int32)) x1) fun M1 r2 =>
    if r2 = 0 then
      some (M1, (-1 : Int32))
    else
      bI (fX12_isOver M1 117) fun M4 r5 =>
        if r5 = 0 then
          bV (fX12_notes M4) fun M7 =>
            bV (fX12_speak M7 117 ((1 : Int32) <<< (x1 &&& 31))) fun M8 =>
              if inB ((9 : Int32) + x1) 15 then
                some (M8, (gM M8 117 ((9 : Int32) + x1).toNatClampNeg))
              else none
        else
          some (M4, (-2 : Int32))
/-! LastRowerModel.plan(III)I -/
def sX12_plan_199  (M : Mem) (x1 : Int32) (x3 : Int32) (x5 : Int32) : Option (Mem × Int32) :=
  if x3 = (-1 : Int32) then
    some (M, x5)
  else
    if x5 = (-9 : Int32) then
      some (M, x5)
    else
      if x3 < x1 then
        if inB x3 3 then
          if (gM M 125 x3.toNatClampNeg) = 0 then
            some (M, (-5 : Int32))
          else
            some (M, ((gM M 125 x3.toNatClampNeg) - (1 : Int32)))
        else none
      else
        some (M, (-9 : Int32))
def sX12_plan_167 (rec73 : Mem → Int32 → Int32 → Int32 → Int32 → Int32 → Int32 → Option (Mem × Int32)) (rec167 : Mem → Int32 → Int32 → Int32 → Int32 → Int32 → Int32 → Int32 → Option (Mem × Int32)) (M : Mem) (x1 : Int32) (x2 : Int32) (x3 : Int32) (x4 : Int32) (x5 : Int32) (x6 : Int32) (x9 : Int32) : Option (Mem × Int32) :=
  if x1 ≤ x9 then
    rec73 M x1 x2 x3 x4 x5 (x6 + 1)
  else
    if inB x9 3 then
      rec167 (sM M 125 x9.toNatClampNeg (gM M 124 x9.toNatClampNeg)) x1 x2 x3 x4 x5 x6 (x9 + 1)
    else none
def lX12_plan_167 (rec73 : Mem → Int32 → Int32 → Int32 → Int32 → Int32 → Int32 → Option (Mem × Int32)) (n : Nat) : Mem → Int32 → Int32 → Int32 → Int32 → Int32 → Int32 → Int32 → Option (Mem × Int32) := itr (sX12_plan_167 rec73) (fun _ _ _ _ _ _ _ _ => none) n
def sX12_plan_160 (rec73 : Mem → Int32 → Int32 → Int32 → Int32 → Int32 → Int32 → Option (Mem × Int32)) (M : Mem) (x1 : Int32) (x2 : Int32) (x3 : Int32) (x4 : Int32) (x6 : Int32) (x8 : Int32) : Option (Mem × Int32) :=
  lX12_plan_167 rec73 fuel M x1 x2 x3 x4 x8 x6 (0 : Int32)
def sX12_plan_131 (rec73 : Mem → Int32 → Int32 → Int32 → Int32 → Int32 → Int32 → Option (Mem × Int32)) (M : Mem) (x1 : Int32) (x2 : Int32) (x3 : Int32) (x4 : Int32) (x5 : Int32) (x6 : Int32) : Option (Mem × Int32) :=
  bI (fX12_endsBy M x1 x2) fun M16 r17 =>
    if r17 = (-9 : Int32) then
      rec73 M16 x1 x2 x3 x4 x5 (x6 + 1)
    else
      if x5 = (-9 : Int32) then
        sX12_plan_160 rec73 M16 x1 x2 x3 x4 x6 r17
      else
        if x5 ≤ r17 then
          rec73 M16 x1 x2 x3 x4 x5 (x6 + 1)
        else
          sX12_plan_160 rec73 M16 x1 x2 x3 x4 x6 r17
def sX12_plan_89 (rec73 : Mem → Int32 → Int32 → Int32 → Int32 → Int32 → Int32 → Option (Mem × Int32)) (rec89 : Mem → Int32 → Int32 → Int32 → Int32 → Int32 → Int32 → Int32 → Int32 → Option (Mem × Int32)) (M : Mem) (x1 : Int32) (x2 : Int32) (x3 : Int32) (x4 : Int32) (x5 : Int32) (x6 : Int32) (x7 : Int32) (x8 : Int32) : Option (Mem × Int32) :=
  if x8 < 0 then
    sX12_plan_131 rec73 M x1 x2 x3 x4 x5 x6
  else
    if ¬ ((gM M 111 0) + (1 : Int32)) = 0 then
      if inB x8 3 then
        if ¬ ((gM (sM M 124 x8.toNatClampNeg (x7 - x7 / ((gM M 111 0) + (1 : Int32)) * ((gM M 111 0) + (1 : Int32)))) 111 0) + (1 : Int32)) = 0 then
          rec89 (sM M 124 x8.toNatClampNeg (x7 - x7 / ((gM M 111 0) + (1 : Int32)) * ((gM M 111 0) + (1 : Int32)))) x1 x2 x3 x4 x5 x6 (x7 / ((gM (sM M 124 x8.toNatClampNeg (x7 - x7 / ((gM M 111 0) + (1 : Int32)) * ((gM M 111 0) + (1 : Int32)))) 111 0) + (1 : Int32))) (x8 + (-1))
        else none
      else none
    else none
def lX12_plan_89 (rec73 : Mem → Int32 → Int32 → Int32 → Int32 → Int32 → Int32 → Option (Mem × Int32)) (n : Nat) : Mem → Int32 → Int32 → Int32 → Int32 → Int32 → Int32 → Int32 → Int32 → Option (Mem × Int32) := itr (sX12_plan_89 rec73) (fun _ _ _ _ _ _ _ _ _ => none) n
def sX12_plan_73  (rec73 : Mem → Int32 → Int32 → Int32 → Int32 → Int32 → Int32 → Option (Mem × Int32)) (M : Mem) (x1 : Int32) (x2 : Int32) (x3 : Int32) (x4 : Int32) (x5 : Int32) (x6 : Int32) : Option (Mem × Int32) :=
  if x4 ≤ x6 then
    sX12_plan_199 M x1 x3 x5
  else
    lX12_plan_89 rec73 fuel M x1 x2 x3 x4 x5 x6 x6 (x1 - (1 : Int32))
def lX12_plan_73  (n : Nat) : Mem → Int32 → Int32 → Int32 → Int32 → Int32 → Int32 → Option (Mem × Int32) := itr (sX12_plan_73 ) (fun _ _ _ _ _ _ _ => none) n
def sX12_plan_66  (M : Mem) (x1 : Int32) (x2 : Int32) (x3 : Int32) (x4 : Int32) : Option (Mem × Int32) :=
  lX12_plan_73 fuel M x1 x2 x3 x4 (-9 : Int32) (0 : Int32)
def sX12_plan_41  (rec41 : Mem → Int32 → Int32 → Int32 → Int32 → Int32 → Option (Mem × Int32)) (M : Mem) (x1 : Int32) (x2 : Int32) (x3 : Int32) (x4 : Int32) (x5 : Int32) : Option (Mem × Int32) :=
  if x1 ≤ x5 then
    sX12_plan_66 M x1 x2 x3 x4
  else
    rec41 M x1 x2 x3 (x4 * ((gM M 111 0) + (1 : Int32))) (x5 + 1)
def lX12_plan_41  (n : Nat) : Mem → Int32 → Int32 → Int32 → Int32 → Int32 → Option (Mem × Int32) := itr (sX12_plan_41 ) (fun _ _ _ _ _ _ => none) n
def fX12_plan (M : Mem) (x1 : Int32) (x2 : Int32) (x3 : Int32) : Option (Mem × Int32) :=
  bI (fX12_in (sM M 109 0 (0 : Int32)) x1 (1 : Int32) (3 : Int32)) fun M1 r2 =>
    if r2 = 0 then
      some (M1, (-1 : Int32))
    else
      bI (fX12_in M1 x2 (0 : Int32) (60 : Int32)) fun M4 r5 =>
        if r5 = 0 then
          some (M4, (-1 : Int32))
        else
          bI (fX12_in M4 x3 (-1 : Int32) (2 : Int32)) fun M7 r8 =>
            if r8 = 0 then
              some (M7, (-1 : Int32))
            else
              lX12_plan_41 fuel M7 x1 x2 x3 (1 : Int32) (0 : Int32)
/-! LastRowerModel.quarrels(II)I -/
def fX12_quarrels (M : Mem) (x1 : Int32) (x2 : Int32) : Option (Mem × Int32) :=
  bI (fX12_isPassenger (sM M 109 0 (0 : Int32)) x1) fun M1 r2 =>
    if r2 = 0 then
      some (M1, (-1 : Int32))
    else
      bI (fX12_isPassenger M1 x2) fun M4 r5 =>
        if r5 = 0 then
          some (M4, (-1 : Int32))
        else
          if x1 = x2 then
            some (M4, (-1 : Int32))
          else
            bI (fX12_isOver M4 117) fun M8 r9 =>
              if r9 = 0 then
                bV (fX12_notes M8) fun M11 =>
                  bV (fX12_speak M11 117 (((1 : Int32) <<< (x1 &&& 31)) ||| ((1 : Int32) <<< (x2 &&& 31)))) fun M12 =>
                    bI (fX12_pullOf M12 (gM M12 117 2)) fun M13 r14 =>
                      some (M13, r14)
              else
                some (M8, (-2 : Int32))
/-! LastRowerModel.rate(II)I -/
def sX12_rate_116  (M : Mem) (x1 : Int32) (x2 : Int32) (x3 : Int32) (x4 : Int32) (s1 : Int64) (s2 : Int64) : Option (Mem × Int32) :=
  if x1 = 0 then
    if inB x2 12 then
      some ((sL M 109 (s1 + s2)), (gM (sL M 109 (s1 + s2)) 112 x2.toNatClampNeg))
    else none
  else
    if x1 = (1 : Int32) then
      some ((sL M 109 (s1 + s2)), x3)
    else
      if x1 = (2 : Int32) then
        some ((sL M 109 (s1 + s2)), x4)
      else
        if x1 = (3 : Int32) then
          some ((sL M 109 (s1 + s2)), ((2 : Int32) * x3))
        else
          if x1 = (4 : Int32) then
            some ((sL M 109 (s1 + s2)), (x4 + x2))
          else
            if inB x2 12 then
              if inB ((9 : Int32) + x2) 15 then
                some ((sL M 109 (s1 + s2)), ((gM (sL M 109 (s1 + s2)) 112 x2.toNatClampNeg) + (gM (sL M 109 (s1 + s2)) 117 ((9 : Int32) + x2).toNatClampNeg)))
              else none
            else none
def fX12_rate (M : Mem) (x1 : Int32) (x2 : Int32) : Option (Mem × Int32) :=
  bI (fX12_in (sM M 109 0 (0 : Int32)) x1 (0 : Int32) (5 : Int32)) fun M1 r2 =>
    if r2 = 0 then
      some (M1, (-1000000 : Int32))
    else
      bI (fX12_isPassenger M1 x2) fun M4 r5 =>
        if r5 = 0 then
          some (M4, (-1000000 : Int32))
        else
          if inB x2 12 then
            if inB ((3 : Int32) + x2) 15 then
              if x1 = 0 then
                sX12_rate_116 M4 x1 x2 ((gM M4 112 x2.toNatClampNeg) + (gM M4 117 ((3 : Int32) + x2).toNatClampNeg)) ((gM M4 112 x2.toNatClampNeg) - (gM M4 113 x2.toNatClampNeg)) (gL M4 109) (1 : Int64)
              else
                if x1 = (1 : Int32) then
                  sX12_rate_116 M4 x1 x2 ((gM M4 112 x2.toNatClampNeg) + (gM M4 117 ((3 : Int32) + x2).toNatClampNeg)) ((gM M4 112 x2.toNatClampNeg) - (gM M4 113 x2.toNatClampNeg)) (gL M4 109) (11 : Int64)
                else
                  if x1 = (2 : Int32) then
                    sX12_rate_116 M4 x1 x2 ((gM M4 112 x2.toNatClampNeg) + (gM M4 117 ((3 : Int32) + x2).toNatClampNeg)) ((gM M4 112 x2.toNatClampNeg) - (gM M4 113 x2.toNatClampNeg)) (gL M4 109) (101 : Int64)
                  else
                    if x1 = (3 : Int32) then
                      sX12_rate_116 M4 x1 x2 ((gM M4 112 x2.toNatClampNeg) + (gM M4 117 ((3 : Int32) + x2).toNatClampNeg)) ((gM M4 112 x2.toNatClampNeg) - (gM M4 113 x2.toNatClampNeg)) (gL M4 109) (1011 : Int64)
                    else
                      if x1 = (4 : Int32) then
                        sX12_rate_116 M4 x1 x2 ((gM M4 112 x2.toNatClampNeg) + (gM M4 117 ((3 : Int32) + x2).toNatClampNeg)) ((gM M4 112 x2.toNatClampNeg) - (gM M4 113 x2.toNatClampNeg)) (gL M4 109) (10101 : Int64)
                      else
                        sX12_rate_116 M4 x1 x2 ((gM M4 112 x2.toNatClampNeg) + (gM M4 117 ((3 : Int32) + x2).toNatClampNeg)) ((gM M4 112 x2.toNatClampNeg) - (gM M4 113 x2.toNatClampNeg)) (gL M4 109) (100001 : Int64)
            else none
          else none
/-! LastRowerModel.ring()I -/
def sX12_ring_67 (rec11 : Mem → Int32 → Option (Mem × Int32)) (M : Mem) (x1 : Int32) (x2 : Int32) : Option (Mem × Int32) :=
  if x2 = 0 then
    rec11 M (x1 + 1)
  else
    some (M, x1)
def sX12_ring_59 (rec30 : Mem → Int32 → Int32 → Int32 → Option (Mem × Int32)) (M : Mem) (x1 : Int32) (x3 : Int32) : Option (Mem × Int32) :=
  rec30 M x1 (0 : Int32) (x3 + 1)
def sX12_ring_30 (rec11 : Mem → Int32 → Option (Mem × Int32)) (rec30 : Mem → Int32 → Int32 → Int32 → Option (Mem × Int32)) (M : Mem) (x1 : Int32) (x2 : Int32) (x3 : Int32) : Option (Mem × Int32) :=
  if (9 : Int32) ≤ x3 then
    sX12_ring_67 rec11 M x1 x2
  else
    if x2 = 0 then
      sX12_ring_59 rec30 M x1 x3
    else
      if inB x3 15 then
        if (gM M 118 x3.toNatClampNeg) = (gM M 117 x3.toNatClampNeg) then
          rec30 M x1 (1 : Int32) (x3 + 1)
        else
          sX12_ring_59 rec30 M x1 x3
      else none
def lX12_ring_30 (rec11 : Mem → Int32 → Option (Mem × Int32)) (n : Nat) : Mem → Int32 → Int32 → Int32 → Option (Mem × Int32) := itr (sX12_ring_30 rec11) (fun _ _ _ _ => none) n
def sX12_ring_11  (rec11 : Mem → Int32 → Option (Mem × Int32)) (M : Mem) (x1 : Int32) : Option (Mem × Int32) :=
  if (400 : Int32) < x1 then
    some (M, (-9 : Int32))
  else
    bV (fX12_hushes M 118) fun M3 =>
      lX12_ring_30 rec11 fuel M3 x1 (1 : Int32) (2 : Int32)
def lX12_ring_11  (n : Nat) : Mem → Int32 → Option (Mem × Int32) := itr (sX12_ring_11 ) (fun _ _ => none) n
def fX12_ring (M : Mem)  : Option (Mem × Int32) :=
  bV (fX12_asNow (sM M 109 0 (0 : Int32))) fun M1 =>
    lX12_ring_11 fuel M1 (1 : Int32)
/-! LastRowerModel.seen(II)I -/
def fX12_seen (M : Mem) (x1 : Int32) (x2 : Int32) : Option (Mem × Int32) :=
  bI (fX12_in (sM M 109 0 (0 : Int32)) x1 (0 : Int32) (60 : Int32)) fun M1 r2 =>
    if r2 = 0 then
      some (M1, (-1 : Int32))
    else
      bI (fX12_in M1 x2 (0 : Int32) (((1 : Int32) <<< ((gM M1 111 0) &&& 31)) - (1 : Int32))) fun M4 r5 =>
        if r5 = 0 then
          some (M4, (-1 : Int32))
        else
          if (gM M4 109 24) = (5 : Int32) then
            some (M4, (-3 : Int32))
          else
            if inB (gM M4 109 24) 5 then
              if inB (gM (sM M4 122 (gM M4 109 24).toNatClampNeg x1) 109 24) 5 then
                some ((sM (sM (sM M4 122 (gM M4 109 24).toNatClampNeg x1) 123 (gM (sM M4 122 (gM M4 109 24).toNatClampNeg x1) 109 24).toNatClampNeg x2) 109 24 ((gM (sM (sM M4 122 (gM M4 109 24).toNatClampNeg x1) 123 (gM (sM M4 122 (gM M4 109 24).toNatClampNeg x1) 109 24).toNatClampNeg x2) 109 24) + (1 : Int32))), (gM (sM (sM (sM M4 122 (gM M4 109 24).toNatClampNeg x1) 123 (gM (sM M4 122 (gM M4 109 24).toNatClampNeg x1) 109 24).toNatClampNeg x2) 109 24 ((gM (sM (sM M4 122 (gM M4 109 24).toNatClampNeg x1) 123 (gM (sM M4 122 (gM M4 109 24).toNatClampNeg x1) 109 24).toNatClampNeg x2) 109 24) + (1 : Int32))) 109 24))
              else none
            else none
/-! LastRowerModel.sings(I)I -/
def sX12_sings_56  (M : Mem) (x2 : Int32) : Option (Mem × Int32) :=
  bI (fX12_isOver M 117) fun M7 r8 =>
    if r8 = 0 then
      if x2 = 0 then
        some (M7, (-2 : Int32))
      else
        bV (fX12_notes M7) fun M11 =>
          bV (fX12_speak M11 117 x2) fun M12 =>
            bI (fX12_pullOf M12 x2) fun M13 r14 =>
              some (M13, r14)
    else
      some (M7, (-2 : Int32))
def sX12_sings_48 (rec20 : Mem → Int32 → Int32 → Int32 → Option (Mem × Int32)) (M : Mem) (x1 : Int32) (x3 : Int32) (s0 : Int32) (s1 : Int32) : Option (Mem × Int32) :=
  rec20 M x1 (s0 ||| s1) (x3 + 1)
def sX12_sings_20  (rec20 : Mem → Int32 → Int32 → Int32 → Option (Mem × Int32)) (M : Mem) (x1 : Int32) (x2 : Int32) (x3 : Int32) : Option (Mem × Int32) :=
  if (gM M 111 0) ≤ x3 then
    sX12_sings_56 M x2
  else
    if inB x3 12 then
      if (gM M 114 x3.toNatClampNeg) = x1 then
        sX12_sings_48 rec20 M x1 x3 x2 ((1 : Int32) <<< (x3 &&& 31))
      else
        sX12_sings_48 rec20 M x1 x3 x2 (0 : Int32)
    else none
def lX12_sings_20  (n : Nat) : Mem → Int32 → Int32 → Int32 → Option (Mem × Int32) := itr (sX12_sings_20 ) (fun _ _ _ _ => none) n
def fX12_sings (M : Mem) (x1 : Int32) : Option (Mem × Int32) :=
  bI (fX12_in (sM M 109 0 (0 : Int32)) x1 (1 : Int32) (3 : Int32)) fun M1 r2 =>
    if r2 = 0 then
      some (M1, (-1 : Int32))
    else
      lX12_sings_20 fuel M1 x1 (0 : Int32) (0 : Int32)
/-! LastRowerModel.trace()J -/
def fX12_trace (M : Mem)  : Option (Mem × Int64) :=
  some ((sM M 109 0 (0 : Int32)), (gL (sM M 109 0 (0 : Int32)) 109))
/-! LastRowerModel.type(I)I -/
def fX12_type (M : Mem) (x1 : Int32) : Option (Mem × Int32) :=
  bI (fX12_in (sM M 109 0 (0 : Int32)) x1 (0 : Int32) (255 : Int32)) fun M1 r2 =>
    if r2 = 0 then
      some (M1, (-1 : Int32))
    else
      if (gM M1 109 3) = (200 : Int32) then
        some (M1, (-3 : Int32))
      else
        if inB (gM M1 109 3) 200 then
          some ((sM (sM M1 110 (gM M1 109 3).toNatClampNeg x1) 109 3 ((gM (sM M1 110 (gM M1 109 3).toNatClampNeg x1) 109 3) + (1 : Int32))), (gM (sM (sM M1 110 (gM M1 109 3).toNatClampNeg x1) 109 3 ((gM (sM M1 110 (gM M1 109 3).toNatClampNeg x1) 109 3) + (1 : Int32))) 109 3))
        else none
/-! LastRowerModel.undo()I -/
def sX12_undo_27  (rec27 : Mem → Int32 → Option (Mem × Int32)) (M : Mem) (x1 : Int32) : Option (Mem × Int32) :=
  if (15 : Int32) ≤ x1 then
    some (M, (gM M 109 21))
  else
    if inB (((15 : Int32) * (gM M 109 21)) + x1) 150 then
      if inB x1 15 then
        rec27 (sM M 117 x1.toNatClampNeg (gM M 121 (((15 : Int32) * (gM M 109 21)) + x1).toNatClampNeg)) (x1 + 1)
      else none
    else none
def lX12_undo_27  (n : Nat) : Mem → Int32 → Option (Mem × Int32) := itr (sX12_undo_27 ) (fun _ _ => none) n
def fX12_undo (M : Mem)  : Option (Mem × Int32) :=
  if (gM (sM M 109 0 (0 : Int32)) 109 21) = 0 then
    some ((sM M 109 0 (0 : Int32)), (-2 : Int32))
  else
    lX12_undo_27 fuel (sM (sM M 109 0 (0 : Int32)) 109 21 ((gM (sM M 109 0 (0 : Int32)) 109 21) - (1 : Int32))) (0 : Int32)
/-! LastRowerModel.who()I -/
def sX12_who_76 (rec25 : Mem → Int32 → Int32 → Option (Mem × Int32)) (M : Mem) (x2 : Int32) (s0 : Int32) (s1 : Int32) : Option (Mem × Int32) :=
  rec25 M (s0 ||| s1) (x2 + 1)
def sX12_who_25  (rec25 : Mem → Int32 → Int32 → Option (Mem × Int32)) (M : Mem) (x1 : Int32) (x2 : Int32) : Option (Mem × Int32) :=
  if (gM M 111 0) ≤ x2 then
    some (M, x1)
  else
    bI (fX12_isOver M 117) fun M6 r7 =>
      if r7 = 0 then
        bV (fX12_asNow M6) fun M9 =>
          bV (fX12_speak M9 118 ((1 : Int32) <<< (x2 &&& 31))) fun M10 =>
            bI (fX12_isAsSeen M10) fun M11 r12 =>
              if r12 = 0 then
                sX12_who_76 rec25 M11 x2 x1 (0 : Int32)
              else
                sX12_who_76 rec25 M11 x2 x1 ((1 : Int32) <<< (x2 &&& 31))
      else
        some (M6, x1)
def lX12_who_25  (n : Nat) : Mem → Int32 → Int32 → Option (Mem × Int32) := itr (sX12_who_25 ) (fun _ _ _ => none) n
def fX12_who (M : Mem)  : Option (Mem × Int32) :=
  bV (fX12_asNow (sM M 109 0 (0 : Int32))) fun M1 =>
    bI (fX12_isAsSeen M1) fun M2 r3 =>
      if r3 = 0 then
        lX12_who_25 fuel M2 (0 : Int32) (0 : Int32)
      else
        lX12_who_25 fuel M2 (64 : Int32) (0 : Int32)
