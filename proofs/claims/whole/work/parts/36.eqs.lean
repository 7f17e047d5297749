/-- DoorLettersModel.image(I)I -/
noncomputable def t262 : qK := qT (qsub 3) lkX12 1 cd262
set_option maxRecDepth 20000 in
theorem c262 (b : Nat) (x1 : Int32) (h : qM) : qcal 262 [qR 12 (some b), qI x1] h = qbI (qcal 145 [qJ (Int32.toInt64 x1), qJ 0, qJ 3] h) fun r1 h1 => if r1 = 0 then (some (h1, some (qI (-1)))) else (Option.bind (mP h1 12 b 51) fun a1 => bif qin x1 (mL h1 16 a1) then (qbV (qcal 261 [qR 12 (some b), qI x1, qI 0] (sI h1 16 a1 (Int32.toNatClampNeg x1) 1)) fun h2 => Option.bind (mP h2 12 b 1) fun a2 => bif Nat.blt 3 (mL h2 14 a2) then (some (h2, some (qI (mI h2 14 a2 3)))) else none) else none) := (qcal_eq 262 [qR 12 (some b), qI x1] h rfl rfl).trans (qT_cut (qsub 3) lkX12 1 cd262 [] 24 0 _ _ _)
/-- DoorLettersModel.back(I)I -/
noncomputable def t263 : qK := qT (qsub 3) lkX12 1 cd263
set_option maxRecDepth 20000 in
theorem c263 (b : Nat) (x1 : Int32) (h : qM) : qcal 263 [qR 12 (some b), qI x1] h = qbI (qcal 145 [qJ (Int32.toInt64 x1), qJ 0, qJ 3] h) fun r1 h1 => if r1 = 0 then (some (h1, some (qI (-1)))) else (Option.bind (mP h1 12 b 51) fun a1 => bif qin x1 (mL h1 16 a1) then (if (mI h1 16 a1 (Int32.toNatClampNeg x1)) = 0 then (some (h1, some (qI (-1)))) else (qbV (qcal 261 [qR 12 (some b), qI x1, qI 1] h1) fun h2 => Option.bind (mP h2 12 b 1) fun a2 => bif Nat.blt 3 (mL h2 14 a2) then (some (h2, some (qI (mI h2 14 a2 3)))) else none)) else none) := (qcal_eq 263 [qR 12 (some b), qI x1] h rfl rfl).trans (qT_cut (qsub 3) lkX12 1 cd263 [] 26 0 _ _ _)
/-- java/lang/Integer.bitCount(I)I -/
noncomputable def t264 : qK := qT (qsub 1) lkJ6 1 cd264
set_option maxRecDepth 20000 in
theorem c264 (x1 : Int32) (h : qM) : qcal 264 [qI x1] h = qlet ((((x1 - ((x1.toUInt32 >>> ((1 : Int32).toUInt32 &&& Int32.toUInt32 31)).toInt32 &&& 1431655765)) &&& 858993459) + (((x1 - ((x1.toUInt32 >>> ((1 : Int32).toUInt32 &&& Int32.toUInt32 31)).toInt32 &&& 1431655765)).toUInt32 >>> ((2 : Int32).toUInt32 &&& Int32.toUInt32 31)).toInt32 &&& 858993459)) : Int32) fun y1 => qlet ((((y1 + (y1.toUInt32 >>> ((4 : Int32).toUInt32 &&& Int32.toUInt32 31)).toInt32) &&& 252645135) + (((y1 + (y1.toUInt32 >>> ((4 : Int32).toUInt32 &&& Int32.toUInt32 31)).toInt32) &&& 252645135).toUInt32 >>> ((8 : Int32).toUInt32 &&& Int32.toUInt32 31)).toInt32) : Int32) fun y2 => some (h, some (qI ((y2 + (y2.toUInt32 >>> ((16 : Int32).toUInt32 &&& Int32.toUInt32 31)).toInt32) &&& 63))) := (qcal_eq 264 [qI x1] h rfl rfl).trans (qT_cut (qsub 1) lkJ6 1 cd264 [] 46 0 _ _ _)
/-- java/util/Arrays.fill([JJ)V -/
noncomputable def t265 : qK := qT (qsub 1) lkJ7 0 cd265
set_option maxRecDepth 20000 in
theorem c265 (x1 : Nat) (x2 : Int64) (h : qM) : qcal 265 [qR 15 (some x1), qJ x2] h = t265 6 [some (qR 15 (some x1)), some (qJ x2), none, some (qI 0), some (qI (Int32.ofNat (mL h 15 x1)))] [] h := (qcal_eq 265 [qR 15 (some x1), qJ x2] h rfl rfl).trans (qT_cut (qsub 1) lkJ7 0 cd265 [6] 7 0 _ _ _)
set_option maxRecDepth 20000 in
theorem e265_6 (v0 : Nat) (v1 : Int64) (v3 : Int32) (v4 : Int32) (h : qM) : t265 6 [some (qR 15 (some v0)), some (qJ v1), none, some (qI v3), some (qI v4)] [] h = if v4 ≤ v3 then (some (h, none)) else (bif qin v3 (mL h 15 v0) then (t265 6 [some (qR 15 (some v0)), some (qJ v1), none, some (qI (v3 + 1)), some (qI v4)] [] (sJ h 15 v0 (Int32.toNatClampNeg v3) v1)) else none) := qT_cut (qsub 1) lkJ7 0 cd265 [6] 12 6 _ _ _
/-- java/util/Arrays.fill([II)V -/
noncomputable def t266 : qK := qT (qsub 1) lkJ7 0 cd266
set_option maxRecDepth 20000 in
theorem c266 (x1 : Nat) (x2 : Int32) (h : qM) : qcal 266 [qR 14 (some x1), qI x2] h = t266 5 [some (qR 14 (some x1)), some (qI x2), some (qI 0), some (qI (Int32.ofNat (mL h 14 x1)))] [] h := (qcal_eq 266 [qR 14 (some x1), qI x2] h rfl rfl).trans (qT_cut (qsub 1) lkJ7 0 cd266 [5] 7 0 _ _ _)
set_option maxRecDepth 20000 in
theorem e266_5 (v0 : Nat) (v1 : Int32) (v2 : Int32) (v3 : Int32) (h : qM) : t266 5 [some (qR 14 (some v0)), some (qI v1), some (qI v2), some (qI v3)] [] h = if v3 ≤ v2 then (some (h, none)) else (bif qin v2 (mL h 14 v0) then (t266 5 [some (qR 14 (some v0)), some (qI v1), some (qI (v2 + 1)), some (qI v3)] [] (sI h 14 v0 (Int32.toNatClampNeg v2) v1)) else none) := qT_cut (qsub 1) lkJ7 0 cd266 [5] 12 5 _ _ _
/-- java/util/Arrays.copyOf([II)[I -/
noncomputable def t267 : qK := qT (qsub 1) lkJ7 4 cd267
set_option maxRecDepth 20000 in
theorem c267 (x1 : Nat) (x2 : Int32) (h : qM) : qcal 267 [qR 14 (some x1), qI x2] h = if x2 = (Int32.ofNat (mL h 14 x1)) then (some ((sW (qNew h 14 (mL h 14 x1)) 14 (mC h 14) (mI h 14 x1)), some (qR 14 (some (mC h 14))))) else (bif qin x2 65536 then (bif qcp 0 0 (if x2 < (Int32.ofNat (mL (qNew h 14 (Int32.toNatClampNeg x2)) 14 x1)) then x2 else (Int32.ofNat (mL (qNew h 14 (Int32.toNatClampNeg x2)) 14 x1))) (mL (qNew h 14 (Int32.toNatClampNeg x2)) 14 x1) (mL (qNew h 14 (Int32.toNatClampNeg x2)) 14 (mC h 14)) then (qlet (sW (qNew h 14 (Int32.toNatClampNeg x2)) 14 (mC h 14) (va_cpy (mI (qNew h 14 (Int32.toNatClampNeg x2)) 14 x1) (mI (qNew h 14 (Int32.toNatClampNeg x2)) 14 (mC h 14)) 0 0 (Int32.toNatClampNeg (if x2 < (Int32.ofNat (mL (qNew h 14 (Int32.toNatClampNeg x2)) 14 x1)) then x2 else (Int32.ofNat (mL (qNew h 14 (Int32.toNatClampNeg x2)) 14 x1)))))) fun m1 => some (m1, some (qR 14 (some (mC h 14))))) else none) else none) := (qcal_eq 267 [qR 14 (some x1), qI x2] h rfl rfl).trans (qT_cut (qsub 1) lkJ7 4 cd267 [] 24 0 _ _ _)
