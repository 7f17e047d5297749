/-! THE MACHINE OVER A FLAT MEMORY: values, memory, one instruction, a method's run as a limit -/
abbrev qV : Type := Int32 ⊕ (Int64 ⊕ (Nat × Option Nat))
abbrev qI (x : Int32) : qV := .inl x
abbrev qJ (x : Int64) : qV := .inr (.inl x)
abbrev qR (k : Nat) (o : Option Nat) : qV := .inr (.inr (k, o))
/-- what was made (objects, slots), how many of each kind, lengths, ints, longs, references -/
abbrev qM : Type := (Nat × Nat) × ((Nat → Nat) × ((Nat → Nat → Nat) × ((Nat → Nat → Nat → Int32) × ((Nat → Nat → Nat → Int64) × (Nat → Nat → Nat → Option Nat)))))
abbrev qO : Type := qM × Option qV
abbrev qK : Type := Nat → List (Option qV) → List qV → qM → Option qO
def mA (h : qM) : Nat × Nat := h.1
def mC (h : qM) (k : Nat) : Nat := h.2.1 k
def mL (h : qM) (k j : Nat) : Nat := h.2.2.1 k j
def mI (h : qM) (k j s : Nat) : Int32 := h.2.2.2.1 k j s
def mJ (h : qM) (k j s : Nat) : Int64 := h.2.2.2.2.1 k j s
def mP (h : qM) (k j s : Nat) : Option Nat := h.2.2.2.2.2 k j s
def u3 {α : Type} (f : Nat → Nat → Nat → α) (k j s : Nat) (v : α) : Nat → Nat → Nat → α := fun k' j' s' => if k' = k ∧ j' = j ∧ s' = s then v else f k' j' s'
def u2 {α : Type} (f : Nat → Nat → Nat → α) (k j : Nat) (g : Nat → α) : Nat → Nat → Nat → α := fun k' j' s' => if k' = k ∧ j' = j then g s' else f k' j' s'
def sI (h : qM) (k j s : Nat) (v : Int32) : qM := (h.1, h.2.1, h.2.2.1, u3 h.2.2.2.1 k j s v, h.2.2.2.2.1, h.2.2.2.2.2)
def sJ (h : qM) (k j s : Nat) (v : Int64) : qM := (h.1, h.2.1, h.2.2.1, h.2.2.2.1, u3 h.2.2.2.2.1 k j s v, h.2.2.2.2.2)
def sP (h : qM) (k j s : Nat) (v : Option Nat) : qM := (h.1, h.2.1, h.2.2.1, h.2.2.2.1, h.2.2.2.2.1, u3 h.2.2.2.2.2 k j s v)
/-- a whole row of ints -/
def sW (h : qM) (k j : Nat) (g : Nat → Int32) : qM := (h.1, h.2.1, h.2.2.1, u2 h.2.2.2.1 k j g, h.2.2.2.2.1, h.2.2.2.2.2)
/-- one more of kind k, with n slots: at the place mC h k -/
def qNew (h : qM) (k n : Nat) : qM := ((h.1.1 + 1, h.1.2 + n), (fun k' => if k' = k then h.2.1 k + 1 else h.2.1 k'), (fun k' j' => if k' = k ∧ j' = h.2.1 k then n else h.2.2.1 k' j'),
  u2 h.2.2.2.1 k (h.2.1 k) (fun _ => 0), u2 h.2.2.2.2.1 k (h.2.1 k) (fun _ => 0), u2 h.2.2.2.2.2 k (h.2.1 k) (fun _ => none))
def qlk {α : Type} : List (Nat × α) → Nat → Option α
  | [], _ => none
  | (a, b) :: t, i => bif Nat.beq a i then some b else qlk t i
def qget : List (Option qV) → Nat → Option qV
  | [], _ => none
  | a :: _, 0 => a
  | _ :: t, n + 1 => qget t n
def qput : List (Option qV) → Nat → Option qV → List (Option qV)
  | [], _, _ => []
  | _ :: t, 0, v => v :: t
  | a :: t, n + 1, v => a :: qput t n v
/-- a long's first half alone is nothing -/
def qnj : Option qV → Option qV
  | some (.inr (.inl _)) => none
  | v => v
def qsto : List (Option qV) → Nat → Option qV → List (Option qV)
  | [], _, _ => []
  | _ :: t, 0, v => v :: t
  | a :: t, 1, v => qnj a :: qput t 0 v
  | a :: t, n + 2, v => a :: qsto t (n + 1) v
def qcat : qV → Nat
  | .inr (.inl _) => 2
  | _ => 1
def qsum : List qV → Nat
  | [] => 0
  | v :: t => qcat v + qsum t
/-- n values off the stack, the deepest first -/
def qpop : Nat → List qV → List qV → Option (List qV × List qV)
  | 0, as, st => some (as, st)
  | _ + 1, _, [] => none
  | n + 1, as, v :: st => qpop n (v :: as) st
/-- a method's locals at its entry -/
def qent : List qV → Nat → List (Option qV)
  | [], n => List.replicate n none
  | v :: t, n => bif Nat.beq (qcat v) 2 then some v :: none :: qent t (n - 2) else some v :: qent t (n - 1)
def qtgt (pc : Nat) (off : Int) : Nat := ((pc : Int) + off).toNat
def qsw (x : Int32) (k : Int → Option qO) (d : Int) : List (Int × Int) → Option qO
  | [] => k d
  | (v, o) :: t => if x = Int32.ofInt v then k o else qsw x k d t
def qtab : Int → List Int → List (Int × Int)
  | _, [] => []
  | lo, o :: t => (lo, o) :: qtab (lo + 1) t
abbrev qL : Type := (List (Nat × (Nat × Nat × Nat))) × ((List (Nat × (Nat × Nat × Nat × Nat))) × ((List (Nat × (Nat × Nat))) × ((List (Nat × (Int32 ⊕ Nat))) × (List (Nat × Int64)))))
/-- the constants of text, as bytes -/
def qtext : List (List Int32) := [[118, 105, 108, 108, 97, 103, 101], [112, 101, 114, 115, 111, 110], [108, 101, 116, 116, 101, 114], [99, 108, 97, 105, 109], [110, 111, 116], [102, 105, 116, 115], [108, 97, 99, 107, 115], [98, 101, 121, 111, 110, 100], [112, 114, 105, 100, 101], [115, 104, 97, 109, 101], [115, 101, 101, 110], [104, 97, 115], [100, 97, 121], [105, 102], [97, 110, 100], [111, 114]]
def qtx (id : Nat) : List Int32 := (qtext[id]?).getD []
/-- a call's end: what it answers is laid on the stack -/
def qbV (o : Option qO) (f : qM → Option qO) : Option qO := o.bind fun r => match r.2 with
  | none => f r.1
  | _ => none
def qbI (o : Option qO) (f : Int32 → qM → Option qO) : Option qO := o.bind fun r => match r.2 with
  | some (.inl x) => f x r.1
  | _ => none
def qbJ (o : Option qO) (f : Int64 → qM → Option qO) : Option qO := o.bind fun r => match r.2 with
  | some (.inr (.inl x)) => f x r.1
  | _ => none
def qbR (n : Nat) (o : Option qO) (f : Option Nat → qM → Option qO) : Option qO := o.bind fun r => match r.2 with
  | some (.inr (.inr (k', o'))) => bif Nat.beq k' n then f o' r.1 else none
  | _ => none
def qback (rc : Nat) (o : Option qO) (k : List qV → qM → Option qO) (st : List qV) : Option qO :=
  match rc with
    | 0 => qbV o (fun h => k st h)
    | 1 => qbI o (fun x h => k (.inl x :: st) h)
    | 2 => qbJ o (fun x h => k (.inr (.inl x) :: st) h)
    | n + 3 => qbR n o (fun o' h => k (.inr (.inr (n, o')) :: st) h)
/-- x is a place of a row of n -/
def qin (x : Int32) (n : Nat) : Bool := !(decide (x < 0)) && Nat.blt x.toNatClampNeg n
def qcp (sp dp n : Int32) (l0 l1 : Nat) : Bool := ((!(decide (sp < 0)) && !(decide (dp < 0))) && !(decide (n < 0))) && (Nat.ble (sp.toNatClampNeg + n.toNatClampNeg) l0 && Nat.ble (dp.toNatClampNeg + n.toNatClampNeg) l1)
def qnn (o : Option Nat) (a b : Option qO) : Option qO := match o with
  | none => a
  | some _ => b
/-- a reference that is answered; null is one of kind 4 (no method answers null of another) -/
def qrn (r : Nat × Option Nat) : qV := bif Nat.beq r.1 0 then (match r.2 with
  | none => .inr (.inr (4, none))
  | some _ => .inr (.inr r)) else .inr (.inr r)
/-- one instruction: what it lays, and where it goes on -/
def qx (cal : Nat → List qV → qM → Option qO) (lk : qL) (rt : Nat) (i : Instr) (len pc : Nat) (ls : List (Option qV)) (st : List qV) (h : qM) (k : qK) : Option qO :=
  match i with
  | .aconst_null => k (pc + len) ls (qR 0 none :: st) h
  | .iconst n => k (pc + len) ls (qI (Int32.ofInt n) :: st) h
  | .bipush n => k (pc + len) ls (qI (Int32.ofInt n) :: st) h
  | .sipush n => k (pc + len) ls (qI (Int32.ofInt n) :: st) h
  | .lconst n => k (pc + len) ls (qJ (Int64.ofNat n.val) :: st) h
  | .ldc n => match qlk lk.2.2.2.1 n with
    | some (.inl x) => k (pc + len) ls (qI x :: st) h
    | some (.inr id) => k (pc + len) ls (qR 19 (some id) :: st) h
    | none => none
  | .ldc_w n => match qlk lk.2.2.2.1 n with
    | some (.inl x) => k (pc + len) ls (qI x :: st) h
    | some (.inr id) => k (pc + len) ls (qR 19 (some id) :: st) h
    | none => none
  | .ldc2_w n => match qlk lk.2.2.2.2 n with
    | some x => k (pc + len) ls (qJ x :: st) h
    | none => none
  | .iload n => match qget ls n with
    | some (.inl x) => k (pc + len) ls (.inl x :: st) h
    | _ => none
  | .iload_n n => match qget ls n.val with
    | some (.inl x) => k (pc + len) ls (.inl x :: st) h
    | _ => none
  | .lload n => match qget ls n with
    | some (.inr (.inl x)) => k (pc + len) ls (.inr (.inl x) :: st) h
    | _ => none
  | .lload_n n => match qget ls n.val with
    | some (.inr (.inl x)) => k (pc + len) ls (.inr (.inl x) :: st) h
    | _ => none
  | .aload n => match qget ls n with
    | some (.inr (.inr r)) => k (pc + len) ls (.inr (.inr r) :: st) h
    | _ => none
  | .aload_n n => match qget ls n.val with
    | some (.inr (.inr r)) => k (pc + len) ls (.inr (.inr r) :: st) h
    | _ => none
  | .istore n => match st with
    | .inl x :: st => k (pc + len) (qsto ls n (some (.inl x))) st h
    | _ => none
  | .istore_n n => match st with
    | .inl x :: st => k (pc + len) (qsto ls n.val (some (.inl x))) st h
    | _ => none
  | .lstore n => match st with
    | .inr (.inl x) :: st => k (pc + len) (qput (qsto ls n (some (.inr (.inl x)))) (n + 1) none) st h
    | _ => none
  | .lstore_n n => match st with
    | .inr (.inl x) :: st => k (pc + len) (qput (qsto ls n.val (some (.inr (.inl x)))) (n.val + 1) none) st h
    | _ => none
  | .astore n => match st with
    | .inr (.inr r) :: st => k (pc + len) (qsto ls n (some (.inr (.inr r)))) st h
    | _ => none
  | .astore_n n => match st with
    | .inr (.inr r) :: st => k (pc + len) (qsto ls n.val (some (.inr (.inr r)))) st h
    | _ => none
  | .iinc n c => match qget ls n with
    | some (.inl x) => k (pc + len) (qsto ls n (some (.inl (x + Int32.ofInt c)))) st h
    | _ => none
  | .dup => match st with
    | v :: st => bif Nat.beq (qcat v) 1 then k (pc + len) ls (v :: v :: st) h else none
    | _ => none
  | .dup2 => match st with
    | .inr (.inl x) :: st => k (pc + len) ls (.inr (.inl x) :: .inr (.inl x) :: st) h
    | v :: w :: st => bif Nat.beq (qcat v) 1 && Nat.beq (qcat w) 1 then k (pc + len) ls (v :: w :: v :: w :: st) h else none
    | _ => none
  | .pop => match st with
    | v :: st => bif Nat.beq (qcat v) 1 then k (pc + len) ls st h else none
    | _ => none
  | .iadd => match st with
    | .inl y :: .inl x :: st => k (pc + len) ls (qI (x + y) :: st) h
    | _ => none
  | .isub => match st with
    | .inl y :: .inl x :: st => k (pc + len) ls (qI (x - y) :: st) h
    | _ => none
  | .imul => match st with
    | .inl y :: .inl x :: st => k (pc + len) ls (qI (x * y) :: st) h
    | _ => none
  | .iand => match st with
    | .inl y :: .inl x :: st => k (pc + len) ls (qI (x &&& y) :: st) h
    | _ => none
  | .ior => match st with
    | .inl y :: .inl x :: st => k (pc + len) ls (qI (x ||| y) :: st) h
    | _ => none
  | .ixor => match st with
    | .inl y :: .inl x :: st => k (pc + len) ls (qI (x ^^^ y) :: st) h
    | _ => none
  | .ishl => match st with
    | .inl y :: .inl x :: st => k (pc + len) ls (qI (x <<< (y &&& 31)) :: st) h
    | _ => none
  | .ishr => match st with
    | .inl y :: .inl x :: st => k (pc + len) ls (qI (x >>> (y &&& 31)) :: st) h
    | _ => none
  | .iushr => match st with
    | .inl y :: .inl x :: st => k (pc + len) ls (qI (x.toUInt32 >>> (y.toUInt32 &&& Int32.toUInt32 31)).toInt32 :: st) h
    | _ => none
  | .idiv => match st with
    | .inl y :: .inl x :: st => bif decide (y = 0) then none else k (pc + len) ls (qI (x / y) :: st) h
    | _ => none
  | .irem => match st with
    | .inl y :: .inl x :: st => bif decide (y = 0) then none else k (pc + len) ls (qI (x - x / y * y) :: st) h
    | _ => none
  | .ineg => match st with
    | .inl x :: st => k (pc + len) ls (qI (-x) :: st) h
    | _ => none
  | .ladd => match st with
    | .inr (.inl y) :: .inr (.inl x) :: st => k (pc + len) ls (qJ (x + y) :: st) h
    | _ => none
  | .lsub => match st with
    | .inr (.inl y) :: .inr (.inl x) :: st => k (pc + len) ls (qJ (x - y) :: st) h
    | _ => none
  | .lmul => match st with
    | .inr (.inl y) :: .inr (.inl x) :: st => k (pc + len) ls (qJ (x * y) :: st) h
    | _ => none
  | .land => match st with
    | .inr (.inl y) :: .inr (.inl x) :: st => k (pc + len) ls (qJ (x &&& y) :: st) h
    | _ => none
  | .lor => match st with
    | .inr (.inl y) :: .inr (.inl x) :: st => k (pc + len) ls (qJ (x ||| y) :: st) h
    | _ => none
  | .lshl => match st with
    | .inl y :: .inr (.inl x) :: st => k (pc + len) ls (qJ (x <<< (y.toInt64 &&& 63)) :: st) h
    | _ => none
  | .ldiv => match st with
    | .inr (.inl y) :: .inr (.inl x) :: st => bif decide (y = 0) then none else k (pc + len) ls (qJ (x / y) :: st) h
    | _ => none
  | .lrem => match st with
    | .inr (.inl y) :: .inr (.inl x) :: st => bif decide (y = 0) then none else k (pc + len) ls (qJ (x - x / y * y) :: st) h
    | _ => none
  | .lcmp => match st with
    | .inr (.inl y) :: .inr (.inl x) :: st => k (pc + len) ls (qI (lg_cmp x y) :: st) h
    | _ => none
  | .i2l => match st with
    | .inl x :: st => k (pc + len) ls (qJ x.toInt64 :: st) h
    | _ => none
  | .l2i => match st with
    | .inr (.inl x) :: st => k (pc + len) ls (qI x.toInt32 :: st) h
    | _ => none
  | .i2b => match st with
    | .inl x :: st => k (pc + len) ls (qI x.toInt8.toInt32 :: st) h
    | _ => none
  | .goto off => k (qtgt pc off) ls st h
  | .ifCond c off => match st with
    | .inl x :: st => match c with
      | .eq => if x = 0 then k (qtgt pc off) ls st h else k (pc + len) ls st h
      | .ne => if x = 0 then k (pc + len) ls st h else k (qtgt pc off) ls st h
      | .lt => if x < 0 then k (qtgt pc off) ls st h else k (pc + len) ls st h
      | .ge => if 0 ≤ x then k (qtgt pc off) ls st h else k (pc + len) ls st h
      | .gt => if 0 < x then k (qtgt pc off) ls st h else k (pc + len) ls st h
      | .le => if x ≤ 0 then k (qtgt pc off) ls st h else k (pc + len) ls st h
    | _ => none
  | .if_icmp c off => match st with
    | .inl y :: .inl x :: st => match c with
      | .eq => if x = y then k (qtgt pc off) ls st h else k (pc + len) ls st h
      | .ne => if x = y then k (pc + len) ls st h else k (qtgt pc off) ls st h
      | .lt => if x < y then k (qtgt pc off) ls st h else k (pc + len) ls st h
      | .ge => if y ≤ x then k (qtgt pc off) ls st h else k (pc + len) ls st h
      | .gt => if y < x then k (qtgt pc off) ls st h else k (pc + len) ls st h
      | .le => if x ≤ y then k (qtgt pc off) ls st h else k (pc + len) ls st h
    | _ => none
  | .ifnonnull off => match st with
    | .inr (.inr (_, o)) :: st => qnn o (k (pc + len) ls st h) (k (qtgt pc off) ls st h)
    | _ => none
  | .lookupswitch d ps => match st with
    | .inl x :: st => qsw x (fun off => k (qtgt pc off) ls st h) d ps.toList
    | _ => none
  | .tableswitch d lo _ offs => match st with
    | .inl x :: st => qsw x (fun off => k (qtgt pc off) ls st h) d (qtab lo offs.toList)
    | _ => none
  | .getfield n => match st with
    | .inr (.inr (k0, o)) :: st => match qlk lk.1 n with
      | some (kc, s, ft) => bif Nat.beq k0 kc then o.bind fun j => match ft with
          | 0 => k (pc + len) ls (qI (mI h kc j s) :: st) h
          | 1 => k (pc + len) ls (qJ (mJ h kc j s) :: st) h
          | 2 => k (pc + len) ls (qI (mI h kc j s) :: st) h
          | k' + 3 => k (pc + len) ls (qR k' (mP h kc j s) :: st) h
        else none
      | none => none
    | _ => none
  | .putfield n => match st with
    | v :: .inr (.inr (k0, o)) :: st => match qlk lk.1 n with
      | some (kc, s, ft) => bif Nat.beq k0 kc then o.bind fun j => match ft, v with
          | 0, .inl x => k (pc + len) ls st (sI h kc j s x)
          | 1, .inr (.inl x) => k (pc + len) ls st (sJ h kc j s x)
          | 2, .inl x => bif decide (x &&& 1 = x) then k (pc + len) ls st (sI h kc j s x) else none
          | k' + 3, .inr (.inr (kv, ov)) => bif Nat.beq kv k' then k (pc + len) ls st (sP h kc j s ov) else match ov with
            | none => k (pc + len) ls st (sP h kc j s none)
            | some _ => none
          | _, _ => none
        else none
      | none => none
    | _ => none
  | .arraylength => match st with
    | .inr (.inr (k0, o)) :: st => bif Nat.ble 13 k0 && Nat.ble k0 18 then o.bind fun j => k (pc + len) ls (qI (Int32.ofNat (mL h k0 j)) :: st) h else none
    | _ => none
  | .iaload => match st with
    | .inl x :: .inr (.inr (k0, o)) :: st => bif Nat.beq k0 14 then o.bind fun j => bif qin x (mL h 14 j) then k (pc + len) ls (qI (mI h 14 j x.toNatClampNeg) :: st) h else none else none
    | _ => none
  | .baload => match st with
    | .inl x :: .inr (.inr (k0, o)) :: st => bif Nat.beq k0 13 || Nat.beq k0 16 then o.bind fun j => bif qin x (mL h k0 j) then k (pc + len) ls (qI (mI h k0 j x.toNatClampNeg) :: st) h else none else none
    | _ => none
  | .laload => match st with
    | .inl x :: .inr (.inr (k0, o)) :: st => bif Nat.beq k0 15 then o.bind fun j => bif qin x (mL h 15 j) then k (pc + len) ls (qJ (mJ h 15 j x.toNatClampNeg) :: st) h else none else none
    | _ => none
  | .aaload => match st with
    | .inl x :: .inr (.inr (k0, o)) :: st => o.bind fun j => bif qin x (mL h k0 j) then match k0 with
        | 17 => k (pc + len) ls (qR 4 (mP h 17 j x.toNatClampNeg) :: st) h
        | 18 => k (pc + len) ls (qR 6 (mP h 18 j x.toNatClampNeg) :: st) h
        | _ => none
      else none
    | _ => none
  | .iastore => match st with
    | .inl v :: .inl x :: .inr (.inr (k0, o)) :: st => bif Nat.beq k0 14 then o.bind fun j => bif qin x (mL h 14 j) then k (pc + len) ls st (sI h 14 j x.toNatClampNeg v) else none else none
    | _ => none
  | .bastore => match st with
    | .inl v :: .inl x :: .inr (.inr (k0, o)) :: st => o.bind fun j => bif qin x (mL h k0 j) then match k0 with
        | 13 => k (pc + len) ls st (sI h 13 j x.toNatClampNeg v.toInt8.toInt32)
        | 16 => bif decide (v &&& 1 = v) then k (pc + len) ls st (sI h 16 j x.toNatClampNeg v) else none
        | _ => none
      else none
    | _ => none
  | .lastore => match st with
    | .inr (.inl v) :: .inl x :: .inr (.inr (k0, o)) :: st => bif Nat.beq k0 15 then o.bind fun j => bif qin x (mL h 15 j) then k (pc + len) ls st (sJ h 15 j x.toNatClampNeg v) else none else none
    | _ => none
  | .aastore => match st with
    | .inr (.inr (kv, ov)) :: .inl x :: .inr (.inr (k0, o)) :: st => o.bind fun j => ov.bind fun jv => bif qin x (mL h k0 j) then match k0, kv with
        | 17, 4 => k (pc + len) ls st (sP h 17 j x.toNatClampNeg (some jv))
        | 18, 6 => k (pc + len) ls st (sP h 18 j x.toNatClampNeg (some jv))
        | _, _ => none
      else none
    | _ => none
  | .new n => match qlk lk.2.2.1 n with
    | some (kc, ns) => k (pc + len) ls (qR kc (some (mC h kc)) :: st) (qNew h kc ns)
    | none => none
  | .newarray t => match st with
    | .inl x :: st => bif qin x 65536 then match t with
        | .byte => k (pc + len) ls (qR 13 (some (mC h 13)) :: st) (qNew h 13 x.toNatClampNeg)
        | .int => k (pc + len) ls (qR 14 (some (mC h 14)) :: st) (qNew h 14 x.toNatClampNeg)
        | .long => k (pc + len) ls (qR 15 (some (mC h 15)) :: st) (qNew h 15 x.toNatClampNeg)
        | .boolean => k (pc + len) ls (qR 16 (some (mC h 16)) :: st) (qNew h 16 x.toNatClampNeg)
        | _ => none
      else none
    | _ => none
  | .anewarray n => match st with
    | .inl x :: st => match qlk lk.2.2.1 n with
      | some (kc, _) => bif qin x 65536 then match kc with
          | 4 => k (pc + len) ls (qR 17 (some (mC h 17)) :: st) (qNew h 17 x.toNatClampNeg)
          | 6 => k (pc + len) ls (qR 18 (some (mC h 18)) :: st) (qNew h 18 x.toNatClampNeg)
          | _ => none
        else none
      | none => none
    | _ => none
  | .checkcast _ => match st with
    | .inr (.inr (14, some j)) :: st => k (pc + len) ls (.inr (.inr (14, some j)) :: st) h
    | _ => none
  | .invokestatic n => match qlk lk.2.1 n with
    | some (0, mid, na, rc) => match qpop na [] st with
      | some (as, st) => bif Nat.ble (qsum st) 8 then qback rc (cal mid as h) (fun st h => k (pc + len) ls st h) st else none
      | none => none
    | some (2, _, _, _) => match st with
      | .inl y :: .inl x :: st => bif Nat.ble (qsum st) 8 then k (pc + len) ls (qI (if x < y then y else x) :: st) h else none
      | _ => none
    | some (3, _, _, _) => match st with
      | .inl y :: .inl x :: st => bif Nat.ble (qsum st) 8 then k (pc + len) ls (qI (if y < x then y else x) :: st) h else none
      | _ => none
    | some (4, _, _, _) => match st with
      | .inr (.inl y) :: .inr (.inl x) :: st => bif Nat.ble (qsum st) 8 then k (pc + len) ls (qJ (if y < x then x else y) :: st) h else none
      | _ => none
    | some (5, _, _, _) => match st with
      | .inl n :: .inl dp :: .inr (.inr (14, od)) :: .inl sp :: .inr (.inr (14, os)) :: st => bif Nat.ble (qsum st) 8 then od.bind fun jd => os.bind fun js =>
          bif qcp sp dp n (mL h 14 js) (mL h 14 jd) then
            k (pc + len) ls st (sW h 14 jd (va_cpy (mI h 14 js) (mI h 14 jd) sp.toNatClampNeg dp.toNatClampNeg n.toNatClampNeg))
          else none
        else none
      | _ => none
    | _ => none
  | .invokevirtual n => match qlk lk.2.1 n with
    | some (6, _, _, _) => match st with
      | .inr (.inr (14, o)) :: st => bif Nat.ble (qsum st) 8 then o.bind fun j => k (pc + len) ls (qR 14 (some (mC h 14)) :: st) (sW (qNew h 14 (mL h 14 j)) 14 (mC h 14) (mI h 14 j)) else none
      | _ => none
    | some (8, _, _, _) => match st with
      | .inr (.inr (19, o)) :: st => bif Nat.ble (qsum st) 8 then o.bind (fun id => bif Nat.blt id 16 then k (pc + len) ls (qI (Int32.ofNat (qtx id).length) :: st) h else none) else none
      | _ => none
    | some (9, _, _, _) => match st with
      | .inl x :: .inr (.inr (19, o)) :: st => bif Nat.ble (qsum st) 8 then o.bind (fun id => bif Nat.blt id 16 && qin x (qtx id).length then k (pc + len) ls (qI ((qtx id).getD x.toNatClampNeg 0) :: st) h else none) else none
      | _ => none
    | some (kk + 10, mid, na, rc) => match qpop (na + 1) [] st with
      | some (.inr (.inr (k0, o)) :: as, st) => bif Nat.beq k0 kk && Nat.ble (qsum st) 8 then o.bind fun j => qback rc (cal mid (.inr (.inr (k0, some j)) :: as) h) (fun st h => k (pc + len) ls st h) st else none
      | _ => none
    | _ => none
  | .invokespecial n => match qlk lk.2.1 n with
    | some (7, _, _, _) => match st with
      | .inr (.inr (_, some _)) :: st => bif Nat.ble (qsum st) 8 then k (pc + len) ls st h else none
      | _ => none
    | some (kk + 10, mid, na, _) => match qpop (na + 1) [] st with
      | some (.inr (.inr (k0, o)) :: as, st) => bif Nat.beq k0 kk && Nat.ble (qsum st) 8 then o.bind fun j => qback 0 (cal mid (.inr (.inr (k0, some j)) :: as) h) (fun st h => k (pc + len) ls st h) st else none
      | _ => none
    | _ => none
  | .ireturn => match st with
    | [.inl x] => match rt with
      | 1 => some (h, some (.inl x))
      | 2 => bif decide (x &&& 1 = x) then some (h, some (.inl x)) else none
      | _ => none
    | _ => none
  | .lreturn => match st with
    | [.inr (.inl x)] => match rt with
      | 3 => some (h, some (.inr (.inl x)))
      | _ => none
    | _ => none
  | .areturn => match st with
    | [.inr (.inr r)] => match rt with
      | 4 => some (h, some (qrn r))
      | _ => none
    | _ => none
  | .return_ => match st with
    | [] => match rt with
      | 0 => some (h, none)
      | _ => none
    | _ => none
  | _ => none
