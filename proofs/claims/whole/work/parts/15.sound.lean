/-! EVERY INSTRUCTION, EVERY RUN, EVERY METHOD -/
/-- what must be so of an instruction, its place, its method -/
def qIb (ini : Bool) (ow : String) (lk : qL) (nL rank pc : Nat) (i : Instr) (len : Nat) : Bool :=
  match i with
  | .aconst_null => Nat.beq len 1
  | .ldc _ => Nat.beq len 2
  | .ldc_w _ => Nat.beq len 3
  | .ldc2_w _ => Nat.beq len 3
  | .iload _ => Nat.beq len 2
  | .iload_n _ => Nat.beq len 1
  | .lload _ => Nat.beq len 2
  | .lload_n _ => Nat.beq len 1
  | .aload _ => Nat.beq len 2
  | .aload_n _ => Nat.beq len 1
  | .iconst _ => Nat.beq len 1
  | .lconst _ => Nat.beq len 1
  | .iinc _ _ => Nat.beq len 3
  | .dup => Nat.beq len 1
  | .dup2 => Nat.beq len 1
  | .pop => Nat.beq len 1
  | .getfield _ => Nat.beq len 3
  | .arraylength => Nat.beq len 1
  | .iaload => Nat.beq len 1
  | .baload => Nat.beq len 1
  | .laload => Nat.beq len 1
  | .aaload => Nat.beq len 1
  | .iastore => Nat.beq len 1
  | .bastore => Nat.beq len 1
  | .lastore => Nat.beq len 1
  | .aastore => Nat.beq len 1
  | .new _ => Nat.beq len 3
  | .newarray _ => Nat.beq len 2
  | .anewarray _ => Nat.beq len 3
  | .ireturn => Nat.beq len 1
  | .lreturn => Nat.beq len 1
  | .areturn => Nat.beq len 1
  | .return_ => Nat.beq len 1
  | .iadd => Nat.beq len 1
  | .isub => Nat.beq len 1
  | .imul => Nat.beq len 1
  | .iand => Nat.beq len 1
  | .ior => Nat.beq len 1
  | .ixor => Nat.beq len 1
  | .ishl => Nat.beq len 1
  | .ishr => Nat.beq len 1
  | .iushr => Nat.beq len 1
  | .idiv => Nat.beq len 1
  | .irem => Nat.beq len 1
  | .ineg => Nat.beq len 1
  | .ladd => Nat.beq len 1
  | .lsub => Nat.beq len 1
  | .lmul => Nat.beq len 1
  | .land => Nat.beq len 1
  | .lor => Nat.beq len 1
  | .lshl => Nat.beq len 1
  | .ldiv => Nat.beq len 1
  | .lrem => Nat.beq len 1
  | .lcmp => Nat.beq len 1
  | .i2l => Nat.beq len 1
  | .l2i => Nat.beq len 1
  | .i2b => Nat.beq len 1
  | .bipush n => Nat.beq len 2 && decide ((Int8.ofInt n).toInt32 = Int32.ofInt n)
  | .sipush n => Nat.beq len 3 && decide ((Int16.ofInt n).toInt32 = Int32.ofInt n)
  | .istore n => Nat.beq len 2 && Nat.blt n nL
  | .istore_n n => Nat.beq len 1 && Nat.blt n.val nL
  | .astore n => Nat.beq len 2 && Nat.blt n nL
  | .astore_n n => Nat.beq len 1 && Nat.blt n.val nL
  | .lstore n => Nat.beq len 2 && Nat.blt (n + 1) nL
  | .lstore_n n => Nat.beq len 1 && Nat.blt (n.val + 1) nL
  | .goto off => Nat.beq len 3 && decide (0 ≤ (pc : Int) + off)
  | .ifCond _ off => Nat.beq len 3 && decide (0 ≤ (pc : Int) + off)
  | .if_icmp _ off => Nat.beq len 3 && decide (0 ≤ (pc : Int) + off)
  | .ifnonnull off => Nat.beq len 3 && decide (0 ≤ (pc : Int) + off)
  | .lookupswitch d ps => (ps.toList.zip (ps.toList.drop 1)).all (fun (a, next) => a.1 < next.1) && (ps.toList.all (fun q => decide ((Int32.ofInt q.1).toInt = q.1)) && (d :: ps.toList.map Prod.snd).all (fun o => decide (0 ≤ (pc : Int) + o)))
  | .tableswitch d lo hi offs => decide (hi = lo + (offs.toList.length : Int) - 1) && (decide (-2147483648 ≤ lo) && (decide (hi < 2147483648) && (d :: offs.toList).all (fun o => decide (0 ≤ (pc : Int) + o))))
  | .putfield n => Nat.beq len 3 && (match qlk lk.1 n with
    | some (k, s, _) => !(qTT k s).2.2.2 || (ini && decide ((qTT k s).1 = ow))
    | none => true)
  | .checkcast n => Nat.beq len 3 && decide (ow = RJ7 ∧ n = 317)
  | .invokestatic n => Nat.beq len 3 && (match qlk lk.2.1 n with
    | some (0, _, _, _) => true
    | some (2, _, _, _) => true
    | some (3, _, _, _) => true
    | some (4, _, _, _) => true
    | some (5, _, _, _) => true
    | _ => false)
  | .invokevirtual n => Nat.beq len 3 && (match qlk lk.2.1 n with
    | some (6, _, _, _) => true
    | some (8, _, _, _) => Nat.ble 5 rank
    | some (9, _, _, _) => Nat.ble 5 rank
    | some (_ + 10, mid, _, _) => (match qmdt mid with
      | some md => !(decide (md.1.name = "<init>"))
      | none => false)
    | _ => false)
  | .invokespecial n => Nat.beq len 3 && (match qlk lk.2.1 n with
    | some (7, _, _, _) => true
    | some (_ + 10, mid, _, _) => (match qmdt mid with
      | some md => decide (md.1.name = "<init>")
      | none => false)
    | _ => false)
  | _ => false
theorem beq_len {len n : Nat} (h : Nat.beq len n = true) : len = n := Nat.eq_of_beq_eq_true h
theorem blt_lt {a b : Nat} (h : Nat.blt a b = true) : a < b := Nat.le_of_ble_eq_true h
section QS
variable {p : Program} {l : Launch} {e : Env} {R : Room} {s : State} {m : MethodId} {args : Array Value} {below : List Frame} {meth : Method} {c : Code} {cc : ByteArray} {nL : Nat} {ow : String} {ini : Bool} {D : va_G} {cy : Nat → ClassId} {A : Nat → Prop} {Q : State → Prop} {h0 : qM} {ρ0 : Nat → Nat → Nat} {r : qO} {cal : Nat → List qV → qM → Option qO} {lk : qL} {rt : Nat} {k : qK} {pc : Nat} {ls : List (Option qV)} {st : List qV} {h : qM}

theorem qsite {ow : String} {lk : qL} (hSk : qSok ow lk) {n : Nat} {x : Nat × (Nat × (Nat × Nat))} (hq : qlk lk.2.1 n = some x) : qS1 ow n x := qlk_all (P := fun i x => qS1 ow i x) hSk hq
theorem wCast : Cond.classLink RJ7 317 "[I" ∈ lw_good := mem_good 780 (by decide +kernel) (by decide +kernel)
set_option maxHeartbeats 4000000 in
theorem qstep (C : qCx p s m args meth c cc nL ow ini D cy A R h0 ρ0 r) (hk : ∀ a b c' d, k a b c' d = some r → mle d r.1 ∧ qGo p l e R s m args below meth c nL D cy A (MQ below (qPost D cy A ρ0 h0 r) args s ((mA r.1).1 - (mA h0).1) ((mA r.1).2 - (mA h0).2) A) h0 ρ0 a b c' d) {rank : Nat} (hrk : R.frames = rank ∧ R.locals = 36 * rank) {ret : Option FieldType} (hr : meth.sig.returnType = ret) (hrt : qrtok rt ret) (hL : qLok ow lk) (hSk : qSok ow lk) (hcal : ∀ mid as h1 r1, cal mid as h1 = some r1 → qCl h1 → (∀ w ∈ as, qOk h1 w) → mle h1 r1.1 ∧ ∃ rk md, qmdt mid = some md ∧ qMok md ∧ rk + 1 ≤ R.frames ∧ 36 * (rk + 1) ≤ R.locals ∧ qMet l rk md as h1 r1)
    {i : Instr} {len : Nat} (hd : decode cc pc = .ok (i, len)) (hI : qIb ini ow lk nL rank pc i len = true) (E : qx cal lk rt i len pc ls st h k = some r) : qGo p l e R s m args below meth c nL D cy A (MQ below (qPost D cy A ρ0 h0 r) args s ((mA r.1).1 - (mA h0).1) ((mA r.1).2 - (mA h0).2) A) h0 ρ0 pc ls st h := by
  have hcal0 := hcal
  cases i <;> unfold qIb at hI <;> dsimp only at hI <;> try (cases hI; done)
  case aconst_null =>
    cases beq_len hI
    exact qs_aconst_null C hk hd E
  case iload =>
    cases beq_len hI
    exact qs_iload C hk hd E
  case iload_n =>
    cases beq_len hI
    exact qs_iload_n C hk hd E
  case lload =>
    cases beq_len hI
    exact qs_lload C hk hd E
  case lload_n =>
    cases beq_len hI
    exact qs_lload_n C hk hd E
  case aload =>
    cases beq_len hI
    exact qs_aload C hk hd E
  case aload_n =>
    cases beq_len hI
    exact qs_aload_n C hk hd E
  case iconst =>
    cases beq_len hI
    exact qs_iconst C hk hd E
  case lconst =>
    cases beq_len hI
    exact qs_lconst C hk hd E
  case iinc =>
    cases beq_len hI
    exact qs_iinc C hk hd E
  case dup =>
    cases beq_len hI
    exact qs_dup C hk hd E
  case dup2 =>
    cases beq_len hI
    exact qs_dup2 C hk hd E
  case pop =>
    cases beq_len hI
    exact qs_pop C hk hd E
  case arraylength =>
    cases beq_len hI
    exact qs_arraylength C hk hd E
  case iaload =>
    cases beq_len hI
    exact qs_iaload C hk hd E
  case baload =>
    cases beq_len hI
    exact qs_baload C hk hd E
  case laload =>
    cases beq_len hI
    exact qs_laload C hk hd E
  case aaload =>
    cases beq_len hI
    exact qs_aaload C hk hd E
  case iastore =>
    cases beq_len hI
    exact qs_iastore C hk hd E
  case bastore =>
    cases beq_len hI
    exact qs_bastore C hk hd E
  case lastore =>
    cases beq_len hI
    exact qs_lastore C hk hd E
  case aastore =>
    cases beq_len hI
    exact qs_aastore C hk hd E
  case newarray =>
    cases beq_len hI
    exact qs_newarray C hk hd E
  case iadd =>
    cases beq_len hI
    exact qs_iadd C hk hd E
  case isub =>
    cases beq_len hI
    exact qs_isub C hk hd E
  case imul =>
    cases beq_len hI
    exact qs_imul C hk hd E
  case iand =>
    cases beq_len hI
    exact qs_iand C hk hd E
  case ior =>
    cases beq_len hI
    exact qs_ior C hk hd E
  case ixor =>
    cases beq_len hI
    exact qs_ixor C hk hd E
  case ishl =>
    cases beq_len hI
    exact qs_ishl C hk hd E
  case ishr =>
    cases beq_len hI
    exact qs_ishr C hk hd E
  case iushr =>
    cases beq_len hI
    exact qs_iushr C hk hd E
  case idiv =>
    cases beq_len hI
    exact qs_idiv C hk hd E
  case irem =>
    cases beq_len hI
    exact qs_irem C hk hd E
  case ineg =>
    cases beq_len hI
    exact qs_ineg C hk hd E
  case ladd =>
    cases beq_len hI
    exact qs_ladd C hk hd E
  case lsub =>
    cases beq_len hI
    exact qs_lsub C hk hd E
  case lmul =>
    cases beq_len hI
    exact qs_lmul C hk hd E
  case land =>
    cases beq_len hI
    exact qs_land C hk hd E
  case lor =>
    cases beq_len hI
    exact qs_lor C hk hd E
  case lshl =>
    cases beq_len hI
    exact qs_lshl C hk hd E
  case ldiv =>
    cases beq_len hI
    exact qs_ldiv C hk hd E
  case lrem =>
    cases beq_len hI
    exact qs_lrem C hk hd E
  case lcmp =>
    cases beq_len hI
    exact qs_lcmp C hk hd E
  case i2l =>
    cases beq_len hI
    exact qs_i2l C hk hd E
  case l2i =>
    cases beq_len hI
    exact qs_l2i C hk hd E
  case i2b =>
    cases beq_len hI
    exact qs_i2b C hk hd E
  case ldc =>
    cases beq_len hI
    exact qs_ldc C hk hL hd E
  case ldc_w =>
    cases beq_len hI
    exact qs_ldc_w C hk hL hd E
  case ldc2_w =>
    cases beq_len hI
    exact qs_ldc2_w C hk hL hd E
  case getfield =>
    cases beq_len hI
    exact qs_getfield C hk hL hd E
  case anewarray =>
    cases beq_len hI
    exact qs_anewarray C hk hL hd E
  case new =>
    cases beq_len hI
    exact qs_new C hk hL (fun k0 ns hq => wNew k0 (qlk_all (P := fun i x => x.1 < 13 ∧ x.2 = qnf x.1 ∧ Cond.classLink ow i (qRC x.1) ∈ lw_good) hL.2.2.2 hq).1) hd E
  case ireturn =>
    cases beq_len hI
    exact qs_ireturn C hr hrt hd E
  case lreturn =>
    cases beq_len hI
    exact qs_lreturn C hr hrt hd E
  case areturn =>
    cases beq_len hI
    exact qs_areturn C hr hrt hd E
  case return_ =>
    cases beq_len hI
    exact qs_return_ C hr hrt hd E
  case bipush =>
    rw [Bool.and_eq_true] at hI
    cases beq_len hI.1
    exact qs_bipush C hk (of_decide_eq_true hI.2) hd E
  case sipush =>
    rw [Bool.and_eq_true] at hI
    cases beq_len hI.1
    exact qs_sipush C hk (of_decide_eq_true hI.2) hd E
  case istore =>
    rw [Bool.and_eq_true] at hI
    cases beq_len hI.1
    exact qs_istore C hk (blt_lt hI.2) hd E
  case istore_n =>
    rw [Bool.and_eq_true] at hI
    cases beq_len hI.1
    exact qs_istore_n C hk (blt_lt hI.2) hd E
  case astore =>
    rw [Bool.and_eq_true] at hI
    cases beq_len hI.1
    exact qs_astore C hk (blt_lt hI.2) hd E
  case astore_n =>
    rw [Bool.and_eq_true] at hI
    cases beq_len hI.1
    exact qs_astore_n C hk (blt_lt hI.2) hd E
  case lstore =>
    rw [Bool.and_eq_true] at hI
    cases beq_len hI.1
    exact qs_lstore C hk (blt_lt hI.2) hd E
  case lstore_n =>
    rw [Bool.and_eq_true] at hI
    cases beq_len hI.1
    exact qs_lstore_n C hk (blt_lt hI.2) hd E
  case goto =>
    rw [Bool.and_eq_true] at hI
    cases beq_len hI.1
    exact qs_goto C hk (of_decide_eq_true hI.2) hd E
  case ifnonnull =>
    rw [Bool.and_eq_true] at hI
    cases beq_len hI.1
    exact qs_ifnonnull C hk (of_decide_eq_true hI.2) hd E
  case ifCond cnd off =>
    rw [Bool.and_eq_true] at hI
    cases beq_len hI.1
    cases cnd
    · exact qs_if_eq C hk (of_decide_eq_true hI.2) hd E
    · exact qs_if_ne C hk (of_decide_eq_true hI.2) hd E
    · exact qs_if_lt C hk (of_decide_eq_true hI.2) hd E
    · exact qs_if_ge C hk (of_decide_eq_true hI.2) hd E
    · exact qs_if_gt C hk (of_decide_eq_true hI.2) hd E
    · exact qs_if_le C hk (of_decide_eq_true hI.2) hd E
  case if_icmp cnd off =>
    rw [Bool.and_eq_true] at hI
    cases beq_len hI.1
    cases cnd
    · exact qs_icmp_eq C hk (of_decide_eq_true hI.2) hd E
    · exact qs_icmp_ne C hk (of_decide_eq_true hI.2) hd E
    · exact qs_icmp_lt C hk (of_decide_eq_true hI.2) hd E
    · exact qs_icmp_ge C hk (of_decide_eq_true hI.2) hd E
    · exact qs_icmp_gt C hk (of_decide_eq_true hI.2) hd E
    · exact qs_icmp_le C hk (of_decide_eq_true hI.2) hd E
  case lookupswitch d ps =>
    rw [Bool.and_eq_true, Bool.and_eq_true] at hI
    exact qs_lookupswitch C hk hI.1 (fun q hq => of_decide_eq_true (List.all_eq_true.mp hI.2.1 q hq)) (fun o ho => of_decide_eq_true (List.all_eq_true.mp hI.2.2 o ho)) hd E
  case tableswitch d lo hi offs =>
    rw [Bool.and_eq_true, Bool.and_eq_true, Bool.and_eq_true] at hI
    exact qs_tableswitch C hk (of_decide_eq_true hI.1) (of_decide_eq_true hI.2.1) (of_decide_eq_true hI.2.2.1) (fun o ho => of_decide_eq_true (List.all_eq_true.mp hI.2.2.2 o ho)) hd E
  case putfield n =>
    rw [Bool.and_eq_true] at hI
    cases beq_len hI.1
    refine qs_putfield C hk hL (fun k0 s0 f0 hq => ?_) hd E
    have h2 := hI.2
    rw [hq] at h2
    dsimp only at h2
    rw [Bool.or_eq_true, Bool.not_eq_true', Bool.and_eq_true] at h2
    exact h2.imp _root_.id (fun h3 => ⟨h3.1, of_decide_eq_true h3.2⟩)
  case checkcast n =>
    rw [Bool.and_eq_true] at hI
    cases beq_len hI.1
    obtain ⟨h1, h2⟩ := of_decide_eq_true hI.2
    subst h1
    subst h2
    exact qs_checkcast C hk wCast hd E
  case invokestatic n =>
    rw [Bool.and_eq_true] at hI
    cases beq_len hI.1
    have h2 := hI.2
    have hSn := @qsite ow lk hSk n
    split at h2
    · rename_i a1 a2 a3 hq
      refine qs_invokestatic C hk (mdt := qmdt) (fun mid na rc hq' md hmd => ?_) ⟨_, _, _, hq⟩ hcal hd E
      exact (hSn hq').1 rfl md hmd
    · rename_i a1 a2 a3 hq
      exact qs_max C hk hq ((hSn hq).2.2.1 rfl) hd E
    · rename_i a1 a2 a3 hq
      exact qs_min C hk hq ((hSn hq).2.2.2.1 rfl) hd E
    · rename_i a1 a2 a3 hq
      exact qs_maxL C hk hq ((hSn hq).2.2.2.2.1 rfl) hd E
    · rename_i a1 a2 a3 hq
      exact qs_arraycopy C hk hq ((hSn hq).2.2.2.2.2.1 rfl) hd E
    · cases h2
  case invokevirtual n =>
    rw [Bool.and_eq_true] at hI
    cases beq_len hI.1
    have h2 := hI.2
    have hSn := @qsite ow lk hSk n
    split at h2
    · rename_i a1 a2 a3 hq
      exact qs_clone C hk hq ((hSn hq).2.2.2.2.2.2.1 rfl) hd E
    · rename_i a1 a2 a3 hq
      have h5 := Nat.le_of_ble_eq_true h2
      exact qs_strlen C hk hq ((hSn hq).2.2.2.2.2.2.2.2.1 rfl) ⟨by rw [hrk.1]; omega, by rw [hrk.2]; omega⟩ hd E
    · rename_i a1 a2 a3 hq
      have h5 := Nat.le_of_ble_eq_true h2
      exact qs_charAt C hk hq ((hSn hq).2.2.2.2.2.2.2.2.2 rfl) ⟨by rw [hrk.1]; omega, by rw [hrk.2]; omega⟩ hd E
    · rename_i kk mid na rc hq
      refine qs_invokevirtual C hk (mdt := qmdt) (fun kk' mid' na' rc' hq' md hmd => ?_) ⟨_, _, _, _, hq⟩ hcal hd E
      obtain ⟨g1, g2, g3, g4, g5, g6⟩ := (hSn hq').2.1 kk' rfl md hmd
      rw [hq] at hq'
      cases hq'
      rw [hmd] at h2
      dsimp only at h2
      rw [Bool.not_eq_true', decide_eq_false_iff_not] at h2
      exact ⟨g1, g2, g3, g4, g6 h2⟩
    · cases h2
  case invokespecial n =>
    rw [Bool.and_eq_true] at hI
    cases beq_len hI.1
    have h2 := hI.2
    have hSn := @qsite ow lk hSk n
    split at h2
    · rename_i a1 a2 a3 hq
      exact qs_objinit C hk hq ((hSn hq).2.2.2.2.2.2.2.1 rfl) hd E
    · rename_i kk mid na rc hq
      refine qs_invokespecial C hk (mdt := qmdt) (fun kk' mid' na' rc' hq' md hmd => ?_) ⟨_, _, _, _, hq⟩ hcal hd E
      obtain ⟨g1, g2, g3, g4, g5, g6⟩ := (hSn hq').2.1 kk' rfl md hmd
      rw [hq] at hq'
      cases hq'
      rw [hmd] at h2
      dsimp only at h2
      have h3 := of_decide_eq_true h2
      exact ⟨g1, g2, g3, g4, h3, g5 h3⟩
    · cases h2
/-- every run of a method's code -/
theorem qrun_sound (C : qCx p s m args meth c cc nL ow ini D cy A R h0 ρ0 r) {rank : Nat} (hrk : R.frames = rank ∧ R.locals = 36 * rank) {ret : Option FieldType} (hr : meth.sig.returnType = ret) (hrt : qrtok rt ret) (hL : qLok ow lk) (hSk : qSok ow lk) (hcal : ∀ mid as h1 r1, cal mid as h1 = some r1 → qCl h1 → (∀ w ∈ as, qOk h1 w) → mle h1 r1.1 ∧ ∃ rk md, qmdt mid = some md ∧ qMok md ∧ rk + 1 ≤ R.frames ∧ 36 * (rk + 1) ≤ R.locals ∧ qMet l rk md as h1 r1) (hcm : ∀ m a h r, cal m a h = some r → mle h r.1)
    {code : List (Nat × (Instr × Nat))} (hcode : ∀ x ∈ code, decode cc x.1 = .ok x.2 ∧ qIb ini ow lk nL rank x.1 x.2.1 x.2.2 = true) : ∀ (n pc : Nat) (ls : List (Option qV)) (st : List qV) (h : qM), qrun cal lk rt code n pc ls st h = some r → mle h r.1 ∧ qGo p l e R s m args below meth c nL D cy A (MQ below (qPost D cy A ρ0 h0 r) args s ((mA r.1).1 - (mA h0).1) ((mA r.1).2 - (mA h0).2) A) h0 ρ0 pc ls st h := by
  intro n
  induction n with
  | zero => intro pc ls st h E; simp [qrun] at E
  | succ n ih =>
    intro pc ls st h E
    refine ⟨qrun_mle hcm lk rt code _ E, ?_⟩
    rw [qrun_s] at E
    cases hq : qlk code pc with
    | none => rw [hq] at E; simp at E
    | some il =>
      obtain ⟨i, len⟩ := il
      rw [hq] at E
      dsimp only at E
      obtain ⟨h1, h2⟩ := qlk_all (P := fun pc x => decode cc pc = .ok x ∧ qIb ini ow lk nL rank pc x.1 x.2 = true) hcode hq
      exact qstep C (fun a b c' d e' => ih a b c' d e') hrk hr hrt hL hSk hcal h1 h2 E
end QS
/-- all that is known of a method's row in the tables -/
def qRow (e : qE) (md : qD) : Prop :=
  qMok md ∧ md.2.2.1 = e.2.2.1 ∧ qrtok e.2.1 md.2.2.2.1 ∧ qLok md.1.cls e.1 ∧ qSok md.1.cls e.1 ∧ (∀ x ∈ e.2.2.2.2, decode md.2.1 x.1 = .ok x.2 ∧ qIb (decide (md.1.name = "<init>")) md.1.cls e.1 md.2.2.1 e.2.2.2.1 x.1 x.2.1 x.2.2 = true) ∧ 1 ≤ e.2.2.2.1
theorem qent_get {ρ : Nat → Nat → Nat} : ∀ {as : List qV} {n off i : Nat} {v : qV}, qget (qent as n) i = some v → (i + off, rv ρ v) ∈ lv_args off (as.map (rv ρ)) ∧ v ∈ as
  | [], n, off, i, v, e => by
    exfalso
    have : ∀ n i, qget (List.replicate n none) i = none := by
      intro n
      induction n with
      | zero => intro i; rfl
      | succ n ih => intro i; cases i with
        | zero => rfl
        | succ i => exact ih i
    rw [show qent [] n = List.replicate n none from rfl, this] at e
    cases e
  | a :: t, n, off, i, v, e => by
    have hcat : (rv ρ a).category = qcat a := by
      match a with
      | .inl _ => rfl
      | .inr (.inl _) => rfl
      | .inr (.inr (_, none)) => rfl
      | .inr (.inr (_, some _)) => rfl
    unfold qent at e
    show _ ∈ (off, rv ρ a) :: lv_args (if (rv ρ a).category = 2 then off + 2 else off + 1) (t.map (rv ρ)) ∧ _
    cases hb : Nat.beq (qcat a) 2 with
    | true =>
      rw [hb, cond_true] at e
      rw [if_pos (by rw [hcat]; exact Nat.eq_of_beq_eq_true hb)]
      match i, e with
      | 0, e => cases e; exact ⟨by simp, List.mem_cons_self⟩
      | 1, e => cases e
      | i + 2, e =>
        have := qent_get (ρ := ρ) (off := off + 2) (show qget (qent t (n - 2)) i = some v from e)
        exact ⟨List.mem_cons_of_mem _ (by rw [show i + 2 + off = i + (off + 2) by omega]; exact this.1), List.mem_cons_of_mem _ this.2⟩
    | false =>
      rw [hb, cond_false] at e
      rw [if_neg (by rw [hcat]; intro hc; rw [hc] at hb; cases hb)]
      match i, e with
      | 0, e => cases e; exact ⟨by simp, List.mem_cons_self⟩
      | i + 1, e =>
        have := qent_get (ρ := ρ) (off := off + 1) (show qget (qent t (n - 1)) i = some v from e)
        exact ⟨List.mem_cons_of_mem _ (by rw [show i + 1 + off = i + (off + 1) by omega]; exact this.1), List.mem_cons_of_mem _ this.2⟩
theorem lg_len (ρ : Nat → Nat → Nat) : ∀ as : List qV, (lg_sl (as.map (rv ρ))).length = qsum as
  | [] => rfl
  | a :: t => by
    show ((if (rv ρ a).category = 2 then [Slot.val (rv ρ a), .second] else [.val (rv ρ a)]) ++ lg_sl (t.map (rv ρ))).length = qcat a + qsum t
    rw [List.length_append, lg_len ρ t]
    congr 1
    match a with
    | .inl _ => rfl
    | .inr (.inl _) => rfl
    | .inr (.inr (_, none)) => rfl
    | .inr (.inr (_, some _)) => rfl
/-- EVERY METHOD: what the flat machine says of a call, the machine does -/
theorem qcal_sound (hrow : ∀ mid e, qmt mid = some e → ∃ md, qmdt mid = some md ∧ qRow e md) (l : Launch) : ∀ (n mid : Nat) (as : List qV) (h : qM) (r : qO), qrk mid ≤ n → qcal mid as h = some r → qCl h → (∀ w ∈ as, qOk h w) → ∃ md, qmdt mid = some md ∧ qMok md ∧ qMet l (qrk mid) md as h r := by
  intro n
  induction n with
  | zero =>
    intro mid as h r hn e
    exfalso
    unfold qcal at e
    rw [qcF_s] at e
    cases hm : qmt mid with
    | none => rw [hm] at e; cases e
    | some x =>
      obtain ⟨md, -, hR⟩ := hrow mid x hm
      have := qmt_rk mid x hm
      have := hR.2.2.2.2.2.2
      omega
  | succ n ih =>
    intro mid as h r hn e hcl hok
    have e0 := e
    unfold qcal at e
    rw [qcF_s] at e
    cases hm : qmt mid with
    | none => rw [hm] at e; cases e
    | some x =>
      obtain ⟨md, hmd, hMok, hmL, hrt, hL, hSk, hcode, hr1⟩ := hrow mid x hm
      have hrk := qmt_rk mid x hm
      obtain ⟨lk, rt, maxL, rank, code⟩ := x
      dsimp only at hmL hrt hL hSk hcode hr1 hrk
      rw [hm] at e
      dsimp only at e
      cases hg : Nat.ble (qsum as) maxL with
      | false => rw [hg, cond_false] at e; cases e
      | true =>
        have e1 := (qcal_eq mid as h hm hg).symm.trans e0
        obtain ⟨f, e1⟩ := qT_ex e1
        refine ⟨md, hmd, hMok, fun D cy ρ sz => ?_⟩
        refine Met.ofW (cc := md.2.1) (maxL := md.2.2.1) (ret := md.2.2.2.1) hMok.2.2.2.2.2 rfl ?_
        intro p e s m args below meth c s₁ B hml hv
        obtain ⟨rfl, hsz, hR0, hAm, hSt⟩ := hv
        subst hsz
        have hts := atoms_spec (ws := Cond.code md.1 md.2.1 md.2.2.1 md.2.2.2.1 :: lw_good) B.pre
        have hA : ∀ q, s.heap.size ≤ q → qAd ρ h s.heap.size q := fun q hq => Or.inr hq
        have C : qCx p s m (as.map (rv ρ)).toArray meth c md.2.1 md.2.2.1 md.1.cls (decide (md.1.name = "<init>")) D cy (qAd ρ h s.heap.size) (headSpec (Cond.code md.1 md.2.1 md.2.2.1 md.2.2.2.1 :: lw_good) (qroom (qrk mid) h r)).room h ρ r :=
          ⟨B.exec, B.bytes, hml, findClass_of_methodNamed B.named, fun w hw => hts w (List.mem_cons_of_mem _ hw), B.notSynchronized, fun hi => by rw [(name_of_methodNamed B.named B.method).1]; exact of_decide_eq_true hi, hAm, hSt, hA, ⟨by show 1 ≤ qrk mid; omega, by show 36 ≤ 36 * qrk mid; omega⟩, rfl, rfl⟩
        have hcm : ∀ m a h r, qsub rank m a h = some r → mle h r.1 := by
          intro m' a' h' r' e'
          unfold qsub at e'
          cases hb : Nat.blt (qrk m') rank with
          | true => rw [hb, cond_true] at e'; exact qcF_mle qmt qrk _ _ _ _ _ e'
          | false => rw [hb, cond_false] at e'; cases e'
        have hl0 : (lg_sl (as.map (rv ρ))).length ≤ md.2.2.1 := by rw [lg_len, hmL]; exact Nat.le_of_ble_eq_true hg
        have hl := lv_entry (as.map (rv ρ)) hl0
        rw [lg_entry_eq]
        have hgo := (qrun_sound (l := l) (e := e) (below := below) C (rank := rank) ⟨hrk.symm, by show 36 * qrk mid = 36 * rank; rw [hrk]⟩ B.returns hrt hL hSk (fun mid' as' h1 r1 e' hcl' hok' => ⟨hcm _ _ _ _ e', by
          unfold qsub at e'
          cases hb : Nat.blt (qrk mid') rank with
          | false => rw [hb, cond_false] at e'; cases e'
          | true =>
            rw [hb, cond_true] at e'
            have hlt : qrk mid' < rank := Nat.le_of_ble_eq_true hb
            obtain ⟨md', g1, g2, g3⟩ := ih mid' as' h1 r1 (by omega) e' hcl' hok'
            exact ⟨qrk mid', md', g1, g2, by show qrk mid' + 1 ≤ qrk mid; omega, by show 36 * (qrk mid' + 1) ≤ 36 * qrk mid; omega, g3⟩⟩) hcm hcode f 0 (qent as maxL) [] h e1).2
        have hD1 : qRep D cy ρ h (qAd ρ h s.heap.size) s.heap := by
          obtain ⟨N, q1, q2, q3, q4⟩ := hR0
          refine ⟨N, q1, q2, q3, q4.weaken fun i q hq _ => ?_⟩
          unfold wl at hq
          rw [List.getElem?_map] at hq
          cases hN : N[i]? with
          | none => rw [hN] at hq; cases hq
          | some nm =>
            rw [hN] at hq
            cases hq
            have := (q2 nm.1 nm.2).mp (List.mem_of_getElem? hN)
            exact Or.inl ⟨nm.1, nm.2, this.1, this.2, rfl⟩
        have := hgo ρ s.heap [] _ hcl ⟨hl.1, hl.2.1, fun i v hv => by
            rw [← hmL] at hv
            have := qent_get (ρ := ρ) (off := 0) hv
            exact ⟨hl.2.2 _ this.1, hok v this.2⟩⟩ (fun w hw => by cases hw) hD1 va_S.rf ⟨mle.rf h, fun _ _ _ _ => rfl, rfl⟩
        rw [Nat.sub_self, Nat.sub_self] at this
        exact this
