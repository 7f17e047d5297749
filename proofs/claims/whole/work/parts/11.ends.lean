/-! SWITCHES, ENDS, THE LIBRARY'S OWN, CALLS -/
theorem qsw_off {x : Int32} {F : Int → Option qO} {d : Int} : ∀ {ps : List (Int × Int)}, (∀ q ∈ ps, (Int32.ofInt q.1).toInt = q.1) → qsw x F d ps = F (Op.lookupswitch.offset ps d x.toInt)
  | [], _ => rfl
  | (v, o) :: t, hp => by
    rw [Op.lookupswitch.offset_cons]
    unfold qsw
    have h1 := hp (v, o) List.mem_cons_self
    dsimp only at h1
    by_cases hx : x = Int32.ofInt v
    · rw [if_pos hx, if_pos (by rw [hx, h1])]
    · rw [if_neg hx, if_neg (fun hc => hx (by rw [hc, Int32.ofInt_toInt]))]
      exact qsw_off fun q hq => hp q (List.mem_cons_of_mem _ hq)
theorem off_mem {d z : Int} : ∀ (ps : List (Int × Int)), Op.lookupswitch.offset ps d z = d ∨ Op.lookupswitch.offset ps d z ∈ ps.map Prod.snd
  | [] => Or.inl rfl
  | (v, o) :: t => by
    rw [Op.lookupswitch.offset_cons]
    split
    · exact Or.inr List.mem_cons_self
    · exact (off_mem t).imp _root_.id (fun h => List.mem_cons_of_mem _ h)
theorem off_tab {d z : Int} : ∀ (offs : List Int) (lo : Int), Op.lookupswitch.offset (qtab lo offs) d z = if z < lo ∨ lo + (offs.length : Int) ≤ z then d else (offs[(z - lo).toNat]?).getD d
  | [], lo => by
    show d = _
    split
    · rfl
    · simp
  | o :: t, lo => by
    show Op.lookupswitch.offset ((lo, o) :: qtab (lo + 1) t) d z = _
    rw [Op.lookupswitch.offset_cons, off_tab t (lo + 1)]
    by_cases h1 : lo = z
    · subst h1
      rw [if_pos rfl, if_neg (by simp; omega)]
      simp
    · rw [if_neg h1]
      by_cases h2 : z < lo
      · rw [if_pos (Or.inl (by omega)), if_pos (Or.inl h2)]
      · by_cases h3 : lo + ((o :: t).length : Int) ≤ z
        · rw [if_pos (Or.inr (by simp at h3 ⊢; omega)), if_pos (Or.inr h3)]
        · rw [if_neg (by simp at h3 ⊢; omega), if_neg (by omega)]
          have e1 : (z - lo).toNat = (z - (lo + 1)).toNat + 1 := by omega
          rw [e1, List.getElem?_cons_succ]
theorem tab_mem {q : Int × Int} : ∀ {offs : List Int} {lo : Int}, q ∈ qtab lo offs → lo ≤ q.1 ∧ q.1 < lo + (offs.length : Int)
  | [], _, h => by cases h
  | o :: t, lo, h => by
    rcases List.mem_cons.mp h with rfl | h
    · simp; omega
    · have := tab_mem h
      simp at this ⊢
      omega
def qAd (ρ : Nat → Nat → Nat) (h : qM) (sz : Nat) : Nat → Prop := fun q => (∃ k j, k < 19 ∧ j < mC h k ∧ q = ρ k j) ∨ sz ≤ q
/-- what a method leaves and answers -/
def qPost (D : va_G) (cy : Nat → ClassId) (A : Nat → Prop) (ρ0 : Nat → Nat → Nat) (h0 : qM) (r : qO) : Array Value → State → Outcome → State → Prop := fun _ st oc t =>
  (∃ ρ, qX h0 ρ0 r.1 ρ ∧ oc = .returned (r.2.map (rv ρ)) ∧ qCl r.1 ∧ (∀ w, r.2 = some w → qOk r.1 w) ∧ qRep D cy ρ r.1 A t.heap) ∧ va_F A st t
/-- what a method begins with -/
def qPre (D : va_G) (cy : Nat → ClassId) (ρ : Nat → Nat → Nat) (h : qM) (as : List qV) (sz : Nat) : Array Value → State → Prop :=
  va_Pc (as.map (rv ρ)) (fun U => U.heap.size = sz ∧ qRep D cy ρ h (fun _ => True) U.heap ∧ qAm D cy (ρ 19) U ∧ qSt (ρ 19) (qAd ρ h sz) U)
def qroom (rk : Nat) (h : qM) (r : qO) : Room := { frames := rk, cells := (mA r.1).1 - (mA h).1, slots := (mA r.1).2 - (mA h).2, locals := 36 * rk }
/-- a method's own words -/
abbrev qD : Type := MethodName × (ByteArray × (Nat × (Option FieldType × (Nat × Bool))))
def qMet (l : Launch) (rk : Nat) (md : qD) (as : List qV) (h : qM) (r : qO) : Prop :=
  ∀ (D : va_G) (cy : Nat → ClassId) (ρ : Nat → Nat → Nat) (sz : Nat), Met l md.1 (Cond.code md.1 md.2.1 md.2.2.1 md.2.2.2.1 :: lw_good) (qroom rk h r) (qPre D cy ρ h as sz) (qPost D cy (qAd ρ h sz) ρ h r) ((mA r.1).1 - (mA h).1) ((mA r.1).2 - (mA h).2) (qAd ρ h sz)
def qrtok (rt : Nat) (ret : Option FieldType) : Prop := (rt = 0 ∧ ret = none) ∨ (rt = 1 ∧ ret = some .int) ∨ (rt = 2 ∧ ret = some .boolean) ∨ (rt = 3 ∧ ret = some .long) ∨ (rt = 4 ∧ ((∃ n, ret = some (.object n)) ∨ ∃ t, ret = some (.array t)))
theorem qsum_eq (ρ : Nat → Nat → Nat) : ∀ st : List qV, ((st.map (rv ρ)).map fun v => v.category).sum = qsum st
  | [] => rfl
  | v :: t => by
    show (rv ρ v).category + ((t.map (rv ρ)).map fun v => v.category).sum = qcat v + qsum t
    rw [qsum_eq ρ t]
    congr 1
    match v with
    | .inl _ => rfl
    | .inr (.inl _) => rfl
    | .inr (.inr (_, none)) => rfl
    | .inr (.inr (_, some _)) => rfl
theorem rv_X {h h1 : qM} {ρ ρ1 : Nat → Nat → Nat} (hX : qX h ρ h1 ρ1) : ∀ {v : qV}, qOk h v → rv ρ1 v = rv ρ v
  | .inl _, _ => rfl
  | .inr (.inl _), _ => rfl
  | .inr (.inr (_, none)), _ => rfl
  | .inr (.inr (k', some j)), hv => by
    show va_rf (some (ρ1 k' j)) = va_rf (some (ρ k' j))
    rcases hv with ⟨h1, h2⟩ | ⟨rfl, -⟩
    · rw [hX.2.1 k' j h1 h2]
    · rw [hX.2.2]
theorem qback_inv {rc : Nat} {r1 : qO} {k : List qV → qM → Option qO} {rest : List qV} {r : qO} (E : qback rc (some r1) k rest = some r) : k (r1.2.toList ++ rest) r1.1 = some r := by
  obtain ⟨h1, v⟩ := r1
  unfold qback at E
  split at E
  · unfold qbV at E
    dsimp only [Option.bind_some] at E
    split at E <;> first | exact E | cases E
  · unfold qbI at E
    dsimp only [Option.bind_some] at E
    split at E <;> first | exact E | cases E
  · unfold qbJ at E
    dsimp only [Option.bind_some] at E
    split at E <;> first | exact E | cases E
  · unfold qbR at E
    dsimp only [Option.bind_some] at E
    split at E
    · next _ k' o' =>
      cases hb : Nat.beq k' _ with
      | false => rw [hb, cond_false] at E; cases E
      | true =>
        rw [hb, cond_true] at E
        rw [← Nat.eq_of_beq_eq_true hb] at E
        exact E
    · cases E
theorem qpop_inv : ∀ {n : Nat} {as st bs rest : List qV}, qpop n as st = some (bs, rest) → ∃ cs, cs.length = n ∧ bs = cs ++ as ∧ st = cs.reverse ++ rest
  | 0, as, st, bs, rest, e => by simp only [qpop, Option.some.injEq, Prod.mk.injEq] at e; exact ⟨[], rfl, by rw [← e.1]; rfl, by rw [← e.2]; rfl⟩
  | n + 1, as, [], bs, rest, e => by simp [qpop] at e
  | n + 1, as, v :: st, bs, rest, e => by
    obtain ⟨cs, h1, h2, h3⟩ := qpop_inv (n := n) (show qpop n (v :: as) st = some (bs, rest) from e)
    exact ⟨cs ++ [v], by simp [h1], by simp [h2], by simp [h3]⟩
theorem qAd_A {D : va_G} {cy : Nat → ClassId} {ρ : Nat → Nat → Nat} {h : qM} {A : Nat → Prop} {H H0 : Heap} {locs : List Loc} (hR : qRep D cy ρ h A H) (hS : va_S A H0 H locs) (hA : ∀ q, H0.size ≤ q → A q) : ∀ q, qAd ρ h H.size q → A q := by
  intro q hq
  rcases hq with ⟨k, j, hk, hj, rfl⟩ | hq
  · obtain ⟨N, p, hp, -, -, -, hD⟩ := hR.at hk hj
    exact hD.2 p _ (wl_at hp)
  · exact hA q (Nat.le_trans hS.1 hq)
theorem qSt.callee {ρ : Nat → Nat → Nat} {h : qM} {A : Nat → Prop} {s U : State} {sA : Nat → Nat} {locs : List Loc} (hSt : qSt sA A s) (hS : va_S A s.heap U.heap locs) (hW : s.vm.Alike U.vm) (hB : ∀ q, qAd ρ h U.heap.size q → A q) : qSt sA (qAd ρ h U.heap.size) U := by
  obtain ⟨adV, h1, h2, h3⟩ := hSt
  refine ⟨adV, vk_S.narrow (vk_S.moved hW (h1.kept fun a hl hn => hS.2.1 a hl hn)) hB, ?_, ?_⟩
  · exact va_Z.narrow (va_Z.moved hW (h2.kept fun a hl hn => hS.2.1 a hl hn)) hB
  · exact va_Zq.narrow (va_Zq.moved hW (h3.kept fun a hl hn => hS.2.1 a hl hn)) hB
theorem qrn_rv (ρ : Nat → Nat → Nat) (x : Nat × Option Nat) : rv ρ (qrn x) = rv ρ (.inr (.inr x)) := by
  obtain ⟨k, o⟩ := x
  unfold qrn
  cases Nat.beq k 0 with
  | false => rfl
  | true => cases o <;> rfl
theorem qrn_ok {h : qM} {x : Nat × Option Nat} (hx : qOk h (.inr (.inr x))) : qOk h (qrn x) := by
  obtain ⟨k, o⟩ := x
  unfold qrn
  cases Nat.beq k 0 with
  | false => exact hx
  | true =>
    cases o with
    | none => exact trivial
    | some j => exact hx
section QS
variable {p : Program} {l : Launch} {e : Env} {R : Room} {s : State} {m : MethodId} {args : Array Value} {below : List Frame} {meth : Method} {c : Code} {cc : ByteArray} {nL : Nat} {ow : String} {ini : Bool} {D : va_G} {cy : Nat → ClassId} {A : Nat → Prop} {Q : State → Prop} {h0 : qM} {ρ0 : Nat → Nat → Nat} {r : qO} {cal : Nat → List qV → qM → Option qO} {lk : qL} {rt : Nat} {k : qK} {pc : Nat} {ls : List (Option qV)} {st : List qV} {h : qM}
theorem qs_lookupswitch (C : qCx p s m args meth c cc nL ow ini D cy A R h0 ρ0 r) (hk : ∀ a b c' d, k a b c' d = some r → mle d r.1 ∧ qGo p l e R s m args below meth c nL D cy A Q h0 ρ0 a b c' d) {d : Int} {ps : Array (Int × Int)} {len : Nat} (hp : (ps.toList.zip (ps.toList.drop 1)).all (fun (a, next) => a.1 < next.1) = true) (hv : ∀ q ∈ ps.toList, (Int32.ofInt q.1).toInt = q.1) (htg : ∀ o ∈ d :: ps.toList.map Prod.snd, 0 ≤ (pc : Int) + o)  (hd : decode cc pc = .ok (.lookupswitch d ps, len)) (E : qx cal lk rt (.lookupswitch d ps) len pc ls st h k = some r) : qGo p l e R s m args below meth c nL D cy A Q h0 ρ0 pc ls st h := by
  obtain ⟨hx, hb, hml, hown, hts, hlk, hini, hAm, hSt, hA, hR, hRc, hRs⟩ := C
  intro ρ H locs lsA hcl hlo hst hR0 hS hX
  dsimp only [qx] at E
  split at E
  · rename_i x st
    rw [qsw_off hv] at E
    have hmem : Op.lookupswitch.offset ps.toList d x.toInt ∈ d :: ps.toList.map Prod.snd := List.mem_cons.mpr (off_mem _)
    refine lv_lookup (tgt := qtgt pc (Op.lookupswitch.offset ps.toList d x.toInt)) hx hb hd hp rfl (Int.toNat_of_nonneg (htg _ hmem)).symm ?_
    exact (hk _ _ _ _ E).2 ρ H locs lsA hcl hlo (fun w hw => hst w (List.mem_cons_of_mem _ hw)) hR0 hS hX
  · cases E

theorem qs_tableswitch (C : qCx p s m args meth c cc nL ow ini D cy A R h0 ρ0 r) (hk : ∀ a b c' d, k a b c' d = some r → mle d r.1 ∧ qGo p l e R s m args below meth c nL D cy A Q h0 ρ0 a b c' d) {d lo hi : Int} {offs : Array Int} {len : Nat} (hlen : hi = lo + (offs.toList.length : Int) - 1) (hlo2 : -2147483648 ≤ lo) (hhi : hi < 2147483648) (htg : ∀ o ∈ d :: offs.toList, 0 ≤ (pc : Int) + o)  (hd : decode cc pc = .ok (.tableswitch d lo hi offs, len)) (E : qx cal lk rt (.tableswitch d lo hi offs) len pc ls st h k = some r) : qGo p l e R s m args below meth c nL D cy A Q h0 ρ0 pc ls st h := by
  obtain ⟨hx, hb, hml, hown, hts, hlk, hini, hAm, hSt, hA, hR, hRc, hRs⟩ := C
  intro ρ H locs lsA hcl hlo hst hR0 hS hX
  dsimp only [qx] at E
  split at E
  · rename_i x st
    have hv : ∀ q ∈ qtab lo offs.toList, (Int32.ofInt q.1).toInt = q.1 := by
      intro q hq
      have := tab_mem hq
      exact Int32.toInt_ofInt_of_le (by omega) (by omega)
    rw [qsw_off hv, off_tab] at E
    by_cases hc : x.toInt < lo ∨ lo + (offs.toList.length : Int) ≤ x.toInt
    · rw [if_pos hc] at E
      refine lv_tableOut (tgt := qtgt pc d) hx hb hd (by omega) (Int.toNat_of_nonneg (htg _ List.mem_cons_self)).symm ?_
      exact (hk _ _ _ _ E).2 ρ H locs lsA hcl hlo (fun w hw => hst w (List.mem_cons_of_mem _ hw)) hR0 hS hX
    · rw [if_neg hc] at E
      have hi2 : (x.toInt - lo).toNat < offs.toList.length := by omega
      have ho : offs[(x.toInt - lo).toNat]? = some (offs.toList[(x.toInt - lo).toNat]'hi2) := by rw [← Array.getElem?_toList]; exact List.getElem?_eq_getElem hi2
      rw [List.getElem?_eq_getElem hi2, Option.getD_some] at E
      refine lv_tableIn (tgt := qtgt pc (offs.toList[(x.toInt - lo).toNat]'hi2)) hx hb hd (by omega) (by omega) ho (Int.toNat_of_nonneg (htg _ (List.mem_cons_of_mem _ (List.getElem_mem _)))).symm ?_
      exact (hk _ _ _ _ E).2 ρ H locs lsA hcl hlo (fun w hw => hst w (List.mem_cons_of_mem _ hw)) hR0 hS hX
  · cases E

theorem qs_ireturn (C : qCx p s m args meth c cc nL ow ini D cy A R h0 ρ0 r) {ret : Option FieldType} (hr : meth.sig.returnType = ret) (hrt : qrtok rt ret) (hd : decode cc pc = .ok (.ireturn, 1)) (E : qx cal lk rt (.ireturn) 1 pc ls st h k = some r) : qGo p l e R s m args below meth c nL D cy A (MQ below (qPost D cy A ρ0 h0 r) args s ((mA r.1).1 - (mA h0).1) ((mA r.1).2 - (mA h0).2) A) h0 ρ0 pc ls st h := by
  obtain ⟨hx, hb, hml, hown, hts, hlk, hini, hAm, hSt, hA, hR, hRc, hRs⟩ := C
  intro ρ H locs lsA hcl hlo hst hR0 hS hX
  dsimp only [qx] at E
  split at E
  · rename_i x
    split at E
    · cases E
      have hr1 : ret = some .int := by rcases hrt with ⟨h1, -⟩ | ⟨-, h1⟩ | ⟨h1, -⟩ | ⟨h1, -⟩ | ⟨h1, -⟩ <;> first | exact h1 | omega
      subst hr1
      exact W.iret hx hb hr (fun t ht hW => ⟨⟨ρ, hX, rfl, hcl, fun w hw => (by cases hw; exact trivial), by rw [ht]; exact hR0⟩, hS.F ht⟩) hS.2.2 hd
    · by_cases hb1 : x &&& 1 = x
      · rw [decide_eq_true hb1, cond_true] at E
        cases E
        have hr1 : ret = some .boolean := by rcases hrt with ⟨h1, -⟩ | ⟨h1, -⟩ | ⟨-, h1⟩ | ⟨h1, -⟩ | ⟨h1, -⟩ <;> first | exact h1 | omega
        subst hr1
        exact W.zret hx hb hr (show Value.int (x &&& 1) = .int x by rw [hb1]) (fun t ht hW => ⟨⟨ρ, hX, rfl, hcl, fun w hw => (by cases hw; exact trivial), by rw [ht]; exact hR0⟩, hS.F ht⟩) hS.2.2 hd
      · rw [decide_eq_false hb1, cond_false] at E; cases E
    · cases E
  · cases E

theorem qs_lreturn (C : qCx p s m args meth c cc nL ow ini D cy A R h0 ρ0 r) {ret : Option FieldType} (hr : meth.sig.returnType = ret) (hrt : qrtok rt ret) (hd : decode cc pc = .ok (.lreturn, 1)) (E : qx cal lk rt (.lreturn) 1 pc ls st h k = some r) : qGo p l e R s m args below meth c nL D cy A (MQ below (qPost D cy A ρ0 h0 r) args s ((mA r.1).1 - (mA h0).1) ((mA r.1).2 - (mA h0).2) A) h0 ρ0 pc ls st h := by
  obtain ⟨hx, hb, hml, hown, hts, hlk, hini, hAm, hSt, hA, hR, hRc, hRs⟩ := C
  intro ρ H locs lsA hcl hlo hst hR0 hS hX
  dsimp only [qx] at E
  split at E
  · rename_i x
    split at E
    · cases E
      have hr1 : ret = some .long := by rcases hrt with ⟨h1, -⟩ | ⟨h1, -⟩ | ⟨h1, -⟩ | ⟨-, h1⟩ | ⟨h1, -⟩ <;> first | exact h1 | omega
      subst hr1
      exact W.lret hx hb hr (fun t ht hW => ⟨⟨ρ, hX, rfl, hcl, fun w hw => (by cases hw; exact trivial), by rw [ht]; exact hR0⟩, hS.F ht⟩) hS.2.2 hd
    · cases E
  · cases E

theorem qs_areturn (C : qCx p s m args meth c cc nL ow ini D cy A R h0 ρ0 r) {ret : Option FieldType} (hr : meth.sig.returnType = ret) (hrt : qrtok rt ret) (hd : decode cc pc = .ok (.areturn, 1)) (E : qx cal lk rt (.areturn) 1 pc ls st h k = some r) : qGo p l e R s m args below meth c nL D cy A (MQ below (qPost D cy A ρ0 h0 r) args s ((mA r.1).1 - (mA h0).1) ((mA r.1).2 - (mA h0).2) A) h0 ρ0 pc ls st h := by
  obtain ⟨hx, hb, hml, hown, hts, hlk, hini, hAm, hSt, hA, hR, hRc, hRs⟩ := C
  intro ρ H locs lsA hcl hlo hst hR0 hS hX
  dsimp only [qx] at E
  split at E
  · rename_i x
    split at E
    · cases E
      have hr1 : (∃ n, ret = some (.object n)) ∨ ∃ t, ret = some (.array t) := by rcases hrt with ⟨h1, -⟩ | ⟨h1, -⟩ | ⟨h1, -⟩ | ⟨h1, -⟩ | ⟨-, h1⟩ <;> first | exact h1 | omega
      have hvv : rv ρ (.inr (.inr x)) = .null ∨ ∃ a, rv ρ (.inr (.inr x)) = .ref a := by
        obtain ⟨k0, o⟩ := x
        cases o with
        | none => exact Or.inl rfl
        | some j => exact Or.inr ⟨_, rfl⟩
      rcases hr1 with ⟨n, rfl⟩ | ⟨n, rfl⟩
      · exact W.aret hx hb hr (Or.inl ⟨n, rfl⟩) hvv (fun t ht hW => ⟨⟨ρ, hX, congrArg (fun z => Outcome.returned (some z)) (qrn_rv ρ x).symm, hcl, fun w hw => (by cases hw; exact qrn_ok (hst _ List.mem_cons_self)), by rw [ht]; exact hR0⟩, hS.F ht⟩) hS.2.2 hd
      · exact W.aret hx hb hr (Or.inr ⟨n, rfl⟩) hvv (fun t ht hW => ⟨⟨ρ, hX, congrArg (fun z => Outcome.returned (some z)) (qrn_rv ρ x).symm, hcl, fun w hw => (by cases hw; exact qrn_ok (hst _ List.mem_cons_self)), by rw [ht]; exact hR0⟩, hS.F ht⟩) hS.2.2 hd
    · cases E
  · cases E

theorem qs_return_ (C : qCx p s m args meth c cc nL ow ini D cy A R h0 ρ0 r) {ret : Option FieldType} (hr : meth.sig.returnType = ret) (hrt : qrtok rt ret) (hd : decode cc pc = .ok (.return_, 1)) (E : qx cal lk rt (.return_) 1 pc ls st h k = some r) : qGo p l e R s m args below meth c nL D cy A (MQ below (qPost D cy A ρ0 h0 r) args s ((mA r.1).1 - (mA h0).1) ((mA r.1).2 - (mA h0).2) A) h0 ρ0 pc ls st h := by
  obtain ⟨hx, hb, hml, hown, hts, hlk, hini, hAm, hSt, hA, hR, hRc, hRs⟩ := C
  intro ρ H locs lsA hcl hlo hst hR0 hS hX
  dsimp only [qx] at E
  split at E
  · split at E
    · cases E
      have hr1 : ret = none := by rcases hrt with ⟨-, h1⟩ | ⟨h1, -⟩ | ⟨h1, -⟩ | ⟨h1, -⟩ | ⟨h1, -⟩ <;> first | exact h1 | omega
      subst hr1
      exact W.vret hx hb hr (fun t ht hW => ⟨⟨ρ, hX, rfl, hcl, fun w hw => (by cases hw), by rw [ht]; exact hR0⟩, hS.F ht⟩) hS.2.2 hd
    · cases E
  · cases E

theorem qcall_go (C : qCx p s m args meth c cc nL ow ini D cy A R h0 ρ0 r) (hk : ∀ a b c' d, k a b c' d = some r → mle d r.1 ∧ qGo p l e R s m args below meth c nL D cy A Q h0 ρ0 a b c' d) {rc : Nat} {r1 : qO} {ρ : Nat → Nat → Nat} {H : Heap} {locs : List Loc} {lsA : Array Slot} {rest : List qV} {st0 : List Value} {arr : Array Value}
    (hlo : qLo ρ h lsA ls nL) (hst : ∀ w ∈ rest, qOk h w) (hR0 : qRep D cy ρ h A H) (hS : va_S A s.heap H locs) (hX : qX h0 ρ0 h ρ) (hm1 : mle h r1.1) (E : qback rc (some r1) (fun st h => k (pc + 3) ls st h) rest = some r)
    (hrun : va_Run p l e R s m args below meth c H locs ((mA h).1 - (mA h0).1) ((mA h).2 - (mA h0).2) ((mA r1.1).1 - (mA h).1) ((mA r1.1).2 - (mA h).2) (F0 m pc lsA st0) (rest.map (rv ρ)) (qPost D cy (qAd ρ h H.size) ρ h r1 arr) (qAd ρ h H.size)) :
    W p l e R s m args below meth c H locs ((mA h).1 - (mA h0).1) ((mA h).2 - (mA h0).2) Q (F0 m pc lsA st0) := by
  obtain ⟨hx, hb, hml, hown, hts, hlk, hini, hAm, hSt, hA, hR, hRc, hRs⟩ := C
  have hB := qAd_A hR0 hS hA
  intro T hT X
  obtain ⟨v, st₀, t, T', L, h0', X', hL, e1, e2, ⟨⟨ρ1, hX1, hv, hcl1, hok1, hR1⟩, hz, hkp⟩, st⟩ := hrun T hT X
  rw [h0'] at hz hkp
  have E' := qback_inv E
  have hv' : v = r1.2.map (rv ρ1) := by injection hv
  have g1 := hX.1.1
  have g2 := hX.1.2.1
  have g3 := hm1.1
  have g4 := hm1.2.1
  have b1 : (mA h).1 - (mA h0).1 + ((mA r1.1).1 - (mA h).1) = (mA r1.1).1 - (mA h0).1 := by omega
  have b2 : (mA h).2 - (mA h0).2 + ((mA r1.1).2 - (mA h).2) = (mA r1.1).2 - (mA h0).2 := by omega
  rw [b1, b2] at X'
  have hmap : v.toList ++ rest.map (rv ρ) = (r1.2.toList ++ rest).map (rv ρ1) := by
    rw [hv', List.map_append]
    congr 1
    · cases r1.2 <;> rfl
    · exact List.map_congr_left fun w hw => (rv_X hX1 (hst w hw)).symm
  have hgo := (hk _ _ _ _ E').2 ρ1 T'.heap (locs ++ L) lsA hcl1 ((hlo.ext fun v hv => rv_X hX1 hv).le hm1)
    (fun w hw => by
      rcases List.mem_append.mp hw with h1 | h1
      · exact hok1 w (by cases h2 : r1.2 with
          | none => rw [h2] at h1; cases h1
          | some z => rw [h2] at h1; simp at h1; rw [h1])
      · exact (hst w h1).le hm1)
    (by
      obtain ⟨N, q1, q2, q3, q4⟩ := hR1
      exact ⟨N, q1, q2, by rw [e1]; exact q3, q4.weaken fun _ q _ h9 => hB q.1 h9⟩)
    ⟨Nat.le_trans hS.1 (by rw [e1]; exact hz), fun q h1 h2 => by rw [e1, hkp q (Nat.lt_of_lt_of_le h1 hS.1) (fun z => h2 (hB q z))]; exact hS.2.1 q h1 h2, fun q hq => by
      rcases List.mem_append.mp hq with h | h
      · exact hS.2.2 q h
      · exact hB _ (hL q h)⟩
    ⟨hX.1.tr hm1, fun k' j' hk' hj' => (hX1.2.1 k' j' hk' (Nat.lt_of_lt_of_le hj' (hX.1.2.2 k'))).trans (hX.2.1 k' j' hk' hj'), hX1.2.2.trans hX.2.2⟩
  rw [← hmap] at hgo
  obtain ⟨t2, a1, b1⟩ := hgo T' rfl X'
  exact ⟨t2, st t2 a1, b1⟩
/-- what is said of a method's own words by the tables -/
def qMok (md : qD) : Prop :=
  Cond.code md.1 md.2.1 md.2.2.1 md.2.2.2.1 ∈ lw_good ∧ Cond.initialized md.1.cls ∈ lw_good ∧ (md.1.cls ≠ "java/lang/invoke/MethodHandle" ∧ md.1.cls ≠ "java/lang/invoke/VarHandle") ∧ (parseMethodDescriptor md.1.desc).map (fun d => d.parameters.length) = some md.2.2.2.2.1 ∧ md.2.2.1 ≤ 17 ∧ plainName md.1.cls = true
theorem lw_good_in : ∀ w ∈ lw_good, goodWord w = true := fun w hw => (List.mem_filter.mp hw).2
theorem lw_good_gi {ws : List Cond} (h : ∀ w ∈ ws, w ∈ lw_good) : GoodIn lw_good ws := fun w hw => ⟨h w hw, good_of_word (lw_good_in w (h w hw))⟩
theorem qMok.ws {md : qD} (hM : qMok md) : ∀ w ∈ Cond.code md.1 md.2.1 md.2.2.1 md.2.2.2.1 :: lw_good, w ∈ lw_good := List.forall_mem_cons.mpr ⟨hM.1, fun _ h => h⟩
theorem qnest_is : ∀ w ∈ qnest, ∃ a i y o, w = Cond.methodLinkNest a i y o := by
  unfold qnest
  intro w hw
  simp only [List.mem_cons, List.not_mem_nil, or_false] at hw
  rcases hw with rfl | rfl | rfl | rfl | rfl | rfl | rfl | rfl | rfl | rfl | rfl | rfl | rfl | rfl | rfl | rfl | rfl | rfl | rfl | rfl <;> exact ⟨_, _, _, _, rfl⟩
theorem qPre_blind {D : va_G} {cy : Nat → ClassId} {ρ : Nat → Nat → Nat} {h : qM} {as : List qV} {sz : Nat} : FrameBlind (qPre D cy ρ h as sz) := by
  intro a U g mk q
  obtain ⟨q0, q1, qR, qA, qS⟩ := q
  refine ⟨q0, q1, qR, ?_, ?_⟩
  · obtain ⟨k1, k2, ⟨k3, k3'⟩, k4, k5⟩ := qA
    have hv : U.vm = (U.calling g mk a).vm := rfl
    refine ⟨va_K.moved (u := U) (U := U.calling g mk a) (Vm.Alike.refl U.vm) k1, fun w hw => ?_, ⟨va_AO.moved (u := U) (U := U.calling g mk a) (Vm.Alike.refl U.vm) k3, va_AO.moved (u := U) (U := U.calling g mk a) (Vm.Alike.refl U.vm) k3'⟩, va_Nw.same rfl hv k4, fun x hx => vk_R.same hv.symm (k5 x hx)⟩
    obtain ⟨a, i, y, o, rfl⟩ := qnest_is w hw
    exact va_Nw.same rfl hv (k2 _ hw)
  · exact qS
theorem qAm.warm {D : va_G} {cy : Nat → ClassId} {sA : Nat → Nat} {s U : State} (hW : s.WarmedH U.vm) (hA : qAm D cy sA s) : qAm D cy sA U := by
  obtain ⟨k1, k2, ⟨k3, k3'⟩, k4, k5⟩ := hA
  refine ⟨va_K.moved hW.alike k1, fun w hw => ?_, ⟨va_AO.moved hW.alike k3, va_AO.moved hW.alike k3'⟩, va_Nw.warmC hW k4, fun x hx => (k5 x hx).warm hW⟩
  obtain ⟨a, i, y, o, rfl⟩ := qnest_is w hw
  exact va_Nw.warmM hW (k2 _ hw)
theorem qpre_of {as : List qV} {ρ : Nat → Nat → Nat} {H : Heap} {locs : List Loc} {sA : Nat → Nat} (hAm : qAm D cy (ρ0 19) s) (hSt : qSt (ρ0 19) A s) (hA : ∀ q, s.heap.size ≤ q → A q) (hR0 : qRep D cy ρ h A H) (hS : va_S A s.heap H locs) (hX : qX h0 ρ0 h ρ) : ∀ U : State, U.heap = H → s.WarmedH U.vm → qPre D cy ρ h as H.size (as.map (rv ρ)).toArray U := by
  intro U hU hW
  subst hU
  have hB := qAd_A hR0 hS hA
  refine ⟨rfl, rfl, ?_, ?_, ?_⟩
  · obtain ⟨N, q1, q2, q3, q4⟩ := hR0
    exact ⟨N, q1, q2, q3, q4.weaken fun _ _ _ _ => trivial⟩
  · rw [hX.2.2]; exact hAm.warm hW
  · rw [hX.2.2]; exact hSt.callee hS hW.alike hB
theorem qroom_ok {rk : Nat} {r1 : qO} {mL : Nat} (hR : R.frames ≥ rk + 1) (hR2 : R.locals ≥ 36 * (rk + 1)) (hm : mL ≤ 17) : (qroom rk h r1).frames + 1 ≤ R.frames ∧ 8 + (mL + 11) + (qroom rk h r1).locals ≤ R.locals := ⟨hR, by show 8 + (mL + 11) + 36 * rk ≤ _; omega⟩

theorem qs_invokestatic (C : qCx p s m args meth c cc nL ow ini D cy A R h0 ρ0 r) (hk : ∀ a b c' d, k a b c' d = some r → mle d r.1 ∧ qGo p l e R s m args below meth c nL D cy A Q h0 ρ0 a b c' d) {mdt : Nat → Option qD} {n : Nat} (hsite : ∀ mid na rc, qlk lk.2.1 n = some (0, mid, na, rc) → ∀ md, mdt mid = some md → md.2.2.2.2.1 = na ∧ md.2.2.2.2.2 = true ∧ Cond.static md.1 ∈ lw_good ∧ (Cond.methodLink ow n md.1 ∈ lw_good ∨ ∃ host, Cond.methodLinkNest ow n md.1 host ∈ qnest)) (hmd : ∃ mid na rc, qlk lk.2.1 n = some (0, mid, na, rc)) (hcal : ∀ mid as h1 r1, cal mid as h1 = some r1 → qCl h1 → (∀ w ∈ as, qOk h1 w) → mle h1 r1.1 ∧ ∃ rk md, mdt mid = some md ∧ qMok md ∧ rk + 1 ≤ R.frames ∧ 36 * (rk + 1) ≤ R.locals ∧ qMet l rk md as h1 r1)  (hd : decode cc pc = .ok (.invokestatic n, 3)) (E : qx cal lk rt (.invokestatic n) 3 pc ls st h k = some r) : qGo p l e R s m args below meth c nL D cy A Q h0 ρ0 pc ls st h := by
  obtain ⟨hx, hb, hml, hown, hts, hlk, hini, hAm, hSt, hA, hR, hRc, hRs⟩ := C
  intro ρ H locs lsA hcl hlo hst hR0 hS hX
  dsimp only [qx] at E
  have C : qCx p s m args meth c cc nL ow ini D cy A R h0 ρ0 r := ⟨hx, hb, hml, hown, hts, hlk, hini, hAm, hSt, hA, hR, hRc, hRs⟩
  obtain ⟨mid, na, rc, hq⟩ := hmd
  replace E : (match qpop na [] st with
    | some (as, st) => bif Nat.ble (qsum st) 8 then qback rc (cal mid as h) (fun st h => k (pc + 3) ls st h) st else none
    | none => none) = some r := by rw [hq] at E; exact E
  split at E
  · rename_i as st' hpop
    cases hs8 : Nat.ble (qsum st') 8 with
    | false => rw [hs8, cond_false] at E; cases E
    | true =>
      rw [hs8, cond_true] at E
      obtain ⟨cs, hcs1, hcs2, hcs3⟩ := qpop_inv hpop
      rw [List.append_nil] at hcs2
      subst hcs2
      subst hcs3
      have hok : ∀ w ∈ as, qOk h w := fun w hw => hst w (List.mem_append_left _ (List.mem_reverse.mpr hw))
      have hokr : ∀ w ∈ st', qOk h w := fun w hw => hst w (List.mem_append_right _ hw)
      cases hc : cal mid as h with
      | none =>
        rw [hc] at E
        unfold qback at E
        split at E <;> simp [qbV, qbI, qbJ, qbR] at E
      | some r1 =>
        rw [hc] at E
        obtain ⟨hm1, rk, md, hmd, hMok, hfr, hlc, hMet⟩ := hcal mid as h r1 hc hcl hok
        obtain ⟨hna, hstt, hstat, hlink⟩ := hsite _ _ _ hq md hmd
        have hle : mle r1.1 r.1 := (hk _ _ _ _ (qback_inv E)).1
        have hm2 := hle
        have l1 := hm1.1
        have l2 := hm1.2.1
        have l3 := hm2.1
        have l4 := hm2.2.1
        have g1 := hX.1.1
        have g2 := hX.1.2.1
        have hf : (mA h).1 - (mA h0).1 + ((mA r1.1).1 - (mA h).1) ≤ R.cells ∧ (mA h).2 - (mA h0).2 + ((mA r1.1).2 - (mA h).2) ≤ R.slots := ⟨by rw [hRc]; omega, by rw [hRs]; omega⟩
        have hrm := qroom_ok (h := h) (r1 := r1) hfr hlc hMok.2.2.2.2.1
        have hstk : (List.map (rv ρ) (as.reverse ++ st')) = (as.map (rv ρ)).reverse ++ st'.map (rv ρ) := by rw [List.map_append, List.map_reverse]
        have hp : PreS s H (qPre D cy ρ h as H.size) (as.map (rv ρ)) := ⟨qPre_blind, qpre_of (sA := ρ0 19) hAm hSt hA hR0 hS hX⟩
        have hsum : ((st'.map (rv ρ)).map fun v => v.category).sum ≤ 8 := by rw [qsum_eq]; exact Nat.le_of_ble_eq_true hs8
        have CF : CallFix p m c cc nL s args lw_good ow := ⟨hx, hb, hml, hown, hts⟩
        refine qcall_go C hk hlo hokr hR0 hS hX hm1 E ?_ (arr := (as.map (rv ρ)).toArray)
        rcases hlink with hlink | ⟨host, hlink⟩
        · exact va_runS CF (hMet D cy ρ H.size) (va_cwS na hts (lw_good_gi (List.forall_mem_cons.mpr ⟨hlink, List.forall_mem_cons.mpr ⟨hstat, List.forall_mem_cons.mpr ⟨hMok.2.1, hMok.ws⟩⟩⟩)) rfl rfl rfl ⟨hMok.2.2.1.1, hMok.2.2.1.2, by rw [hMok.2.2.2.1, hna]⟩ hrm) hp rfl (by rw [List.length_map, hcs1]) hlo.1 hstk (lv_room hsum) hd hf
        · exact va_runSN CF (hMet D cy ρ H.size) ⟨va_cnB (host := host) na hts (lw_good_gi hMok.ws) rfl rfl rfl (hAm.2.1 _ hlink) (hts _ hMok.2.1) ⟨hMok.2.2.1.1, hMok.2.2.1.2, by rw [hMok.2.2.2.1, hna]⟩ hrm, hts _ hstat, trivial⟩ hp rfl (by rw [List.length_map, hcs1]) hlo.1 hstk (lv_room hsum) hd hf
  · cases E

theorem qs_invokevirtual (C : qCx p s m args meth c cc nL ow ini D cy A R h0 ρ0 r) (hk : ∀ a b c' d, k a b c' d = some r → mle d r.1 ∧ qGo p l e R s m args below meth c nL D cy A Q h0 ρ0 a b c' d) {mdt : Nat → Option qD} {n : Nat} (hsite : ∀ kk mid na rc, qlk lk.2.1 n = some (kk + 10, mid, na, rc) → ∀ md, mdt mid = some md → md.2.2.2.2.1 = na ∧ kk < 13 ∧ md.1.cls = qRC kk ∧ Cond.instanceMethod md.1 ∈ lw_good ∧ Cond.selects md.1.cls md.1 md.1 ∈ lw_good ∧ Cond.methodLink ow n md.1 ∈ lw_good) (hmd : ∃ kk mid na rc, qlk lk.2.1 n = some (kk + 10, mid, na, rc)) (hcal : ∀ mid as h1 r1, cal mid as h1 = some r1 → qCl h1 → (∀ w ∈ as, qOk h1 w) → mle h1 r1.1 ∧ ∃ rk md, mdt mid = some md ∧ qMok md ∧ rk + 1 ≤ R.frames ∧ 36 * (rk + 1) ≤ R.locals ∧ qMet l rk md as h1 r1)  (hd : decode cc pc = .ok (.invokevirtual n, 3)) (E : qx cal lk rt (.invokevirtual n) 3 pc ls st h k = some r) : qGo p l e R s m args below meth c nL D cy A Q h0 ρ0 pc ls st h := by
  obtain ⟨hx, hb, hml, hown, hts, hlk, hini, hAm, hSt, hA, hR, hRc, hRs⟩ := C
  intro ρ H locs lsA hcl hlo hst hR0 hS hX
  dsimp only [qx] at E
  have C : qCx p s m args meth c cc nL ow ini D cy A R h0 ρ0 r := ⟨hx, hb, hml, hown, hts, hlk, hini, hAm, hSt, hA, hR, hRc, hRs⟩
  obtain ⟨kk, mid, na, rc, hq⟩ := hmd
  rw [hq] at E
  try dsimp only at E
  split at E
  · rename_i k0 o as st' hpop
    cases hk0 : Nat.beq k0 kk with
    | false => rw [hk0, Bool.false_and, cond_false] at E; cases E
    | true =>
    cases hs8 : Nat.ble (qsum st') 8 with
    | false => rw [hk0, hs8, Bool.and_false, cond_false] at E; cases E
    | true =>
      rw [hk0, hs8, Bool.and_true, cond_true] at E
      have hkk : k0 = kk := Nat.eq_of_beq_eq_true hk0
      subst hkk
      obtain ⟨cs, hcs1, hcs2, hcs3⟩ := qpop_inv hpop
      rw [List.append_nil] at hcs2
      subst hcs2
      subst hcs3
      cases o with
      | none => cases E
      | some j =>
      dsimp only [Option.bind_some] at E
      have hok : ∀ w ∈ (.inr (.inr (k0, some j)) :: as : List qV), qOk h w := fun w hw => hst w (List.mem_append_left _ (List.mem_reverse.mpr hw))
      have hokr : ∀ w ∈ st', qOk h w := fun w hw => hst w (List.mem_append_right _ hw)
      cases hc : cal mid (.inr (.inr (k0, some j)) :: as) h with
      | none =>
        rw [hc] at E
        unfold qback at E
        split at E <;> simp [qbV, qbI, qbJ, qbR] at E
      | some r1 =>
        rw [hc] at E
        obtain ⟨hm1, rk, md, hmd, hMok, hfr, hlc, hMet⟩ := hcal mid _ h r1 hc hcl hok
        obtain ⟨hna, h13, hcls, hinst, hsel, hlink⟩ := hsite _ _ _ _ hq md hmd
        have hle : mle r1.1 r.1 := (hk _ _ _ _ (qback_inv E)).1
        have hm2 := hle
        have l1 := hm1.1
        have l2 := hm1.2.1
        have l3 := hm2.1
        have l4 := hm2.2.1
        have g1 := hX.1.1
        have g2 := hX.1.2.1
        have hf : (mA h).1 - (mA h0).1 + ((mA r1.1).1 - (mA h).1) ≤ R.cells ∧ (mA h).2 - (mA h0).2 + ((mA r1.1).2 - (mA h).2) ≤ R.slots := ⟨by rw [hRc]; omega, by rw [hRs]; omega⟩
        have hrm := qroom_ok (h := h) (r1 := r1) hfr hlc hMok.2.2.2.2.1
        have hstk : (List.map (rv ρ) ((.inr (.inr (k0, some j)) :: as : List qV).reverse ++ st')) = (as.map (rv ρ)).reverse ++ .ref (ρ k0 j) :: st'.map (rv ρ) := by
          rw [List.map_append, List.map_reverse, List.map_cons, List.reverse_cons, List.append_assoc]
          rfl
        have hj := qOk_ref (by omega) (hok _ List.mem_cons_self)
        obtain ⟨N, q0, hp0, hN, hm, hP, hD⟩ := hR0.at (by omega) hj
        have he := wl_at (cy := cy) (ρ := ρ) (h := h) hp0
        rw [ren_cls h13] at he
        have hrecv := va_recv hAm.1 hP (qTT_cl k0 h13) he
        have hpre := qpre_of (as := (.inr (.inr (k0, some j)) :: as)) (sA := ρ0 19) hAm hSt hA hR0 hS hX
        have hsum : ((st'.map (rv ρ)).map fun v => v.category).sum ≤ 8 := by rw [qsum_eq]; exact Nat.le_of_ble_eq_true hs8
        have CF : CallFix p m c cc nL s args lw_good ow := ⟨hx, hb, hml, hown, hts⟩
        have hlen : (as.map (rv ρ)).length = na := by rw [List.length_map]; simp at hcs1; exact hcs1
        refine qcall_go C hk hlo hokr hR0 hS hX hm1 E ?_ (arr := (.ref (ρ k0 j) :: as.map (rv ρ)).toArray)
        refine va_runV CF (hMet D cy ρ H.size) (cwV na hts (lw_good_gi (List.forall_mem_cons.mpr ⟨hlink, List.forall_mem_cons.mpr ⟨hinst, List.forall_mem_cons.mpr ⟨hsel, List.forall_mem_cons.mpr ⟨hMok.2.1, hMok.ws⟩⟩⟩⟩)) rfl rfl rfl ⟨rfl, hMok.2.2.1.1, hMok.2.2.1.2, by rw [hMok.2.2.2.1, hna]⟩ hrm) ⟨qPre_blind, ?_, hpre⟩ rfl hlen hlo.1 hstk (lv_room hsum) hd hf
        rw [hcls]
        exact hrecv
  · cases E

theorem qs_invokespecial (C : qCx p s m args meth c cc nL ow ini D cy A R h0 ρ0 r) (hk : ∀ a b c' d, k a b c' d = some r → mle d r.1 ∧ qGo p l e R s m args below meth c nL D cy A Q h0 ρ0 a b c' d) {mdt : Nat → Option qD} {n : Nat} (hsite : ∀ kk mid na rc, qlk lk.2.1 n = some (kk + 10, mid, na, rc) → ∀ md, mdt mid = some md → md.2.2.2.2.1 = na ∧ kk < 13 ∧ md.1.cls = qRC kk ∧ Cond.instanceMethod md.1 ∈ lw_good ∧ md.1.name = "<init>" ∧ md.2.2.2.1 = none ∧ (Cond.methodLink ow n md.1 ∈ lw_good ∨ ∃ host, Cond.methodLinkNest ow n md.1 host ∈ qnest)) (hmd : ∃ kk mid na rc, qlk lk.2.1 n = some (kk + 10, mid, na, rc)) (hcal : ∀ mid as h1 r1, cal mid as h1 = some r1 → qCl h1 → (∀ w ∈ as, qOk h1 w) → mle h1 r1.1 ∧ ∃ rk md, mdt mid = some md ∧ qMok md ∧ rk + 1 ≤ R.frames ∧ 36 * (rk + 1) ≤ R.locals ∧ qMet l rk md as h1 r1)  (hd : decode cc pc = .ok (.invokespecial n, 3)) (E : qx cal lk rt (.invokespecial n) 3 pc ls st h k = some r) : qGo p l e R s m args below meth c nL D cy A Q h0 ρ0 pc ls st h := by
  obtain ⟨hx, hb, hml, hown, hts, hlk, hini, hAm, hSt, hA, hR, hRc, hRs⟩ := C
  intro ρ H locs lsA hcl hlo hst hR0 hS hX
  dsimp only [qx] at E
  have C : qCx p s m args meth c cc nL ow ini D cy A R h0 ρ0 r := ⟨hx, hb, hml, hown, hts, hlk, hini, hAm, hSt, hA, hR, hRc, hRs⟩
  obtain ⟨kk, mid, na, rc, hq⟩ := hmd
  rw [hq] at E
  try dsimp only at E
  split at E
  · rename_i k0 o as st' hpop
    cases hk0 : Nat.beq k0 kk with
    | false => rw [hk0, Bool.false_and, cond_false] at E; cases E
    | true =>
    cases hs8 : Nat.ble (qsum st') 8 with
    | false => rw [hk0, hs8, Bool.and_false, cond_false] at E; cases E
    | true =>
      rw [hk0, hs8, Bool.and_true, cond_true] at E
      have hkk : k0 = kk := Nat.eq_of_beq_eq_true hk0
      subst hkk
      obtain ⟨cs, hcs1, hcs2, hcs3⟩ := qpop_inv hpop
      rw [List.append_nil] at hcs2
      subst hcs2
      subst hcs3
      cases o with
      | none => cases E
      | some j =>
      dsimp only [Option.bind_some] at E
      have hok : ∀ w ∈ (.inr (.inr (k0, some j)) :: as : List qV), qOk h w := fun w hw => hst w (List.mem_append_left _ (List.mem_reverse.mpr hw))
      have hokr : ∀ w ∈ st', qOk h w := fun w hw => hst w (List.mem_append_right _ hw)
      cases hc : cal mid (.inr (.inr (k0, some j)) :: as) h with
      | none =>
        rw [hc] at E
        unfold qback at E
        split at E <;> simp [qbV, qbI, qbJ, qbR] at E
      | some r1 =>
        rw [hc] at E
        obtain ⟨hm1, rk, md, hmd, hMok, hfr, hlc, hMet⟩ := hcal mid _ h r1 hc hcl hok
        obtain ⟨hna, h13, hcls, hinst, hname, hret, hlink⟩ := hsite _ _ _ _ hq md hmd
        have hle : mle r1.1 r.1 := (hk _ _ _ _ (qback_inv (rc := 0) E)).1
        have hm2 := hle
        have l1 := hm1.1
        have l2 := hm1.2.1
        have l3 := hm2.1
        have l4 := hm2.2.1
        have g1 := hX.1.1
        have g2 := hX.1.2.1
        have hf : (mA h).1 - (mA h0).1 + ((mA r1.1).1 - (mA h).1) ≤ R.cells ∧ (mA h).2 - (mA h0).2 + ((mA r1.1).2 - (mA h).2) ≤ R.slots := ⟨by rw [hRc]; omega, by rw [hRs]; omega⟩
        have hrm := qroom_ok (h := h) (r1 := r1) hfr hlc hMok.2.2.2.2.1
        have hstk : (List.map (rv ρ) ((.inr (.inr (k0, some j)) :: as : List qV).reverse ++ st')) = (as.map (rv ρ)).reverse ++ .ref (ρ k0 j) :: st'.map (rv ρ) := by
          rw [List.map_append, List.map_reverse, List.map_cons, List.reverse_cons, List.append_assoc]
          rfl
        have hj := qOk_ref (by omega) (hok _ List.mem_cons_self)
        obtain ⟨N, q0, hp0, hN, hm, hP, hD⟩ := hR0.at (by omega) hj
        have he := wl_at (cy := cy) (ρ := ρ) (h := h) hp0
        rw [ren_cls h13] at he
        have hrecv := va_recv hAm.1 hP (qTT_cl k0 h13) he
        have hpre := qpre_of (as := (.inr (.inr (k0, some j)) :: as)) (sA := ρ0 19) hAm hSt hA hR0 hS hX
        have hsum : ((st'.map (rv ρ)).map fun v => v.category).sum ≤ 8 := by rw [qsum_eq]; exact Nat.le_of_ble_eq_true hs8
        have CF : CallFix p m c cc nL s args lw_good ow := ⟨hx, hb, hml, hown, hts⟩
        have hlen : (as.map (rv ρ)).length = na := by rw [List.length_map]; simp at hcs1; exact hcs1
        refine qcall_go C hk hlo hokr hR0 hS hX hm1 E ?_ (arr := (.ref (ρ k0 j) :: as.map (rv ρ)).toArray)
        obtain ⟨y0, b0, mL0, ret0, na0, st0⟩ := md
        dsimp only at hret
        subst hret
        rcases hlink with hlink | ⟨host, hlink⟩
        · exact va_runI CF (hMet D cy ρ H.size) (cwI na hts (lw_good_gi hMok.ws) rfl rfl rfl (hts _ hMok.2.1) (hts _ hlink) (hts _ hinst) hname ⟨hMok.2.2.1.1, hMok.2.2.1.2, by rw [hMok.2.2.2.1, hna]⟩ hrm) ⟨qPre_blind, hpre⟩ rfl hlen hlo.1 hstk (lv_room hsum) hd hf
        · exact va_runIN CF (hMet D cy ρ H.size) ⟨va_cnB (host := host) na hts (lw_good_gi hMok.ws) rfl rfl rfl (hAm.2.1 _ hlink) (hts _ hMok.2.1) ⟨hMok.2.2.1.1, hMok.2.2.1.2, by rw [hMok.2.2.2.1, hna]⟩ hrm, hname, hts _ hinst⟩ ⟨qPre_blind, hpre⟩ rfl hlen hlo.1 hstk (lv_room hsum) hd hf
  · cases E
end QS
