/-! TEXT CONSTANTS: length and charAt of the JDK, walked by hand -/
def qSame (v : Option Value) : Array Value → State → Outcome → State → Prop := fun _ st oc t => oc = .returned v ∧ t.heap = st.heap
def qTP (sA : Nat → Nat) (as : List Value) (sz : Nat) : Array Value → State → Prop := va_Pc as (fun U => U.heap.size = sz ∧ qSt sA (fun q => sz ≤ q) U)
theorem qTP_blind {sA : Nat → Nat} {as : List Value} {sz : Nat} : FrameBlind (qTP sA as sz) := fun _ _ _ _ q => q
def qjroom (n : Nat) : Room := { frames := n, cells := 0, slots := 0, locals := 22 * n }
section QT
variable {p : Program} {l : Launch} {e : Env} {R : Room} {s : State} {m : MethodId} {args : Array Value} {below : List Frame} {meth : Method} {c : Code} {Q : State → Prop} {H : Heap} {locs : List Loc} {cells slots pc : Nat} {lsA : Array Slot}
theorem qsame_go {v : Option Value} {arr : Array Value} {rest st0 : List Value} (hrun : va_Run p l e R s m args below meth c H locs cells slots 0 0 (F0 m pc lsA st0) rest (qSame v arr) (fun _ => False))
    (kk : W p l e R s m args below meth c H locs cells slots Q (F0 m (pc + 3) lsA (v.toList ++ rest))) : W p l e R s m args below meth c H locs cells slots Q (F0 m pc lsA st0) := by
  intro T hT X
  obtain ⟨v', st₀, t, T', L, h0', X', hL, e1, e2, ⟨hv, hh⟩, st⟩ := hrun T hT X
  have hv' : v' = v := by injection hv
  subst hv'
  have hL0 : L = [] := List.eq_nil_iff_forall_not_mem.mpr fun q hq => hL q hq
  subst hL0
  rw [List.append_nil] at X'
  obtain ⟨t2, a1, b1⟩ := kk T' (by rw [e1, hh, h0']) X'
  exact ⟨t2, st t2 a1, b1⟩
end QT
theorem qTP_pre {s U : State} {sA : Nat → Nat} {A : Nat → Prop} {as : List Value} {H : Heap} {locs : List Loc} (hU : U.heap = H) (hSt : qSt sA A s) (hS : va_S A s.heap H locs) (hA : ∀ q, s.heap.size ≤ q → A q) (hW : s.WarmedH U.vm) : qTP sA as H.size as.toArray U := by
  subst hU
  refine ⟨rfl, rfl, ?_⟩
  obtain ⟨adV, h1, h2, h3⟩ := hSt
  have hB : ∀ q, U.heap.size ≤ q → A q := fun q h => hA q (Nat.le_trans hS.1 h)
  exact ⟨adV, vk_S.narrow (vk_S.moved hW.alike (h1.kept fun a hl hn => hS.2.1 a hl hn)) hB, va_Z.narrow (va_Z.moved hW.alike (h2.kept fun a hl hn => hS.2.1 a hl hn)) hB, va_Zq.narrow (va_Zq.moved hW.alike (h3.kept fun a hl hn => hS.2.1 a hl hn)) hB⟩
theorem qj_f1 : Cond.fieldLink RJ0 38 "java/lang/String" "COMPACT_STRINGS" "Z" ∈ lw_good := by decide +kernel
theorem qj_f2 : Cond.fieldLink RJ0 15 "java/lang/String" "coder" "B" ∈ lw_good := by decide +kernel
theorem qj_f3 : Cond.fieldLink RJ0 9 "java/lang/String" "value" "[B" ∈ lw_good := by decide +kernel
theorem qj_f4 : Cond.fieldLink RJ0 1053 "jdk/internal/util/Preconditions" "SIOOBE_FORMATTER" "Ljava/util/function/BiFunction;" ∈ lw_good := by decide +kernel
def qmd_coder : qD := (yJ0_coder_7d493, cJ0_coder_7d493, 1, some .byte, 0, false)
def qmd_isLatin1 : qD := (yJ0_isLatin1_aae02, cJ0_isLatin1_aae02, 1, some .boolean, 0, false)
def qmd_length : qD := (yJ0_length_8abf5, cJ0_length_8abf5, 1, some .int, 0, false)
def qmd_charAt : qD := (yJ0_charAt_5068e, cJ0_charAt_5068e, 2, some .char, 1, false)
def qmd_checkIndex : qD := (yJ0_checkIndex_df160, cJ0_checkIndex_df160, 2, none, 2, true)
def qmd_charAt1 : qD := (yJ1_charAt_3b067, cJ1_charAt_3b067, 2, some .char, 2, true)
def qmd_pcheck : qD := (yJ3_checkIndex_8e157, cJ3_checkIndex_8e157, 3, some .int, 3, true)
theorem qM_coder : qMok qmd_coder := ⟨by decide +kernel, by decide +kernel, ⟨by decide, by decide⟩, by decide +kernel, by decide, by decide⟩
theorem qM_isLatin1 : qMok qmd_isLatin1 := ⟨by decide +kernel, by decide +kernel, ⟨by decide, by decide⟩, by decide +kernel, by decide, by decide⟩
theorem qM_length : qMok qmd_length := ⟨by decide +kernel, by decide +kernel, ⟨by decide, by decide⟩, by decide +kernel, by decide, by decide⟩
theorem qM_charAt : qMok qmd_charAt := ⟨by decide +kernel, by decide +kernel, ⟨by decide, by decide⟩, by decide +kernel, by decide, by decide⟩
theorem qM_checkIndex : qMok qmd_checkIndex := ⟨by decide +kernel, by decide +kernel, ⟨by decide, by decide⟩, by decide +kernel, by decide, by decide⟩
theorem qM_charAt1 : qMok qmd_charAt1 := ⟨by decide +kernel, by decide +kernel, ⟨by decide, by decide⟩, by decide +kernel, by decide, by decide⟩
theorem qM_pcheck : qMok qmd_pcheck := ⟨by decide +kernel, by decide +kernel, ⟨by decide, by decide⟩, by decide +kernel, by decide, by decide⟩
def qTMet (l : Launch) (n : Nat) (md : qD) (sA : Nat → Nat) (as : List Value) (v : Option Value) : Prop := ∀ sz, Met l md.1 (Cond.code md.1 md.2.1 md.2.2.1 md.2.2.2.1 :: lw_good) (qjroom n) (qTP sA as sz) (qSame v) 0 0 (fun _ => False)
/-- the entry of such a walk -/
theorem qT_enter {l : Launch} {n : Nat} {md : qD} {sA : Nat → Nat} {as : List Value} {v : Option Value} (hM : qMok md) (hlen : (lg_sl as).length ≤ md.2.2.1)
    (body : ∀ (p : Program) (e : Env) (s : State) (m : MethodId) (args : Array Value) (below : List Frame) (meth : Method) (c : Code), p.tables.exec = Jvm.exec → c.code = md.2.1 → c.maxLocals = md.2.2.1 → meth.sig.returnType = md.2.2.2.1 → meth.locks = false → s.vm.findClass md.1.cls = some m.cls → (∀ w ∈ lw_good, w.before args s = true) → qSt sA (fun q => s.heap.size ≤ q) s →
      ∀ ls : Array Slot, lv_has ls md.2.2.1 (lv_args 0 as) → W p l e (qjroom n) s m args below meth c s.heap [] 0 0 (MQ below (qSame v) args s 0 0 (fun _ => False)) (F0 m 0 ls [])) : qTMet l n md sA as v := by
  intro sz
  refine Met.ofW (cc := md.2.1) (maxL := md.2.2.1) (ret := md.2.2.2.1) hM.2.2.2.2.2 rfl ?_
  intro p e s m args below meth c s₁ B hml hv
  obtain ⟨rfl, hsz, hSt⟩ := hv
  subst hsz
  have hts := atoms_spec (ws := Cond.code md.1 md.2.1 md.2.2.1 md.2.2.2.1 :: lw_good) B.pre
  have hl := lv_entry as hlen
  rw [lg_entry_eq]
  exact body p e s m _ below meth c B.exec B.bytes hml B.returns B.notSynchronized (findClass_of_methodNamed B.named) (fun w hw => hts w (List.mem_cons_of_mem _ hw)) hSt _ hl
theorem qj_coder (l : Launch) (sA : Nat → Nat) (id : Nat) (hid : id < 16) : qTMet l 0 qmd_coder sA [.ref (sA id)] (some (.int 0)) := by
  refine qT_enter qM_coder (Nat.le_of_ble_eq_true rfl) ?_
  intro p e s m args below meth c hx hb hml hr hlk hown hts hSt ls hl
  obtain ⟨adV, hV, hZ, hZq⟩ := hSt
  have hS : va_S (fun q => s.heap.size ≤ q) s.heap s.heap [] := va_S.rf
  refine va_gets hx hb hZ hS hown (hts _ qj_f1) (fun _ h => h) (show decode cJ0_coder_7d493 0 = .ok (.getstatic 38, 3) by decide +kernel) ?_
  refine lv_if_eq (tgt := 13) hx hb (show decode cJ0_coder_7d493 3 = .ok (.ifCond .eq 10, 3) by decide +kernel) (by decide) (fun h => absurd h (by decide)) (fun _ => ?_)
  refine lv_aload_n hx hb (show decode cJ0_coder_7d493 6 = .ok (.aload_n 0, 1) by decide +kernel) rfl (lv_at hl 0 rfl) ?_
  refine vk_getf hx hb (hV.1 id hid).2.1 hS hown (hts _ qj_f2) (fun _ h => h) (show decode cJ0_coder_7d493 7 = .ok (.getfield 15, 3) by decide +kernel) ?_
  refine lv_goto (tgt := 14) hx hb (show decode cJ0_coder_7d493 10 = .ok (.goto 4, 3) by decide +kernel) (by decide) ?_
  exact W.zret (ty := .byte) hx hb hr rfl (fun t ht _ => ⟨rfl, ht⟩) (fun _ h9 => absurd h9 List.not_mem_nil) (show decode cJ0_coder_7d493 14 = .ok (.ireturn, 1) by decide +kernel)
theorem qj_isLatin1 (l : Launch) (sA : Nat → Nat) (id : Nat) (hid : id < 16) : qTMet l 0 qmd_isLatin1 sA [.ref (sA id)] (some (.int 1)) := by
  refine qT_enter qM_isLatin1 (Nat.le_of_ble_eq_true rfl) ?_
  intro p e s m args below meth c hx hb hml hr hlk hown hts hSt ls hl
  obtain ⟨adV, hV, hZ, hZq⟩ := hSt
  have hS : va_S (fun q => s.heap.size ≤ q) s.heap s.heap [] := va_S.rf
  refine va_gets hx hb hZ hS hown (hts _ qj_f1) (fun _ h => h) (show decode cJ0_isLatin1_aae02 0 = .ok (.getstatic 38, 3) by decide +kernel) ?_
  refine lv_if_eq (tgt := 17) hx hb (show decode cJ0_isLatin1_aae02 3 = .ok (.ifCond .eq 14, 3) by decide +kernel) (by decide) (fun h => absurd h (by decide)) (fun _ => ?_)
  refine lv_aload_n hx hb (show decode cJ0_isLatin1_aae02 6 = .ok (.aload_n 0, 1) by decide +kernel) rfl (lv_at hl 0 rfl) ?_
  refine vk_getf hx hb (hV.1 id hid).2.1 hS hown (hts _ qj_f2) (fun _ h => h) (show decode cJ0_isLatin1_aae02 7 = .ok (.getfield 15, 3) by decide +kernel) ?_
  refine lv_if_ne (tgt := 17) hx hb (show decode cJ0_isLatin1_aae02 10 = .ok (.ifCond .ne 7, 3) by decide +kernel) (by decide) (fun h => absurd rfl h) (fun _ => ?_)
  refine lv_iconst (v := 1) hx hb (show decode cJ0_isLatin1_aae02 13 = .ok (.iconst 1, 1) by decide +kernel) (by decide) ?_
  refine lv_goto (tgt := 18) hx hb (show decode cJ0_isLatin1_aae02 14 = .ok (.goto 4, 3) by decide +kernel) (by decide) ?_
  exact W.zret (ty := .boolean) hx hb hr rfl (fun t ht _ => ⟨rfl, ht⟩) (fun _ h9 => absurd h9 List.not_mem_nil) (show decode cJ0_isLatin1_aae02 18 = .ok (.ireturn, 1) by decide +kernel)
theorem qj_pcheck (l : Launch) (sA : Nat → Nat) (i n : Int32) (fm : Value) (hf : fm = .null ∨ ∃ q, fm = .ref q) (h1 : ¬ i < 0) (h2 : i < n) : qTMet l 0 qmd_pcheck sA [.int i, .int n, fm] (some (.int i)) := by
  have hc : fm.category = 1 := by rcases hf with rfl | ⟨q, rfl⟩ <;> rfl
  refine qT_enter qM_pcheck (by rcases hf with rfl | ⟨q, rfl⟩ <;> exact Nat.le_of_ble_eq_true rfl) ?_
  intro p e s m args below meth c hx hb hml hr hlk hown hts hSt ls hl
  have hS : va_S (fun q => s.heap.size ≤ q) s.heap s.heap [] := va_S.rf
  refine lv_iload_n hx hb (show decode cJ3_checkIndex_8e157 0 = .ok (.iload_n 0, 1) by decide +kernel) rfl (lv_at hl 0 rfl) ?_
  refine lv_if_lt (tgt := 9) hx hb (show decode cJ3_checkIndex_8e157 1 = .ok (.ifCond .lt 8, 3) by decide +kernel) (by decide) (fun h => absurd h h1) (fun _ => ?_)
  refine lv_iload_n hx hb (show decode cJ3_checkIndex_8e157 4 = .ok (.iload_n 0, 1) by decide +kernel) rfl (lv_at hl 0 rfl) ?_
  refine lv_iload_n hx hb (show decode cJ3_checkIndex_8e157 5 = .ok (.iload_n 1, 1) by decide +kernel) rfl (lv_at hl 1 rfl) ?_
  refine lv_icmp_lt (tgt := 16) hx hb (show decode cJ3_checkIndex_8e157 6 = .ok (.if_icmp .lt 10, 3) by decide +kernel) (by decide) (fun _ => ?_) (fun h => absurd h2 h)
  refine lv_iload_n hx hb (show decode cJ3_checkIndex_8e157 16 = .ok (.iload_n 0, 1) by decide +kernel) rfl (lv_at hl 0 rfl) ?_
  exact W.iret hx hb hr (fun t ht _ => ⟨rfl, ht⟩) (fun _ h9 => absurd h9 List.not_mem_nil) (show decode cJ3_checkIndex_8e157 17 = .ok (.ireturn, 1) by decide +kernel)
theorem qj_checkIndex (l : Launch) (sA : Nat → Nat) (i n : Int32) (h1 : ¬ i < 0) (h2 : i < n) : qTMet l 1 qmd_checkIndex sA [.int i, .int n] none := by
  refine qT_enter qM_checkIndex (Nat.le_of_ble_eq_true rfl) ?_
  intro p e s m args below meth c hx hb hml hr hlk hown hts hSt ls hl
  have hS : va_S (fun q => s.heap.size ≤ q) s.heap s.heap [] := va_S.rf
  have hA : ∀ q, s.heap.size ≤ q → (fun q => s.heap.size ≤ q) q := fun _ h => h
  have hSt' := hSt
  obtain ⟨adV, hV, hZ, hZq⟩ := hSt
  refine lv_iload_n hx hb (show decode cJ0_checkIndex_df160 0 = .ok (.iload_n 0, 1) by decide +kernel) rfl (lv_at hl 0 rfl) ?_
  refine lv_iload_n hx hb (show decode cJ0_checkIndex_df160 1 = .ok (.iload_n 1, 1) by decide +kernel) rfl (lv_at hl 1 rfl) ?_
  have key : ∀ fm : Value, (fm = .null ∨ ∃ q, fm = .ref q) → W p l e (qjroom 1) s m args below meth c s.heap [] 0 0 (MQ below (qSame none) args s 0 0 (fun _ => False)) (F0 m 5 ls [fm, .int n, .int i]) := by
    intro fm hf
    refine qsame_go (rest := []) (va_runS (As := [.int i, .int n, fm]) (rest := []) ⟨hx, hb, hml, hown, hts⟩ (qj_pcheck l sA i n fm hf h1 h2 s.heap.size) (va_cwS 3 hts (lw_good_gi (List.forall_mem_cons.mpr ⟨by decide +kernel, List.forall_mem_cons.mpr ⟨by decide +kernel, List.forall_mem_cons.mpr ⟨qM_pcheck.2.1, qM_pcheck.ws⟩⟩⟩)) rfl rfl rfl ⟨qM_pcheck.2.2.1.1, qM_pcheck.2.2.1.2, qM_pcheck.2.2.2.1⟩ ⟨by decide, by decide⟩) ⟨qTP_blind, fun U hU hW => qTP_pre hU hSt' hS hA hW⟩ rfl rfl hl.1 rfl (lv_room (Nat.le_of_ble_eq_true rfl)) (show decode cJ0_checkIndex_df160 5 = .ok (.invokestatic 1059, 3) by decide +kernel) ⟨Nat.le_refl _, Nat.le_refl _⟩) ?_
    refine lv_pop hx hb (show decode cJ0_checkIndex_df160 8 = .ok (.pop, 1) by decide +kernel) rfl ?_
    exact W.vret hx hb hr (fun t ht _ => ⟨rfl, ht⟩) (fun _ h9 => absurd h9 List.not_mem_nil) (show decode cJ0_checkIndex_df160 9 = .ok (.return_, 1) by decide +kernel)
  rcases hZq with hZq | ⟨q, hZq⟩
  · exact va_gets hx hb hZq hS hown (hts _ qj_f4) (fun _ h => h) (show decode cJ0_checkIndex_df160 2 = .ok (.getstatic 1053, 3) by decide +kernel) (key _ (Or.inl rfl))
  · exact va_gets hx hb hZq hS hown (hts _ qj_f4) (fun _ h => h) (show decode cJ0_checkIndex_df160 2 = .ok (.getstatic 1053, 3) by decide +kernel) (key _ (Or.inr ⟨q, rfl⟩))
theorem qtx_len (id : Nat) : (qtext.map List.length).getD id 0 = (qtx id).length := by
  unfold qtx
  rw [List.getD_eq_getElem?_getD, List.getElem?_map]
  cases qtext[id]? <;> rfl
theorem qtx_ch : ∀ id, id < 16 → ∀ j, j < 8 → (((qtx id).getD j 0 &&& 255).toUInt32 % 65536).toInt32 = (qtx id).getD j 0 ∧ narrow .char (.int ((qtx id).getD j 0)) = .int ((qtx id).getD j 0) := by decide +kernel
theorem qtx_shr : ∀ id, id < 16 → (Int32.ofNat (qtx id).length >>> ((0 : Int32) &&& 31)) = Int32.ofNat (qtx id).length := by decide +kernel
theorem qtx_short : ∀ id, id < 16 → (qtx id).length < 8 := by decide +kernel
theorem qj_charAt1 (l : Launch) (sA adV : Nat → Nat) (id : Nat) (hid : id < 16) (i : Int32) (hi : qin i (qtx id).length = true) :
    ∀ sz, Met l qmd_charAt1.1 (Cond.code qmd_charAt1.1 qmd_charAt1.2.1 qmd_charAt1.2.2.1 qmd_charAt1.2.2.2.1 :: lw_good) (qjroom 2) (va_Pc [.ref (adV id), .int i] (fun U => U.heap.size = sz ∧ qSt sA (fun q => sz ≤ q) U ∧ va_T .byte (adV id) (qtx id).length (fun j => .int ((qtx id).getD j 0)) (fun q => sz ≤ q) U U.heap)) (qSame (some (.int ((qtx id).getD i.toNatClampNeg 0)))) 0 0 (fun _ => False) := by
  intro sz
  refine Met.ofW (cc := cJ1_charAt_3b067) (maxL := 2) (ret := some .char) (by decide) rfl ?_
  intro p e s m args below meth c s₁ B hml hv
  obtain ⟨rfl, hsz, hSt, hT⟩ := hv
  subst hsz
  have hts0 := atoms_spec (ws := Cond.code qmd_charAt1.1 qmd_charAt1.2.1 qmd_charAt1.2.2.1 qmd_charAt1.2.2.2.1 :: lw_good) B.pre
  have hts : ∀ w ∈ lw_good, _ := fun w hw => hts0 w (List.mem_cons_of_mem _ hw)
  have hx := B.exec
  have hb := B.bytes
  have hr := B.returns
  have hlocks := B.notSynchronized
  have hown := findClass_of_methodNamed B.named
  have hl := lv_entry [.ref (adV id), .int i] (n := 2) (Nat.le_of_ble_eq_true rfl)
  rw [lg_entry_eq]
  generalize (lg_sl [.ref (adV id), .int i] ++ List.replicate (2 - (lg_sl [.ref (adV id), .int i]).length) Slot.unset).toArray = ls at hl ⊢
  have hin := qin_of hi
  have h8 := qtx_short id hid
  have hS : va_S (fun q => s.heap.size ≤ q) s.heap s.heap [] := va_S.rf
  have hA : ∀ q, s.heap.size ≤ q → (fun q => s.heap.size ≤ q) q := fun _ h => h
  have hlt : i < Int32.ofNat (qtx id).length := by
    obtain ⟨j, hj, rfl⟩ := vp_in_of hin (by omega)
    exact nI_lt hj (by omega)
  refine lv_iload_n hx hb (show decode cJ1_charAt_3b067 0 = .ok (.iload_n 1, 1) by decide +kernel) rfl (lv_at hl 1 rfl) ?_
  refine lv_aload_n hx hb (show decode cJ1_charAt_3b067 1 = .ok (.aload_n 0, 1) by decide +kernel) rfl (lv_at hl 0 rfl) ?_
  refine va_tlen hx hb hT hS rfl (show decode cJ1_charAt_3b067 2 = .ok (.arraylength, 1) by decide +kernel) ?_
  refine qsame_go (rest := []) (va_runS (As := [.int i, .int (Int32.ofNat (qtx id).length)]) (rest := []) ⟨hx, hb, hml, hown, hts⟩ (qj_checkIndex l sA i _ (fun h => hin (Or.inl h)) hlt s.heap.size) (va_cwS 2 hts (lw_good_gi (List.forall_mem_cons.mpr ⟨by decide +kernel, List.forall_mem_cons.mpr ⟨by decide +kernel, List.forall_mem_cons.mpr ⟨qM_checkIndex.2.1, qM_checkIndex.ws⟩⟩⟩)) rfl rfl rfl ⟨qM_checkIndex.2.2.1.1, qM_checkIndex.2.2.1.2, qM_checkIndex.2.2.2.1⟩ ⟨by decide, by decide⟩) ⟨qTP_blind, fun U hU hW => qTP_pre hU hSt hS hA hW⟩ rfl rfl hl.1 rfl (lv_room (Nat.le_of_ble_eq_true rfl)) (show decode cJ1_charAt_3b067 3 = .ok (.invokestatic 9, 3) by decide +kernel) ⟨Nat.le_refl _, Nat.le_refl _⟩) ?_
  refine lv_aload_n hx hb (show decode cJ1_charAt_3b067 6 = .ok (.aload_n 0, 1) by decide +kernel) rfl (lv_at hl 0 rfl) ?_
  refine lv_iload_n hx hb (show decode cJ1_charAt_3b067 7 = .ok (.iload_n 1, 1) by decide +kernel) rfl (lv_at hl 1 rfl) ?_
  refine va_tb hx hb hT hS hin rfl (show decode cJ1_charAt_3b067 8 = .ok (.baload, 1) by decide +kernel) ?_
  refine lv_sipush (v := 255) hx hb (show decode cJ1_charAt_3b067 9 = .ok (.sipush 255, 3) by decide +kernel) (by decide) ?_
  refine lv_iand hx hb (show decode cJ1_charAt_3b067 12 = .ok (.iand, 1) by decide +kernel) ?_
  have hj8 : i.toNatClampNeg < 8 := Nat.lt_trans (Nat.lt_of_not_le fun h => hin (Or.inr h)) h8
  refine lv_i2c hx hb (show decode cJ1_charAt_3b067 13 = .ok (.i2c, 1) by decide +kernel) (qtx_ch id hid _ hj8).1 ?_
  exact W.zret (ty := .char) hx hb hr (qtx_ch id hid _ hj8).2 (fun t ht _ => ⟨rfl, ht⟩) (fun _ h9 => absurd h9 List.not_mem_nil) (show decode cJ1_charAt_3b067 14 = .ok (.ireturn, 1) by decide +kernel)
theorem qj_length (l : Launch) (sA : Nat → Nat) (id : Nat) (hid : id < 16) : qTMet l 1 qmd_length sA [.ref (sA id)] (some (.int (Int32.ofNat (qtx id).length))) := by
  refine qT_enter qM_length (Nat.le_of_ble_eq_true rfl) ?_
  intro p e s m args below meth c hx hb hml hr hlk hown hts hSt ls hl
  have hS : va_S (fun q => s.heap.size ≤ q) s.heap s.heap [] := va_S.rf
  have hA : ∀ q, s.heap.size ≤ q → (fun q => s.heap.size ≤ q) q := fun _ h => h
  have hSt' := hSt
  obtain ⟨adV, hV, hZ, hZq⟩ := hSt
  obtain ⟨k1, k2, k3, k4⟩ := hV.1 id hid
  rw [qtx_len] at k4
  refine lv_aload_n hx hb (show decode cJ0_length_8abf5 0 = .ok (.aload_n 0, 1) by decide +kernel) rfl (lv_at hl 0 rfl) ?_
  refine vk_getf hx hb k3 hS hown (hts _ qj_f3) (fun _ h => h) (show decode cJ0_length_8abf5 1 = .ok (.getfield 9, 3) by decide +kernel) ?_
  refine va_tlen hx hb k4 hS rfl (show decode cJ0_length_8abf5 4 = .ok (.arraylength, 1) by decide +kernel) ?_
  refine lv_aload_n hx hb (show decode cJ0_length_8abf5 5 = .ok (.aload_n 0, 1) by decide +kernel) rfl (lv_at hl 0 rfl) ?_
  refine qsame_go (rest := [.int (Int32.ofNat (qtx id).length)]) (va_runV (As := []) (rest := [.int (Int32.ofNat (qtx id).length)]) ⟨hx, hb, hml, hown, hts⟩ (qj_coder l sA id hid s.heap.size) (cwV 0 hts (lw_good_gi (List.forall_mem_cons.mpr ⟨by decide +kernel, List.forall_mem_cons.mpr ⟨by decide +kernel, List.forall_mem_cons.mpr ⟨by decide +kernel, List.forall_mem_cons.mpr ⟨qM_coder.2.1, qM_coder.ws⟩⟩⟩⟩)) rfl rfl rfl ⟨rfl, qM_coder.2.2.1.1, qM_coder.2.2.1.2, qM_coder.2.2.2.1⟩ ⟨by decide, by decide⟩) ⟨qTP_blind, vk_recv hV hid hS, fun U hU hW => qTP_pre hU hSt' hS hA hW⟩ rfl rfl hl.1 rfl (lv_room (Nat.le_of_ble_eq_true rfl)) (show decode cJ0_length_8abf5 6 = .ok (.invokevirtual 335, 3) by decide +kernel) ⟨Nat.le_refl _, Nat.le_refl _⟩) ?_
  refine lv_ishr hx hb (show decode cJ0_length_8abf5 9 = .ok (.ishr, 1) by decide +kernel) ?_
  rw [qtx_shr id hid]
  exact W.iret hx hb hr (fun t ht _ => ⟨rfl, ht⟩) (fun _ h9 => absurd h9 List.not_mem_nil) (show decode cJ0_length_8abf5 10 = .ok (.ireturn, 1) by decide +kernel)
theorem qj_charAt (l : Launch) (sA : Nat → Nat) (id : Nat) (hid : id < 16) (i : Int32) (hi : qin i (qtx id).length = true) : qTMet l 3 qmd_charAt sA [.ref (sA id), .int i] (some (.int ((qtx id).getD i.toNatClampNeg 0))) := by
  refine qT_enter qM_charAt (Nat.le_of_ble_eq_true rfl) ?_
  intro p e s m args below meth c hx hb hml hr hlk hown hts hSt ls hl
  have hS : va_S (fun q => s.heap.size ≤ q) s.heap s.heap [] := va_S.rf
  have hA : ∀ q, s.heap.size ≤ q → (fun q => s.heap.size ≤ q) q := fun _ h => h
  have hSt' := hSt
  obtain ⟨adV, hV, hZ, hZq⟩ := hSt
  obtain ⟨k1, k2, k3, k4⟩ := hV.1 id hid
  rw [qtx_len] at k4
  have h8 := qtx_short id hid
  have hin := qin_of hi
  have hj8 : i.toNatClampNeg < 8 := Nat.lt_trans (Nat.lt_of_not_le fun h => hin (Or.inr h)) h8
  refine lv_aload_n hx hb (show decode cJ0_charAt_5068e 0 = .ok (.aload_n 0, 1) by decide +kernel) rfl (lv_at hl 0 rfl) ?_
  refine qsame_go (rest := []) (va_runV (As := []) (rest := []) ⟨hx, hb, hml, hown, hts⟩ (qj_isLatin1 l sA id hid s.heap.size) (cwV 0 hts (lw_good_gi (List.forall_mem_cons.mpr ⟨by decide +kernel, List.forall_mem_cons.mpr ⟨by decide +kernel, List.forall_mem_cons.mpr ⟨by decide +kernel, List.forall_mem_cons.mpr ⟨qM_isLatin1.2.1, qM_isLatin1.ws⟩⟩⟩⟩)) rfl rfl rfl ⟨rfl, qM_isLatin1.2.2.1.1, qM_isLatin1.2.2.1.2, qM_isLatin1.2.2.2.1⟩ ⟨by decide, by decide⟩) ⟨qTP_blind, vk_recv hV hid hS, fun U hU hW => qTP_pre hU hSt' hS hA hW⟩ rfl rfl hl.1 rfl (lv_room (Nat.le_of_ble_eq_true rfl)) (show decode cJ0_charAt_5068e 1 = .ok (.invokevirtual 492, 3) by decide +kernel) ⟨Nat.le_refl _, Nat.le_refl _⟩) ?_
  refine lv_if_eq (tgt := 16) hx hb (show decode cJ0_charAt_5068e 4 = .ok (.ifCond .eq 12, 3) by decide +kernel) (by decide) (fun h => absurd h (by decide)) (fun _ => ?_)
  refine lv_aload_n hx hb (show decode cJ0_charAt_5068e 7 = .ok (.aload_n 0, 1) by decide +kernel) rfl (lv_at hl 0 rfl) ?_
  refine vk_getf hx hb k3 hS hown (hts _ qj_f3) (fun _ h => h) (show decode cJ0_charAt_5068e 8 = .ok (.getfield 9, 3) by decide +kernel) ?_
  refine lv_iload_n hx hb (show decode cJ0_charAt_5068e 11 = .ok (.iload_n 1, 1) by decide +kernel) rfl (lv_at hl 1 rfl) ?_
  refine qsame_go (rest := []) (va_runS (As := [.ref (adV id), .int i]) (rest := []) ⟨hx, hb, hml, hown, hts⟩ (qj_charAt1 l sA adV id hid i hi s.heap.size) (va_cwS 2 hts (lw_good_gi (List.forall_mem_cons.mpr ⟨by decide +kernel, List.forall_mem_cons.mpr ⟨by decide +kernel, List.forall_mem_cons.mpr ⟨qM_charAt1.2.1, qM_charAt1.ws⟩⟩⟩)) rfl rfl rfl ⟨qM_charAt1.2.2.1.1, qM_charAt1.2.2.1.2, qM_charAt1.2.2.2.1⟩ ⟨by decide, by decide⟩) ⟨fun _ _ _ _ q => q, fun U hU hW => by
    have h9 := qTP_pre (as := [.ref (adV id), .int i]) hU hSt' hS hA hW
    exact ⟨h9.1, h9.2.1, h9.2.2, by rw [hU]; exact va_T.moved hW.alike k4⟩⟩ rfl rfl hl.1 rfl (lv_room (Nat.le_of_ble_eq_true rfl)) (show decode cJ0_charAt_5068e 12 = .ok (.invokestatic 495, 3) by decide +kernel) ⟨Nat.le_refl _, Nat.le_refl _⟩) ?_
  exact W.zret (ty := .char) hx hb hr (qtx_ch id hid _ hj8).2 (fun t ht _ => ⟨rfl, ht⟩) (fun _ h9 => absurd h9 List.not_mem_nil) (show decode cJ0_charAt_5068e 15 = .ok (.ireturn, 1) by decide +kernel)
