/-! THE LAW, from its entry to its end -/
theorem rm_c : 100000 ≤ room_1.cells := by decide +kernel
theorem rm_s : 2600000 ≤ room_1.slots := by decide +kernel
theorem dl_18 : decode code 18 = .ok (.iload_n 3, 1) ∧ decode code 19 = .ok (.aload_n 0, 1) ∧ decode code 20 = .ok (.arraylength, 1) ∧ decode code 21 = .ok (.bipush 6, 2) ∧ decode code 23 = .ok (.isub, 1) ∧ decode code 24 = .ok (.if_icmp .gt 1303, 3) := by decide +kernel
theorem dl_27 : decode code 27 = .ok (.aload_n 0, 1) ∧ decode code 28 = .ok (.iload_n 3, 1) ∧ decode code 29 = .ok (.iaload, 1) ∧ decode code 30 = .ok (.bipush 63, 2) ∧ decode code 32 = .ok (.iand, 1) ∧ decode code 33 = .ok (.tableswitch 1288 0 38 lawS, 171) := by decide +kernel
theorem dl_1321 : decode code 1321 = .ok (.iinc 3 6, 3) ∧ decode code 1324 = .ok (.goto (-1306), 3) ∧ decode code 1327 = .ok (.iconst 1, 1) ∧ decode code 1328 = .ok (.ireturn, 1) := by decide +kernel
theorem dl_0 : decode code 0 = .ok (.new 7, 3) ∧ decode code 3 = .ok (.dup, 1) ∧ decode code 4 = .ok (.invokespecial 9, 3) ∧ decode code 7 = .ok (.astore_n 1, 1) ∧ decode code 8 = .ok (.new 10, 3) ∧ decode code 11 = .ok (.dup, 1) ∧ decode code 12 = .ok (.invokespecial 12, 3) ∧ decode code 15 = .ok (.astore_n 2, 1) ∧ decode code 16 = .ok (.iconst 0, 1) ∧ decode code 17 = .ok (.istore_n 3, 1) := by decide +kernel
theorem and63 (x : Int32) : ∃ k, k < 64 ∧ x &&& nI 63 = nI k := by
  refine ⟨(x.toBitVec &&& 63#32).toNat, ?_, ?_⟩
  · rw [BitVec.toNat_and]
    exact Nat.lt_of_le_of_lt Nat.and_le_right (by decide)
  · apply Int32.toBitVec_inj.mp
    apply BitVec.eq_of_toNat_eq
    rw [Int32.toBitVec_and]
    show (x.toBitVec &&& 63#32).toNat = (BitVec.ofNat 32 (x.toBitVec &&& 63#32).toNat).toNat
    have := BitVec.isLt (x.toBitVec &&& 63#32)
    rw [BitVec.toNat_ofNat]
    omega
theorem lwLt6 {L i : Nat} (hL : L ≤ 3072) (hi : i ≤ 3072) (h : L < i + 6) : nI L - nI 6 < nI i := by
  by_cases c : 6 ≤ L
  · rw [nI_sub c]
    have : (nI (L - 6) < nI i) = True := stC.2.2.2.2.2.2.1 (L - 6) i (by omega) (by omega)
    rw [this]; trivial
  · rw [Int32.lt_iff_toInt_lt, nI_toInt (by omega)]
    have hc : L = 0 ∨ L = 1 ∨ L = 2 ∨ L = 3 ∨ L = 4 ∨ L = 5 := by omega
    have neg : ∀ z : Int32, z.toInt < 0 → z.toInt < (i : Int) := fun z hz => by omega
    rcases hc with rfl | rfl | rfl | rfl | rfl | rfl <;> exact neg _ (by decide)
section LAW5
variable {p : Program} {l : Launch} {e : Env} {s : State} {m : MethodId} {below : List Frame} {meth : Method} {c : Code} {D : va_G} {cy : Nat → ClassId} {b : Nat}
theorem law_loop {sA : Nat → Nat} {L : Nat} {xs : Nat → Int32} (hL : L ≤ 3072) (C0 : lw_At p s m meth c b L xs) (C : lwC p s m c b D cy sA (fun q => s.heap.size ≤ q)) : ∀ (d i : Nat) (A' : Ad) (w : Wd) (GX GM : qG) (IX IM : qIm) (JX JM : qJm) (ρx ρm : Nat → Nat → Nat) (H : Heap) (locs : List Loc) (ls : Array Slot) (cells slots : Nat), L - i ≤ d → i ≤ L → wdOk w → tpOk (wY w) → XSa A' w GX IX → MGeo GM → MS w IM → qCl (gm GX IX JX) → qCl (gm GM IM JM) → 0 < mC (gm GX IX JX) 11 → 0 < mC (gm GM IM JM) 12 → qTwo D cy (fun q => s.heap.size ≤ q) ρx ρm (gm GX IX JX) (gm GM IM JM) H → va_S (fun q => s.heap.size ≤ q) s.heap H locs → ρx 19 = sA → ρm 19 = sA → lv_has ls 4 [(3, .int (nI i)), (2, .ref (ρm 12 0)), (1, .ref (ρx 11 0)), (0, .ref b)] → cells + 20 * (L - i) ≤ 100000 → slots + 800 * (L - i) ≤ 2600000 →
    W p l e room_1 s m #[Value.ref b] below meth c H locs cells slots (lw_Z below #[Value.ref b] s) (F0 m 18 ls []) := by
  obtain ⟨hx, hb, hr, hml, hown, hts, hX, hbl, hlocks, hgv⟩ := id C0
  have hbA : ¬ (fun q : Nat => s.heap.size ≤ q) b := Nat.not_le.mpr hbl
  obtain ⟨d18, d19, d20, d21, d23, d24⟩ := dl_18
  obtain ⟨d27, d28, d29, d30, d32, d33⟩ := dl_27
  obtain ⟨d1321, d1324, d1327, d1328⟩ := dl_1321
  have rc := rm_c
  have rs := rm_s
  intro d
  induction d with
  | zero =>
    intro i A' w GX GM IX IM JX JM ρx ρm H locs ls cells slots hd hi hw hY hXs XM hM hcx hcm hjx hjm hT hS hsx hsm hl hcb hsb
    have l0 : ls[0]? = some (.val (.ref b)) := hl.2.2 (0, .ref b) (by simp)
    have l3 : ls[3]? = some (.val (.int (nI i))) := hl.2.2 (3, .int (nI i)) (by simp)
    refine lv_iload_n hx hb d18 rfl l3 ?_
    refine lv_aload_n hx hb d19 rfl l0 ?_
    refine va_slen hx hb hX hbl hbA hS d20 ?_
    refine lv_bipush (v := nI 6) hx hb d21 (by decide) ?_
    refine lv_isub hx hb d23 ?_
    refine lv_icmp_gt (tgt := 1327) hx hb d24 (by omega) (fun _ => ?_) (fun z => absurd (lwLt6 hL (by omega) (by omega)) z)
    refine va_forget (fun q hq => hS.2.2 q hq) ?_
    refine W.widen (k := room_1.cells) (n := room_1.slots) (by omega) (by omega) ?_
    refine lv_iconst (v := 1) hx hb d1327 (by decide) ?_
    exact lw_ret hx hb hr hlocks d1328
  | succ d ih =>
    intro i A' w GX GM IX IM JX JM ρx ρm H locs ls cells slots hd hi hw hY hXs XM hM hcx hcm hjx hjm hT hS hsx hsm hl hcb hsb
    have l0 : ls[0]? = some (.val (.ref b)) := hl.2.2 (0, .ref b) (by simp)
    have l1 : ls[1]? = some (.val (.ref (ρx 11 0))) := hl.2.2 (1, .ref (ρx 11 0)) (by simp)
    have l2 : ls[2]? = some (.val (.ref (ρm 12 0))) := hl.2.2 (2, .ref (ρm 12 0)) (by simp)
    have l3 : ls[3]? = some (.val (.int (nI i))) := hl.2.2 (3, .int (nI i)) (by simp)
    refine lv_iload_n hx hb d18 rfl l3 ?_
    refine lv_aload_n hx hb d19 rfl l0 ?_
    refine va_slen hx hb hX hbl hbA hS d20 ?_
    refine lv_bipush (v := nI 6) hx hb d21 (by decide) ?_
    refine lv_isub hx hb d23 ?_
    by_cases hcase : i + 6 ≤ L
    case neg =>
      refine lv_icmp_gt (tgt := 1327) hx hb d24 (by omega) (fun _ => ?_) (fun z => absurd (lwLt6 hL (by omega) (by omega)) z)
      refine va_forget (fun q hq => hS.2.2 q hq) ?_
      refine W.widen (k := room_1.cells) (n := room_1.slots) (by omega) (by omega) ?_
      refine lv_iconst (v := 1) hx hb d1327 (by decide) ?_
      exact lw_ret hx hb hr hlocks d1328
    have hno : ¬ (nI L - nI 6 < nI i) := by
      rw [nI_sub (by omega)]
      have : (nI (L - 6) < nI i) = False := stC.2.2.2.2.2.2.2.1 (L - 6) i (by omega) (by omega)
      rw [this]; exact id
    refine lv_icmp_gt (tgt := 1327) hx hb d24 (by omega) (fun z => absurd z hno) (fun _ => ?_)
    refine law_arg0 C hX hbl hbA hS (by omega) hL l0 l3 d27 d28 d29 ?_
    refine lv_bipush (v := nI 63) hx hb d30 (by decide) ?_
    refine lv_iand hx hb d32 ?_
    -- what comes behind each call
    have next : ∀ (A'' : Ad) (w' : Wd) (GX' : qG) (IX' IM' : qIm) (JX' JM' : qJm) (ρ1 ρ2 : Nat → Nat → Nat) (H' : Heap) (locs' : List Loc) (cells' slots' : Nat), wdOk w' → tpOk (wY w') → XSa A'' w' GX' IX' → MS w' IM' → qCl (gm GX' IX' JX') → qCl (gm GM IM' JM') → 0 < mC (gm GX' IX' JX') 11 → 0 < mC (gm GM IM' JM') 12 → qTwo D cy (fun q => s.heap.size ≤ q) ρ1 ρ2 (gm GX' IX' JX') (gm GM IM' JM') H' → va_S (fun q => s.heap.size ≤ q) s.heap H' locs' → ρ1 19 = sA → ρ2 19 = sA → ρ1 11 0 = ρx 11 0 → ρ2 12 0 = ρm 12 0 → cells' ≤ cells + 20 → slots' ≤ slots + 800 →
        W p l e room_1 s m #[Value.ref b] below meth c H' locs' cells' slots' (lw_Z below #[Value.ref b] s) (F0 m 1321 ls []) := by
      intro A'' w' GX' IX' IM' JX' JM' ρ1 ρ2 H' locs' cells' slots' n1 n2 n3 n4 n5 n6 n7 n8 n9 n10 n11 n12 n13 n14 n15 n16
      refine lv_iinc (k := 0) (v := nI (i + 6)) (lv' := [(3, .int (nI (i + 6))), (2, .ref (ρm 12 0)), (1, .ref (ρx 11 0)), (0, .ref b)]) hx hb d1321 hl rfl (nI_add i 6) (by decide) rfl (fun ls' hl' => ?_)
      refine lv_goto (tgt := 18) hx hb d1324 (by decide) ?_
      rw [← n13, ← n14] at hl'
      exact ih (i + 6) A'' w' GX' GM IX' IM' JX' JM' ρ1 ρ2 H' locs' ls' cells' slots' (by omega) hcase n1 n2 n3 XM n4 n5 n6 n7 n8 n9 n10 n11 n12 hl' (by omega) (by omega)
    obtain ⟨k, hk, ek⟩ := and63 (xs i)
    rw [ek]
    have tk : (nI k).toInt = (k : Int) := nI_toInt (by omega)
    by_cases h39 : k < 39
    case neg =>
      refine lv_tableOut (tgt := 1321) hx hb d33 (Or.inr (by rw [tk]; omega)) (by decide) ?_
      exact next A' w GX IX IM JX JM ρx ρm H locs cells slots hw hY hXs hM hcx hcm hjx hjm hT hS hsx hsm rfl rfl (by omega) (by omega)
    have hsw := lawS_ok k h39
    cases hrow : lawT[k]? with
    | none => rw [hrow] at hsw; cases hsw
    | some x =>
      rw [hrow] at hsw
      have hsw' : lawS[k]? = some ((x.1 : Int) - 33) := of_decide_eq_true hsw
      have hmem := List.mem_of_getElem? hrow
      refine lv_tableIn (off := (x.1 : Int) - 33) (tgt := x.1) hx hb d33 (by rw [tk]; omega) (by rw [tk]; omega) (by rw [tk, show ((k : Int) - 0).toNat = k by omega]; exact hsw') (by omega) ?_
      obtain ⟨w', v, ⟨IM', JM', eM, hM'⟩, ⟨GX', IX', JX', A'', eX, hX', q1, q2, q3, q4⟩, hw', hY'⟩ := lawT_b x hmem A' w GM GX IM IX JM JX hw hY XM hM hXs (fun j => xs (i + j))
      have m1 : (mA (gm GX' IX' JX')).1 - (mA (gm GX IX JX)).1 ≤ 20 := by show GX'.1.1 - GX.1.1 ≤ 20; omega
      have m2 : (mA (gm GX' IX' JX')).2 - (mA (gm GX IX JX)).2 ≤ 800 := by show GX'.1.2 - GX.1.2 ≤ 800; omega
      have m3 : (mA (gm GM IM' JM')).1 - (mA (gm GM IM JM)).1 = 0 := Nat.sub_self _
      have m4 : (mA (gm GM IM' JM')).2 - (mA (gm GM IM JM)).2 = 0 := Nat.sub_self _
      have c1 := (qcal_mle eX).2.2 11
      have c2 := (qcal_mle eM).2.2 12
      refine law_two (lawT_ok x hmem) C hX hbl hbA hS hcase hL hl.1 l0 l1 l2 l3 hsx hsm hjx hjm hcx hcm hT eX eM (by omega) (by omega) fun ρ1 ρ2 H' locs' n1 n2 n3 n4 n5 n6 n7 n8 => ?_
      exact next A'' w' GX' IX' IM' JX' JM' ρ1 ρ2 H' locs' _ _ hw' hY' hX' hM' n7 n8 (Nat.lt_of_lt_of_le hjx c1) (Nat.lt_of_lt_of_le hjm c2) n1 n2 n3 n4 n5 n6 (by omega) (by omega)
theorem qNew_z {k n : Nat} : qNew (gm vGE iZ jZ) k n = gm (gNew vGE k n) iZ jZ := by
  have h1 : u2 iZ k (gC vGE k) (fun _ => 0) = iZ := by
    funext k' j' s'
    by_cases c : k' = k ∧ j' = gC vGE k
    · rw [c.1, c.2]; exact u2_eq
    · exact u2n c
  have h2 : u2 jZ k (gC vGE k) (fun _ => 0) = jZ := by
    funext k' j' s'
    by_cases c : k' = k ∧ j' = gC vGE k
    · rw [c.1, c.2]; exact u2_eq
    · exact u2n c
  rw [qNew_gm, h1, h2]
theorem qCl_z : qCl (gm vGE iZ jZ) := fun k j s t j' _ hj => absurd hj (Nat.not_lt_zero j)
theorem qRep_z {A : Nat → Prop} {ρ : Nat → Nat → Nat} {H : Heap} : qRep D cy ρ (gm vGE iZ jZ) A H := ⟨[], List.nodup_nil, fun k j => ⟨fun h => absurd h List.not_mem_nil, fun h => absurd h.2 (Nat.not_lt_zero j)⟩, fun k q h => by simp [wl] at h, fun i j p q h => by simp [wl] at h, fun k q h => by simp [wl] at h⟩
theorem v_n : vX2.1.1 ≤ 200 ∧ vX2.1.2 ≤ 9000 ∧ vM2.1.1 ≤ 200 ∧ vM2.1.2 ≤ 30000 ∧ qnf 11 ≤ 100 ∧ qnf 12 ≤ 100 := by decide +kernel
theorem lw_new : Cond.classLink R_law 7 (qRC 11) ∈ lw_good ∧ Cond.initialized (qRC 11) ∈ lw_good ∧ Cond.classLink R_law 10 (qRC 12) ∈ lw_good ∧ Cond.initialized (qRC 12) ∈ lw_good := by decide +kernel
theorem lw_ini : (yX11_init.cls = qRC 11 ∧ Cond.instanceMethod yX11_init ∈ lw_good ∧ yX11_init.name = "<init>" ∧ Cond.methodLink R_law 9 yX11_init ∈ lw_good ∧ qrk 97 ≤ 15) ∧ yX12_init.cls = qRC 12 ∧ Cond.instanceMethod yX12_init ∈ lw_good ∧ yX12_init.name = "<init>" ∧ Cond.methodLink R_law 12 yX12_init ∈ lw_good ∧ qrk 144 ≤ 15 := by decide +kernel
theorem md97 : qmdt 97 = some (yX11_init, cX11_init, 1, none, 0, false) := rfl
theorem md144 : qmdt 144 = some (yX12_init, cX12_init, 1, none, 0, false) := rfl
end LAW5
