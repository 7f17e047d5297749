/-! THE LAW, whole -/
set_option maxHeartbeats 4000000 in
theorem whole_start {p : Program} {e : Env} {s : State} {m : MethodId} {below : List Frame} {meth : Method} {c : Code} (l : Launch) (hflags : l.flags = flags0) {b L : Nat} {xs : Nat → Int32} (hL : L ≤ 3072) (C0 : lw_At p s m meth c b L xs) : W p l e room_1 s m #[Value.ref b] below meth c s.heap [] 0 0 (lw_Z below #[Value.ref b] s) (entryFrame m ([Value.ref b] : List Value).toArray 4) := by
  obtain ⟨hx, hb, hr, hml, hown, hts, hX, hbl, hlocks, hgv⟩ := id C0
  obtain ⟨D, cy, sA, qa, qs⟩ := law_enter hts hgv
  have C : lwC p s m c b D cy sA (fun q => s.heap.size ≤ q) := ⟨hx, hb, hml, hown, lw_gd hts, qa, qs, fun q h => h⟩
  obtain ⟨d0, d3, d4, d7, d8, d11, d12, d15, d16, d17⟩ := dl_0
  obtain ⟨n1, n2, n3, n4, n5, n6⟩ := v_n
  obtain ⟨k1, k2, k3, k4⟩ := lw_new
  obtain ⟨⟨i1, i2, i3, i4, i5⟩, ⟨j1, j2, j3, j4, j5⟩⟩ := lw_ini
  obtain ⟨IX, JX, eX, hX8, hXz⟩ := X_97
  obtain ⟨IM, JM, eM, hM8, hM27, hMz⟩ := M_144
  have rc := rm_c
  have rs := rm_s
  have hl := lv_entry ([.ref b]) (n := 4) (Nat.le_of_ble_eq_true rfl)
  rw [lg_entry_eq]
  generalize (lg_sl [Value.ref b] ++ List.replicate (4 - (lg_sl [Value.ref b]).length) Slot.unset).toArray = ls0 at hl ⊢
  have g97 : (mA (gm vX2 IX JX)).1 - (mA (gm vX0 iZ jZ)).1 ≤ 200 := Nat.le_trans (Nat.sub_le _ _) n1
  have g97' : (mA (gm vX2 IX JX)).2 - (mA (gm vX0 iZ jZ)).2 ≤ 9000 := Nat.le_trans (Nat.sub_le _ _) n2
  have g144 : (mA (gm vM2 IM JM)).1 - (mA (gm vM0 iZ jZ)).1 ≤ 200 := Nat.le_trans (Nat.sub_le _ _) n3
  have g144' : (mA (gm vM2 IM JM)).2 - (mA (gm vM0 iZ jZ)).2 ≤ 30000 := Nat.le_trans (Nat.sub_le _ _) n4
  have cx0 : 0 < mC (gm vX0 iZ jZ) 11 := by show 0 < gC vX0 11; decide +kernel
  have cm0 : 0 < mC (gm vM0 iZ jZ) 12 := by show 0 < gC vM0 12; decide +kernel
  have cx2 : 0 < mC (gm vX2 IX JX) 11 := Nat.lt_of_lt_of_le cx0 ((qcal_mle eX).2.2 11)
  have cm2 : 0 < mC (gm vM2 IM JM) 12 := Nat.lt_of_lt_of_le cm0 ((qcal_mle eM).2.2 12)
  have ex0 : qNew (gm vGE iZ jZ) 11 (qnf 11) = gm vX0 iZ jZ := qNew_z
  have em0 : qNew (gm vGE iZ jZ) 12 (qnf 12) = gm vM0 iZ jZ := qNew_z
  have hcx0 : qCl (gm vX0 iZ jZ) := ex0 ▸ qCl_z.new 11 (qnf 11)
  have hcm0 : qCl (gm vM0 iZ jZ) := em0 ▸ qCl_z.new 12 (qnf 12)
  have hT0 : qTwo D cy (fun q => s.heap.size ≤ q) (fun k j => if k = 19 then sA j else 0) (fun k j => if k = 19 then sA j else 0) (gm vGE iZ jZ) (gm vGE iZ jZ) s.heap := ⟨qRep_z, qRep_z, fun k j k' j' h1 h2 => absurd h2 (Nat.not_lt_zero j)⟩
  have hS0 : va_S (fun q => s.heap.size ≤ q) s.heap s.heap [] := ⟨Nat.le_refl _, fun q _ _ => rfl, fun q hq => absurd hq List.not_mem_nil⟩
  refine law_new (kk := 11) (n := 7) C (by decide) k1 (lw_in 11 (by decide)) k2 qCl_z hT0 hS0 (by omega) (by omega) d0 (fun q H1 hT1 hS1 => ?_)
  have r19 : (fun k' j' => if k' = 11 ∧ j' = mC (gm vGE iZ jZ) 11 then q else (fun k j => if k = 19 then sA j else 0) k' j') 19 = sA := rfl
  have r11 : (fun k' j' => if k' = 11 ∧ j' = mC (gm vGE iZ jZ) 11 then q else (fun k j => if k = 19 then sA j else 0) k' j') 11 0 = q := rfl
  rw [ex0] at hT1
  generalize (fun k' j' => if k' = 11 ∧ j' = mC (gm vGE iZ jZ) 11 then q else (fun k j => if k = 19 then sA j else 0) k' j') = ρ1 at hT1 r19 r11
  rw [← r11]
  refine lv_dup hx hb d3 rfl ?_
  refine law_init (mid := 97) (kk := 11) (j := 0) C r19 md97 (by decide) i1 i2 i3 i4 i5 eX cx0 hcx0 hT1 hS1 hl.1 (by omega) (by omega) (Nat.le_of_ble_eq_true rfl) d4 (fun ρ2 H2 locs2 hT2 hS2 s19 s11 hcx2 => ?_)
  refine lv_astore_n (lv' := [(1, .ref (ρ1 11 0)), (0, .ref b)]) hx hb d7 rfl hl (by decide) rfl (fun ls1 hl1 => ?_)
  refine law_new (kk := 12) (n := 10) C (by decide) k3 (lw_in 12 (by decide)) k4 qCl_z hT2.swap hS2 (by omega) (by omega) d8 (fun q' H3 hT3 hS3 => ?_)
  have t19 : (fun k' j' => if k' = 12 ∧ j' = mC (gm vGE iZ jZ) 12 then q' else (fun k j => if k = 19 then sA j else 0) k' j') 19 = sA := rfl
  have t12 : (fun k' j' => if k' = 12 ∧ j' = mC (gm vGE iZ jZ) 12 then q' else (fun k j => if k = 19 then sA j else 0) k' j') 12 0 = q' := rfl
  rw [em0] at hT3
  generalize (fun k' j' => if k' = 12 ∧ j' = mC (gm vGE iZ jZ) 12 then q' else (fun k j => if k = 19 then sA j else 0) k' j') = ρ3 at hT3 t19 t12
  rw [← t12]
  refine lv_dup hx hb d11 rfl ?_
  refine law_init (mid := 144) (kk := 12) (j := 0) C t19 md144 (by decide) j1 j2 j3 j4 j5 eM cm0 hcm0 hT3 hS3 hl1.1 (by omega) (by omega) (Nat.le_of_ble_eq_true rfl) d12 (fun ρ4 H4 locs4 hT4 hS4 u19 u12 hcm2 => ?_)
  refine lv_astore_n (lv' := [(2, .ref (ρ3 12 0)), (1, .ref (ρ1 11 0)), (0, .ref b)]) hx hb d15 rfl hl1 (by decide) rfl (fun ls2 hl2 => ?_)
  refine lv_iconst (v := nI 0) hx hb d16 (by decide) ?_
  refine lv_istore_n (lv' := [(3, .int (nI 0)), (2, .ref (ρ3 12 0)), (1, .ref (ρ1 11 0)), (0, .ref b)]) hx hb d17 rfl hl2 (by decide) rfl (fun ls3 hl3 => ?_)
  rw [← u12, ← s11] at hl3
  exact law_loop hL C0 C L 0 A0 w0 vX2 vM2 IX IM JX JM ρ2 ρ4 H4 locs4 ls3 _ _ (Nat.le_refl _) (Nat.zero_le _) w0_ok w0_tp (XSa_0 hX8 hXz) vM2_geo (MS_0 hM8 hM27 hMz) hcx2 hcm2 cx2 cm2 hT4.swap hS4 s19 u19 hl3 (by omega) (by omega)
