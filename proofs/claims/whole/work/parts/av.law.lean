/-! THE LAW: what it makes -/
theorem va_P_mono {D : va_G} {cl : List vw_C} {ws ws' : va_W} {H : Heap} (h : va_P D cl ws H) (hs : ∀ x ∈ ws', x ∈ ws) : va_P D cl ws' H := fun k q hq => by
  obtain ⟨i, hi⟩ := List.mem_iff_getElem?.mp (hs q (List.mem_of_getElem? hq))
  exact h i q hi
theorem va_D_snoc {A : Nat → Prop} {ws : va_W} {q : Nat} {e : va_E} (h : va_D A ws) (hq : ∀ x ∈ ws, x.1 ≠ q) (hA : A q) : va_D A (ws ++ [(q, e)]) := by
  have last : ∀ (i : Nat) (x : Nat × va_E), (ws ++ [(q, e)])[i]? = some x → (i < ws.length ∧ ws[i]? = some x) ∨ (i = ws.length ∧ x = (q, e)) := fun i x hx => by
    by_cases hi : i < ws.length
    · rw [List.getElem?_append_left hi] at hx
      exact Or.inl ⟨hi, hx⟩
    · rw [List.getElem?_append_right (by omega)] at hx
      have hz : i - ws.length < 1 := (List.getElem?_eq_some_iff.mp hx).1
      have hz0 : i - ws.length = 0 := by omega
      rw [hz0] at hx
      cases hx
      exact Or.inr ⟨by omega, rfl⟩
  refine ⟨fun i j x y hx hy he => ?_, fun k x hx => ?_⟩
  · rcases last i x hx with ⟨h1, h2⟩ | ⟨h1, h2⟩ <;> rcases last j y hy with ⟨g1, g2⟩ | ⟨g1, g2⟩
    · exact h.1 i j x y h2 g2 he
    · rw [g2] at he
      exact absurd he (hq x (List.mem_of_getElem? h2))
    · rw [h2] at he
      exact absurd he.symm (hq y (List.mem_of_getElem? g2))
    · omega
  · rcases last k x hx with ⟨h1, h2⟩ | ⟨h1, h2⟩
    · exact h.2 k x h2
    · rw [h2]; exact hA
theorem va_D_app {A : Nat → Prop} {ws ws' : va_W} (h : va_D A ws) (h' : va_D A ws') (hd : ∀ x ∈ ws, ∀ y ∈ ws', x.1 ≠ y.1) : va_D A (ws ++ ws') := by
  have cut : ∀ (i : Nat) (x : Nat × va_E), (ws ++ ws')[i]? = some x → (i < ws.length ∧ ws[i]? = some x) ∨ (ws.length ≤ i ∧ ws'[i - ws.length]? = some x) := fun i x hx => by
    by_cases hi : i < ws.length
    · rw [List.getElem?_append_left hi] at hx
      exact Or.inl ⟨hi, hx⟩
    · rw [List.getElem?_append_right (by omega)] at hx
      exact Or.inr ⟨by omega, hx⟩
  refine ⟨fun i j x y hx hy he => ?_, fun k x hx => ?_⟩
  · rcases cut i x hx with ⟨h1, h2⟩ | ⟨h1, h2⟩ <;> rcases cut j y hy with ⟨g1, g2⟩ | ⟨g1, g2⟩
    · exact h.1 i j x y h2 g2 he
    · exact absurd he (hd x (List.mem_of_getElem? h2) y (List.mem_of_getElem? g2))
    · exact absurd he.symm (hd y (List.mem_of_getElem? g2) x (List.mem_of_getElem? h2))
    · have := h'.1 _ _ x y h2 g2 he
      omega
  · rcases cut k x hx with ⟨h1, h2⟩ | ⟨h1, h2⟩
    · exact h.2 k x h2
    · exact h'.2 _ x h2
theorem wl_mem {cy : Nat → ClassId} {ρ : Nat → Nat → Nat} {h : qM} {N : List (Nat × Nat)} (hm : ∀ k j, (k, j) ∈ N ↔ k < 19 ∧ j < mC h k) {x : Nat × va_E} (hx : x ∈ wl cy ρ h N) : ∃ k j, k < 19 ∧ j < mC h k ∧ x.1 = ρ k j := by
  unfold wl at hx
  obtain ⟨⟨k, j⟩, h1, rfl⟩ := List.mem_map.mp hx
  obtain ⟨h2, h3⟩ := (hm k j).mp h1
  exact ⟨k, j, h2, h3, rfl⟩
section LAW3
variable {p : Program} {l : Launch} {e : Env} {s : State} {m : MethodId} {below : List Frame} {meth : Method} {c : Code} {D : va_G} {cy : Nat → ClassId} {A : Nat → Prop} {Q : State → Prop} {b : Nat}
set_option maxRecDepth 16384 in
theorem law_new {sA : Nat → Nat} {kk n pc : Nat} {hx hm : qM} {ρx ρm : Nat → Nat → Nat} {H : Heap} {locs : List Loc} {ls : Array Slot} {rest : List Value} {cells slots : Nat}
    (C : lwC p s m c b D cy sA A) (h13 : kk < 13) (hlink : Cond.classLink R_law n (qRC kk) ∈ lw_good) (hi1 : Cond.instantiable (qRC kk) (qnf kk) ∈ lw_good) (hi2 : Cond.initialized (qRC kk) ∈ lw_good) (hcl : qCl hx) (hT : qTwo D cy A ρx ρm hx hm H) (hS : va_S A s.heap H locs)
    (hc : cells + 1 ≤ room_1.cells) (hs : slots + qnf kk ≤ room_1.slots) (hd : decode code pc = .ok (.new n, 3))
    (kk1 : ∀ (q : Nat) (H1 : Heap), qTwo D cy A (fun k' j' => if k' = kk ∧ j' = mC hx kk then q else ρx k' j') ρm (qNew hx kk (qnf kk)) hm H1 → va_S A s.heap H1 locs →
      W p l e room_1 s m #[Value.ref b] below meth c H1 locs (cells + 1) (slots + qnf kk) Q (F0 m (pc + 3) ls (.ref q :: rest))) :
    W p l e room_1 s m #[Value.ref b] below meth c H locs cells slots Q (F0 m pc ls rest) := by
  obtain ⟨hx0, hb, hml, hown, hts, hAm, hSt, hA⟩ := C
  obtain ⟨⟨Nx, hNx, hmx, hPx, hDx⟩, ⟨Nm, hNm, hmm, hPm, hDm⟩, hdis⟩ := hT
  have hdd : ∀ x ∈ wl cy ρx hx Nx, ∀ y ∈ wl cy ρm hm Nm, x.1 ≠ y.1 := fun x h1 y h2 => by
    obtain ⟨k, j, a1, a2, a3⟩ := wl_mem hmx h1
    obtain ⟨k', j', b1, b2, b3⟩ := wl_mem hmm h2
    rw [a3, b3]
    exact hdis k j k' j' a1 a2 b1 b2
  refine va_new (D := D) (ci := kk) (fs := rfs ρx (qNew hx kk (qnf kk)) kk (mC hx kk)) hx0 hb hts (qTT_in kk h13) (qty kk) (fun s hs => qty_ok kk h13 s hs) hown (hts _ hlink) (hts _ hi1) (hts _ hi2) hAm.1 (hPx.app hPm) (va_D_app hDx hDm hdd) hS hA (qTT_cl kk h13) (rfs_new h13) hc hs hd (fun q H1 hP1 hD1 hS1 => ?_)
  have hq : ∀ x ∈ wl cy ρx hx Nx ++ wl cy ρm hm Nm, x.1 ≠ q := fun x hx1 he => by
    obtain ⟨i, hi⟩ := List.mem_iff_getElem?.mp hx1
    have hlt := (List.getElem?_eq_some_iff.mp hi).1
    have := hD1.1 i (wl cy ρx hx Nx ++ wl cy ρm hm Nm).length x (q, .inr (kk, rfs ρx (qNew hx kk (qnf kk)) kk (mC hx kk))) (by rw [List.getElem?_append_left hlt]; exact hi) (by rw [List.getElem?_append_right (Nat.le_refl _), Nat.sub_self]; rfl) he
    omega
  have hAq : A q := hD1.2 (wl cy ρx hx Nx ++ wl cy ρm hm Nm).length (q, .inr (kk, rfs ρx (qNew hx kk (qnf kk)) kk (mC hx kk))) (by rw [List.getElem?_append_right (Nat.le_refl _), Nat.sub_self]; rfl)
  refine kk1 q H1 ⟨?_, ⟨Nm, hNm, hmm, va_P_mono hP1 fun x h1 => List.mem_append_left _ (List.mem_append_right _ h1), hDm⟩, ?_⟩ hS1
  · refine qRep.new (e := .inr (kk, rfs ρx (qNew hx kk (qnf kk)) kk (mC hx kk))) hNx hmx (by omega) hcl ?_ (va_P_mono hP1 fun x h1 => ?_) (va_D_snoc hDx (fun x h1 => hq x (List.mem_append_left _ h1)) hAq)
    · rw [ren_cls h13]
      congr 2
      unfold rfs
      refine List.map_congr_left fun s' _ => ?_
      have hP0 : mP (qNew hx kk (qnf kk)) kk (mC hx kk) s' = none := by show u2 hx.2.2.2.2.2 kk (hx.2.1 kk) (fun _ => none) kk (hx.2.1 kk) s' = none; simp [u2]
      rcases qft kk s' with _ | _ | _ | t
      · rfl
      · rfl
      · rfl
      · rw [rfv, rfv, hP0]; rfl
    · rcases List.mem_append.mp h1 with h | h
      · exact List.mem_append_left _ (List.mem_append_left _ h)
      · exact List.mem_append_right _ h
  · intro k j k' j' g1 g2 g3 g4 he
    dsimp only at he
    have hmem : (ρm k' j', ren cy ρm hm k' j') ∈ wl cy ρm hm Nm := by
      unfold wl
      exact List.mem_map.mpr ⟨(k', j'), (hmm k' j').mpr ⟨g3, g4⟩, rfl⟩
    by_cases h : k = kk ∧ j = mC hx kk
    · rw [if_pos h] at he
      exact hq _ (List.mem_append_right _ hmem) he.symm
    · rw [if_neg h] at he
      have hC : mC (qNew hx kk (qnf kk)) k = if k = kk then mC hx kk + 1 else mC hx k := rfl
      rw [hC] at g2
      have : j < mC hx k := by
        by_cases hk : k = kk
        · rw [if_pos hk] at g2
          have : j ≠ mC hx kk := fun z => h ⟨hk, z⟩
          rw [hk]
          omega
        · rw [if_neg hk] at g2
          exact g2
      exact hdis k j k' j' g1 this g3 g4 he
theorem law_init {sA : Nat → Nat} {mid : Nat} {y : MethodName} {b0 : ByteArray} {mL : Nat} {st0 : Bool} {kk n pc : Nat} {hx hm h1 : qM} {ρx ρm : Nat → Nat → Nat} {H : Heap} {locs : List Loc} {ls : Array Slot} {rest : List Value} {j cells slots : Nat}
    (C : lwC p s m c b D cy sA A) (hsA : ρx 19 = sA) (hmd : qmdt mid = some (y, b0, mL, none, 0, st0)) (h13 : kk < 13) (hcls : y.cls = qRC kk) (hinst : Cond.instanceMethod y ∈ lw_good) (hname : y.name = "<init>") (hlink : Cond.methodLink R_law n y ∈ lw_good) (hrk : qrk mid ≤ 15)
    (hE : qcal mid [qR kk (some j)] hx = some (h1, none)) (hj : j < mC hx kk) (hcl : qCl hx) (hT : qTwo D cy A ρx ρm hx hm H) (hS : va_S A s.heap H locs) (hls : ls.size = 4)
    (hc : cells + ((mA h1).1 - (mA hx).1) ≤ room_1.cells) (hs : slots + ((mA h1).2 - (mA hx).2) ≤ room_1.slots) (hsum : (rest.map fun v => v.category).sum ≤ 8) (hd : decode code pc = .ok (.invokespecial n, 3))
    (kk1 : ∀ (ρ1 : Nat → Nat → Nat) (H1 : Heap) (locs1 : List Loc), qTwo D cy A ρ1 ρm h1 hm H1 → va_S A s.heap H1 locs1 → ρ1 19 = sA → ρ1 kk j = ρx kk j → qCl h1 →
      W p l e room_1 s m #[Value.ref b] below meth c H1 locs1 (cells + ((mA h1).1 - (mA hx).1)) (slots + ((mA h1).2 - (mA hx).2)) Q (F0 m (pc + 3) ls rest)) :
    W p l e room_1 s m #[Value.ref b] below meth c H locs cells slots Q (F0 m pc ls (.ref (ρx kk j) :: rest)) := by
  obtain ⟨hx0, hb, hml, hown, hts, hAm, hSt, hA⟩ := C
  obtain ⟨hRx, hRm, hdis⟩ := hT
  have hok : ∀ w ∈ ([qR kk (some j)] : List qV), qOk hx w := by
    intro w hw
    rw [List.mem_singleton.mp hw]
    exact Or.inl ⟨by omega, hj⟩
  obtain ⟨md', g1, hMok, hMet⟩ := qsound l hE hcl hok
  rw [hmd] at g1
  cases g1
  have hB := qAd_A hRx hS hA
  obtain ⟨N, q0, hp0, hN, hmm, hP, hD⟩ := hRx.at (by omega : kk < 19) hj
  have he := wl_at (cy := cy) (ρ := ρx) (h := hx) hp0
  rw [ren_cls h13] at he
  have hpre : ∀ U : State, U.heap = H → s.WarmedH U.vm → qPre D cy ρx hx [qR kk (some j)] H.size (([qR kk (some j)] : List qV).map (rv ρx)).toArray U := by
    intro U hU hW
    subst hU
    refine ⟨rfl, rfl, ?_, ?_, ?_⟩
    · obtain ⟨N, q1, q2, q3, q4⟩ := hRx
      exact ⟨N, q1, q2, q3, q4.weaken fun _ _ _ _ => trivial⟩
    · rw [hsA]; exact hAm.warm hW
    · rw [hsA]; exact hSt.callee hS hW.alike hB
  have hrun := va_runI (p := p) (l := l) (e := e) (R := room_1) (below := below) (meth := meth) (cells := cells) (slots := slots) (H := H) (locs := locs) (g := F0 m pc ls (.ref (ρx kk j) :: rest)) (rest := rest) (As := []) (b := ρx kk j) ⟨hx0, hb, hml, hown, hts⟩ (hMet D cy ρx H.size) (cwI 0 hts (lw_good_gi hMok.ws) rfl rfl rfl (hts _ hMok.2.1) (hts _ hlink) (hts _ hinst) hname ⟨hMok.2.2.1.1, hMok.2.2.1.2, by rw [hMok.2.2.2.1]⟩ ⟨by show qrk mid + 1 ≤ 16; omega, by have h17 : mL ≤ 17 := hMok.2.2.2.2.1; show 8 + (mL + 11) + 36 * qrk mid ≤ 612; omega⟩)
    ⟨qPre_blind, hpre⟩ rfl rfl hls rfl (lv_room hsum) hd ⟨hc, hs⟩
  intro T hT X
  obtain ⟨v', st₀, t, T', L, h0', X', hL, e1, e2, ⟨⟨ρ1, hX1, hv, hcl1, hok1, hR1⟩, hz, hkp⟩, st⟩ := hrun T hT X
  rw [h0'] at hz hkp
  have hv' : v' = none := by injection hv
  subst hv'
  have h2 : qTwo D cy A ρ1 ρm h1 hm T'.heap := by
    have h3 : qTwo D cy A ρ1 ρm h1 hm t.heap := qTwo.after ⟨⟨N, hN, hmm, hP, hD⟩, hRm, hdis⟩ hB hR1 hkp
    rw [e1]; exact h3
  have hS1 : va_S A s.heap T'.heap (locs ++ L) := ⟨Nat.le_trans hS.1 (by rw [e1]; exact hz), fun q h1 h2 => by rw [e1, hkp q (Nat.lt_of_lt_of_le h1 hS.1) (fun z => h2 (hB q z))]; exact hS.2.1 q h1 h2, fun q hq => by
      rcases List.mem_append.mp hq with h | h
      · exact hS.2.2 q h
      · exact hB _ (hL q h)⟩
  obtain ⟨t2, a1, b1⟩ := kk1 ρ1 T'.heap (locs ++ L) h2 hS1 (hX1.2.2.trans hsA) (hX1.2.1 kk j (by omega) hj) hcl1 T' rfl X'
  exact ⟨t2, st t2 a1, b1⟩
end LAW3
