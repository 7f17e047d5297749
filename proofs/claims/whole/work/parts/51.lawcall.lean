/-! THE LAW'S WORLD: two memories side by side -/
def qTwo (D : va_G) (cy : Nat → ClassId) (A : Nat → Prop) (ρx ρm : Nat → Nat → Nat) (hx hm : qM) (H : Heap) : Prop :=
  qRep D cy ρx hx A H ∧ qRep D cy ρm hm A H ∧ ∀ k j k' j', k < 19 → j < mC hx k → k' < 19 → j' < mC hm k' → ρx k j ≠ ρm k' j'
theorem qTwo.swap {D : va_G} {cy : Nat → ClassId} {A : Nat → Prop} {ρx ρm : Nat → Nat → Nat} {hx hm : qM} {H : Heap} (h : qTwo D cy A ρx ρm hx hm H) : qTwo D cy A ρm ρx hm hx H :=
  ⟨h.2.1, h.1, fun k j k' j' h1 h2 h3 h4 he => h.2.2 k' j' k j h3 h4 h1 h2 he.symm⟩
theorem qRep.lt {D : va_G} {cy : Nat → ClassId} {ρ : Nat → Nat → Nat} {h : qM} {A : Nat → Prop} {H : Heap} (hR : qRep D cy ρ h A H) {k j : Nat} (hk : k < 19) (hj : j < mC h k) : ρ k j < H.size := by
  obtain ⟨N, p, hp, -, -, hP, -⟩ := hR.at hk hj
  exact (hP p _ (wl_at hp)).lt
/-- a call on the first: the second is as it was -/
theorem qTwo.after {D : va_G} {cy : Nat → ClassId} {A : Nat → Prop} {ρx ρm ρ1 : Nat → Nat → Nat} {hx hm h1 : qM} {H H1 : Heap} (h : qTwo D cy A ρx ρm hx hm H) (hB : ∀ q, qAd ρx hx H.size q → A q) (hR1 : qRep D cy ρ1 h1 (qAd ρx hx H.size) H1)
    (hk : ∀ q : Nat, q < H.size → ¬ qAd ρx hx H.size q → H1[q]? = H[q]?) : qTwo D cy A ρ1 ρm h1 hm H1 := by
  obtain ⟨hx1, hm1, hd⟩ := h
  refine ⟨?_, ?_, ?_⟩
  · obtain ⟨N, q1, q2, q3, q4⟩ := hR1
    exact ⟨N, q1, q2, q3, q4.weaken fun _ q _ h9 => hB q.1 h9⟩
  · obtain ⟨N, q1, q2, q3, q4⟩ := hm1
    refine ⟨N, q1, q2, q3.kept fun k q hq => ?_, q4⟩
    have hlt := (q3 k q hq).lt
    refine hk q.1 hlt ?_
    unfold wl at hq
    rw [List.getElem?_map] at hq
    cases hN : N[k]? with
    | none => rw [hN] at hq; cases hq
    | some nm =>
      rw [hN] at hq
      cases hq
      have hmem := (q2 nm.1 nm.2).mp (List.mem_of_getElem? hN)
      rintro (⟨k', j', g1, g2, g3⟩ | g)
      · exact hd k' j' nm.1 nm.2 g1 g2 hmem.1 hmem.2 g3.symm
      · exact absurd hlt (Nat.not_lt.mpr g)
  · intro k j k' j' g1 g2 g3 g4 he
    obtain ⟨N, p, hp, -, -, -, hD⟩ := hR1.at g1 g2
    have hA := hD.2 p _ (wl_at hp)
    have hlt : ρm k' j' < H.size := hm1.lt g3 g4
    dsimp only at hA
    rw [he] at hA
    rcases hA with ⟨k2, j2, f1, f2, f3⟩ | f
    · exact hd k2 j2 k' j' f1 f2 g3 g4 f3.symm
    · exact absurd hlt (Nat.not_lt.mpr f)
section LAW
variable {p : Program} {l : Launch} {e : Env} {s : State} {m : MethodId} {below : List Frame} {meth : Method} {c : Code} {D : va_G} {cy : Nat → ClassId} {A : Nat → Prop} {Q : State → Prop} {b : Nat}
/-- what stays the same over the law's whole walk -/
def lwC (p : Program) (s : State) (m : MethodId) (c : Code) (b : Nat) (D : va_G) (cy sA : Nat → Nat) (A : Nat → Prop) : Prop :=
  p.tables.exec = Jvm.exec ∧ c.code = code ∧ c.maxLocals = 4 ∧ s.vm.findClass R_law = some m.cls ∧ (∀ w ∈ lw_good, w.before #[Value.ref b] s = true) ∧ qAm D cy sA s ∧ qSt sA A s ∧ (∀ q, s.heap.size ≤ q → A q)
/-- a call of a method of the first of two memories, from the law -/
theorem law_call {sA : Nat → Nat} {mid : Nat} {md : qD} {kk na n pc : Nat} {as : List qV} {hx hm h1 : qM} {v : Int32} {ρx ρm : Nat → Nat → Nat} {H : Heap} {locs : List Loc} {ls : Array Slot} {rest : List Value} {j cells slots : Nat}
    (C : lwC p s m c b D cy sA A) (hsA : ρx 19 = sA) (hmd : qmdt mid = some md) (hna : md.2.2.2.2.1 = na) (h13 : kk < 13) (hcls : md.1.cls = qRC kk) (hinst : Cond.instanceMethod md.1 ∈ lw_good) (hsel : Cond.selects md.1.cls md.1 md.1 ∈ lw_good) (hlink : Cond.methodLink R_law n md.1 ∈ lw_good) (hrk : qrk mid ≤ 15)
    (hE : qcal mid (qR kk (some j) :: as) hx = some (h1, some (qI v))) (hlen : as.length = na) (has : ∀ w ∈ as, ∃ x, w = qI x) (hj : j < mC hx kk) (hcl : qCl hx) (hT : qTwo D cy A ρx ρm hx hm H) (hS : va_S A s.heap H locs) (hls : ls.size = 4)
    (hc : cells + ((mA h1).1 - (mA hx).1) ≤ room_1.cells) (hs : slots + ((mA h1).2 - (mA hx).2) ≤ room_1.slots) (hsum : (rest.map fun v => v.category).sum ≤ 8) (hd : decode code pc = .ok (.invokevirtual n, 3))
    (kk1 : ∀ (ρ1 : Nat → Nat → Nat) (H1 : Heap) (locs1 : List Loc), qTwo D cy A ρ1 ρm h1 hm H1 → va_S A s.heap H1 locs1 → ρ1 19 = sA → ρ1 kk j = ρx kk j → qCl h1 →
      W p l e room_1 s m #[Value.ref b] below meth c H1 locs1 (cells + ((mA h1).1 - (mA hx).1)) (slots + ((mA h1).2 - (mA hx).2)) Q (F0 m (pc + 3) ls (.int v :: rest))) :
    W p l e room_1 s m #[Value.ref b] below meth c H locs cells slots Q (F0 m pc ls ((as.map (rv ρx)).reverse ++ .ref (ρx kk j) :: rest)) := by
  obtain ⟨hx0, hb, hml, hown, hts, hAm, hSt, hA⟩ := C
  obtain ⟨hRx, hRm, hdis⟩ := hT
  have hok : ∀ w ∈ (qR kk (some j) :: as), qOk hx w := by
    intro w hw
    rcases List.mem_cons.mp hw with rfl | hw
    · exact Or.inl ⟨by omega, hj⟩
    · obtain ⟨x, rfl⟩ := has w hw; trivial
  obtain ⟨md', g1, hMok, hMet⟩ := qsound l hE hcl hok
  rw [hmd] at g1
  cases g1
  have hB := qAd_A hRx hS hA
  obtain ⟨N, q0, hp0, hN, hmm, hP, hD⟩ := hRx.at (by omega : kk < 19) hj
  have he := wl_at (cy := cy) (ρ := ρx) (h := hx) hp0
  rw [ren_cls h13] at he
  have hrecv := va_recv hAm.1 hP (qTT_cl kk h13) he
  have hpre : ∀ U : State, U.heap = H → s.WarmedH U.vm → qPre D cy ρx hx (qR kk (some j) :: as) H.size ((qR kk (some j) :: as).map (rv ρx)).toArray U := by
    intro U hU hW
    subst hU
    refine ⟨rfl, rfl, ?_, ?_, ?_⟩
    · obtain ⟨N, q1, q2, q3, q4⟩ := hRx
      exact ⟨N, q1, q2, q3, q4.weaken fun _ _ _ _ => trivial⟩
    · rw [hsA]; exact hAm.warm hW
    · rw [hsA]; exact hSt.callee hS hW.alike hB
  have hrun := va_runV (p := p) (l := l) (e := e) (R := room_1) (below := below) (meth := meth) (cells := cells) (slots := slots) (H := H) (locs := locs) (g := F0 m pc ls ((as.map (rv ρx)).reverse ++ .ref (ρx kk j) :: rest)) (rest := rest) (As := as.map (rv ρx)) (b := ρx kk j) ⟨hx0, hb, hml, hown, hts⟩ (hMet D cy ρx H.size) (cwV na hts (lw_good_gi (List.forall_mem_cons.mpr ⟨hlink, List.forall_mem_cons.mpr ⟨hinst, List.forall_mem_cons.mpr ⟨hsel, List.forall_mem_cons.mpr ⟨hMok.2.1, hMok.ws⟩⟩⟩⟩)) rfl rfl rfl ⟨rfl, hMok.2.2.1.1, hMok.2.2.1.2, by rw [hMok.2.2.2.1, hna]⟩ ⟨by show qrk mid + 1 ≤ 16; omega, by have := hMok.2.2.2.2.1; show 8 + (md.2.2.1 + 11) + 36 * qrk mid ≤ 612; omega⟩)
    ⟨qPre_blind, by rw [hcls]; exact hrecv, hpre⟩ rfl (by rw [List.length_map, hlen]) hls rfl (lv_room hsum) hd ⟨hc, hs⟩
  intro T hT X
  obtain ⟨v', st₀, t, T', L, h0', X', hL, e1, e2, ⟨⟨ρ1, hX1, hv, hcl1, hok1, hR1⟩, hz, hkp⟩, st⟩ := hrun T hT X
  rw [h0'] at hz hkp
  have hv' : v' = (some (qI v)).map (rv ρ1) := by injection hv
  subst hv'
  have h2 : qTwo D cy A ρ1 ρm h1 hm T'.heap := by
    have h3 : qTwo D cy A ρ1 ρm h1 hm t.heap := qTwo.after ⟨⟨N, hN, hmm, hP, hD⟩, hRm, hdis⟩ hB hR1 hkp
    rw [e1]; exact h3
  have hS1 : va_S A s.heap T'.heap (locs ++ L) := ⟨Nat.le_trans hS.1 (by rw [e1]; exact hz), fun q h1 h2 => by rw [e1, hkp q (Nat.lt_of_lt_of_le h1 hS.1) (fun z => h2 (hB q z))]; exact hS.2.1 q h1 h2, fun q hq => by
      rcases List.mem_append.mp hq with h | h
      · exact hS.2.2 q h
      · exact hB _ (hL q h)⟩
  obtain ⟨t2, a1, b1⟩ := kk1 ρ1 T'.heap (locs ++ L) h2 hS1 (hX1.2.2.trans hsA) (hX1.2.1 kk j (by omega) hj) hcl1 T' rfl X'
  exact ⟨t2, st t2 a1, b1⟩
end LAW
