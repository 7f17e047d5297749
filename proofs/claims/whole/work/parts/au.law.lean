/-! THE LAW: what the tables say at its entry -/
theorem lw_in : ∀ k, k < 13 → Cond.instantiable (qRC k) (qnf k) ∈ lw_good := by decide +kernel
theorem lw_cl : ∀ k, k < 13 → ((vwCl[k]?).getD (RX0, TX0, 0)).1 = qRC k := by decide +kernel
theorem lw_clN : vwCl.length = 13 := by decide +kernel
theorem lw_nest : ∀ w ∈ qnest, w ∈ lw_tbl ∧ w.onTables = true := by decide +kernel
theorem lw_ao : Cond.arrayOver (.object RX4) ∈ lw_tbl ∧ Cond.arrayOver (.object RX6) ∈ lw_tbl ∧ Cond.castable "[I" "java/lang/Cloneable" ∈ lw_tbl := by decide +kernel
theorem lw_st : Cond.laysStatic "java/lang/String" "COMPACT_STRINGS" "Z" ∈ lw_tbl ∧ Cond.initialized "java/lang/String" ∈ lw_tbl ∧ Cond.laysStatic "jdk/internal/util/Preconditions" "SIOOBE_FORMATTER" "Ljava/util/function/BiFunction;" ∈ lw_tbl ∧ Cond.initialized "jdk/internal/util/Preconditions" ∈ lw_tbl := by decide +kernel
theorem lw_sg : Cond.eq (.static "java/lang/String" "COMPACT_STRINGS" "Z") (.int 1) ∈ gvL ∧ Cond.isRef (.static "jdk/internal/util/Preconditions" "SIOOBE_FORMATTER" "Ljava/util/function/BiFunction;") ∈ gvL := by decide +kernel
theorem lw_gd {s : State} {b : Nat} (hts : ∀ w ∈ lw_tbl, w.before #[Value.ref b] s = true) : ∀ w ∈ lw_good, w.before #[Value.ref b] s = true := fun w hw => hts w (List.mem_filter.mp hw).1
theorem law_D {s : State} {b : Nat} (hts : ∀ w ∈ lw_tbl, w.before #[Value.ref b] s = true) : ∃ D : va_G, ∀ (c : Nat) (q : vw_C), vwCl[c]? = some q → u_Kn s q.1 q.2.1 q.2.2 (D.1 c) (D.2 c) := by
  have h : ∀ c : Nat, ∃ x : ClassId × (Nat → Nat), ∀ q : vw_C, vwCl[c]? = some q → u_Kn s q.1 q.2.1 q.2.2 x.1 x.2 := by
    intro c
    by_cases hc : c < 13
    · obtain ⟨cC, iS, hk⟩ := u_known (lw_gd hts) (qTT_in c hc) (lw_gd hts _ (lw_in c hc))
      refine ⟨(cC, iS), fun q hq => ?_⟩
      have h1 := qTT_cl c hc
      rw [h1] at hq
      cases hq
      rw [lw_cl c hc]
      exact hk
    · refine ⟨(0, fun _ => 0), fun q hq => ?_⟩
      have : vwCl.length ≤ c := by rw [lw_clN]; omega
      rw [List.getElem?_eq_none this] at hq
      cases hq
  obtain ⟨f, hf⟩ := Classical.axiomOfChoice h
  exact ⟨(fun c => (f c).1, fun c => (f c).2), hf⟩
theorem law_arr {s : State} {b : Nat} {t : FieldType} (h : (Cond.arrayClass t).before #[Value.ref b] s = true) (ht : ∀ cA, s.vm.findClass ("[" ++ t.toString) = some cA → va_RA s cA t) : ∃ cA, ArrOfT s cA t ∧ va_RA s cA t := by
  obtain ⟨c, k, comp, h1, h2, h3⟩ := Cond.arrayClass_spec h
  exact ⟨c, fun n z => ⟨fun k h => (by cases h), k, h2, comp, h3⟩, ht c h1⟩
theorem law_ao {s : State} {C : String} (h : va_AO C s) : ∃ cA, ArrOfT s cA (.object C) ∧ va_RA s cA (.object C) := by
  obtain ⟨comp, c, k, h1, h2, h3, h4, h5⟩ := Cond.arrayOver_spec h
  exact ⟨c, fun n z => ⟨fun k h => (by cases h), k, h3, comp, h4⟩, k, comp, h3, h4, h1, h5⟩
theorem law_enter {s : State} {b : Nat} (hts : ∀ w ∈ lw_tbl, w.before #[Value.ref b] s = true) (hgv : (Jvm.Cond.and given_1 narrow_1).before #[Value.ref b] s = true) : ∃ (D : va_G) (cy sA : Nat → Nat), qAm D cy sA s ∧ qSt sA (fun q => s.heap.size ≤ q) s := by
  have hA : ∀ a : Nat, a < s.heap.size → ¬ (fun q => s.heap.size ≤ q) a := fun a ha => Nat.not_le.mpr ha
  have hg := flat_of_before _ hgv
  obtain ⟨D, hD⟩ := law_D hts
  obtain ⟨sA, adV, hS, hR⟩ := law_strings hts hgv (fun q => s.heap.size ≤ q) hA
  have good := lw_gd hts
  have hao1 : va_AO RX4 s := va_AO.of (hts _ lw_ao.1)
  have hao2 : va_AO RX6 s := va_AO.of (hts _ lw_ao.2.1)
  obtain ⟨c13, k13⟩ := law_arr (t := .byte) (good _ hW13) (fun _ h => h)
  obtain ⟨c14, k14⟩ := law_arr (t := .int) (good _ hW14) (fun _ h => h)
  obtain ⟨c15, k15⟩ := law_arr (t := .long) (good _ hW15) (fun _ h => h)
  obtain ⟨c16, k16⟩ := law_arr (t := .boolean) (good _ hW16) (fun _ h => h)
  obtain ⟨c17, k17⟩ := law_ao hao1
  obtain ⟨c18, k18⟩ := law_ao hao2
  refine ⟨D, fun k => if k = 13 then c13 else if k = 14 then c14 else if k = 15 then c15 else if k = 16 then c16 else if k = 17 then c17 else c18, sA, ⟨⟨hD, fun k q hk => ?_⟩, fun w hw => va_Nw.of (lw_nest w hw).2 (hts w (lw_nest w hw).1), ⟨hao1, hao2⟩, va_Nw.of rfl (hts _ lw_ao.2.2), hR⟩, ⟨adV, hS, ?_, ?_⟩⟩
  · match k, hk with
    | 0, hk => cases hk; exact k13
    | 1, hk => cases hk; exact k14
    | 2, hk => cases hk; exact k15
    | 3, hk => cases hk; exact k16
    | 4, hk => cases hk; exact k17
    | 5, hk => cases hk; exact k18
    | k + 6, hk => simp at hk
  · exact va_Zof (hts _ lw_st.1) (hts _ lw_st.2.1) (va_eqt (hg _ lw_sg.1)) hA
  · exact va_Zqof (hts _ lw_st.2.2.1) (hts _ lw_st.2.2.2) (hg _ lw_sg.2) hA
