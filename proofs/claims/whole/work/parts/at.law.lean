/-! THE LAW: what holds at its entry -/
theorem eqE {args : Array Value} {s : State} {t u : Term} {a : Nat} (h : (Cond.eq t u).before args s = true) (hu : u.eval args s none [] s = some (.ref a)) : t.eval args s none [] s = some (.ref a) := by
  unfold Cond.before Cond.holds Cond.value at h
  rw [hu] at h
  cases ht : t.eval args s none [] s with
  | none => rw [ht] at h; simp at h
  | some v =>
    rw [ht] at h
    cases v with
    | ref b =>
      have h' : (some (decide (b = a)) == some true) = true := h
      simp at h'
      rw [h']
    | _ => simp at h
theorem neE {args : Array Value} {s : State} {t u : Term} {a b : Nat} (ht : t.eval args s none [] s = some (.ref a)) (hu : u.eval args s none [] s = some (.ref b)) (h : a ≠ b) : (Cond.not (Cond.eq t u)).before args s = true := by
  have e : Cond.value args s none s [] (Cond.eq t u) = some (decide (a = b)) := by
    unfold Cond.value
    rw [ht, hu]
  unfold Cond.before Cond.holds Cond.value
  rw [e, decide_eq_false h]
  rfl
theorem evF {args : Array Value} {s : State} {t u : Term} (h : t.eval args s none [] s = u.eval args s none [] s) (a b c : String) : (Term.field t a b c).eval args s none [] s = (Term.field u a b c).eval args s none [] s := by
  unfold Term.eval
  rw [h]
theorem evL {args : Array Value} {s : State} {t u : Term} (h : t.eval args s none [] s = u.eval args s none [] s) : (Term.length t).eval args s none [] s = (Term.length u).eval args s none [] s := by
  unfold Term.eval
  rw [h]
theorem evE {args : Array Value} {s : State} {t u : Term} (h : t.eval args s none [] s = u.eval args s none [] s) (x : Term) : (Term.elem t x).eval args s none [] s = (Term.elem u x).eval args s none [] s := by
  unfold Term.eval
  rw [h]
def tmk (i : Nat) : Nat := [258, 142, 156, 296, 240, 144, 146, 148, 150, 151, 152, 154, 158, 298, 254, 256].getD i 0
def tmT (i : Nat) : Term := Term.string "DoorLettersModel" (tmk i)
def tmV (i : Nat) : Term := .field (tmT i) "java/lang/String" "value" "[B"
abbrev gvL : List Cond := flatC (Jvm.Cond.and given_1 narrow_1)
theorem tm_ex : ∀ i, i < 16 → Cond.exactly (tmT i) "java/lang/String" ∈ gvL := by decide +kernel
theorem tm_co : ∀ i, i < 16 → Cond.eq (.field (tmT i) "java/lang/String" "coder" "B") (.int 0) ∈ gvL := by decide +kernel
theorem tm_ar : ∀ i, i < 16 → Cond.arrayOf (tmV i) .byte ∈ gvL := by decide +kernel
theorem tm_le : ∀ i, i < 16 → Cond.eq (.length (tmV i)) (.int (Int32.ofNat ((qtext.map List.length).getD i 0))) ∈ gvL := by decide +kernel
theorem tm_el : ∀ i, i < 16 → ∀ j, j < (qtext.map List.length).getD i 0 → Cond.eq (.elem (tmV i) (.int (Int32.ofNat j))) (.int ((qtext.getD i []).getD j 0)) ∈ gvL := by decide +kernel
theorem tm_eq : ∀ x ∈ qstr, x.1 = "DoorLettersModel" ∧ x.2.1 = tmk x.2.2.2 ∨ Cond.eq (.string x.1 x.2.1) (tmT x.2.2.2) ∈ gvL := by decide +kernel
theorem tm_ix : ∀ x ∈ qstr, x.2.2.2 < 16 := by decide +kernel
theorem tm_rf : ∀ x ∈ qstr, Cond.stringRef x.1 x.2.1 x.2.2.1 ∈ lw_tbl := by decide +kernel
theorem tm_ne : ∀ i, i < 16 → ∀ j, j < 16 → (qtext.map List.length).getD i 0 = (qtext.map List.length).getD j 0 → (∀ k, k < (qtext.map List.length).getD i 0 → (qtext.getD i []).getD k 0 = (qtext.getD j []).getD k 0) → i = j := by decide +kernel
theorem tm_l31 : ∀ i, i < 16 → (qtext.map List.length).getD i 0 < 100 := by decide +kernel
theorem law_strings {s : State} {b : Nat} (hts : ∀ w ∈ lw_tbl, w.before #[Value.ref b] s = true) (hgv : (Jvm.Cond.and given_1 narrow_1).before #[Value.ref b] s = true) (A : Nat → Prop) (hA : ∀ a : Nat, a < s.heap.size → ¬ A a) :
    ∃ sA adV : Nat → Nat, vk_S 16 (qtext.map List.length) qtext sA adV A s s.heap ∧ ∀ x ∈ qstr, vk_R x.1 x.2.1 x.2.2.1 (sA x.2.2.2) s := by
  have hg := flat_of_before _ hgv
  have hlen : ∀ i, i < 16 → (Term.length (tmV i)).eval #[Value.ref b] s none [] s = some (.int (Int32.ofNat ((qtext.map List.length).getD i 0))) := fun i hi => va_eqt (hg _ (tm_le i hi))
  have hel : ∀ i, i < 16 → ∀ j, j < (qtext.map List.length).getD i 0 → (Term.elem (tmV i) (.int (Int32.ofNat j))).eval #[Value.ref b] s none [] s = some (.int ((qtext.getD i []).getD j 0)) := fun i hi j hj => va_eqt (hg _ (tm_el i hi j hj))
  have hex : ∀ i, i < 16 → ∃ a, (tmT i).eval #[Value.ref b] s none [] s = some (.ref a) := fun i hi => by
    obtain ⟨a, c, cell, k, h1, -⟩ := Cond.exactly_spec (hg _ (tm_ex i hi))
    exact ⟨a, h1⟩
  obtain ⟨adK, adV, h1, h2⟩ := vk_Sof (args := #[Value.ref b]) (s := s) (N := 16) (tm := tmT) (len := qtext.map List.length) (byt := qtext) (A := A) (fun i hi => Nat.lt_trans (tm_l31 i hi) (by decide)) (fun i hi => hg _ (tm_ex i hi)) (fun i hi => hg _ (tm_co i hi)) (fun i hi => hg _ (tm_ar i hi)) (fun i hi => hg _ (tm_le i hi)) (fun i hi j hj => hg _ (tm_el i hi j hj)) (fun i j hi hj hne => by
    obtain ⟨a, ha⟩ := hex i hi
    obtain ⟨a', ha'⟩ := hex j hj
    by_cases e : a = a'
    · exfalso
      have ev : (tmT i).eval #[Value.ref b] s none [] s = (tmT j).eval #[Value.ref b] s none [] s := by rw [ha, ha', e]
      have evv := evF ev "java/lang/String" "value" "[B"
      have el := evL evv
      have l1 := hlen i hi
      have l2 := hlen j hj
      have l3 : some (Value.int (Int32.ofNat ((qtext.map List.length).getD i 0))) = some (Value.int (Int32.ofNat ((qtext.map List.length).getD j 0))) := l1.symm.trans (el.trans l2)
      have l4 : nI ((qtext.map List.length).getD i 0) = nI ((qtext.map List.length).getD j 0) := by
        injection l3 with l3
        injection l3
      have b1 := tm_l31 i hi
      have b2 := tm_l31 j hj
      rw [nIx_eq (by omega) (by omega)] at l4
      refine hne (tm_ne i hi j hj l4 fun k hk => ?_)
      have e1 := hel i hi k hk
      have e2 := hel j hj k (by rw [← l4]; exact hk)
      have e3 : some (Value.int ((qtext.getD i []).getD k 0)) = some (Value.int ((qtext.getD j []).getD k 0)) := e1.symm.trans ((evE evv _).trans e2)
      injection e3 with e3
      injection e3
    · exact Or.inl (neE ha ha' e)) hA
  refine ⟨adK, adV, h1, fun x hx => ?_⟩
  have hi := tm_ix x hx
  refine vk_R.of (A := #[Value.ref b]) (hts _ (tm_rf x hx)) ?_
  rcases tm_eq x hx with ⟨e1, e2⟩ | e
  · rw [e1, e2]
    exact h2 _ hi
  · exact eqE (hg _ e) (h2 _ hi)
