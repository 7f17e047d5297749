/-! WHAT THE LIBRARY DOES, AS INSTRUCTIONS; ALL INSTRUCTIONS -/
theorem wMathI : Cond.initialized "java/lang/Math" ∈ lw_good := by decide +kernel
theorem wMax1 : Cond.static Lib.Math.max.name ∈ lw_good := by decide +kernel
theorem wMax2 : Cond.code Lib.Math.max.name Lib.Math.max.code 2 (some .int) ∈ lw_good := by decide +kernel
theorem wMin1 : Cond.static Lib.Math.min.name ∈ lw_good := by decide +kernel
theorem wMin2 : Cond.code Lib.Math.min.name Lib.Math.min.code 2 (some .int) ∈ lw_good := by decide +kernel
theorem wMaxL1 : Cond.static Lib.MathLoose.max_long.x ∈ lw_good := by decide +kernel
theorem wMaxL2 : Cond.code Lib.MathLoose.max_long.x Lib.MathLoose.max_long.code 4 (some .long) ∈ lw_good := by decide +kernel
theorem wCpy1 : Cond.native arraycopyName ∈ lw_good := by decide +kernel
theorem wCpy2 : Cond.static arraycopyName ∈ lw_good := by decide +kernel
theorem wCpy3 : Cond.initialized "java/lang/System" ∈ lw_good := by decide +kernel
theorem wCln1 : Cond.sameMethod "[I" "java/lang/Object" "clone" "()Ljava/lang/Object;" ∈ lw_good := by decide +kernel
theorem wCln2 : Cond.native ⟨"java/lang/Object", "clone", "()Ljava/lang/Object;"⟩ ∈ lw_good := by decide +kernel
theorem wCln3 : Cond.instanceMethod ⟨"java/lang/Object", "clone", "()Ljava/lang/Object;"⟩ ∈ lw_good := by decide +kernel
theorem wCln4 : Cond.selects "[I" ⟨"[I", "clone", "()Ljava/lang/Object;"⟩ ⟨"java/lang/Object", "clone", "()Ljava/lang/Object;"⟩ ∈ lw_good := by decide +kernel
theorem wObj1 : Cond.instanceMethod Lib.objectInit ∈ lw_good := by decide +kernel
theorem wObj2 : Cond.code Lib.objectInit ⟨#[0xb1]⟩ 1 none ∈ lw_good := by decide +kernel
theorem wLen1 : Cond.instanceMethod yJ0_length_8abf5 ∈ lw_good := by decide +kernel
theorem wLen2 : Cond.selects "java/lang/String" yJ0_length_8abf5 yJ0_length_8abf5 ∈ lw_good := by decide +kernel
theorem wChr1 : Cond.instanceMethod yJ0_charAt_5068e ∈ lw_good := by decide +kernel
theorem wChr2 : Cond.selects "java/lang/String" yJ0_charAt_5068e yJ0_charAt_5068e ∈ lw_good := by decide +kernel
theorem qRep_newW {D : va_G} {cy : Nat → ClassId} {ρ : Nat → Nat → Nat} {h : qM} {A : Nat → Prop} {H1 : Heap} {N : List (Nat × Nat)} {k n q : Nat} {g : Nat → Int32} {e : va_E} (hN : N.Nodup) (hm : ∀ k j, (k, j) ∈ N ↔ k < 19 ∧ j < mC h k) (hk : k < 19) (hcl : qCl h)
    (he : e = ren cy (fun k' j' => if k' = k ∧ j' = mC h k then q else ρ k' j') (sW (qNew h k n) k (mC h k) g) k (mC h k)) (hP : va_P D vwCl (wl cy ρ h N ++ [(q, e)]) H1) (hD : va_D A (wl cy ρ h N ++ [(q, e)])) :
    qRep D cy (fun k' j' => if k' = k ∧ j' = mC h k then q else ρ k' j') (sW (qNew h k n) k (mC h k) g) A H1 := by
  have hC : ∀ k', mC (sW (qNew h k n) k (mC h k) g) k' = if k' = k then mC h k + 1 else mC h k' := fun k' => rfl
  have hw : wl cy (fun k' j' => if k' = k ∧ j' = mC h k then q else ρ k' j') (sW (qNew h k n) k (mC h k) g) (N ++ [(k, mC h k)]) = wl cy ρ h N ++ [(q, e)] := by
    unfold wl
    rw [List.map_append]
    congr 1
    · refine List.map_congr_left fun x hx => ?_
      obtain ⟨k', j'⟩ := x
      obtain ⟨hk', hj'⟩ := (hm k' j').mp hx
      have hne : ¬ (k' = k ∧ j' = mC h k) := fun hc => by obtain ⟨rfl, rfl⟩ := hc; omega
      dsimp only
      rw [if_neg hne]
      congr 1
      refine ren_ext ?_ ?_ ?_ ?_ ?_
      · show (if k' = k ∧ j' = mC h k then n else mL h k' j') = _; rw [if_neg hne]
      · funext s; show (if k' = k ∧ j' = mC h k then g s else if k' = k ∧ j' = mC h k then (0 : Int32) else mI h k' j' s) = _; rw [if_neg hne, if_neg hne]
      · funext s; show (if k' = k ∧ j' = mC h k then (0 : Int64) else mJ h k' j' s) = _; rw [if_neg hne]
      · funext s; show (if k' = k ∧ j' = mC h k then none else mP h k' j' s) = _; rw [if_neg hne]
      · intro s t j'' ht hp
        have := hcl k' j' s t j'' hk' hj' ht hp
        rw [if_neg (fun hc => by obtain ⟨rfl, rfl⟩ := hc; omega)]
    · rw [he]; simp only [List.map_cons, List.map_nil, and_self, if_true]
  refine ⟨N ++ [(k, mC h k)], ?_, ?_, by rw [hw]; exact hP, by rw [hw]; exact hD⟩
  · rw [List.nodup_append]
    refine ⟨hN, by simp, fun a ha b hb => ?_⟩
    rw [List.mem_singleton] at hb
    subst hb
    intro hc
    rw [hc] at ha
    have := ((hm _ _).mp ha).2
    omega
  · intro k' j'
    rw [List.mem_append, hm, List.mem_singleton, Prod.mk.injEq, hC]
    by_cases hkk : k' = k
    · subst hkk
      rw [if_pos rfl]
      constructor
      · rintro (⟨a, b⟩ | ⟨-, rfl⟩)
        · exact ⟨a, by omega⟩
        · exact ⟨hk, by omega⟩
      · rintro ⟨a, b⟩
        by_cases hj : j' = mC h k'
        · exact Or.inr ⟨rfl, hj⟩
        · exact Or.inl ⟨a, by omega⟩
    · rw [if_neg hkk]
      constructor
      · rintro (⟨a, b⟩ | ⟨c, -⟩)
        · exact ⟨a, b⟩
        · exact absurd c hkk
      · exact fun hh => Or.inl hh
section QS
variable {p : Program} {l : Launch} {e : Env} {R : Room} {s : State} {m : MethodId} {args : Array Value} {below : List Frame} {meth : Method} {c : Code} {cc : ByteArray} {nL : Nat} {ow : String} {ini : Bool} {D : va_G} {cy : Nat → ClassId} {A : Nat → Prop} {Q : State → Prop} {h0 : qM} {ρ0 : Nat → Nat → Nat} {r : qO} {cal : Nat → List qV → qM → Option qO} {lk : qL} {rt : Nat} {k : qK} {pc : Nat} {ls : List (Option qV)} {st : List qV} {h : qM}
theorem qs_max (C : qCx p s m args meth c cc nL ow ini D cy A R h0 ρ0 r) (hk : ∀ a b c' d, k a b c' d = some r → mle d r.1 ∧ qGo p l e R s m args below meth c nL D cy A Q h0 ρ0 a b c' d) {n a1 a2 a3 : Nat} (hq : qlk lk.2.1 n = some (2, a1, a2, a3)) (hlink : Cond.methodLink ow n Lib.Math.max.name ∈ lw_good)  (hd : decode cc pc = .ok (.invokestatic n, 3)) (E : qx cal lk rt (.invokestatic n) 3 pc ls st h k = some r) : qGo p l e R s m args below meth c nL D cy A Q h0 ρ0 pc ls st h := by
  obtain ⟨hx, hb, hml, hown, hts, hlk, hini, hAm, hSt, hA, hR, hRc, hRs⟩ := C
  intro ρ H locs lsA hcl hlo hst hR0 hS hX
  dsimp only [qx] at E
  have C : qCx p s m args meth c cc nL ow ini D cy A R h0 ρ0 r := ⟨hx, hb, hml, hown, hts, hlk, hini, hAm, hSt, hA, hR, hRc, hRs⟩
  replace E : (match (generalizing := false) st with
    | .inl y :: .inl x :: st => bif Nat.ble (qsum st) 8 then k (pc + 3) ls (qI (if x < y then y else x) :: st) h else none
    | _ => none) = some r := by rw [hq] at E; exact E
  split at E
  · rename_i y x st
    cases hs8 : Nat.ble (qsum st) 8 with
    | false => rw [hs8, cond_false] at E; cases E
    | true =>
      rw [hs8, cond_true] at E
      have hsum : ((st.map (rv ρ)).map fun v => v.category).sum ≤ 8 := by rw [qsum_eq]; exact Nat.le_of_ble_eq_true hs8
      have hle : mle h r.1 := (hk _ _ _ _ E).1
      have g1 := hle.1
      have g2 := hle.2.1
      refine va_mmax hx hb (hml.trans hlo.1.symm) hown (hts _ hlink) (hts _ wMax1) (hts _ wMathI) (hts _ wMax2) hR.1 (by omega) (by rw [hRc]; omega) (by rw [hRs]; omega) hd ?_
      exact (hk _ _ _ _ E).2 ρ H locs lsA hcl hlo (List.forall_mem_cons.mpr ⟨trivial, (fun w hw => hst w (List.mem_cons_of_mem _ (List.mem_cons_of_mem _ hw)))⟩) hR0 hS hX
  · cases E

theorem qs_min (C : qCx p s m args meth c cc nL ow ini D cy A R h0 ρ0 r) (hk : ∀ a b c' d, k a b c' d = some r → mle d r.1 ∧ qGo p l e R s m args below meth c nL D cy A Q h0 ρ0 a b c' d) {n a1 a2 a3 : Nat} (hq : qlk lk.2.1 n = some (3, a1, a2, a3)) (hlink : Cond.methodLink ow n Lib.Math.min.name ∈ lw_good)  (hd : decode cc pc = .ok (.invokestatic n, 3)) (E : qx cal lk rt (.invokestatic n) 3 pc ls st h k = some r) : qGo p l e R s m args below meth c nL D cy A Q h0 ρ0 pc ls st h := by
  obtain ⟨hx, hb, hml, hown, hts, hlk, hini, hAm, hSt, hA, hR, hRc, hRs⟩ := C
  intro ρ H locs lsA hcl hlo hst hR0 hS hX
  dsimp only [qx] at E
  have C : qCx p s m args meth c cc nL ow ini D cy A R h0 ρ0 r := ⟨hx, hb, hml, hown, hts, hlk, hini, hAm, hSt, hA, hR, hRc, hRs⟩
  replace E : (match (generalizing := false) st with
    | .inl y :: .inl x :: st => bif Nat.ble (qsum st) 8 then k (pc + 3) ls (qI (if y < x then y else x) :: st) h else none
    | _ => none) = some r := by rw [hq] at E; exact E
  split at E
  · rename_i y x st
    cases hs8 : Nat.ble (qsum st) 8 with
    | false => rw [hs8, cond_false] at E; cases E
    | true =>
      rw [hs8, cond_true] at E
      have hsum : ((st.map (rv ρ)).map fun v => v.category).sum ≤ 8 := by rw [qsum_eq]; exact Nat.le_of_ble_eq_true hs8
      have hle : mle h r.1 := (hk _ _ _ _ E).1
      have g1 := hle.1
      have g2 := hle.2.1
      refine va_mmin hx hb (hml.trans hlo.1.symm) hown (hts _ hlink) (hts _ wMin1) (hts _ wMathI) (hts _ wMin2) hR.1 (by omega) (by rw [hRc]; omega) (by rw [hRs]; omega) hd ?_
      exact (hk _ _ _ _ E).2 ρ H locs lsA hcl hlo (List.forall_mem_cons.mpr ⟨trivial, (fun w hw => hst w (List.mem_cons_of_mem _ (List.mem_cons_of_mem _ hw)))⟩) hR0 hS hX
  · cases E

theorem qs_maxL (C : qCx p s m args meth c cc nL ow ini D cy A R h0 ρ0 r) (hk : ∀ a b c' d, k a b c' d = some r → mle d r.1 ∧ qGo p l e R s m args below meth c nL D cy A Q h0 ρ0 a b c' d) {n a1 a2 a3 : Nat} (hq : qlk lk.2.1 n = some (4, a1, a2, a3)) (hlink : Cond.methodLink ow n Lib.MathLoose.max_long.x ∈ lw_good)  (hd : decode cc pc = .ok (.invokestatic n, 3)) (E : qx cal lk rt (.invokestatic n) 3 pc ls st h k = some r) : qGo p l e R s m args below meth c nL D cy A Q h0 ρ0 pc ls st h := by
  obtain ⟨hx, hb, hml, hown, hts, hlk, hini, hAm, hSt, hA, hR, hRc, hRs⟩ := C
  intro ρ H locs lsA hcl hlo hst hR0 hS hX
  dsimp only [qx] at E
  have C : qCx p s m args meth c cc nL ow ini D cy A R h0 ρ0 r := ⟨hx, hb, hml, hown, hts, hlk, hini, hAm, hSt, hA, hR, hRc, hRs⟩
  replace E : (match (generalizing := false) st with
    | .inr (.inl y) :: .inr (.inl x) :: st => bif Nat.ble (qsum st) 8 then k (pc + 3) ls (qJ (if y < x then x else y) :: st) h else none
    | _ => none) = some r := by rw [hq] at E; exact E
  split at E
  · rename_i y x st
    cases hs8 : Nat.ble (qsum st) 8 with
    | false => rw [hs8, cond_false] at E; cases E
    | true =>
      rw [hs8, cond_true] at E
      have hsum : ((st.map (rv ρ)).map fun v => v.category).sum ≤ 8 := by rw [qsum_eq]; exact Nat.le_of_ble_eq_true hs8
      have hle : mle h r.1 := (hk _ _ _ _ E).1
      have g1 := hle.1
      have g2 := hle.2.1
      refine va_mmax_long hx hb (hml.trans hlo.1.symm) hown (hts _ hlink) (hts _ wMaxL1) (hts _ wMathI) (hts _ wMaxL2) hR.1 (by omega) (by rw [hRc]; omega) (by rw [hRs]; omega) hd ?_
      exact (hk _ _ _ _ E).2 ρ H locs lsA hcl hlo (List.forall_mem_cons.mpr ⟨trivial, (fun w hw => hst w (List.mem_cons_of_mem _ (List.mem_cons_of_mem _ hw)))⟩) hR0 hS hX
  · cases E

theorem qs_arraycopy (C : qCx p s m args meth c cc nL ow ini D cy A R h0 ρ0 r) (hk : ∀ a b c' d, k a b c' d = some r → mle d r.1 ∧ qGo p l e R s m args below meth c nL D cy A Q h0 ρ0 a b c' d) {n a1 a2 a3 : Nat} (hq : qlk lk.2.1 n = some (5, a1, a2, a3)) (hlink : Cond.methodLink ow n arraycopyName ∈ lw_good)  (hd : decode cc pc = .ok (.invokestatic n, 3)) (E : qx cal lk rt (.invokestatic n) 3 pc ls st h k = some r) : qGo p l e R s m args below meth c nL D cy A Q h0 ρ0 pc ls st h := by
  obtain ⟨hx, hb, hml, hown, hts, hlk, hini, hAm, hSt, hA, hR, hRc, hRs⟩ := C
  intro ρ H locs lsA hcl hlo hst hR0 hS hX
  dsimp only [qx] at E
  have C : qCx p s m args meth c cc nL ow ini D cy A R h0 ρ0 r := ⟨hx, hb, hml, hown, hts, hlk, hini, hAm, hSt, hA, hR, hRc, hRs⟩
  replace E : (match (generalizing := false) st with
    | .inl n :: .inl dp :: .inr (.inr (14, od)) :: .inl sp :: .inr (.inr (14, os)) :: st => bif Nat.ble (qsum st) 8 then od.bind fun jd => os.bind fun js =>
          bif qcp sp dp n (mL h 14 js) (mL h 14 jd) then
            k (pc + 3) ls st (sW h 14 jd (va_cpy (mI h 14 js) (mI h 14 jd) sp.toNatClampNeg dp.toNatClampNeg n.toNatClampNeg))
          else none
        else none
    | _ => none) = some r := by rw [hq] at E; exact E
  split at E
  · rename_i cn dp od sp os st
    cases hs8 : Nat.ble (qsum st) 8 with
    | false => rw [hs8, cond_false] at E; cases E
    | true =>
      rw [hs8, cond_true] at E
      have hsum : ((st.map (rv ρ)).map fun v => v.category).sum ≤ 8 := by rw [qsum_eq]; exact Nat.le_of_ble_eq_true hs8
      cases od with
      | none => cases E
      | some jd =>
      cases os with
      | none => cases E
      | some js =>
      dsimp only [Option.bind_some] at E
      cases hcp : qcp sp dp cn (mL h 14 js) (mL h 14 jd) with
      | false => rw [hcp, cond_false] at E; cases E
      | true =>
      rw [hcp, cond_true] at E
      have hle : mle (sW h 14 jd (va_cpy (mI h 14 js) (mI h 14 jd) sp.toNatClampNeg dp.toNatClampNeg cn.toNatClampNeg)) r.1 := (hk _ _ _ _ E).1
      have g1 := hle.1
      have g2 := hle.2.1
      unfold qcp at hcp
      simp only [Bool.and_eq_true, Bool.not_eq_true', decide_eq_false_iff_not] at hcp
      obtain ⟨⟨⟨c1, c2⟩, c3⟩, c4, c5⟩ := hcp
      have c4 := Nat.le_of_ble_eq_true c4
      have c5 := Nat.le_of_ble_eq_true c5
      have hjd := qOk_ref (by omega) (hst _ (List.mem_cons_of_mem _ (List.mem_cons_of_mem _ List.mem_cons_self)))
      have hjs := qOk_ref (by omega) (hst _ (List.mem_cons_of_mem _ (List.mem_cons_of_mem _ (List.mem_cons_of_mem _ (List.mem_cons_of_mem _ List.mem_cons_self)))))
      obtain ⟨N, q0, hp, hN, hm, hP, hD⟩ := hR0.at (by omega) hjd
      obtain ⟨q1, hp1⟩ := List.getElem?_of_mem ((hm 14 js).mpr ⟨by omega, hjs⟩)
      have he := wl_at (cy := cy) (ρ := ρ) (h := h) hp
      rw [ren_int (by omega)] at he
      have he1 := wl_at (cy := cy) (ρ := ρ) (h := h) hp1
      rw [ren_int (by omega)] at he1
      have hnf : nativeFrameWords "java/lang/System" "arraycopy" 5 = 7 := by decide
      refine va_copyi (D := D) hx hb (hml.trans hlo.1.symm) hown (hts _ hlink) (hts _ wCpy1) (hts _ wCpy2) (hts _ wCpy3) hAm.1 hP hD hS q1 q0 1 1 he1 he rfl rfl rfl c1 c2 c3 c4 c5 (fun _ _ => rfl) hR.1 (by rw [hnf]; exact Nat.le_trans (Nat.add_le_add_right hsum 18) (Nat.le_trans (by decide) hR.2)) hd (fun H1 locs1 hP1 hD1 hS1 => ?_)
      exact (hk _ _ _ _ E).2 ρ H1 locs1 lsA (hcl.sW _ _ _) (hlo.le (mle.rf h)) (fun w hw => (hst w (List.mem_cons_of_mem _ (List.mem_cons_of_mem _ (List.mem_cons_of_mem _ (List.mem_cons_of_mem _ (List.mem_cons_of_mem _ hw)))))).le (mle.rf h)) (qRep.sW hN hp hm ren_sW hP1 hD1) hS1 (hX.upd (mle.rf h))
  · cases E

theorem qs_clone (C : qCx p s m args meth c cc nL ow ini D cy A R h0 ρ0 r) (hk : ∀ a b c' d, k a b c' d = some r → mle d r.1 ∧ qGo p l e R s m args below meth c nL D cy A Q h0 ρ0 a b c' d) {n a1 a2 a3 : Nat} (hq : qlk lk.2.1 n = some (6, a1, a2, a3)) (hlink : Cond.methodLink ow n ⟨"[I", "clone", "()Ljava/lang/Object;"⟩ ∈ lw_good)  (hd : decode cc pc = .ok (.invokevirtual n, 3)) (E : qx cal lk rt (.invokevirtual n) 3 pc ls st h k = some r) : qGo p l e R s m args below meth c nL D cy A Q h0 ρ0 pc ls st h := by
  obtain ⟨hx, hb, hml, hown, hts, hlk, hini, hAm, hSt, hA, hR, hRc, hRs⟩ := C
  intro ρ H locs lsA hcl hlo hst hR0 hS hX
  dsimp only [qx] at E
  have C : qCx p s m args meth c cc nL ow ini D cy A R h0 ρ0 r := ⟨hx, hb, hml, hown, hts, hlk, hini, hAm, hSt, hA, hR, hRc, hRs⟩
  replace E : (match (generalizing := false) st with
    | .inr (.inr (14, o)) :: st => bif Nat.ble (qsum st) 8 then o.bind fun j => k (pc + 3) ls (qR 14 (some (mC h 14)) :: st) (sW (qNew h 14 (mL h 14 j)) 14 (mC h 14) (mI h 14 j)) else none
    | _ => none) = some r := by rw [hq] at E; exact E
  split at E
  · rename_i o st
    cases hs8 : Nat.ble (qsum st) 8 with
    | false => rw [hs8, cond_false] at E; cases E
    | true =>
      rw [hs8, cond_true] at E
      have hsum : ((st.map (rv ρ)).map fun v => v.category).sum ≤ 8 := by rw [qsum_eq]; exact Nat.le_of_ble_eq_true hs8
      cases o with
      | none => cases E
      | some j =>
      dsimp only [Option.bind_some] at E
      have hle := (hk _ _ _ _ E).1
      have l1 : (mA h).1 + 1 ≤ (mA r.1).1 := hle.1
      have l2 : (mA h).2 + mL h 14 j ≤ (mA r.1).2 := hle.2.1
      have g1 := hX.1.1
      have g2 := hX.1.2.1
      have hj := qOk_ref (by omega) (hst _ List.mem_cons_self)
      obtain ⟨N, q0, hp, hN, hm, hP, hD⟩ := hR0.at (by omega) hj
      have he := wl_at (cy := cy) (ρ := ρ) (h := h) hp
      rw [ren_int (by omega)] at he
      refine va_clone (D := D) (ad := "[I") hx hb (hml.trans hlo.1.symm) hown (hts _ hlink) (hts _ wCln1) (hts _ wCln2) (hts _ wCln3) (hts _ wCln4) hAm.2.2.2.1 hAm.1 hP hD hS hA q0 1 he rfl (va_nm_int (hAm.1.2 1 _ rfl).2) (fun i v hv => va_fit (fun _ _ => rfl) i v hv) hR.1 (by omega) (by rw [hRc]; omega) (by rw [hRs]; show _ + mL h 14 j ≤ _; omega) hd (fun q H1 hK1 hP1 hD1 hS1 => ?_)
      have hst' : ∀ w ∈ st, qOk h w := fun w hw => hst w (List.mem_cons_of_mem _ hw)
      have hnew : (.inl (cy 14, mL h 14 j, .inl (mI h 14 j)) : va_E) = ren cy (fun k' j' => if k' = 14 ∧ j' = mC h 14 then q else ρ k' j') (sW (qNew h 14 (mL h 14 j)) 14 (mC h 14) (mI h 14 j)) 14 (mC h 14) := by
        rw [← ren_sW (h := qNew h 14 (mL h 14 j)), mL_new]
      have hR1 := qRep_newW hN hm (by omega) hcl hnew hP1 hD1
      have e1 : st.map (rv (fun k' j' => if k' = 14 ∧ j' = mC h 14 then q else ρ k' j')) = st.map (rv ρ) := List.map_congr_left fun v hv => rv_new (by omega) v (hst' v hv)
      have e2 : rv (fun k' j' => if k' = 14 ∧ j' = mC h 14 then q else ρ k' j') (qR 14 (some (mC h 14))) = .ref q := by
        show va_rf (some (if 14 = 14 ∧ mC h 14 = mC h 14 then q else _)) = _
        rw [if_pos ⟨rfl, rfl⟩]
        rfl
      rw [← e1, ← e2]
      have b1 : (mA h).1 - (mA h0).1 + 1 = (mA (sW (qNew h 14 (mL h 14 j)) 14 (mC h 14) (mI h 14 j))).1 - (mA h0).1 := by show _ = (mA h).1 + 1 - _; omega
      have b2 : (mA h).2 - (mA h0).2 + mL h 14 j = (mA (sW (qNew h 14 (mL h 14 j)) 14 (mC h 14) (mI h 14 j))).2 - (mA h0).2 := by show _ = (mA h).2 + mL h 14 j - _; omega
      show W p l e R s m args below meth c H1 locs _ ((mA h).2 - (mA h0).2 + mL h 14 j) Q _
      rw [b1, b2]
      have hmw : mle h (sW (qNew h 14 (mL h 14 j)) 14 (mC h 14) (mI h 14 j)) := mle.new h 14 (mL h 14 j)
      refine (hk _ _ _ _ E).2 _ H1 locs lsA ((hcl.new _ _).sW _ _ _) ((hlo.ext (fun v hv => rv_new (by omega) v hv)).le hmw) (List.forall_mem_cons.mpr ⟨Or.inl ⟨by omega, mC_new h 14 (mL h 14 j)⟩, fun w hw => (hst' w hw).le hmw⟩) hR1 hS1 ⟨hX.1.tr hmw, fun k' j' hk' hj' => ?_, ?_⟩
      · have := hX.1.2.2 k'
        dsimp only
        rw [if_neg (fun hc => by obtain ⟨rfl, rfl⟩ := hc; omega)]
        exact hX.2.1 k' j' hk' hj'
      · funext j'
        dsimp only
        rw [if_neg (fun hc => by omega)]
        exact congrFun hX.2.2 j'
  · cases E

theorem qs_strlen (C : qCx p s m args meth c cc nL ow ini D cy A R h0 ρ0 r) (hk : ∀ a b c' d, k a b c' d = some r → mle d r.1 ∧ qGo p l e R s m args below meth c nL D cy A Q h0 ρ0 a b c' d) {n a1 a2 a3 : Nat} (hq : qlk lk.2.1 n = some (8, a1, a2, a3)) (hlink : Cond.methodLink ow n yJ0_length_8abf5 ∈ lw_good) (hR4 : 4 ≤ R.frames ∧ 144 ≤ R.locals)  (hd : decode cc pc = .ok (.invokevirtual n, 3)) (E : qx cal lk rt (.invokevirtual n) 3 pc ls st h k = some r) : qGo p l e R s m args below meth c nL D cy A Q h0 ρ0 pc ls st h := by
  obtain ⟨hx, hb, hml, hown, hts, hlk, hini, hAm, hSt, hA, hR, hRc, hRs⟩ := C
  intro ρ H locs lsA hcl hlo hst hR0 hS hX
  dsimp only [qx] at E
  have C : qCx p s m args meth c cc nL ow ini D cy A R h0 ρ0 r := ⟨hx, hb, hml, hown, hts, hlk, hini, hAm, hSt, hA, hR, hRc, hRs⟩
  replace E : (match (generalizing := false) st with
    | .inr (.inr (19, o)) :: st => bif Nat.ble (qsum st) 8 then o.bind (fun id => bif Nat.blt id 16 then k (pc + 3) ls (qI (Int32.ofNat (qtx id).length) :: st) h else none) else none
    | _ => none) = some r := by rw [hq] at E; exact E
  split at E
  · rename_i o st
    cases hs8 : Nat.ble (qsum st) 8 with
    | false => rw [hs8, cond_false] at E; cases E
    | true =>
      rw [hs8, cond_true] at E
      have hsum : ((st.map (rv ρ)).map fun v => v.category).sum ≤ 8 := by rw [qsum_eq]; exact Nat.le_of_ble_eq_true hs8
      cases o with
      | none => cases E
      | some id =>
      dsimp only [Option.bind_some] at E
      cases hid : Nat.blt id 16 with
      | false => rw [hid, cond_false] at E; cases E
      | true =>
      rw [hid, cond_true] at E
      have hid' : id < 16 := Nat.le_of_ble_eq_true hid
      have hle : mle h r.1 := (hk _ _ _ _ E).1
      have g1 := hle.1
      have g2 := hle.2.1
      obtain ⟨adV, hV, hZ, hZq⟩ := _root_.id hSt
      have hrf : rv ρ (.inr (.inr (19, some id))) = .ref (ρ0 19 id) := by rw [← hX.2.2]; rfl
      rw [List.map_cons, hrf]
      refine qsame_go (rest := st.map (rv ρ)) (va_runV (As := []) (rest := st.map (rv ρ)) ⟨hx, hb, hml, hown, hts⟩ (qj_length l (ρ0 19) id hid' H.size) (cwV 0 hts (lw_good_gi (List.forall_mem_cons.mpr ⟨hlink, List.forall_mem_cons.mpr ⟨wLen1, List.forall_mem_cons.mpr ⟨wLen2, List.forall_mem_cons.mpr ⟨qM_length.2.1, qM_length.ws⟩⟩⟩⟩)) rfl rfl rfl ⟨rfl, qM_length.2.2.1.1, qM_length.2.2.1.2, qM_length.2.2.2.1⟩ ⟨Nat.le_trans (by decide) hR4.1, Nat.le_trans (by decide) hR4.2⟩) ⟨qTP_blind, vk_recv hV hid' hS, fun U hU hW => qTP_pre hU hSt hS hA hW⟩ rfl rfl hlo.1 rfl (lv_room hsum) hd ⟨by rw [hRc]; omega, by rw [hRs]; omega⟩) ?_
      exact (hk _ _ _ _ E).2 ρ H locs lsA hcl hlo (List.forall_mem_cons.mpr ⟨trivial, (fun w hw => hst w (List.mem_cons_of_mem _ hw))⟩) hR0 hS hX
  · cases E

theorem qs_charAt (C : qCx p s m args meth c cc nL ow ini D cy A R h0 ρ0 r) (hk : ∀ a b c' d, k a b c' d = some r → mle d r.1 ∧ qGo p l e R s m args below meth c nL D cy A Q h0 ρ0 a b c' d) {n a1 a2 a3 : Nat} (hq : qlk lk.2.1 n = some (9, a1, a2, a3)) (hlink : Cond.methodLink ow n yJ0_charAt_5068e ∈ lw_good) (hR4 : 4 ≤ R.frames ∧ 144 ≤ R.locals)  (hd : decode cc pc = .ok (.invokevirtual n, 3)) (E : qx cal lk rt (.invokevirtual n) 3 pc ls st h k = some r) : qGo p l e R s m args below meth c nL D cy A Q h0 ρ0 pc ls st h := by
  obtain ⟨hx, hb, hml, hown, hts, hlk, hini, hAm, hSt, hA, hR, hRc, hRs⟩ := C
  intro ρ H locs lsA hcl hlo hst hR0 hS hX
  dsimp only [qx] at E
  have C : qCx p s m args meth c cc nL ow ini D cy A R h0 ρ0 r := ⟨hx, hb, hml, hown, hts, hlk, hini, hAm, hSt, hA, hR, hRc, hRs⟩
  replace E : (match (generalizing := false) st with
    | .inl x :: .inr (.inr (19, o)) :: st => bif Nat.ble (qsum st) 8 then o.bind (fun id => bif Nat.blt id 16 && qin x (qtx id).length then k (pc + 3) ls (qI ((qtx id).getD x.toNatClampNeg 0) :: st) h else none) else none
    | _ => none) = some r := by rw [hq] at E; exact E
  split at E
  · rename_i x o st
    cases hs8 : Nat.ble (qsum st) 8 with
    | false => rw [hs8, cond_false] at E; cases E
    | true =>
      rw [hs8, cond_true] at E
      have hsum : ((st.map (rv ρ)).map fun v => v.category).sum ≤ 8 := by rw [qsum_eq]; exact Nat.le_of_ble_eq_true hs8
      cases o with
      | none => cases E
      | some id =>
      dsimp only [Option.bind_some] at E
      cases hid : Nat.blt id 16 with
      | false => rw [hid, Bool.false_and, cond_false] at E; cases E
      | true =>
      cases hqi : qin x (qtx id).length with
      | false => rw [hid, hqi, Bool.and_false, cond_false] at E; cases E
      | true =>
      rw [hid, hqi, Bool.and_true, cond_true] at E
      have hid' : id < 16 := Nat.le_of_ble_eq_true hid
      have hle : mle h r.1 := (hk _ _ _ _ E).1
      have g1 := hle.1
      have g2 := hle.2.1
      obtain ⟨adV, hV, hZ, hZq⟩ := _root_.id hSt
      have hrf : rv ρ (.inr (.inr (19, some id))) = .ref (ρ0 19 id) := by rw [← hX.2.2]; rfl
      rw [List.map_cons, List.map_cons, hrf]
      refine qsame_go (rest := st.map (rv ρ)) (va_runV (As := [.int x]) (rest := st.map (rv ρ)) ⟨hx, hb, hml, hown, hts⟩ (qj_charAt l (ρ0 19) id hid' x hqi H.size) (cwV 1 hts (lw_good_gi (List.forall_mem_cons.mpr ⟨hlink, List.forall_mem_cons.mpr ⟨wChr1, List.forall_mem_cons.mpr ⟨wChr2, List.forall_mem_cons.mpr ⟨qM_charAt.2.1, qM_charAt.ws⟩⟩⟩⟩)) rfl rfl rfl ⟨rfl, qM_charAt.2.2.1.1, qM_charAt.2.2.1.2, qM_charAt.2.2.2.1⟩ ⟨Nat.le_trans (by decide) hR4.1, Nat.le_trans (by decide) hR4.2⟩) ⟨qTP_blind, vk_recv hV hid' hS, fun U hU hW => qTP_pre hU hSt hS hA hW⟩ rfl rfl hlo.1 rfl (lv_room hsum) hd ⟨by rw [hRc]; omega, by rw [hRs]; omega⟩) ?_
      exact (hk _ _ _ _ E).2 ρ H locs lsA hcl hlo (List.forall_mem_cons.mpr ⟨trivial, (fun w hw => hst w (List.mem_cons_of_mem _ (List.mem_cons_of_mem _ hw)))⟩) hR0 hS hX
  · cases E

theorem qs_objinit (C : qCx p s m args meth c cc nL ow ini D cy A R h0 ρ0 r) (hk : ∀ a b c' d, k a b c' d = some r → mle d r.1 ∧ qGo p l e R s m args below meth c nL D cy A Q h0 ρ0 a b c' d) {n a1 a2 a3 : Nat} (hq : qlk lk.2.1 n = some (7, a1, a2, a3)) (hlink : Cond.methodLink ow n Lib.objectInit ∈ lw_good)  (hd : decode cc pc = .ok (.invokespecial n, 3)) (E : qx cal lk rt (.invokespecial n) 3 pc ls st h k = some r) : qGo p l e R s m args below meth c nL D cy A Q h0 ρ0 pc ls st h := by
  obtain ⟨hx, hb, hml, hown, hts, hlk, hini, hAm, hSt, hA, hR, hRc, hRs⟩ := C
  intro ρ H locs lsA hcl hlo hst hR0 hS hX
  dsimp only [qx] at E
  have C : qCx p s m args meth c cc nL ow ini D cy A R h0 ρ0 r := ⟨hx, hb, hml, hown, hts, hlk, hini, hAm, hSt, hA, hR, hRc, hRs⟩
  replace E : (match (generalizing := false) st with
    | .inr (.inr (_, some _)) :: st => bif Nat.ble (qsum st) 8 then k (pc + 3) ls st h else none
    | _ => none) = some r := by rw [hq] at E; exact E
  split at E
  · rename_i k0 j st
    cases hs8 : Nat.ble (qsum st) 8 with
    | false => rw [hs8, cond_false] at E; cases E
    | true =>
      rw [hs8, cond_true] at E
      have hsum : ((st.map (rv ρ)).map fun v => v.category).sum ≤ 8 := by rw [qsum_eq]; exact Nat.le_of_ble_eq_true hs8
      have hle : mle h r.1 := (hk _ _ _ _ E).1
      have g1 := hle.1
      have g2 := hle.2.1
      refine W.objInit hx hb hown (hts _ hlink) (hts _ wObj1) (hts _ wObj2) rfl (hlo.1.trans hml.symm) rfl hd hR.1 (by have := lv_room (m := m) (pc := pc) (ls := lsA) (rest := List.map (rv ρ) (.inr (.inr (k0, some j)) :: st)) hsum; omega) ?_
      exact (hk _ _ _ _ E).2 ρ H locs lsA hcl hlo (fun w hw => hst w (List.mem_cons_of_mem _ hw)) hR0 hS hX
  · cases E
end QS
