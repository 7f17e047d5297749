/-! ARRAYS, OBJECTS, CONSTANTS, SWITCHES, ENDS -/
theorem upd_eq (f : Nat → Int32) (i : Nat) (x : Int32) : upd f i x = fun s' => if s' = i then x else f s' := rfl
theorem ren_sI {cy : Nat → ClassId} {ρ : Nat → Nat → Nat} {h : qM} {k j i : Nat} {x : Int32} (hk : k = 13 ∨ k = 14 ∨ k = 16) : (.inl (cy k, mL h k j, .inl (upd (mI h k j) i x)) : va_E) = ren cy ρ (sI h k j i x) k j := by
  rw [ren_int hk]
  have h1 : mI (sI h k j i x) k j = upd (mI h k j) i x := u3_row _ k j i x
  rw [h1]
  rfl
theorem ren_sJ {cy : Nat → ClassId} {ρ : Nat → Nat → Nat} {h : qM} {j i : Nat} {x : Int64} : (.inl (cy 15, mL h 15 j, .inr (.inl (vp_updL (mJ h 15 j) i x))) : va_E) = ren cy ρ (sJ h 15 j i x) 15 j := by
  rw [ren_long]
  have h1 : mJ (sJ h 15 j i x) 15 j = vp_updL (mJ h 15 j) i x := u3_row _ 15 j i x
  rw [h1]
  rfl
theorem ren_sW {cy : Nat → ClassId} {ρ : Nat → Nat → Nat} {h : qM} {j : Nat} {g : Nat → Int32} : (.inl (cy 14, mL h 14 j, .inl g) : va_E) = ren cy ρ (sW h 14 j g) 14 j := by
  rw [ren_int (by omega)]
  have h1 : mI (sW h 14 j g) 14 j = g := by funext s; show u2 h.2.2.2.1 14 j g 14 j s = g s; simp [u2]
  rw [h1]
  rfl
theorem ren_sP17 {cy : Nat → ClassId} {ρ : Nat → Nat → Nat} {h : qM} {j i jv : Nat} : (.inl (cy 17, mL h 17 j, .inr (.inr (.inr (.inr (va_up (fun i => (mP h 17 j i).map (ρ 4)) i (some (ρ 4 jv))))))) : va_E) = ren cy ρ (sP h 17 j i (some jv)) 17 j := by
  rw [ren_17]
  have h1 : (fun i' => (mP (sP h 17 j i (some jv)) 17 j i').map (ρ 4)) = va_up (fun i => (mP h 17 j i).map (ρ 4)) i (some (ρ 4 jv)) := by
    funext i'
    show (u3 h.2.2.2.2.2 17 j i (some jv) 17 j i').map (ρ 4) = _
    rw [u3_row]
    unfold va_up
    by_cases hi : i' = i
    · simp [hi]
    · simp [hi]; rfl
  rw [h1]
  rfl
theorem ren_sP18 {cy : Nat → ClassId} {ρ : Nat → Nat → Nat} {h : qM} {j i jv : Nat} : (.inl (cy 18, mL h 18 j, .inr (.inr (.inr (.inr (va_up (fun i => (mP h 18 j i).map (ρ 6)) i (some (ρ 6 jv))))))) : va_E) = ren cy ρ (sP h 18 j i (some jv)) 18 j := by
  rw [ren_18]
  have h1 : (fun i' => (mP (sP h 18 j i (some jv)) 18 j i').map (ρ 6)) = va_up (fun i => (mP h 18 j i).map (ρ 6)) i (some (ρ 6 jv)) := by
    funext i'
    show (u3 h.2.2.2.2.2 18 j i (some jv) 18 j i').map (ρ 6) = _
    rw [u3_row]
    unfold va_up
    by_cases hi : i' = i
    · simp [hi]
    · simp [hi]; rfl
  rw [h1]
  rfl
theorem mC_new (h : qM) (k n : Nat) : mC h k < mC (qNew h k n) k := by
  show mC h k < if k = k then mC h k + 1 else mC h k
  rw [if_pos rfl]
  exact Nat.lt_succ_self _
/-- what the tables say of two array classes of one name -/
theorem va_RA_eq {U : State} {c1 c2 : ClassId} {ty : FieldType} (h1 : va_RA U c1 ty) (h2 : va_RA U c2 ty) : c1 = c2 := by
  cases ty with
  | object C =>
    obtain ⟨_, _, _, _, _, e1⟩ := h1
    obtain ⟨_, _, _, _, _, e2⟩ := h2
    exact Option.some.inj (e1.symm.trans e2)
  | _ => exact Option.some.inj ((show U.vm.findClass _ = some c1 from h1).symm.trans h2)
theorem rfs_new {ρ : Nat → Nat → Nat} {h : qM} {k n : Nat} (hk : k < 13) : ∀ j, j < qnf k → defaultValue (qty k j) = vp_V (rfs ρ (qNew h k n) k (mC h k)) j := by
  intro j hj
  unfold vp_V
  rw [List.getD_eq_getElem?_getD, rfs_at hj, Option.getD_some]
  have hty := qft_ty k hk j hj
  have hI : mI (qNew h k n) k (mC h k) j = 0 := by show u2 h.2.2.2.1 k (h.2.1 k) (fun _ => 0) k (h.2.1 k) j = 0; simp [u2]
  have hJ : mJ (qNew h k n) k (mC h k) j = 0 := by show u2 h.2.2.2.2.1 k (h.2.1 k) (fun _ => 0) k (h.2.1 k) j = 0; simp [u2]
  have hP : mP (qNew h k n) k (mC h k) j = none := by show u2 h.2.2.2.2.2 k (h.2.1 k) (fun _ => none) k (h.2.1 k) j = none; simp [u2]
  rcases h4 : qft k j with _ | _ | _ | t <;> rw [h4] at hty <;> dsimp only at hty
  · rw [hty, rfv, hI]; rfl
  · rw [hty, rfv, hJ]; rfl
  · rw [hty, rfv, hI]; rfl
  · rw [rfv, hP]
    rcases hty with ⟨n, hty⟩ | ⟨n, hty⟩ <;> rw [hty] <;> rfl
section QS
variable {p : Program} {l : Launch} {e : Env} {R : Room} {s : State} {m : MethodId} {args : Array Value} {below : List Frame} {meth : Method} {c : Code} {cc : ByteArray} {nL : Nat} {ow : String} {ini : Bool} {D : va_G} {cy : Nat → ClassId} {A : Nat → Prop} {Q : State → Prop} {h0 : qM} {ρ0 : Nat → Nat → Nat} {r : qO} {cal : Nat → List qV → qM → Option qO} {lk : qL} {rt : Nat} {k : qK} {pc : Nat} {ls : List (Option qV)} {st : List qV} {h : qM}
theorem qs_iaload (C : qCx p s m args meth c cc nL ow ini D cy A R h0 ρ0 r) (hk : ∀ a b c' d, k a b c' d = some r → mle d r.1 ∧ qGo p l e R s m args below meth c nL D cy A Q h0 ρ0 a b c' d)   (hd : decode cc pc = .ok (.iaload, 1)) (E : qx cal lk rt (.iaload) 1 pc ls st h k = some r) : qGo p l e R s m args below meth c nL D cy A Q h0 ρ0 pc ls st h := by
  obtain ⟨hx, hb, hml, hown, hts, hlk, hini, hAm, hSt, hA, hR, hRc, hRs⟩ := C
  intro ρ H locs lsA hcl hlo hst hR0 hS hX
  dsimp only [qx] at E
  split at E
  · rename_i x k0 o st
    cases hbq : Nat.beq k0 14 with
    | false => rw [hbq, cond_false] at E; cases E
    | true =>
      have hkk : k0 = 14 := Nat.eq_of_beq_eq_true hbq
      subst hkk
      rw [hbq, cond_true] at E
      cases o with
      | none => cases E
      | some j =>
        dsimp only [Option.bind_some] at E
        cases hq : qin x (mL h 14 j) with
        | false => rw [hq, cond_false] at E; cases E
        | true =>
          rw [hq, cond_true] at E
          have hj := qOk_ref (by omega) (hst _ (List.mem_cons_of_mem _ List.mem_cons_self))
          obtain ⟨N, q0, hp, hN, hm, hP, hD⟩ := hR0.at (by omega) hj
          have he := wl_at (cy := cy) (ρ := ρ) (h := h) hp
          rw [ren_int (by omega)] at he
          refine va_iald (D := D) hx hb hAm.1 hP q0 1 he rfl (qin_of hq) hd ?_
          exact (hk _ _ _ _ E).2 ρ H locs lsA hcl hlo (List.forall_mem_cons.mpr ⟨trivial, (fun w hw => hst w (List.mem_cons_of_mem _ (List.mem_cons_of_mem _ hw)))⟩) hR0 hS hX
  · cases E

theorem qs_laload (C : qCx p s m args meth c cc nL ow ini D cy A R h0 ρ0 r) (hk : ∀ a b c' d, k a b c' d = some r → mle d r.1 ∧ qGo p l e R s m args below meth c nL D cy A Q h0 ρ0 a b c' d)   (hd : decode cc pc = .ok (.laload, 1)) (E : qx cal lk rt (.laload) 1 pc ls st h k = some r) : qGo p l e R s m args below meth c nL D cy A Q h0 ρ0 pc ls st h := by
  obtain ⟨hx, hb, hml, hown, hts, hlk, hini, hAm, hSt, hA, hR, hRc, hRs⟩ := C
  intro ρ H locs lsA hcl hlo hst hR0 hS hX
  dsimp only [qx] at E
  split at E
  · rename_i x k0 o st
    cases hbq : Nat.beq k0 15 with
    | false => rw [hbq, cond_false] at E; cases E
    | true =>
      have hkk : k0 = 15 := Nat.eq_of_beq_eq_true hbq
      subst hkk
      rw [hbq, cond_true] at E
      cases o with
      | none => cases E
      | some j =>
        dsimp only [Option.bind_some] at E
        cases hq : qin x (mL h 15 j) with
        | false => rw [hq, cond_false] at E; cases E
        | true =>
          rw [hq, cond_true] at E
          have hj := qOk_ref (by omega) (hst _ (List.mem_cons_of_mem _ List.mem_cons_self))
          obtain ⟨N, q0, hp, hN, hm, hP, hD⟩ := hR0.at (by omega) hj
          have he := wl_at (cy := cy) (ρ := ρ) (h := h) hp
          rw [ren_long] at he
          refine va_lald (D := D) hx hb hAm.1 hP q0 2 he rfl (qin_of hq) hd ?_
          exact (hk _ _ _ _ E).2 ρ H locs lsA hcl hlo (List.forall_mem_cons.mpr ⟨trivial, (fun w hw => hst w (List.mem_cons_of_mem _ (List.mem_cons_of_mem _ hw)))⟩) hR0 hS hX
  · cases E

theorem qs_baload (C : qCx p s m args meth c cc nL ow ini D cy A R h0 ρ0 r) (hk : ∀ a b c' d, k a b c' d = some r → mle d r.1 ∧ qGo p l e R s m args below meth c nL D cy A Q h0 ρ0 a b c' d)   (hd : decode cc pc = .ok (.baload, 1)) (E : qx cal lk rt (.baload) 1 pc ls st h k = some r) : qGo p l e R s m args below meth c nL D cy A Q h0 ρ0 pc ls st h := by
  obtain ⟨hx, hb, hml, hown, hts, hlk, hini, hAm, hSt, hA, hR, hRc, hRs⟩ := C
  intro ρ H locs lsA hcl hlo hst hR0 hS hX
  dsimp only [qx] at E
  split at E
  · rename_i x k0 o st
    by_cases hk13 : k0 = 13 ∨ k0 = 16
    · have hbq : (Nat.beq k0 13 || Nat.beq k0 16) = true := by rcases hk13 with rfl | rfl <;> rfl
      rw [hbq, cond_true] at E
      cases o with
      | none => cases E
      | some j =>
        dsimp only [Option.bind_some] at E
        cases hq : qin x (mL h k0 j) with
        | false => rw [hq, cond_false] at E; cases E
        | true =>
          rw [hq, cond_true] at E
          have hj := qOk_ref (by omega) (hst _ (List.mem_cons_of_mem _ List.mem_cons_self))
          obtain ⟨N, q0, hp, hN, hm, hP, hD⟩ := hR0.at (by omega) hj
          have he := wl_at (cy := cy) (ρ := ρ) (h := h) hp
          rw [ren_int (by omega)] at he
          rcases hk13 with rfl | rfl
          · refine va_bald (D := D) hx hb hAm.1 hP q0 0 he rfl (qin_of hq) hd ?_
            exact (hk _ _ _ _ E).2 ρ H locs lsA hcl hlo (List.forall_mem_cons.mpr ⟨trivial, (fun w hw => hst w (List.mem_cons_of_mem _ (List.mem_cons_of_mem _ hw)))⟩) hR0 hS hX
          · refine va_zald (D := D) hx hb hAm.1 hP q0 3 he rfl (qin_of hq) hd ?_
            exact (hk _ _ _ _ E).2 ρ H locs lsA hcl hlo (List.forall_mem_cons.mpr ⟨trivial, (fun w hw => hst w (List.mem_cons_of_mem _ (List.mem_cons_of_mem _ hw)))⟩) hR0 hS hX
    · have hbq : (Nat.beq k0 13 || Nat.beq k0 16) = false := by
        cases hb1 : Nat.beq k0 13 with
        | true => exact absurd (Or.inl (Nat.eq_of_beq_eq_true hb1)) hk13
        | false =>
          cases hb2 : Nat.beq k0 16 with
          | true => exact absurd (Or.inr (Nat.eq_of_beq_eq_true hb2)) hk13
          | false => rfl
      rw [hbq, cond_false] at E; cases E
  · cases E

theorem qs_aaload (C : qCx p s m args meth c cc nL ow ini D cy A R h0 ρ0 r) (hk : ∀ a b c' d, k a b c' d = some r → mle d r.1 ∧ qGo p l e R s m args below meth c nL D cy A Q h0 ρ0 a b c' d)   (hd : decode cc pc = .ok (.aaload, 1)) (E : qx cal lk rt (.aaload) 1 pc ls st h k = some r) : qGo p l e R s m args below meth c nL D cy A Q h0 ρ0 pc ls st h := by
  obtain ⟨hx, hb, hml, hown, hts, hlk, hini, hAm, hSt, hA, hR, hRc, hRs⟩ := C
  intro ρ H locs lsA hcl hlo hst hR0 hS hX
  dsimp only [qx] at E
  split at E
  · rename_i x k0 o st
    cases o with
    | none => cases E
    | some j =>
      dsimp only [Option.bind_some] at E
      cases hq : qin x (mL h k0 j) with
      | false => rw [hq, cond_false] at E; cases E
      | true =>
        rw [hq, cond_true] at E
        split at E
        · have hj := qOk_ref (by omega) (hst _ (List.mem_cons_of_mem _ List.mem_cons_self))
          obtain ⟨N, q0, hp, hN, hm, hP, hD⟩ := hR0.at (by omega) hj
          have he := wl_at (cy := cy) (ρ := ρ) (h := h) hp
          rw [ren_17] at he
          refine va_aldq (D := D) hx hb hAm.1 hP q0 4 he rfl (qin_of hq) hd ?_
          exact (hk _ _ _ _ E).2 ρ H locs lsA hcl hlo (List.forall_mem_cons.mpr ⟨qOk_cl hcl (by omega) hj (by simp [qtk]) (by omega), (fun w hw => hst w (List.mem_cons_of_mem _ (List.mem_cons_of_mem _ hw)))⟩) hR0 hS hX
        · have hj := qOk_ref (by omega) (hst _ (List.mem_cons_of_mem _ List.mem_cons_self))
          obtain ⟨N, q0, hp, hN, hm, hP, hD⟩ := hR0.at (by omega) hj
          have he := wl_at (cy := cy) (ρ := ρ) (h := h) hp
          rw [ren_18] at he
          refine va_aldq (D := D) hx hb hAm.1 hP q0 5 he rfl (qin_of hq) hd ?_
          exact (hk _ _ _ _ E).2 ρ H locs lsA hcl hlo (List.forall_mem_cons.mpr ⟨qOk_cl hcl (by omega) hj (by simp [qtk]) (by omega), (fun w hw => hst w (List.mem_cons_of_mem _ (List.mem_cons_of_mem _ hw)))⟩) hR0 hS hX
        · cases E
  · cases E

theorem qs_iastore (C : qCx p s m args meth c cc nL ow ini D cy A R h0 ρ0 r) (hk : ∀ a b c' d, k a b c' d = some r → mle d r.1 ∧ qGo p l e R s m args below meth c nL D cy A Q h0 ρ0 a b c' d)   (hd : decode cc pc = .ok (.iastore, 1)) (E : qx cal lk rt (.iastore) 1 pc ls st h k = some r) : qGo p l e R s m args below meth c nL D cy A Q h0 ρ0 pc ls st h := by
  obtain ⟨hx, hb, hml, hown, hts, hlk, hini, hAm, hSt, hA, hR, hRc, hRs⟩ := C
  intro ρ H locs lsA hcl hlo hst hR0 hS hX
  dsimp only [qx] at E
  split at E
  · rename_i v x k0 o st
    cases hbq : Nat.beq k0 14 with
    | false => rw [hbq, cond_false] at E; cases E
    | true =>
      have hkk : k0 = 14 := Nat.eq_of_beq_eq_true hbq
      subst hkk
      rw [hbq, cond_true] at E
      cases o with
      | none => cases E
      | some j =>
        dsimp only [Option.bind_some] at E
        cases hq : qin x (mL h 14 j) with
        | false => rw [hq, cond_false] at E; cases E
        | true =>
          rw [hq, cond_true] at E
          have hj := qOk_ref (by omega) (hst _ (List.mem_cons_of_mem _ (List.mem_cons_of_mem _ List.mem_cons_self)))
          obtain ⟨N, q0, hp, hN, hm, hP, hD⟩ := hR0.at (by omega) hj
          have he := wl_at (cy := cy) (ρ := ρ) (h := h) hp
          rw [ren_int (by omega)] at he
          refine va_iast (D := D) hx hb hAm.1 hP hD hS q0 1 he rfl (qin_of hq) hd (fun H1 locs1 hP1 hD1 hS1 => ?_)
          exact (hk _ _ _ _ E).2 ρ H1 locs1 lsA (hcl.sI _ _ _ _) (hlo.le (mle.rf h)) (fun w hw => (hst w (List.mem_cons_of_mem _ (List.mem_cons_of_mem _ (List.mem_cons_of_mem _ hw)))).le (mle.rf h)) (qRep.sI hN hp hm (ren_sI (by omega)) hP1 hD1) hS1 (hX.upd (mle.rf h))
  · cases E

theorem qs_lastore (C : qCx p s m args meth c cc nL ow ini D cy A R h0 ρ0 r) (hk : ∀ a b c' d, k a b c' d = some r → mle d r.1 ∧ qGo p l e R s m args below meth c nL D cy A Q h0 ρ0 a b c' d)   (hd : decode cc pc = .ok (.lastore, 1)) (E : qx cal lk rt (.lastore) 1 pc ls st h k = some r) : qGo p l e R s m args below meth c nL D cy A Q h0 ρ0 pc ls st h := by
  obtain ⟨hx, hb, hml, hown, hts, hlk, hini, hAm, hSt, hA, hR, hRc, hRs⟩ := C
  intro ρ H locs lsA hcl hlo hst hR0 hS hX
  dsimp only [qx] at E
  split at E
  · rename_i v x k0 o st
    cases hbq : Nat.beq k0 15 with
    | false => rw [hbq, cond_false] at E; cases E
    | true =>
      have hkk : k0 = 15 := Nat.eq_of_beq_eq_true hbq
      subst hkk
      rw [hbq, cond_true] at E
      cases o with
      | none => cases E
      | some j =>
        dsimp only [Option.bind_some] at E
        cases hq : qin x (mL h 15 j) with
        | false => rw [hq, cond_false] at E; cases E
        | true =>
          rw [hq, cond_true] at E
          have hj := qOk_ref (by omega) (hst _ (List.mem_cons_of_mem _ (List.mem_cons_of_mem _ List.mem_cons_self)))
          obtain ⟨N, q0, hp, hN, hm, hP, hD⟩ := hR0.at (by omega) hj
          have he := wl_at (cy := cy) (ρ := ρ) (h := h) hp
          rw [ren_long] at he
          refine va_last (D := D) hx hb hAm.1 hP hD hS q0 2 he rfl (qin_of hq) hd (fun H1 locs1 hP1 hD1 hS1 => ?_)
          exact (hk _ _ _ _ E).2 ρ H1 locs1 lsA (hcl.sJ _ _ _ _) (hlo.le (mle.rf h)) (fun w hw => (hst w (List.mem_cons_of_mem _ (List.mem_cons_of_mem _ (List.mem_cons_of_mem _ hw)))).le (mle.rf h)) (qRep.sJ hN hp hm (ren_sJ) hP1 hD1) hS1 (hX.upd (mle.rf h))
  · cases E

theorem qs_bastore (C : qCx p s m args meth c cc nL ow ini D cy A R h0 ρ0 r) (hk : ∀ a b c' d, k a b c' d = some r → mle d r.1 ∧ qGo p l e R s m args below meth c nL D cy A Q h0 ρ0 a b c' d)   (hd : decode cc pc = .ok (.bastore, 1)) (E : qx cal lk rt (.bastore) 1 pc ls st h k = some r) : qGo p l e R s m args below meth c nL D cy A Q h0 ρ0 pc ls st h := by
  obtain ⟨hx, hb, hml, hown, hts, hlk, hini, hAm, hSt, hA, hR, hRc, hRs⟩ := C
  intro ρ H locs lsA hcl hlo hst hR0 hS hX
  dsimp only [qx] at E
  split at E
  · rename_i v x k0 o st
    cases o with
    | none => cases E
    | some j =>
      dsimp only [Option.bind_some] at E
      cases hq : qin x (mL h k0 j) with
      | false => rw [hq, cond_false] at E; cases E
      | true =>
        rw [hq, cond_true] at E
        split at E
        · have hj := qOk_ref (by omega) (hst _ (List.mem_cons_of_mem _ (List.mem_cons_of_mem _ List.mem_cons_self)))
          obtain ⟨N, q0, hp, hN, hm, hP, hD⟩ := hR0.at (by omega) hj
          have he := wl_at (cy := cy) (ρ := ρ) (h := h) hp
          rw [ren_int (by omega)] at he
          refine va_bast (D := D) hx hb hAm.1 hP hD hS q0 0 he rfl (qin_of hq) hd (fun H1 locs1 hP1 hD1 hS1 => ?_)
          rw [vp_nar_byte] at hP1 hD1
          exact (hk _ _ _ _ E).2 ρ H1 locs1 lsA (hcl.sI _ _ _ _) (hlo.le (mle.rf h)) (fun w hw => (hst w (List.mem_cons_of_mem _ (List.mem_cons_of_mem _ (List.mem_cons_of_mem _ hw)))).le (mle.rf h)) (qRep.sI hN hp hm (ren_sI (by omega)) hP1 hD1) hS1 (hX.upd (mle.rf h))
        · by_cases hb1 : v &&& 1 = v
          · rw [decide_eq_true hb1, cond_true] at E
            have hj := qOk_ref (by omega) (hst _ (List.mem_cons_of_mem _ (List.mem_cons_of_mem _ List.mem_cons_self)))
            obtain ⟨N, q0, hp, hN, hm, hP, hD⟩ := hR0.at (by omega) hj
            have he := wl_at (cy := cy) (ρ := ρ) (h := h) hp
            rw [ren_int (by omega)] at he
            refine va_zast (D := D) hx hb hAm.1 hP hD hS q0 3 he rfl (qin_of hq) hd (fun H1 locs1 hP1 hD1 hS1 => ?_)
            rw [show vp_nar .boolean v = v from hb1] at hP1 hD1
            exact (hk _ _ _ _ E).2 ρ H1 locs1 lsA (hcl.sI _ _ _ _) (hlo.le (mle.rf h)) (fun w hw => (hst w (List.mem_cons_of_mem _ (List.mem_cons_of_mem _ (List.mem_cons_of_mem _ hw)))).le (mle.rf h)) (qRep.sI hN hp hm (ren_sI (by omega)) hP1 hD1) hS1 (hX.upd (mle.rf h))
          · rw [decide_eq_false hb1, cond_false] at E; cases E
        · cases E
  · cases E

theorem qs_aastore (C : qCx p s m args meth c cc nL ow ini D cy A R h0 ρ0 r) (hk : ∀ a b c' d, k a b c' d = some r → mle d r.1 ∧ qGo p l e R s m args below meth c nL D cy A Q h0 ρ0 a b c' d)   (hd : decode cc pc = .ok (.aastore, 1)) (E : qx cal lk rt (.aastore) 1 pc ls st h k = some r) : qGo p l e R s m args below meth c nL D cy A Q h0 ρ0 pc ls st h := by
  obtain ⟨hx, hb, hml, hown, hts, hlk, hini, hAm, hSt, hA, hR, hRc, hRs⟩ := C
  intro ρ H locs lsA hcl hlo hst hR0 hS hX
  dsimp only [qx] at E
  split at E
  · rename_i kv ov x k0 o st
    cases o with
    | none => cases E
    | some j =>
      cases ov with
      | none => cases E
      | some jv =>
        dsimp only [Option.bind_some] at E
        cases hq : qin x (mL h k0 j) with
        | false => rw [hq, cond_false] at E; cases E
        | true =>
          rw [hq, cond_true] at E
          split at E
          · have hj := qOk_ref (by omega) (hst _ (List.mem_cons_of_mem _ (List.mem_cons_of_mem _ List.mem_cons_self)))
            have hjv := qOk_ref (by omega) (hst _ List.mem_cons_self)
            obtain ⟨N, q0, hp, hN, hm, hP, hD⟩ := hR0.at (by omega) hj
            have he := wl_at (cy := cy) (ρ := ρ) (h := h) hp
            rw [ren_17] at he
            obtain ⟨q1, hp1⟩ := List.getElem?_of_mem ((hm 4 jv).mpr ⟨by omega, hjv⟩)
            have he1 := wl_at (cy := cy) (ρ := ρ) (h := h) hp1
            rw [ren_cls (by omega)] at he1
            refine va_astq (D := D) hx hb hAm.1 hP hD hS q0 4 q1 4 (r := (RX4, TX4, qnf 4)) he rfl he1 rfl (qin_of hq) hd (fun H1 locs1 hP1 hD1 hS1 => ?_)
            exact (hk _ _ _ _ E).2 ρ H1 locs1 lsA (hcl.sP (fun t j' ht hj' => by simp [qtk] at ht; subst ht; cases hj'; exact hjv)) (hlo.le (mle.rf h)) (fun w hw => (hst w (List.mem_cons_of_mem _ (List.mem_cons_of_mem _ (List.mem_cons_of_mem _ hw)))).le (mle.rf h)) (qRep.sP hN hp hm ren_sP17 hP1 hD1) hS1 (hX.upd (mle.rf h))
          · have hj := qOk_ref (by omega) (hst _ (List.mem_cons_of_mem _ (List.mem_cons_of_mem _ List.mem_cons_self)))
            have hjv := qOk_ref (by omega) (hst _ List.mem_cons_self)
            obtain ⟨N, q0, hp, hN, hm, hP, hD⟩ := hR0.at (by omega) hj
            have he := wl_at (cy := cy) (ρ := ρ) (h := h) hp
            rw [ren_18] at he
            obtain ⟨q1, hp1⟩ := List.getElem?_of_mem ((hm 6 jv).mpr ⟨by omega, hjv⟩)
            have he1 := wl_at (cy := cy) (ρ := ρ) (h := h) hp1
            rw [ren_cls (by omega)] at he1
            refine va_astq (D := D) hx hb hAm.1 hP hD hS q0 5 q1 6 (r := (RX6, TX6, qnf 6)) he rfl he1 rfl (qin_of hq) hd (fun H1 locs1 hP1 hD1 hS1 => ?_)
            exact (hk _ _ _ _ E).2 ρ H1 locs1 lsA (hcl.sP (fun t j' ht hj' => by simp [qtk] at ht; subst ht; cases hj'; exact hjv)) (hlo.le (mle.rf h)) (fun w hw => (hst w (List.mem_cons_of_mem _ (List.mem_cons_of_mem _ (List.mem_cons_of_mem _ hw)))).le (mle.rf h)) (qRep.sP hN hp hm ren_sP18 hP1 hD1) hS1 (hX.upd (mle.rf h))
          · cases E
  · cases E

theorem qs_arraylength (C : qCx p s m args meth c cc nL ow ini D cy A R h0 ρ0 r) (hk : ∀ a b c' d, k a b c' d = some r → mle d r.1 ∧ qGo p l e R s m args below meth c nL D cy A Q h0 ρ0 a b c' d)   (hd : decode cc pc = .ok (.arraylength, 1)) (E : qx cal lk rt (.arraylength) 1 pc ls st h k = some r) : qGo p l e R s m args below meth c nL D cy A Q h0 ρ0 pc ls st h := by
  obtain ⟨hx, hb, hml, hown, hts, hlk, hini, hAm, hSt, hA, hR, hRc, hRs⟩ := C
  intro ρ H locs lsA hcl hlo hst hR0 hS hX
  dsimp only [qx] at E
  split at E
  · rename_i k0 o st
    cases h13 : Nat.ble 13 k0 with
    | false => rw [h13, Bool.false_and, cond_false] at E; cases E
    | true =>
      cases h18 : Nat.ble k0 18 with
      | false => rw [h13, h18, Bool.and_false, cond_false] at E; cases E
      | true =>
        rw [h13, h18, Bool.and_true, cond_true] at E
        have g1 := Nat.le_of_ble_eq_true h13
        have g2 := Nat.le_of_ble_eq_true h18
        cases o with
        | none => cases E
        | some j =>
          dsimp only [Option.bind_some] at E
          have hj := qOk_ref (by omega) (hst _ List.mem_cons_self)
          obtain ⟨N, q0, hp, hN, hm, hP, hD⟩ := hR0.at (by omega) hj
          have he := wl_at (cy := cy) (ρ := ρ) (h := h) hp
          obtain ⟨y, hy⟩ := ren_len (cy := cy) (ρ := ρ) (h := h) (j := j) g1 g2
          rw [hy] at he
          rcases (show k0 = 13 ∨ k0 = 14 ∨ k0 = 15 ∨ k0 = 16 ∨ k0 = 17 ∨ k0 = 18 by omega) with rfl | rfl | rfl | rfl | rfl | rfl
          · refine va_alen (D := D) hx hb hAm.1 hP q0 0 he rfl rfl hd ?_
            exact (hk _ _ _ _ E).2 ρ H locs lsA hcl hlo (List.forall_mem_cons.mpr ⟨trivial, (fun w hw => hst w (List.mem_cons_of_mem _ hw))⟩) hR0 hS hX
          · refine va_alen (D := D) hx hb hAm.1 hP q0 1 he rfl rfl hd ?_
            exact (hk _ _ _ _ E).2 ρ H locs lsA hcl hlo (List.forall_mem_cons.mpr ⟨trivial, (fun w hw => hst w (List.mem_cons_of_mem _ hw))⟩) hR0 hS hX
          · refine va_alen (D := D) hx hb hAm.1 hP q0 2 he rfl rfl hd ?_
            exact (hk _ _ _ _ E).2 ρ H locs lsA hcl hlo (List.forall_mem_cons.mpr ⟨trivial, (fun w hw => hst w (List.mem_cons_of_mem _ hw))⟩) hR0 hS hX
          · refine va_alen (D := D) hx hb hAm.1 hP q0 3 he rfl rfl hd ?_
            exact (hk _ _ _ _ E).2 ρ H locs lsA hcl hlo (List.forall_mem_cons.mpr ⟨trivial, (fun w hw => hst w (List.mem_cons_of_mem _ hw))⟩) hR0 hS hX
          · refine va_alen (D := D) hx hb hAm.1 hP q0 4 he rfl rfl hd ?_
            exact (hk _ _ _ _ E).2 ρ H locs lsA hcl hlo (List.forall_mem_cons.mpr ⟨trivial, (fun w hw => hst w (List.mem_cons_of_mem _ hw))⟩) hR0 hS hX
          · refine va_alen (D := D) hx hb hAm.1 hP q0 5 he rfl rfl hd ?_
            exact (hk _ _ _ _ E).2 ρ H locs lsA hcl hlo (List.forall_mem_cons.mpr ⟨trivial, (fun w hw => hst w (List.mem_cons_of_mem _ hw))⟩) hR0 hS hX
  · cases E

theorem qnew_go (C : qCx p s m args meth c cc nL ow ini D cy A R h0 ρ0 r) (hk : ∀ a b c' d, k a b c' d = some r → mle d r.1 ∧ qGo p l e R s m args below meth c nL D cy A Q h0 ρ0 a b c' d) {ρ : Nat → Nat → Nat} {locs : List Loc} {lsA : Array Slot} {kc n pc' q : Nat} {rest : List qV} {en : va_E} {N : List (Nat × Nat)} {H1 : Heap} (hkc : kc < 19) (hcl : qCl h) (hlo : qLo ρ h lsA ls nL) (hst : ∀ w ∈ rest, qOk h w) (hX : qX h0 ρ0 h ρ) (hN : N.Nodup) (hm : ∀ k j, (k, j) ∈ N ↔ k < 19 ∧ j < mC h k)
    (he : en = ren cy (fun k' j' => if k' = kc ∧ j' = mC h kc then q else ρ k' j') (qNew h kc n) kc (mC h kc)) (hP1 : va_P D vwCl (wl cy ρ h N ++ [(q, en)]) H1) (hD1 : va_D A (wl cy ρ h N ++ [(q, en)])) (hS1 : va_S A s.heap H1 locs) (E : k pc' ls (qR kc (some (mC h kc)) :: rest) (qNew h kc n) = some r) :
    W p l e R s m args below meth c H1 locs ((mA h).1 - (mA h0).1 + 1) ((mA h).2 - (mA h0).2 + n) Q (F0 m pc' lsA (.ref q :: rest.map (rv ρ))) := by
  have hR1 := qRep.new hN hm hkc hcl he hP1 hD1
  have e1 : rest.map (rv (fun k' j' => if k' = kc ∧ j' = mC h kc then q else ρ k' j')) = rest.map (rv ρ) := List.map_congr_left fun v hv => rv_new hkc v (hst v hv)
  have e2 : rv (fun k' j' => if k' = kc ∧ j' = mC h kc then q else ρ k' j') (qR kc (some (mC h kc))) = .ref q := by
    show va_rf (some (if kc = kc ∧ mC h kc = mC h kc then q else _)) = _
    rw [if_pos ⟨rfl, rfl⟩]
    rfl
  rw [← e1, ← e2]
  have g1 := hX.1.1
  have g2 := hX.1.2.1
  have b1 : (mA h).1 - (mA h0).1 + 1 = (mA (qNew h kc n)).1 - (mA h0).1 := by show _ = (mA h).1 + 1 - _; omega
  have b2 : (mA h).2 - (mA h0).2 + n = (mA (qNew h kc n)).2 - (mA h0).2 := by show _ = (mA h).2 + n - _; omega
  rw [b1, b2]
  refine (hk _ _ _ _ E).2 _ H1 locs lsA (hcl.new _ _) ((hlo.ext (fun v hv => rv_new hkc v hv)).le (mle.new h _ _)) (List.forall_mem_cons.mpr ⟨Or.inl ⟨hkc, mC_new h kc n⟩, fun w hw => (hst w hw).le (mle.new h _ _)⟩) hR1 hS1 ⟨hX.1.tr (mle.new h _ _), fun k' j' hk' hj' => ?_, ?_⟩
  · have := hX.1.2.2 k'
    dsimp only
    rw [if_neg (fun hc => by obtain ⟨rfl, rfl⟩ := hc; omega)]
    exact hX.2.1 k' j' hk' hj'
  · funext j'
    dsimp only
    rw [if_neg (fun hc => by omega)]
    exact congrFun hX.2.2 j'

theorem qs_new (C : qCx p s m args meth c cc nL ow ini D cy A R h0 ρ0 r) (hk : ∀ a b c' d, k a b c' d = some r → mle d r.1 ∧ qGo p l e R s m args below meth c nL D cy A Q h0 ρ0 a b c' d) (hL : qLok ow lk) {n : Nat} (hI : ∀ k ns, qlk lk.2.2.1 n = some (k, ns) → Cond.instantiable (qRC k) (qnf k) ∈ lw_good ∧ Cond.initialized (qRC k) ∈ lw_good)  (hd : decode cc pc = .ok (.new n, 3)) (E : qx cal lk rt (.new n) 3 pc ls st h k = some r) : qGo p l e R s m args below meth c nL D cy A Q h0 ρ0 pc ls st h := by
  obtain ⟨hx, hb, hml, hown, hts, hlk, hini, hAm, hSt, hA, hR, hRc, hRs⟩ := C
  intro ρ H locs lsA hcl hlo hst hR0 hS hX
  dsimp only [qx] at E
  have C : qCx p s m args meth c cc nL ow ini D cy A R h0 ρ0 r := ⟨hx, hb, hml, hown, hts, hlk, hini, hAm, hSt, hA, hR, hRc, hRs⟩
  split at E
  · rename_i kc ns hq
    obtain ⟨h13, hns, hlink⟩ := qlk_all (P := fun i x => x.1 < 13 ∧ x.2 = qnf x.1 ∧ Cond.classLink ow i (qRC x.1) ∈ lw_good) hL.2.2.2 hq
    dsimp only at h13 hns hlink
    obtain ⟨hi1, hi2⟩ := hI _ _ hq
    subst hns
    have hle := (hk _ _ _ _ E).1
    have l1 : (mA h).1 + 1 ≤ (mA r.1).1 := hle.1
    have l2 : (mA h).2 + qnf kc ≤ (mA r.1).2 := hle.2.1
    have g1 := hX.1.1
    have g2 := hX.1.2.1
    obtain ⟨N, hN, hm, hP, hD⟩ := hR0
    refine va_new (D := D) (ci := kc) (fs := rfs ρ (qNew h kc (qnf kc)) kc (mC h kc)) hx hb hts (qTT_in kc h13) (qty kc) (fun s hs => qty_ok kc h13 s hs) hown (hts _ hlink) (hts _ hi1) (hts _ hi2) hAm.1 hP hD hS hA (qTT_cl kc h13) (rfs_new h13) (by rw [hRc]; omega) (by rw [hRs]; omega) hd (fun q H1 hP1 hD1 hS1 => ?_)
    refine qnew_go C hk (by omega) hcl hlo hst hX hN hm ?_ hP1 hD1 hS1 E
    rw [ren_cls h13]
    congr 2
    unfold rfs
    refine List.map_congr_left fun s' _ => ?_
    have hP0 : mP (qNew h kc (qnf kc)) kc (mC h kc) s' = none := by show u2 h.2.2.2.2.2 kc (h.2.1 kc) (fun _ => none) kc (h.2.1 kc) s' = none; simp [u2]
    rcases qft kc s' with _ | _ | _ | t
    · rfl
    · rfl
    · rfl
    · rw [rfv, rfv, hP0]; rfl
  · cases E

theorem mL_new (h : qM) (k n : Nat) : mL (qNew h k n) k (mC h k) = n := by show (if k = k ∧ mC h k = h.2.1 k then n else _) = n; rw [if_pos ⟨rfl, rfl⟩]
theorem mI_new (h : qM) (k n : Nat) : mI (qNew h k n) k (mC h k) = fun _ => 0 := by funext s; show u2 h.2.2.2.1 k (h.2.1 k) (fun _ => 0) k (h.2.1 k) s = 0; simp [u2]
theorem mJ_new (h : qM) (k n : Nat) : mJ (qNew h k n) k (mC h k) = fun _ => 0 := by funext s; show u2 h.2.2.2.2.1 k (h.2.1 k) (fun _ => 0) k (h.2.1 k) s = 0; simp [u2]
theorem mP_new (h : qM) (k n : Nat) : mP (qNew h k n) k (mC h k) = fun _ => none := by funext s; show u2 h.2.2.2.2.2 k (h.2.1 k) (fun _ => none) k (h.2.1 k) s = none; simp [u2]
theorem hW13 : Cond.arrayClass .byte ∈ lw_good := by decide +kernel
theorem hW14 : Cond.arrayClass .int ∈ lw_good := by decide +kernel
theorem hW15 : Cond.arrayClass .long ∈ lw_good := by decide +kernel
theorem hW16 : Cond.arrayClass .boolean ∈ lw_good := by decide +kernel

theorem qs_newarray (C : qCx p s m args meth c cc nL ow ini D cy A R h0 ρ0 r) (hk : ∀ a b c' d, k a b c' d = some r → mle d r.1 ∧ qGo p l e R s m args below meth c nL D cy A Q h0 ρ0 a b c' d) {t : ArrayType}  (hd : decode cc pc = .ok (.newarray t, 2)) (E : qx cal lk rt (.newarray t) 2 pc ls st h k = some r) : qGo p l e R s m args below meth c nL D cy A Q h0 ρ0 pc ls st h := by
  obtain ⟨hx, hb, hml, hown, hts, hlk, hini, hAm, hSt, hA, hR, hRc, hRs⟩ := C
  intro ρ H locs lsA hcl hlo hst hR0 hS hX
  dsimp only [qx] at E
  have C : qCx p s m args meth c cc nL ow ini D cy A R h0 ρ0 r := ⟨hx, hb, hml, hown, hts, hlk, hini, hAm, hSt, hA, hR, hRc, hRs⟩
  split at E
  · rename_i x st
    have hst' : ∀ w ∈ st, qOk h w := fun w hw => hst w (List.mem_cons_of_mem _ hw)
    cases hq : qin x 65536 with
    | false => rw [hq, cond_false] at E; cases E
    | true =>
      rw [hq, cond_true] at E
      have hin := qin_of hq
      have hx0 : ¬ x < 0 := fun hc => hin (Or.inl hc)
      have hx1 : x.toNatClampNeg < 65536 := Nat.lt_of_not_le (fun hc => hin (Or.inr hc))
      have g1 := hX.1.1
      have g2 := hX.1.2.1
      obtain ⟨N, hN, hm, hP, hD⟩ := hR0
      split at E
      · have hle := (hk _ _ _ _ E).1
        have l1 : (mA h).1 + 1 ≤ (mA r.1).1 := hle.1
        have l2 : (mA h).2 + x.toNatClampNeg ≤ (mA r.1).2 := hle.2.1
        refine va_newa (D := D) (atype := .byte) (ty := .byte) (a0 := (x.toNatClampNeg, .inl fun _ => 0)) hx hb (hts _ hW13) rfl hAm.1 hP hD hS hA (fun cA => rfl) hx0 rfl (Nat.le_trans (Nat.mul_le_mul_right _ (Nat.le_of_lt hx1)) (by decide)) (by rw [hRc]; omega) (by rw [hRs]; omega) hd (fun q cA H1 hK1 hP1 hD1 hS1 => ?_)
        have hcA : cA = cy 13 := va_RA_eq (hK1.2 6 _ rfl).2 (hAm.1.2 0 _ rfl).2
        subst hcA
        exact qnew_go C hk (by omega) hcl hlo hst' hX hN hm (by rw [ren_int (by omega)]; simp only [mL_new, mI_new]) hP1 hD1 hS1 E
      · have hle := (hk _ _ _ _ E).1
        have l1 : (mA h).1 + 1 ≤ (mA r.1).1 := hle.1
        have l2 : (mA h).2 + x.toNatClampNeg ≤ (mA r.1).2 := hle.2.1
        refine va_newa (D := D) (atype := .int) (ty := .int) (a0 := (x.toNatClampNeg, .inl fun _ => 0)) hx hb (hts _ hW14) rfl hAm.1 hP hD hS hA (fun cA => rfl) hx0 rfl (Nat.le_trans (Nat.mul_le_mul_right _ (Nat.le_of_lt hx1)) (by decide)) (by rw [hRc]; omega) (by rw [hRs]; omega) hd (fun q cA H1 hK1 hP1 hD1 hS1 => ?_)
        have hcA : cA = cy 14 := va_RA_eq (hK1.2 6 _ rfl).2 (hAm.1.2 1 _ rfl).2
        subst hcA
        exact qnew_go C hk (by omega) hcl hlo hst' hX hN hm (by rw [ren_int (by omega)]; simp only [mL_new, mI_new]) hP1 hD1 hS1 E
      · have hle := (hk _ _ _ _ E).1
        have l1 : (mA h).1 + 1 ≤ (mA r.1).1 := hle.1
        have l2 : (mA h).2 + x.toNatClampNeg ≤ (mA r.1).2 := hle.2.1
        refine va_newa (D := D) (atype := .long) (ty := .long) (a0 := (x.toNatClampNeg, .inr (.inl fun _ => 0))) hx hb (hts _ hW15) rfl hAm.1 hP hD hS hA (fun cA => rfl) hx0 rfl (Nat.le_trans (Nat.mul_le_mul_right _ (Nat.le_of_lt hx1)) (by decide)) (by rw [hRc]; omega) (by rw [hRs]; omega) hd (fun q cA H1 hK1 hP1 hD1 hS1 => ?_)
        have hcA : cA = cy 15 := va_RA_eq (hK1.2 6 _ rfl).2 (hAm.1.2 2 _ rfl).2
        subst hcA
        exact qnew_go C hk (by omega) hcl hlo hst' hX hN hm (by rw [ren_long]; simp only [mL_new, mJ_new]) hP1 hD1 hS1 E
      · have hle := (hk _ _ _ _ E).1
        have l1 : (mA h).1 + 1 ≤ (mA r.1).1 := hle.1
        have l2 : (mA h).2 + x.toNatClampNeg ≤ (mA r.1).2 := hle.2.1
        refine va_newa (D := D) (atype := .boolean) (ty := .boolean) (a0 := (x.toNatClampNeg, .inl fun _ => 0)) hx hb (hts _ hW16) rfl hAm.1 hP hD hS hA (fun cA => rfl) hx0 rfl (Nat.le_trans (Nat.mul_le_mul_right _ (Nat.le_of_lt hx1)) (by decide)) (by rw [hRc]; omega) (by rw [hRs]; omega) hd (fun q cA H1 hK1 hP1 hD1 hS1 => ?_)
        have hcA : cA = cy 16 := va_RA_eq (hK1.2 6 _ rfl).2 (hAm.1.2 3 _ rfl).2
        subst hcA
        exact qnew_go C hk (by omega) hcl hlo hst' hX hN hm (by rw [ren_int (by omega)]; simp only [mL_new, mI_new]) hP1 hD1 hS1 E
      · cases E
  · cases E

theorem qs_anewarray (C : qCx p s m args meth c cc nL ow ini D cy A R h0 ρ0 r) (hk : ∀ a b c' d, k a b c' d = some r → mle d r.1 ∧ qGo p l e R s m args below meth c nL D cy A Q h0 ρ0 a b c' d) (hL : qLok ow lk) {n : Nat}  (hd : decode cc pc = .ok (.anewarray n, 3)) (E : qx cal lk rt (.anewarray n) 3 pc ls st h k = some r) : qGo p l e R s m args below meth c nL D cy A Q h0 ρ0 pc ls st h := by
  obtain ⟨hx, hb, hml, hown, hts, hlk, hini, hAm, hSt, hA, hR, hRc, hRs⟩ := C
  intro ρ H locs lsA hcl hlo hst hR0 hS hX
  dsimp only [qx] at E
  have C : qCx p s m args meth c cc nL ow ini D cy A R h0 ρ0 r := ⟨hx, hb, hml, hown, hts, hlk, hini, hAm, hSt, hA, hR, hRc, hRs⟩
  split at E
  · rename_i x st
    have hst' : ∀ w ∈ st, qOk h w := fun w hw => hst w (List.mem_cons_of_mem _ hw)
    split at E
    · rename_i kc ns hq0
      obtain ⟨h13, hns, hlink⟩ := qlk_all (P := fun i x => x.1 < 13 ∧ x.2 = qnf x.1 ∧ Cond.classLink ow i (qRC x.1) ∈ lw_good) hL.2.2.2 hq0
      dsimp only at h13 hns hlink
      cases hq : qin x 65536 with
      | false => rw [hq, cond_false] at E; cases E
      | true =>
      rw [hq, cond_true] at E
      have hin := qin_of hq
      have hx0 : ¬ x < 0 := fun hc => hin (Or.inl hc)
      have hx1 : x.toNatClampNeg < 65536 := Nat.lt_of_not_le (fun hc => hin (Or.inr hc))
      have g1 := hX.1.1
      have g2 := hX.1.2.1
      obtain ⟨N, hN, hm, hP, hD⟩ := hR0
      split at E
      · have hle := (hk _ _ _ _ E).1
        have l1 : (mA h).1 + 1 ≤ (mA r.1).1 := hle.1
        have l2 : (mA h).2 + x.toNatClampNeg ≤ (mA r.1).2 := hle.2.1
        refine va_newq (D := D) (C := RX4) hx hb hown (hts _ hlink) hAm.2.2.1.1 hAm.1 hP hD hS hA hx0 rfl (Nat.le_trans (Nat.mul_le_mul_right _ (Nat.le_of_lt hx1)) (by decide)) (by rw [hRc]; omega) (by rw [hRs]; omega) hd (fun q cA H1 hK1 hP1 hD1 hS1 => ?_)
        have hcA : cA = cy 17 := va_RA_eq (hK1.2 6 _ rfl).2 (hAm.1.2 4 _ rfl).2
        subst hcA
        exact qnew_go C hk (by omega) hcl hlo hst' hX hN hm (by rw [ren_17]; simp only [mL_new, mP_new]; rfl) hP1 hD1 hS1 E
      · have hle := (hk _ _ _ _ E).1
        have l1 : (mA h).1 + 1 ≤ (mA r.1).1 := hle.1
        have l2 : (mA h).2 + x.toNatClampNeg ≤ (mA r.1).2 := hle.2.1
        refine va_newq (D := D) (C := RX6) hx hb hown (hts _ hlink) hAm.2.2.1.2 hAm.1 hP hD hS hA hx0 rfl (Nat.le_trans (Nat.mul_le_mul_right _ (Nat.le_of_lt hx1)) (by decide)) (by rw [hRc]; omega) (by rw [hRs]; omega) hd (fun q cA H1 hK1 hP1 hD1 hS1 => ?_)
        have hcA : cA = cy 18 := va_RA_eq (hK1.2 6 _ rfl).2 (hAm.1.2 5 _ rfl).2
        subst hcA
        exact qnew_go C hk (by omega) hcl hlo hst' hX hN hm (by rw [ren_18]; simp only [mL_new, mP_new]; rfl) hP1 hD1 hS1 E
      · cases E
    · cases E
  · cases E

theorem qs_checkcast (C : qCx p s m args meth c cc nL ow ini D cy A R h0 ρ0 r) (hk : ∀ a b c' d, k a b c' d = some r → mle d r.1 ∧ qGo p l e R s m args below meth c nL D cy A Q h0 ρ0 a b c' d) {n : Nat} (hW : Cond.classLink ow n "[I" ∈ lw_good)  (hd : decode cc pc = .ok (.checkcast n, 3)) (E : qx cal lk rt (.checkcast n) 3 pc ls st h k = some r) : qGo p l e R s m args below meth c nL D cy A Q h0 ρ0 pc ls st h := by
  obtain ⟨hx, hb, hml, hown, hts, hlk, hini, hAm, hSt, hA, hR, hRc, hRs⟩ := C
  intro ρ H locs lsA hcl hlo hst hR0 hS hX
  dsimp only [qx] at E
  split at E
  · rename_i j st
    have hj := qOk_ref (by omega) (hst _ List.mem_cons_self)
    obtain ⟨N, q0, hp, hN, hm, hP, hD⟩ := hR0.at (by omega) hj
    have he := wl_at (cy := cy) (ρ := ρ) (h := h) hp
    rw [ren_int (by omega)] at he
    refine va_castA (D := D) hx hb hown (hts _ hW) hP q0 he (va_nm_int (hAm.1.2 1 _ rfl).2) hd ?_
    exact (hk _ _ _ _ E).2 ρ H locs lsA hcl hlo hst hR0 hS hX
  · cases E

theorem qs_ldc (C : qCx p s m args meth c cc nL ow ini D cy A R h0 ρ0 r) (hk : ∀ a b c' d, k a b c' d = some r → mle d r.1 ∧ qGo p l e R s m args below meth c nL D cy A Q h0 ρ0 a b c' d) (hL : qLok ow lk) {n : Nat}  (hd : decode cc pc = .ok (.ldc n, 2)) (E : qx cal lk rt (.ldc n) 2 pc ls st h k = some r) : qGo p l e R s m args below meth c nL D cy A Q h0 ρ0 pc ls st h := by
  obtain ⟨hx, hb, hml, hown, hts, hlk, hini, hAm, hSt, hA, hR, hRc, hRs⟩ := C
  intro ρ H locs lsA hcl hlo hst hR0 hS hX
  dsimp only [qx] at E
  split at E
  · rename_i x hq
    have h1 := qlk_all (P := fun i x => (∀ z, x = .inl z → Cond.constant ow i z ∈ lw_good) ∧ (∀ d, x = .inr d → d < 16 ∧ ∃ tx, (ow, i, tx, d) ∈ qstr)) hL.2.2.1 hq
    refine lv_ldc hx hb hown (hts _ (h1.1 _ rfl)) hd ?_
    exact (hk _ _ _ _ E).2 ρ H locs lsA hcl hlo (List.forall_mem_cons.mpr ⟨trivial, hst⟩) hR0 hS hX
  · rename_i id hq
    have h1 := qlk_all (P := fun i x => (∀ z, x = .inl z → Cond.constant ow i z ∈ lw_good) ∧ (∀ d, x = .inr d → d < 16 ∧ ∃ tx, (ow, i, tx, d) ∈ qstr)) hL.2.2.1 hq
    obtain ⟨h16, tx, htx⟩ := h1.2 _ rfl
    have h2 := hAm.2.2.2.2 _ htx
    dsimp only at h2
    rw [← hX.2.2] at h2
    refine va_ldcS hx hb hown h2 hd ?_
    exact (hk _ _ _ _ E).2 ρ H locs lsA hcl hlo (List.forall_mem_cons.mpr ⟨Or.inr ⟨rfl, h16⟩, hst⟩) hR0 hS hX
  · cases E

theorem q_ldcwS (hexec : p.tables.exec = Jvm.exec) (hb : c.code = cc) {own tx : String} {index q : Nat} {H : Heap} {locs : List Loc} {cells slots : Nat} {lsA : Array Slot} {rest : List Value} (hown : s.vm.findClass own = some m.cls) (hZ : vk_R own index tx q s) (hdg : decode cc pc = .ok (.ldc_w index, 3))
    (kk : W p l e R s m args below meth c H locs cells slots Q (F0 m (pc + 3) lsA (.ref q :: rest))) : W p l e R s m args below meth c H locs cells slots Q (F0 m pc lsA rest) := by
  intro T hT X
  obtain ⟨t, a1, b1⟩ := kk T hT X
  refine ⟨t, ?_, b1⟩
  obtain ⟨hconst, hev⟩ := hZ
  obtain ⟨k1, cf, i, a', hk, hcf, hcp, -, hr, hev'⟩ := Cond.stringRef_spec hown hconst
  cases hev.symm.trans hev'
  obtain ⟨k', hk', he⟩ := X.warmed.alike.2.2 _ _ hk
  have hr' : k'.resolved[index]? = some (some (.string q)) := by
    rcases X.warmed.entry hk hk' index with h | ⟨h, -⟩
    · rw [h]; exact hr
    · rw [hr] at h; cases h
  subst hb
  jvm_step X.here [hexec, hdg, ldc_w.wp_string (e := e) (s := T) (f := F0 m pc lsA rest) X.here.top hk' (by rw [he]; exact hcf) hcp hr']
  exact a1

theorem qs_ldc_w (C : qCx p s m args meth c cc nL ow ini D cy A R h0 ρ0 r) (hk : ∀ a b c' d, k a b c' d = some r → mle d r.1 ∧ qGo p l e R s m args below meth c nL D cy A Q h0 ρ0 a b c' d) (hL : qLok ow lk) {n : Nat}  (hd : decode cc pc = .ok (.ldc_w n, 3)) (E : qx cal lk rt (.ldc_w n) 3 pc ls st h k = some r) : qGo p l e R s m args below meth c nL D cy A Q h0 ρ0 pc ls st h := by
  obtain ⟨hx, hb, hml, hown, hts, hlk, hini, hAm, hSt, hA, hR, hRc, hRs⟩ := C
  intro ρ H locs lsA hcl hlo hst hR0 hS hX
  dsimp only [qx] at E
  split at E
  · rename_i x hq
    have h1 := qlk_all (P := fun i x => (∀ z, x = .inl z → Cond.constant ow i z ∈ lw_good) ∧ (∀ d, x = .inr d → d < 16 ∧ ∃ tx, (ow, i, tx, d) ∈ qstr)) hL.2.2.1 hq
    refine lv_ldcw hx hb hown (hts _ (h1.1 _ rfl)) hd ?_
    exact (hk _ _ _ _ E).2 ρ H locs lsA hcl hlo (List.forall_mem_cons.mpr ⟨trivial, hst⟩) hR0 hS hX
  · rename_i id hq
    have h1 := qlk_all (P := fun i x => (∀ z, x = .inl z → Cond.constant ow i z ∈ lw_good) ∧ (∀ d, x = .inr d → d < 16 ∧ ∃ tx, (ow, i, tx, d) ∈ qstr)) hL.2.2.1 hq
    obtain ⟨h16, tx, htx⟩ := h1.2 _ rfl
    have h2 := hAm.2.2.2.2 _ htx
    dsimp only at h2
    rw [← hX.2.2] at h2
    refine q_ldcwS hx hb hown h2 hd ?_
    exact (hk _ _ _ _ E).2 ρ H locs lsA hcl hlo (List.forall_mem_cons.mpr ⟨Or.inr ⟨rfl, h16⟩, hst⟩) hR0 hS hX
  · cases E

theorem qs_ldc2_w (C : qCx p s m args meth c cc nL ow ini D cy A R h0 ρ0 r) (hk : ∀ a b c' d, k a b c' d = some r → mle d r.1 ∧ qGo p l e R s m args below meth c nL D cy A Q h0 ρ0 a b c' d) (hL : qLok ow lk) {n : Nat}  (hd : decode cc pc = .ok (.ldc2_w n, 3)) (E : qx cal lk rt (.ldc2_w n) 3 pc ls st h k = some r) : qGo p l e R s m args below meth c nL D cy A Q h0 ρ0 pc ls st h := by
  obtain ⟨hx, hb, hml, hown, hts, hlk, hini, hAm, hSt, hA, hR, hRc, hRs⟩ := C
  intro ρ H locs lsA hcl hlo hst hR0 hS hX
  dsimp only [qx] at E
  split at E
  · rename_i x hq
    have h1 := qlk_all (P := fun i x => Cond.constantLong ow i x ∈ lw_good) hL.2.1 hq
    refine lv_ldc2 hx hb hown (hts _ h1) hd ?_
    exact (hk _ _ _ _ E).2 ρ H locs lsA hcl hlo (List.forall_mem_cons.mpr ⟨trivial, hst⟩) hR0 hS hX
  · cases E
end QS
