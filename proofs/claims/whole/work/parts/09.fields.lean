/-! FIELDS, ARRAYS, OBJECTS, CONSTANTS, SWITCHES, ENDS -/
theorem qft_lt : ∀ k, k < 13 → ∀ s, s < qnf k → qft k s < 22 := by decide +kernel
theorem qft_ty : ∀ k, k < 13 → ∀ s, s < qnf k → match qft k s with
    | 0 => qty k s = .int
    | 1 => qty k s = .long
    | 2 => qty k s = .boolean
    | _ + 3 => (∃ n, qty k s = .object n) ∨ ∃ t, qty k s = .array t := by
  have h : ∀ k, k < 13 → ∀ s, s < qnf k → (match qft k s, qty k s with
    | 0, .int => true
    | 1, .long => true
    | 2, .boolean => true
    | _ + 3, .object _ => true
    | _ + 3, .array _ => true
    | _, _ => false) = true := by decide +kernel
  intro k hk s hs
  have h1 := h k hk s hs
  revert h1
  cases qft k s with
  | zero => cases qty k s <;> simp
  | succ n =>
    cases n with
    | zero => cases qty k s <;> simp
    | succ n =>
      cases n with
      | zero => cases qty k s <;> simp
      | succ t => cases qty k s <;> simp
theorem qbit {x : Int32} (h : x &&& 1 = x) : fits .boolean (.int x) = true := by
  obtain ⟨j, hj, e⟩ := pk_andE x (m := 1) 1 (by decide)
  rw [h] at e
  subst e
  rcases (show j = 0 ∨ j = 1 by omega) with rfl | rfl <;> decide
theorem rfs_set {ρ : Nat → Nat → Nat} {h h' : qM} {k j s : Nat} {v : Value} (hs : s < qnf k) (hv : v = rfv ρ h' k j s (qft k s)) (ho : ∀ s', s' ≠ s → mI h' k j s' = mI h k j s' ∧ mJ h' k j s' = mJ h k j s' ∧ mP h' k j s' = mP h k j s') : (rfs ρ h k j).set s v = rfs ρ h' k j := by
  unfold rfs
  apply List.ext_getElem?
  intro i
  rw [List.getElem?_set, List.getElem?_map, List.getElem?_map, List.length_map, List.length_range]
  by_cases hi : s = i
  · subst hi
    rw [if_pos rfl, if_pos hs, List.getElem?_range hs, hv]
    rfl
  · rw [if_neg hi]
    obtain ⟨h1, h2, h3⟩ := ho i (fun hc => hi hc.symm)
    by_cases hl : i < qnf k
    · rw [List.getElem?_range hl]
      simp only [Option.map_some]
      congr 1
      cases qft k i with
      | zero => simp only [rfv, h1]
      | succ n =>
        cases n with
        | zero => simp only [rfv, h2]
        | succ n =>
          cases n with
          | zero => simp only [rfv, h1]
          | succ t => simp only [rfv, h3]
    · rw [List.getElem?_eq_none (by rw [List.length_range]; omega)]
      rfl
theorem u3_ne {α : Type} {f : Nat → Nat → Nat → α} {k j s : Nat} {v : α} {k' j' : Nat} (hne : (k', j') ≠ (k, j)) : u3 f k j s v k' j' = f k' j' := by
  funext s'
  unfold u3
  rw [if_neg (fun hc => hne (by rw [hc.1, hc.2.1]))]
theorem u2_ne {α : Type} {f : Nat → Nat → Nat → α} {k j : Nat} {g : Nat → α} {k' j' : Nat} (hne : (k', j') ≠ (k, j)) : u2 f k j g k' j' = f k' j' := by
  funext s'
  unfold u2
  rw [if_neg (fun hc => hne (by rw [hc.1, hc.2]))]
theorem u3_row {α : Type} (f : Nat → Nat → Nat → α) (k j s : Nat) (v : α) : u3 f k j s v k j = fun s' => if s' = s then v else f k j s' := by
  funext s'
  simp [u3]
theorem qRep.sI {D : va_G} {cy : Nat → ClassId} {ρ : Nat → Nat → Nat} {h : qM} {A : Nat → Prop} {H1 : Heap} {N : List (Nat × Nat)} {q0 k j s : Nat} {x : Int32} {en : va_E} (hN : N.Nodup) (hp : N[q0]? = some (k, j)) (hm : ∀ k j, (k, j) ∈ N ↔ k < 19 ∧ j < mC h k)
    (he : en = ren cy ρ (sI h k j s x) k j) (hP : va_P D vwCl ((wl cy ρ h N).set q0 (ρ k j, en)) H1) (hD : va_D A ((wl cy ρ h N).set q0 (ρ k j, en))) : qRep D cy ρ (sI h k j s x) A H1 :=
  qRep.put hN hp hm he (fun _ => rfl) (fun _ _ hne => ⟨rfl, u3_ne hne, rfl, rfl⟩) hP hD
theorem qRep.sJ {D : va_G} {cy : Nat → ClassId} {ρ : Nat → Nat → Nat} {h : qM} {A : Nat → Prop} {H1 : Heap} {N : List (Nat × Nat)} {q0 k j s : Nat} {x : Int64} {en : va_E} (hN : N.Nodup) (hp : N[q0]? = some (k, j)) (hm : ∀ k j, (k, j) ∈ N ↔ k < 19 ∧ j < mC h k)
    (he : en = ren cy ρ (sJ h k j s x) k j) (hP : va_P D vwCl ((wl cy ρ h N).set q0 (ρ k j, en)) H1) (hD : va_D A ((wl cy ρ h N).set q0 (ρ k j, en))) : qRep D cy ρ (sJ h k j s x) A H1 :=
  qRep.put hN hp hm he (fun _ => rfl) (fun _ _ hne => ⟨rfl, rfl, u3_ne hne, rfl⟩) hP hD
theorem qRep.sP {D : va_G} {cy : Nat → ClassId} {ρ : Nat → Nat → Nat} {h : qM} {A : Nat → Prop} {H1 : Heap} {N : List (Nat × Nat)} {q0 k j s : Nat} {x : Option Nat} {en : va_E} (hN : N.Nodup) (hp : N[q0]? = some (k, j)) (hm : ∀ k j, (k, j) ∈ N ↔ k < 19 ∧ j < mC h k)
    (he : en = ren cy ρ (sP h k j s x) k j) (hP : va_P D vwCl ((wl cy ρ h N).set q0 (ρ k j, en)) H1) (hD : va_D A ((wl cy ρ h N).set q0 (ρ k j, en))) : qRep D cy ρ (sP h k j s x) A H1 :=
  qRep.put hN hp hm he (fun _ => rfl) (fun _ _ hne => ⟨rfl, rfl, rfl, u3_ne hne⟩) hP hD
theorem qRep.sW {D : va_G} {cy : Nat → ClassId} {ρ : Nat → Nat → Nat} {h : qM} {A : Nat → Prop} {H1 : Heap} {N : List (Nat × Nat)} {q0 k j : Nat} {x : Nat → Int32} {en : va_E} (hN : N.Nodup) (hp : N[q0]? = some (k, j)) (hm : ∀ k j, (k, j) ∈ N ↔ k < 19 ∧ j < mC h k)
    (he : en = ren cy ρ (sW h k j x) k j) (hP : va_P D vwCl ((wl cy ρ h N).set q0 (ρ k j, en)) H1) (hD : va_D A ((wl cy ρ h N).set q0 (ρ k j, en))) : qRep D cy ρ (sW h k j x) A H1 :=
  qRep.put hN hp hm he (fun _ => rfl) (fun _ _ hne => ⟨rfl, u2_ne hne, rfl, rfl⟩) hP hD
theorem qin_of {x : Int32} {n : Nat} (h : qin x n = true) : vp_in x n := by
  unfold qin at h
  rw [Bool.and_eq_true, Bool.not_eq_true', decide_eq_false_iff_not] at h
  intro hc
  rcases hc with hc | hc
  · exact h.1 hc
  · have := Nat.le_of_ble_eq_true h.2
    omega
theorem ren_int {cy : Nat → ClassId} {ρ : Nat → Nat → Nat} {h : qM} {k j : Nat} (hk : k = 13 ∨ k = 14 ∨ k = 16) : ren cy ρ h k j = .inl (cy k, mL h k j, .inl (mI h k j)) := by
  unfold ren
  rcases hk with rfl | rfl | rfl <;> simp
theorem ren_long {cy : Nat → ClassId} {ρ : Nat → Nat → Nat} {h : qM} {j : Nat} : ren cy ρ h 15 j = .inl (cy 15, mL h 15 j, .inr (.inl (mJ h 15 j))) := by simp [ren]
theorem ren_17 {cy : Nat → ClassId} {ρ : Nat → Nat → Nat} {h : qM} {j : Nat} : ren cy ρ h 17 j = .inl (cy 17, mL h 17 j, .inr (.inr (.inr (.inr (fun i => (mP h 17 j i).map (ρ 4)))))) := by simp [ren]
theorem ren_18 {cy : Nat → ClassId} {ρ : Nat → Nat → Nat} {h : qM} {j : Nat} : ren cy ρ h 18 j = .inl (cy 18, mL h 18 j, .inr (.inr (.inr (.inr (fun i => (mP h 18 j i).map (ρ 6)))))) := by simp [ren]
theorem ren_cls {cy : Nat → ClassId} {ρ : Nat → Nat → Nat} {h : qM} {k j : Nat} (hk : k < 13) : ren cy ρ h k j = .inr (k, rfs ρ h k j) := by rw [ren, if_pos hk]
theorem ren_len {cy : Nat → ClassId} {ρ : Nat → Nat → Nat} {h : qM} {k j : Nat} (h1 : 13 ≤ k) (h2 : k ≤ 18) : ∃ x, ren cy ρ h k j = .inl (cy k, mL h k j, x) := by
  rcases (show k = 13 ∨ k = 14 ∨ k = 15 ∨ k = 16 ∨ k = 17 ∨ k = 18 by omega) with rfl | rfl | rfl | rfl | rfl | rfl
  · exact ⟨_, ren_int (by omega)⟩
  · exact ⟨_, ren_int (by omega)⟩
  · exact ⟨_, ren_long⟩
  · exact ⟨_, ren_int (by omega)⟩
  · exact ⟨_, ren_17⟩
  · exact ⟨_, ren_18⟩
theorem qtk_cls {k s t : Nat} (hk : k < 13) (hf : qft k s = t + 3) : qtk k s = some t := by
  unfold qtk
  rw [if_neg (by omega), if_neg (by omega), hf]
theorem qX.upd {h0 h h' : qM} {ρ0 ρ : Nat → Nat → Nat} (hX : qX h0 ρ0 h ρ) (hh : mle h h') : qX h0 ρ0 h' ρ := ⟨hX.1.tr hh, hX.2⟩
section QS
variable {p : Program} {l : Launch} {e : Env} {R : Room} {s : State} {m : MethodId} {args : Array Value} {below : List Frame} {meth : Method} {c : Code} {cc : ByteArray} {nL : Nat} {ow : String} {ini : Bool} {D : va_G} {cy : Nat → ClassId} {A : Nat → Prop} {Q : State → Prop} {h0 : qM} {ρ0 : Nat → Nat → Nat} {r : qO} {cal : Nat → List qV → qM → Option qO} {lk : qL} {rt : Nat} {k : qK} {pc : Nat} {ls : List (Option qV)} {st : List qV} {h : qM}
theorem qs_getfield (C : qCx p s m args meth c cc nL ow ini D cy A R h0 ρ0 r) (hk : ∀ a b c' d, k a b c' d = some r → mle d r.1 ∧ qGo p l e R s m args below meth c nL D cy A Q h0 ρ0 a b c' d) (hL : qLok ow lk) {n : Nat}  (hd : decode cc pc = .ok (.getfield n, 3)) (E : qx cal lk rt (.getfield n) 3 pc ls st h k = some r) : qGo p l e R s m args below meth c nL D cy A Q h0 ρ0 pc ls st h := by
  obtain ⟨hx, hb, hml, hown, hts, hlk, hini, hAm, hSt, hA, hR, hRc, hRs⟩ := C
  intro ρ H locs lsA hcl hlo hst hR0 hS hX
  dsimp only [qx] at E
  split at E
  · rename_i k0 o st
    split at E
    · rename_i kc sl f hq
      obtain ⟨h13, hsn, hft, hlink⟩ := qlk_all (P := fun i x => x.1 < 13 ∧ x.2.1 < qnf x.1 ∧ x.2.2 = qft x.1 x.2.1 ∧ Cond.fieldLink ow i (qTT x.1 x.2.1).1 (qTT x.1 x.2.1).2.1 (qTT x.1 x.2.1).2.2.1 ∈ lw_good) hL.1 hq
      dsimp only at h13 hsn hft hlink
      cases hbq : Nat.beq k0 kc with
      | false => rw [hbq, cond_false] at E; cases E
      | true =>
        have hkk : k0 = kc := Nat.eq_of_beq_eq_true hbq
        subst hkk
        rw [hbq, cond_true] at E
        cases o with
        | none => cases E
        | some j =>
          have hj := qOk_ref (by omega : k0 < 19) (hst _ List.mem_cons_self)
          obtain ⟨N, q0, hp, hN, hm, hP, hD⟩ := hR0.at (by omega) hj
          have he := wl_at (cy := cy) (ρ := ρ) (h := h) hp
          rw [ren_cls h13] at he
          refine va_get (D := D) hx hb hts (qTT_in k0 h13) hown hAm.1 hP q0 he (qTT_cl k0 h13) sl hsn (hts _ hlink) (fun _ h9 => h9) (rfs_at hsn) hd ?_
          subst hft
          dsimp only [Option.bind_some] at E
          have hlt := qft_lt k0 h13 sl hsn
          rcases h4 : qft k0 sl with _ | _ | _ | t
          · rw [h4] at E
            exact (hk _ _ _ _ E).2 ρ H locs lsA hcl hlo (List.forall_mem_cons.mpr ⟨trivial, fun w hw => hst w (List.mem_cons_of_mem _ hw)⟩) hR0 hS hX
          · rw [h4] at E
            exact (hk _ _ _ _ E).2 ρ H locs lsA hcl hlo (List.forall_mem_cons.mpr ⟨trivial, fun w hw => hst w (List.mem_cons_of_mem _ hw)⟩) hR0 hS hX
          · rw [h4] at E
            exact (hk _ _ _ _ E).2 ρ H locs lsA hcl hlo (List.forall_mem_cons.mpr ⟨trivial, fun w hw => hst w (List.mem_cons_of_mem _ hw)⟩) hR0 hS hX
          · rw [h4] at E
            exact (hk _ _ _ _ E).2 ρ H locs lsA hcl hlo (List.forall_mem_cons.mpr ⟨qOk_cl hcl (by omega) hj (qtk_cls h13 h4) (by omega), fun w hw => hst w (List.mem_cons_of_mem _ hw)⟩) hR0 hS hX
    · cases E
  · cases E

theorem qput_row (C : qCx p s m args meth c cc nL ow ini D cy A R h0 ρ0 r) {n kc sl j : Nat} {v : Value} {ρ : Nat → Nat → Nat} {h1 : qM} {H : Heap} {locs : List Loc} {lsA : Array Slot} {rest : List Value} {cells slots : Nat} (h13 : kc < 13) (hsn : sl < qnf kc) (hlink : Cond.fieldLink ow n (qTT kc sl).1 (qTT kc sl).2.1 (qTT kc sl).2.2.1 ∈ lw_good)
    (hF : (qTT kc sl).2.2.2 = false ∨ (ini = true ∧ (qTT kc sl).1 = ow)) (hd : decode cc pc = .ok (.putfield n, 3)) (hj : j < mC h kc) (hR0 : qRep D cy ρ h A H) (hS : va_S A s.heap H locs)
    (hn : narrow (qty kc sl) v = v) (hfit : fits (qty kc sl) v = true) (hv : v = rfv ρ h1 kc j sl (qft kc sl)) (hC : ∀ k, mC h1 k = mC h k)
    (ho : ∀ k' j', (k', j') ≠ (kc, j) → mL h1 k' j' = mL h k' j' ∧ mI h1 k' j' = mI h k' j' ∧ mJ h1 k' j' = mJ h k' j' ∧ mP h1 k' j' = mP h k' j') (ho2 : ∀ s', s' ≠ sl → mI h1 kc j s' = mI h kc j s' ∧ mJ h1 kc j s' = mJ h kc j s' ∧ mP h1 kc j s' = mP h kc j s')
    (kk : ∀ (H1 : Heap) (locs1 : List Loc), qRep D cy ρ h1 A H1 → va_S A s.heap H1 locs1 → W p l e R s m args below meth c H1 locs1 cells slots Q (F0 m (pc + 3) lsA rest)) :
    W p l e R s m args below meth c H locs cells slots Q (F0 m pc lsA (v :: .ref (ρ kc j) :: rest)) := by
  obtain ⟨hx, hb, hml, hown, hts, hlk, hini, hAm, hSt, hA, hR, hRc, hRs⟩ := C
  obtain ⟨N, q0, hp, hN, hm, hP, hD⟩ := hR0.at (by omega) hj
  have he := wl_at (cy := cy) (ρ := ρ) (h := h) hp
  rw [ren_cls h13] at he
  have hlen : sl < (rfs ρ h kc j).length := by unfold rfs; rw [List.length_map, List.length_range]; exact hsn
  have hen : (.inr (kc, (rfs ρ h kc j).set sl v) : va_E) = ren cy ρ h1 kc j := by rw [ren_cls h13, rfs_set hsn hv ho2]
  rcases hF with hF | ⟨hF1, hF2⟩
  · exact va_put (D := D) hx hb hts (qTT_in kc h13) (qty kc) (fun s hs => qty_ok kc h13 s hs) (fun a ha b hb hab => qnm_ok kc h13 a ha b hb hab) hown hAm.1 hP hD hS q0 he (qTT_cl kc h13) sl hsn (hts _ hlink) (fun _ h9 => h9) hF (qty_ok kc h13 sl hsn) hn hfit hlen hd
      (fun H1 locs1 hP1 hD1 hS1 => kk H1 locs1 (qRep.put hN hp hm hen hC ho hP1 hD1) hS1)
  · by_cases hF3 : (qTT kc sl).2.2.2 = false
    · exact va_put (D := D) hx hb hts (qTT_in kc h13) (qty kc) (fun s hs => qty_ok kc h13 s hs) (fun a ha b hb hab => qnm_ok kc h13 a ha b hb hab) hown hAm.1 hP hD hS q0 he (qTT_cl kc h13) sl hsn (hts _ hlink) (fun _ h9 => h9) hF3 (qty_ok kc h13 sl hsn) hn hfit hlen hd
        (fun H1 locs1 hP1 hD1 hS1 => kk H1 locs1 (qRep.put hN hp hm hen hC ho hP1 hD1) hS1)
    · exact va_putF (D := D) hx hb hts (qTT_in kc h13) (qty kc) (fun s hs => qty_ok kc h13 s hs) (fun a ha b hb hab => qnm_ok kc h13 a ha b hb hab) hown hAm.1 hP hD hS q0 he (qTT_cl kc h13) sl hsn (hts _ hlink) (fun _ h9 => h9) (by simpa using hF3) (hini hF1) hF2 (qty_ok kc h13 sl hsn) hn hfit hlen hd
        (fun H1 locs1 hP1 hD1 hS1 => kk H1 locs1 (qRep.put hN hp hm hen hC ho hP1 hD1) hS1)

theorem qs_putfield (C : qCx p s m args meth c cc nL ow ini D cy A R h0 ρ0 r) (hk : ∀ a b c' d, k a b c' d = some r → mle d r.1 ∧ qGo p l e R s m args below meth c nL D cy A Q h0 ρ0 a b c' d) (hL : qLok ow lk) {n : Nat} (hF : ∀ k s f, qlk lk.1 n = some (k, s, f) → (qTT k s).2.2.2 = false ∨ (ini = true ∧ (qTT k s).1 = ow))  (hd : decode cc pc = .ok (.putfield n, 3)) (E : qx cal lk rt (.putfield n) 3 pc ls st h k = some r) : qGo p l e R s m args below meth c nL D cy A Q h0 ρ0 pc ls st h := by
  obtain ⟨hx, hb, hml, hown, hts, hlk, hini, hAm, hSt, hA, hR, hRc, hRs⟩ := C
  intro ρ H locs lsA hcl hlo hst hR0 hS hX
  dsimp only [qx] at E
  have C : qCx p s m args meth c cc nL ow ini D cy A R h0 ρ0 r := ⟨hx, hb, hml, hown, hts, hlk, hini, hAm, hSt, hA, hR, hRc, hRs⟩
  split at E
  · rename_i v k0 o st
    split at E
    · rename_i kc sl f hq
      obtain ⟨h13, hsn, hft, hlink⟩ := qlk_all (P := fun i x => x.1 < 13 ∧ x.2.1 < qnf x.1 ∧ x.2.2 = qft x.1 x.2.1 ∧ Cond.fieldLink ow i (qTT x.1 x.2.1).1 (qTT x.1 x.2.1).2.1 (qTT x.1 x.2.1).2.2.1 ∈ lw_good) hL.1 hq
      dsimp only at h13 hsn hft hlink
      have hF := hF _ _ _ hq
      cases hbq : Nat.beq k0 kc with
      | false => rw [hbq, cond_false] at E; cases E
      | true =>
        have hkk : k0 = kc := Nat.eq_of_beq_eq_true hbq
        subst hkk
        rw [hbq, cond_true] at E
        cases o with
        | none => cases E
        | some j =>
          have hj := qOk_ref (by omega : k0 < 19) (hst _ (List.mem_cons_of_mem _ List.mem_cons_self))
          have hgo : ∀ w ∈ st, qOk h w := fun w hw => hst w (List.mem_cons_of_mem _ (List.mem_cons_of_mem _ hw))
          subst hft
          dsimp only [Option.bind_some] at E
          have hlt := qft_lt k0 h13 sl hsn
          have hty := qft_ty k0 h13 sl hsn
          have hself : ∀ {α : Type} {f : Nat → Nat → Nat → α} {x : α} {s' : Nat}, s' ≠ sl → u3 f k0 j sl x k0 j s' = f k0 j s' := fun hs' => by unfold u3; rw [if_neg (fun hc => hs' hc.2.2)]
          have hhit : ∀ {α : Type} {f : Nat → Nat → Nat → α} {x : α}, u3 f k0 j sl x k0 j sl = x := by intro α f x; unfold u3; rw [if_pos ⟨rfl, rfl, rfl⟩]
          rcases h4 : qft k0 sl with _ | _ | _ | t <;> rw [h4] at E hty <;> dsimp only at hty <;> rcases v with x | x | ⟨kv, ov⟩ <;> dsimp only at E <;> first | (cases E; done) | skip
          · · refine qput_row C h13 hsn hlink hF hd hj hR0 hS (h1 := sI h k0 j sl x) (by rw [hty]; rfl) (by rw [hty]; rfl) (by rw [h4]; show Value.int x = .int (u3 h.2.2.2.1 k0 j sl x k0 j sl); rw [hhit]) (fun _ => rfl) (fun _ _ hne => ⟨rfl, u3_ne hne, rfl, rfl⟩) (fun s' hs' => ⟨hself hs', rfl, rfl⟩) (fun H1 locs1 hR1 hS1 => ?_)
              exact (hk _ _ _ _ E).2 ρ H1 locs1 lsA (hcl.sI _ _ _ _) (hlo.le (mle.rf h)) (fun w hw => (hgo w hw).le (mle.rf h)) hR1 hS1 (hX.upd (mle.rf h))
          · · refine qput_row C h13 hsn hlink hF hd hj hR0 hS (h1 := sJ h k0 j sl x) (by rw [hty]; rfl) (by rw [hty]; rfl) (by rw [h4]; show Value.long x = .long (u3 h.2.2.2.2.1 k0 j sl x k0 j sl); rw [hhit]) (fun _ => rfl) (fun _ _ hne => ⟨rfl, rfl, u3_ne hne, rfl⟩) (fun s' hs' => ⟨rfl, hself hs', rfl⟩) (fun H1 locs1 hR1 hS1 => ?_)
              exact (hk _ _ _ _ E).2 ρ H1 locs1 lsA (hcl.sJ _ _ _ _) (hlo.le (mle.rf h)) (fun w hw => (hgo w hw).le (mle.rf h)) hR1 hS1 (hX.upd (mle.rf h))
          · · by_cases hb1 : x &&& 1 = x
              · rw [decide_eq_true hb1, cond_true] at E
                refine qput_row C h13 hsn hlink hF hd hj hR0 hS (h1 := sI h k0 j sl x) (by rw [hty]; show Value.int (x &&& 1) = Value.int x; rw [hb1]) (by rw [hty]; exact qbit hb1) (by rw [h4]; show Value.int x = .int (u3 h.2.2.2.1 k0 j sl x k0 j sl); rw [hhit]) (fun _ => rfl) (fun _ _ hne => ⟨rfl, u3_ne hne, rfl, rfl⟩) (fun s' hs' => ⟨hself hs', rfl, rfl⟩) (fun H1 locs1 hR1 hS1 => ?_)
                exact (hk _ _ _ _ E).2 ρ H1 locs1 lsA (hcl.sI _ _ _ _) (hlo.le (mle.rf h)) (fun w hw => (hgo w hw).le (mle.rf h)) hR1 hS1 (hX.upd (mle.rf h))
              · rw [decide_eq_false hb1, cond_false] at E; cases E
          · have hnar : ∀ o : Option Nat, narrow (qty k0 sl) (va_rf o) = va_rf o ∧ fits (qty k0 sl) (va_rf o) = true := by
              intro o
              rcases hty with ⟨n, hty⟩ | ⟨n, hty⟩ <;> rw [hty] <;> cases o <;> exact ⟨rfl, rfl⟩
            · have key : ∀ ov' : Option Nat, (∀ jv, ov' = some jv → kv = t) → ov' = ov → k (pc + 3) ls st (sP h k0 j sl ov') = some r → W p l e R s m args below meth c H locs ((mA h).1 - (mA h0).1) ((mA h).2 - (mA h0).2) Q (F0 m pc lsA (List.map (rv ρ) (Sum.inr (Sum.inr (kv, ov)) :: Sum.inr (Sum.inr (k0, some j)) :: st))) := by
                intro ov' hkv hov E'
                subst hov
                have hrv : rv ρ (Sum.inr (Sum.inr (kv, ov'))) = va_rf (ov'.map (ρ t)) := by
                  cases ov' with
                  | none => rfl
                  | some jv => rw [← hkv jv rfl]; rfl
                show W p l e R s m args below meth c H locs _ _ Q (F0 m pc lsA (rv ρ (Sum.inr (Sum.inr (kv, ov'))) :: _ :: _))
                rw [hrv]
                refine qput_row C h13 hsn hlink hF hd hj hR0 hS (h1 := sP h k0 j sl ov') (hnar _).1 (hnar _).2 (by rw [h4]; show _ = va_rf ((u3 h.2.2.2.2.2 k0 j sl ov' k0 j sl).map (ρ t)); rw [hhit]) (fun _ => rfl) (fun _ _ hne => ⟨rfl, rfl, rfl, u3_ne hne⟩) (fun s' hs' => ⟨rfl, rfl, hself hs'⟩) (fun H1 locs1 hR1 hS1 => ?_)
                refine (hk _ _ _ _ E').2 ρ H1 locs1 lsA (hcl.sP ?_) (hlo.le (mle.rf h)) (fun w hw => (hgo w hw).le (mle.rf h)) hR1 hS1 (hX.upd (mle.rf h))
                intro t' j' ht' hj'
                rw [qtk_cls h13 h4] at ht'
                cases ht'
                have hkt := hkv j' hj'
                subst hj'
                subst hkt
                exact qOk_ref (by omega) (hst _ List.mem_cons_self)
              cases hbk : Nat.beq kv t with
              | true =>
                rw [hbk, cond_true] at E
                exact key ov (fun _ _ => Nat.eq_of_beq_eq_true hbk) rfl E
              | false =>
                rw [hbk, cond_false] at E
                cases ov with
                | none => exact key none (fun _ h9 => by cases h9) rfl E
                | some jv => cases E
    · cases E
  · cases E
end QS
