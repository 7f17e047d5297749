/-! THE FLAT MEMORY IN THE HEAP -/
def qfts : List (List Nat) := [[13, 4, 17, 18, 17, 0, 0, 0], [17, 17, 17, 17, 0, 0, 0], [13, 4, 11, 17, 17, 17, 0], [17, 18, 18, 17], [17, 18], [17, 17, 0, 0, 0, 0, 0, 0, 0], [11, 4, 17, 0, 0, 17, 17, 0, 0, 0], [16, 0, 0, 0, 0, 0, 0], [0, 0, 0, 17, 17, 17, 17], [11, 0], [18, 11, 4, 7], [10, 12, 8, 20, 0, 9, 21, 13, 6, 3, 5], [0, 17, 17, 17, 17, 17, 17, 17, 17, 17, 17, 17, 17, 17, 17, 17, 17, 17, 0, 0, 0, 0, 0, 0, 0, 0, 0, 0, 16, 17, 17, 17, 17, 17, 17, 17, 18, 18, 2, 17, 17, 0, 0, 2, 17, 17, 17, 17, 17, 17, 17, 19, 0, 2]]
def qft (k s : Nat) : Nat := ((qfts[k]?).getD []).getD s 0
def qnf (k : Nat) : Nat := ((qfts[k]?).getD []).length
/-- where a reference of this place points to -/
def qtk (k s : Nat) : Option Nat := if k = 17 then some 4 else if k = 18 then some 6 else match qft k s with
  | t + 3 => some t
  | _ => none
def rv (ρ : Nat → Nat → Nat) : qV → Value
  | .inl x => .int x
  | .inr (.inl x) => .long x
  | .inr (.inr (k, o)) => va_rf (o.map (ρ k))
def rfv (ρ : Nat → Nat → Nat) (h : qM) (k j s : Nat) : Nat → Value
  | 0 => .int (mI h k j s)
  | 1 => .long (mJ h k j s)
  | 2 => .int (mI h k j s)
  | t + 3 => va_rf ((mP h k j s).map (ρ t))
def rfs (ρ : Nat → Nat → Nat) (h : qM) (k j : Nat) : List Value := (List.range (qnf k)).map (fun s => rfv ρ h k j s (qft k s))
def ren (cy : Nat → ClassId) (ρ : Nat → Nat → Nat) (h : qM) (k j : Nat) : va_E :=
  if k < 13 then .inr (k, rfs ρ h k j)
  else if k = 15 then .inl (cy k, mL h k j, .inr (.inl (mJ h k j)))
  else if k = 17 then .inl (cy k, mL h k j, .inr (.inr (.inr (.inr (fun i => (mP h 17 j i).map (ρ 4))))))
  else if k = 18 then .inl (cy k, mL h k j, .inr (.inr (.inr (.inr (fun i => (mP h 18 j i).map (ρ 6))))))
  else .inl (cy k, mL h k j, .inl (mI h k j))
def wl (cy : Nat → ClassId) (ρ : Nat → Nat → Nat) (h : qM) (N : List (Nat × Nat)) : va_W := N.map (fun n => (ρ n.1 n.2, ren cy ρ h n.1 n.2))
def qRep (D : va_G) (cy : Nat → ClassId) (ρ : Nat → Nat → Nat) (h : qM) (A : Nat → Prop) (H : Heap) : Prop :=
  ∃ N : List (Nat × Nat), N.Nodup ∧ (∀ k j, (k, j) ∈ N ↔ k < 19 ∧ j < mC h k) ∧ va_P D vwCl (wl cy ρ h N) H ∧ va_D A (wl cy ρ h N)
def qCl (h : qM) : Prop := ∀ k j s t j', k < 19 → j < mC h k → qtk k s = some t → mP h k j s = some j' → j' < mC h t
def qOk (h : qM) : qV → Prop
  | .inr (.inr (k, some j)) => (k < 19 ∧ j < mC h k) ∨ (k = 19 ∧ j < 16)
  | _ => True
theorem wl_at {cy : Nat → ClassId} {ρ : Nat → Nat → Nat} {h : qM} {N : List (Nat × Nat)} {p k j : Nat} (hp : N[p]? = some (k, j)) : (wl cy ρ h N)[p]? = some (ρ k j, ren cy ρ h k j) := by
  unfold wl
  rw [List.getElem?_map, hp]
  rfl
theorem ren_ext {cy : Nat → ClassId} {ρ ρ' : Nat → Nat → Nat} {h h' : qM} {k j : Nat} (hL : mL h' k j = mL h k j) (hI : mI h' k j = mI h k j) (hJ : mJ h' k j = mJ h k j) (hP : mP h' k j = mP h k j)
    (hρ : ∀ s t j', qtk k s = some t → mP h k j s = some j' → ρ' t j' = ρ t j') : ren cy ρ' h' k j = ren cy ρ h k j := by
  have key : ∀ s t, qtk k s = some t → (mP h k j s).map (ρ' t) = (mP h k j s).map (ρ t) := by
    intro s t ht
    cases e : mP h k j s with
    | none => rfl
    | some j' => simp only [Option.map_some]; rw [hρ s t j' ht e]
  unfold ren
  split
  · next hk =>
    have : rfs ρ' h' k j = rfs ρ h k j := by
      unfold rfs
      refine List.map_congr_left fun s hs => ?_
      cases hf : qft k s with
      | zero => simp only [rfv, hI]
      | succ n =>
        cases n with
        | zero => simp only [rfv, hJ]
        | succ n =>
          cases n with
          | zero => simp only [rfv, hI]
          | succ t =>
            simp only [rfv, hP]
            rw [key s t (by unfold qtk; rw [if_neg (by omega), if_neg (by omega), hf])]
    rw [this]
  · split
    · rw [hL, hJ]
    · split
      · next hk =>
        subst hk
        have hf : (fun i => (mP h 17 j i).map (ρ' 4)) = fun i => (mP h 17 j i).map (ρ 4) := funext fun i => key i 4 (by unfold qtk; rw [if_pos rfl])
        rw [hL, hP, hf]
      · split
        · next hk =>
          subst hk
          have hf : (fun i => (mP h 18 j i).map (ρ' 6)) = fun i => (mP h 18 j i).map (ρ 6) := funext fun i => key i 6 (by unfold qtk; rw [if_neg (by decide), if_pos rfl])
          rw [hL, hP, hf]
        · rw [hL, hI]
theorem nodup_inj {α : Type} : ∀ {N : List α}, N.Nodup → ∀ {i j : Nat} {a : α}, N[i]? = some a → N[j]? = some a → i = j
  | [], _, i, j, a, h, _ => by simp at h
  | b :: t, hN, 0, 0, a, _, _ => rfl
  | b :: t, hN, 0, j + 1, a, h1, h2 => by
    rw [List.getElem?_cons_zero] at h1
    rw [List.getElem?_cons_succ] at h2
    cases h1
    exact absurd (List.mem_of_getElem? h2) (List.nodup_cons.mp hN).1
  | b :: t, hN, i + 1, 0, a, h1, h2 => by
    rw [List.getElem?_cons_zero] at h2
    rw [List.getElem?_cons_succ] at h1
    cases h2
    exact absurd (List.mem_of_getElem? h1) (List.nodup_cons.mp hN).1
  | b :: t, hN, i + 1, j + 1, a, h1, h2 => by
    rw [List.getElem?_cons_succ] at h1 h2
    rw [nodup_inj (List.nodup_cons.mp hN).2 h1 h2]
theorem wl_set {cy : Nat → ClassId} {ρ : Nat → Nat → Nat} {h h' : qM} {N : List (Nat × Nat)} {p k j : Nat} {e : va_E} (hN : N.Nodup) (hp : N[p]? = some (k, j)) (he : e = ren cy ρ h' k j)
    (ho : ∀ k' j', (k', j') ≠ (k, j) → ren cy ρ h' k' j' = ren cy ρ h k' j') : (wl cy ρ h N).set p (ρ k j, e) = wl cy ρ h' N := by
  unfold wl
  apply List.ext_getElem?
  intro i
  rw [List.getElem?_set, List.getElem?_map, List.getElem?_map]
  by_cases hi : p = i
  · subst hi
    rw [if_pos rfl, hp, List.length_map, if_pos (List.getElem?_eq_some_iff.mp hp).1, he]
    rfl
  · rw [if_neg hi]
    cases hq : N[i]? with
    | none => rfl
    | some n =>
      obtain ⟨k', j'⟩ := n
      have hne : (k', j') ≠ (k, j) := by
        intro hc
        rw [hc] at hq
        exact hi (nodup_inj hN hp hq)
      simp only [Option.map_some]
      rw [ho k' j' hne]
/-- the place of a name -/
theorem qRep.at {D : va_G} {cy : Nat → ClassId} {ρ : Nat → Nat → Nat} {h : qM} {A : Nat → Prop} {H : Heap} (hR : qRep D cy ρ h A H) {k j : Nat} (hk : k < 19) (hj : j < mC h k) :
    ∃ (N : List (Nat × Nat)) (p : Nat), N[p]? = some (k, j) ∧ N.Nodup ∧ (∀ k j, (k, j) ∈ N ↔ k < 19 ∧ j < mC h k) ∧ va_P D vwCl (wl cy ρ h N) H ∧ va_D A (wl cy ρ h N) := by
  obtain ⟨N, h1, h2, h3, h4⟩ := hR
  obtain ⟨p, hp⟩ := List.getElem?_of_mem ((h2 k j).mpr ⟨hk, hj⟩)
  exact ⟨N, p, hp, h1, h2, h3, h4⟩
/-- one row of the memory was written -/
theorem qRep.put {D : va_G} {cy : Nat → ClassId} {ρ : Nat → Nat → Nat} {h h' : qM} {A : Nat → Prop} {H1 : Heap} {N : List (Nat × Nat)} {p k j : Nat} {e : va_E} (hN : N.Nodup) (hp : N[p]? = some (k, j)) (hm : ∀ k j, (k, j) ∈ N ↔ k < 19 ∧ j < mC h k)
    (he : e = ren cy ρ h' k j) (hC : ∀ k, mC h' k = mC h k) (ho : ∀ k' j', (k', j') ≠ (k, j) → mL h' k' j' = mL h k' j' ∧ mI h' k' j' = mI h k' j' ∧ mJ h' k' j' = mJ h k' j' ∧ mP h' k' j' = mP h k' j')
    (hP : va_P D vwCl ((wl cy ρ h N).set p (ρ k j, e)) H1) (hD : va_D A ((wl cy ρ h N).set p (ρ k j, e))) : qRep D cy ρ h' A H1 := by
  rw [wl_set hN hp he (fun k' j' hne => ren_ext (ho k' j' hne).1 (ho k' j' hne).2.1 (ho k' j' hne).2.2.1 (ho k' j' hne).2.2.2 (fun _ _ _ _ _ => rfl))] at hP hD
  exact ⟨N, hN, fun k j => by rw [hC]; exact hm k j, hP, hD⟩
/-- one more was made, at the address q -/
theorem qRep.new {D : va_G} {cy : Nat → ClassId} {ρ : Nat → Nat → Nat} {h : qM} {A : Nat → Prop} {H1 : Heap} {N : List (Nat × Nat)} {k n q : Nat} {e : va_E} (hN : N.Nodup) (hm : ∀ k j, (k, j) ∈ N ↔ k < 19 ∧ j < mC h k) (hk : k < 19) (hcl : qCl h)
    (he : e = ren cy (fun k' j' => if k' = k ∧ j' = mC h k then q else ρ k' j') (qNew h k n) k (mC h k)) (hP : va_P D vwCl (wl cy ρ h N ++ [(q, e)]) H1) (hD : va_D A (wl cy ρ h N ++ [(q, e)])) :
    qRep D cy (fun k' j' => if k' = k ∧ j' = mC h k then q else ρ k' j') (qNew h k n) A H1 := by
  have hC : ∀ k', mC (qNew h k n) k' = if k' = k then mC h k + 1 else mC h k' := fun k' => rfl
  have hw : wl cy (fun k' j' => if k' = k ∧ j' = mC h k then q else ρ k' j') (qNew h k n) (N ++ [(k, mC h k)]) = wl cy ρ h N ++ [(q, e)] := by
    unfold wl
    rw [List.map_append]
    congr 1
    · refine List.map_congr_left fun x hx => ?_
      obtain ⟨k', j'⟩ := x
      obtain ⟨hk', hj'⟩ := (hm k' j').mp hx
      have hne : ¬ (k' = k ∧ j' = mC h k) := fun hc => by obtain ⟨rfl, rfl⟩ := hc; omega
      dsimp only
      rw [if_neg hne]
      congr 1
      refine ren_ext ?_ ?_ ?_ ?_ ?_
      · show (if k' = k ∧ j' = mC h k then n else mL h k' j') = _; rw [if_neg hne]
      · funext s; show (if k' = k ∧ j' = mC h k then (0 : Int32) else mI h k' j' s) = _; rw [if_neg hne]
      · funext s; show (if k' = k ∧ j' = mC h k then (0 : Int64) else mJ h k' j' s) = _; rw [if_neg hne]
      · funext s; show (if k' = k ∧ j' = mC h k then none else mP h k' j' s) = _; rw [if_neg hne]
      · intro s t j'' ht hp
        have := hcl k' j' s t j'' hk' hj' ht hp
        rw [if_neg (fun hc => by obtain ⟨rfl, rfl⟩ := hc; omega)]
    · rw [he]; simp only [List.map_cons, List.map_nil, and_self, if_true]
  refine ⟨N ++ [(k, mC h k)], ?_, ?_, by rw [hw]; exact hP, by rw [hw]; exact hD⟩
  · rw [List.nodup_append]
    refine ⟨hN, by simp, fun a ha b hb => ?_⟩
    rw [List.mem_singleton] at hb
    subst hb
    intro hc
    rw [hc] at ha
    have := ((hm _ _).mp ha).2
    omega
  · intro k' j'
    rw [List.mem_append, hm, List.mem_singleton, Prod.mk.injEq, hC]
    by_cases hkk : k' = k
    · subst hkk
      rw [if_pos rfl]
      constructor
      · rintro (⟨a, b⟩ | ⟨-, rfl⟩)
        · exact ⟨a, by omega⟩
        · exact ⟨hk, by omega⟩
      · rintro ⟨a, b⟩
        by_cases hj : j' = mC h k'
        · exact Or.inr ⟨rfl, hj⟩
        · exact Or.inl ⟨a, by omega⟩
    · rw [if_neg hkk]
      constructor
      · rintro (⟨a, b⟩ | ⟨c, -⟩)
        · exact ⟨a, b⟩
        · exact absurd c hkk
      · exact fun hh => Or.inl hh
theorem rv_new {ρ : Nat → Nat → Nat} {h : qM} {k q : Nat} (hk : k < 19) : ∀ v : qV, qOk h v → rv (fun k' j' => if k' = k ∧ j' = mC h k then q else ρ k' j') v = rv ρ v
  | .inl _, _ => rfl
  | .inr (.inl _), _ => rfl
  | .inr (.inr (_, none)), _ => rfl
  | .inr (.inr (k', some j)), hv => by
    show va_rf (some _) = va_rf (some _)
    congr 2
    show (if k' = k ∧ j = mC h k then q else ρ k' j) = ρ k' j
    rw [if_neg]
    rintro ⟨rfl, rfl⟩
    rcases hv with ⟨-, h2⟩ | ⟨h1, -⟩
    · omega
    · omega
theorem qOk.le {h h' : qM} (hh : mle h h') : ∀ {v : qV}, qOk h v → qOk h' v
  | .inl _, _ => trivial
  | .inr (.inl _), _ => trivial
  | .inr (.inr (_, none)), _ => trivial
  | .inr (.inr (_, some _)), hv => hv.imp (fun ⟨a, b⟩ => ⟨a, Nat.lt_of_lt_of_le b (hh.2.2 _)⟩) _root_.id
theorem qCl.sI {h : qM} (hc : qCl h) (k j s : Nat) (v : Int32) : qCl (sI h k j s v) := hc
theorem qCl.sJ {h : qM} (hc : qCl h) (k j s : Nat) (v : Int64) : qCl (sJ h k j s v) := hc
theorem qCl.sW {h : qM} (hc : qCl h) (k j : Nat) (v : Nat → Int32) : qCl (sW h k j v) := hc
theorem qCl.sP {h : qM} (hc : qCl h) {k j s : Nat} {o : Option Nat} (ho : ∀ t j', qtk k s = some t → o = some j' → j' < mC h t) : qCl (sP h k j s o) := by
  intro k' j' s' t x hk hj ht hx
  have hy : (if k' = k ∧ j' = j ∧ s' = s then o else mP h k' j' s') = some x := hx
  split at hy
  · next e => obtain ⟨rfl, rfl, rfl⟩ := e; exact ho t x ht hy
  · exact hc k' j' s' t x hk hj ht hy
theorem qCl.new {h : qM} (hc : qCl h) (k n : Nat) : qCl (qNew h k n) := by
  intro k' j' s' t x hk hj ht hx
  have hy : (if k' = k ∧ j' = mC h k then none else mP h k' j' s') = some x := hx
  have hz : j' < (if k' = k then mC h k + 1 else mC h k') := hj
  split at hy
  · cases hy
  · next e =>
    refine Nat.lt_of_lt_of_le (hc k' j' s' t x hk ?_ ht hy) ((mle.new h k n).2.2 t)
    split at hz
    · next e2 => subst e2; omega
    · exact hz
