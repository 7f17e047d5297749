theorem qrun_s (cal : Nat → List qV → qM → Option qO) (lk : qL) (rt : Nat) (code : List (Nat × (Instr × Nat))) (n pc : Nat) (ls : List (Option qV)) (st : List qV) (h : qM) : qrun cal lk rt code (n + 1) pc ls st h = match qlk code pc with
    | none => none
    | some (i, len) => qx cal lk rt i len pc ls st h (qrun cal lk rt code n) := rfl
theorem qcut_s (cal : Nat → List qV → qM → Option qO) (lk : qL) (rt : Nat) (code : List (Nat × (Instr × Nat))) (cuts : List Nat) (K : qK) (n pc : Nat) (ls : List (Option qV)) (st : List qV) (h : qM) : qcut cal lk rt code cuts K (n + 1) pc ls st h = match qlk code pc with
    | none => none
    | some (i, len) => qx cal lk rt i len pc ls st h (fun pc ls st h => bif cuts.elem pc then K pc ls st h else qcut cal lk rt code cuts K n pc ls st h) := rfl
theorem qrun_succ (cal : Nat → List qV → qM → Option qO) (lk : qL) (rt : Nat) (code : List (Nat × (Instr × Nat))) : ∀ (n : Nat) (pc : Nat) (ls : List (Option qV)) (st : List qV) (h : qM) (r : qO), qrun cal lk rt code n pc ls st h = some r → qrun cal lk rt code (n + 1) pc ls st h = some r := by
  intro n
  induction n with
  | zero => intro pc ls st h r e; simp [qrun] at e
  | succ n ih =>
    intro pc ls st h r e
    rw [qrun_s] at e ⊢
    cases hq : qlk code pc with
    | none => rw [hq] at e; simp at e
    | some il =>
      obtain ⟨i, len⟩ := il
      rw [hq] at e
      dsimp only at e ⊢
      rcases qPth_qx cal lk rt i len pc ls st h _ r e with ⟨a, b, c, d, e1, e2⟩ | e2
      · exact e2 _ (ih a b c d r e1)
      · exact e2 _
theorem qrun_le (cal : Nat → List qV → qM → Option qO) (lk : qL) (rt : Nat) (code : List (Nat × (Instr × Nat))) {n m : Nat} (hnm : n ≤ m) {pc : Nat} {ls : List (Option qV)} {st : List qV} {h : qM} {r : qO} (e : qrun cal lk rt code n pc ls st h = some r) : qrun cal lk rt code m pc ls st h = some r := by
  induction hnm with
  | refl => exact e
  | step _ ih => exact qrun_succ cal lk rt code _ _ _ _ _ _ ih
noncomputable def qlim (f : Nat → Option qO) : Option qO := @dite _ (∃ n r, f n = some r) (Classical.propDecidable _) (fun h => f (Classical.choose h)) (fun _ => none)
theorem qlim_ex {f : Nat → Option qO} {r : qO} (h : qlim f = some r) : ∃ n, f n = some r := by
  unfold qlim at h
  split at h
  · exact ⟨_, h⟩
  · cases h
theorem qlim_of {f : Nat → Option qO} (mono : ∀ n m r, n ≤ m → f n = some r → f m = some r) {r : qO} {n : Nat} (h : f n = some r) : qlim f = some r := by
  have hx : ∃ n r, f n = some r := ⟨n, r, h⟩
  unfold qlim
  rw [dif_pos hx]
  obtain ⟨r', h'⟩ := Classical.choose_spec hx
  have h1 := mono _ (max n (Classical.choose hx)) r (Nat.le_max_left _ _) h
  have h2 := mono _ (max n (Classical.choose hx)) r' (Nat.le_max_right _ _) h'
  rw [h', ← h1, h2]
/-- the meaning of a method's code from a place on -/
noncomputable def qT (cal : Nat → List qV → qM → Option qO) (lk : qL) (rt : Nat) (code : List (Nat × (Instr × Nat))) : qK := fun pc ls st h => qlim (fun n => qrun cal lk rt code n pc ls st h)
theorem qT_of {cal : Nat → List qV → qM → Option qO} {lk : qL} {rt : Nat} {code : List (Nat × (Instr × Nat))} {n pc : Nat} {ls : List (Option qV)} {st : List qV} {h : qM} {r : qO} (e : qrun cal lk rt code n pc ls st h = some r) : qT cal lk rt code pc ls st h = some r :=
  qlim_of (fun _ _ _ hnm e => qrun_le cal lk rt code hnm e) e
theorem qT_ex {cal : Nat → List qV → qM → Option qO} {lk : qL} {rt : Nat} {code : List (Nat × (Instr × Nat))} {pc : Nat} {ls : List (Option qV)} {st : List qV} {h : qM} {r : qO} (e : qT cal lk rt code pc ls st h = some r) : ∃ n, qrun cal lk rt code n pc ls st h = some r := qlim_ex e
theorem opt_ext {α : Type} {a b : Option α} (h : ∀ r, a = some r ↔ b = some r) : a = b := by
  cases a with
  | none =>
    cases b with
    | none => rfl
    | some y => exact ((h y).mpr rfl)
  | some x => exact ((h x).mp rfl).symm
theorem qT_eq (cal : Nat → List qV → qM → Option qO) (lk : qL) (rt : Nat) (code : List (Nat × (Instr × Nat))) (pc : Nat) (ls : List (Option qV)) (st : List qV) (h : qM) : qT cal lk rt code pc ls st h = match qlk code pc with
    | none => none
    | some (i, len) => qx cal lk rt i len pc ls st h (qT cal lk rt code) := by
  refine opt_ext fun r => ⟨fun e => ?_, fun e => ?_⟩
  · obtain ⟨n, e⟩ := qT_ex e
    cases n with
    | zero => simp [qrun] at e
    | succ n =>
      rw [qrun_s] at e
      cases hq : qlk code pc with
      | none => rw [hq] at e; simp at e
      | some il =>
        obtain ⟨i, len⟩ := il
        rw [hq] at e
        dsimp only at e ⊢
        rcases qPth_qx cal lk rt i len pc ls st h _ r e with ⟨a, b, c, d, e1, e2⟩ | e2
        · exact e2 _ (qT_of e1)
        · exact e2 _
  · cases hq : qlk code pc with
    | none => rw [hq] at e; simp at e
    | some il =>
      obtain ⟨i, len⟩ := il
      rw [hq] at e
      dsimp only at e
      rcases qPth_qx cal lk rt i len pc ls st h _ r e with ⟨a, b, c, d, e1, e2⟩ | e2
      · obtain ⟨n, e1⟩ := qT_ex e1
        refine qT_of (n := n + 1) ?_
        rw [qrun_s, hq]
        exact e2 _ e1
      · refine qT_of (n := 1) ?_
        rw [qrun_s, hq]
        exact e2 _
theorem qT_cut (cal : Nat → List qV → qM → Option qO) (lk : qL) (rt : Nat) (code : List (Nat × (Instr × Nat))) (cuts : List Nat) : ∀ (n : Nat) (pc : Nat) (ls : List (Option qV)) (st : List qV) (h : qM), qT cal lk rt code pc ls st h = qcut cal lk rt code cuts (qT cal lk rt code) n pc ls st h := by
  intro n
  induction n with
  | zero => intro pc ls st h; rfl
  | succ n ih =>
    intro pc ls st h
    rw [qT_eq, qcut_s]
    have hk : (fun pc ls st h => bif cuts.elem pc then qT cal lk rt code pc ls st h else qcut cal lk rt code cuts (qT cal lk rt code) n pc ls st h) = qT cal lk rt code := by
      funext pc ls st h
      cases cuts.elem pc
      · exact (ih pc ls st h).symm
      · rfl
    rw [hk]
abbrev qE : Type := qL × (Nat × (Nat × (Nat × List (Nat × (Instr × Nat)))))
/-- a table of methods: its class's links, what it answers, its locals, its rank, its code -/
noncomputable def qcF (mt : Nat → Option qE) (rk : Nat → Nat) : Nat → Nat → List qV → qM → Option qO
  | 0 => fun _ _ _ => none
  | r + 1 => fun mid args h => match mt mid with
    | none => none
    | some (lk, rt, maxL, rank, code) => bif Nat.ble (qsum args) maxL then qT (fun m' a h' => bif Nat.blt (rk m') rank then qcF mt rk r m' a h' else none) lk rt code 0 (qent args maxL) [] h else none
theorem qcF_s (mt : Nat → Option qE) (rk : Nat → Nat) (r mid : Nat) (args : List qV) (h : qM) : qcF mt rk (r + 1) mid args h = match mt mid with
    | none => none
    | some (lk, rt, maxL, rank, code) => bif Nat.ble (qsum args) maxL then qT (fun m' a h' => bif Nat.blt (rk m') rank then qcF mt rk r m' a h' else none) lk rt code 0 (qent args maxL) [] h else none := rfl
theorem qcF_rank (mt : Nat → Option qE) (rk : Nat → Nat) (hrk : ∀ mid e, mt mid = some e → e.2.2.2.1 = rk mid) : ∀ (r mid : Nat), rk mid < r → qcF mt rk r mid = qcF mt rk (rk mid + 1) mid := by
  intro r
  induction r using Nat.strongRecOn with
  | ind r ih =>
    intro mid hr
    cases r with
    | zero => omega
    | succ r =>
      funext args h
      show qcF mt rk (r + 1) mid args h = qcF mt rk (rk mid + 1) mid args h
      rw [qcF_s, qcF_s]
      cases hm : mt mid with
      | none => rfl
      | some e =>
        obtain ⟨lk, rt, maxL, rank, code⟩ := e
        have h1 : rank = rk mid := hrk mid _ hm
        subst h1
        dsimp only
        have hk : (fun m' a h' => bif Nat.blt (rk m') (rk mid) then qcF mt rk r m' a h' else none) = (fun m' a h' => bif Nat.blt (rk m') (rk mid) then qcF mt rk (rk mid) m' a h' else none) := by
          funext m' a h'
          cases hb : Nat.blt (rk m') (rk mid) with
          | false => rfl
          | true =>
            have hlt : rk m' < rk mid := Nat.le_of_ble_eq_true hb
            rw [cond_true, cond_true, ih r (by omega) m' (by omega)]
            by_cases h2 : rk mid = r
            · rw [h2, ih r (by omega) m' (by omega)]
            · rw [ih (rk mid) (by omega) m' hlt]
        rw [hk]
