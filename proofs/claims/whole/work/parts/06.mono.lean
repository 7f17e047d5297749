/-! WHAT IS SAID OF ALL STEPS: what was made only grows -/
def mle (h h' : qM) : Prop := (mA h).1 ≤ (mA h').1 ∧ (mA h).2 ≤ (mA h').2 ∧ ∀ k, mC h k ≤ mC h' k
theorem mle.rf (h : qM) : mle h h := ⟨Nat.le_refl _, Nat.le_refl _, fun _ => Nat.le_refl _⟩
theorem mle.tr {a b c : qM} (h1 : mle a b) (h2 : mle b c) : mle a c := ⟨Nat.le_trans h1.1 h2.1, Nat.le_trans h1.2.1 h2.2.1, fun k => Nat.le_trans (h1.2.2 k) (h2.2.2 k)⟩
theorem mle.sI (h : qM) (k j s : Nat) (v : Int32) : mle h (sI h k j s v) := mle.rf h
theorem mle.sJ (h : qM) (k j s : Nat) (v : Int64) : mle h (sJ h k j s v) := mle.rf h
theorem mle.sP (h : qM) (k j s : Nat) (v : Option Nat) : mle h (sP h k j s v) := mle.rf h
theorem mle.sW (h : qM) (k j : Nat) (v : Nat → Int32) : mle h (sW h k j v) := mle.rf h
theorem mle.new (h : qM) (k n : Nat) : mle h (qNew h k n) := ⟨Nat.le_succ _, Nat.le_add_right _ _, fun k' => by
  show mC h k' ≤ if k' = k then mC h k + 1 else mC h k'
  split
  · next e => subst e; exact Nat.le_succ _
  · exact Nat.le_refl _⟩
def qPM (h : qM) (F : qK → Option qO) : Prop := ∀ (k : qK) (r : qO), F k = some r → (∃ a b c d, k a b c d = some r ∧ mle h d) ∨ mle h r.1
theorem qPM.go {h : qM} (a : Nat) (b : List (Option qV)) (c : List qV) (d : qM) (hd : mle h d) : qPM h (fun k => k a b c d) := fun _ _ e => Or.inl ⟨a, b, c, d, e, hd⟩
theorem qPM.no {h : qM} : qPM h (fun _ => none) := fun _ _ e => absurd e (by simp)
theorem qPM.end (h : qM) (o : Option qV) : qPM h (fun _ => some (h, o)) := fun _ r e => Or.inr (by cases e; exact mle.rf h)
theorem qPM.ite {h : qM} {c : Prop} [Decidable c] {F G : qK → Option qO} (hF : qPM h F) (hG : qPM h G) : qPM h (fun k => if c then F k else G k) := by
  by_cases hc : c
  · simpa [hc] using hF
  · simpa [hc] using hG
theorem qPM.cnd {h : qM} {c : Bool} {F G : qK → Option qO} (hF : qPM h F) (hG : qPM h G) : qPM h (fun k => bif c then F k else G k) := by
  cases c
  · simpa using hG
  · simpa using hF
theorem qPM.bind {h : qM} {α : Type} (o : Option α) {F : α → qK → Option qO} (hF : ∀ a, qPM h (F a)) : qPM h (fun k => o.bind fun a => F a k) := by
  cases o with
  | none => simpa using qPM.no
  | some a => simpa using hF a
theorem qPM.nn {h : qM} (o : Option Nat) {F G : qK → Option qO} (hF : qPM h F) (hG : qPM h G) : qPM h (fun k => qnn o (F k) (G k)) := by
  cases o
  · exact hF
  · exact hG
theorem qPM.back {h : qM} (rc : Nat) (o : Option qO) (ho : ∀ r, o = some r → mle h r.1) (st : List qV) (a : Nat) (b : List (Option qV)) : qPM h (fun k => qback rc o (fun st h => k a b st h) st) := by
  intro k r e
  cases o with
  | none => unfold qback at e; split at e <;> simp [qbV, qbI, qbJ, qbR] at e
  | some x =>
    have hx := ho x rfl
    unfold qback at e
    split at e
    · unfold qbV at e; dsimp only [Option.bind_some] at e; split at e
      · exact Or.inl ⟨_, _, _, _, e, hx⟩
      · cases e
    · unfold qbI at e; dsimp only [Option.bind_some] at e; split at e
      · exact Or.inl ⟨_, _, _, _, e, hx⟩
      · cases e
    · unfold qbJ at e; dsimp only [Option.bind_some] at e; split at e
      · exact Or.inl ⟨_, _, _, _, e, hx⟩
      · cases e
    · unfold qbR at e; dsimp only [Option.bind_some] at e; split at e
      · rename_i k' o' _
        cases hb : Nat.beq k' _ with
        | true => rw [hb, cond_true] at e; exact Or.inl ⟨_, _, _, _, e, hx⟩
        | false => rw [hb, cond_false] at e; cases e
      · cases e
theorem qPM.sw {h : qM} (x : Int32) (F : qK → Int → Option qO) (hF : ∀ d, qPM h (fun k => F k d)) (d : Int) : ∀ ps : List (Int × Int), qPM h (fun k => qsw x (F k) d ps)
  | [] => hF d
  | (v, o) :: t => by
    unfold qsw
    exact qPM.ite (hF o) (qPM.sw x F hF d t)
set_option maxHeartbeats 4000000 in
theorem qPM_qx (cal : Nat → List qV → qM → Option qO) (hcal : ∀ m a h r, cal m a h = some r → mle h r.1) (lk : qL) (rt : Nat) (i : Instr) (len pc : Nat) (ls : List (Option qV)) (st : List qV) (h : qM) : qPM h (qx cal lk rt i len pc ls st h) := by
  show qPM h (fun k => qx cal lk rt i len pc ls st h k)
  unfold qx
  cases i <;> dsimp only <;> (repeat' (first
    | exact qPM.go _ _ _ _ (mle.rf h) | exact qPM.go _ _ _ _ (mle.new h _ _) | exact qPM.no | exact qPM.end _ _ | exact qPM.back _ _ (hcal _ _ _) _ _ _
    | refine qPM.ite ?_ ?_ | refine qPM.nn _ (qPM.go _ _ _ _ (mle.rf h)) (qPM.go _ _ _ _ (mle.rf h)) | refine qPM.cnd ?_ ?_ | refine qPM.bind _ fun _ => ?_ | refine qPM.sw _ (fun k off => k (qtgt pc off) ls _ h) (fun d => ?_) _ _
    | split))
theorem qrun_mle {cal : Nat → List qV → qM → Option qO} (hcal : ∀ m a h r, cal m a h = some r → mle h r.1) (lk : qL) (rt : Nat) (code : List (Nat × (Instr × Nat))) : ∀ (n : Nat) {pc : Nat} {ls : List (Option qV)} {st : List qV} {h : qM} {r : qO}, qrun cal lk rt code n pc ls st h = some r → mle h r.1 := by
  intro n
  induction n with
  | zero => intro pc ls st h r e; simp [qrun] at e
  | succ n ih =>
    intro pc ls st h r e
    rw [qrun_s] at e
    cases hq : qlk code pc with
    | none => rw [hq] at e; simp at e
    | some il =>
      obtain ⟨i, len⟩ := il
      rw [hq] at e
      dsimp only at e
      rcases qPM_qx cal hcal lk rt i len pc ls st h _ r e with ⟨a, b, c, d, e1, e2⟩ | e2
      · exact e2.tr (ih e1)
      · exact e2
theorem qcF_mle (mt : Nat → Option qE) (rk : Nat → Nat) : ∀ (r : Nat) (m : Nat) (a : List qV) (h : qM) (o : qO), qcF mt rk r m a h = some o → mle h o.1 := by
  intro r
  induction r with
  | zero => intro m a h o e; simp [qcF] at e
  | succ r ih =>
    intro m a h o e
    rw [qcF_s] at e
    cases hm : mt m with
    | none => rw [hm] at e; simp at e
    | some x =>
      obtain ⟨lk, rt, maxL, rank, code⟩ := x
      rw [hm] at e
      dsimp only at e
      cases hg : Nat.ble (qsum a) maxL with
      | false => rw [hg, cond_false] at e; cases e
      | true =>
      rw [hg, cond_true] at e
      obtain ⟨n, e⟩ := qT_ex e
      refine qrun_mle (fun m' a' h' r' e' => ?_) lk rt code n e
      cases hb : Nat.blt (rk m') rank with
      | true => rw [hb, cond_true] at e'; exact ih _ _ _ _ e'
      | false => rw [hb, cond_false] at e'; cases e'
