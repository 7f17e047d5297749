/-- up to n instructions, then nothing -/
def qrun (cal : Nat → List qV → qM → Option qO) (lk : qL) (rt : Nat) (code : List (Nat × (Instr × Nat))) : Nat → qK
  | 0 => fun _ _ _ _ => none
  | n + 1 => fun pc ls st h => match qlk code pc with
    | none => none
    | some (i, len) => qx cal lk rt i len pc ls st h (qrun cal lk rt code n)
/-- up to n instructions, or till one of the places in cuts; then K -/
def qcut (cal : Nat → List qV → qM → Option qO) (lk : qL) (rt : Nat) (code : List (Nat × (Instr × Nat))) (cuts : List Nat) (K : qK) : Nat → qK
  | 0 => K
  | n + 1 => fun pc ls st h => match qlk code pc with
    | none => none
    | some (i, len) => qx cal lk rt i len pc ls st h (fun pc ls st h => bif cuts.elem pc then K pc ls st h else qcut cal lk rt code cuts K n pc ls st h)
/-- a step either goes on at one place, or ends -/
def qPth (F : qK → Option qO) : Prop := ∀ (k : qK) (r : qO), F k = some r → (∃ a b c d, k a b c d = some r ∧ ∀ k' : qK, k' a b c d = some r → F k' = some r) ∨ ∀ k' : qK, F k' = some r
theorem qPth.go (a : Nat) (b : List (Option qV)) (c : List qV) (d : qM) : qPth (fun k => k a b c d) := fun _ _ h => Or.inl ⟨a, b, c, d, h, fun _ h' => h'⟩
theorem qPth.no : qPth (fun _ => none) := fun _ _ h => absurd h (by simp)
theorem qPth.end (o : Option qO) : qPth (fun _ => o) := fun _ _ h => Or.inr fun _ => h
theorem qPth.ite {c : Prop} [Decidable c] {F G : qK → Option qO} (hF : qPth F) (hG : qPth G) : qPth (fun k => if c then F k else G k) := by
  by_cases hc : c
  · simpa [hc] using hF
  · simpa [hc] using hG
theorem qPth.cnd {c : Bool} {F G : qK → Option qO} (hF : qPth F) (hG : qPth G) : qPth (fun k => bif c then F k else G k) := by
  cases c
  · simpa using hG
  · simpa using hF
theorem qPth.bind {α : Type} (o : Option α) {F : α → qK → Option qO} (hF : ∀ a, qPth (F a)) : qPth (fun k => o.bind fun a => F a k) := by
  cases o with
  | none => simpa using qPth.no
  | some a => simpa using hF a
theorem qPth.bV (o : Option qO) {F : qM → qK → Option qO} (hF : ∀ a, qPth (F a)) : qPth (fun k => qbV o (fun h => F h k)) := by
  unfold qbV
  refine qPth.bind o fun r => ?_
  split
  · exact hF _
  · exact qPth.no
theorem qPth.bI (o : Option qO) {F : Int32 → qM → qK → Option qO} (hF : ∀ x a, qPth (F x a)) : qPth (fun k => qbI o (fun x h => F x h k)) := by
  unfold qbI
  refine qPth.bind o fun r => ?_
  split
  · exact hF _ _
  · exact qPth.no
theorem qPth.bJ (o : Option qO) {F : Int64 → qM → qK → Option qO} (hF : ∀ x a, qPth (F x a)) : qPth (fun k => qbJ o (fun x h => F x h k)) := by
  unfold qbJ
  refine qPth.bind o fun r => ?_
  split
  · exact hF _ _
  · exact qPth.no
theorem qPth.bR (n : Nat) (o : Option qO) {F : Option Nat → qM → qK → Option qO} (hF : ∀ x a, qPth (F x a)) : qPth (fun k => qbR n o (fun x h => F x h k)) := by
  unfold qbR
  refine qPth.bind o fun r => ?_
  split
  · exact qPth.cnd (hF _ _) qPth.no
  · exact qPth.no
theorem qPth.nn (o : Option Nat) {F G : qK → Option qO} (hF : qPth F) (hG : qPth G) : qPth (fun k => qnn o (F k) (G k)) := by
  cases o
  · exact hF
  · exact hG
theorem qPth.back (rc : Nat) (o : Option qO) (st : List qV) (a : Nat) (b : List (Option qV)) : qPth (fun k => qback rc o (fun st h => k a b st h) st) := by
  unfold qback
  split
  · exact qPth.bV o fun h => qPth.go _ _ _ _
  · exact qPth.bI o fun x h => qPth.go _ _ _ _
  · exact qPth.bJ o fun x h => qPth.go _ _ _ _
  · exact qPth.bR _ o fun x h => qPth.go _ _ _ _
theorem qPth.sw (x : Int32) (F : qK → Int → Option qO) (hF : ∀ d, qPth (fun k => F k d)) (d : Int) : ∀ ps : List (Int × Int), qPth (fun k => qsw x (F k) d ps)
  | [] => hF d
  | (v, o) :: t => by
    unfold qsw
    exact qPth.ite (hF o) (qPth.sw x F hF d t)
set_option maxHeartbeats 4000000 in
theorem qPth_qx (cal : Nat → List qV → qM → Option qO) (lk : qL) (rt : Nat) (i : Instr) (len pc : Nat) (ls : List (Option qV)) (st : List qV) (h : qM) : qPth (qx cal lk rt i len pc ls st h) := by
  show qPth (fun k => qx cal lk rt i len pc ls st h k)
  unfold qx
  cases i <;> dsimp only <;> (repeat' (first
    | exact qPth.go _ _ _ _ | exact qPth.no | exact qPth.end _ | exact qPth.back _ _ _ _ _
    | refine qPth.nn _ (qPth.go _ _ _ _) (qPth.go _ _ _ _) | refine qPth.ite ?_ ?_ | refine qPth.cnd ?_ ?_ | refine qPth.bind _ fun _ => ?_ | refine qPth.sw _ (fun k off => k (qtgt pc off) ls _ h) (fun d => ?_) _ _
    | split))
