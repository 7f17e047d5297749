/-! A RULE'S MEANING: kinds are kept; what lies below isn't touched; both machines with a stack come to it -/
def VK : List Bool → List Int64 → Prop
  | [], [] => True
  | b :: bs, v :: vs => (b = true → v = 0 ∨ v = 1) ∧ VK bs vs
  | _, _ => False
theorem VK.len : ∀ {bs : List Bool} {vs : List Int64}, VK bs vs → vs.length = bs.length
  | [], [], _ => rfl
  | _ :: _, _ :: _, h => by rw [List.length_cons, List.length_cons, VK.len h.2]
  | [], _ :: _, h => h.elim
  | _ :: _, [], h => h.elim
theorem VK.cons {b : Bool} {bs : List Bool} {vs : List Int64} (h : VK (b :: bs) vs) : ∃ v r, vs = v :: r ∧ (b = true → v = 0 ∨ v = 1) ∧ VK bs r := by
  cases vs with
  | nil => exact h.elim
  | cons v r => exact ⟨v, r, rfl, h.1, h.2⟩
theorem i64_01 {a : Int64} (h : a = 0 ∨ a = 1) : (1 : Int64) - a = 0 ∨ (1 : Int64) - a = 1 := by
  rcases h with rfl | rfl
  · exact Or.inr rfl
  · exact Or.inl rfl
theorem ite01 (c : Prop) [Decidable c] : (if c then (1 : Int64) else 0) = 0 ∨ (if c then (1 : Int64) else 0) = 1 := by
  split
  · exact Or.inr rfl
  · exact Or.inl rfl
theorem bin2_01 {op : Nat} (h7 : 7 ≤ op) (h13 : op ≤ 13) {x y : Int64} (hx : 12 ≤ op → (x = 0 ∨ x = 1)) (hy : 12 ≤ op → (y = 0 ∨ y = 1)) : bin2 op x y = 0 ∨ bin2 op x y = 1 := by
  have : op = 7 ∨ op = 8 ∨ op = 9 ∨ op = 10 ∨ op = 11 ∨ op = 12 ∨ op = 13 := by omega
  rcases this with rfl | rfl | rfl | rfl | rfl | rfl | rfl
  · exact ite01 _
  · exact ite01 _
  · exact ite01 _
  · exact ite01 _
  · exact ite01 _
  all_goals rcases hx (by omega) with rfl | rfl <;> rcases hy (by omega) with rfl | rfl <;> first | exact Or.inl rfl | exact Or.inr rfl
theorem ev1_2 {w : Nat → Int64} {op v : Nat} (h2 : 2 ≤ op) (h13 : op ≤ 13) {x y : Int64} {r : List Int64} : ev1 w (op, v) (y :: x :: r) = bin2 op x y :: r := by
  unfold ev1
  rw [if_neg (by dsimp only; omega), if_neg (by dsimp only; omega), if_neg (by dsimp only; omega)]
theorem ev1_ty {w : Nat → Int64} {t : Tok} {st st' : List Bool} (h : ty1 t st = some st') {vs : List Int64} (hv : VK st vs) : VK st' (ev1 w t vs) ∧ ∀ ext, ev1 w t (vs ++ ext) = ev1 w t vs ++ ext := by
  obtain ⟨op, v⟩ := t
  rcases ty1_cases h with ⟨rfl, -, rfl⟩ | ⟨rfl, -, rfl⟩ | ⟨rfl, -, r, rfl, rfl⟩ | ⟨h2, h13, -, r, rfl, rfl⟩
  · exact ⟨⟨fun h => (by cases h), hv⟩, fun _ => rfl⟩
  · exact ⟨⟨fun h => (by cases h), hv⟩, fun _ => rfl⟩
  · obtain ⟨x, r, rfl, hx, hr⟩ := hv.cons
    exact ⟨⟨fun _ => i64_01 (hx rfl), hr⟩, fun _ => rfl⟩
  · obtain ⟨y, r, rfl, hy, hr⟩ := hv.cons
    obtain ⟨x, r, rfl, hx, hr⟩ := hr.cons
    rw [ev1_2 h2 h13]
    refine ⟨⟨fun h => bin2_01 (by simpa using h) h13 (fun h => hx (by simpa using h)) (fun h => hy (by simpa using h)), hr⟩, fun ext => ?_⟩
    rw [List.cons_append, List.cons_append, ev1_2 h2 h13]
    rfl
theorem ev_ty {w : Nat → Int64} : ∀ {ts : List Tok} {st st' : List Bool}, ty ts st = some st' → ∀ {vs : List Int64}, VK st vs → VK st' (ev w ts vs) ∧ ∀ ext, ev w ts (vs ++ ext) = ev w ts vs ++ ext
  | [], st, st', h, vs, hv => by
    cases h
    exact ⟨hv, fun _ => rfl⟩
  | t :: ts, st, st', h, vs, hv => by
    unfold ty at h
    rw [Option.bind_eq_some_iff] at h
    obtain ⟨s1, h1, h2⟩ := h
    split at h2
    · obtain ⟨g1, g2⟩ := ev1_ty (w := w) h1 hv
      obtain ⟨g3, g4⟩ := ev_ty (w := w) h2 g1
      refine ⟨g3, fun ext => ?_⟩
      show ev w ts (ev1 w t (vs ++ ext)) = _
      rw [g2, g4]
      rfl
    · cases h2
/-- a stack laid in a row, its top behind all -/
def SH (f : Nat → Int64) : List Int64 → Prop
  | [] => True
  | a :: r => f r.length = a ∧ SH f r
theorem SH.up {f g : Nat → Int64} : ∀ {st : List Int64}, SH f st → (∀ i, i < st.length → g i = f i) → SH g st
  | [], _, _ => trivial
  | a :: r, h, k => ⟨(k _ (by rw [List.length_cons]; omega)).trans h.1, h.2.up fun i hi => k i (by rw [List.length_cons]; omega)⟩
theorem SH.bottom {f : Nat → Int64} {y : Int64} (h : SH f [y]) : f 0 = y := h.1
/-- the reference's number of a sign -/
def mop (op : Nat) : Nat := match op with
  | 4 => 13
  | 5 => 14
  | 6 => 15
  | 7 => 4
  | 8 => 5
  | 9 => 6
  | 10 => 7
  | 11 => 8
  | 12 => 10
  | 13 => 11
  | 14 => 9
  | n => n
def MToks (I : qIm) : Nat → List Tok → Prop
  | _, [] => True
  | a, t :: ts => (I 14 17 a = nI (mop t.1) ∧ I 14 18 a = nI t.2) ∧ MToks I (a + 1) ts
theorem lg0le (x : Int64) : (lg_cmp x 0 ≤ nI 0) = (x ≤ 0) := propext (lg_cmp_le x 0)
theorem M_truth0 (h : qM) : qcal 188 [qI 0] h = some (h, some (qJ 0)) := by
  rw [c188, if_pos rfl]
theorem M_truth1 (h : qM) : qcal 188 [qI 1] h = some (h, some (qJ 1)) := by
  rw [c188, if_neg (by decide)]
theorem Int64_not_le (x y : Int64) : ¬ y ≤ x ↔ x < y := by
  rw [Int64.le_iff_toInt_le, Int64.lt_iff_toInt_lt]
  omega
theorem M_both {op : Nat} (h2 : 2 ≤ op) (h13 : op ≤ 13) (a b : Int64) (h : qM) : qcal 189 [qI (nI (mop op)), qJ a, qJ b] h = some (h, some (qJ (bin2 op a b))) := by
  have : op = 2 ∨ op = 3 ∨ op = 4 ∨ op = 5 ∨ op = 6 ∨ op = 7 ∨ op = 8 ∨ op = 9 ∨ op = 10 ∨ op = 11 ∨ op = 12 ∨ op = 13 := by omega
  rcases this with rfl | rfl | rfl | rfl | rfl | rfl | rfl | rfl | rfl | rfl | rfl | rfl
  all_goals
    rw [c189]
    unfold bin2 mop nI
    simp only [M_truth0, M_truth1, qbJ_some, lg_cmp_ge, lg_cmp_gt, lg_cmp_eq, lg_cmp_lt, lg_cmp_le]
  · rfl
  · rfl
  · rfl
  · simp (config := { decide := true }) only [if_true, if_false]
    split
    · rfl
    · rename_i hb
      rw [decide_eq_false hb]; rfl
  · simp (config := { decide := true }) only [if_true, if_false]
    split
    · rfl
    · rename_i hb
      rw [decide_eq_false hb]; rfl
  · simp (config := { decide := true }) only [if_true, if_false]
    by_cases hc : b ≤ a
    · rw [if_pos hc, if_neg (by rw [← Int64_not_le]; exact fun x => x hc)]
    · rw [if_neg hc, if_pos (by rw [← Int64_not_le]; exact hc)]
  · simp (config := { decide := true }) only [if_true, if_false]
    by_cases hc : b < a
    · rw [if_pos hc, if_neg (by rw [← Int64_not_le] at hc; exact hc)]
    · rw [if_neg hc, if_pos (by rw [← Int64_not_le, Classical.not_not] at hc; exact hc)]
  · simp (config := { decide := true }) only [if_true, if_false]
    split <;> rfl
  · simp (config := { decide := true }) only [if_true, if_false]
    by_cases hc : b ≤ a
    · rw [if_pos hc, if_neg (by rw [← Int64_not_le]; exact fun x => x hc)]
    · rw [if_neg hc, if_pos (by rw [← Int64_not_le]; exact hc)]
  · simp (config := { decide := true }) only [if_true, if_false]
    by_cases hc : b < a
    · rw [if_pos hc, if_neg (by rw [← Int64_not_le] at hc; exact hc)]
    · rw [if_neg hc, if_pos (by rw [← Int64_not_le, Classical.not_not] at hc; exact hc)]
  · rfl
  · rfl
theorem lt14 : (14 : Int32) = nI 14 := rfl
theorem lt15 : (15 : Int32) = nI 15 := rfl
theorem lt16 : (16 : Int32) = nI 16 := rfl
theorem lg0eq (x : Int64) : (lg_cmp x 0 = nI 0) = (x = 0) := propext (lg_cmp_eq x 0)
