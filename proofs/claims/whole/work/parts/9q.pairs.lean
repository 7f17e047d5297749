/-! LETTERS given to PEOPLE: numbers alone -/
def mx (f : Nat → Int) (ok : Nat → Bool) : Nat → Int → Int
  | 0, v => v
  | j + 1, v => if ok j = true then (if f j ≤ mx f ok j v then mx f ok j v else f j) else mx f ok j v
theorem mx_le {f : Nat → Int} {ok : Nat → Bool} {v x : Int} : ∀ n, mx f ok n v ≤ x ↔ v ≤ x ∧ ∀ j, j < n → ok j = true → f j ≤ x
  | 0 => ⟨fun h => ⟨h, fun j hj => absurd hj (Nat.not_lt_zero j)⟩, fun h => h.1⟩
  | n + 1 => by
    have ih := mx_le (f := f) (ok := ok) (v := v) (x := x) n
    have hst : mx f ok (n + 1) v = if ok n = true then (if f n ≤ mx f ok n v then mx f ok n v else f n) else mx f ok n v := rfl
    rw [hst]
    constructor
    · intro h
      by_cases c : ok n = true
      · rw [if_pos c] at h
        have h1 : mx f ok n v ≤ x ∧ f n ≤ x := by
          by_cases c2 : f n ≤ mx f ok n v
          · rw [if_pos c2] at h; omega
          · rw [if_neg c2] at h; omega
        obtain ⟨g1, g2⟩ := ih.mp h1.1
        refine ⟨g1, fun j hj hok => ?_⟩
        by_cases e : j = n
        · subst e; exact h1.2
        · exact g2 j (by omega) hok
      · rw [if_neg c] at h
        obtain ⟨g1, g2⟩ := ih.mp h
        refine ⟨g1, fun j hj hok => ?_⟩
        by_cases e : j = n
        · subst e; exact absurd hok c
        · exact g2 j (by omega) hok
    · rintro ⟨g1, g2⟩
      have h1 := ih.mpr ⟨g1, fun j hj => g2 j (by omega)⟩
      by_cases c : ok n = true
      · rw [if_pos c]
        have := g2 n (by omega) c
        split <;> omega
      · rw [if_neg c]
        exact h1
theorem le_eq {a b : Int} (h : ∀ x, a ≤ x ↔ b ≤ x) : a = b := Int.le_antisymm ((h b).mpr (Int.le_refl b)) ((h a).mp (Int.le_refl a))
/-- the most that PEOPLE from p on, of X, make of LETTERS ahead of l that are not of A -/
def mR (w : Nat → Nat → Int) (X l : Nat) : Nat → Nat → Nat → Int
  | 0, _, _ => 0
  | d + 1, p, A => if X.testBit p = true then mx (fun j => w p j + mR w X l d (p + 1) (A ||| 2 ^ j)) (fun j => !A.testBit j) l (mR w X l d (p + 1) A) else mR w X l d (p + 1) A
theorem mR_y {w : Nat → Nat → Int} {X l d p A : Nat} (h : X.testBit p = true) : mR w X l (d + 1) p A = mx (fun j => w p j + mR w X l d (p + 1) (A ||| 2 ^ j)) (fun j => !A.testBit j) l (mR w X l d (p + 1) A) := if_pos h
theorem mR_n {w : Nat → Nat → Int} {X l d p A : Nat} (h : X.testBit p = false) : mR w X l (d + 1) p A = mR w X l d (p + 1) A := if_neg (by rw [h]; decide)
theorem mR_le {w : Nat → Nat → Int} {X l d p A : Nat} (h : X.testBit p = true) {x : Int} : mR w X l (d + 1) p A ≤ x ↔ mR w X l d (p + 1) A ≤ x ∧ ∀ j, j < l → A.testBit j = false → w p j + mR w X l d (p + 1) (A ||| 2 ^ j) ≤ x := by
  rw [mR_y h, mx_le]
  constructor
  · rintro ⟨h1, h2⟩
    exact ⟨h1, fun j hj hA => h2 j hj (by rw [hA]; rfl)⟩
  · rintro ⟨h1, h2⟩
    exact ⟨h1, fun j hj hA => h2 j hj (by cases hb : A.testBit j with | false => rfl | true => rw [hb] at hA; cases hA)⟩
theorem mR_X {w : Nat → Nat → Int} {X X' l : Nat} : ∀ d p A, (∀ i, p ≤ i → X.testBit i = X'.testBit i) → mR w X l d p A = mR w X' l d p A
  | 0, _, _, _ => rfl
  | d + 1, p, A, h => by
    have ih := fun A => mR_X (w := w) (l := l) d (p + 1) A (fun i hi => h i (by omega))
    have hf : (fun j => w p j + mR w X l d (p + 1) (A ||| 2 ^ j)) = (fun j => w p j + mR w X' l d (p + 1) (A ||| 2 ^ j)) := funext fun j => by rw [ih]
    cases hp : X.testBit p with
    | true =>
      have hp' : X'.testBit p = true := by rw [← h p (Nat.le_refl p)]; exact hp
      rw [mR_y hp, mR_y hp', hf, ih]
    | false =>
      have hp' : X'.testBit p = false := by rw [← h p (Nat.le_refl p)]; exact hp
      rw [mR_n hp, mR_n hp', ih]
theorem or_bit {A j i : Nat} : (A ||| 2 ^ j).testBit i = (A.testBit i || decide (j = i)) := by rw [Nat.testBit_or, Nat.testBit_two_pow]
/-- a LETTER that is taken -/
theorem mR_tk {w : Nat → Nat → Int} {X l : Nat} : ∀ d p A, A.testBit l = true → mR w X (l + 1) d p A = mR w X l d p A
  | 0, _, _, _ => rfl
  | d + 1, p, A, h => by
    have ih := fun A h => mR_tk (w := w) (X := X) (l := l) d (p + 1) A h
    cases hp : X.testBit p with
    | true =>
      refine le_eq fun x => ?_
      rw [mR_le hp, mR_le hp, ih A h]
      constructor
      · rintro ⟨h1, h2⟩
        refine ⟨h1, fun j hj hA => ?_⟩
        have := h2 j (by omega) hA
        rw [ih _ (by rw [or_bit, h]; rfl)] at this
        exact this
      · rintro ⟨h1, h2⟩
        refine ⟨h1, fun j hj hA => ?_⟩
        by_cases e : j = l
        · subst e; rw [h] at hA; cases hA
        · rw [ih _ (by rw [or_bit, h]; rfl)]
          exact h2 j (by omega) hA
    | false => rw [mR_n hp, mR_n hp, ih A h]
/-- a LETTER behind all that count -/
theorem mR_bh {w : Nat → Nat → Int} {X l : Nat} : ∀ d p A, mR w X l d p (A ||| 2 ^ l) = mR w X l d p A
  | 0, _, _ => rfl
  | d + 1, p, A => by
    have ih := fun A => mR_bh (w := w) (X := X) (l := l) d (p + 1) A
    have hc : ∀ j, (A ||| 2 ^ l) ||| 2 ^ j = (A ||| 2 ^ j) ||| 2 ^ l := fun j => by rw [Nat.or_assoc, Nat.or_comm (2 ^ l), ← Nat.or_assoc]
    cases hp : X.testBit p with
    | true =>
      refine le_eq fun x => ?_
      rw [mR_le hp, mR_le hp, ih A]
      constructor
      · rintro ⟨h1, h2⟩
        refine ⟨h1, fun j hj hA => ?_⟩
        have := h2 j hj (by rw [or_bit, hA, decide_eq_false (by omega)]; rfl)
        rw [hc, ih] at this
        exact this
      · rintro ⟨h1, h2⟩
        refine ⟨h1, fun j hj hA => ?_⟩
        rw [hc, ih]
        refine h2 j hj ?_
        rw [or_bit, decide_eq_false (by omega), Bool.or_false] at hA
        exact hA
    | false => rw [mR_n hp, mR_n hp, ih A]
theorem mR_0 {w : Nat → Nat → Int} {X : Nat} : ∀ d p A, mR w X 0 d p A = 0
  | 0, _, _ => rfl
  | d + 1, p, A => by
    cases hp : X.testBit p with
    | true => rw [mR_y hp]; exact mR_0 d (p + 1) A
    | false => rw [mR_n hp]; exact mR_0 d (p + 1) A
theorem less_bit {X q i : Nat} : (andn X (2 ^ q)).testBit i = (X.testBit i && !decide (q = i)) := by rw [andn_bit, Nat.testBit_two_pow]
/-- a LETTER more: it goes to nobody, or to one of X -/
theorem mR_el {w : Nat → Nat → Int} {l : Nat} : ∀ d p A X, A.testBit l = false → ∀ x, mR w X (l + 1) d p A ≤ x ↔ mR w X l d p A ≤ x ∧ ∀ q, p ≤ q → q < p + d → X.testBit q = true → mR w (andn X (2 ^ q)) l d p A + w q l ≤ x
  | 0, p, A, X, _, x => ⟨fun h => ⟨h, fun q h1 h2 => by omega⟩, fun h => h.1⟩
  | d + 1, p, A, X, hA, x => by
    have ih := mR_el (w := w) (l := l) d (p + 1)
    cases hp : X.testBit p with
    | false =>
      rw [mR_n hp, mR_n hp, ih A X hA]
      constructor
      · rintro ⟨h1, h2⟩
        refine ⟨h1, fun q q1 q2 q3 => ?_⟩
        have hne : q ≠ p := fun e => by subst e; rw [hp] at q3; cases q3
        rw [mR_n (by rw [less_bit, hp]; rfl)]
        exact h2 q (by omega) (by omega) q3
      · rintro ⟨h1, h2⟩
        refine ⟨h1, fun q q1 q2 q3 => ?_⟩
        have := h2 q (by omega) (by omega) q3
        rw [mR_n (by rw [less_bit, hp]; rfl)] at this
        exact this
    | true =>
      have hlast : mR w X (l + 1) d (p + 1) (A ||| 2 ^ l) = mR w X l d (p + 1) A := by
        rw [mR_tk d (p + 1) _ (by rw [or_bit, decide_eq_true rfl, Bool.or_true]), mR_bh]
      have hself : mR w (andn X (2 ^ p)) l (d + 1) p A = mR w X l d (p + 1) A := by
        rw [mR_n (by rw [less_bit, decide_eq_true rfl]; simp)]
        exact mR_X d (p + 1) A (fun i hi => by rw [less_bit, decide_eq_false (by omega)]; simp)
      have hj : ∀ j, j < l → A.testBit j = false → (A ||| 2 ^ j).testBit l = false := fun j hj _ => by rw [or_bit, hA, decide_eq_false (by omega)]; rfl
      rw [mR_le hp, mR_le hp, ih A X hA]
      constructor
      · rintro ⟨⟨a1, a2⟩, b⟩
        refine ⟨⟨a1, fun j j1 j2 => ?_⟩, fun q q1 q2 q3 => ?_⟩
        · have := b j (by omega) j2
          have h2 := ((ih (A ||| 2 ^ j) X (hj j j1 j2) (x - w p j)).mp (by omega)).1
          omega
        · by_cases e : q = p
          · subst e
            have := b l (by omega) hA
            rw [hlast] at this
            rw [hself]
            omega
          · have hpq : (andn X (2 ^ q)).testBit p = true := by rw [less_bit, hp, decide_eq_false (by omega)]; rfl
            have : mR w (andn X (2 ^ q)) l (d + 1) p A ≤ x - w q l := by
              rw [mR_le hpq]
              refine ⟨by have := a2 q (by omega) (by omega) q3; omega, fun j j1 j2 => ?_⟩
              have := b j (by omega) j2
              have h2 := ((ih (A ||| 2 ^ j) X (hj j j1 j2) (x - w p j)).mp (by omega)).2 q (by omega) (by omega) q3
              omega
            omega
      · rintro ⟨⟨a1, a2⟩, b⟩
        refine ⟨⟨a1, fun q q1 q2 q3 => ?_⟩, fun j j1 j2 => ?_⟩
        · have hpq : (andn X (2 ^ q)).testBit p = true := by rw [less_bit, hp, decide_eq_false (by omega)]; rfl
          have h1 := b q (by omega) (by omega) q3
          have h2 : mR w (andn X (2 ^ q)) l (d + 1) p A ≤ x - w q l := by omega
          rw [mR_le hpq] at h2
          omega
        · by_cases e : j = l
          · subst e
            have := b p (Nat.le_refl p) (by omega) hp
            rw [hself] at this
            rw [hlast]
            omega
          · have : mR w X (l + 1) d (p + 1) (A ||| 2 ^ j) ≤ x - w p j := by
              rw [ih (A ||| 2 ^ j) X (hj j (by omega) j2)]
              refine ⟨by have := a2 j (by omega) j2; omega, fun q q1 q2 q3 => ?_⟩
              have hpq : (andn X (2 ^ q)).testBit p = true := by rw [less_bit, hp, decide_eq_false (by omega)]; rfl
              have h1 := b q (by omega) (by omega) q3
              have h2 : mR w (andn X (2 ^ q)) l (d + 1) p A ≤ x - w q l := by omega
              rw [mR_le hpq] at h2
              have := h2.2 j (by omega) j2
              omega
            omega
/-- so the class's table goes on from LETTER to LETTER -/
theorem mR_step {w : Nat → Nat → Int} {l P X : Nat} : mR w X (l + 1) P 0 0 = mx (fun q => mR w (andn X (2 ^ q)) l P 0 0 + w q l) (fun q => X.testBit q) P (mR w X l P 0 0) := by
  refine le_eq fun x => ?_
  rw [mR_el P 0 0 X (Nat.zero_testBit l), mx_le]
  constructor
  · rintro ⟨h1, h2⟩
    exact ⟨h1, fun q hq hX => h2 q (Nat.zero_le q) (by omega) hX⟩
  · rintro ⟨h1, h2⟩
    exact ⟨h1, fun q _ hq hX => h2 q (by omega) hX⟩
/-- bounds -/
theorem mR_ge {w : Nat → Nat → Int} {X l : Nat} : ∀ d p A, 0 ≤ mR w X l d p A
  | 0, _, _ => Int.le_refl 0
  | d + 1, p, A => by
    cases hp : X.testBit p with
    | true =>
      have h1 := mR_ge (w := w) (X := X) (l := l) d (p + 1) A
      have h2 := ((mR_le (w := w) (l := l) (d := d) (A := A) hp (x := mR w X l (d + 1) p A)).mp (Int.le_refl _)).1
      omega
    | false => rw [mR_n hp]; exact mR_ge d (p + 1) A
theorem mR_b {w : Nat → Nat → Int} {X l : Nat} {B : Int} (hB : 0 ≤ B) (hw : ∀ p j, j < l → w p j ≤ B) : ∀ d p A, mR w X l d p A ≤ d * B
  | 0, _, _ => by rw [Int.natCast_zero, Int.zero_mul]; exact Int.le_refl 0
  | d + 1, p, A => by
    have e : ((d + 1 : Nat) : Int) * B = d * B + B := by rw [Int.natCast_add, Int.add_mul]; simp
    rw [e]
    cases hp : X.testBit p with
    | true =>
      rw [mR_le hp]
      refine ⟨by have := mR_b (X := X) hB hw d (p + 1) A; omega, fun j hj _ => ?_⟩
      have h1 := hw p j hj
      have h2 := mR_b (X := X) hB hw d (p + 1) (A ||| 2 ^ j)
      omega
    | false =>
      rw [mR_n hp]
      have := mR_b (X := X) hB hw d (p + 1) A
      omega
theorem mR_mono {w : Nat → Nat → Int} {X l : Nat} : ∀ d p A A', (∀ i, A.testBit i = true → A'.testBit i = true) → mR w X l d p A' ≤ mR w X l d p A
  | 0, _, _, _, _ => Int.le_refl 0
  | d + 1, p, A, A', h => by
    cases hp : X.testBit p with
    | true =>
      obtain ⟨h1, h2⟩ := (mR_le (w := w) (l := l) (d := d) (A := A) hp (x := mR w X l (d + 1) p A)).mp (Int.le_refl _)
      rw [mR_le hp]
      refine ⟨by have := mR_mono (w := w) (X := X) (l := l) d (p + 1) A A' h; omega, fun j hj hA' => ?_⟩
      have hA : A.testBit j = false := by
        cases hb : A.testBit j with
        | false => rfl
        | true => rw [h j hb] at hA'; cases hA'
      have h3 := h2 j hj hA
      have h4 := mR_mono (w := w) (X := X) (l := l) d (p + 1) (A ||| 2 ^ j) (A' ||| 2 ^ j) (fun i hi => by
        rw [or_bit] at hi ⊢
        cases hb : A.testBit i with
        | true => rw [h i hb]; rfl
        | false => rw [hb, Bool.false_or] at hi; rw [hi, Bool.or_true])
      omega
    | false =>
      rw [mR_n hp, mR_n hp]
      exact mR_mono d (p + 1) A A' h
