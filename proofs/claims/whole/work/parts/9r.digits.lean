/-! PAIRS: the first of the most; numbers alone -/
theorem mx_at {f : Nat → Int} {ok : Nat → Bool} {v : Int} : ∀ n, mx f ok n v = v ∨ ∃ j, j < n ∧ ok j = true ∧ mx f ok n v = f j
  | 0 => Or.inl rfl
  | n + 1 => by
    have hst : mx f ok (n + 1) v = if ok n = true then (if f n ≤ mx f ok n v then mx f ok n v else f n) else mx f ok n v := rfl
    rw [hst]
    have keep : mx f ok n v = v ∨ ∃ j, j < n + 1 ∧ ok j = true ∧ mx f ok n v = f j := by
      rcases mx_at (f := f) (ok := ok) (v := v) n with h | ⟨j, h1, h2, h3⟩
      · exact Or.inl h
      · exact Or.inr ⟨j, by omega, h2, h3⟩
    by_cases c : ok n = true
    · rw [if_pos c]
      by_cases c2 : f n ≤ mx f ok n v
      · rw [if_pos c2]; exact keep
      · rw [if_neg c2]; exact Or.inr ⟨n, by omega, c, rfl⟩
    · rw [if_neg c]; exact keep
theorem fB_spec {C : Nat → Bool} : ∀ d b, (fB C d b = none → ∀ j, b ≤ j → j < b + d → C j = false) ∧ ∀ l, fB C d b = some l → b ≤ l ∧ l < b + d ∧ C l = true ∧ ∀ j, b ≤ j → j < l → C j = false
  | 0, b => ⟨fun _ j h1 h2 => by omega, fun l h => (by cases h)⟩
  | d + 1, b => by
    obtain ⟨h1, h2⟩ := fB_spec (C := C) d (b + 1)
    have hst : fB C (d + 1) b = if C b = true then some b else fB C d (b + 1) := rfl
    rw [hst]
    by_cases c : C b = true
    · rw [if_pos c]
      refine ⟨fun h => (by cases h), fun l h => ?_⟩
      have hl : b = l := Option.some.inj h
      subst hl
      exact ⟨Nat.le_refl b, by omega, c, fun j a1 a2 => by omega⟩
    · rw [if_neg c]
      have c' : C b = false := by simpa using c
      refine ⟨fun h j a1 a2 => ?_, fun l h => ?_⟩
      · by_cases e : j = b
        · subst e; exact c'
        · exact h1 h j (by omega) (by omega)
      · obtain ⟨g1, g2, g3, g4⟩ := h2 l h
        refine ⟨by omega, by omega, g3, fun j a1 a2 => ?_⟩
        by_cases e : j = b
        · subst e; exact c'
        · exact g4 j (by omega) a2
def w1 (fit : Nat → Nat → Bool) (p l : Nat) : Int := if fit p l = true then 1 else -99
def wcl (fit : Nat → Nat → Bool) (p l : Nat) : Int := if fit p l = true then 33554432 + ((((10 - l) * 11 ^ (6 - p) : Nat)) : Int) else 0
def gpick (fit : Nat → Nat → Bool) (P L d p A : Nat) : Option Nat := fB (fun l => !A.testBit l && (fit p l && decide (1 + mR (w1 fit) (2 ^ P - 1) L d (p + 1) (A ||| 2 ^ l) = mR (w1 fit) (2 ^ P - 1) L (d + 1) p A))) L 0
def gnx (A : Nat) (o : Option Nat) : Nat := match o with
  | none => A
  | some l => A ||| 2 ^ l
def gdig (o : Option Nat) : Nat := match o with
  | none => 0
  | some l => 10 - l
def gD (fit : Nat → Nat → Bool) (P L : Nat) : Nat → Nat → Nat → Nat
  | 0, _, _ => 0
  | d + 1, p, A => gdig (gpick fit P L d p A) * 11 ^ (6 - p) + gD fit P L d (p + 1) (gnx A (gpick fit P L d p A))
theorem e11 {p : Nat} (hp : p < 7) : 11 ^ (7 - p) = 11 * 11 ^ (6 - p) ∧ 11 ^ (7 - p) ≤ 19487171 ∧ 0 < 11 ^ (6 - p) ∧ 11 ^ (6 - p) = 11 ^ (7 - (p + 1)) := by
  refine ⟨?_, ?_, Nat.pow_pos (by decide), by rw [show 7 - (p + 1) = 6 - p by omega]⟩
  · rw [show 7 - p = (6 - p) + 1 by omega, Nat.pow_succ, Nat.mul_comm]
  · have : 11 ^ (7 - p) ≤ 11 ^ 7 := Nat.pow_le_pow_right (by decide) (by omega)
    omega
theorem gdig_le (o : Option Nat) : gdig o ≤ 10 := by
  cases o with
  | none => exact Nat.zero_le _
  | some l => show 10 - l ≤ 10; omega
theorem gD_lt {fit : Nat → Nat → Bool} {P L : Nat} : ∀ d p A, d + p ≤ 7 → gD fit P L d p A < 11 ^ (7 - p)
  | 0, p, _, _ => Nat.pow_pos (by decide)
  | d + 1, p, A, h => by
    obtain ⟨e1, e2, e3, e4⟩ := e11 (p := p) (by omega)
    have h1 := gD_lt (fit := fit) (P := P) (L := L) d (p + 1) (gnx A (gpick fit P L d p A)) (by omega)
    have h2 := Nat.mul_le_mul_right (11 ^ (6 - p)) (gdig_le (gpick fit P L d p A))
    show gdig (gpick fit P L d p A) * 11 ^ (6 - p) + gD fit P L d (p + 1) _ < 11 ^ (7 - p)
    rw [← e4] at h1
    omega
theorem gD_eq {fit : Nat → Nat → Bool} {P L : Nat} (hP : P ≤ 7) (hL : L ≤ 10) : ∀ d p A, d + p = P → mR (wcl fit) (2 ^ P - 1) L d p A = 33554432 * mR (w1 fit) (2 ^ P - 1) L d p A + (gD fit P L d p A : Int)
  | 0, p, A, _ => rfl
  | d + 1, p, A, hd => by
    have ih := fun A => gD_eq (fit := fit) hP hL d (p + 1) A (by omega)
    have hfull : (2 ^ P - 1).testBit p = true := by rw [tb1, decide_eq_true (by omega)]
    obtain ⟨e1, e2, e3, e4⟩ := e11 (p := p) (by omega)
    have hDb := fun A => gD_lt (fit := fit) (P := P) (L := L) d (p + 1) A (by omega)
    rw [← e4] at hDb
    have hRg := fun A => mR_ge (w := w1 fit) (X := 2 ^ P - 1) (l := L) d (p + 1) A
    have hRb := fun A => mR_b (w := w1 fit) (X := 2 ^ P - 1) (l := L) (B := 1) (by omega) (fun p j _ => by unfold w1; split <;> omega) d (p + 1) A
    obtain ⟨c1, c2⟩ := (mR_le (w := w1 fit) (l := L) (d := d) (A := A) hfull (x := mR (w1 fit) (2 ^ P - 1) L (d + 1) p A)).mp (Int.le_refl _)
    have hat := mx_at (f := fun j => w1 fit p j + mR (w1 fit) (2 ^ P - 1) L d (p + 1) (A ||| 2 ^ j)) (ok := fun j => !A.testBit j) (v := mR (w1 fit) (2 ^ P - 1) L d (p + 1) A) L
    rw [← mR_y hfull] at hat
    have hmono := fun l => mR_mono (w := wcl fit) (X := 2 ^ P - 1) (l := L) d (p + 1) A (A ||| 2 ^ l) (fun i hi => by rw [or_bit, hi]; rfl)
    obtain ⟨w1', w2'⟩ := (mR_le (w := wcl fit) (l := L) (d := d) (A := A) hfull (x := mR (wcl fit) (2 ^ P - 1) L (d + 1) p A)).mp (Int.le_refl _)
    obtain ⟨s1, s2⟩ := fB_spec (C := fun l => !A.testBit l && (fit p l && decide (1 + mR (w1 fit) (2 ^ P - 1) L d (p + 1) (A ||| 2 ^ l) = mR (w1 fit) (2 ^ P - 1) L (d + 1) p A))) L 0
    have hst : gD fit P L (d + 1) p A = gdig (gpick fit P L d p A) * 11 ^ (6 - p) + gD fit P L d (p + 1) (gnx A (gpick fit P L d p A)) := rfl
    have hpk : gpick fit P L d p A = fB (fun l => !A.testBit l && (fit p l && decide (1 + mR (w1 fit) (2 ^ P - 1) L d (p + 1) (A ||| 2 ^ l) = mR (w1 fit) (2 ^ P - 1) L (d + 1) p A))) L 0 := rfl
    rw [hst]
    rw [← hpk] at s1 s2
    clear hst hpk
    generalize gpick fit P L d p A = o at s1 s2 ⊢
    generalize hc : mR (w1 fit) (2 ^ P - 1) L (d + 1) p A = c at c1 c2 hat s1 s2 ⊢
    generalize hE : 11 ^ (6 - p) = E at e1 e3 hDb ⊢
    have hEb : 11 * E ≤ 19487171 := by omega
    have hwf : ∀ l, fit p l = true → wcl fit p l = 33554432 + (((10 - l) * E : Nat) : Int) := fun l hl => by
      unfold wcl
      rw [if_pos hl, hE]
    have hwn : ∀ l, ¬ fit p l = true → wcl fit p l = 0 := fun l hl => if_neg hl
    have h1f : ∀ l, fit p l = true → w1 fit p l = 1 := fun l hl => if_pos hl
    have h1n : ∀ l, ¬ fit p l = true → w1 fit p l = -99 := fun l hl => if_neg hl
    have hml : ∀ l, (10 - l) * E ≤ 10 * E := fun l => Nat.mul_le_mul_right E (by omega)
    cases o with
    | none =>
      have s1 := s1 rfl
      have hcN : c = mR (w1 fit) (2 ^ P - 1) L d (p + 1) A := by
        rcases hat with h | ⟨j, j1, j2, j3⟩
        · exact h
        · have j2' : A.testBit j = false := by cases hb : A.testBit j with | false => rfl | true => (simp only [hb] at j2; cases j2)
          by_cases q : fit p j = true
          · rw [h1f j q] at j3
            have := s1 j (Nat.zero_le j) (by omega)
            rw [j2', q, decide_eq_true j3.symm] at this
            cases this
          · rw [h1n j q] at j3
            have a1 := hRb (A ||| 2 ^ j)
            have a2 := hRg A
            omega
      have hT : (33554432 * c + ((gdig none * E + gD fit P L d (p + 1) (gnx A none) : Nat) : Int)) = mR (wcl fit) (2 ^ P - 1) L d (p + 1) A := by
        rw [ih A, ← hcN]
        have : gdig none * E + gD fit P L d (p + 1) (gnx A none) = gD fit P L d (p + 1) A := by
          show 0 * E + gD fit P L d (p + 1) A = _
          rw [Nat.zero_mul, Nat.zero_add]
        rw [this]
      rw [hT]
      refine Int.le_antisymm ?_ w1'
      rw [mR_le hfull]
      refine ⟨Int.le_refl _, fun l hl hA => ?_⟩
      by_cases q : fit p l = true
      · have a1 := c2 l hl hA
        rw [h1f l q] at a1
        have hne : ¬ 1 + mR (w1 fit) (2 ^ P - 1) L d (p + 1) (A ||| 2 ^ l) = c := fun z => by
          have := s1 l (Nat.zero_le l) (by omega)
          rw [hA, q, decide_eq_true z] at this
          cases this
        rw [hwf l q, ih, ih, ← hcN]
        have a2 := hDb (A ||| 2 ^ l)
        have a3 := hml l
        omega
      · rw [hwn l q]
        have := hmono l
        omega
    | some l0 =>
      obtain ⟨-, g1, g2, g3⟩ := s2 l0 rfl
      rw [Bool.and_eq_true, Bool.and_eq_true, decide_eq_true_eq] at g2
      obtain ⟨g2a, g2b, g2c⟩ := g2
      have hA0 : A.testBit l0 = false := by cases hb : A.testBit l0 with | false => rfl | true => (rw [hb] at g2a; cases g2a)
      have hT : (33554432 * c + ((gdig (some l0) * E + gD fit P L d (p + 1) (gnx A (some l0)) : Nat) : Int)) = wcl fit p l0 + mR (wcl fit) (2 ^ P - 1) L d (p + 1) (A ||| 2 ^ l0) := by
        rw [ih, hwf l0 g2b]
        have : gdig (some l0) * E + gD fit P L d (p + 1) (gnx A (some l0)) = (10 - l0) * E + gD fit P L d (p + 1) (A ||| 2 ^ l0) := rfl
        rw [this]
        omega
      have hup : 33554432 * c + (((10 - l0) * E : Nat) : Int) ≤ wcl fit p l0 + mR (wcl fit) (2 ^ P - 1) L d (p + 1) (A ||| 2 ^ l0) := by
        rw [ih, hwf l0 g2b]
        omega
      have hE1 : E ≤ (10 - l0) * E := by
        have := Nat.mul_le_mul_right E (show 1 ≤ 10 - l0 by omega)
        omega
      have hnone : mR (wcl fit) (2 ^ P - 1) L d (p + 1) A ≤ wcl fit p l0 + mR (wcl fit) (2 ^ P - 1) L d (p + 1) (A ||| 2 ^ l0) := by
        rw [ih A]
        have := hDb A
        omega
      rw [hT]
      refine Int.le_antisymm ?_ (w2' l0 (by omega) hA0)
      rw [mR_le hfull]
      refine ⟨hnone, fun l hl hA => ?_⟩
      by_cases q : fit p l = true
      · have a1 := c2 l hl hA
        rw [h1f l q] at a1
        have a2 := hDb (A ||| 2 ^ l)
        have a3 := hml l
        by_cases e : 1 + mR (w1 fit) (2 ^ P - 1) L d (p + 1) (A ||| 2 ^ l) = c
        · by_cases e2 : l = l0
          · subst e2; exact Int.le_refl _
          · have hlt : l0 < l := by
              by_cases e3 : l < l0
              · have := g3 l (Nat.zero_le l) e3
                rw [hA, q, decide_eq_true e] at this
                cases this
              · omega
            have a4 := Nat.mul_le_mul_right E (show (10 - l) + 1 ≤ 10 - l0 by omega)
            rw [Nat.add_mul, Nat.one_mul] at a4
            rw [hwf l q, ih (A ||| 2 ^ l)]
            omega
        · rw [hwf l q, ih (A ||| 2 ^ l)]
          omega
      · rw [hwn l q]
        have := hmono l
        omega
def gA (fit : Nat → Nat → Bool) (P L : Nat) : Nat → Nat
  | 0 => 0
  | p + 1 => gnx (gA fit P L p) (gpick fit P L (P - 1 - p) p (gA fit P L p))
theorem gD_dig {fit : Nat → Nat → Bool} {P L x : Nat} (hP : P ≤ 7) (hx : x < P) : ∀ n p, p + n = x → gD fit P L (P - p) p (gA fit P L p) / 11 ^ (6 - x) % 11 = gdig (gpick fit P L (P - 1 - x) x (gA fit P L x))
  | 0, p, h => by
    have hp : p = x := h
    subst hp
    obtain ⟨e1, e2, e3, e4⟩ := e11 (p := p) (by omega)
    rw [show P - p = (P - 1 - p) + 1 by omega]
    have hb := gD_lt (fit := fit) (P := P) (L := L) (P - 1 - p) (p + 1) (gnx (gA fit P L p) (gpick fit P L (P - 1 - p) p (gA fit P L p))) (by omega)
    rw [← e4] at hb
    have hg := gdig_le (gpick fit P L (P - 1 - p) p (gA fit P L p))
    show (gdig (gpick fit P L (P - 1 - p) p (gA fit P L p)) * 11 ^ (6 - p) + gD fit P L (P - 1 - p) (p + 1) _) / 11 ^ (6 - p) % 11 = _
    rw [Nat.mul_comm, Nat.mul_add_div e3, Nat.div_eq_of_lt hb, Nat.add_zero]
    exact Nat.mod_eq_of_lt (by omega)
  | n + 1, p, h => by
    have ih := gD_dig (fit := fit) (L := L) hP hx n (p + 1) (by omega)
    have e3 : 0 < 11 ^ (6 - x) := Nat.pow_pos (by decide)
    rw [show P - p = (P - 1 - p) + 1 by omega]
    show (gdig (gpick fit P L (P - 1 - p) p (gA fit P L p)) * 11 ^ (6 - p) + gD fit P L (P - 1 - p) (p + 1) _) / 11 ^ (6 - x) % 11 = _
    rw [show P - (p + 1) = P - 1 - p by omega] at ih
    have hA : gA fit P L (p + 1) = gnx (gA fit P L p) (gpick fit P L (P - 1 - p) p (gA fit P L p)) := rfl
    rw [hA] at ih
    generalize gD fit P L (P - 1 - p) (p + 1) (gnx (gA fit P L p) (gpick fit P L (P - 1 - p) p (gA fit P L p))) = b at ih ⊢
    generalize gdig (gpick fit P L (P - 1 - p) p (gA fit P L p)) = a
    have he : a * 11 ^ (6 - p) = 11 ^ (6 - x) * (11 * (a * 11 ^ n)) := by
      rw [show 6 - p = (6 - x) + (n + 1) by omega, Nat.pow_add, Nat.pow_succ]
      rw [Nat.mul_left_comm a, Nat.mul_comm (11 ^ n) 11, Nat.mul_left_comm a 11]
    rw [he, Nat.mul_add_div e3, Nat.mul_add_mod]
    exact ih
