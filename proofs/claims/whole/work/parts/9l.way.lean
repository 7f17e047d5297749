/-! way: by which order fewest read it; numbers alone -/
theorem pc_or : ∀ k, k < 128 → ∀ p, p < 7 → k.testBit p = false → pc (k ||| 2 ^ p) = pc k + 1 ∧ k ||| 2 ^ p < 128 ∧ k < k ||| 2 ^ p := by decide +kernel
theorem pc_room : ∀ P, P < 8 → ∀ k, k < 2 ^ P → pc k ≤ P ∧ (∀ p, p < P → k.testBit p = false → k ||| 2 ^ p < 2 ^ P) := by decide +kernel
theorem pc_twoC : ∀ P, P < 8 → ∀ k, k < 2 ^ P → ∀ q, q < P → ((List.range P).all fun p => decide (p = q) || k.testBit p) = true → P ≤ pc k + 1 := by decide +kernel
theorem pc_two (P : Nat) (hP : P < 8) (k : Nat) (hk : k < 2 ^ P) (q : Nat) (hq : q < P) (h : pc k + 2 ≤ P) : ∃ p, p < P ∧ p ≠ q ∧ k.testBit p = false := by
  refine Classical.byContradiction fun hn => ?_
  have := pc_twoC P hP k hk q hq (List.all_eq_true.mpr fun p h1 => by
    by_cases h2 : p = q
    · rw [decide_eq_true h2, Bool.true_or]
    · cases hv : k.testBit p with
      | true => rw [Bool.or_true]
      | false => exact absurd ⟨p, List.mem_range.mp h1, h2, hv⟩ hn)
  omega
def wrb (K : Nat → Nat → Bool) (T : Nat → Nat) (k p : Nat) : Nat := if K (pc k) p = true then 1 else T (k ||| 2 ^ p) + 1
def wnx (K : Nat → Nat → Bool) (T : Nat → Nat) (k : Nat) : Nat → Option Nat
  | 0 => none
  | p + 1 => if k.testBit p = true then wnx K T k p else match wnx K T k p with
    | none => some p
    | some b => if wrb K T k b ≤ wrb K T k p then some b else some p
theorem wnx_spec {K : Nat → Nat → Bool} {T : Nat → Nat} {k : Nat} : ∀ n, (wnx K T k n = none → ∀ p, p < n → k.testBit p = true) ∧ ∀ b, wnx K T k n = some b → b < n ∧ k.testBit b = false ∧ (∀ p, p < n → k.testBit p = false → wrb K T k b ≤ wrb K T k p) ∧ ∀ p, p < b → k.testBit p = false → wrb K T k b < wrb K T k p
  | 0 => ⟨fun _ p hp => absurd hp (Nat.not_lt_zero p), fun b h => (by cases h)⟩
  | n + 1 => by
    obtain ⟨h1, h2⟩ := wnx_spec (K := K) (T := T) (k := k) n
    have hst : wnx K T k (n + 1) = if k.testBit n = true then wnx K T k n else match wnx K T k n with
      | none => some n
      | some b => if wrb K T k b ≤ wrb K T k n then some b else some n := rfl
    rw [hst]
    by_cases q : k.testBit n = true
    · rw [if_pos q]
      refine ⟨fun h p hp => ?_, fun b h => ?_⟩
      · by_cases e : p = n
        · subst e; exact q
        · exact h1 h p (by omega)
      · obtain ⟨g1, g2, g3, g4⟩ := h2 b h
        refine ⟨by omega, g2, fun p hp hu => ?_, g4⟩
        by_cases e : p = n
        · subst e; rw [q] at hu; cases hu
        · exact g3 p (by omega) hu
    · rw [if_neg q]
      have q' : k.testBit n = false := by simpa using q
      cases hw : wnx K T k n with
      | none =>
        have hall := h1 hw
        refine ⟨fun h => (by cases h), fun b h => ?_⟩
        have hb : n = b := Option.some.inj h
        subst hb
        refine ⟨by omega, q', fun p hp hu => ?_, fun p hp hu => ?_⟩
        · by_cases e : p = n
          · subst e; exact Nat.le_refl _
          · rw [hall p (by omega)] at hu; cases hu
        · rw [hall p hp] at hu; cases hu
      | some b0 =>
        obtain ⟨g1, g2, g3, g4⟩ := h2 b0 hw
        dsimp only
        by_cases c : wrb K T k b0 ≤ wrb K T k n
        · rw [if_pos c]
          refine ⟨fun h => (by cases h), fun b h => ?_⟩
          have hb : b0 = b := Option.some.inj h
          subst hb
          refine ⟨by omega, g2, fun p hp hu => ?_, g4⟩
          by_cases e : p = n
          · subst e; exact c
          · exact g3 p (by omega) hu
        · rw [if_neg c]
          refine ⟨fun h => (by cases h), fun b h => ?_⟩
          have hb : n = b := Option.some.inj h
          subst hb
          refine ⟨by omega, q', fun p hp hu => ?_, fun p hp hu => ?_⟩
          · by_cases e : p = n
            · subst e; exact Nat.le_refl _
            · have := g3 p (by omega) hu; omega
          · have := g3 p hp hu; omega
theorem wnx_eq {K : Nat → Nat → Bool} {T : Nat → Nat} {k n b : Nat} (hb : b < n) (hu : k.testBit b = false) (h1 : ∀ p, p < n → k.testBit p = false → wrb K T k b ≤ wrb K T k p) (h2 : ∀ p, p < b → k.testBit p = false → wrb K T k b < wrb K T k p) : wnx K T k n = some b := by
  obtain ⟨s1, s2⟩ := wnx_spec (K := K) (T := T) (k := k) n
  cases h : wnx K T k n with
  | none =>
    rw [s1 h b hb] at hu
    cases hu
  | some c =>
    obtain ⟨g1, g2, g3, g4⟩ := s2 c h
    have a1 := g3 b hb hu
    have a2 := h1 c g1 g2
    congr 1
    by_cases e1 : b < c
    · have := g4 b e1 hu; omega
    · by_cases e2 : c < b
      · have := h2 c e2 g2; omega
      · omega
def wval (K : Nat → Nat → Bool) (T : Nat → Nat) (P k : Nat) : Nat := match wnx K T k P with
  | none => 99
  | some b => wrb K T k b
def IsC (K : Nat → Nat → Bool) (P : Nat) (C : Nat → Nat) : Prop := ∀ k, k < 2 ^ P → C k = wval K C P k
theorem IsC.some {K : Nat → Nat → Bool} {P : Nat} {C : Nat → Nat} (h : IsC K P C) {k b : Nat} (hk : k < 2 ^ P) (e : wnx K C k P = some b) : C k = wrb K C k b := by
  rw [h k hk]
  unfold wval
  rw [e]
theorem IsC.none {K : Nat → Nat → Bool} {P : Nat} {C : Nat → Nat} (h : IsC K P C) {k : Nat} (hk : k < 2 ^ P) (e : wnx K C k P = none) : C k = 99 := by
  rw [h k hk]
  unfold wval
  rw [e]
theorem wrb_f {K : Nat → Nat → Bool} {T : Nat → Nat} {k p : Nat} (h : K (pc k) p = false) : wrb K T k p = T (k ||| 2 ^ p) + 1 := by
  unfold wrb
  rw [h]
  exact if_neg (by decide)
theorem wrb_t {K : Nat → Nat → Bool} {T : Nat → Nat} {k p : Nat} (h : K (pc k) p = true) : wrb K T k p = 1 := if_pos h
theorem p7 {P k : Nat} (hP : P ≤ 7) (hk : k < 2 ^ P) : k < 128 := Nat.lt_of_lt_of_le hk (Nat.pow_le_pow_right (n := 2) (by decide) hP : 2 ^ P ≤ 2 ^ 7)
theorem wayN {K : Nat → Nat → Bool} {P : Nat} {C : Nat → Nat} (hP : P ≤ 7) (h : IsC K P C) (hK : ∀ s p, s < P → p < P → K s p = false) : ∀ n k, pc k + n = P → k < 2 ^ P → 99 ≤ C k
  | n, k, hn, hk => by
    cases e : wnx K C k P with
    | none => rw [h.none hk e]; exact Nat.le_refl _
    | some b =>
      obtain ⟨g1, g2, -, -⟩ := (wnx_spec P).2 b e
      obtain ⟨r1, r2, r3⟩ := pc_or k (p7 hP hk) b (by omega) g2
      have r4 := (pc_room P (by omega) k hk).2 b g1 g2
      have r5 := (pc_room P (by omega) _ r4).1
      rw [h.some hk e, wrb_f (hK _ b (by omega) g1)]
      match n, hn with
      | 0, hn => omega
      | n + 1, hn =>
        have := wayN hP h hK n (k ||| 2 ^ b) (by omega) r4
        omega
theorem wayA {K : Nat → Nat → Bool} {P : Nat} {C : Nat → Nat} (hP : P ≤ 7) (h : IsC K P C) {d : Nat} (hd : d ≤ P) : ∀ n k, pc k + n = P → k < 2 ^ P → (∀ s p, pc k ≤ s → s < d → p < P → K s p = false) → d + 1 ≤ C k + pc k
  | n, k, hn, hk, hK => by
    cases e : wnx K C k P with
    | none => rw [h.none hk e]; omega
    | some b =>
      obtain ⟨g1, g2, -, -⟩ := (wnx_spec P).2 b e
      obtain ⟨r1, r2, r3⟩ := pc_or k (p7 hP hk) b (by omega) g2
      have r4 := (pc_room P (by omega) k hk).2 b g1 g2
      have r5 := (pc_room P (by omega) _ r4).1
      rw [h.some hk e]
      by_cases q : K (pc k) b = true
      · rw [wrb_t q]
        by_cases hlt : pc k < d
        · rw [hK (pc k) b (Nat.le_refl _) hlt g1] at q
          cases q
        · omega
      · rw [wrb_f (by simpa using q)]
        match n, hn with
        | 0, hn => omega
        | n + 1, hn =>
          have := wayA hP h hd n (k ||| 2 ^ b) (by omega) r4 (fun s p h1 h2 h3 => hK s p (by omega) h2 h3)
          omega
theorem wayB {K : Nat → Nat → Bool} {P : Nat} {C : Nat → Nat} (hP : P ≤ 7) (h : IsC K P C) {s q : Nat} (hs : s < P) (hq : q < P) (hK : K s q = true) (hlow : ∀ s' p, s' < s → p < P → K s' p = false) : ∀ n k, pc k + n = s → k < 2 ^ P → k.testBit q = false → C k + pc k = s + 1
  | n, k, hn, hk, hu => by
    have hA := wayA hP h (d := s) (by omega) (P - pc k) k (by omega) hk (fun s' p _ h2 h3 => hlow s' p h2 h3)
    cases e : wnx K C k P with
    | none =>
      have := (wnx_spec P).1 e q hq
      rw [hu] at this
      cases this
    | some b =>
      obtain ⟨g1, g2, g3, -⟩ := (wnx_spec P).2 b e
      have hC := h.some hk e
      match n, hn with
      | 0, hn =>
        have hsk : pc k = s := hn
        have h3 := g3 q hq hu
        rw [wrb_t (k := k) (p := q) (by rw [hsk]; exact hK)] at h3
        omega
      | n + 1, hn =>
        obtain ⟨p, p1, p2, p3⟩ := pc_two P (by omega) k hk q hq (by omega)
        obtain ⟨r1, r2, r3⟩ := pc_or k (p7 hP hk) p (by omega) p3
        have r4 := (pc_room P (by omega) k hk).2 p p1 p3
        have h3 := g3 p p1 p3
        rw [wrb_f (k := k) (p := p) (hlow _ p (by omega) p1)] at h3
        have hu' : (k ||| 2 ^ p).testBit q = false := by
          rw [Nat.testBit_or, hu, Nat.testBit_two_pow, Bool.false_or, decide_eq_false p2]
        have := wayB hP h hs hq hK hlow n (k ||| 2 ^ p) (by omega) r4 hu'
        omega
theorem wayC {K : Nat → Nat → Bool} {P : Nat} {C : Nat → Nat} (hP : P ≤ 7) (h : IsC K P C) {s : Nat} (hs : s < P) (hlow : ∀ s' p, s' < s → p < P → K s' p = false) : ∀ n k, pc k + n = s → k < 2 ^ P → (∀ p, p < P → K s p = true → k.testBit p = true) → s + 2 ≤ C k + pc k
  | n, k, hn, hk, hall => by
    cases e : wnx K C k P with
    | none => rw [h.none hk e]; omega
    | some b =>
      obtain ⟨g1, g2, -, -⟩ := (wnx_spec P).2 b e
      obtain ⟨r1, r2, r3⟩ := pc_or k (p7 hP hk) b (by omega) g2
      have r4 := (pc_room P (by omega) k hk).2 b g1 g2
      have r5 := (pc_room P (by omega) _ r4).1
      have hKb : K (pc k) b = false := by
        by_cases e2 : pc k = s
        · rw [e2]
          cases hv : K s b with
          | false => rfl
          | true =>
            rw [hall b g1 hv] at g2
            cases g2
        · exact hlow _ b (by omega) g1
      rw [h.some hk e, wrb_f hKb]
      match n, hn with
      | 0, hn =>
        have := wayA hP h (d := pc (k ||| 2 ^ b)) r5 (P - pc (k ||| 2 ^ b)) (k ||| 2 ^ b) (by omega) r4 (fun s' p h1 h2 _ => absurd h2 (by omega))
        omega
      | n + 1, hn =>
        have := wayC hP h hs hlow n (k ||| 2 ^ b) (by omega) r4 (fun p h1 h2 => by rw [Nat.testBit_or, hall p h1 h2, Bool.true_or])
        omega
/-- ahead of the last: the least who is not the last one who would CLAIM it -/
theorem wayStep {K : Nat → Nat → Bool} {P : Nat} {C : Nat → Nat} (hP : P ≤ 7) (h : IsC K P C) {s : Nat} (hs : s < P) (hlow : ∀ s' p, s' < s → p < P → K s' p = false) {k b q : Nat} (hk : k < 2 ^ P) (hps : pc k < s) (hb : b < P) (hub : k.testBit b = false) (hq : q < P) (hKq : K s q = true) (huq : k.testBit q = false) (hqb : q ≠ b) (hbelow : ∀ p, p < b → k.testBit p = false → ∀ q', q' < P → K s q' = true → k.testBit q' = true ∨ q' = p) : wnx K C k P = some b := by
  have hrb : ∀ p, p < P → k.testBit p = false → wrb K C k p = C (k ||| 2 ^ p) + 1 ∧ pc (k ||| 2 ^ p) = pc k + 1 ∧ k ||| 2 ^ p < 2 ^ P := fun p hp hu => ⟨wrb_f (hlow _ p hps hp), (pc_or k (p7 hP hk) p (by omega) hu).1, (pc_room P (by omega) k hk).2 p hp hu⟩
  obtain ⟨b1, b2, b3⟩ := hrb b hb hub
  have hBb := wayB hP h hs hq hKq hlow (s - pc (k ||| 2 ^ b)) (k ||| 2 ^ b) (by omega) b3 (by rw [Nat.testBit_or, huq, Nat.testBit_two_pow, Bool.false_or, decide_eq_false (fun z => hqb z.symm)])
  refine wnx_eq hb hub (fun p hp hu => ?_) (fun p hp hu => ?_)
  · obtain ⟨p1, p2, p3⟩ := hrb p hp hu
    have := wayA hP h (d := s) (by omega) (P - pc (k ||| 2 ^ p)) (k ||| 2 ^ p) (by have := (pc_room P (by omega) _ p3).1; omega) p3 (fun s' p' _ h2 h3 => hlow s' p' h2 h3)
    omega
  · obtain ⟨p1, p2, p3⟩ := hrb p (by omega) hu
    have := wayC hP h hs hlow (s - pc (k ||| 2 ^ p)) (k ||| 2 ^ p) (by omega) p3 (fun q' hq' hK' => by
      rw [Nat.testBit_or]
      rcases hbelow p hp hu q' hq' hK' with z | z
      · rw [z, Bool.true_or]
      · rw [z, Nat.testBit_two_pow, decide_eq_true rfl, Bool.or_true])
    omega
theorem wayLast {K : Nat → Nat → Bool} {P : Nat} {C : Nat → Nat} (hP : P ≤ 7) (h : IsC K P C) {k b : Nat} (hk : k < 2 ^ P) (hb : b < P) (hub : k.testBit b = false) (hKb : K (pc k) b = true) (hbelow : ∀ p, p < b → k.testBit p = false → K (pc k) p = false) : wnx K C k P = some b := by
  refine wnx_eq hb hub (fun p hp hu => ?_) (fun p hp hu => ?_)
  · rw [wrb_t hKb]
    unfold wrb
    split <;> omega
  · have r4 := (pc_room P (by omega) k hk).2 p (by omega) hu
    have r5 := (pc_room P (by omega) _ r4).1
    have := wayA hP h (d := pc (k ||| 2 ^ p)) r5 (P - pc (k ||| 2 ^ p)) (k ||| 2 ^ p) (by omega) r4 (fun s' p h1 h2 _ => absurd h2 (by omega))
    rw [wrb_t hKb, wrb_f (hbelow p hp hu)]
    omega
/-- who CLAIMS it at place s -/
def IsAns (K : Nat → Bool) (s P q : Nat) : Prop := q < P ∧ K q = true ∧ (s ≤ q ∧ (∀ p, s ≤ p → p < q → K p = false) ∨ q < s ∧ ∀ p, q < p → p < P → K p = false)
def wsim (K : Nat → Nat → Bool) (C : Nat → Nat) (P : Nat) : Nat → Nat × Option Nat
  | 0 => (0, none)
  | i + 1 => ((wsim K C P i).1 ||| 2 ^ ((wnx K C (wsim K C P i).1 P).getD 0), wnx K C (wsim K C P i).1 P)
theorem msk1 : ∀ i, i < 7 → (2 ^ i - 1) ||| 2 ^ i = 2 ^ (i + 1) - 1 := by decide +kernel
theorem msk2 : ∀ q, q < 7 → ∀ i, i < 6 → q ≤ i → ((2 ^ (i + 1) - 1) ^^^ 2 ^ q) ||| 2 ^ (i + 1) = (2 ^ (i + 2) - 1) ^^^ 2 ^ q := by decide +kernel
theorem msk3 : ∀ q, q < 7 → (2 ^ (q + 1) - 1) ^^^ 2 ^ q = 2 ^ q - 1 := by decide +kernel
theorem msk4 : ∀ P, P < 8 → ∀ i, i < P → 2 ^ i - 1 < 2 ^ P ∧ pc (2 ^ i - 1) = i := by decide +kernel
theorem msk5 : ∀ P, P < 8 → ∀ i, i < P → ∀ q, q < P → q ≤ i → (2 ^ (i + 1) - 1) ^^^ 2 ^ q < 2 ^ P ∧ pc ((2 ^ (i + 1) - 1) ^^^ 2 ^ q) = i := by decide +kernel
theorem tb1 (i p : Nat) : (2 ^ i - 1).testBit p = decide (p < i) := Nat.testBit_two_pow_sub_one i p
theorem tb2 {i q p : Nat} (hq : q ≤ i) : ((2 ^ (i + 1) - 1) ^^^ 2 ^ q).testBit p = (decide (p < i + 1) && !decide (p = q)) := by
  rw [Nat.testBit_xor, tb1, Nat.testBit_two_pow]
  by_cases e : q = p
  · subst e
    rw [decide_eq_true (by omega : q < i + 1), decide_eq_true rfl]
    rfl
  · rw [decide_eq_false e, decide_eq_false (fun z => e z.symm : ¬ p = q)]
    cases decide (p < i + 1) <;> rfl
theorem way_sim {K : Nat → Nat → Bool} {P : Nat} {C : Nat → Nat} (hP : P ≤ 7) (h : IsC K P C) {s q : Nat} (hs : s < P) (hlow : ∀ s' p, s' < s → p < P → K s' p = false) (hA : IsAns (K s) s P q) : C 0 = s + 1 ∧ (∀ i, i ≤ s → (wsim K C P i).1 < 2 ^ P ∧ ∃ b, b < P ∧ wnx K C (wsim K C P i).1 P = some b) ∧ (wsim K C P (s + 1)).2 = some q := by
  obtain ⟨hq, hKq, hc⟩ := hA
  have h0 := wayB hP h hs hq hKq hlow s 0 (by rw [show pc 0 = 0 by decide]; omega) (Nat.two_pow_pos P) (Nat.zero_testBit q)
  rw [show pc 0 = 0 by decide] at h0
  rcases hc with ⟨hsq, hmid⟩ | ⟨hqs, hup⟩
  · have hm : ∀ i, i ≤ s → (wsim K C P i).1 = 2 ^ i - 1 ∧ wnx K C (2 ^ i - 1) P = some (if i = s then q else i) := by
      intro i
      induction i with
      | zero =>
        intro hi
        refine ⟨rfl, ?_⟩
        by_cases e : 0 = s
        · subst e
          rw [if_pos rfl]
          exact wayLast hP h (Nat.two_pow_pos P) hq (Nat.zero_testBit q) hKq (fun p hp _ => hmid p (by omega) hp)
        · rw [if_neg e]
          exact wayStep hP h hs hlow (Nat.two_pow_pos P) (by rw [show pc (2 ^ 0 - 1) = 0 by decide]; omega) (by omega) (Nat.zero_testBit 0) hq hKq (Nat.zero_testBit q) (by omega) (fun p hp => absurd hp (Nat.not_lt_zero p))
      | succ i ih =>
        intro hi
        obtain ⟨m1, m2⟩ := ih (by omega)
        rw [if_neg (by omega)] at m2
        have e1 : (wsim K C P (i + 1)).1 = 2 ^ (i + 1) - 1 := by
          show (wsim K C P i).1 ||| 2 ^ ((wnx K C (wsim K C P i).1 P).getD 0) = _
          rw [m1, m2]
          exact msk1 i (by omega)
        obtain ⟨k1, k2⟩ := msk4 P (by omega) (i + 1) (by omega)
        refine ⟨e1, ?_⟩
        by_cases e : i + 1 = s
        · rw [if_pos e]
          refine wayLast hP h k1 hq (by rw [tb1, decide_eq_false (by omega)]) (by rw [k2, e]; exact hKq) (fun p hp hu => ?_)
          rw [k2, e]
          rw [tb1] at hu
          exact hmid p (by have := of_decide_eq_false hu; omega) hp
        · rw [if_neg e]
          refine wayStep hP h hs hlow k1 (by omega) (by omega) (by rw [tb1, decide_eq_false (by omega)]) hq hKq (by rw [tb1, decide_eq_false (by omega)]) (by omega) (fun p hp hu => ?_)
          rw [tb1, decide_eq_true hp] at hu
          cases hu
    refine ⟨by omega, fun i hi => ?_, ?_⟩
    · obtain ⟨m1, m2⟩ := hm i hi
      rw [m1]
      exact ⟨(msk4 P (by omega) i (by omega)).1, _, by split <;> omega, m2⟩
    · obtain ⟨m1, m2⟩ := hm s (Nat.le_refl s)
      show wnx K C (wsim K C P s).1 P = _
      rw [m1, m2, if_pos rfl]
  · have hun : ∀ q', q' < P → K s q' = true → q' ≤ q := fun q' h1 h2 => by
      by_cases e : q' ≤ q
      · exact e
      · rw [hup q' (by omega) h1] at h2
        cases h2
    have hm1 : ∀ i, i ≤ q → (wsim K C P i).1 = 2 ^ i - 1 ∧ (i < q → wnx K C (2 ^ i - 1) P = some i) := by
      intro i
      induction i with
      | zero =>
        intro hi
        refine ⟨rfl, fun hlt => ?_⟩
        exact wayStep hP h hs hlow (Nat.two_pow_pos P) (by rw [show pc (2 ^ 0 - 1) = 0 by decide]; omega) (by omega) (Nat.zero_testBit 0) hq hKq (Nat.zero_testBit q) (by omega) (fun p hp => absurd hp (Nat.not_lt_zero p))
      | succ i ih =>
        intro hi
        obtain ⟨m1, m2⟩ := ih (by omega)
        have m2 := m2 (by omega)
        have e1 : (wsim K C P (i + 1)).1 = 2 ^ (i + 1) - 1 := by
          show (wsim K C P i).1 ||| 2 ^ ((wnx K C (wsim K C P i).1 P).getD 0) = _
          rw [m1, m2]
          exact msk1 i (by omega)
        obtain ⟨k1, k2⟩ := msk4 P (by omega) (i + 1) (by omega)
        refine ⟨e1, fun hlt => ?_⟩
        refine wayStep hP h hs hlow k1 (by omega) (by omega) (by rw [tb1, decide_eq_false (by omega)]) hq hKq (by rw [tb1, decide_eq_false (by omega)]) (by omega) (fun p hp hu => ?_)
        rw [tb1, decide_eq_true hp] at hu
        cases hu
    have hm2 : ∀ i, q ≤ i → i ≤ s → (wsim K C P i).1 = (2 ^ (i + 1) - 1) ^^^ 2 ^ q ∧ wnx K C ((2 ^ (i + 1) - 1) ^^^ 2 ^ q) P = some (if i = s then q else i + 1) := by
      intro i hqi his
      have hpos : ∀ i, q ≤ i → i ≤ s → wnx K C ((2 ^ (i + 1) - 1) ^^^ 2 ^ q) P = some (if i = s then q else i + 1) := by
        intro i hqi his
        obtain ⟨k1, k2⟩ := msk5 P (by omega) i (by omega) q hq hqi
        have hu : ((2 ^ (i + 1) - 1) ^^^ 2 ^ q).testBit q = false := by
          rw [tb2 hqi, decide_eq_true (rfl : q = q)]
          simp
        have hlo : ∀ p, p < i + 1 → ((2 ^ (i + 1) - 1) ^^^ 2 ^ q).testBit p = false → p = q := fun p hp hu' => by
          rw [tb2 hqi, decide_eq_true hp] at hu'
          by_cases e : p = q
          · exact e
          · rw [decide_eq_false e] at hu'
            cases hu'
        by_cases e : i = s
        · rw [if_pos e]
          refine wayLast hP h k1 hq hu (by rw [k2, e]; exact hKq) (fun p hp hu' => ?_)
          have := hlo p (by omega) hu'
          omega
        · rw [if_neg e]
          refine wayStep hP h hs hlow k1 (by omega) (by omega) (by rw [tb2 hqi, decide_eq_false (by omega)]; rfl) hq hKq hu (by omega) (fun p hp hu' q' h1 h2 => ?_)
          have hpq := hlo p hp hu'
          have hq' := hun q' h1 h2
          by_cases e2 : q' = q
          · exact Or.inr (by omega)
          · refine Or.inl ?_
            rw [tb2 hqi, decide_eq_true (by omega : q' < i + 1), decide_eq_false e2]
            rfl
      refine ⟨?_, hpos i hqi his⟩
      obtain ⟨d, rfl⟩ : ∃ d, i = q + d := ⟨i - q, by omega⟩
      clear hqi
      induction d with
      | zero =>
        rw [show q + 0 = q from rfl, msk3 q (by omega)]
        exact (hm1 q (Nat.le_refl q)).1
      | succ d ih =>
        have m1 := ih (by omega)
        have m2 := hpos (q + d) (by omega) (by omega)
        rw [if_neg (by omega)] at m2
        show (wsim K C P (q + d)).1 ||| 2 ^ ((wnx K C (wsim K C P (q + d)).1 P).getD 0) = _
        rw [m1, m2]
        exact msk2 q (by omega) (q + d) (by omega) (by omega)
    refine ⟨by omega, fun i hi => ?_, ?_⟩
    · by_cases e : i < q
      · obtain ⟨m1, m2⟩ := hm1 i (by omega)
        rw [m1]
        exact ⟨(msk4 P (by omega) i (by omega)).1, i, by omega, m2 e⟩
      · obtain ⟨m1, m2⟩ := hm2 i (by omega) hi
        rw [m1]
        exact ⟨(msk5 P (by omega) i (by omega) q hq (by omega)).1, _, by split <;> omega, m2⟩
    · obtain ⟨m1, m2⟩ := hm2 s (by omega) (Nat.le_refl s)
      show wnx K C (wsim K C P s).1 P = _
      rw [m1, m2, if_pos rfl]
