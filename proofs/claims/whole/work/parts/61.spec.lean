/-! WHAT BOTH MEAN: a village as told, a moment, rules, days -/
abbrev Row : Type := Nat → Nat
def rup (f : Row) (k v : Nat) : Row := fun i => if i = k then v else f i
theorem rup_eq (f : Row) (k v : Nat) : rup f k v k = v := if_pos rfl
theorem rup_ne {f : Row} {k v i : Nat} (h : i ≠ k) : rup f k v i = f i := if_neg h
/-- as told: how many MATTERS, PEOPLE, LETTERS; LIVED, PRIDE, SHAME; CLAIMS -/
abbrev Td : Type := (Nat × (Nat × Nat)) × (Row × (Row × (Row × Row)))
def tdM (t : Td) : Nat := t.1.1
def tdP (t : Td) : Nat := t.1.2.1
def tdL (t : Td) : Nat := t.1.2.2
def tdl (t : Td) : Row := t.2.1
def tdp (t : Td) : Row := t.2.2.1
def tds (t : Td) : Row := t.2.2.2.1
def tdc (t : Td) : Row := t.2.2.2.2
/-- a moment: LIVED, PRIDE, SHAME, HAS; PINNED, DAY, BEGIN -/
abbrev Mo : Type := (Row × (Row × (Row × Row))) × (Nat × (Nat × Nat))
def moL (m : Mo) : Row := m.1.1
def moP (m : Mo) : Row := m.1.2.1
def moS (m : Mo) : Row := m.1.2.2.1
def moH (m : Mo) : Row := m.1.2.2.2
def moN (m : Mo) : Nat := m.2.1
def moD (m : Mo) : Nat := m.2.2.1
def moB (m : Mo) : Nat := m.2.2.2
def moSetL (m : Mo) (f : Row) : Mo := ((f, m.1.2), m.2)
def moSetP (m : Mo) (f : Row) : Mo := ((m.1.1, f, m.1.2.2), m.2)
def moSetS (m : Mo) (f : Row) : Mo := ((m.1.1, m.1.2.1, f, m.1.2.2.2), m.2)
def moSetH (m : Mo) (f : Row) : Mo := ((m.1.1, m.1.2.1, m.1.2.2.1, f), m.2)
def moSetN (m : Mo) (n : Nat) : Mo := (m.1, n, m.2.2)
def moSetD (m : Mo) (n : Nat) : Mo := (m.1, m.2.1, n, m.2.2.2)
def moSetB (m : Mo) (n : Nat) : Mo := (m.1, m.2.1, m.2.2.1, n)
/-- the begin, as the text told it -/
def moBegin (t : Td) : Mo := ((tdl t, tdp t, tds t, fun _ => 0), 0, 0, 0)
/-- a RULE: signs in the order in which a stack takes them; for each CLAUSE its SUM, its TEST -/
abbrev Tok : Type := Nat × Nat
abbrev Cl : Type := List Tok × List Tok
abbrev Rl : Type := List Cl
def bin2 (op : Nat) (a b : Int64) : Int64 :=
  match op with
  | 2 => a + b
  | 3 => a - b
  | 4 => a * b
  | 5 => if b = 0 then 0 else a / b
  | 6 => if b = 0 then 0 else a - a / b * b
  | 7 => if a < b then 1 else 0
  | 8 => if a ≤ b then 1 else 0
  | 9 => if a = b then 1 else 0
  | 10 => if b ≤ a then 1 else 0
  | 11 => if b < a then 1 else 0
  | 12 => a &&& b
  | 13 => a ||| b
  | _ => 0
def ev1 (w : Nat → Int64) (t : Tok) (st : List Int64) : List Int64 :=
  if t.1 = 0 then lN t.2 :: st else if t.1 = 1 then w t.2 :: st else if t.1 = 14 then (match st with
    | a :: r => (1 - a) :: r
    | [] => []) else match st with
    | b :: a :: r => bin2 t.1 a b :: r
    | _ => []
def ev (w : Nat → Int64) : List Tok → List Int64 → List Int64
  | [], st => st
  | t :: ts, st => ev w ts (ev1 w t st)
/-- what a sign makes of kinds: a number is false, a truth is true -/
def ty1 (t : Tok) (st : List Bool) : Option (List Bool) :=
  if t.1 = 0 then (if t.2 ≤ 99999 then some (false :: st) else none) else if t.1 = 1 then (if t.2 < 10 then some (false :: st) else none)
  else if t.2 ≠ 0 then none
  else if t.1 = 14 then (match st with
    | true :: r => some (true :: r)
    | _ => none)
  else if t.1 ≤ 13 then (match st with
    | a :: b :: r => if a = decide (12 ≤ t.1) ∧ b = decide (12 ≤ t.1) then some (decide (7 ≤ t.1) :: r) else none
    | _ => none)
  else none
theorem ty1_cases {op v : Nat} {st st' : List Bool} (h : ty1 (op, v) st = some st') : (op = 0 ∧ v ≤ 99999 ∧ st' = false :: st) ∨ (op = 1 ∧ v < 10 ∧ st' = false :: st) ∨ (op = 14 ∧ v = 0 ∧ ∃ r, st = true :: r ∧ st' = true :: r) ∨ (2 ≤ op ∧ op ≤ 13 ∧ v = 0 ∧ ∃ r, st = decide (12 ≤ op) :: decide (12 ≤ op) :: r ∧ st' = decide (7 ≤ op) :: r) := by
  unfold ty1 at h
  dsimp only at h
  split at h
  · split at h <;> cases h
    exact Or.inl ⟨by assumption, by assumption, rfl⟩
  · split at h
    · split at h <;> cases h
      exact Or.inr (Or.inl ⟨by assumption, by assumption, rfl⟩)
    · split at h
      · cases h
      · rename_i h0 h1 hv
        have hv0 : v = 0 := by omega
        split at h
        · split at h <;> cases h
          exact Or.inr (Or.inr (Or.inl ⟨by assumption, hv0, _, rfl, rfl⟩))
        · split at h
          · split at h
            · split at h <;> cases h
              rename_i hab
              obtain ⟨rfl, rfl⟩ := hab
              exact Or.inr (Or.inr (Or.inr ⟨by omega, by assumption, hv0, _, rfl, rfl⟩))
            · cases h
          · cases h
/-- the kinds behind a row of signs; never more than 50 at once -/
def ty : List Tok → List Bool → Option (List Bool)
  | [], st => some st
  | t :: ts, st => (ty1 t st).bind fun st' => if st'.length ≤ 50 then ty ts st' else none
def clOk (c : Cl) : Prop := ty c.1 [] = some [false] ∧ (c.2 = [] ∨ ty c.2 [] = some [true])
def rlOk (r : Rl) : Prop := r.length ≤ 12 ∧ ∀ c ∈ r, clOk c
/-- the SUM of the first CLAUSE without a TEST, or whose TEST holds -/
def rlv (w : Nat → Int64) : Rl → Int64
  | [] => 0
  | c :: r => if c.2.isEmpty || decide ((ev w c.2 []).headD 0 = 1) then (ev w c.1 []).headD 0 else rlv w r
/-- the values of the WORDS -/
def wds (m : Mo) (cl p k seen : Nat) : Nat → Int64 := fun i =>
  if i = 0 then lN p else if i = 1 then lN (pc (cl &&& moL m p)) else if i = 2 then lN (pc (andn cl (moL m p))) else if i = 3 then lN (pc (andn (moL m p) cl)) else if i = 4 then lN (moP m p)
  else if i = 5 then lN (moS m p) else if i = 6 then lN seen else if i = 7 then lN (moH m p) else if i = 8 then lN k else lN (moD m)
/-- whether one would CLAIM it -/
def wc (r : Option Rl) (m : Mo) (cl p k seen : Nat) : Bool := match r with
  | none => decide (andn cl (moL m p) = 0)
  | some r => decide (0 < rlv (wds m cl p k seen) r)
/-- who CLAIMS it -/
def hand (m : Mo) (p cl : Nat) : Mo := moSetS (moSetH m (rup (moH m) p (if moH m p < 999 then moH m p + 1 else moH m p))) (rup (moS m) p (if pc (andn cl (moL m p)) = 0 then moS m p - 1 else if moS m p + pc (andn cl (moL m p)) ≤ 30 then moS m p + pc (andn cl (moL m p)) else 30))
def letBy (m : Mo) (p cl : Nat) : Mo := if andn cl (moL m p) = 0 then moSetP m (rup (moP m) p (moP m p - 1)) else m
def nxt (n q : Nat) : Nat := if q + 1 < n then q + 1 else 0
/-- door to door -/
def rd (r : Option Rl) (n cl k : Nat) : Nat → Nat → Nat → Mo → Option Nat × Mo
  | 0, _, _, m => (none, m)
  | f + 1, s, q, m => if wc r m cl q k s = true then (some q, hand m q cl) else rd r n cl k f (s + 1) (nxt n q) (letBy m q cl)
/-- a DAY; its LETTER's CLAIMS are otherwise in the MATTERS of the rain -/
def dayS (t : Td) (r : Option Rl) (rain : Nat) (m : Mo) : Option Nat × Mo :=
  if tdL t = 0 then (none, moSetD m (moD m + 1))
  else
    let k := moD m % tdL t
    let x := rd r (tdP t) (tdc t k ^^^ rain) k (tdP t) 0 (moB m) m
    (x.1, moSetD (match x.1 with
      | none => moSetN x.2 (moN x.2 ||| 2 ^ k)
      | some _ => x.2) (moD m + 1))
def daysN (t : Td) (r : Option Rl) : Nat → Mo → Mo
  | 0, m => m
  | n + 1, m => daysN t r n (dayS t r 0 m).2
/-- a village that a text can tell -/
def tdOk (t : Td) : Prop := tdM t ≤ 8 ∧ tdP t ≤ 7 ∧ tdL t ≤ 10 ∧ (tdM t = 0 → tdP t = 0 ∧ tdL t = 0) ∧ (∀ q, tdl t q < 2 ^ tdM t ∧ tdp t q ≤ 9 ∧ tds t q ≤ 9) ∧ (∀ k, tdc t k < 2 ^ tdM t) ∧ (∀ q, tdP t ≤ q → tdl t q = 0 ∧ tdp t q = 0 ∧ tds t q = 0) ∧ (∀ k, tdL t ≤ k → tdc t k = 0)
/-- a moment that can be; of day D at most -/
def moOk (t : Td) (D : Nat) (m : Mo) : Prop := (∀ q, moL m q < 2 ^ tdM t ∧ moP m q ≤ 9 ∧ moS m q ≤ 30 ∧ moH m q ≤ 999) ∧ moN m < 2 ^ tdL t ∧ moD m ≤ D ∧ (moB m < tdP t ∨ moB m = 0) ∧ ∀ q, tdP t ≤ q → moL m q = 0 ∧ moP m q = 0 ∧ moS m q = 0 ∧ moH m q = 0
theorem tdOk.m256 {t : Td} (h : tdOk t) {x : Nat} (hx : x < 2 ^ tdM t) : x < 256 :=
  Nat.lt_of_lt_of_le hx (Nat.pow_le_pow_right (n := 2) (by decide) h.1 : 2 ^ tdM t ≤ 2 ^ 8)
theorem tdOk.l1024 {t : Td} (h : tdOk t) {x : Nat} (hx : x < 2 ^ tdL t) : x < 1024 :=
  Nat.lt_of_lt_of_le hx (Nat.pow_le_pow_right (n := 2) (by decide) h.2.2.1 : 2 ^ tdL t ≤ 2 ^ 10)
theorem moOk.mono {t : Td} {D D' : Nat} {m : Mo} (h : moOk t D m) (hD : D ≤ D') : moOk t D' m := ⟨h.1, h.2.1, Nat.le_trans h.2.2.1 hD, h.2.2.2⟩
theorem moOk.begin {t : Td} (h : tdOk t) (D : Nat) : moOk t D (moBegin t) := by
  obtain ⟨h1, h2, h3, h4, h5, h6, h7, h8⟩ := h
  refine ⟨fun q => ⟨(h5 q).1, (h5 q).2.1, Nat.le_trans (h5 q).2.2 (by decide), Nat.zero_le _⟩, Nat.two_pow_pos _, Nat.zero_le _, Or.inr rfl, fun q hq => ⟨(h7 q hq).1, (h7 q hq).2.1, (h7 q hq).2.2, rfl⟩⟩
theorem moOk.byl {t : Td} {D : Nat} {m : Mo} (h : moOk t D m) (p cl : Nat) : moOk t D (letBy m p cl) := by
  unfold letBy
  split
  · obtain ⟨h1, h2, h3, h4, h5⟩ := h
    refine ⟨fun q => ⟨(h1 q).1, ?_, (h1 q).2.2.1, (h1 q).2.2.2⟩, h2, h3, h4, fun q hq => ⟨(h5 q hq).1, ?_, (h5 q hq).2.2.1, (h5 q hq).2.2.2⟩⟩
    · show rup (moP m) p (moP m p - 1) q ≤ 9
      unfold rup
      have := (h1 q).2.1
      split
      · rename_i e; subst e; omega
      · exact this
    · show rup (moP m) p (moP m p - 1) q = 0
      unfold rup
      have := (h5 q hq).2.1
      split
      · rename_i e; subst e; omega
      · exact this
  · exact h
theorem moOk.hnd {t : Td} {D : Nat} {m : Mo} (h : moOk t D m) {p : Nat} (hp : p < tdP t) (cl : Nat) : moOk t D (hand m p cl) := by
  obtain ⟨h1, h2, h3, h4, h5⟩ := h
  refine ⟨fun q => ⟨(h1 q).1, (h1 q).2.1, ?_, ?_⟩, h2, h3, h4, fun q hq => ⟨(h5 q hq).1, (h5 q hq).2.1, ?_, ?_⟩⟩
  · show rup (moS m) p _ q ≤ 30
    unfold rup
    have := (h1 p).2.2.1
    split
    · split
      · omega
      · split <;> omega
    · exact (h1 q).2.2.1
  · show rup (moH m) p _ q ≤ 999
    unfold rup
    split
    · have := (h1 p).2.2.2
      split <;> omega
    · exact (h1 q).2.2.2
  · show rup (moS m) p _ q = 0
    rw [rup_ne (by omega)]
    exact (h5 q hq).2.2.1
  · show rup (moH m) p _ q = 0
    rw [rup_ne (by omega)]
    exact (h5 q hq).2.2.2
theorem nxt_lt {n q : Nat} (h : q < n) : nxt n q < n := by
  unfold nxt
  split <;> omega
theorem moOk.rdk {t : Td} {D : Nat} (r : Option Rl) (cl k : Nat) : ∀ (f s q : Nat) (m : Mo), q < tdP t → moOk t D m → moOk t D (rd r (tdP t) cl k f s q m).2
  | 0, _, _, _, _, h => h
  | f + 1, s, q, m, hq, h => by
    unfold rd
    split
    · exact h.hnd hq cl
    · exact moOk.rdk r cl k f (s + 1) _ _ (nxt_lt hq) (h.byl q cl)
theorem rd_D {r : Option Rl} {n cl k : Nat} : ∀ (f s q : Nat) (m : Mo), moD (rd r n cl k f s q m).2 = moD m ∧ moB (rd r n cl k f s q m).2 = moB m ∧ moN (rd r n cl k f s q m).2 = moN m ∧ moL (rd r n cl k f s q m).2 = moL m
  | 0, _, _, _ => ⟨rfl, rfl, rfl, rfl⟩
  | f + 1, s, q, m => by
    unfold rd
    split
    · exact ⟨rfl, rfl, rfl, rfl⟩
    · obtain ⟨h1, h2, h3, h4⟩ := rd_D (r := r) (n := n) (cl := cl) (k := k) f (s + 1) (nxt n q) (letBy m q cl)
      rw [h1, h2, h3, h4]
      unfold letBy
      split <;> exact ⟨rfl, rfl, rfl, rfl⟩
theorem rd_who {r : Option Rl} {n cl k : Nat} : ∀ (f s q : Nat) (m : Mo) (w : Nat), q < n → (rd r n cl k f s q m).1 = some w → w < n
  | 0, _, _, _, _, _, h => by cases h
  | f + 1, s, q, m, w, hq, h => by
    unfold rd at h
    split at h
    · cases h; exact hq
    · exact rd_who f _ _ _ w (nxt_lt hq) h
theorem moOk.setD {t : Td} {D d : Nat} {m : Mo} (h : moOk t D m) (hd : d ≤ D + 1) : moOk t (D + 1) (moSetD m d) :=
  ⟨h.1, h.2.1, hd, h.2.2.2.1, h.2.2.2.2⟩
theorem moOk.dyk {t : Td} {D : Nat} {m : Mo} (h : moOk t D m) (r : Option Rl) (rain : Nat) : moOk t (D + 1) (dayS t r rain m).2 := by
  unfold dayS
  have hD : moD m ≤ D := h.2.2.1
  split
  · exact h.setD (by omega)
  · rename_i hL
    dsimp only
    refine moOk.setD (t := t) (D := D) ?_ (by omega)
    have hk : moD m % tdL t < tdL t := Nat.mod_lt _ (Nat.pos_of_ne_zero hL)
    have h2 : moOk t D (rd r (tdP t) (tdc t (moD m % tdL t) ^^^ rain) (moD m % tdL t) (tdP t) 0 (moB m) m).2 := by
      by_cases hp : moB m < tdP t
      · exact moOk.rdk r _ _ _ _ _ _ hp h
      · have h0 : tdP t = 0 := by rcases h.2.2.2.1 with h' | h' <;> omega
        rw [h0]
        exact h
    split
    · obtain ⟨a1, a2, a3⟩ := h2
      exact ⟨a1, Nat.or_lt_two_pow a2 (Nat.pow_lt_pow_right (by decide) hk), a3⟩
    · exact h2
theorem dayS_D {t : Td} {r : Option Rl} {rain : Nat} {m : Mo} : moD (dayS t r rain m).2 = moD m + 1 ∧ moB (dayS t r rain m).2 = moB m ∧ moL (dayS t r rain m).2 = moL m := by
  unfold dayS
  split
  · exact ⟨rfl, rfl, rfl⟩
  · dsimp only
    obtain ⟨h1, h2, h3, h4⟩ := rd_D (r := r) (n := tdP t) (cl := tdc t (moD m % tdL t) ^^^ rain) (k := moD m % tdL t) (tdP t) 0 (moB m) m
    refine ⟨rfl, ?_, ?_⟩
    · split
      · exact h2
      · exact h2
    · split
      · exact h4
      · exact h4
theorem dayS_who {t : Td} {r : Option Rl} {rain : Nat} {m : Mo} {D w : Nat} (h : moOk t D m) (e : (dayS t r rain m).1 = some w) : w < tdP t := by
  unfold dayS at e
  split at e
  · cases e
  · dsimp only at e
    by_cases hp : moB m < tdP t
    · exact rd_who _ _ _ _ _ hp e
    · have h0 : tdP t = 0 := by rcases h.2.2.2.1 with h' | h' <;> omega
      rw [h0] at e
      cases e
