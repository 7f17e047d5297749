/-! rule: a machine that takes signs -/
def lev (x : Nat) : Nat := if x = 17 then 0 else if x = 13 then 1 else if x = 12 then 2 else if x = 14 then 3 else if x = 2 ∨ x = 3 then 5 else if x = 4 ∨ x = 5 ∨ x = 6 then 6 else 4
/-- code, what waits; clauses, atoms, depth; what is due, where one is; the byte, the FAULT -/
abbrev Zs : Type := (List Nat × List Nat) × ((Int32 × (Int32 × Int32)) × ((Nat × Nat) × (Nat × Nat)))
def zs (C W : List Nat) (K A D : Int32) (u g f a : Nat) : Zs := ((C, W), ((K, (A, D)), ((u, g), (f, a))))
def wrC (c : List Nat) (x : Nat) : List Nat := if c.length < 412 then c ++ [x] else c
def hoW (w : List Nat) (x : Nat) : List Nat := if w.length < 64 then x :: w else w
/-- let fall all that joins as firmly as p: what waits then, the code, the depth -/
def stl (p : Nat) : List Nat → List Nat → Int32 → List Nat × (List Nat × Int32)
  | [], c, d => ([], c, d)
  | x :: w, c, d => if p ≤ lev x then stl p w (wrC c x) (if x = 14 then d - nI 1 else d) else (x :: w, c, d)
def opC (c : Nat) : Nat := if c = 37 then 6 else if c = 42 then 4 else if c = 43 then 2 else if c = 45 then 3 else if c = 47 then 5 else 0
def opN (B : Nat → Nat) (n f : Nat) : Nat := if f < n then opC (B f) else 0
def sgN (B : Nat → Nat) (n f : Nat) : Nat := if f < n then (if B f = 61 then 9 else if B f = 60 then (if f + 1 < n ∧ B (f + 1) = 61 then 8 else 7) else if B f = 62 then (if f + 1 < n ∧ B (f + 1) = 61 then 10 else 11) else 0) else 0
def txo (v : Nat) : Nat := if v = 0 then 1 else if v = 1 then 5 else if v = 2 then 6 else if v = 3 then 7 else if v = 4 then 8 else if v = 5 then 9 else if v = 6 then 10 else if v = 7 then 11 else if v = 8 then 2 else 12
/-- which WORD stands at f: of d from v on -/
def nmo (B : Nat → Nat) (n f : Nat) : Nat → Nat → Option Nat
  | 0, _ => none
  | d + 1, v => if wdM B n f (txo v) = true then some v else nmo B n f d (v + 1)
def cnF (A : Int32) (f a : Nat) : Nat := if A < nI 60 then a else flt a f 3
def zCl (B : Nat → Nat) (n : Nat) (C W : List Nat) (K A D : Int32) (f : Nat) : Zs := zs C W (K + nI 1) A D 2 0 f (if wdM B n f 3 = true then (if K < nI 12 then 0 else flt 0 f 4) else flt 0 f 0)
def zVal (B : Nat → Nat) (n : Nat) (C W : List Nat) (K A D : Int32) (u g f : Nat) : Zs := if f < n ∧ isDi (B f) = true then zs (wrC C (enc (0, amV B n f 0 99999))) W K (A + nI 1) D 3 g f (cnF A f (amF B n f 0 99999 0)) else match nmo B n f 10 0 with
  | none => zs C W K A D u g f (flt 0 f 0)
  | some v => zs (wrC C (enc (1, v))) W K (A + nI 1) D 3 g f (cnF A f 0)
def zFa (B : Nat → Nat) (n : Nat) (C W : List Nat) (K A D : Int32) (g f : Nat) : Zs := if f < n ∧ B f = 91 then zs C (hoW W 17) K A (D + nI 1) 1 g f (if D < nI 10 then 0 else flt 0 f 2) else if wdM B n f 4 = true then zs C (hoW W 14) K A (D + nI 1) 1 g f (if D < nI 10 then 0 else flt 0 f 2) else zVal B n C W K A D 1 1 f
def zJo (C W : List Nat) (K A D : Int32) (x u g f a : Nat) : Zs := zs (stl (lev x) W C D).2.1 (hoW (stl (lev x) W C D).1 x) K A (stl (lev x) W C D).2.2 u g f a
def zSg (B : Nat → Nat) (n : Nat) (C W : List Nat) (K A D : Int32) (f : Nat) : Zs := if sgN B n f = 0 then zs C W K A D 3 1 f (flt 0 f 0) else zJo C W K (A + nI 1) D (sgN B n f) 2 2 f (cnF A f 0)
def zEn (B : Nat → Nat) (n : Nat) (C W : List Nat) (K A D : Int32) (x g f : Nat) : Zs := zs (wrC (stl 1 W C D).2.1 x) (stl 1 W C D).1 K A (stl 1 W C D).2.2 (if n ≤ f then 4 else 0) g f (if n ≤ f ∨ B f = 59 then 0 else flt 0 f 0)
def zBr (B : Nat → Nat) (n : Nat) (C W : List Nat) (K A D : Int32) (g f : Nat) : Zs := match W with
  | [] => zEn B n C [] K A D 16 g f
  | x :: w => if f < n ∧ B f = 93 then zs C w K A (D - nI 1) 3 3 f 0 else zs C (x :: w) K A D 3 g f (flt 0 f 0)
def zBe (B : Nat → Nat) (n : Nat) (C W : List Nat) (K A D : Int32) (g f : Nat) : Zs := if wdM B n f 14 = true then zJo C W K A D 12 1 g f 0 else if wdM B n f 15 = true then zJo C W K A D 13 1 g f 0 else zBr B n (stl 1 W C D).2.1 (stl 1 W C D).1 K A (stl 1 W C D).2.2 g f
def zJn (B : Nat → Nat) (n : Nat) (C W : List Nat) (K A D : Int32) (g f : Nat) : Zs := if ¬ g = 3 ∧ ¬ opN B n f = 0 then zJo C W K A D (opN B n f) 2 g f 0 else if g = 0 then (if wdM B n f 13 = true then zs (stl 1 W C D).2.1 (stl 1 W C D).1 K A (stl 1 W C D).2.2 1 0 f 0 else zEn B n C W K A D 15 0 f) else if g = 1 then zSg B n C W K A D f else zBe B n C W K A D g f
def zNx (B : Nat → Nat) (n : Nat) (s : Zs) : Zs := (s.1, (s.2.1, (s.2.2.1, (nx B n s.2.2.2.1, s.2.2.2.2))))
def zSt (B : Nat → Nat) (n : Nat) (C W : List Nat) (K A D : Int32) (u g f : Nat) : Zs := if u = 0 then zCl B n C W K A D f else if u = 1 then zFa B n C W K A D g f else if u = 2 then zVal B n C W K A D 2 g f else zJn B n C W K A D g f
/-- over? -/
def zOv (s : Zs) : Bool := decide (s.2.2.1.1 = 4) || !decide (s.2.2.2.2 = 0)
def stp (B : Nat → Nat) (n : Nat) (s : Zs) : Zs := if zOv s = true then s else zNx B n (zSt B n s.1.1 s.1.2 s.2.1.1 s.2.1.2.1 s.2.1.2.2 s.2.2.1.1 s.2.2.1.2 s.2.2.2.1)
def stN (B : Nat → Nat) (n : Nat) : Nat → Zs → Zs
  | 0, s => s
  | k + 1, s => stN B n k (stp B n s)
/-- from s to s' -/
def RT (B : Nat → Nat) (n : Nat) (s s' : Zs) : Prop := ∃ k, stN B n k s = s'
theorem RT.refl {B : Nat → Nat} {n : Nat} (s : Zs) : RT B n s s := ⟨0, rfl⟩
theorem stN_add {B : Nat → Nat} {n : Nat} : ∀ k j s, stN B n (k + j) s = stN B n j (stN B n k s)
  | 0, j, s => by rw [Nat.zero_add]; rfl
  | k + 1, j, s => by
    rw [show k + 1 + j = (k + j) + 1 by omega]
    exact stN_add k j (stp B n s)
theorem RT.trans {B : Nat → Nat} {n : Nat} {s s' s'' : Zs} : RT B n s s' → RT B n s' s'' → RT B n s s'' := by
  rintro ⟨k, rfl⟩ ⟨j, rfl⟩
  exact ⟨k + j, stN_add k j s⟩
theorem RT.one {B : Nat → Nat} {n : Nat} {s s' : Zs} (h : stp B n s = s') : RT B n s s' := ⟨1, h⟩
theorem stp_go {B : Nat → Nat} {n : Nat} {C W : List Nat} {K A D : Int32} {u g f : Nat} (hu : u ≠ 4) : stp B n (zs C W K A D u g f 0) = zNx B n (zSt B n C W K A D u g f) := by
  have : zOv (zs C W K A D u g f 0) = false := by
    show (decide (u = 4) || !decide (0 = 0)) = false
    rw [decide_eq_false hu]
    rfl
  unfold stp
  rw [if_neg (by rw [this]; decide)]
  rfl
theorem stp_ov {B : Nat → Nat} {n : Nat} {s : Zs} (h : zOv s = true) : stp B n s = s := if_pos h
theorem zOv_a {C W : List Nat} {K A D : Int32} {u g f a : Nat} (h : a ≠ 0) : zOv (zs C W K A D u g f a) = true := by
  show (decide (u = 4) || !decide (a = 0)) = true
  rw [decide_eq_false h, Bool.or_eq_true]
  exact Or.inr rfl
theorem zNx_zs {B : Nat → Nat} {n : Nat} {C W : List Nat} {K A D : Int32} {u g f a : Nat} : zNx B n (zs C W K A D u g f a) = zs C W K A D u g (nx B n f) a := rfl
theorem flt_ne {f c : Nat} : flt 0 f c ≠ 0 := by
  show (if 0 = 0 then 1 + 8 * f + c else 0) ≠ 0
  rw [if_pos rfl]
  omega
theorem flt_0 {f c : Nat} : flt 0 f c = 1 + 8 * f + c := if_pos rfl
theorem flt_a {a f c : Nat} (h : a ≠ 0) : flt a f c = a := if_neg h
theorem stZ : (13 : Int32) = nI 13 ∧ (17 : Int32) = nI 17 ∧ (91 : Int32) = nI 91 ∧ (93 : Int32) = nI 93 ∧ (42 : Int32) = nI 42 ∧ (43 : Int32) = nI 43 ∧ (45 : Int32) = nI 45 ∧ (47 : Int32) = nI 47 ∧ (37 : Int32) = nI 37 ∧ (316 : Int32) = nI 316 ∧ (318 : Int32) = nI 318 ∧ (400 : Int32) = nI 400 ∧ (99999 : Int32) = nI 99999:= ⟨rfl, rfl, rfl, rfl, rfl, rfl, rfl, rfl, rfl, rfl, rfl, rfl, rfl⟩
/-! kinds of tokens -/
theorem tkC {B : Nat → Nat} (hB : ∀ i, B i < 256) {n f c : Nat} (h1 : isDi c = false) (h2 : isLe c = false) (h3 : c < 256) (h4 : c ≠ 60) (h5 : c ≠ 62) (h6 : c ≠ 48) (h7 : c ≠ 97) : (tkKind B n f = nI c) = (f < n ∧ B f = c) := by
  have hb := hB f
  unfold tkKind
  by_cases q : n ≤ f
  · rw [if_pos q]
    refine propext ⟨fun z => ?_, fun z => absurd z.1 (by omega)⟩
    exact absurd z.symm (by rw [nIM1F (by omega)]; exact id)
  · rw [if_neg q]
    by_cases c1 : isDi (B f) = true
    · rw [if_pos c1, eqF (Ne.symm h6) (by decide) (by omega)]
      refine propext ⟨False.elim, fun z => ?_⟩
      rw [z.2, h1] at c1
      cases c1
    · rw [if_neg c1]
      by_cases c2 : isLe (B f) = true
      · rw [if_pos c2, eqF (Ne.symm h7) (by decide) (by omega)]
        refine propext ⟨False.elim, fun z => ?_⟩
        rw [z.2, h2] at c2
        cases c2
      · rw [if_neg c2]
        by_cases c3 : (B f = 60 ∨ B f = 62) ∧ f + 1 < n ∧ B (f + 1) = 61
        · rw [if_pos c3, eqF (by omega) (by omega) (by omega)]
          exact propext ⟨False.elim, fun z => by omega⟩
        · rw [if_neg c3, nIx_eq (by omega) (by omega)]
          exact propext ⟨fun z => ⟨by omega, z⟩, fun z => z.2⟩
theorem tkE {B : Nat → Nat} (hB : ∀ i, B i < 256) {n f : Nat} : (tkKind B n f = iM1) = (n ≤ f) := by
  by_cases q : n ≤ f
  · unfold tkKind
    rw [if_pos q]
    exact (eq_self _).trans (eq_true q).symm
  · rw [tkM1 hB (by omega)]
    exact (eq_false q).symm
theorem tkD {B : Nat → Nat} (hB : ∀ i, B i < 256) {n f : Nat} : (tkKind B n f = nI 48) = (f < n ∧ isDi (B f) = true) := by
  by_cases q : f < n ∧ isDi (B f) = true
  · rw [(tk_di q.1 q.2).1]
    exact (eq_self _).trans (eq_true q).symm
  · rw [tk_ndi hB q]
    exact (eq_false q).symm
theorem tab62 {c : Nat} (hc : c < 256) (h : qM) : qcal 62 [qI (nI c)] h = some (h, some (qI (if opC c = 0 then iM1 else nI (opC c)))) := by
  rw [c62]
  have g : ∀ k : Nat, k < 256 → c ≠ k → ¬ (nI c = nI k) := fun k hk hne z => by
    rw [eqF hne (by omega) (by omega)] at z
    exact z
  by_cases h37 : c = 37
  · subst h37; rfl
  by_cases h38 : c = 38
  · subst h38; rfl
  by_cases h39 : c = 39
  · subst h39; rfl
  by_cases h40 : c = 40
  · subst h40; rfl
  by_cases h41 : c = 41
  · subst h41; rfl
  by_cases h42 : c = 42
  · subst h42; rfl
  by_cases h43 : c = 43
  · subst h43; rfl
  by_cases h44 : c = 44
  · subst h44; rfl
  by_cases h45 : c = 45
  · subst h45; rfl
  by_cases h46 : c = 46
  · subst h46; rfl
  by_cases h47 : c = 47
  · subst h47; rfl
  have o : opC c = 0 := by
    unfold opC
    rw [if_neg h37, if_neg h42, if_neg h43, if_neg h45, if_neg h47]
  rw [o, if_pos rfl]
  have g37 : ¬ (nI c = (37 : Int32)) := g 37 (by decide) h37
  have g38 : ¬ (nI c = (38 : Int32)) := g 38 (by decide) h38
  have g39 : ¬ (nI c = (39 : Int32)) := g 39 (by decide) h39
  have g40 : ¬ (nI c = (40 : Int32)) := g 40 (by decide) h40
  have g41 : ¬ (nI c = (41 : Int32)) := g 41 (by decide) h41
  have g42 : ¬ (nI c = (42 : Int32)) := g 42 (by decide) h42
  have g43 : ¬ (nI c = (43 : Int32)) := g 43 (by decide) h43
  have g44 : ¬ (nI c = (44 : Int32)) := g 44 (by decide) h44
  have g45 : ¬ (nI c = (45 : Int32)) := g 45 (by decide) h45
  have g46 : ¬ (nI c = (46 : Int32)) := g 46 (by decide) h46
  have g47 : ¬ (nI c = (47 : Int32)) := g 47 (by decide) h47
  rw [if_neg g37, if_neg g38, if_neg g39, if_neg g40, if_neg g41, if_neg g42, if_neg g43, if_neg g44, if_neg g45, if_neg g46, if_neg g47]
  rfl
theorem opC_di {c : Nat} (h : isDi c = true ∨ isLe c = true ∨ c = 60 ∨ c = 62) : opC c = 0 := by
  have : 48 ≤ c := by
    rcases h with h | h | h | h
    · unfold isDi at h
      rw [Bool.and_eq_true, decide_eq_true_eq] at h
      exact h.1
    · unfold isLe at h
      rw [Bool.and_eq_true, decide_eq_true_eq] at h
      omega
    · omega
    · omega
  unfold opC
  rw [if_neg (by omega), if_neg (by omega), if_neg (by omega), if_neg (by omega), if_neg (by omega)]
theorem X_op {B : Nat → Nat} (hB : ∀ i, B i < 256) (n f : Nat) (h : qM) : qcal 62 [qI (tkKind B n f)] h = some (h, some (qI (if opN B n f = 0 then iM1 else nI (opN B n f)))) := by
  have hb := hB f
  unfold tkKind opN
  by_cases q : n ≤ f
  · rw [if_pos q, if_neg (show ¬ f < n by omega), c62]
    rfl
  · rw [if_neg q, if_pos (show f < n by omega)]
    by_cases c1 : isDi (B f) = true
    · rw [if_pos c1, opC_di (Or.inl c1), c62]
      rfl
    · rw [if_neg c1]
      by_cases c2 : isLe (B f) = true
      · rw [if_pos c2, opC_di (Or.inr (Or.inl c2)), c62]
        rfl
      · rw [if_neg c2]
        by_cases c3 : (B f = 60 ∨ B f = 62) ∧ f + 1 < n ∧ B (f + 1) = 61
        · rw [if_pos c3, opC_di (Or.inr (Or.inr c3.1)), c62]
          rcases c3.1 with z | z
          · rw [z]; rfl
          · rw [z]; rfl
        · rw [if_neg c3]
          exact tab62 hb h
theorem X_sg {B : Nat → Nat} (hB : ∀ i, B i < 256) (n f : Nat) (h : qM) : qcal 63 [qI (tkKind B n f)] h = some (h, some (qI (if sgN B n f = 0 then iM1 else nI (sgN B n f)))) := by
  have hb := hB f
  have no : ∀ c, c ≠ 60 → c ≠ 61 → c ≠ 62 → c < 256 → qcal 63 [qI (nI c)] h = some (h, some (qI iM1)) := by
    intro c h1 h2 h3 h4
    have g : ∀ k : Nat, k < 1000 → c ≠ k → ¬ (nI c = nI k) := fun k hk hne z => by
      rw [eqF hne (by omega) (by omega)] at z
      exact z
    have g1 : ¬ (nI c = (60 : Int32)) := g 60 (by decide) h1
    have g2 : ¬ (nI c = (61 : Int32)) := g 61 (by decide) h2
    have g3 : ¬ (nI c = (62 : Int32)) := g 62 (by decide) h3
    have g4 : ¬ (nI c = (316 : Int32)) := g 316 (by decide) (by omega)
    have g5 : ¬ (nI c = (318 : Int32)) := g 318 (by decide) (by omega)
    rw [c63, if_neg g1, if_neg g2, if_neg g3, if_neg g4, if_neg g5]
    rfl
  unfold tkKind sgN
  by_cases q : n ≤ f
  · rw [if_pos q, if_neg (show ¬ f < n by omega), c63]
    rfl
  · rw [if_neg q, if_pos (show f < n by omega)]
    by_cases c1 : isDi (B f) = true
    · have := isDi_le c1
      rw [if_pos c1, if_neg (show ¬ B f = 61 by omega), if_neg (show ¬ B f = 60 by omega), if_neg (show ¬ B f = 62 by omega), c63]
      rfl
    · rw [if_neg c1]
      by_cases c2 : isLe (B f) = true
      · have : 97 ≤ B f := by
          unfold isLe at c2
          rw [Bool.and_eq_true, decide_eq_true_eq] at c2
          exact c2.1
        rw [if_pos c2, if_neg (show ¬ B f = 61 by omega), if_neg (show ¬ B f = 60 by omega), if_neg (show ¬ B f = 62 by omega), c63]
        rfl
      · rw [if_neg c2]
        by_cases c3 : (B f = 60 ∨ B f = 62) ∧ f + 1 < n ∧ B (f + 1) = 61
        · rw [if_pos c3, if_pos c3.2, if_pos c3.2, c63]
          rcases c3.1 with z | z
          · rw [z]; rfl
          · rw [z]; rfl
        · rw [if_neg c3]
          by_cases d1 : B f = 61
          · rw [d1, c63]; rfl
          · rw [if_neg d1]
            by_cases d2 : B f = 60
            · rw [if_pos d2, if_neg (fun z => c3 ⟨Or.inl d2, z⟩), d2, c63]; rfl
            · rw [if_neg d2]
              by_cases d3 : B f = 62
              · rw [if_pos d3, if_neg (fun z => c3 ⟨Or.inr d3, z⟩), d3, c63]; rfl
              · rw [if_neg d3]
                exact no (B f) d2 d1 d3 hb
theorem X_lev {x : Nat} (hx : x ≤ 17) (h : qM) : qcal 61 [qI (nI x)] h = some (h, some (qI (nI (lev x)))) := by
  have : x = 0 ∨ x = 1 ∨ x = 2 ∨ x = 3 ∨ x = 4 ∨ x = 5 ∨ x = 6 ∨ x = 7 ∨ x = 8 ∨ x = 9 ∨ x = 10 ∨ x = 11 ∨ x = 12 ∨ x = 13 ∨ x = 14 ∨ x = 15 ∨ x = 16 ∨ x = 17 := by omega
  rw [c61]
  rcases this with rfl | rfl | rfl | rfl | rfl | rfl | rfl | rfl | rfl | rfl | rfl | rfl | rfl | rfl | rfl | rfl | rfl | rfl <;> rfl
theorem X_65 {v : Nat} (hv : v < 10) (h : qM) : qcal 65 [qI (nI v)] h = some (h, some (qR 19 (some (txo v)))) := by
  have : v = 0 ∨ v = 1 ∨ v = 2 ∨ v = 3 ∨ v = 4 ∨ v = 5 ∨ v = 6 ∨ v = 7 ∨ v = 8 ∨ v = 9 := by omega
  rw [c65]
  rcases this with rfl | rfl | rfl | rfl | rfl | rfl | rfl | rfl | rfl | rfl <;> rfl
theorem txo_lt (v : Nat) : txo v < 16 := by
  unfold txo
  split
  · decide
  split
  · decide
  split
  · decide
  split
  · decide
  split
  · decide
  split
  · decide
  split
  · decide
  split
  · decide
  split <;> decide
theorem nmo_lt {B : Nat → Nat} {n f : Nat} : ∀ d v x, nmo B n f d v = some x → v ≤ x ∧ x < v + d ∧ wdM B n f (txo x) = true
  | 0, v, x, h => by cases h
  | d + 1, v, x, h => by
    unfold nmo at h
    split at h
    · cases h
      rename_i q
      exact ⟨Nat.le_refl _, by omega, q⟩
    · have := nmo_lt d (v + 1) x h
      exact ⟨by omega, by omega, this.2.2⟩
