/-! GEOMETRY: counts, lengths and references stay; ints and longs change -/
abbrev qG : Type := (Nat × Nat) × ((Nat → Nat) × ((Nat → Nat → Nat) × (Nat → Nat → Nat → Option Nat)))
abbrev qIm : Type := Nat → Nat → Nat → Int32
abbrev qJm : Type := Nat → Nat → Nat → Int64
def gm (G : qG) (I : qIm) (J : qJm) : qM := (G.1, G.2.1, G.2.2.1, I, J, G.2.2.2)
def gP (G : qG) : Nat → Nat → Nat → Option Nat := G.2.2.2
def gL (G : qG) : Nat → Nat → Nat := G.2.2.1
def gC (G : qG) : Nat → Nat := G.2.1
def gsP (G : qG) (k j s : Nat) (v : Option Nat) : qG := (G.1, G.2.1, G.2.2.1, u3 G.2.2.2 k j s v)
theorem mI_gm (G : qG) (I : qIm) (J : qJm) : mI (gm G I J) = I := rfl
theorem mJ_gm (G : qG) (I : qIm) (J : qJm) : mJ (gm G I J) = J := rfl
theorem mP_gm (G : qG) (I : qIm) (J : qJm) : mP (gm G I J) = gP G := rfl
theorem mL_gm (G : qG) (I : qIm) (J : qJm) : mL (gm G I J) = gL G := rfl
theorem mC_gm (G : qG) (I : qIm) (J : qJm) : mC (gm G I J) = gC G := rfl
theorem mA_gm (G : qG) (I : qIm) (J : qJm) : mA (gm G I J) = G.1 := rfl
theorem sI_gm (G : qG) (I : qIm) (J : qJm) (k j s : Nat) (v : Int32) : sI (gm G I J) k j s v = gm G (u3 I k j s v) J := rfl
theorem sJ_gm (G : qG) (I : qIm) (J : qJm) (k j s : Nat) (v : Int64) : sJ (gm G I J) k j s v = gm G I (u3 J k j s v) := rfl
theorem sW_gm (G : qG) (I : qIm) (J : qJm) (k j : Nat) (g : Nat → Int32) : sW (gm G I J) k j g = gm G (u2 I k j g) J := rfl
theorem sP_gm (G : qG) (I : qIm) (J : qJm) (k j s : Nat) (v : Option Nat) : sP (gm G I J) k j s v = gm (gsP G k j s v) I J := rfl
theorem gP_gsP (G : qG) (k j s : Nat) (v : Option Nat) (k' j' s' : Nat) : gP (gsP G k j s v) k' j' s' = if k' = k ∧ j' = j ∧ s' = s then v else gP G k' j' s' := rfl
theorem gL_gsP (G : qG) (k j s : Nat) (v : Option Nat) : gL (gsP G k j s v) = gL G := rfl
theorem gC_gsP (G : qG) (k j s : Nat) (v : Option Nat) : gC (gsP G k j s v) = gC G := rfl
theorem gA_gsP (G : qG) (k j s : Nat) (v : Option Nat) : (gsP G k j s v).1 = G.1 := rfl
theorem u3_app {α : Type} (f : Nat → Nat → Nat → α) (k j s : Nat) (v : α) (k' j' s' : Nat) : u3 f k j s v k' j' s' = if k' = k ∧ j' = j ∧ s' = s then v else f k' j' s' := rfl
theorem u2_app {α : Type} (f : Nat → Nat → Nat → α) (k j : Nat) (g : Nat → α) (k' j' s' : Nat) : u2 f k j g k' j' s' = if k' = k ∧ j' = j then g s' else f k' j' s' := rfl
theorem u3n {α : Type} {f : Nat → Nat → Nat → α} {k j s : Nat} {v : α} {k' j' s' : Nat} (h : ¬ (k' = k ∧ j' = j ∧ s' = s)) : u3 f k j s v k' j' s' = f k' j' s' := if_neg h
theorem u3_eq {α : Type} {f : Nat → Nat → Nat → α} {k j s : Nat} {v : α} : u3 f k j s v k j s = v := if_pos ⟨rfl, rfl, rfl⟩
theorem u2n {α : Type} {f : Nat → Nat → Nat → α} {k j : Nat} {g : Nat → α} {k' j' s' : Nat} (h : ¬ (k' = k ∧ j' = j)) : u2 f k j g k' j' s' = f k' j' s' := if_neg h
theorem u2_eq {α : Type} {f : Nat → Nat → Nat → α} {k j : Nat} {g : Nat → α} {s' : Nat} : u2 f k j g k j s' = g s' := if_pos ⟨rfl, rfl⟩
/-- a call that ends: with an int, with nothing, with a long -/
def GW (G : qG) (o : Option qO) (P : qIm → qJm → Int32 → Prop) : Prop := ∃ I J x, o = some (gm G I J, some (qI x)) ∧ P I J x
def GV (G : qG) (o : Option qO) (P : qIm → qJm → Prop) : Prop := ∃ I J, o = some (gm G I J, none) ∧ P I J
def GJ (G : qG) (o : Option qO) (P : qIm → qJm → Int64 → Prop) : Prop := ∃ I J x, o = some (gm G I J, some (qJ x)) ∧ P I J x
theorem GW.ret {G : qG} {I : qIm} {J : qJm} {x : Int32} {P : qIm → qJm → Int32 → Prop} (h : P I J x) : GW G (some (gm G I J, some (qI x))) P := ⟨I, J, x, rfl, h⟩
theorem GV.ret {G : qG} {I : qIm} {J : qJm} {P : qIm → qJm → Prop} (h : P I J) : GV G (some (gm G I J, none)) P := ⟨I, J, rfl, h⟩
theorem GJ.ret {G : qG} {I : qIm} {J : qJm} {x : Int64} {P : qIm → qJm → Int64 → Prop} (h : P I J x) : GJ G (some (gm G I J, some (qJ x))) P := ⟨I, J, x, rfl, h⟩
theorem GW.mono {G : qG} {o : Option qO} {P Q : qIm → qJm → Int32 → Prop} (h : GW G o P) (k : ∀ I J x, P I J x → Q I J x) : GW G o Q := by
  obtain ⟨I, J, x, e, hp⟩ := h
  exact ⟨I, J, x, e, k _ _ _ hp⟩
theorem GV.mono {G : qG} {o : Option qO} {P Q : qIm → qJm → Prop} (h : GV G o P) (k : ∀ I J, P I J → Q I J) : GV G o Q := by
  obtain ⟨I, J, e, hp⟩ := h
  exact ⟨I, J, e, k _ _ hp⟩
theorem GW.then {G G' : qG} {o : Option qO} {P : qIm → qJm → Int32 → Prop} {f : Int32 → qM → Option qO} {Q : qIm → qJm → Int32 → Prop} (h : GW G o P) (k : ∀ I J x, P I J x → GW G' (f x (gm G I J)) Q) : GW G' (qbI o f) Q := by
  obtain ⟨I, J, x, e, hp⟩ := h
  rw [e, qbI_some]
  exact k _ _ _ hp
theorem GW.thenV {G G' : qG} {o : Option qO} {P : qIm → qJm → Int32 → Prop} {f : Int32 → qM → Option qO} {Q : qIm → qJm → Prop} (h : GW G o P) (k : ∀ I J x, P I J x → GV G' (f x (gm G I J)) Q) : GV G' (qbI o f) Q := by
  obtain ⟨I, J, x, e, hp⟩ := h
  rw [e, qbI_some]
  exact k _ _ _ hp
theorem GW.thenJ {G G' : qG} {o : Option qO} {P : qIm → qJm → Int32 → Prop} {f : Int32 → qM → Option qO} {Q : qIm → qJm → Int64 → Prop} (h : GW G o P) (k : ∀ I J x, P I J x → GJ G' (f x (gm G I J)) Q) : GJ G' (qbI o f) Q := by
  obtain ⟨I, J, x, e, hp⟩ := h
  rw [e, qbI_some]
  exact k _ _ _ hp
theorem GV.then {G G' : qG} {o : Option qO} {P : qIm → qJm → Prop} {f : qM → Option qO} {Q : qIm → qJm → Int32 → Prop} (h : GV G o P) (k : ∀ I J, P I J → GW G' (f (gm G I J)) Q) : GW G' (qbV o f) Q := by
  obtain ⟨I, J, e, hp⟩ := h
  rw [e, qbV_some]
  exact k _ _ hp
theorem GV.thenV {G G' : qG} {o : Option qO} {P : qIm → qJm → Prop} {f : qM → Option qO} {Q : qIm → qJm → Prop} (h : GV G o P) (k : ∀ I J, P I J → GV G' (f (gm G I J)) Q) : GV G' (qbV o f) Q := by
  obtain ⟨I, J, e, hp⟩ := h
  rw [e, qbV_some]
  exact k _ _ hp
theorem GV.thenJ {G G' : qG} {o : Option qO} {P : qIm → qJm → Prop} {f : qM → Option qO} {Q : qIm → qJm → Int64 → Prop} (h : GV G o P) (k : ∀ I J, P I J → GJ G' (f (gm G I J)) Q) : GJ G' (qbV o f) Q := by
  obtain ⟨I, J, e, hp⟩ := h
  rw [e, qbV_some]
  exact k _ _ hp
theorem GJ.then {G G' : qG} {o : Option qO} {P : qIm → qJm → Int64 → Prop} {f : Int64 → qM → Option qO} {Q : qIm → qJm → Int32 → Prop} (h : GJ G o P) (k : ∀ I J x, P I J x → GW G' (f x (gm G I J)) Q) : GW G' (qbJ o f) Q := by
  obtain ⟨I, J, x, e, hp⟩ := h
  rw [e, qbJ_some]
  exact k _ _ _ hp
/-! numbers as ints: the literals, less, more, bits -/
theorem lt0 : (0 : Int32) = nI 0 := rfl
theorem lt1 : (1 : Int32) = nI 1 := rfl
theorem lt2 : (2 : Int32) = nI 2 := rfl
theorem lt3 : (3 : Int32) = nI 3 := rfl
theorem lt4 : (4 : Int32) = nI 4 := rfl
theorem lt5 : (5 : Int32) = nI 5 := rfl
theorem lt6 : (6 : Int32) = nI 6 := rfl
theorem lt7 : (7 : Int32) = nI 7 := rfl
theorem lt8 : (8 : Int32) = nI 8 := rfl
theorem lt9 : (9 : Int32) = nI 9 := rfl
theorem lt10 : (10 : Int32) = nI 10 := rfl
theorem lt11 : (11 : Int32) = nI 11 := rfl
theorem lt12 : (12 : Int32) = nI 12 := rfl
theorem lt19 : (19 : Int32) = nI 19 := rfl
theorem lt20 : (20 : Int32) = nI 20 := rfl
theorem lt21 : (21 : Int32) = nI 21 := rfl
theorem lt22 : (22 : Int32) = nI 22 := rfl
theorem lt23 : (23 : Int32) = nI 23 := rfl
theorem lt30 : (30 : Int32) = nI 30 := rfl
theorem lt40 : (40 : Int32) = nI 40 := rfl
theorem lt60 : (60 : Int32) = nI 60 := rfl
theorem lt61 : (61 : Int32) = nI 61 := rfl
theorem lt99 : (99 : Int32) = nI 99 := rfl
theorem lt100 : (100 : Int32) = nI 100 := rfl
theorem lt128 : (128 : Int32) = nI 128 := rfl
theorem lt200 : (200 : Int32) = nI 200 := rfl
theorem lt300 : (300 : Int32) = nI 300 := rfl
theorem lt620 : (620 : Int32) = nI 620 := rfl
theorem lt760 : (760 : Int32) = nI 760 := rfl
theorem lt999 : (999 : Int32) = nI 999 := rfl
theorem lt1024 : (1024 : Int32) = nI 1024 := rfl
theorem lt9999 : (9999 : Int32) = nI 9999 := rfl
theorem lt65536 : (65536 : Int32) = nI 65536 := rfl
theorem nIx_eq {a b : Nat} (ha : a < 2 ^ 31) (hb : b < 2 ^ 31) : (nI a = nI b) = (a = b) := propext (nI_eq ha hb)
theorem nIx_le {a b : Nat} (ha : a < 2 ^ 31) (hb : b < 2 ^ 31) : (nI a ≤ nI b) = (a ≤ b) := propext (nI_leI ha hb)
theorem nIx_lt {a b : Nat} (ha : a < 2 ^ 31) (hb : b < 2 ^ 31) : (nI a < nI b) = (a < b) := propext (nI_ltI ha hb)
theorem m1_toInt : (-1 : Int32).toInt = -1 := rfl
theorem nIx_m1 {a : Nat} (ha : a < 2 ^ 31) : (nI a = (-1)) = False := by
  refine propext ⟨fun h => ?_, False.elim⟩
  have := congrArg Int32.toInt h
  rw [nI_toInt ha, m1_toInt] at this
  omega
theorem nIx_m2 {a : Nat} (ha : a < 2 ^ 31) : (nI a = (-2)) = False := by
  refine propext ⟨fun h => ?_, False.elim⟩
  have := congrArg Int32.toInt h
  rw [nI_toInt ha, show (-2 : Int32).toInt = -2 from rfl] at this
  omega
theorem m1_lt0 : ((-1 : Int32) < nI 0) = True := by decide
theorem m1_m1 : ((-1 : Int32) = (-1)) = True := by simp
theorem m1_m2 : ((-1 : Int32) = (-2)) = False := by decide
theorem m2_m1 : ((-2 : Int32) = (-1)) = False := by decide
theorem nI_mul (a b : Nat) : nI a * nI b = nI (a * b) := pk_mul a b
theorem nI_sub {a b : Nat} (h : b ≤ a) : nI a - nI b = nI (a - b) := pk_sub h
theorem q_rem {a d : Nat} (ha : a < 2 ^ 31) (h0 : 0 < d) (hd : d < 2 ^ 31) : nI a - nI a / nI d * nI d = nI (a % d) := pk_rem ha h0 hd
theorem q_div {a d : Nat} (ha : a < 2 ^ 31) (h0 : 0 < d) (hd : d < 2 ^ 31) : nI a / nI d = nI (a / d) := pk_div ha h0 hd
theorem sh31 : ∀ n, n < 31 → ((nI n &&& 31).toBitVec.smod 32).toNat = n := by decide +kernel
theorem nI_shl1 {k : Nat} (hk : k < 31) : (nI 1) <<< (nI k &&& 31) = nI (2 ^ k) := by
  have h : 2 ^ k < 2 ^ 31 := Nat.pow_lt_pow_right (by decide) hk
  have := pk_shlN (n := 1) (nI k &&& 31) k (sh31 k hk) (by omega)
  rw [Nat.one_mul] at this
  exact this
theorem nI_shl {n k : Nat} (hk : k < 31) (h : n * 2 ^ k < 2 ^ 32) : (nI n) <<< (nI k &&& 31) = nI (n * 2 ^ k) := pk_shlN (nI k &&& 31) k (sh31 k hk) h
theorem nI_shr {n k : Nat} (hn : n < 2 ^ 31) (hk : k < 31) : (nI n) >>> (nI k &&& 31) = nI (n / 2 ^ k) := pk_shrN hn (nI k &&& 31) k (sh31 k hk)
theorem nI_and1 (n : Nat) : nI n &&& nI 1 = nI (n % 2) := by
  rw [nI_and, Nat.and_one_is_mod]
/-- those of a that are not of b -/
def andn (a b : Nat) : Nat := a ^^^ (a &&& b)
theorem nIx_andn (a b : Nat) : nI a &&& (nI b ^^^ (-1)) = nI (andn a b) := nI_andn a b
theorem and_lt2 {a b w : Nat} (h : a < 2 ^ w) : a &&& b < 2 ^ w := Nat.lt_of_le_of_lt Nat.and_le_left h
theorem and_lt2' {a b w : Nat} (h : b < 2 ^ w) : a &&& b < 2 ^ w := Nat.lt_of_le_of_lt Nat.and_le_right h
theorem andn_lt {a b w : Nat} (h : a < 2 ^ w) : andn a b < 2 ^ w := Nat.xor_lt_two_pow h (and_lt2 h)
theorem andn_bit (a b i : Nat) : (andn a b).testBit i = (a.testBit i && !b.testBit i) := by
  unfold andn
  rw [Nat.testBit_xor, Nat.testBit_and]
  cases a.testBit i <;> cases b.testBit i <;> rfl
theorem pc_le (n : Nat) : pc n ≤ 10 := pcw_le 10 n
/-- a number from a least to a greatest -/
def inZ (x : Int32) (a b : Int) : Bool := decide (a ≤ x.toInt) && decide (x.toInt ≤ b)
theorem inZ_nat {x : Int32} {a b : Nat} (h : inZ x a b = true) : ∃ n : Nat, a ≤ n ∧ n ≤ b ∧ x = nI n := by
  unfold inZ at h
  rw [Bool.and_eq_true, decide_eq_true_eq, decide_eq_true_eq] at h
  obtain ⟨h1, h2⟩ := h
  have hx : x = nI x.toInt.toNat := by
    apply Int32.toInt_inj.mp
    have := x.toInt_lt
    rw [nI_toInt (by omega)]
    omega
  exact ⟨_, by omega, by omega, hx⟩
theorem inZ_0 {x : Int32} {n : Nat} (h : inZ x 0 ((n : Int) - 1) = true) : ∃ i : Nat, i < n ∧ x = nI i := by
  cases n with
  | zero =>
    unfold inZ at h
    rw [Bool.and_eq_true, decide_eq_true_eq, decide_eq_true_eq] at h
    omega
  | succ n =>
    obtain ⟨i, -, h2, h3⟩ := inZ_nat (a := 0) (b := n) (by rw [← h]; congr 1; omega)
    exact ⟨i, by omega, h3⟩
theorem inZ_m1 {x : Int32} {n : Nat} (h : inZ x (-1) ((n : Int) - 1) = true) : x = -1 ∨ ∃ i : Nat, i < n ∧ x = nI i := by
  by_cases hx : x = -1
  · exact Or.inl hx
  · refine Or.inr (inZ_0 ?_)
    unfold inZ at h ⊢
    rw [Bool.and_eq_true, decide_eq_true_eq, decide_eq_true_eq] at h ⊢
    refine ⟨?_, h.2⟩
    have : x.toInt ≠ -1 := fun he => hx (Int32.toInt_inj.mp (he.trans m1_toInt.symm))
    omega
theorem inZ_of {n : Nat} {a b : Int} (hn : n < 2 ^ 31) (h1 : a ≤ n) (h2 : (n : Int) ≤ b) : inZ (nI n) a b = true := by
  unfold inZ
  rw [nI_toInt hn, Bool.and_eq_true, decide_eq_true_eq, decide_eq_true_eq]
  exact ⟨h1, h2⟩
/-- who, or nobody -/
def oI : Option Nat → Int32
  | none => -1
  | some n => nI n
theorem oI_none : oI none = -1 := rfl
theorem oI_some (n : Nat) : oI (some n) = nI n := rfl
def bI (b : Bool) : Int32 := if b then nI 1 else nI 0
theorem bI_0 (b : Bool) : (bI b = nI 0) = (b = false) := by cases b <;> decide
theorem bI_1 (b : Bool) : (bI b = nI 1) = (b = true) := by cases b <;> decide
theorem bI_and (b : Bool) : bI b &&& nI 1 = bI b := by cases b <;> decide
theorem bI_t : bI true = nI 1 := rfl
theorem bI_f : bI false = nI 0 := rfl
theorem bI_dec (b : Bool) : decide (bI b &&& nI 1 = bI b) = true := by cases b <;> decide
theorem bI_ite {c : Prop} (h : Decidable c) {α : Type} (f : Int32 → α) : (if c then f (nI 1) else f (nI 0)) = f (bI (decide c)) := by
  by_cases hc : c
  · rw [if_pos hc, decide_eq_true hc]; rfl
  · rw [if_neg hc, decide_eq_false hc]; rfl
theorem bI_ite' {c : Prop} (h : Decidable c) {α : Type} (f : Int32 → α) : (if c then f (nI 0) else f (nI 1)) = f (bI (decide (¬ c))) := by
  by_cases hc : c
  · rw [if_pos hc]; simp [hc]; rfl
  · rw [if_neg hc]; simp [hc]; rfl
def iM1 : Int32 := -1
def iM2 : Int32 := -2
def iM3 : Int32 := -3
theorem ltm1 : (-1 : Int32) = iM1 := rfl
theorem ltm2 : (-2 : Int32) = iM2 := rfl
theorem ltm3 : (-3 : Int32) = iM3 := rfl
theorem leT {a b : Nat} (h : a ≤ b) (hb : b < 2 ^ 31) : (nI a ≤ nI b) = True := by rw [nIx_le (by omega) hb, eq_true h]
theorem leF {a b : Nat} (h : b < a) (ha : a < 2 ^ 31) : (nI a ≤ nI b) = False := by rw [nIx_le ha (by omega)]; exact eq_false (by omega)
theorem ltT {a b : Nat} (h : a < b) (hb : b < 2 ^ 31) : (nI a < nI b) = True := by rw [nIx_lt (by omega) hb, eq_true h]
theorem ltF {a b : Nat} (h : b ≤ a) (ha : a < 2 ^ 31) : (nI a < nI b) = False := by rw [nIx_lt ha (by omega)]; exact eq_false (by omega)
theorem eqF {a b : Nat} (h : a ≠ b) (ha : a < 2 ^ 31) (hb : b < 2 ^ 31) : (nI a = nI b) = False := by rw [nIx_eq ha hb, eq_false h]
theorem nIM1F {a : Nat} (ha : a < 2 ^ 31) : (nI a = iM1) = False := nIx_m1 ha
theorem nIM2F {a : Nat} (ha : a < 2 ^ 31) : (nI a = iM2) = False := nIx_m2 ha
theorem iM1lt {a : Nat} (ha : a < 2 ^ 31) : (iM1 < nI a) = True := by
  refine eq_true ?_
  rw [Int32.lt_iff_toInt_lt, nI_toInt ha]
  have : iM1.toInt = -1 := rfl
  omega
theorem iM2lt {a : Nat} (ha : a < 2 ^ 31) : (iM2 < nI a) = True := by
  refine eq_true ?_
  rw [Int32.lt_iff_toInt_lt, nI_toInt ha]
  have : iM2.toInt = -2 := rfl
  omega
theorem iM1le {a : Nat} (ha : a < 2 ^ 31) : (nI a ≤ iM1) = False := by
  refine eq_false ?_
  rw [Int32.le_iff_toInt_le, nI_toInt ha]
  have : iM1.toInt = -1 := rfl
  omega
theorem iM1M1 : (iM1 = iM1) = True := eq_self _
theorem iM1M2 : (iM1 = iM2) = False := by decide
theorem iM2M1 : (iM2 = iM1) = False := by decide
theorem iM2M2 : (iM2 = iM2) = True := eq_self _
theorem nI_aM1 {a : Nat} (h : 0 < a) : nI a + iM1 = nI (a - 1) := by
  have := pk_m1 (a - 1)
  rw [show a - 1 + 1 = a from by omega] at this
  exact this
theorem iM1_1 : iM1 + nI 1 = nI 0 := by decide
theorem andnM (a b : Nat) : nI a &&& (nI b ^^^ iM1) = nI (andn a b) := nI_andn a b
theorem oI0 : oI none = iM1 := rfl
theorem GJ.ret' {G : qG} {o : Option qO} {f : Int64 → qM → Option qO} {P Q : qIm → qJm → Int64 → Prop} (hf : f = fun x h => some (h, some (qJ x))) (h : GJ G o P) (k : ∀ I J x, P I J x → Q I J x) : GJ G (qbJ o f) Q := by
  obtain ⟨I, J, x, e, hp⟩ := h
  rw [e, qbJ_some, hf]
  exact ⟨I, J, x, rfl, k _ _ _ hp⟩
theorem GW.ret' {G : qG} {o : Option qO} {f : Int32 → qM → Option qO} {P Q : qIm → qJm → Int32 → Prop} (hf : f = fun x h => some (h, some (qI x))) (h : GW G o P) (k : ∀ I J x, P I J x → Q I J x) : GW G (qbI o f) Q := by
  obtain ⟨I, J, x, e, hp⟩ := h
  rw [e, qbI_some, hf]
  exact ⟨I, J, x, rfl, k _ _ _ hp⟩
theorem GJ.mono {G : qG} {o : Option qO} {P Q : qIm → qJm → Int64 → Prop} (h : GJ G o P) (k : ∀ I J x, P I J x → Q I J x) : GJ G o Q := by
  obtain ⟨I, J, x, e, hp⟩ := h
  exact ⟨I, J, x, e, k _ _ _ hp⟩
/-! ONE STEP AFTER THE OTHER -/
theorem GW.ofE {G : qG} {o o' : Option qO} {P : qIm → qJm → Int32 → Prop} (e : o = o') (h : GW G o' P) : GW G o P := e ▸ h
theorem GV.ofE {G : qG} {o o' : Option qO} {P : qIm → qJm → Prop} (e : o = o') (h : GV G o' P) : GV G o P := e ▸ h
theorem GJ.ofE {G : qG} {o o' : Option qO} {P : qIm → qJm → Int64 → Prop} (e : o = o') (h : GJ G o' P) : GJ G o P := e ▸ h
theorem e_let {α β : Type} {v v' : α} {f : α → β} {r : β} (hv : v = v') (h : f v' = r) : qlet v f = r := by rw [hv]; exact h
theorem e_bind {α β : Type} {x : Option α} {a : α} {f : α → Option β} {r : Option β} (hx : x = some a) (h : f a = r) : Option.bind x f = r := by rw [hx]; exact h
theorem e_cond {α : Type} {c : Bool} {a b r : α} (hc : c = true) (h : a = r) : (bif c then a else b) = r := by rw [hc]; exact h
theorem e_condF {α : Type} {c : Bool} {a b r : α} (hc : c = false) (h : b = r) : (bif c then a else b) = r := by rw [hc]; exact h
theorem e_ifT {α : Type} {c : Prop} {i : Decidable c} {a b r : α} (hc : c) (h : a = r) : (@ite α c i a b) = r := by rw [if_pos hc]; exact h
theorem e_ifF {α : Type} {c : Prop} {i : Decidable c} {a b r : α} (hc : ¬ c) (h : b = r) : (@ite α c i a b) = r := by rw [if_neg hc]; exact h
theorem e_cI {o : Option qO} {m : qM} {x : Int32} {f : Int32 → qM → Option qO} {r : Option qO} (ho : o = some (m, some (qI x))) (h : f x m = r) : qbI o f = r := by rw [ho]; exact h
theorem e_cJ {o : Option qO} {m : qM} {x : Int64} {f : Int64 → qM → Option qO} {r : Option qO} (ho : o = some (m, some (qJ x))) (h : f x m = r) : qbJ o f = r := by rw [ho]; exact h
theorem e_cV {o : Option qO} {m : qM} {f : qM → Option qO} {r : Option qO} (ho : o = some (m, none)) (h : f m = r) : qbV o f = r := by rw [ho]; exact h
theorem e_cR {n : Nat} {o : Option qO} {m : qM} {x : Option Nat} {f : Option Nat → qM → Option qO} {r : Option qO} (ho : o = some (m, some (qR n x))) (h : f x m = r) : qbR n o f = r := by rw [ho, qbR_some]; exact h
theorem e_nnN {a b r : Option qO} (h : a = r) : qnn none a b = r := h
theorem e_nnS {x : Nat} {a b r : Option qO} (h : b = r) : qnn (some x) a b = r := h
theorem e_nn {o o' : Option Nat} {a b r : Option qO} (ho : o = o') (h : qnn o' a b = r) : qnn o a b = r := by rw [ho]; exact h
theorem e_aI {m : Nat} {as as' : List qV} {h : qM} {f : Int32 → qM → Option qO} {r : Option qO} (ha : as = as') (e : qbI (qcal m as' h) f = r) : qbI (qcal m as h) f = r := by rw [ha]; exact e
theorem e_aJ {m : Nat} {as as' : List qV} {h : qM} {f : Int64 → qM → Option qO} {r : Option qO} (ha : as = as') (e : qbJ (qcal m as' h) f = r) : qbJ (qcal m as h) f = r := by rw [ha]; exact e
theorem e_aV {m : Nat} {as as' : List qV} {h : qM} {f : qM → Option qO} {r : Option qO} (ha : as = as') (e : qbV (qcal m as' h) f = r) : qbV (qcal m as h) f = r := by rw [ha]; exact e
theorem e_rI {h h' : qM} {x x' : Int32} (eh : h = h') (ex : x = x') : (some (h, some (qI x)) : Option qO) = some (h', some (qI x')) := by rw [eh, ex]
theorem e_rJ {h h' : qM} {x x' : Int64} (eh : h = h') (ex : x = x') : (some (h, some (qJ x)) : Option qO) = some (h', some (qJ x')) := by rw [eh, ex]
theorem e_rR {n : Nat} {h h' : qM} {x x' : Option Nat} (eh : h = h') (ex : x = x') : (some (h, some (qR n x)) : Option qO) = some (h', some (qR n x')) := by rw [eh, ex]
theorem e_rV {h h' : qM} (eh : h = h') : (some (h, none) : Option qO) = some (h', none) := by rw [eh]
theorem e_t {F : qK} {pc : Nat} {ls ls' : List (Option qV)} {st st' : List qV} {h h' : qM} (e1 : ls = ls') (e2 : st = st') (e3 : h = h') : F pc ls st h = F pc ls' st' h' := by rw [e1, e2, e3]
theorem stL : (0 : Int32) = nI 0 ∧ (1 : Int32) = nI 1 ∧ (2 : Int32) = nI 2 ∧ (3 : Int32) = nI 3 ∧ (4 : Int32) = nI 4 ∧ (5 : Int32) = nI 5 ∧ (6 : Int32) = nI 6 ∧ (7 : Int32) = nI 7 ∧ (8 : Int32) = nI 8 ∧ (9 : Int32) = nI 9 ∧ (10 : Int32) = nI 10 ∧ (11 : Int32) = nI 11 ∧ (12 : Int32) = nI 12 ∧ (14 : Int32) = nI 14 ∧ (15 : Int32) = nI 15 ∧ (16 : Int32) = nI 16 ∧ (19 : Int32) = nI 19 ∧ (20 : Int32) = nI 20 ∧ (21 : Int32) = nI 21 ∧ (22 : Int32) = nI 22 ∧ (23 : Int32) = nI 23 ∧ (30 : Int32) = nI 30 ∧ (40 : Int32) = nI 40 ∧ (60 : Int32) = nI 60 ∧ (61 : Int32) = nI 61 ∧ (99 : Int32) = nI 99 ∧ (100 : Int32) = nI 100 ∧ (128 : Int32) = nI 128 ∧ (200 : Int32) = nI 200 ∧ (300 : Int32) = nI 300 ∧ (620 : Int32) = nI 620 ∧ (760 : Int32) = nI 760 ∧ (999 : Int32) = nI 999 ∧ (1024 : Int32) = nI 1024 ∧ (9999 : Int32) = nI 9999 ∧ (65536 : Int32) = nI 65536 := by
  decide
theorem stG : (∀ (G : qG) (I : qIm) (J : qJm), mI (gm G I J) = I) ∧ (∀ (G : qG) (I : qIm) (J : qJm), mJ (gm G I J) = J) ∧ (∀ (G : qG) (I : qIm) (J : qJm), mP (gm G I J) = gP G) ∧ (∀ (G : qG) (I : qIm) (J : qJm), mL (gm G I J) = gL G) ∧ (∀ (G : qG) (I : qIm) (J : qJm), mC (gm G I J) = gC G) ∧ (∀ (G : qG) (I : qIm) (J : qJm) (k j s : Nat) (v : Int32), sI (gm G I J) k j s v = gm G (u3 I k j s v) J) ∧ (∀ (G : qG) (I : qIm) (J : qJm) (k j s : Nat) (v : Int64), sJ (gm G I J) k j s v = gm G I (u3 J k j s v)) ∧ (∀ (G : qG) (I : qIm) (J : qJm) (k j : Nat) (g : Nat → Int32), sW (gm G I J) k j g = gm G (u2 I k j g) J) ∧ (∀ (G : qG) (I : qIm) (J : qJm) (k j s : Nat) (v : Option Nat), sP (gm G I J) k j s v = gm (gsP G k j s v) I J) := ⟨mI_gm, mJ_gm, mP_gm, mL_gm, mC_gm, sI_gm, sJ_gm, sW_gm, sP_gm⟩
theorem stC : (∀ (n : Nat), n < 2 ^ 31 → (nI n).toNatClampNeg = n) ∧ (∀ (i n : Nat), i < n → n ≤ 2 ^ 31 → qin (nI i) n = true) ∧ (∀ a b : Nat, nI a + nI b = nI (a + b)) ∧ (∀ a b : Nat, nI a * nI b = nI (a * b)) ∧ (∀ a b : Nat, a ≤ b → b < 2 ^ 31 → (nI a ≤ nI b) = True) ∧ (∀ a b : Nat, b < a → a < 2 ^ 31 → (nI a ≤ nI b) = False) ∧ (∀ a b : Nat, a < b → b < 2 ^ 31 → (nI a < nI b) = True) ∧ (∀ a b : Nat, b ≤ a → a < 2 ^ 31 → (nI a < nI b) = False) ∧ (∀ a b : Nat, a ≠ b → a < 2 ^ 31 → b < 2 ^ 31 → (nI a = nI b) = False) ∧ (∀ a : Nat, a < 2 ^ 31 → (nI a = iM1) = False) ∧ (∀ a : Nat, a < 2 ^ 31 → (nI a = iM2) = False) ∧ (∀ a : Nat, a < 2 ^ 31 → (iM1 < nI a) = True) ∧ (∀ a : Nat, a < 2 ^ 31 → (iM2 < nI a) = True) ∧ (∀ a : Nat, a < 2 ^ 31 → (nI a ≤ iM1) = False) ∧ ((iM1 = iM2) = False) ∧ ((iM2 = iM1) = False) ∧ (∀ a b : Nat, a < b → Nat.blt a b = true) ∧ (∀ a b : Nat, a ≤ b → Nat.ble a b = true) := ⟨fun _ h => nI_clamp h, fun _ _ h h2 => qin_nI h h2, nI_add, nI_mul, fun _ _ => leT, fun _ _ => leF, fun _ _ => ltT, fun _ _ => ltF, fun _ _ => eqF, fun _ => nIM1F, fun _ => nIM2F, fun _ => iM1lt, fun _ => iM2lt, fun _ => iM1le, iM1M2, iM2M1, fun _ _ => blt_true, fun _ _ => ble_true⟩
