/-! EACH INSTRUCTION OF THE FLAT MACHINE IS THE MACHINE'S OWN -/
/-- the words that a callee may ask for -/
def lw_good : List Cond := lw_tbl.filter goodWord
def qstr : List (String × Nat × String × Nat) := [("DoorLetters$RuleReader", 75, "claim", 3), ("DoorLetters$RuleReader", 88, "not", 4), ("DoorLetters$RuleReader", 116, "if", 13), ("DoorLetters$RuleReader", 137, "and", 14), ("DoorLetters$RuleReader", 139, "or", 15), ("DoorLetters$RuleReader", 147, "person", 1), ("DoorLetters$RuleReader", 149, "fits", 5), ("DoorLetters$RuleReader", 151, "lacks", 6), ("DoorLetters$RuleReader", 153, "beyond", 7), ("DoorLetters$RuleReader", 155, "pride", 8), ("DoorLetters$RuleReader", 157, "shame", 9), ("DoorLetters$RuleReader", 159, "seen", 10), ("DoorLetters$RuleReader", 161, "has", 11), ("DoorLetters$RuleReader", 163, "letter", 2), ("DoorLetters$RuleReader", 165, "day", 12), ("DoorLetters$VillageReader", 47, "village", 0), ("DoorLetters$VillageReader", 53, "person", 1), ("DoorLetters$VillageReader", 55, "letter", 2), ("DoorLettersModel", 142, "person", 1), ("DoorLettersModel", 144, "fits", 5), ("DoorLettersModel", 146, "lacks", 6), ("DoorLettersModel", 148, "beyond", 7), ("DoorLettersModel", 150, "pride", 8), ("DoorLettersModel", 151, "shame", 9), ("DoorLettersModel", 152, "seen", 10), ("DoorLettersModel", 154, "has", 11), ("DoorLettersModel", 156, "letter", 2), ("DoorLettersModel", 158, "day", 12), ("DoorLettersModel", 240, "not", 4), ("DoorLettersModel", 254, "and", 14), ("DoorLettersModel", 256, "or", 15), ("DoorLettersModel", 258, "village", 0), ("DoorLettersModel", 296, "claim", 3), ("DoorLettersModel", 298, "if", 13)]
def qnest : List Cond := [.methodLinkNest "DoorLetters" 9 ⟨"DoorLetters$Text", "<init>", "()V"⟩ "DoorLetters", .methodLinkNest "DoorLetters" 18 ⟨"DoorLetters$VillageReader", "<init>", "()V"⟩ "DoorLetters", .methodLinkNest "DoorLetters" 25 ⟨"DoorLetters$RuleReader", "<init>", "()V"⟩ "DoorLetters", .methodLinkNest "DoorLetters" 42 ⟨"DoorLetters$State", "<init>", "()V"⟩ "DoorLetters", .methodLinkNest "DoorLetters" 53 ⟨"DoorLetters$Walk", "<init>", "()V"⟩ "DoorLetters", .methodLinkNest "DoorLetters" 60 ⟨"DoorLetters$Present", "<init>", "()V"⟩ "DoorLetters", .methodLinkNest "DoorLetters" 67 ⟨"DoorLetters$Future", "<init>", "()V"⟩ "DoorLetters", .methodLinkNest "DoorLetters" 74 ⟨"DoorLetters$Past", "<init>", "()V"⟩ "DoorLetters", .methodLinkNest "DoorLetters$Future" 11 ⟨"DoorLetters$Walk", "<init>", "()V"⟩ "DoorLetters", .methodLinkNest "DoorLetters$Future" 20 ⟨"DoorLetters$Moment", "<init>", "()V"⟩ "DoorLetters", .methodLinkNest "DoorLetters$Future" 119 ⟨"DoorLetters", "sumOf", "([I)I"⟩ "DoorLetters", .methodLinkNest "DoorLetters$Past" 11 ⟨"DoorLetters$Walk", "<init>", "()V"⟩ "DoorLetters", .methodLinkNest "DoorLetters$Past" 20 ⟨"DoorLetters$Moment", "<init>", "()V"⟩ "DoorLetters", .methodLinkNest "DoorLetters$Past" 27 ⟨"DoorLetters$Told", "<init>", "()V"⟩ "DoorLetters", .methodLinkNest "DoorLetters$Present" 131 ⟨"DoorLetters", "sumOf", "([I)I"⟩ "DoorLetters", .methodLinkNest "DoorLetters$State" 11 ⟨"DoorLetters$Told", "<init>", "()V"⟩ "DoorLetters", .methodLinkNest "DoorLetters$State" 20 ⟨"DoorLetters$Moment", "<init>", "()V"⟩ "DoorLetters", .methodLinkNest "DoorLetters$VillageReader" 11 ⟨"DoorLetters$Told", "<init>", "()V"⟩ "DoorLetters", .methodLinkNest "DoorLetters$Walk" 17 ⟨"DoorLetters$Told", "<init>", "()V"⟩ "DoorLetters", .methodLinkNest "DoorLetters$Walk" 24 ⟨"DoorLetters$Moment", "<init>", "()V"⟩ "DoorLetters"]
/-- what the tables say, in every state that a method is entered in -/
def qAm (D : va_G) (cy sA : Nat → Nat) (U : State) : Prop :=
  va_K D vwCl [(cy 13, .byte), (cy 14, .int), (cy 15, .long), (cy 16, .boolean), (cy 17, .object RX4), (cy 18, .object RX6)] U ∧ (∀ w ∈ qnest, va_Nw w U) ∧ (va_AO RX4 U ∧ va_AO RX6 U) ∧ va_Nw (.castable "[I" "java/lang/Cloneable") U ∧ ∀ x ∈ qstr, vk_R x.1 x.2.1 x.2.2.1 (sA x.2.2.2) U
/-- the constants of text lie where nothing is written -/
def qSt (sA : Nat → Nat) (A : Nat → Prop) (U : State) : Prop :=
  ∃ adV : Nat → Nat, vk_S 16 (qtext.map List.length) qtext sA adV A U U.heap ∧ va_Z "java/lang/String" "COMPACT_STRINGS" "Z" (.int 1) A U U.heap ∧ va_Zq "jdk/internal/util/Preconditions" "SIOOBE_FORMATTER" "Ljava/util/function/BiFunction;" A U U.heap
def qLo (ρ : Nat → Nat → Nat) (h : qM) (lsA : Array Slot) (ls : List (Option qV)) (nL : Nat) : Prop := lsA.size = nL ∧ lv_wf lsA ∧ ∀ i v, qget ls i = some v → lsA[i]? = some (.val (rv ρ v)) ∧ qOk h v
def qX (h0 : qM) (ρ0 : Nat → Nat → Nat) (h : qM) (ρ : Nat → Nat → Nat) : Prop := mle h0 h ∧ (∀ k j, k < 19 → j < mC h0 k → ρ k j = ρ0 k j) ∧ ρ 19 = ρ0 19
def qCx (p : Program) (s : State) (m : MethodId) (args : Array Value) (meth : Method) (c : Code) (cc : ByteArray) (nL : Nat) (ow : String) (ini : Bool) (D : va_G) (cy : Nat → ClassId) (A : Nat → Prop) (R : Room) (h0 : qM) (ρ0 : Nat → Nat → Nat) (r : qO) : Prop :=
  p.tables.exec = Jvm.exec ∧ c.code = cc ∧ c.maxLocals = nL ∧ s.vm.findClass ow = some m.cls ∧ (∀ w ∈ lw_good, w.before args s = true) ∧ meth.locks = false ∧ (ini = true → meth.name = "<init>") ∧ qAm D cy (ρ0 19) s ∧ qSt (ρ0 19) A s ∧ (∀ q, s.heap.size ≤ q → A q) ∧ (1 ≤ R.frames ∧ 36 ≤ R.locals) ∧ R.cells = (mA r.1).1 - (mA h0).1 ∧ R.slots = (mA r.1).2 - (mA h0).2
def qGo (p : Program) (l : Launch) (e : Env) (R : Room) (s : State) (m : MethodId) (args : Array Value) (below : List Frame) (meth : Method) (c : Code) (nL : Nat) (D : va_G) (cy : Nat → ClassId) (A : Nat → Prop) (Q : State → Prop) (h0 : qM) (ρ0 : Nat → Nat → Nat) (pc : Nat) (ls : List (Option qV)) (st : List qV) (h : qM) : Prop :=
  ∀ (ρ : Nat → Nat → Nat) (H : Heap) (locs : List Loc) (lsA : Array Slot), qCl h → qLo ρ h lsA ls nL → (∀ w ∈ st, qOk h w) → qRep D cy ρ h A H → va_S A s.heap H locs → qX h0 ρ0 h ρ →
    W p l e R s m args below meth c H locs ((mA h).1 - (mA h0).1) ((mA h).2 - (mA h0).2) Q (F0 m pc lsA (st.map (rv ρ)))
theorem qlk_all {α : Type} {P : Nat → α → Prop} : ∀ {L : List (Nat × α)}, (∀ e ∈ L, P e.1 e.2) → ∀ {n : Nat} {x : α}, qlk L n = some x → P n x
  | [], _, n, x, e => by simp [qlk] at e
  | (a, b) :: t, hL, n, x, e => by
    unfold qlk at e
    cases hb : Nat.beq a n with
    | true =>
      rw [hb, cond_true] at e
      cases e
      have := hL (a, b) List.mem_cons_self
      rwa [Nat.eq_of_beq_eq_true hb] at this
    | false =>
      rw [hb, cond_false] at e
      exact qlk_all (fun e he => hL e (List.mem_cons_of_mem _ he)) e
theorem qget_put : ∀ {ls : List (Option qV)} {n i : Nat} {v : Option qV} {w : qV}, qget (qput ls n v) i = some w → (i = n ∧ v = some w) ∨ (i ≠ n ∧ qget ls i = some w)
  | [], n, i, v, w, e => by simp [qput, qget] at e
  | a :: t, 0, 0, v, w, e => Or.inl ⟨rfl, e⟩
  | a :: t, 0, i + 1, v, w, e => Or.inr ⟨by omega, e⟩
  | a :: t, n + 1, 0, v, w, e => Or.inr ⟨by omega, e⟩
  | a :: t, n + 1, i + 1, v, w, e => (qget_put (ls := t) e).imp (fun ⟨h1, h2⟩ => ⟨by omega, h2⟩) (fun ⟨h1, h2⟩ => ⟨by omega, h2⟩)
theorem qnj_some {v : Option qV} {w : qV} (e : qnj v = some w) : v = some w ∧ ¬ (rv (fun _ _ => 0) w).category = 2 := by
  unfold qnj at e
  split at e
  · cases e
  · next h => subst e; refine ⟨rfl, ?_⟩; match w, h with
    | .inl _, _ => simp [rv, Value.category]
    | .inr (.inl x), h => exact absurd rfl (h x)
    | .inr (.inr (_, none)), _ => simp [rv, va_rf, Value.category]
    | .inr (.inr (_, some _)), _ => simp [rv, va_rf, Value.category]
theorem rv_cat (ρ ρ' : Nat → Nat → Nat) : ∀ v : qV, (rv ρ v).category = (rv ρ' v).category
  | .inl _ => rfl
  | .inr (.inl _) => rfl
  | .inr (.inr (_, none)) => rfl
  | .inr (.inr (_, some _)) => rfl
theorem qget_sto : ∀ {ls : List (Option qV)} {n i : Nat} {v : Option qV} {w : qV}, qget (qsto ls n v) i = some w → (i = n ∧ v = some w) ∨ (i ≠ n ∧ qget ls i = some w ∧ (i + 1 = n → ¬ (rv (fun _ _ => 0) w).category = 2))
  | [], n, i, v, w, e => by cases n <;> simp [qsto, qget] at e
  | a :: t, 0, 0, v, w, e => Or.inl ⟨rfl, e⟩
  | a :: t, 0, i + 1, v, w, e => Or.inr ⟨by omega, e, fun h => by omega⟩
  | a :: t, 1, 0, v, w, e => Or.inr ⟨by omega, (qnj_some e).1, fun _ => (qnj_some e).2⟩
  | a :: t, 1, i + 1, v, w, e => (qget_put (ls := t) (n := 0) e).imp (fun ⟨h1, h2⟩ => ⟨by omega, h2⟩) (fun ⟨h1, h2⟩ => ⟨by omega, h2, fun h => by omega⟩)
  | a :: t, n + 2, 0, v, w, e => Or.inr ⟨by omega, e, fun h => by omega⟩
  | a :: t, n + 2, i + 1, v, w, e => (qget_sto (ls := t) (n := n + 1) e).imp (fun ⟨h1, h2⟩ => ⟨by omega, h2⟩) (fun ⟨h1, h2, h3⟩ => ⟨by omega, h2, fun h => h3 (by omega)⟩)
def lvl (ρ : Nat → Nat → Nat) (ls : List (Option qV)) (nL : Nat) : List (Nat × Value) := (List.range nL).filterMap (fun i => (qget ls i).map (fun v => (i, rv ρ v)))
theorem mem_lvl {ρ : Nat → Nat → Nat} {ls : List (Option qV)} {nL : Nat} {q : Nat × Value} : q ∈ lvl ρ ls nL ↔ ∃ v, q.1 < nL ∧ qget ls q.1 = some v ∧ q.2 = rv ρ v := by
  unfold lvl
  rw [List.mem_filterMap]
  constructor
  · rintro ⟨i, hi, he⟩
    cases hg : qget ls i with
    | none => rw [hg] at he; cases he
    | some v => rw [hg] at he; cases he; exact ⟨v, List.mem_range.mp hi, hg, rfl⟩
  · rintro ⟨v, h1, h2, h3⟩
    exact ⟨q.1, List.mem_range.mpr h1, by rw [h2, Option.map_some, ← h3]⟩
theorem qLo.has {ρ : Nat → Nat → Nat} {h : qM} {lsA : Array Slot} {ls : List (Option qV)} {nL : Nat} (hl : qLo ρ h lsA ls nL) : lv_has lsA nL (lvl ρ ls nL) :=
  ⟨hl.1, hl.2.1, fun q hq => by obtain ⟨v, h1, h2, h3⟩ := mem_lvl.mp hq; rw [h3]; exact (hl.2.2 _ _ h2).1⟩
theorem qLo.lt {ρ : Nat → Nat → Nat} {h : qM} {lsA : Array Slot} {ls : List (Option qV)} {nL : Nat} (hl : qLo ρ h lsA ls nL) {i : Nat} {v : qV} (hg : qget ls i = some v) : i < nL := by
  rw [← hl.1]
  exact (Array.getElem?_eq_some_iff.mp (hl.2.2 i v hg).1).1
theorem qLo.sto {ρ : Nat → Nat → Nat} {h : qM} {lsA lsB : Array Slot} {ls : List (Option qV)} {nL n : Nat} {v : qV} (hl : qLo ρ h lsA ls nL) (hv : qOk h v)
    (hB : lv_has lsB nL ((n, rv ρ v) :: (lvl ρ ls nL).filter (fun q => !(q.1 == n) && !(q.1 + 1 == n && q.2.category == 2)))) : qLo ρ h lsB (qsto ls n (some v)) nL := by
  refine ⟨hB.1, hB.2.1, fun i w hw => ?_⟩
  rcases qget_sto hw with ⟨rfl, h2⟩ | ⟨h1, h2, h3⟩
  · cases h2; exact ⟨hB.2.2 _ List.mem_cons_self, hv⟩
  · refine ⟨hB.2.2 (i, rv ρ w) (List.mem_cons_of_mem _ (List.mem_filter.mpr ⟨mem_lvl.mpr ⟨w, hl.lt h2, h2, rfl⟩, ?_⟩)), (hl.2.2 i w h2).2⟩
    by_cases hn : i + 1 = n
    · have := h3 hn
      rw [rv_cat _ ρ] at this
      simp [h1, this]
    · simp [h1, hn]
theorem qLo.sto2 {ρ : Nat → Nat → Nat} {h : qM} {lsA lsB : Array Slot} {ls : List (Option qV)} {nL n : Nat} {v : qV} (hl : qLo ρ h lsA ls nL) (hv : qOk h v)
    (hB : lv_has lsB nL ((n, rv ρ v) :: (lvl ρ ls nL).filter (fun q => !(q.1 == n) && (!(q.1 == n + 1) && !(q.1 + 1 == n && q.2.category == 2))))) : qLo ρ h lsB (qput (qsto ls n (some v)) (n + 1) none) nL := by
  refine ⟨hB.1, hB.2.1, fun i w hw => ?_⟩
  rcases qget_put hw with ⟨-, h2⟩ | ⟨h0, hw⟩
  · cases h2
  rcases qget_sto hw with ⟨rfl, h2⟩ | ⟨h1, h2, h3⟩
  · cases h2; exact ⟨hB.2.2 _ List.mem_cons_self, hv⟩
  · refine ⟨hB.2.2 (i, rv ρ w) (List.mem_cons_of_mem _ (List.mem_filter.mpr ⟨mem_lvl.mpr ⟨w, hl.lt h2, h2, rfl⟩, ?_⟩)), (hl.2.2 i w h2).2⟩
    by_cases hn : i + 1 = n
    · have := h3 hn
      rw [rv_cat _ ρ] at this
      simp [h0, h1, this]
    · simp [h0, h1, hn]
theorem qLo.le {ρ : Nat → Nat → Nat} {h h' : qM} {lsA : Array Slot} {ls : List (Option qV)} {nL : Nat} (hl : qLo ρ h lsA ls nL) (hh : mle h h') : qLo ρ h' lsA ls nL := ⟨hl.1, hl.2.1, fun i v hv => ⟨(hl.2.2 i v hv).1, (hl.2.2 i v hv).2.le hh⟩⟩
theorem qLo.ext {ρ ρ' : Nat → Nat → Nat} {h : qM} {lsA : Array Slot} {ls : List (Option qV)} {nL : Nat} (hl : qLo ρ h lsA ls nL) (hh : ∀ v, qOk h v → rv ρ' v = rv ρ v) : qLo ρ' h lsA ls nL := ⟨hl.1, hl.2.1, fun i v hv => ⟨by rw [hh v (hl.2.2 i v hv).2]; exact (hl.2.2 i v hv).1, (hl.2.2 i v hv).2⟩⟩
theorem qsub_le {a b n : Nat} (h : a ≤ b) : b + n - a = b - a + n := by omega
def qTT (k : Nat) : u_T := ((vwCl[k]?).getD (RX0, TX0, 0)).2.1
theorem qTT_cl : ∀ k, k < 13 → vwCl[k]? = some (((vwCl[k]?).getD (RX0, TX0, 0)).1, qTT k, qnf k) := by
  intro k hk
  rcases (show k = 0 ∨ k = 1 ∨ k = 2 ∨ k = 3 ∨ k = 4 ∨ k = 5 ∨ k = 6 ∨ k = 7 ∨ k = 8 ∨ k = 9 ∨ k = 10 ∨ k = 11 ∨ k = 12 by omega) with rfl | rfl | rfl | rfl | rfl | rfl | rfl | rfl | rfl | rfl | rfl | rfl | rfl <;> rfl
def qRC (k : Nat) : String := ((vwCl[k]?).getD (RX0, TX0, 0)).1
theorem qTT_in : ∀ k, k < 13 → ∀ w ∈ u_ws (qRC k) (qTT k) (qnf k), w ∈ lw_good := by decide +kernel
def qty (k : Nat) : Nat → FieldType := (([tyX0, tyX1, tyX2, tyX3, tyX4, tyX5, tyX6, tyX7, tyX8, tyX9, tyX10, tyX11, tyX12])[k]?).getD tyX0
theorem qty_ok : ∀ k, k < 13 → ∀ s, s < qnf k → parseFieldDescriptor (qTT k s).2.2.1 = some (qty k s) := by decide +kernel
theorem qnm_ok : ∀ k, k < 13 → ∀ a, a < qnf k → ∀ b, b < qnf k → a ≠ b → (qTT k a).2.1 ≠ (qTT k b).2.1 := by decide +kernel
theorem qOk_cl {h : qM} (hc : qCl h) {k j s t : Nat} (hk : k < 19) (hj : j < mC h k) (ht : qtk k s = some t) (ht' : t < 19) : qOk h (qR t (mP h k j s)) := by
  show qOk h (.inr (.inr (t, mP h k j s)))
  cases e : mP h k j s with
  | none => trivial
  | some j' => exact Or.inl ⟨ht', hc k j s t j' hk hj ht e⟩
theorem qOk_ref {h : qM} {k j : Nat} (hk : k < 19) (hv : qOk h (.inr (.inr (k, some j)))) : j < mC h k := by
  rcases hv with ⟨-, h2⟩ | ⟨h1, -⟩
  · exact h2
  · omega
theorem rfs_at {ρ : Nat → Nat → Nat} {h : qM} {k j s : Nat} (hs : s < qnf k) : (rfs ρ h k j)[s]? = some (rfv ρ h k j s (qft k s)) := by
  unfold rfs
  rw [List.getElem?_map, List.getElem?_range hs]
  rfl
/-- what a class's links are -/
def qLok (ow : String) (lk : qL) : Prop :=
  (∀ x ∈ lk.1, x.2.1 < 13 ∧ x.2.2.1 < qnf x.2.1 ∧ x.2.2.2 = qft x.2.1 x.2.2.1 ∧ Cond.fieldLink ow x.1 (qTT x.2.1 x.2.2.1).1 (qTT x.2.1 x.2.2.1).2.1 (qTT x.2.1 x.2.2.1).2.2.1 ∈ lw_good) ∧
  (∀ x ∈ lk.2.2.2.2, Cond.constantLong ow x.1 x.2 ∈ lw_good) ∧
  (∀ x ∈ lk.2.2.2.1, (∀ z, x.2 = .inl z → Cond.constant ow x.1 z ∈ lw_good) ∧ (∀ d, x.2 = .inr d → d < 16 ∧ ∃ tx, (ow, x.1, tx, d) ∈ qstr)) ∧
  (∀ x ∈ lk.2.2.1, x.2.1 < 13 ∧ x.2.2 = qnf x.2.1 ∧ Cond.classLink ow x.1 (qRC x.2.1) ∈ lw_good)
section QS
variable {p : Program} {l : Launch} {e : Env} {R : Room} {s : State} {m : MethodId} {args : Array Value} {below : List Frame} {meth : Method} {c : Code} {cc : ByteArray} {nL : Nat} {ow : String} {ini : Bool} {D : va_G} {cy : Nat → ClassId} {A : Nat → Prop} {Q : State → Prop} {h0 : qM} {ρ0 : Nat → Nat → Nat} {r : qO} {cal : Nat → List qV → qM → Option qO} {lk : qL} {rt : Nat} {k : qK} {pc : Nat} {ls : List (Option qV)} {st : List qV} {h : qM}
theorem qs_aconst_null (C : qCx p s m args meth c cc nL ow ini D cy A R h0 ρ0 r) (hk : ∀ a b c' d, k a b c' d = some r → mle d r.1 ∧ qGo p l e R s m args below meth c nL D cy A Q h0 ρ0 a b c' d)   (hd : decode cc pc = .ok (.aconst_null, 1)) (E : qx cal lk rt (.aconst_null) 1 pc ls st h k = some r) : qGo p l e R s m args below meth c nL D cy A Q h0 ρ0 pc ls st h := by
  obtain ⟨hx, hb, hml, hown, hts, hlk, hini, hAm, hSt, hA, hR, hRc, hRs⟩ := C
  intro ρ H locs lsA hcl hlo hst hR0 hS hX
  dsimp only [qx] at E
  refine lv_null hx hb hd ?_
  exact (hk _ _ _ _ E).2 ρ H locs lsA hcl hlo (List.forall_mem_cons.mpr ⟨trivial, hst⟩) hR0 hS hX

theorem qs_iconst (C : qCx p s m args meth c cc nL ow ini D cy A R h0 ρ0 r) (hk : ∀ a b c' d, k a b c' d = some r → mle d r.1 ∧ qGo p l e R s m args below meth c nL D cy A Q h0 ρ0 a b c' d) {n : Int}  (hd : decode cc pc = .ok (.iconst n, 1)) (E : qx cal lk rt (.iconst n) 1 pc ls st h k = some r) : qGo p l e R s m args below meth c nL D cy A Q h0 ρ0 pc ls st h := by
  obtain ⟨hx, hb, hml, hown, hts, hlk, hini, hAm, hSt, hA, hR, hRc, hRs⟩ := C
  intro ρ H locs lsA hcl hlo hst hR0 hS hX
  dsimp only [qx] at E
  refine lv_iconst (v := Int32.ofInt n) hx hb hd rfl ?_
  exact (hk _ _ _ _ E).2 ρ H locs lsA hcl hlo (List.forall_mem_cons.mpr ⟨trivial, hst⟩) hR0 hS hX

theorem qs_bipush (C : qCx p s m args meth c cc nL ow ini D cy A R h0 ρ0 r) (hk : ∀ a b c' d, k a b c' d = some r → mle d r.1 ∧ qGo p l e R s m args below meth c nL D cy A Q h0 ρ0 a b c' d) {n : Int} (hn : (Int8.ofInt n).toInt32 = Int32.ofInt n)  (hd : decode cc pc = .ok (.bipush n, 2)) (E : qx cal lk rt (.bipush n) 2 pc ls st h k = some r) : qGo p l e R s m args below meth c nL D cy A Q h0 ρ0 pc ls st h := by
  obtain ⟨hx, hb, hml, hown, hts, hlk, hini, hAm, hSt, hA, hR, hRc, hRs⟩ := C
  intro ρ H locs lsA hcl hlo hst hR0 hS hX
  dsimp only [qx] at E
  refine lv_bipush hx hb hd hn ?_
  exact (hk _ _ _ _ E).2 ρ H locs lsA hcl hlo (List.forall_mem_cons.mpr ⟨trivial, hst⟩) hR0 hS hX

theorem qs_sipush (C : qCx p s m args meth c cc nL ow ini D cy A R h0 ρ0 r) (hk : ∀ a b c' d, k a b c' d = some r → mle d r.1 ∧ qGo p l e R s m args below meth c nL D cy A Q h0 ρ0 a b c' d) {n : Int} (hn : (Int16.ofInt n).toInt32 = Int32.ofInt n)  (hd : decode cc pc = .ok (.sipush n, 3)) (E : qx cal lk rt (.sipush n) 3 pc ls st h k = some r) : qGo p l e R s m args below meth c nL D cy A Q h0 ρ0 pc ls st h := by
  obtain ⟨hx, hb, hml, hown, hts, hlk, hini, hAm, hSt, hA, hR, hRc, hRs⟩ := C
  intro ρ H locs lsA hcl hlo hst hR0 hS hX
  dsimp only [qx] at E
  refine lv_sipush hx hb hd hn ?_
  exact (hk _ _ _ _ E).2 ρ H locs lsA hcl hlo (List.forall_mem_cons.mpr ⟨trivial, hst⟩) hR0 hS hX

theorem qs_lconst (C : qCx p s m args meth c cc nL ow ini D cy A R h0 ρ0 r) (hk : ∀ a b c' d, k a b c' d = some r → mle d r.1 ∧ qGo p l e R s m args below meth c nL D cy A Q h0 ρ0 a b c' d) {n : Fin 2}  (hd : decode cc pc = .ok (.lconst n, 1)) (E : qx cal lk rt (.lconst n) 1 pc ls st h k = some r) : qGo p l e R s m args below meth c nL D cy A Q h0 ρ0 pc ls st h := by
  obtain ⟨hx, hb, hml, hown, hts, hlk, hini, hAm, hSt, hA, hR, hRc, hRs⟩ := C
  intro ρ H locs lsA hcl hlo hst hR0 hS hX
  dsimp only [qx] at E
  refine lv_lconst (v := Int64.ofNat n.val) hx hb hd rfl ?_
  exact (hk _ _ _ _ E).2 ρ H locs lsA hcl hlo (List.forall_mem_cons.mpr ⟨trivial, hst⟩) hR0 hS hX

theorem qs_iload (C : qCx p s m args meth c cc nL ow ini D cy A R h0 ρ0 r) (hk : ∀ a b c' d, k a b c' d = some r → mle d r.1 ∧ qGo p l e R s m args below meth c nL D cy A Q h0 ρ0 a b c' d) {n : Nat}  (hd : decode cc pc = .ok (.iload n, 2)) (E : qx cal lk rt (.iload n) 2 pc ls st h k = some r) : qGo p l e R s m args below meth c nL D cy A Q h0 ρ0 pc ls st h := by
  obtain ⟨hx, hb, hml, hown, hts, hlk, hini, hAm, hSt, hA, hR, hRc, hRs⟩ := C
  intro ρ H locs lsA hcl hlo hst hR0 hS hX
  dsimp only [qx] at E
  split at E
  · rename_i x hg
    refine lv_iload hx hb hd (hlo.2.2 _ _ hg).1 ?_
    exact (hk _ _ _ _ E).2 ρ H locs lsA hcl hlo (List.forall_mem_cons.mpr ⟨trivial, hst⟩) hR0 hS hX
  · cases E

theorem qs_iload_n (C : qCx p s m args meth c cc nL ow ini D cy A R h0 ρ0 r) (hk : ∀ a b c' d, k a b c' d = some r → mle d r.1 ∧ qGo p l e R s m args below meth c nL D cy A Q h0 ρ0 a b c' d) {n : Fin 4}  (hd : decode cc pc = .ok (.iload_n n, 1)) (E : qx cal lk rt (.iload_n n) 1 pc ls st h k = some r) : qGo p l e R s m args below meth c nL D cy A Q h0 ρ0 pc ls st h := by
  obtain ⟨hx, hb, hml, hown, hts, hlk, hini, hAm, hSt, hA, hR, hRc, hRs⟩ := C
  intro ρ H locs lsA hcl hlo hst hR0 hS hX
  dsimp only [qx] at E
  split at E
  · rename_i x hg
    refine lv_iload_n hx hb hd rfl (hlo.2.2 _ _ hg).1 ?_
    exact (hk _ _ _ _ E).2 ρ H locs lsA hcl hlo (List.forall_mem_cons.mpr ⟨trivial, hst⟩) hR0 hS hX
  · cases E

theorem qs_lload (C : qCx p s m args meth c cc nL ow ini D cy A R h0 ρ0 r) (hk : ∀ a b c' d, k a b c' d = some r → mle d r.1 ∧ qGo p l e R s m args below meth c nL D cy A Q h0 ρ0 a b c' d) {n : Nat}  (hd : decode cc pc = .ok (.lload n, 2)) (E : qx cal lk rt (.lload n) 2 pc ls st h k = some r) : qGo p l e R s m args below meth c nL D cy A Q h0 ρ0 pc ls st h := by
  obtain ⟨hx, hb, hml, hown, hts, hlk, hini, hAm, hSt, hA, hR, hRc, hRs⟩ := C
  intro ρ H locs lsA hcl hlo hst hR0 hS hX
  dsimp only [qx] at E
  split at E
  · rename_i x hg
    refine lv_lload hx hb hd (hlo.2.2 _ _ hg).1 ?_
    exact (hk _ _ _ _ E).2 ρ H locs lsA hcl hlo (List.forall_mem_cons.mpr ⟨trivial, hst⟩) hR0 hS hX
  · cases E

theorem qs_lload_n (C : qCx p s m args meth c cc nL ow ini D cy A R h0 ρ0 r) (hk : ∀ a b c' d, k a b c' d = some r → mle d r.1 ∧ qGo p l e R s m args below meth c nL D cy A Q h0 ρ0 a b c' d) {n : Fin 4}  (hd : decode cc pc = .ok (.lload_n n, 1)) (E : qx cal lk rt (.lload_n n) 1 pc ls st h k = some r) : qGo p l e R s m args below meth c nL D cy A Q h0 ρ0 pc ls st h := by
  obtain ⟨hx, hb, hml, hown, hts, hlk, hini, hAm, hSt, hA, hR, hRc, hRs⟩ := C
  intro ρ H locs lsA hcl hlo hst hR0 hS hX
  dsimp only [qx] at E
  split at E
  · rename_i x hg
    refine lv_lload_n hx hb hd rfl (hlo.2.2 _ _ hg).1 ?_
    exact (hk _ _ _ _ E).2 ρ H locs lsA hcl hlo (List.forall_mem_cons.mpr ⟨trivial, hst⟩) hR0 hS hX
  · cases E

theorem qs_aload (C : qCx p s m args meth c cc nL ow ini D cy A R h0 ρ0 r) (hk : ∀ a b c' d, k a b c' d = some r → mle d r.1 ∧ qGo p l e R s m args below meth c nL D cy A Q h0 ρ0 a b c' d) {n : Nat}  (hd : decode cc pc = .ok (.aload n, 2)) (E : qx cal lk rt (.aload n) 2 pc ls st h k = some r) : qGo p l e R s m args below meth c nL D cy A Q h0 ρ0 pc ls st h := by
  obtain ⟨hx, hb, hml, hown, hts, hlk, hini, hAm, hSt, hA, hR, hRc, hRs⟩ := C
  intro ρ H locs lsA hcl hlo hst hR0 hS hX
  dsimp only [qx] at E
  split at E
  · rename_i x hg
    obtain ⟨k0, o⟩ := x
    cases o with
    | none =>
      refine lv_aloadN hx hb hd (hlo.2.2 _ _ hg).1 ?_
      exact (hk _ _ _ _ E).2 ρ H locs lsA hcl hlo (List.forall_mem_cons.mpr ⟨(hlo.2.2 _ _ hg).2, hst⟩) hR0 hS hX
    | some j =>
      refine lv_aload hx hb hd (hlo.2.2 _ _ hg).1 ?_
      exact (hk _ _ _ _ E).2 ρ H locs lsA hcl hlo (List.forall_mem_cons.mpr ⟨(hlo.2.2 _ _ hg).2, hst⟩) hR0 hS hX
  · cases E

theorem qs_aload_n (C : qCx p s m args meth c cc nL ow ini D cy A R h0 ρ0 r) (hk : ∀ a b c' d, k a b c' d = some r → mle d r.1 ∧ qGo p l e R s m args below meth c nL D cy A Q h0 ρ0 a b c' d) {n : Fin 4}  (hd : decode cc pc = .ok (.aload_n n, 1)) (E : qx cal lk rt (.aload_n n) 1 pc ls st h k = some r) : qGo p l e R s m args below meth c nL D cy A Q h0 ρ0 pc ls st h := by
  obtain ⟨hx, hb, hml, hown, hts, hlk, hini, hAm, hSt, hA, hR, hRc, hRs⟩ := C
  intro ρ H locs lsA hcl hlo hst hR0 hS hX
  dsimp only [qx] at E
  split at E
  · rename_i x hg
    obtain ⟨k0, o⟩ := x
    cases o with
    | none =>
      refine lv_aload_nN hx hb hd rfl (hlo.2.2 _ _ hg).1 ?_
      exact (hk _ _ _ _ E).2 ρ H locs lsA hcl hlo (List.forall_mem_cons.mpr ⟨(hlo.2.2 _ _ hg).2, hst⟩) hR0 hS hX
    | some j =>
      refine lv_aload_n hx hb hd rfl (hlo.2.2 _ _ hg).1 ?_
      exact (hk _ _ _ _ E).2 ρ H locs lsA hcl hlo (List.forall_mem_cons.mpr ⟨(hlo.2.2 _ _ hg).2, hst⟩) hR0 hS hX
  · cases E

theorem qs_istore (C : qCx p s m args meth c cc nL ow ini D cy A R h0 ρ0 r) (hk : ∀ a b c' d, k a b c' d = some r → mle d r.1 ∧ qGo p l e R s m args below meth c nL D cy A Q h0 ρ0 a b c' d) {n : Nat} (hn : n < nL)  (hd : decode cc pc = .ok (.istore n, 2)) (E : qx cal lk rt (.istore n) 2 pc ls st h k = some r) : qGo p l e R s m args below meth c nL D cy A Q h0 ρ0 pc ls st h := by
  obtain ⟨hx, hb, hml, hown, hts, hlk, hini, hAm, hSt, hA, hR, hRc, hRs⟩ := C
  intro ρ H locs lsA hcl hlo hst hR0 hS hX
  dsimp only [qx] at E
  split at E
  · rename_i x st
    refine lv_istore hx hb hd hlo.has hn rfl (fun lsB hB => ?_)
    exact (hk _ _ _ _ E).2 ρ H locs lsB hcl (hlo.sto trivial hB) (fun w hw => hst w (List.mem_cons_of_mem _ hw)) hR0 hS hX
  · cases E

theorem qs_istore_n (C : qCx p s m args meth c cc nL ow ini D cy A R h0 ρ0 r) (hk : ∀ a b c' d, k a b c' d = some r → mle d r.1 ∧ qGo p l e R s m args below meth c nL D cy A Q h0 ρ0 a b c' d) {n : Fin 4} (hn : n.val < nL)  (hd : decode cc pc = .ok (.istore_n n, 1)) (E : qx cal lk rt (.istore_n n) 1 pc ls st h k = some r) : qGo p l e R s m args below meth c nL D cy A Q h0 ρ0 pc ls st h := by
  obtain ⟨hx, hb, hml, hown, hts, hlk, hini, hAm, hSt, hA, hR, hRc, hRs⟩ := C
  intro ρ H locs lsA hcl hlo hst hR0 hS hX
  dsimp only [qx] at E
  split at E
  · rename_i x st
    refine lv_istore_n hx hb hd rfl hlo.has hn rfl (fun lsB hB => ?_)
    exact (hk _ _ _ _ E).2 ρ H locs lsB hcl (hlo.sto trivial hB) (fun w hw => hst w (List.mem_cons_of_mem _ hw)) hR0 hS hX
  · cases E

theorem qs_lstore (C : qCx p s m args meth c cc nL ow ini D cy A R h0 ρ0 r) (hk : ∀ a b c' d, k a b c' d = some r → mle d r.1 ∧ qGo p l e R s m args below meth c nL D cy A Q h0 ρ0 a b c' d) {n : Nat} (hn : n + 1 < nL)  (hd : decode cc pc = .ok (.lstore n, 2)) (E : qx cal lk rt (.lstore n) 2 pc ls st h k = some r) : qGo p l e R s m args below meth c nL D cy A Q h0 ρ0 pc ls st h := by
  obtain ⟨hx, hb, hml, hown, hts, hlk, hini, hAm, hSt, hA, hR, hRc, hRs⟩ := C
  intro ρ H locs lsA hcl hlo hst hR0 hS hX
  dsimp only [qx] at E
  split at E
  · rename_i x st
    refine lv_lstore hx hb hd hlo.has hn rfl (fun lsB hB => ?_)
    exact (hk _ _ _ _ E).2 ρ H locs lsB hcl (hlo.sto2 trivial hB) (fun w hw => hst w (List.mem_cons_of_mem _ hw)) hR0 hS hX
  · cases E

theorem qs_lstore_n (C : qCx p s m args meth c cc nL ow ini D cy A R h0 ρ0 r) (hk : ∀ a b c' d, k a b c' d = some r → mle d r.1 ∧ qGo p l e R s m args below meth c nL D cy A Q h0 ρ0 a b c' d) {n : Fin 4} (hn : n.val + 1 < nL)  (hd : decode cc pc = .ok (.lstore_n n, 1)) (E : qx cal lk rt (.lstore_n n) 1 pc ls st h k = some r) : qGo p l e R s m args below meth c nL D cy A Q h0 ρ0 pc ls st h := by
  obtain ⟨hx, hb, hml, hown, hts, hlk, hini, hAm, hSt, hA, hR, hRc, hRs⟩ := C
  intro ρ H locs lsA hcl hlo hst hR0 hS hX
  dsimp only [qx] at E
  split at E
  · rename_i x st
    refine lv_lstore_n hx hb hd rfl hlo.has hn rfl (fun lsB hB => ?_)
    exact (hk _ _ _ _ E).2 ρ H locs lsB hcl (hlo.sto2 trivial hB) (fun w hw => hst w (List.mem_cons_of_mem _ hw)) hR0 hS hX
  · cases E

theorem qs_astore (C : qCx p s m args meth c cc nL ow ini D cy A R h0 ρ0 r) (hk : ∀ a b c' d, k a b c' d = some r → mle d r.1 ∧ qGo p l e R s m args below meth c nL D cy A Q h0 ρ0 a b c' d) {n : Nat} (hn : n < nL)  (hd : decode cc pc = .ok (.astore n, 2)) (E : qx cal lk rt (.astore n) 2 pc ls st h k = some r) : qGo p l e R s m args below meth c nL D cy A Q h0 ρ0 pc ls st h := by
  obtain ⟨hx, hb, hml, hown, hts, hlk, hini, hAm, hSt, hA, hR, hRc, hRs⟩ := C
  intro ρ H locs lsA hcl hlo hst hR0 hS hX
  dsimp only [qx] at E
  split at E
  · rename_i x st
    obtain ⟨k0, o⟩ := x
    cases o with
    | none =>
      refine lv_astoreN hx hb hd hlo.has hn rfl (fun lsB hB => ?_)
      exact (hk _ _ _ _ E).2 ρ H locs lsB hcl (hlo.sto (hst _ List.mem_cons_self) hB) (fun w hw => hst w (List.mem_cons_of_mem _ hw)) hR0 hS hX
    | some j =>
      refine lv_astore hx hb hd hlo.has hn rfl (fun lsB hB => ?_)
      exact (hk _ _ _ _ E).2 ρ H locs lsB hcl (hlo.sto (hst _ List.mem_cons_self) hB) (fun w hw => hst w (List.mem_cons_of_mem _ hw)) hR0 hS hX
  · cases E

theorem qs_astore_n (C : qCx p s m args meth c cc nL ow ini D cy A R h0 ρ0 r) (hk : ∀ a b c' d, k a b c' d = some r → mle d r.1 ∧ qGo p l e R s m args below meth c nL D cy A Q h0 ρ0 a b c' d) {n : Fin 4} (hn : n.val < nL)  (hd : decode cc pc = .ok (.astore_n n, 1)) (E : qx cal lk rt (.astore_n n) 1 pc ls st h k = some r) : qGo p l e R s m args below meth c nL D cy A Q h0 ρ0 pc ls st h := by
  obtain ⟨hx, hb, hml, hown, hts, hlk, hini, hAm, hSt, hA, hR, hRc, hRs⟩ := C
  intro ρ H locs lsA hcl hlo hst hR0 hS hX
  dsimp only [qx] at E
  split at E
  · rename_i x st
    obtain ⟨k0, o⟩ := x
    cases o with
    | none =>
      refine lv_astore_nN hx hb hd rfl hlo.has hn rfl (fun lsB hB => ?_)
      exact (hk _ _ _ _ E).2 ρ H locs lsB hcl (hlo.sto (hst _ List.mem_cons_self) hB) (fun w hw => hst w (List.mem_cons_of_mem _ hw)) hR0 hS hX
    | some j =>
      refine lv_astore_n hx hb hd rfl hlo.has hn rfl (fun lsB hB => ?_)
      exact (hk _ _ _ _ E).2 ρ H locs lsB hcl (hlo.sto (hst _ List.mem_cons_self) hB) (fun w hw => hst w (List.mem_cons_of_mem _ hw)) hR0 hS hX
  · cases E

theorem qs_iinc (C : qCx p s m args meth c cc nL ow ini D cy A R h0 ρ0 r) (hk : ∀ a b c' d, k a b c' d = some r → mle d r.1 ∧ qGo p l e R s m args below meth c nL D cy A Q h0 ρ0 a b c' d) {n : Nat} {cst : Int}  (hd : decode cc pc = .ok (.iinc n cst, 3)) (E : qx cal lk rt (.iinc n cst) 3 pc ls st h k = some r) : qGo p l e R s m args below meth c nL D cy A Q h0 ρ0 pc ls st h := by
  obtain ⟨hx, hb, hml, hown, hts, hlk, hini, hAm, hSt, hA, hR, hRc, hRs⟩ := C
  intro ρ H locs lsA hcl hlo hst hR0 hS hX
  dsimp only [qx] at E
  split at E
  · rename_i x hg
    obtain ⟨q0, hq0⟩ := List.getElem?_of_mem (mem_lvl.mpr ⟨_, hlo.lt hg, hg, rfl⟩ : (n, rv ρ (.inl x)) ∈ lvl ρ ls nL)
    refine lv_iinc hx hb hd hlo.has hq0 rfl (hlo.lt hg) rfl (fun lsB hB => ?_)
    exact (hk _ _ _ _ E).2 ρ H locs lsB hcl (hlo.sto (v := .inl (x + Int32.ofInt cst)) trivial hB) hst hR0 hS hX
  · cases E

theorem qs_iadd (C : qCx p s m args meth c cc nL ow ini D cy A R h0 ρ0 r) (hk : ∀ a b c' d, k a b c' d = some r → mle d r.1 ∧ qGo p l e R s m args below meth c nL D cy A Q h0 ρ0 a b c' d)   (hd : decode cc pc = .ok (.iadd, 1)) (E : qx cal lk rt (.iadd) 1 pc ls st h k = some r) : qGo p l e R s m args below meth c nL D cy A Q h0 ρ0 pc ls st h := by
  obtain ⟨hx, hb, hml, hown, hts, hlk, hini, hAm, hSt, hA, hR, hRc, hRs⟩ := C
  intro ρ H locs lsA hcl hlo hst hR0 hS hX
  dsimp only [qx] at E
  split at E
  · refine lv_iadd hx hb hd ?_
    exact (hk _ _ _ _ E).2 ρ H locs lsA hcl hlo (List.forall_mem_cons.mpr ⟨trivial, (fun w hw => hst w (List.mem_cons_of_mem _ (List.mem_cons_of_mem _ hw)))⟩) hR0 hS hX
  · cases E

theorem qs_isub (C : qCx p s m args meth c cc nL ow ini D cy A R h0 ρ0 r) (hk : ∀ a b c' d, k a b c' d = some r → mle d r.1 ∧ qGo p l e R s m args below meth c nL D cy A Q h0 ρ0 a b c' d)   (hd : decode cc pc = .ok (.isub, 1)) (E : qx cal lk rt (.isub) 1 pc ls st h k = some r) : qGo p l e R s m args below meth c nL D cy A Q h0 ρ0 pc ls st h := by
  obtain ⟨hx, hb, hml, hown, hts, hlk, hini, hAm, hSt, hA, hR, hRc, hRs⟩ := C
  intro ρ H locs lsA hcl hlo hst hR0 hS hX
  dsimp only [qx] at E
  split at E
  · refine lv_isub hx hb hd ?_
    exact (hk _ _ _ _ E).2 ρ H locs lsA hcl hlo (List.forall_mem_cons.mpr ⟨trivial, (fun w hw => hst w (List.mem_cons_of_mem _ (List.mem_cons_of_mem _ hw)))⟩) hR0 hS hX
  · cases E

theorem qs_imul (C : qCx p s m args meth c cc nL ow ini D cy A R h0 ρ0 r) (hk : ∀ a b c' d, k a b c' d = some r → mle d r.1 ∧ qGo p l e R s m args below meth c nL D cy A Q h0 ρ0 a b c' d)   (hd : decode cc pc = .ok (.imul, 1)) (E : qx cal lk rt (.imul) 1 pc ls st h k = some r) : qGo p l e R s m args below meth c nL D cy A Q h0 ρ0 pc ls st h := by
  obtain ⟨hx, hb, hml, hown, hts, hlk, hini, hAm, hSt, hA, hR, hRc, hRs⟩ := C
  intro ρ H locs lsA hcl hlo hst hR0 hS hX
  dsimp only [qx] at E
  split at E
  · refine lv_imul hx hb hd ?_
    exact (hk _ _ _ _ E).2 ρ H locs lsA hcl hlo (List.forall_mem_cons.mpr ⟨trivial, (fun w hw => hst w (List.mem_cons_of_mem _ (List.mem_cons_of_mem _ hw)))⟩) hR0 hS hX
  · cases E

theorem qs_iand (C : qCx p s m args meth c cc nL ow ini D cy A R h0 ρ0 r) (hk : ∀ a b c' d, k a b c' d = some r → mle d r.1 ∧ qGo p l e R s m args below meth c nL D cy A Q h0 ρ0 a b c' d)   (hd : decode cc pc = .ok (.iand, 1)) (E : qx cal lk rt (.iand) 1 pc ls st h k = some r) : qGo p l e R s m args below meth c nL D cy A Q h0 ρ0 pc ls st h := by
  obtain ⟨hx, hb, hml, hown, hts, hlk, hini, hAm, hSt, hA, hR, hRc, hRs⟩ := C
  intro ρ H locs lsA hcl hlo hst hR0 hS hX
  dsimp only [qx] at E
  split at E
  · refine lv_iand hx hb hd ?_
    exact (hk _ _ _ _ E).2 ρ H locs lsA hcl hlo (List.forall_mem_cons.mpr ⟨trivial, (fun w hw => hst w (List.mem_cons_of_mem _ (List.mem_cons_of_mem _ hw)))⟩) hR0 hS hX
  · cases E

theorem qs_ior (C : qCx p s m args meth c cc nL ow ini D cy A R h0 ρ0 r) (hk : ∀ a b c' d, k a b c' d = some r → mle d r.1 ∧ qGo p l e R s m args below meth c nL D cy A Q h0 ρ0 a b c' d)   (hd : decode cc pc = .ok (.ior, 1)) (E : qx cal lk rt (.ior) 1 pc ls st h k = some r) : qGo p l e R s m args below meth c nL D cy A Q h0 ρ0 pc ls st h := by
  obtain ⟨hx, hb, hml, hown, hts, hlk, hini, hAm, hSt, hA, hR, hRc, hRs⟩ := C
  intro ρ H locs lsA hcl hlo hst hR0 hS hX
  dsimp only [qx] at E
  split at E
  · refine lv_ior hx hb hd ?_
    exact (hk _ _ _ _ E).2 ρ H locs lsA hcl hlo (List.forall_mem_cons.mpr ⟨trivial, (fun w hw => hst w (List.mem_cons_of_mem _ (List.mem_cons_of_mem _ hw)))⟩) hR0 hS hX
  · cases E

theorem qs_ixor (C : qCx p s m args meth c cc nL ow ini D cy A R h0 ρ0 r) (hk : ∀ a b c' d, k a b c' d = some r → mle d r.1 ∧ qGo p l e R s m args below meth c nL D cy A Q h0 ρ0 a b c' d)   (hd : decode cc pc = .ok (.ixor, 1)) (E : qx cal lk rt (.ixor) 1 pc ls st h k = some r) : qGo p l e R s m args below meth c nL D cy A Q h0 ρ0 pc ls st h := by
  obtain ⟨hx, hb, hml, hown, hts, hlk, hini, hAm, hSt, hA, hR, hRc, hRs⟩ := C
  intro ρ H locs lsA hcl hlo hst hR0 hS hX
  dsimp only [qx] at E
  split at E
  · refine lv_ixor hx hb hd ?_
    exact (hk _ _ _ _ E).2 ρ H locs lsA hcl hlo (List.forall_mem_cons.mpr ⟨trivial, (fun w hw => hst w (List.mem_cons_of_mem _ (List.mem_cons_of_mem _ hw)))⟩) hR0 hS hX
  · cases E

theorem qs_ishl (C : qCx p s m args meth c cc nL ow ini D cy A R h0 ρ0 r) (hk : ∀ a b c' d, k a b c' d = some r → mle d r.1 ∧ qGo p l e R s m args below meth c nL D cy A Q h0 ρ0 a b c' d)   (hd : decode cc pc = .ok (.ishl, 1)) (E : qx cal lk rt (.ishl) 1 pc ls st h k = some r) : qGo p l e R s m args below meth c nL D cy A Q h0 ρ0 pc ls st h := by
  obtain ⟨hx, hb, hml, hown, hts, hlk, hini, hAm, hSt, hA, hR, hRc, hRs⟩ := C
  intro ρ H locs lsA hcl hlo hst hR0 hS hX
  dsimp only [qx] at E
  split at E
  · refine lv_ishl hx hb hd ?_
    exact (hk _ _ _ _ E).2 ρ H locs lsA hcl hlo (List.forall_mem_cons.mpr ⟨trivial, (fun w hw => hst w (List.mem_cons_of_mem _ (List.mem_cons_of_mem _ hw)))⟩) hR0 hS hX
  · cases E

theorem qs_ishr (C : qCx p s m args meth c cc nL ow ini D cy A R h0 ρ0 r) (hk : ∀ a b c' d, k a b c' d = some r → mle d r.1 ∧ qGo p l e R s m args below meth c nL D cy A Q h0 ρ0 a b c' d)   (hd : decode cc pc = .ok (.ishr, 1)) (E : qx cal lk rt (.ishr) 1 pc ls st h k = some r) : qGo p l e R s m args below meth c nL D cy A Q h0 ρ0 pc ls st h := by
  obtain ⟨hx, hb, hml, hown, hts, hlk, hini, hAm, hSt, hA, hR, hRc, hRs⟩ := C
  intro ρ H locs lsA hcl hlo hst hR0 hS hX
  dsimp only [qx] at E
  split at E
  · refine lv_ishr hx hb hd ?_
    exact (hk _ _ _ _ E).2 ρ H locs lsA hcl hlo (List.forall_mem_cons.mpr ⟨trivial, (fun w hw => hst w (List.mem_cons_of_mem _ (List.mem_cons_of_mem _ hw)))⟩) hR0 hS hX
  · cases E

theorem qs_ladd (C : qCx p s m args meth c cc nL ow ini D cy A R h0 ρ0 r) (hk : ∀ a b c' d, k a b c' d = some r → mle d r.1 ∧ qGo p l e R s m args below meth c nL D cy A Q h0 ρ0 a b c' d)   (hd : decode cc pc = .ok (.ladd, 1)) (E : qx cal lk rt (.ladd) 1 pc ls st h k = some r) : qGo p l e R s m args below meth c nL D cy A Q h0 ρ0 pc ls st h := by
  obtain ⟨hx, hb, hml, hown, hts, hlk, hini, hAm, hSt, hA, hR, hRc, hRs⟩ := C
  intro ρ H locs lsA hcl hlo hst hR0 hS hX
  dsimp only [qx] at E
  split at E
  · refine lv_ladd hx hb hd ?_
    exact (hk _ _ _ _ E).2 ρ H locs lsA hcl hlo (List.forall_mem_cons.mpr ⟨trivial, (fun w hw => hst w (List.mem_cons_of_mem _ (List.mem_cons_of_mem _ hw)))⟩) hR0 hS hX
  · cases E

theorem qs_lsub (C : qCx p s m args meth c cc nL ow ini D cy A R h0 ρ0 r) (hk : ∀ a b c' d, k a b c' d = some r → mle d r.1 ∧ qGo p l e R s m args below meth c nL D cy A Q h0 ρ0 a b c' d)   (hd : decode cc pc = .ok (.lsub, 1)) (E : qx cal lk rt (.lsub) 1 pc ls st h k = some r) : qGo p l e R s m args below meth c nL D cy A Q h0 ρ0 pc ls st h := by
  obtain ⟨hx, hb, hml, hown, hts, hlk, hini, hAm, hSt, hA, hR, hRc, hRs⟩ := C
  intro ρ H locs lsA hcl hlo hst hR0 hS hX
  dsimp only [qx] at E
  split at E
  · refine lv_lsub hx hb hd ?_
    exact (hk _ _ _ _ E).2 ρ H locs lsA hcl hlo (List.forall_mem_cons.mpr ⟨trivial, (fun w hw => hst w (List.mem_cons_of_mem _ (List.mem_cons_of_mem _ hw)))⟩) hR0 hS hX
  · cases E

theorem qs_lmul (C : qCx p s m args meth c cc nL ow ini D cy A R h0 ρ0 r) (hk : ∀ a b c' d, k a b c' d = some r → mle d r.1 ∧ qGo p l e R s m args below meth c nL D cy A Q h0 ρ0 a b c' d)   (hd : decode cc pc = .ok (.lmul, 1)) (E : qx cal lk rt (.lmul) 1 pc ls st h k = some r) : qGo p l e R s m args below meth c nL D cy A Q h0 ρ0 pc ls st h := by
  obtain ⟨hx, hb, hml, hown, hts, hlk, hini, hAm, hSt, hA, hR, hRc, hRs⟩ := C
  intro ρ H locs lsA hcl hlo hst hR0 hS hX
  dsimp only [qx] at E
  split at E
  · refine lv_lmul hx hb hd ?_
    exact (hk _ _ _ _ E).2 ρ H locs lsA hcl hlo (List.forall_mem_cons.mpr ⟨trivial, (fun w hw => hst w (List.mem_cons_of_mem _ (List.mem_cons_of_mem _ hw)))⟩) hR0 hS hX
  · cases E

theorem qs_land (C : qCx p s m args meth c cc nL ow ini D cy A R h0 ρ0 r) (hk : ∀ a b c' d, k a b c' d = some r → mle d r.1 ∧ qGo p l e R s m args below meth c nL D cy A Q h0 ρ0 a b c' d)   (hd : decode cc pc = .ok (.land, 1)) (E : qx cal lk rt (.land) 1 pc ls st h k = some r) : qGo p l e R s m args below meth c nL D cy A Q h0 ρ0 pc ls st h := by
  obtain ⟨hx, hb, hml, hown, hts, hlk, hini, hAm, hSt, hA, hR, hRc, hRs⟩ := C
  intro ρ H locs lsA hcl hlo hst hR0 hS hX
  dsimp only [qx] at E
  split at E
  · refine lv_land hx hb hd ?_
    exact (hk _ _ _ _ E).2 ρ H locs lsA hcl hlo (List.forall_mem_cons.mpr ⟨trivial, (fun w hw => hst w (List.mem_cons_of_mem _ (List.mem_cons_of_mem _ hw)))⟩) hR0 hS hX
  · cases E

theorem qs_lor (C : qCx p s m args meth c cc nL ow ini D cy A R h0 ρ0 r) (hk : ∀ a b c' d, k a b c' d = some r → mle d r.1 ∧ qGo p l e R s m args below meth c nL D cy A Q h0 ρ0 a b c' d)   (hd : decode cc pc = .ok (.lor, 1)) (E : qx cal lk rt (.lor) 1 pc ls st h k = some r) : qGo p l e R s m args below meth c nL D cy A Q h0 ρ0 pc ls st h := by
  obtain ⟨hx, hb, hml, hown, hts, hlk, hini, hAm, hSt, hA, hR, hRc, hRs⟩ := C
  intro ρ H locs lsA hcl hlo hst hR0 hS hX
  dsimp only [qx] at E
  split at E
  · refine lv_lor hx hb hd ?_
    exact (hk _ _ _ _ E).2 ρ H locs lsA hcl hlo (List.forall_mem_cons.mpr ⟨trivial, (fun w hw => hst w (List.mem_cons_of_mem _ (List.mem_cons_of_mem _ hw)))⟩) hR0 hS hX
  · cases E

theorem qs_iushr (C : qCx p s m args meth c cc nL ow ini D cy A R h0 ρ0 r) (hk : ∀ a b c' d, k a b c' d = some r → mle d r.1 ∧ qGo p l e R s m args below meth c nL D cy A Q h0 ρ0 a b c' d)   (hd : decode cc pc = .ok (.iushr, 1)) (E : qx cal lk rt (.iushr) 1 pc ls st h k = some r) : qGo p l e R s m args below meth c nL D cy A Q h0 ρ0 pc ls st h := by
  obtain ⟨hx, hb, hml, hown, hts, hlk, hini, hAm, hSt, hA, hR, hRc, hRs⟩ := C
  intro ρ H locs lsA hcl hlo hst hR0 hS hX
  dsimp only [qx] at E
  split at E
  · refine lv_iushr hx hb hd rfl ?_
    exact (hk _ _ _ _ E).2 ρ H locs lsA hcl hlo (List.forall_mem_cons.mpr ⟨trivial, (fun w hw => hst w (List.mem_cons_of_mem _ (List.mem_cons_of_mem _ hw)))⟩) hR0 hS hX
  · cases E

theorem qs_lshl (C : qCx p s m args meth c cc nL ow ini D cy A R h0 ρ0 r) (hk : ∀ a b c' d, k a b c' d = some r → mle d r.1 ∧ qGo p l e R s m args below meth c nL D cy A Q h0 ρ0 a b c' d)   (hd : decode cc pc = .ok (.lshl, 1)) (E : qx cal lk rt (.lshl) 1 pc ls st h k = some r) : qGo p l e R s m args below meth c nL D cy A Q h0 ρ0 pc ls st h := by
  obtain ⟨hx, hb, hml, hown, hts, hlk, hini, hAm, hSt, hA, hR, hRc, hRs⟩ := C
  intro ρ H locs lsA hcl hlo hst hR0 hS hX
  dsimp only [qx] at E
  split at E
  · refine lv_lshl hx hb hd rfl ?_
    exact (hk _ _ _ _ E).2 ρ H locs lsA hcl hlo (List.forall_mem_cons.mpr ⟨trivial, (fun w hw => hst w (List.mem_cons_of_mem _ (List.mem_cons_of_mem _ hw)))⟩) hR0 hS hX
  · cases E

theorem qs_ineg (C : qCx p s m args meth c cc nL ow ini D cy A R h0 ρ0 r) (hk : ∀ a b c' d, k a b c' d = some r → mle d r.1 ∧ qGo p l e R s m args below meth c nL D cy A Q h0 ρ0 a b c' d)   (hd : decode cc pc = .ok (.ineg, 1)) (E : qx cal lk rt (.ineg) 1 pc ls st h k = some r) : qGo p l e R s m args below meth c nL D cy A Q h0 ρ0 pc ls st h := by
  obtain ⟨hx, hb, hml, hown, hts, hlk, hini, hAm, hSt, hA, hR, hRc, hRs⟩ := C
  intro ρ H locs lsA hcl hlo hst hR0 hS hX
  dsimp only [qx] at E
  split at E
  · refine lv_ineg hx hb hd ?_
    exact (hk _ _ _ _ E).2 ρ H locs lsA hcl hlo (List.forall_mem_cons.mpr ⟨trivial, (fun w hw => hst w (List.mem_cons_of_mem _ hw))⟩) hR0 hS hX
  · cases E

theorem qs_i2l (C : qCx p s m args meth c cc nL ow ini D cy A R h0 ρ0 r) (hk : ∀ a b c' d, k a b c' d = some r → mle d r.1 ∧ qGo p l e R s m args below meth c nL D cy A Q h0 ρ0 a b c' d)   (hd : decode cc pc = .ok (.i2l, 1)) (E : qx cal lk rt (.i2l) 1 pc ls st h k = some r) : qGo p l e R s m args below meth c nL D cy A Q h0 ρ0 pc ls st h := by
  obtain ⟨hx, hb, hml, hown, hts, hlk, hini, hAm, hSt, hA, hR, hRc, hRs⟩ := C
  intro ρ H locs lsA hcl hlo hst hR0 hS hX
  dsimp only [qx] at E
  split at E
  · refine lv_i2l hx hb hd rfl ?_
    exact (hk _ _ _ _ E).2 ρ H locs lsA hcl hlo (List.forall_mem_cons.mpr ⟨trivial, (fun w hw => hst w (List.mem_cons_of_mem _ hw))⟩) hR0 hS hX
  · cases E

theorem qs_l2i (C : qCx p s m args meth c cc nL ow ini D cy A R h0 ρ0 r) (hk : ∀ a b c' d, k a b c' d = some r → mle d r.1 ∧ qGo p l e R s m args below meth c nL D cy A Q h0 ρ0 a b c' d)   (hd : decode cc pc = .ok (.l2i, 1)) (E : qx cal lk rt (.l2i) 1 pc ls st h k = some r) : qGo p l e R s m args below meth c nL D cy A Q h0 ρ0 pc ls st h := by
  obtain ⟨hx, hb, hml, hown, hts, hlk, hini, hAm, hSt, hA, hR, hRc, hRs⟩ := C
  intro ρ H locs lsA hcl hlo hst hR0 hS hX
  dsimp only [qx] at E
  split at E
  · refine lv_l2i hx hb hd rfl ?_
    exact (hk _ _ _ _ E).2 ρ H locs lsA hcl hlo (List.forall_mem_cons.mpr ⟨trivial, (fun w hw => hst w (List.mem_cons_of_mem _ hw))⟩) hR0 hS hX
  · cases E

theorem qs_i2b (C : qCx p s m args meth c cc nL ow ini D cy A R h0 ρ0 r) (hk : ∀ a b c' d, k a b c' d = some r → mle d r.1 ∧ qGo p l e R s m args below meth c nL D cy A Q h0 ρ0 a b c' d)   (hd : decode cc pc = .ok (.i2b, 1)) (E : qx cal lk rt (.i2b) 1 pc ls st h k = some r) : qGo p l e R s m args below meth c nL D cy A Q h0 ρ0 pc ls st h := by
  obtain ⟨hx, hb, hml, hown, hts, hlk, hini, hAm, hSt, hA, hR, hRc, hRs⟩ := C
  intro ρ H locs lsA hcl hlo hst hR0 hS hX
  dsimp only [qx] at E
  split at E
  · refine lv_i2b hx hb hd rfl ?_
    exact (hk _ _ _ _ E).2 ρ H locs lsA hcl hlo (List.forall_mem_cons.mpr ⟨trivial, (fun w hw => hst w (List.mem_cons_of_mem _ hw))⟩) hR0 hS hX
  · cases E

theorem qs_lcmp (C : qCx p s m args meth c cc nL ow ini D cy A R h0 ρ0 r) (hk : ∀ a b c' d, k a b c' d = some r → mle d r.1 ∧ qGo p l e R s m args below meth c nL D cy A Q h0 ρ0 a b c' d)   (hd : decode cc pc = .ok (.lcmp, 1)) (E : qx cal lk rt (.lcmp) 1 pc ls st h k = some r) : qGo p l e R s m args below meth c nL D cy A Q h0 ρ0 pc ls st h := by
  obtain ⟨hx, hb, hml, hown, hts, hlk, hini, hAm, hSt, hA, hR, hRc, hRs⟩ := C
  intro ρ H locs lsA hcl hlo hst hR0 hS hX
  dsimp only [qx] at E
  split at E
  · refine W.lcmp hx hb hd ?_
    exact (hk _ _ _ _ E).2 ρ H locs lsA hcl hlo (List.forall_mem_cons.mpr ⟨trivial, (fun w hw => hst w (List.mem_cons_of_mem _ (List.mem_cons_of_mem _ hw)))⟩) hR0 hS hX
  · cases E

theorem qs_idiv (C : qCx p s m args meth c cc nL ow ini D cy A R h0 ρ0 r) (hk : ∀ a b c' d, k a b c' d = some r → mle d r.1 ∧ qGo p l e R s m args below meth c nL D cy A Q h0 ρ0 a b c' d)   (hd : decode cc pc = .ok (.idiv, 1)) (E : qx cal lk rt (.idiv) 1 pc ls st h k = some r) : qGo p l e R s m args below meth c nL D cy A Q h0 ρ0 pc ls st h := by
  obtain ⟨hx, hb, hml, hown, hts, hlk, hini, hAm, hSt, hA, hR, hRc, hRs⟩ := C
  intro ρ H locs lsA hcl hlo hst hR0 hS hX
  dsimp only [qx] at E
  split at E
  · rename_i y x st
    by_cases hy : y = 0
    · rw [decide_eq_true hy, cond_true] at E; cases E
    · rw [decide_eq_false hy, cond_false] at E
      refine lv_idiv hx hb hd hy ?_
      exact (hk _ _ _ _ E).2 ρ H locs lsA hcl hlo (List.forall_mem_cons.mpr ⟨trivial, (fun w hw => hst w (List.mem_cons_of_mem _ (List.mem_cons_of_mem _ hw)))⟩) hR0 hS hX
  · cases E

theorem qs_irem (C : qCx p s m args meth c cc nL ow ini D cy A R h0 ρ0 r) (hk : ∀ a b c' d, k a b c' d = some r → mle d r.1 ∧ qGo p l e R s m args below meth c nL D cy A Q h0 ρ0 a b c' d)   (hd : decode cc pc = .ok (.irem, 1)) (E : qx cal lk rt (.irem) 1 pc ls st h k = some r) : qGo p l e R s m args below meth c nL D cy A Q h0 ρ0 pc ls st h := by
  obtain ⟨hx, hb, hml, hown, hts, hlk, hini, hAm, hSt, hA, hR, hRc, hRs⟩ := C
  intro ρ H locs lsA hcl hlo hst hR0 hS hX
  dsimp only [qx] at E
  split at E
  · rename_i y x st
    by_cases hy : y = 0
    · rw [decide_eq_true hy, cond_true] at E; cases E
    · rw [decide_eq_false hy, cond_false] at E
      refine lv_irem hx hb hd hy ?_
      exact (hk _ _ _ _ E).2 ρ H locs lsA hcl hlo (List.forall_mem_cons.mpr ⟨trivial, (fun w hw => hst w (List.mem_cons_of_mem _ (List.mem_cons_of_mem _ hw)))⟩) hR0 hS hX
  · cases E

theorem qs_ldiv (C : qCx p s m args meth c cc nL ow ini D cy A R h0 ρ0 r) (hk : ∀ a b c' d, k a b c' d = some r → mle d r.1 ∧ qGo p l e R s m args below meth c nL D cy A Q h0 ρ0 a b c' d)   (hd : decode cc pc = .ok (.ldiv, 1)) (E : qx cal lk rt (.ldiv) 1 pc ls st h k = some r) : qGo p l e R s m args below meth c nL D cy A Q h0 ρ0 pc ls st h := by
  obtain ⟨hx, hb, hml, hown, hts, hlk, hini, hAm, hSt, hA, hR, hRc, hRs⟩ := C
  intro ρ H locs lsA hcl hlo hst hR0 hS hX
  dsimp only [qx] at E
  split at E
  · rename_i y x st
    by_cases hy : y = 0
    · rw [decide_eq_true hy, cond_true] at E; cases E
    · rw [decide_eq_false hy, cond_false] at E
      refine lv_ldiv hx hb hd hy ?_
      exact (hk _ _ _ _ E).2 ρ H locs lsA hcl hlo (List.forall_mem_cons.mpr ⟨trivial, (fun w hw => hst w (List.mem_cons_of_mem _ (List.mem_cons_of_mem _ hw)))⟩) hR0 hS hX
  · cases E

theorem qs_lrem (C : qCx p s m args meth c cc nL ow ini D cy A R h0 ρ0 r) (hk : ∀ a b c' d, k a b c' d = some r → mle d r.1 ∧ qGo p l e R s m args below meth c nL D cy A Q h0 ρ0 a b c' d)   (hd : decode cc pc = .ok (.lrem, 1)) (E : qx cal lk rt (.lrem) 1 pc ls st h k = some r) : qGo p l e R s m args below meth c nL D cy A Q h0 ρ0 pc ls st h := by
  obtain ⟨hx, hb, hml, hown, hts, hlk, hini, hAm, hSt, hA, hR, hRc, hRs⟩ := C
  intro ρ H locs lsA hcl hlo hst hR0 hS hX
  dsimp only [qx] at E
  split at E
  · rename_i y x st
    by_cases hy : y = 0
    · rw [decide_eq_true hy, cond_true] at E; cases E
    · rw [decide_eq_false hy, cond_false] at E
      refine lv_lrem hx hb hd hy ?_
      exact (hk _ _ _ _ E).2 ρ H locs lsA hcl hlo (List.forall_mem_cons.mpr ⟨trivial, (fun w hw => hst w (List.mem_cons_of_mem _ (List.mem_cons_of_mem _ hw)))⟩) hR0 hS hX
  · cases E

theorem rv_c1 {ρ : Nat → Nat → Nat} : ∀ {v : qV}, Nat.beq (qcat v) 1 = true → (rv ρ v).category = 1
  | .inl _, _ => rfl
  | .inr (.inl _), h => by simp [qcat] at h
  | .inr (.inr (_, none)), _ => rfl
  | .inr (.inr (_, some _)), _ => rfl

theorem qs_dup (C : qCx p s m args meth c cc nL ow ini D cy A R h0 ρ0 r) (hk : ∀ a b c' d, k a b c' d = some r → mle d r.1 ∧ qGo p l e R s m args below meth c nL D cy A Q h0 ρ0 a b c' d)   (hd : decode cc pc = .ok (.dup, 1)) (E : qx cal lk rt (.dup) 1 pc ls st h k = some r) : qGo p l e R s m args below meth c nL D cy A Q h0 ρ0 pc ls st h := by
  obtain ⟨hx, hb, hml, hown, hts, hlk, hini, hAm, hSt, hA, hR, hRc, hRs⟩ := C
  intro ρ H locs lsA hcl hlo hst hR0 hS hX
  dsimp only [qx] at E
  split at E
  · rename_i v st
    cases hc : Nat.beq (qcat v) 1 with
    | false => rw [hc, cond_false] at E; cases E
    | true =>
      rw [hc, cond_true] at E
      refine lv_dup hx hb hd (rv_c1 hc) ?_
      exact (hk _ _ _ _ E).2 ρ H locs lsA hcl hlo (List.forall_mem_cons.mpr ⟨hst _ List.mem_cons_self, hst⟩) hR0 hS hX
  · cases E

theorem qs_pop (C : qCx p s m args meth c cc nL ow ini D cy A R h0 ρ0 r) (hk : ∀ a b c' d, k a b c' d = some r → mle d r.1 ∧ qGo p l e R s m args below meth c nL D cy A Q h0 ρ0 a b c' d)   (hd : decode cc pc = .ok (.pop, 1)) (E : qx cal lk rt (.pop) 1 pc ls st h k = some r) : qGo p l e R s m args below meth c nL D cy A Q h0 ρ0 pc ls st h := by
  obtain ⟨hx, hb, hml, hown, hts, hlk, hini, hAm, hSt, hA, hR, hRc, hRs⟩ := C
  intro ρ H locs lsA hcl hlo hst hR0 hS hX
  dsimp only [qx] at E
  split at E
  · rename_i v st
    cases hc : Nat.beq (qcat v) 1 with
    | false => rw [hc, cond_false] at E; cases E
    | true =>
      rw [hc, cond_true] at E
      refine lv_pop hx hb hd (rv_c1 hc) ?_
      exact (hk _ _ _ _ E).2 ρ H locs lsA hcl hlo (fun w hw => hst w (List.mem_cons_of_mem _ hw)) hR0 hS hX
  · cases E

theorem qs_dup2 (C : qCx p s m args meth c cc nL ow ini D cy A R h0 ρ0 r) (hk : ∀ a b c' d, k a b c' d = some r → mle d r.1 ∧ qGo p l e R s m args below meth c nL D cy A Q h0 ρ0 a b c' d)   (hd : decode cc pc = .ok (.dup2, 1)) (E : qx cal lk rt (.dup2) 1 pc ls st h k = some r) : qGo p l e R s m args below meth c nL D cy A Q h0 ρ0 pc ls st h := by
  obtain ⟨hx, hb, hml, hown, hts, hlk, hini, hAm, hSt, hA, hR, hRc, hRs⟩ := C
  intro ρ H locs lsA hcl hlo hst hR0 hS hX
  dsimp only [qx] at E
  split at E
  · refine lv_dup2_2 hx hb hd rfl ?_
    exact (hk _ _ _ _ E).2 ρ H locs lsA hcl hlo (List.forall_mem_cons.mpr ⟨trivial, hst⟩) hR0 hS hX
  · rename_i v w st _
    cases hc : Nat.beq (qcat v) 1 with
    | false => rw [hc, Bool.false_and, cond_false] at E; cases E
    | true =>
      cases hc2 : Nat.beq (qcat w) 1 with
      | false => rw [hc, hc2, Bool.and_false, cond_false] at E; cases E
      | true =>
        rw [hc, hc2, Bool.and_true, cond_true] at E
        refine lv_dup2_11 hx hb hd (rv_c1 hc) (rv_c1 hc2) ?_
        exact (hk _ _ _ _ E).2 ρ H locs lsA hcl hlo (List.forall_mem_cons.mpr ⟨hst _ List.mem_cons_self, List.forall_mem_cons.mpr ⟨hst _ (List.mem_cons_of_mem _ List.mem_cons_self), hst⟩⟩) hR0 hS hX
  · cases E

theorem qs_goto (C : qCx p s m args meth c cc nL ow ini D cy A R h0 ρ0 r) (hk : ∀ a b c' d, k a b c' d = some r → mle d r.1 ∧ qGo p l e R s m args below meth c nL D cy A Q h0 ρ0 a b c' d) {off : Int} (htg : 0 ≤ (pc : Int) + off)  (hd : decode cc pc = .ok (.goto off, 3)) (E : qx cal lk rt (.goto off) 3 pc ls st h k = some r) : qGo p l e R s m args below meth c nL D cy A Q h0 ρ0 pc ls st h := by
  obtain ⟨hx, hb, hml, hown, hts, hlk, hini, hAm, hSt, hA, hR, hRc, hRs⟩ := C
  intro ρ H locs lsA hcl hlo hst hR0 hS hX
  dsimp only [qx] at E
  refine lv_goto (tgt := qtgt pc off) hx hb hd (Int.toNat_of_nonneg htg).symm ?_
  exact (hk _ _ _ _ E).2 ρ H locs lsA hcl hlo hst hR0 hS hX

theorem qs_if_eq (C : qCx p s m args meth c cc nL ow ini D cy A R h0 ρ0 r) (hk : ∀ a b c' d, k a b c' d = some r → mle d r.1 ∧ qGo p l e R s m args below meth c nL D cy A Q h0 ρ0 a b c' d) {off : Int} (htg : 0 ≤ (pc : Int) + off)  (hd : decode cc pc = .ok (.ifCond .eq off, 3)) (E : qx cal lk rt (.ifCond .eq off) 3 pc ls st h k = some r) : qGo p l e R s m args below meth c nL D cy A Q h0 ρ0 pc ls st h := by
  obtain ⟨hx, hb, hml, hown, hts, hlk, hini, hAm, hSt, hA, hR, hRc, hRs⟩ := C
  intro ρ H locs lsA hcl hlo hst hR0 hS hX
  dsimp only [qx] at E
  split at E
  · refine lv_if_eq (tgt := qtgt pc off) hx hb hd (Int.toNat_of_nonneg htg).symm (fun hc => ?_) (fun hc => ?_)
    · rw [if_pos hc] at E
      exact (hk _ _ _ _ E).2 ρ H locs lsA hcl hlo (fun w hw => hst w (List.mem_cons_of_mem _ hw)) hR0 hS hX
    · rw [if_neg hc] at E
      exact (hk _ _ _ _ E).2 ρ H locs lsA hcl hlo (fun w hw => hst w (List.mem_cons_of_mem _ hw)) hR0 hS hX
  · cases E

theorem qs_if_ne (C : qCx p s m args meth c cc nL ow ini D cy A R h0 ρ0 r) (hk : ∀ a b c' d, k a b c' d = some r → mle d r.1 ∧ qGo p l e R s m args below meth c nL D cy A Q h0 ρ0 a b c' d) {off : Int} (htg : 0 ≤ (pc : Int) + off)  (hd : decode cc pc = .ok (.ifCond .ne off, 3)) (E : qx cal lk rt (.ifCond .ne off) 3 pc ls st h k = some r) : qGo p l e R s m args below meth c nL D cy A Q h0 ρ0 pc ls st h := by
  obtain ⟨hx, hb, hml, hown, hts, hlk, hini, hAm, hSt, hA, hR, hRc, hRs⟩ := C
  intro ρ H locs lsA hcl hlo hst hR0 hS hX
  dsimp only [qx] at E
  split at E
  · refine lv_if_ne (tgt := qtgt pc off) hx hb hd (Int.toNat_of_nonneg htg).symm (fun hc => ?_) (fun hc => ?_)
    · rw [if_neg hc] at E
      exact (hk _ _ _ _ E).2 ρ H locs lsA hcl hlo (fun w hw => hst w (List.mem_cons_of_mem _ hw)) hR0 hS hX
    · rw [if_pos hc] at E
      exact (hk _ _ _ _ E).2 ρ H locs lsA hcl hlo (fun w hw => hst w (List.mem_cons_of_mem _ hw)) hR0 hS hX
  · cases E

theorem qs_if_lt (C : qCx p s m args meth c cc nL ow ini D cy A R h0 ρ0 r) (hk : ∀ a b c' d, k a b c' d = some r → mle d r.1 ∧ qGo p l e R s m args below meth c nL D cy A Q h0 ρ0 a b c' d) {off : Int} (htg : 0 ≤ (pc : Int) + off)  (hd : decode cc pc = .ok (.ifCond .lt off, 3)) (E : qx cal lk rt (.ifCond .lt off) 3 pc ls st h k = some r) : qGo p l e R s m args below meth c nL D cy A Q h0 ρ0 pc ls st h := by
  obtain ⟨hx, hb, hml, hown, hts, hlk, hini, hAm, hSt, hA, hR, hRc, hRs⟩ := C
  intro ρ H locs lsA hcl hlo hst hR0 hS hX
  dsimp only [qx] at E
  split at E
  · refine lv_if_lt (tgt := qtgt pc off) hx hb hd (Int.toNat_of_nonneg htg).symm (fun hc => ?_) (fun hc => ?_)
    · rw [if_pos hc] at E
      exact (hk _ _ _ _ E).2 ρ H locs lsA hcl hlo (fun w hw => hst w (List.mem_cons_of_mem _ hw)) hR0 hS hX
    · rw [if_neg hc] at E
      exact (hk _ _ _ _ E).2 ρ H locs lsA hcl hlo (fun w hw => hst w (List.mem_cons_of_mem _ hw)) hR0 hS hX
  · cases E

theorem qs_if_ge (C : qCx p s m args meth c cc nL ow ini D cy A R h0 ρ0 r) (hk : ∀ a b c' d, k a b c' d = some r → mle d r.1 ∧ qGo p l e R s m args below meth c nL D cy A Q h0 ρ0 a b c' d) {off : Int} (htg : 0 ≤ (pc : Int) + off)  (hd : decode cc pc = .ok (.ifCond .ge off, 3)) (E : qx cal lk rt (.ifCond .ge off) 3 pc ls st h k = some r) : qGo p l e R s m args below meth c nL D cy A Q h0 ρ0 pc ls st h := by
  obtain ⟨hx, hb, hml, hown, hts, hlk, hini, hAm, hSt, hA, hR, hRc, hRs⟩ := C
  intro ρ H locs lsA hcl hlo hst hR0 hS hX
  dsimp only [qx] at E
  split at E
  · refine lv_if_ge (tgt := qtgt pc off) hx hb hd (Int.toNat_of_nonneg htg).symm (fun hc => ?_) (fun hc => ?_)
    · rw [if_pos hc] at E
      exact (hk _ _ _ _ E).2 ρ H locs lsA hcl hlo (fun w hw => hst w (List.mem_cons_of_mem _ hw)) hR0 hS hX
    · rw [if_neg hc] at E
      exact (hk _ _ _ _ E).2 ρ H locs lsA hcl hlo (fun w hw => hst w (List.mem_cons_of_mem _ hw)) hR0 hS hX
  · cases E

theorem qs_if_gt (C : qCx p s m args meth c cc nL ow ini D cy A R h0 ρ0 r) (hk : ∀ a b c' d, k a b c' d = some r → mle d r.1 ∧ qGo p l e R s m args below meth c nL D cy A Q h0 ρ0 a b c' d) {off : Int} (htg : 0 ≤ (pc : Int) + off)  (hd : decode cc pc = .ok (.ifCond .gt off, 3)) (E : qx cal lk rt (.ifCond .gt off) 3 pc ls st h k = some r) : qGo p l e R s m args below meth c nL D cy A Q h0 ρ0 pc ls st h := by
  obtain ⟨hx, hb, hml, hown, hts, hlk, hini, hAm, hSt, hA, hR, hRc, hRs⟩ := C
  intro ρ H locs lsA hcl hlo hst hR0 hS hX
  dsimp only [qx] at E
  split at E
  · refine lv_if_gt (tgt := qtgt pc off) hx hb hd (Int.toNat_of_nonneg htg).symm (fun hc => ?_) (fun hc => ?_)
    · rw [if_pos hc] at E
      exact (hk _ _ _ _ E).2 ρ H locs lsA hcl hlo (fun w hw => hst w (List.mem_cons_of_mem _ hw)) hR0 hS hX
    · rw [if_neg hc] at E
      exact (hk _ _ _ _ E).2 ρ H locs lsA hcl hlo (fun w hw => hst w (List.mem_cons_of_mem _ hw)) hR0 hS hX
  · cases E

theorem qs_if_le (C : qCx p s m args meth c cc nL ow ini D cy A R h0 ρ0 r) (hk : ∀ a b c' d, k a b c' d = some r → mle d r.1 ∧ qGo p l e R s m args below meth c nL D cy A Q h0 ρ0 a b c' d) {off : Int} (htg : 0 ≤ (pc : Int) + off)  (hd : decode cc pc = .ok (.ifCond .le off, 3)) (E : qx cal lk rt (.ifCond .le off) 3 pc ls st h k = some r) : qGo p l e R s m args below meth c nL D cy A Q h0 ρ0 pc ls st h := by
  obtain ⟨hx, hb, hml, hown, hts, hlk, hini, hAm, hSt, hA, hR, hRc, hRs⟩ := C
  intro ρ H locs lsA hcl hlo hst hR0 hS hX
  dsimp only [qx] at E
  split at E
  · refine lv_if_le (tgt := qtgt pc off) hx hb hd (Int.toNat_of_nonneg htg).symm (fun hc => ?_) (fun hc => ?_)
    · rw [if_pos hc] at E
      exact (hk _ _ _ _ E).2 ρ H locs lsA hcl hlo (fun w hw => hst w (List.mem_cons_of_mem _ hw)) hR0 hS hX
    · rw [if_neg hc] at E
      exact (hk _ _ _ _ E).2 ρ H locs lsA hcl hlo (fun w hw => hst w (List.mem_cons_of_mem _ hw)) hR0 hS hX
  · cases E

theorem qs_icmp_eq (C : qCx p s m args meth c cc nL ow ini D cy A R h0 ρ0 r) (hk : ∀ a b c' d, k a b c' d = some r → mle d r.1 ∧ qGo p l e R s m args below meth c nL D cy A Q h0 ρ0 a b c' d) {off : Int} (htg : 0 ≤ (pc : Int) + off)  (hd : decode cc pc = .ok (.if_icmp .eq off, 3)) (E : qx cal lk rt (.if_icmp .eq off) 3 pc ls st h k = some r) : qGo p l e R s m args below meth c nL D cy A Q h0 ρ0 pc ls st h := by
  obtain ⟨hx, hb, hml, hown, hts, hlk, hini, hAm, hSt, hA, hR, hRc, hRs⟩ := C
  intro ρ H locs lsA hcl hlo hst hR0 hS hX
  dsimp only [qx] at E
  split at E
  · refine lv_icmp_eq (tgt := qtgt pc off) hx hb hd (Int.toNat_of_nonneg htg).symm (fun hc => ?_) (fun hc => ?_)
    · rw [if_pos hc] at E
      exact (hk _ _ _ _ E).2 ρ H locs lsA hcl hlo (fun w hw => hst w (List.mem_cons_of_mem _ (List.mem_cons_of_mem _ hw))) hR0 hS hX
    · rw [if_neg hc] at E
      exact (hk _ _ _ _ E).2 ρ H locs lsA hcl hlo (fun w hw => hst w (List.mem_cons_of_mem _ (List.mem_cons_of_mem _ hw))) hR0 hS hX
  · cases E

theorem qs_icmp_ne (C : qCx p s m args meth c cc nL ow ini D cy A R h0 ρ0 r) (hk : ∀ a b c' d, k a b c' d = some r → mle d r.1 ∧ qGo p l e R s m args below meth c nL D cy A Q h0 ρ0 a b c' d) {off : Int} (htg : 0 ≤ (pc : Int) + off)  (hd : decode cc pc = .ok (.if_icmp .ne off, 3)) (E : qx cal lk rt (.if_icmp .ne off) 3 pc ls st h k = some r) : qGo p l e R s m args below meth c nL D cy A Q h0 ρ0 pc ls st h := by
  obtain ⟨hx, hb, hml, hown, hts, hlk, hini, hAm, hSt, hA, hR, hRc, hRs⟩ := C
  intro ρ H locs lsA hcl hlo hst hR0 hS hX
  dsimp only [qx] at E
  split at E
  · refine lv_icmp_ne (tgt := qtgt pc off) hx hb hd (Int.toNat_of_nonneg htg).symm (fun hc => ?_) (fun hc => ?_)
    · rw [if_neg hc] at E
      exact (hk _ _ _ _ E).2 ρ H locs lsA hcl hlo (fun w hw => hst w (List.mem_cons_of_mem _ (List.mem_cons_of_mem _ hw))) hR0 hS hX
    · rw [if_pos hc] at E
      exact (hk _ _ _ _ E).2 ρ H locs lsA hcl hlo (fun w hw => hst w (List.mem_cons_of_mem _ (List.mem_cons_of_mem _ hw))) hR0 hS hX
  · cases E

theorem qs_icmp_lt (C : qCx p s m args meth c cc nL ow ini D cy A R h0 ρ0 r) (hk : ∀ a b c' d, k a b c' d = some r → mle d r.1 ∧ qGo p l e R s m args below meth c nL D cy A Q h0 ρ0 a b c' d) {off : Int} (htg : 0 ≤ (pc : Int) + off)  (hd : decode cc pc = .ok (.if_icmp .lt off, 3)) (E : qx cal lk rt (.if_icmp .lt off) 3 pc ls st h k = some r) : qGo p l e R s m args below meth c nL D cy A Q h0 ρ0 pc ls st h := by
  obtain ⟨hx, hb, hml, hown, hts, hlk, hini, hAm, hSt, hA, hR, hRc, hRs⟩ := C
  intro ρ H locs lsA hcl hlo hst hR0 hS hX
  dsimp only [qx] at E
  split at E
  · refine lv_icmp_lt (tgt := qtgt pc off) hx hb hd (Int.toNat_of_nonneg htg).symm (fun hc => ?_) (fun hc => ?_)
    · rw [if_pos hc] at E
      exact (hk _ _ _ _ E).2 ρ H locs lsA hcl hlo (fun w hw => hst w (List.mem_cons_of_mem _ (List.mem_cons_of_mem _ hw))) hR0 hS hX
    · rw [if_neg hc] at E
      exact (hk _ _ _ _ E).2 ρ H locs lsA hcl hlo (fun w hw => hst w (List.mem_cons_of_mem _ (List.mem_cons_of_mem _ hw))) hR0 hS hX
  · cases E

theorem qs_icmp_ge (C : qCx p s m args meth c cc nL ow ini D cy A R h0 ρ0 r) (hk : ∀ a b c' d, k a b c' d = some r → mle d r.1 ∧ qGo p l e R s m args below meth c nL D cy A Q h0 ρ0 a b c' d) {off : Int} (htg : 0 ≤ (pc : Int) + off)  (hd : decode cc pc = .ok (.if_icmp .ge off, 3)) (E : qx cal lk rt (.if_icmp .ge off) 3 pc ls st h k = some r) : qGo p l e R s m args below meth c nL D cy A Q h0 ρ0 pc ls st h := by
  obtain ⟨hx, hb, hml, hown, hts, hlk, hini, hAm, hSt, hA, hR, hRc, hRs⟩ := C
  intro ρ H locs lsA hcl hlo hst hR0 hS hX
  dsimp only [qx] at E
  split at E
  · refine lv_icmp_ge (tgt := qtgt pc off) hx hb hd (Int.toNat_of_nonneg htg).symm (fun hc => ?_) (fun hc => ?_)
    · rw [if_pos hc] at E
      exact (hk _ _ _ _ E).2 ρ H locs lsA hcl hlo (fun w hw => hst w (List.mem_cons_of_mem _ (List.mem_cons_of_mem _ hw))) hR0 hS hX
    · rw [if_neg hc] at E
      exact (hk _ _ _ _ E).2 ρ H locs lsA hcl hlo (fun w hw => hst w (List.mem_cons_of_mem _ (List.mem_cons_of_mem _ hw))) hR0 hS hX
  · cases E

theorem qs_icmp_gt (C : qCx p s m args meth c cc nL ow ini D cy A R h0 ρ0 r) (hk : ∀ a b c' d, k a b c' d = some r → mle d r.1 ∧ qGo p l e R s m args below meth c nL D cy A Q h0 ρ0 a b c' d) {off : Int} (htg : 0 ≤ (pc : Int) + off)  (hd : decode cc pc = .ok (.if_icmp .gt off, 3)) (E : qx cal lk rt (.if_icmp .gt off) 3 pc ls st h k = some r) : qGo p l e R s m args below meth c nL D cy A Q h0 ρ0 pc ls st h := by
  obtain ⟨hx, hb, hml, hown, hts, hlk, hini, hAm, hSt, hA, hR, hRc, hRs⟩ := C
  intro ρ H locs lsA hcl hlo hst hR0 hS hX
  dsimp only [qx] at E
  split at E
  · refine lv_icmp_gt (tgt := qtgt pc off) hx hb hd (Int.toNat_of_nonneg htg).symm (fun hc => ?_) (fun hc => ?_)
    · rw [if_pos hc] at E
      exact (hk _ _ _ _ E).2 ρ H locs lsA hcl hlo (fun w hw => hst w (List.mem_cons_of_mem _ (List.mem_cons_of_mem _ hw))) hR0 hS hX
    · rw [if_neg hc] at E
      exact (hk _ _ _ _ E).2 ρ H locs lsA hcl hlo (fun w hw => hst w (List.mem_cons_of_mem _ (List.mem_cons_of_mem _ hw))) hR0 hS hX
  · cases E

theorem qs_icmp_le (C : qCx p s m args meth c cc nL ow ini D cy A R h0 ρ0 r) (hk : ∀ a b c' d, k a b c' d = some r → mle d r.1 ∧ qGo p l e R s m args below meth c nL D cy A Q h0 ρ0 a b c' d) {off : Int} (htg : 0 ≤ (pc : Int) + off)  (hd : decode cc pc = .ok (.if_icmp .le off, 3)) (E : qx cal lk rt (.if_icmp .le off) 3 pc ls st h k = some r) : qGo p l e R s m args below meth c nL D cy A Q h0 ρ0 pc ls st h := by
  obtain ⟨hx, hb, hml, hown, hts, hlk, hini, hAm, hSt, hA, hR, hRc, hRs⟩ := C
  intro ρ H locs lsA hcl hlo hst hR0 hS hX
  dsimp only [qx] at E
  split at E
  · refine lv_icmp_le (tgt := qtgt pc off) hx hb hd (Int.toNat_of_nonneg htg).symm (fun hc => ?_) (fun hc => ?_)
    · rw [if_pos hc] at E
      exact (hk _ _ _ _ E).2 ρ H locs lsA hcl hlo (fun w hw => hst w (List.mem_cons_of_mem _ (List.mem_cons_of_mem _ hw))) hR0 hS hX
    · rw [if_neg hc] at E
      exact (hk _ _ _ _ E).2 ρ H locs lsA hcl hlo (fun w hw => hst w (List.mem_cons_of_mem _ (List.mem_cons_of_mem _ hw))) hR0 hS hX
  · cases E

theorem qs_ifnonnull (C : qCx p s m args meth c cc nL ow ini D cy A R h0 ρ0 r) (hk : ∀ a b c' d, k a b c' d = some r → mle d r.1 ∧ qGo p l e R s m args below meth c nL D cy A Q h0 ρ0 a b c' d) {off : Int} (htg : 0 ≤ (pc : Int) + off)  (hd : decode cc pc = .ok (.ifnonnull off, 3)) (E : qx cal lk rt (.ifnonnull off) 3 pc ls st h k = some r) : qGo p l e R s m args below meth c nL D cy A Q h0 ρ0 pc ls st h := by
  obtain ⟨hx, hb, hml, hown, hts, hlk, hini, hAm, hSt, hA, hR, hRc, hRs⟩ := C
  intro ρ H locs lsA hcl hlo hst hR0 hS hX
  dsimp only [qx] at E
  split at E
  · rename_i k0 o st
    cases o with
    | none =>
      refine lv_ifnonnullN hx hb hd ?_
      exact (hk _ _ _ _ E).2 ρ H locs lsA hcl hlo (fun w hw => hst w (List.mem_cons_of_mem _ hw)) hR0 hS hX
    | some j =>
      refine lv_ifnonnull (tgt := qtgt pc off) hx hb hd (Int.toNat_of_nonneg htg).symm ?_
      exact (hk _ _ _ _ E).2 ρ H locs lsA hcl hlo (fun w hw => hst w (List.mem_cons_of_mem _ hw)) hR0 hS hX
  · cases E
end QS
