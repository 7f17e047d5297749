/-! THE WORLD: all that both keep -/
abbrev Nt : Type := Nat × Option Nat
/-- what an IMAGE keeps: as told, now, what can be UNDONE (the last first), NOTES, the RULE IN FORCE, x -/
abbrev Bk : Type := Td × (Mo × (List Mo × (List Nt × (Option Nat × Nat))))
def bkT (b : Bk) : Td := b.1
def bkM (b : Bk) : Mo := b.2.1
def bkU (b : Bk) : List Mo := b.2.2.1
def bkN (b : Bk) : List Nt := b.2.2.2.1
def bkF (b : Bk) : Option Nat := b.2.2.2.2.1
def bkX (b : Bk) : Nat := b.2.2.2.2.2
def bkOk (R : Nat) (b : Bk) : Prop := tdOk (bkT b) ∧ moOk (bkT b) 999 (bkM b) ∧ (∀ m ∈ bkU b, moOk (bkT b) 999 m) ∧ (bkU b).length ≤ 20 ∧ (bkN b).length ≤ 10 ∧ (∀ n ∈ bkN b, n.1 ≤ 60 ∧ ∀ w, n.2 = some w → w < tdP (bkT b)) ∧ (∀ i, bkF b = some i → i < R) ∧ bkX b < 2 ^ 31
/-- the village's book, IMAGES, RULES, how many bytes the TAPE has, its bytes -/
abbrev Wd : Type := Bk × ((Nat → Option Bk) × (List Rl × (Nat × (Nat → Int32))))
def wB (w : Wd) : Bk := w.1
def wG (w : Wd) : Nat → Option Bk := w.2.1
def wR (w : Wd) : List Rl := w.2.2.1
def wN (w : Wd) : Nat := w.2.2.2.1
def wY (w : Wd) : Nat → Int32 := w.2.2.2.2
def wdOk (w : Wd) : Prop := bkOk (wR w).length (wB w) ∧ (∀ k b, wG w k = some b → bkOk (wR w).length b) ∧ (wR w).length ≤ 6 ∧ (∀ r ∈ wR w, rlOk r) ∧ wN w ≤ 400
/-- the rule in force -/
def wF (w : Wd) : Option Rl := (bkF (wB w)).bind fun i => (wR w)[i]?
/-! the reference's side -/
def MTo (t : Td) (I : qIm) : Prop := (∀ q, q < tdP t → I 14 8 q = nI (tdl t q)) ∧ (∀ q, q < tdP t → I 14 9 q = nI (tdp t q)) ∧ (∀ q, q < tdP t → I 14 10 q = nI (tds t q)) ∧ ∀ k, k < tdL t → I 14 11 k = nI (tdc t k)
def MNo (ns : List Nt) (I : qIm) : Prop := I 14 0 6 = nI ns.length ∧ ∀ i (h : i < ns.length), I 14 6 i = nI (ns[i]'h).1 ∧ I 14 7 i = oI (ns[i]'h).2
def MPr (t : Td) (m : Mo) (a : Nat) (I : qIm) : Prop := (I 14 24 a = nI (moD m) ∧ I 14 24 (a + 1) = nI (moB m) ∧ I 14 24 (a + 2) = nI (moN m)) ∧ (∀ q, q < tdP t → I 14 24 (a + 3 + q) = nI (moL m q)) ∧ (∀ q, q < tdP t → I 14 24 (a + 10 + q) = nI (moP m q)) ∧ (∀ q, q < tdP t → I 14 24 (a + 17 + q) = nI (moS m q)) ∧ (∀ q, q < tdP t → I 14 24 (a + 24 + q) = nI (moH m q))
def MPa (t : Td) (U : List Mo) (I : qIm) : Prop := ∀ i (h : i < U.length), MPr t (U[i]'h) (31 * (U.length - 1 - i)) I
def MBk (b : Bk) (I : qIm) (pm : Int32) : Prop := (MTd (bkT b) I ∧ MMo (bkT b) (bkM b) I ∧ MCl (bkT b) I ∧ MTo (bkT b) I) ∧ MNo (bkN b) I ∧ I 14 0 7 = nI (bkX b) ∧ I 14 0 8 = oI (bkF b) ∧ pm = nI (bkU b).length ∧ MPa (bkT b) (bkU b) I
/-- where the rows lie in an image -/
def imo (j : Nat) : Nat := if j = 0 then 0 else if j = 1 then 9 else if j = 2 then 16 else if j = 3 then 23 else if j = 4 then 30 else if j = 5 then 37 else if j = 6 then 48 else if j = 7 then 58 else if j = 8 then 68 else if j = 9 then 75 else if j = 10 then 82 else if j = 11 then 89 else 99
def imv (k : Nat) (I : qIm) : qIm := fun _ j s => I 14 32 (760 * k + imo j + s)
def MS (w : Wd) (I : qIm) : Prop := MBk (wB w) I (I 12 0 41) ∧ (I 12 0 22 = nI (wR w).length ∧ I 12 0 27 = nI 10) ∧ (∀ i (h : i < (wR w).length), MRule i ((wR w)[i]'h) I) ∧ I 12 0 18 = nI (wN w) ∧ (∀ s, s < 400 → I 13 0 s = wY w s) ∧ ∀ k, k < 4 → (wG w k = none ∧ I 16 0 k = nI 0) ∨ ∃ b, wG w k = some b ∧ I 16 0 k = nI 1 ∧ MBk b (imv k I) (I 14 32 (760 * k + 47))
/-- the cells of a book -/
def BC (j s : Nat) : Prop := j = 0 ∧ s < 9 ∨ 1 ≤ j ∧ j ≤ 4 ∧ s < 7 ∨ j = 5 ∧ s < 10 ∨ 6 ≤ j ∧ j ≤ 7 ∧ s < 10 ∨ 8 ≤ j ∧ j ≤ 10 ∧ s < 7 ∨ j = 11 ∧ s < 10 ∨ j = 24 ∧ s < 620
theorem MPr.eq {t : Td} {m : Mo} {a : Nat} {I I' : qIm} (ht : tdP t ≤ 7) (ha : a + 31 ≤ 620) (e : ∀ s, s < 620 → I' 14 24 s = I 14 24 s) (h : MPr t m a I) : MPr t m a I' := by
  obtain ⟨⟨h1, h2, h3⟩, h4, h5, h6, h7⟩ := h
  exact ⟨⟨(e _ (by omega)).trans h1, (e _ (by omega)).trans h2, (e _ (by omega)).trans h3⟩, fun q hq => (e _ (by omega)).trans (h4 q hq), fun q hq => (e _ (by omega)).trans (h5 q hq), fun q hq => (e _ (by omega)).trans (h6 q hq), fun q hq => (e _ (by omega)).trans (h7 q hq)⟩
theorem MBk.eq {R : Nat} {b : Bk} (hb : bkOk R b) {I I' : qIm} {pm pm' : Int32} (e : ∀ j s, BC j s → I' 14 j s = I 14 j s) (ep : pm' = pm) (h : MBk b I pm) : MBk b I' pm' := by
  obtain ⟨hT, hM, hU, hU20, hN10, hN, hF, hX⟩ := hb
  obtain ⟨⟨h1, h2, h3, h4, h5, h6, h7⟩, h8, h9, h10, h11, h12⟩ := h
  have c1 := hT.2.1
  have c2 := hT.2.2.1
  refine ⟨⟨h1.eq fun s hs => e 0 s (by unfold BC; omega), h2.eq c1 (fun j s _ _ _ => e j s (by unfold BC; omega)) (fun s _ _ => e 0 s (by unfold BC; omega)), h3.eq c2 fun s hs => e 5 s (by unfold BC; omega), fun q hq => (e 8 q (by unfold BC; omega)).trans (h4 q hq), fun q hq => (e 9 q (by unfold BC; omega)).trans (h5 q hq), fun q hq => (e 10 q (by unfold BC; omega)).trans (h6 q hq), fun k hk => (e 11 k (by unfold BC; omega)).trans (h7 k hk)⟩, ⟨(e 0 6 (by unfold BC; omega)).trans h8.1, fun i hi => ⟨(e 6 i (by unfold BC; omega)).trans (h8.2 i hi).1, (e 7 i (by unfold BC; omega)).trans (h8.2 i hi).2⟩⟩, (e 0 7 (by unfold BC; omega)).trans h9, (e 0 8 (by unfold BC; omega)).trans h10, ep.trans h11, fun i hi => (h12 i hi).eq c1 (by omega) fun s hs => e 24 s (by unfold BC; omega)⟩
theorem MS.fr {w : Wd} (hw : wdOk w) {I I' : qIm} (f : FrM I I') (h : MS w I) : MS w I' := by
  obtain ⟨h1, h2, h3, h4, h5, h6⟩ := h
  refine ⟨h1.eq hw.1 (fun j s hb => f 14 j s (by unfold BC at hb; unfold KC; omega)) (f 12 0 41 (by unfold KC; omega)), ⟨(f 12 0 22 (by unfold KC; omega)).trans h2.1, (f 12 0 27 (by unfold KC; omega)).trans h2.2⟩, fun i hi => (h3 i hi).eq fun j s _ _ => f 14 j s (by unfold KC; omega), (f 12 0 18 (by unfold KC; omega)).trans h4, fun s hs => (f 13 0 s (by unfold KC; omega)).trans (h5 s hs), fun k hk => ?_⟩
  rcases h6 k hk with ⟨g1, g2⟩ | ⟨b, g1, g2, g3⟩
  · exact Or.inl ⟨g1, (f 16 0 k (by unfold KC; omega)).trans g2⟩
  · refine Or.inr ⟨b, g1, (f 16 0 k (by unfold KC; omega)).trans g2, g3.eq (hw.2.1 k b g1) (fun j s hb => ?_) (f 14 32 _ (by unfold KC; omega))⟩
    show I' 14 32 _ = I 14 32 _
    refine f 14 32 _ ?_
    have : imo j + s < 760 := by
      unfold BC at hb
      have hj : j = 0 ∨ j = 1 ∨ j = 2 ∨ j = 3 ∨ j = 4 ∨ j = 5 ∨ j = 6 ∨ j = 7 ∨ j = 8 ∨ j = 9 ∨ j = 10 ∨ j = 11 ∨ j = 24 := by omega
      rcases hj with rfl | rfl | rfl | rfl | rfl | rfl | rfl | rfl | rfl | rfl | rfl | rfl | rfl <;> simp [imo] <;> omega
    unfold KC
    omega
/-- the rule in force, in the reference -/
theorem MS.ru {w : Wd} (hw : wdOk w) {I : qIm} (h : MS w I) : MRu (wF w) I := by
  obtain ⟨⟨-, -, -, h8, -, -⟩, -, h3, -⟩ := h
  unfold wF
  cases hF : bkF (wB w) with
  | none =>
    rw [hF] at h8
    exact Or.inl ⟨rfl, h8⟩
  | some i =>
    rw [hF] at h8
    have hi := hw.1.2.2.2.2.2.2.1 i hF
    refine Or.inr ⟨i, (wR w)[i]'hi, ?_, ?_, h8, h3 i hi⟩
    · rw [Option.bind_some, List.getElem?_eq_getElem hi]
    · have := hw.2.2.1; omega
theorem MS.run {w : Wd} (hw : wdOk w) {I : qIm} (h : MS w I) : MRun (bkT (wB w)) (bkM (wB w)) 999 (wF w) I :=
  ⟨hw.1.2.1, h.1.1.1, h.1.1.2.1, h.1.1.2.2.1, h.ru hw⟩
/-- a call of the reference that answers v, and what it leaves -/
def MC (G : qG) (o : Option qO) (w : Wd) (v : Int32) : Prop := ∃ I' J', o = some (gm G I' J', some (qI v)) ∧ MS w I'
theorem MC.ofW {G : qG} {w : Wd} (hw : wdOk w) {I : qIm} (h : MS w I) {o : Option qO} {v : Int32} (g : GW G o (fun I' _ x => x = v ∧ FrM I I')) : MC G o w v := by
  obtain ⟨I', J', x, e, rfl, f⟩ := g
  exact ⟨I', J', e, h.fr hw f⟩
/-! the class's side -/
def GSt (G : qG) (j tj mj a : Nat) : Prop := (gP G 6 j 0 = some tj ∧ gP G 6 j 1 = some mj ∧ gP G 6 j 2 = some (a + 8) ∧ gP G 6 j 5 = some (a + 9) ∧ gP G 6 j 6 = some (a + 10)) ∧ (gL G 14 (a + 8) = 620 ∧ gL G 14 (a + 9) = 10 ∧ gL G 14 (a + 10) = 10) ∧ GTold G tj a ∧ GMom G mj (a + 4)
def XRw (c a : Nat) (m : Mo) (I : qIm) : Prop := (∀ s, s < 7 → I 14 c (a + s) = nI (moL m s)) ∧ (∀ s, s < 7 → I 14 c (a + 7 + s) = nI (moP m s)) ∧ (∀ s, s < 7 → I 14 c (a + 14 + s) = nI (moS m s)) ∧ (∀ s, s < 7 → I 14 c (a + 21 + s) = nI (moH m s)) ∧ I 14 c (a + 28) = nI (moN m) ∧ I 14 c (a + 29) = nI (moD m) ∧ I 14 c (a + 30) = nI (moB m)
def XRg (j c : Nat) (U : List Mo) (I : qIm) : Prop := I 6 j 4 = nI U.length ∧ ∃ sl, sl < 20 ∧ I 6 j 3 = nI sl ∧ ∀ i (h : i < U.length), XRw c (31 * ((sl + 19 - i) % 20)) (U[i]'h) I
def XNo (j c : Nat) (ns : List Nt) (I : qIm) : Prop := I 6 j 7 = nI ns.length ∧ ∀ i (h : i < ns.length), I 14 c i = nI (ns[i]'h).1 ∧ I 14 (c + 1) i = oI (ns[i]'h).2
def XBk (j tj mj a : Nat) (b : Bk) (I : qIm) : Prop := XTd tj a (bkT b) I ∧ XMo mj (a + 4) (bkM b) I ∧ XRg j (a + 8) (bkU b) I ∧ XNo j (a + 9) (bkN b) I ∧ I 6 j 8 = oI (bkF b) ∧ I 6 j 9 = nI (bkX b)
/-- where rules and images lie: a rule's number, its code; an image's state, told, moment, first row -/
abbrev Ad : Type := (Nat → Nat × Nat) × (Nat → (Nat × (Nat × (Nat × Nat))))
def XRla (G : qG) (j ca : Nat) (rl : Rl) (I : qIm) : Prop := ∃ sj, GRule G j ca sj (encR rl).length ∧ (encR rl).length < 2 ^ 30 ∧ 60 ≤ ca ∧ 6 ≤ sj ∧ rlOk rl ∧ XCd I ca 0 (encR rl)
theorem XRla.rl {G : qG} {j ca : Nat} {rl : Rl} {I : qIm} (h : XRla G j ca rl I) : XRl G j rl I := by
  obtain ⟨sj, h1, h2, h3, h4, h5, h6⟩ := h
  exact ⟨ca, sj, h1, h2, h3, h4, h5, h6⟩
def XSa (A : Ad) (w : Wd) (G : qG) (I : qIm) : Prop :=
  XGeo G ∧ XBk 0 1 0 6 (wB w) I ∧ I 11 0 4 = nI (wR w).length ∧ (∀ i (h : i < (wR w).length), gP G 17 0 i = some (A.1 i).1 ∧ XRla G (A.1 i).1 (A.1 i).2 ((wR w)[i]'h) I ∧ (A.1 i).2 < gC G 14) ∧ I 7 0 1 = nI (wN w) ∧ (∀ s, s < 400 → I 13 0 s = wY w s) ∧
  (∀ k, k < 4 → (wG w k = none ∧ gP G 18 0 k = none) ∨ ∃ b, wG w k = some b ∧ gP G 18 0 k = some (A.2 k).1 ∧ GSt G (A.2 k).1 (A.2 k).2.1 (A.2 k).2.2.1 (A.2 k).2.2.2 ∧ XBk (A.2 k).1 (A.2 k).2.1 (A.2 k).2.2.1 (A.2 k).2.2.2 b I ∧ (1 ≤ (A.2 k).1 ∧ 6 ≤ (A.2 k).2.1 ∧ 6 ≤ (A.2 k).2.2.1 ∧ 60 ≤ (A.2 k).2.2.2) ∧ (A.2 k).1 < gC G 6 ∧ (A.2 k).2.1 < gC G 8 ∧ (A.2 k).2.2.1 < gC G 1 ∧ (A.2 k).2.2.2 + 11 ≤ gC G 14) ∧
  (∀ i k, i < (wR w).length → k < 4 → wG w k ≠ none → (A.1 i).2 < (A.2 k).2.2.2 ∨ (A.2 k).2.2.2 + 11 ≤ (A.1 i).2) ∧
  (∀ k k', k < 4 → k' < 4 → k ≠ k' → wG w k ≠ none → wG w k' ≠ none → (A.2 k).1 ≠ (A.2 k').1 ∧ (A.2 k).2.1 ≠ (A.2 k').2.1 ∧ (A.2 k).2.2.1 ≠ (A.2 k').2.2.1 ∧ ((A.2 k).2.2.2 + 11 ≤ (A.2 k').2.2.2 ∨ (A.2 k').2.2.2 + 11 ≤ (A.2 k).2.2.2)) ∧
  (60 ≤ gC G 14 ∧ 6 ≤ gC G 15 ∧ 1 ≤ gC G 6 ∧ 6 ≤ gC G 8 ∧ 6 ≤ gC G 1 ∧ gC G 4 = (wR w).length ∧ ∀ i, i < (wR w).length → (A.1 i).1 < (wR w).length)
theorem XRw.eq {c a : Nat} {m : Mo} {I I' : qIm} (e : ∀ s, s < 620 → I' 14 c s = I 14 c s) (ha : a + 31 ≤ 620) (h : XRw c a m I) : XRw c a m I' := by
  obtain ⟨h1, h2, h3, h4, h5, h6, h7⟩ := h
  exact ⟨fun s hs => (e _ (by omega)).trans (h1 s hs), fun s hs => (e _ (by omega)).trans (h2 s hs), fun s hs => (e _ (by omega)).trans (h3 s hs), fun s hs => (e _ (by omega)).trans (h4 s hs), (e _ (by omega)).trans h5, (e _ (by omega)).trans h6, (e _ (by omega)).trans h7⟩
theorem XBk.eq {R j tj mj a : Nat} {b : Bk} (hb : bkOk R b) {I I' : qIm} (e : ∀ k j' s, (k = 14 ∧ a ≤ j' ∧ j' ≤ a + 10 ∨ k = 8 ∧ j' = tj ∨ k = 1 ∧ j' = mj ∨ k = 6 ∧ j' = j) → I' k j' s = I k j' s) (h : XBk j tj mj a b I) : XBk j tj mj a b I' := by
  obtain ⟨hT, hM, hU, hU20, hN10, hN, hF, hX⟩ := hb
  obtain ⟨h1, h2, ⟨h3, sl, h4, h5, h6⟩, ⟨h7, h8⟩, h9, h10⟩ := h
  refine ⟨h1.eq fun k j' s hk => e k j' s (by omega), h2.eq fun k j' s hk => e k j' s (by omega), ⟨(e _ _ _ (by omega)).trans h3, sl, h4, (e _ _ _ (by omega)).trans h5, fun i hi => (h6 i hi).eq (fun s hs => e 14 (a + 8) s (by omega)) (by have := Nat.mod_lt (sl + 19 - i) (by decide : 20 > 0); omega)⟩, ⟨(e _ _ _ (by omega)).trans h7, fun i hi => ⟨(e 14 (a + 9) i (by omega)).trans (h8 i hi).1, (e 14 (a + 9 + 1) i (by omega)).trans (h8 i hi).2⟩⟩, (e _ _ _ (by omega)).trans h9, (e _ _ _ (by omega)).trans h10⟩
theorem GEq.st {G G' : qG} (h : GEq G G') {j tj mj a : Nat} (g : GSt G j tj mj a) : GSt G' j tj mj a := by
  obtain ⟨⟨g1, g2, g3, g4, g5⟩, ⟨l1, l2, l3⟩, gt, gmm⟩ := g
  have h3 := h.2.2.1
  have h4 := h.2.2.2.1
  exact ⟨⟨(h4 _ _ _ (by decide)).trans g1, (h4 _ _ _ (by decide)).trans g2, (h4 _ _ _ (by decide)).trans g3, (h4 _ _ _ (by decide)).trans g4, (h4 _ _ _ (by decide)).trans g5⟩, ⟨by rw [h3]; exact l1, by rw [h3]; exact l2, by rw [h3]; exact l3⟩, h.told gt, h.mom gmm⟩
theorem XRla.eq {G G' : qG} (hG : GEq G G') {I I' : qIm} (e : ∀ j s, 60 ≤ j → I' 14 j s = I 14 j s) {j ca : Nat} {rl : Rl} (h : XRla G j ca rl I) : XRla G' j ca rl I' := by
  obtain ⟨sj, ⟨q1, q2, q3, q4⟩, h2, h3, h4, h5, h6⟩ := h
  have g4 := hG.2.2.2.1
  have g3 := hG.2.2.1
  exact ⟨sj, ⟨(g4 _ _ _ (by decide)).trans q1, (g4 _ _ _ (by decide)).trans q2, by rw [g3]; exact q3, by rw [g3]; exact q4⟩, h2, h3, h4, h5, h6.eq fun s => e ca s h3⟩
theorem XSa.fr {A : Ad} {w : Wd} (hw : wdOk w) {G G' : qG} (hG : GEq G G') {I I' : qIm} (f : FrC I I') (h : XSa A w G I) : XSa A w G' I' := by
  obtain ⟨h1, h2, h3, h4, h5, h6, h7, h8, h9, h10⟩ := h
  have g2 := hG.2.1
  have g4 := hG.2.2.2.1
  refine ⟨hG.geo h1, h2.eq hw.1 fun k j' s hk => f k j' s (by unfold CC; omega), (f _ _ _ (by unfold CC; omega)).trans h3, fun i hi => ⟨(g4 _ _ _ (by decide)).trans (h4 i hi).1, (h4 i hi).2.1.eq hG fun j s hj => f 14 j s (by unfold CC; omega), by rw [g2]; exact (h4 i hi).2.2⟩, (f _ _ _ (by unfold CC; omega)).trans h5, fun s hs => (f _ _ _ (by unfold CC; omega)).trans (h6 s hs), fun k hk => ?_, h8, h9, by rw [g2]; exact h10⟩
  rcases h7 k hk with ⟨q1, q2⟩ | ⟨b, q1, q2, q3, q4, q5, q6⟩
  · exact Or.inl ⟨q1, (g4 _ _ _ (by decide)).trans q2⟩
  · refine Or.inr ⟨b, q1, (g4 _ _ _ (by decide)).trans q2, hG.st q3, q4.eq (hw.2.1 k b q1) fun k' j' s hk => f k' j' s (by unfold CC; omega), q5, by rw [g2]; exact q6⟩
/-- the rule in force, in the class -/
theorem XSa.ru {A : Ad} {w : Wd} (hw : wdOk w) {G : qG} {I : qIm} (h : XSa A w G I) : ∃ rr, (∀ J, qcal 142 [qR 11 (some 0)] (gm G I J) = some (gm G I J, some (qR 4 rr))) ∧ XQ G (bkT (wB w)) (bkM (wB w)) (wF w) rr I := by
  obtain ⟨h1, h2, h3, h4, -⟩ := h
  refine ⟨(bkF (wB w)).bind fun i => gP G 17 0 i, fun J => X_rule h1 J hw.2.2.1 hw.1.2.2.2.2.2.2.1 h2.2.2.2.2.1 h3, hw.1.2.1, h2.1, h2.2.1, ?_⟩
  unfold wF
  cases hF : bkF (wB w) with
  | none => exact Or.inl ⟨rfl, rfl⟩
  | some i =>
    have hi := hw.1.2.2.2.2.2.2.1 i hF
    refine Or.inr ⟨(A.1 i).1, (wR w)[i]'hi, ?_, ?_, (h4 i hi).2.1.rl⟩
    · rw [Option.bind_some, List.getElem?_eq_getElem hi]
    · rw [Option.bind_some]; exact (h4 i hi).1
/-- a call of the class that answers v, what it leaves; it makes little that is new -/
def XC (G : qG) (o : Option qO) (w : Wd) (v : Int32) : Prop := ∃ G' I' J' A, o = some (gm G' I' J', some (qI v)) ∧ XSa A w G' I' ∧ G.1.1 ≤ G'.1.1 ∧ G'.1.1 ≤ G.1.1 + 20 ∧ G.1.2 ≤ G'.1.2 ∧ G'.1.2 ≤ G.1.2 + 800
theorem XC.ofC {A : Ad} {w : Wd} (hw : wdOk w) {G : qG} {I : qIm} (h : XSa A w G I) {o : Option qO} {v : Int32} (g : CW G I o v) : XC G o w v := by
  obtain ⟨G', I', J', e, hG, f⟩ := g
  have h1 := hG.1
  exact ⟨G', I', J', A, e, h.fr hw hG f, by rw [h1]; omega, by rw [h1]; omega, by rw [h1]; omega, by rw [h1]; omega⟩
