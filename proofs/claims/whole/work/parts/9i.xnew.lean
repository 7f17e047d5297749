/-! what is made anew; the class -/
def gNew (G : qG) (k n : Nat) : qG := ((G.1.1 + 1, G.1.2 + n), (fun k' => if k' = k then gC G k + 1 else gC G k'), (fun k' j' => if k' = k ∧ j' = gC G k then n else gL G k' j'), u2 (gP G) k (gC G k) (fun _ => none))
theorem qNew_gm (G : qG) (I : qIm) (J : qJm) (k n : Nat) : qNew (gm G I J) k n = gm (gNew G k n) (u2 I k (gC G k) fun _ => 0) (u2 J k (gC G k) fun _ => 0) := rfl
theorem gC_new_s {G : qG} {k n : Nat} : gC (gNew G k n) k = gC G k + 1 := if_pos rfl
theorem gC_new_n {G : qG} {k n k' : Nat} (h : k' ≠ k) : gC (gNew G k n) k' = gC G k' := if_neg h
theorem gL_new_s {G : qG} {k n j : Nat} (h : j = gC G k) : gL (gNew G k n) k j = n := if_pos ⟨rfl, h⟩
theorem gL_new_n {G : qG} {k n k' j' : Nat} (h : ¬ (k' = k ∧ j' = gC G k)) : gL (gNew G k n) k' j' = gL G k' j' := if_neg h
theorem gP_new_n {G : qG} {k n k' j' s : Nat} (h : ¬ (k' = k ∧ j' = gC G k)) : gP (gNew G k n) k' j' s = gP G k' j' s := by
  show u2 (gP G) k (gC G k) (fun _ => none) k' j' s = gP G k' j' s
  exact u2n h
theorem gsP_s {G : qG} {k j s : Nat} {v : Option Nat} : gP (gsP G k j s v) k j s = v := if_pos ⟨rfl, rfl, rfl⟩
theorem gsP_n {G : qG} {k j s : Nat} {v : Option Nat} {k' j' s' : Nat} (h : ¬ (k' = k ∧ j' = j ∧ s' = s)) : gP (gsP G k j s v) k' j' s' = gP G k' j' s' := if_neg h
/-- a row more, laid into a slot -/
def gAl (G : qG) (n k j s : Nat) : qG := gsP (gNew G 14 n) k j s (some (gC G 14))
theorem gAl_C {G : qG} {n k j s : Nat} : gC (gAl G n k j s) 14 = gC G 14 + 1 := by
  show gC (gNew G 14 n) 14 = _
  exact gC_new_s
theorem gAl_Cn {G : qG} {n k j s k' : Nat} (h : k' ≠ 14) : gC (gAl G n k j s) k' = gC G k' := by
  show gC (gNew G 14 n) k' = _
  exact gC_new_n h
theorem gAl_A {G : qG} {n k j s : Nat} : (gAl G n k j s).1 = (G.1.1 + 1, G.1.2 + n) := rfl
theorem gAl_L {G : qG} {n k j s i : Nat} (h : i = gC G 14) : gL (gAl G n k j s) 14 i = n := gL_new_s h
theorem gAl_Ln {G : qG} {n k j s k' i : Nat} (h : ¬ (k' = 14 ∧ i = gC G 14)) : gL (gAl G n k j s) k' i = gL G k' i := gL_new_n h
theorem gAl_P {G : qG} {n k j s : Nat} : gP (gAl G n k j s) k j s = some (gC G 14) := gsP_s
theorem gAl_Pn {G : qG} {n k j s k' i s' : Nat} (h : ¬ (k' = k ∧ i = j ∧ s' = s)) (h2 : ¬ (k' = 14 ∧ i = gC G 14)) : gP (gAl G n k j s) k' i s' = gP G k' i s' := (gsP_n h).trans (gP_new_n h2)
def z4 {α : Type} (f : Nat → Nat → Nat → α) (c : Nat) (z : α) : Nat → Nat → Nat → α := u2 (u2 (u2 (u2 f 14 c fun _ => z) 14 (c + 1) fun _ => z) 14 (c + 2) fun _ => z) 14 (c + 3) fun _ => z
theorem z4_n {α : Type} {f : Nat → Nat → Nat → α} {c : Nat} {z : α} {k i s : Nat} (h : ¬ (k = 14 ∧ c ≤ i)) : z4 f c z k i s = f k i s := by
  unfold z4
  rw [u2n (by omega), u2n (by omega), u2n (by omega), u2n (by omega)]
/-- as told, made -/
def gT (G : qG) (j : Nat) : qG := gAl (gAl (gAl (gAl G 7 8 j 3) 7 8 j 4) 7 8 j 5) 10 8 j 6
theorem X_new81 (G : qG) (I : qIm) (J : qJm) (j : Nat) : qcal 81 [qR 8 (some j)] (gm G I J) = some (gm (gT G j) (z4 (u3 (u3 (u3 I 8 j 0 0) 8 j 1 0) 8 j 2 0) (gC G 14) 0) (z4 J (gC G 14) 0), none) := by
  rw [c81]
  rfl
/-- a moment, made -/
def gMo (G : qG) (j : Nat) : qG := gAl (gAl (gAl (gAl G 7 1 j 0) 7 1 j 1) 7 1 j 2) 7 1 j 3
theorem X_new10 (G : qG) (I : qIm) (J : qJm) (j : Nat) : qcal 10 [qR 1 (some j)] (gm G I J) = some (gm (gMo G j) (u3 (u3 (u3 (z4 I (gC G 14) 0) 1 j 4 0) 1 j 5 0) 1 j 6 0) (z4 J (gC G 14) 0), none) := by
  rw [c10]
  rfl
/-- four rows more -/
theorem g4_C {G : qG} {n n' n'' n''' k k' k'' k''' j s s' s'' s''' : Nat} : gC (gAl (gAl (gAl (gAl G n k j s) n' k' j s') n'' k'' j s'') n''' k''' j s''') 14 = gC G 14 + 4 := by
  simp only [gAl_C]
theorem gT_C {G : qG} {j : Nat} : gC (gT G j) 14 = gC G 14 + 4 := g4_C
theorem gT_Cn {G : qG} {j k : Nat} (h : k ≠ 14) : gC (gT G j) k = gC G k := by
  unfold gT
  rw [gAl_Cn h, gAl_Cn h, gAl_Cn h, gAl_Cn h]
theorem gT_A {G : qG} {j : Nat} : (gT G j).1 = (G.1.1 + 4, G.1.2 + 31) := rfl
theorem gT_Ln {G : qG} {j k i : Nat} (h : ¬ (k = 14 ∧ gC G 14 ≤ i)) : gL (gT G j) k i = gL G k i := by
  unfold gT
  rw [gAl_Ln (by simp only [gAl_C]; omega), gAl_Ln (by simp only [gAl_C]; omega), gAl_Ln (by simp only [gAl_C]; omega), gAl_Ln (by omega)]
theorem gT_Pn {G : qG} {j k i s : Nat} (h : ¬ (k = 14 ∧ gC G 14 ≤ i)) (h8 : ¬ (k = 8 ∧ i = j)) : gP (gT G j) k i s = gP G k i s := by
  unfold gT
  rw [gAl_Pn (by omega) (by simp only [gAl_C]; omega), gAl_Pn (by omega) (by simp only [gAl_C]; omega), gAl_Pn (by omega) (by simp only [gAl_C]; omega), gAl_Pn (by omega) (by omega)]
theorem gT_told {G : qG} {j : Nat} : GTold (gT G j) j (gC G 14) := by
  unfold gT
  refine ⟨⟨?_, ?_, ?_, ?_⟩, ?_, ?_, ?_, ?_⟩
  · rw [gAl_Pn (by omega) (by omega), gAl_Pn (by omega) (by omega), gAl_Pn (by omega) (by omega), gAl_P]
  · rw [gAl_Pn (by omega) (by omega), gAl_Pn (by omega) (by omega), gAl_P, gAl_C]
  · rw [gAl_Pn (by omega) (by omega), gAl_P, gAl_C, gAl_C]
  · rw [gAl_P, gAl_C, gAl_C, gAl_C]
  · rw [gAl_Ln (by simp only [gAl_C]; omega), gAl_Ln (by simp only [gAl_C]; omega), gAl_Ln (by simp only [gAl_C]; omega), gAl_L rfl]
  · rw [gAl_Ln (by simp only [gAl_C]; omega), gAl_Ln (by simp only [gAl_C]; omega), gAl_L gAl_C.symm]
  · rw [gAl_Ln (by simp only [gAl_C]; omega), gAl_L (by simp only [gAl_C])]
  · rw [gAl_L (by simp only [gAl_C])]
theorem gMo_C {G : qG} {j : Nat} : gC (gMo G j) 14 = gC G 14 + 4 := g4_C
theorem gMo_Cn {G : qG} {j k : Nat} (h : k ≠ 14) : gC (gMo G j) k = gC G k := by
  unfold gMo
  rw [gAl_Cn h, gAl_Cn h, gAl_Cn h, gAl_Cn h]
theorem gMo_Ln {G : qG} {j k i : Nat} (h : ¬ (k = 14 ∧ gC G 14 ≤ i)) : gL (gMo G j) k i = gL G k i := by
  unfold gMo
  rw [gAl_Ln (by simp only [gAl_C]; omega), gAl_Ln (by simp only [gAl_C]; omega), gAl_Ln (by simp only [gAl_C]; omega), gAl_Ln (by omega)]
theorem gMo_Pn {G : qG} {j k i s : Nat} (h : ¬ (k = 14 ∧ gC G 14 ≤ i)) (h8 : ¬ (k = 1 ∧ i = j)) : gP (gMo G j) k i s = gP G k i s := by
  unfold gMo
  rw [gAl_Pn (by omega) (by simp only [gAl_C]; omega), gAl_Pn (by omega) (by simp only [gAl_C]; omega), gAl_Pn (by omega) (by simp only [gAl_C]; omega), gAl_Pn (by omega) (by omega)]
theorem gMo_mom {G : qG} {j : Nat} : GMom (gMo G j) j (gC G 14) := by
  unfold gMo
  refine ⟨⟨?_, ?_, ?_, ?_⟩, ?_, ?_, ?_, ?_⟩
  · rw [gAl_Pn (by omega) (by omega), gAl_Pn (by omega) (by omega), gAl_Pn (by omega) (by omega), gAl_P]
  · rw [gAl_Pn (by omega) (by omega), gAl_Pn (by omega) (by omega), gAl_P, gAl_C]
  · rw [gAl_Pn (by omega) (by omega), gAl_P, gAl_C, gAl_C]
  · rw [gAl_P, gAl_C, gAl_C, gAl_C]
  · rw [gAl_Ln (by simp only [gAl_C]; omega), gAl_Ln (by simp only [gAl_C]; omega), gAl_Ln (by simp only [gAl_C]; omega), gAl_L rfl]
  · rw [gAl_Ln (by simp only [gAl_C]; omega), gAl_Ln (by simp only [gAl_C]; omega), gAl_L gAl_C.symm]
  · rw [gAl_Ln (by simp only [gAl_C]; omega), gAl_L (by simp only [gAl_C])]
  · rw [gAl_L (by simp only [gAl_C])]
/-- a STATE, made -/
def gS1 (G : qG) (b : Nat) : qG := gsP (gT (gNew G 8 7) (gC G 8)) 6 b 0 (some (gC G 8))
def gS2 (G : qG) (b j : Nat) : qG := gsP (gMo (gNew G 1 7) j) 6 b 1 (some j)
def gS3 (G : qG) (b : Nat) : qG := gAl (gAl (gAl G 620 6 b 2) 10 6 b 5) 10 6 b 6
def gS (G : qG) (b : Nat) : qG := gS3 (gS2 (gS1 G b) b (gC G 1)) b
theorem X_new66 (G : qG) (I : qIm) (J : qJm) (b : Nat) : ∃ I' J', qcal 66 [qR 6 (some b)] (gm G I J) = some (gm (gS G b) I' J', none) ∧ ∀ k i s, ¬ (k = 14 ∧ gC G 14 ≤ i ∨ k = 8 ∧ i = gC G 8 ∨ k = 1 ∧ i = gC G 1 ∨ k = 6 ∧ i = b) → I' k i s = I k i s := by
  let I1 : qIm := z4 (u3 (u3 (u3 (u2 I 8 (gC G 8) fun _ => 0) 8 (gC G 8) 0 0) 8 (gC G 8) 1 0) 8 (gC G 8) 2 0) (gC G 14) 0
  let I2 : qIm := u3 (u3 (u3 (z4 (u2 I1 1 (gC G 1) fun _ => 0) (gC G 14 + 4) 0) 1 (gC G 1) 4 0) 1 (gC G 1) 5 0) 1 (gC G 1) 6 0
  let I3 : qIm := u3 (u3 (u2 I2 14 (gC G 14 + 8) fun _ => 0) 6 b 3 0) 6 b 4 0
  let I4 : qIm := u3 (u3 (u3 (u2 (u2 I3 14 (gC G 14 + 9) fun _ => 0) 14 (gC G 14 + 10) fun _ => 0) 6 b 7 0) 6 b 8 (-1)) 6 b 9 0
  let J1 : qJm := z4 (u2 J 8 (gC G 8) fun _ => 0) (gC G 14) 0
  let J2 : qJm := z4 (u2 J1 1 (gC G 1) fun _ => 0) (gC G 14 + 4) 0
  let J3 : qJm := u2 (u2 (u2 J2 14 (gC G 14 + 8) fun _ => 0) 14 (gC G 14 + 9) fun _ => 0) 14 (gC G 14 + 10) fun _ => 0
  refine ⟨I4, J3, ?_, fun k i s hn => ?_⟩
  · have e1 := X_new81 (gNew G 8 7) (u2 I 8 (gC G 8) fun _ => 0) (u2 J 8 (gC G 8) fun _ => 0) (gC G 8)
    have e2 := X_new10 (gNew (gS1 G b) 1 7) (u2 I1 1 (gC G 1) fun _ => 0) (u2 J1 1 (gC G 1) fun _ => 0) (gC G 1)
    rw [c66, qlet_eq]
    refine (congrArg (fun o => qbV o _) e1).trans ?_
    rw [qbV_some, qlet_eq, qlet_eq]
    refine (congrArg (fun o => qbV o _) e2).trans ?_
    rw [qbV_some]
    simp only [qlet_eq]
    rfl
  · show u3 (u3 (u3 (u2 (u2 (u3 (u3 (u2 (u3 (u3 (u3 (z4 (u2 (z4 (u3 (u3 (u3 (u2 I 8 (gC G 8) fun _ => 0) 8 (gC G 8) 0 0) 8 (gC G 8) 1 0) 8 (gC G 8) 2 0) (gC G 14) 0) 1 (gC G 1) fun _ => 0) (gC G 14 + 4) 0) 1 (gC G 1) 4 0) 1 (gC G 1) 5 0) 1 (gC G 1) 6 0) 14 (gC G 14 + 8) fun _ => 0) 6 b 3 0) 6 b 4 0) 14 (gC G 14 + 9) fun _ => 0) 14 (gC G 14 + 10) fun _ => 0) 6 b 7 0) 6 b 8 (-1)) 6 b 9 0 k i s = I k i s
    rw [u3n (by omega), u3n (by omega), u3n (by omega), u2n (by omega), u2n (by omega), u3n (by omega), u3n (by omega), u2n (by omega), u3n (by omega), u3n (by omega), u3n (by omega), z4_n (by omega), u2n (by omega), z4_n (by omega), u3n (by omega), u3n (by omega), u3n (by omega), u2n (by omega)]
