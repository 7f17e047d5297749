/-! what stands at the beginning; the class -/
def Zq (I I' : qIm) : Prop := ∀ k j s, ¬ (k = 7 ∧ s = 3) → (k = 6 → I' k j s = I k j s) ∧ (I' k j s = 0 ∨ I' k j s = I k j s)
theorem Zq.refl (I : qIm) : Zq I I := fun _ _ _ _ => ⟨fun _ => rfl, Or.inr rfl⟩
theorem Zq.trans {I I' I'' : qIm} (h : Zq I I') (h' : Zq I' I'') : Zq I I'' := fun k j s hk => ⟨fun e => ((h' k j s hk).1 e).trans ((h k j s hk).1 e), by
  rcases (h' k j s hk).2 with w | w
  · exact Or.inl w
  · rw [w]; exact (h k j s hk).2⟩
theorem Zq.a2 {I I' : qIm} (h : Zq I I') {k j : Nat} (hk : k ≠ 6) : Zq I (u2 I' k j fun _ => 0) := h.trans fun k' j' s' _ => by
  by_cases c : k' = k ∧ j' = j
  · exact ⟨fun e => absurd (c.1.symm.trans e) hk, Or.inl (by rw [c.1, c.2]; exact u2_eq)⟩
  · exact ⟨fun _ => u2n c, Or.inr (u2n c)⟩
theorem Zq.a3 {I I' : qIm} (h : Zq I I') {k j s : Nat} (hk : k ≠ 6) : Zq I (u3 I' k j s 0) := h.trans fun k' j' s' _ => by
  by_cases c : k' = k ∧ j' = j ∧ s' = s
  · exact ⟨fun e => absurd (c.1.symm.trans e) hk, Or.inl (by rw [c.1, c.2.1, c.2.2]; exact u3_eq)⟩
  · exact ⟨fun _ => u3n c, Or.inr (u3n c)⟩
theorem Zq.a7 {I I' : qIm} (h : Zq I I') {j : Nat} {v : Int32} : Zq I (u3 I' 7 j 3 v) := h.trans fun k' j' s' hk => ⟨fun _ => u3n (by omega), Or.inr (u3n (by omega))⟩
theorem Zq.a4 {I I' : qIm} (h : Zq I I') (c : Nat) : Zq I (z4 I' c 0) := (((h.a2 (k := 14) (j := c) (by decide)).a2 (k := 14) (j := c + 1) (by decide)).a2 (k := 14) (j := c + 2) (by decide)).a2 (k := 14) (j := c + 3) (by decide)
theorem Zq.as {I I' : qIm} (h : Zq I I') (kk b : Nat) (l : List (Nat × (Nat × Nat))) (hl : ∀ x ∈ l, x.1 ≠ 6) (G : qG) : Zq I (uAs 0 kk b l G I') := h.trans fun k j s _ => ⟨fun e => uAs_old l G I' k j s (Or.inr fun x hx w => hl x hx (w.trans e)), uAs_z l G I' k j s⟩
theorem X_m81 (G : qG) (I : qIm) (J : qJm) (j : Nat) : ∃ I' J', qcal 81 [qR 8 (some j)] (gm G I J) = some (gm (gT G j) I' J', none) ∧ Zq I I' :=
  ⟨_, _, X_new81 G I J j, ((((Zq.refl I).a3 (by decide)).a3 (by decide)).a3 (by decide)).a4 _⟩
theorem X_m10 (G : qG) (I : qIm) (J : qJm) (j : Nat) : ∃ I' J', qcal 10 [qR 1 (some j)] (gm G I J) = some (gm (gMo G j) I' J', none) ∧ Zq I I' :=
  ⟨_, _, X_new10 G I J j, ((((Zq.refl I).a4 _).a3 (by decide)).a3 (by decide)).a3 (by decide)⟩
theorem X_m71 (G : qG) (I : qIm) (J : qJm) (b : Nat) : ∃ I' J', qcal 71 [qR 7 (some b)] (gm G I J) = some (gm (gAk G 13 400 7 b 0) I' J', none) ∧ Zq I I' := by
  refine ⟨u3 (u3 (u3 (u3 (u3 (u3 (u2 I 13 (gC G 13) fun _ => 0) 7 b 1 0) 7 b 2 0) 7 b 3 (-1)) 7 b 4 0) 7 b 5 0) 7 b 6 0, u2 J 13 (gC G 13) fun _ => 0, ?_, (((((((Zq.refl I).a2 (by decide)).a3 (by decide)).a3 (by decide)).a7).a3 (by decide)).a3 (by decide)).a3 (by decide)⟩
  rw [c71]
  rfl
def g84 (G : qG) (b : Nat) : qG := gsP (gT (gNew G 8 7) (gC G 8)) 9 b 0 (some (gC G 8))
theorem X_m84 (G : qG) (I : qIm) (J : qJm) (b : Nat) : ∃ I' J', qcal 84 [qR 9 (some b)] (gm G I J) = some (gm (g84 G b) I' J', none) ∧ Zq I I' := by
  obtain ⟨I1, J1, e1, z1⟩ := X_m81 (gNew G 8 7) (u2 I 8 (gC G 8) fun _ => 0) (u2 J 8 (gC G 8) fun _ => 0) (gC G 8)
  refine ⟨u3 I1 9 b 1 0, J1, ?_, (((Zq.refl I).a2 (by decide)).trans z1).a3 (by decide)⟩
  rw [c84, qlet_eq]
  refine (congrArg (fun o => qbV o _) e1).trans ?_
  rw [qbV_some]
  rfl
def l46 : List (Nat × (Nat × Nat)) := [(14, 412, 0), (14, 64, 1)]
theorem X_m46 (G : qG) (I : qIm) (J : qJm) (b : Nat) : ∃ I' J', qcal 46 [qR 5 (some b)] (gm G I J) = some (gm (gAs 5 b l46 G) I' J', none) ∧ Zq I I' := by
  refine ⟨u3 (u3 (u3 (u3 (u3 (u3 (u3 (uAs 0 5 b l46 G I) 5 b 2 0) 5 b 3 0) 5 b 4 0) 5 b 5 0) 5 b 6 0) 5 b 7 0) 5 b 8 0, uAs 0 5 b l46 G J, ?_, (((((((((Zq.refl I).as 5 b l46 (by decide) G).a3 (by decide)).a3 (by decide)).a3 (by decide)).a3 (by decide)).a3 (by decide)).a3 (by decide)).a3 (by decide))⟩
  rw [c46]
  rfl
def gO8 (G : qG) (kk b s : Nat) : qG := gsP (gT (gNew G 8 7) (gC G 8)) kk b s (some (gC G 8))
def gO1 (G : qG) (kk b s : Nat) : qG := gsP (gMo (gNew G 1 7) (gC G 1)) kk b s (some (gC G 1))
def l90 : List (Nat × (Nat × Nat)) := [(15, 10, 0)]
def g90 (G : qG) (b : Nat) : qG := gsP (gO1 (gO8 (gAs 10 b l90 G) 10 b 1) 10 b 2) 10 b 3 none
theorem X_m90 (G : qG) (I : qIm) (J : qJm) (b : Nat) : ∃ I' J', qcal 90 [qR 10 (some b)] (gm G I J) = some (gm (g90 G b) I' J', none) ∧ Zq I I' := by
  obtain ⟨I1, J1, e1, z1⟩ := X_m81 (gNew (gAs 10 b l90 G) 8 7) (u2 (uAs 0 10 b l90 G I) 8 (gC (gAs 10 b l90 G) 8) fun _ => 0) (u2 (uAs 0 10 b l90 G J) 8 (gC (gAs 10 b l90 G) 8) fun _ => 0) (gC (gAs 10 b l90 G) 8)
  obtain ⟨I2, J2, e2, z2⟩ := X_m10 (gNew (gO8 (gAs 10 b l90 G) 10 b 1) 1 7) (u2 I1 1 (gC (gO8 (gAs 10 b l90 G) 10 b 1) 1) fun _ => 0) (u2 J1 1 (gC (gO8 (gAs 10 b l90 G) 10 b 1) 1) fun _ => 0) (gC (gO8 (gAs 10 b l90 G) 10 b 1) 1)
  refine ⟨I2, J2, ?_, (((((Zq.refl I).as 10 b l90 (by decide) G).a2 (by decide)).trans z1).a2 (by decide)).trans z2⟩
  rw [c90, qlet_eq, qlet_eq, qlet_eq]
  refine (congrArg (fun o => qbV o _) e1).trans ?_
  rw [qbV_some, qlet_eq, qlet_eq]
  refine (congrArg (fun o => qbV o _) e2).trans ?_
  rw [qbV_some]
  rfl
def l26 : List (Nat × (Nat × Nat)) := [(14, 128, 0), (15, 128, 1), (15, 7, 2), (14, 7, 3)]
theorem X_m26 (G : qG) (I : qIm) (J : qJm) (b : Nat) : ∃ I' J', qcal 26 [qR 3 (some b)] (gm G I J) = some (gm (gAs 3 b l26 G) I' J', none) ∧ Zq I I' := by
  refine ⟨uAs 0 3 b l26 G I, uAs 0 3 b l26 G J, ?_, (Zq.refl I).as 3 b l26 (by decide) G⟩
  rw [c26]
  rfl
def gO10 (G : qG) (kk b s : Nat) : qG := gsP (g90 (gNew G 10 4) (gC G 10)) kk b s (some (gC G 10))
def l0 : List (Nat × (Nat × Nat)) := [(14, 7, 2), (15, 61, 3), (14, 61, 4)]
def g0 (G : qG) (b : Nat) : qG := gAs 0 b l0 (gO1 (gO10 G 0 b 0) 0 b 1)
theorem X_m0 (G : qG) (I : qIm) (J : qJm) (b : Nat) : ∃ I' J', qcal 0 [qR 0 (some b)] (gm G I J) = some (gm (g0 G b) I' J', none) ∧ Zq I I' := by
  obtain ⟨I1, J1, e1, z1⟩ := X_m90 (gNew G 10 4) (u2 I 10 (gC G 10) fun _ => 0) (u2 J 10 (gC G 10) fun _ => 0) (gC G 10)
  obtain ⟨I2, J2, e2, z2⟩ := X_m10 (gNew (gO10 G 0 b 0) 1 7) (u2 I1 1 (gC (gO10 G 0 b 0) 1) fun _ => 0) (u2 J1 1 (gC (gO10 G 0 b 0) 1) fun _ => 0) (gC (gO10 G 0 b 0) 1)
  refine ⟨u3 (u3 (u3 (uAs 0 0 b l0 (gO1 (gO10 G 0 b 0) 0 b 1) I2) 0 b 5 0) 0 b 6 0) 0 b 7 0, uAs 0 0 b l0 (gO1 (gO10 G 0 b 0) 0 b 1) J2, ?_, ((((((((Zq.refl I).a2 (by decide)).trans z1).a2 (by decide)).trans z2).as 0 b l0 (by decide) _).a3 (by decide)).a3 (by decide)).a3 (by decide)⟩
  rw [c0, qlet_eq]
  refine (congrArg (fun o => qbV o _) e1).trans ?_
  rw [qbV_some, qlet_eq, qlet_eq]
  refine (congrArg (fun o => qbV o _) e2).trans ?_
  rw [qbV_some]
  rfl
def l19 : List (Nat × (Nat × Nat)) := [(14, 61, 3), (14, 61, 4), (14, 427, 5)]
def g19 (G : qG) (b : Nat) : qG := gAs 2 b l19 (gO8 (gO1 (gO10 G 2 b 0) 2 b 1) 2 b 2)
theorem X_m19 (G : qG) (I : qIm) (J : qJm) (b : Nat) : ∃ I' J', qcal 19 [qR 2 (some b)] (gm G I J) = some (gm (g19 G b) I' J', none) ∧ Zq I I' := by
  obtain ⟨I1, J1, e1, z1⟩ := X_m90 (gNew G 10 4) (u2 I 10 (gC G 10) fun _ => 0) (u2 J 10 (gC G 10) fun _ => 0) (gC G 10)
  obtain ⟨I2, J2, e2, z2⟩ := X_m10 (gNew (gO10 G 2 b 0) 1 7) (u2 I1 1 (gC (gO10 G 2 b 0) 1) fun _ => 0) (u2 J1 1 (gC (gO10 G 2 b 0) 1) fun _ => 0) (gC (gO10 G 2 b 0) 1)
  obtain ⟨I3, J3, e3, z3⟩ := X_m81 (gNew (gO1 (gO10 G 2 b 0) 2 b 1) 8 7) (u2 I2 8 (gC (gO1 (gO10 G 2 b 0) 2 b 1) 8) fun _ => 0) (u2 J2 8 (gC (gO1 (gO10 G 2 b 0) 2 b 1) 8) fun _ => 0) (gC (gO1 (gO10 G 2 b 0) 2 b 1) 8)
  refine ⟨u3 (uAs 0 2 b l19 (gO8 (gO1 (gO10 G 2 b 0) 2 b 1) 2 b 2) I3) 2 b 6 0, uAs 0 2 b l19 (gO8 (gO1 (gO10 G 2 b 0) 2 b 1) 2 b 2) J3, ?_, ((((((((Zq.refl I).a2 (by decide)).trans z1).a2 (by decide)).trans z2).a2 (by decide)).trans z3).as 2 b l19 (by decide) _).a3 (by decide)⟩
  rw [c19, qlet_eq]
  refine (congrArg (fun o => qbV o _) e1).trans ?_
  rw [qbV_some, qlet_eq, qlet_eq]
  refine (congrArg (fun o => qbV o _) e2).trans ?_
  rw [qbV_some, qlet_eq, qlet_eq]
  refine (congrArg (fun o => qbV o _) e3).trans ?_
  rw [qbV_some]
  rfl
def l66 : List (Nat × (Nat × Nat)) := [(14, 620, 2)]
def l66b : List (Nat × (Nat × Nat)) := [(14, 10, 5), (14, 10, 6)]
def g66 (G : qG) (b : Nat) : qG := gAs 6 b l66b (gAs 6 b l66 (gO1 (gO8 G 6 b 0) 6 b 1))
theorem X_m66 (G : qG) (I : qIm) (J : qJm) (b : Nat) : ∃ I' J', qcal 66 [qR 6 (some b)] (gm G I J) = some (gm (g66 G b) I' J', none) ∧ I' 6 b 8 = -1 ∧ ∀ k j s, ¬ (k = 7 ∧ s = 3) → ¬ (k = 6 ∧ j = b ∧ s = 8) → I' k j s = 0 ∨ I' k j s = I k j s := by
  obtain ⟨I1, J1, e1, z1⟩ := X_m81 (gNew G 8 7) (u2 I 8 (gC G 8) fun _ => 0) (u2 J 8 (gC G 8) fun _ => 0) (gC G 8)
  obtain ⟨I2, J2, e2, z2⟩ := X_m10 (gNew (gO8 G 6 b 0) 1 7) (u2 I1 1 (gC (gO8 G 6 b 0) 1) fun _ => 0) (u2 J1 1 (gC (gO8 G 6 b 0) 1) fun _ => 0) (gC (gO8 G 6 b 0) 1)
  refine ⟨u3 (u3 (u3 (uAs 0 6 b l66b (gAs 6 b l66 (gO1 (gO8 G 6 b 0) 6 b 1)) (u3 (u3 (uAs 0 6 b l66 (gO1 (gO8 G 6 b 0) 6 b 1) I2) 6 b 3 0) 6 b 4 0)) 6 b 7 0) 6 b 8 (-1)) 6 b 9 0, uAs 0 6 b l66b (gAs 6 b l66 (gO1 (gO8 G 6 b 0) 6 b 1)) (uAs 0 6 b l66 (gO1 (gO8 G 6 b 0) 6 b 1) J2), ?_, ?_, fun k j s h1 h2 => ?_⟩
  · rw [c66, qlet_eq]
    refine (congrArg (fun o => qbV o _) e1).trans ?_
    rw [qbV_some, qlet_eq, qlet_eq]
    refine (congrArg (fun o => qbV o _) e2).trans ?_
    rw [qbV_some]
    rfl
  · rw [u3n (by omega)]
    exact u3_eq
  · have st : ∀ (f : qIm) k' j' s', (f k j s = 0 ∨ f k j s = I k j s) → (u3 f k' j' s' 0 k j s = 0 ∨ u3 f k' j' s' 0 k j s = I k j s) := fun f k' j' s' hf => by
      by_cases c : k = k' ∧ j = j' ∧ s = s'
      · obtain ⟨rfl, rfl, rfl⟩ := c
        exact Or.inl u3_eq
      · rw [u3n c]; exact hf
    have sa : ∀ (l : List (Nat × (Nat × Nat))) (G' : qG) (f : qIm), (f k j s = 0 ∨ f k j s = I k j s) → (uAs 0 6 b l G' f k j s = 0 ∨ uAs 0 6 b l G' f k j s = I k j s) := fun l G' f hf => by
      rcases uAs_z (z := (0 : Int32)) (kk := 6) (b := b) l G' f k j s with w | w
      · exact Or.inl w
      · rw [w]; exact hf
    refine st _ _ _ _ ?_
    rw [u3n h2]
    refine st _ _ _ _ (sa _ _ _ (st _ _ _ _ (st _ _ _ _ (sa _ _ _ ?_))))
    exact ((((((Zq.refl I).a2 (by decide)).trans z1).a2 (by decide)).trans z2) k j s h1).2
