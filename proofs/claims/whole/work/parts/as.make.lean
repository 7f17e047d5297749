/-! what stands at the beginning; the class, whole -/
def gOb (F : qG → Nat → qG) (G : qG) (k n s : Nat) : qG := gsP (F (gNew G k n) (gC G k)) 11 0 s (some (gC G k))
def vX0 : qG := gNew vGE 11 (qnf 11)
def vA1 : qG := gOb (fun G b => gAk G 13 400 7 b 0) vX0 7 7 0
def vA2 : qG := gOb g84 vA1 9 2 1
def vA3 : qG := gOb (fun G b => gAs 5 b l46 G) vA2 5 9 2
def vA4 : qG := gAk vA3 17 6 11 0 3
def vA5 : qG := gOb g66 vA4 6 10 5
def vA6 : qG := gAk vA5 18 4 11 0 6
def vA7 : qG := gOb g90 vA6 10 4 7
def vA8 : qG := gOb (fun G b => gAs 3 b l26 G) vA7 3 4 8
def vA9 : qG := gOb g0 vA8 0 8 9
def vX2 : qG := gOb g19 vA9 2 7 10
theorem vA4_6 : gC vA4 6 = 0 := by decide +kernel
set_option maxRecDepth 100000 in
theorem X_97 : ∃ I J, qcal 97 [qR 11 (some 0)] (gm vX0 iZ jZ) = some (gm vX2 I J, none) ∧ I 6 0 8 = -1 ∧ ∀ k j s, ¬ (k = 7 ∧ s = 3) → ¬ (k = 6 ∧ j = 0 ∧ s = 8) → I k j s = 0 := by
  obtain ⟨I1, J1, e1, z1⟩ := X_m71 (gNew vX0 7 7) (u2 iZ 7 (gC vX0 7) fun _ => 0) (u2 jZ 7 (gC vX0 7) fun _ => 0) (gC vX0 7)
  obtain ⟨I2, J2, e2, z2⟩ := X_m84 (gNew vA1 9 2) (u2 I1 9 (gC vA1 9) fun _ => 0) (u2 J1 9 (gC vA1 9) fun _ => 0) (gC vA1 9)
  obtain ⟨I3, J3, e3, z3⟩ := X_m46 (gNew vA2 5 9) (u2 I2 5 (gC vA2 5) fun _ => 0) (u2 J2 5 (gC vA2 5) fun _ => 0) (gC vA2 5)
  obtain ⟨I4, J4, e4, h4, z4⟩ := X_m66 (gNew vA4 6 10) (u2 (u3 (u2 I3 17 (gC vA3 17) fun _ => 0) 11 0 4 0) 6 (gC vA4 6) fun _ => 0) (u2 (u2 J3 17 (gC vA3 17) fun _ => 0) 6 (gC vA4 6) fun _ => 0) (gC vA4 6)
  obtain ⟨I5, J5, e5, z5⟩ := X_m90 (gNew vA6 10 4) (u2 (u2 I4 18 (gC vA5 18) fun _ => 0) 10 (gC vA6 10) fun _ => 0) (u2 (u2 J4 18 (gC vA5 18) fun _ => 0) 10 (gC vA6 10) fun _ => 0) (gC vA6 10)
  obtain ⟨I6, J6, e6, z6⟩ := X_m26 (gNew vA7 3 4) (u2 I5 3 (gC vA7 3) fun _ => 0) (u2 J5 3 (gC vA7 3) fun _ => 0) (gC vA7 3)
  obtain ⟨I7, J7, e7, z7⟩ := X_m0 (gNew vA8 0 8) (u2 I6 0 (gC vA8 0) fun _ => 0) (u2 J6 0 (gC vA8 0) fun _ => 0) (gC vA8 0)
  obtain ⟨I8, J8, e8, z8⟩ := X_m19 (gNew vA9 2 7) (u2 I7 2 (gC vA9 2) fun _ => 0) (u2 J7 2 (gC vA9 2) fun _ => 0) (gC vA9 2)
  have za : Zq iZ (u3 (u2 I3 17 (gC vA3 17) fun _ => 0) 11 0 4 0) := ((((((((Zq.refl iZ).a2 (by decide)).trans z1).a2 (by decide)).trans z2).a2 (by decide)).trans z3).a2 (by decide)).a3 (by decide)
  have zb : Zq I4 I8 := (((((((((Zq.refl I4).a2 (k := 18) (j := gC vA5 18) (by decide)).a2 (k := 10) (j := gC vA6 10) (by decide)).trans z5).a2 (k := 3) (j := gC vA7 3) (by decide)).trans z6).a2 (k := 0) (j := gC vA8 0) (by decide)).trans z7).a2 (k := 2) (j := gC vA9 2) (by decide)).trans z8
  rw [vA4_6] at h4 z4
  refine ⟨I8, J8, ?_, ((zb 6 0 8 (by omega)).1 rfl).trans h4, fun k j s n1 n2 => ?_⟩
  · rw [c97, qlet_eq]
    refine (congrArg (fun o => qbV o _) e1).trans ?_
    rw [qbV_some, qlet_eq, qlet_eq]
    refine (congrArg (fun o => qbV o _) e2).trans ?_
    rw [qbV_some, qlet_eq, qlet_eq]
    refine (congrArg (fun o => qbV o _) e3).trans ?_
    rw [qbV_some, qlet_eq, qlet_eq, qlet_eq, qlet_eq, qlet_eq]
    refine (congrArg (fun o => qbV o _) e4).trans ?_
    rw [qbV_some, qlet_eq, qlet_eq, qlet_eq, qlet_eq]
    refine (congrArg (fun o => qbV o _) e5).trans ?_
    rw [qbV_some, qlet_eq, qlet_eq]
    refine (congrArg (fun o => qbV o _) e6).trans ?_
    rw [qbV_some, qlet_eq, qlet_eq]
    refine (congrArg (fun o => qbV o _) e7).trans ?_
    rw [qbV_some, qlet_eq, qlet_eq]
    refine (congrArg (fun o => qbV o _) e8).trans ?_
    rw [qbV_some]
    rfl
  · rcases (zb k j s n1).2 with w | w
    · exact w
    · rw [w]
      rcases z4 k j s n1 n2 with w | w
      · exact w
      · rw [w]
        by_cases c : k = 6 ∧ j = 0
        · rw [c.1, c.2]; exact u2_eq
        · rw [u2n c]
          rcases (za k j s n1).2 with w | w
          · exact w
          · exact w
theorem vX2_geo : XGeo vX2 := by
  refine ⟨fun x hx => ?_, fun x hx => ?_⟩
  · have h : (xgP.all fun x => decide (gP vX2 x.1 x.2.1 x.2.2.1 = some x.2.2.2)) = true := by decide +kernel
    exact of_decide_eq_true (List.all_eq_true.mp h x hx)
  · have h : (xgL.all fun x => decide (gL vX2 x.1 x.2.1 = x.2.2)) = true := by decide +kernel
    exact of_decide_eq_true (List.all_eq_true.mp h x hx)
theorem vX2_im : gP vX2 18 0 0 = none ∧ gP vX2 18 0 1 = none ∧ gP vX2 18 0 2 = none ∧ gP vX2 18 0 3 = none := by decide +kernel
theorem vX2_c : 60 ≤ gC vX2 14 ∧ 6 ≤ gC vX2 15 ∧ 1 ≤ gC vX2 6 ∧ 6 ≤ gC vX2 8 ∧ 6 ≤ gC vX2 1 ∧ gC vX2 4 = 0 := by decide +kernel
def A0 : Ad := ((fun _ => (0, 0)), fun _ => (0, (0, (0, 0))))
theorem XSa_0 {I : qIm} (h8 : I 6 0 8 = -1) (hz : ∀ k j s, ¬ (k = 7 ∧ s = 3) → ¬ (k = 6 ∧ j = 0 ∧ s = 8) → I k j s = 0) : XSa A0 w0 vX2 I := by
  have z : ∀ k j s, ¬ (k = 7 ∧ s = 3) → ¬ (k = 6 ∧ j = 0 ∧ s = 8) → I k j s = nI 0 := hz
  obtain ⟨c1, c2, c3, c4, c5, c6⟩ := vX2_c
  obtain ⟨m0, m1, m2, m3⟩ := vX2_im
  have zr : ∀ j s, I 14 j s = nI 0 := fun j s => z _ _ _ (by omega) (by omega)
  refine ⟨vX2_geo, ⟨⟨⟨z _ _ _ (by omega) (by omega), z _ _ _ (by omega) (by omega), z _ _ _ (by omega) (by omega)⟩, fun s _ => zr _ s, fun s _ => zr _ s, fun s _ => zr _ s, fun s _ => zr _ s⟩, ⟨⟨fun s _ => zr _ s, fun s _ => zr _ s, fun s _ => zr _ s, fun s _ => zr _ s⟩, z _ _ _ (by omega) (by omega), z _ _ _ (by omega) (by omega), z _ _ _ (by omega) (by omega)⟩, ⟨z _ _ _ (by omega) (by omega), 0, by decide, z _ _ _ (by omega) (by omega), fun i hi => absurd hi (Nat.not_lt_zero i)⟩, ⟨z _ _ _ (by omega) (by omega), fun i hi => absurd hi (Nat.not_lt_zero i)⟩, h8, z _ _ _ (by omega) (by omega)⟩, z _ _ _ (by omega) (by omega), fun i hi => absurd hi (Nat.not_lt_zero i), z _ _ _ (by omega) (by omega), fun s _ => z _ _ _ (by omega) (by omega), fun k hk => Or.inl ⟨rfl, ?_⟩, fun i k hi => absurd hi (Nat.not_lt_zero i), fun k k' _ _ _ hg => absurd rfl hg, c1, c2, c3, c4, c5, c6, fun i hi => absurd hi (Nat.not_lt_zero i)⟩
  have : k = 0 ∨ k = 1 ∨ k = 2 ∨ k = 3 := by omega
  rcases this with rfl | rfl | rfl | rfl
  · exact m0
  · exact m1
  · exact m2
  · exact m3
