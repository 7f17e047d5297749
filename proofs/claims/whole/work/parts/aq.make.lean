/-! what stands at the beginning -/
def gAk (G : qG) (k n kk b s : Nat) : qG := gsP (gNew G k n) kk b s (some (gC G k))
def gAs (kk b : Nat) : List (Nat × (Nat × Nat)) → qG → qG
  | [], G => G
  | x :: r, G => gAs kk b r (gAk G x.1 x.2.1 kk b x.2.2)
def uAs {α : Type} (z : α) (kk b : Nat) : List (Nat × (Nat × Nat)) → qG → (Nat → Nat → Nat → α) → (Nat → Nat → Nat → α)
  | [], _, f => f
  | x :: r, G, f => uAs z kk b r (gAk G x.1 x.2.1 kk b x.2.2) (u2 f x.1 (gC G x.1) fun _ => z)
theorem uAs_z {α : Type} {z : α} {kk b : Nat} : ∀ (l : List (Nat × (Nat × Nat))) (G : qG) (f : Nat → Nat → Nat → α) (k j s : Nat), uAs z kk b l G f k j s = z ∨ uAs z kk b l G f k j s = f k j s
  | [], _, _, _, _, _ => Or.inr rfl
  | x :: r, G, f, k, j, s => by
    rcases uAs_z r (gAk G x.1 x.2.1 kk b x.2.2) (u2 f x.1 (gC G x.1) fun _ => z) k j s with h | h
    · exact Or.inl h
    · by_cases c : k = x.1 ∧ j = gC G x.1
      · refine Or.inl (h.trans ?_)
        rw [c.1, c.2]
        exact u2_eq
      · exact Or.inr (h.trans (u2n c))
theorem gAk_C {G : qG} {k n kk b s k' : Nat} : gC G k' ≤ gC (gAk G k n kk b s) k' := by
  show gC G k' ≤ gC (gNew G k n) k'
  by_cases c : k' = k
  · subst c
    rw [gC_new_s]
    omega
  · rw [gC_new_n c]
    exact Nat.le_refl _
theorem uAs_old {α : Type} {z : α} {kk b : Nat} : ∀ (l : List (Nat × (Nat × Nat))) (G : qG) (f : Nat → Nat → Nat → α) (k j s : Nat), (j < gC G k ∨ ∀ x ∈ l, x.1 ≠ k) → uAs z kk b l G f k j s = f k j s
  | [], _, _, _, _, _, _ => rfl
  | x :: r, G, f, k, j, s, h => by
    refine (uAs_old r (gAk G x.1 x.2.1 kk b x.2.2) (u2 f x.1 (gC G x.1) fun _ => z) k j s ?_).trans (u2n ?_)
    · rcases h with h | h
      · exact Or.inl (Nat.lt_of_lt_of_le h gAk_C)
      · exact Or.inr fun y hy => h y (List.mem_cons_of_mem _ hy)
    · rcases h with h | h
      · rintro ⟨rfl, rfl⟩
        exact Nat.lt_irrefl _ h
      · rintro ⟨e, -⟩
        exact h x List.mem_cons_self e.symm
/-! the reference -/
def l51 : List (Nat × (Nat × Nat)) := [(14, 7, 2), (14, 7, 3), (14, 7, 4), (14, 7, 5), (14, 10, 6), (14, 10, 7)]
def l99 : List (Nat × (Nat × Nat)) := [(14, 10, 8), (14, 7, 9), (14, 7, 10), (14, 7, 11), (14, 10, 12), (14, 3, 13)]
def l146 : List (Nat × (Nat × Nat)) := [(14, 7, 14), (14, 7, 15), (14, 7, 16), (14, 10, 17)]
def l146b : List (Nat × (Nat × Nat)) := [(13, 400, 28), (14, 1800, 29)]
def l202 : List (Nat × (Nat × Nat)) := [(14, 1800, 30), (14, 6, 31), (14, 72, 32), (14, 72, 33), (14, 72, 34), (14, 402, 35)]
def l252 : List (Nat × (Nat × Nat)) := [(15, 10, 36), (15, 300, 37), (14, 620, 39), (14, 1, 40), (14, 128, 44), (14, 8192, 45)]
def l303 : List (Nat × (Nat × Nat)) := [(14, 7, 46), (14, 1403, 47), (14, 61, 48), (14, 427, 49), (14, 3800, 50), (16, 4, 51)]
theorem M_s51 (G : qG) (I : qIm) (J : qJm) : t144 51 [some (qR 12 (some 0))] [] (gm G I J) = t144 99 [some (qR 12 (some 0))] [] (gm (gAs 12 0 l51 G) (uAs 0 12 0 l51 G I) (uAs 0 12 0 l51 G J)) := by
  rw [e144_51]
  rfl
theorem M_s99 (G : qG) (I : qIm) (J : qJm) : t144 99 [some (qR 12 (some 0))] [] (gm G I J) = t144 146 [some (qR 12 (some 0))] [] (gm (gAs 12 0 l99 G) (uAs 0 12 0 l99 G I) (uAs 0 12 0 l99 G J)) := by
  rw [e144_99]
  rfl
theorem M_s146 (G : qG) (I : qIm) (J : qJm) : t144 146 [some (qR 12 (some 0))] [] (gm G I J) = t144 202 [some (qR 12 (some 0))] [] (gm (gAs 12 0 l146b (gAs 12 0 l146 G)) (uAs 0 12 0 l146b (gAs 12 0 l146 G) (u3 (uAs 0 12 0 l146 G I) 12 0 27 10)) (uAs 0 12 0 l146b (gAs 12 0 l146 G) (uAs 0 12 0 l146 G J))) := by
  rw [e144_146]
  rfl
theorem M_s202 (G : qG) (I : qIm) (J : qJm) : t144 202 [some (qR 12 (some 0))] [] (gm G I J) = t144 252 [some (qR 12 (some 0))] [] (gm (gAs 12 0 l202 G) (uAs 0 12 0 l202 G I) (uAs 0 12 0 l202 G J)) := by
  rw [e144_202]
  rfl
theorem M_s252 (G : qG) (I : qIm) (J : qJm) : t144 252 [some (qR 12 (some 0))] [] (gm G I J) = t144 303 [some (qR 12 (some 0))] [] (gm (gAs 12 0 l252 G) (uAs 0 12 0 l252 G I) (uAs 0 12 0 l252 G J)) := by
  rw [e144_252]
  rfl
theorem M_s303 (G : qG) (I : qIm) (J : qJm) : t144 303 [some (qR 12 (some 0))] [] (gm G I J) = some (gm (gAs 12 0 l303 G) (uAs 0 12 0 l303 G I) (uAs 0 12 0 l303 G J), none) := by
  rw [e144_303]
  show t144 353 [some (qR 12 (some 0))] [] (gm (gAs 12 0 l303 G) (uAs 0 12 0 l303 G I) (uAs 0 12 0 l303 G J)) = _
  rw [e144_353]
def vGE : qG := ((0, 0), (fun _ => 0), (fun _ _ => 0), fun _ _ _ => none)
def vM0 : qG := gNew vGE 12 (qnf 12)
def vM1 : qG := gsP (gNew vM0 14 9) 12 0 1 (some 0)
def vM2 : qG := gAs 12 0 l303 (gAs 12 0 l252 (gAs 12 0 l202 (gAs 12 0 l146b (gAs 12 0 l146 (gAs 12 0 l99 (gAs 12 0 l51 vM1))))))
def iZ : qIm := fun _ _ _ => 0
def jZ : qJm := fun _ _ _ => 0
def iM1' : qIm := u3 (u3 (u3 (u3 (u3 (u3 (u3 (u3 (u3 (u2 iZ 14 0 fun _ => 0) 14 0 0 0) 14 0 1 0) 14 0 2 0) 14 0 3 0) 14 0 4 0) 14 0 5 0) 14 0 6 0) 14 0 7 0) 14 0 8 (-1)
theorem M_144a : qcal 144 [qR 12 (some 0)] (gm vM0 iZ jZ) = t144 51 [some (qR 12 (some 0))] [] (gm vM1 iM1' (u2 jZ 14 0 fun _ => 0)) := by
  rw [c144]
  rfl
theorem M_144 : ∃ I J, qcal 144 [qR 12 (some 0)] (gm vM0 iZ jZ) = some (gm vM2 I J, none) ∧ I 14 0 8 = -1 ∧ I 12 0 27 = 10 ∧ ∀ k j s, ¬ (k = 14 ∧ j = 0 ∧ s = 8) → ¬ (k = 12 ∧ j = 0 ∧ s = 27) → I k j s = 0 := by
  have e := M_144a
  rw [M_s51, M_s99, M_s146, M_s202, M_s252, M_s303] at e
  have h14 : ∀ (l : List (Nat × (Nat × Nat))) (G : qG), gC G 14 ≤ gC (gAs 12 0 l G) 14 := by
    intro l
    induction l with
    | nil => exact fun G => Nat.le_refl _
    | cons x r ih => exact fun G => Nat.le_trans gAk_C (ih _)
  have g1 : 0 < gC vM1 14 := by decide
  have g2 : 0 < gC (gAs 12 0 l51 vM1) 14 := Nat.lt_of_lt_of_le g1 (h14 _ _)
  have g3 : 0 < gC (gAs 12 0 l99 (gAs 12 0 l51 vM1)) 14 := Nat.lt_of_lt_of_le g2 (h14 _ _)
  have g4 : 0 < gC (gAs 12 0 l146 (gAs 12 0 l99 (gAs 12 0 l51 vM1))) 14 := Nat.lt_of_lt_of_le g3 (h14 _ _)
  have g5 : 0 < gC (gAs 12 0 l146b (gAs 12 0 l146 (gAs 12 0 l99 (gAs 12 0 l51 vM1)))) 14 := Nat.lt_of_lt_of_le g4 (h14 _ _)
  have g6 : 0 < gC (gAs 12 0 l202 (gAs 12 0 l146b (gAs 12 0 l146 (gAs 12 0 l99 (gAs 12 0 l51 vM1))))) 14 := Nat.lt_of_lt_of_le g5 (h14 _ _)
  have g7 : 0 < gC (gAs 12 0 l252 (gAs 12 0 l202 (gAs 12 0 l146b (gAs 12 0 l146 (gAs 12 0 l99 (gAs 12 0 l51 vM1)))))) 14 := Nat.lt_of_lt_of_le g6 (h14 _ _)
  refine ⟨_, _, e, ?_, ?_, fun k j s h1 h2 => ?_⟩
  · rw [uAs_old _ _ _ _ _ _ (Or.inl g7), uAs_old _ _ _ _ _ _ (Or.inl g6), uAs_old _ _ _ _ _ _ (Or.inl g5), uAs_old _ _ _ _ _ _ (Or.inl g4), u3n (by omega), uAs_old _ _ _ _ _ _ (Or.inl g3), uAs_old _ _ _ _ _ _ (Or.inl g2), uAs_old _ _ _ _ _ _ (Or.inl g1)]
    exact u3_eq
  · rw [uAs_old _ _ _ _ _ _ (Or.inr (by decide)), uAs_old _ _ _ _ _ _ (Or.inr (by decide)), uAs_old _ _ _ _ _ _ (Or.inr (by decide)), uAs_old _ _ _ _ _ _ (Or.inr (by decide))]
    exact u3_eq
  · have b : iM1' k j s = 0 := by
      unfold iM1'
      rw [u3n h1]
      have hz : ∀ (f : qIm) t, f k j s = 0 → u3 f 14 0 t 0 k j s = 0 := fun f t hf => by
        by_cases c : k = 14 ∧ j = 0 ∧ s = t
        · obtain ⟨rfl, rfl, rfl⟩ := c
          exact u3_eq
        · rw [u3n c]; exact hf
      refine hz _ _ (hz _ _ (hz _ _ (hz _ _ (hz _ _ (hz _ _ (hz _ _ (hz _ _ ?_)))))))
      by_cases c : k = 14 ∧ j = 0
      · obtain ⟨rfl, rfl⟩ := c
        exact u2_eq
      · rw [u2n c]; rfl
    have st : ∀ (l : List (Nat × (Nat × Nat))) (G : qG) (f : qIm), f k j s = 0 → uAs 0 12 0 l G f k j s = 0 := fun l G f hf => by
      rcases uAs_z (z := (0 : Int32)) (kk := 12) (b := 0) l G f k j s with w | w
      · exact w
      · exact w.trans hf
    refine st _ _ _ (st _ _ _ (st _ _ _ (st _ _ _ ?_)))
    rw [u3n h2]
    exact st _ _ _ (st _ _ _ (st _ _ _ b))
theorem vM2_geo : MGeo vM2 := by
  refine ⟨fun x hx => ?_, fun x hx => ?_⟩
  · have h : (mgP.all fun x => decide (gP vM2 12 0 x.1 = some x.2)) = true := by decide +kernel
    exact of_decide_eq_true (List.all_eq_true.mp h x hx)
  · have h : (mgL.all fun x => decide (gL vM2 x.1 x.2.1 = x.2.2)) = true := by decide +kernel
    exact of_decide_eq_true (List.all_eq_true.mp h x hx)
/-- the empty world -/
def w0 : Wd := ((td0, (moBegin td0, ([], ([], (none, 0))))), ((fun _ => none), ([], (0, fun _ => 0))))
theorem w0_ok : wdOk w0 := by
  refine ⟨⟨td0_ok, ?_, fun m hm => absurd hm List.not_mem_nil, Nat.zero_le _, Nat.zero_le _, fun n hn => absurd hn List.not_mem_nil, fun i hi => (by cases hi), by decide⟩, fun k b hb => (by cases hb), Nat.zero_le _, fun r hr => absurd hr List.not_mem_nil, Nat.zero_le _⟩
  exact ⟨fun q => ⟨Nat.two_pow_pos _, Nat.zero_le _, Nat.zero_le _, Nat.zero_le _⟩, Nat.two_pow_pos _, Nat.zero_le _, Or.inr rfl, fun q _ => ⟨rfl, rfl, rfl, rfl⟩⟩
theorem w0_tp : tpOk (wY w0) := fun i => by
  show -128 ≤ (0 : Int32).toInt ∧ (0 : Int32).toInt ≤ 127
  decide
theorem MS_0 {I : qIm} (h8 : I 14 0 8 = -1) (h27 : I 12 0 27 = 10) (hz : ∀ k j s, ¬ (k = 14 ∧ j = 0 ∧ s = 8) → ¬ (k = 12 ∧ j = 0 ∧ s = 27) → I k j s = 0) : MS w0 I := by
  have z : ∀ k j s, ¬ (k = 14 ∧ j = 0 ∧ s = 8) → ¬ (k = 12 ∧ j = 0 ∧ s = 27) → I k j s = nI 0 := hz
  refine ⟨⟨⟨⟨z _ _ _ (by omega) (by omega), z _ _ _ (by omega) (by omega), z _ _ _ (by omega) (by omega)⟩, ⟨fun q hq => absurd hq (Nat.not_lt_zero q), fun q hq => absurd hq (Nat.not_lt_zero q), fun q hq => absurd hq (Nat.not_lt_zero q), fun q hq => absurd hq (Nat.not_lt_zero q), z _ _ _ (by omega) (by omega), z _ _ _ (by omega) (by omega), z _ _ _ (by omega) (by omega)⟩, fun k hk => absurd hk (Nat.not_lt_zero k), ⟨fun q hq => absurd hq (Nat.not_lt_zero q), fun q hq => absurd hq (Nat.not_lt_zero q), fun q hq => absurd hq (Nat.not_lt_zero q), fun k hk => absurd hk (Nat.not_lt_zero k)⟩⟩, ⟨z _ _ _ (by omega) (by omega), fun i hi => absurd hi (Nat.not_lt_zero i)⟩, z _ _ _ (by omega) (by omega), h8, z _ _ _ (by omega) (by omega), fun i hi => absurd hi (Nat.not_lt_zero i)⟩, ⟨z _ _ _ (by omega) (by omega), h27⟩, fun i hi => absurd hi (Nat.not_lt_zero i), z _ _ _ (by omega) (by omega), fun s _ => z _ _ _ (by omega) (by omega), fun k _ => Or.inl ⟨rfl, z _ _ _ (by omega) (by omega)⟩⟩
