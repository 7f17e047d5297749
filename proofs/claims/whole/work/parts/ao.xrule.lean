/-! rule(): the class -/
theorem X_267 {G : qG} {I : qIm} {J : qJm} {N : Nat} (hL : gL G 14 4 = 412) (hN : N ≤ 412) (hc : 5 ≤ gC G 14) : ∃ I' J', qcal 267 [qR 14 (some 4), qI (nI N)] (gm G I J) = some (gm (gNew G 14 N) I' J', some (qR 14 (some (gC G 14)))) ∧ (∀ s, s < N → I' 14 (gC G 14) s = I 14 4 s) ∧ (∀ k i s, ¬ (k = 14 ∧ i = gC G 14) → I' k i s = I k i s) := by
  by_cases e : N = 412
  · subst e
    refine ⟨u2 (u2 I 14 (gC G 14) fun _ => 0) 14 (gC G 14) (I 14 4), u2 J 14 (gC G 14) fun _ => 0, ?_, fun s hs => u2_eq, fun k i s hk => by rw [u2n hk, u2n hk]⟩
    have h412 : mL (gm G I J) 14 4 = 412 := hL
    rw [c267, h412, if_pos (show nI 412 = Int32.ofNat 412 from rfl), qlet_eq]
    rfl
  · refine ⟨u2 (u2 I 14 (gC G 14) fun _ => nI 0) 14 (gC G 14) (va_cpy (u2 I 14 (gC G 14) (fun _ => nI 0) 14 4) (u2 I 14 (gC G 14) (fun _ => nI 0) 14 (gC G 14)) 0 0 N), u2 J 14 (gC G 14) fun _ => 0, ?_, fun s hs => ?_, fun k i s hk => by rw [u2n hk, u2n hk]⟩
    · have h4 : gL (gNew G 14 N) 14 4 = 412 := (gL_new_n (by omega)).trans hL
      have hc' : gL (gNew G 14 N) 14 (gC G 14) = N := gL_new_s rfl
      have hq : qcp (nI 0) (nI 0) (nI N) 412 N = true := qcp_ok (by omega) (by omega) (by omega) (by omega)
      have hne : (nI N = nI 412) = False := eqF e (by omega) (by omega)
      rw [c267]
      (repeat (first | ((with_reducible apply e_let); (first | (simp (disch := omega) only [stG, stC, stL, ↓ltm1, ↓ltm2, ↓ltm3, if_true, if_false, decide_true, decide_false, Bool.and_true, Bool.and_self, not_false_eq_true, cond_true, cond_false, hL, ofNat_nI, hne, qNew_gm, h4, hc', hq] <;> (with_reducible rfl)) | (with_reducible rfl))) | ((with_reducible apply e_bind); (first | (simp (disch := omega) only [stG, stC, stL, ↓ltm1, ↓ltm2, ↓ltm3, if_true, if_false, decide_true, decide_false, Bool.and_true, Bool.and_self, not_false_eq_true, cond_true, cond_false, hL, ofNat_nI, hne, qNew_gm, h4, hc', hq] <;> (with_reducible rfl)) | (with_reducible rfl))) | ((with_reducible apply e_cond); focus (simp (disch := omega) only [stG, stC, stL, ↓ltm1, ↓ltm2, ↓ltm3, if_true, if_false, decide_true, decide_false, Bool.and_true, Bool.and_self, not_false_eq_true, cond_true, cond_false, hL, ofNat_nI, hne, qNew_gm, h4, hc', hq]; done)) | ((with_reducible apply e_condF); focus (simp (disch := omega) only [stG, stC, stL, ↓ltm1, ↓ltm2, ↓ltm3, if_true, if_false, decide_true, decide_false, Bool.and_true, Bool.and_self, not_false_eq_true, cond_true, cond_false, hL, ofNat_nI, hne, qNew_gm, h4, hc', hq]; done)) | ((with_reducible apply e_ifT); focus (simp (disch := omega) only [stG, stC, stL, ↓ltm1, ↓ltm2, ↓ltm3, if_true, if_false, decide_true, decide_false, Bool.and_true, Bool.and_self, not_false_eq_true, cond_true, cond_false, hL, ofNat_nI, hne, qNew_gm, h4, hc', hq]; done)) | ((with_reducible apply e_ifF); focus (simp (disch := omega) only [stG, stC, stL, ↓ltm1, ↓ltm2, ↓ltm3, if_true, if_false, decide_true, decide_false, Bool.and_true, Bool.and_self, not_false_eq_true, cond_true, cond_false, hL, ofNat_nI, hne, qNew_gm, h4, hc', hq]; done)) | ((with_reducible apply e_cI); (first | (simp (disch := omega) only [stG, stC, stL, ↓ltm1, ↓ltm2, ↓ltm3, if_true, if_false, decide_true, decide_false, Bool.and_true, Bool.and_self, not_false_eq_true, cond_true, cond_false, hL, ofNat_nI, hne, qNew_gm, h4, hc', hq] <;> (with_reducible rfl)) | (with_reducible rfl))) | ((with_reducible apply e_cV); (first | (simp (disch := omega) only [stG, stC, stL, ↓ltm1, ↓ltm2, ↓ltm3, if_true, if_false, decide_true, decide_false, Bool.and_true, Bool.and_self, not_false_eq_true, cond_true, cond_false, hL, ofNat_nI, hne, qNew_gm, h4, hc', hq] <;> (with_reducible rfl)) | (with_reducible rfl))) | ((with_reducible apply e_cJ); (first | (simp (disch := omega) only [stG, stC, stL, ↓ltm1, ↓ltm2, ↓ltm3, if_true, if_false, decide_true, decide_false, Bool.and_true, Bool.and_self, not_false_eq_true, cond_true, cond_false, hL, ofNat_nI, hne, qNew_gm, h4, hc', hq] <;> (with_reducible rfl)) | (with_reducible rfl))) | ((with_reducible apply e_cR); (first | (simp (disch := omega) only [stG, stC, stL, ↓ltm1, ↓ltm2, ↓ltm3, if_true, if_false, decide_true, decide_false, Bool.and_true, Bool.and_self, not_false_eq_true, cond_true, cond_false, hL, ofNat_nI, hne, qNew_gm, h4, hc', hq] <;> (with_reducible rfl)) | (with_reducible rfl))) | (with_reducible apply e_nnS) | (with_reducible apply e_nnN) | ((with_reducible apply e_nn); (simp (disch := omega) only [stG, stC, stL, ↓ltm1, ↓ltm2, ↓ltm3, if_true, if_false, decide_true, decide_false, Bool.and_true, Bool.and_self, not_false_eq_true, cond_true, cond_false, hL, ofNat_nI, hne, qNew_gm, h4, hc', hq] <;> (with_reducible rfl))))); (first | ((with_reducible apply e_rI); (first | (simp (disch := omega) only [stG, stC, stL, ↓ltm1, ↓ltm2, ↓ltm3, if_true, if_false, decide_true, decide_false, Bool.and_true, Bool.and_self, not_false_eq_true, cond_true, cond_false, hL, ofNat_nI, hne, qNew_gm, h4, hc', hq] <;> (with_reducible rfl)) | (with_reducible rfl)); (first | (simp (disch := omega) only [stG, stC, stL, ↓ltm1, ↓ltm2, ↓ltm3, if_true, if_false, decide_true, decide_false, Bool.and_true, Bool.and_self, not_false_eq_true, cond_true, cond_false, hL, ofNat_nI, hne, qNew_gm, h4, hc', hq] <;> (with_reducible rfl)) | (with_reducible rfl))) | ((with_reducible apply e_rV); (first | (simp (disch := omega) only [stG, stC, stL, ↓ltm1, ↓ltm2, ↓ltm3, if_true, if_false, decide_true, decide_false, Bool.and_true, Bool.and_self, not_false_eq_true, cond_true, cond_false, hL, ofNat_nI, hne, qNew_gm, h4, hc', hq] <;> (with_reducible rfl)) | (with_reducible rfl))) | ((with_reducible apply e_rJ); (first | (simp (disch := omega) only [stG, stC, stL, ↓ltm1, ↓ltm2, ↓ltm3, if_true, if_false, decide_true, decide_false, Bool.and_true, Bool.and_self, not_false_eq_true, cond_true, cond_false, hL, ofNat_nI, hne, qNew_gm, h4, hc', hq] <;> (with_reducible rfl)) | (with_reducible rfl)); (first | (simp (disch := omega) only [stG, stC, stL, ↓ltm1, ↓ltm2, ↓ltm3, if_true, if_false, decide_true, decide_false, Bool.and_true, Bool.and_self, not_false_eq_true, cond_true, cond_false, hL, ofNat_nI, hne, qNew_gm, h4, hc', hq] <;> (with_reducible rfl)) | (with_reducible rfl))) | ((with_reducible apply e_rR); (first | (simp (disch := omega) only [stG, stC, stL, ↓ltm1, ↓ltm2, ↓ltm3, if_true, if_false, decide_true, decide_false, Bool.and_true, Bool.and_self, not_false_eq_true, cond_true, cond_false, hL, ofNat_nI, hne, qNew_gm, h4, hc', hq] <;> (with_reducible rfl)) | (with_reducible rfl)); (first | (simp (disch := omega) only [stG, stC, stL, ↓ltm1, ↓ltm2, ↓ltm3, if_true, if_false, decide_true, decide_false, Bool.and_true, Bool.and_self, not_false_eq_true, cond_true, cond_false, hL, ofNat_nI, hne, qNew_gm, h4, hc', hq] <;> (with_reducible rfl)) | (with_reducible rfl))) | ((with_reducible apply e_aI); (simp (disch := omega) only [stG, stC, stL, ↓ltm1, ↓ltm2, ↓ltm3, if_true, if_false, decide_true, decide_false, Bool.and_true, Bool.and_self, not_false_eq_true, cond_true, cond_false, hL, ofNat_nI, hne, qNew_gm, h4, hc', hq] <;> (with_reducible rfl)); exact rfl) | ((with_reducible apply e_aV); (simp (disch := omega) only [stG, stC, stL, ↓ltm1, ↓ltm2, ↓ltm3, if_true, if_false, decide_true, decide_false, Bool.and_true, Bool.and_self, not_false_eq_true, cond_true, cond_false, hL, ofNat_nI, hne, qNew_gm, h4, hc', hq] <;> (with_reducible rfl)); exact rfl) | ((with_reducible apply e_aJ); (simp (disch := omega) only [stG, stC, stL, ↓ltm1, ↓ltm2, ↓ltm3, if_true, if_false, decide_true, decide_false, Bool.and_true, Bool.and_self, not_false_eq_true, cond_true, cond_false, hL, ofNat_nI, hne, qNew_gm, h4, hc', hq] <;> (with_reducible rfl)); exact rfl) | ((with_reducible apply e_t); (first | (simp (disch := omega) only [stG, stC, stL, ↓ltm1, ↓ltm2, ↓ltm3, if_true, if_false, decide_true, decide_false, Bool.and_true, Bool.and_self, not_false_eq_true, cond_true, cond_false, hL, ofNat_nI, hne, qNew_gm, h4, hc', hq] <;> (with_reducible rfl)) | (with_reducible rfl)); (first | (simp (disch := omega) only [stG, stC, stL, ↓ltm1, ↓ltm2, ↓ltm3, if_true, if_false, decide_true, decide_false, Bool.and_true, Bool.and_self, not_false_eq_true, cond_true, cond_false, hL, ofNat_nI, hne, qNew_gm, h4, hc', hq] <;> (with_reducible rfl)) | (with_reducible rfl)); (first | (simp (disch := omega) only [stG, stC, stL, ↓ltm1, ↓ltm2, ↓ltm3, if_true, if_false, decide_true, decide_false, Bool.and_true, Bool.and_self, not_false_eq_true, cond_true, cond_false, hL, ofNat_nI, hne, qNew_gm, h4, hc', hq] <;> (with_reducible rfl)) | (with_reducible rfl))) | exact rfl)
    · rw [u2_eq, cpy0 hs, u2n (by omega)]
theorem X_43 (G : qG) (I : qIm) (J : qJm) (r c : Nat) : qcal 43 [qR 4 (some r), qR 14 (some c)] (gm G I J) = some (gm (gsP (gsP (gNew G 15 64) 4 r 1 (some (gC G 15))) 4 r 0 (some c)) (u2 I 15 (gC G 15) fun _ => 0) (u2 J 15 (gC G 15) fun _ => 0), none) := by
  rw [c43]
  rfl
def gRu (G : qG) (n : Nat) : qG := gsP (gsP (gNew (gNew (gNew G 4 2) 14 n) 15 64) 4 (gC G 4) 1 (some (gC G 15))) 4 (gC G 4) 0 (some (gC G 14))
def NewR (G : qG) (kk i : Nat) : Prop := kk = 4 ∧ i = gC G 4 ∨ kk = 14 ∧ i = gC G 14 ∨ kk = 15 ∧ i = gC G 15
theorem X_48 {G : qG} (X : XGeo G) {I : qIm} {J : qJm} {C : List Nat} (hC : XCp C I) (hc : 60 ≤ gC G 14) : ∃ I' J', qcal 48 [qR 5 (some 0)] (gm G I J) = some (gm (gRu G C.length) I' J', some (qR 4 (some (gC G 4)))) ∧ (∀ s, s < C.length → I' 14 (gC G 14) s = I 14 4 s) ∧ (∀ k i s, ¬ NewR G k i → I' k i s = I k i s) := by
  obtain ⟨h1, h2, h3⟩ := hC
  have hL : gL (gNew G 4 2) 14 4 = 412 := (gL_new_n (by omega)).trans (xl14_4 X)
  have hcc : gC (gNew G 4 2) 14 = gC G 14 := gC_new_n (by decide)
  obtain ⟨I2, J2, e2, k2, f2⟩ := X_267 (G := gNew G 4 2) (I := u2 I 4 (gC G 4) fun _ => 0) (J := u2 J 4 (gC G 4) fun _ => 0) hL h2 (by rw [hcc]; omega)
  rw [hcc] at e2 k2 f2
  have e3 := X_43 (gNew (gNew G 4 2) 14 C.length) I2 J2 (gC G 4) (gC G 14)
  have h15 : gC (gNew (gNew G 4 2) 14 C.length) 15 = gC G 15 := (gC_new_n (by decide)).trans (gC_new_n (by decide))
  rw [h15] at e3
  refine ⟨u2 I2 15 (gC G 15) fun _ => 0, u2 J2 15 (gC G 15) fun _ => 0, ?_, fun s hs => ?_, fun k i s hk => ?_⟩
  · have hp : mP (qNew (gm G I J) 4 2) 5 0 0 = some 4 := (gP_new_n (G := G) (k := 4) (n := 2) (k' := 5) (j' := 0) (s := 0) (by omega)).trans (xp5_0_0 X)
    have hi : mI (qNew (gm G I J) 4 2) 5 0 2 = nI C.length := by
      show u2 I 4 (gC G 4) (fun _ => 0) 5 0 2 = _
      rw [u2n (by omega)]
      exact h1
    rw [c48, qlet_eq, hp, hi]
    refine (congrArg (fun o => qbR 14 o _) e2).trans ?_
    rw [qbR_some]
    refine (congrArg (fun o => qbV o _) e3).trans ?_
    rw [qbV_some]
    rfl
  · rw [u2n (by omega), k2 s hs, u2n (by omega)]
  · unfold NewR at hk
    rw [u2n (by omega), f2 _ _ _ (by omega), u2n (by omega)]
theorem app_last (l : List Rl) (x : Rl) (j : Nat) (hj : j < (l ++ [x]).length) (e : j = l.length) : (l ++ [x])[j]'hj = x := by
  subst e
  simp
theorem xgP_r : ∀ x ∈ xgP, x.1 ≠ 4 ∧ x.1 ≠ 14 ∧ x.1 ≠ 15 ∧ (x.1 = 17 → False) := by decide
theorem xgL_r : ∀ x ∈ xgL, x.1 ≠ 4 ∧ (x.1 = 14 → x.2.1 ≤ 59) ∧ (x.1 = 15 → x.2.1 ≤ 5) := by decide
theorem XSa.setR {A : Ad} {w : Wd} (hw : wdOk w) {G G' : qG} {I I' : qIm} {rl : Rl} {i : Nat} (hi : (wR w).length = i) (h : XSa A w G I)
    (hC : ∀ kk, gC G kk ≤ gC G' kk) (hC4 : gC G' 4 = gC G 4 + 1) (hC14 : gC G 14 < gC G' 14) (hL : ∀ kk j, ¬ NewR G kk j → gL G' kk j = gL G kk j) (hP : ∀ kk j s, ¬ NewR G kk j → ¬ (kk = 17 ∧ j = 0 ∧ s = i) → gP G' kk j s = gP G kk j s)
    (hr64 : gL G' 15 (gC G 15) = 64) (hPk : gP G' 17 0 i = some (gC G 4)) (hr : XRla G' (gC G 4) (gC G 14) rl I') (h4' : I' 11 0 4 = nI (i + 1)) (h71 : I' 7 0 1 = nI 0)
    (hfr : ∀ kk j s, ¬ NewR G kk j → ¬ (kk = 11 ∧ j = 0 ∧ s = 4) → ¬ (kk = 7) → ¬ (kk = 5) → ¬ (kk = 14 ∧ (j = 4 ∨ j = 5)) → I' kk j s = I kk j s) :
    XSa (fun j => if j = i then (gC G 4, gC G 14) else A.1 j, A.2) (wAddR w rl) G' I' := by
  obtain ⟨h1, h2, h3, h4, h5, h6, h7, h8, h9, ⟨c14, c15, c6, c8, c1, c4, ca⟩⟩ := h
  have hlen : (wR (wAddR w rl)).length = i + 1 := by
    show (wR w ++ [rl]).length = i + 1
    rw [List.length_append, hi]
    rfl
  have hc4i : gC G 4 = i := c4.trans hi
  refine ⟨⟨fun x hx => ?_, fun x hx => ?_⟩, h2.eq hw.1 fun kk j s hk => hfr kk j s (by unfold NewR; omega) (by omega) (by omega) (by omega) (by omega), by rw [hlen]; exact h4', fun j hj => ?_, h71, fun s hs => (hfr _ _ _ (by unfold NewR; omega) (by omega) (by omega) (by omega) (by omega)).trans (h6 s hs), fun k hk => ?_, fun j k hj hk hg => ?_, h9, ⟨Nat.le_trans c14 (hC 14), Nat.le_trans c15 (hC 15), Nat.le_trans c6 (hC 6), Nat.le_trans c8 (hC 8), Nat.le_trans c1 (hC 1), by rw [hC4, hlen, hc4i], fun j hj => ?_⟩⟩
  · obtain ⟨n1, n2, n3, n4⟩ := xgP_r x hx
    rw [hP _ _ _ (by unfold NewR; omega) (fun z => n4 z.1)]
    exact h1.1 x hx
  · obtain ⟨n1, n2, n3⟩ := xgL_r x hx
    rw [hL _ _ (by unfold NewR; omega)]
    exact h1.2 x hx
  · have hj0 := hj
    rw [hlen] at hj
    by_cases e : j = i
    · have e2 : (if j = i then (gC G 4, gC G 14) else A.1 j) = (gC G 4, gC G 14) := if_pos e
      have e3 : (wR (wAddR w rl))[j]'hj0 = rl := app_last (wR w) rl j hj0 (e.trans hi.symm)
      dsimp only
      rw [e2, e3, e]
      exact ⟨hPk, hr, hC14⟩
    · have hj' : j < (wR w).length := by omega
      have e2 : (if j = i then (gC G 4, gC G 14) else A.1 j) = A.1 j := if_neg e
      have e3 : (wR (wAddR w rl))[j]'hj0 = (wR w)[j]'hj' := List.getElem_append_left hj'
      dsimp only
      rw [e2, e3]
      obtain ⟨g1, ⟨sj, ⟨q1, q2, q3, q4⟩, p2, p3, p4, p5, p6⟩, g3⟩ := h4 j hj'
      have hA := ca j hj'
      refine ⟨(hP _ _ _ (by unfold NewR; omega) (by omega)).trans g1, ⟨sj, ⟨(hP _ _ _ (by unfold NewR; omega) (by omega)).trans q1, (hP _ _ _ (by unfold NewR; omega) (by omega)).trans q2, (hL _ _ (by unfold NewR; omega)).trans q3, ?_⟩, p2, p3, p4, p5, p6.eq fun s => hfr _ _ _ (by unfold NewR; omega) (by omega) (by omega) (by omega) (by omega)⟩, Nat.lt_of_lt_of_le g3 (hC 14)⟩
      by_cases hs : sj = gC G 15
      · rw [hs]; exact hr64
      · exact (hL _ _ (by unfold NewR; omega)).trans q4
  · dsimp only
    rcases h7 k hk with ⟨q1, q2⟩ | ⟨b', q1, q2, q3, q4, q5, q6⟩
    · exact Or.inl ⟨q1, (hP _ _ _ (by unfold NewR; omega) (by omega)).trans q2⟩
    · have m6 := hC 6
      have m8 := hC 8
      have m1 := hC 1
      have m14 := hC 14
      refine Or.inr ⟨b', q1, (hP _ _ _ (by unfold NewR; omega) (by omega)).trans q2, ?_, q4.eq (hw.2.1 k b' q1) (fun kk j s hk => hfr kk j s (by unfold NewR; omega) (by omega) (by omega) (by omega) (by omega)), q5, by omega, by omega, by omega, by omega⟩
      obtain ⟨⟨p0, p1, p2, p5, p6⟩, ⟨l8, l9, l10⟩, ⟨⟨t0, t1, t2, t3⟩, u0, u1, u2, u3⟩, ⟨⟨v0, v1, v2, v3⟩, w0, w1, w2, w3⟩⟩ := q3
      exact ⟨⟨(hP _ _ _ (by unfold NewR; omega) (by omega)).trans p0, (hP _ _ _ (by unfold NewR; omega) (by omega)).trans p1, (hP _ _ _ (by unfold NewR; omega) (by omega)).trans p2, (hP _ _ _ (by unfold NewR; omega) (by omega)).trans p5, (hP _ _ _ (by unfold NewR; omega) (by omega)).trans p6⟩, ⟨(hL _ _ (by unfold NewR; omega)).trans l8, (hL _ _ (by unfold NewR; omega)).trans l9, (hL _ _ (by unfold NewR; omega)).trans l10⟩, ⟨⟨(hP _ _ _ (by unfold NewR; omega) (by omega)).trans t0, (hP _ _ _ (by unfold NewR; omega) (by omega)).trans t1, (hP _ _ _ (by unfold NewR; omega) (by omega)).trans t2, (hP _ _ _ (by unfold NewR; omega) (by omega)).trans t3⟩, (hL _ _ (by unfold NewR; omega)).trans u0, (hL _ _ (by unfold NewR; omega)).trans u1, (hL _ _ (by unfold NewR; omega)).trans u2, (hL _ _ (by unfold NewR; omega)).trans u3⟩, ⟨⟨(hP _ _ _ (by unfold NewR; omega) (by omega)).trans v0, (hP _ _ _ (by unfold NewR; omega) (by omega)).trans v1, (hP _ _ _ (by unfold NewR; omega) (by omega)).trans v2, (hP _ _ _ (by unfold NewR; omega) (by omega)).trans v3⟩, (hL _ _ (by unfold NewR; omega)).trans w0, (hL _ _ (by unfold NewR; omega)).trans w1, (hL _ _ (by unfold NewR; omega)).trans w2, (hL _ _ (by unfold NewR; omega)).trans w3⟩⟩
  · rw [hlen] at hj
    by_cases e : j = i
    · have e2 : (if j = i then (gC G 4, gC G 14) else A.1 j) = (gC G 4, gC G 14) := if_pos e
      dsimp only
      rw [e2]
      rcases h7 k hk with ⟨q1, -⟩ | ⟨b', q1, q2, q3, q4, q5, q6, q7, q8, q9⟩
      · exact absurd q1 hg
      · exact Or.inr q9
    · have e2 : (if j = i then (gC G 4, gC G 14) else A.1 j) = A.1 j := if_neg e
      dsimp only
      rw [e2]
      exact h8 j k (by omega) hk hg
  · rw [hlen] at hj ⊢
    by_cases e : j = i
    · have e2 : (if j = i then (gC G 4, gC G 14) else A.1 j) = (gC G 4, gC G 14) := if_pos e
      dsimp only
      rw [e2]
      dsimp only
      omega
    · have e2 : (if j = i then (gC G 4, gC G 14) else A.1 j) = A.1 j := if_neg e
      dsimp only
      rw [e2]
      have := ca j (by omega)
      omega
