section LAW2
variable {p : Program} {l : Launch} {e : Env} {s : State} {m : MethodId} {below : List Frame} {meth : Method} {c : Code} {D : va_G} {cy sA : Nat → Nat} {A : Nat → Prop} {Q : State → Prop} {b : Nat}
/-- an int of the script, at i + j -/
theorem law_arg {L : Nat} {xs : Nat → Int32} {H : Heap} {locs : List Loc} {ls : Array Slot} {rest : List Value} {cells slots i j pc : Nat} (C : lwC p s m c b D cy sA A) (hX : va_X b L xs s s.heap) (hbl : b < s.heap.size) (hbA : ¬ A b) (hS : va_S A s.heap H locs) (hij : i + j < L) (hL : L ≤ 3072)
    (h0 : ls[0]? = some (.val (.ref b))) (h3 : ls[3]? = some (.val (.int (nI i)))) {jj : Int} (hj : Int32.ofInt jj = nI j)
    (d0 : decode code pc = .ok (.aload_n 0, 1)) (d1 : decode code (pc + 1) = .ok (.iload_n 3, 1)) (d2 : decode code (pc + 2) = .ok (.iconst jj, 1)) (d3 : decode code (pc + 3) = .ok (.iadd, 1)) (d4 : decode code (pc + 4) = .ok (.iaload, 1))
    (kk : W p l e room_1 s m #[Value.ref b] below meth c H locs cells slots Q (F0 m (pc + 5) ls (.int (xs (i + j)) :: rest))) : W p l e room_1 s m #[Value.ref b] below meth c H locs cells slots Q (F0 m pc ls rest) := by
  obtain ⟨hx, hb, hml, hown, hts, hAm, hSt, hA⟩ := C
  refine lv_aload_n hx hb d0 rfl h0 ?_
  refine lv_iload_n hx hb d1 rfl h3 ?_
  refine lv_iconst hx hb d2 hj ?_
  refine lv_iadd hx hb d3 ?_
  have e1 : nI i + nI j = nI (i + j) := nI_add i j
  rw [e1]
  refine va_sld hx hb hX hbl hbA hS (vp_in_nI hij (by omega)) d4 ?_
  rw [nI_clamp (by omega)]
  exact kk
/-- an int of the script, at i itself -/
theorem law_arg0 {L : Nat} {xs : Nat → Int32} {H : Heap} {locs : List Loc} {ls : Array Slot} {rest : List Value} {cells slots i pc : Nat} (C : lwC p s m c b D cy sA A) (hX : va_X b L xs s s.heap) (hbl : b < s.heap.size) (hbA : ¬ A b) (hS : va_S A s.heap H locs) (hij : i < L) (hL : L ≤ 3072)
    (h0 : ls[0]? = some (.val (.ref b))) (h3 : ls[3]? = some (.val (.int (nI i))))
    (d0 : decode code pc = .ok (.aload_n 0, 1)) (d1 : decode code (pc + 1) = .ok (.iload_n 3, 1)) (d4 : decode code (pc + 2) = .ok (.iaload, 1))
    (kk : W p l e room_1 s m #[Value.ref b] below meth c H locs cells slots Q (F0 m (pc + 3) ls (.int (xs i) :: rest))) : W p l e room_1 s m #[Value.ref b] below meth c H locs cells slots Q (F0 m pc ls rest) := by
  obtain ⟨hx, hb, hml, hown, hts, hAm, hSt, hA⟩ := C
  refine lv_aload_n hx hb d0 rfl h0 ?_
  refine lv_iload_n hx hb d1 rfl h3 ?_
  refine va_sld hx hb hX hbl hbA hS (vp_in_nI hij (by omega)) d4 ?_
  rw [nI_clamp (by omega)]
  exact kk
end LAW2
