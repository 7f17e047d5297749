/-! THE LAW: two calls, one behind the other -/
theorem qcal_mle {mid : Nat} {as : List qV} {h : qM} {r : qO} (e : qcal mid as h = some r) : mle h r.1 := qcF_mle _ _ _ _ _ _ _ e
def argD (pc k : Nat) : Bool := decide (decode code pc = .ok (.aload_n 0, 1)) && (decide (decode code (pc + 1) = .ok (.iload_n 3, 1)) && (decide (decode code (pc + 2) = .ok (.iconst (Int.ofNat k), 1)) && (decide (decode code (pc + 3) = .ok (.iadd, 1)) && decide (decode code (pc + 4) = .ok (.iaload, 1)))))
def argsD : Nat → Nat → Nat → Bool
  | 0, _, _ => true
  | r + 1, pc, k => argD pc k && argsD r (pc + 5) (k + 1)
def blkD (pc a nX nM : Nat) : Bool := decide (decode code pc = .ok (.aload_n 1, 1)) && (argsD a (pc + 1) 1 && (decide (decode code (pc + 1 + 5 * a) = .ok (.invokevirtual nX, 3)) && (decide (decode code (pc + 4 + 5 * a) = .ok (.aload_n 2, 1)) && (argsD a (pc + 5 + 5 * a) 1 && (decide (decode code (pc + 5 + 10 * a) = .ok (.invokevirtual nM, 3)) && decide (decode code (pc + 8 + 10 * a) = .ok (.if_icmp .eq (1321 - ((pc + 8 + 10 * a : Nat) : Int)), 3)))))))
def mdD (mid kk na n : Nat) : Bool := match qmdt mid with
  | some md => decide (md.2.2.2.2.1 = na) && (decide (md.1.cls = qRC kk) && (decide (Cond.instanceMethod md.1 ∈ lw_good) && (decide (Cond.selects md.1.cls md.1 md.1 ∈ lw_good) && (decide (Cond.methodLink R_law n md.1 ∈ lw_good) && decide (qrk mid ≤ 15)))))
  | none => false
theorem mdD_of {mid kk na n : Nat} (h : mdD mid kk na n = true) : ∃ md, qmdt mid = some md ∧ md.2.2.2.2.1 = na ∧ md.1.cls = qRC kk ∧ Cond.instanceMethod md.1 ∈ lw_good ∧ Cond.selects md.1.cls md.1 md.1 ∈ lw_good ∧ Cond.methodLink R_law n md.1 ∈ lw_good ∧ qrk mid ≤ 15 := by
  unfold mdD at h
  cases e : qmdt mid with
  | none => rw [e] at h; cases h
  | some md =>
    rw [e] at h
    dsimp only at h
    rw [Bool.and_eq_true, Bool.and_eq_true, Bool.and_eq_true, Bool.and_eq_true, Bool.and_eq_true, decide_eq_true_eq, decide_eq_true_eq, decide_eq_true_eq, decide_eq_true_eq, decide_eq_true_eq, decide_eq_true_eq] at h
    exact ⟨md, rfl, h⟩
def rowD (x : Nat × (Nat × (Nat × (Nat × (Nat × Nat))))) : Bool := blkD x.1 x.2.1 x.2.2.2.1 x.2.2.2.2.2 && (mdD x.2.2.1 11 x.2.1 x.2.2.2.1 && (mdD x.2.2.2.2.1 12 x.2.1 x.2.2.2.2.2 && decide (x.2.1 ≤ 5)))
def lawT : List (Nat × (Nat × (Nat × (Nat × (Nat × Nat))))) := [(204, (5, (98, (13, (151, 17))))), (267, (1, (99, (18, (153, 22))))), (290, (0, (100, (23, (183, 27))))), (303, (0, (101, (28, (185, 31))))), (316, (1, (102, (32, (186, 35))))), (339, (2, (103, (36, (191, 40))))), (372, (2, (104, (41, (192, 44))))), (405, (0, (105, (45, (207, 48))))), (418, (1, (106, (49, (208, 52))))), (441, (2, (107, (53, (209, 56))))), (474, (2, (108, (57, (210, 60))))), (507, (1, (109, (61, (211, 64))))), (530, (0, (110, (65, (206, 68))))), (543, (3, (111, (69, (196, 73))))), (586, (2, (112, (74, (212, 77))))), (619, (2, (113, (78, (216, 81))))), (652, (1, (114, (82, (218, 85))))), (675, (1, (115, (86, (222, 89))))), (698, (0, (116, (90, (223, 93))))), (711, (2, (117, (94, (226, 97))))), (744, (2, (118, (98, (228, 101))))), (777, (4, (119, (102, (231, 106))))), (830, (3, (120, (107, (234, 110))))), (873, (1, (121, (111, (236, 114))))), (896, (0, (122, (115, (237, 118))))), (909, (2, (123, (119, (238, 122))))), (942, (2, (124, (123, (240, 126))))), (975, (2, (125, (127, (251, 130))))), (1008, (2, (126, (131, (252, 134))))), (1041, (1, (127, (135, (243, 138))))), (1064, (2, (128, (139, (245, 142))))), (1097, (2, (129, (143, (246, 146))))), (1130, (1, (130, (147, (249, 150))))), (1153, (1, (131, (151, (254, 154))))), (1176, (1, (132, (155, (255, 158))))), (1199, (4, (133, (159, (258, 162))))), (1252, (1, (134, (163, (259, 166))))), (1275, (1, (135, (167, (262, 170))))), (1298, (1, (136, (171, (263, 174)))))]
theorem lr_0 : rowD (204, (5, (98, (13, (151, 17))))) = true := by decide +kernel
theorem lr_1 : rowD (267, (1, (99, (18, (153, 22))))) = true := by decide +kernel
theorem lr_2 : rowD (290, (0, (100, (23, (183, 27))))) = true := by decide +kernel
theorem lr_3 : rowD (303, (0, (101, (28, (185, 31))))) = true := by decide +kernel
theorem lr_4 : rowD (316, (1, (102, (32, (186, 35))))) = true := by decide +kernel
theorem lr_5 : rowD (339, (2, (103, (36, (191, 40))))) = true := by decide +kernel
theorem lr_6 : rowD (372, (2, (104, (41, (192, 44))))) = true := by decide +kernel
theorem lr_7 : rowD (405, (0, (105, (45, (207, 48))))) = true := by decide +kernel
theorem lr_8 : rowD (418, (1, (106, (49, (208, 52))))) = true := by decide +kernel
theorem lr_9 : rowD (441, (2, (107, (53, (209, 56))))) = true := by decide +kernel
theorem lr_10 : rowD (474, (2, (108, (57, (210, 60))))) = true := by decide +kernel
theorem lr_11 : rowD (507, (1, (109, (61, (211, 64))))) = true := by decide +kernel
theorem lr_12 : rowD (530, (0, (110, (65, (206, 68))))) = true := by decide +kernel
theorem lr_13 : rowD (543, (3, (111, (69, (196, 73))))) = true := by decide +kernel
theorem lr_14 : rowD (586, (2, (112, (74, (212, 77))))) = true := by decide +kernel
theorem lr_15 : rowD (619, (2, (113, (78, (216, 81))))) = true := by decide +kernel
theorem lr_16 : rowD (652, (1, (114, (82, (218, 85))))) = true := by decide +kernel
theorem lr_17 : rowD (675, (1, (115, (86, (222, 89))))) = true := by decide +kernel
theorem lr_18 : rowD (698, (0, (116, (90, (223, 93))))) = true := by decide +kernel
theorem lr_19 : rowD (711, (2, (117, (94, (226, 97))))) = true := by decide +kernel
theorem lr_20 : rowD (744, (2, (118, (98, (228, 101))))) = true := by decide +kernel
theorem lr_21 : rowD (777, (4, (119, (102, (231, 106))))) = true := by decide +kernel
theorem lr_22 : rowD (830, (3, (120, (107, (234, 110))))) = true := by decide +kernel
theorem lr_23 : rowD (873, (1, (121, (111, (236, 114))))) = true := by decide +kernel
theorem lr_24 : rowD (896, (0, (122, (115, (237, 118))))) = true := by decide +kernel
theorem lr_25 : rowD (909, (2, (123, (119, (238, 122))))) = true := by decide +kernel
theorem lr_26 : rowD (942, (2, (124, (123, (240, 126))))) = true := by decide +kernel
theorem lr_27 : rowD (975, (2, (125, (127, (251, 130))))) = true := by decide +kernel
theorem lr_28 : rowD (1008, (2, (126, (131, (252, 134))))) = true := by decide +kernel
theorem lr_29 : rowD (1041, (1, (127, (135, (243, 138))))) = true := by decide +kernel
theorem lr_30 : rowD (1064, (2, (128, (139, (245, 142))))) = true := by decide +kernel
theorem lr_31 : rowD (1097, (2, (129, (143, (246, 146))))) = true := by decide +kernel
theorem lr_32 : rowD (1130, (1, (130, (147, (249, 150))))) = true := by decide +kernel
theorem lr_33 : rowD (1153, (1, (131, (151, (254, 154))))) = true := by decide +kernel
theorem lr_34 : rowD (1176, (1, (132, (155, (255, 158))))) = true := by decide +kernel
theorem lr_35 : rowD (1199, (4, (133, (159, (258, 162))))) = true := by decide +kernel
theorem lr_36 : rowD (1252, (1, (134, (163, (259, 166))))) = true := by decide +kernel
theorem lr_37 : rowD (1275, (1, (135, (167, (262, 170))))) = true := by decide +kernel
theorem lr_38 : rowD (1298, (1, (136, (171, (263, 174))))) = true := by decide +kernel
theorem lawT_ok : ∀ x ∈ lawT, rowD x = true := List.forall_mem_cons.mpr ⟨lr_0, List.forall_mem_cons.mpr ⟨lr_1, List.forall_mem_cons.mpr ⟨lr_2, List.forall_mem_cons.mpr ⟨lr_3, List.forall_mem_cons.mpr ⟨lr_4, List.forall_mem_cons.mpr ⟨lr_5, List.forall_mem_cons.mpr ⟨lr_6, List.forall_mem_cons.mpr ⟨lr_7, List.forall_mem_cons.mpr ⟨lr_8, List.forall_mem_cons.mpr ⟨lr_9, List.forall_mem_cons.mpr ⟨lr_10, List.forall_mem_cons.mpr ⟨lr_11, List.forall_mem_cons.mpr ⟨lr_12, List.forall_mem_cons.mpr ⟨lr_13, List.forall_mem_cons.mpr ⟨lr_14, List.forall_mem_cons.mpr ⟨lr_15, List.forall_mem_cons.mpr ⟨lr_16, List.forall_mem_cons.mpr ⟨lr_17, List.forall_mem_cons.mpr ⟨lr_18, List.forall_mem_cons.mpr ⟨lr_19, List.forall_mem_cons.mpr ⟨lr_20, List.forall_mem_cons.mpr ⟨lr_21, List.forall_mem_cons.mpr ⟨lr_22, List.forall_mem_cons.mpr ⟨lr_23, List.forall_mem_cons.mpr ⟨lr_24, List.forall_mem_cons.mpr ⟨lr_25, List.forall_mem_cons.mpr ⟨lr_26, List.forall_mem_cons.mpr ⟨lr_27, List.forall_mem_cons.mpr ⟨lr_28, List.forall_mem_cons.mpr ⟨lr_29, List.forall_mem_cons.mpr ⟨lr_30, List.forall_mem_cons.mpr ⟨lr_31, List.forall_mem_cons.mpr ⟨lr_32, List.forall_mem_cons.mpr ⟨lr_33, List.forall_mem_cons.mpr ⟨lr_34, List.forall_mem_cons.mpr ⟨lr_35, List.forall_mem_cons.mpr ⟨lr_36, List.forall_mem_cons.mpr ⟨lr_37, List.forall_mem_cons.mpr ⟨lr_38, fun x hx => absurd hx List.not_mem_nil⟩⟩⟩⟩⟩⟩⟩⟩⟩⟩⟩⟩⟩⟩⟩⟩⟩⟩⟩⟩⟩⟩⟩⟩⟩⟩⟩⟩⟩⟩⟩⟩⟩⟩⟩⟩⟩⟩⟩
theorem lawT_b : ∀ x ∈ lawT, Bth x.2.2.1 x.2.2.2.2.1 x.2.1 := List.forall_mem_cons.mpr ⟨b_0, List.forall_mem_cons.mpr ⟨b_1, List.forall_mem_cons.mpr ⟨b_2, List.forall_mem_cons.mpr ⟨b_3, List.forall_mem_cons.mpr ⟨b_4, List.forall_mem_cons.mpr ⟨b_5, List.forall_mem_cons.mpr ⟨b_6, List.forall_mem_cons.mpr ⟨b_7, List.forall_mem_cons.mpr ⟨b_8, List.forall_mem_cons.mpr ⟨b_9, List.forall_mem_cons.mpr ⟨b_10, List.forall_mem_cons.mpr ⟨b_11, List.forall_mem_cons.mpr ⟨b_12, List.forall_mem_cons.mpr ⟨b_13, List.forall_mem_cons.mpr ⟨b_14, List.forall_mem_cons.mpr ⟨b_15, List.forall_mem_cons.mpr ⟨b_16, List.forall_mem_cons.mpr ⟨b_17, List.forall_mem_cons.mpr ⟨b_18, List.forall_mem_cons.mpr ⟨b_19, List.forall_mem_cons.mpr ⟨b_20, List.forall_mem_cons.mpr ⟨b_21, List.forall_mem_cons.mpr ⟨b_22, List.forall_mem_cons.mpr ⟨b_23, List.forall_mem_cons.mpr ⟨b_24, List.forall_mem_cons.mpr ⟨b_25, List.forall_mem_cons.mpr ⟨b_26, List.forall_mem_cons.mpr ⟨b_27, List.forall_mem_cons.mpr ⟨b_28, List.forall_mem_cons.mpr ⟨b_29, List.forall_mem_cons.mpr ⟨b_30, List.forall_mem_cons.mpr ⟨b_31, List.forall_mem_cons.mpr ⟨b_32, List.forall_mem_cons.mpr ⟨b_33, List.forall_mem_cons.mpr ⟨b_34, List.forall_mem_cons.mpr ⟨b_35, List.forall_mem_cons.mpr ⟨b_36, List.forall_mem_cons.mpr ⟨b_37, List.forall_mem_cons.mpr ⟨b_38, fun x hx => absurd hx List.not_mem_nil⟩⟩⟩⟩⟩⟩⟩⟩⟩⟩⟩⟩⟩⟩⟩⟩⟩⟩⟩⟩⟩⟩⟩⟩⟩⟩⟩⟩⟩⟩⟩⟩⟩⟩⟩⟩⟩⟩⟩
def lawS : Array Int := #[171, 234, 257, 270, 283, 306, 339, 372, 385, 408, 441, 474, 497, 510, 553, 586, 619, 642, 665, 678, 711, 744, 797, 840, 863, 876, 909, 942, 975, 1008, 1031, 1064, 1097, 1120, 1143, 1166, 1219, 1242, 1265]
theorem lawS_ok : ∀ k, k < 39 → (match lawT[k]? with
  | some x => decide (lawS[k]? = some ((x.1 : Int) - 33))
  | none => false) = true := by decide +kernel
theorem i32_of {k : Nat} (h : k ≤ 5) : Int32.ofInt (Int.ofNat k) = nI k := by
  have : k = 0 ∨ k = 1 ∨ k = 2 ∨ k = 3 ∨ k = 4 ∨ k = 5 := by omega
  rcases this with rfl | rfl | rfl | rfl | rfl | rfl <;> rfl
section LAW4
variable {p : Program} {l : Launch} {e : Env} {s : State} {m : MethodId} {below : List Frame} {meth : Method} {c : Code} {D : va_G} {cy : Nat → ClassId} {A : Nat → Prop} {Q : State → Prop} {b : Nat}
theorem law_args {sA : Nat → Nat} {L i : Nat} {xs : Nat → Int32} {H : Heap} {locs : List Loc} {ls : Array Slot} {cells slots : Nat} (C : lwC p s m c b D cy sA A) (hX : va_X b L xs s s.heap) (hbl : b < s.heap.size) (hbA : ¬ A b) (hS : va_S A s.heap H locs) (hi : i + 6 ≤ L) (hL : L ≤ 3072)
    (h0 : ls[0]? = some (.val (.ref b))) (h3 : ls[3]? = some (.val (.int (nI i)))) : ∀ (r k pc : Nat) (rest : List Value), k + r ≤ 6 → argsD r pc k = true →
    W p l e room_1 s m #[Value.ref b] below meth c H locs cells slots Q (F0 m (pc + 5 * r) ls (((List.range' k r).map fun j => Value.int (xs (i + j))).reverse ++ rest)) → W p l e room_1 s m #[Value.ref b] below meth c H locs cells slots Q (F0 m pc ls rest) := by
  intro r
  induction r with
  | zero => exact fun k pc rest _ _ K => K
  | succ r ih =>
    intro k pc rest hk hd K
    have hd' : (argD pc k && argsD r (pc + 5) (k + 1)) = true := hd
    rw [Bool.and_eq_true] at hd'
    obtain ⟨g, g'⟩ := hd'
    unfold argD at g
    rw [Bool.and_eq_true, Bool.and_eq_true, Bool.and_eq_true, Bool.and_eq_true, decide_eq_true_eq, decide_eq_true_eq, decide_eq_true_eq, decide_eq_true_eq, decide_eq_true_eq] at g
    obtain ⟨d0, d1, d2, d3, d4⟩ := g
    refine law_arg C hX hbl hbA hS (j := k) (by omega) hL h0 h3 (i32_of (by omega)) d0 d1 d2 d3 d4 ?_
    refine ih (k + 1) (pc + 5) _ (by omega) g' ?_
    rw [show pc + 5 + 5 * r = pc + 5 * (r + 1) by omega]
    have e1 : ((List.range' (k + 1) r).map fun j => Value.int (xs (i + j))).reverse ++ (Value.int (xs (i + k)) :: rest) = ((List.range' k (r + 1)).map fun j => Value.int (xs (i + j))).reverse ++ rest := by
      rw [List.range'_succ, List.map_cons, List.reverse_cons, List.append_assoc]
      rfl
    rw [e1]
    exact K
theorem law_two {x : Nat × (Nat × (Nat × (Nat × (Nat × Nat))))} (hrow : rowD x = true) {sA : Nat → Nat} {L i : Nat} {xs : Nat → Int32} {H : Heap} {locs : List Loc} {ls : Array Slot} {cells slots : Nat} {ρx ρm : Nat → Nat → Nat} {hx hm h1 h2 : qM} {v : Int32} (C : lwC p s m c b D cy sA A) (hX : va_X b L xs s s.heap) (hbl : b < s.heap.size) (hbA : ¬ A b) (hS : va_S A s.heap H locs) (hi : i + 6 ≤ L) (hL : L ≤ 3072)
    (hls : ls.size = 4) (l0 : ls[0]? = some (.val (.ref b))) (l1 : ls[1]? = some (.val (.ref (ρx 11 0)))) (l2 : ls[2]? = some (.val (.ref (ρm 12 0)))) (l3 : ls[3]? = some (.val (.int (nI i)))) (hsx : ρx 19 = sA) (hsm : ρm 19 = sA) (hjx : 0 < mC hx 11) (hjm : 0 < mC hm 12) (hcx : qCl hx) (hcm : qCl hm) (hT : qTwo D cy A ρx ρm hx hm H)
    (eX : qcal x.2.2.1 (qR 11 (some 0) :: aL x.2.1 (fun j => xs (i + j))) hx = some (h1, some (qI v))) (eM : qcal x.2.2.2.2.1 (qR 12 (some 0) :: aL x.2.1 (fun j => xs (i + j))) hm = some (h2, some (qI v)))
    (hc : cells + ((mA h1).1 - (mA hx).1) + ((mA h2).1 - (mA hm).1) ≤ room_1.cells) (hs : slots + ((mA h1).2 - (mA hx).2) + ((mA h2).2 - (mA hm).2) ≤ room_1.slots)
    (kk : ∀ (ρ1 ρ2 : Nat → Nat → Nat) (H' : Heap) (locs' : List Loc), qTwo D cy A ρ1 ρ2 h1 h2 H' → va_S A s.heap H' locs' → ρ1 19 = sA → ρ2 19 = sA → ρ1 11 0 = ρx 11 0 → ρ2 12 0 = ρm 12 0 → qCl h1 → qCl h2 →
      W p l e room_1 s m #[Value.ref b] below meth c H' locs' (cells + ((mA h1).1 - (mA hx).1) + ((mA h2).1 - (mA hm).1)) (slots + ((mA h1).2 - (mA hx).2) + ((mA h2).2 - (mA hm).2)) Q (F0 m 1321 ls [])) :
    W p l e room_1 s m #[Value.ref b] below meth c H locs cells slots Q (F0 m x.1 ls []) := by
  obtain ⟨pc, a, mX, nX, mM, nM⟩ := x
  have hrow' : (blkD pc a nX nM && (mdD mX 11 a nX && (mdD mM 12 a nM && decide (a ≤ 5)))) = true := hrow
  rw [Bool.and_eq_true, Bool.and_eq_true, Bool.and_eq_true, decide_eq_true_eq] at hrow'
  obtain ⟨hblk, hmX, hmM, ha⟩ := hrow'
  obtain ⟨mdX, x1, x2, x3, x4, x5, x6, x7⟩ := mdD_of hmX
  obtain ⟨mdM, y1, y2, y3, y4, y5, y6, y7⟩ := mdD_of hmM
  unfold blkD at hblk
  rw [Bool.and_eq_true, Bool.and_eq_true, Bool.and_eq_true, Bool.and_eq_true, Bool.and_eq_true, Bool.and_eq_true, decide_eq_true_eq, decide_eq_true_eq, decide_eq_true_eq, decide_eq_true_eq, decide_eq_true_eq] at hblk
  obtain ⟨d1, da, d2, d3, db, d4, d5⟩ := hblk
  have hlen : ∀ ys, (aL a ys).length = a := fun ys => by
    unfold aL
    rw [List.length_map, List.length_range']
  have has : ∀ w ∈ aL a (fun j => xs (i + j)), ∃ z, w = qI z := fun w hw => by
    unfold aL at hw
    obtain ⟨j, -, rfl⟩ := List.mem_map.mp hw
    exact ⟨_, rfl⟩
  have hrv : ∀ ρ, (aL a (fun j => xs (i + j))).map (rv ρ) = (List.range' 1 a).map fun j => Value.int (xs (i + j)) := fun ρ => by
    unfold aL
    rw [List.map_map]
    rfl
  obtain ⟨hx0, hb, -⟩ := id C
  refine lv_aload_n hx0 hb d1 rfl l1 ?_
  refine law_args C hX hbl hbA hS hi hL l0 l3 a 1 (pc + 1) _ (by omega) da ?_
  rw [← hrv ρx]
  refine law_call C hsx x1 x2 (by decide) x3 x4 x5 x6 x7 eX (hlen _) has hjx hcx hT hS hls (by omega) (by omega) (by decide) d2 fun ρ1 H1 locs1 hT1 hS1 hs1 hr1 hc1 => ?_
  rw [show pc + 1 + 5 * a + 3 = pc + 4 + 5 * a by omega]
  refine lv_aload_n hx0 hb d3 rfl l2 ?_
  rw [show pc + 4 + 5 * a + 1 = pc + 5 + 5 * a by omega]
  refine law_args C hX hbl hbA hS1 hi hL l0 l3 a 1 (pc + 5 + 5 * a) _ (by omega) db ?_
  rw [← hrv ρm, show pc + 5 + 5 * a + 5 * a = pc + 5 + 10 * a by omega]
  refine law_call C hsm y1 y2 (by decide) y3 y4 y5 y6 y7 eM (hlen _) has hjm hcm hT1.swap hS1 hls hc hs (by show 1 + 0 ≤ 8; decide) d4 fun ρ2 H2 locs2 hT2 hS2 hs2 hr2 hc2 => ?_
  rw [show pc + 5 + 10 * a + 3 = pc + 8 + 10 * a by omega]
  refine lv_icmp_eq (tgt := 1321) hx0 hb d5 (by omega) (fun _ => ?_) (fun z => absurd rfl z)
  exact kk ρ1 ρ2 H2 locs2 hT2.swap hS2 hs1 hs2 hr1 hr2 hc1 hc2
end LAW4
