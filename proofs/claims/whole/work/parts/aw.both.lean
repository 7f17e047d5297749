/-! THE LAW: both answer alike, and keep alike -/
theorem bt_ok (x : Int32) (k : Nat) : -128 ≤ (bt x k).toInt ∧ (bt x k).toInt ≤ 127 := by
  unfold bt
  rw [Int8.toInt_toInt32]
  generalize Int32.toInt8 (Int8.toInt32 (Int32.toInt8 (x >>> (nI k &&& 31)))) = y
  have h1 := Int8.le_toInt y
  have h2 := Int8.toInt_lt y
  omega
theorem put1_ok {Y : Nat → Int32} (h : tpOk Y) (n : Nat) {v : Int32} (hv : -128 ≤ v.toInt ∧ v.toInt ≤ 127) : tpOk (put1 Y n v) := fun i => by
  unfold put1
  split
  · exact hv
  · exact h i
theorem putI_ok {Y : Nat → Int32} (h : tpOk Y) (n : Nat) (x : Int32) : tpOk (putI Y n x) := put1_ok (put1_ok (put1_ok (put1_ok h _ (bt_ok x 24)) _ (bt_ok x 16)) _ (bt_ok x 8)) _ (bt_ok x 0)
theorem sFeed_tp {w : Wd} (h : tpOk (wY w)) (a b c d e : Int32) : tpOk (wY (sFeed w a b c d e).2) := by
  unfold sFeed
  split
  · exact putI_ok (putI_ok (putI_ok (putI_ok (putI_ok h _ a) _ b) _ c) _ d) _ e
  · exact h
theorem sDay_Y (w : Wd) : wY (sDay w).2 = wY w := by unfold sDay; split <;> rfl
theorem sBegin_Y (w : Wd) (x : Int32) : wY (sBegin w x).2 = wY w := by unfold sBegin; split <;> rfl
theorem sLive_Y (w : Wd) (x y : Int32) : wY (sLive w x y).2 = wY w := by unfold sLive; split <;> rfl
theorem sGive_Y (w : Wd) (x y : Int32) : wY (sGive w x y).2 = wY w := by unfold sGive; split <;> rfl
theorem sHush_Y (w : Wd) (x : Int32) : wY (sHush w x).2 = wY w := by unfold sHush; split <;> rfl
theorem sUndo_Y (w : Wd) : wY (sUndo w).2 = wY w := by unfold sUndo; split <;> rfl
theorem sForce_Y (w : Wd) (x : Int32) : wY (sForce w x).2 = wY w := by unfold sForce; split <;> rfl
theorem sSeed_Y (w : Wd) (x : Int32) : wY (sSeed w x).2 = wY w := by unfold sSeed; split <;> rfl
theorem sEnd_Y (w : Wd) (x : Int32) : wY (sEnd w x).2 = wY w := by unfold sEnd; split <;> rfl
theorem sNote_Y (w : Wd) (x y : Int32) : wY (sNote w x y).2 = wY w := by
  unfold sNote
  split
  · rfl
  · split <;> rfl
theorem sImage_Y (w : Wd) (x : Int32) : wY (sImage w x).2 = wY w := by unfold sImage; split <;> rfl
theorem sBack_Y (w : Wd) (x : Int32) : wY (sBack w x).2 = wY w := by
  unfold sBack
  split
  · split <;> rfl
  · rfl
theorem sVillage_Y (w : Wd) : wY (sVillage w).2 = wY w := by unfold sVillage; split <;> rfl
/-- a call on both -/
def Bo (GM GX : qG) (oM oX : Option qO) : Prop := ∃ w' v, MC GM oM w' v ∧ XC GX oX w' v ∧ wdOk w' ∧ tpOk (wY w')
theorem Bo.q {A : Ad} {w : Wd} (hw : wdOk w) (hY : tpOk (wY w)) {GM GX : qG} {IM IX : qIm} (hM : MS w IM) (hX : XSa A w GX IX) {oM oX : Option qO} {v : Int32} (gM : GW GM oM (fun I' _ x => x = v ∧ FrM IM I')) (gX : CW GX IX oX v) : Bo GM GX oM oX := ⟨w, v, MC.ofW hw hM gM, XC.ofC hw hX gX, hw, hY⟩
def aL (a : Nat) (xs : Nat → Int32) : List qV := (List.range' 1 a).map fun j => qI (xs j)
def Bth (mX mM a : Nat) : Prop := ∀ (A : Ad) (w : Wd) (GM GX : qG) (IM IX : qIm) (JM JX : qJm), wdOk w → tpOk (wY w) → MGeo GM → MS w IM → XSa A w GX IX → ∀ xs : Nat → Int32, Bo GM GX (qcal mM (qR 12 (some 0) :: aL a xs) (gm GM IM JM)) (qcal mX (qR 11 (some 0) :: aL a xs) (gm GX IX JX))
theorem b_0 : Bth 98 151 5 := fun A w GM GX IM IX JM JX hw hY XM hM hX xs => by
  exact ⟨_, _, M_feed XM hw hM (a := xs 1) (b := xs 2) (c := xs 3) (d := xs 4) (e := xs 5), X_feed hw hX (a := xs 1) (b := xs 2) (c := xs 3) (d := xs 4) (e := xs 5), sFeed_ok hw _ _ _ _ _, sFeed_tp hY _ _ _ _ _⟩
theorem b_1 : Bth 99 153 1 := fun A w GM GX IM IX JM JX hw hY XM hM hX xs => by
  exact ⟨_, _, M_end XM hw hM (xs 1), X_end hw hX (xs 1), sEnd_ok hw _, by rw [sEnd_Y w _]; exact hY⟩
theorem b_2 : Bth 100 183 0 := fun A w GM GX IM IX JM JX hw hY XM hM hX xs => by
  exact ⟨_, _, M_village XM hw hY hM, X_village hw hX, sVillage_ok hw, by rw [sVillage_Y w]; exact hY⟩
theorem b_3 : Bth 101 185 0 := fun A w GM GX IM IX JM JX hw hY XM hM hX xs => by
  obtain ⟨w', v, h1, h2, h3, h4⟩ := rule_both (JM := JM) (JX := JX) hw hY XM hM hX
  exact ⟨w', v, h1, h2, h3, by rw [h4]; exact hY⟩
theorem b_4 : Bth 102 186 1 := fun A w GM GX IM IX JM JX hw hY XM hM hX xs => by
  exact ⟨_, _, M_force XM hw hM (xs 1), X_force hw hX (xs 1), sForce_ok hw _, by rw [sForce_Y w _]; exact hY⟩
theorem b_5 : Bth 103 191 2 := fun A w GM GX IM IX JM JX hw hY XM hM hX xs => by
  obtain ⟨rr, hrr, hq⟩ := hX.ru hw
  exact Bo.q hw hY hM hX (M_person XM hw.1.1 (hM.run hw) (xs 1) (xs 2)) (X_person hX.1 hw.1.1 JX hq (xs 1) (xs 2))
theorem b_6 : Bth 104 192 2 := fun A w GM GX IM IX JM JX hw hY XM hM hX xs => by
  obtain ⟨rr, hrr, hq⟩ := hX.ru hw
  exact Bo.q hw hY hM hX (M_letter XM hw.1.1 (hM.run hw) (xs 1) (xs 2)) (X_letter hX.1 hw.1.1 JX hq (xs 1) (xs 2))
theorem b_7 : Bth 105 207 0 := fun A w GM GX IM IX JM JX hw hY XM hM hX xs => by
  exact ⟨_, _, M_day XM hw hM, X_dayC hw hX, sDay_ok hw, by rw [sDay_Y w]; exact hY⟩
theorem b_8 : Bth 106 208 1 := fun A w GM GX IM IX JM JX hw hY XM hM hX xs => by
  exact ⟨_, _, M_begin XM hw hM (xs 1), X_beginC hw hX (xs 1), sBegin_ok hw _, by rw [sBegin_Y w _]; exact hY⟩
theorem b_9 : Bth 107 209 2 := fun A w GM GX IM IX JM JX hw hY XM hM hX xs => by
  exact ⟨_, _, M_live XM hw hM (xs 1) (xs 2), X_liveC hw hX (xs 1) (xs 2), sLive_ok hw _ _, by rw [sLive_Y w _ _]; exact hY⟩
theorem b_10 : Bth 108 210 2 := fun A w GM GX IM IX JM JX hw hY XM hM hX xs => by
  exact ⟨_, _, M_give XM hw hM (xs 1) (xs 2), X_giveC hw hX (xs 1) (xs 2), sGive_ok hw _ _, by rw [sGive_Y w _ _]; exact hY⟩
theorem b_11 : Bth 109 211 1 := fun A w GM GX IM IX JM JX hw hY XM hM hX xs => by
  exact ⟨_, _, M_hush XM hw hM (xs 1), X_hushC hw hX (xs 1), sHush_ok hw _, by rw [sHush_Y w _]; exact hY⟩
theorem b_12 : Bth 110 206 0 := fun A w GM GX IM IX JM JX hw hY XM hM hX xs => by
  exact ⟨_, _, M_undo XM hw hM, X_undoC hw hX, sUndo_ok hw, by rw [sUndo_Y w]; exact hY⟩
theorem b_13 : Bth 111 196 3 := fun A w GM GX IM IX JM JX hw hY XM hM hX xs => by
  obtain ⟨rr, hrr, hq⟩ := hX.ru hw
  exact Bo.q hw hY hM hX (M_fitsQ XM hw.1.1 (hM.run hw) (xs 1) (xs 2) (xs 3)) (X_fitsQ hX.1 hw.1.1 JX hq (xs 1) (xs 2) (xs 3))
theorem b_14 : Bth 112 212 2 := fun A w GM GX IM IX JM JX hw hY XM hM hX xs => by
  obtain ⟨rr, hrr, hq⟩ := hX.ru hw
  exact Bo.q hw hY hM hX (M_whose XM hw.1.1 (hM.run hw) (xs 1) (xs 2)) (X_whose hX.1 hw.1.1 JX hq (xs 1) (xs 2))
theorem b_15 : Bth 113 216 2 := fun A w GM GX IM IX JM JX hw hY XM hM hX xs => by
  obtain ⟨rr, hrr, hq⟩ := hX.ru hw
  exact Bo.q hw hY hM hX (M_ask XM hw.1.1 (hM.run hw) (xs 1) (xs 2)) (X_ask hX.1 hw.1.1 JX hq (xs 1) (xs 2))
theorem b_16 : Bth 114 218 1 := fun A w GM GX IM IX JM JX hw hY XM hM hX xs => by
  obtain ⟨rr, hrr, hq⟩ := hX.ru hw
  exact Bo.q hw hY hM hX (M_know XM hw.1.1 (hM.run hw) (xs 1)) (X_know hX.1 hw.1.1 JX hq (xs 1))
theorem b_17 : Bth 115 222 1 := fun A w GM GX IM IX JM JX hw hY XM hM hX xs => by
  obtain ⟨rr, hrr, hq⟩ := hX.ru hw
  exact Bo.q hw hY hM hX (M_pairs XM hw.1.1 (hM.run hw) (xs 1)) (X_pairs hX.1 hw.1.1 JX hq (xs 1))
theorem b_18 : Bth 116 223 0 := fun A w GM GX IM IX JM JX hw hY XM hM hX xs => by
  obtain ⟨rr, hrr, hq⟩ := hX.ru hw
  exact Bo.q hw hY hM hX (M_best XM hw.1.1 (hM.run hw) ) (X_best hX.1 hw.1.1 JX hq )
theorem b_19 : Bth 117 226 2 := fun A w GM GX IM IX JM JX hw hY XM hM hX xs => by
  obtain ⟨rr, hrr, hq⟩ := hX.ru hw
  exact Bo.q hw hY hM hX (M_way XM hw.1.1 (hM.run hw) (xs 1) (xs 2)) (X_way hX.1 hw.1.1 JX hq hrr (xs 1) (xs 2))
theorem b_20 : Bth 118 228 2 := fun A w GM GX IM IX JM JX hw hY XM hM hX xs => by
  obtain ⟨rr, hrr, hq⟩ := hX.ru hw
  exact Bo.q hw hY hM hX (M_join XM hw.1.1 (hM.run hw) (xs 1) (xs 2)) (X_join hX.1 hw.1.1 JX hq (xs 1) (xs 2))
theorem b_21 : Bth 119 231 4 := fun A w GM GX IM IX JM JX hw hY XM hM hX xs => by
  obtain ⟨rr, hrr, hq⟩ := hX.ru hw
  exact Bo.q hw hY hM hX (M_rests XM hw.1.1 (hM.run hw) (xs 1) (xs 2) (xs 3) (xs 4)) (X_rests hX.1 hw.1.1 JX hq (xs 1) (xs 2) (xs 3) (xs 4))
theorem b_22 : Bth 120 234 3 := fun A w GM GX IM IX JM JX hw hY XM hM hX xs => by
  obtain ⟨rr, hrr, hq⟩ := hX.ru hw
  exact Bo.q hw hY hM hX (M_ahead XM hw.1.1 (hM.run hw) (xs 1) (xs 2) (xs 3)) (X_ahead hX.1 hw.1.1 JX hq hrr (xs 1) (xs 2) (xs 3))
theorem b_23 : Bth 121 236 1 := fun A w GM GX IM IX JM JX hw hY XM hM hX xs => by
  obtain ⟨rr, hrr, hq⟩ := hX.ru hw
  exact Bo.q hw hY hM hX (M_first XM hw.1.1 (hM.run hw) (xs 1)) (X_first hX.1 hw.1.1 JX hq hrr (xs 1))
theorem b_24 : Bth 122 237 0 := fun A w GM GX IM IX JM JX hw hY XM hM hX xs => by
  obtain ⟨rr, hrr, hq⟩ := hX.ru hw
  exact Bo.q hw hY hM hX (M_nobody XM hw.1.1 (hM.run hw) ) (X_nobody hX.1 hw.1.1 JX hq hrr )
theorem b_25 : Bth 123 238 2 := fun A w GM GX IM IX JM JX hw hY XM hM hX xs => by
  obtain ⟨rr, hrr, hq⟩ := hX.ru hw
  exact Bo.q hw hY hM hX (M_often XM hw.1.1 (hM.run hw) (xs 1) (xs 2)) (X_often hX.1 hw.1.1 JX hq hrr (xs 1) (xs 2))
theorem b_26 : Bth 124 240 2 := fun A w GM GX IM IX JM JX hw hY XM hM hX xs => by
  obtain ⟨rr, hrr, hq⟩ := hX.ru hw
  exact Bo.q hw hY hM hX (M_start XM hw.1.1 (hM.run hw) (xs 1) (xs 2)) (X_start hX.1 hw.1.1 JX hq hrr (xs 1) (xs 2))
theorem b_27 : Bth 125 251 2 := fun A w GM GX IM IX JM JX hw hY XM hM hX xs => by
  exact Bo.q hw hY hM hX (M_livesQ XM hw hM (xs 1) (xs 2)) (X_livesQ hw JX hX (xs 1) (xs 2))
theorem b_28 : Bth 126 252 2 := fun A w GM GX IM IX JM JX hw hY XM hM hX xs => by
  exact Bo.q hw hY hM hX (M_writes XM hw hM (xs 1) (xs 2)) (X_writes hw JX hX (xs 1) (xs 2))
theorem b_29 : Bth 127 243 1 := fun A w GM GX IM IX JM JX hw hY XM hM hX xs => by
  obtain ⟨rr, hrr, hq⟩ := hX.ru hw
  exact Bo.q hw hY hM hX (M_alike XM hw.1.1 (hM.run hw) (xs 1)) (X_alike hX.1 hw.1.1 JX hq hrr (xs 1))
theorem b_30 : Bth 128 245 2 := fun A w GM GX IM IX JM JX hw hY XM hM hX xs => by
  obtain ⟨rr, hrr, hq⟩ := hX.ru hw
  exact Bo.q hw hY hM hX (M_pence XM hw.1.1 (hM.run hw) (xs 1) (xs 2)) (X_pence hX.1 hw.1.1 JX hq (xs 1) (xs 2))
theorem b_31 : Bth 129 246 2 := fun A w GM GX IM IX JM JX hw hY XM hM hX xs => by
  exact ⟨_, _, M_note XM hw hM (xs 1) (xs 2), X_note hw hX (xs 1) (xs 2), sNote_ok hw _ _, by rw [sNote_Y w _ _]; exact hY⟩
theorem b_32 : Bth 130 249 1 := fun A w GM GX IM IX JM JX hw hY XM hM hX xs => by
  exact Bo.q hw hY hM hX (M_ruled XM hw hM (xs 1)) (X_ruled hw JX hX (xs 1))
theorem b_33 : Bth 131 254 1 := fun A w GM GX IM IX JM JX hw hY XM hM hX xs => by
  exact Bo.q hw hY hM hX (M_look XM hw hM (xs 1)) (X_look hw JX hX (xs 1))
theorem b_34 : Bth 132 255 1 := fun A w GM GX IM IX JM JX hw hY XM hM hX xs => by
  exact ⟨_, _, M_seed XM hw hM (xs 1), X_seed hw hX (xs 1), sSeed_ok hw _, by rw [sSeed_Y w _]; exact hY⟩
theorem b_35 : Bth 133 258 4 := fun A w GM GX IM IX JM JX hw hY XM hM hX xs => by
  obtain ⟨rr, hrr, hq⟩ := hX.ru hw
  exact Bo.q hw hY hM hX (M_rains XM hw.1.1 (hM.run hw) hM.1.2.2.1 hw.1.2.2.2.2.2.2.2 (xs 1) (xs 2) (xs 3) (xs 4)) (X_rains hX.1 hw.1.1 JX hq hrr hX.2.1.2.2.2.2.2 hw.1.2.2.2.2.2.2.2 (xs 1) (xs 2) (xs 3) (xs 4))
theorem b_36 : Bth 134 259 1 := fun A w GM GX IM IX JM JX hw hY XM hM hX xs => by
  exact ⟨w, _, M_count XM hw hM (xs 1), X_count hw hX (xs 1), hw, hY⟩
theorem b_37 : Bth 135 262 1 := fun A w GM GX IM IX JM JX hw hY XM hM hX xs => by
  exact ⟨_, _, M_image XM hw hM (xs 1), X_image hw hX (xs 1), sImage_ok hw _, by rw [sImage_Y w _]; exact hY⟩
theorem b_38 : Bth 136 263 1 := fun A w GM GX IM IX JM JX hw hY XM hM hX xs => by
  exact ⟨_, _, M_back XM hw hM (xs 1), X_back hw hX (xs 1), sBack_ok hw _, by rw [sBack_Y w _]; exact hY⟩
