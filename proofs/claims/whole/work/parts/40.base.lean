/-! PURE ROWS: reading what was written; small numbers and sets -/
theorem qbI_some (h : qM) (x : Int32) (f : Int32 → qM → Option qO) : qbI (some (h, some (qI x))) f = f x h := rfl
theorem qbJ_some (h : qM) (x : Int64) (f : Int64 → qM → Option qO) : qbJ (some (h, some (qJ x))) f = f x h := rfl
theorem qbV_some (h : qM) (f : qM → Option qO) : qbV (some (h, none)) f = f h := rfl
theorem qbR_some (n : Nat) (h : qM) (o : Option Nat) (f : Option Nat → qM → Option qO) : qbR n (some (h, some (qR n o))) f = f o h := by
  unfold qbR
  rw [Option.bind_some]
  dsimp only
  rw [show Nat.beq n n = true from Nat.beq_refl n, cond_true]
theorem qlet_eq {α β : Type} (v : α) (f : α → β) : qlet v f = f v := rfl
theorem qnn_none (a b : Option qO) : qnn none a b = a := rfl
theorem qnn_some (x : Nat) (a b : Option qO) : qnn (some x) a b = b := rfl
theorem obind_some {α β : Type} (a : α) (f : α → Option β) : Option.bind (some a) f = f a := rfl
theorem blt_true {a b : Nat} (h : a < b) : Nat.blt a b = true := Nat.ble_eq_true_of_le h
theorem ble_true {a b : Nat} (h : a ≤ b) : Nat.ble a b = true := Nat.ble_eq_true_of_le h
theorem qin_nI {i n : Nat} (h : i < n) (hn : n ≤ 2 ^ 31) : qin (nI i) n = true := by
  unfold qin
  rw [Bool.and_eq_true, Bool.not_eq_true', decide_eq_false_iff_not]
  exact ⟨nI_pos (by omega), by rw [nI_clamp (by omega)]; exact blt_true h⟩
theorem mI_sI (h : qM) (k j s : Nat) (v : Int32) (k' j' s' : Nat) : mI (sI h k j s v) k' j' s' = if k' = k ∧ j' = j ∧ s' = s then v else mI h k' j' s' := rfl
theorem mI_sJ (h : qM) (k j s : Nat) (v : Int64) : mI (sJ h k j s v) = mI h := rfl
theorem mI_sP (h : qM) (k j s : Nat) (v : Option Nat) : mI (sP h k j s v) = mI h := rfl
theorem mI_sW (h : qM) (k j : Nat) (g : Nat → Int32) (k' j' s' : Nat) : mI (sW h k j g) k' j' s' = if k' = k ∧ j' = j then g s' else mI h k' j' s' := rfl
theorem mJ_sI (h : qM) (k j s : Nat) (v : Int32) : mJ (sI h k j s v) = mJ h := rfl
theorem mJ_sJ (h : qM) (k j s : Nat) (v : Int64) (k' j' s' : Nat) : mJ (sJ h k j s v) k' j' s' = if k' = k ∧ j' = j ∧ s' = s then v else mJ h k' j' s' := rfl
theorem mJ_sP (h : qM) (k j s : Nat) (v : Option Nat) : mJ (sP h k j s v) = mJ h := rfl
theorem mJ_sW (h : qM) (k j : Nat) (g : Nat → Int32) : mJ (sW h k j g) = mJ h := rfl
theorem mP_sI (h : qM) (k j s : Nat) (v : Int32) : mP (sI h k j s v) = mP h := rfl
theorem mP_sJ (h : qM) (k j s : Nat) (v : Int64) : mP (sJ h k j s v) = mP h := rfl
theorem mP_sW (h : qM) (k j : Nat) (g : Nat → Int32) : mP (sW h k j g) = mP h := rfl
theorem mP_sP (h : qM) (k j s : Nat) (v : Option Nat) (k' j' s' : Nat) : mP (sP h k j s v) k' j' s' = if k' = k ∧ j' = j ∧ s' = s then v else mP h k' j' s' := rfl
theorem mL_sI (h : qM) (k j s : Nat) (v : Int32) : mL (sI h k j s v) = mL h := rfl
theorem mL_sJ (h : qM) (k j s : Nat) (v : Int64) : mL (sJ h k j s v) = mL h := rfl
theorem mL_sP (h : qM) (k j s : Nat) (v : Option Nat) : mL (sP h k j s v) = mL h := rfl
theorem mL_sW (h : qM) (k j : Nat) (g : Nat → Int32) : mL (sW h k j g) = mL h := rfl
theorem mC_sI (h : qM) (k j s : Nat) (v : Int32) : mC (sI h k j s v) = mC h := rfl
theorem mC_sJ (h : qM) (k j s : Nat) (v : Int64) : mC (sJ h k j s v) = mC h := rfl
theorem mC_sP (h : qM) (k j s : Nat) (v : Option Nat) : mC (sP h k j s v) = mC h := rfl
theorem mC_sW (h : qM) (k j : Nat) (g : Nat → Int32) : mC (sW h k j g) = mC h := rfl
/-- how many of the lowest w bits are set -/
def pcw : Nat → Nat → Nat
  | 0, _ => 0
  | w + 1, n => n % 2 + pcw w (n / 2)
def pc (n : Nat) : Nat := pcw 10 n
theorem pcw_le : ∀ w n, pcw w n ≤ w
  | 0, _ => Nat.le_refl 0
  | w + 1, n => by
    have := pcw_le w (n / 2)
    unfold pcw
    omega
theorem bitCount_f : ∀ n, n < 1024 → (((((((nI n - (((nI n).toUInt32 >>> ((1 : Int32).toUInt32 &&& Int32.toUInt32 31)).toInt32 &&& 1431655765))))))) : Int32) = nI n - (((nI n).toUInt32 >>> ((1 : Int32).toUInt32 &&& Int32.toUInt32 31)).toInt32 &&& 1431655765) := fun _ _ => rfl
/-- Integer.bitCount of a small set -/
theorem J_bitCount {n : Nat} (hn : n < 1024) (h : qM) : qcal 264 [qI (nI n)] h = some (h, some (qI (nI (pc n)))) := by
  rw [c264]
  simp only [qlet_eq]
  congr 3
  revert n
  decide +kernel
theorem M_bits {n : Nat} (hn : n < 1024) (h : qM) : qcal 146 [qI (nI n)] h = some (h, some (qI (nI (pc n)))) := by
  have hs : ∀ a k : Int32, ¬ (16 : Int32) ≤ k → t146 4 [some (qI (nI n)), some (qI a), some (qI k)] [] h = t146 4 [some (qI (nI n)), some (qI (a + ((nI n >>> (k &&& 31)) &&& 1))), some (qI (k + 1))] [] h := by
    intro a k hk
    rw [e146_4, if_neg hk, qlet_eq]
  rw [c146, hs _ _ (by decide : ¬ (16 : Int32) ≤ 0), hs _ _ (by decide : ¬ (16 : Int32) ≤ 0 + 1), hs _ _ (by decide : ¬ (16 : Int32) ≤ 0 + 1 + 1), hs _ _ (by decide : ¬ (16 : Int32) ≤ 0 + 1 + 1 + 1), hs _ _ (by decide : ¬ (16 : Int32) ≤ 0 + 1 + 1 + 1 + 1), hs _ _ (by decide : ¬ (16 : Int32) ≤ 0 + 1 + 1 + 1 + 1 + 1), hs _ _ (by decide : ¬ (16 : Int32) ≤ 0 + 1 + 1 + 1 + 1 + 1 + 1), hs _ _ (by decide : ¬ (16 : Int32) ≤ 0 + 1 + 1 + 1 + 1 + 1 + 1 + 1),
    hs _ _ (by decide : ¬ (16 : Int32) ≤ 0 + 1 + 1 + 1 + 1 + 1 + 1 + 1 + 1), hs _ _ (by decide : ¬ (16 : Int32) ≤ 0 + 1 + 1 + 1 + 1 + 1 + 1 + 1 + 1 + 1), hs _ _ (by decide : ¬ (16 : Int32) ≤ 0 + 1 + 1 + 1 + 1 + 1 + 1 + 1 + 1 + 1 + 1), hs _ _ (by decide : ¬ (16 : Int32) ≤ 0 + 1 + 1 + 1 + 1 + 1 + 1 + 1 + 1 + 1 + 1 + 1), hs _ _ (by decide : ¬ (16 : Int32) ≤ 0 + 1 + 1 + 1 + 1 + 1 + 1 + 1 + 1 + 1 + 1 + 1 + 1), hs _ _ (by decide : ¬ (16 : Int32) ≤ 0 + 1 + 1 + 1 + 1 + 1 + 1 + 1 + 1 + 1 + 1 + 1 + 1 + 1), hs _ _ (by decide : ¬ (16 : Int32) ≤ 0 + 1 + 1 + 1 + 1 + 1 + 1 + 1 + 1 + 1 + 1 + 1 + 1 + 1 + 1), hs _ _ (by decide : ¬ (16 : Int32) ≤ 0 + 1 + 1 + 1 + 1 + 1 + 1 + 1 + 1 + 1 + 1 + 1 + 1 + 1 + 1 + 1),
    e146_4, if_pos (by decide : (16 : Int32) ≤ 0 + 1 + 1 + 1 + 1 + 1 + 1 + 1 + 1 + 1 + 1 + 1 + 1 + 1 + 1 + 1 + 1)]
  congr 3
  clear hs
  revert n
  decide +kernel
theorem nI_and (a b : Nat) : nI a &&& nI b = nI (a &&& b) := by
  apply Int32.toBitVec_inj.mp
  apply BitVec.eq_of_toNat_eq
  simp [nI, Int32.toBitVec_and, Nat.and_mod_two_pow]
theorem nI_or (a b : Nat) : nI a ||| nI b = nI (a ||| b) := by
  apply Int32.toBitVec_inj.mp
  apply BitVec.eq_of_toNat_eq
  simp [nI, Int32.toBitVec_or, Nat.or_mod_two_pow]
theorem nI_xor (a b : Nat) : nI a ^^^ nI b = nI (a ^^^ b) := by
  apply Int32.toBitVec_inj.mp
  apply BitVec.eq_of_toNat_eq
  simp [nI, Int32.toBitVec_xor, Nat.xor_mod_two_pow]
/-- those of a that are not of b -/
theorem nI_andn (a b : Nat) : nI a &&& (nI b ^^^ (-1)) = nI (a ^^^ (a &&& b)) := by
  rw [← nI_xor, ← nI_and]
  generalize nI a = x
  generalize nI b = y
  apply Int32.toBitVec_inj.mp
  apply BitVec.eq_of_getElem_eq
  intro i hi
  simp
  cases x.toBitVec[i] <;> cases y.toBitVec[i] <;> rfl
