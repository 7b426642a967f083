/-! bits of a long, and the law's tests of bits -/
def pl (g : Int64) (i : Nat) : Bool := g.toBitVec.getLsbD i
theorem pl_or (x y : Int64) (i : Nat) : pl (x ||| y) i = (pl x i || pl y i) := by unfold pl; rw [Int64.toBitVec_or, BitVec.getLsbD_or]
theorem pl_and (x y : Int64) (i : Nat) : pl (x &&& y) i = (pl x i && pl y i) := by unfold pl; rw [Int64.toBitVec_and, BitVec.getLsbD_and]
theorem pl_0 (i : Nat) : pl 0 i = false := BitVec.getLsbD_zero
theorem pl_sh : ∀ k, k < 64 → ((1 : Int64) <<< ((nI k).toInt64 &&& 63)).toBitVec = BitVec.twoPow 64 k := by decide +kernel
theorem pl_1 {k i : Nat} (hk : k < 64) : pl ((1 : Int64) <<< ((nI k).toInt64 &&& 63)) i = decide (i = k) := by
  unfold pl
  rw [pl_sh k hk, BitVec.getLsbD_twoPow]
  by_cases h : i = k
  · subst h; simp [hk]
  · simp [h, Ne.symm h]
theorem pl_su : ∀ k, k < 64 → (((nI k).toInt64.toUInt64 &&& Int64.toUInt64 63).toBitVec % 64).toNat = k := by decide +kernel
theorem pl_ushr (g : Int64) {k : Nat} (hk : k < 64) (i : Nat) : pl ((g.toUInt64 >>> ((nI k).toInt64.toUInt64 &&& Int64.toUInt64 63)).toInt64) i = pl g (k + i) := by
  show (g.toUInt64 >>> ((nI k).toInt64.toUInt64 &&& Int64.toUInt64 63)).toBitVec.getLsbD i = g.toUInt64.toBitVec.getLsbD (k + i)
  rw [UInt64.toBitVec_shiftRight]
  show (g.toUInt64.toBitVec >>> (((nI k).toInt64.toUInt64 &&& Int64.toUInt64 63).toBitVec % 64).toNat).getLsbD i = _
  rw [pl_su k hk, BitVec.getLsbD_ushiftRight]
theorem pl_i32 (x : Int64) {i : Nat} (hi : i < 32) : bt x.toInt32 i = pl x i := by
  unfold bt pl
  rw [Int64.toBitVec_toInt32, BitVec.getLsbD_signExtend]
  have h64 : i < 64 := by omega
  simp [hi, h64]
theorem pl_8 (v : Nat) : (8 : Int32) * nI v = nI (8 * v) := by
  rw [show (8 : Int32) = nI 8 from rfl, pk_mul]
theorem pl_4 (v : Nat) : (4 : Int32) * nI v = nI (4 * v) := by
  rw [show (4 : Int32) = nI 4 from rfl, pk_mul]
theorem pl_row (g : Int64) {v : Nat} (hv : v < 8) {u : Nat} (hu : u < 32) : bt ((((g.toUInt64 >>> ((8 * nI v).toInt64.toUInt64 &&& Int64.toUInt64 63)).toInt64).toInt32) &&& 255) u = (decide (u < 8) && pl g (8 * v + u)) := by
  rw [b_and, b_255, pl_8, pl_i32 _ hu, pl_ushr g (by omega), Bool.and_comm]
theorem pl_b1 (y : Int32) : (y &&& 1) = 1 ↔ bt y 0 = true := by
  rw [← Int32.toBitVec_inj, Int32.toBitVec_and]
  show (y.toBitVec &&& 1#32) = 1#32 ↔ y.toBitVec.getLsbD 0 = true
  rw [BitVec.and_one_eq_setWidth_ofBool_getLsbD]
  cases y.toBitVec.getLsbD 0 <;> decide
theorem pl_b0 (y : Int32) : (y &&& 1) = 0 ↔ bt y 0 = false := by
  rw [← Int32.toBitVec_inj, Int32.toBitVec_and]
  show (y.toBitVec &&& 1#32) = 0#32 ↔ y.toBitVec.getLsbD 0 = false
  rw [BitVec.and_one_eq_setWidth_ofBool_getLsbD]
  cases y.toBitVec.getLsbD 0 <;> decide
theorem pl_t1 (x : Int32) {u : Nat} (hu : u < 32) : ((x >>> (nI u &&& 31)) &&& 1) = 1 ↔ bt x u = true := by
  rw [pl_b1, b_sshr u hu x (by omega), if_pos (by omega)]
  exact Iff.rfl
theorem pl_t0 (x : Int32) {u : Nat} (hu : u < 32) : ((x >>> (nI u &&& 31)) &&& 1) = 0 ↔ bt x u = false := by
  rw [pl_b0, b_sshr u hu x (by omega), if_pos (by omega)]
  exact Iff.rfl
theorem pl_not (x : Int32) {v u : Nat} (hv : v < 32) (hu : u < 32) : bt (x &&& (((1 : Int32) <<< (nI v &&& 31)) ^^^ (-1))) u = (bt x u && decide (u ≠ v)) := by
  rw [b_and, b_xor, pd_bit hv, b_m1 u hu]
  by_cases h : u = v
  · simp [h]
  · simp [h]
theorem pl_full : ∀ T, T < 9 → ∀ i, i < 32 → bt (((1 : Int32) <<< (nI T &&& 31)) - 1) i = decide (i < T) := by decide +kernel
/-! the list of victims in a long, four bits each -/
def pl_list (g : Int64) (w : Nat → Nat) (c : Nat) : Prop := (∀ k, k < c → w k < 8 ∧ ∀ i, i < 4 → pl g (4 * k + i) = bt (nI (w k)) i) ∧ (∀ j, 4 * c ≤ j → pl g j = false)
theorem pl_list_0 (w : Nat → Nat) : pl_list 0 w 0 := ⟨fun _ h => by omega, fun j _ => pl_0 j⟩
theorem pl_big {g : Int64} {j : Nat} (h : 64 ≤ j) : pl g j = false := BitVec.getLsbD_of_ge _ _ h
theorem pl_vb : ∀ v, v < 8 → ∀ i, i < 64 → pl ((nI v).toInt64) i = (decide (i < 4) && bt (nI v) i) := by decide +kernel
theorem pl_sl : ∀ k, k < 64 → (((nI k).toInt64 &&& 63).toBitVec.smod 64).toNat = k := by decide +kernel
theorem pl_shl (x : Int64) {k : Nat} (hk : k < 64) {i : Nat} (hi : i < 64) : pl (x <<< ((nI k).toInt64 &&& 63)) i = (decide (k ≤ i) && pl x (i - k)) := by
  unfold pl
  rw [Int64.toBitVec_shiftLeft]
  show (x.toBitVec <<< (((nI k).toInt64 &&& 63).toBitVec.smod 64).toNat).getLsbD i = _
  rw [pl_sl k hk, BitVec.getLsbD_shiftLeft]
  rcases Nat.lt_or_ge i k with h | h
  · simp [h, Nat.not_le.mpr h]
  · simp [hi, h, Nat.not_lt.mpr h]
theorem pl_list_s {g : Int64} {w w' : Nat → Nat} {c v : Nat} (h : pl_list g w c) (hc : c < 8) (hv : v < 8) (hw : ∀ k, k < c → w' k = w k) (hw' : w' c = v) : pl_list (g ||| ((nI v).toInt64 <<< ((4 * nI c).toInt64 &&& 63))) w' (c + 1) := by
  rw [pl_4]
  refine ⟨fun k hk => ?_, fun j hj => ?_⟩
  · by_cases e : k = c
    · subst e
      rw [hw']
      refine ⟨hv, fun i hi => ?_⟩
      rw [pl_or, h.2 _ (by omega), pl_shl _ (by omega) (by omega), show 4 * k + i - 4 * k = i by omega, pl_vb v hv i (by omega)]
      simp [hi]
    · have hk' : k < c := by omega
      rw [hw k hk']
      refine ⟨(h.1 k hk').1, fun i hi => ?_⟩
      rw [pl_or, (h.1 k hk').2 i hi, pl_shl _ (by omega) (by omega)]
      have : ¬ 4 * c ≤ 4 * k + i := by omega
      simp [this]
  · by_cases e : j < 64
    · rw [pl_or, h.2 j (by omega), pl_shl _ (by omega) e, pl_vb v hv _ (by omega)]
      have : ¬ (j - 4 * c < 4) := by omega
      simp [this]
    · exact pl_big (by omega)
theorem pl_15 : ∀ i, i < 64 → pl 15 i = decide (i < 4) := by decide +kernel
theorem pl_nb : ∀ v, v < 8 → ∀ i, i < 32 → bt (nI v) i = (decide (i < 4) && bt (nI v) i) := by decide +kernel
theorem pl_nib {g : Int64} {w : Nat → Nat} {c k : Nat} (h : pl_list g w c) (hc : c ≤ 8) (hk : k < c) : ((((g.toUInt64 >>> ((4 * nI k).toInt64.toUInt64 &&& Int64.toUInt64 63)).toInt64) &&& 15).toInt32) = nI (w k) := by
  obtain ⟨hv, hb⟩ := h.1 k hk
  apply b_ext
  intro i hi
  rw [pl_i32 _ hi, pl_and, pl_15 i (by omega), pl_4, pl_ushr g (by omega)]
  by_cases z : i < 4
  · rw [hb i z]; simp [z]
  · rw [pl_nb (w k) hv i hi]; simp [z]
