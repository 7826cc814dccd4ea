/-! bits of Int32 (bt) and Int64 (qb_l) -/
theorem qb_t1 (y : Int32) : (y &&& 1) = 1 ↔ bt y 0 = true := by
  constructor
  · intro h
    have : bt (y &&& 1) 0 = bt 1 0 := by rw [h]
    rw [b_and] at this
    have e : bt 1 0 = true := by decide
    rw [e, Bool.and_true] at this
    exact this
  · intro h
    apply b_ext
    intro i hi
    rw [b_and]
    have e : ∀ i, i < 32 → bt 1 i = decide (i = 0) := by decide +kernel
    rw [e i hi]
    by_cases z : i = 0
    · subst z; rw [h]; rfl
    · simp [z]
theorem qb_t0 (y : Int32) : (y &&& 1) = 0 ↔ bt y 0 = false := by
  constructor
  · intro h
    have : bt (y &&& 1) 0 = bt 0 0 := by rw [h]
    rw [b_and, b_0] at this
    have e : bt 1 0 = true := by decide
    rw [e, Bool.and_true] at this
    exact this
  · intro h
    apply b_ext
    intro i hi
    rw [b_and, b_0]
    have e : ∀ i, i < 32 → bt 1 i = decide (i = 0) := by decide +kernel
    rw [e i hi]
    by_cases z : i = 0
    · subst z; rw [h]; rfl
    · simp [z]
theorem qb_s1 (x : Int32) (n : Nat) (hn : n < 32) : ((x >>> (nI n &&& 31)) &&& 1) = 1 ↔ bt x n = true := by
  rw [qb_t1, b_sshr n hn x (by omega)]
  simp [hn]
theorem qb_s0 (x : Int32) (n : Nat) (hn : n < 32) : ((x >>> (nI n &&& 31)) &&& 1) = 0 ↔ bt x n = false := by
  rw [qb_t0, b_sshr n hn x (by omega)]
  simp [hn]
theorem qb_h32 : ∀ i, i < 32 → ∀ j, j < 32 → bt ((1 : Int32) <<< (nI i &&& 31)) j = decide (j = i) := by decide +kernel
theorem qb_nI (a j : Nat) (hj : j < 32) : bt (nI a) j = a.testBit j := by
  show (BitVec.ofNat 32 a).getLsbD j = _
  rw [BitVec.getLsbD_ofNat]
  simp [hj]
def qb_l (x : Int64) (i : Nat) : Bool := x.toBitVec.getLsbD i
theorem qb_ext {x y : Int64} (h : ∀ i, i < 64 → qb_l x i = qb_l y i) : x = y := Int64.toBitVec_inj.mp (BitVec.eq_of_getLsbD_eq (fun i hi => h i hi))
theorem qb_or (x y : Int64) (i : Nat) : qb_l (x ||| y) i = (qb_l x i || qb_l y i) := by unfold qb_l; rw [Int64.toBitVec_or, BitVec.getLsbD_or]
theorem qb_and (x y : Int64) (i : Nat) : qb_l (x &&& y) i = (qb_l x i && qb_l y i) := by unfold qb_l; rw [Int64.toBitVec_and, BitVec.getLsbD_and]
theorem qb_0 (i : Nat) : qb_l 0 i = false := BitVec.getLsbD_zero
theorem qb_big {x : Int64} {i : Nat} (h : 64 ≤ i) : qb_l x i = false := BitVec.getLsbD_of_ge _ _ h
theorem qb_1 : ∀ i, i < 64 → qb_l 1 i = decide (i = 0) := by decide +kernel
theorem qb_2 : ∀ i, i < 64 → qb_l 2 i = decide (i = 1) := by decide +kernel
theorem qb_m : ∀ i, i < 64 → qb_l (-1) i = true := by decide +kernel
theorem qb_xor (x y : Int64) (i : Nat) : qb_l (x ^^^ y) i = (qb_l x i ^^ qb_l y i) := by unfold qb_l; rw [Int64.toBitVec_xor, BitVec.getLsbD_xor]
theorem qb_not (x : Int64) (i : Nat) (hi : i < 64) : qb_l (x ^^^ (-1)) i = !qb_l x i := by rw [qb_xor, qb_m i hi]; simp
theorem qb_sl : ∀ n, n < 64 → (((nI n).toInt64 &&& 63).toBitVec.smod 64).toNat = n := by decide +kernel
theorem qb_shl (n : Nat) (hn : n < 64) (x : Int64) {i : Nat} (hi : i < 64) : qb_l (x <<< ((nI n).toInt64 &&& 63)) i = (decide (n ≤ i) && qb_l x (i - n)) := by
  unfold qb_l
  rw [Int64.toBitVec_shiftLeft]
  show (x.toBitVec <<< (((nI n).toInt64 &&& 63).toBitVec.smod 64).toNat).getLsbD i = _
  rw [qb_sl n hn, BitVec.getLsbD_shiftLeft]
  rcases Nat.lt_or_ge i n with h | h
  · simp [h, Nat.not_le.mpr h]
  · simp [hi, h, Nat.not_lt.mpr h]
theorem qb_sshr (n : Nat) (hn : n < 64) (x : Int64) {i : Nat} (hi : i < 64) : qb_l (x >>> ((nI n).toInt64 &&& 63)) i = if n + i < 64 then qb_l x (n + i) else qb_l x 63 := by
  unfold qb_l
  rw [Int64.toBitVec_shiftRight]
  show (x.toBitVec.sshiftRight (((nI n).toInt64 &&& 63).toBitVec.smod 64).toNat).getLsbD i = _
  rw [qb_sl n hn, BitVec.getLsbD_sshiftRight, BitVec.msb_eq_getLsbD_last]
  simp [hi]
theorem qb_T1 (y : Int64) : (y &&& 1) = 1 ↔ qb_l y 0 = true := by
  constructor
  · intro h
    have : qb_l (y &&& 1) 0 = qb_l 1 0 := by rw [h]
    rw [qb_and, qb_1 0 (by omega)] at this
    simpa using this
  · intro h
    apply qb_ext
    intro i hi
    rw [qb_and, qb_1 i hi]
    by_cases z : i = 0
    · subst z; rw [h]; rfl
    · simp [z]
theorem qb_T0 (y : Int64) : (y &&& 1) = 0 ↔ qb_l y 0 = false := by
  constructor
  · intro h
    have : qb_l (y &&& 1) 0 = qb_l 0 0 := by rw [h]
    rw [qb_and, qb_0, qb_1 0 (by omega)] at this
    simpa using this
  · intro h
    apply qb_ext
    intro i hi
    rw [qb_and, qb_0, qb_1 i hi]
    by_cases z : i = 0
    · subst z; rw [h]; rfl
    · simp [z]
theorem qb_S1 (x : Int64) (n : Nat) (hn : n < 64) : ((x >>> ((nI n).toInt64 &&& 63)) &&& 1) = 1 ↔ qb_l x n = true := by
  rw [qb_T1, qb_sshr n hn x (by omega)]
  simp [hn]
theorem qb_S0 (x : Int64) (n : Nat) (hn : n < 64) : ((x >>> ((nI n).toInt64 &&& 63)) &&& 1) = 0 ↔ qb_l x n = false := by
  rw [qb_T0, qb_sshr n hn x (by omega)]
  simp [hn]
theorem qb_here (i : Nat) (hi : i < 64) (j : Nat) (hj : j < 64) : qb_l ((1 : Int64) <<< ((nI i).toInt64 &&& 63)) j = decide (j = i) := by
  rw [qb_shl i hi _ hj]
  rcases Nat.lt_or_ge j i with h | h
  · simp [Nat.not_le.mpr h, show ¬ j = i by omega]
  · rw [qb_1 _ (by omega)]
    simp [h]
    omega
theorem qb_next (i : Nat) (hi : i < 63) (j : Nat) (hj : j < 64) : qb_l ((2 : Int64) <<< ((nI i).toInt64 &&& 63)) j = decide (j = i + 1) := by
  rw [qb_shl i (by omega) _ hj]
  rcases Nat.lt_or_ge j i with h | h
  · simp [Nat.not_le.mpr h, show ¬ j = i + 1 by omega]
  · rw [qb_2 _ (by omega)]
    simp [h]
    omega
theorem qb_here1 (i : Nat) (hi : i < 63) (j : Nat) (hj : j < 64) : qb_l (((1 : Int64) <<< ((nI i).toInt64 &&& 63)) <<< ((1 : Int32).toInt64 &&& 63)) j = decide (j = i + 1) := by
  have h1 := qb_shl 1 (by omega) ((1 : Int64) <<< ((nI i).toInt64 &&& 63)) hj
  have e : (nI 1).toInt64 = (1 : Int32).toInt64 := by decide
  rw [e] at h1
  rw [h1]
  rcases Nat.lt_or_ge j 1 with h | h
  · simp [show ¬ 1 ≤ j by omega, show ¬ j = i + 1 by omega]
  · rw [qb_here i (by omega) _ (by omega)]
    simp [h]
    omega
theorem qb_ne {x : Int64} : x ≠ 0 ↔ ∃ i, i < 64 ∧ qb_l x i = true := by
  constructor
  · intro h
    apply Classical.byContradiction
    intro hn
    apply h
    apply qb_ext
    intro i hi
    rw [qb_0]
    cases e : qb_l x i
    · rfl
    · exact absurd ⟨i, hi, e⟩ hn
  · intro ⟨i, hi, h⟩ e
    rw [e, qb_0] at h
    exact absurd h (by decide)
