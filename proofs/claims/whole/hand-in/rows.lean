section
theorem pk_us {f : Nat → Int32} {k : Nat} {x : Int32} : upd f k x k = x := if_pos rfl
theorem pk_un {f : Nat → Int32} {k j : Nat} {x : Int32} (h : j ≠ k) : upd f k x j = f j := if_neg h
theorem pk_uLs {f : Nat → Int64} {k : Nat} {x : Int64} : vp_updL f k x k = x := if_pos rfl
theorem pk_uLn {f : Nat → Int64} {k j : Nat} {x : Int64} (h : j ≠ k) : vp_updL f k x j = f j := if_neg h
theorem pk_sub {a b : Nat} (h : b ≤ a) : nI a - nI b = nI (a - b) := by
  obtain ⟨c, rfl⟩ : ∃ c, a = c + b := ⟨a - b, by omega⟩
  rw [← nI_add, Int32.add_sub_cancel, Nat.add_sub_cancel]
theorem pk_m1 (n : Nat) : nI (n + 1) + (-1) = nI n := by
  rw [← nI_1, Int32.add_assoc, show (1 : Int32) + (-1) = 0 from rfl, Int32.add_zero]
theorem pk_mul (a b : Nat) : nI a * nI b = nI (a * b) := (Int32.ofNat_mul a b).symm
theorem pk_div {a d : Nat} (ha : a < 2 ^ 31) (h0 : 0 < d) (hd : d < 2 ^ 31) : nI a / nI d = nI (a / d) := by
  apply Int32.toInt_inj.mp
  rw [lg_idiv_nonneg (by rw [nI_toInt ha]; omega) (by rw [nI_toInt hd]; omega), nI_toInt ha, nI_toInt hd, nI_toInt (Nat.lt_of_le_of_lt (Nat.div_le_self a d) ha)]
  first | rfl | exact (Int.natCast_ediv _ _).symm
theorem pk_rem {a d : Nat} (ha : a < 2 ^ 31) (h0 : 0 < d) (hd : d < 2 ^ 31) : nI a - nI a / nI d * nI d = nI (a % d) := by
  rw [pk_div ha h0 hd, pk_mul, pk_sub (Nat.div_mul_le_self a d)]
  exact congrArg nI (by have := Nat.div_add_mod' a d; omega)
theorem pk_sub_toInt {a b : Nat} (ha : a < 2 ^ 30) (hb : b < 2 ^ 30) : (nI a - nI b).toInt = (a : Int) - b := by
  rw [Int32.toInt_sub, nI_toInt (by omega), nI_toInt (by omega)]
  exact Int.bmod_eq_of_le (by omega) (by omega)
theorem pk_sneg {a b : Nat} (hb : b < 2 ^ 30) (h : a < b) : nI a - nI b < 0 := by
  rw [Int32.lt_iff_toInt_lt, pk_sub_toInt (by omega) hb, show (0 : Int32).toInt = 0 from by decide]
  omega
theorem pk_ix (x : Int32) {n : Nat} (hn : n < 2 ^ 31) : x < 0 ∨ nI n ≤ x ∨ ∃ j : Nat, j < n ∧ x = nI j := by
  by_cases h : x < 0
  · exact Or.inl h
  · obtain ⟨j, hj, rfl⟩ := nI_of h
    by_cases h2 : j < n
    · exact Or.inr (Or.inr ⟨j, h2, rfl⟩)
    · exact Or.inr (Or.inl (nI_le (by omega) hj))
theorem pk_le {x y : Int32} {A B : Prop} (a b : Nat) (f : a ≤ b → A) (g : b < a → B) (hx : x = nI a := by rfl) (hy : y = nI b := by rfl) (ha : a < 2 ^ 31 := by omega) (hb : b < 2 ^ 31 := by omega) : (x ≤ y → A) ∧ (¬ x ≤ y → B) := by
  subst hx hy
  rw [nI_leI ha hb]
  exact ⟨f, fun z => g (by omega)⟩
theorem pk_lt {x y : Int32} {A B : Prop} (a b : Nat) (f : a < b → A) (g : b ≤ a → B) (hx : x = nI a := by rfl) (hy : y = nI b := by rfl) (ha : a < 2 ^ 31 := by omega) (hb : b < 2 ^ 31 := by omega) : (x < y → A) ∧ (¬ x < y → B) := by
  subst hx hy
  rw [nI_ltI ha hb]
  exact ⟨f, fun z => g (by omega)⟩
theorem pk_eq {x y : Int32} {A B : Prop} (a b : Nat) (f : a = b → A) (g : a ≠ b → B) (hx : x = nI a := by rfl) (hy : y = nI b := by rfl) (ha : a < 2 ^ 31 := by omega) (hb : b < 2 ^ 31 := by omega) : (x = y → A) ∧ (¬ x = y → B) := by
  subst hx hy
  rw [nI_eq ha hb]
  exact ⟨f, g⟩
theorem pk_in {x : Int32} (n N : Nat) (h : n < N) (hx : x = nI n := by rfl) (hN : N < 2 ^ 31 := by omega) : vp_in x N := by
  subst hx
  exact vp_in_nI h hN
theorem pk_cl {x : Int32} (n : Nat) (hx : x = nI n := by rfl) (h : n < 2 ^ 31 := by omega) : x.toNatClampNeg = n := by
  subst hx
  exact nI_clamp h
theorem pk_tn {n : Nat} (h : n < 2 ^ 32) : (nI n).toBitVec.toNat = n := Nat.mod_eq_of_lt h
theorem pk_and (x : Int32) {m : Int32} (k : Nat) (hm : m.toBitVec.toNat = 2 ^ k - 1) : x &&& m = nI (x.toBitVec.toNat % 2 ^ k) := by
  apply Int32.toBitVec_inj.mp
  apply BitVec.eq_of_toNat_eq
  rw [Int32.toBitVec_and, BitVec.toNat_and, hm, Nat.and_two_pow_sub_one_eq_mod]
  show _ = (BitVec.ofNat 32 _).toNat
  rw [BitVec.toNat_ofNat]
  exact (Nat.mod_eq_of_lt (Nat.lt_of_le_of_lt (Nat.mod_le _ _) x.toBitVec.isLt)).symm
theorem pk_andN {n : Nat} (h : n < 2 ^ 32) {m : Int32} (k : Nat) (hm : m.toBitVec.toNat = 2 ^ k - 1) : nI n &&& m = nI (n % 2 ^ k) := by
  rw [pk_and _ k hm, pk_tn h]
theorem pk_andE (x : Int32) {m : Int32} (k : Nat) (hm : m.toBitVec.toNat = 2 ^ k - 1) : ∃ j : Nat, j < 2 ^ k ∧ x &&& m = nI j := ⟨_, Nat.mod_lt _ (Nat.two_pow_pos k), pk_and x k hm⟩
theorem pk_andIn (x : Int32) {m : Int32} (k : Nat) (hm : m.toBitVec.toNat = 2 ^ k - 1) (hk : k ≤ 30) : vp_in (x &&& m) (2 ^ k) := by
  obtain ⟨j, hj, e⟩ := pk_andE x k hm
  rw [e]
  exact vp_in_nI hj (Nat.lt_of_le_of_lt (Nat.pow_le_pow_right (by decide) hk) (by decide))
theorem pk_shl (a s : Int32) (k : Nat) (hs : (s.toBitVec.smod 32).toNat = k) : (a <<< s).toBitVec.toNat = a.toBitVec.toNat * 2 ^ k % 2 ^ 32 := by
  show (a.toBitVec <<< (s.toBitVec.smod 32).toNat).toNat = _
  rw [hs, BitVec.toNat_shiftLeft, Nat.shiftLeft_eq]
theorem pk_shlN {n : Nat} (s : Int32) (k : Nat) (hs : (s.toBitVec.smod 32).toNat = k) (h : n * 2 ^ k < 2 ^ 32) : nI n <<< s = nI (n * 2 ^ k) := by
  apply Int32.toBitVec_inj.mp
  apply BitVec.eq_of_toNat_eq
  have hn : n < 2 ^ 32 := Nat.lt_of_le_of_lt (Nat.le_mul_of_pos_right n (Nat.two_pow_pos k)) h
  rw [pk_shl _ _ k hs, pk_tn hn, pk_tn h, Nat.mod_eq_of_lt h]
theorem pk_shr (a s : Int32) (k : Nat) (hs : (s.toBitVec.smod 32).toNat = k) : (a >>> s).toInt = a.toInt >>> k := by
  show (a.toBitVec.sshiftRight (s.toBitVec.smod 32).toNat).toInt = _
  rw [hs, BitVec.toInt_sshiftRight]
  rfl
theorem pk_shrN {n : Nat} (h : n < 2 ^ 31) (s : Int32) (k : Nat) (hs : (s.toBitVec.smod 32).toNat = k) : nI n >>> s = nI (n / 2 ^ k) := by
  apply Int32.toInt_inj.mp
  have h2 : n / 2 ^ k ≤ n := Nat.div_le_self _ _
  rw [pk_shr _ _ k hs, nI_toInt h, nI_toInt (by omega), Int.shiftRight_eq_div_pow]
  rfl
theorem pk_ushr (x s : Int32) (k : Nat) (hs : ((s.toUInt32 &&& Int32.toUInt32 31).toBitVec % 32).toNat = k) : (x.toUInt32 >>> (s.toUInt32 &&& Int32.toUInt32 31)).toInt32.toBitVec.toNat = x.toBitVec.toNat / 2 ^ k := by
  have e : (x.toUInt32 >>> (s.toUInt32 &&& Int32.toUInt32 31)).toInt32.toBitVec = x.toBitVec >>> k := by
    rw [← hs]
    exact UInt32.toBitVec_shiftRight _ _
  rw [e, BitVec.toNat_ushiftRight, Nat.shiftRight_eq_div_pow]
theorem pk_ushrN {n : Nat} (hn : n < 2 ^ 32) (s : Int32) (k : Nat) (hs : ((s.toUInt32 &&& Int32.toUInt32 31).toBitVec % 32).toNat = k) : ((nI n).toUInt32 >>> (s.toUInt32 &&& Int32.toUInt32 31)).toInt32 = nI (n / 2 ^ k) := by
  apply Int32.toBitVec_inj.mp
  apply BitVec.eq_of_toNat_eq
  rw [pk_ushr _ s k hs, pk_tn hn, pk_tn (Nat.lt_of_le_of_lt (Nat.div_le_self _ _) hn)]
theorem pk_nb (z : Int32) : narrow .byte (.int z.toInt8.toInt32) = .int z.toInt8.toInt32 := congrArg Value.int (by simp)
theorem pk_ns (z : Int32) : narrow .short (.int z.toInt16.toInt32) = .int z.toInt16.toInt32 := congrArg Value.int (by simp)
theorem pk_fb (r : Int32) : fits .byte (.int r.toInt8.toInt32) = true := by
  have ⟨a, b⟩ := lg_i2b_range r
  have h1 : (-128 : Int32).toInt = -128 := by decide
  have h2 : (127 : Int32).toInt = 127 := by decide
  simp only [fits, Bool.and_eq_true, decide_eq_true_eq, Int32.le_iff_toInt_le, h1, h2]
  omega
theorem pk_fs (r : Int32) : fits .short (.int r.toInt16.toInt32) = true := by
  have ⟨a, b⟩ := lg_i2s_range r
  have h1 : (-32768 : Int32).toInt = -32768 := by decide
  have h2 : (32767 : Int32).toInt = 32767 := by decide
  simp only [fits, Bool.and_eq_true, decide_eq_true_eq, Int32.le_iff_toInt_le, h1, h2]
  omega
theorem pk_charN {q : Nat} (hq : q < 65536) : narrow .char (.int (nI q)) = .int (nI q) ∧ fits .char (.int (nI q)) = true := by
  constructor
  · have e : (nI q).toUInt32.toUInt16.toUInt32.toInt32 = nI q := by
      apply Int32.toBitVec_inj.mp
      apply BitVec.eq_of_toNat_eq
      show (nI q).toUInt32.toUInt16.toUInt32.toNat = q % 2 ^ 32
      rw [UInt16.toNat_toUInt32, UInt32.toNat_toUInt16, show (nI q).toUInt32.toNat = q % 2 ^ 32 from rfl]
      omega
    exact congrArg Value.int e
  · have a : (0 : Int32) ≤ nI q := nI_pos' (by omega)
    have b : nI q ≤ 65535 := nI_le (b := 65535) (by omega) (by decide)
    show (decide ((0 : Int32) ≤ nI q) && decide (nI q ≤ 65535)) = true
    rw [decide_eq_true a, decide_eq_true b]
    rfl
theorem pk_char (x : Int32) : (x.toUInt32 % 65536).toInt32 = nI (x.toBitVec.toNat % 65536) := by
  apply Int32.toBitVec_inj.mp
  apply BitVec.eq_of_toNat_eq
  rw [pk_tn (by omega)]
  show (x.toUInt32 % 65536).toNat = _
  rw [UInt32.toNat_mod]
  rfl
theorem pk_nc (x : Int32) : narrow .char (.int (x.toUInt32 % 65536).toInt32) = .int (x.toUInt32 % 65536).toInt32 := by
  rw [pk_char]
  exact (pk_charN (Nat.mod_lt _ (by decide))).1
theorem pk_fc (x : Int32) : fits .char (.int (x.toUInt32 % 65536).toInt32) = true := by
  rw [pk_char]
  exact (pk_charN (Nat.mod_lt _ (by decide))).2
theorem pk_vb (z : Int32) : vp_nar .byte z.toInt8.toInt32 = z.toInt8.toInt32 := by rw [vp_nar_byte]; simp
theorem pk_vs (z : Int32) : vp_nar .short z.toInt16.toInt32 = z.toInt16.toInt32 := by rw [vp_nar_short]; simp
theorem pk_vc (z : Int32) : vp_nar .char (z.toUInt32 % 65536).toInt32 = (z.toUInt32 % 65536).toInt32 := Value.int.inj (pk_nc z)
theorem pk_lT {n : Nat} (h : n < 2 ^ 63) : (lN n).toInt = (n : Int) := lg_ofNat_toInt h
theorem pk_lLT {a b : Nat} (ha : a < 2 ^ 63) (hb : b < 2 ^ 63) : lN a < lN b ↔ a < b := by
  rw [Int64.lt_iff_toInt_lt, pk_lT ha, pk_lT hb]; omega
theorem pk_lLE {a b : Nat} (ha : a < 2 ^ 63) (hb : b < 2 ^ 63) : lN a ≤ lN b ↔ a ≤ b := by
  rw [Int64.le_iff_toInt_le, pk_lT ha, pk_lT hb]; omega
theorem pk_lEQ {a b : Nat} (ha : a < 2 ^ 63) (hb : b < 2 ^ 63) : lN a = lN b ↔ a = b := by
  rw [← Int64.toInt_inj, pk_lT ha, pk_lT hb]; omega
theorem pk_lOf {x : Int64} (h : ¬ x < 0) : ∃ k : Nat, k < 2 ^ 63 ∧ x = lN k := by
  rw [Int64.lt_iff_toInt_lt] at h
  have h0 : (0 : Int64).toInt = 0 := by decide
  have hx := Int64.toInt_lt x
  refine ⟨x.toInt.toNat, by omega, Int64.toInt_inj.mp ?_⟩
  rw [pk_lT (by omega)]
  omega
theorem pk_lDiv {a b : Nat} (ha : a < 2 ^ 63) (h0 : 0 < b) (hb : b < 2 ^ 63) : lN a / lN b = lN (a / b) := by
  apply Int64.toInt_inj.mp
  rw [lg_ldiv_nonneg (by rw [pk_lT ha]; omega) (by rw [pk_lT hb]; omega), pk_lT ha, pk_lT hb, pk_lT (Nat.lt_of_le_of_lt (Nat.div_le_self a b) ha)]
  rfl
theorem pk_lRem {a b : Nat} (ha : a < 2 ^ 63) (h0 : 0 < b) (hb : b < 2 ^ 63) : lN a - lN a / lN b * lN b = lN (a % b) := by
  rw [pk_lDiv ha h0 hb, lN_mul, lN_sub (Nat.div_mul_le_self a b)]
  exact congrArg lN (by have := Nat.div_add_mod' a b; omega)
theorem pk_loop {σ : Type} (W : Nat → Nat → σ → Prop) (I : Nat → σ → Prop) (e i0 : Nat) (s : σ) (hi : i0 ≤ e) (h0 : I i0 s) (hx : ∀ n s, I e s → W (n + 1) e s)
    (hs : ∀ n i s, i < e → I i s → (∀ s', I (i + 1) s' → W n (i + 1) s') → W (n + 1) i s) : ∃ n, W n i0 s :=
  ⟨e + 1, loop_i W I e hx hs (e + 1) i0 s hi (by omega) h0⟩
theorem pk_loopD {σ : Type} (W : Nat → Nat → σ → Prop) (I : Nat → σ → Prop) (hx : ∀ n s, I 0 s → W (n + 1) 0 s)
    (hs : ∀ n i s, I (i + 1) s → (∀ s', I i s' → W n i s') → W (n + 1) (i + 1) s) : ∀ (e : Nat) (s : σ), I e s → W (e + 1) e s := by
  intro e
  induction e with
  | zero => exact fun s h => hx 0 s h
  | succ e ih => exact fun s h => hs (e + 1) e s h (fun s' h' => ih s' h')
theorem lp1 {A1 : Type} (W : Nat → A1 → Prop) (I : A1 → Prop) (μ : A1 → Nat) (hs : ∀ (n : Nat) (a1 : A1), I a1 → (∀ (b1 : A1), I b1 → μ b1 < μ a1 → W n b1) → W (n + 1) a1) (a1 : A1) (h : I a1) : ∃ n, W n a1 :=
  loop_m (σ := A1) (fun n s => W n s) (fun s => I s) (fun s => μ s) (fun n s hI hk => hs n s hI (fun b1 h9 hm => hk b1 h9 hm)) a1 h
theorem lp2 {A1 A2 : Type} (W : Nat → A1 → A2 → Prop) (I : A1 → A2 → Prop) (μ : A1 → A2 → Nat) (hs : ∀ (n : Nat) (a1 : A1) (a2 : A2), I a1 a2 → (∀ (b1 : A1) (b2 : A2), I b1 b2 → μ b1 b2 < μ a1 a2 → W n b1 b2) → W (n + 1) a1 a2) (a1 : A1) (a2 : A2) (h : I a1 a2) : ∃ n, W n a1 a2 :=
  loop_m (σ := A1 × A2) (fun n s => W n s.1 s.2) (fun s => I s.1 s.2) (fun s => μ s.1 s.2) (fun n s hI hk => hs n s.1 s.2 hI (fun b1 b2 h9 hm => hk (b1, b2) h9 hm)) (a1, a2) h
theorem lp3 {A1 A2 A3 : Type} (W : Nat → A1 → A2 → A3 → Prop) (I : A1 → A2 → A3 → Prop) (μ : A1 → A2 → A3 → Nat) (hs : ∀ (n : Nat) (a1 : A1) (a2 : A2) (a3 : A3), I a1 a2 a3 → (∀ (b1 : A1) (b2 : A2) (b3 : A3), I b1 b2 b3 → μ b1 b2 b3 < μ a1 a2 a3 → W n b1 b2 b3) → W (n + 1) a1 a2 a3) (a1 : A1) (a2 : A2) (a3 : A3) (h : I a1 a2 a3) : ∃ n, W n a1 a2 a3 :=
  loop_m (σ := A1 × A2 × A3) (fun n s => W n s.1 s.2.1 s.2.2) (fun s => I s.1 s.2.1 s.2.2) (fun s => μ s.1 s.2.1 s.2.2) (fun n s hI hk => hs n s.1 s.2.1 s.2.2 hI (fun b1 b2 b3 h9 hm => hk (b1, b2, b3) h9 hm)) (a1, a2, a3) h
theorem lp4 {A1 A2 A3 A4 : Type} (W : Nat → A1 → A2 → A3 → A4 → Prop) (I : A1 → A2 → A3 → A4 → Prop) (μ : A1 → A2 → A3 → A4 → Nat) (hs : ∀ (n : Nat) (a1 : A1) (a2 : A2) (a3 : A3) (a4 : A4), I a1 a2 a3 a4 → (∀ (b1 : A1) (b2 : A2) (b3 : A3) (b4 : A4), I b1 b2 b3 b4 → μ b1 b2 b3 b4 < μ a1 a2 a3 a4 → W n b1 b2 b3 b4) → W (n + 1) a1 a2 a3 a4) (a1 : A1) (a2 : A2) (a3 : A3) (a4 : A4) (h : I a1 a2 a3 a4) : ∃ n, W n a1 a2 a3 a4 :=
  loop_m (σ := A1 × A2 × A3 × A4) (fun n s => W n s.1 s.2.1 s.2.2.1 s.2.2.2) (fun s => I s.1 s.2.1 s.2.2.1 s.2.2.2) (fun s => μ s.1 s.2.1 s.2.2.1 s.2.2.2) (fun n s hI hk => hs n s.1 s.2.1 s.2.2.1 s.2.2.2 hI (fun b1 b2 b3 b4 h9 hm => hk (b1, b2, b3, b4) h9 hm)) (a1, a2, a3, a4) h
theorem lp5 {A1 A2 A3 A4 A5 : Type} (W : Nat → A1 → A2 → A3 → A4 → A5 → Prop) (I : A1 → A2 → A3 → A4 → A5 → Prop) (μ : A1 → A2 → A3 → A4 → A5 → Nat) (hs : ∀ (n : Nat) (a1 : A1) (a2 : A2) (a3 : A3) (a4 : A4) (a5 : A5), I a1 a2 a3 a4 a5 → (∀ (b1 : A1) (b2 : A2) (b3 : A3) (b4 : A4) (b5 : A5), I b1 b2 b3 b4 b5 → μ b1 b2 b3 b4 b5 < μ a1 a2 a3 a4 a5 → W n b1 b2 b3 b4 b5) → W (n + 1) a1 a2 a3 a4 a5) (a1 : A1) (a2 : A2) (a3 : A3) (a4 : A4) (a5 : A5) (h : I a1 a2 a3 a4 a5) : ∃ n, W n a1 a2 a3 a4 a5 :=
  loop_m (σ := A1 × A2 × A3 × A4 × A5) (fun n s => W n s.1 s.2.1 s.2.2.1 s.2.2.2.1 s.2.2.2.2) (fun s => I s.1 s.2.1 s.2.2.1 s.2.2.2.1 s.2.2.2.2) (fun s => μ s.1 s.2.1 s.2.2.1 s.2.2.2.1 s.2.2.2.2) (fun n s hI hk => hs n s.1 s.2.1 s.2.2.1 s.2.2.2.1 s.2.2.2.2 hI (fun b1 b2 b3 b4 b5 h9 hm => hk (b1, b2, b3, b4, b5) h9 hm)) (a1, a2, a3, a4, a5) h
theorem lp6 {A1 A2 A3 A4 A5 A6 : Type} (W : Nat → A1 → A2 → A3 → A4 → A5 → A6 → Prop) (I : A1 → A2 → A3 → A4 → A5 → A6 → Prop) (μ : A1 → A2 → A3 → A4 → A5 → A6 → Nat) (hs : ∀ (n : Nat) (a1 : A1) (a2 : A2) (a3 : A3) (a4 : A4) (a5 : A5) (a6 : A6), I a1 a2 a3 a4 a5 a6 → (∀ (b1 : A1) (b2 : A2) (b3 : A3) (b4 : A4) (b5 : A5) (b6 : A6), I b1 b2 b3 b4 b5 b6 → μ b1 b2 b3 b4 b5 b6 < μ a1 a2 a3 a4 a5 a6 → W n b1 b2 b3 b4 b5 b6) → W (n + 1) a1 a2 a3 a4 a5 a6) (a1 : A1) (a2 : A2) (a3 : A3) (a4 : A4) (a5 : A5) (a6 : A6) (h : I a1 a2 a3 a4 a5 a6) : ∃ n, W n a1 a2 a3 a4 a5 a6 :=
  loop_m (σ := A1 × A2 × A3 × A4 × A5 × A6) (fun n s => W n s.1 s.2.1 s.2.2.1 s.2.2.2.1 s.2.2.2.2.1 s.2.2.2.2.2) (fun s => I s.1 s.2.1 s.2.2.1 s.2.2.2.1 s.2.2.2.2.1 s.2.2.2.2.2) (fun s => μ s.1 s.2.1 s.2.2.1 s.2.2.2.1 s.2.2.2.2.1 s.2.2.2.2.2) (fun n s hI hk => hs n s.1 s.2.1 s.2.2.1 s.2.2.2.1 s.2.2.2.2.1 s.2.2.2.2.2 hI (fun b1 b2 b3 b4 b5 b6 h9 hm => hk (b1, b2, b3, b4, b5, b6) h9 hm)) (a1, a2, a3, a4, a5, a6) h
theorem pk_least (P : Nat → Prop) (h : ∃ k, P k) : ∃ k, P k ∧ ∀ j, j < k → ¬ P j := by
  obtain ⟨k, hk⟩ := h
  induction k using Nat.strongRecOn with
  | ind k ih =>
    by_cases e : ∃ j, j < k ∧ P j
    · obtain ⟨j, hj, pj⟩ := e
      exact ih j hj pj
    · exact ⟨k, hk, fun j hj pj => e ⟨j, hj, pj⟩⟩
theorem ek_if {c d A B : Prop} (e : c ↔ d) (f : d → A) (g : ¬ d → B) : (c → A) ∧ (¬ c → B) :=
  ⟨fun z => f (e.mp z), fun z => g (fun y => z (e.mpr y))⟩
theorem ek_v {α : Sort _} {P : α → Prop} {a b : α} (e : a = b) (h : P b) : P a := e ▸ h
theorem pk_mu {x : Int32} {L : Nat} (h0 : ¬ x < 0) (h : ¬ nI L ≤ x) (hL : L < 2 ^ 31) : ∃ j : Nat, j < L ∧ x = nI j ∧ x + 1 = nI (j + 1) ∧ x.toNatClampNeg = j ∧ L - (x + 1).toNatClampNeg < L - x.toNatClampNeg := by
  obtain ⟨j, hj, rfl⟩ := nI_of h0
  have hl : j < L := Nat.not_le.mp fun q => h (nI_le q hj)
  refine ⟨j, hl, rfl, nI_1 j, nI_clamp hj, ?_⟩
  rw [nI_1, nI_clamp (by omega), nI_clamp hj]
  omega
/-! ===== Int32 by its bits: bt x i ===== -/
def bt (x : Int32) (i : Nat) : Bool := x.toBitVec.getLsbD i
theorem b_ext {x y : Int32} (h : ∀ i, i < 32 → bt x i = bt y i) : x = y := Int32.toBitVec_inj.mp (BitVec.eq_of_getLsbD_eq (fun i hi => h i hi))
theorem b_or (x y : Int32) (i : Nat) : bt (x ||| y) i = (bt x i || bt y i) := by unfold bt; rw [Int32.toBitVec_or, BitVec.getLsbD_or]
theorem b_and (x y : Int32) (i : Nat) : bt (x &&& y) i = (bt x i && bt y i) := by unfold bt; rw [Int32.toBitVec_and, BitVec.getLsbD_and]
theorem b_xor (x y : Int32) (i : Nat) : bt (x ^^^ y) i = (bt x i ^^ bt y i) := by unfold bt; rw [Int32.toBitVec_xor, BitVec.getLsbD_xor]
theorem b_big {x : Int32} {i : Nat} (h : 32 ≤ i) : bt x i = false := BitVec.getLsbD_of_ge _ _ h
theorem b_255 (i : Nat) : bt 255 i = decide (i < 8) := by
  rcases Nat.lt_or_ge i 32 with h | h
  · exact (by decide +kernel : ∀ i, i < 32 → bt 255 i = decide (i < 8)) i h
  · rw [b_big h, decide_eq_false (by omega)]
theorem b_65535 (i : Nat) : bt 65535 i = decide (i < 16) := by
  rcases Nat.lt_or_ge i 32 with h | h
  · exact (by decide +kernel : ∀ i, i < 32 → bt 65535 i = decide (i < 16)) i h
  · rw [b_big h, decide_eq_false (by omega)]
theorem b_m1 : ∀ i, i < 32 → bt (-1) i = true := by decide +kernel
theorem b_0 (i : Nat) : bt 0 i = false := BitVec.getLsbD_zero
theorem s_l : ∀ n, n < 32 → ((nI n &&& 31).toBitVec.smod 32).toNat = n := by decide +kernel
theorem s_u : ∀ n, n < 32 → (((nI n).toUInt32 &&& Int32.toUInt32 31).toBitVec % 32).toNat = n := by decide +kernel
theorem b_shl (n : Nat) (hn : n < 32) (x : Int32) {i : Nat} (hi : i < 32) : bt (x <<< (nI n &&& 31)) i = (decide (n ≤ i) && bt x (i - n)) := by
  unfold bt
  rw [Int32.toBitVec_shiftLeft]
  show (x.toBitVec <<< ((nI n &&& 31).toBitVec.smod 32).toNat).getLsbD i = _
  rw [s_l n hn, BitVec.getLsbD_shiftLeft]
  rcases Nat.lt_or_ge i n with h | h
  · simp [h, Nat.not_le.mpr h]
  · simp [hi, h, Nat.not_lt.mpr h]
theorem b_ushr (n : Nat) (hn : n < 32) (x : Int32) (i : Nat) : bt ((x.toUInt32 >>> ((nI n).toUInt32 &&& Int32.toUInt32 31)).toInt32) i = bt x (n + i) := by
  show (x.toUInt32 >>> ((nI n).toUInt32 &&& Int32.toUInt32 31)).toBitVec.getLsbD i = x.toUInt32.toBitVec.getLsbD (n + i)
  rw [UInt32.toBitVec_shiftRight]
  show (x.toUInt32.toBitVec >>> (((nI n).toUInt32 &&& Int32.toUInt32 31).toBitVec % 32).toNat).getLsbD i = _
  rw [s_u n hn, BitVec.getLsbD_ushiftRight]
theorem b_sshr (n : Nat) (hn : n < 32) (x : Int32) {i : Nat} (hi : i < 32) : bt (x >>> (nI n &&& 31)) i = if n + i < 32 then bt x (n + i) else bt x 31 := by
  unfold bt
  rw [Int32.toBitVec_shiftRight]
  show (x.toBitVec.sshiftRight ((nI n &&& 31).toBitVec.smod 32).toNat).getLsbD i = _
  rw [s_l n hn, BitVec.getLsbD_sshiftRight, BitVec.msb_eq_getLsbD_last]
  simp [hi]
theorem b_shl8 (x : Int32) {i : Nat} (hi : i < 32) : bt (x <<< ((8 : Int32) &&& 31)) i = (decide (8 ≤ i) && bt x (i - 8)) := b_shl 8 (by omega) x hi
theorem b_shl16 (x : Int32) {i : Nat} (hi : i < 32) : bt (x <<< ((16 : Int32) &&& 31)) i = (decide (16 ≤ i) && bt x (i - 16)) := b_shl 16 (by omega) x hi
theorem b_shl24 (x : Int32) {i : Nat} (hi : i < 32) : bt (x <<< ((24 : Int32) &&& 31)) i = (decide (24 ≤ i) && bt x (i - 24)) := b_shl 24 (by omega) x hi
theorem b_sshr8 (x : Int32) {i : Nat} (hi : i < 32) : bt (x >>> ((8 : Int32) &&& 31)) i = if 8 + i < 32 then bt x (8 + i) else bt x 31 := b_sshr 8 (by omega) x hi
/-! ===== nI under and, xor, >>>, one bit, 65535 ===== -/
theorem nx_and (a b : Nat) : nI a &&& nI b = nI (a &&& b) := by
  apply Int32.toBitVec_inj.1
  show BitVec.ofNat 32 a &&& BitVec.ofNat 32 b = BitVec.ofNat 32 (a &&& b)
  apply BitVec.eq_of_getLsbD_eq
  intro i hi
  simp [hi]
theorem nx_xor (a b : Nat) : nI a ^^^ nI b = nI (a ^^^ b) := by
  apply Int32.toBitVec_inj.1
  show BitVec.ofNat 32 a ^^^ BitVec.ofNat 32 b = BitVec.ofNat 32 (a ^^^ b)
  apply BitVec.eq_of_getLsbD_eq
  intro i hi
  simp [hi]
theorem nx_cnt : ∀ j : Fin 32, (UInt32.ofNat j.val &&& Int32.toUInt32 31).toNat % 32 = j.val := by decide +kernel
theorem nx_ush {k j : Nat} (hk : k < 65536) (hj : j < 32) : ((nI k).toUInt32 >>> ((nI j).toUInt32 &&& Int32.toUInt32 31)).toInt32 = nI (k >>> j) := by
  have hs : k >>> j ≤ k := by
    rw [Nat.shiftRight_eq_div_pow]
    exact Nat.div_le_self _ _
  have e2 : UInt32.ofNat k >>> (UInt32.ofNat j &&& Int32.toUInt32 31) = UInt32.ofNat (k >>> j) := by
    apply UInt32.toNat_inj.1
    have h1 : (UInt32.ofNat k).toNat = k := Nat.mod_eq_of_lt (by omega)
    have h2 : (UInt32.ofNat (k >>> j)).toNat = k >>> j := Nat.mod_eq_of_lt (by omega)
    rw [UInt32.toNat_shiftRight, nx_cnt ⟨j, hj⟩, h1, h2]
  show (UInt32.ofNat k >>> (UInt32.ofNat j &&& Int32.toUInt32 31)).toInt32 = _
  rw [e2]
  rfl
theorem nx_bit {k j : Nat} (hk : k < 65536) (hj : j < 16) : (((nI k).toUInt32 >>> ((nI j).toUInt32 &&& Int32.toUInt32 31)).toInt32 &&& 1) = 0 ↔ k.testBit j = false := by
  rw [nx_ush hk (by omega)]
  show nI (k >>> j) &&& nI 1 = 0 ↔ _
  rw [nx_and, Nat.and_one_is_mod, ← nI_0, nI_eq (by omega) (by omega), Nat.testBit_eq_decide_div_mod_eq, Nat.shiftRight_eq_div_pow, decide_eq_false_iff_not]
  generalize k / 2 ^ j = z
  omega
theorem nx_mod (k : Nat) : nI k &&& 65535 = nI (k % 65536) := by
  show nI k &&& nI 65535 = _
  rw [nx_and, show (65535 : Nat) = 2 ^ 16 - 1 from rfl, Nat.and_two_pow_sub_one_eq_mod]
theorem nx_m16 {k : Nat} (h : k < 65536) : nI k &&& 65535 = nI k := by rw [nx_mod, Nat.mod_eq_of_lt h]
theorem nx_mask (x : Int32) : ∃ k, k < 65536 ∧ x &&& 65535 = nI k := by
  have e : x = nI x.toBitVec.toNat := by
    apply Int32.toBitVec_inj.1
    show x.toBitVec = BitVec.ofNat 32 x.toBitVec.toNat
    simp
  refine ⟨x.toBitVec.toNat % 65536, Nat.mod_lt _ (by omega), ?_⟩
  rw [← nx_mod, ← e]
/-! ===== lN n to 2^64: shifts, and, or, masks, one bit ===== -/
theorem wb_tb (n : Nat) : (lN n).toBitVec = BitVec.ofNat 64 n := rfl
theorem wb_inj {a b : Int64} (h : a.toBitVec = b.toBitVec) : a = b := Int64.toBitVec_inj.mp h
theorem wb_tn {n : Nat} (h : n < 2 ^ 64) : (lN n).toBitVec.toNat = n := by rw [wb_tb, BitVec.toNat_ofNat, Nat.mod_eq_of_lt h]
theorem wb_of (x : Int64) : ∃ n, n < 2 ^ 64 ∧ x = lN n := ⟨x.toBitVec.toNat, x.toBitVec.isLt, wb_inj (by rw [wb_tb]; simp)⟩
theorem wb_of32 (x : Int32) : ∃ n, n < 2 ^ 32 ∧ x = nI n := ⟨x.toBitVec.toNat, x.toBitVec.isLt, Int32.toBitVec_inj.mp (by show _ = BitVec.ofNat 32 _; simp)⟩
theorem wb_c : ∀ k, k < 64 → ((nI k).toInt64 &&& 63) = lN k := by decide +kernel
theorem wb_cu : ∀ k, k < 64 → ((nI k).toInt64.toUInt64 &&& Int64.toUInt64 63) = UInt64.ofNat k := by decide +kernel
theorem wb_sm : ∀ k, k < 64 → (BitVec.ofNat 64 k).smod 64 = BitVec.ofNat 64 k := by decide +kernel
theorem wb_pw {a b : Nat} (h : a ≤ b) : 2 ^ b = 2 ^ a * 2 ^ (b - a) := by rw [← Nat.pow_add]; congr 1; omega
theorem wb_lt2 {a b : Nat} (h : a < b) : 2 ^ a < 2 ^ b := Nat.pow_lt_pow_right (by decide) h
theorem wb_mod (n : Nat) : lN n = lN (n % 2 ^ 64) := wb_inj (by rw [wb_tb, wb_tb]; apply BitVec.eq_of_toNat_eq; rw [BitVec.toNat_ofNat, BitVec.toNat_ofNat, Nat.mod_mod])
theorem wb_shr {n k : Nat} (hn : n < 2 ^ 64) (hk : k < 64) : ((lN n).toUInt64 >>> ((nI k).toInt64.toUInt64 &&& Int64.toUInt64 63)).toInt64 = lN (n / 2 ^ k) := by
  rw [wb_cu k hk]
  apply wb_inj
  apply BitVec.eq_of_toNat_eq
  show ((lN n).toUInt64 >>> UInt64.ofNat k).toNat = (BitVec.ofNat 64 _).toNat
  have h1 : (UInt64.ofNat k).toNat = k := by
    show (BitVec.ofNat 64 k).toNat = k
    rw [BitVec.toNat_ofNat, Nat.mod_eq_of_lt (by omega)]
  have h2 : (lN n).toUInt64.toNat = n := wb_tn hn
  rw [UInt64.toNat_shiftRight, h1, h2, Nat.mod_eq_of_lt hk, Nat.shiftRight_eq_div_pow, BitVec.toNat_ofNat, Nat.mod_eq_of_lt (Nat.lt_of_le_of_lt (Nat.div_le_self _ _) hn)]
theorem wb_shl (n : Nat) {k : Nat} (hk : k < 64) : lN n <<< ((nI k).toInt64 &&& 63) = lN (n * 2 ^ k) := by
  rw [wb_c k hk]
  apply wb_inj
  rw [Int64.toBitVec_shiftLeft, wb_tb, wb_tb, wb_tb, wb_sm k hk]
  apply BitVec.eq_of_toNat_eq
  rw [BitVec.shiftLeft_eq', BitVec.toNat_shiftLeft, BitVec.toNat_ofNat, BitVec.toNat_ofNat, BitVec.toNat_ofNat, Nat.mod_eq_of_lt (show k < 2 ^ 64 by omega), Nat.shiftLeft_eq, Nat.mul_mod, Nat.mod_mod, ← Nat.mul_mod]
theorem wb_and {a b : Nat} (ha : a < 2 ^ 64) (hb : b < 2 ^ 64) : lN a &&& lN b = lN (a &&& b) := by
  apply wb_inj
  rw [Int64.toBitVec_and, wb_tb, wb_tb, wb_tb]
  apply BitVec.eq_of_toNat_eq
  rw [BitVec.toNat_and, BitVec.toNat_ofNat, BitVec.toNat_ofNat, BitVec.toNat_ofNat, Nat.mod_eq_of_lt ha, Nat.mod_eq_of_lt hb, Nat.mod_eq_of_lt (Nat.and_lt_two_pow _ hb)]
theorem wb_or {a b : Nat} (ha : a < 2 ^ 64) (hb : b < 2 ^ 64) : lN a ||| lN b = lN (a ||| b) := by
  apply wb_inj
  rw [Int64.toBitVec_or, wb_tb, wb_tb, wb_tb]
  apply BitVec.eq_of_toNat_eq
  rw [BitVec.toNat_or, BitVec.toNat_ofNat, BitVec.toNat_ofNat, BitVec.toNat_ofNat, Nat.mod_eq_of_lt ha, Nat.mod_eq_of_lt hb, Nat.mod_eq_of_lt (Nat.or_lt_two_pow ha hb)]
theorem wb_mask {n k : Nat} (hn : n < 2 ^ 64) (hk : k < 64) : lN n &&& lN (2 ^ k - 1) = lN (n % 2 ^ k) := by
  rw [wb_and hn (by have := wb_lt2 hk; omega), Nat.and_two_pow_sub_one_eq_mod]
theorem wb_a1 {n : Nat} (hn : n < 2 ^ 64) : lN n &&& 1 = lN (n % 2) := wb_mask (k := 1) hn (by decide)
theorem wb_bit {n k : Nat} (hn : n < 2 ^ 64) (hk : k < 64) : ((lN n).toUInt64 >>> ((nI k).toInt64.toUInt64 &&& Int64.toUInt64 63)).toInt64 &&& 1 = lN (n / 2 ^ k % 2) := by
  rw [wb_shr hn hk, wb_a1 (Nat.lt_of_le_of_lt (Nat.div_le_self _ _) hn)]
theorem wb_xor {q k : Nat} (hk : k < 63) (h : 2 ^ k ≤ q) (h2 : q < 2 ^ (k + 1)) : lN q ^^^ lN (2 ^ k) = lN (q - 2 ^ k) := by
  obtain ⟨r, rfl⟩ : ∃ r, q = 2 ^ k + r := ⟨q - 2 ^ k, by omega⟩
  have hr : r < 2 ^ k := by rw [Nat.pow_succ] at h2; omega
  have hx : (2 ^ k + r) ^^^ 2 ^ k = r := by
    apply Nat.eq_of_testBit_eq
    intro i
    rw [Nat.testBit_xor, Nat.testBit_two_pow]
    rcases Nat.lt_trichotomy i k with h | h | h
    · rw [Nat.testBit_two_pow_add_gt h]
      simp [show ¬ k = i by omega]
    · subst h
      rw [Nat.testBit_two_pow_add_eq]
      simp
    · have a1 : 2 ^ (k + 1) ≤ 2 ^ i := Nat.pow_le_pow_right (by decide) h
      rw [Nat.testBit_lt_two_pow (show 2 ^ k + r < 2 ^ i by omega), Nat.testBit_lt_two_pow (show r < 2 ^ i by omega)]
      simp [show ¬ k = i by omega]
  have b1 := wb_lt2 (show k + 1 < 64 by omega)
  have b2 := wb_lt2 (show k < 64 by omega)
  apply wb_inj
  rw [Int64.toBitVec_xor, wb_tb, wb_tb, wb_tb]
  apply BitVec.eq_of_toNat_eq
  rw [BitVec.toNat_xor, BitVec.toNat_ofNat, BitVec.toNat_ofNat, BitVec.toNat_ofNat, Nat.mod_eq_of_lt (by omega : 2 ^ k + r < 2 ^ 64), Nat.mod_eq_of_lt b2, hx, Nat.add_sub_cancel_left, Nat.mod_eq_of_lt (by omega)]
/-! ===== lN: masks, 'or' of parts that don't overlap is a sum ===== -/
theorem u_tn {n : Nat} (h : n < 2 ^ 64) : (UInt64.ofNat n).toNat = n := Nat.mod_eq_of_lt h
theorem g_and {a b c : Nat} (ha : a < 2 ^ 64) (hb : b < 2 ^ 64) (hc : a &&& b = c) : lN a &&& lN b = lN c := by
  subst hc
  have h : UInt64.ofNat a &&& UInt64.ofNat b = UInt64.ofNat (a &&& b) := UInt64.toNat_inj.mp (by rw [UInt64.toNat_and, u_tn ha, u_tn hb, u_tn (Nat.and_lt_two_pow a hb)])
  have h2 := congrArg UInt64.toInt64 h
  exact h2
theorem g_and1 {a : Nat} (ha : a < 2 ^ 64) : lN a &&& 1 = lN (a % 2) := g_and (b := 1) ha (by decide) (Nat.and_two_pow_sub_one_eq_mod a 1)
theorem g_mask {a s p : Nat} (hp : 2 ^ s = p) (hs : s < 64) (ha : a < 2 ^ 64) : lN a &&& lN (p - 1) = lN (a % p) := by
  subst hp
  have := Nat.pow_lt_pow_right (show 1 < 2 by decide) hs
  exact g_and ha (by omega) (Nat.and_two_pow_sub_one_eq_mod a s)
theorem g_or {k p a b : Nat} (hp : 2 ^ k = p) (ha : a < p) (h : b * p + a < 2 ^ 64) : lN (b * p) ||| lN a = lN (b * p + a) := by
  subst hp
  have h1 : b * 2 ^ k ||| a = b * 2 ^ k + a := by rw [← Nat.shiftLeft_eq, Nat.shiftLeft_add_eq_or_of_lt ha]
  have h3 : UInt64.ofNat (b * 2 ^ k) ||| UInt64.ofNat a = UInt64.ofNat (b * 2 ^ k + a) := UInt64.toNat_inj.mp (by rw [UInt64.toNat_or, u_tn (by omega), u_tn (by omega), u_tn h, h1])
  have h2 := congrArg UInt64.toInt64 h3
  exact h2
theorem g_or' {k p a b : Nat} (hp : 2 ^ k = p) (ha : a < p) (h : a + b * p < 2 ^ 64) : lN a ||| lN (b * p) = lN (a + b * p) := by
  rw [Int64.or_comm, g_or hp ha (by omega), Nat.add_comm]
theorem g_ushr {a k p : Nat} {y : UInt64} (hy : y = UInt64.ofNat k) (hk : k < 64) (hp : 2 ^ k = p) (ha : a < 2 ^ 64) : ((lN a).toUInt64 >>> y).toInt64 = lN (a / p) := by
  subst hy hp
  have h : UInt64.ofNat a >>> UInt64.ofNat k = UInt64.ofNat (a / 2 ^ k) := UInt64.toNat_inj.mp (by rw [UInt64.toNat_shiftRight, u_tn ha, u_tn (by omega), u_tn (Nat.lt_of_le_of_lt (Nat.div_le_self _ _) ha), Nat.mod_eq_of_lt hk, Nat.shiftRight_eq_div_pow])
  have h2 := congrArg UInt64.toInt64 h
  exact h2
theorem g_shl {a k p : Nat} {y : Int64} (hy : y.toBitVec.smod 64 = BitVec.ofNat 64 k) (hk : k < 64) (hp : 2 ^ k = p) (ha : a < 2 ^ 64) : lN a <<< y = lN (a * p) := by
  subst hp
  apply Int64.toBitVec_inj.mp
  rw [Int64.toBitVec_shiftLeft, hy]
  apply BitVec.eq_of_toNat_eq
  have hb : (lN a).toBitVec.toNat = a := Nat.mod_eq_of_lt ha
  have hk' : (BitVec.ofNat 64 k).toNat = k := Nat.mod_eq_of_lt (by omega)
  have h : ((lN a).toBitVec <<< BitVec.ofNat 64 k).toNat = (a * 2 ^ k) % 2 ^ 64 := by simp only [BitVec.shiftLeft_eq', BitVec.toNat_shiftLeft, hb, hk', Nat.shiftLeft_eq]
  exact h
/-! ===== lN to 2^62 under >> and >>> ===== -/
theorem pf_lI {a : Nat} (h : a < 2 ^ 63) : (lN a).toInt = (a : Int) := lg_ofNat_toInt h
theorem pf_shr {a d : Nat} {D : Int64} (hD : (D.toBitVec.smod 64).toNat = d) (h : a < 2 ^ 62) : lN a >>> D = lN (a / 2 ^ d) := by
  have hd : a / 2 ^ d ≤ a := Nat.div_le_self _ _
  apply Int64.toInt_inj.mp
  have e : (lN a >>> D).toInt = (lN a).toInt >>> d := by
    rw [← hD]
    exact BitVec.toInt_sshiftRight ..
  rw [e, Int.shiftRight_eq_div_pow, pf_lI (by omega), pf_lI (by omega)]
  rfl
theorem pf_ushr {a d : Nat} {D : UInt64} (hD : D.toNat % 64 = d) (h : a < 2 ^ 62) : ((lN a).toUInt64 >>> D).toInt64 = lN (a / 2 ^ d) := by
  have hd : a / 2 ^ d ≤ a := Nat.div_le_self _ _
  have e : (lN a).toUInt64 >>> D = UInt64.ofNat (a / 2 ^ d) := UInt64.toNat_inj.mp (by
    rw [UInt64.toNat_shiftRight, hD, Nat.shiftRight_eq_div_pow, UInt64.toNat_ofNat']
    show (UInt64.ofNat a).toNat / 2 ^ d = _
    rw [UInt64.toNat_ofNat', Nat.mod_eq_of_lt (by omega), Nat.mod_eq_of_lt (by omega)])
  rw [e]
  rfl
theorem pf_andw (x : Int64) : ∃ m, m < 2 ^ 32 ∧ x &&& 4294967295 = lN m := ⟨x.toBitVec.toNat % 2 ^ 32, Nat.mod_lt _ (by decide), Int64.toBitVec_inj.mp (BitVec.eq_of_toNat_eq (by
  show (x.toBitVec &&& 4294967295#64).toNat = (BitVec.ofNat 64 (x.toBitVec.toNat % 2 ^ 32)).toNat
  rw [BitVec.toNat_and, show (4294967295#64).toNat = 2 ^ 32 - 1 from by decide, Nat.and_two_pow_sub_one_eq_mod, BitVec.toNat_ofNat]
  omega))⟩
end
section
/-! bits of Int32 (bt) and Int64 (qb_l) -/
theorem qb_t1 (y : Int32) : (y &&& 1) = 1 ↔ bt y 0 = true := by
  constructor
  · intro h
    have : bt (y &&& 1) 0 = bt 1 0 := by rw [h]
    rw [b_and] at this
    have e : bt 1 0 = true := by decide
    rw [e, Bool.and_true] at this
    exact this
  · intro h
    apply b_ext
    intro i hi
    rw [b_and]
    have e : ∀ i, i < 32 → bt 1 i = decide (i = 0) := by decide +kernel
    rw [e i hi]
    by_cases z : i = 0
    · subst z; rw [h]; rfl
    · simp [z]
theorem qb_t0 (y : Int32) : (y &&& 1) = 0 ↔ bt y 0 = false := by
  constructor
  · intro h
    have : bt (y &&& 1) 0 = bt 0 0 := by rw [h]
    rw [b_and, b_0] at this
    have e : bt 1 0 = true := by decide
    rw [e, Bool.and_true] at this
    exact this
  · intro h
    apply b_ext
    intro i hi
    rw [b_and, b_0]
    have e : ∀ i, i < 32 → bt 1 i = decide (i = 0) := by decide +kernel
    rw [e i hi]
    by_cases z : i = 0
    · subst z; rw [h]; rfl
    · simp [z]
theorem qb_s1 (x : Int32) (n : Nat) (hn : n < 32) : ((x >>> (nI n &&& 31)) &&& 1) = 1 ↔ bt x n = true := by
  rw [qb_t1, b_sshr n hn x (by omega)]
  simp [hn]
theorem qb_s0 (x : Int32) (n : Nat) (hn : n < 32) : ((x >>> (nI n &&& 31)) &&& 1) = 0 ↔ bt x n = false := by
  rw [qb_t0, b_sshr n hn x (by omega)]
  simp [hn]
theorem qb_h32 : ∀ i, i < 32 → ∀ j, j < 32 → bt ((1 : Int32) <<< (nI i &&& 31)) j = decide (j = i) := by decide +kernel
theorem qb_nI (a j : Nat) (hj : j < 32) : bt (nI a) j = a.testBit j := by
  show (BitVec.ofNat 32 a).getLsbD j = _
  rw [BitVec.getLsbD_ofNat]
  simp [hj]
def qb_l (x : Int64) (i : Nat) : Bool := x.toBitVec.getLsbD i
theorem qb_ext {x y : Int64} (h : ∀ i, i < 64 → qb_l x i = qb_l y i) : x = y := Int64.toBitVec_inj.mp (BitVec.eq_of_getLsbD_eq (fun i hi => h i hi))
theorem qb_or (x y : Int64) (i : Nat) : qb_l (x ||| y) i = (qb_l x i || qb_l y i) := by unfold qb_l; rw [Int64.toBitVec_or, BitVec.getLsbD_or]
theorem qb_and (x y : Int64) (i : Nat) : qb_l (x &&& y) i = (qb_l x i && qb_l y i) := by unfold qb_l; rw [Int64.toBitVec_and, BitVec.getLsbD_and]
theorem qb_0 (i : Nat) : qb_l 0 i = false := BitVec.getLsbD_zero
theorem qb_big {x : Int64} {i : Nat} (h : 64 ≤ i) : qb_l x i = false := BitVec.getLsbD_of_ge _ _ h
theorem qb_1 : ∀ i, i < 64 → qb_l 1 i = decide (i = 0) := by decide +kernel
theorem qb_2 : ∀ i, i < 64 → qb_l 2 i = decide (i = 1) := by decide +kernel
theorem qb_m : ∀ i, i < 64 → qb_l (-1) i = true := by decide +kernel
theorem qb_xor (x y : Int64) (i : Nat) : qb_l (x ^^^ y) i = (qb_l x i ^^ qb_l y i) := by unfold qb_l; rw [Int64.toBitVec_xor, BitVec.getLsbD_xor]
theorem qb_not (x : Int64) (i : Nat) (hi : i < 64) : qb_l (x ^^^ (-1)) i = !qb_l x i := by rw [qb_xor, qb_m i hi]; simp
theorem qb_sl : ∀ n, n < 64 → (((nI n).toInt64 &&& 63).toBitVec.smod 64).toNat = n := by decide +kernel
theorem qb_shl (n : Nat) (hn : n < 64) (x : Int64) {i : Nat} (hi : i < 64) : qb_l (x <<< ((nI n).toInt64 &&& 63)) i = (decide (n ≤ i) && qb_l x (i - n)) := by
  unfold qb_l
  rw [Int64.toBitVec_shiftLeft]
  show (x.toBitVec <<< (((nI n).toInt64 &&& 63).toBitVec.smod 64).toNat).getLsbD i = _
  rw [qb_sl n hn, BitVec.getLsbD_shiftLeft]
  rcases Nat.lt_or_ge i n with h | h
  · simp [h, Nat.not_le.mpr h]
  · simp [hi, h, Nat.not_lt.mpr h]
theorem qb_sshr (n : Nat) (hn : n < 64) (x : Int64) {i : Nat} (hi : i < 64) : qb_l (x >>> ((nI n).toInt64 &&& 63)) i = if n + i < 64 then qb_l x (n + i) else qb_l x 63 := by
  unfold qb_l
  rw [Int64.toBitVec_shiftRight]
  show (x.toBitVec.sshiftRight (((nI n).toInt64 &&& 63).toBitVec.smod 64).toNat).getLsbD i = _
  rw [qb_sl n hn, BitVec.getLsbD_sshiftRight, BitVec.msb_eq_getLsbD_last]
  simp [hi]
theorem qb_T1 (y : Int64) : (y &&& 1) = 1 ↔ qb_l y 0 = true := by
  constructor
  · intro h
    have : qb_l (y &&& 1) 0 = qb_l 1 0 := by rw [h]
    rw [qb_and, qb_1 0 (by omega)] at this
    simpa using this
  · intro h
    apply qb_ext
    intro i hi
    rw [qb_and, qb_1 i hi]
    by_cases z : i = 0
    · subst z; rw [h]; rfl
    · simp [z]
theorem qb_T0 (y : Int64) : (y &&& 1) = 0 ↔ qb_l y 0 = false := by
  constructor
  · intro h
    have : qb_l (y &&& 1) 0 = qb_l 0 0 := by rw [h]
    rw [qb_and, qb_0, qb_1 0 (by omega)] at this
    simpa using this
  · intro h
    apply qb_ext
    intro i hi
    rw [qb_and, qb_0, qb_1 i hi]
    by_cases z : i = 0
    · subst z; rw [h]; rfl
    · simp [z]
theorem qb_S1 (x : Int64) (n : Nat) (hn : n < 64) : ((x >>> ((nI n).toInt64 &&& 63)) &&& 1) = 1 ↔ qb_l x n = true := by
  rw [qb_T1, qb_sshr n hn x (by omega)]
  simp [hn]
theorem qb_S0 (x : Int64) (n : Nat) (hn : n < 64) : ((x >>> ((nI n).toInt64 &&& 63)) &&& 1) = 0 ↔ qb_l x n = false := by
  rw [qb_T0, qb_sshr n hn x (by omega)]
  simp [hn]
theorem qb_here (i : Nat) (hi : i < 64) (j : Nat) (hj : j < 64) : qb_l ((1 : Int64) <<< ((nI i).toInt64 &&& 63)) j = decide (j = i) := by
  rw [qb_shl i hi _ hj]
  rcases Nat.lt_or_ge j i with h | h
  · simp [Nat.not_le.mpr h, show ¬ j = i by omega]
  · rw [qb_1 _ (by omega)]
    simp [h]
    omega
theorem qb_next (i : Nat) (hi : i < 63) (j : Nat) (hj : j < 64) : qb_l ((2 : Int64) <<< ((nI i).toInt64 &&& 63)) j = decide (j = i + 1) := by
  rw [qb_shl i (by omega) _ hj]
  rcases Nat.lt_or_ge j i with h | h
  · simp [Nat.not_le.mpr h, show ¬ j = i + 1 by omega]
  · rw [qb_2 _ (by omega)]
    simp [h]
    omega
theorem qb_here1 (i : Nat) (hi : i < 63) (j : Nat) (hj : j < 64) : qb_l (((1 : Int64) <<< ((nI i).toInt64 &&& 63)) <<< ((1 : Int32).toInt64 &&& 63)) j = decide (j = i + 1) := by
  have h1 := qb_shl 1 (by omega) ((1 : Int64) <<< ((nI i).toInt64 &&& 63)) hj
  have e : (nI 1).toInt64 = (1 : Int32).toInt64 := by decide
  rw [e] at h1
  rw [h1]
  rcases Nat.lt_or_ge j 1 with h | h
  · simp [show ¬ 1 ≤ j by omega, show ¬ j = i + 1 by omega]
  · rw [qb_here i (by omega) _ (by omega)]
    simp [h]
    omega
theorem qb_ne {x : Int64} : x ≠ 0 ↔ ∃ i, i < 64 ∧ qb_l x i = true := by
  constructor
  · intro h
    apply Classical.byContradiction
    intro hn
    apply h
    apply qb_ext
    intro i hi
    rw [qb_0]
    cases e : qb_l x i
    · rfl
    · exact absurd ⟨i, hi, e⟩ hn
  · intro ⟨i, hi, h⟩ e
    rw [e, qb_0] at h
    exact absurd h (by decide)
end
section
/-! rows of letters as lists; sets of rows as lists in the order of their making -/
def qr_add (l : List (List Nat)) (r : List Nat) : List (List Nat) := if r ∈ l then l else l ++ [r]
def qr_all (l rs : List (List Nat)) : List (List Nat) := rs.foldl qr_add l
def qr_lim (l : List (List Nat)) : List (List Nat) := if l.length ≤ 8 then l else [[]]
def qr_hd (r : List Nat) : List Nat := r.take 2
def qr_tl (r : List Nat) : List Nat := r.drop (r.length - 2)
def qr_pr (xs ys : List (List Nat)) : List (List Nat) := xs.flatMap (fun a => ys.map (fun b => a ++ b))
def qr_has (r : List Nat) (T : Nat → Nat → Nat → Prop) : Prop := ∀ i, i + 2 < r.length → T (r.getD i 0) (r.getD (i + 1) 0) (r.getD (i + 2) 0)
def qr_some (W : List (List Nat)) (T : Nat → Nat → Nat → Prop) : Prop := ∃ r, r ∈ W ∧ qr_has r T
def qr_at (c : Nat → Nat) : Nat → List Nat → Prop
  | _, [] => True
  | i, a :: r => a = c i ∧ qr_at c (i + 1) r
theorem qr_at_app (c : Nat → Nat) : ∀ (a b : List Nat) (i : Nat), qr_at c i (a ++ b) ↔ qr_at c i a ∧ qr_at c (i + a.length) b
  | [], b, i => by simp [qr_at]
  | x :: a, b, i => by
    have := qr_at_app c a b (i + 1)
    simp only [List.cons_append, qr_at, this, List.length_cons]
    rw [show i + 1 + a.length = i + (a.length + 1) by omega, and_assoc]
theorem qr_at_get (c : Nat → Nat) : ∀ (r : List Nat) (i k : Nat), k < r.length → qr_at c i r → r.getD k 0 = c (i + k)
  | [], i, k, h, _ => absurd h (by simp)
  | a :: r, i, 0, _, h => h.1
  | a :: r, i, k + 1, hk, h => by
    have := qr_at_get c r (i + 1) k (by simpa using hk) h.2
    rw [show i + (k + 1) = i + 1 + k by omega, ← this]
    rfl
theorem qr_at_take (c : Nat → Nat) (r : List Nat) (i m : Nat) (h : qr_at c i r) : qr_at c i (r.take m) := by
  rw [← List.take_append_drop m r, qr_at_app] at h
  exact h.1
theorem qr_at_drop (c : Nat → Nat) (r : List Nat) (i m : Nat) (hm : m ≤ r.length) (h : qr_at c i r) : qr_at c (i + m) (r.drop m) := by
  rw [← List.take_append_drop m r, qr_at_app, List.length_take, Nat.min_eq_left hm] at h
  exact h.2
theorem qr_at_has (c : Nat → Nat) (n i : Nat) (r : List Nat) (T : Nat → Nat → Nat → Prop) (hT : ∀ i, i + 2 < n → T (c i) (c (i + 1)) (c (i + 2))) (h : qr_at c i r) (hn : i + r.length ≤ n) : qr_has r T := by
  intro k hk
  rw [qr_at_get c r i k (by omega) h, qr_at_get c r i (k + 1) (by omega) h, qr_at_get c r i (k + 2) (by omega) h]
  exact hT (i + k) (by omega)
theorem qr_mem_add {l : List (List Nat)} {r s : List Nat} : s ∈ qr_add l r ↔ s ∈ l ∨ s = r := by
  unfold qr_add
  by_cases h : r ∈ l
  · rw [if_pos h]
    exact ⟨Or.inl, fun z => z.elim id (fun e => e ▸ h)⟩
  · rw [if_neg h]; simp
theorem qr_mem_all : ∀ {rs l : List (List Nat)} {s : List Nat}, s ∈ qr_all l rs ↔ s ∈ l ∨ s ∈ rs
  | [], l, s => by simp [qr_all]
  | r :: rs, l, s => by
    have := qr_mem_all (rs := rs) (l := qr_add l r) (s := s)
    show s ∈ qr_all (qr_add l r) rs ↔ _
    rw [this, qr_mem_add]
    simp [or_assoc]
theorem qr_nd_add {l : List (List Nat)} {r : List Nat} (h : l.Nodup) : (qr_add l r).Nodup := by
  unfold qr_add
  by_cases z : r ∈ l
  · rw [if_pos z]; exact h
  · rw [if_neg z, List.nodup_append]
    refine ⟨h, by simp, ?_⟩
    intro a ha b hb e
    simp at hb
    subst hb; subst e
    exact z ha
theorem qr_nd_all : ∀ {rs l : List (List Nat)}, l.Nodup → (qr_all l rs).Nodup
  | [], _, h => h
  | _ :: rs, _, h => qr_nd_all (rs := rs) (qr_nd_add h)
theorem qr_all_nd : ∀ {rs l : List (List Nat)}, (l ++ rs).Nodup → qr_all l rs = l ++ rs
  | [], l, _ => by simp [qr_all]
  | r :: rs, l, h => by
    have hr : r ∉ l := by
      intro z
      rw [List.nodup_append] at h
      exact h.2.2 r z r (by simp) rfl
    show qr_all (qr_add l r) rs = _
    have e : qr_add l r = l ++ [r] := by unfold qr_add; rw [if_neg hr]
    rw [e, qr_all_nd (by simpa using h)]
    simp
theorem qr_all_self {l : List (List Nat)} (h : l.Nodup) : qr_all [] l = l := by
  rw [qr_all_nd (by simpa using h)]; rfl
theorem qr_all_app (l a b : List (List Nat)) : qr_all l (a ++ b) = qr_all (qr_all l a) b := by
  unfold qr_all; rw [List.foldl_append]
theorem qr_len_add (l : List (List Nat)) (r : List Nat) : l.length ≤ (qr_add l r).length := by
  unfold qr_add
  by_cases z : r ∈ l
  · rw [if_pos z]; exact Nat.le_refl _
  · rw [if_neg z]; simp
theorem qr_len_add1 (l : List (List Nat)) (r : List Nat) : (qr_add l r).length ≤ l.length + 1 := by
  unfold qr_add
  by_cases z : r ∈ l
  · rw [if_pos z]; omega
  · rw [if_neg z]; simp
theorem qr_len_all : ∀ (rs l : List (List Nat)), l.length ≤ (qr_all l rs).length
  | [], _ => Nat.le_refl _
  | r :: rs, l => Nat.le_trans (qr_len_add l r) (qr_len_all rs (qr_add l r))
theorem qr_len_all1 : ∀ (rs l : List (List Nat)), (qr_all l rs).length ≤ l.length + rs.length
  | [], _ => Nat.le_refl _
  | r :: rs, l => by
    have := qr_len_all1 rs (qr_add l r)
    have := qr_len_add1 l r
    show (qr_all (qr_add l r) rs).length ≤ _
    rw [List.length_cons]
    omega
theorem qr_lim_ex {l : List (List Nat)} {P : List Nat → Prop} (h0 : P []) (h : ∃ r, r ∈ l ∧ P r) : ∃ r, r ∈ qr_lim l ∧ P r := by
  unfold qr_lim
  by_cases z : l.length ≤ 8
  · rw [if_pos z]; exact h
  · rw [if_neg z]; exact ⟨[], by simp, h0⟩
theorem qr_mem_pr {xs ys : List (List Nat)} {r : List Nat} : r ∈ qr_pr xs ys ↔ ∃ a, a ∈ xs ∧ ∃ b, b ∈ ys ∧ r = a ++ b := by
  unfold qr_pr
  rw [List.mem_flatMap]
  constructor
  · rintro ⟨a, ha, h⟩
    rw [List.mem_map] at h
    obtain ⟨b, hb, e⟩ := h
    exact ⟨a, ha, b, hb, e.symm⟩
  · rintro ⟨a, ha, b, hb, e⟩
    exact ⟨a, ha, List.mem_map.mpr ⟨b, hb, e.symm⟩⟩
/-! what a set of rows keeps: no repeats, one to eight, at most m letters a row -/
def qr_wf (m : Nat) (l : List (List Nat)) : Prop := l.Nodup ∧ 1 ≤ l.length ∧ l.length ≤ 8 ∧ ∀ r, r ∈ l → r.length ≤ m ∧ ∀ x, x ∈ r → x < 6
theorem qr_wf1 (m : Nat) : qr_wf m [[]] := ⟨by simp, by simp, by simp, by simp⟩
theorem qr_wf_lim {m : Nat} {l : List (List Nat)} (h0 : l.Nodup) (h1 : 1 ≤ l.length) (h : ∀ r, r ∈ l → r.length ≤ m ∧ ∀ x, x ∈ r → x < 6) : qr_wf m (qr_lim l) := by
  unfold qr_lim
  by_cases z : l.length ≤ 8
  · rw [if_pos z]; exact ⟨h0, h1, z, h⟩
  · rw [if_neg z]; exact qr_wf1 m
theorem qr_ne_all {rs : List (List Nat)} (h : 1 ≤ rs.length) : 1 ≤ (qr_all [] rs).length := by
  match rs, h with
  | r :: rs, _ =>
    have h1 := qr_len_all rs (qr_add [] r)
    have h2 : (qr_add [] r).length = 1 := by simp [qr_add]
    show 1 ≤ (qr_all (qr_add [] r) rs).length
    omega
theorem qr_wf_all {m : Nat} {l : List (List Nat)} (h1 : 1 ≤ l.length) (h : ∀ r, r ∈ l → r.length ≤ m ∧ ∀ x, x ∈ r → x < 6) : qr_wf m (qr_lim (qr_all [] l)) :=
  qr_wf_lim (qr_nd_all (by simp)) (qr_ne_all h1) (fun r hr => h r ((qr_mem_all.mp hr).elim (fun z => absurd z (by simp)) id))
theorem qr_hd_in {r : List Nat} {x : Nat} (h : x ∈ qr_hd r) : x ∈ r := List.mem_of_mem_take h
theorem qr_tl_in {r : List Nat} {x : Nat} (h : x ∈ qr_tl r) : x ∈ r := List.mem_of_mem_drop h
theorem qr_hd_len (r : List Nat) : (qr_hd r).length ≤ 2 := by unfold qr_hd; rw [List.length_take]; omega
theorem qr_tl_len (r : List Nat) : (qr_tl r).length ≤ 2 := by unfold qr_tl; rw [List.length_drop]; omega
theorem qr_pr_len (xs ys : List (List Nat)) : (qr_pr xs ys).length = xs.length * ys.length := by
  unfold qr_pr
  induction xs with
  | nil => simp
  | cons a xs ih => rw [List.flatMap_cons, List.length_append, ih, List.length_map, List.length_cons, Nat.succ_mul]; omega
end
section
/-! what a part of an expression has: WORDS, HEADS, TAILS, CLAIM (loosened), and what it matches in a line -/
abbrev qi_T : Type := Option (List (List Nat)) × List (List Nat) × List (List Nat) × ((Nat → Nat → Nat → Prop) → Prop)
def qi_known (ws : List (List Nat)) : qi_T := (some ws, qr_lim (qr_all [] (ws.map qr_hd)), qr_lim (qr_all [] (ws.map qr_tl)), qr_some ws)
def qi_unk : qi_T := (none, [[]], [[]], fun _ => True)
def qi_ls (a : Nat) : List Nat := (List.range 6).filter (fun l => a.testBit l)
def qi_lf (k a : Nat) : qi_T := if k = 2 then (if (qi_ls a).length ≤ 3 then qi_known ((qi_ls a).map (fun l => [l])) else qi_unk) else qi_known [[]]
def qi_rep (x : qi_T) : qi_T := (none, x.2.1, x.2.2.1, x.2.2.2)
def qi_un (k a : Nat) (x : qi_T) : qi_T := if k = 7 then qi_rep x else if k = 9 then (if a = 0 then qi_unk else qi_rep x) else qi_unk
def qi_alt2 (x y : qi_T) : qi_T := (none, qr_lim (qr_all [] (x.2.1 ++ y.2.1)), qr_lim (qr_all [] (x.2.2.1 ++ y.2.2.1)), fun T => x.2.2.2 T ∨ y.2.2.2 T)
def qi_alt (x y : qi_T) : qi_T := match x.1, y.1 with
  | some xs, some ys => if (qr_all [] (xs ++ ys)).length ≤ 8 then qi_known (qr_all [] (xs ++ ys)) else qi_alt2 x y
  | _, _ => qi_alt2 x y
def qi_hx (x y : qi_T) : List (List Nat) := match x.1 with
  | some xs => qr_lim (qr_all [] ((qr_pr xs y.2.1).map qr_hd))
  | none => x.2.1
def qi_ty (x y : qi_T) : List (List Nat) := match y.1 with
  | some ys => qr_lim (qr_all [] ((qr_pr x.2.2.1 ys).map qr_tl))
  | none => y.2.2.1
def qi_seq2 (x y : qi_T) : qi_T := (none, qi_hx x y, qi_ty x y, fun T => x.2.2.2 T ∧ y.2.2.2 T ∧ qr_some (qr_pr x.2.2.1 y.2.1) T)
def qi_sh (xs ys : List (List Nat)) : Bool := decide ((qr_all [] (qr_pr xs ys)).length ≤ 8) && (qr_pr xs ys).all (fun r => decide (r.length ≤ 5))
def qi_seq (x y : qi_T) : qi_T := match x.1, y.1 with
  | some xs, some ys => if qi_sh xs ys = true then qi_known (qr_all [] (qr_pr xs ys)) else qi_seq2 x y
  | _, _ => qi_seq2 x y
def qi_bi (k : Nat) (x y : qi_T) : qi_T := if k = 13 then qi_seq x y else qi_alt x y
abbrev qe_M : Type := Nat → Nat → Prop
def qe_st (x : qe_M) : Nat → Nat → Nat → Prop
  | 0, i, j => i = j
  | d + 1, i, j => i = j ∨ ∃ m, i < m ∧ x i m ∧ qe_st x d m j
def qe_star (x : qe_M) (i j : Nat) : Prop := ∃ d, qe_st x d i j
def qe_pow (x : qe_M) : Nat → Nat → Nat → Prop
  | 0, i, j => i = j
  | q + 1, i, j => ∃ m, qe_pow x q i m ∧ x m j
def qe_lf (k a : Nat) (c : Nat → Nat) (n : Nat) : qe_M := fun i j =>
  if k = 2 then i < n ∧ j = i + 1 ∧ a.testBit (c i) = true else if k = 10 then i = 0 ∧ j = i else if k = 11 then i = n ∧ j = i else j = i
def qe_un (k a b : Nat) (x : qe_M) : qe_M := fun i j =>
  if k = 6 then qe_star x i j else if k = 7 then (∃ m, x i m ∧ qe_star x m j) else ∃ q, a ≤ q ∧ q ≤ b ∧ qe_pow x q i j
def qe_bi (k : Nat) (x y : qe_M) : qe_M := fun i j => if k = 13 then ∃ m, x i m ∧ y m j else x i j ∨ y i j
abbrev qv_T : Type := Nat × qi_T × ((Nat → Nat) → Nat → qe_M)
def qv_lf (k a : Nat) : qv_T := (if k = 12 then 0 else 1, qi_lf k a, fun c n => qe_lf k a c n)
def qv_un (k a b : Nat) (x : qv_T) : qv_T := (if k = 6 then x.1 + 2 else if k = 7 then x.1 + 1 else b * x.1 + (b - a), qi_un k a x.2.1, fun c n => qe_un k a b (x.2.2 c n))
def qv_bi (k : Nat) (x y : qv_T) : qv_T := (if k = 13 then x.1 + y.1 else if k = 5 then x.1 + y.1 + 2 else x.1 + 1, qi_bi k x.2.1 y.2.1, fun c n => qe_bi k (x.2.2 c n) (y.2.2 c n))
/-! star and pow -/
theorem qe_star_eq (x : qe_M) (i j : Nat) : qe_star x i j ↔ i = j ∨ ∃ m, i < m ∧ x i m ∧ qe_star x m j := by
  constructor
  · rintro ⟨d, h⟩
    match d, h with
    | 0, h => exact Or.inl h
    | d + 1, Or.inl h => exact Or.inl h
    | d + 1, Or.inr ⟨m, h1, h2, h3⟩ => exact Or.inr ⟨m, h1, h2, d, h3⟩
  · rintro (h | ⟨m, h1, h2, d, h3⟩)
    · exact ⟨0, h⟩
    · exact ⟨d + 1, Or.inr ⟨m, h1, h2, h3⟩⟩
theorem qe_star_rf (x : qe_M) (i : Nat) : qe_star x i i := ⟨0, rfl⟩
theorem qe_plus_eq (x : qe_M) (n : Nat) (hx : ∀ i j, i ≤ n → x i j → i ≤ j ∧ j ≤ n) (i j : Nat) (hi : i ≤ n) : (∃ m, x i m ∧ qe_star x m j) ↔ x i j ∨ ∃ m, i < m ∧ x i m ∧ ∃ m', x m m' ∧ qe_star x m' j := by
  constructor
  · rintro ⟨m, h1, h2⟩
    rcases (qe_star_eq x m j).mp h2 with h | ⟨m', h3, h4, h5⟩
    · subst h; exact Or.inl h1
    · rcases Nat.lt_or_ge i m with z | z
      · exact Or.inr ⟨m, z, h1, m', h4, h5⟩
      · have e : m = i := Nat.le_antisymm z (hx _ _ hi h1).1
        subst e
        rcases (qe_star_eq x m' j).mp h5 with h | ⟨m2, h6, h7, h8⟩
        · subst h; exact Or.inl h4
        · exact Or.inr ⟨m', h3, h4, m2, h7, h8⟩
  · rintro (h | ⟨m, h1, h2, m', h3, h4⟩)
    · exact ⟨j, h, qe_star_rf x j⟩
    · refine ⟨m, h2, ?_⟩
      rcases Nat.lt_or_ge m m' with z | z
      · exact (qe_star_eq x m j).mpr (Or.inr ⟨m', z, h3, h4⟩)
      · have e : m' = m := Nat.le_antisymm z (hx _ _ (hx _ _ hi h2).2 h3).1
        subst e
        exact h4
theorem qe_star_last (x : qe_M) (n : Nat) (hx : ∀ i j, i ≤ n → x i j → i ≤ j ∧ j ≤ n) : ∀ (d i j : Nat), i ≤ n → qe_st x d i j → i ≤ j ∧ j ≤ n ∧ (i = j ∨ ∃ m, i ≤ m ∧ m ≤ n ∧ x m j)
  | 0, i, j, hi, h => by
    have e : i = j := h
    subst e
    exact ⟨Nat.le_refl _, hi, Or.inl rfl⟩
  | d + 1, i, j, hi, h => by
    rcases h with h | ⟨m, h1, h2, h3⟩
    · subst h
      exact ⟨Nat.le_refl _, hi, Or.inl rfl⟩
    · have hm := hx i m hi h2
      obtain ⟨h4, h5, h6⟩ := qe_star_last x n hx d m j hm.2 h3
      refine ⟨by omega, h5, Or.inr ?_⟩
      rcases h6 with h6 | ⟨m', h7, h8, h9⟩
      · subst h6; exact ⟨i, Nat.le_refl _, hi, h2⟩
      · exact ⟨m', by omega, h8, h9⟩
theorem qe_pow_in (x : qe_M) (n : Nat) (hx : ∀ i j, i ≤ n → x i j → i ≤ j ∧ j ≤ n) : ∀ (q i j : Nat), i ≤ n → qe_pow x q i j → i ≤ j ∧ j ≤ n
  | 0, i, j, hi, h => by
    have e : i = j := h
    subst e
    exact ⟨Nat.le_refl _, hi⟩
  | q + 1, i, j, hi, h => by
    obtain ⟨m, h1, h2⟩ := h
    have a := qe_pow_in x n hx q i m hi h1
    have b := hx m j a.2 h2
    exact ⟨by omega, b.2⟩
theorem qe_pow_first (x : qe_M) (n : Nat) (hx : ∀ i j, i ≤ n → x i j → i ≤ j ∧ j ≤ n) : ∀ (q i j : Nat), i ≤ n → qe_pow x (q + 1) i j → ∃ m, x i m ∧ m ≤ j
  | 0, i, j, hi, h => by
    obtain ⟨m, h1, h2⟩ := h
    have e : i = m := h1
    subst e
    exact ⟨j, h2, Nat.le_refl _⟩
  | q + 1, i, j, hi, h => by
    obtain ⟨m, h1, h2⟩ := h
    obtain ⟨m', h3, h4⟩ := qe_pow_first x n hx q i m hi h1
    have a := qe_pow_in x n hx (q + 1) i m hi h1
    have b := hx m j a.2 h2
    exact ⟨m', h3, by omega⟩
/-! soundness: where a part matches, its words, heads, tails and claim hold -/
def qs_ok (c : Nat → Nat) (n : Nat) (T : Nat → Nat → Nat → Prop) (v : qi_T) (M : qe_M) : Prop :=
  ∀ i j, i ≤ n → M i j → i ≤ j ∧ j ≤ n ∧ (∀ ws, v.1 = some ws → ∃ w, w ∈ ws ∧ i + w.length = j ∧ qr_at c i w) ∧ (∃ h, h ∈ v.2.1 ∧ i + h.length ≤ j ∧ qr_at c i h) ∧ (∃ t, t ∈ v.2.2.1 ∧ ∃ p, i ≤ p ∧ p + t.length = j ∧ qr_at c p t) ∧ v.2.2.2 T
theorem qs_known {c : Nat → Nat} {n : Nat} {T : Nat → Nat → Nat → Prop} (hT : ∀ i, i + 2 < n → T (c i) (c (i + 1)) (c (i + 2))) {ws : List (List Nat)} {M : qe_M} (h : ∀ i j, i ≤ n → M i j → i ≤ j ∧ j ≤ n ∧ ∃ w, w ∈ ws ∧ i + w.length = j ∧ qr_at c i w) : qs_ok c n T (qi_known ws) M := by
  intro i j hi hM
  obtain ⟨h1, h2, w, h3, h4, h5⟩ := h i j hi hM
  refine ⟨h1, h2, ?_, ?_, ?_, ?_⟩
  · intro ws' e
    cases e
    exact ⟨w, h3, h4, h5⟩
  · apply qr_lim_ex
    · exact ⟨by simpa using h1, trivial⟩
    · refine ⟨qr_hd w, qr_mem_all.mpr (Or.inr (List.mem_map.mpr ⟨w, h3, rfl⟩)), ?_, qr_at_take c w i 2 h5⟩
      have : (qr_hd w).length ≤ w.length := by unfold qr_hd; rw [List.length_take]; omega
      omega
  · apply qr_lim_ex
    · exact ⟨j, h1, by simp, trivial⟩
    · refine ⟨qr_tl w, qr_mem_all.mpr (Or.inr (List.mem_map.mpr ⟨w, h3, rfl⟩)), i + (w.length - 2), by omega, ?_, qr_at_drop c w i _ (by omega) h5⟩
      unfold qr_tl
      rw [List.length_drop]
      omega
  · exact ⟨w, h3, qr_at_has c n i w T hT h5 (by omega)⟩
theorem qs_unk {c : Nat → Nat} {n : Nat} {T : Nat → Nat → Nat → Prop} {M : qe_M} (h : ∀ i j, i ≤ n → M i j → i ≤ j ∧ j ≤ n) : qs_ok c n T qi_unk M := by
  intro i j hi hM
  obtain ⟨h1, h2⟩ := h i j hi hM
  exact ⟨h1, h2, (fun ws e => nomatch e), ⟨[], by simp [qi_unk], by simpa using h1, trivial⟩, ⟨[], by simp [qi_unk], j, h1, by simp, trivial⟩, trivial⟩
theorem qs_lf {c : Nat → Nat} {n : Nat} {T : Nat → Nat → Nat → Prop} (hT : ∀ i, i + 2 < n → T (c i) (c (i + 1)) (c (i + 2))) (hc : ∀ i, i < n → c i < 6) (k a : Nat) : qs_ok c n T (qi_lf k a) (qe_lf k a c n) := by
  unfold qi_lf
  by_cases hk : k = 2
  · rw [if_pos hk]
    subst hk
    by_cases hl : (qi_ls a).length ≤ 3
    · rw [if_pos hl]
      apply qs_known hT
      intro i j hi hM
      simp only [qe_lf, if_true] at hM
      obtain ⟨h1, h2, h3⟩ := hM
      subst h2
      refine ⟨by omega, by omega, [c i], List.mem_map.mpr ⟨c i, ?_, rfl⟩, rfl, rfl, trivial⟩
      unfold qi_ls
      rw [List.mem_filter]
      exact ⟨List.mem_range.mpr (hc i h1), h3⟩
    · rw [if_neg hl]
      apply qs_unk
      intro i j hi hM
      simp only [qe_lf, if_true] at hM
      omega
  · rw [if_neg hk]
    apply qs_known hT
    intro i j hi hM
    simp only [qe_lf, if_neg hk] at hM
    have e : j = i := by
      by_cases h1 : k = 10
      · rw [if_pos h1] at hM; exact hM.2
      · rw [if_neg h1] at hM
        by_cases h2 : k = 11
        · rw [if_pos h2] at hM; exact hM.2
        · rw [if_neg h2] at hM; exact hM
    subst e
    exact ⟨Nat.le_refl _, hi, [], by simp, by simp, trivial⟩
theorem qs_in {c : Nat → Nat} {n : Nat} {T : Nat → Nat → Nat → Prop} {v : qi_T} {M : qe_M} (h : qs_ok c n T v M) : ∀ i j, i ≤ n → M i j → i ≤ j ∧ j ≤ n :=
  fun i j hi hM => ⟨(h i j hi hM).1, (h i j hi hM).2.1⟩
theorem qs_rep {c : Nat → Nat} {n : Nat} {T : Nat → Nat → Nat → Prop} {v : qi_T} {M M' : qe_M} (h : qs_ok c n T v M) (h' : ∀ i j, i ≤ n → M' i j → i ≤ j ∧ j ≤ n ∧ (∃ m, M i m ∧ m ≤ j) ∧ ∃ m, i ≤ m ∧ m ≤ n ∧ M m j) : qs_ok c n T (qi_rep v) M' := by
  intro i j hi hM
  obtain ⟨h1, h2, ⟨m, h3, h4⟩, m', h5, h6, h7⟩ := h' i j hi hM
  have a := h i m hi h3
  have b := h m' j h6 h7
  refine ⟨h1, h2, (fun ws e => nomatch e), ?_, ?_, a.2.2.2.2.2⟩
  · obtain ⟨r, r1, r2, r3⟩ := a.2.2.2.1
    exact ⟨r, r1, by omega, r3⟩
  · obtain ⟨r, r1, p, r2, r3, r4⟩ := b.2.2.2.2.1
    exact ⟨r, r1, p, by omega, r3, r4⟩
theorem qs_un {c : Nat → Nat} {n : Nat} {T : Nat → Nat → Nat → Prop} {v : qi_T} {M : qe_M} (h : qs_ok c n T v M) (k a b : Nat) : qs_ok c n T (qi_un k a v) (qe_un k a b M) := by
  have hx := qs_in h
  unfold qi_un
  by_cases h7 : k = 7
  · rw [if_pos h7]
    subst h7
    apply qs_rep h
    intro i j hi hM
    simp only [qe_un, show ¬ (7 : Nat) = 6 by decide, if_false, if_true] at hM
    obtain ⟨m, h1, d, h2⟩ := hM
    have a1 := hx i m hi h1
    obtain ⟨b1, b2, b3⟩ := qe_star_last M n hx d m j a1.2 h2
    refine ⟨by omega, b2, ⟨m, h1, b1⟩, ?_⟩
    rcases b3 with b3 | ⟨m', b4, b5, b6⟩
    · subst b3; exact ⟨i, Nat.le_refl _, hi, h1⟩
    · exact ⟨m', by omega, b5, b6⟩
  · rw [if_neg h7]
    by_cases h9 : k = 9
    · rw [if_pos h9]
      subst h9
      by_cases ha : a = 0
      · rw [if_pos ha]
        apply qs_unk
        intro i j hi hM
        simp only [qe_un, show ¬ (9 : Nat) = 6 by decide, show ¬ (9 : Nat) = 7 by decide, if_false] at hM
        obtain ⟨q, _, _, h3⟩ := hM
        exact qe_pow_in M n hx q i j hi h3
      · rw [if_neg ha]
        apply qs_rep h
        intro i j hi hM
        simp only [qe_un, show ¬ (9 : Nat) = 6 by decide, show ¬ (9 : Nat) = 7 by decide, if_false] at hM
        obtain ⟨q, h1, _, h3⟩ := hM
        obtain ⟨q', rfl⟩ : ∃ q', q = q' + 1 := ⟨q - 1, by omega⟩
        have a1 := qe_pow_in M n hx _ i j hi h3
        refine ⟨a1.1, a1.2, qe_pow_first M n hx q' i j hi h3, ?_⟩
        obtain ⟨m, h4, h5⟩ := h3
        have a2 := qe_pow_in M n hx _ i m hi h4
        exact ⟨m, a2.1, a2.2, h5⟩
    · rw [if_neg h9]
      apply qs_unk
      intro i j hi hM
      simp only [qe_un, if_neg h7] at hM
      by_cases h6 : k = 6
      · rw [if_pos h6] at hM
        obtain ⟨d, h2⟩ := hM
        have := qe_star_last M n hx d i j hi h2
        exact ⟨this.1, this.2.1⟩
      · rw [if_neg h6] at hM
        obtain ⟨q, _, _, h3⟩ := hM
        exact qe_pow_in M n hx q i j hi h3
theorem qs_alt2 {c : Nat → Nat} {n : Nat} {T : Nat → Nat → Nat → Prop} {v w : qi_T} {M N : qe_M} (h : qs_ok c n T v M) (h' : qs_ok c n T w N) : qs_ok c n T (qi_alt2 v w) (fun i j => M i j ∨ N i j) := by
  intro i j hi hM
  rcases hM with hM | hM
  · obtain ⟨a1, a2, _, ⟨r, r1, r2, r3⟩, ⟨t, t1, p, t2, t3, t4⟩, a6⟩ := h i j hi hM
    refine ⟨a1, a2, (fun ws e => nomatch e), ?_, ?_, Or.inl a6⟩
    · exact qr_lim_ex ⟨by simpa using a1, trivial⟩ ⟨r, qr_mem_all.mpr (Or.inr (List.mem_append.mpr (Or.inl r1))), r2, r3⟩
    · exact qr_lim_ex ⟨j, a1, by simp, trivial⟩ ⟨t, qr_mem_all.mpr (Or.inr (List.mem_append.mpr (Or.inl t1))), p, t2, t3, t4⟩
  · obtain ⟨a1, a2, _, ⟨r, r1, r2, r3⟩, ⟨t, t1, p, t2, t3, t4⟩, a6⟩ := h' i j hi hM
    refine ⟨a1, a2, (fun ws e => nomatch e), ?_, ?_, Or.inr a6⟩
    · exact qr_lim_ex ⟨by simpa using a1, trivial⟩ ⟨r, qr_mem_all.mpr (Or.inr (List.mem_append.mpr (Or.inr r1))), r2, r3⟩
    · exact qr_lim_ex ⟨j, a1, by simp, trivial⟩ ⟨t, qr_mem_all.mpr (Or.inr (List.mem_append.mpr (Or.inr t1))), p, t2, t3, t4⟩
theorem qs_alt {c : Nat → Nat} {n : Nat} {T : Nat → Nat → Nat → Prop} (hT : ∀ i, i + 2 < n → T (c i) (c (i + 1)) (c (i + 2))) {v w : qi_T} {M N : qe_M} (h : qs_ok c n T v M) (h' : qs_ok c n T w N) : qs_ok c n T (qi_alt v w) (fun i j => M i j ∨ N i j) := by
  unfold qi_alt
  split
  · rename_i xs ys ex ey
    split
    · apply qs_known hT
      intro i j hi hM
      rcases hM with hM | hM
      · obtain ⟨a1, a2, a3, _⟩ := h i j hi hM
        obtain ⟨r, r1, r2, r3⟩ := a3 xs ex
        exact ⟨a1, a2, r, qr_mem_all.mpr (Or.inr (List.mem_append.mpr (Or.inl r1))), r2, r3⟩
      · obtain ⟨a1, a2, a3, _⟩ := h' i j hi hM
        obtain ⟨r, r1, r2, r3⟩ := a3 ys ey
        exact ⟨a1, a2, r, qr_mem_all.mpr (Or.inr (List.mem_append.mpr (Or.inr r1))), r2, r3⟩
    · exact qs_alt2 h h'
  · exact qs_alt2 h h'
theorem qs_seq2 {c : Nat → Nat} {n : Nat} {T : Nat → Nat → Nat → Prop} (hT : ∀ i, i + 2 < n → T (c i) (c (i + 1)) (c (i + 2))) {v w : qi_T} {M N : qe_M} (h : qs_ok c n T v M) (h' : qs_ok c n T w N) : qs_ok c n T (qi_seq2 v w) (fun i j => ∃ m, M i m ∧ N m j) := by
  intro i j hi hM
  obtain ⟨m, hM, hN⟩ := hM
  obtain ⟨a1, a2, a3, ⟨r, r1, r2, r3⟩, ⟨t, t1, p, t2, t3, t4⟩, a6⟩ := h i m hi hM
  obtain ⟨b1, b2, b3, ⟨s, s1, s2, s3⟩, ⟨z, z1, q, z2, z3, z4⟩, b6⟩ := h' m j a2 hN
  have ij : i ≤ j := by omega
  refine ⟨ij, b2, (fun ws e => nomatch e), ?_, ?_, a6, b6, ?_⟩
  · show ∃ h, h ∈ qi_hx v w ∧ _
    unfold qi_hx
    split
    · rename_i xs ex
      obtain ⟨y, y1, y2, y3⟩ := a3 xs ex
      refine qr_lim_ex ⟨by simpa using ij, trivial⟩ ⟨qr_hd (y ++ s), qr_mem_all.mpr (Or.inr (List.mem_map.mpr ⟨y ++ s, qr_mem_pr.mpr ⟨y, y1, s, s1, rfl⟩, rfl⟩)), ?_, ?_⟩
      · have : (qr_hd (y ++ s)).length ≤ (y ++ s).length := by unfold qr_hd; rw [List.length_take]; omega
        rw [List.length_append] at this
        omega
      · apply qr_at_take
        rw [qr_at_app, y2]
        exact ⟨y3, s3⟩
    · exact ⟨r, r1, by omega, r3⟩
  · show ∃ t, t ∈ qi_ty v w ∧ _
    unfold qi_ty
    split
    · rename_i ys ey
      obtain ⟨y, y1, y2, y3⟩ := b3 ys ey
      have l2 : (t ++ y).length = t.length + y.length := List.length_append
      refine qr_lim_ex ⟨j, ij, by simp, trivial⟩ ⟨qr_tl (t ++ y), qr_mem_all.mpr (Or.inr (List.mem_map.mpr ⟨t ++ y, qr_mem_pr.mpr ⟨t, t1, y, y1, rfl⟩, rfl⟩)), p + ((t ++ y).length - 2), by omega, ?_, ?_⟩
      · unfold qr_tl
        rw [List.length_drop]
        omega
      · apply qr_at_drop
        · omega
        · rw [qr_at_app, t3]
          exact ⟨t4, y3⟩
    · exact ⟨z, z1, q, by omega, z3, z4⟩
  · refine ⟨t ++ s, qr_mem_pr.mpr ⟨t, t1, s, s1, rfl⟩, qr_at_has c n p _ T hT ?_ ?_⟩
    · rw [qr_at_app, t3]
      exact ⟨t4, s3⟩
    · rw [List.length_append]
      omega
theorem qs_seq {c : Nat → Nat} {n : Nat} {T : Nat → Nat → Nat → Prop} (hT : ∀ i, i + 2 < n → T (c i) (c (i + 1)) (c (i + 2))) {v w : qi_T} {M N : qe_M} (h : qs_ok c n T v M) (h' : qs_ok c n T w N) : qs_ok c n T (qi_seq v w) (fun i j => ∃ m, M i m ∧ N m j) := by
  unfold qi_seq
  split
  · rename_i xs ys ex ey
    split
    · apply qs_known hT
      intro i j hi hM
      obtain ⟨m, hM, hN⟩ := hM
      obtain ⟨a1, a2, a3, _⟩ := h i m hi hM
      obtain ⟨b1, b2, b3, _⟩ := h' m j a2 hN
      obtain ⟨r, r1, r2, r3⟩ := a3 xs ex
      obtain ⟨s, s1, s2, s3⟩ := b3 ys ey
      refine ⟨by omega, b2, r ++ s, qr_mem_all.mpr (Or.inr (qr_mem_pr.mpr ⟨r, r1, s, s1, rfl⟩)), ?_, ?_⟩
      · rw [List.length_append]; omega
      · rw [qr_at_app, r2]; exact ⟨r3, s3⟩
    · exact qs_seq2 hT h h'
  · exact qs_seq2 hT h h'
theorem qs_bi {c : Nat → Nat} {n : Nat} {T : Nat → Nat → Nat → Prop} (hT : ∀ i, i + 2 < n → T (c i) (c (i + 1)) (c (i + 2))) {v w : qi_T} {M N : qe_M} (h : qs_ok c n T v M) (h' : qs_ok c n T w N) (k : Nat) : qs_ok c n T (qi_bi k v w) (qe_bi k M N) := by
  unfold qi_bi
  by_cases hk : k = 13
  · rw [if_pos hk]
    have e : qe_bi k M N = (fun i j => ∃ m, M i m ∧ N m j) := by
      funext i j; simp only [qe_bi, if_pos hk]
    rw [e]
    exact qs_seq hT h h'
  · rw [if_neg hk]
    have e : qe_bi k M N = (fun i j => M i j ∨ N i j) := by
      funext i j; simp only [qe_bi, if_neg hk]
    rw [e]
    exact qs_alt hT h h'
/-! what each part keeps -/
def qi_wf (x : qi_T) : Prop := (∀ ws, x.1 = some ws → qr_wf 5 ws ∧ x = qi_known ws) ∧ qr_wf 2 x.2.1 ∧ qr_wf 2 x.2.2.1
theorem qi_wf_known {ws : List (List Nat)} (h : qr_wf 5 ws) : qi_wf (qi_known ws) := by
  refine ⟨fun w e => ?_, ?_, ?_⟩
  · cases e; exact ⟨h, rfl⟩
  · apply qr_wf_all
    · rw [List.length_map]; exact h.2.1
    · intro r hr
      obtain ⟨s, hs, rfl⟩ := List.mem_map.mp hr
      exact ⟨qr_hd_len s, fun x hx => (h.2.2.2 s hs).2 x (qr_hd_in hx)⟩
  · apply qr_wf_all
    · rw [List.length_map]; exact h.2.1
    · intro r hr
      obtain ⟨s, hs, rfl⟩ := List.mem_map.mp hr
      exact ⟨qr_tl_len s, fun x hx => (h.2.2.2 s hs).2 x (qr_tl_in hx)⟩
theorem qi_wf_unk : qi_wf qi_unk := ⟨(fun _ e => nomatch e), qr_wf1 2, qr_wf1 2⟩
theorem qi_wf_rep {x : qi_T} (h : qi_wf x) : qi_wf (qi_rep x) := ⟨(fun _ e => nomatch e), h.2.1, h.2.2⟩
theorem qi_wf_lf (k a : Nat) (h : k = 2 → ∃ l, l < 6 ∧ a.testBit l = true) : qi_wf (qi_lf k a) := by
  unfold qi_lf
  by_cases hk : k = 2
  · rw [if_pos hk]
    by_cases hl : (qi_ls a).length ≤ 3
    · rw [if_pos hl]
      apply qi_wf_known
      refine ⟨?_, ?_, ?_, ?_⟩
      · have hn : (qi_ls a).Nodup := List.Pairwise.filter _ List.nodup_range
        exact List.Pairwise.map _ (fun x y hxy e => hxy (by simpa using e)) hn
      · rw [List.length_map]
        obtain ⟨l, h1, h2⟩ := h hk
        have : l ∈ qi_ls a := List.mem_filter.mpr ⟨List.mem_range.mpr h1, h2⟩
        exact List.length_pos_of_mem this
      · rw [List.length_map]; omega
      · intro r hr
        obtain ⟨l, hl, rfl⟩ := List.mem_map.mp hr
        refine ⟨by simp, fun x hx => ?_⟩
        rw [List.mem_singleton] at hx
        subst hx
        exact List.mem_range.mp (List.mem_filter.mp hl).1
    · rw [if_neg hl]; exact qi_wf_unk
  · rw [if_neg hk]; exact qi_wf_known (qr_wf1 5)
theorem qi_wf_un (k a : Nat) {x : qi_T} (h : qi_wf x) : qi_wf (qi_un k a x) := by
  unfold qi_un
  split
  · exact qi_wf_rep h
  · split
    · split
      · exact qi_wf_unk
      · exact qi_wf_rep h
    · exact qi_wf_unk
theorem qi_app_in {m : Nat} {a b : List (List Nat)} (ha : qr_wf m a) (hb : qr_wf m b) : ∀ r, r ∈ a ++ b → r.length ≤ m ∧ ∀ x, x ∈ r → x < 6 := by
  intro r hr
  rcases List.mem_append.mp hr with z | z
  · exact ha.2.2.2 r z
  · exact hb.2.2.2 r z
theorem qi_wf_alt2 {x y : qi_T} (h : qi_wf x) (h' : qi_wf y) : qi_wf (qi_alt2 x y) := by
  refine ⟨fun _ e => (nomatch e), ?_, ?_⟩
  · apply qr_wf_all
    · rw [List.length_append]; have := h.2.1.2.1; omega
    · exact qi_app_in h.2.1 h'.2.1
  · apply qr_wf_all
    · rw [List.length_append]; have := h.2.2.2.1; omega
    · exact qi_app_in h.2.2 h'.2.2
theorem qi_wf_alt {x y : qi_T} (h : qi_wf x) (h' : qi_wf y) : qi_wf (qi_alt x y) := by
  unfold qi_alt
  split
  · rename_i xs ys ex ey
    have hx := (h.1 xs ex).1
    have hy := (h'.1 ys ey).1
    split
    · rename_i hl
      apply qi_wf_known
      refine ⟨qr_nd_all (by simp), qr_ne_all ?_, hl, ?_⟩
      · rw [List.length_append]; have := hx.2.1; omega
      · intro r hr
        exact qi_app_in hx hy r ((qr_mem_all.mp hr).elim (fun z => absurd z (by simp)) id)
    · exact qi_wf_alt2 h h'
  · exact qi_wf_alt2 h h'
theorem qi_pr_in {m k : Nat} {a b : List (List Nat)} (ha : qr_wf m a) (hb : qr_wf k b) : ∀ r, r ∈ qr_pr a b → r.length ≤ m + k ∧ ∀ x, x ∈ r → x < 6 := by
  intro r hr
  obtain ⟨s, hs, t, ht, rfl⟩ := qr_mem_pr.mp hr
  have a1 := ha.2.2.2 s hs
  have b1 := hb.2.2.2 t ht
  refine ⟨by rw [List.length_append]; omega, fun x hx => ?_⟩
  rcases List.mem_append.mp hx with z | z
  · exact a1.2 x z
  · exact b1.2 x z
theorem qi_pr_ne {m k : Nat} {a b : List (List Nat)} (ha : qr_wf m a) (hb : qr_wf k b) : 1 ≤ (qr_pr a b).length := by
  rw [qr_pr_len]
  exact Nat.mul_pos ha.2.1 hb.2.1
theorem qi_wf_seq2 {x y : qi_T} (h : qi_wf x) (h' : qi_wf y) : qi_wf (qi_seq2 x y) := by
  refine ⟨fun _ e => (nomatch e), ?_, ?_⟩
  · show qr_wf 2 (qi_hx x y)
    unfold qi_hx
    split
    · rename_i xs ex
      have hx := (h.1 xs ex).1
      apply qr_wf_all
      · rw [List.length_map]; exact qi_pr_ne hx h'.2.1
      · intro r hr
        obtain ⟨s, hs, rfl⟩ := List.mem_map.mp hr
        exact ⟨qr_hd_len s, fun z hz => (qi_pr_in hx h'.2.1 s hs).2 z (qr_hd_in hz)⟩
    · exact h.2.1
  · show qr_wf 2 (qi_ty x y)
    unfold qi_ty
    split
    · rename_i ys ey
      have hy := (h'.1 ys ey).1
      apply qr_wf_all
      · rw [List.length_map]; exact qi_pr_ne h.2.2 hy
      · intro r hr
        obtain ⟨s, hs, rfl⟩ := List.mem_map.mp hr
        exact ⟨qr_tl_len s, fun z hz => (qi_pr_in h.2.2 hy s hs).2 z (qr_tl_in hz)⟩
    · exact h'.2.2
theorem qi_wf_seq {x y : qi_T} (h : qi_wf x) (h' : qi_wf y) : qi_wf (qi_seq x y) := by
  unfold qi_seq
  split
  · rename_i xs ys ex ey
    have hx := (h.1 xs ex).1
    have hy := (h'.1 ys ey).1
    split
    · rename_i hl
      unfold qi_sh at hl
      rw [Bool.and_eq_true, decide_eq_true_eq, List.all_eq_true] at hl
      apply qi_wf_known
      refine ⟨qr_nd_all (by simp), qr_ne_all (qi_pr_ne hx hy), hl.1, ?_⟩
      intro r hr
      have hr' : r ∈ qr_pr xs ys := (qr_mem_all.mp hr).elim (fun z => absurd z (by simp)) id
      exact ⟨of_decide_eq_true (hl.2 r hr'), (qi_pr_in hx hy r hr').2⟩
    · exact qi_wf_seq2 h h'
  · exact qi_wf_seq2 h h'
theorem qi_wf_bi (k : Nat) {x y : qi_T} (h : qi_wf x) (h' : qi_wf y) : qi_wf (qi_bi k x y) := by
  unfold qi_bi
  split
  · exact qi_wf_seq h h'
  · exact qi_wf_alt h h'
def qv_ok (v : qv_T) : Prop := qi_wf v.2.1 ∧ ∀ (c : Nat → Nat) (n : Nat) (T : Nat → Nat → Nat → Prop), (∀ i, i + 2 < n → T (c i) (c (i + 1)) (c (i + 2))) → (∀ i, i < n → c i < 6) → qs_ok c n T v.2.1 (v.2.2 c n)
theorem qv_ok_lf (k a : Nat) (h : k = 2 → ∃ l, l < 6 ∧ a.testBit l = true) : qv_ok (qv_lf k a) := ⟨qi_wf_lf k a h, fun _ _ _ hT hc => qs_lf hT hc k a⟩
theorem qv_ok_un (k a b : Nat) {x : qv_T} (h : qv_ok x) : qv_ok (qv_un k a b x) := ⟨qi_wf_un k a h.1, fun c n T hT hc => qs_un (h.2 c n T hT hc) k a b⟩
theorem qv_ok_bi (k : Nat) {x y : qv_T} (h : qv_ok x) (h' : qv_ok y) : qv_ok (qv_bi k x y) := ⟨qi_wf_bi k h.1 h'.1, fun c n T hT hc => qs_bi hT (h.2 c n T hT hc) (h'.2 c n T hT hc) k⟩
/-- a part whose claim is false of a text matches nothing in a line of it -/
theorem qv_none {v : qv_T} (h : qv_ok v) {c : Nat → Nat} {n : Nat} {T : Nat → Nat → Nat → Prop} (hT : ∀ i, i + 2 < n → T (c i) (c (i + 1)) (c (i + 2))) (hc : ∀ i, i < n → c i < 6) (hn : ¬ v.2.1.2.2.2 T) {i j : Nat} (hi : i ≤ n) : ¬ v.2.2 c n i j :=
  fun hM => hn (h.2 c n T hT hc i j hi hM).2.2.2.2.2
theorem qv_in {v : qv_T} (h : qv_ok v) {c : Nat → Nat} {n : Nat} (hc : ∀ i, i < n → c i < 6) {i j : Nat} (hi : i ≤ n) (hM : v.2.2 c n i j) : i ≤ j ∧ j ≤ n :=
  qs_in (h.2 c n (fun _ _ _ => True) (fun _ _ => trivial) hc) i j hi hM
end
section
/-! the expression read: an abstract reader over any algebra of parts; the reference's stack of parts -/
section
variable {V : Type} (lf : Nat → Nat → V) (un : Nat → Nat → Nat → V → V) (bi : Nat → V → V → V) (big : V → Prop)
def qp_leaf (k a : Nat) : V := if k = 0 then lf 2 (2 ^ a) else if k = 1 then lf 2 63 else if k = 2 then lf 2 a else lf k 0
def qp_rep (k a b : Nat) (x : V) : V := if k = 8 then bi 8 x (lf 12 0) else if k = 9 then (if b = 0 then lf 12 0 else if a = 1 ∧ b = 1 then x else un 9 a b x) else un k 0 0 x
def qp_set (f : Nat → Option V) (l : Nat) (x : Option V) : Nat → Option V := fun j => if j = l then x else f j
/-- what is read: the depth, and for each level the first seqs, the first items, the latest item; whether a part was too large -/
abbrev qp_S (V : Type) : Type := Nat × (Nat → Option V) × (Nat → Option V) × (Nat → Option V) × Prop
def qp_join (s i : Option V) : Option V := match i with
  | none => s
  | some x => match s with
    | none => some x
    | some y => some (bi 13 y x)
def qp_jbig (s i : Option V) : Prop := ∃ x y, i = some x ∧ s = some y ∧ big (bi 13 y x)
def qp_take (l : Nat) (nx : Option V) (S : qp_S V) : qp_S V := (S.1, S.2.1, qp_set S.2.2.1 l (qp_join bi (S.2.2.1 l) (S.2.2.2.1 l)), qp_set S.2.2.2.1 l nx, S.2.2.2.2 ∨ qp_jbig bi big (S.2.2.1 l) (S.2.2.2.1 l))
def qp_alt (a : Option V) (s : V) : V := match a with
  | none => s
  | some y => bi 5 y s
def qp_sq (s : Option V) : V := match s with
  | none => lf 12 0
  | some y => y
/-- the seq of a level ends -/
def qp_end (l : Nat) (S : qp_S V) : qp_S V :=
  (S.1, qp_set S.2.1 l (some (qp_alt bi (S.2.1 l) (qp_sq lf (qp_join bi (S.2.2.1 l) (S.2.2.2.1 l))))), qp_set S.2.2.1 l none, qp_set S.2.2.2.1 l none,
    (S.2.2.2.2 ∨ qp_jbig bi big (S.2.2.1 l) (S.2.2.2.1 l)) ∨ big (qp_alt bi (S.2.1 l) (qp_sq lf (qp_join bi (S.2.2.1 l) (S.2.2.2.1 l)))))
def qp_isrep (k : Nat) : Prop := k = 6 ∨ k = 7 ∨ k = 8 ∨ k = 9
def qp_step (k a b : Nat) (S : qp_S V) : qp_S V :=
  if k = 3 then (S.1 + 1, qp_set S.2.1 (S.1 + 1) none, qp_set S.2.2.1 (S.1 + 1) none, qp_set S.2.2.2.1 (S.1 + 1) none, S.2.2.2.2)
  else if k = 4 then qp_take bi big (S.1 - 1) ((qp_end lf bi big S.1 S).2.1 S.1) (S.1 - 1, (qp_end lf bi big S.1 S).2)
  else if k = 5 then qp_end lf bi big S.1 S
  else if k = 6 ∨ k = 7 ∨ k = 8 ∨ k = 9 then (S.1, S.2.1, S.2.2.1, qp_set S.2.2.2.1 S.1 (some (qp_rep lf un bi k a b ((S.2.2.2.1 S.1).getD (lf 12 0)))), S.2.2.2.2 ∨ big (qp_rep lf un bi k a b ((S.2.2.2.1 S.1).getD (lf 12 0))))
  else ((qp_take bi big S.1 (some (qp_leaf lf k a)) S).1, (qp_take bi big S.1 (some (qp_leaf lf k a)) S).2.1, (qp_take bi big S.1 (some (qp_leaf lf k a)) S).2.2.1, (qp_take bi big S.1 (some (qp_leaf lf k a)) S).2.2.2.1, (qp_take bi big S.1 (some (qp_leaf lf k a)) S).2.2.2.2 ∨ big (qp_leaf lf k a))
def qp_0 : qp_S V := (0, fun _ => none, fun _ => none, fun _ => none, False)
def qp_run (K A B : Nat → Nat) : Nat → qp_S V
  | 0 => qp_0
  | t + 1 => qp_step lf un bi big (K t) (A t) (B t) (qp_run K A B t)
def qp_y (k a b : Nat) (st : List V) : List V :=
  if k = 13 ∨ k = 14 then (match st with
    | y :: x :: s => bi (if k = 13 then 13 else 5) x y :: s
    | s => s)
  else if 6 ≤ k ∧ k ≤ 9 then (match st with
    | x :: s => qp_rep lf un bi k a b x :: s
    | [] => [])
  else if k = 12 then lf 12 0 :: st
  else qp_leaf lf k a :: st
def qp_yr (O A B : Nat → Nat) : Nat → List V
  | 0 => []
  | k + 1 => qp_y lf un bi (O k) (A k) (B k) (qp_yr O A B k)
def qp_low (a s i : Option V) : List V := (qp_join bi s i).toList ++ a.toList
def qp_lows (fa fs fi : Nat → Option V) : Nat → List V
  | 0 => []
  | l + 1 => qp_low bi (fa l) (fs l) (fi l) ++ qp_lows fa fs fi l
def qp_top (a s i : Option V) : List V := i.toList ++ (s.toList ++ a.toList)
def qp_big1 (st : List V) : Prop := ∃ v s, st = v :: s ∧ big v
/-- an op's kind and operands are those that the reference emits -/
def qp_opok (k a b h : Nat) : Prop := (k < 3 ∨ 5 < k) ∧ k < 15 ∧ (k = 0 → a < 6) ∧ (k = 2 → 1 ≤ a ∧ a ≤ 63) ∧ (k = 9 → a ≤ b ∧ b ≤ 3) ∧ (k = 13 ∨ k = 14 → 2 ≤ h) ∧ (6 ≤ k ∧ k ≤ 9 → 1 ≤ h)
/-- the first n ops give this stack of parts; whether one of the parts was too large -/
def qp_YO (op oa ob : Nat → Int32) (n : Nat) (st : List V) (P : Prop) : Prop :=
  qp_yr lf un bi (fun j => (op j).toNatClampNeg) (fun j => (oa j).toNatClampNeg) (fun j => (ob j).toNatClampNeg) n = st ∧
  (P ↔ ∃ k, k < n ∧ qp_big1 big (qp_yr lf un bi (fun j => (op j).toNatClampNeg) (fun j => (oa j).toNatClampNeg) (fun j => (ob j).toNatClampNeg) (k + 1))) ∧
  ∀ k, k < n → op k = nI (op k).toNatClampNeg ∧ ((op k).toNatClampNeg = 0 ∨ (op k).toNatClampNeg = 2 → oa k = nI (oa k).toNatClampNeg) ∧ ((op k).toNatClampNeg = 9 → oa k = nI (oa k).toNatClampNeg ∧ ob k = nI (ob k).toNatClampNeg) ∧
    qp_opok (op k).toNatClampNeg (oa k).toNatClampNeg (ob k).toNatClampNeg (qp_yr lf un bi (fun j => (op j).toNatClampNeg) (fun j => (oa j).toNatClampNeg) (fun j => (ob j).toNatClampNeg) k).length ∧
    (qp_yr lf un bi (fun j => (op j).toNatClampNeg) (fun j => (oa j).toNatClampNeg) (fun j => (ob j).toNatClampNeg) (k + 1)).length ≤ 17
theorem qp_yr_cg (O A B O' A' B' : Nat → Nat) : ∀ n, (∀ j, j < n → O j = O' j ∧ A j = A' j ∧ B j = B' j) → qp_yr lf un bi O A B n = qp_yr lf un bi O' A' B' n
  | 0, _ => rfl
  | n + 1, h => by
    have e := qp_yr_cg O A B O' A' B' n (fun j hj => h j (by omega))
    obtain ⟨h1, h2, h3⟩ := h n (by omega)
    simp only [qp_yr, e, h1, h2, h3]
theorem qp_YO_0 (op oa ob : Nat → Int32) : qp_YO lf un bi big op oa ob 0 [] False :=
  ⟨rfl, ⟨fun h => h.elim, fun ⟨k, h, _⟩ => absurd h (by omega)⟩, fun k h => absurd h (by omega)⟩
theorem qp_YO_emit {op oa ob : Nat → Int32} {n : Nat} {st : List V} {P : Prop} (h : qp_YO lf un bi big op oa ob n st P) (k a b : Nat) (xa xb : Int32) (hk : k < 15) (ha : xa.toNatClampNeg = a) (hb : xb.toNatClampNeg = b) (hA : k = 0 ∨ k = 2 → xa = nI a) (hB : k = 9 → xa = nI a ∧ xb = nI b) (ho : qp_opok k a b st.length) (hl : (qp_y lf un bi k a b st).length ≤ 17) : qp_YO lf un bi big (upd op n (nI k)) (upd oa n xa) (upd ob n xb) (n + 1) (qp_y lf un bi k a b st) (P ∨ qp_big1 big (qp_y lf un bi k a b st)) := by
  obtain ⟨h1, h2, h3⟩ := h
  have ck : (nI k).toNatClampNeg = k := nI_clamp (by omega)
  have e0 : ∀ m, m ≤ n → qp_yr lf un bi (fun j => (upd op n (nI k) j).toNatClampNeg) (fun j => (upd oa n xa j).toNatClampNeg) (fun j => (upd ob n xb j).toNatClampNeg) m = qp_yr lf un bi (fun j => (op j).toNatClampNeg) (fun j => (oa j).toNatClampNeg) (fun j => (ob j).toNatClampNeg) m := by
    intro m hm
    apply qp_yr_cg
    intro j hj
    simp only [pk_un (show j ≠ n by omega), and_self]
  have e1 : qp_yr lf un bi (fun j => (upd op n (nI k) j).toNatClampNeg) (fun j => (upd oa n xa j).toNatClampNeg) (fun j => (upd ob n xb j).toNatClampNeg) (n + 1) = qp_y lf un bi k a b st := by
    simp only [qp_yr, e0 n (Nat.le_refl _), h1, pk_us, ck, ha, hb]
  refine ⟨e1, ?_, ?_⟩
  · rw [h2]
    constructor
    · rintro (⟨j, hj, hb⟩ | hb)
      · exact ⟨j, by omega, by rw [e0 (j + 1) (by omega)]; exact hb⟩
      · exact ⟨n, by omega, by rw [e1]; exact hb⟩
    · rintro ⟨j, hj, hb⟩
      rcases Nat.lt_or_ge j n with z | z
      · exact Or.inl ⟨j, z, by rw [e0 (j + 1) (by omega)] at hb; exact hb⟩
      · have : j = n := by omega
        subst this
        rw [e1] at hb
        exact Or.inr hb
  · intro j hj
    rcases Nat.lt_or_ge j n with z | z
    · rw [e0 (j + 1) (by omega), e0 j (by omega), pk_un (show j ≠ n by omega), pk_un (show j ≠ n by omega), pk_un (show j ≠ n by omega)]
      exact h3 j z
    · have : j = n := by omega
      subst this
      rw [e1, e0 j (Nat.le_refl _), h1, pk_us, pk_us, pk_us, ck, ha, hb]
      exact ⟨rfl, hA, hB, ho, hl⟩
end
end
section
/-! rows of letters as numbers: base 6 behind a leading 1 (the reference), base 8 below the length (the class) -/
def qc_v (b : Nat) (r : List Nat) : Nat := r.foldl (fun n x => b * n + x) 0
theorem qc_fold (b : Nat) : ∀ (r : List Nat) (s : Nat), r.foldl (fun n x => b * n + x) s = s * b ^ r.length + qc_v b r
  | [], s => by simp [qc_v]
  | x :: r, s => by
    have h1 := qc_fold b r (b * s + x)
    have h2 := qc_fold b r (b * 0 + x)
    show r.foldl (fun n x => b * n + x) (b * s + x) = _
    have h3 : qc_v b (x :: r) = r.foldl (fun n x => b * n + x) (b * 0 + x) := rfl
    rw [h1, h3, h2, List.length_cons, Nat.pow_succ, Nat.add_mul, Nat.mul_zero, Nat.zero_add]
    rw [show b * s * b ^ r.length = s * (b ^ r.length * b) by rw [Nat.mul_comm b s, Nat.mul_assoc, Nat.mul_comm b]]
    omega
theorem qc_app (b : Nat) (a c : List Nat) : qc_v b (a ++ c) = qc_v b a * b ^ c.length + qc_v b c := by
  show (a ++ c).foldl _ 0 = _
  rw [List.foldl_append, qc_fold]
  rfl
theorem qc_nil (b : Nat) : qc_v b [] = 0 := rfl
theorem qc_one (b x : Nat) : qc_v b [x] = x := by show b * 0 + x = x; omega
theorem qc_cons (b x : Nat) (r : List Nat) : qc_v b (x :: r) = x * b ^ r.length + qc_v b r := by
  have := qc_app b [x] r
  rw [qc_one] at this
  exact this
theorem qc_lt (b : Nat) : ∀ (r : List Nat), (∀ x, x ∈ r → x < b) → qc_v b r < b ^ r.length
  | [], _ => by simp [qc_nil]
  | x :: r, h => by
    have h1 := qc_lt b r (fun y hy => h y (List.mem_cons_of_mem _ hy))
    have h2 : x < b := h x (List.mem_cons_self)
    rw [qc_cons, List.length_cons, Nat.pow_succ]
    have h3 : (x + 1) * b ^ r.length ≤ b * b ^ r.length := Nat.mul_le_mul_right _ h2
    rw [Nat.succ_mul] at h3
    rw [Nat.mul_comm (b ^ r.length) b]
    omega
theorem qc_dig {P x y u w : Nat} (hu : u < P) (hw : w < P) (h : x * P + u = y * P + w) : x = y ∧ u = w := by
  rcases Nat.lt_trichotomy x y with z | z | z
  · have : (x + 1) * P ≤ y * P := Nat.mul_le_mul_right _ z
    rw [Nat.succ_mul] at this
    omega
  · subst z; omega
  · have : (y + 1) * P ≤ x * P := Nat.mul_le_mul_right _ z
    rw [Nat.succ_mul] at this
    omega
theorem qc_inj (b : Nat) : ∀ (r s : List Nat), r.length = s.length → (∀ x, x ∈ r → x < b) → (∀ x, x ∈ s → x < b) → qc_v b r = qc_v b s → r = s
  | [], [], _, _, _, _ => rfl
  | [], _ :: _, h, _, _, _ => absurd h (by simp)
  | _ :: _, [], h, _, _, _ => absurd h (by simp)
  | x :: r, y :: s, hl, hr, hs, h => by
    have hl' : r.length = s.length := by simpa using hl
    have h1 := qc_lt b r (fun y hy => hr y (List.mem_cons_of_mem _ hy))
    have h2 := qc_lt b s (fun y hy => hs y (List.mem_cons_of_mem _ hy))
    rw [qc_cons, qc_cons, hl'] at h
    rw [hl'] at h1
    obtain ⟨e1, e2⟩ := qc_dig h1 h2 h
    rw [e1, qc_inj b r s hl' (fun y hy => hr y (List.mem_cons_of_mem _ hy)) (fun y hy => hs y (List.mem_cons_of_mem _ hy)) e2]
theorem qc_divm (P a u : Nat) (hu : u < P) : (a * P + u) / P = a := by
  rw [Nat.mul_comm a P, Nat.mul_add_div (by omega), Nat.div_eq_of_lt hu]
  omega
theorem qc_modm (P a u : Nat) (hu : u < P) : (a * P + u) % P = u := by
  rw [Nat.mul_comm a P, Nat.mul_add_mod, Nat.mod_eq_of_lt hu]
theorem qc_gd {l : List Nat} {i : Nat} (h : i < l.length) : l.getD i 0 = l[i] := by rw [List.getD_eq_getElem?_getD, List.getElem?_eq_getElem h]; rfl
/-- three letters in a row of them -/
theorem qc_split3 (r : List Nat) (i : Nat) (h : i + 2 < r.length) : ∃ a c : List Nat, r = a ++ (r.getD i 0 :: r.getD (i + 1) 0 :: r.getD (i + 2) 0 :: c) ∧ a.length = i ∧ i + 3 + c.length = r.length := by
  refine ⟨r.take i, r.drop (i + 3), ?_, ?_, ?_⟩
  · have e1 : r.drop i = r.getD i 0 :: r.drop (i + 1) := by
      rw [List.drop_eq_getElem_cons (by omega), qc_gd (by omega)]
    have e2 : r.drop (i + 1) = r.getD (i + 1) 0 :: r.drop (i + 2) := by
      rw [List.drop_eq_getElem_cons (by omega), qc_gd (by omega)]
    have e3 : r.drop (i + 2) = r.getD (i + 2) 0 :: r.drop (i + 3) := by
      rw [List.drop_eq_getElem_cons (by omega), qc_gd (by omega)]
    rw [← e3, ← e2, ← e1, List.take_append_drop]
  · rw [List.length_take]; omega
  · rw [List.length_drop]; omega
theorem qc_v3 (b x y z : Nat) : qc_v b [x, y, z] = (x * b + y) * b + z := by
  show b * (b * (b * 0 + x) + y) + z = _
  rw [Nat.mul_zero, Nat.zero_add, Nat.mul_comm b (b * x + y), Nat.mul_comm b x]
/-- the code of the three letters at i, out of the code of the row -/
theorem qc_tri (b : Nat) (r : List Nat) (hr : ∀ x, x ∈ r → x < b) (i : Nat) (h : i + 2 < r.length) (P Q : Nat) (hP : P = b ^ (r.length - 3 - i)) (hQ : Q = b ^ 3) : qc_v b r / P % Q = (r.getD i 0 * b + r.getD (i + 1) 0) * b + r.getD (i + 2) 0 := by
  obtain ⟨a, c, e, h1, h2⟩ := qc_split3 r i h
  generalize r.getD i 0 = x at *
  generalize r.getD (i + 1) 0 = y at *
  generalize r.getD (i + 2) 0 = z at *
  have hc : ∀ x, x ∈ c → x < b := fun w hw => hr w (by rw [e]; simp [hw])
  have ht : ∀ w, w ∈ [x, y, z] → w < b := fun w hw => hr w (by rw [e]; simp at hw ⊢; rcases hw with h | h | h <;> simp [h])
  have e2 : qc_v b r = (qc_v b a * b ^ 3 + qc_v b [x, y, z]) * b ^ c.length + qc_v b c := by
    have : r = (a ++ [x, y, z]) ++ c := by rw [e]; simp
    rw [this, qc_app, qc_app]
    rfl
  have e3 : r.length - 3 - i = c.length := by omega
  have l1 := qc_lt b c hc
  have l2 : qc_v b [x, y, z] < b ^ 3 := qc_lt b [x, y, z] ht
  rw [hP, hQ, e2, e3, qc_divm _ _ _ l1, qc_modm _ _ _ l2, qc_v3]
/-! the reference's codes -/
def qc_y (r : List Nat) : Nat := 6 ^ r.length + qc_v 6 r
theorem qc_y_nil : qc_y [] = 1 := rfl
theorem qc_y_app (a c : List Nat) : qc_y (a ++ c) = qc_y a * 6 ^ c.length + qc_v 6 c := by
  unfold qc_y
  rw [qc_app, List.length_append, Nat.pow_add, Nat.add_mul]
  omega
theorem qc_y_rng (r : List Nat) (hr : ∀ x, x ∈ r → x < 6) : 6 ^ r.length ≤ qc_y r ∧ qc_y r < 2 * 6 ^ r.length := by
  have := qc_lt 6 r hr
  unfold qc_y
  omega
theorem qc_y_lt (m : Nat) (r : List Nat) (hr : ∀ x, x ∈ r → x < 6) (hm : r.length ≤ m) : qc_y r < 2 * 6 ^ m := by
  have h1 := (qc_y_rng r hr).2
  have h2 : 6 ^ r.length ≤ 6 ^ m := Nat.pow_le_pow_right (by omega) hm
  omega
theorem qc_y_len {r s : List Nat} (hr : ∀ x, x ∈ r → x < 6) (hs : ∀ x, x ∈ s → x < 6) (h : qc_y r = qc_y s) : r.length = s.length := by
  have h1 := qc_y_rng r hr
  have h2 := qc_y_rng s hs
  rcases Nat.lt_trichotomy r.length s.length with z | z | z
  · have : 6 ^ (r.length + 1) ≤ 6 ^ s.length := Nat.pow_le_pow_right (by omega) z
    rw [Nat.pow_succ] at this
    omega
  · exact z
  · have : 6 ^ (s.length + 1) ≤ 6 ^ r.length := Nat.pow_le_pow_right (by omega) z
    rw [Nat.pow_succ] at this
    omega
theorem qc_y_inj {r s : List Nat} (hr : ∀ x, x ∈ r → x < 6) (hs : ∀ x, x ∈ s → x < 6) (h : qc_y r = qc_y s) : r = s := by
  have hl := qc_y_len hr hs h
  apply qc_inj 6 r s hl hr hs
  unfold qc_y at h
  rw [hl] at h
  omega
theorem qc_in_l {a c : List Nat} {b : Nat} (h : ∀ x, x ∈ a ++ c → x < b) : ∀ x, x ∈ a → x < b := fun x hx => h x (List.mem_append.mpr (Or.inl hx))
theorem qc_in_r {a c : List Nat} {b : Nat} (h : ∀ x, x ∈ a ++ c → x < b) : ∀ x, x ∈ c → x < b := fun x hx => h x (List.mem_append.mpr (Or.inr hx))
/-- the code without the last k letters -/
theorem qc_y_div (a c : List Nat) (h : ∀ x, x ∈ a ++ c → x < 6) : qc_y (a ++ c) / 6 ^ c.length = qc_y a := by
  rw [qc_y_app, qc_divm _ _ _ (qc_lt 6 c (qc_in_r h))]
theorem qc_y_take (r : List Nat) (hr : ∀ x, x ∈ r → x < 6) (k : Nat) (hk : k ≤ r.length) : qc_y r / 6 ^ k = qc_y (r.take (r.length - k)) := by
  have e : r.take (r.length - k) ++ r.drop (r.length - k) = r := List.take_append_drop _ _
  have h := qc_y_div (r.take (r.length - k)) (r.drop (r.length - k)) (by rw [e]; exact hr)
  rw [e, List.length_drop, show r.length - (r.length - k) = k by omega] at h
  exact h
theorem qc_y_big (r : List Nat) (hr : ∀ x, x ∈ r → x < 6) (m : Nat) : 6 ^ m ≤ qc_y r ↔ m ≤ r.length := by
  have h1 := qc_y_rng r hr
  constructor
  · intro h
    rcases Nat.lt_or_ge r.length m with z | z
    · have : 6 ^ (r.length + 1) ≤ 6 ^ m := Nat.pow_le_pow_right (by omega) z
      rw [Nat.pow_succ] at this
      omega
    · exact z
  · intro h
    have : 6 ^ m ≤ 6 ^ r.length := Nat.pow_le_pow_right (by omega) h
    omega
theorem qc_y_mod (a c : List Nat) (h : ∀ x, x ∈ c → x < 6) : qc_y (a ++ c) % 6 ^ c.length = qc_v 6 c := by
  rw [qc_y_app, qc_modm _ _ _ (qc_lt 6 c h)]
/-- the trigram at i, out of the reference's code -/
theorem qc_y_tri (r : List Nat) (hr : ∀ x, x ∈ r → x < 6) (i : Nat) (h : i + 2 < r.length) : qc_y r / 6 ^ (r.length - 3 - i) % 216 = (r.getD i 0 * 6 + r.getD (i + 1) 0) * 6 + r.getD (i + 2) 0 := by
  have h0 := qc_tri 6 r hr i h _ 216 rfl (by decide)
  obtain ⟨a, c, e, h1, h2⟩ := qc_split3 r i h
  have e3 : r.length - 3 - i = c.length := by omega
  have e4 : 6 ^ r.length = 6 ^ (i + 3) * 6 ^ c.length := by rw [← Nat.pow_add]; congr 1; omega
  rw [← h0, e3]
  unfold qc_y
  rw [e4, Nat.mul_comm (6 ^ (i + 3)), Nat.mul_add_div (Nat.pow_pos (by omega)), Nat.pow_add, show (6 : Nat) ^ 3 = 216 by decide, Nat.mul_comm (6 ^ i) 216, Nat.mul_add_mod]
theorem qc_y_hd (r : List Nat) (hr : ∀ x, x ∈ r → x < 6) (h : 2 ≤ r.length) : qc_y r / 6 ^ (r.length - 2) = qc_y (qr_hd r) := by
  rw [qc_y_take r hr (r.length - 2) (by omega), show r.length - (r.length - 2) = 2 by omega]
  rfl
theorem qc_y_tl (r : List Nat) (hr : ∀ x, x ∈ r → x < 6) (h : 2 ≤ r.length) : 36 + qc_y r % 36 = qc_y (qr_tl r) := by
  have e : r.take (r.length - 2) ++ r.drop (r.length - 2) = r := List.take_append_drop _ _
  have hl : (r.drop (r.length - 2)).length = 2 := by rw [List.length_drop]; omega
  have h1 := qc_y_mod (r.take (r.length - 2)) (r.drop (r.length - 2)) (fun x hx => hr x (List.mem_of_mem_drop hx))
  rw [e, hl, show (6 : Nat) ^ 2 = 36 by decide] at h1
  show _ = qc_y (r.drop (r.length - 2))
  unfold qc_y at h1 ⊢
  rw [hl, h1]
theorem qc_tl_id {r : List Nat} (h : r.length ≤ 2) : qr_tl r = r := by unfold qr_tl; rw [show r.length - 2 = 0 by omega]; rfl
theorem qc_hd_id {r : List Nat} (h : r.length ≤ 2) : qr_hd r = r := by unfold qr_hd; exact List.take_of_length_le h
/-! the class's codes -/
def qc_x (r : List Nat) : Nat := r.length * 4294967296 + qc_v 8 r
theorem qc_8 {r : List Nat} (hr : ∀ x, x ∈ r → x < 6) : ∀ x, x ∈ r → x < 8 := fun x hx => by have := hr x hx; omega
theorem qc_x_v (r : List Nat) (hr : ∀ x, x ∈ r → x < 6) (h : r.length ≤ 7) : qc_v 8 r < 2097152 := by
  have h1 := qc_lt 8 r (qc_8 hr)
  have h2 : 8 ^ r.length ≤ 8 ^ 7 := Nat.pow_le_pow_right (by omega) h
  have h3 : (8 : Nat) ^ 7 = 2097152 := by decide
  omega
theorem qc_x_lt (r : List Nat) (hr : ∀ x, x ∈ r → x < 6) (h : r.length ≤ 7) : qc_x r < 34359738368 := by
  have h1 := qc_x_v r hr h
  unfold qc_x
  omega
theorem qc_x_len (r : List Nat) (hr : ∀ x, x ∈ r → x < 6) (h : r.length ≤ 7) : qc_x r / 4294967296 = r.length := by
  have h1 := qc_x_v r hr h
  unfold qc_x
  exact qc_divm _ _ _ (by omega)
theorem qc_x_low (r : List Nat) (hr : ∀ x, x ∈ r → x < 6) (h : r.length ≤ 7) : qc_x r % 4294967296 = qc_v 8 r := by
  have h1 := qc_x_v r hr h
  unfold qc_x
  exact qc_modm _ _ _ (by omega)
theorem qc_x_inj {r s : List Nat} (hr : ∀ x, x ∈ r → x < 6) (hs : ∀ x, x ∈ s → x < 6) (h1 : r.length ≤ 7) (h2 : s.length ≤ 7) (h : qc_x r = qc_x s) : r = s := by
  have a := qc_x_len r hr h1
  have b := qc_x_low r hr h1
  rw [h, qc_x_len s hs h2] at a
  rw [h, qc_x_low s hs h2] at b
  exact qc_inj 8 r s a.symm (qc_8 hr) (qc_8 hs) b.symm
theorem qc_x_nil : qc_x [] = 0 := rfl
theorem qc_x_app (a c : List Nat) : qc_x (a ++ c) = (a.length + c.length) * 4294967296 + (qc_v 8 a * 8 ^ c.length + qc_v 8 c) := by
  unfold qc_x
  rw [qc_app, List.length_append]
theorem qc_x_hd (r : List Nat) (hr : ∀ x, x ∈ r → x < 6) (h : 2 ≤ r.length) : 2 * 4294967296 + qc_v 8 r / 8 ^ (r.length - 2) = qc_x (qr_hd r) := by
  have e : r.take 2 ++ r.drop 2 = r := List.take_append_drop _ _
  have h1 : qc_v 8 r / 8 ^ (r.length - 2) = qc_v 8 (r.take 2) := by
    have h2 := qc_app 8 (r.take 2) (r.drop 2)
    rw [e, List.length_drop] at h2
    have h3 := qc_lt 8 (r.drop 2) (fun x hx => qc_8 hr x (List.mem_of_mem_drop hx))
    rw [List.length_drop] at h3
    rw [h2, qc_divm _ _ _ h3]
  have hl : (r.take 2).length = 2 := by rw [List.length_take]; omega
  show _ = qc_x (r.take 2)
  unfold qc_x
  rw [h1, hl]
theorem qc_x_tl (r : List Nat) (hr : ∀ x, x ∈ r → x < 6) (h : 2 ≤ r.length) : 2 * 4294967296 + qc_v 8 r % 64 = qc_x (qr_tl r) := by
  have e : r.take (r.length - 2) ++ r.drop (r.length - 2) = r := List.take_append_drop _ _
  have hl : (r.drop (r.length - 2)).length = 2 := by rw [List.length_drop]; omega
  have h1 : qc_v 8 r % 64 = qc_v 8 (r.drop (r.length - 2)) := by
    have h2 := qc_app 8 (r.take (r.length - 2)) (r.drop (r.length - 2))
    rw [e, hl, show (8 : Nat) ^ 2 = 64 by decide] at h2
    have h3 := qc_lt 8 (r.drop (r.length - 2)) (fun x hx => qc_8 hr x (List.mem_of_mem_drop hx))
    rw [hl, show (8 : Nat) ^ 2 = 64 by decide] at h3
    rw [h2, qc_modm _ _ _ h3]
  show _ = qc_x (r.drop (r.length - 2))
  unfold qc_x
  rw [h1, hl]
theorem qc_x_tri (r : List Nat) (hr : ∀ x, x ∈ r → x < 6) (i : Nat) (h : i + 2 < r.length) : qc_v 8 r / 8 ^ (r.length - 3 - i) % 512 = (r.getD i 0 * 8 + r.getD (i + 1) 0) * 8 + r.getD (i + 2) 0 :=
  qc_tri 8 r (qc_8 hr) i h _ 512 rfl (by decide)
theorem qc_get_in {r : List Nat} {b : Nat} (hr : ∀ x, x ∈ r → x < b) (i : Nat) (h : i < r.length) : r.getD i 0 < b := by
  rw [qc_gd h]
  exact hr _ (List.getElem_mem h)
end
section
/-! the shelf: files, changes, documents and segments -/
abbrev qf_X : Type := Option (List Nat)
abbrev qf_D : Type := Nat × Nat × Bool × List Nat
def qf_ap (b : Nat → qf_X) (c : Nat × qf_X) : Nat → qf_X := fun f => if f = c.1 then c.2 else b f
def qf_aps (b : Nat → qf_X) (w : List (Nat × qf_X)) : Nat → qf_X := w.foldl qf_ap b
def qf_t (t : List Nat) : Prop := t.length ≤ 40 ∧ ∀ x, x ∈ t → x < 7
def qf_o (o : qf_X) : Prop := ∀ t, o = some t → qf_t t
theorem qf_aps_1 (b : Nat → qf_X) (w : List (Nat × qf_X)) (c : Nat × qf_X) : qf_aps b (w ++ [c]) = qf_ap (qf_aps b w) c := by
  unfold qf_aps; rw [List.foldl_append]; rfl
theorem qf_aps_no (f : Nat) : ∀ (w : List (Nat × qf_X)) (b : Nat → qf_X), (∀ c, c ∈ w → c.1 ≠ f) → qf_aps b w f = b f
  | [], _, _ => rfl
  | c :: w, b, h => by
    have h1 := qf_aps_no f w (qf_ap b c) (fun d hd => h d (List.mem_cons_of_mem _ hd))
    show qf_aps (qf_ap b c) w f = b f
    rw [h1]
    exact if_neg (fun e => h c List.mem_cons_self e.symm)
theorem qf_aps_o : ∀ (w : List (Nat × qf_X)) (b : Nat → qf_X), (∀ f, f < 10 → qf_o (b f)) → (∀ c, c ∈ w → qf_o c.2) → ∀ f, f < 10 → qf_o (qf_aps b w f)
  | [], _, hb, _ => hb
  | c :: w, b, hb, hw => by
    apply qf_aps_o w (qf_ap b c)
    · intro f hf
      unfold qf_ap
      split
      · exact hw c List.mem_cons_self
      · exact hb f hf
    · exact fun d hd => hw d (List.mem_cons_of_mem _ hd)
/-! documents -/
def qd_live (x : qf_D) : Bool := x.2.2.1
def qd_dead (ch : List Nat) (x : qf_D) : qf_D := if x.2.1 ∈ ch then (x.1, x.2.1, false, x.2.2.2) else x
/-- the documents that a sync makes of the files f, f + 1, .. -/
def qd_new (ch : List Nat) (now : Nat → qf_X) : Nat → Nat → Nat → List qf_D
  | 0, _, _ => []
  | m + 1, f, made => if f ∈ ch then (match now f with
      | some t => (made, f, true, t) :: qd_new ch now m (f + 1) (made + 1)
      | none => qd_new ch now m (f + 1) made) else qd_new ch now m (f + 1) made
def qd_st (first : Nat) (segs : List Nat) : Nat := (segs.take first).sum
def qd_gd (first : Nat) (docs : List qf_D) (segs : List Nat) : List qf_D := docs.take (qd_st first segs) ++ (docs.drop (qd_st first segs)).filter qd_live
def qd_gs (first : Nat) (docs : List qf_D) (segs : List Nat) : List Nat := segs.take first ++ (if ((docs.drop (qd_st first segs)).filter qd_live).length = 0 then [] else [((docs.drop (qd_st first segs)).filter qd_live).length])
def qd_due (segs : List Nat) : Prop := 2 ≤ segs.length ∧ segs.getD (segs.length - 2) 0 ≤ segs.getD (segs.length - 1) 0
def qd_ok (docs : List qf_D) (segs : List Nat) (made : Nat) : Prop :=
  segs.sum = docs.length ∧ (∀ s, s ∈ segs → 1 ≤ s ∧ s ≤ 10) ∧ docs.Pairwise (fun x y => x.1 < y.1) ∧ (∀ x, x ∈ docs → x.1 < made ∧ x.2.1 < 10 ∧ qf_t x.2.2.2) ∧ docs.Pairwise (fun x y => x.2.2.1 = true → y.2.2.1 = true → x.2.1 ≠ y.2.1)
theorem qd_sub {docs : List qf_D} {first : Nat} {segs : List Nat} : (qd_gd first docs segs).Sublist docs := by
  have h : (docs.take (qd_st first segs) ++ (docs.drop (qd_st first segs)).filter qd_live).Sublist (docs.take (qd_st first segs) ++ docs.drop (qd_st first segs)) := List.Sublist.append (List.Sublist.refl _) List.filter_sublist
  rw [List.take_append_drop] at h
  exact h
theorem qd_pig {l : List Nat} {n : Nat} (h : l.Nodup) (hn : ∀ x, x ∈ l → x < n) : l.length ≤ n := by
  have := List.Nodup.length_le_of_subset h (l₂ := List.range n) (fun x hx => List.mem_range.mpr (hn x hx))
  rw [List.length_range] at this
  exact this
theorem qd_live10 {docs : List qf_D} (h1 : ∀ x, x ∈ docs → x.2.1 < 10) (h2 : docs.Pairwise (fun x y => x.2.2.1 = true → y.2.2.1 = true → x.2.1 ≠ y.2.1)) : (docs.filter qd_live).length ≤ 10 := by
  have hp : ((docs.filter qd_live).map (fun x => x.2.1)).Nodup := by
    have a : (docs.filter qd_live).Pairwise (fun x y => x.2.1 ≠ y.2.1) := by
      have b := List.Pairwise.filter qd_live h2
      refine List.Pairwise.imp_of_mem ?_ b
      intro x y hx hy hxy
      exact hxy (List.mem_filter.mp hx).2 (List.mem_filter.mp hy).2
    exact List.Pairwise.map _ (fun x y hxy => hxy) a
  have := qd_pig hp (n := 10) (fun x hx => by
    obtain ⟨y, hy, rfl⟩ := List.mem_map.mp hx
    exact h1 y (List.mem_filter.mp hy).1)
  rw [List.length_map] at this
  exact this
theorem qd_st_le {segs : List Nat} (first : Nat) : qd_st first segs ≤ segs.sum := by
  have : segs.sum = (segs.take first).sum + (segs.drop first).sum := by rw [← List.sum_append_nat, List.take_append_drop]
  unfold qd_st
  omega
theorem qd_ga_ok {docs : List qf_D} {segs : List Nat} {made : Nat} (h : qd_ok docs segs made) (first : Nat) : qd_ok (qd_gd first docs segs) (qd_gs first docs segs) made := by
  obtain ⟨h1, h2, h3, h4, h5⟩ := h
  have hl := qd_st_le (segs := segs) first
  refine ⟨?_, ?_, h3.sublist qd_sub, fun x hx => h4 x (qd_sub.mem hx), h5.sublist qd_sub⟩
  · unfold qd_gd qd_gs
    rw [List.sum_append_nat, List.length_append, List.length_take, Nat.min_eq_left (by omega)]
    show qd_st first segs + _ = _
    split
    · rename_i e; rw [e]; rfl
    · simp
  · intro s hs
    unfold qd_gs at hs
    rcases List.mem_append.mp hs with z | z
    · exact h2 s (List.mem_of_mem_take z)
    · split at z
      · exact absurd z (by simp)
      · rename_i e
        rw [List.mem_singleton] at z
        subst z
        refine ⟨by omega, ?_⟩
        apply qd_live10
        · exact fun x hx => (h4 x (List.mem_of_mem_drop hx)).2.1
        · exact h5.sublist (List.drop_sublist _ _)
/-! ever fewer documents a segment -/
def qd_tri : Nat → Nat
  | 0 => 0
  | m + 1 => qd_tri m + (m + 1)
theorem qd_tri_le {a b : Nat} (h : a ≤ b) : qd_tri a ≤ qd_tri b := by
  induction h with
  | refl => exact Nat.le_refl _
  | step _ ih => exact Nat.le_trans ih (by simp [qd_tri])
def qd_dec (segs : List Nat) : Prop := segs.Pairwise (fun a b => b < a)
theorem qd_dec_b : ∀ (segs : List Nat) (m : Nat), qd_dec segs → (∀ s, s ∈ segs → 1 ≤ s ∧ s ≤ m) → segs.length ≤ m ∧ segs.sum ≤ qd_tri m
  | [], m, _, _ => ⟨by simp, by simp⟩
  | s :: l, m, hd, hb => by
    have hd' := List.pairwise_cons.mp hd
    have hs := hb s List.mem_cons_self
    obtain ⟨a, b⟩ := qd_dec_b l (s - 1) hd'.2 (fun x hx => ⟨(hb x (List.mem_cons_of_mem _ hx)).1, by have := hd'.1 x hx; omega⟩)
    obtain ⟨s', rfl⟩ : ∃ s', s = s' + 1 := ⟨s - 1, by omega⟩
    have c := qd_tri_le hs.2
    simp only [Nat.add_sub_cancel] at a b
    rw [List.length_cons, List.sum_cons]
    simp only [qd_tri] at c
    omega
theorem qd_dec10 {segs : List Nat} (hd : qd_dec segs) (hb : ∀ s, s ∈ segs → 1 ≤ s ∧ s ≤ 10) : segs.length ≤ 10 ∧ segs.sum ≤ 55 := qd_dec_b segs 10 hd hb
theorem qd_split_last {segs : List Nat} (h : 1 ≤ segs.length) : segs = segs.dropLast ++ [segs.getD (segs.length - 1) 0] := by
  have hne : segs ≠ [] := by intro e; rw [e] at h; simp at h
  have e1 := List.dropLast_concat_getLast hne
  rw [List.getLast_eq_getElem] at e1
  rw [qc_gd (show segs.length - 1 < segs.length by omega)]
  exact e1.symm
theorem qd_not_due {segs : List Nat} (h : qd_dec segs.dropLast) (hn : ¬ qd_due segs) : qd_dec segs := by
  rcases Nat.lt_or_ge segs.length 2 with z | z
  · match segs, z with
    | [], _ => exact List.Pairwise.nil
    | [a], _ => exact List.pairwise_singleton _ _
  · have hlt : segs.getD (segs.length - 1) 0 < segs.getD (segs.length - 2) 0 := by
      rcases Nat.lt_or_ge (segs.getD (segs.length - 1) 0) (segs.getD (segs.length - 2) 0) with y | y
      · exact y
      · exact absurd ⟨z, y⟩ hn
    rw [qd_split_last (show 1 ≤ segs.length by omega)]
    unfold qd_dec at h ⊢
    rw [List.pairwise_append]
    refine ⟨h, List.pairwise_singleton _ _, ?_⟩
    intro a ha b hb
    rw [List.mem_singleton] at hb
    subst hb
    have hl : segs.dropLast.length = segs.length - 1 := List.length_dropLast
    have e2 := qd_split_last (segs := segs.dropLast) (by omega)
    have e3 : segs.dropLast.getD (segs.dropLast.length - 1) 0 = segs.getD (segs.length - 2) 0 := by
      rw [qc_gd (by omega), qc_gd (by omega), List.getElem_dropLast]
      congr 1
      omega
    rw [e2, e3] at ha
    rcases List.mem_append.mp ha with y | y
    · rw [e2, e3, List.pairwise_append] at h
      have := h.2.2 a y _ (List.mem_singleton.mpr rfl)
      omega
    · rw [List.mem_singleton] at y
      omega
theorem qd_gs_dec {docs : List qf_D} {segs : List Nat} (h : qd_dec segs.dropLast) (hl : 2 ≤ segs.length) : qd_dec (qd_gs (segs.length - 2) docs segs).dropLast ∧ (qd_gs (segs.length - 2) docs segs).length < segs.length := by
  have ht : (segs.take (segs.length - 2)).length = segs.length - 2 := by rw [List.length_take]; omega
  have hs : (segs.take (segs.length - 2)).Sublist segs.dropLast := by
    rw [List.dropLast_eq_take]
    exact List.take_sublist_take_left (by omega)
  unfold qd_gs
  split
  · rw [List.append_nil]
    exact ⟨h.sublist ((List.dropLast_sublist _).trans hs), by omega⟩
  · rw [List.dropLast_concat, List.length_append, ht]
    exact ⟨h.sublist hs, by simp; omega⟩
/-- merges, as many as are due -/
def qd_mg : Nat → List qf_D → List Nat → List qf_D × List Nat
  | 0, d, s => (d, s)
  | n + 1, d, s => if 2 ≤ s.length ∧ s.getD (s.length - 2) 0 ≤ s.getD (s.length - 1) 0 then qd_mg n (qd_gd (s.length - 2) d s) (qd_gs (s.length - 2) d s) else (d, s)
theorem qd_mg_ok : ∀ (n : Nat) (d : List qf_D) (s : List Nat) (made : Nat), s.length ≤ n → qd_ok d s made → qd_dec s.dropLast → qd_ok (qd_mg n d s).1 (qd_mg n d s).2 made ∧ qd_dec (qd_mg n d s).2
  | 0, d, s, made, hn, h, hd => by
    refine ⟨h, ?_⟩
    have : s = [] := List.eq_nil_of_length_eq_zero (by omega)
    show qd_dec s
    rw [this]
    exact List.Pairwise.nil
  | n + 1, d, s, made, hn, h, hd => by
    unfold qd_mg
    split
    · rename_i hdue
      have a := qd_gs_dec (docs := d) hd hdue.1
      exact qd_mg_ok n _ _ made (by omega) (qd_ga_ok h _) a.1
    · rename_i hdue
      exact ⟨h, qd_not_due hd hdue⟩
/-! a sync -/
theorem qd_new_in (ch : List Nat) (now : Nat → qf_X) : ∀ (m f made : Nat) (x : qf_D), x ∈ qd_new ch now m f made → made ≤ x.1 ∧ x.1 < made + (qd_new ch now m f made).length ∧ f ≤ x.2.1 ∧ x.2.1 < f + m ∧ x.2.1 ∈ ch ∧ x.2.2.1 = true ∧ now x.2.1 = some x.2.2.2
  | 0, _, _, _, h => absurd h (by simp [qd_new])
  | m + 1, f, made, x, h => by
    unfold qd_new at h ⊢
    split at h
    · rename_i hf
      rw [if_pos hf]
      split at h
      · rename_i t ht
        rcases List.mem_cons.mp h with e | h
        · subst e
          simp only [List.length_cons]
          exact ⟨Nat.le_refl _, by omega, Nat.le_refl _, by omega, hf, by trivial, ht⟩
        · obtain ⟨a1, a2, a3, a4, a5⟩ := qd_new_in ch now m (f + 1) (made + 1) x h
          simp only [List.length_cons]
          exact ⟨by omega, by omega, by omega, by omega, a5⟩
      · obtain ⟨a1, a2, a3, a4, a5⟩ := qd_new_in ch now m (f + 1) made x h
        exact ⟨a1, a2, by omega, by omega, a5⟩
    · rename_i hf
      rw [if_neg hf]
      obtain ⟨a1, a2, a3, a4, a5⟩ := qd_new_in ch now m (f + 1) made x h
      exact ⟨a1, a2, by omega, by omega, a5⟩
theorem qd_new_pw (ch : List Nat) (now : Nat → qf_X) : ∀ (m f made : Nat), (qd_new ch now m f made).Pairwise (fun x y => x.1 < y.1 ∧ x.2.1 < y.2.1)
  | 0, _, _ => by unfold qd_new; exact List.Pairwise.nil
  | m + 1, f, made => by
    unfold qd_new
    split
    · split
      · refine List.pairwise_cons.mpr ⟨?_, qd_new_pw ch now m (f + 1) (made + 1)⟩
        intro y hy
        have := qd_new_in ch now m (f + 1) (made + 1) y hy
        exact ⟨by show made < y.1; omega, by show f < y.2.1; omega⟩
      · exact qd_new_pw ch now m (f + 1) made
    · exact qd_new_pw ch now m (f + 1) made
theorem qd_new_len (ch : List Nat) (now : Nat → qf_X) (m f made : Nat) : (qd_new ch now m f made).length ≤ ch.length := by
  have hn : ((qd_new ch now m f made).map (fun x => x.2.1)).Nodup := by
    refine List.Pairwise.map _ ?_ (qd_new_pw ch now m f made)
    intro x y hxy e
    have := hxy.2
    omega
  have := List.Nodup.length_le_of_subset hn (l₂ := ch) (fun x hx => by
    obtain ⟨y, hy, rfl⟩ := List.mem_map.mp hx
    exact (qd_new_in ch now m f made y hy).2.2.2.2.1)
  rw [List.length_map] at this
  exact this
theorem qd_new_cut (ch : List Nat) (now : Nat → qf_X) : ∀ (m f made : Nat), qd_new ch now (m + 1) f made = qd_new ch now m f made ++ (if f + m ∈ ch then (match now (f + m) with
      | some t => [(made + (qd_new ch now m f made).length, f + m, true, t)]
      | none => []) else [])
  | 0, f, made => by
    unfold qd_new
    simp only [Nat.add_zero, qd_new, List.nil_append, List.length_nil]
  | m + 1, f, made => by
    rw [show qd_new ch now (m + 1 + 1) f made = (if f ∈ ch then (match now f with
      | some t => (made, f, true, t) :: qd_new ch now (m + 1) (f + 1) (made + 1)
      | none => qd_new ch now (m + 1) (f + 1) made) else qd_new ch now (m + 1) (f + 1) made) from rfl]
    rw [show qd_new ch now (m + 1) f made = (if f ∈ ch then (match now f with
      | some t => (made, f, true, t) :: qd_new ch now m (f + 1) (made + 1)
      | none => qd_new ch now m (f + 1) made) else qd_new ch now m (f + 1) made) from rfl]
    have e : f + (m + 1) = f + 1 + m := by omega
    rw [e]
    split
    · split
      · rw [qd_new_cut ch now m (f + 1) (made + 1), List.cons_append, List.length_cons]
        rw [show made + ((qd_new ch now m (f + 1) (made + 1)).length + 1) = made + 1 + (qd_new ch now m (f + 1) (made + 1)).length by omega]
      · rw [qd_new_cut ch now m (f + 1) made]
    · rw [qd_new_cut ch now m (f + 1) made]
def qd_ch (wt : List (Nat × qf_X)) : List Nat := wt.map (fun c => c.1)
def qd_s1 (segs : List Nat) (n : Nat) : List Nat := segs ++ (if n = 0 then [] else [n])
theorem qd_sync_ok {docs : List qf_D} {segs : List Nat} {made : Nat} (h : qd_ok docs segs made) (hd : qd_dec segs) {wt : List (Nat × qf_X)} (hw : wt.length ≤ 6) {now : Nat → qf_X} (hn : ∀ f, f < 10 → qf_o (now f)) :
    qd_ok (docs.map (qd_dead (qd_ch wt)) ++ qd_new (qd_ch wt) now 10 0 made) (qd_s1 segs (qd_new (qd_ch wt) now 10 0 made).length) (made + (qd_new (qd_ch wt) now 10 0 made).length) ∧ qd_dec (qd_s1 segs (qd_new (qd_ch wt) now 10 0 made).length).dropLast ∧ docs.length ≤ 55 ∧ segs.length ≤ 10 ∧ (qd_new (qd_ch wt) now 10 0 made).length ≤ 6 := by
  obtain ⟨h1, h2, h3, h4, h5⟩ := h
  have hb := qd_dec10 hd h2
  have hl : (qd_new (qd_ch wt) now 10 0 made).length ≤ 6 := by
    have := qd_new_len (qd_ch wt) now 10 0 made
    have e : (qd_ch wt).length = wt.length := List.length_map _
    omega
  have hin := qd_new_in (qd_ch wt) now 10 0 made
  have hpw := qd_new_pw (qd_ch wt) now 10 0 made
  have hdd : ∀ x : qf_D, (qd_dead (qd_ch wt) x).1 = x.1 ∧ (qd_dead (qd_ch wt) x).2.1 = x.2.1 ∧ (qd_dead (qd_ch wt) x).2.2.2 = x.2.2.2 ∧ ((qd_dead (qd_ch wt) x).2.2.1 = true → x.2.2.1 = true ∧ ¬ x.2.1 ∈ qd_ch wt) := by
    intro x
    unfold qd_dead
    split
    · exact ⟨rfl, rfl, rfl, (fun e => nomatch e)⟩
    · rename_i z; exact ⟨rfl, rfl, rfl, fun e => ⟨e, z⟩⟩
  generalize hN : qd_new (qd_ch wt) now 10 0 made = N at *
  refine ⟨⟨?_, ?_, ?_, ?_, ?_⟩, ?_, by omega, hb.1, hl⟩
  · unfold qd_s1
    rw [List.sum_append_nat, List.length_append, List.length_map, h1]
    split
    · rename_i e; rw [e]; rfl
    · simp
  · intro s hs
    unfold qd_s1 at hs
    rcases List.mem_append.mp hs with z | z
    · exact h2 s z
    · split at z
      · exact absurd z (by simp)
      · rw [List.mem_singleton] at z
        omega
  · rw [List.pairwise_append]
    refine ⟨List.Pairwise.map _ (fun x y hxy => by rw [(hdd x).1, (hdd y).1]; exact hxy) h3, hpw.imp (fun hxy => hxy.1), ?_⟩
    intro x hx y hy
    obtain ⟨z, hz, rfl⟩ := List.mem_map.mp hx
    have := (h4 z hz).1
    have := (hin y hy).1
    rw [(hdd z).1]
    omega
  · intro x hx
    rcases List.mem_append.mp hx with z | z
    · obtain ⟨y, hy, rfl⟩ := List.mem_map.mp z
      obtain ⟨a1, a2, a3⟩ := h4 y hy
      rw [(hdd y).1, (hdd y).2.1, (hdd y).2.2.1]
      exact ⟨by omega, a2, a3⟩
    · obtain ⟨a1, a2, a3, a4, a5, a6, a7⟩ := hin x z
      exact ⟨a2, by omega, hn x.2.1 (by omega) _ a7⟩
  · rw [List.pairwise_append]
    refine ⟨List.Pairwise.map _ (fun x y hxy => ?_) h5, hpw.imp (fun hxy _ _ e => by have := hxy.2; omega), ?_⟩
    · intro e1 e2
      rw [(hdd x).2.1, (hdd y).2.1]
      exact hxy ((hdd x).2.2.2 e1).1 ((hdd y).2.2.2 e2).1
    · intro x hx y hy e1 _ e
      obtain ⟨z, hz, rfl⟩ := List.mem_map.mp hx
      have a := ((hdd z).2.2.2 e1).2
      rw [(hdd z).2.1] at e
      rw [e] at a
      exact a (hin y hy).2.2.2.2.1
  · unfold qd_s1
    split
    · rw [List.append_nil]; exact hd.sublist (List.dropLast_sublist _)
    · rw [List.dropLast_concat]; exact hd
/-! which segment a document lies in -/
def qd_seg : List Nat → Nat → Nat
  | [], _ => 0
  | s :: l, d => if d < s then 0 else qd_seg l (d - s) + 1
theorem qd_seg_ge : ∀ (segs : List Nat) (d k : Nat), d < segs.sum → (k ≤ qd_seg segs d ↔ qd_st k segs ≤ d)
  | [], d, k, h => absurd h (by simp)
  | s :: l, d, 0, _ => by simp [qd_st]
  | s :: l, d, k + 1, h => by
    rw [List.sum_cons] at h
    have e : qd_st (k + 1) (s :: l) = s + qd_st k l := by unfold qd_st; rw [List.take_succ_cons, List.sum_cons]
    rw [e]
    unfold qd_seg
    split
    · omega
    · have := qd_seg_ge l (d - s) k (by omega)
      omega
theorem qd_seg_lt : ∀ (segs : List Nat) (d : Nat), d < segs.sum → qd_seg segs d < segs.length
  | [], d, h => absurd h (by simp)
  | s :: l, d, h => by
    rw [List.sum_cons] at h
    unfold qd_seg
    rw [List.length_cons]
    split
    · omega
    · have := qd_seg_lt l (d - s) (by omega)
      omega
theorem qd_seg_eq (segs : List Nat) (d k : Nat) (h : d < segs.sum) : qd_seg segs d = k ↔ qd_st k segs ≤ d ∧ d < qd_st (k + 1) segs := by
  have a := qd_seg_ge segs d k h
  have b := qd_seg_ge segs d (k + 1) h
  omega
theorem qd_st_s (segs : List Nat) (k : Nat) : qd_st (k + 1) segs = qd_st k segs + segs.getD k 0 := by
  unfold qd_st
  rw [List.take_add_one, List.sum_append_nat, List.getD_eq_getElem?_getD]
  cases segs[k]? <;> simp
theorem qd_st_all (segs : List Nat) : qd_st segs.length segs = segs.sum := by unfold qd_st; rw [List.take_length]
theorem qd_seg_app (segs : List Nat) : ∀ (l : List Nat) (d : Nat), d < l.sum → qd_seg (l ++ segs) d = qd_seg l d
  | [], d, h => absurd h (by simp)
  | s :: l, d, h => by
    rw [List.sum_cons] at h
    rw [List.cons_append]
    unfold qd_seg
    split
    · rfl
    · rw [qd_seg_app segs l (d - s) (by omega)]
theorem qd_seg_new (n : Nat) : ∀ (l : List Nat) (d : Nat), l.sum ≤ d → d < l.sum + n → qd_seg (l ++ [n]) d = l.length
  | [], d, _, h => by
    show qd_seg [n] d = 0
    unfold qd_seg
    rw [List.sum_nil] at h
    rw [if_pos (by omega)]
  | s :: l, d, h, h' => by
    rw [List.sum_cons] at h h'
    rw [List.cons_append]
    unfold qd_seg
    rw [if_neg (by omega), qd_seg_new n l (d - s) (by omega) (by omega), List.length_cons]
/-! how each side holds a text, a document, a shelf -/
def qx_slot (ch tl : Nat → Int32) (s : Nat) (o : qf_X) : Prop := match o with
  | none => tl s = -1
  | some t => tl s = nI t.length ∧ ∀ i, i < t.length → ch (s * 40 + i) = nI (t.getD i 0)
def qx_doc (ch tl dn df dl : Nat → Int32) (d : Nat) (x : qf_D) : Prop := dn d = nI x.1 ∧ df d = nI x.2.1 ∧ dl d = (if x.2.2.1 = true then 1 else 0) ∧ qx_slot ch tl (27 + d) (some x.2.2.2)
def qx_S (now base : Nat → qf_X) (wt : List (Nat × qf_X)) (dr : List Nat) (docs : List qf_D) (segs : List Nat) (made : Nat) (ch tl wf : Nat → Int32) (wc : Int32) (dn df dl : Nat → Int32) (dc dm : Int32) (ss : Nat → Int32) (sc : Int32) : Prop :=
  (∀ f, f < 10 → qx_slot ch tl f (now f)) ∧ (∀ f, f < 10 → qx_slot ch tl (10 + f) (base f)) ∧ (wc = nI wt.length ∧ ∀ k c, wt[k]? = some c → wf k = nI c.1 ∧ qx_slot ch tl (20 + k) c.2) ∧ qx_slot ch tl 26 (some dr) ∧ (dc = nI docs.length ∧ ∀ d x, docs[d]? = some x → qx_doc ch tl dn df dl d x) ∧ dm = nI made ∧ (sc = nI segs.length ∧ ∀ k s, segs[k]? = some s → ss k = nI s)
def qy_doc (tx sz nu fi pa li : Nat → Int32) (segs : List Nat) (d : Nat) (x : qf_D) : Prop := nu d = nI x.1 ∧ fi d = nI x.2.1 ∧ li d = (if x.2.2.1 = true then 1 else 0) ∧ pa d = nI (qd_seg segs d) ∧ qx_slot tx sz d (some x.2.2.2)
def qy_S (now base : Nat → qf_X) (wt : List (Nat × qf_X)) (dr : List Nat) (docs : List qf_D) (segs : List Nat) (made : Nat) (an al ab abl ac acl acf ad : Nat → Int32) (wa dd : Int32) (nu fi pa sz li tx : Nat → Int32) (nd ns ma : Int32) : Prop :=
  (∀ f, f < 10 → qx_slot an al f (now f)) ∧ (∀ f, f < 10 → qx_slot ab abl f (base f)) ∧ (wa = nI wt.length ∧ ∀ k c, wt[k]? = some c → acf k = nI c.1 ∧ qx_slot ac acl k c.2) ∧ (dd = nI dr.length ∧ ∀ i, i < dr.length → ad i = nI (dr.getD i 0)) ∧ (nd = nI docs.length ∧ ∀ d x, docs[d]? = some x → qy_doc tx sz nu fi pa li segs d x) ∧ ma = nI made ∧ ns = nI segs.length
def qf_inv (now base : Nat → qf_X) (wt : List (Nat × qf_X)) (dr : List Nat) (docs : List qf_D) (segs : List Nat) (made : Nat) : Prop :=
  (∀ f, f < 10 → now f = qf_aps base wt f) ∧ (∀ f, f < 10 → qf_o (base f)) ∧ (wt.length ≤ 6 ∧ ∀ c, c ∈ wt → c.1 < 10 ∧ qf_o c.2) ∧ qf_t dr ∧ qd_ok docs segs made ∧ qd_dec segs
end
section
/-! the ends of pieces as bits; the matches of a line, of a file -/
theorem qh_ex (P : Nat → Prop) : ∃ e : Int64, ∀ j, j < 64 → (qb_l e j = true ↔ P j) := by
  have h : ∀ m, m ≤ 64 → ∃ e : Int64, ∀ j, j < 64 → (qb_l e j = true ↔ j < m ∧ P j) := by
    intro m
    induction m with
    | zero => exact fun _ => ⟨0, fun j _ => by rw [qb_0]; simp⟩
    | succ m ih =>
      intro hm
      obtain ⟨e, he⟩ := ih (by omega)
      by_cases z : P m
      · refine ⟨e ||| ((1 : Int64) <<< ((nI m).toInt64 &&& 63)), fun j hj => ?_⟩
        rw [qb_or, qb_here m (by omega) j hj, Bool.or_eq_true, he j hj, decide_eq_true_eq]
        constructor
        · rintro (⟨a, b⟩ | a)
          · exact ⟨by omega, b⟩
          · subst a; exact ⟨by omega, z⟩
        · rintro ⟨a, b⟩
          by_cases y : j = m
          · exact Or.inr y
          · exact Or.inl ⟨by omega, b⟩
      · refine ⟨e, fun j hj => ?_⟩
        rw [he j hj]
        constructor
        · rintro ⟨a, b⟩; exact ⟨by omega, b⟩
        · rintro ⟨a, b⟩
          refine ⟨?_, b⟩
          rcases Nat.lt_or_ge j m with y | y
          · exact y
          · have : j = m := by omega
            subst this
            exact absurd b z
  obtain ⟨e, he⟩ := h 64 (Nat.le_refl _)
  exact ⟨e, fun j hj => by rw [he j hj]; exact ⟨fun a => a.2, fun a => ⟨hj, a⟩⟩⟩
noncomputable def qh_E (P : Nat → Prop) : Int64 := Classical.choose (qh_ex P)
theorem qh_E_b (P : Nat → Prop) {j : Nat} (hj : j < 64) : qb_l (qh_E P) j = true ↔ P j := Classical.choose_spec (qh_ex P) j hj
theorem qh_E_eq {P : Nat → Prop} {e : Int64} (h : ∀ j, j < 64 → (qb_l e j = true ↔ P j)) : e = qh_E P := by
  apply qb_ext
  intro i hi
  have a := h i hi
  have b := qh_E_b P hi
  cases x : qb_l e i <;> cases y : qb_l (qh_E P) i
  · rfl
  · rw [x] at a; exact absurd (a.mpr (b.mp y)) (by decide)
  · rw [y] at b; exact absurd (b.mpr (a.mp x)) (by decide)
  · rfl
theorem qh_E_0 {P : Nat → Prop} (h : ∀ j, j < 64 → ¬ P j) : qh_E P = 0 := by
  apply Eq.symm
  apply qh_E_eq
  intro j hj
  rw [qb_0]
  exact ⟨(fun z => nomatch z), fun z => absurd z (h j hj)⟩
/-- the last place of a set of places up to m -/
def qh_last (e : Int64) : Nat → Option Nat
  | 0 => if qb_l e 0 = true then some 0 else none
  | m + 1 => if qb_l e (m + 1) = true then some (m + 1) else qh_last e m
theorem qh_last_none (e : Int64) : ∀ m, qh_last e m = none ↔ ∀ j, j ≤ m → qb_l e j = false
  | 0 => by
    unfold qh_last
    split
    · rename_i h
      exact ⟨(fun z => nomatch z), fun z => by rw [z 0 (Nat.le_refl _)] at h; exact nomatch h⟩
    · rename_i h
      refine ⟨fun _ j hj => ?_, fun _ => rfl⟩
      have : j = 0 := by omega
      subst this
      simpa using h
  | m + 1 => by
    unfold qh_last
    split
    · rename_i h
      exact ⟨(fun z => nomatch z), fun z => by rw [z (m + 1) (Nat.le_refl _)] at h; exact nomatch h⟩
    · rename_i h
      rw [qh_last_none e m]
      constructor
      · intro z j hj
        by_cases y : j = m + 1
        · subst y; simpa using h
        · exact z j (by omega)
      · exact fun z j hj => z j (by omega)
theorem qh_last_some (e : Int64) : ∀ m l, qh_last e m = some l → l ≤ m ∧ qb_l e l = true ∧ ∀ j, l < j → j ≤ m → qb_l e j = false
  | 0, l, h => by
    unfold qh_last at h
    split at h
    · rename_i z
      cases h
      exact ⟨Nat.le_refl _, z, fun j h1 h2 => absurd h1 (by omega)⟩
    · exact nomatch h
  | m + 1, l, h => by
    unfold qh_last at h
    split at h
    · rename_i z
      cases h
      exact ⟨Nat.le_refl _, z, fun j h1 h2 => absurd h1 (by omega)⟩
    · rename_i z
      obtain ⟨a, b, c⟩ := qh_last_some e m l h
      refine ⟨by omega, b, fun j h1 h2 => ?_⟩
      by_cases y : j = m + 1
      · subst y; simpa using z
      · exact c j h1 (by omega)
/-- the matches of a line of n letters from a place on -/
def qh_ln (E : Nat → Int64) (n : Nat) : Nat → Nat → List (Nat × Nat)
  | 0, _ => []
  | m + 1, p => if p ≤ n then (match qh_last (E p) n with
      | none => qh_ln E n m (p + 1)
      | some e => (p, e) :: qh_ln E n m (if p < e then e else p + 1)) else []
theorem qh_ln_0 (E : Nat → Int64) (n : Nat) (h : ∀ p, p ≤ n → E p = 0) : ∀ m p, qh_ln E n m p = []
  | 0, _ => rfl
  | m + 1, p => by
    unfold qh_ln
    split
    · rename_i hp
      have : qh_last (E p) n = none := (qh_last_none _ _).mpr (fun j _ => by rw [h p hp, qb_0])
      rw [this]
      exact qh_ln_0 E n h m (p + 1)
    · rfl
/-- a text line by line: what each line gives -/
def qh_sc (t : List Nat) (g : Nat → Nat → Nat → List (Nat × Nat × Nat × Nat)) : Nat → Nat → Nat → Nat → List (Nat × Nat × Nat × Nat)
  | 0, _, _, _ => []
  | m + 1, i, b, l => if i < t.length ∧ t.getD i 0 ≠ 6 then qh_sc t g m (i + 1) b l else g l b (i - b) ++ qh_sc t g m (i + 1) (i + 1) (l + 1)
def qh_ok (t : List Nat) (b n : Nat) : Prop := b + n ≤ t.length ∧ ∀ i, i < n → t.getD (b + i) 0 ≠ 6
theorem qh_sc_nil (t : List Nat) (g : Nat → Nat → Nat → List (Nat × Nat × Nat × Nat)) (hg : ∀ l b n, qh_ok t b n → g l b n = []) : ∀ m i b l, i + m ≤ t.length + 1 → b ≤ i → (∀ j, b ≤ j → j < i → t.getD j 0 ≠ 6) → qh_sc t g m i b l = []
  | 0, _, _, _, _, _, _ => rfl
  | m + 1, i, b, l, hm, hb, hj => by
    unfold qh_sc
    split
    · rename_i h
      apply qh_sc_nil t g hg m (i + 1) b l (by omega) (by omega)
      intro j h1 h2
      by_cases y : j = i
      · subst y; exact h.2
      · exact hj j h1 (by omega)
    · rw [hg l b (i - b) ⟨by omega, fun k hk => hj (b + k) (by omega) (by omega)⟩, List.nil_append]
      exact qh_sc_nil t g hg m (i + 1) (i + 1) (l + 1) (by omega) (by omega) (fun j h1 h2 => absurd h1 (by omega))
def qt_T (t : List Nat) (a b c : Nat) : Prop := ∃ i, i + 2 < t.length ∧ t.getD i 0 = a ∧ t.getD (i + 1) 0 = b ∧ t.getD (i + 2) 0 = c
/-- the ends in a line of a text, of a part -/
noncomputable def qh_M (v : qv_T) (t : List Nat) (b n : Nat) (p : Nat) : Int64 := qh_E (v.2.2 (fun i => t.getD (b + i) 0) n p)
noncomputable def qh_g (v : qv_T) (f : Nat) (t : List Nat) (l b n : Nat) : List (Nat × Nat × Nat × Nat) := (qh_ln (qh_M v t b n) n (n + 1) 0).map (fun x => (f, l, x.1, x.2))
noncomputable def qh_file (v : qv_T) (f : Nat) (t : List Nat) : List (Nat × Nat × Nat × Nat) := qh_sc t (qh_g v f t) (t.length + 1) 0 0 0
theorem qh_lt6 {t : List Nat} {b n : Nat} (ht : ∀ x, x ∈ t → x < 7) (h : qh_ok t b n) (i : Nat) (hi : i < n) : t.getD (b + i) 0 < 6 := by
  have h1 := h.1
  have h2 := h.2 i hi
  have h3 : t.getD (b + i) 0 < 7 := qc_get_in ht (b + i) (by omega)
  omega
theorem qh_lnT {t : List Nat} {b n : Nat} (h : qh_ok t b n) (i : Nat) (hi : i + 2 < n) : qt_T t (t.getD (b + i) 0) (t.getD (b + (i + 1)) 0) (t.getD (b + (i + 2)) 0) := by
  have h1 := h.1
  exact ⟨b + i, by omega, rfl, rfl, rfl⟩
theorem qh_file_nil {v : qv_T} (hv : qv_ok v) (f : Nat) {t : List Nat} (ht : ∀ x, x ∈ t → x < 7) (hc : ¬ v.2.1.2.2.2 (qt_T t)) : qh_file v f t = [] := by
  unfold qh_file
  refine qh_sc_nil t _ ?_ (t.length + 1) 0 0 0 (by omega) (Nat.le_refl _) (fun j h1 h2 => absurd h2 (by omega))
  intro l b n hok
  unfold qh_g
  rw [qh_ln_0]
  · rfl
  · intro p hp
    apply qh_E_0
    intro j _
    exact qv_none hv (c := fun i => t.getD (b + i) 0) (T := qt_T t) (fun i hi => qh_lnT hok i hi) (fun i hi => qh_lt6 ht hok i hi) hc hp
theorem qh_ln_f (E : Nat → Int64) (n : Nat) : ∀ m m' p, n + 1 ≤ p + m → n + 1 ≤ p + m' → qh_ln E n m p = qh_ln E n m' p
  | 0, 0, _, _, _ => rfl
  | 0, m' + 1, p, h, _ => by
    unfold qh_ln
    rw [if_neg (by omega)]
  | m + 1, 0, p, _, h => by
    unfold qh_ln
    rw [if_neg (by omega)]
  | m + 1, m' + 1, p, h, h' => by
    unfold qh_ln
    split
    · split
      · exact qh_ln_f E n m m' (p + 1) (by omega) (by omega)
      · rename_i e _
        have a : p + 1 ≤ (if p < e then e else p + 1) := by split <;> omega
        rw [qh_ln_f E n m m' _ (by omega) (by omega)]
    · rfl
end
section
/-! the class's nodes: each holds a part, its own row and its children's places agree -/
section
variable {V : Type} (lf : Nat → Nat → V) (un : Nat → Nat → Nat → V → V) (bi : Nat → V → V → V) (big : V → Prop)
def qn_lc (k a b l r : Int32) (D : Nat → V) (n : Nat) (v : V) : Prop := ∃ k' l' r' : Nat, k = nI k' ∧ l = nI l' ∧ r = nI r' ∧ l' ≤ n ∧ r' ≤ n ∧
  ((k' = 2 ∧ ∃ a' : Nat, a = nI a' ∧ 1 ≤ a' ∧ a' ≤ 63 ∧ v = lf 2 a') ∨ ((k' = 10 ∨ k' = 11 ∨ k' = 12) ∧ v = lf k' 0) ∨ ((k' = 6 ∨ k' = 7) ∧ l' < n ∧ v = un k' 0 0 (D l')) ∨
   (k' = 9 ∧ l' < n ∧ ∃ a' b' : Nat, a = nI a' ∧ b = nI b' ∧ a' ≤ b' ∧ b' ≤ 3 ∧ 1 ≤ b' ∧ v = un 9 a' b' (D l')) ∨ ((k' = 5 ∨ k' = 8 ∨ k' = 13) ∧ l' < n ∧ r' < n ∧ v = bi k' (D l') (D r')))
def qn_ok (K A B L R : Nat → Int32) (m : Nat) (D : Nat → V) : Prop := ∀ n, n < m → qn_lc lf un bi (K n) (A n) (B n) (L n) (R n) D n (D n)
def qn_fr (D : Nat → V) (m : Nat) (x : Int32) (o : Option V) : Prop := match o with
  | none => x = -1
  | some v => ∃ j, j < m ∧ x = nI j ∧ D j = v
def qn_D (D : Nat → V) (m : Nat) (v : V) : Nat → V := fun j => if j = m then v else D j
theorem qn_D_s (D : Nat → V) (m : Nat) (v : V) : qn_D D m v m = v := if_pos rfl
theorem qn_D_n (D : Nat → V) {m j : Nat} (v : V) (h : j ≠ m) : qn_D D m v j = D j := if_neg h
theorem qn_lc_cg {k a b l r : Int32} {D D' : Nat → V} {n : Nat} {v : V} (hD : ∀ j, j < n → D' j = D j) (h : qn_lc lf un bi k a b l r D n v) : qn_lc lf un bi k a b l r D' n v := by
  obtain ⟨k', l', r', h1, h2, h3, h4, h5, h6⟩ := h
  refine ⟨k', l', r', h1, h2, h3, h4, h5, ?_⟩
  rcases h6 with h | h | ⟨h, h', e⟩ | ⟨h, h', a', b', e1, e2, e3, e4, e5, e6⟩ | ⟨h, h', h'', e⟩
  · exact Or.inl h
  · exact Or.inr (Or.inl h)
  · exact Or.inr (Or.inr (Or.inl ⟨h, h', by rw [hD l' h']; exact e⟩))
  · exact Or.inr (Or.inr (Or.inr (Or.inl ⟨h, h', a', b', e1, e2, e3, e4, e5, by rw [hD l' h']; exact e6⟩)))
  · exact Or.inr (Or.inr (Or.inr (Or.inr ⟨h, h', h'', by rw [hD l' h', hD r' h'']; exact e⟩)))
theorem qn_add {K A B L R : Nat → Int32} {m : Nat} {D : Nat → V} (h : qn_ok lf un bi K A B L R m D) {k a b l r : Int32} {v : V} (hn : qn_lc lf un bi k a b l r D m v) : qn_ok lf un bi (upd K m k) (upd A m a) (upd B m b) (upd L m l) (upd R m r) (m + 1) (qn_D D m v) := by
  intro n hn'
  by_cases z : n = m
  · subst z
    rw [pk_us, pk_us, pk_us, pk_us, pk_us, qn_D_s]
    exact qn_lc_cg lf un bi (fun j hj => qn_D_n D v (by omega)) hn
  · rw [pk_un z, pk_un z, pk_un z, pk_un z, pk_un z, qn_D_n D v z]
    exact qn_lc_cg lf un bi (fun j hj => qn_D_n D v (by omega)) (h n (by omega))
theorem qn_fr_up {D : Nat → V} {m : Nat} {x : Int32} {o : Option V} (v : V) (h : qn_fr D m x o) : qn_fr (qn_D D m v) (m + 1) x o := by
  match o, h with
  | none, h => exact h
  | some w, ⟨j, h1, h2, h3⟩ => exact ⟨j, by omega, h2, by rw [qn_D_n D v (by omega)]; exact h3⟩
theorem qn_fr_new (D : Nat → V) (m : Nat) (v : V) : qn_fr (qn_D D m v) (m + 1) (nI m) (some v) := ⟨m, by omega, rfl, qn_D_s D m v⟩
theorem qn_big (D : Nat → V) (m : Nat) (v : V) : (∃ n, n < m + 1 ∧ big (qn_D D m v n)) ↔ (∃ n, n < m ∧ big (D n)) ∨ big v := by
  constructor
  · rintro ⟨n, h1, h2⟩
    by_cases z : n = m
    · subst z; rw [qn_D_s] at h2; exact Or.inr h2
    · rw [qn_D_n D v z] at h2; exact Or.inl ⟨n, by omega, h2⟩
  · rintro (⟨n, h1, h2⟩ | h)
    · exact ⟨n, by omega, by rw [qn_D_n D v (by omega)]; exact h2⟩
    · exact ⟨m, by omega, by rw [qn_D_s]; exact h⟩
/-- a property that the algebra keeps holds of each node's part -/
theorem qn_all {K A B L R : Nat → Int32} {m : Nat} {D : Nat → V} (h : qn_ok lf un bi K A B L R m D) {P : V → Prop} (hl : ∀ k a, (k = 2 → 1 ≤ a ∧ a ≤ 63) → P (lf k a)) (hu : ∀ k a b x, P x → P (un k a b x)) (hb : ∀ k x y, P x → P y → P (bi k x y)) : ∀ n, n < m → P (D n) := by
  intro n
  induction n using Nat.strongRecOn with
  | ind n ih =>
    intro hn
    obtain ⟨k', l', r', h1, h2, h3, h4, h5, h6⟩ := h n hn
    rcases h6 with ⟨_, a', _, e1, e2, e⟩ | ⟨hk, e⟩ | ⟨_, hl', e⟩ | ⟨_, hl', a', b', _, _, _, _, _, e⟩ | ⟨_, hl', hr', e⟩
    · rw [e]; exact hl 2 a' (fun _ => ⟨e1, e2⟩)
    · rw [e]; exact hl k' 0 (fun z => by omega)
    · rw [e]; exact hu _ _ _ _ (ih l' hl' (by omega))
    · rw [e]; exact hu _ _ _ _ (ih l' hl' (by omega))
    · rw [e]; exact hb _ _ _ (ih l' hl' (by omega)) (ih r' hr' (by omega))
end
end
section
/-! trigrams of a text; lists and bits of a segment -/
def qt_g (t : List Nat) (i : Nat) : Option Nat := if i + 2 < t.length ∧ t.getD i 0 < 6 ∧ t.getD (i + 1) 0 < 6 ∧ t.getD (i + 2) 0 < 6 then some (36 * t.getD i 0 + 6 * t.getD (i + 1) 0 + t.getD (i + 2) 0) else none
theorem qt_g_lt {t : List Nat} {i c : Nat} (h : qt_g t i = some c) : c < 216 ∧ i + 2 < t.length := by
  unfold qt_g at h
  split at h
  · rename_i z
    cases h
    omega
  · exact nomatch h
theorem qt_g_T {t : List Nat} {a b c : Nat} (ha : a < 6) (hb : b < 6) (hc : c < 6) : qt_T t a b c ↔ ∃ i, qt_g t i = some (36 * a + 6 * b + c) := by
  constructor
  · rintro ⟨i, h1, h2, h3, h4⟩
    refine ⟨i, ?_⟩
    unfold qt_g
    rw [h2, h3, h4, if_pos ⟨h1, ha, hb, hc⟩]
  · rintro ⟨i, h⟩
    unfold qt_g at h
    split at h
    · rename_i z
      have e := Option.some.inj h
      exact ⟨i, z.1, by omega, by omega, by omega⟩
    · exact nomatch h
theorem qt_g_none {t : List Nat} {i : Nat} (h : t.length ≤ i + 2) : qt_g t i = none := by
  unfold qt_g
  rw [if_neg (by omega)]
def qt_any (t : List Nat) (m c : Nat) : Bool := (List.range m).any (fun i => qt_g t i == some c)
theorem qt_any_iff {t : List Nat} {m c : Nat} : qt_any t m c = true ↔ ∃ i, i < m ∧ qt_g t i = some c := by
  unfold qt_any
  rw [List.any_eq_true]
  constructor
  · rintro ⟨i, h1, h2⟩
    exact ⟨i, List.mem_range.mp h1, by simpa using h2⟩
  · rintro ⟨i, h1, h2⟩
    exact ⟨i, List.mem_range.mpr h1, by simpa using h2⟩
theorem qt_any_all {t : List Nat} {m c : Nat} (hm : t.length ≤ m + 2) : qt_any t m c = qt_any t t.length c := by
  have h : qt_any t m c = true ↔ qt_any t t.length c = true := by
    rw [qt_any_iff, qt_any_iff]
    constructor
    · rintro ⟨i, h1, h2⟩; exact ⟨i, by have := (qt_g_lt h2).2; omega, h2⟩
    · rintro ⟨i, h1, h2⟩; exact ⟨i, by have := (qt_g_lt h2).2; omega, h2⟩
  cases x : qt_any t m c <;> cases y : qt_any t t.length c
  · rfl
  · rw [x, y] at h; exact absurd (h.mpr rfl) (by decide)
  · rw [x, y] at h; exact absurd (h.mp rfl) (by decide)
  · rfl
theorem qt_any_s (t : List Nat) (m c : Nat) : qt_any t (m + 1) c = (qt_any t m c || (qt_g t m == some c)) := by
  unfold qt_any
  rw [List.range_succ, List.any_append]
  simp
def qt_new (t : List Nat) (k : Nat) : Bool := match qt_g t k with
  | none => false
  | some c => !qt_any t k c
def qt_n (t : List Nat) : Nat → Nat
  | 0 => 0
  | k + 1 => qt_n t k + (if qt_new t k = true then 1 else 0)
/-- how many different trigrams a text has -/
def qt_cnt (t : List Nat) : Nat := qt_n t t.length
theorem qt_n_all {t : List Nat} : ∀ m, t.length ≤ m + 2 → m ≤ t.length → qt_n t m = qt_cnt t := by
  intro m h1 h2
  have : ∀ k, m ≤ k → qt_n t k = qt_n t m := by
    intro k hk
    induction hk with
    | refl => rfl
    | step hk ih =>
      rename_i k
      have hk' : m ≤ k := hk
      have e : qt_new t k = false := by unfold qt_new; rw [qt_g_none (by omega)]
      show qt_n t k + _ = _
      rw [e, ih]
      rfl
  exact (this t.length h2).symm
/-! sums -/
def qs_sum (f : Nat → Nat) : Nat → Nat
  | 0 => 0
  | n + 1 => qs_sum f n + f n
theorem qs_cg {f g : Nat → Nat} : ∀ n, (∀ i, i < n → f i = g i) → qs_sum f n = qs_sum g n
  | 0, _ => rfl
  | n + 1, h => by
    show qs_sum f n + f n = qs_sum g n + g n
    rw [qs_cg n (fun i hi => h i (by omega)), h n (by omega)]
theorem qs_upd {f g : Nat → Nat} {j δ : Nat} : ∀ n, j < n → (∀ i, i < n → i ≠ j → g i = f i) → g j = f j + δ → qs_sum g n = qs_sum f n + δ
  | 0, h, _, _ => absurd h (by omega)
  | n + 1, h, h1, h2 => by
    show qs_sum g n + g n = qs_sum f n + f n + δ
    by_cases z : j = n
    · subst z
      rw [qs_cg j (fun i hi => h1 i (by omega) (by omega)), h2]
      omega
    · rw [qs_upd n (by omega) (fun i hi => h1 i (by omega)) h2, h1 n (by omega) (fun e => z e.symm)]
      omega
theorem qs_add (f : Nat → Nat) (n : Nat) : ∀ m, qs_sum f (n + m) = qs_sum f n + qs_sum (fun i => f (n + i)) m
  | 0 => rfl
  | m + 1 => by
    show qs_sum f (n + m) + f (n + m) = _ + (_ + _)
    rw [qs_add f n m]
    dsimp only
    omega
theorem qs_blk (f : Nat → Nat) (k : Nat) : ∀ n, qs_sum f (k * n) = qs_sum (fun a => qs_sum (fun c => f (k * a + c)) k) n
  | 0 => rfl
  | n + 1 => by
    rw [Nat.mul_succ, qs_add, qs_blk f k n]
    rfl
theorem qs_0 {f : Nat → Nat} : ∀ n, (∀ i, i < n → f i = 0) → qs_sum f n = 0
  | 0, _ => rfl
  | n + 1, h => by
    show qs_sum f n + f n = 0
    rw [qs_0 n (fun i hi => h i (by omega)), h n (by omega)]
theorem qs_86 {f : Nat → Nat} (h6 : f 6 = 0) (h7 : f 7 = 0) : qs_sum f 8 = qs_sum f 6 := by
  show qs_sum f 6 + f 6 + f 7 = _
  omega
def qt_68 (c : Nat) : Nat := 64 * (c / 36) + 8 * (c / 6 % 6) + c % 6
/-- a sum over the class's codes is that over the reference's -/
theorem qs_conv (g : Nat → Nat) (h : ∀ a b c, a < 8 → b < 8 → c < 8 → 6 ≤ a ∨ 6 ≤ b ∨ 6 ≤ c → g (64 * a + 8 * b + c) = 0) : qs_sum g 512 = qs_sum (fun c => g (qt_68 c)) 216 := by
  have e1 : qs_sum g 512 = qs_sum (fun a => qs_sum (fun b => qs_sum (fun c => g (64 * a + 8 * b + c)) 6) 6) 6 := by
    rw [show (512 : Nat) = 64 * 8 from rfl, qs_blk g 64 8]
    have hb : ∀ a, a < 8 → qs_sum (fun c => g (64 * a + c)) 64 = qs_sum (fun b => qs_sum (fun c => g (64 * a + 8 * b + c)) 6) 6 := by
      intro a ha
      rw [show (64 : Nat) = 8 * 8 from rfl, qs_blk _ 8 8]
      have hc : ∀ b, b < 8 → qs_sum (fun c => g (8 * 8 * a + (8 * b + c))) 8 = qs_sum (fun c => g (64 * a + 8 * b + c)) 6 := by
        intro b hb
        rw [qs_86]
        · apply qs_cg; intro c hc; rw [show 8 * 8 * a + (8 * b + c) = 64 * a + 8 * b + c by omega]
        · rw [show 8 * 8 * a + (8 * b + 6) = 64 * a + 8 * b + 6 by omega]; exact h a b 6 ha hb (by omega) (by omega)
        · rw [show 8 * 8 * a + (8 * b + 7) = 64 * a + 8 * b + 7 by omega]; exact h a b 7 ha hb (by omega) (by omega)
      rw [qs_cg 8 hc, qs_86]
      · exact qs_0 6 (fun c hc => h a 6 c ha (by omega) (by omega) (by omega))
      · exact qs_0 6 (fun c hc => h a 7 c ha (by omega) (by omega) (by omega))
    rw [qs_cg 8 hb, qs_86]
    · exact qs_0 6 (fun b hb => qs_0 6 (fun c hc => h 6 b c (by omega) (by omega) (by omega) (by omega)))
    · exact qs_0 6 (fun b hb => qs_0 6 (fun c hc => h 7 b c (by omega) (by omega) (by omega) (by omega)))
  rw [e1, show (216 : Nat) = 36 * 6 from rfl, qs_blk _ 36 6]
  apply qs_cg
  intro a ha
  show _ = qs_sum (fun c => g (qt_68 (36 * a + c))) 36
  rw [show (36 : Nat) = 6 * 6 from rfl, qs_blk _ 6 6]
  apply qs_cg
  intro b hb
  apply qs_cg
  intro c hc
  show g (64 * a + 8 * b + c) = g (qt_68 (6 * 6 * a + (6 * b + c)))
  congr 1
  unfold qt_68
  omega
/-! lists and bits -/
def ql_c (d : Nat) : Nat := 2 * Nat.log2 d + 1
def qt_P (c : Nat) (t : List Nat) : Bool := qt_any t t.length c
def ql_b (P : List Nat → Bool) : List qf_D → Nat → Nat
  | [], _ => 0
  | x :: l, p => if P x.2.2.2 = true then ql_c (x.1 + 1 - p) + ql_b P l (x.1 + 1) else ql_b P l p
def ql_p (P : List Nat → Bool) : List qf_D → Nat → Nat
  | [], p => p
  | x :: l, p => if P x.2.2.2 = true then ql_p P l (x.1 + 1) else ql_p P l p
theorem ql_b_1 (P : List Nat → Bool) (x : qf_D) : ∀ (l : List qf_D) (p : Nat), ql_b P (l ++ [x]) p = ql_b P l p + (if P x.2.2.2 = true then ql_c (x.1 + 1 - ql_p P l p) else 0)
  | [], p => by simp [ql_b, ql_p]
  | y :: l, p => by
    rw [List.cons_append]
    unfold ql_b ql_p
    split
    · rw [ql_b_1 P x l]; omega
    · rw [ql_b_1 P x l]
theorem ql_p_1 (P : List Nat → Bool) (x : qf_D) : ∀ (l : List qf_D) (p : Nat), ql_p P (l ++ [x]) p = (if P x.2.2.2 = true then x.1 + 1 else ql_p P l p)
  | [], p => by simp [ql_p]
  | y :: l, p => by
    rw [List.cons_append]
    unfold ql_p
    split
    · rw [ql_p_1 P x l]
    · rw [ql_p_1 P x l]
theorem ql_p_le (P : List Nat → Bool) : ∀ (l : List qf_D) (p m : Nat), p ≤ m → (∀ x, x ∈ l → x.1 < m) → ql_p P l p ≤ m
  | [], _, _, h, _ => h
  | x :: l, p, m, h, hl => by
    unfold ql_p
    split
    · exact ql_p_le P l _ m (by have := hl x List.mem_cons_self; omega) (fun y hy => hl y (List.mem_cons_of_mem _ hy))
    · exact ql_p_le P l _ m h (fun y hy => hl y (List.mem_cons_of_mem _ hy))
theorem ql_b_cg {P Q : List Nat → Bool} (h : ∀ t, P t = Q t) (l : List qf_D) (p : Nat) : ql_b P l p = ql_b Q l p := by
  have : P = Q := funext h
  rw [this]
theorem ql_b_0 {P : List Nat → Bool} (h : ∀ t, P t = false) : ∀ (l : List qf_D) (p : Nat), ql_b P l p = 0
  | [], _ => rfl
  | x :: l, p => by
    unfold ql_b
    rw [h]
    exact ql_b_0 h l p
theorem ql_c_le {d : Nat} (h : d < 2 ^ 31) : ql_c d ≤ 63 := by
  unfold ql_c
  by_cases z : d = 0
  · subst z; decide
  · have := (Nat.log2_lt z).mpr h
    omega
theorem ql_b_le (P : List Nat → Bool) : ∀ (l : List qf_D) (p : Nat), (∀ x, x ∈ l → x.1 + 1 < 2 ^ 31) → ql_b P l p ≤ 63 * l.length
  | [], _, _ => by simp [ql_b]
  | x :: l, p, h => by
    have h1 := h x List.mem_cons_self
    have h2 : ∀ q, ql_b P l q ≤ 63 * l.length := fun q => ql_b_le P l q (fun y hy => h y (List.mem_cons_of_mem _ hy))
    have h3 := ql_c_le (d := x.1 + 1 - p) (by omega)
    have h4 := h2 (x.1 + 1)
    have h5 := h2 p
    unfold ql_b
    rw [List.length_cons]
    split <;> omega
def ql_docs (docs : List qf_D) (segs : List Nat) (k : Nat) : List qf_D := (docs.drop (qd_st k segs)).take (segs.getD k 0)
def ql_bits (l : List qf_D) : Nat := qs_sum (fun c => ql_b (qt_P c) l 0) 216
def ql_lists (l : List qf_D) : Nat := qs_sum (fun c => if ql_b (qt_P c) l 0 = 0 then 0 else 1) 216
theorem ql_c_pos (d : Nat) : 1 ≤ ql_c d := by unfold ql_c; omega
end
section
/-! sets of rows as each side holds them -/
def qr_oadd (o : Option (List (List Nat))) (r : List Nat) : Option (List (List Nat)) := match o with
  | none => none
  | some l => if r ∈ l then some l else if l.length < 8 then some (l ++ [r]) else none
def qr_oall (o : Option (List (List Nat))) (rs : List (List Nat)) : Option (List (List Nat)) := rs.foldl qr_oadd o
theorem qr_oall_none : ∀ rs, qr_oall none rs = none
  | [] => rfl
  | _ :: rs => qr_oall_none rs
theorem qr_oall_some : ∀ (rs l : List (List Nat)), l.length ≤ 8 → qr_oall (some l) rs = if (qr_all l rs).length ≤ 8 then some (qr_all l rs) else none
  | [], l, h => by
    show some l = if l.length ≤ 8 then some l else none
    rw [if_pos h]
  | r :: rs, l, h => by
    show qr_oall (qr_oadd (some l) r) rs = if (qr_all (qr_add l r) rs).length ≤ 8 then some (qr_all (qr_add l r) rs) else none
    by_cases z : r ∈ l
    · have e1 : qr_oadd (some l) r = some l := if_pos z
      have e2 : qr_add l r = l := if_pos z
      rw [e1, e2]
      exact qr_oall_some rs l h
    · have e2 : qr_add l r = l ++ [r] := if_neg z
      rw [e2]
      by_cases y : l.length < 8
      · have e1 : qr_oadd (some l) r = some (l ++ [r]) := by
          show (if r ∈ l then some l else if l.length < 8 then some (l ++ [r]) else none) = _
          rw [if_neg z, if_pos y]
        rw [e1]
        exact qr_oall_some rs (l ++ [r]) (by simp; omega)
      · have e1 : qr_oadd (some l) r = none := by
          show (if r ∈ l then some l else if l.length < 8 then some (l ++ [r]) else none) = _
          rw [if_neg z, if_neg y]
        rw [e1, qr_oall_none, if_neg]
        have := qr_len_all rs (l ++ [r])
        simp at this
        omega
theorem qr_oall_app (o : Option (List (List Nat))) (a b : List (List Nat)) : qr_oall o (a ++ b) = qr_oall (qr_oall o a) b := by unfold qr_oall; rw [List.foldl_append]
def qr_rw (r : List Nat) : Prop := r.length ≤ 7 ∧ ∀ x, x ∈ r → x < 6
def qx_set (rows : Nat → Int64) (rc : Nat → Int32) (s : Nat) (o : Option (List (List Nat))) : Prop := match o with
  | none => rc s = 9
  | some l => l.length ≤ 8 ∧ (∀ r, r ∈ l → qr_rw r) ∧ rc s = nI l.length ∧ ∀ k r, l[k]? = some r → rows (s * 8 + k) = lN (qc_x r)
theorem qx_set_cg {rows rows' : Nat → Int64} {rc rc' : Nat → Int32} {s : Nat} {o : Option (List (List Nat))} (h : qx_set rows rc s o) (h1 : rc' s = rc s) (h2 : ∀ k, k < 8 → rows' (s * 8 + k) = rows (s * 8 + k)) : qx_set rows' rc' s o := by
  match o, h with
  | none, h => exact h1.trans h
  | some l, ⟨a, b, c, d⟩ =>
    refine ⟨a, b, h1.trans c, fun k r hk => ?_⟩
    have : k < l.length := by
      rcases Nat.lt_or_ge k l.length with z | z
      · exact z
      · rw [List.getElem?_eq_none z] at hk; exact nomatch hk
    rw [h2 k (by omega)]
    exact d k r hk
theorem qr_get_lt {α : Type} {l : List α} {k : Nat} {r : α} (h : l[k]? = some r) : k < l.length := by
  rcases Nat.lt_or_ge k l.length with z | z
  · exact z
  · rw [List.getElem?_eq_none z] at h; exact nomatch h
theorem qr_get_in {α : Type} {l : List α} {k : Nat} {r : α} (h : l[k]? = some r) : r ∈ l := List.mem_of_getElem? h
def qy_buf (rows : Nat → Int32) (rc : Int32) (l : List (List Nat)) : Prop := (∀ r, r ∈ l → qr_rw r) ∧ rc = nI l.length ∧ ∀ k r, l[k]? = some r → rows k = nI (qc_y r)
def qy_set (sets many : Nat → Int32) (s : Nat) (l : List (List Nat)) : Prop := l.length ≤ 8 ∧ (∀ r, r ∈ l → qr_rw r) ∧ many s = nI l.length ∧ ∀ k r, l[k]? = some r → sets (8 * s + k) = nI (qc_y r)
theorem qc_y_i {r : List Nat} (h : qr_rw r) : qc_y r < 559872 := qc_y_lt 7 r h.2 h.1
theorem qc_y_ii {r s : List Nat} (hr : qr_rw r) (hs : qr_rw s) : nI (qc_y r) = nI (qc_y s) ↔ r = s := by
  have a := qc_y_i hr
  have b := qc_y_i hs
  rw [nI_eq (by omega) (by omega)]
  exact ⟨fun h => qc_y_inj hr.2 hs.2 h, fun h => by rw [h]⟩
theorem qc_x_ii {r s : List Nat} (hr : qr_rw r) (hs : qr_rw s) : lN (qc_x r) = lN (qc_x s) ↔ r = s := by
  have a := qc_x_lt r hr.2 hr.1
  have b := qc_x_lt s hs.2 hs.1
  rw [pk_lEQ (by omega) (by omega)]
  exact ⟨fun h => qc_x_inj hr.2 hs.2 hr.1 hs.1 h, fun h => by rw [h]⟩
end
section
/-! the class: texts are copied, changes are looked up, documents are made -/
theorem qf_t_get {t : List Nat} (h : qf_t t) {i : Nat} (hi : i < t.length) : t.getD i 0 < 7 := qc_get_in h.2 i hi
theorem ys_neg' (i : Nat) (h : i < 2 ^ 31) : (-1 : Int32) ≤ nI i := by
  rw [Int32.le_iff_toInt_le, nI_toInt h]
  have b : (-1 : Int32).toInt = -1 := by decide
  omega
section
variable {xwc xdc xdm xsc xtc xnc xmc xbr xwt : Int32} {xch xtl xwf xdn xdf xdl xss xtk xta xtb xnk xna xnb xnl xnr xns xfa xfs xfi xrc xcl xhd xhi xwo : Nat → Int32} {xrw xre : Nat → Int64}
theorem xs_ix (s i : Nat) : nI s * 40 + nI i = nI (s * 40 + i) := by
  rw [show (40 : Int32) = nI 40 from rfl, pk_mul, nI_add]
theorem xs_ixc {s i : Nat} (h : s * 40 + i < 2 ^ 31) : (nI s * 40 + nI i).toNatClampNeg = s * 40 + i := by
  rw [xs_ix]; exact nI_clamp h
theorem xs_nm1 {j : Nat} (h : j < 2 ^ 31) : ¬ nI j = -1 := by
  intro e
  have a := nI_toInt h
  rw [e] at a
  have b : (-1 : Int32).toInt = -1 := by decide
  omega
theorem xs_cp1 (to fr L : Nat) (hto : to < 91) (hfr : fr < 91) (hL : L ≤ 40) (ch0 : Nat → Int32) (post : SX → Prop)
  (hp : ∀ ch' : Nat → Int32, (∀ j, j < L → ch' (to * 40 + j) = ch0 (fr * 40 + j)) → (∀ j, j < to * 40 ∨ to * 40 + L ≤ j → ch' j = ch0 j) → post (xwc, xdc, xdm, xsc, xtc, xnc, xmc, xbr, xwt, ch', xtl, xwf, xdn, xdf, xdl, xss, xtk, xta, xtb, xnk, xna, xnb, xnl, xnr, xns, xfa, xfs, xfi, xrw, xrc, xcl, xhd, xre, xhi, xwo)) :
  ∀ (n i : Nat) (ch : Nat → Int32), i ≤ L → L - i < n → (∀ j, j < i → ch (to * 40 + j) = ch0 (fr * 40 + j)) → (∀ j, j < to * 40 ∨ to * 40 + i ≤ j → ch j = ch0 j) → wX_copyText_17 post (nI to) (nI fr) (nI L) xwc xdc xdm xsc xtc xnc xmc xbr xwt n (nI i) ch xtl xwf xdn xdf xdl xss xtk xta xtb xnk xna xnb xnl xnr xns xfa xfs xfi xrw xrc xcl xhd xre xhi xwo := by
  intro n
  induction n with
  | zero => intro i ch h1 h2; omega
  | succ n ih =>
    intro i ch h1 h2 h3 h4
    refine pk_le L i (fun hle => ?_) (fun hlt => ?_)
    · have e : i = L := by omega
      subst e
      exact hp ch h3 h4
    · refine ⟨pk_in (fr * 40 + i) 3640 (by omega) (xs_ix fr i), pk_in (to * 40 + i) 3640 (by omega) (xs_ix to i), fun ch1 hch x hx => ?_⟩
      rw [hx, nI_1]
      rw [xs_ixc (by omega), xs_ixc (by omega)] at hch
      refine ih (i + 1) ch1 (by omega) (by omega) ?_ ?_
      · intro j hj
        rw [hch]
        by_cases z : j = i
        · subst z
          rw [pk_us]
          exact h4 _ (by omega)
        · rw [pk_un (by omega)]
          exact h3 j (by omega)
      · intro j hj
        rw [hch, pk_un (by omega)]
        exact h4 j (by omega)
/-- a text goes to another slot: that slot has it then, the others keep theirs -/
theorem xs_copy (to fr : Nat) (hto : to < 91) (hfr : fr < 91) (o : qf_X) (ho : qf_o o) (hs : qx_slot xch xtl fr o) (post : SX → Prop)
  (hp : ∀ ch' tl' : Nat → Int32, qx_slot ch' tl' to o → (∀ s o', s ≠ to → qf_o o' → qx_slot xch xtl s o' → qx_slot ch' tl' s o') → post (xwc, xdc, xdm, xsc, xtc, xnc, xmc, xbr, xwt, ch', tl', xwf, xdn, xdf, xdl, xss, xtk, xta, xtb, xnk, xna, xnb, xnl, xnr, xns, xfa, xfs, xfi, xrw, xrc, xcl, xhd, xre, xhi, xwo)) : wpX_copyText post (xwc, xdc, xdm, xsc, xtc, xnc, xmc, xbr, xwt, xch, xtl, xwf, xdn, xdf, xdl, xss, xtk, xta, xtb, xnk, xna, xnb, xnl, xnr, xns, xfa, xfs, xfi, xrw, xrc, xcl, xhd, xre, xhi, xwo) (nI to) (nI fr) := by
  have ct : (nI to).toNatClampNeg = to := nI_clamp (by omega)
  have cf : (nI fr).toNatClampNeg = fr := nI_clamp (by omega)
  match o, ho, hs, hp with
  | none, ho, hs, hp =>
    have e : xtl (nI fr).toNatClampNeg = -1 := by rw [cf]; exact hs
    refine And.intro (pk_in fr 91 hfr) (nm_r e (And.intro (pk_in to 91 hto) (nm_e ⟨1, ?_⟩)))
    rw [ct]
    refine br_t (by decide) (hp _ _ ?_ ?_)
    · exact pk_us
    · intro s o' hs' ho' h
      match o', h with
      | none, h => exact (pk_un hs').trans h
      | some t, h => exact ⟨(pk_un hs').trans h.1, h.2⟩
  | some t, ho, hs, hp =>
    have hl : t.length ≤ 40 := (ho t rfl).1
    have e : xtl (nI fr).toNatClampNeg = nI t.length := by rw [cf]; exact hs.1
    refine And.intro (pk_in fr 91 hfr) (nm_r e (And.intro (pk_in to 91 hto) (nm_e ⟨t.length + 1, ?_⟩)))
    rw [ct]
    refine xs_cp1 to fr t.length hto hfr hl xch post ?_ (t.length + 1) 0 xch (by omega) (by omega) (fun j hj => absurd hj (by omega)) (fun j hj => rfl)
    intro ch' h1 h2
    refine hp ch' _ ⟨pk_us, fun i hi => ?_⟩ ?_
    · rw [h1 i hi]; exact hs.2 i hi
    · intro s o' hs' ho' h
      match o', ho', h with
      | none, _, h => exact (pk_un hs').trans h
      | some t', ho', h =>
        have hl' : t'.length ≤ 40 := (ho' t' rfl).1
        refine ⟨(pk_un hs').trans h.1, fun i hi => ?_⟩
        rw [h2 _ (by omega)]
        exact h.2 i hi
theorem xs_isch1 (wt : List (Nat × qf_X)) (f : Nat) (hf : f < 10) (hl : wt.length ≤ 6) (hw : ∀ k c, wt[k]? = some c → xwf k = nI c.1 ∧ c.1 < 10) (post : Int32 → Prop) (hc : xwc = nI wt.length) :
  ∀ (n i : Nat), i ≤ wt.length → wt.length - i < n → post (if f ∈ qd_ch (wt.drop i) then 1 else 0) → wX_isChanged_2 post (nI f) xwc xdc xdm xsc xtc xnc xmc xbr xwt xch xtl xwf xdn xdf xdl xss xtk xta xtb xnk xna xnb xnl xnr xns xfa xfs xfi xrw xrc xcl xhd xre xhi xwo n (nI i) := by
  intro n
  induction n with
  | zero => intro i h1 h2; omega
  | succ n ih =>
    intro i h1 h2 h3
    refine pk_le wt.length i (fun hle => ?_) (fun hlt => ?_) hc
    · rw [List.drop_of_length_le hle] at h3
      exact h3
    · have hg : wt[i]? = some wt[i] := List.getElem?_eq_getElem hlt
      obtain ⟨a1, a2⟩ := hw i _ hg
      have hd : wt.drop i = wt[i] :: wt.drop (i + 1) := List.drop_eq_getElem_cons hlt
      have e : xwf (nI i).toNatClampNeg = nI wt[i].1 := by rw [nI_clamp (by omega)]; exact a1
      rw [hd] at h3
      refine ⟨pk_in i 6 (by omega), pk_eq wt[i].1 f (fun he => ?_) (fun hne => ?_) e⟩
      · rw [if_pos (by unfold qd_ch; rw [List.map_cons]; exact List.mem_cons.mpr (Or.inl he.symm))] at h3
        exact h3
      · intro x hx
        rw [hx, nI_1]
        refine ih (i + 1) (by omega) (by omega) ?_
        have : (f ∈ qd_ch (wt[i] :: wt.drop (i + 1))) ↔ f ∈ qd_ch (wt.drop (i + 1)) := by
          simp only [qd_ch, List.map_cons, List.mem_cons]
          exact ⟨fun z => z.elim (fun z => absurd z.symm hne) id, Or.inr⟩
        simp only [this] at h3
        exact h3
theorem xs_isch (wt : List (Nat × qf_X)) (f : Nat) (hf : f < 10) (hl : wt.length ≤ 6) (hw : ∀ k c, wt[k]? = some c → xwf k = nI c.1 ∧ c.1 < 10) (post : Int32 → Prop) (hc : xwc = nI wt.length) (hp : post (if f ∈ qd_ch wt then 1 else 0)) : wpX_isChanged post (xwc, xdc, xdm, xsc, xtc, xnc, xmc, xbr, xwt, xch, xtl, xwf, xdn, xdf, xdl, xss, xtk, xta, xtb, xnk, xna, xnb, xnl, xnr, xns, xfa, xfs, xfi, xrw, xrc, xcl, xhd, xre, xhi, xwo) (nI f) :=
  ⟨wt.length + 1, xs_isch1 wt f hf hl hw post hc (wt.length + 1) 0 (by omega) (by omega) hp⟩
theorem xs_isFile (f : Nat) (hf : f < 10) (post : Int32 → Prop) (hp : post 1) : wpX_isFile post (nI f) :=
  br_f (nI_pos (by omega)) (br_f (nI_ge (b := 10) hf (by decide)) hp)
theorem xs_isFile0 (x : Int32) (h : x < 0 ∨ 10 ≤ x) (post : Int32 → Prop) (hp : post 0) : wpX_isFile post x := by
  rcases h with h | h
  · exact br_t h hp
  · exact br_c (fun _ => hp) (fun _ => br_t h hp)
theorem xs_fileC (x : Int32) (post : Int32 → Prop) (h0 : (x < 0 ∨ 10 ≤ x) → post 0) (h1 : ∀ f, f < 10 → x = nI f → post 1) : wpX_isFile post x := by
  rcases pk_ix x (n := 10) (by decide) with z | z | ⟨f, hf, rfl⟩
  · exact xs_isFile0 x (Or.inl z) post (h0 (Or.inl z))
  · exact xs_isFile0 x (Or.inr z) post (h0 (Or.inr z))
  · exact xs_isFile f hf post (h1 f hf rfl)
theorem xs_there (f : Nat) (hf : f < 10) (o : qf_X) (ho : qf_o o) (hs : qx_slot xch xtl f o) (post : Int32 → Prop) (h0 : o = none → post 0) (h1 : ∀ t, o = some t → post 1) : wpX_isThere post (xwc, xdc, xdm, xsc, xtc, xnc, xmc, xbr, xwt, xch, xtl, xwf, xdn, xdf, xdl, xss, xtk, xta, xtb, xnk, xna, xnb, xnl, xnr, xns, xfa, xfs, xfi, xrw, xrc, xcl, xhd, xre, xhi, xwo) (nI f) := by
  unfold wpX_isThere
  refine xs_isFile f hf _ ?_
  have cf : (nI f).toNatClampNeg = f := nI_clamp (by omega)
  refine br_f (by decide) ⟨pk_in f 91 (by omega), ?_⟩
  rw [cf]
  match o, ho, hs, h0, h1 with
  | none, _, hs, h0, _ => exact br_t hs (h0 rfl)
  | some t, ho, hs, _, h1 =>
    refine br_f ?_ (h1 t rfl)
    rw [hs.1]
    exact xs_nm1 (by have := (ho t rfl).1; omega)
end
end
section
/-! the class: a sync -/
def qf_mx (f : Nat) (a b : Nat → qf_X) : Nat → qf_X := fun g => if g < f then a g else b g
theorem qf_mx_lt {f g : Nat} {a b : Nat → qf_X} (h : g < f) : qf_mx f a b g = a g := if_pos h
theorem qf_mx_ge {f g : Nat} {a b : Nat → qf_X} (h : ¬ g < f) : qf_mx f a b g = b g := if_neg h
def qf_pt (f : Nat) (o : qf_X) (b : Nat → qf_X) : Nat → qf_X := fun g => if g = f then o else b g
theorem qf_pt_s {f : Nat} {o : qf_X} {b : Nat → qf_X} : qf_pt f o b f = o := if_pos rfl
theorem qf_pt_n {f g : Nat} {o : qf_X} {b : Nat → qf_X} (h : ¬ g = f) : qf_pt f o b g = b g := if_neg h
def qx_F (now base : Nat → qf_X) (wt : List (Nat × qf_X)) (dr : List Nat) (ch tl : Nat → Int32) : Prop :=
  (∀ f, f < 10 → qx_slot ch tl f (now f)) ∧ (∀ f, f < 10 → qx_slot ch tl (10 + f) (base f)) ∧ (∀ k c, wt[k]? = some c → qx_slot ch tl (20 + k) c.2) ∧ qx_slot ch tl 26 (some dr)
def qx_Fo (now base : Nat → qf_X) (wt : List (Nat × qf_X)) (dr : List Nat) : Prop :=
  (∀ f, f < 10 → qf_o (now f)) ∧ (∀ f, f < 10 → qf_o (base f)) ∧ (wt.length ≤ 6 ∧ ∀ c, c ∈ wt → qf_o c.2) ∧ qf_t dr
def qx_dl (docs : List qf_D) (ch tl dn df dl : Nat → Int32) : Prop := ∀ d x, docs[d]? = some x → qx_doc ch tl dn df dl d x
def qx_kp (s0 : Nat) (ch tl ch' tl' : Nat → Int32) : Prop := ∀ s o', s ≠ s0 → qf_o o' → qx_slot ch tl s o' → qx_slot ch' tl' s o'
theorem qf_o_some {t : List Nat} (h : qf_t t) : qf_o (some t) := fun t' e => by cases e; exact h
theorem qf_o_none : qf_o none := fun _ e => nomatch e
theorem qx_F_hi {now base : Nat → qf_X} {wt : List (Nat × qf_X)} {dr : List Nat} {ch tl ch' tl' : Nat → Int32} {s0 : Nat} (ho : qx_Fo now base wt dr) (h : qx_F now base wt dr ch tl) (hk : qx_kp s0 ch tl ch' tl') (hs : 27 ≤ s0) : qx_F now base wt dr ch' tl' := by
  refine ⟨fun f hf => hk f _ (by omega) (ho.1 f hf) (h.1 f hf), fun f hf => hk _ _ (by omega) (ho.2.1 f hf) (h.2.1 f hf), fun k c hc => ?_, hk 26 _ (by omega) (qf_o_some ho.2.2.2) h.2.2.2⟩
  have := qr_get_lt hc
  have := ho.2.2.1.1
  exact hk _ _ (by omega) (ho.2.2.1.2 c (qr_get_in hc)) (h.2.2.1 k c hc)
theorem qx_F_base {now base : Nat → qf_X} {wt : List (Nat × qf_X)} {dr : List Nat} {ch tl ch' tl' : Nat → Int32} {f : Nat} (hf : f < 10) {o : qf_X} (ho : qx_Fo now base wt dr) (h : qx_F now base wt dr ch tl) (hk : qx_kp (10 + f) ch tl ch' tl') (hs : qx_slot ch' tl' (10 + f) o) : qx_F now (qf_pt f o base) wt dr ch' tl' := by
  refine ⟨fun g hg => hk g _ (by omega) (ho.1 g hg) (h.1 g hg), fun g hg => ?_, fun k c hc => ?_, hk 26 _ (by omega) (qf_o_some ho.2.2.2) h.2.2.2⟩
  · by_cases z : g = f
    · subst z; rw [qf_pt_s]; exact hs
    · rw [qf_pt_n z]; exact hk _ _ (by omega) (ho.2.1 g hg) (h.2.1 g hg)
  · have := qr_get_lt hc
    have := ho.2.2.1.1
    exact hk _ _ (by omega) (ho.2.2.1.2 c (qr_get_in hc)) (h.2.2.1 k c hc)
theorem qx_dl_kp {docs : List qf_D} {ch tl dn df dl ch' tl' : Nat → Int32} {s0 : Nat} (ht : ∀ x, x ∈ docs → qf_t x.2.2.2) (h : qx_dl docs ch tl dn df dl) (hk : qx_kp s0 ch tl ch' tl') (hs : s0 < 27 ∨ 27 + docs.length ≤ s0) : qx_dl docs ch' tl' dn df dl := by
  intro d x hx
  obtain ⟨a1, a2, a3, a4⟩ := h d x hx
  have := qr_get_lt hx
  exact ⟨a1, a2, a3, hk _ _ (by omega) (qf_o_some (ht x (qr_get_in hx))) a4⟩
theorem qx_dl_app {docs : List qf_D} {ch tl dn df dl : Nat → Int32} {y : qf_D} {b : Int32} (h : qx_dl docs ch tl dn df dl) (hs : qx_slot ch tl (27 + docs.length) (some y.2.2.2)) (hb : b = if y.2.2.1 = true then 1 else 0) : qx_dl (docs ++ [y]) ch tl (upd dn docs.length (nI y.1)) (upd df docs.length (nI y.2.1)) (upd dl docs.length b) := by
  intro d x hx
  by_cases z : d < docs.length
  · rw [List.getElem?_append_left z] at hx
    obtain ⟨a1, a2, a3, a4⟩ := h d x hx
    exact ⟨(pk_un (by omega)).trans a1, (pk_un (by omega)).trans a2, (pk_un (by omega)).trans a3, a4⟩
  · have e : d = docs.length := by
      have := qr_get_lt hx
      rw [List.length_append, List.length_singleton] at this
      omega
    subst e
    rw [List.getElem?_append_right (Nat.le_refl _), Nat.sub_self] at hx
    have e : y = x := by simpa using hx
    subst e
    exact ⟨pk_us, pk_us, pk_us.trans hb, hs⟩
def qd_dk (ch : List Nat) (i d : Nat) (x : qf_D) : qf_D := if d < i then qd_dead ch x else x
theorem qd_dk_lt {ch : List Nat} {i d : Nat} {x : qf_D} (h : d < i) : qd_dk ch i d x = qd_dead ch x := if_pos h
theorem qd_dk_ge {ch : List Nat} {i d : Nat} {x : qf_D} (h : ¬ d < i) : qd_dk ch i d x = x := if_neg h
theorem xs_b1 : vp_nar .boolean 1 = 1 := by decide
theorem xs_b0 : vp_nar .boolean 0 = 0 := by decide
section
variable {xwc xdc xdm xsc xtc xnc xmc xbr xwt : Int32} {xch xtl xwf xdn xdf xdl xss xtk xta xtb xnk xna xnb xnl xnr xns xfa xfs xfi xrc xcl xhd xhi xwo : Nat → Int32} {xrw xre : Nat → Int64}
theorem xs_copy' {xt xf : Int32} (to fr : Nat) (et : xt = nI to) (ef : xf = nI fr) (hto : to < 91) (hfr : fr < 91) (o : qf_X) (ho : qf_o o) (hs : qx_slot xch xtl fr o) (post : SX → Prop)
  (hp : ∀ ch' tl' : Nat → Int32, qx_slot ch' tl' to o → qx_kp to xch xtl ch' tl' → post (xwc, xdc, xdm, xsc, xtc, xnc, xmc, xbr, xwt, ch', tl', xwf, xdn, xdf, xdl, xss, xtk, xta, xtb, xnk, xna, xnb, xnl, xnr, xns, xfa, xfs, xfi, xrw, xrc, xcl, xhd, xre, xhi, xwo)) : wpX_copyText post (xwc, xdc, xdm, xsc, xtc, xnc, xmc, xbr, xwt, xch, xtl, xwf, xdn, xdf, xdl, xss, xtk, xta, xtb, xnk, xna, xnb, xnl, xnr, xns, xfa, xfs, xfi, xrw, xrc, xcl, xhd, xre, xhi, xwo) xt xf := by
  subst et; subst ef
  exact xs_copy to fr hto hfr o ho hs post hp
theorem xs_mk (docs : List qf_D) (f made : Nat) (hf : f < 10) (o : qf_X) (ho : qf_o o) (hs : qx_slot xch xtl f o) (hd : docs.length < 64) (hc : xdc = nI docs.length) (hm : xdm = nI made) (hdl : qx_dl docs xch xtl xdn xdf xdl) (hdt : ∀ x, x ∈ docs → qf_t x.2.2.2) (post : SX → Prop)
  (h0 : o = none → post (xwc, xdc, xdm, xsc, xtc, xnc, xmc, xbr, xwt, xch, xtl, xwf, xdn, xdf, xdl, xss, xtk, xta, xtb, xnk, xna, xnb, xnl, xnr, xns, xfa, xfs, xfi, xrw, xrc, xcl, xhd, xre, xhi, xwo))
  (h1 : ∀ t, o = some t → ∀ ch tl dn df dl : Nat → Int32, qx_dl (docs ++ [(made, f, true, t)]) ch tl dn df dl → qx_kp (27 + docs.length) xch xtl ch tl → post (xwc, nI (docs.length + 1), nI (made + 1), xsc, xtc, xnc, xmc, xbr, xwt, ch, tl, xwf, dn, df, dl, xss, xtk, xta, xtb, xnk, xna, xnb, xnl, xnr, xns, xfa, xfs, xfi, xrw, xrc, xcl, xhd, xre, xhi, xwo)) : wpX_makeDocument post (xwc, xdc, xdm, xsc, xtc, xnc, xmc, xbr, xwt, xch, xtl, xwf, xdn, xdf, xdl, xss, xtk, xta, xtb, xnk, xna, xnb, xnl, xnr, xns, xfa, xfs, xfi, xrw, xrc, xcl, xhd, xre, xhi, xwo) (nI f) := by
  subst hc; subst hm
  unfold wpX_makeDocument
  refine xs_there f hf o ho hs _ (fun e => br_t rfl (h0 e)) (fun t e => br_f (by decide) (br_t (nI_lt (b := 64) hd (by decide)) ?_))
  have hi : vp_in (nI docs.length) 64 := pk_in docs.length 64 hd
  have cc : (nI docs.length).toNatClampNeg = docs.length := nI_clamp (by omega)
  refine ⟨hi, nm_e ⟨hi, nm_e ⟨hi, nm_e ?_⟩⟩⟩
  rw [cc, xs_b1]
  refine xs_copy' (27 + docs.length) f (nI_add 27 docs.length) rfl (by omega) (by omega) o ho hs _ (fun ch tl hsl hk => ?_)
  refine nm_r (nI_1 _) (nm_r (nI_1 _) ?_)
  have hdl' := qx_dl_kp hdt hdl hk (Or.inr (Nat.le_refl _))
  rw [e] at hsl
  exact h1 t e ch tl _ _ _ (qx_dl_app (y := (made, f, true, t)) hdl' hsl rfl) hk
/-- the documents of changed files are LIVE no more -/
theorem xs_sy1 (docs : List qf_D) (wt : List (Nat × qf_X)) (hl : wt.length ≤ 6) (hw : ∀ k c, wt[k]? = some c → xwf k = nI c.1 ∧ c.1 < 10) (hwc : xwc = nI wt.length) (hc : xdc = nI docs.length) (hd : docs.length ≤ 64) (hf : ∀ d x, docs[d]? = some x → xdf d = nI x.2.1 ∧ x.2.1 < 10) (post : SX → Prop)
  (hp : ∀ dl : Nat → Int32, (∀ d x, docs[d]? = some x → dl d = if (qd_dead (qd_ch wt) x).2.2.1 = true then 1 else 0) → ∃ m : Nat, wX_syncChanges_43 post xdc m 0 xwc xdc xdm xsc xtc xnc xmc xbr xwt xch xtl xwf xdn xdf dl xss xtk xta xtb xnk xna xnb xnl xnr xns xfa xfs xfi xrw xrc xcl xhd xre xhi xwo) :
  ∀ (n i : Nat) (dl : Nat → Int32), i ≤ docs.length → docs.length - i < n → (∀ d x, docs[d]? = some x → dl d = if (qd_dk (qd_ch wt) i d x).2.2.1 = true then 1 else 0) → wX_syncChanges_2 post xwc xdc xdm xsc xtc xnc xmc xbr xwt n (nI i) xch xtl xwf xdn xdf dl xss xtk xta xtb xnk xna xnb xnl xnr xns xfa xfs xfi xrw xrc xcl xhd xre xhi xwo := by
  intro n
  induction n with
  | zero => intro i dl h1 h2; omega
  | succ n ih =>
    intro i dl h1 h2 h3
    refine pk_le docs.length i (fun hle => ?_) (fun hlt => ?_) hc
    · refine hp dl (fun d x hx => ?_)
      have := qr_get_lt hx
      rw [h3 d x hx, qd_dk_lt (by omega)]
    · have hg : docs[i]? = some docs[i] := List.getElem?_eq_getElem hlt
      have ci : (nI i).toNatClampNeg = i := nI_clamp (by omega)
      have hi : vp_in (nI i) 64 := pk_in i 64 (by omega)
      obtain ⟨a1, a2⟩ := hf i _ hg
      refine ⟨hi, ?_⟩
      rw [ci, a1]
      refine xs_isch wt docs[i].2.1 a2 hl hw _ hwc ?_
      by_cases z : docs[i].2.1 ∈ qd_ch wt
      · rw [if_pos z]
        refine br_f (by decide) ⟨hi, nm_e (nm_r (nI_1 i) ?_)⟩
        rw [xs_b0]
        refine ih (i + 1) _ (by omega) (by omega) ?_
        intro d x hx
        by_cases y : d = i
        · subst y
          rw [hg] at hx
          cases hx
          rw [pk_us, qd_dk_lt (by omega)]
          unfold qd_dead
          rw [if_pos z]
          rfl
        · rw [pk_un y, h3 d x hx]
          by_cases w : d < i
          · rw [qd_dk_lt w, qd_dk_lt (by omega)]
          · rw [qd_dk_ge w, qd_dk_ge (by omega)]
      · rw [if_neg z]
        refine br_t rfl (nm_r (nI_1 i) ?_)
        refine ih (i + 1) _ (by omega) (by omega) ?_
        intro d x hx
        rw [h3 d x hx]
        by_cases y : d = i
        · subst y
          rw [hg] at hx
          cases hx
          rw [qd_dk_ge (by omega), qd_dk_lt (by omega)]
          unfold qd_dead
          rw [if_neg z]
        · by_cases w : d < i
          · rw [qd_dk_lt w, qd_dk_lt (by omega)]
          · rw [qd_dk_ge w, qd_dk_ge (by omega)]
end
end
section
/-! the class: segments are gathered, merged; a whole sync -/
def qx_sg (segs : List Nat) (ss : Nat → Int32) : Prop := ∀ k s, segs[k]? = some s → ss k = nI s
theorem qx_sg_get {segs : List Nat} {ss : Nat → Int32} (h : qx_sg segs ss) {k : Nat} (hk : k < segs.length) : ss k = nI (segs.getD k 0) := by
  rw [qc_gd hk]
  exact h k _ (List.getElem?_eq_getElem hk)
theorem qd_get_le {segs : List Nat} (k : Nat) : segs.getD k 0 ≤ segs.sum := by
  have a := qd_st_s segs k
  have b := qd_st_le (segs := segs) (k + 1)
  omega
def qd_out (docs : List qf_D) (st d : Nat) : List qf_D := docs.take st ++ ((docs.take d).drop st).filter qd_live
theorem qd_out_0 (docs : List qf_D) (st : Nat) (h : st ≤ docs.length) : qd_out docs st st = docs.take st := by
  unfold qd_out
  have : (docs.take st).drop st = [] := List.drop_of_length_le (by rw [List.length_take]; omega)
  rw [this]
  simp
theorem qd_out_s (docs : List qf_D) (st d : Nat) (h : st ≤ d) (hd : d < docs.length) : qd_out docs st (d + 1) = if docs[d].2.2.1 = true then qd_out docs st d ++ [docs[d]] else qd_out docs st d := by
  unfold qd_out
  rw [List.take_succ_eq_append_getElem hd, List.drop_append_of_le_length (by rw [List.length_take]; omega), List.filter_append]
  by_cases z : docs[d].2.2.1 = true
  · rw [if_pos z]
    have : [docs[d]].filter qd_live = [docs[d]] := by simp [qd_live, z]
    rw [this, List.append_assoc]
  · rw [if_neg z]
    have : [docs[d]].filter qd_live = [] := by simp [qd_live, z]
    rw [this, List.append_nil]
theorem qd_out_len (docs : List qf_D) (st d : Nat) (h : st ≤ d) (hd : d ≤ docs.length) : (qd_out docs st d).length ≤ d ∧ st ≤ (qd_out docs st d).length := by
  unfold qd_out
  rw [List.length_append, List.length_take, Nat.min_eq_left (by omega)]
  have a : (((docs.take d).drop st).filter qd_live).length ≤ ((docs.take d).drop st).length := List.length_filter_le _ _
  rw [List.length_drop, List.length_take] at a
  omega
theorem qd_out_all (docs : List qf_D) (st : Nat) : qd_out docs st docs.length = docs.take st ++ (docs.drop st).filter qd_live := by
  unfold qd_out
  rw [List.take_length]
section
variable {xwc xdc xdm xsc xtc xnc xmc xbr xwt : Int32} {xch xtl xwf xdn xdf xdl xss xtk xta xtb xnk xna xnb xnl xnr xns xfa xfs xfi xrc xcl xhd xhi xwo : Nat → Int32} {xrw xre : Nat → Int64}
theorem xs_st1 (segs : List Nat) (hl : segs.length ≤ 16) (hsum : segs.sum < 1000) (hs : qx_sg segs xss) (first : Nat) (hf : first ≤ segs.length) (post : Int32 → Prop) (hp : post (nI (qd_st first segs))) :
  ∀ (n i : Nat), i ≤ first → first - i < n → wX_segmentStart_4 post (nI first) xwc xdc xdm xsc xtc xnc xmc xbr xwt xch xtl xwf xdn xdf xdl xss xtk xta xtb xnk xna xnb xnl xnr xns xfa xfs xfi xrw xrc xcl xhd xre xhi xwo n (nI (qd_st i segs)) (nI i) := by
  intro n
  induction n with
  | zero => intro i h1 h2; omega
  | succ n ih =>
    intro i h1 h2
    refine pk_le first i (fun hle => ?_) (fun hlt => ?_)
    · have e : i = first := by omega
      subst e
      exact hp
    · refine ⟨pk_in i 16 (by omega), ?_⟩
      have e : nI (qd_st i segs) + xss (nI i).toNatClampNeg = nI (qd_st (i + 1) segs) := by
        rw [nI_clamp (by omega), qx_sg_get hs (by omega), nI_add, ← qd_st_s]
      exact nm_r e (nm_r (nI_1 i) (ih (i + 1) (by omega) (by omega)))
theorem xs_st (segs : List Nat) (hl : segs.length ≤ 16) (hsum : segs.sum < 1000) (hs : qx_sg segs xss) (first : Nat) (hf : first ≤ segs.length) (post : Int32 → Prop) (hp : post (nI (qd_st first segs))) : wpX_segmentStart post (xwc, xdc, xdm, xsc, xtc, xnc, xmc, xbr, xwt, xch, xtl, xwf, xdn, xdf, xdl, xss, xtk, xta, xtb, xnk, xna, xnb, xnl, xnr, xns, xfa, xfs, xfi, xrw, xrc, xcl, xhd, xre, xhi, xwo) (nI first) :=
  ⟨first + 1, xs_st1 segs hl hsum hs first hf post hp (first + 1) 0 (by omega) (by omega)⟩
def qx_ga (docs : List qf_D) (st d : Nat) (ch tl dn df dl : Nat → Int32) : Prop :=
  qx_dl (qd_out docs st d) ch tl dn df dl ∧ ∀ j x, d ≤ j → docs[j]? = some x → qx_doc ch tl dn df dl j x
def qx_lo (ch tl ch' tl' : Nat → Int32) : Prop := ∀ s o', s < 27 → qf_o o' → qx_slot ch tl s o' → qx_slot ch' tl' s o'
theorem xs_ga1 (docs : List qf_D) (segs : List Nat) (first : Nat) (hf : first < 16) (hd : docs.length ≤ 64) (ht : ∀ x, x ∈ docs → qf_t x.2.2.2) (hst : qd_st first segs ≤ docs.length) (hc : xdc = nI docs.length) (hs : ∀ k s, (segs.take first)[k]? = some s → xss k = nI s) (hfl : (segs.take first).length = first) (ch0 tl0 : Nat → Int32) (post : SX → Prop)
  (hp : ∀ ch tl dn df dl ss : Nat → Int32, qx_lo ch0 tl0 ch tl → qx_dl (qd_gd first docs segs) ch tl dn df dl → qx_sg (qd_gs first docs segs) ss → post (xwc, nI (qd_gd first docs segs).length, xdm, nI (qd_gs first docs segs).length, xtc, xnc, xmc, xbr, xwt, ch, tl, xwf, dn, df, dl, ss, xtk, xta, xtb, xnk, xna, xnb, xnl, xnr, xns, xfa, xfs, xfi, xrw, xrc, xcl, xhd, xre, xhi, xwo)) :
  ∀ (n d : Nat) (ch tl dn df dl : Nat → Int32), qd_st first segs ≤ d → d ≤ docs.length → docs.length - d < n → qx_lo ch0 tl0 ch tl → qx_ga docs (qd_st first segs) d ch tl dn df dl → wX_gatherSegments_11 post (nI first) (nI (qd_st first segs)) n (nI (qd_out docs (qd_st first segs) d).length) (nI d) xwc xdc xdm xsc xtc xnc xmc xbr xwt ch tl xwf dn df dl xss xtk xta xtb xnk xna xnb xnl xnr xns xfa xfs xfi xrw xrc xcl xhd xre xhi xwo := by
  intro n
  induction n with
  | zero => intro d ch tl dn df dl h0 h1 h2; omega
  | succ n ih =>
    intro d ch tl dn df dl h0 h1 h2 h3 h4
    have hol := qd_out_len docs (qd_st first segs) d h0 h1
    refine pk_le docs.length d (fun hle => ?_) (fun hlt => ?_) hc
    · have e : d = docs.length := by omega
      subst e
      have e2 : qd_out docs (qd_st first segs) docs.length = qd_gd first docs segs := qd_out_all docs _
      have h41 : qx_dl (qd_gd first docs segs) ch tl dn df dl := by
        have := h4.1
        rw [e2] at this
        exact this
      rw [e2] at hol ⊢
      have e3 : (qd_gd first docs segs).length = qd_st first segs + ((docs.drop (qd_st first segs)).filter qd_live).length := by
        unfold qd_gd
        rw [List.length_append, List.length_take, Nat.min_eq_left hst]
      refine pk_le (qd_gd first docs segs).length (qd_st first segs) (fun hle => ?_) (fun hlt => ?_)
      · have e4 : qd_gs first docs segs = segs.take first := by
          unfold qd_gs
          rw [if_pos (by omega), List.append_nil]
        have := hp ch tl dn df dl xss h3 h41 (by rw [e4]; exact hs)
        rw [e4, hfl] at this
        exact this
      · have e4 : qd_gs first docs segs = segs.take first ++ [((docs.drop (qd_st first segs)).filter qd_live).length] := by
          unfold qd_gs
          rw [if_neg (by omega)]
        have e5 : nI (qd_gd first docs segs).length - nI (qd_st first segs) = nI ((docs.drop (qd_st first segs)).filter qd_live).length := by
          rw [pk_sub (by omega)]
          congr 1
          omega
        have cf : (nI first).toNatClampNeg = first := nI_clamp (by omega)
        refine ⟨pk_in first 16 hf, nm_e (nm_r (nI_1 first) ?_)⟩
        rw [cf, e5]
        have := hp ch tl dn df dl (upd xss first (nI ((docs.drop (qd_st first segs)).filter qd_live).length)) h3 h41 (by
          rw [e4]
          intro k s hk
          by_cases z : k < first
          · rw [List.getElem?_append_left (by omega)] at hk
            exact (pk_un (by omega)).trans (hs k s hk)
          · have hk' := qr_get_lt hk
            rw [List.length_append, hfl, List.length_singleton] at hk'
            have : k = first := by omega
            subst this
            rw [List.getElem?_append_right (by omega), hfl, Nat.sub_self] at hk
            have e : ((docs.drop (qd_st k segs)).filter qd_live).length = s := by simpa using hk
            rw [← e]
            exact pk_us)
        rw [e4, List.length_append, hfl, List.length_singleton] at this
        exact this
    · have hg : docs[d]? = some docs[d] := List.getElem?_eq_getElem hlt
      obtain ⟨a1, a2, a3, a4⟩ := h4.2 d _ (Nat.le_refl _) hg
      have hi : vp_in (nI d) 64 := pk_in d 64 (by omega)
      have cd : (nI d).toNatClampNeg = d := nI_clamp (by omega)
      have hs' := qd_out_s docs (qd_st first segs) d h0 hlt
      refine ⟨hi, ?_⟩
      rw [cd, a3]
      by_cases z : docs[d].2.2.1 = true
      · rw [if_pos z] at hs' ⊢
        have ho : vp_in (nI (qd_out docs (qd_st first segs) d).length) 64 := pk_in (qd_out docs (qd_st first segs) d).length 64 (by omega)
        have co : (nI (qd_out docs (qd_st first segs) d).length).toNatClampNeg = (qd_out docs (qd_st first segs) d).length := nI_clamp (by omega)
        refine br_f (by decide) ⟨hi, ho, nm_e ⟨hi, ho, nm_e ⟨ho, nm_e ?_⟩⟩⟩
        rw [co, xs_b1, a1, a2]
        refine xs_copy' (27 + (qd_out docs (qd_st first segs) d).length) (27 + d) (nI_add 27 _) (nI_add 27 _) (by omega) (by omega) (some docs[d].2.2.2) (qf_o_some (ht _ (List.getElem_mem hlt))) a4 _ (fun ch' tl' hsl hk => ?_)
        refine nm_r (nI_1 _) (nm_r (nI_1 _) ?_)
        have hlen : (qd_out docs (qd_st first segs) (d + 1)).length = (qd_out docs (qd_st first segs) d).length + 1 := by rw [hs', List.length_append]; rfl
        rw [← hlen]
        have hto : ∀ x, x ∈ qd_out docs (qd_st first segs) d → qf_t x.2.2.2 := by
          intro x hx
          apply ht
          unfold qd_out at hx
          rcases List.mem_append.mp hx with y | y
          · exact List.mem_of_mem_take y
          · exact List.mem_of_mem_take (List.mem_of_mem_drop (List.mem_filter.mp y).1)
        refine ih (d + 1) ch' tl' _ _ _ (by omega) (by omega) (by omega) ?_ ⟨?_, ?_⟩
        · intro s o' hs1 ho1 h5
          exact hk s o' (by omega) ho1 (h3 s o' hs1 ho1 h5)
        · rw [hs']
          exact qx_dl_app (y := docs[d]) (qx_dl_kp hto h4.1 hk (Or.inr (Nat.le_refl _))) hsl (by rw [z]; rfl)
        · intro j x hj hx
          obtain ⟨b1, b2, b3, b4⟩ := h4.2 j x (by omega) hx
          exact ⟨(pk_un (by omega)).trans b1, (pk_un (by omega)).trans b2, (pk_un (by omega)).trans b3, hk _ _ (by omega) (qf_o_some (ht _ (qr_get_in hx))) b4⟩
      · rw [if_neg z] at hs' ⊢
        refine br_t rfl (nm_r (nI_1 d) ?_)
        rw [← hs']
        refine ih (d + 1) ch tl dn df dl (by omega) (by omega) (by omega) h3 ⟨?_, ?_⟩
        · rw [hs']; exact h4.1
        · intro j x hj hx
          exact h4.2 j x (by omega) hx
theorem xs_ga (docs : List qf_D) (segs : List Nat) (first : Nat) (hf : first < 16) (hfs : first ≤ segs.length) (hl : segs.length ≤ 16) (hd : docs.length ≤ 64) (ht : ∀ x, x ∈ docs → qf_t x.2.2.2) (hsum : segs.sum = docs.length) (hc : xdc = nI docs.length) (hs : qx_sg segs xss) (hdl : qx_dl docs xch xtl xdn xdf xdl) (xf : Int32) (ef : xf = nI first) (post : SX → Prop)
  (hp : ∀ ch tl dn df dl ss : Nat → Int32, qx_lo xch xtl ch tl → qx_dl (qd_gd first docs segs) ch tl dn df dl → qx_sg (qd_gs first docs segs) ss → post (xwc, nI (qd_gd first docs segs).length, xdm, nI (qd_gs first docs segs).length, xtc, xnc, xmc, xbr, xwt, ch, tl, xwf, dn, df, dl, ss, xtk, xta, xtb, xnk, xna, xnb, xnl, xnr, xns, xfa, xfs, xfi, xrw, xrc, xcl, xhd, xre, xhi, xwo)) : wpX_gatherSegments post (xwc, xdc, xdm, xsc, xtc, xnc, xmc, xbr, xwt, xch, xtl, xwf, xdn, xdf, xdl, xss, xtk, xta, xtb, xnk, xna, xnb, xnl, xnr, xns, xfa, xfs, xfi, xrw, xrc, xcl, xhd, xre, xhi, xwo) xf := by
  subst ef
  have hst : qd_st first segs ≤ docs.length := by rw [← hsum]; exact qd_st_le first
  have hfl : (segs.take first).length = first := by rw [List.length_take]; omega
  unfold wpX_gatherSegments
  refine xs_st segs hl (by omega) hs first hfs _ ⟨docs.length + 1, ?_⟩
  have e : (qd_out docs (qd_st first segs) (qd_st first segs)).length = qd_st first segs := by
    rw [qd_out_0 docs _ hst, List.length_take]; omega
  have HK : ∀ k s, (segs.take first)[k]? = some s → xss k = nI s := by
    intro k s hk
    have hk' := qr_get_lt hk
    rw [hfl] at hk'
    rw [List.getElem?_take_of_lt hk'] at hk
    exact hs k s hk
  have HG : qx_ga docs (qd_st first segs) (qd_st first segs) xch xtl xdn xdf xdl := by
    refine ⟨?_, fun j x _ hx => hdl j x hx⟩
    rw [qd_out_0 docs _ hst]
    intro d x hx
    have hk' := qr_get_lt hx
    rw [List.length_take] at hk'
    rw [List.getElem?_take_of_lt (by omega)] at hx
    exact hdl d x hx
  have this : wX_gatherSegments_11 post (nI first) (nI (qd_st first segs)) (docs.length + 1) (nI (qd_out docs (qd_st first segs) (qd_st first segs)).length) (nI (qd_st first segs)) xwc xdc xdm xsc xtc xnc xmc xbr xwt xch xtl xwf xdn xdf xdl xss xtk xta xtb xnk xna xnb xnl xnr xns xfa xfs xfi xrw xrc xcl xhd xre xhi xwo := xs_ga1 docs segs first hf hd ht hst hc HK hfl xch xtl post hp (docs.length + 1) (qd_st first segs) xch xtl xdn xdf xdl (Nat.le_refl _) hst (by omega) (fun s o' _ _ h => h) HG
  rw [e] at this
  exact this
end
end
section
/-! the class: a whole sync, and what stands on it -/
def qd_d2 (docs : List qf_D) (wt : List (Nat × qf_X)) (now : Nat → qf_X) (made : Nat) : List qf_D := docs.map (qd_dead (qd_ch wt)) ++ qd_new (qd_ch wt) now 10 0 made
def qd_s2 (segs : List Nat) (wt : List (Nat × qf_X)) (now : Nat → qf_X) (made : Nat) : List Nat := qd_s1 segs (qd_new (qd_ch wt) now 10 0 made).length
def qd_m2 (wt : List (Nat × qf_X)) (now : Nat → qf_X) (made : Nat) : Nat := made + (qd_new (qd_ch wt) now 10 0 made).length
def qd_sy (docs : List qf_D) (segs : List Nat) (wt : List (Nat × qf_X)) (now : Nat → qf_X) (made : Nat) : List qf_D × List Nat := qd_mg (qd_s2 segs wt now made).length (qd_d2 docs wt now made) (qd_s2 segs wt now made)
theorem qx_dl_dead {docs : List qf_D} {ch : List Nat} {xch xtl xdn xdf xdl dl : Nat → Int32} (h : qx_dl docs xch xtl xdn xdf xdl) (h' : ∀ d x, docs[d]? = some x → dl d = if (qd_dead ch x).2.2.1 = true then 1 else 0) : qx_dl (docs.map (qd_dead ch)) xch xtl xdn xdf dl := by
  intro d x hx
  rw [List.getElem?_map] at hx
  cases hy : docs[d]? with
  | none => rw [hy] at hx; exact nomatch hx
  | some y =>
    rw [hy] at hx
    have e : qd_dead ch y = x := by simpa using hx
    obtain ⟨a1, a2, a3, a4⟩ := h d y hy
    have b := h' d y hy
    rw [e] at b
    have e2 : x.1 = y.1 ∧ x.2.1 = y.2.1 ∧ x.2.2.2 = y.2.2.2 := by
      rw [← e]
      unfold qd_dead
      split <;> exact ⟨rfl, rfl, rfl⟩
    refine ⟨by rw [e2.1]; exact a1, by rw [e2.2.1]; exact a2, b, by rw [e2.2.2]; exact a4⟩
theorem qd_dead_t {docs : List qf_D} (ch : List Nat) (h : ∀ x, x ∈ docs → qf_t x.2.2.2) : ∀ x, x ∈ docs.map (qd_dead ch) → qf_t x.2.2.2 := by
  intro x hx
  obtain ⟨y, hy, rfl⟩ := List.mem_map.mp hx
  have e : (qd_dead ch y).2.2.2 = y.2.2.2 := by unfold qd_dead; split <;> rfl
  rw [e]
  exact h y hy
theorem qd_new_t {ch : List Nat} {now : Nat → qf_X} (hn : ∀ f, f < 10 → qf_o (now f)) (m made : Nat) (hm : m ≤ 10) : ∀ x, x ∈ qd_new ch now m 0 made → qf_t x.2.2.2 := by
  intro x hx
  obtain ⟨_, _, _, a4, _, _, a7⟩ := qd_new_in ch now m 0 made x hx
  exact hn _ (by omega) _ a7
section
variable {xwc xdc xdm xsc xtc xnc xmc xbr xwt : Int32} {xch xtl xwf xdn xdf xdl xss xtk xta xtb xnk xna xnb xnl xnr xns xfa xfs xfi xrc xcl xhd xhi xwo : Nat → Int32} {xrw xre : Nat → Int64}
theorem xs_sy2 (now base : Nat → qf_X) (wt : List (Nat × qf_X)) (dr : List Nat) (docs : List qf_D) (segs : List Nat) (made : Nat) (ho : qx_Fo now base wt dr) (hb : ∀ f, f < 10 → f ∉ qd_ch wt → base f = now f) (hw : ∀ k c, wt[k]? = some c → xwf k = nI c.1 ∧ c.1 < 10) (hwc : xwc = nI wt.length) (hd : docs.length ≤ 55) (hdt : ∀ x, x ∈ docs → qf_t x.2.2.2) (hsl : segs.length ≤ 10) (hs : qx_sg segs xss) (hsc : xsc = nI segs.length) (post : SX → Prop)
  (hp : ∀ ch tl dn df dl ss : Nat → Int32, qx_F now now wt dr ch tl → qx_dl (docs ++ qd_new (qd_ch wt) now 10 0 made) ch tl dn df dl → qx_sg (qd_s1 segs (qd_new (qd_ch wt) now 10 0 made).length) ss → ∃ m : Nat, wX_syncChanges_126 post m 0 0 (nI (docs ++ qd_new (qd_ch wt) now 10 0 made).length) (nI (made + (qd_new (qd_ch wt) now 10 0 made).length)) (nI (qd_s1 segs (qd_new (qd_ch wt) now 10 0 made).length).length) xtc xnc xmc xbr xwt ch tl xwf dn df dl ss xtk xta xtb xnk xna xnb xnl xnr xns xfa xfs xfi xrw xrc xcl xhd xre xhi xwo) :
  ∀ (n f : Nat) (ch tl dn df dl : Nat → Int32), f ≤ 10 → 10 - f < n → qx_F now (qf_mx f now base) wt dr ch tl → qx_dl (docs ++ qd_new (qd_ch wt) now f 0 made) ch tl dn df dl → wX_syncChanges_43 post (nI docs.length) n (nI f) xwc (nI (docs ++ qd_new (qd_ch wt) now f 0 made).length) (nI (made + (qd_new (qd_ch wt) now f 0 made).length)) xsc xtc xnc xmc xbr xwt ch tl xwf dn df dl xss xtk xta xtb xnk xna xnb xnl xnr xns xfa xfs xfi xrw xrc xcl xhd xre xhi xwo := by
  intro n
  induction n with
  | zero => intro f ch tl dn df dl h1 h2; omega
  | succ n ih =>
    intro f ch tl dn df dl h1 h2 h3 h4
    have hln := qd_new_len (qd_ch wt) now f 0 made
    have hlc : (qd_ch wt).length = wt.length := List.length_map _
    have hwl := ho.2.2.1.1
    refine pk_le 10 f (fun hle => ?_) (fun hlt => ?_)
    · have e : f = 10 := by omega
      subst e
      have hF : qx_F now now wt dr ch tl := ⟨h3.1, fun g hg => by have := h3.2.1 g hg; rw [qf_mx_lt hg] at this; exact this, h3.2.2⟩
      refine pk_le (docs ++ qd_new (qd_ch wt) now 10 0 made).length docs.length (fun hle => ?_) (fun hlt => ?_) rfl rfl (by rw [List.length_append]; omega) (by omega)
      · rw [List.length_append] at hle
        have e4 : qd_s1 segs (qd_new (qd_ch wt) now 10 0 made).length = segs := by
          unfold qd_s1
          rw [if_pos (by omega), List.append_nil]
        have := hp ch tl dn df dl xss hF h4 (by rw [e4]; exact hs)
        rw [e4, ← hsc] at this
        exact this
      · rw [List.length_append] at hlt
        have e4 : qd_s1 segs (qd_new (qd_ch wt) now 10 0 made).length = segs ++ [(qd_new (qd_ch wt) now 10 0 made).length] := by
          unfold qd_s1
          rw [if_neg (by omega)]
        subst hsc
        have e5 : nI (docs ++ qd_new (qd_ch wt) now 10 0 made).length - nI docs.length = nI (qd_new (qd_ch wt) now 10 0 made).length := by
          rw [pk_sub (by rw [List.length_append]; omega)]
          congr 1
          rw [List.length_append]
          omega
        have cs : (nI segs.length).toNatClampNeg = segs.length := nI_clamp (by omega)
        refine br_f (nI_ge (b := 16) (by omega) (by decide)) ⟨pk_in segs.length 16 (by omega), nm_e (nm_r (nI_1 _) ?_)⟩
        rw [cs, e5]
        have := hp ch tl dn df dl (upd xss segs.length (nI (qd_new (qd_ch wt) now 10 0 made).length)) hF h4 (by
          rw [e4]
          intro k s hk
          by_cases z : k < segs.length
          · rw [List.getElem?_append_left z] at hk
            exact (pk_un (by omega)).trans (hs k s hk)
          · have hk' := qr_get_lt hk
            rw [List.length_append, List.length_singleton] at hk'
            have : k = segs.length := by omega
            subst this
            rw [List.getElem?_append_right (Nat.le_refl _), Nat.sub_self] at hk
            have e : (qd_new (qd_ch wt) now 10 0 made).length = s := by simpa using hk
            rw [← e]
            exact pk_us)
        have e6 : (segs ++ [(qd_new (qd_ch wt) now 10 0 made).length]).length = segs.length + 1 := by rw [List.length_append]; rfl
        rw [e4, e6] at this
        exact this
    · have hcut := qd_new_cut (qd_ch wt) now f 0 made
      rw [Nat.zero_add] at hcut
      refine xs_isch wt f hlt hwl hw _ hwc ?_
      by_cases z : f ∈ qd_ch wt
      · rw [if_pos z] at hcut ⊢
        refine br_f (by decide) ?_
        have hon : qf_o (now f) := ho.1 f hlt
        have ho1 : qx_Fo now (qf_mx f now base) wt dr := ⟨ho.1, fun g hg => by unfold qf_mx; split; exact ho.1 g hg; exact ho.2.1 g hg, ho.2.2⟩
        refine xs_copy' (10 + f) f (nI_add 10 f) rfl (by omega) (by omega) (now f) hon (h3.1 f hlt) _ (fun ch1 tl1 hsl1 hk1 => ?_)
        have hF1 := qx_F_base hlt ho1 h3 hk1 hsl1
        have hF2 : qx_F now (qf_mx (f + 1) now base) wt dr ch1 tl1 := by
          refine ⟨hF1.1, fun g hg => ?_, hF1.2.2⟩
          have a := hF1.2.1 g hg
          by_cases y : g = f
          · subst y
            rw [qf_pt_s] at a
            rw [qf_mx_lt (by omega)]
            exact a
          · rw [qf_pt_n y] at a
            by_cases w : g < f
            · rw [qf_mx_lt w] at a; rw [qf_mx_lt (by omega)]; exact a
            · rw [qf_mx_ge w] at a; rw [qf_mx_ge (by omega)]; exact a
        have hot : ∀ x, x ∈ docs ++ qd_new (qd_ch wt) now f 0 made → qf_t x.2.2.2 := by
          intro x hx
          rcases List.mem_append.mp hx with y | y
          · exact hdt x y
          · exact qd_new_t ho.1 f made h1 x y
        have ho2 : qx_Fo now (qf_mx (f + 1) now base) wt dr := ⟨ho.1, fun g hg => by unfold qf_mx; split; exact ho.1 g hg; exact ho.2.1 g hg, ho.2.2⟩
        have h4' := qx_dl_kp hot h4 hk1 (Or.inl (by omega))
        refine xs_mk (docs ++ qd_new (qd_ch wt) now f 0 made) f (made + (qd_new (qd_ch wt) now f 0 made).length) hlt (now f) hon (hF2.1 f hlt) (by rw [List.length_append]; omega) rfl rfl h4' hot _ (fun e => ?_) (fun t e ch2 tl2 dn2 df2 dl2 hd2 hk2 => ?_)
        · rw [e] at hcut
          dsimp only at hcut
          rw [List.append_nil] at hcut
          refine nm_r (nI_1 f) ?_
          have := ih (f + 1) ch1 tl1 dn df dl (by omega) (by omega) hF2 (by rw [hcut]; exact h4')
          rw [hcut] at this
          exact this
        · rw [e] at hcut
          dsimp only at hcut
          refine nm_r (nI_1 f) ?_
          have := ih (f + 1) ch2 tl2 dn2 df2 dl2 (by omega) (by omega) (qx_F_hi ho2 hF2 hk2 (by omega)) (by rw [hcut, ← List.append_assoc]; exact hd2)
          rw [hcut] at this
          simp only [List.length_append, List.length_singleton, ← Nat.add_assoc] at this ⊢
          exact this
      · rw [if_neg z, List.append_nil] at hcut
        rw [if_neg z]
        refine br_t rfl (nm_r (nI_1 f) ?_)
        have := ih (f + 1) ch tl dn df dl (by omega) (by omega) ⟨h3.1, fun g hg => ?_, h3.2.2⟩ (by rw [hcut]; exact h4)
        · rw [hcut] at this
          exact this
        · have a := h3.2.1 g hg
          by_cases y : g = f
          · subst y
            rw [qf_mx_ge (by omega), hb g hg z] at a
            rw [qf_mx_lt (by omega)]
            exact a
          · by_cases w : g < f
            · rw [qf_mx_lt w] at a; rw [qf_mx_lt (by omega)]; exact a
            · rw [qf_mx_ge w] at a; rw [qf_mx_ge (by omega)]; exact a
/-- merges -/
theorem xs_due (segs : List Nat) (hl : segs.length ≤ 16) (hs : qx_sg segs xss) (hsc : xsc = nI segs.length) (hsum : segs.sum < 1000) (post : Int32 → Prop) (h0 : ¬ (2 ≤ segs.length ∧ segs.getD (segs.length - 2) 0 ≤ segs.getD (segs.length - 1) 0) → post 0) (h1 : 2 ≤ segs.length ∧ segs.getD (segs.length - 2) 0 ≤ segs.getD (segs.length - 1) 0 → post 1) : wpX_isMergeDue post (xwc, xdc, xdm, xsc, xtc, xnc, xmc, xbr, xwt, xch, xtl, xwf, xdn, xdf, xdl, xss, xtk, xta, xtb, xnk, xna, xnb, xnl, xnr, xns, xfa, xfs, xfi, xrw, xrc, xcl, xhd, xre, xhi, xwo) := by
  subst hsc
  refine pk_lt segs.length 2 (fun h => h0 (by omega)) (fun h => ?_)
  have e1 : nI segs.length - 1 = nI (segs.length - 1) := pk_sub (b := 1) (by omega)
  have e2 : nI segs.length - 2 = nI (segs.length - 2) := pk_sub (b := 2) (by omega)
  have g1 := qd_get_le (segs := segs) (segs.length - 1)
  have g2 := qd_get_le (segs := segs) (segs.length - 2)
  refine ⟨pk_in (segs.length - 1) 16 (by omega) e1, pk_in (segs.length - 2) 16 (by omega) e2, ?_⟩
  rw [e1, e2, nI_clamp (by omega), nI_clamp (by omega), qx_sg_get hs (by omega), qx_sg_get hs (by omega)]
  exact pk_lt _ _ (fun h => h0 (by omega)) (fun h => h1 (by omega)) rfl rfl (by omega) (by omega)
theorem xs_mgl (made : Nat) (post : SX → Prop) (ch0 tl0 : Nat → Int32) :
  ∀ (k n c : Nat) (docs : List qf_D) (segs : List Nat) (ch tl dn df dl ss : Nat → Int32), k < n → segs.length ≤ k → c + segs.length ≤ 12 → qd_ok docs segs made → qd_dec segs.dropLast → docs.length ≤ 64 → qx_lo ch0 tl0 ch tl → qx_dl docs ch tl dn df dl → qx_sg segs ss →
  (∀ ch tl dn df dl ss : Nat → Int32, qx_lo ch0 tl0 ch tl → qx_dl (qd_mg k docs segs).1 ch tl dn df dl → qx_sg (qd_mg k docs segs).2 ss → post (xwc, nI (qd_mg k docs segs).1.length, xdm, nI (qd_mg k docs segs).2.length, xtc, xnc, xmc, xbr, xwt, ch, tl, xwf, dn, df, dl, ss, xtk, xta, xtb, xnk, xna, xnb, xnl, xnr, xns, xfa, xfs, xfi, xrw, xrc, xcl, xhd, xre, xhi, xwo)) →
  wX_syncChanges_126 post n (nI c) xwc (nI docs.length) xdm (nI segs.length) xtc xnc xmc xbr xwt ch tl xwf dn df dl ss xtk xta xtb xnk xna xnb xnl xnr xns xfa xfs xfi xrw xrc xcl xhd xre xhi xwo := by
  intro k
  induction k with
  | zero =>
    intro n c docs segs ch tl dn df dl ss hn hk hc hok hdec hd hlo hdl hsg hp
    obtain ⟨n, rfl⟩ : ∃ m, n = m + 1 := ⟨n - 1, by omega⟩
    refine br_f (nI_ge (b := 16) (by omega) (by decide)) ?_
    refine xs_due segs (by omega) hsg rfl (by have := hok.1; omega) _ (fun _ => br_t rfl (hp ch tl dn df dl ss hlo hdl hsg)) (fun h => absurd h.1 (by omega))
  | succ k ih =>
    intro n c docs segs ch tl dn df dl ss hn hk hc hok hdec hd hlo hdl hsg hp
    obtain ⟨n, rfl⟩ : ∃ m, n = m + 1 := ⟨n - 1, by omega⟩
    unfold qd_mg at hp
    refine br_f (nI_ge (b := 16) (by omega) (by decide)) ?_
    refine xs_due segs (by omega) hsg rfl (by have := hok.1; omega) _ (fun h => ?_) (fun h => ?_)
    · rw [if_neg h] at hp
      exact br_t rfl (hp ch tl dn df dl ss hlo hdl hsg)
    · rw [if_pos h] at hp
      have hg := qd_gs_dec (docs := docs) hdec h.1
      have hok' := qd_ga_ok hok (segs.length - 2)
      have hsub : (qd_gd (segs.length - 2) docs segs).length ≤ docs.length := (qd_sub (docs := docs) (first := segs.length - 2) (segs := segs)).length_le
      refine br_f (by decide) ?_
      refine xs_ga docs segs (segs.length - 2) (by omega) (by omega) (by omega) hd (fun x hx => (hok.2.2.2.1 x hx).2.2) hok.1 rfl hsg hdl _ (pk_sub (b := 2) (by omega)) _ (fun ch1 tl1 dn1 df1 dl1 ss1 hlo1 hdl1 hsg1 => ?_)
      refine nm_r (nI_1 c) ?_
      exact ih n (c + 1) _ _ ch1 tl1 dn1 df1 dl1 ss1 (by omega) (by omega) (by omega) hok' hg.1 (by omega) (fun s o' h1 h2 h3 => hlo1 s o' h1 h2 (hlo s o' h1 h2 h3)) hdl1 hsg1 hp
theorem xs_sync (now base : Nat → qf_X) (wt : List (Nat × qf_X)) (dr : List Nat) (docs : List qf_D) (segs : List Nat) (made : Nat) (hi : qf_inv now base wt dr docs segs made) (hS : qx_S now base wt dr docs segs made xch xtl xwf xwc xdn xdf xdl xdc xdm xss xsc) (post : SX → Prop)
  (hp : ∀ ch tl dn df dl ss : Nat → Int32, ∀ wc dc dm sc : Int32, qx_S now now [] dr (qd_sy docs segs wt now made).1 (qd_sy docs segs wt now made).2 (qd_m2 wt now made) ch tl xwf wc dn df dl dc dm ss sc → post (wc, dc, dm, sc, xtc, xnc, xmc, xbr, xwt, ch, tl, xwf, dn, df, dl, ss, xtk, xta, xtb, xnk, xna, xnb, xnl, xnr, xns, xfa, xfs, xfi, xrw, xrc, xcl, xhd, xre, xhi, xwo)) : wpX_syncChanges post (xwc, xdc, xdm, xsc, xtc, xnc, xmc, xbr, xwt, xch, xtl, xwf, xdn, xdf, xdl, xss, xtk, xta, xtb, xnk, xna, xnb, xnl, xnr, xns, xfa, xfs, xfi, xrw, xrc, xcl, xhd, xre, xhi, xwo) := by
  obtain ⟨i1, i2, i3, i4, i5, i6⟩ := hi
  obtain ⟨s1, s2, ⟨s3, s4⟩, s5, ⟨s6, s7⟩, s8, s9, s10⟩ := hS
  subst s3; subst s6; subst s8; subst s9
  have hno : ∀ f, f < 10 → qf_o (now f) := fun f hf => by rw [i1 f hf]; exact qf_aps_o wt base i2 (fun c hc => (i3.2 c hc).2) f hf
  have hw : ∀ k c, wt[k]? = some c → xwf k = nI c.1 ∧ c.1 < 10 := fun k c hc => ⟨(s4 k c hc).1, (i3.2 c (qr_get_in hc)).1⟩
  have hs2 := qd_sync_ok i5 i6 i3.1 hno
  have ho : qx_Fo now base wt dr := ⟨hno, i2, ⟨i3.1, fun c hc => (i3.2 c hc).2⟩, i4⟩
  have hF : qx_F now base wt dr xch xtl := ⟨s1, s2, fun k c hc => (s4 k c hc).2, s5⟩
  have hdt : ∀ x, x ∈ docs → qf_t x.2.2.2 := fun x hx => (i5.2.2.2.1 x hx).2.2
  have hml : (docs.map (qd_dead (qd_ch wt))).length = docs.length := List.length_map _
  have hb : ∀ f, f < 10 → f ∉ qd_ch wt → base f = now f := by
    intro f hf hn
    rw [i1 f hf, qf_aps_no]
    intro c hc e
    exact hn (List.mem_map.mpr ⟨c, hc, e⟩)
  unfold wpX_syncChanges
  refine ⟨docs.length + 1, xs_sy1 docs wt i3.1 hw rfl rfl (by omega) (fun d x hx => ⟨(s7 d x hx).2.1, (i5.2.2.2.1 x (qr_get_in hx)).2.1⟩) post ?_ (docs.length + 1) 0 xdl (by omega) (by omega) (fun d x hx => ?_)⟩
  · intro dl1 hdl1
    have hdl2 := qx_dl_dead s7 hdl1
    have e0 : qd_new (qd_ch wt) now 0 0 made = [] := rfl
    have HP : ∀ ch tl dn df dl ss : Nat → Int32, qx_F now now wt dr ch tl → qx_dl (docs.map (qd_dead (qd_ch wt)) ++ qd_new (qd_ch wt) now 10 0 made) ch tl dn df dl → qx_sg (qd_s1 segs (qd_new (qd_ch wt) now 10 0 made).length) ss → ∃ m : Nat, wX_syncChanges_126 post m 0 0 (nI (docs.map (qd_dead (qd_ch wt)) ++ qd_new (qd_ch wt) now 10 0 made).length) (nI (made + (qd_new (qd_ch wt) now 10 0 made).length)) (nI (qd_s1 segs (qd_new (qd_ch wt) now 10 0 made).length).length) xtc xnc xmc xbr xwt ch tl xwf dn df dl ss xtk xta xtb xnk xna xnb xnl xnr xns xfa xfs xfi xrw xrc xcl xhd xre xhi xwo := by
      intro ch tl dn df dl ss hF' hdl' hsg'
      have hl2 : (qd_d2 docs wt now made).length = docs.length + (qd_new (qd_ch wt) now 10 0 made).length := by unfold qd_d2; rw [List.length_append, hml]
      have hl3 : (qd_s2 segs wt now made).length ≤ 11 := by
        unfold qd_s2 qd_s1
        rw [List.length_append]
        split
        · simp; omega
        · simp; omega
      refine ⟨(qd_s2 segs wt now made).length + 1, ?_⟩
      refine xs_mgl (qd_m2 wt now made) post ch tl (qd_s2 segs wt now made).length _ 0 (qd_d2 docs wt now made) (qd_s2 segs wt now made) ch tl dn df dl ss (by omega) (Nat.le_refl _) (by omega) hs2.1 hs2.2.1 (by omega) (fun s o' _ _ h => h) hdl' hsg' ?_
      intro ch3 tl3 dn3 df3 dl3 ss3 hlo3 hdl3 hsg3
      refine hp ch3 tl3 dn3 df3 dl3 ss3 _ _ _ _ ⟨fun f hf => hlo3 _ _ (by omega) (hno f hf) (hF'.1 f hf), fun f hf => hlo3 _ _ (by omega) (hno f hf) (hF'.2.1 f hf), ⟨rfl, (fun k c hc => nomatch hc)⟩, hlo3 _ _ (by omega) (qf_o_some i4) hF'.2.2.2, ⟨rfl, hdl3⟩, rfl, rfl, hsg3⟩
    have this : wX_syncChanges_43 post (nI (docs.map (qd_dead (qd_ch wt))).length) 11 (nI 0) (nI wt.length) (nI (docs.map (qd_dead (qd_ch wt)) ++ qd_new (qd_ch wt) now 0 0 made).length) (nI (made + (qd_new (qd_ch wt) now 0 0 made).length)) (nI segs.length) xtc xnc xmc xbr xwt xch xtl xwf xdn xdf dl1 xss xtk xta xtb xnk xna xnb xnl xnr xns xfa xfs xfi xrw xrc xcl xhd xre xhi xwo := xs_sy2 now base wt dr (docs.map (qd_dead (qd_ch wt))) segs made ho hb hw rfl (by omega) (qd_dead_t _ hdt) hs2.2.2.2.1 s10 rfl post HP 11 0 xch xtl xdn xdf dl1 (by omega) (by omega) ⟨hF.1, fun g hg => by rw [qf_mx_ge (by omega)]; exact hF.2.1 g hg, hF.2.2⟩ (by rw [e0, List.append_nil]; exact hdl2)
    rw [e0, List.append_nil, hml] at this
    exact ⟨11, this⟩
  · rw [qd_dk_ge (by omega)]
    exact (s7 d x hx).2.2.1
end
end
section
/-! the class: keep, remove, crash, settle -/
abbrev qf_P : Type := (Nat → qf_X) × List (Nat × qf_X) × List qf_D × List Nat × Nat
def qf_room (now base : Nat → qf_X) (wt : List (Nat × qf_X)) (docs : List qf_D) (segs : List Nat) (made : Nat) : qf_P :=
  if wt.length < 6 then (base, wt, docs, segs, made) else (now, [], (qd_sy docs segs wt now made).1, (qd_sy docs segs wt now made).2, qd_m2 wt now made)
theorem qf_now_o {now base : Nat → qf_X} {wt : List (Nat × qf_X)} {dr : List Nat} {docs : List qf_D} {segs : List Nat} {made : Nat} (h : qf_inv now base wt dr docs segs made) : ∀ f, f < 10 → qf_o (now f) := fun f hf => by
  rw [h.1 f hf]; exact qf_aps_o wt base h.2.1 (fun c hc => (h.2.2.1.2 c hc).2) f hf
theorem qf_inv_sync {now base : Nat → qf_X} {wt : List (Nat × qf_X)} {dr : List Nat} {docs : List qf_D} {segs : List Nat} {made : Nat} (h : qf_inv now base wt dr docs segs made) : qf_inv now now [] dr (qd_sy docs segs wt now made).1 (qd_sy docs segs wt now made).2 (qd_m2 wt now made) ∧ qd_m2 wt now made ≤ made + 6 := by
  have hno := qf_now_o h
  obtain ⟨i1, i2, i3, i4, i5, i6⟩ := h
  have hs2 := qd_sync_ok i5 i6 i3.1 hno
  have a := qd_mg_ok (qd_s2 segs wt now made).length (qd_d2 docs wt now made) (qd_s2 segs wt now made) (qd_m2 wt now made) (Nat.le_refl _) hs2.1 hs2.2.1
  refine ⟨⟨fun f _ => rfl, hno, ⟨by simp, (fun c hc => nomatch hc)⟩, i4, a.1, a.2⟩, ?_⟩
  unfold qd_m2
  have := hs2.2.2.2.2
  omega
theorem qf_inv_room {now base : Nat → qf_X} {wt : List (Nat × qf_X)} {dr : List Nat} {docs : List qf_D} {segs : List Nat} {made : Nat} (h : qf_inv now base wt dr docs segs made) : qf_inv now (qf_room now base wt docs segs made).1 (qf_room now base wt docs segs made).2.1 dr (qf_room now base wt docs segs made).2.2.1 (qf_room now base wt docs segs made).2.2.2.1 (qf_room now base wt docs segs made).2.2.2.2 ∧ (qf_room now base wt docs segs made).2.1.length < 6 ∧ (qf_room now base wt docs segs made).2.2.2.2 ≤ made + 6 := by
  unfold qf_room
  split
  · rename_i hl; exact ⟨h, hl, by dsimp only; omega⟩
  · exact ⟨(qf_inv_sync h).1, by simp, (qf_inv_sync h).2⟩
/-- a change is added -/
theorem qf_inv_add {now base : Nat → qf_X} {wt : List (Nat × qf_X)} {dr dr' : List Nat} {docs : List qf_D} {segs : List Nat} {made : Nat} (h : qf_inv now base wt dr docs segs made) (hl : wt.length < 6) {f : Nat} (hf : f < 10) {o : qf_X} (ho : qf_o o) (hd : qf_t dr') : qf_inv (qf_ap now (f, o)) base (wt ++ [(f, o)]) dr' docs segs made := by
  obtain ⟨i1, i2, i3, i4, i5, i6⟩ := h
  refine ⟨fun g hg => ?_, i2, ⟨by simp; omega, fun c hc => ?_⟩, hd, i5, i6⟩
  · rw [qf_aps_1]
    unfold qf_ap
    split
    · rfl
    · exact i1 g hg
  · rcases List.mem_append.mp hc with z | z
    · exact i3.2 c z
    · rw [List.mem_singleton] at z
      subst z
      exact ⟨hf, ho⟩
section
variable {xwc xdc xdm xsc xtc xnc xmc xbr xwt : Int32} {xch xtl xwf xdn xdf xdl xss xtk xta xtb xnk xna xnb xnl xnr xns xfa xfs xfi xrc xcl xhd xhi xwo : Nat → Int32} {xrw xre : Nat → Int64}
theorem xs_room (now base : Nat → qf_X) (wt : List (Nat × qf_X)) (dr : List Nat) (docs : List qf_D) (segs : List Nat) (made : Nat) (hi : qf_inv now base wt dr docs segs made) (hS : qx_S now base wt dr docs segs made xch xtl xwf xwc xdn xdf xdl xdc xdm xss xsc) (post : SX → Prop)
  (hp : ∀ ch tl dn df dl ss : Nat → Int32, ∀ wc dc dm sc : Int32, qx_S now (qf_room now base wt docs segs made).1 (qf_room now base wt docs segs made).2.1 dr (qf_room now base wt docs segs made).2.2.1 (qf_room now base wt docs segs made).2.2.2.1 (qf_room now base wt docs segs made).2.2.2.2 ch tl xwf wc dn df dl dc dm ss sc → post (wc, dc, dm, sc, xtc, xnc, xmc, xbr, xwt, ch, tl, xwf, dn, df, dl, ss, xtk, xta, xtb, xnk, xna, xnb, xnl, xnr, xns, xfa, xfs, xfi, xrw, xrc, xcl, xhd, xre, xhi, xwo)) : wpX_makeRoomForChange post (xwc, xdc, xdm, xsc, xtc, xnc, xmc, xbr, xwt, xch, xtl, xwf, xdn, xdf, xdl, xss, xtk, xta, xtb, xnk, xna, xnb, xnl, xnr, xns, xfa, xfs, xfi, xrw, xrc, xcl, xhd, xre, xhi, xwo) := by
  have h6 := hi.2.2.1.1
  refine pk_lt wt.length 6 (fun hl => ?_) (fun hl => ?_) hS.2.2.1.1
  · unfold qf_room at hp
    rw [if_pos hl] at hp
    exact hp xch xtl xdn xdf xdl xss xwc xdc xdm xsc hS
  · unfold qf_room at hp
    rw [if_neg (by omega)] at hp
    exact xs_sync now base wt dr docs segs made hi hS _ hp
/-- the file that has just changed is noted: its text goes to the waiting ones -/
theorem xs_add (now base : Nat → qf_X) (wt : List (Nat × qf_X)) (dr : List Nat) (docs : List qf_D) (segs : List Nat) (made : Nat) (f : Nat) (hf : f < 10) (hl : wt.length < 6) (ho : qx_Fo now base wt dr) (hdt : ∀ x, x ∈ docs → qf_t x.2.2.2) (hS : qx_S now base wt dr docs segs made xch xtl xwf xwc xdn xdf xdl xdc xdm xss xsc) (post : Int32 → SX → Prop)
  (hp : ∀ ch tl wf : Nat → Int32, ∀ wc : Int32, qx_S now base (wt ++ [(f, now f)]) dr docs segs made ch tl wf wc xdn xdf xdl xdc xdm xss xsc → post (nI (wt.length + 1)) (wc, xdc, xdm, xsc, xtc, xnc, xmc, xbr, xwt, ch, tl, wf, xdn, xdf, xdl, xss, xtk, xta, xtb, xnk, xna, xnb, xnl, xnr, xns, xfa, xfs, xfi, xrw, xrc, xcl, xhd, xre, xhi, xwo)) : wpX_addChange post (xwc, xdc, xdm, xsc, xtc, xnc, xmc, xbr, xwt, xch, xtl, xwf, xdn, xdf, xdl, xss, xtk, xta, xtb, xnk, xna, xnb, xnl, xnr, xns, xfa, xfs, xfi, xrw, xrc, xcl, xhd, xre, xhi, xwo) (nI f) := by
  obtain ⟨s1, s2, ⟨s3, s4⟩, s5, ⟨s6, s7⟩, s8, s9⟩ := hS
  subst s3
  have cw : (nI wt.length).toNatClampNeg = wt.length := nI_clamp (by omega)
  unfold wpX_addChange
  refine ⟨pk_in wt.length 6 hl, nm_e ?_⟩
  rw [cw]
  refine xs_copy' (20 + wt.length) f (nI_add 20 _) rfl (by omega) (by omega) (now f) (ho.1 f hf) (s1 f hf) _ (fun ch tl hsl hk => ?_)
  refine nm_r (nI_1 _) ?_
  have hdl := qx_dl_kp hdt s7 hk (Or.inl (by omega))
  refine hp ch tl _ _ ⟨fun g hg => hk _ _ (by omega) (ho.1 g hg) (s1 g hg), fun g hg => hk _ _ (by omega) (ho.2.1 g hg) (s2 g hg), ⟨by rw [List.length_append]; rfl, fun k c hc => ?_⟩, hk _ _ (by omega) (qf_o_some ho.2.2.2) s5, ⟨s6, hdl⟩, s8, s9⟩
  by_cases z : k < wt.length
  · rw [List.getElem?_append_left z] at hc
    obtain ⟨a1, a2⟩ := s4 k c hc
    exact ⟨(pk_un (by omega)).trans a1, hk _ _ (by omega) (ho.2.2.1.2 c (qr_get_in hc)) a2⟩
  · have hk' := qr_get_lt hc
    rw [List.length_append, List.length_singleton] at hk'
    have : k = wt.length := by omega
    subst this
    rw [List.getElem?_append_right (Nat.le_refl _), Nat.sub_self] at hc
    have e : (f, now f) = c := by simpa using hc
    subst e
    exact ⟨pk_us, hsl⟩
theorem xs_keep (now base : Nat → qf_X) (wt : List (Nat × qf_X)) (dr : List Nat) (docs : List qf_D) (segs : List Nat) (made : Nat) (hi : qf_inv now base wt dr docs segs made) (hS : qx_S now base wt dr docs segs made xch xtl xwf xwc xdn xdf xdl xdc xdm xss xsc) (f : Nat) (hf : f < 10) (post : Int32 → SX → Prop)
  (hp : ∀ ch tl wf dn df dl ss : Nat → Int32, ∀ wc dc dm sc : Int32, qx_S (qf_ap now (f, some dr)) (qf_room now base wt docs segs made).1 ((qf_room now base wt docs segs made).2.1 ++ [(f, some dr)]) [] (qf_room now base wt docs segs made).2.2.1 (qf_room now base wt docs segs made).2.2.2.1 (qf_room now base wt docs segs made).2.2.2.2 ch tl wf wc dn df dl dc dm ss sc → post (nI ((qf_room now base wt docs segs made).2.1.length + 1)) (wc, dc, dm, sc, xtc, xnc, xmc, xbr, xwt, ch, tl, wf, dn, df, dl, ss, xtk, xta, xtb, xnk, xna, xnb, xnl, xnr, xns, xfa, xfs, xfi, xrw, xrc, xcl, xhd, xre, xhi, xwo)) : wpX_keep post (xwc, xdc, xdm, xsc, xtc, xnc, xmc, xbr, xwt, xch, xtl, xwf, xdn, xdf, xdl, xss, xtk, xta, xtb, xnk, xna, xnb, xnl, xnr, xns, xfa, xfs, xfi, xrw, xrc, xcl, xhd, xre, xhi, xwo) (nI f) := by
  have hr := qf_inv_room hi
  have hno := qf_now_o hi
  unfold wpX_keep
  refine xs_isFile f hf _ (br_f (by decide) ?_)
  refine xs_room now base wt dr docs segs made hi hS _ (fun ch tl dn df dl ss wc dc dm sc hS1 => ?_)
  generalize qf_room now base wt docs segs made = R at *
  obtain ⟨rb, rw, rd, rs, rm⟩ := R
  dsimp only at *
  obtain ⟨⟨i1, i2, i3, i4, i5, i6⟩, hl6, _⟩ := hr
  have hdt : ∀ x, x ∈ rd → qf_t x.2.2.2 := fun x hx => (i5.2.2.2.1 x hx).2.2
  obtain ⟨s1, s2, ⟨s3, s4⟩, s5, ⟨s6, s7⟩, s8, s9⟩ := hS1
  have hod := qf_o_some i4
  have hon : ∀ g, g < 10 → qf_o (qf_ap now (f, some dr) g) := fun g hg => by
    unfold qf_ap
    split
    · exact hod
    · exact hno g hg
  refine xs_copy' f 26 rfl rfl (by omega) (by omega) (some dr) hod s5 _ (fun ch1 tl1 hsl hk => ?_)
  have t0 : qf_t [] := ⟨by simp, (fun x hx => nomatch hx)⟩
  have hk2 : qx_kp 26 ch1 tl1 ch1 (upd tl1 26 0) := by
    intro s o' hs _ h
    match o', h with
    | none, h => exact (pk_un hs).trans h
    | some t, h => exact ⟨(pk_un hs).trans h.1, h.2⟩
  have key : ∀ s o', s ≠ f → s ≠ 26 → qf_o o' → qx_slot ch tl s o' → qx_slot ch1 (upd tl1 26 0) s o' := fun s o' h1 h2 h3 h4 => hk2 s o' h2 h3 (hk s o' h1 h3 h4)
  have hS2 : qx_S (qf_ap now (f, some dr)) rb rw [] rd rs rm ch1 (upd tl1 26 0) xwf wc dn df dl dc dm ss sc := by
    refine ⟨fun g hg => ?_, fun g hg => key _ _ (by omega) (by omega) (i2 g hg) (s2 g hg), ⟨s3, fun k c hc => ⟨(s4 k c hc).1, ?_⟩⟩, ⟨pk_us, fun i hi => absurd hi (by simp)⟩, ⟨s6, ?_⟩, s8, s9⟩
    · by_cases z : g = f
      · subst z
        have e : qf_ap now (g, some dr) g = some dr := if_pos rfl
        rw [e]
        exact hk2 g _ (by omega) hod hsl
      · have e : qf_ap now (f, some dr) g = now g := if_neg z
        rw [e]
        exact key g _ z (by omega) (hno g hg) (s1 g hg)
    · have := qr_get_lt hc
      exact key _ _ (by omega) (by omega) (i3.2 c (qr_get_in hc)).2 (s4 k c hc).2
    · exact qx_dl_kp hdt (qx_dl_kp hdt s7 hk (Or.inl (by omega))) hk2 (Or.inl (by omega))
  refine nm_e (xs_add _ rb rw [] rd rs rm f hf hl6 ⟨hon, i2, ⟨by omega, fun c hc => (i3.2 c hc).2⟩, t0⟩ hdt hS2 _ (fun ch3 tl3 wf3 wc3 hS3 => ?_))
  have e : qf_ap now (f, some dr) f = some dr := if_pos rfl
  rw [e] at hS3
  exact hp ch3 tl3 wf3 dn df dl ss wc3 dc dm sc hS3
theorem xs_remove (now base : Nat → qf_X) (wt : List (Nat × qf_X)) (dr : List Nat) (docs : List qf_D) (segs : List Nat) (made : Nat) (hi : qf_inv now base wt dr docs segs made) (hS : qx_S now base wt dr docs segs made xch xtl xwf xwc xdn xdf xdl xdc xdm xss xsc) (f : Nat) (hf : f < 10) (post : Int32 → SX → Prop)
  (h0 : now f = none → post (-1) (xwc, xdc, xdm, xsc, xtc, xnc, xmc, xbr, xwt, xch, xtl, xwf, xdn, xdf, xdl, xss, xtk, xta, xtb, xnk, xna, xnb, xnl, xnr, xns, xfa, xfs, xfi, xrw, xrc, xcl, xhd, xre, xhi, xwo))
  (hp : ∀ t, now f = some t → ∀ ch tl wf dn df dl ss : Nat → Int32, ∀ wc dc dm sc : Int32, qx_S (qf_ap now (f, none)) (qf_room now base wt docs segs made).1 ((qf_room now base wt docs segs made).2.1 ++ [(f, none)]) dr (qf_room now base wt docs segs made).2.2.1 (qf_room now base wt docs segs made).2.2.2.1 (qf_room now base wt docs segs made).2.2.2.2 ch tl wf wc dn df dl dc dm ss sc → post (nI ((qf_room now base wt docs segs made).2.1.length + 1)) (wc, dc, dm, sc, xtc, xnc, xmc, xbr, xwt, ch, tl, wf, dn, df, dl, ss, xtk, xta, xtb, xnk, xna, xnb, xnl, xnr, xns, xfa, xfs, xfi, xrw, xrc, xcl, xhd, xre, xhi, xwo)) : wpX_remove post (xwc, xdc, xdm, xsc, xtc, xnc, xmc, xbr, xwt, xch, xtl, xwf, xdn, xdf, xdl, xss, xtk, xta, xtb, xnk, xna, xnb, xnl, xnr, xns, xfa, xfs, xfi, xrw, xrc, xcl, xhd, xre, xhi, xwo) (nI f) := by
  have hr := qf_inv_room hi
  have hno := qf_now_o hi
  unfold wpX_remove
  refine xs_there f hf (now f) (hno f hf) (hS.1 f hf) _ (fun e => br_t rfl (h0 e)) (fun t et => br_f (by decide) ?_)
  refine xs_room now base wt dr docs segs made hi hS _ (fun ch tl dn df dl ss wc dc dm sc hS1 => ?_)
  generalize qf_room now base wt docs segs made = R at *
  obtain ⟨rb, rw, rd, rs, rm⟩ := R
  dsimp only at *
  obtain ⟨⟨i1, i2, i3, i4, i5, i6⟩, hl6, _⟩ := hr
  have hdt : ∀ x, x ∈ rd → qf_t x.2.2.2 := fun x hx => (i5.2.2.2.1 x hx).2.2
  obtain ⟨s1, s2, ⟨s3, s4⟩, s5, ⟨s6, s7⟩, s8, s9⟩ := hS1
  have hon : ∀ g, g < 10 → qf_o (qf_ap now (f, none) g) := fun g hg => by
    unfold qf_ap
    split
    · exact qf_o_none
    · exact hno g hg
  have cf : (nI f).toNatClampNeg = f := nI_clamp (by omega)
  have hk2 : qx_kp f ch tl ch (upd tl f (-1)) := by
    intro s o' hs _ h
    match o', h with
    | none, h => exact (pk_un hs).trans h
    | some t, h => exact ⟨(pk_un hs).trans h.1, h.2⟩
  have hS2 : qx_S (qf_ap now (f, none)) rb rw dr rd rs rm ch (upd tl f (-1)) xwf wc dn df dl dc dm ss sc := by
    refine ⟨fun g hg => ?_, fun g hg => hk2 _ _ (by omega) (i2 g hg) (s2 g hg), ⟨s3, fun k c hc => ⟨(s4 k c hc).1, ?_⟩⟩, hk2 _ _ (by omega) (qf_o_some i4) s5, ⟨s6, ?_⟩, s8, s9⟩
    · by_cases z : g = f
      · subst z
        have e : qf_ap now (g, none) g = none := if_pos rfl
        rw [e]
        exact pk_us
      · have e : qf_ap now (f, none) g = now g := if_neg z
        rw [e]
        exact hk2 g _ z (hno g hg) (s1 g hg)
    · have := qr_get_lt hc
      exact hk2 _ _ (by omega) (i3.2 c (qr_get_in hc)).2 (s4 k c hc).2
    · exact qx_dl_kp hdt s7 hk2 (Or.inl (by omega))
  refine ⟨pk_in f 91 (by omega), nm_e ?_⟩
  rw [cf]
  refine xs_add _ rb rw dr rd rs rm f hf hl6 ⟨hon, i2, ⟨by omega, fun c hc => (i3.2 c hc).2⟩, i4⟩ hdt hS2 _ (fun ch3 tl3 wf3 wc3 hS3 => ?_)
  have e : qf_ap now (f, none) f = none := if_pos rfl
  rw [e] at hS3
  exact hp t et ch3 tl3 wf3 dn df dl ss wc3 dc dm sc hS3
end
end
section
/-! the class: crash and settle -/
theorem qx_F_now {now base : Nat → qf_X} {wt : List (Nat × qf_X)} {dr : List Nat} {ch tl ch' tl' : Nat → Int32} {f : Nat} (hf : f < 10) {o : qf_X} (ho : qx_Fo now base wt dr) (h : qx_F now base wt dr ch tl) (hk : qx_kp f ch tl ch' tl') (hs : qx_slot ch' tl' f o) : qx_F (qf_pt f o now) base wt dr ch' tl' := by
  refine ⟨fun g hg => ?_, fun g hg => hk _ _ (by omega) (ho.2.1 g hg) (h.2.1 g hg), fun k c hc => ?_, hk 26 _ (by omega) (qf_o_some ho.2.2.2) h.2.2.2⟩
  · by_cases z : g = f
    · subst z; rw [qf_pt_s]; exact hs
    · rw [qf_pt_n z]; exact hk _ _ z (ho.1 g hg) (h.1 g hg)
  · exact hk _ _ (by omega) (ho.2.2.1.2 c (qr_get_in hc)) (h.2.2.1 k c hc)
theorem qx_F_cg {now now' base : Nat → qf_X} {wt : List (Nat × qf_X)} {dr : List Nat} {ch tl : Nat → Int32} (h : qx_F now base wt dr ch tl) (e : ∀ f, f < 10 → now' f = now f) : qx_F now' base wt dr ch tl := ⟨fun f hf => by rw [e f hf]; exact h.1 f hf, h.2⟩
theorem qf_aps_take {base : Nat → qf_X} {wt : List (Nat × qf_X)} {i : Nat} (hi : i < wt.length) : qf_aps base (wt.take (i + 1)) = qf_ap (qf_aps base (wt.take i)) wt[i] := by
  rw [List.take_succ_eq_append_getElem hi, qf_aps_1]
section
variable {xwc xdc xdm xsc xtc xnc xmc xbr xwt : Int32} {xch xtl xwf xdn xdf xdl xss xtk xta xtb xnk xna xnb xnl xnr xns xfa xfs xfi xrc xcl xhd xhi xwo : Nat → Int32} {xrw xre : Nat → Int64}
theorem xs_cr2 (base : Nat → qf_X) (wt : List (Nat × qf_X)) (dr : List Nat) (docs : List qf_D) (j : Nat) (hj : j ≤ wt.length) (hwl : wt.length ≤ 6) (hb : ∀ f, f < 10 → qf_o (base f)) (hwo : ∀ c, c ∈ wt → c.1 < 10 ∧ qf_o c.2) (hd : qf_t dr) (hdt : ∀ x, x ∈ docs → qf_t x.2.2.2) (hw : ∀ k c, wt[k]? = some c → xwf k = nI c.1) (x2 : Int32) (post : Int32 → SX → Prop)
  (hp : ∀ ch tl : Nat → Int32, qx_F (qf_aps base (wt.take j)) base wt dr ch tl → qx_dl docs ch tl xdn xdf xdl → post x2 (nI j, xdc, xdm, xsc, xtc, xnc, xmc, xbr, xwt, ch, tl, xwf, xdn, xdf, xdl, xss, xtk, xta, xtb, xnk, xna, xnb, xnl, xnr, xns, xfa, xfs, xfi, xrw, xrc, xcl, xhd, xre, xhi, xwo)) :
  ∀ (n i : Nat) (ch tl : Nat → Int32), i ≤ j → j - i < n → qx_F (qf_aps base (wt.take i)) base wt dr ch tl → qx_dl docs ch tl xdn xdf xdl → wX_crash_48 post (nI j) x2 n (nI i) xwc xdc xdm xsc xtc xnc xmc xbr xwt ch tl xwf xdn xdf xdl xss xtk xta xtb xnk xna xnb xnl xnr xns xfa xfs xfi xrw xrc xcl xhd xre xhi xwo := by
  intro n
  induction n with
  | zero => intro i ch tl h1 h2; omega
  | succ n ih =>
    intro i ch tl h1 h2 h3 h4
    refine pk_le j i (fun hle => ?_) (fun hlt => ?_)
    · have e : i = j := by omega
      subst e
      exact hp ch tl h3 h4
    · have hil : i < wt.length := by omega
      have hg : wt[i]? = some wt[i] := List.getElem?_eq_getElem hil
      have ci : (nI i).toNatClampNeg = i := nI_clamp (by omega)
      have hin := hwo _ (List.getElem_mem hil)
      have hon : ∀ f, f < 10 → qf_o (qf_aps base (wt.take i) f) := qf_aps_o _ base hb (fun c hc => (hwo c (List.mem_of_mem_take hc)).2)
      refine ⟨pk_in i 6 (by omega), ?_⟩
      rw [ci]
      refine xs_copy' wt[i].1 (20 + i) (hw i _ hg) (nI_add 20 i) (by omega) (by omega) wt[i].2 hin.2 (h3.2.2.1 i _ hg) _ (fun ch1 tl1 hsl hk => ?_)
      refine nm_r (nI_1 i) (ih (i + 1) ch1 tl1 (by omega) (by omega) ?_ (qx_dl_kp hdt h4 hk (Or.inl (by omega))))
      have := qx_F_now hin.1 ⟨hon, hb, ⟨hwl, fun c hc => (hwo c hc).2⟩, hd⟩ h3 hk hsl
      rw [qf_aps_take hil]
      exact this
theorem xs_cr1 (now base : Nat → qf_X) (wt : List (Nat × qf_X)) (dr : List Nat) (docs : List qf_D) (ho : qx_Fo now base wt dr) (hdt : ∀ x, x ∈ docs → qf_t x.2.2.2) (x1 x2 : Int32) (post : Int32 → SX → Prop)
  (hp : ∀ ch tl : Nat → Int32, qx_F base base wt dr ch tl → qx_dl docs ch tl xdn xdf xdl → ∃ n : Nat, wX_crash_48 post x1 x2 n 0 xwc xdc xdm xsc xtc xnc xmc xbr xwt ch tl xwf xdn xdf xdl xss xtk xta xtb xnk xna xnb xnl xnr xns xfa xfs xfi xrw xrc xcl xhd xre xhi xwo) :
  ∀ (n f : Nat) (ch tl : Nat → Int32), f ≤ 10 → 10 - f < n → qx_F (qf_mx f base now) base wt dr ch tl → qx_dl docs ch tl xdn xdf xdl → wX_crash_25 post x1 x2 n (nI f) xwc xdc xdm xsc xtc xnc xmc xbr xwt ch tl xwf xdn xdf xdl xss xtk xta xtb xnk xna xnb xnl xnr xns xfa xfs xfi xrw xrc xcl xhd xre xhi xwo := by
  intro n
  induction n with
  | zero => intro i ch tl h1 h2; omega
  | succ n ih =>
    intro f ch tl h1 h2 h3 h4
    refine pk_le 10 f (fun hle => ?_) (fun hlt => ?_)
    · exact hp ch tl (qx_F_cg h3 (fun g hg => by rw [qf_mx_lt (by omega)])) h4
    · have ho1 : qx_Fo (qf_mx f base now) base wt dr := ⟨fun g hg => by unfold qf_mx; split; exact ho.2.1 g hg; exact ho.1 g hg, ho.2⟩
      refine xs_copy' f (10 + f) rfl (nI_add 10 f) (by omega) (by omega) (base f) (ho.2.1 f hlt) (h3.2.1 f hlt) _ (fun ch1 tl1 hsl hk => ?_)
      refine nm_r (nI_1 f) (ih (f + 1) ch1 tl1 (by omega) (by omega) ?_ (qx_dl_kp hdt h4 hk (Or.inl (by omega))))
      refine qx_F_cg (qx_F_now hlt ho1 h3 hk hsl) (fun g hg => ?_)
      by_cases z : g = f
      · subst z; rw [qf_pt_s, qf_mx_lt (by omega)]
      · rw [qf_pt_n z]
        by_cases y : g < f
        · rw [qf_mx_lt y, qf_mx_lt (by omega)]
        · rw [qf_mx_ge y, qf_mx_ge (by omega)]
theorem xs_crash (now base : Nat → qf_X) (wt : List (Nat × qf_X)) (dr : List Nat) (docs : List qf_D) (segs : List Nat) (made : Nat) (hi : qf_inv now base wt dr docs segs made) (hS : qx_S now base wt dr docs segs made xch xtl xwf xwc xdn xdf xdl xdc xdm xss xsc) (j : Nat) (hj31 : j < 2 ^ 31) (post : Int32 → SX → Prop)
  (hp : ∀ ch tl : Nat → Int32, ∀ wc : Int32, qx_S (qf_aps base (wt.take j)) base (wt.take j) dr docs segs made ch tl xwf wc xdn xdf xdl xdc xdm xss xsc → post (nI (wt.length - j)) (wc, xdc, xdm, xsc, xtc, xnc, xmc, xbr, xwt, ch, tl, xwf, xdn, xdf, xdl, xss, xtk, xta, xtb, xnk, xna, xnb, xnl, xnr, xns, xfa, xfs, xfi, xrw, xrc, xcl, xhd, xre, xhi, xwo)) : wpX_crash post (xwc, xdc, xdm, xsc, xtc, xnc, xmc, xbr, xwt, xch, xtl, xwf, xdn, xdf, xdl, xss, xtk, xta, xtb, xnk, xna, xnb, xnl, xnr, xns, xfa, xfs, xfi, xrw, xrc, xcl, xhd, xre, xhi, xwo) (nI j) := by
  have hno := qf_now_o hi
  obtain ⟨i1, i2, i3, i4, i5, i6⟩ := hi
  obtain ⟨s1, s2, ⟨s3, s4⟩, s5, ⟨s6, s7⟩, s8, s9⟩ := hS
  subst s3
  have hdt : ∀ x, x ∈ docs → qf_t x.2.2.2 := fun x hx => (i5.2.2.2.1 x hx).2.2
  refine br_t (nI_pos' hj31) (pk_lt j wt.length (fun hlt => ?_) (fun hle => ?_) rfl rfl hj31 (by omega))
  · refine nm_r (pk_sub (by omega)) ⟨11, ?_⟩
    refine xs_cr1 now base wt dr docs ⟨hno, i2, ⟨i3.1, fun c hc => (i3.2 c hc).2⟩, i4⟩ hdt (nI j) (nI (wt.length - j)) post ?_ 11 0 xch xtl (by omega) (by omega) ⟨fun f hf => by rw [qf_mx_ge (by omega)]; exact s1 f hf, s2, fun k c hc => (s4 k c hc).2, s5⟩ s7
    intro ch tl hF hdl
    refine ⟨j + 1, xs_cr2 base wt dr docs j (by omega) i3.1 i2 i3.2 i4 hdt (fun k c hc => (s4 k c hc).1) (nI (wt.length - j)) post ?_ (j + 1) 0 ch tl (by omega) (by omega) hF hdl⟩
    intro ch1 tl1 hF1 hdl1
    refine hp ch1 tl1 (nI j) ⟨hF1.1, hF1.2.1, ⟨by rw [List.length_take]; congr 1; omega, fun k c hc => ?_⟩, hF1.2.2.2, ⟨s6, hdl1⟩, s8, s9⟩
    have hk := qr_get_lt hc
    rw [List.length_take] at hk
    rw [List.getElem?_take_of_lt (by omega)] at hc
    exact ⟨(s4 k c hc).1, hF1.2.2.1 k c hc⟩
  · have e1 : wt.take j = wt := List.take_of_length_le hle
    rw [e1] at hp
    have e2 : wt.length - j = 0 := by omega
    rw [e2] at hp
    exact hp xch xtl _ ⟨fun f hf => by rw [← i1 f hf]; exact s1 f hf, s2, ⟨rfl, s4⟩, s5, ⟨s6, s7⟩, s8, s9⟩
theorem xs_settle (now base : Nat → qf_X) (wt : List (Nat × qf_X)) (dr : List Nat) (docs : List qf_D) (segs : List Nat) (made : Nat) (hi : qf_inv now base wt dr docs segs made) (hS : qx_S now base wt dr docs segs made xch xtl xwf xwc xdn xdf xdl xdc xdm xss xsc) (post : Int32 → SX → Prop)
  (hp : ∀ ch tl dn df dl ss : Nat → Int32, ∀ wc dc dm sc : Int32, qx_S now now [] dr (qd_gd 0 (qd_sy docs segs wt now made).1 (qd_sy docs segs wt now made).2) (qd_gs 0 (qd_sy docs segs wt now made).1 (qd_sy docs segs wt now made).2) (qd_m2 wt now made) ch tl xwf wc dn df dl dc dm ss sc → post (nI (qd_gd 0 (qd_sy docs segs wt now made).1 (qd_sy docs segs wt now made).2).length) (wc, dc, dm, sc, xtc, xnc, xmc, xbr, xwt, ch, tl, xwf, dn, df, dl, ss, xtk, xta, xtb, xnk, xna, xnb, xnl, xnr, xns, xfa, xfs, xfi, xrw, xrc, xcl, xhd, xre, xhi, xwo)) : wpX_settle post (xwc, xdc, xdm, xsc, xtc, xnc, xmc, xbr, xwt, xch, xtl, xwf, xdn, xdf, xdl, xss, xtk, xta, xtb, xnk, xna, xnb, xnl, xnr, xns, xfa, xfs, xfi, xrw, xrc, xcl, xhd, xre, xhi, xwo) := by
  have hi2 := (qf_inv_sync hi).1
  unfold wpX_settle
  refine xs_sync now base wt dr docs segs made hi hS _ (fun ch tl dn df dl ss wc dc dm sc hS1 => ?_)
  generalize qd_sy docs segs wt now made = R at *
  obtain ⟨rd, rs⟩ := R
  dsimp only at *
  obtain ⟨i1, i2, i3, i4, i5, i6⟩ := hi2
  obtain ⟨s1, s2, ⟨s3, s4⟩, s5, ⟨s6, s7⟩, s8, ⟨s9, s10⟩⟩ := hS1
  have hb := qd_dec10 i6 i5.2.1
  have := i5.1
  refine xs_ga rd rs 0 (by omega) (by omega) (by omega) (by omega) (fun x hx => (i5.2.2.2.1 x hx).2.2) i5.1 s6 s10 s7 0 rfl _ (fun ch1 tl1 dn1 df1 dl1 ss1 hlo hdl hsg => ?_)
  exact hp ch1 tl1 dn1 df1 dl1 ss1 wc _ dm _ ⟨fun f hf => hlo _ _ (by omega) (i2 f hf) (s1 f hf), fun f hf => hlo _ _ (by omega) (i2 f hf) (s2 f hf), ⟨s3, (fun k c hc => nomatch hc)⟩, hlo _ _ (by omega) (qf_o_some i4) s5, ⟨rfl, hdl⟩, s8, rfl, hsg⟩
end
end
section
/-! the class: what the calls that only look answer -/
def qn_6 (t : List Nat) : Nat → Nat
  | 0 => 1
  | i + 1 => qn_6 t i + (if t.getD i 0 = 6 then 1 else 0)
theorem qn_6_le (t : List Nat) : ∀ i, qn_6 t i ≤ i + 1
  | 0 => Nat.le_refl _
  | i + 1 => by
    have := qn_6_le t i
    show qn_6 t i + _ ≤ _
    split <;> omega
/-- the number of the LIVE document of a file, from the d-th on -/
def ql_v (f : Nat) : List qf_D → Int32
  | [] => -1
  | x :: l => if x.2.2.1 = true ∧ x.2.1 = f then nI x.1 else ql_v f l
def ql_cl : List qf_D → Nat
  | [] => 0
  | x :: l => (if x.2.2.1 = true then 1 else 0) + ql_cl l
def qn_th (now : Nat → qf_X) : Nat → Nat
  | 0 => 0
  | i + 1 => qn_th now i + (match now i with
      | some _ => 1
      | none => 0)
section
variable {xwc xdc xdm xsc xtc xnc xmc xbr xwt : Int32} {xch xtl xwf xdn xdf xdl xss xtk xta xtb xnk xna xnb xnl xnr xns xfa xfs xfi xrc xcl xhd xhi xwo : Nat → Int32} {xrw xre : Nat → Int64}
theorem xl_lines1 (s : Nat) (hs : s < 91) (t : List Nat) (ht : qf_t t) (h : qx_slot xch xtl s (some t)) (post : Int32 → Prop) (hp : post (nI (qn_6 t t.length))) :
  ∀ (n i : Nat), i ≤ t.length → t.length - i < n → wX_countLines_4 post (nI s) xwc xdc xdm xsc xtc xnc xmc xbr xwt xch xtl xwf xdn xdf xdl xss xtk xta xtb xnk xna xnb xnl xnr xns xfa xfs xfi xrw xrc xcl xhd xre xhi xwo n (nI (qn_6 t i)) (nI i) := by
  intro n
  have hL := ht.1
  induction n with
  | zero => intro i h1 h2; omega
  | succ n ih =>
    intro i h1 h2
    have cs : (nI s).toNatClampNeg = s := nI_clamp (by omega)
    refine ⟨pk_in s 91 hs, ?_⟩
    rw [cs, h.1]
    refine pk_le t.length i (fun hle => ?_) (fun hlt => ?_)
    · have e : i = t.length := by omega
      subst e
      exact hp
    · have hc := qf_t_get ht hlt
      refine ⟨pk_in (s * 40 + i) 3640 (by omega) (xs_ix s i), ?_⟩
      rw [xs_ixc (by omega), h.2 i hlt]
      have := ih (i + 1) (by omega) (by omega)
      refine pk_eq (t.getD i 0) 6 (fun he => ?_) (fun he => ?_)
      · have e : qn_6 t (i + 1) = qn_6 t i + 1 := by show qn_6 t i + _ = _; rw [if_pos he]
        rw [e] at this
        exact nm_r (nI_1 _) (nm_r (nI_1 i) this)
      · have e : qn_6 t (i + 1) = qn_6 t i := by show qn_6 t i + _ = _; rw [if_neg he]; rfl
        rw [e] at this
        exact nm_r (nI_1 i) this
theorem xl_lines (s : Nat) (hs : s < 91) (t : List Nat) (ht : qf_t t) (h : qx_slot xch xtl s (some t)) (post : Int32 → Prop) (hp : post (nI (qn_6 t t.length))) : wpX_countLines post (xwc, xdc, xdm, xsc, xtc, xnc, xmc, xbr, xwt, xch, xtl, xwf, xdn, xdf, xdl, xss, xtk, xta, xtb, xnk, xna, xnb, xnl, xnr, xns, xfa, xfs, xfi, xrw, xrc, xcl, xhd, xre, xhi, xwo) (nI s) :=
  ⟨t.length + 1, xl_lines1 s hs t ht h post hp (t.length + 1) 0 (by omega) (by omega)⟩
theorem xl_live1 (docs : List qf_D) (f : Nat) (hf : f < 10) (hd : docs.length ≤ 64) (hdl : qx_dl docs xch xtl xdn xdf xdl) (hdf : ∀ x, x ∈ docs → x.2.1 < 10) (hdc : xdc = nI docs.length) (post : Int32 → Prop) :
  ∀ (n d : Nat), d ≤ docs.length → docs.length - d < n → post (ql_v f (docs.drop d)) → wX_liveNumber_2 post (nI f) xwc xdc xdm xsc xtc xnc xmc xbr xwt xch xtl xwf xdn xdf xdl xss xtk xta xtb xnk xna xnb xnl xnr xns xfa xfs xfi xrw xrc xcl xhd xre xhi xwo n (nI d) := by
  intro n
  induction n with
  | zero => intro i h1 h2; omega
  | succ n ih =>
    intro d h1 h2 h3
    refine pk_le docs.length d (fun hle => ?_) (fun hlt => ?_) hdc
    · rw [List.drop_of_length_le hle] at h3
      exact h3
    · have cd : (nI d).toNatClampNeg = d := nI_clamp (by omega)
      obtain ⟨a1, a2, a3, a4⟩ := hdl d _ (List.getElem?_eq_getElem hlt)
      have hfd := hdf _ (List.getElem_mem hlt)
      have hi : vp_in (nI d) 64 := pk_in d 64 (by omega)
      rw [List.drop_eq_getElem_cons hlt] at h3
      unfold ql_v at h3
      refine ⟨hi, ?_⟩
      rw [cd, a3]
      by_cases z : docs[d].2.2.1 = true
      · rw [if_pos z]
        refine br_f (by decide) ⟨hi, ?_⟩
        rw [a2]
        refine pk_eq docs[d].2.1 f (fun he => ⟨hi, ?_⟩) (fun he => ?_)
        · rw [a1]
          rw [if_pos ⟨z, he⟩] at h3
          exact h3
        · rw [if_neg (fun y => he y.2)] at h3
          exact nm_r (nI_1 d) (ih (d + 1) (by omega) (by omega) h3)
      · rw [if_neg z]
        rw [if_neg (fun y => z y.1)] at h3
        exact br_t rfl (nm_r (nI_1 d) (ih (d + 1) (by omega) (by omega) h3))
theorem xl_live (docs : List qf_D) (f : Nat) (hf : f < 10) (hd : docs.length ≤ 64) (hdl : qx_dl docs xch xtl xdn xdf xdl) (hdf : ∀ x, x ∈ docs → x.2.1 < 10) (hdc : xdc = nI docs.length) (post : Int32 → Prop) (hp : post (ql_v f docs)) : wpX_liveNumber post (xwc, xdc, xdm, xsc, xtc, xnc, xmc, xbr, xwt, xch, xtl, xwf, xdn, xdf, xdl, xss, xtk, xta, xtb, xnk, xna, xnb, xnl, xnr, xns, xfa, xfs, xfi, xrw, xrc, xcl, xhd, xre, xhi, xwo) (nI f) :=
  ⟨docs.length + 1, xl_live1 docs f hf hd hdl hdf hdc post (docs.length + 1) 0 (by omega) (by omega) hp⟩
theorem xl_let (c : Nat) (hc : c < 7) (post : Int32 → Prop) (h0 : ¬ c < 6 → post 0) (h1 : c < 6 → post 1) : wpX_isLetter post (nI c) :=
  br_f (nI_pos (by omega)) (pk_le 6 c (fun h => h0 (by omega)) (fun h => h1 h))
theorem xl_tof (a b c : Nat) (ha : a < 8) (hb : b < 8) (hc : c < 8) : ((nI a <<< ((6 : Int32) &&& 31)) + (nI b <<< ((3 : Int32) &&& 31))) + nI c = nI (64 * a + 8 * b + c) := by
  rw [pk_shlN (n := a) _ 6 (by decide) (by omega), pk_shlN (n := b) _ 3 (by decide) (by omega), nI_add, nI_add]
  congr 1
  omega
/-- the class's code of the trigram at a place -/
def qt_8 (t : List Nat) (i : Nat) : Int32 := match qt_g t i with
  | none => -1
  | some c => nI (qt_68 c)
theorem qt_68_eq {a b c : Nat} (ha : a < 6) (hb : b < 6) (hc : c < 6) : qt_68 (36 * a + 6 * b + c) = 64 * a + 8 * b + c := by unfold qt_68; omega
theorem qt_68_lt {c : Nat} (h : c < 216) : qt_68 c < 512 := by unfold qt_68; omega
theorem qt_68_inj {c d : Nat} (hc : c < 216) (hd : d < 216) (h : qt_68 c = qt_68 d) : c = d := by unfold qt_68 at h; omega
theorem xl_tat (s i : Nat) (hs : s < 91) (t : List Nat) (ht : qf_t t) (h : qx_slot xch xtl s (some t)) (hi : i + 2 < t.length) (post : Int32 → Prop) (hp : post (qt_8 t i)) : wpX_trigramAt post (xwc, xdc, xdm, xsc, xtc, xnc, xmc, xbr, xwt, xch, xtl, xwf, xdn, xdf, xdl, xss, xtk, xta, xtb, xnk, xna, xnb, xnl, xnr, xns, xfa, xfs, xfi, xrw, xrc, xcl, xhd, xre, xhi, xwo) (nI s) (nI i) := by
  have hL := ht.1
  have c0 := qf_t_get ht (show i < t.length by omega)
  have c1 := qf_t_get ht (show i + 1 < t.length by omega)
  have c2 := qf_t_get ht hi
  refine nm_r (xs_ix s i) ⟨pk_in (s * 40 + i) 3640 (by omega), nm_r (e' := nI (t.getD i 0)) (by rw [nI_clamp (by omega)]; exact h.2 i (by omega)) ⟨pk_in (s * 40 + (i + 1)) 3640 (by omega) (nI_1 _), nm_r (e' := nI (t.getD (i + 1) 0)) (by rw [nI_1, nI_clamp (by omega)]; exact h.2 (i + 1) (by omega)) ⟨pk_in (s * 40 + (i + 2)) 3640 (by omega) (nI_add _ 2), nm_r (e' := nI (t.getD (i + 2) 0)) (by rw [show nI (s * 40 + i) + 2 = nI (s * 40 + (i + 2)) from nI_add _ 2, nI_clamp (by omega)]; exact h.2 (i + 2) hi) ?_⟩⟩⟩
  have hn : ¬ (t.getD i 0 < 6 ∧ t.getD (i + 1) 0 < 6 ∧ t.getD (i + 2) 0 < 6) → post (-1) := by
    intro hh
    have e : qt_8 t i = -1 := by unfold qt_8 qt_g; rw [if_neg (fun y => hh y.2)]
    rw [e] at hp
    exact hp
  refine xl_let _ c0 _ (fun z => br_t rfl (hn (fun y => z y.1))) (fun z0 => br_f (by decide) ?_)
  refine xl_let _ c1 _ (fun z => br_t rfl (hn (fun y => z y.2.1))) (fun z1 => br_f (by decide) ?_)
  refine xl_let _ c2 _ (fun z => br_t rfl (hn (fun y => z y.2.2))) (fun z2 => br_f (by decide) ?_)
  show post _
  rw [xl_tof _ _ _ (by omega) (by omega) (by omega)]
  have e : qt_8 t i = nI (64 * t.getD i 0 + 8 * t.getD (i + 1) 0 + t.getD (i + 2) 0) := by
    unfold qt_8 qt_g
    rw [if_pos ⟨hi, z0, z1, z2⟩]
    dsimp only
    rw [qt_68_eq z0 z1 z2]
  rw [e] at hp
  exact hp
/-- whether a text has a trigram, by the class's code -/
def qt_h8 (t : List Nat) (m x : Nat) : Bool := (List.range m).any (fun i => match qt_g t i with
  | none => false
  | some c => decide (qt_68 c = x))
theorem xl_has1 (s x : Nat) (hs : s < 91) (hx : x < 512) (t : List Nat) (ht : qf_t t) (h : qx_slot xch xtl s (some t)) (post : Int32 → Prop) (hp : post (if qt_h8 t t.length x = true then 1 else 0)) :
  ∀ (n i : Nat), i ≤ t.length → t.length - i < n → qt_h8 t i x = false → wX_hasTrigram_2 post (nI s) (nI x) xwc xdc xdm xsc xtc xnc xmc xbr xwt xch xtl xwf xdn xdf xdl xss xtk xta xtb xnk xna xnb xnl xnr xns xfa xfs xfi xrw xrc xcl xhd xre xhi xwo n (nI i) := by
  intro n
  have hL := ht.1
  induction n with
  | zero => intro i h1 h2; omega
  | succ n ih =>
    intro i h1 h2 h3
    have cs : (nI s).toNatClampNeg = s := nI_clamp (by omega)
    refine ⟨pk_in s 91 hs, ?_⟩
    rw [cs, h.1]
    refine pk_le t.length (i + 2) (fun hle => ?_) (fun hlt => ?_) rfl (nI_add i 2)
    · have e : qt_h8 t t.length x = false := by
        cases hq : qt_h8 t t.length x with
        | false => rfl
        | true =>
          unfold qt_h8 at hq h3
          rw [List.any_eq_true] at hq
          obtain ⟨j, hj, hq⟩ := hq
          rw [List.any_eq_false] at h3
          by_cases z : j < i
          · exact absurd hq (h3 j (List.mem_range.mpr z))
          · rw [qt_g_none (by omega)] at hq
            exact nomatch hq
      rw [e] at hp
      exact hp
    · refine xl_tat s i hs t ht h (by omega) _ ?_
      have e1 : qt_h8 t (i + 1) x = (qt_h8 t i x || (match qt_g t i with
          | none => false
          | some c => decide (qt_68 c = x))) := by
        unfold qt_h8
        rw [List.range_succ, List.any_append]
        simp
      rw [h3, Bool.false_or] at e1
      unfold qt_8
      cases hg : qt_g t i with
      | none =>
        rw [hg] at e1
        dsimp only at e1 ⊢
        refine br_f (fun z => xs_nm1 (by omega) z.symm) (nm_r (nI_1 i) (ih (i + 1) (by omega) (by omega) e1))
      | some c =>
        rw [hg] at e1
        have hc := (qt_g_lt hg).1
        have hc8 := qt_68_lt hc
        dsimp only at e1 ⊢
        refine pk_eq (qt_68 c) x (fun he => ?_) (fun he => nm_r (nI_1 i) (ih (i + 1) (by omega) (by omega) (by rw [e1]; exact decide_eq_false he)))
        have : qt_h8 t t.length x = true := by
          unfold qt_h8
          rw [List.any_eq_true]
          exact ⟨i, List.mem_range.mpr (by omega), by rw [hg]; exact decide_eq_true he⟩
        rw [this] at hp
        exact hp
theorem xl_has (s x : Nat) (hs : s < 91) (hx : x < 512) (t : List Nat) (ht : qf_t t) (h : qx_slot xch xtl s (some t)) (xs' xx : Int32) (es : xs' = nI s) (exx : xx = nI x) (post : Int32 → Prop) (hp : post (if qt_h8 t t.length x = true then 1 else 0)) : wpX_hasTrigram post (xwc, xdc, xdm, xsc, xtc, xnc, xmc, xbr, xwt, xch, xtl, xwf, xdn, xdf, xdl, xss, xtk, xta, xtb, xnk, xna, xnb, xnl, xnr, xns, xfa, xfs, xfi, xrw, xrc, xcl, xhd, xre, xhi, xwo) xs' xx := by
  subst es; subst exx
  exact ⟨t.length + 1, xl_has1 s x hs hx t ht h post hp (t.length + 1) 0 (by omega) (by omega) rfl⟩
theorem xl_has0 (s x : Nat) (hs : s < 91) (h : qx_slot xch xtl s none) (post : Int32 → Prop) (hp : post 0) : wpX_hasTrigram post (xwc, xdc, xdm, xsc, xtc, xnc, xmc, xbr, xwt, xch, xtl, xwf, xdn, xdf, xdl, xss, xtk, xta, xtb, xnk, xna, xnb, xnl, xnr, xns, xfa, xfs, xfi, xrw, xrc, xcl, xhd, xre, xhi, xwo) (nI s) (nI x) := by
  have cs : (nI s).toNatClampNeg = s := nI_clamp (by omega)
  refine ⟨1, pk_in s 91 hs, ?_⟩
  rw [cs, show xtl s = -1 from h]
  exact br_t (by decide) hp
end
end
section
/-! the class: the trigrams of a text are marked and counted -/
def qx_hd (t : List Nat) (m : Nat) (hd : Nat → Int32) : Prop := ∀ c, c < 216 → hd (qt_68 c) = if qt_any t m c = true then 1 else 0
theorem qt_n_le (t : List Nat) : ∀ i, qt_n t i ≤ i
  | 0 => Nat.le_refl _
  | i + 1 => by
    have := qt_n_le t i
    show qt_n t i + _ ≤ _
    split <;> omega
theorem qx_hd_none {t : List Nat} {i : Nat} {hd : Nat → Int32} (h : qx_hd t i hd) (hg : qt_g t i = none) : qx_hd t (i + 1) hd ∧ qt_n t (i + 1) = qt_n t i := by
  constructor
  · intro c hc
    rw [h c hc, qt_any_s, hg]
    simp
  · show qt_n t i + _ = _
    have : qt_new t i = false := by unfold qt_new; rw [hg]
    rw [this]
    rfl
theorem qx_hd_old {t : List Nat} {i c : Nat} {hd : Nat → Int32} (h : qx_hd t i hd) (hg : qt_g t i = some c) (ha : qt_any t i c = true) : qx_hd t (i + 1) hd ∧ qt_n t (i + 1) = qt_n t i := by
  constructor
  · intro d hd'
    rw [h d hd', qt_any_s, hg]
    by_cases z : c = d
    · subst z; rw [ha]; rfl
    · have : (some c == some d) = false := by simp [z]
      rw [this, Bool.or_false]
  · show qt_n t i + _ = _
    have : qt_new t i = false := by unfold qt_new; rw [hg]; simp [ha]
    rw [this]
    rfl
theorem qx_hd_new {t : List Nat} {i c : Nat} {hd : Nat → Int32} (h : qx_hd t i hd) (hg : qt_g t i = some c) (ha : qt_any t i c = false) : qx_hd t (i + 1) (upd hd (qt_68 c) 1) ∧ qt_n t (i + 1) = qt_n t i + 1 := by
  have hc := (qt_g_lt hg).1
  constructor
  · intro d hd'
    rw [qt_any_s, hg]
    by_cases z : c = d
    · subst z; rw [pk_us]; simp
    · have : (some c == some d) = false := by simp [z]
      rw [this, Bool.or_false, pk_un (fun e => z (qt_68_inj hc hd' e.symm)), h d hd']
  · show qt_n t i + _ = _
    have : qt_new t i = true := by unfold qt_new; rw [hg]; simp [ha]
    rw [this]
    rfl
section
variable {xwc xdc xdm xsc xtc xnc xmc xbr xwt : Int32} {xch xtl xwf xdn xdf xdl xss xtk xta xtb xnk xna xnb xnl xnr xns xfa xfs xfi xrc xcl xhd xhi xwo : Nat → Int32} {xrw xre : Nat → Int64}
theorem xm_1 (s : Nat) (hs : s < 91) (t : List Nat) (ht : qf_t t) (h : qx_slot xch xtl s (some t)) (post : Int32 → SX → Prop)
  (hp : ∀ hd : Nat → Int32, qx_hd t t.length hd → post (nI (qt_cnt t)) (xwc, xdc, xdm, xsc, xtc, xnc, xmc, xbr, xwt, xch, xtl, xwf, xdn, xdf, xdl, xss, xtk, xta, xtb, xnk, xna, xnb, xnl, xnr, xns, xfa, xfs, xfi, xrw, xrc, xcl, hd, xre, xhi, xwo)) :
  ∀ (n i : Nat) (hd : Nat → Int32), i ≤ t.length → t.length - i < n → qx_hd t i hd → wX_markTrigrams_26 post (nI s) xwc xdc xdm xsc xtc xnc xmc xbr xwt n (nI (qt_n t i)) (nI i) xch xtl xwf xdn xdf xdl xss xtk xta xtb xnk xna xnb xnl xnr xns xfa xfs xfi xrw xrc xcl hd xre xhi xwo := by
  intro n
  have hL := ht.1
  induction n with
  | zero => intro i hd h1 h2; omega
  | succ n ih =>
    intro i hd h1 h2 h3
    have cs : (nI s).toNatClampNeg = s := nI_clamp (by omega)
    have hnl := qt_n_le t i
    refine ⟨pk_in s 91 hs, ?_⟩
    rw [cs, h.1]
    refine pk_le t.length (i + 2) (fun hle => ?_) (fun hlt => ?_) rfl (nI_add i 2)
    · have := hp hd (fun c hc => by rw [h3 c hc, qt_any_all hle])
      rw [← qt_n_all i hle h1] at this
      exact this
    · refine xl_tat s i hs t ht h (by omega) _ ?_
      unfold qt_8
      cases hg : qt_g t i with
      | none =>
        dsimp only
        obtain ⟨g1, g2⟩ := qx_hd_none h3 hg
        have := ih (i + 1) hd (by omega) (by omega) g1
        rw [g2] at this
        exact br_t rfl (nm_r (nI_1 i) this)
      | some c =>
        dsimp only
        have hc := (qt_g_lt hg).1
        have hc8 := qt_68_lt hc
        have cc : (nI (qt_68 c)).toNatClampNeg = qt_68 c := nI_clamp (by omega)
        have hi : vp_in (nI (qt_68 c)) 512 := pk_in (qt_68 c) 512 hc8
        refine br_f (xs_nm1 (by omega)) ⟨hi, ?_⟩
        rw [cc, h3 c hc]
        cases ha : qt_any t i c with
        | true =>
          obtain ⟨g1, g2⟩ := qx_hd_old h3 hg ha
          have := ih (i + 1) hd (by omega) (by omega) g1
          rw [g2] at this
          exact br_f (by decide) (nm_r (nI_1 i) this)
        | false =>
          obtain ⟨g1, g2⟩ := qx_hd_new h3 hg ha
          have := ih (i + 1) _ (by omega) (by omega) g1
          rw [g2] at this
          refine br_t (by decide) ⟨hi, nm_e (nm_r (nI_1 _) (nm_r (nI_1 i) ?_))⟩
          rw [xs_b1]
          exact this
theorem xm_0 (x1 : Int32) (post : Int32 → SX → Prop) (hp : ∀ hd : Nat → Int32, (∀ j, j < 512 → hd j = 0) → ∃ n : Nat, wX_markTrigrams_26 post x1 xwc xdc xdm xsc xtc xnc xmc xbr xwt n 0 0 xch xtl xwf xdn xdf xdl xss xtk xta xtb xnk xna xnb xnl xnr xns xfa xfs xfi xrw xrc xcl hd xre xhi xwo) :
  ∀ (n i : Nat) (hd : Nat → Int32), i ≤ 512 → 512 - i < n → (∀ j, j < i → hd j = 0) → wX_markTrigrams_2 post x1 xwc xdc xdm xsc xtc xnc xmc xbr xwt n (nI i) xch xtl xwf xdn xdf xdl xss xtk xta xtb xnk xna xnb xnl xnr xns xfa xfs xfi xrw xrc xcl hd xre xhi xwo := by
  intro n
  induction n with
  | zero => intro i hd h1 h2; omega
  | succ n ih =>
    intro i hd h1 h2 h3
    refine pk_le 512 i (fun hle => hp hd (fun j hj => h3 j (by omega))) (fun hlt => ?_)
    have ci : (nI i).toNatClampNeg = i := nI_clamp (by omega)
    refine ⟨pk_in i 512 hlt, nm_e (nm_r (nI_1 i) ?_)⟩
    rw [ci, xs_b0]
    refine ih (i + 1) _ (by omega) (by omega) (fun j hj => ?_)
    by_cases z : j = i
    · subst z; exact pk_us
    · exact (pk_un z).trans (h3 j (by omega))
theorem xm_mark (s : Nat) (hs : s < 91) (t : List Nat) (ht : qf_t t) (h : qx_slot xch xtl s (some t)) (post : Int32 → SX → Prop)
  (hp : ∀ hd : Nat → Int32, qx_hd t t.length hd → post (nI (qt_cnt t)) (xwc, xdc, xdm, xsc, xtc, xnc, xmc, xbr, xwt, xch, xtl, xwf, xdn, xdf, xdl, xss, xtk, xta, xtb, xnk, xna, xnb, xnl, xnr, xns, xfa, xfs, xfi, xrw, xrc, xcl, hd, xre, xhi, xwo)) : wpX_markTrigrams post (xwc, xdc, xdm, xsc, xtc, xnc, xmc, xbr, xwt, xch, xtl, xwf, xdn, xdf, xdl, xss, xtk, xta, xtb, xnk, xna, xnb, xnl, xnr, xns, xfa, xfs, xfi, xrw, xrc, xcl, xhd, xre, xhi, xwo) (nI s) := by
  refine ⟨513, xm_0 (nI s) post ?_ 513 0 xhd (by omega) (by omega) (fun j hj => absurd hj (by omega))⟩
  intro hd h0
  refine ⟨t.length + 1, xm_1 s hs t ht h post hp (t.length + 1) 0 hd (by omega) (by omega) ?_⟩
  intro c hc
  rw [h0 _ (qt_68_lt hc)]
  have : qt_any t 0 c = false := rfl
  rw [this]
  rfl
/-- file -/
theorem xl_file (now base : Nat → qf_X) (wt : List (Nat × qf_X)) (dr : List Nat) (docs : List qf_D) (segs : List Nat) (made : Nat) (hi : qf_inv now base wt dr docs segs made) (hS : qx_S now base wt dr docs segs made xch xtl xwf xwc xdn xdf xdl xdc xdm xss xsc) (p0 p1 : Int32) (post : Int32 → SX → Prop)
  (hb : (p0 < 0 ∨ 10 ≤ p0) → post (-1) (xwc, xdc, xdm, xsc, xtc, xnc, xmc, xbr, xwt, xch, xtl, xwf, xdn, xdf, xdl, xss, xtk, xta, xtb, xnk, xna, xnb, xnl, xnr, xns, xfa, xfs, xfi, xrw, xrc, xcl, xhd, xre, xhi, xwo))
  (h3 : ∀ f, f < 10 → p0 = nI f → p1 = 3 → post (ql_v f docs) (xwc, xdc, xdm, xsc, xtc, xnc, xmc, xbr, xwt, xch, xtl, xwf, xdn, xdf, xdl, xss, xtk, xta, xtb, xnk, xna, xnb, xnl, xnr, xns, xfa, xfs, xfi, xrw, xrc, xcl, xhd, xre, xhi, xwo))
  (h0 : ∀ f, f < 10 → p0 = nI f → ¬ p1 = 3 → now f = none → post (-1) (xwc, xdc, xdm, xsc, xtc, xnc, xmc, xbr, xwt, xch, xtl, xwf, xdn, xdf, xdl, xss, xtk, xta, xtb, xnk, xna, xnb, xnl, xnr, xns, xfa, xfs, xfi, xrw, xrc, xcl, xhd, xre, xhi, xwo))
  (h1 : ∀ f t, f < 10 → p0 = nI f → now f = some t → ¬ p1 = 0 → ¬ p1 = 1 → ¬ p1 = 2 → ¬ p1 = 3 → post (-1) (xwc, xdc, xdm, xsc, xtc, xnc, xmc, xbr, xwt, xch, xtl, xwf, xdn, xdf, xdl, xss, xtk, xta, xtb, xnk, xna, xnb, xnl, xnr, xns, xfa, xfs, xfi, xrw, xrc, xcl, xhd, xre, xhi, xwo))
  (g0 : ∀ f t, f < 10 → p0 = nI f → now f = some t → p1 = 0 → post (nI t.length) (xwc, xdc, xdm, xsc, xtc, xnc, xmc, xbr, xwt, xch, xtl, xwf, xdn, xdf, xdl, xss, xtk, xta, xtb, xnk, xna, xnb, xnl, xnr, xns, xfa, xfs, xfi, xrw, xrc, xcl, xhd, xre, xhi, xwo))
  (g1 : ∀ f t, f < 10 → p0 = nI f → now f = some t → p1 = 1 → post (nI (qn_6 t t.length)) (xwc, xdc, xdm, xsc, xtc, xnc, xmc, xbr, xwt, xch, xtl, xwf, xdn, xdf, xdl, xss, xtk, xta, xtb, xnk, xna, xnb, xnl, xnr, xns, xfa, xfs, xfi, xrw, xrc, xcl, xhd, xre, xhi, xwo))
  (g2 : ∀ f t, f < 10 → p0 = nI f → now f = some t → p1 = 2 → ∀ hd : Nat → Int32, post (nI (qt_cnt t)) (xwc, xdc, xdm, xsc, xtc, xnc, xmc, xbr, xwt, xch, xtl, xwf, xdn, xdf, xdl, xss, xtk, xta, xtb, xnk, xna, xnb, xnl, xnr, xns, xfa, xfs, xfi, xrw, xrc, xcl, hd, xre, xhi, xwo)) : wpX_file post (xwc, xdc, xdm, xsc, xtc, xnc, xmc, xbr, xwt, xch, xtl, xwf, xdn, xdf, xdl, xss, xtk, xta, xtb, xnk, xna, xnb, xnl, xnr, xns, xfa, xfs, xfi, xrw, xrc, xcl, xhd, xre, xhi, xwo) p0 p1 := by
  have hno := qf_now_o hi
  have hb10 := qd_dec10 hi.2.2.2.2.2 hi.2.2.2.2.1.2.1
  have hsm := hi.2.2.2.2.1.1
  unfold wpX_file
  refine xs_fileC p0 _ (fun z => br_t rfl (hb z)) (fun f hf e => br_f (by decide) ?_)
  subst e
  have cf : (nI f).toNatClampNeg = f := nI_clamp (by omega)
  refine br_c (fun z => ?_) (fun z => ?_)
  · exact xl_live docs f hf (by omega) hS.2.2.2.2.1.2 (fun x hx => (hi.2.2.2.2.1.2.2.2.1 x hx).2.1) hS.2.2.2.2.1.1 _ (h3 f hf rfl z)
  · refine xs_there f hf (now f) (hno f hf) (hS.1 f hf) _ (fun e => br_t rfl (h0 f hf rfl z e)) (fun t e => br_f (by decide) ?_)
    have hs : qx_slot xch xtl f (some t) := by rw [← e]; exact hS.1 f hf
    have ht := hno f hf t e
    have hbad : (p1 < 0 ∨ 2 < p1) → post (-1) (xwc, xdc, xdm, xsc, xtc, xnc, xmc, xbr, xwt, xch, xtl, xwf, xdn, xdf, xdl, xss, xtk, xta, xtb, xnk, xna, xnb, xnl, xnr, xns, xfa, xfs, xfi, xrw, xrc, xcl, xhd, xre, xhi, xwo) := by
      intro y
      refine h1 f t hf rfl e ?_ ?_ ?_ z
      · intro w; subst w; rcases y with y | y <;> exact absurd y (by decide)
      · intro w; subst w; rcases y with y | y <;> exact absurd y (by decide)
      · intro w; subst w; rcases y with y | y <;> exact absurd y (by decide)
    refine br_c (fun y => hbad (Or.inl y)) (fun y1 => br_c (fun y => hbad (Or.inr y)) (fun y2 => ?_))
    refine br_c (fun w => ⟨pk_in f 91 (by omega), ?_⟩) (fun w0 => br_c (fun w => ?_) (fun w1 => br_c (fun w => ?_) (fun _ => trivial)))
    · rw [cf, hs.1]; exact g0 f t hf rfl e w
    · exact xl_lines f (by omega) t ht hs _ (g1 f t hf rfl e w)
    · exact xm_mark f (by omega) t ht hs _ (fun hd _ => g2 f t hf rfl e w hd)
end
end
section
/-! the class: having, segment, document, and the smaller looks -/
theorem qt_h8_any {t : List Nat} {m c : Nat} (hc : c < 216) : qt_h8 t m (qt_68 c) = qt_any t m c := by
  unfold qt_h8 qt_any
  congr 1
  funext i
  cases hg : qt_g t i with
  | none => rfl
  | some d =>
    have hd := (qt_g_lt hg).1
    by_cases z : d = c
    · subst z; simp
    · have : ¬ qt_68 d = qt_68 c := fun e => z (qt_68_inj hd hc e)
      simp [z, this]
theorem qt_h8_bad {t : List Nat} {m a b c : Nat} (ha : a < 8) (hb : b < 8) (hc : c < 8) (h : 6 ≤ a ∨ 6 ≤ b ∨ 6 ≤ c) : qt_h8 t m (64 * a + 8 * b + c) = false := by
  unfold qt_h8
  rw [List.any_eq_false]
  intro i _
  cases hg : qt_g t i with
  | none => simp
  | some d =>
    have hd := (qt_g_lt hg).1
    simp only [decide_eq_true_eq]
    unfold qt_68
    omega
def qn_hv (now : Nat → qf_X) (c : Nat) : Nat → Nat
  | 0 => 0
  | f + 1 => qn_hv now c f + (match now f with
      | some t => if qt_any t t.length c = true then 1 else 0
      | none => 0)
theorem ql_seg_s (docs : List qf_D) (st k : Nat) (h : st + k < docs.length) : (docs.drop st).take (k + 1) = (docs.drop st).take k ++ [docs[st + k]] := by
  rw [List.take_succ_eq_append_getElem (by rw [List.length_drop]; omega), List.getElem_drop]
section
variable {xwc xdc xdm xsc xtc xnc xmc xbr xwt : Int32} {xch xtl xwf xdn xdf xdl xss xtk xta xtb xnk xna xnb xnl xnr xns xfa xfs xfi xrc xcl xhd xhi xwo : Nat → Int32} {xrw xre : Nat → Int64}
theorem xl_hav1 (now : Nat → qf_X) (hno : ∀ f, f < 10 → qf_o (now f)) (hs : ∀ f, f < 10 → qx_slot xch xtl f (now f)) (c : Nat) (hc : c < 216) (post : Int32 → Prop) (hp : post (nI (qn_hv now c 10))) :
  ∀ (n f : Nat), f ≤ 10 → 10 - f < n → wX_having_37 post (nI (qt_68 c)) xwc xdc xdm xsc xtc xnc xmc xbr xwt xch xtl xwf xdn xdf xdl xss xtk xta xtb xnk xna xnb xnl xnr xns xfa xfs xfi xrw xrc xcl xhd xre xhi xwo n (nI (qn_hv now c f)) (nI f) := by
  intro n
  induction n with
  | zero => intro f h1 h2; omega
  | succ n ih =>
    intro f h1 h2
    refine pk_le 10 f (fun hle => ?_) (fun hlt => ?_)
    · have e : f = 10 := by omega
      subst e
      exact hp
    · have := ih (f + 1) (by omega) (by omega)
      have hsf := hs f hlt
      cases hnf : now f with
      | none =>
        rw [hnf] at hsf
        have e : qn_hv now c (f + 1) = qn_hv now c f := by show qn_hv now c f + _ = _; rw [hnf]; rfl
        rw [e] at this
        exact xl_has0 f (qt_68 c) (by omega) hsf _ (br_t rfl (nm_r (nI_1 f) this))
      | some t =>
        rw [hnf] at hsf
        refine xl_has f (qt_68 c) (by omega) (qt_68_lt hc) t (hno f hlt t hnf) hsf _ _ rfl rfl _ ?_
        rw [qt_h8_any hc]
        by_cases z : qt_any t t.length c = true
        · have e : qn_hv now c (f + 1) = qn_hv now c f + 1 := by show qn_hv now c f + _ = _; rw [hnf]; dsimp only; rw [if_pos z]
          rw [e] at this
          rw [if_pos z]
          exact br_f (by decide) (nm_r (nI_1 _) (nm_r (nI_1 f) this))
        · have e : qn_hv now c (f + 1) = qn_hv now c f := by show qn_hv now c f + _ = _; rw [hnf]; dsimp only; rw [if_neg z]; rfl
          rw [e] at this
          rw [if_neg z]
          exact br_t rfl (nm_r (nI_1 f) this)
theorem xl_letC (x : Int32) (post : Int32 → Prop) (h0 : (∀ c, c < 6 → x ≠ nI c) → post 0) (h1 : ∀ c, c < 6 → x = nI c → post 1) : wpX_isLetter post x := by
  rcases pk_ix x (n := 6) (by decide) with z | z | ⟨f, hf, rfl⟩
  · refine br_t z (h0 (fun c hc e => ?_))
    rw [e] at z
    exact nI_pos (by omega) z
  · refine br_c (fun y => h0 (fun c hc e => ?_)) (fun _ => br_t z (h0 (fun c hc e => ?_)))
    · rw [e] at y
      exact nI_pos (by omega) y
    · rw [e] at z
      exact nI_ge (b := 6) hc (by decide) z
  · exact br_f (nI_pos (by omega)) (br_f (nI_ge (b := 6) hf (by decide)) (h1 f hf rfl))
theorem xl_having (now : Nat → qf_X) (hno : ∀ f, f < 10 → qf_o (now f)) (hs : ∀ f, f < 10 → qx_slot xch xtl f (now f)) (p0 p1 p2 : Int32) (post : Int32 → Prop)
  (h0 : (¬ ∃ a b c, a < 6 ∧ b < 6 ∧ c < 6 ∧ p0 = nI a ∧ p1 = nI b ∧ p2 = nI c) → post (-1))
  (h1 : ∀ a b c, a < 6 → b < 6 → c < 6 → p0 = nI a → p1 = nI b → p2 = nI c → post (nI (qn_hv now (36 * a + 6 * b + c) 10))) : wpX_having post (xwc, xdc, xdm, xsc, xtc, xnc, xmc, xbr, xwt, xch, xtl, xwf, xdn, xdf, xdl, xss, xtk, xta, xtb, xnk, xna, xnb, xnl, xnr, xns, xfa, xfs, xfi, xrw, xrc, xcl, xhd, xre, xhi, xwo) p0 p1 p2 := by
  unfold wpX_having
  refine xl_letC p0 _ (fun z => br_t rfl (h0 (fun ⟨a, b, c, ha, _, _, e, _⟩ => z a ha e))) (fun a ha e0 => br_f (by decide) ?_)
  refine xl_letC p1 _ (fun z => br_t rfl (h0 (fun ⟨_, b, _, _, hb, _, _, e, _⟩ => z b hb e))) (fun b hb e1 => br_f (by decide) ?_)
  refine xl_letC p2 _ (fun z => br_t rfl (h0 (fun ⟨_, _, c, _, _, hc, _, _, e⟩ => z c hc e))) (fun c hc e2 => br_f (by decide) ?_)
  show ∃ n : Nat, wX_having_37 post _ xwc xdc xdm xsc xtc xnc xmc xbr xwt xch xtl xwf xdn xdf xdl xss xtk xta xtb xnk xna xnb xnl xnr xns xfa xfs xfi xrw xrc xcl xhd xre xhi xwo n 0 0
  rw [e0, e1, e2, xl_tof a b c (by omega) (by omega) (by omega), ← qt_68_eq ha hb hc]
  exact ⟨11, xl_hav1 now hno hs (36 * a + 6 * b + c) (by omega) post (h1 a b c ha hb hc e0 e1 e2) 11 0 (by omega) (by omega)⟩
theorem xl_code1 (d : Nat) (hd0 : 0 < d) (hd : d < 2 ^ 31) (post : Int32 → Prop) (hp : post (nI (ql_c d))) :
  ∀ (n g : Nat), 1 ≤ g → g ≤ 32 → 32 - g < n → wX_codeBits_4 post (nI d) n (nI (1 + 2 * min (g - 1) d.log2)) (nI g) := by
  intro n
  have hlog := (Nat.log2_lt (by omega : d ≠ 0)).mpr hd
  induction n with
  | zero => intro g h0 h1 h2; omega
  | succ n ih =>
    intro g h0 h1 h2
    refine pk_le 32 g (fun hle => ?_) (fun hlt => ?_)
    · have e : 1 + 2 * min (g - 1) d.log2 = ql_c d := by unfold ql_c; omega
      rw [e]
      exact hp
    · rw [pk_shrN hd (nI g &&& 31) g (s_l g hlt)]
      have := ih (g + 1) (by omega) (by omega) (by omega)
      have hle2 := Nat.le_log2 (n := d) (k := g) (by omega)
      have hdv : d / 2 ^ g ≤ d := Nat.div_le_self _ _
      refine pk_le (d / 2 ^ g) 0 (fun hz => ?_) (fun hz => ?_) rfl rfl (by omega) (by omega)
      · have hnl : ¬ g ≤ d.log2 := by
          intro y
          have h3 := hle2.mp y
          have : 0 < d / 2 ^ g := Nat.div_pos h3 (Nat.two_pow_pos g)
          omega
        have e : 1 + 2 * min (g + 1 - 1) d.log2 = 1 + 2 * min (g - 1) d.log2 := by omega
        rw [e] at this
        exact nm_r (nI_1 g) this
      · have hgl : g ≤ d.log2 := hle2.mpr (by
          rcases Nat.lt_or_ge d (2 ^ g) with y | y
          · rw [Nat.div_eq_of_lt y] at hz; omega
          · exact y)
        have e : 1 + 2 * min (g + 1 - 1) d.log2 = 1 + 2 * min (g - 1) d.log2 + 2 := by omega
        rw [e] at this
        exact nm_r (nI_add _ 2) (nm_r (nI_1 g) this)
theorem xl_code (d : Nat) (hd0 : 0 < d) (hd : d < 2 ^ 31) (x : Int32) (ex : x = nI d) (post : Int32 → Prop) (hp : post (nI (ql_c d))) : wpX_codeBits post x := by
  subst ex
  have this : wX_codeBits_4 post (nI d) 32 (nI (1 + 2 * min (1 - 1) d.log2)) (nI 1) := xl_code1 d hd0 hd post hp 32 1 (by omega) (by omega) (by omega)
  rw [Nat.sub_self, Nat.zero_min] at this
  exact ⟨32, this⟩
theorem xl_pv {num p : Nat} (h : p ≤ num) : nI num - (nI p - 1) = nI (num + 1 - p) := by
  rw [show nI num - (nI p - 1) = (nI num + 1) - nI p by grind, nI_1, pk_sub (by omega)]
theorem xl_lb1 (docs : List qf_D) (made st e x : Nat) (hx : x < 512) (hd : docs.length ≤ 64) (hdl : qx_dl docs xch xtl xdn xdf xdl) (hok : ∀ y, y ∈ docs → y.1 < made ∧ qf_t y.2.2.2) (hpw : docs.Pairwise (fun x y => x.1 < y.1)) (hm : made < 2 ^ 30) (he : e ≤ docs.length) (post : Int32 → Prop) (hp : post (nI (ql_b (fun t => qt_h8 t t.length x) ((docs.drop st).take (e - st)) 0))) :
  ∀ (n k : Nat), st + k ≤ e → e - (st + k) < n → wX_listBits_9 post (nI e) (nI x) xwc xdc xdm xsc xtc xnc xmc xbr xwt xch xtl xwf xdn xdf xdl xss xtk xta xtb xnk xna xnb xnl xnr xns xfa xfs xfi xrw xrc xcl xhd xre xhi xwo n (nI (ql_b (fun t => qt_h8 t t.length x) ((docs.drop st).take k) 0)) (nI (ql_p (fun t => qt_h8 t t.length x) ((docs.drop st).take k) 0) - 1) (nI (st + k)) := by
  intro n
  induction n with
  | zero => intro k h1 h2; omega
  | succ n ih =>
    intro k h1 h2
    refine pk_le e (st + k) (fun hle => ?_) (fun hlt => ?_)
    · have e' : e - st = k := by omega
      rw [e'] at hp
      exact hp
    · have hlt' : st + k < docs.length := by omega
      obtain ⟨a1, a2, a3, a4⟩ := hdl (st + k) _ (List.getElem?_eq_getElem hlt')
      have ho := hok _ (List.getElem_mem hlt')
      have hs := ql_seg_s docs st k hlt'
      have hb1 := ql_b_1 (fun t => qt_h8 t t.length x) docs[st + k] ((docs.drop st).take k) 0
      have hp1 := ql_p_1 (fun t => qt_h8 t t.length x) docs[st + k] ((docs.drop st).take k) 0
      rw [← hs] at hb1 hp1
      have cd : (nI (st + k)).toNatClampNeg = st + k := nI_clamp (by omega)
      have hle : ql_p (fun t => qt_h8 t t.length x) ((docs.drop st).take k) 0 ≤ docs[st + k].1 := by
        apply ql_p_le
        · omega
        · intro y hy
          rw [List.pairwise_iff_getElem] at hpw
          obtain ⟨j, hj, rfl⟩ := List.getElem_of_mem hy
          rw [List.length_take, List.length_drop] at hj
          rw [List.getElem_take, List.getElem_drop]
          exact hpw (st + j) (st + k) (by omega) hlt' (by omega)
      have := ih (k + 1) (by omega) (by omega)
      refine xl_has (27 + (st + k)) x (by omega) hx docs[st + k].2.2.2 ho.2 a4 _ _ (nI_add 27 _) rfl _ ?_
      by_cases z : qt_h8 docs[st + k].2.2.2 docs[st + k].2.2.2.length x = true
      · rw [if_pos z]
        rw [if_pos z] at hb1 hp1
        have hi : vp_in (nI (st + k)) 64 := pk_in (st + k) 64 (by omega)
        refine br_f (by decide) ⟨hi, ?_⟩
        rw [cd, a1]
        refine xl_code (docs[st + k].1 + 1 - ql_p (fun t => qt_h8 t t.length x) ((docs.drop st).take k) 0) (by omega) (by omega) _ (xl_pv hle) _ ?_
        rw [hb1, hp1] at this
        refine nm_r (nI_add _ _) ⟨hi, nm_r (e' := nI (docs[st + k].1 + 1) - 1) (nI_pred _).symm (nm_r (nI_1 _) this)⟩
      · rw [if_neg z]
        rw [if_neg z] at hb1 hp1
        rw [hb1, hp1] at this
        exact br_t rfl (nm_r (nI_1 _) this)
theorem xl_lb (docs : List qf_D) (made st e x : Nat) (hx : x < 512) (hd : docs.length ≤ 64) (hdl : qx_dl docs xch xtl xdn xdf xdl) (hok : ∀ y, y ∈ docs → y.1 < made ∧ qf_t y.2.2.2) (hpw : docs.Pairwise (fun x y => x.1 < y.1)) (hm : made < 2 ^ 30) (hse : st ≤ e) (he : e ≤ docs.length) (post : Int32 → Prop) (hp : post (nI (ql_b (fun t => qt_h8 t t.length x) ((docs.drop st).take (e - st)) 0))) : wpX_listBits post (xwc, xdc, xdm, xsc, xtc, xnc, xmc, xbr, xwt, xch, xtl, xwf, xdn, xdf, xdl, xss, xtk, xta, xtb, xnk, xna, xnb, xnl, xnr, xns, xfa, xfs, xfi, xrw, xrc, xcl, xhd, xre, xhi, xwo) (nI st) (nI e) (nI x) := by
  have this : wX_listBits_9 post (nI e) (nI x) xwc xdc xdm xsc xtc xnc xmc xbr xwt xch xtl xwf xdn xdf xdl xss xtk xta xtb xnk xna xnb xnl xnr xns xfa xfs xfi xrw xrc xcl xhd xre xhi xwo (e - st + 1) (nI 0) (nI 0 - 1) (nI st) := xl_lb1 docs made st e x hx hd hdl hok hpw hm he post hp (e - st + 1) 0 (by omega) (by omega)
  rw [show nI 0 - 1 = (-1 : Int32) by decide] at this
  exact ⟨e - st + 1, this⟩
theorem xl_cl1 (docs : List qf_D) (made st e : Nat) (hd : docs.length ≤ 64) (hdl : qx_dl docs xch xtl xdn xdf xdl) (hok : ∀ y, y ∈ docs → y.1 < made ∧ qf_t y.2.2.2) (hpw : docs.Pairwise (fun x y => x.1 < y.1)) (hm : made < 2 ^ 30) (hse : st ≤ e) (he : e ≤ docs.length) (post : Int32 → Prop) (hp : post (nI (qs_sum (fun x => if ql_b (fun t => qt_h8 t t.length x) ((docs.drop st).take (e - st)) 0 = 0 then 0 else 1) 512))) :
  ∀ (n x : Nat), x ≤ 512 → 512 - x < n → wX_countLists_5 post (nI st) (nI e) xwc xdc xdm xsc xtc xnc xmc xbr xwt xch xtl xwf xdn xdf xdl xss xtk xta xtb xnk xna xnb xnl xnr xns xfa xfs xfi xrw xrc xcl xhd xre xhi xwo n (nI (qs_sum (fun x => if ql_b (fun t => qt_h8 t t.length x) ((docs.drop st).take (e - st)) 0 = 0 then 0 else 1) x)) (nI x) := by
  intro n
  induction n with
  | zero => intro x h1 h2; omega
  | succ n ih =>
    intro x h1 h2
    refine pk_le 512 x (fun hle => ?_) (fun hlt => ?_)
    · have e : x = 512 := by omega
      subst e
      exact hp
    · have := ih (x + 1) (by omega) (by omega)
      rw [show qs_sum (fun x => if ql_b (fun t => qt_h8 t t.length x) ((docs.drop st).take (e - st)) 0 = 0 then 0 else 1) (x + 1) = qs_sum (fun x => if ql_b (fun t => qt_h8 t t.length x) ((docs.drop st).take (e - st)) 0 = 0 then 0 else 1) x + (if ql_b (fun t => qt_h8 t t.length x) ((docs.drop st).take (e - st)) 0 = 0 then 0 else 1) from rfl] at this
      refine xl_lb docs made st e x hlt hd hdl hok hpw hm hse he _ ?_
      have hbl := ql_b_le (fun t => qt_h8 t t.length x) ((docs.drop st).take (e - st)) 0 (fun y hy => by have := (hok y (List.mem_of_mem_drop (List.mem_of_mem_take hy))).1; omega)
      have hll : ((docs.drop st).take (e - st)).length ≤ 64 := by rw [List.length_take, List.length_drop]; omega
      generalize ql_b (fun t => qt_h8 t t.length x) ((docs.drop st).take (e - st)) 0 = B at *
      refine pk_le B 0 (fun hz => ?_) (fun hz => ?_) rfl rfl (by omega) (by omega)
      · rw [if_pos (by omega), Nat.add_zero] at this
        exact nm_r (nI_1 x) this
      · rw [if_neg (by omega)] at this
        exact nm_r (nI_1 _) (nm_r (nI_1 x) this)
theorem xl_cb1 (docs : List qf_D) (made st e : Nat) (hd : docs.length ≤ 64) (hdl : qx_dl docs xch xtl xdn xdf xdl) (hok : ∀ y, y ∈ docs → y.1 < made ∧ qf_t y.2.2.2) (hpw : docs.Pairwise (fun x y => x.1 < y.1)) (hm : made < 2 ^ 30) (hse : st ≤ e) (he : e ≤ docs.length) (post : Int32 → Prop) (hp : post (nI (qs_sum (fun x => ql_b (fun t => qt_h8 t t.length x) ((docs.drop st).take (e - st)) 0) 512))) :
  ∀ (n x : Nat), x ≤ 512 → 512 - x < n → wX_countBits_5 post (nI st) (nI e) xwc xdc xdm xsc xtc xnc xmc xbr xwt xch xtl xwf xdn xdf xdl xss xtk xta xtb xnk xna xnb xnl xnr xns xfa xfs xfi xrw xrc xcl xhd xre xhi xwo n (nI (qs_sum (fun x => ql_b (fun t => qt_h8 t t.length x) ((docs.drop st).take (e - st)) 0) x)) (nI x) := by
  intro n
  induction n with
  | zero => intro x h1 h2; omega
  | succ n ih =>
    intro x h1 h2
    refine pk_le 512 x (fun hle => ?_) (fun hlt => ?_)
    · have e : x = 512 := by omega
      subst e
      exact hp
    · have := ih (x + 1) (by omega) (by omega)
      rw [show qs_sum (fun x => ql_b (fun t => qt_h8 t t.length x) ((docs.drop st).take (e - st)) 0) (x + 1) = qs_sum (fun x => ql_b (fun t => qt_h8 t t.length x) ((docs.drop st).take (e - st)) 0) x + ql_b (fun t => qt_h8 t t.length x) ((docs.drop st).take (e - st)) 0 from rfl] at this
      refine xl_lb docs made st e x hlt hd hdl hok hpw hm hse he _ ?_
      exact nm_r (nI_add _ _) (nm_r (nI_1 x) this)
end
/-- over the reference's codes -/
theorem ql_lists8 (l : List qf_D) : qs_sum (fun x => if ql_b (fun t => qt_h8 t t.length x) l 0 = 0 then 0 else 1) 512 = ql_lists l := by
  rw [qs_conv]
  · apply qs_cg
    intro c hc
    rw [ql_b_cg (Q := qt_P c) (fun t => qt_h8_any hc)]
  · intro a b c ha hb hc h
    rw [ql_b_0 (fun t => qt_h8_bad ha hb hc h)]
    rfl
theorem ql_bits8 (l : List qf_D) : qs_sum (fun x => ql_b (fun t => qt_h8 t t.length x) l 0) 512 = ql_bits l := by
  rw [qs_conv]
  · apply qs_cg
    intro c hc
    exact ql_b_cg (Q := qt_P c) (fun t => qt_h8_any hc) l 0
  · intro a b c ha hb hc h
    exact ql_b_0 (fun t => qt_h8_bad ha hb hc h) l 0
end
section
/-! the class: segment, document, at, state -/
section
variable {xwc xdc xdm xsc xtc xnc xmc xbr xwt : Int32} {xch xtl xwf xdn xdf xdl xss xtk xta xtb xnk xna xnb xnl xnr xns xfa xfs xfi xrc xcl xhd xhi xwo : Nat → Int32} {xrw xre : Nat → Int64}
theorem xl_alive1 (docs : List qf_D) (e : Nat) (hd : docs.length ≤ 64) (hdl : qx_dl docs xch xtl xdn xdf xdl) (he : e ≤ docs.length) (post : Int32 → Prop) :
  ∀ (n d a : Nat), d ≤ e → e - d < n → post (nI (a + ql_cl ((docs.drop d).take (e - d)))) → wX_countLive_5 post (nI e) xwc xdc xdm xsc xtc xnc xmc xbr xwt xch xtl xwf xdn xdf xdl xss xtk xta xtb xnk xna xnb xnl xnr xns xfa xfs xfi xrw xrc xcl xhd xre xhi xwo n (nI a) (nI d) := by
  intro n
  induction n with
  | zero => intro d a h1 h2; omega
  | succ n ih =>
    intro d a h1 h2 h3
    refine pk_le e d (fun hle => ?_) (fun hlt => ?_)
    · have e' : e - d = 0 := by omega
      rw [e'] at h3
      exact h3
    · have hlt' : d < docs.length := by omega
      obtain ⟨a1, a2, a3, a4⟩ := hdl d _ (List.getElem?_eq_getElem hlt')
      have cd : (nI d).toNatClampNeg = d := nI_clamp (by omega)
      have e1 : (docs.drop d).take (e - d) = docs[d] :: (docs.drop (d + 1)).take (e - (d + 1)) := by
        rw [List.drop_eq_getElem_cons hlt', show e - d = (e - (d + 1)) + 1 by omega, List.take_succ_cons]
      rw [e1] at h3
      unfold ql_cl at h3
      refine ⟨pk_in d 64 (by omega), ?_⟩
      rw [cd, a3]
      by_cases z : docs[d].2.2.1 = true
      · rw [if_pos z]
        rw [if_pos z, ← Nat.add_assoc] at h3
        exact br_f (by decide) (nm_r (nI_1 a) (nm_r (nI_1 d) (ih (d + 1) (a + 1) (by omega) (by omega) h3)))
      · rw [if_neg z]
        rw [if_neg z, Nat.zero_add] at h3
        exact br_t rfl (nm_r (nI_1 d) (ih (d + 1) a (by omega) (by omega) h3))
theorem xl_segOf1 (segs : List Nat) (j : Nat) (hl : segs.length ≤ 16) (hsum : segs.sum < 1000) (hs : qx_sg segs xss) (hsc : xsc = nI segs.length) (hj : j < segs.sum) (post : Int32 → Prop) (hp : post (nI (qd_seg segs j))) :
  ∀ (n k : Nat), k ≤ segs.length → segs.length - k < n → qd_st k segs ≤ j → wX_segmentOf_4 post (nI j) xwc xdc xdm xsc xtc xnc xmc xbr xwt xch xtl xwf xdn xdf xdl xss xtk xta xtb xnk xna xnb xnl xnr xns xfa xfs xfi xrw xrc xcl xhd xre xhi xwo n (nI (qd_st k segs)) (nI k) := by
  intro n
  induction n with
  | zero => intro k h1 h2; omega
  | succ n ih =>
    intro k h1 h2 h3
    refine pk_le segs.length k (fun hle => ?_) (fun hlt => ?_) hsc
    · have e : k = segs.length := by omega
      rw [e, qd_st_all] at h3
      omega
    · have e1 : nI (qd_st k segs) + xss (nI k).toNatClampNeg = nI (qd_st (k + 1) segs) := by
        rw [nI_clamp (by omega), qx_sg_get hs hlt, nI_add, ← qd_st_s]
      have hle := qd_st_le (segs := segs) (k + 1)
      refine ⟨pk_in k 16 (by omega), nm_r e1 (pk_le (qd_st (k + 1) segs) j (fun h => nm_r (nI_1 k) (ih (k + 1) (by omega) (by omega) h)) (fun h => ?_) rfl rfl (by omega) (by omega))⟩
      have := (qd_seg_eq segs j k hj).mpr ⟨h3, h⟩
      rw [this] at hp
      exact hp
theorem xl_segment (now base : Nat → qf_X) (wt : List (Nat × qf_X)) (dr : List Nat) (docs : List qf_D) (segs : List Nat) (made : Nat) (hi : qf_inv now base wt dr docs segs made) (hm : made < 2 ^ 30) (hS : qx_S now base wt dr docs segs made xch xtl xwf xwc xdn xdf xdl xdc xdm xss xsc) (p0 p1 : Int32) (post : Int32 → Prop)
  (hb : (∀ k, k < segs.length → p0 ≠ nI k) ∨ (∀ w, w < 5 → p1 ≠ nI w) → post (-1))
  (g0 : ∀ k, k < segs.length → p0 = nI k → p1 = 0 → post (nI (segs.getD k 0)))
  (g1 : ∀ k, k < segs.length → p0 = nI k → p1 = 1 → post (nI (ql_cl (ql_docs docs segs k))))
  (g2 : ∀ k, k < segs.length → p0 = nI k → p1 = 2 → post (nI (ql_lists (ql_docs docs segs k))))
  (g3 : ∀ k, k < segs.length → p0 = nI k → p1 = 3 → post (nI (ql_bits (ql_docs docs segs k))))
  (g4 : ∀ k x, k < segs.length → p0 = nI k → p1 = 4 → docs[qd_st k segs]? = some x → post (nI x.1)) : wpX_segment post (xwc, xdc, xdm, xsc, xtc, xnc, xmc, xbr, xwt, xch, xtl, xwf, xdn, xdf, xdl, xss, xtk, xta, xtb, xnk, xna, xnb, xnl, xnr, xns, xfa, xfs, xfi, xrw, xrc, xcl, xhd, xre, xhi, xwo) p0 p1 := by
  obtain ⟨i1, i2, i3, i4, i5, i6⟩ := hi
  obtain ⟨s1, s2, s3, s5, ⟨s6, s7⟩, s8, ⟨s9, s10⟩⟩ := hS
  subst s9
  have hb10 := qd_dec10 i6 i5.2.1
  have hsm := i5.1
  have hok : ∀ y, y ∈ docs → y.1 < made ∧ qf_t y.2.2.2 := fun y hy => ⟨(i5.2.2.2.1 y hy).1, (i5.2.2.2.1 y hy).2.2⟩
  rcases pk_ix p0 (n := segs.length) (by omega) with z | z | ⟨k, hk, rfl⟩
  · exact br_t z (hb (Or.inl (fun k hk e => by rw [e] at z; exact nI_pos (by omega) z)))
  · have hbb := hb (Or.inl (fun k hk e => by rw [e, nI_leI (by omega) (by omega)] at z; omega))
    refine br_c (fun _ => hbb) (fun _ => br_f ?_ hbb)
    exact Int32.not_lt.mpr z
  · refine br_f (nI_pos (by omega)) (br_t (nI_lt hk (by omega)) ?_)
    refine xs_st segs (by omega) (by omega) s10 k (by omega) _ ?_
    have ck : (nI k).toNatClampNeg = k := nI_clamp (by omega)
    have hik : vp_in (nI k) 16 := pk_in k 16 (by omega)
    have hsk := qd_st_s segs k
    have hle1 := qd_st_le (segs := segs) (k + 1)
    have hpos : 1 ≤ segs.getD k 0 := by rw [qc_gd hk]; exact (i5.2.1 _ (List.getElem_mem hk)).1
    have e1 : nI (qd_st k segs) + xss (nI k).toNatClampNeg = nI (qd_st (k + 1) segs) := by
      rw [ck, qx_sg_get s10 hk, nI_add, ← qd_st_s]
    have e2 : qd_st (k + 1) segs - qd_st k segs = segs.getD k 0 := by omega
    have hds : (docs.drop (qd_st k segs)).take (qd_st (k + 1) segs - qd_st k segs) = ql_docs docs segs k := by unfold ql_docs; rw [e2]
    refine ⟨hik, nm_r e1 ?_⟩
    have hbad : (p1 < 0 ∨ 4 < p1) → post (-1) := fun y => hb (Or.inr (fun w hw e => by
      rw [e] at y
      rcases y with y | y
      · exact nI_pos (by omega) y
      · rw [show (4 : Int32) = nI 4 from rfl, nI_ltI (by omega) (by omega)] at y; omega))
    refine br_c (fun y => hbad (Or.inl y)) (fun y1 => br_c (fun y => hbad (Or.inr y)) (fun y2 => ?_))
    refine br_c (fun w => ⟨hik, ?_⟩) (fun w0 => br_c (fun w => ?_) (fun w1 => br_c (fun w => ?_) (fun w2 => br_c (fun w => ?_) (fun w3 => br_c (fun w => ⟨pk_in (qd_st k segs) 64 (by omega), ?_⟩) (fun _ => trivial)))))
    · rw [ck, qx_sg_get s10 hk]; exact g0 k hk rfl w
    · exact ⟨qd_st (k + 1) segs - qd_st k segs + 1, xl_alive1 docs (qd_st (k + 1) segs) (by omega) s7 (by omega) post (qd_st (k + 1) segs - qd_st k segs + 1) (qd_st k segs) 0 (by omega) (by omega) (by rw [hds, Nat.zero_add]; exact g1 k hk rfl w)⟩
    · exact ⟨513, xl_cl1 docs made (qd_st k segs) (qd_st (k + 1) segs) (by omega) s7 hok i5.2.2.1 hm (by omega) (by omega) post (by rw [hds, ql_lists8]; exact g2 k hk rfl w) 513 0 (by omega) (by omega)⟩
    · exact ⟨513, xl_cb1 docs made (qd_st k segs) (qd_st (k + 1) segs) (by omega) s7 hok i5.2.2.1 hm (by omega) (by omega) post (by rw [hds, ql_bits8]; exact g3 k hk rfl w) 513 0 (by omega) (by omega)⟩
    · have hlt : qd_st k segs < docs.length := by omega
      have hg := List.getElem?_eq_getElem hlt
      rw [nI_clamp (by omega), (s7 _ _ hg).1]
      exact g4 k _ hk rfl w hg
theorem xl_document (now base : Nat → qf_X) (wt : List (Nat × qf_X)) (dr : List Nat) (docs : List qf_D) (segs : List Nat) (made : Nat) (hi : qf_inv now base wt dr docs segs made) (hS : qx_S now base wt dr docs segs made xch xtl xwf xwc xdn xdf xdl xdc xdm xss xsc) (p0 p1 : Int32) (post : Int32 → Prop)
  (hb : (∀ j, j < docs.length → p0 ≠ nI j) ∨ (∀ w, w < 4 → p1 ≠ nI w) → post (-1))
  (g0 : ∀ j x, docs[j]? = some x → p0 = nI j → p1 = 0 → post (nI x.1))
  (g1 : ∀ j x, docs[j]? = some x → p0 = nI j → p1 = 1 → post (nI x.2.1))
  (g2 : ∀ j x, docs[j]? = some x → p0 = nI j → p1 = 2 → post (if x.2.2.1 = true then 1 else 0))
  (g3 : ∀ j, j < docs.length → p0 = nI j → p1 = 3 → post (nI (qd_seg segs j))) : wpX_document post (xwc, xdc, xdm, xsc, xtc, xnc, xmc, xbr, xwt, xch, xtl, xwf, xdn, xdf, xdl, xss, xtk, xta, xtb, xnk, xna, xnb, xnl, xnr, xns, xfa, xfs, xfi, xrw, xrc, xcl, xhd, xre, xhi, xwo) p0 p1 := by
  obtain ⟨i1, i2, i3, i4, i5, i6⟩ := hi
  obtain ⟨s1, s2, s3, s5, ⟨s6, s7⟩, s8, ⟨s9, s10⟩⟩ := hS
  subst s6
  have hb10 := qd_dec10 i6 i5.2.1
  have hsm := i5.1
  rcases pk_ix p0 (n := docs.length) (by omega) with z | z | ⟨k, hk, rfl⟩
  · exact br_t z (hb (Or.inl (fun k hk e => by rw [e] at z; exact nI_pos (by omega) z)))
  · have hbb := hb (Or.inl (fun k hk e => by rw [e, nI_leI (by omega) (by omega)] at z; omega))
    refine br_c (fun _ => hbb) (fun _ => br_f ?_ hbb)
    exact Int32.not_lt.mpr z
  · refine br_f (nI_pos (by omega)) (br_t (nI_lt hk (by omega)) ?_)
    have ck : (nI k).toNatClampNeg = k := nI_clamp (by omega)
    have hik : vp_in (nI k) 64 := pk_in k 64 (by omega)
    have hg := List.getElem?_eq_getElem hk
    obtain ⟨a1, a2, a3, a4⟩ := s7 k _ hg
    have hbad : (p1 < 0 ∨ 3 < p1) → post (-1) := fun y => hb (Or.inr (fun w hw e => by
      rw [e] at y
      rcases y with y | y
      · exact nI_pos (by omega) y
      · rw [show (3 : Int32) = nI 3 from rfl, nI_ltI (by omega) (by omega)] at y; omega))
    refine br_c (fun y => hbad (Or.inl y)) (fun y1 => br_c (fun y => hbad (Or.inr y)) (fun y2 => ?_))
    refine br_c (fun w => ⟨hik, ?_⟩) (fun w0 => br_c (fun w => ⟨hik, ?_⟩) (fun w1 => br_c (fun w => ⟨hik, ?_⟩) (fun w2 => br_c (fun w => ?_) (fun _ => trivial))))
    · rw [ck, a1]; exact g0 k _ hg rfl w
    · rw [ck, a2]; exact g1 k _ hg rfl w
    · rw [ck, a3]
      have := g2 k _ hg rfl w
      by_cases z : docs[k].2.2.1 = true
      · rw [if_pos z] at this ⊢; exact br_f (by decide) this
      · rw [if_neg z] at this ⊢; exact br_t rfl this
    · exact ⟨segs.length + 1, xl_segOf1 segs k (by omega) (by omega) s10 s9 (by omega) post (g3 k hk rfl w) (segs.length + 1) 0 (by omega) (by omega) (by unfold qd_st; simp)⟩
theorem xl_at (now : Nat → qf_X) (hno : ∀ f, f < 10 → qf_o (now f)) (hs : ∀ f, f < 10 → qx_slot xch xtl f (now f)) (p0 p1 : Int32) (post : Int32 → Prop)
  (hb : (∀ f t i, f < 10 → now f = some t → i < t.length → p0 = nI f → p1 ≠ nI i) → post (-1))
  (hg : ∀ f t i, f < 10 → now f = some t → i < t.length → p0 = nI f → p1 = nI i → post (nI (t.getD i 0))) : wpX_at post (xwc, xdc, xdm, xsc, xtc, xnc, xmc, xbr, xwt, xch, xtl, xwf, xdn, xdf, xdl, xss, xtk, xta, xtb, xnk, xna, xnb, xnl, xnr, xns, xfa, xfs, xfi, xrw, xrc, xcl, xhd, xre, xhi, xwo) p0 p1 := by
  unfold wpX_at
  refine xs_fileC p0 _ (fun z => br_t rfl (hb (fun f t i hf _ _ e => ?_))) (fun f hf e => br_f (by decide) ?_)
  · subst e
    rcases z with z | z
    · exact absurd z (nI_pos (by omega))
    · exact absurd z (nI_ge (b := 10) hf (by decide))
  · subst e
    have cf : (nI f).toNatClampNeg = f := nI_clamp (by omega)
    have hsf := hs f hf
    refine br_c (fun z => hb (fun g t i _ _ hi _ e2 => ?_)) (fun z => ⟨pk_in f 91 (by omega), ?_⟩)
    · have hL := (hno g ‹_› t ‹_›).1
      rw [e2] at z
      exact nI_pos (by omega) z
    · rw [cf]
      obtain ⟨j, hj, rfl⟩ := nI_of z
      cases hnf : now f with
      | none =>
        rw [hnf] at hsf
        rw [show xtl f = -1 from hsf]
        refine br_f ?_ (hb (fun g t i hg' ht _ e1 => ?_))
        · intro y
          have h1 := ys_neg' j hj
          exact absurd y (Int32.not_lt.mpr h1)
        · rw [nI_eq (by omega) (by omega)] at e1
          subst e1
          rw [hnf] at ht
          exact nomatch ht
      | some t =>
        rw [hnf] at hsf
        have ht := hno f hf t hnf
        have hL := ht.1
        rw [hsf.1]
        refine pk_lt j t.length (fun hlt => ⟨pk_in (f * 40 + j) 3640 (by omega) (xs_ix f j), ?_⟩) (fun hle => hb (fun g t' i hg' ht' hi' e1 e2 => ?_)) rfl rfl hj (by omega)
        · rw [xs_ixc (by omega), hsf.2 j hlt]
          exact hg f t j hf hnf hlt rfl rfl
        · rw [nI_eq (by omega) (by omega)] at e1
          subst e1
          rw [hnf] at ht'
          cases ht'
          rw [nI_eq hj (by omega)] at e2
          omega
theorem xl_cf1 (now : Nat → qf_X) (hno : ∀ f, f < 10 → qf_o (now f)) (hs : ∀ f, f < 10 → qx_slot xch xtl f (now f)) (post : Int32 → Prop) (hp : post (nI (qn_th now 10))) :
  ∀ (n f : Nat), f ≤ 10 → 10 - f < n → wX_countFiles_4 post xwc xdc xdm xsc xtc xnc xmc xbr xwt xch xtl xwf xdn xdf xdl xss xtk xta xtb xnk xna xnb xnl xnr xns xfa xfs xfi xrw xrc xcl xhd xre xhi xwo n (nI (qn_th now f)) (nI f) := by
  intro n
  induction n with
  | zero => intro f h1 h2; omega
  | succ n ih =>
    intro f h1 h2
    refine pk_le 10 f (fun hle => ?_) (fun hlt => ?_)
    · have e : f = 10 := by omega
      subst e
      exact hp
    · have := ih (f + 1) (by omega) (by omega)
      refine xs_there f hlt (now f) (hno f hlt) (hs f hlt) _ (fun e => br_t rfl ?_) (fun t e => br_f (by decide) ?_)
      · have e' : qn_th now (f + 1) = qn_th now f := by show qn_th now f + _ = _; rw [e]; rfl
        rw [e'] at this
        exact nm_r (nI_1 f) this
      · have e' : qn_th now (f + 1) = qn_th now f + 1 := by show qn_th now f + _ = _; rw [e]
        rw [e'] at this
        exact nm_r (nI_1 _) (nm_r (nI_1 f) this)
end
end
section
/-! the reference: texts, changes, documents -/
theorem ys_nar {c : Nat} (h : c < 7) : vp_nar .byte (nI c) = nI c := by
  rw [vp_nar_byte]
  exact (by decide +kernel : ∀ c, c < 7 → (nI c).toInt8.toInt32 = nI c) c h
theorem ys_ix (s i : Nat) : (40 : Int32) * nI s + nI i = nI (s * 40 + i) := by
  rw [show (40 : Int32) = nI 40 from rfl, pk_mul, nI_add, Nat.mul_comm]
theorem ys_ixc {s i : Nat} (h : s * 40 + i < 2 ^ 31) : ((40 : Int32) * nI s + nI i).toNatClampNeg = s * 40 + i := by
  rw [ys_ix]; exact nI_clamp h
theorem ys_neg : (-1 : Int32) < 0 := by decide
def qy_kp (n s0 : Nat) (ch tl ch' tl' : Nat → Int32) : Prop := ∀ s o', s < n → s ≠ s0 → qf_o o' → qx_slot ch tl s o' → qx_slot ch' tl' s o'
theorem qx_slot_cp {ch ch' tl tl' : Nat → Int32} {f L n : Nat} (hl : ∀ s, s ≠ f → tl' s = tl s) (hL : L ≤ 40) (h2 : ∀ j, j < f * 40 ∨ f * 40 + L ≤ j → ch' j = ch j) : qy_kp n f ch tl ch' tl' := by
  intro s o' _ hs ho h
  match o', ho, h with
  | none, _, h => exact (hl s hs).trans h
  | some t', ho, h =>
    have hl' : t'.length ≤ 40 := (ho t' rfl).1
    refine ⟨(hl s hs).trans h.1, fun i hi => ?_⟩
    rw [h2 _ (by omega)]
    exact h.2 i hi
section
variable {ywa ydd ynd yns yma ynt yno yrc yfo ybl yod ywr : Int32} {yan yab yac yad yal yabl yacl yacf ynu yfi ypa ysz yli ytx yki yf1 yf2 yo yoa yob yit yss ymo yst ymy ycl yrw yow yhi yla : Nat → Int32} {yen : Nat → Int64}
theorem ys_ap1 (k f : Nat) (hk : k < 6) (hf : f < 10) (t : List Nat) (ht : qf_t t) (hc : ∀ i, i < t.length → yac (k * 40 + i) = nI (t.getD i 0)) (hl : yal f = nI t.length) (an0 : Nat → Int32) (post : SY → Prop)
  (hp : ∀ an : Nat → Int32, (∀ j, j < t.length → an (f * 40 + j) = nI (t.getD j 0)) → (∀ j, j < f * 40 ∨ f * 40 + t.length ≤ j → an j = an0 j) → post (ywa, ydd, ynd, yns, yma, ynt, yno, yrc, yfo, ybl, yod, ywr, an, yab, yac, yad, yal, yabl, yacl, yacf, ynu, yfi, ypa, ysz, yli, ytx, yki, yf1, yf2, yo, yoa, yob, yit, yss, ymo, yst, ymy, ycl, yrw, yow, yen, yhi, yla)) :
  ∀ (n i : Nat) (an : Nat → Int32), i ≤ t.length → t.length - i < n → (∀ j, j < i → an (f * 40 + j) = nI (t.getD j 0)) → (∀ j, j < f * 40 ∨ f * 40 + i ≤ j → an j = an0 j) → wY_apply_21 post (nI k) (nI f) ywa ydd ynd yns yma ynt yno yrc yfo ybl yod ywr n (nI i) an yab yac yad yal yabl yacl yacf ynu yfi ypa ysz yli ytx yki yf1 yf2 yo yoa yob yit yss ymo yst ymy ycl yrw yow yen yhi yla := by
  intro n
  have hL := ht.1
  induction n with
  | zero => intro i an h1 h2; omega
  | succ n ih =>
    intro i an h1 h2 h3 h4
    have cf : (nI f).toNatClampNeg = f := nI_clamp (by omega)
    refine ⟨pk_in f 10 hf, ?_⟩
    rw [cf, hl]
    refine pk_le t.length i (fun hle => ?_) (fun hlt => ?_)
    · have e : i = t.length := by omega
      subst e
      exact hp an h3 h4
    · refine ⟨pk_in (k * 40 + i) 240 (by omega) (ys_ix k i), pk_in (f * 40 + i) 400 (by omega) (ys_ix f i), fun ch1 hch x hx => ?_⟩
      rw [hx, nI_1]
      rw [ys_ixc (by omega), ys_ixc (by omega), hc i hlt, ys_nar (qf_t_get ht hlt)] at hch
      refine ih (i + 1) ch1 (by omega) (by omega) ?_ ?_
      · intro j hj
        rw [hch]
        by_cases z : j = i
        · subst z; exact pk_us
        · rw [pk_un (by omega)]; exact h3 j (by omega)
      · intro j hj
        rw [hch, pk_un (by omega)]
        exact h4 j (by omega)
theorem ys_ap {xk : Int32} (k : Nat) (ek : xk = nI k) (hk : k < 6) (f : Nat) (hf : f < 10) (o : qf_X) (ho : qf_o o) (hcf : yacf k = nI f) (hs : qx_slot yac yacl k o) (post : SY → Prop)
  (hp : ∀ an al : Nat → Int32, qx_slot an al f o → qy_kp 10 f yan yal an al → post (ywa, ydd, ynd, yns, yma, ynt, yno, yrc, yfo, ybl, yod, ywr, an, yab, yac, yad, al, yabl, yacl, yacf, ynu, yfi, ypa, ysz, yli, ytx, yki, yf1, yf2, yo, yoa, yob, yit, yss, ymo, yst, ymy, ycl, yrw, yow, yen, yhi, yla)) : wpY_apply post (ywa, ydd, ynd, yns, yma, ynt, yno, yrc, yfo, ybl, yod, ywr, yan, yab, yac, yad, yal, yabl, yacl, yacf, ynu, yfi, ypa, ysz, yli, ytx, yki, yf1, yf2, yo, yoa, yob, yit, yss, ymo, yst, ymy, ycl, yrw, yow, yen, yhi, yla) xk := by
  subst ek
  have ck : (nI k).toNatClampNeg = k := nI_clamp (by omega)
  have cf : (nI f).toNatClampNeg = f := nI_clamp (by omega)
  have e : yacf (nI k).toNatClampNeg = nI f := by rw [ck]; exact hcf
  refine And.intro (pk_in k 6 hk) (nm_r e (And.intro (pk_in k 6 hk) (And.intro (pk_in f 10 hf) (nm_e ?_))))
  rw [cf, ck]
  match o, ho, hs, hp with
  | none, ho, hs, hp =>
    refine ⟨1, pk_in f 10 hf, ?_⟩
    rw [cf, pk_us, show yacl k = -1 from hs]
    refine br_t (by decide) (hp yan _ pk_us ?_)
    exact qx_slot_cp (L := 0) (fun s hs => pk_un hs) (by omega) (fun j _ => rfl)
  | some t, ho, hs, hp =>
    have ht := ho t rfl
    refine ⟨t.length + 1, ?_⟩
    refine ys_ap1 (yal := upd yal f (yacl k)) k f hk hf t ht hs.2 (pk_us.trans hs.1) yan post ?_ (t.length + 1) 0 yan (by omega) (by omega) (fun j hj => absurd hj (by omega)) (fun j _ => rfl)
    intro an h1 h2
    exact hp an _ ⟨pk_us.trans hs.1, h1⟩ (qx_slot_cp (fun s hs => pk_un hs) ht.1 h2)
/-- a document is made -/
theorem ys_mk1 (d f : Nat) (hd : d < 64) (hf : f < 10) (t : List Nat) (ht : qf_t t) (hs : qx_slot yan yal f (some t)) (tx0 : Nat → Int32) (hnd : ynd = nI d) (post : SY → Prop)
  (hp : ∀ tx : Nat → Int32, (∀ j, j < t.length → tx (d * 40 + j) = nI (t.getD j 0)) → (∀ j, j < d * 40 ∨ d * 40 + t.length ≤ j → tx j = tx0 j) → post (ywa, ydd, nI (d + 1), yns, yma, ynt, yno, yrc, yfo, ybl, yod, ywr, yan, yab, yac, yad, yal, yabl, yacl, yacf, ynu, yfi, ypa, ysz, yli, tx, yki, yf1, yf2, yo, yoa, yob, yit, yss, ymo, yst, ymy, ycl, yrw, yow, yen, yhi, yla)) :
  ∀ (n i : Nat) (tx : Nat → Int32), i ≤ t.length → t.length - i < n → (∀ j, j < i → tx (d * 40 + j) = nI (t.getD j 0)) → (∀ j, j < d * 40 ∨ d * 40 + i ≤ j → tx j = tx0 j) → wY_make_70 post (nI f) ywa ydd ynd yns yma ynt yno yrc yfo ybl yod ywr n (nI i) yan yab yac yad yal yabl yacl yacf ynu yfi ypa ysz yli tx yki yf1 yf2 yo yoa yob yit yss ymo yst ymy ycl yrw yow yen yhi yla := by
  intro n
  subst hnd
  have hL := ht.1
  induction n with
  | zero => intro i an h1 h2; omega
  | succ n ih =>
    intro i an h1 h2 h3 h4
    have cf : (nI f).toNatClampNeg = f := nI_clamp (by omega)
    refine ⟨pk_in f 10 hf, ?_⟩
    rw [cf, hs.1]
    refine pk_le t.length i (fun hle => ?_) (fun hlt => ?_)
    · have e : i = t.length := by omega
      subst e
      exact nm_r (nI_1 d) (hp an h3 h4)
    · refine ⟨pk_in (f * 40 + i) 400 (by omega) (ys_ix f i), pk_in (d * 40 + i) 2560 (by omega) (ys_ix d i), fun ch1 hch x hx => ?_⟩
      rw [hx, nI_1]
      rw [ys_ixc (by omega), ys_ixc (by omega), hs.2 i hlt, ys_nar (qf_t_get ht hlt)] at hch
      refine ih (i + 1) ch1 (by omega) (by omega) ?_ ?_
      · intro j hj
        rw [hch]
        by_cases z : j = i
        · subst z; exact pk_us
        · rw [pk_un (by omega)]; exact h3 j (by omega)
      · intro j hj
        rw [hch, pk_un (by omega)]
        exact h4 j (by omega)
def qy_dl (docs : List qf_D) (pt : Nat → Nat) (tx sz nu fi pa li : Nat → Int32) : Prop := ∀ d x, docs[d]? = some x → nu d = nI x.1 ∧ fi d = nI x.2.1 ∧ li d = (if x.2.2.1 = true then 1 else 0) ∧ pa d = nI (pt d) ∧ qx_slot tx sz d (some x.2.2.2)
theorem qy_dl_app {docs : List qf_D} {pt : Nat → Nat} {tx sz nu fi pa li tx' sz' : Nat → Int32} {y : qf_D} {b p : Int32} (ht : ∀ x, x ∈ docs → qf_t x.2.2.2) (hd : docs.length < 64) (h : qy_dl docs pt tx sz nu fi pa li) (hs : qx_slot tx' sz' docs.length (some y.2.2.2)) (hk : qy_kp 64 docs.length tx sz tx' sz') (hb : b = if y.2.2.1 = true then 1 else 0) (hp : p = nI (pt docs.length)) : qy_dl (docs ++ [y]) pt tx' sz' (upd nu docs.length (nI y.1)) (upd fi docs.length (nI y.2.1)) (upd pa docs.length p) (upd li docs.length b) := by
  intro d x hx
  by_cases z : d < docs.length
  · rw [List.getElem?_append_left z] at hx
    obtain ⟨a1, a2, a3, a4, a5⟩ := h d x hx
    exact ⟨(pk_un (by omega)).trans a1, (pk_un (by omega)).trans a2, (pk_un (by omega)).trans a3, (pk_un (by omega)).trans a4, hk d _ (by omega) (by omega) (qf_o_some (ht x (qr_get_in hx))) a5⟩
  · have e : d = docs.length := by
      have := qr_get_lt hx
      rw [List.length_append, List.length_singleton] at this
      omega
    subst e
    rw [List.getElem?_append_right (Nat.le_refl _), Nat.sub_self] at hx
    have e : y = x := by simpa using hx
    subst e
    exact ⟨pk_us, pk_us, pk_us.trans hb, pk_us.trans hp, hs⟩
theorem ys_mk (docs : List qf_D) (pt : Nat → Nat) (f made : Nat) (hf : f < 10) (t : List Nat) (ht : qf_t t) (hs : qx_slot yan yal f (some t)) (hd : docs.length < 64) (hc : ynd = nI docs.length) (hm : yma = nI made) (hns : yns = nI (pt docs.length)) (hdl : qy_dl docs pt ytx ysz ynu yfi ypa yli) (hdt : ∀ x, x ∈ docs → qf_t x.2.2.2) (post : SY → Prop)
  (hp : ∀ tx sz nu fi pa li : Nat → Int32, qy_dl (docs ++ [(made, f, true, t)]) pt tx sz nu fi pa li → post (ywa, ydd, nI (docs.length + 1), yns, nI (made + 1), ynt, yno, yrc, yfo, ybl, yod, ywr, yan, yab, yac, yad, yal, yabl, yacl, yacf, nu, fi, pa, sz, li, tx, yki, yf1, yf2, yo, yoa, yob, yit, yss, ymo, yst, ymy, ycl, yrw, yow, yen, yhi, yla)) : wpY_make post (ywa, ydd, ynd, yns, yma, ynt, yno, yrc, yfo, ybl, yod, ywr, yan, yab, yac, yad, yal, yabl, yacl, yacf, ynu, yfi, ypa, ysz, yli, ytx, yki, yf1, yf2, yo, yoa, yob, yit, yss, ymo, yst, ymy, ycl, yrw, yow, yen, yhi, yla) (nI f) := by
  subst hc; subst hm
  have hi : vp_in (nI docs.length) 64 := pk_in docs.length 64 hd
  have cc : (nI docs.length).toNatClampNeg = docs.length := nI_clamp (by omega)
  have cf : (nI f).toNatClampNeg = f := nI_clamp (by omega)
  unfold wpY_make
  refine nm_r (nI_1 made) ⟨hi, nm_e ⟨hi, nm_e ⟨hi, nm_e ⟨hi, nm_e ⟨pk_in f 10 hf, hi, nm_e ⟨t.length + 1, ?_⟩⟩⟩⟩⟩⟩
  rw [cc, cf, xs_b1]
  refine ys_mk1 docs.length f hd hf t ht hs ytx rfl post ?_ (t.length + 1) 0 ytx (by omega) (by omega) (fun j hj => absurd hj (by omega)) (fun j _ => rfl)
  intro tx h1 h2
  refine hp tx _ _ _ _ _ (qy_dl_app (y := (made, f, true, t)) (p := yns) hdt hd hdl ⟨pk_us.trans hs.1, h1⟩ (qx_slot_cp (fun s hs => pk_un hs) ht.1 h2) rfl hns)
end
end
section
/-! the reference: segments are united, a sync -/
def qd_oy (docs : List qf_D) (st d : Nat) : List qf_D := if d ≤ st then docs.take d else qd_out docs st d
theorem qd_oy_len (docs : List qf_D) (st d : Nat) (hst : st ≤ docs.length) (hd : d ≤ docs.length) : (qd_oy docs st d).length ≤ d ∧ (d ≤ st → (qd_oy docs st d).length = d) ∧ (st ≤ d → st ≤ (qd_oy docs st d).length) := by
  unfold qd_oy
  by_cases z : d ≤ st
  · rw [if_pos z, List.length_take]; omega
  · rw [if_neg z]
    have := qd_out_len docs st d (by omega) hd
    omega
theorem qd_oy_s (docs : List qf_D) (st d : Nat) (hst : st ≤ docs.length) (hd : d < docs.length) : qd_oy docs st (d + 1) = if d < st ∨ docs[d].2.2.1 = true then qd_oy docs st d ++ [docs[d]] else qd_oy docs st d := by
  unfold qd_oy
  by_cases z : d < st
  · rw [if_pos (Or.inl z), if_pos (by omega), if_pos (by omega), List.take_succ_eq_append_getElem hd]
  · rw [if_neg (by omega)]
    have e : (if d ≤ st then docs.take d else qd_out docs st d) = qd_out docs st d := by
      by_cases y : d ≤ st
      · have : d = st := by omega
        subst this
        rw [if_pos y, qd_out_0 docs d hst]
      · rw [if_neg y]
    rw [e, qd_out_s docs st d (by omega) hd]
    by_cases y : docs[d].2.2.1 = true
    · rw [if_pos y, if_pos (Or.inr y)]
    · rw [if_neg y, if_neg (by intro h; rcases h with h | h; exact z h; exact y h)]
theorem qd_oy_all (docs : List qf_D) (st : Nat) (hst : st ≤ docs.length) : qd_oy docs st docs.length = docs.take st ++ (docs.drop st).filter qd_live := by
  unfold qd_oy
  by_cases y : docs.length ≤ st
  · have : docs.length = st := by omega
    rw [if_pos y, ← this, List.take_length, List.drop_length]
    simp
  · rw [if_neg y, qd_out_all]
theorem qd_oy_t {docs : List qf_D} {st d : Nat} (ht : ∀ x, x ∈ docs → qf_t x.2.2.2) : ∀ x, x ∈ qd_oy docs st d → qf_t x.2.2.2 := by
  intro x hx
  apply ht
  unfold qd_oy at hx
  split at hx
  · exact List.mem_of_mem_take hx
  · unfold qd_out at hx
    rcases List.mem_append.mp hx with y | y
    · exact List.mem_of_mem_take y
    · exact List.mem_of_mem_take (List.mem_of_mem_drop (List.mem_filter.mp y).1)
/-- the segment of the documents that are kept, while two segments become one -/
def qd_pt (segs : List Nat) (first : Nat) (j : Nat) : Nat := if j < qd_st first segs then qd_seg segs j else first
theorem qd_pt_new {docs : List qf_D} {segs : List Nat} {first : Nat} (hf : first ≤ segs.length) (hst : qd_st first segs ≤ docs.length) (j : Nat) (hj : j < (qd_gd first docs segs).length) : qd_pt segs first j = qd_seg (qd_gs first docs segs) j := by
  have hl : (qd_gd first docs segs).length = qd_st first segs + ((docs.drop (qd_st first segs)).filter qd_live).length := by
    unfold qd_gd
    rw [List.length_append, List.length_take, Nat.min_eq_left hst]
  have e0 : segs.take first ++ segs.drop first = segs := List.take_append_drop _ _
  unfold qd_pt qd_gs
  by_cases z : j < qd_st first segs
  · rw [if_pos z, qd_seg_app _ (segs.take first) j z]
    have := qd_seg_app (segs.drop first) (segs.take first) j z
    rw [e0] at this
    exact this
  · rw [if_neg z, if_neg (by omega), qd_seg_new _ (segs.take first) j (by show qd_st first segs ≤ j; omega) (by show j < qd_st first segs + _; omega), List.length_take]
    omega
section
variable {ywa ydd ynd yns yma ynt yno yrc yfo ybl yod ywr : Int32} {yan yab yac yad yal yabl yacl yacf ynu yfi ypa ysz yli ytx yki yf1 yf2 yo yoa yob yit yss ymo yst ymy ycl yrw yow yhi yla : Nat → Int32} {yen : Nat → Int64}
theorem ys_un1 (to d : Nat) (hto : to ≤ d) (hd : d < 64) (t : List Nat) (ht : qf_t t) (x1 x3 : Int32) (post : SY → Prop) (J7 : Int32 → Int32 → Int32 → (Nat → Int32) → (Nat → Int32) → (Nat → Int32) → (Nat → Int32) → (Nat → Int32) → (Nat → Int32) → (Nat → Int32) → (Nat → Int32) → (Nat → Int32) → (Nat → Int32) → (Nat → Int32) → (Nat → Int32) → (Nat → Int32) → (Nat → Int32) → (Nat → Int32) → (Nat → Int32) → (Nat → Int32) → (Nat → Int32) → (Nat → Int32) → (Nat → Int32) → (Nat → Int32) → (Nat → Int32) → (Nat → Int32) → (Nat → Int32) → (Nat → Int32) → (Nat → Int32) → (Nat → Int32) → (Nat → Int32) → (Nat → Int64) → (Nat → Int32) → (Nat → Int32) → Prop) (hz : ysz d = nI t.length) (tx0 : Nat → Int32) (h0 : ∀ i, i < t.length → tx0 (d * 40 + i) = nI (t.getD i 0))
  (hp : ∀ tx : Nat → Int32, (∀ j, j < t.length → tx (to * 40 + j) = nI (t.getD j 0)) → (∀ j, j < to * 40 ∨ to * 40 + t.length ≤ j → tx j = tx0 j) → J7 (nI (to + 1)) x3 (nI (d + 1)) yan yab yac yad yal yabl yacl yacf ynu yfi ypa ysz yli tx yki yf1 yf2 yo yoa yob yit yss ymo yst ymy ycl yrw yow yen yhi yla) :
  ∀ (n i : Nat) (tx : Nat → Int32), i ≤ t.length → t.length - i < n → (∀ j, j < i → tx (to * 40 + j) = nI (t.getD j 0)) → (∀ j, j < to * 40 ∨ to * 40 + i ≤ j → tx j = tx0 j) → wY_unite_137 post J7 x1 (nI to) x3 (nI d) ywa ydd ynd yns yma ynt yno yrc yfo ybl yod ywr n (nI i) yan yab yac yad yal yabl yacl yacf ynu yfi ypa ysz yli tx yki yf1 yf2 yo yoa yob yit yss ymo yst ymy ycl yrw yow yen yhi yla := by
  intro n
  have hL := ht.1
  induction n with
  | zero => intro i an h1 h2; omega
  | succ n ih =>
    intro i an h1 h2 h3 h4
    have cd : (nI d).toNatClampNeg = d := nI_clamp (by omega)
    refine ⟨pk_in d 64 hd, ?_⟩
    rw [cd, hz]
    refine pk_le t.length i (fun hle => ?_) (fun hlt => ?_)
    · have e : i = t.length := by omega
      subst e
      exact nm_r (nI_1 to) (nm_r (nI_1 d) (hp an h3 h4))
    · refine ⟨pk_in (d * 40 + i) 2560 (by omega) (ys_ix d i), pk_in (to * 40 + i) 2560 (by omega) (ys_ix to i), fun ch1 hch x hx => ?_⟩
      rw [hx, nI_1]
      rw [ys_ixc (by omega), ys_ixc (by omega), h4 (d * 40 + i) (by omega), h0 i hlt, ys_nar (qf_t_get ht hlt)] at hch
      refine ih (i + 1) ch1 (by omega) (by omega) ?_ ?_
      · intro j hj
        rw [hch]
        by_cases z : j = i
        · subst z; exact pk_us
        · rw [pk_un (by omega)]; exact h3 j (by omega)
      · intro j hj
        rw [hch, pk_un (by omega)]
        exact h4 j (by omega)
def qy_rest (docs : List qf_D) (segs : List Nat) (d : Nat) (tx sz nu fi pa li : Nat → Int32) : Prop := ∀ j x, d ≤ j → docs[j]? = some x → nu j = nI x.1 ∧ fi j = nI x.2.1 ∧ li j = (if x.2.2.1 = true then 1 else 0) ∧ pa j = nI (qd_seg segs j) ∧ qx_slot tx sz j (some x.2.2.2)
theorem ys_un3 (docs : List qf_D) (segs : List Nat) (first d : Nat) (hd : docs.length ≤ 64) (hlt : d < docs.length) (ht : ∀ x, x ∈ docs → qf_t x.2.2.2) (hst : qd_st first segs ≤ docs.length) (hsum : segs.sum = docs.length) (hsl : segs.length ≤ 16) (hf : first ≤ 16) (x3 : Int32) (post : SY → Prop) (J7 : Int32 → Int32 → Int32 → (Nat → Int32) → (Nat → Int32) → (Nat → Int32) → (Nat → Int32) → (Nat → Int32) → (Nat → Int32) → (Nat → Int32) → (Nat → Int32) → (Nat → Int32) → (Nat → Int32) → (Nat → Int32) → (Nat → Int32) → (Nat → Int32) → (Nat → Int32) → (Nat → Int32) → (Nat → Int32) → (Nat → Int32) → (Nat → Int32) → (Nat → Int32) → (Nat → Int32) → (Nat → Int32) → (Nat → Int32) → (Nat → Int32) → (Nat → Int32) → (Nat → Int32) → (Nat → Int32) → (Nat → Int32) → (Nat → Int32) → (Nat → Int64) → (Nat → Int32) → (Nat → Int32) → Prop)
  (hk : d < qd_st first segs ∨ docs[d].2.2.1 = true) (h1 : qy_dl (qd_oy docs (qd_st first segs) d) (qd_pt segs first) ytx ysz ynu yfi ypa yli) (h2 : qy_rest docs segs d ytx ysz ynu yfi ypa yli)
  (hp : ∀ tx sz nu fi pa li : Nat → Int32, qy_dl (qd_oy docs (qd_st first segs) (d + 1)) (qd_pt segs first) tx sz nu fi pa li → qy_rest docs segs (d + 1) tx sz nu fi pa li → J7 (nI (qd_oy docs (qd_st first segs) (d + 1)).length) x3 (nI (d + 1)) yan yab yac yad yal yabl yacl yacf nu fi pa sz li tx yki yf1 yf2 yo yoa yob yit yss ymo yst ymy ycl yrw yow yen yhi yla) :
  wY_unite_54 post J7 (nI first) (nI (qd_oy docs (qd_st first segs) d).length) x3 (nI d) ywa ydd ynd yns yma ynt yno yrc yfo ybl yod ywr yan yab yac yad yal yabl yacl yacf ynu yfi ypa ysz yli ytx yki yf1 yf2 yo yoa yob yit yss ymo yst ymy ycl yrw yow yen yhi yla := by
  have hg : docs[d]? = some docs[d] := List.getElem?_eq_getElem hlt
  obtain ⟨a1, a2, a3, a4, a5⟩ := h2 d _ (Nat.le_refl _) hg
  have hol := qd_oy_len docs (qd_st first segs) d hst (by omega)
  have hs' := qd_oy_s docs (qd_st first segs) d hst hlt
  rw [if_pos hk] at hs'
  have htd := ht _ (List.getElem_mem hlt)
  have hto := qd_oy_t (st := qd_st first segs) (d := d) ht
  have hge := qd_seg_ge segs d first (by omega)
  have hsg := qd_seg_lt segs d (by omega)
  generalize hO : qd_oy docs (qd_st first segs) d = O at *
  rw [hs'] at hp
  have hi : vp_in (nI d) 64 := pk_in d 64 (by omega)
  have ho : vp_in (nI O.length) 64 := pk_in O.length 64 (by omega)
  have cd : (nI d).toNatClampNeg = d := nI_clamp (by omega)
  have co : (nI O.length).toNatClampNeg = O.length := nI_clamp (by omega)
  have hli : vp_nar .boolean (yli d) = if docs[d].2.2.1 = true then 1 else 0 := by
    rw [a3]
    split
    · exact xs_b1
    · exact xs_b0
  have key : ∀ p : Nat, p = qd_pt segs first O.length → wY_unite_107 post J7 (nI first) (nI O.length) x3 (nI d) (nI p) (nI O.length) ywa ydd ynd yns yma ynt yno yrc yfo ybl yod ywr yan yab yac yad yal yabl yacl yacf (upd ynu O.length (nI docs[d].1)) (upd yfi O.length (nI docs[d].2.1)) ypa ysz yli ytx yki yf1 yf2 yo yoa yob yit yss ymo yst ymy ycl yrw yow yen yhi yla := by
    intro p hpp
    refine ⟨ho, nm_e ⟨hi, ho, nm_e ⟨hi, ho, nm_e ⟨docs[d].2.2.2.length + 1, ?_⟩⟩⟩⟩
    rw [cd, co, hli, a5.1]
    refine ys_un1 (ysz := upd ysz O.length (nI docs[d].2.2.2.length)) O.length d (by omega) (by omega) docs[d].2.2.2 htd (nI first) x3 post J7 ?_ ytx a5.2 ?_ (docs[d].2.2.2.length + 1) 0 ytx (by omega) (by omega) (fun j hj => absurd hj (by omega)) (fun j _ => rfl)
    · by_cases z : d = O.length
      · exact if_pos z
      · exact (pk_un z).trans a5.1
    · intro tx g1 g2
      have hkp : qy_kp 64 O.length ytx ysz tx (upd ysz O.length (nI docs[d].2.2.2.length)) := qx_slot_cp (fun s hs => pk_un hs) htd.1 g2
      have := hp tx (upd ysz O.length (nI docs[d].2.2.2.length)) (upd ynu O.length (nI docs[d].1)) (upd yfi O.length (nI docs[d].2.1)) (upd ypa O.length (nI p)) (upd yli O.length (if docs[d].2.2.1 = true then 1 else 0)) (qy_dl_app hto (by omega) h1 ⟨pk_us, g1⟩ hkp rfl (by rw [hpp])) ?_
      · rw [List.length_append, List.length_singleton] at this
        exact this
      · intro j x hj hx
        obtain ⟨b1, b2, b3, b4, b5⟩ := h2 j x (by omega) hx
        have hjl := qr_get_lt hx
        exact ⟨(pk_un (by omega)).trans b1, (pk_un (by omega)).trans b2, (pk_un (by omega)).trans b3, (pk_un (by omega)).trans b4, hkp j _ (by omega) (by omega) (qf_o_some (ht x (qr_get_in hx))) b5⟩
  refine ⟨hi, ho, nm_e ⟨hi, ho, nm_e ⟨hi, ?_⟩⟩⟩
  rw [cd, co, a1, a2, a4]
  refine pk_le first (qd_seg segs d) (fun hle => key first ?_) (fun hlt' => ⟨hi, key (qd_seg segs d) ?_⟩)
  · unfold qd_pt
    rw [if_neg (by have := hge.mp hle; omega)]
  · have : ¬ qd_st first segs ≤ d := fun z => by have := hge.mpr z; omega
    have e : O.length = d := hol.2.1 (by omega)
    unfold qd_pt
    rw [e, if_pos (by omega)]
theorem ys_un2 (docs : List qf_D) (segs : List Nat) (first : Nat) (hf : first ≤ segs.length) (hsl : segs.length ≤ 16) (hd : docs.length ≤ 64) (ht : ∀ x, x ∈ docs → qf_t x.2.2.2) (hsum : segs.sum = docs.length) (hnd : ynd = nI docs.length) (post : SY → Prop)
  (hp : ∀ tx sz nu fi pa li : Nat → Int32, qy_dl (qd_gd first docs segs) (qd_seg (qd_gs first docs segs)) tx sz nu fi pa li → post (ywa, ydd, nI (qd_gd first docs segs).length, nI (qd_gs first docs segs).length, yma, ynt, yno, yrc, yfo, ybl, yod, ywr, yan, yab, yac, yad, yal, yabl, yacl, yacf, nu, fi, pa, sz, li, tx, yki, yf1, yf2, yo, yoa, yob, yit, yss, ymo, yst, ymy, ycl, yrw, yow, yen, yhi, yla)) :
  ∀ (n d : Nat) (tx sz nu fi pa li : Nat → Int32), d ≤ docs.length → docs.length - d < n → qy_dl (qd_oy docs (qd_st first segs) d) (qd_pt segs first) tx sz nu fi pa li → qy_rest docs segs d tx sz nu fi pa li → wY_unite_7 post (nI first) ywa ydd ynd yns yma ynt yno yrc yfo ybl yod ywr n (nI (qd_oy docs (qd_st first segs) d).length) (nI ((qd_oy docs (qd_st first segs) d).length - qd_st first segs)) (nI d) yan yab yac yad yal yabl yacl yacf nu fi pa sz li tx yki yf1 yf2 yo yoa yob yit yss ymo yst ymy ycl yrw yow yen yhi yla := by
  intro n
  have hst : qd_st first segs ≤ docs.length := by rw [← hsum]; exact qd_st_le first
  induction n with
  | zero => intro d tx sz nu fi pa li h1 h2; omega
  | succ n ih =>
    intro d tx sz nu fi pa li h1 h2 h3 h4
    have hol := qd_oy_len docs (qd_st first segs) d hst h1
    refine pk_le docs.length d (fun hle => ?_) (fun hlt => ?_) hnd
    · have e : d = docs.length := by omega
      subst e
      have e2 : qd_oy docs (qd_st first segs) docs.length = qd_gd first docs segs := qd_oy_all docs _ hst
      rw [e2] at h3 hol ⊢
      have h3' : qy_dl (qd_gd first docs segs) (qd_seg (qd_gs first docs segs)) tx sz nu fi pa li := by
        intro j x hx
        obtain ⟨b1, b2, b3, b4, b5⟩ := h3 j x hx
        exact ⟨b1, b2, b3, by rw [b4, qd_pt_new hf hst j (qr_get_lt hx)], b5⟩
      have hl : (qd_gd first docs segs).length = qd_st first segs + ((docs.drop (qd_st first segs)).filter qd_live).length := by
        unfold qd_gd
        rw [List.length_append, List.length_take, Nat.min_eq_left hst]
      have hfl : (segs.take first).length = first := by rw [List.length_take]; omega
      have := hp tx sz nu fi pa li h3'
      refine pk_le ((qd_gd first docs segs).length - qd_st first segs) 0 (fun hle => ?_) (fun hlt => ?_)
      · have e4 : qd_gs first docs segs = segs.take first := by
          unfold qd_gs
          rw [if_pos (by omega), List.append_nil]
        rw [e4, hfl] at this
        exact this
      · have e4 : (qd_gs first docs segs).length = first + 1 := by
          unfold qd_gs
          rw [if_neg (by omega), List.length_append, hfl]
          rfl
        rw [e4] at this
        exact nm_r (nI_1 first) this
    · have hg : docs[d]? = some docs[d] := List.getElem?_eq_getElem hlt
      obtain ⟨a1, a2, a3, a4, a5⟩ := h4 d _ (Nat.le_refl _) hg
      have hi : vp_in (nI d) 64 := pk_in d 64 (by omega)
      have cd : (nI d).toNatClampNeg = d := nI_clamp (by omega)
      have hge := qd_seg_ge segs d first (by omega)
      have hsg := qd_seg_lt segs d (by omega)
      have hs' := qd_oy_s docs (qd_st first segs) d hst hlt
      refine ⟨hi, ?_⟩
      rw [cd, a4]
      refine pk_lt (qd_seg segs d) first (fun hlt' => ?_) (fun hle => ?_)
      · have hds : d < qd_st first segs := by
          rcases Nat.lt_or_ge d (qd_st first segs) with z | z
          · exact z
          · have := hge.mpr z; omega
        rw [if_pos (Or.inl hds)] at hs'
        refine ⟨hi, ?_⟩
        rw [cd, a4]
        refine br_t (nI_lt hlt' (by omega)) ?_
        refine ys_un3 docs segs first d hd hlt ht hst hsum hsl (by omega) _ post _ (Or.inl hds) h3 h4 ?_
        intro tx' sz' nu' fi' pa' li' g1 g2
        have := ih (d + 1) tx' sz' nu' fi' pa' li' (by omega) (by omega) g1 g2
        have e : (qd_oy docs (qd_st first segs) (d + 1)).length - qd_st first segs = (qd_oy docs (qd_st first segs) d).length - qd_st first segs := by
          rw [hs', List.length_append, List.length_singleton]
          have := hol.2.1 (by omega)
          omega
        rw [e] at this
        exact this
      · have hds : qd_st first segs ≤ d := hge.mp hle
        refine ⟨hi, ?_⟩
        rw [a3]
        by_cases z : docs[d].2.2.1 = true
        · rw [if_pos (Or.inr z)] at hs'
          rw [if_pos z]
          refine br_f (by decide) ⟨hi, ?_⟩
          rw [cd, a4]
          refine br_f (nI_nlt hle (by omega)) (nm_r (nI_1 _) ?_)
          refine ys_un3 docs segs first d hd hlt ht hst hsum hsl (by omega) _ post _ (Or.inr z) h3 h4 ?_
          intro tx' sz' nu' fi' pa' li' g1 g2
          have := ih (d + 1) tx' sz' nu' fi' pa' li' (by omega) (by omega) g1 g2
          have e : (qd_oy docs (qd_st first segs) (d + 1)).length - qd_st first segs = (qd_oy docs (qd_st first segs) d).length - qd_st first segs + 1 := by
            rw [hs', List.length_append, List.length_singleton]
            have := hol.2.2 hds
            omega
          rw [e] at this
          exact this
        · rw [if_neg (by intro h; rcases h with h | h; omega; exact z h)] at hs'
          rw [if_neg z]
          refine br_t rfl (nm_r (nI_1 d) ?_)
          rw [← hs']
          refine ih (d + 1) tx sz nu fi pa li (by omega) (by omega) (by rw [hs']; exact h3) (fun j x hj hx => h4 j x (by omega) hx)
theorem ys_un (docs : List qf_D) (segs : List Nat) (first : Nat) (hf : first ≤ segs.length) (hsl : segs.length ≤ 16) (hd : docs.length ≤ 64) (ht : ∀ x, x ∈ docs → qf_t x.2.2.2) (hsum : segs.sum = docs.length) (hnd : ynd = nI docs.length) (hdl : qy_dl docs (qd_seg segs) ytx ysz ynu yfi ypa yli) (xf : Int32) (ef : xf = nI first) (post : SY → Prop)
  (hp : ∀ tx sz nu fi pa li : Nat → Int32, qy_dl (qd_gd first docs segs) (qd_seg (qd_gs first docs segs)) tx sz nu fi pa li → post (ywa, ydd, nI (qd_gd first docs segs).length, nI (qd_gs first docs segs).length, yma, ynt, yno, yrc, yfo, ybl, yod, ywr, yan, yab, yac, yad, yal, yabl, yacl, yacf, nu, fi, pa, sz, li, tx, yki, yf1, yf2, yo, yoa, yob, yit, yss, ymo, yst, ymy, ycl, yrw, yow, yen, yhi, yla)) : wpY_unite post (ywa, ydd, ynd, yns, yma, ynt, yno, yrc, yfo, ybl, yod, ywr, yan, yab, yac, yad, yal, yabl, yacl, yacf, ynu, yfi, ypa, ysz, yli, ytx, yki, yf1, yf2, yo, yoa, yob, yit, yss, ymo, yst, ymy, ycl, yrw, yow, yen, yhi, yla) xf := by
  subst ef
  have e : qd_oy docs (qd_st first segs) 0 = [] := by unfold qd_oy; rw [if_pos (by omega)]; rfl
  have this : wY_unite_7 post (nI first) ywa ydd ynd yns yma ynt yno yrc yfo ybl yod ywr (docs.length + 1) (nI (qd_oy docs (qd_st first segs) 0).length) (nI ((qd_oy docs (qd_st first segs) 0).length - qd_st first segs)) (nI 0) yan yab yac yad yal yabl yacl yacf ynu yfi ypa ysz yli ytx yki yf1 yf2 yo yoa yob yit yss ymo yst ymy ycl yrw yow yen yhi yla := ys_un2 docs segs first hf hsl hd ht hsum hnd post hp (docs.length + 1) 0 ytx ysz ynu yfi ypa yli (by omega) (by omega) (by rw [e]; exact (fun j x hx => nomatch hx)) (fun j x _ hx => hdl j x hx)
  rw [e, List.length_nil, Nat.zero_sub] at this
  exact ⟨docs.length + 1, this⟩
end
end
section
/-! the reference: a sync -/
def qd_p1 (docs : List qf_D) (segs : List Nat) (j : Nat) : Nat := if j < docs.length then qd_seg segs j else segs.length
theorem qy_dl_dead {docs : List qf_D} {ch : List Nat} {pt : Nat → Nat} {tx sz nu fi pa li li' : Nat → Int32} (h : qy_dl docs pt tx sz nu fi pa li) (h' : ∀ d x, docs[d]? = some x → li' d = if (qd_dead ch x).2.2.1 = true then 1 else 0) : qy_dl (docs.map (qd_dead ch)) pt tx sz nu fi pa li' := by
  intro d x hx
  rw [List.getElem?_map] at hx
  cases hy : docs[d]? with
  | none => rw [hy] at hx; exact nomatch hx
  | some y =>
    rw [hy] at hx
    have e : qd_dead ch y = x := by simpa using hx
    obtain ⟨a1, a2, a3, a4, a5⟩ := h d y hy
    have b := h' d y hy
    rw [e] at b
    have e2 : x.1 = y.1 ∧ x.2.1 = y.2.1 ∧ x.2.2.2 = y.2.2.2 := by
      rw [← e]
      unfold qd_dead
      split <;> exact ⟨rfl, rfl, rfl⟩
    exact ⟨by rw [e2.1]; exact a1, by rw [e2.2.1]; exact a2, b, a4, by rw [e2.2.2]; exact a5⟩
section
variable {ywa ydd ynd yns yma ynt yno yrc yfo ybl yod ywr : Int32} {yan yab yac yad yal yabl yacl yacf ynu yfi ypa ysz yli ytx yki yf1 yf2 yo yoa yob yit yss ymo yst ymy ycl yrw yow yhi yla : Nat → Int32} {yen : Nat → Int64}
theorem ys_in (x : Int32) (lo hi : Nat) (hhi : hi < 2 ^ 31) (hlo : lo < 2 ^ 31) (xl xh : Int32) (el : xl = nI lo) (eh : xh = nI hi) (post : Int32 → Prop) (h0 : (∀ j, lo ≤ j → j ≤ hi → x ≠ nI j) → post 0) (h1 : ∀ j, lo ≤ j → j ≤ hi → x = nI j → post 1) : wpY_in post x xl xh := by
  subst el; subst eh
  by_cases hle : lo ≤ hi
  · by_cases a : x < nI lo
    · refine br_t a (h0 (fun j h2 h3 e => ?_))
      rw [e, nI_ltI (by omega) (by omega)] at a
      omega
    · refine br_f a ?_
      by_cases b : nI hi < x
      · refine br_t b (h0 (fun j h2 h3 e => ?_))
        rw [e, nI_ltI (by omega) (by omega)] at b
        omega
      · refine br_f b ?_
        have hx0 : ¬ x < 0 := by
          intro z
          rw [Int32.lt_iff_toInt_lt] at z a
          rw [nI_toInt (by omega)] at a
          have : (0 : Int32).toInt = 0 := by decide
          omega
        obtain ⟨j, hj, rfl⟩ := nI_of hx0
        rw [nI_ltI hj (by omega)] at a
        rw [nI_ltI (by omega) hj] at b
        exact h1 j (by omega) (by omega) rfl
  · have hh := h0 (fun j h2 h3 => absurd h3 (by omega))
    refine br_c (fun _ => hh) (fun a => br_t ?_ hh)
    rw [Int32.lt_iff_toInt_lt] at a ⊢
    rw [nI_toInt hhi]
    rw [nI_toInt hlo] at a
    omega
theorem ys_m (wt : List (Nat × qf_X)) (hl : wt.length ≤ 6) (hw : ∀ k c, wt[k]? = some c → yacf k = nI c.1 ∧ c.1 < 10) (hwa : ywa = nI wt.length) (post : Int32 → SY → Prop)
  (hp : ∀ x1 : Int32, (∀ f, f < 10 → (bt x1 f = true ↔ f ∈ qd_ch wt)) → ∃ n : Nat, wY_sync_31 post x1 ywa ydd ynd yns yma ynt yno yrc yfo ybl yod ywr n 0 yan yab yac yad yal yabl yacl yacf ynu yfi ypa ysz yli ytx yki yf1 yf2 yo yoa yob yit yss ymo yst ymy ycl yrw yow yen yhi yla) :
  ∀ (n i : Nat) (x1 : Int32), i ≤ wt.length → wt.length - i < n → (∀ f, f < 10 → (bt x1 f = true ↔ f ∈ qd_ch (wt.take i))) → wY_sync_4 post ywa ydd ynd yns yma ynt yno yrc yfo ybl yod ywr yan yab yac yad yal yabl yacl yacf ynu yfi ypa ysz yli ytx yki yf1 yf2 yo yoa yob yit yss ymo yst ymy ycl yrw yow yen yhi yla n x1 (nI i) := by
  intro n
  induction n with
  | zero => intro i x1 h1 h2; omega
  | succ n ih =>
    intro i x1 h1 h2 h3
    refine pk_le wt.length i (fun hle => ?_) (fun hlt => ?_) hwa
    · rw [List.take_of_length_le hle] at h3
      exact hp x1 h3
    · obtain ⟨a1, a2⟩ := hw i _ (List.getElem?_eq_getElem hlt)
      have ci : (nI i).toNatClampNeg = i := nI_clamp (by omega)
      refine ⟨pk_in i 6 (by omega), nm_e (nm_r (nI_1 i) ?_)⟩
      rw [ci, a1]
      refine ih (i + 1) _ (by omega) (by omega) ?_
      intro f hf
      rw [b_or, qb_h32 _ (by omega) f (by omega), Bool.or_eq_true, h3 f hf, decide_eq_true_eq, List.take_succ_eq_append_getElem hlt]
      unfold qd_ch
      rw [List.map_append, List.mem_append]
      simp
theorem ys_d (docs : List qf_D) (ch : List Nat) (x1 : Int32) (hx : ∀ f, f < 10 → (bt x1 f = true ↔ f ∈ ch)) (hd : docs.length ≤ 64) (hnd : ynd = nI docs.length) (hf : ∀ d x, docs[d]? = some x → yfi d = nI x.2.1 ∧ x.2.1 < 10) (post : Int32 → SY → Prop)
  (hp : ∀ li : Nat → Int32, (∀ d x, docs[d]? = some x → li d = if (qd_dead ch x).2.2.1 = true then 1 else 0) → ∃ n : Nat, wY_sync_73 post x1 ynd n 0 ywa ydd ynd yns yma ynt yno yrc yfo ybl yod ywr yan yab yac yad yal yabl yacl yacf ynu yfi ypa ysz li ytx yki yf1 yf2 yo yoa yob yit yss ymo yst ymy ycl yrw yow yen yhi yla) :
  ∀ (n i : Nat) (li : Nat → Int32), i ≤ docs.length → docs.length - i < n → (∀ d x, docs[d]? = some x → li d = if (qd_dk ch i d x).2.2.1 = true then 1 else 0) → wY_sync_31 post x1 ywa ydd ynd yns yma ynt yno yrc yfo ybl yod ywr n (nI i) yan yab yac yad yal yabl yacl yacf ynu yfi ypa ysz li ytx yki yf1 yf2 yo yoa yob yit yss ymo yst ymy ycl yrw yow yen yhi yla := by
  intro n
  induction n with
  | zero => intro i dl h1 h2; omega
  | succ n ih =>
    intro i dl h1 h2 h3
    refine pk_le docs.length i (fun hle => ?_) (fun hlt => ?_) hnd
    · refine hp dl (fun d x hx => ?_)
      have := qr_get_lt hx
      rw [h3 d x hx, qd_dk_lt (by omega)]
    · have hg : docs[i]? = some docs[i] := List.getElem?_eq_getElem hlt
      have ci : (nI i).toNatClampNeg = i := nI_clamp (by omega)
      have hi : vp_in (nI i) 64 := pk_in i 64 (by omega)
      obtain ⟨a1, a2⟩ := hf i _ hg
      refine ⟨hi, ?_⟩
      rw [ci, a1]
      refine ek_if ((qb_s1 x1 docs[i].2.1 (by omega)).trans (hx _ a2)) (fun z => ⟨hi, nm_e (nm_r (nI_1 i) ?_)⟩) (fun z => nm_r (nI_1 i) ?_)
      · rw [xs_b0]
        refine ih (i + 1) _ (by omega) (by omega) ?_
        intro d x hx
        by_cases y : d = i
        · subst y
          rw [hg] at hx
          cases hx
          rw [pk_us, qd_dk_lt (by omega)]
          unfold qd_dead
          rw [if_pos z]
          rfl
        · rw [pk_un y, h3 d x hx]
          by_cases w : d < i
          · rw [qd_dk_lt w, qd_dk_lt (by omega)]
          · rw [qd_dk_ge w, qd_dk_ge (by omega)]
      · refine ih (i + 1) _ (by omega) (by omega) ?_
        intro d x hx
        rw [h3 d x hx]
        by_cases y : d = i
        · subst y
          rw [hg] at hx
          cases hx
          rw [qd_dk_ge (by omega), qd_dk_lt (by omega)]
          unfold qd_dead
          rw [if_neg z]
        · by_cases w : d < i
          · rw [qd_dk_lt w, qd_dk_lt (by omega)]
          · rw [qd_dk_ge w, qd_dk_ge (by omega)]
theorem ys_n (now : Nat → qf_X) (ch : List Nat) (docs : List qf_D) (segs : List Nat) (made : Nat) (pt : Nat → Nat) (x1 : Int32) (hx : ∀ f, f < 10 → (bt x1 f = true ↔ f ∈ ch)) (hc : ch.length ≤ 6) (hno : ∀ f, f < 10 → qf_o (now f)) (hn : ∀ f, f < 10 → qx_slot yan yal f (now f)) (hd : docs.length ≤ 55) (hdt : ∀ x, x ∈ docs → qf_t x.2.2.2) (hns : yns = nI segs.length) (hpt : ∀ j, docs.length ≤ j → pt j = segs.length) (post : Int32 → SY → Prop)
  (hp : ∀ tx sz nu fi pa li : Nat → Int32, qy_dl (docs ++ qd_new ch now 10 0 made) pt tx sz nu fi pa li → ∃ n : Nat, wY_sync_128 post ywa ydd (nI (docs ++ qd_new ch now 10 0 made).length) (nI (qd_s1 segs (qd_new ch now 10 0 made).length).length) (nI (made + (qd_new ch now 10 0 made).length)) ynt yno yrc yfo ybl yod ywr n 0 yan yab yac yad yal yabl yacl yacf nu fi pa sz li tx yki yf1 yf2 yo yoa yob yit yss ymo yst ymy ycl yrw yow yen yhi yla) :
  ∀ (n f : Nat) (tx sz nu fi pa li : Nat → Int32), f ≤ 10 → 10 - f < n → qy_dl (docs ++ qd_new ch now f 0 made) pt tx sz nu fi pa li → wY_sync_73 post x1 (nI docs.length) n (nI f) ywa ydd (nI (docs ++ qd_new ch now f 0 made).length) yns (nI (made + (qd_new ch now f 0 made).length)) ynt yno yrc yfo ybl yod ywr yan yab yac yad yal yabl yacl yacf nu fi pa sz li tx yki yf1 yf2 yo yoa yob yit yss ymo yst ymy ycl yrw yow yen yhi yla := by
  intro n
  subst hns
  induction n with
  | zero => intro f tx sz nu fi pa li h1 h2; omega
  | succ n ih =>
    intro f tx sz nu fi pa li h1 h2 h3
    have hln := qd_new_len ch now f 0 made
    refine pk_le 10 f (fun hle => ?_) (fun hlt => ?_)
    · have e : f = 10 := by omega
      subst e
      have := hp tx sz nu fi pa li h3
      refine pk_le (docs ++ qd_new ch now 10 0 made).length docs.length (fun hle => ?_) (fun hlt => ?_) rfl rfl (by rw [List.length_append]; omega) (by omega)
      · rw [List.length_append] at hle
        have e4 : qd_s1 segs (qd_new ch now 10 0 made).length = segs := by
          unfold qd_s1
          rw [if_pos (by omega), List.append_nil]
        rw [e4] at this
        exact this
      · rw [List.length_append] at hlt
        have e4 : (qd_s1 segs (qd_new ch now 10 0 made).length).length = segs.length + 1 := by
          unfold qd_s1
          rw [if_neg (by omega), List.length_append]
          rfl
        rw [e4] at this
        exact nm_r (nI_1 _) this
    · have hcut := qd_new_cut ch now f 0 made
      rw [Nat.zero_add] at hcut
      have cf : (nI f).toNatClampNeg = f := nI_clamp (by omega)
      refine ek_if ((qb_s1 x1 f (by omega)).trans (hx f hlt)) (fun z => ⟨pk_in f 10 hlt, ?_⟩) (fun z => nm_r (nI_1 f) ?_)
      · rw [if_pos z] at hcut
        rw [cf]
        have hs := hn f hlt
        have hot : ∀ x, x ∈ docs ++ qd_new ch now f 0 made → qf_t x.2.2.2 := by
          intro x hx
          rcases List.mem_append.mp hx with y | y
          · exact hdt x y
          · exact qd_new_t hno f made h1 x y
        cases hnf : now f with
        | none =>
          rw [hnf] at hs hcut
          dsimp only at hcut
          rw [List.append_nil] at hcut
          rw [show yal f = -1 from hs]
          refine br_t (by decide) (nm_r (nI_1 f) ?_)
          have := ih (f + 1) tx sz nu fi pa li (by omega) (by omega) (by rw [hcut]; exact h3)
          rw [hcut] at this
          exact this
        | some t =>
          rw [hnf] at hs hcut
          dsimp only at hcut
          have ht := hno f hlt t hnf
          rw [show yal f = nI t.length from hs.1]
          refine br_f (nI_pos (by have := ht.1; omega)) ?_
          refine ys_mk (docs ++ qd_new ch now f 0 made) pt f (made + (qd_new ch now f 0 made).length) hlt t ht hs (by rw [List.length_append]; omega) rfl rfl (by rw [hpt _ (by rw [List.length_append]; omega)]) h3 hot _ (fun tx' sz' nu' fi' pa' li' hd' => ?_)
          refine nm_r (nI_1 f) ?_
          have := ih (f + 1) tx' sz' nu' fi' pa' li' (by omega) (by omega) (by rw [hcut, ← List.append_assoc]; exact hd')
          rw [hcut] at this
          simp only [List.length_append, List.length_singleton, ← Nat.add_assoc] at this ⊢
          exact this
      · rw [if_neg z, List.append_nil] at hcut
        have := ih (f + 1) tx sz nu fi pa li (by omega) (by omega) (by rw [hcut]; exact h3)
        rw [hcut] at this
        exact this
theorem ys_b1 (post : Int32 → SY → Prop) (hp : ∀ ab : Nat → Int32, (∀ j, j < 400 → ab j = vp_nar .byte (yan j)) → ∃ n : Nat, wY_sync_155 post ywa ydd ynd yns yma ynt yno yrc yfo ybl yod ywr n 0 yan ab yac yad yal yabl yacl yacf ynu yfi ypa ysz yli ytx yki yf1 yf2 yo yoa yob yit yss ymo yst ymy ycl yrw yow yen yhi yla) :
  ∀ (n i : Nat) (ab : Nat → Int32), i ≤ 400 → 400 - i < n → (∀ j, j < i → ab j = vp_nar .byte (yan j)) → wY_sync_128 post ywa ydd ynd yns yma ynt yno yrc yfo ybl yod ywr n (nI i) yan ab yac yad yal yabl yacl yacf ynu yfi ypa ysz yli ytx yki yf1 yf2 yo yoa yob yit yss ymo yst ymy ycl yrw yow yen yhi yla := by
  intro n
  induction n with
  | zero => intro i ab h1 h2; omega
  | succ n ih =>
    intro i ab h1 h2 h3
    refine pk_le 400 i (fun hle => ?_) (fun hlt => ?_)
    · exact hp ab (fun j hj => h3 j (by omega))
    · have ci : (nI i).toNatClampNeg = i := nI_clamp (by omega)
      refine ⟨pk_in i 400 hlt, pk_in i 400 hlt, nm_e (nm_r (nI_1 i) ?_)⟩
      rw [ci]
      refine ih (i + 1) _ (by omega) (by omega) (fun j hj => ?_)
      by_cases z : j = i
      · subst z; exact pk_us
      · exact (pk_un z).trans (h3 j (by omega))
theorem ys_b2 (post : Int32 → SY → Prop) (hp : ∀ abl : Nat → Int32, (∀ j, j < 10 → abl j = yal j) → ∃ n : Nat, wY_sync_184 post n 0 ydd ynd yns yma ynt yno yrc yfo ybl yod ywr yan yab yac yad yal abl yacl yacf ynu yfi ypa ysz yli ytx yki yf1 yf2 yo yoa yob yit yss ymo yst ymy ycl yrw yow yen yhi yla) :
  ∀ (n i : Nat) (abl : Nat → Int32), i ≤ 10 → 10 - i < n → (∀ j, j < i → abl j = yal j) → wY_sync_155 post ywa ydd ynd yns yma ynt yno yrc yfo ybl yod ywr n (nI i) yan yab yac yad yal abl yacl yacf ynu yfi ypa ysz yli ytx yki yf1 yf2 yo yoa yob yit yss ymo yst ymy ycl yrw yow yen yhi yla := by
  intro n
  induction n with
  | zero => intro i ab h1 h2; omega
  | succ n ih =>
    intro i ab h1 h2 h3
    refine pk_le 10 i (fun hle => ?_) (fun hlt => ?_)
    · exact hp ab (fun j hj => h3 j (by omega))
    · have ci : (nI i).toNatClampNeg = i := nI_clamp (by omega)
      refine ⟨pk_in i 10 hlt, pk_in i 10 hlt, nm_e (nm_r (nI_1 i) ?_)⟩
      rw [ci]
      refine ih (i + 1) _ (by omega) (by omega) (fun j hj => ?_)
      by_cases z : j = i
      · subst z; exact pk_us
      · exact (pk_un z).trans (h3 j (by omega))
theorem ys_sz1 (docs : List qf_D) (segs : List Nat) (k : Nat) (hk : k < segs.length) (hsl : segs.length ≤ 16) (hd : docs.length ≤ 64) (hsum : segs.sum = docs.length) (hnd : ynd = nI docs.length) (hpa : ∀ d, d < docs.length → ypa d = nI (qd_seg segs d)) (post : Int32 → Prop) (hp : post (nI (segs.getD k 0))) :
  ∀ (n d : Nat), d ≤ docs.length → docs.length - d < n → wY_sizeOf_4 post (nI k) ywa ydd ynd yns yma ynt yno yrc yfo ybl yod ywr yan yab yac yad yal yabl yacl yacf ynu yfi ypa ysz yli ytx yki yf1 yf2 yo yoa yob yit yss ymo yst ymy ycl yrw yow yen yhi yla n (nI (min d (qd_st (k + 1) segs) - min d (qd_st k segs))) (nI d) := by
  intro n
  have hss := qd_st_s segs k
  have hle1 := qd_st_le (segs := segs) (k + 1)
  induction n with
  | zero => intro d h1 h2; omega
  | succ n ih =>
    intro d h1 h2
    refine pk_le docs.length d (fun hle => ?_) (fun hlt => ?_) hnd
    · have e : min d (qd_st (k + 1) segs) - min d (qd_st k segs) = segs.getD k 0 := by omega
      rw [e]
      exact hp
    · have cd : (nI d).toNatClampNeg = d := nI_clamp (by omega)
      have hq := qd_seg_eq segs d k (by omega)
      have hsg := qd_seg_lt segs d (by omega)
      refine ⟨pk_in d 64 (by omega), ?_⟩
      rw [cd, hpa d hlt]
      refine pk_eq (qd_seg segs d) k (fun he => nm_r (nI_1 _) (nm_r (nI_1 d) ?_)) (fun he => nm_r (nI_1 d) ?_)
      · have := hq.mp he
        have e : min d (qd_st (k + 1) segs) - min d (qd_st k segs) + 1 = min (d + 1) (qd_st (k + 1) segs) - min (d + 1) (qd_st k segs) := by omega
        rw [e]
        exact ih (d + 1) (by omega) (by omega)
      · have : ¬ (qd_st k segs ≤ d ∧ d < qd_st (k + 1) segs) := fun z => he (hq.mpr z)
        have e : min d (qd_st (k + 1) segs) - min d (qd_st k segs) = min (d + 1) (qd_st (k + 1) segs) - min (d + 1) (qd_st k segs) := by omega
        rw [e]
        exact ih (d + 1) (by omega) (by omega)
theorem ys_sz (docs : List qf_D) (segs : List Nat) (k : Nat) (hk : k < segs.length) (hsl : segs.length ≤ 16) (hd : docs.length ≤ 64) (hsum : segs.sum = docs.length) (hnd : ynd = nI docs.length) (hpa : ∀ d, d < docs.length → ypa d = nI (qd_seg segs d)) (xk : Int32) (ek : xk = nI k) (post : Int32 → Prop) (hp : post (nI (segs.getD k 0))) : wpY_sizeOf post (ywa, ydd, ynd, yns, yma, ynt, yno, yrc, yfo, ybl, yod, ywr, yan, yab, yac, yad, yal, yabl, yacl, yacf, ynu, yfi, ypa, ysz, yli, ytx, yki, yf1, yf2, yo, yoa, yob, yit, yss, ymo, yst, ymy, ycl, yrw, yow, yen, yhi, yla) xk := by
  subst ek
  have this : wY_sizeOf_4 post (nI k) ywa ydd ynd yns yma ynt yno yrc yfo ybl yod ywr yan yab yac yad yal yabl yacl yacf ynu yfi ypa ysz yli ytx yki yf1 yf2 yo yoa yob yit yss ymo yst ymy ycl yrw yow yen yhi yla (docs.length + 1) (nI (min 0 (qd_st (k + 1) segs) - min 0 (qd_st k segs))) (nI 0) := ys_sz1 docs segs k hk hsl hd hsum hnd hpa post hp (docs.length + 1) 0 (by omega) (by omega)
  rw [Nat.zero_min, Nat.zero_min] at this
  exact ⟨docs.length + 1, this⟩
theorem ys_mgl (made : Nat) (post : Int32 → SY → Prop) :
  ∀ (k n : Nat) (docs : List qf_D) (segs : List Nat) (tx sz nu fi pa li : Nat → Int32), k < n → segs.length ≤ k → segs.length ≤ 12 → qd_ok docs segs made → qd_dec segs.dropLast → docs.length ≤ 64 → qy_dl docs (qd_seg segs) tx sz nu fi pa li →
  (∀ tx sz nu fi pa li : Nat → Int32, qy_dl (qd_mg k docs segs).1 (qd_seg (qd_mg k docs segs).2) tx sz nu fi pa li → post (nI (qd_mg k docs segs).2.length) (ywa, ydd, nI (qd_mg k docs segs).1.length, nI (qd_mg k docs segs).2.length, yma, ynt, yno, yrc, yfo, ybl, yod, ywr, yan, yab, yac, yad, yal, yabl, yacl, yacf, nu, fi, pa, sz, li, tx, yki, yf1, yf2, yo, yoa, yob, yit, yss, ymo, yst, ymy, ycl, yrw, yow, yen, yhi, yla)) →
  wY_sync_184 post n ywa ydd (nI docs.length) (nI segs.length) yma ynt yno yrc yfo ybl yod ywr yan yab yac yad yal yabl yacl yacf nu fi pa sz li tx yki yf1 yf2 yo yoa yob yit yss ymo yst ymy ycl yrw yow yen yhi yla := by
  intro k
  induction k with
  | zero =>
    intro n docs segs tx sz nu fi pa li hn hk hc hok hdec hd hdl hp
    obtain ⟨n, rfl⟩ : ∃ m, n = m + 1 := ⟨n - 1, by omega⟩
    exact br_t (nI_le (b := 1) (by omega) (by decide)) (hp tx sz nu fi pa li hdl)
  | succ k ih =>
    intro n docs segs tx sz nu fi pa li hn hk hc hok hdec hd hdl hp
    obtain ⟨n, rfl⟩ : ∃ m, n = m + 1 := ⟨n - 1, by omega⟩
    unfold qd_mg at hp
    have hpa : ∀ d, d < docs.length → pa d = nI (qd_seg segs d) := fun d hd => (hdl d _ (List.getElem?_eq_getElem hd)).2.2.2.1
    refine pk_le segs.length 1 (fun hle => ?_) (fun hlt => ?_)
    · rw [if_neg (by omega)] at hp
      exact hp tx sz nu fi pa li hdl
    · have g1 := qd_get_le (segs := segs) (segs.length - 1)
      have g2 := qd_get_le (segs := segs) (segs.length - 2)
      have := hok.1
      refine ys_sz docs segs (segs.length - 1) (by omega) (by omega) hd hok.1 rfl hpa _ (pk_sub (b := 1) (by omega)) _ ?_
      refine ys_sz docs segs (segs.length - 2) (by omega) (by omega) hd hok.1 rfl hpa _ (pk_sub (b := 2) (by omega)) _ ?_
      refine pk_lt _ _ (fun h => ?_) (fun h => ?_) rfl rfl (by omega) (by omega)
      · rw [if_neg (by omega)] at hp
        exact hp tx sz nu fi pa li hdl
      · rw [if_pos ⟨by omega, h⟩] at hp
        have hg := qd_gs_dec (docs := docs) hdec (by omega)
        have hok' := qd_ga_ok hok (segs.length - 2)
        have hsub : (qd_gd (segs.length - 2) docs segs).length ≤ docs.length := (qd_sub (docs := docs) (first := segs.length - 2) (segs := segs)).length_le
        refine ys_un docs segs (segs.length - 2) (by omega) (by omega) hd (fun x hx => (hok.2.2.2.1 x hx).2.2) hok.1 rfl hdl _ (pk_sub (b := 2) (by omega)) _ (fun tx1 sz1 nu1 fi1 pa1 li1 hdl1 => ?_)
        exact ih n _ _ tx1 sz1 nu1 fi1 pa1 li1 (by omega) (by omega) (by omega) hok' hg.1 (by omega) hdl1 hp
theorem ys_sync (now base : Nat → qf_X) (wt : List (Nat × qf_X)) (dr : List Nat) (docs : List qf_D) (segs : List Nat) (made : Nat) (hi : qf_inv now base wt dr docs segs made) (hS : qy_S now base wt dr docs segs made yan yal yab yabl yac yacl yacf yad ywa ydd ynu yfi ypa ysz yli ytx ynd yns yma) (post : Int32 → SY → Prop)
  (hp : ∀ ab abl nu fi pa sz li tx : Nat → Int32, ∀ wa nd ns ma : Int32, qy_S now now [] dr (qd_sy docs segs wt now made).1 (qd_sy docs segs wt now made).2 (qd_m2 wt now made) yan yal ab abl yac yacl yacf yad wa ydd nu fi pa sz li tx nd ns ma → post ns (wa, ydd, nd, ns, ma, ynt, yno, yrc, yfo, ybl, yod, ywr, yan, ab, yac, yad, yal, abl, yacl, yacf, nu, fi, pa, sz, li, tx, yki, yf1, yf2, yo, yoa, yob, yit, yss, ymo, yst, ymy, ycl, yrw, yow, yen, yhi, yla)) : wpY_sync post (ywa, ydd, ynd, yns, yma, ynt, yno, yrc, yfo, ybl, yod, ywr, yan, yab, yac, yad, yal, yabl, yacl, yacf, ynu, yfi, ypa, ysz, yli, ytx, yki, yf1, yf2, yo, yoa, yob, yit, yss, ymo, yst, ymy, ycl, yrw, yow, yen, yhi, yla) := by
  obtain ⟨i1, i2, i3, i4, i5, i6⟩ := hi
  obtain ⟨s1, s2, ⟨s3, s4⟩, s5, ⟨s6, s7⟩, s8, s9⟩ := hS
  subst s3; subst s6; subst s8; subst s9
  have hno : ∀ f, f < 10 → qf_o (now f) := fun f hf => by rw [i1 f hf]; exact qf_aps_o wt base i2 (fun c hc => (i3.2 c hc).2) f hf
  have hw : ∀ k c, wt[k]? = some c → yacf k = nI c.1 ∧ c.1 < 10 := fun k c hc => ⟨(s4 k c hc).1, (i3.2 c (qr_get_in hc)).1⟩
  have hs2 := qd_sync_ok i5 i6 i3.1 hno
  have hdt : ∀ x, x ∈ docs → qf_t x.2.2.2 := fun x hx => (i5.2.2.2.1 x hx).2.2
  have hml : (docs.map (qd_dead (qd_ch wt))).length = docs.length := List.length_map _
  have hcl : (qd_ch wt).length = wt.length := List.length_map _
  refine ⟨wt.length + 1, ys_m wt i3.1 hw rfl post ?_ (wt.length + 1) 0 0 (by omega) (by omega) (fun f hf => by rw [b_0]; simp [qd_ch])⟩
  intro x1 hx1
  refine ⟨docs.length + 1, ys_d docs (qd_ch wt) x1 hx1 (by omega) rfl (fun d x hx => ⟨(s7 d x hx).2.1, (i5.2.2.2.1 x (qr_get_in hx)).2.1⟩) post ?_ (docs.length + 1) 0 yli (by omega) (by omega) (fun d x hx => ?_)⟩
  · intro li1 hli1
    have hdl1 : qy_dl docs (qd_p1 docs segs) ytx ysz ynu yfi ypa yli := by
      intro d x hx
      obtain ⟨a1, a2, a3, a4, a5⟩ := s7 d x hx
      refine ⟨a1, a2, a3, ?_, a5⟩
      unfold qd_p1
      rw [if_pos (qr_get_lt hx)]
      exact a4
    have hdl2 := qy_dl_dead hdl1 hli1
    have e0 : qd_new (qd_ch wt) now 0 0 made = [] := rfl
    have HP : ∀ tx sz nu fi pa li : Nat → Int32, qy_dl (docs.map (qd_dead (qd_ch wt)) ++ qd_new (qd_ch wt) now 10 0 made) (qd_p1 docs segs) tx sz nu fi pa li → ∃ n : Nat, wY_sync_128 post (nI wt.length) ydd (nI (docs.map (qd_dead (qd_ch wt)) ++ qd_new (qd_ch wt) now 10 0 made).length) (nI (qd_s1 segs (qd_new (qd_ch wt) now 10 0 made).length).length) (nI (made + (qd_new (qd_ch wt) now 10 0 made).length)) ynt yno yrc yfo ybl yod ywr n 0 yan yab yac yad yal yabl yacl yacf nu fi pa sz li tx yki yf1 yf2 yo yoa yob yit yss ymo yst ymy ycl yrw yow yen yhi yla := by
      intro tx sz nu fi pa li hdl3
      refine ⟨401, ys_b1 post ?_ 401 0 yab (by omega) (by omega) (fun j hj => absurd hj (by omega))⟩
      intro ab hab
      refine ⟨11, ys_b2 post ?_ 11 0 yabl (by omega) (by omega) (fun j hj => absurd hj (by omega))⟩
      intro abl habl
      have hl2 : (qd_d2 docs wt now made).length = docs.length + (qd_new (qd_ch wt) now 10 0 made).length := by unfold qd_d2; rw [List.length_append, hml]
      have hl3 : (qd_s2 segs wt now made).length ≤ 11 := by
        unfold qd_s2 qd_s1
        rw [List.length_append]
        split
        · simp; omega
        · simp; omega
      have hdl4 : qy_dl (qd_d2 docs wt now made) (qd_seg (qd_s2 segs wt now made)) tx sz nu fi pa li := by
        intro d x hx
        obtain ⟨a1, a2, a3, a4, a5⟩ := hdl3 d x hx
        refine ⟨a1, a2, a3, ?_, a5⟩
        rw [a4]
        congr 1
        have hdl := qr_get_lt hx
        rw [hl2] at hdl
        have hsm := i5.1
        unfold qd_p1 qd_s2 qd_s1
        by_cases z : d < docs.length
        · rw [if_pos z, qd_seg_app _ segs d (by omega)]
        · rw [if_neg z, if_neg (by omega), qd_seg_new _ segs d (by omega) (by omega)]
      refine ⟨(qd_s2 segs wt now made).length + 1, ?_⟩
      refine ys_mgl (qd_m2 wt now made) post (qd_s2 segs wt now made).length _ (qd_d2 docs wt now made) (qd_s2 segs wt now made) tx sz nu fi pa li (by omega) (Nat.le_refl _) (by omega) hs2.1 hs2.2.1 (by omega) hdl4 ?_
      intro tx3 sz3 nu3 fi3 pa3 li3 hdl5
      refine hp ab abl nu3 fi3 pa3 sz3 li3 tx3 _ _ _ _ ⟨s1, fun f hf => ?_, ⟨rfl, (fun k c hc => nomatch hc)⟩, s5, ⟨rfl, hdl5⟩, rfl, rfl⟩
      have a := s1 f hf
      cases hnf : now f with
      | none => rw [hnf] at a; exact (habl f hf).trans a
      | some t =>
        rw [hnf] at a
        have ht := hno f hf t hnf
        refine ⟨(habl f hf).trans a.1, fun i hi => ?_⟩
        have := ht.1
        rw [hab _ (by omega), a.2 i hi, ys_nar (qf_t_get ht hi)]
    have this : wY_sync_73 post x1 (nI (docs.map (qd_dead (qd_ch wt))).length) 11 (nI 0) (nI wt.length) ydd (nI (docs.map (qd_dead (qd_ch wt)) ++ qd_new (qd_ch wt) now 0 0 made).length) (nI segs.length) (nI (made + (qd_new (qd_ch wt) now 0 0 made).length)) ynt yno yrc yfo ybl yod ywr yan yab yac yad yal yabl yacl yacf ynu yfi ypa ysz li1 ytx yki yf1 yf2 yo yoa yob yit yss ymo yst ymy ycl yrw yow yen yhi yla := ys_n now (qd_ch wt) (docs.map (qd_dead (qd_ch wt))) segs made (qd_p1 docs segs) x1 hx1 (by omega) hno s1 (by omega) (qd_dead_t _ hdt) rfl (fun j hj => by unfold qd_p1; rw [if_neg (by omega)]) post HP 11 0 ytx ysz ynu yfi ypa li1 (by omega) (by omega) (by rw [e0, List.append_nil]; exact hdl2)
    rw [e0, List.append_nil, hml] at this
    exact ⟨11, this⟩
  · rw [qd_dk_ge (by omega)]
    exact (s7 d x hx).2.2.1
end
end
section
/-! the reference: keep, remove, crash, settle -/
section
variable {ywa ydd ynd yns yma ynt yno yrc yfo ybl yod ywr : Int32} {yan yab yac yad yal yabl yacl yacf ynu yfi ypa ysz yli ytx yki yf1 yf2 yo yoa yob yit yss ymo yst ymy ycl yrw yow yhi yla : Nat → Int32} {yen : Nat → Int64}
theorem ys_file (f : Nat) (hf : f < 10) (post : Int32 → Prop) (hp : post 1) : wpY_in post (nI f) 0 9 :=
  ys_in (nI f) 0 9 (by decide) (by decide) 0 9 rfl rfl post (fun h => absurd rfl (h f (by omega) (by omega))) (fun _ _ _ _ => hp)
theorem ys_fileC (x : Int32) (post : Int32 → Prop) (h0 : (x < 0 ∨ 10 ≤ x) → post 0) (h1 : ∀ f, f < 10 → x = nI f → post 1) : wpY_in post x 0 9 := by
  rcases pk_ix x (n := 10) (by decide) with z | z | ⟨f, hf, rfl⟩
  · exact br_t z (h0 (Or.inl z))
  · refine br_f ?_ (br_t ?_ (h0 (Or.inr z)))
    · intro y
      have : (10 : Int32) < 0 := Int32.lt_of_le_of_lt z y
      exact absurd this (by decide)
    · exact Int32.lt_of_lt_of_le (by decide) z
  · exact ys_file f hf post (h1 f hf rfl)
theorem ys_there (f : Nat) (hf : f < 10) (o : qf_X) (ho : qf_o o) (hs : qx_slot yan yal f o) (post : Int32 → Prop) (h0 : o = none → post 0) (h1 : ∀ t, o = some t → post 1) : wpY_isThere post (ywa, ydd, ynd, yns, yma, ynt, yno, yrc, yfo, ybl, yod, ywr, yan, yab, yac, yad, yal, yabl, yacl, yacf, ynu, yfi, ypa, ysz, yli, ytx, yki, yf1, yf2, yo, yoa, yob, yit, yss, ymo, yst, ymy, ycl, yrw, yow, yen, yhi, yla) (nI f) := by
  unfold wpY_isThere
  refine ys_file f hf _ ?_
  have cf : (nI f).toNatClampNeg = f := nI_clamp (by omega)
  refine br_f (by decide) ⟨pk_in f 10 (by omega), ?_⟩
  rw [cf]
  match o, ho, hs, h0, h1 with
  | none, _, hs, h0, _ =>
    rw [show yal f = -1 from hs]
    exact br_t (by decide) (h0 rfl)
  | some t, ho, hs, _, h1 =>
    rw [show yal f = nI t.length from hs.1]
    exact br_f (nI_pos (by have := (ho t rfl).1; omega)) (h1 t rfl)
theorem ys_chg (now base : Nat → qf_X) (wt : List (Nat × qf_X)) (dr : List Nat) (docs : List qf_D) (segs : List Nat) (made : Nat) (f : Nat) (hf : f < 10) (hl : wt.length < 6) (hno : ∀ f, f < 10 → qf_o (now f)) (hwo : ∀ c, c ∈ wt → qf_o c.2) (o : qf_X) (ho : qf_o o) (hS : qy_S now base wt dr docs segs made yan yal yab yabl yac yacl yacf yad ywa ydd ynu yfi ypa ysz yli ytx ynd yns yma) (p1 : Int32) (hs : qx_slot yac (upd yacl wt.length p1) wt.length o) (post : SY → Prop)
  (hp : ∀ an al acl acf : Nat → Int32, qy_S (qf_ap now (f, o)) base (wt ++ [(f, o)]) dr docs segs made an al yab yabl yac acl acf yad (nI (wt.length + 1)) ydd ynu yfi ypa ysz yli ytx ynd yns yma → post (nI (wt.length + 1), ydd, ynd, yns, yma, ynt, yno, yrc, yfo, ybl, yod, ywr, an, yab, yac, yad, al, yabl, acl, acf, ynu, yfi, ypa, ysz, yli, ytx, yki, yf1, yf2, yo, yoa, yob, yit, yss, ymo, yst, ymy, ycl, yrw, yow, yen, yhi, yla)) : wpY_change post (ywa, ydd, ynd, yns, yma, ynt, yno, yrc, yfo, ybl, yod, ywr, yan, yab, yac, yad, yal, yabl, yacl, yacf, ynu, yfi, ypa, ysz, yli, ytx, yki, yf1, yf2, yo, yoa, yob, yit, yss, ymo, yst, ymy, ycl, yrw, yow, yen, yhi, yla) (nI f) p1 := by
  obtain ⟨s1, s2, ⟨s3, s4⟩, s5, s6⟩ := hS
  subst s3
  have cw : (nI wt.length).toNatClampNeg = wt.length := nI_clamp (by omega)
  unfold wpY_change
  refine ⟨pk_in wt.length 6 hl, nm_e ⟨pk_in wt.length 6 hl, nm_e (nm_r (nI_1 _) ?_)⟩⟩
  rw [cw]
  refine ys_ap wt.length rfl hl f hf o ho pk_us hs _ (fun an al hsl hk => ?_)
  refine hp an al _ _ ⟨fun g hg => ?_, s2, ⟨by rw [List.length_append]; rfl, fun k c hc => ?_⟩, s5, s6⟩
  · by_cases z : g = f
    · subst z
      have e : qf_ap now (g, o) g = o := if_pos rfl
      rw [e]
      exact hsl
    · have e : qf_ap now (f, o) g = now g := if_neg z
      rw [e]
      exact hk g _ hg z (hno g hg) (s1 g hg)
  · by_cases z : k < wt.length
    · rw [List.getElem?_append_left z] at hc
      obtain ⟨a1, a2⟩ := s4 k c hc
      refine ⟨(pk_un (by omega)).trans a1, ?_⟩
      have hk2 : qy_kp 6 wt.length yac yacl yac (upd yacl wt.length p1) := qx_slot_cp (L := 0) (fun s hs => pk_un hs) (by omega) (fun j _ => rfl)
      exact hk2 k _ (by omega) (by omega) (hwo c (qr_get_in hc)) a2
    · have hk' := qr_get_lt hc
      rw [List.length_append, List.length_singleton] at hk'
      have : k = wt.length := by omega
      subst this
      rw [List.getElem?_append_right (Nat.le_refl _), Nat.sub_self] at hc
      have e : (f, o) = c := by simpa using hc
      subst e
      exact ⟨pk_us, hs⟩
theorem ys_kp1 (w : Nat) (hw : w < 6) (dr : List Nat) (hdr : qf_t dr) (hwa : ywa = nI w) (hdd : ydd = nI dr.length) (had : ∀ i, i < dr.length → yad i = nI (dr.getD i 0)) (ac0 : Nat → Int32) (x1 : Int32) (post : Int32 → SY → Prop)
  (hp : ∀ ac : Nat → Int32, (∀ j, j < dr.length → ac (w * 40 + j) = nI (dr.getD j 0)) → (∀ j, j < w * 40 ∨ w * 40 + dr.length ≤ j → ac j = ac0 j) → wpY_change (fun u => match u with | (ywa, ydd, ynd, yns, yma, ynt, yno, yrc, yfo, ybl, yod, ywr, yan, yab, yac, yad, yal, yabl, yacl, yacf, ynu, yfi, ypa, ysz, yli, ytx, yki, yf1, yf2, yo, yoa, yob, yit, yss, ymo, yst, ymy, ycl, yrw, yow, yen, yhi, yla) => post ywa (ywa, 0, ynd, yns, yma, ynt, yno, yrc, yfo, ybl, yod, ywr, yan, yab, yac, yad, yal, yabl, yacl, yacf, ynu, yfi, ypa, ysz, yli, ytx, yki, yf1, yf2, yo, yoa, yob, yit, yss, ymo, yst, ymy, ycl, yrw, yow, yen, yhi, yla)) (ywa, ydd, ynd, yns, yma, ynt, yno, yrc, yfo, ybl, yod, ywr, yan, yab, ac, yad, yal, yabl, yacl, yacf, ynu, yfi, ypa, ysz, yli, ytx, yki, yf1, yf2, yo, yoa, yob, yit, yss, ymo, yst, ymy, ycl, yrw, yow, yen, yhi, yla) x1 ydd) :
  ∀ (n i : Nat) (ac : Nat → Int32), i ≤ dr.length → dr.length - i < n → (∀ j, j < i → ac (w * 40 + j) = nI (dr.getD j 0)) → (∀ j, j < w * 40 ∨ w * 40 + i ≤ j → ac j = ac0 j) → wY_keep_28 post x1 ywa ydd ynd yns yma ynt yno yrc yfo ybl yod ywr n (nI i) yan yab ac yad yal yabl yacl yacf ynu yfi ypa ysz yli ytx yki yf1 yf2 yo yoa yob yit yss ymo yst ymy ycl yrw yow yen yhi yla := by
  intro n
  subst hwa
  have hL := hdr.1
  induction n with
  | zero => intro i an h1 h2; omega
  | succ n ih =>
    intro i an h1 h2 h3 h4
    refine pk_le dr.length i (fun hle => ?_) (fun hlt => ?_) hdd
    · have e : i = dr.length := by omega
      subst e
      exact hp an h3 h4
    · have ci : (nI i).toNatClampNeg = i := nI_clamp (by omega)
      refine ⟨pk_in i 40 (by omega), pk_in (w * 40 + i) 240 (by omega) (ys_ix w i), fun ch1 hch x hx => ?_⟩
      rw [hx, nI_1]
      rw [ys_ixc (by omega), ci, had i hlt, ys_nar (qf_t_get hdr hlt)] at hch
      refine ih (i + 1) ch1 (by omega) (by omega) ?_ ?_
      · intro j hj
        rw [hch]
        by_cases z : j = i
        · subst z; exact pk_us
        · rw [pk_un (by omega)]; exact h3 j (by omega)
      · intro j hj
        rw [hch, pk_un (by omega)]
        exact h4 j (by omega)
theorem ys_kp2 (now base : Nat → qf_X) (wt : List (Nat × qf_X)) (dr : List Nat) (docs : List qf_D) (segs : List Nat) (made : Nat) (hi : qf_inv now base wt dr docs segs made) (hl : wt.length < 6) (hS : qy_S now base wt dr docs segs made yan yal yab yabl yac yacl yacf yad ywa ydd ynu yfi ypa ysz yli ytx ynd yns yma) (f : Nat) (hf : f < 10) (post : Int32 → SY → Prop)
  (hp : ∀ an al ac acl acf : Nat → Int32, qy_S (qf_ap now (f, some dr)) base (wt ++ [(f, some dr)]) [] docs segs made an al yab yabl ac acl acf yad (nI (wt.length + 1)) 0 ynu yfi ypa ysz yli ytx ynd yns yma → post (nI (wt.length + 1)) (nI (wt.length + 1), 0, ynd, yns, yma, ynt, yno, yrc, yfo, ybl, yod, ywr, an, yab, ac, yad, al, yabl, acl, acf, ynu, yfi, ypa, ysz, yli, ytx, yki, yf1, yf2, yo, yoa, yob, yit, yss, ymo, yst, ymy, ycl, yrw, yow, yen, yhi, yla)) : ∃ n : Nat, wY_keep_28 post (nI f) ywa ydd ynd yns yma ynt yno yrc yfo ybl yod ywr n 0 yan yab yac yad yal yabl yacl yacf ynu yfi ypa ysz yli ytx yki yf1 yf2 yo yoa yob yit yss ymo yst ymy ycl yrw yow yen yhi yla := by
  have hno := qf_now_o hi
  obtain ⟨i1, i2, i3, i4, i5, i6⟩ := hi
  obtain ⟨s1, s2, ⟨s3, s4⟩, ⟨s5, s5'⟩, s6⟩ := hS
  refine ⟨dr.length + 1, ys_kp1 wt.length hl dr i4 s3 s5 s5' yac (nI f) post ?_ (dr.length + 1) 0 yac (by omega) (by omega) (fun j hj => absurd hj (by omega)) (fun j _ => rfl)⟩
  intro ac h1 h2
  have hk : qy_kp 6 wt.length yac yacl ac yacl := qx_slot_cp (fun s _ => rfl) i4.1 h2
  have hS' : qy_S now base wt dr docs segs made yan yal yab yabl ac yacl yacf yad ywa ydd ynu yfi ypa ysz yli ytx ynd yns yma := by
    refine ⟨s1, s2, ⟨s3, fun k c hc => ⟨(s4 k c hc).1, ?_⟩⟩, ⟨s5, s5'⟩, s6⟩
    have := qr_get_lt hc
    exact hk k _ (by omega) (by omega) (i3.2 c (qr_get_in hc)).2 (s4 k c hc).2
  refine ys_chg (yac := ac) now base wt dr docs segs made f hf hl hno (fun c hc => (i3.2 c hc).2) (some dr) (qf_o_some i4) hS' ydd ⟨pk_us.trans s5, h1⟩ _ (fun an al acl acf hS2 => ?_)
  obtain ⟨t1, t2, t3, t4, t5⟩ := hS2
  exact hp an al ac acl acf ⟨t1, t2, t3, ⟨rfl, fun i hi => absurd hi (by simp)⟩, t5⟩
theorem ys_keep (now base : Nat → qf_X) (wt : List (Nat × qf_X)) (dr : List Nat) (docs : List qf_D) (segs : List Nat) (made : Nat) (hi : qf_inv now base wt dr docs segs made) (hS : qy_S now base wt dr docs segs made yan yal yab yabl yac yacl yacf yad ywa ydd ynu yfi ypa ysz yli ytx ynd yns yma) (f : Nat) (hf : f < 10) (post : Int32 → SY → Prop)
  (hp : ∀ an al ab abl ac acl acf nu fi pa sz li tx : Nat → Int32, ∀ wa dd nd ns ma : Int32, qy_S (qf_ap now (f, some dr)) (qf_room now base wt docs segs made).1 ((qf_room now base wt docs segs made).2.1 ++ [(f, some dr)]) [] (qf_room now base wt docs segs made).2.2.1 (qf_room now base wt docs segs made).2.2.2.1 (qf_room now base wt docs segs made).2.2.2.2 an al ab abl ac acl acf yad wa dd nu fi pa sz li tx nd ns ma → post (nI ((qf_room now base wt docs segs made).2.1.length + 1)) (wa, dd, nd, ns, ma, ynt, yno, yrc, yfo, ybl, yod, ywr, an, ab, ac, yad, al, abl, acl, acf, nu, fi, pa, sz, li, tx, yki, yf1, yf2, yo, yoa, yob, yit, yss, ymo, yst, ymy, ycl, yrw, yow, yen, yhi, yla)) : wpY_keep post (ywa, ydd, ynd, yns, yma, ynt, yno, yrc, yfo, ybl, yod, ywr, yan, yab, yac, yad, yal, yabl, yacl, yacf, ynu, yfi, ypa, ysz, yli, ytx, yki, yf1, yf2, yo, yoa, yob, yit, yss, ymo, yst, ymy, ycl, yrw, yow, yen, yhi, yla) (nI f) := by
  have hr := qf_inv_room hi
  have h6 := hi.2.2.1.1
  unfold wpY_keep
  refine ys_file f hf _ (br_f (by decide) (pk_eq wt.length 6 (fun h => ?_) (fun h => ?_) hS.2.2.1.1))
  · unfold qf_room at hp hr
    rw [if_neg (by omega)] at hp hr
    dsimp only at hp hr
    refine ys_sync now base wt dr docs segs made hi hS _ (fun ab abl nu fi pa sz li tx wa nd ns ma hS1 => ?_)
    exact ys_kp2 now now [] dr _ _ _ hr.1 hr.2.1 hS1 f hf post (fun an al ac acl acf hS2 => hp an al ab abl ac acl acf nu fi pa sz li tx _ _ nd ns ma hS2)
  · unfold qf_room at hp
    rw [if_pos (by omega)] at hp
    exact ys_kp2 now base wt dr docs segs made hi (by omega) hS f hf post (fun an al ac acl acf hS2 => hp an al yab yabl ac acl acf ynu yfi ypa ysz yli ytx _ _ ynd yns yma hS2)
theorem ys_rm2 (now base : Nat → qf_X) (wt : List (Nat × qf_X)) (dr : List Nat) (docs : List qf_D) (segs : List Nat) (made : Nat) (hi : qf_inv now base wt dr docs segs made) (hl : wt.length < 6) (hS : qy_S now base wt dr docs segs made yan yal yab yabl yac yacl yacf yad ywa ydd ynu yfi ypa ysz yli ytx ynd yns yma) (f : Nat) (hf : f < 10) (post : Int32 → SY → Prop)
  (hp : ∀ an al acl acf : Nat → Int32, qy_S (qf_ap now (f, none)) base (wt ++ [(f, none)]) dr docs segs made an al yab yabl yac acl acf yad (nI (wt.length + 1)) ydd ynu yfi ypa ysz yli ytx ynd yns yma → post (nI (wt.length + 1)) (nI (wt.length + 1), ydd, ynd, yns, yma, ynt, yno, yrc, yfo, ybl, yod, ywr, an, yab, yac, yad, al, yabl, acl, acf, ynu, yfi, ypa, ysz, yli, ytx, yki, yf1, yf2, yo, yoa, yob, yit, yss, ymo, yst, ymy, ycl, yrw, yow, yen, yhi, yla)) : wY_remove_24 post (nI f) ywa ydd ynd yns yma ynt yno yrc yfo ybl yod ywr yan yab yac yad yal yabl yacl yacf ynu yfi ypa ysz yli ytx yki yf1 yf2 yo yoa yob yit yss ymo yst ymy ycl yrw yow yen yhi yla := by
  unfold wY_remove_24
  exact ys_chg now base wt dr docs segs made f hf hl (qf_now_o hi) (fun c hc => (hi.2.2.1.2 c hc).2) none qf_o_none hS (-1) pk_us _ hp
theorem ys_remove (now base : Nat → qf_X) (wt : List (Nat × qf_X)) (dr : List Nat) (docs : List qf_D) (segs : List Nat) (made : Nat) (hi : qf_inv now base wt dr docs segs made) (hS : qy_S now base wt dr docs segs made yan yal yab yabl yac yacl yacf yad ywa ydd ynu yfi ypa ysz yli ytx ynd yns yma) (f : Nat) (hf : f < 10) (post : Int32 → SY → Prop)
  (h0 : now f = none → post (-1) (ywa, ydd, ynd, yns, yma, ynt, yno, yrc, yfo, ybl, yod, ywr, yan, yab, yac, yad, yal, yabl, yacl, yacf, ynu, yfi, ypa, ysz, yli, ytx, yki, yf1, yf2, yo, yoa, yob, yit, yss, ymo, yst, ymy, ycl, yrw, yow, yen, yhi, yla))
  (hp : ∀ t, now f = some t → ∀ an al ab abl acl acf nu fi pa sz li tx : Nat → Int32, ∀ wa nd ns ma : Int32, qy_S (qf_ap now (f, none)) (qf_room now base wt docs segs made).1 ((qf_room now base wt docs segs made).2.1 ++ [(f, none)]) dr (qf_room now base wt docs segs made).2.2.1 (qf_room now base wt docs segs made).2.2.2.1 (qf_room now base wt docs segs made).2.2.2.2 an al ab abl yac acl acf yad wa ydd nu fi pa sz li tx nd ns ma → post (nI ((qf_room now base wt docs segs made).2.1.length + 1)) (wa, ydd, nd, ns, ma, ynt, yno, yrc, yfo, ybl, yod, ywr, an, ab, yac, yad, al, abl, acl, acf, nu, fi, pa, sz, li, tx, yki, yf1, yf2, yo, yoa, yob, yit, yss, ymo, yst, ymy, ycl, yrw, yow, yen, yhi, yla)) : wpY_remove post (ywa, ydd, ynd, yns, yma, ynt, yno, yrc, yfo, ybl, yod, ywr, yan, yab, yac, yad, yal, yabl, yacl, yacf, ynu, yfi, ypa, ysz, yli, ytx, yki, yf1, yf2, yo, yoa, yob, yit, yss, ymo, yst, ymy, ycl, yrw, yow, yen, yhi, yla) (nI f) := by
  have hr := qf_inv_room hi
  have h6 := hi.2.2.1.1
  unfold wpY_remove
  refine ys_there f hf (now f) (qf_now_o hi f hf) (hS.1 f hf) _ (fun e => br_t rfl (h0 e)) (fun t et => br_f (by decide) (pk_eq wt.length 6 (fun h => ?_) (fun h => ?_) hS.2.2.1.1))
  · unfold qf_room at hp hr
    rw [if_neg (by omega)] at hp hr
    dsimp only at hp hr
    refine ys_sync now base wt dr docs segs made hi hS _ (fun ab abl nu fi pa sz li tx wa nd ns ma hS1 => ?_)
    exact ys_rm2 now now [] dr _ _ _ hr.1 hr.2.1 hS1 f hf post (fun an al acl acf hS2 => hp t et an al ab abl acl acf nu fi pa sz li tx _ nd ns ma hS2)
  · unfold qf_room at hp
    rw [if_pos (by omega)] at hp
    exact ys_rm2 now base wt dr docs segs made hi (by omega) hS f hf post (fun an al acl acf hS2 => hp t et an al yab yabl acl acf ynu yfi ypa ysz yli ytx _ ynd yns yma hS2)
/-! crash -/
theorem ys_c1 (x2 x3 : Int32) (post : Int32 → SY → Prop) (hp : ∀ an : Nat → Int32, (∀ j, j < 400 → an j = vp_nar .byte (yab j)) → ∃ n : Nat, wY_crash_64 post x2 x3 ywa ydd ynd yns yma ynt yno yrc yfo ybl yod ywr n 0 an yab yac yad yal yabl yacl yacf ynu yfi ypa ysz yli ytx yki yf1 yf2 yo yoa yob yit yss ymo yst ymy ycl yrw yow yen yhi yla) :
  ∀ (n i : Nat) (an : Nat → Int32), i ≤ 400 → 400 - i < n → (∀ j, j < i → an j = vp_nar .byte (yab j)) → wY_crash_33 post x2 x3 ywa ydd ynd yns yma ynt yno yrc yfo ybl yod ywr n (nI i) an yab yac yad yal yabl yacl yacf ynu yfi ypa ysz yli ytx yki yf1 yf2 yo yoa yob yit yss ymo yst ymy ycl yrw yow yen yhi yla := by
  intro n
  induction n with
  | zero => intro i ab h1 h2; omega
  | succ n ih =>
    intro i ab h1 h2 h3
    refine pk_le 400 i (fun hle => ?_) (fun hlt => ?_)
    · exact hp ab (fun j hj => h3 j (by omega))
    · have ci : (nI i).toNatClampNeg = i := nI_clamp (by omega)
      refine ⟨pk_in i 400 hlt, pk_in i 400 hlt, nm_e (nm_r (nI_1 i) ?_)⟩
      rw [ci]
      refine ih (i + 1) _ (by omega) (by omega) (fun j hj => ?_)
      by_cases z : j = i
      · subst z; exact pk_us
      · exact (pk_un z).trans (h3 j (by omega))
theorem ys_c2 (x2 x3 : Int32) (post : Int32 → SY → Prop) (hp : ∀ al : Nat → Int32, (∀ j, j < 10 → al j = yabl j) → ∃ n : Nat, wY_crash_94 post x2 x3 n 0 ywa ydd ynd yns yma ynt yno yrc yfo ybl yod ywr yan yab yac yad al yabl yacl yacf ynu yfi ypa ysz yli ytx yki yf1 yf2 yo yoa yob yit yss ymo yst ymy ycl yrw yow yen yhi yla) :
  ∀ (n i : Nat) (al : Nat → Int32), i ≤ 10 → 10 - i < n → (∀ j, j < i → al j = yabl j) → wY_crash_64 post x2 x3 ywa ydd ynd yns yma ynt yno yrc yfo ybl yod ywr n (nI i) yan yab yac yad al yabl yacl yacf ynu yfi ypa ysz yli ytx yki yf1 yf2 yo yoa yob yit yss ymo yst ymy ycl yrw yow yen yhi yla := by
  intro n
  induction n with
  | zero => intro i ab h1 h2; omega
  | succ n ih =>
    intro i ab h1 h2 h3
    refine pk_le 10 i (fun hle => ?_) (fun hlt => ?_)
    · exact hp ab (fun j hj => h3 j (by omega))
    · have ci : (nI i).toNatClampNeg = i := nI_clamp (by omega)
      refine ⟨pk_in i 10 hlt, pk_in i 10 hlt, nm_e (nm_r (nI_1 i) ?_)⟩
      rw [ci]
      refine ih (i + 1) _ (by omega) (by omega) (fun j hj => ?_)
      by_cases z : j = i
      · subst z; exact pk_us
      · exact (pk_un z).trans (h3 j (by omega))
theorem ys_c3 (base : Nat → qf_X) (wt : List (Nat × qf_X)) (j : Nat) (hj : j ≤ wt.length) (hwl : wt.length ≤ 6) (hb : ∀ f, f < 10 → qf_o (base f)) (hwo : ∀ c, c ∈ wt → c.1 < 10 ∧ qf_o c.2) (hw : ∀ k c, wt[k]? = some c → yacf k = nI c.1 ∧ qx_slot yac yacl k c.2) (x3 : Int32) (post : Int32 → SY → Prop)
  (hp : ∀ an al : Nat → Int32, (∀ f, f < 10 → qx_slot an al f (qf_aps base (wt.take j) f)) → post x3 (nI j, ydd, ynd, yns, yma, ynt, yno, yrc, yfo, ybl, yod, ywr, an, yab, yac, yad, al, yabl, yacl, yacf, ynu, yfi, ypa, ysz, yli, ytx, yki, yf1, yf2, yo, yoa, yob, yit, yss, ymo, yst, ymy, ycl, yrw, yow, yen, yhi, yla)) :
  ∀ (n i : Nat) (an al : Nat → Int32), i ≤ j → j - i < n → (∀ f, f < 10 → qx_slot an al f (qf_aps base (wt.take i) f)) → wY_crash_94 post (nI j) x3 n (nI i) ywa ydd ynd yns yma ynt yno yrc yfo ybl yod ywr an yab yac yad al yabl yacl yacf ynu yfi ypa ysz yli ytx yki yf1 yf2 yo yoa yob yit yss ymo yst ymy ycl yrw yow yen yhi yla := by
  intro n
  induction n with
  | zero => intro i an al h1 h2; omega
  | succ n ih =>
    intro i an al h1 h2 h3
    refine pk_le j i (fun hle => ?_) (fun hlt => ?_)
    · have e : i = j := by omega
      subst e
      exact hp an al h3
    · have hil : i < wt.length := by omega
      have hg : wt[i]? = some wt[i] := List.getElem?_eq_getElem hil
      have hin := hwo _ (List.getElem_mem hil)
      have hon : ∀ f, f < 10 → qf_o (qf_aps base (wt.take i) f) := qf_aps_o _ base hb (fun c hc => (hwo c (List.mem_of_mem_take hc)).2)
      refine ys_ap i rfl (by omega) wt[i].1 hin.1 wt[i].2 hin.2 (hw i _ hg).1 (hw i _ hg).2 _ (fun an1 al1 hsl hk => ?_)
      refine nm_r (nI_1 i) (ih (i + 1) an1 al1 (by omega) (by omega) ?_)
      intro f hf
      rw [qf_aps_take hil]
      unfold qf_ap
      split
      · rename_i e; rw [e]; exact hsl
      · rename_i e; exact hk f _ hf e (hon f hf) (h3 f hf)
theorem ys_crash (now base : Nat → qf_X) (wt : List (Nat × qf_X)) (dr : List Nat) (docs : List qf_D) (segs : List Nat) (made : Nat) (hi : qf_inv now base wt dr docs segs made) (hS : qy_S now base wt dr docs segs made yan yal yab yabl yac yacl yacf yad ywa ydd ynu yfi ypa ysz yli ytx ynd yns yma) (j : Nat) (hj31 : j < 2 ^ 31) (post : Int32 → SY → Prop)
  (hp : ∀ an al : Nat → Int32, ∀ wa : Int32, qy_S (qf_aps base (wt.take j)) base (wt.take j) dr docs segs made an al yab yabl yac yacl yacf yad wa ydd ynu yfi ypa ysz yli ytx ynd yns yma → post (nI (wt.length - j)) (wa, ydd, ynd, yns, yma, ynt, yno, yrc, yfo, ybl, yod, ywr, an, yab, yac, yad, al, yabl, yacl, yacf, ynu, yfi, ypa, ysz, yli, ytx, yki, yf1, yf2, yo, yoa, yob, yit, yss, ymo, yst, ymy, ycl, yrw, yow, yen, yhi, yla)) : wpY_crash post (ywa, ydd, ynd, yns, yma, ynt, yno, yrc, yfo, ybl, yod, ywr, yan, yab, yac, yad, yal, yabl, yacl, yacf, ynu, yfi, ypa, ysz, yli, ytx, yki, yf1, yf2, yo, yoa, yob, yit, yss, ymo, yst, ymy, ycl, yrw, yow, yen, yhi, yla) (nI j) := by
  obtain ⟨i1, i2, i3, i4, i5, i6⟩ := hi
  obtain ⟨s1, s2, ⟨s3, s4⟩, s5, s6⟩ := hS
  subst s3
  have key : ∀ m : Nat, m ≤ wt.length → wt.take m = wt.take j → wt.length - m = wt.length - j → wY_crash_22 post (nI m) (nI wt.length) ydd ynd yns yma ynt yno yrc yfo ybl yod ywr yan yab yac yad yal yabl yacl yacf ynu yfi ypa ysz yli ytx yki yf1 yf2 yo yoa yob yit yss ymo yst ymy ycl yrw yow yen yhi yla := by
    intro m hm e1 e2
    refine nm_r (pk_sub hm) ⟨401, ys_c1 (nI m) _ post ?_ 401 0 yan (by omega) (by omega) (fun k hk => absurd hk (by omega))⟩
    intro an han
    refine ⟨11, ys_c2 (nI m) _ post ?_ 11 0 yal (by omega) (by omega) (fun k hk => absurd hk (by omega))⟩
    intro al hal
    refine ⟨m + 1, ys_c3 base wt m hm i3.1 i2 i3.2 s4 _ post ?_ (m + 1) 0 an al (by omega) (by omega) ?_⟩
    · intro an1 al1 h1
      rw [e2]
      rw [e1] at h1
      refine hp an1 al1 (nI m) ⟨h1, s2, ⟨by rw [← e1, List.length_take]; congr 1; omega, fun k c hc => ?_⟩, s5, s6⟩
      rw [← e1] at hc
      have hk := qr_get_lt hc
      rw [List.length_take] at hk
      rw [List.getElem?_take_of_lt (by omega)] at hc
      exact s4 k c hc
    · intro f hf
      show qx_slot an al f (base f)
      have a := s2 f hf
      cases hnf : base f with
      | none => rw [hnf] at a; exact (hal f hf).trans a
      | some t =>
        rw [hnf] at a
        have ht := i2 f hf t hnf
        refine ⟨(hal f hf).trans a.1, fun i hi => ?_⟩
        have := ht.1
        rw [han _ (by omega), a.2 i hi, ys_nar (qf_t_get ht hi)]
  refine br_t (nI_pos' hj31) (pk_le wt.length j (fun hle => ?_) (fun hlt => ?_) rfl rfl (by omega) hj31)
  · exact key wt.length (Nat.le_refl _) (by rw [List.take_length, List.take_of_length_le hle]) (by omega)
  · exact key j (by omega) rfl rfl
theorem ys_settle (now base : Nat → qf_X) (wt : List (Nat × qf_X)) (dr : List Nat) (docs : List qf_D) (segs : List Nat) (made : Nat) (hi : qf_inv now base wt dr docs segs made) (hS : qy_S now base wt dr docs segs made yan yal yab yabl yac yacl yacf yad ywa ydd ynu yfi ypa ysz yli ytx ynd yns yma) (post : Int32 → SY → Prop)
  (hp : ∀ ab abl nu fi pa sz li tx : Nat → Int32, ∀ wa nd ns ma : Int32, qy_S now now [] dr (qd_gd 0 (qd_sy docs segs wt now made).1 (qd_sy docs segs wt now made).2) (qd_gs 0 (qd_sy docs segs wt now made).1 (qd_sy docs segs wt now made).2) (qd_m2 wt now made) yan yal ab abl yac yacl yacf yad wa ydd nu fi pa sz li tx nd ns ma → post (nI (qd_gd 0 (qd_sy docs segs wt now made).1 (qd_sy docs segs wt now made).2).length) (wa, ydd, nd, ns, ma, ynt, yno, yrc, yfo, ybl, yod, ywr, yan, ab, yac, yad, yal, abl, yacl, yacf, nu, fi, pa, sz, li, tx, yki, yf1, yf2, yo, yoa, yob, yit, yss, ymo, yst, ymy, ycl, yrw, yow, yen, yhi, yla)) : wpY_settle post (ywa, ydd, ynd, yns, yma, ynt, yno, yrc, yfo, ybl, yod, ywr, yan, yab, yac, yad, yal, yabl, yacl, yacf, ynu, yfi, ypa, ysz, yli, ytx, yki, yf1, yf2, yo, yoa, yob, yit, yss, ymo, yst, ymy, ycl, yrw, yow, yen, yhi, yla) := by
  have hi2 := (qf_inv_sync hi).1
  unfold wpY_settle
  refine ys_sync now base wt dr docs segs made hi hS _ (fun ab abl nu fi pa sz li tx wa nd ns ma hS1 => ?_)
  generalize qd_sy docs segs wt now made = R at *
  obtain ⟨rd, rs⟩ := R
  dsimp only at *
  obtain ⟨i1, i2, i3, i4, i5, i6⟩ := hi2
  obtain ⟨s1, s2, s3, s5, ⟨s6, s7⟩, s8, s9⟩ := hS1
  have hb := qd_dec10 i6 i5.2.1
  have hsm := i5.1
  subst s9
  refine pk_le rs.length 0 (fun hle => ?_) (fun hlt => ?_)
  · have e1 : rs = [] := List.eq_nil_of_length_eq_zero (by omega)
    subst e1
    have e2 : rd = [] := List.eq_nil_of_length_eq_zero (by rw [← hsm]; rfl)
    subst e2
    subst s6
    exact hp ab abl nu fi pa sz li tx wa _ _ ma ⟨s1, s2, s3, s5, ⟨rfl, (fun d x hx => nomatch hx)⟩, s8, rfl⟩
  · refine ys_un rd rs 0 (by omega) (by omega) (by omega) (fun x hx => (i5.2.2.2.1 x hx).2.2) i5.1 s6 s7 0 rfl _ (fun tx1 sz1 nu1 fi1 pa1 li1 hdl => ?_)
    exact hp ab abl nu1 fi1 pa1 sz1 li1 tx1 wa _ _ ma ⟨s1, s2, s3, s5, ⟨rfl, hdl⟩, s8, rfl⟩
end
end
section
/-! the reference: what the calls that only look answer -/
section
variable {ywa ydd ynd yns yma ynt yno yrc yfo ybl yod ywr : Int32} {yan yab yac yad yal yabl yacl yacf ynu yfi ypa ysz yli ytx yki yf1 yf2 yo yoa yob yit yss ymo yst ymy ycl yrw yow yhi yla : Nat → Int32} {yen : Nat → Int64}
/-- the reference's code of the trigram at a place -/
def qt_6 (t : List Nat) (i : Nat) : Int32 := match qt_g t i with
  | none => -1
  | some c => nI c
def qt_6o (o : qf_X) (i : Nat) : Int32 := match o with
  | none => -1
  | some t => qt_6 t i
theorem yl_tr3 (a b c : Nat) (ha : a < 7) (hb : b < 7) (hc : c < 7) (post : Int32 → Prop) (h0 : ¬ (a < 6 ∧ b < 6 ∧ c < 6) → post (-1)) (h1 : a < 6 → b < 6 → c < 6 → post (nI (36 * a + 6 * b + c))) : wY_trigram_110 post (nI a) (nI b) (nI c) ywa ydd ynd yns yma ynt yno yrc yfo ybl yod ywr yan yab yac yad yal yabl yacl yacf ynu yfi ypa ysz yli ytx yki yf1 yf2 yo yoa yob yit yss ymo yst ymy ycl yrw yow yen yhi yla := by
  refine pk_eq a 6 (fun e => h0 (by omega)) (fun e0 => pk_eq b 6 (fun e => h0 (by omega)) (fun e1 => pk_eq c 6 (fun e => h0 (by omega)) (fun e2 => ?_)))
  have e : ((36 : Int32) * nI a + 6 * nI b) + nI c = nI (36 * a + 6 * b + c) := by
    rw [show (36 : Int32) = nI 36 from rfl, show (6 : Int32) = nI 6 from rfl, pk_mul, pk_mul, nI_add, nI_add]
  rw [e]
  exact h1 (by omega) (by omega) (by omega)
theorem yl_trN (d i : Nat) (hd : d < 10) (hi : i < 1000) (o : qf_X) (ho : qf_o o) (h : qx_slot yan yal d o) (xd xi : Int32) (ed : xd = nI d) (ei : xi = nI i) (post : Int32 → Prop) (hp : post (qt_6o o i)) : wpY_trigram post (ywa, ydd, ynd, yns, yma, ynt, yno, yrc, yfo, ybl, yod, ywr, yan, yab, yac, yad, yal, yabl, yacl, yacf, ynu, yfi, ypa, ysz, yli, ytx, yki, yf1, yf2, yo, yoa, yob, yit, yss, ymo, yst, ymy, ycl, yrw, yow, yen, yhi, yla) 0 xd xi := by
  subst ed; subst ei
  have cd : (nI d).toNatClampNeg = d := nI_clamp (by omega)
  refine nm_r (ys_ix d i) (br_t rfl ⟨pk_in d 10 hd, ?_⟩)
  rw [cd]
  match o, ho, h, hp with
  | none, _, h, hp =>
    rw [show yal d = -1 from h]
    refine br_f ?_ hp
    rw [show nI i + 2 = nI (i + 2) from nI_add i 2]
    exact Int32.not_lt.mpr (ys_neg' _ (by omega))
  | some t, ho, h, hp =>
    have ht := ho t rfl
    have hL := ht.1
    rw [h.1]
    refine pk_lt (i + 2) t.length (fun hlt => ?_) (fun hle => ?_) (nI_add i 2)
    · have c0 := qf_t_get ht (show i < t.length by omega)
      have c1 := qf_t_get ht (show i + 1 < t.length by omega)
      have c2 := qf_t_get ht hlt
      refine br_t rfl ⟨pk_in (d * 40 + i) 400 (by omega), ?_⟩
      rw [nI_clamp (by omega), h.2 i (by omega)]
      refine br_t rfl ⟨pk_in (d * 40 + (i + 1)) 400 (by omega) (nI_1 _), ?_⟩
      rw [nI_1, nI_clamp (by omega), show d * 40 + i + 1 = d * 40 + (i + 1) from rfl, h.2 (i + 1) (by omega)]
      refine br_t rfl ⟨pk_in (d * 40 + (i + 2)) 400 (by omega) (nI_add _ 2), ?_⟩
      rw [show nI (d * 40 + i) + 2 = nI (d * 40 + (i + 2)) from nI_add _ 2, nI_clamp (by omega), h.2 (i + 2) hlt]
      refine yl_tr3 _ _ _ c0 c1 c2 post (fun z => ?_) (fun z0 z1 z2 => ?_)
      · have e : qt_6 t i = -1 := by unfold qt_6 qt_g; rw [if_neg (fun y => z y.2)]
        rw [← e]; exact hp
      · have e : qt_6 t i = nI (36 * t.getD i 0 + 6 * t.getD (i + 1) 0 + t.getD (i + 2) 0) := by unfold qt_6 qt_g; rw [if_pos ⟨hlt, z0, z1, z2⟩]
        rw [← e]; exact hp
    · have e : qt_6 t i = -1 := by unfold qt_6; rw [qt_g_none (by omega)]
      rw [← e]; exact hp
theorem yl_trK (d i : Nat) (hd : d < 64) (hi : i < 1000) (t : List Nat) (ht : qf_t t) (h : qx_slot ytx ysz d (some t)) (xd xi : Int32) (ed : xd = nI d) (ei : xi = nI i) (post : Int32 → Prop) (hp : post (qt_6 t i)) : wpY_trigram post (ywa, ydd, ynd, yns, yma, ynt, yno, yrc, yfo, ybl, yod, ywr, yan, yab, yac, yad, yal, yabl, yacl, yacf, ynu, yfi, ypa, ysz, yli, ytx, yki, yf1, yf2, yo, yoa, yob, yit, yss, ymo, yst, ymy, ycl, yrw, yow, yen, yhi, yla) 1 xd xi := by
  subst ed; subst ei
  have cd : (nI d).toNatClampNeg = d := nI_clamp (by omega)
  have hL := ht.1
  refine nm_r (ys_ix d i) (br_f (by decide) ⟨pk_in d 64 hd, ?_⟩)
  rw [cd, h.1]
  refine pk_lt (i + 2) t.length (fun hlt => ?_) (fun hle => ?_) (nI_add i 2)
  · have c0 := qf_t_get ht (show i < t.length by omega)
    have c1 := qf_t_get ht (show i + 1 < t.length by omega)
    have c2 := qf_t_get ht hlt
    refine br_f (by decide) ⟨pk_in (d * 40 + i) 2560 (by omega), ?_⟩
    rw [nI_clamp (by omega), h.2 i (by omega)]
    refine br_f (by decide) ⟨pk_in (d * 40 + (i + 1)) 2560 (by omega) (nI_1 _), ?_⟩
    rw [nI_1, nI_clamp (by omega), show d * 40 + i + 1 = d * 40 + (i + 1) from rfl, h.2 (i + 1) (by omega)]
    refine br_f (by decide) ⟨pk_in (d * 40 + (i + 2)) 2560 (by omega) (nI_add _ 2), ?_⟩
    rw [show nI (d * 40 + i) + 2 = nI (d * 40 + (i + 2)) from nI_add _ 2, nI_clamp (by omega), h.2 (i + 2) hlt]
    refine yl_tr3 _ _ _ c0 c1 c2 post (fun z => ?_) (fun z0 z1 z2 => ?_)
    · have e : qt_6 t i = -1 := by unfold qt_6 qt_g; rw [if_neg (fun y => z y.2)]
      rw [← e]; exact hp
    · have e : qt_6 t i = nI (36 * t.getD i 0 + 6 * t.getD (i + 1) 0 + t.getD (i + 2) 0) := by unfold qt_6 qt_g; rw [if_pos ⟨hlt, z0, z1, z2⟩]
      rw [← e]; exact hp
  · have e : qt_6 t i = -1 := by unfold qt_6; rw [qt_g_none (by omega)]
    rw [← e]; exact hp
theorem yl_live1 (docs : List qf_D) (pt : Nat → Nat) (f : Nat) (hf : f < 10) (hd : docs.length ≤ 64) (hdl : qy_dl docs pt ytx ysz ynu yfi ypa yli) (hdf : ∀ x, x ∈ docs → x.2.1 < 10) (hdc : ynd = nI docs.length) (post : Int32 → Prop) :
  ∀ (n d : Nat), d ≤ docs.length → docs.length - d < n → post (ql_v f (docs.drop d)) → wY_living_2 post (nI f) ywa ydd ynd yns yma ynt yno yrc yfo ybl yod ywr yan yab yac yad yal yabl yacl yacf ynu yfi ypa ysz yli ytx yki yf1 yf2 yo yoa yob yit yss ymo yst ymy ycl yrw yow yen yhi yla n (nI d) := by
  intro n
  induction n with
  | zero => intro i h1 h2; omega
  | succ n ih =>
    intro d h1 h2 h3
    refine pk_le docs.length d (fun hle => ?_) (fun hlt => ?_) hdc
    · rw [List.drop_of_length_le hle] at h3
      exact h3
    · have cd : (nI d).toNatClampNeg = d := nI_clamp (by omega)
      obtain ⟨a1, a2, a3, a4⟩ := hdl d _ (List.getElem?_eq_getElem hlt)
      have hfd := hdf _ (List.getElem_mem hlt)
      have hi : vp_in (nI d) 64 := pk_in d 64 (by omega)
      rw [List.drop_eq_getElem_cons hlt] at h3
      unfold ql_v at h3
      refine ⟨hi, ?_⟩
      rw [cd, a2]
      refine pk_eq docs[d].2.1 f (fun he => ⟨hi, ?_⟩) (fun he => ?_)
      · rw [a3]
        by_cases z : docs[d].2.2.1 = true
        · rw [if_pos z]
          rw [if_pos ⟨z, he⟩] at h3
          refine br_f (by decide) ⟨hi, ?_⟩
          rw [a1]
          exact h3
        · rw [if_neg z]
          rw [if_neg (fun y => z y.1)] at h3
          exact br_t rfl (nm_r (nI_1 d) (ih (d + 1) (by omega) (by omega) h3))
      · rw [if_neg (fun y => he y.2)] at h3
        exact nm_r (nI_1 d) (ih (d + 1) (by omega) (by omega) h3)
/-! file -/
def qy_la (t : List Nat) (m : Nat) (la : Nat → Int32) : Prop := ∀ c, c < 216 → if qt_any t m c = true then ¬ la c < 0 else la c < 0
theorem yl_f0 (x1 x2 x3 : Int32) (post : Int32 → SY → Prop) (hp : ∀ la : Nat → Int32, (∀ j, j < 216 → la j = -1) → ∃ n : Nat, wY_file_91 post x1 x2 ywa ydd ynd yns yma ynt yno yrc yfo ybl yod ywr n x3 0 yan yab yac yad yal yabl yacl yacf ynu yfi ypa ysz yli ytx yki yf1 yf2 yo yoa yob yit yss ymo yst ymy ycl yrw yow yen yhi la) :
  ∀ (n i : Nat) (la : Nat → Int32), i ≤ 216 → 216 - i < n → (∀ j, j < i → la j = -1) → wY_file_66 post x1 x2 x3 ywa ydd ynd yns yma ynt yno yrc yfo ybl yod ywr n (nI i) yan yab yac yad yal yabl yacl yacf ynu yfi ypa ysz yli ytx yki yf1 yf2 yo yoa yob yit yss ymo yst ymy ycl yrw yow yen yhi la := by
  intro n
  induction n with
  | zero => intro i hd h1 h2; omega
  | succ n ih =>
    intro i hd h1 h2 h3
    refine pk_le 216 i (fun hle => hp hd (fun j hj => h3 j (by omega))) (fun hlt => ?_)
    have ci : (nI i).toNatClampNeg = i := nI_clamp (by omega)
    refine ⟨pk_in i 216 hlt, nm_e (nm_r (nI_1 i) ?_)⟩
    rw [ci]
    refine ih (i + 1) _ (by omega) (by omega) (fun j hj => ?_)
    by_cases z : j = i
    · subst z; exact pk_us
    · exact (pk_un z).trans (h3 j (by omega))
theorem yl_f1 (f : Nat) (hf : f < 10) (t : List Nat) (ht : qf_t t) (h : qx_slot yan yal f (some t)) (post : Int32 → SY → Prop) (hp : post (nI (qn_6 t t.length)) (ywa, ydd, ynd, yns, yma, ynt, yno, yrc, yfo, ybl, yod, ywr, yan, yab, yac, yad, yal, yabl, yacl, yacf, ynu, yfi, ypa, ysz, yli, ytx, yki, yf1, yf2, yo, yoa, yob, yit, yss, ymo, yst, ymy, ycl, yrw, yow, yen, yhi, yla)) :
  ∀ (n i : Nat), i ≤ t.length → t.length - i < n → wY_file_91 post (nI f) 1 ywa ydd ynd yns yma ynt yno yrc yfo ybl yod ywr n (nI (qn_6 t i)) (nI i) yan yab yac yad yal yabl yacl yacf ynu yfi ypa ysz yli ytx yki yf1 yf2 yo yoa yob yit yss ymo yst ymy ycl yrw yow yen yhi yla := by
  intro n
  have hL := ht.1
  induction n with
  | zero => intro i h1 h2; omega
  | succ n ih =>
    intro i h1 h2
    have cf : (nI f).toNatClampNeg = f := nI_clamp (by omega)
    refine ⟨pk_in f 10 hf, ?_⟩
    rw [cf, h.1]
    refine pk_le t.length i (fun hle => ?_) (fun hlt => br_t rfl ⟨pk_in (f * 40 + i) 400 (by omega) (ys_ix f i), ?_⟩)
    · have e : i = t.length := by omega
      subst e
      exact hp
    · have hc := qf_t_get ht hlt
      rw [ys_ixc (by omega), h.2 i hlt]
      have := ih (i + 1) (by omega) (by omega)
      refine pk_eq (t.getD i 0) 6 (fun he => ?_) (fun he => ?_)
      · have e : qn_6 t (i + 1) = qn_6 t i + 1 := by show qn_6 t i + _ = _; rw [if_pos he]
        rw [e] at this
        exact nm_r (nI_1 _) (br_f (by decide) (br_t (by decide) (nm_r (nI_1 i) this)))
      · have e : qn_6 t (i + 1) = qn_6 t i := by show qn_6 t i + _ = _; rw [if_neg he]; rfl
        rw [e] at this
        exact br_f (by decide) (br_t (by decide) (nm_r (nI_1 i) this))
theorem yl_f2 (f : Nat) (hf : f < 10) (t : List Nat) (ht : qf_t t) (h : qx_slot yan yal f (some t)) (post : Int32 → SY → Prop) (hp : ∀ la : Nat → Int32, post (nI (qt_cnt t)) (ywa, ydd, ynd, yns, yma, ynt, yno, yrc, yfo, ybl, yod, ywr, yan, yab, yac, yad, yal, yabl, yacl, yacf, ynu, yfi, ypa, ysz, yli, ytx, yki, yf1, yf2, yo, yoa, yob, yit, yss, ymo, yst, ymy, ycl, yrw, yow, yen, yhi, la)) :
  ∀ (n i : Nat) (la : Nat → Int32), i ≤ t.length → t.length - i < n → qy_la t i la → wY_file_91 post (nI f) 2 ywa ydd ynd yns yma ynt yno yrc yfo ybl yod ywr n (nI (qt_n t i)) (nI i) yan yab yac yad yal yabl yacl yacf ynu yfi ypa ysz yli ytx yki yf1 yf2 yo yoa yob yit yss ymo yst ymy ycl yrw yow yen yhi la := by
  intro n
  have hL := ht.1
  induction n with
  | zero => intro i la h1 h2; omega
  | succ n ih =>
    intro i la h1 h2 h3
    have cf : (nI f).toNatClampNeg = f := nI_clamp (by omega)
    refine ⟨pk_in f 10 hf, ?_⟩
    rw [cf, h.1]
    refine pk_le t.length i (fun hle => ?_) (fun hlt => br_f (by decide) (br_t rfl ?_))
    · have e : i = t.length := by omega
      subst e
      exact hp la
    · refine yl_trN f i hf (by omega) (some t) (fun t' e => by cases e; exact ht) h _ _ rfl rfl _ ?_
      unfold qt_6o
      dsimp only
      unfold qt_6
      cases hg : qt_g t i with
      | none =>
        dsimp only
        have e : qt_n t (i + 1) = qt_n t i := by
          show qt_n t i + _ = _
          have : qt_new t i = false := by unfold qt_new; rw [hg]
          rw [this]; rfl
        have := ih (i + 1) la (by omega) (by omega) (fun c hc => by have := h3 c hc; rw [qt_any_s, hg]; simpa using this)
        rw [e] at this
        exact br_t (by decide) (nm_r (nI_1 i) this)
      | some c =>
        dsimp only
        have hc := (qt_g_lt hg).1
        have cc : (nI c).toNatClampNeg = c := nI_clamp (by omega)
        have hi : vp_in (nI c) 216 := pk_in c 216 hc
        refine br_f (nI_pos (by omega)) ⟨hi, ?_⟩
        rw [cc]
        have h3c := h3 c hc
        cases ha : qt_any t i c with
        | true =>
          rw [ha, if_pos rfl] at h3c
          have e : qt_n t (i + 1) = qt_n t i := by
            show qt_n t i + _ = _
            have : qt_new t i = false := by unfold qt_new; rw [hg]; simp [ha]
            rw [this]; rfl
          have := ih (i + 1) la (by omega) (by omega) (fun d hd => by
            have h4 := h3 d hd
            rw [qt_any_s, hg]
            by_cases z : c = d
            · subst z; rw [ha] at h4 ⊢; exact h4
            · have : (some c == some d) = false := by simp [z]
              rw [this, Bool.or_false]; exact h4)
          rw [e] at this
          exact br_f h3c (nm_r (nI_1 i) this)
        | false =>
          rw [ha, if_neg (by decide)] at h3c
          have e : qt_n t (i + 1) = qt_n t i + 1 := by
            show qt_n t i + _ = _
            have : qt_new t i = true := by unfold qt_new; rw [hg]; simp [ha]
            rw [this]; rfl
          refine br_t h3c ⟨hi, nm_e (nm_r (nI_1 _) (nm_r (nI_1 i) ?_))⟩
          have := ih (i + 1) (upd la c (nI i)) (by omega) (by omega) (fun d hd => by
            have h4 := h3 d hd
            rw [qt_any_s, hg]
            by_cases z : c = d
            · subst z
              simp only [BEq.rfl, Bool.or_true, if_true]
              rw [pk_us]
              exact nI_pos (by omega)
            · have : (some c == some d) = false := by simp [z]
              rw [this, Bool.or_false, pk_un (fun e => z e.symm)]; exact h4)
          rw [e] at this
          exact this
theorem yl_file (now base : Nat → qf_X) (wt : List (Nat × qf_X)) (dr : List Nat) (docs : List qf_D) (segs : List Nat) (made : Nat) (hi : qf_inv now base wt dr docs segs made) (hS : qy_S now base wt dr docs segs made yan yal yab yabl yac yacl yacf yad ywa ydd ynu yfi ypa ysz yli ytx ynd yns yma) (p0 p1 : Int32) (post : Int32 → SY → Prop)
  (hb : (p0 < 0 ∨ 10 ≤ p0) → post (-1) (ywa, ydd, ynd, yns, yma, ynt, yno, yrc, yfo, ybl, yod, ywr, yan, yab, yac, yad, yal, yabl, yacl, yacf, ynu, yfi, ypa, ysz, yli, ytx, yki, yf1, yf2, yo, yoa, yob, yit, yss, ymo, yst, ymy, ycl, yrw, yow, yen, yhi, yla))
  (h3 : ∀ f, f < 10 → p0 = nI f → p1 = 3 → post (ql_v f docs) (ywa, ydd, ynd, yns, yma, ynt, yno, yrc, yfo, ybl, yod, ywr, yan, yab, yac, yad, yal, yabl, yacl, yacf, ynu, yfi, ypa, ysz, yli, ytx, yki, yf1, yf2, yo, yoa, yob, yit, yss, ymo, yst, ymy, ycl, yrw, yow, yen, yhi, yla))
  (h0 : ∀ f, f < 10 → p0 = nI f → ¬ p1 = 3 → now f = none → post (-1) (ywa, ydd, ynd, yns, yma, ynt, yno, yrc, yfo, ybl, yod, ywr, yan, yab, yac, yad, yal, yabl, yacl, yacf, ynu, yfi, ypa, ysz, yli, ytx, yki, yf1, yf2, yo, yoa, yob, yit, yss, ymo, yst, ymy, ycl, yrw, yow, yen, yhi, yla))
  (h1 : ∀ f t, f < 10 → p0 = nI f → now f = some t → ¬ p1 = 0 → ¬ p1 = 1 → ¬ p1 = 2 → ¬ p1 = 3 → post (-1) (ywa, ydd, ynd, yns, yma, ynt, yno, yrc, yfo, ybl, yod, ywr, yan, yab, yac, yad, yal, yabl, yacl, yacf, ynu, yfi, ypa, ysz, yli, ytx, yki, yf1, yf2, yo, yoa, yob, yit, yss, ymo, yst, ymy, ycl, yrw, yow, yen, yhi, yla))
  (g0 : ∀ f t, f < 10 → p0 = nI f → now f = some t → p1 = 0 → post (nI t.length) (ywa, ydd, ynd, yns, yma, ynt, yno, yrc, yfo, ybl, yod, ywr, yan, yab, yac, yad, yal, yabl, yacl, yacf, ynu, yfi, ypa, ysz, yli, ytx, yki, yf1, yf2, yo, yoa, yob, yit, yss, ymo, yst, ymy, ycl, yrw, yow, yen, yhi, yla))
  (g1 : ∀ f t, f < 10 → p0 = nI f → now f = some t → p1 = 1 → ∀ la : Nat → Int32, post (nI (qn_6 t t.length)) (ywa, ydd, ynd, yns, yma, ynt, yno, yrc, yfo, ybl, yod, ywr, yan, yab, yac, yad, yal, yabl, yacl, yacf, ynu, yfi, ypa, ysz, yli, ytx, yki, yf1, yf2, yo, yoa, yob, yit, yss, ymo, yst, ymy, ycl, yrw, yow, yen, yhi, la))
  (g2 : ∀ f t, f < 10 → p0 = nI f → now f = some t → p1 = 2 → ∀ la : Nat → Int32, post (nI (qt_cnt t)) (ywa, ydd, ynd, yns, yma, ynt, yno, yrc, yfo, ybl, yod, ywr, yan, yab, yac, yad, yal, yabl, yacl, yacf, ynu, yfi, ypa, ysz, yli, ytx, yki, yf1, yf2, yo, yoa, yob, yit, yss, ymo, yst, ymy, ycl, yrw, yow, yen, yhi, la)) : wpY_file post (ywa, ydd, ynd, yns, yma, ynt, yno, yrc, yfo, ybl, yod, ywr, yan, yab, yac, yad, yal, yabl, yacl, yacf, ynu, yfi, ypa, ysz, yli, ytx, yki, yf1, yf2, yo, yoa, yob, yit, yss, ymo, yst, ymy, ycl, yrw, yow, yen, yhi, yla) p0 p1 := by
  have hno := qf_now_o hi
  have hb10 := qd_dec10 hi.2.2.2.2.2 hi.2.2.2.2.1.2.1
  have hsm := hi.2.2.2.2.1.1
  unfold wpY_file
  refine ys_fileC p0 _ (fun z => br_t rfl (hb z)) (fun f hf e => br_f (by decide) ?_)
  subst e
  have cf : (nI f).toNatClampNeg = f := nI_clamp (by omega)
  have hsf := hS.1 f hf
  refine ys_in p1 0 3 (by decide) (by decide) 0 3 rfl rfl _ (fun z => br_t rfl ?_) (fun w _ hw e => br_f (by decide) ?_)
  · have n0 : ¬ p1 = 0 := z 0 (by omega) (by omega)
    have n1 : ¬ p1 = 1 := z 1 (by omega) (by omega)
    have n2 : ¬ p1 = 2 := z 2 (by omega) (by omega)
    have n3 : ¬ p1 = 3 := z 3 (by omega) (by omega)
    cases hnf : now f with
    | none => exact h0 f hf rfl n3 hnf
    | some t => exact h1 f t hf rfl hnf n0 n1 n2 n3
  · refine br_c (fun z => ?_) (fun z => ⟨pk_in f 10 hf, ?_⟩)
    · exact ⟨docs.length + 1, yl_live1 docs (qd_seg segs) f hf (by omega) hS.2.2.2.2.1.2 (fun x hx => (hi.2.2.2.2.1.2.2.2.1 x hx).2.1) hS.2.2.2.2.1.1 _ (docs.length + 1) 0 (by omega) (by omega) (h3 f hf rfl z)⟩
    · rw [cf]
      cases hnf : now f with
      | none =>
        rw [hnf] at hsf
        rw [show yal f = -1 from hsf]
        exact br_t (by decide) ⟨pk_in f 10 hf, h0 f hf rfl z hnf⟩
      | some t =>
        rw [hnf] at hsf
        have ht := hno f hf t hnf
        have hL := ht.1
        rw [show yal f = nI t.length from hsf.1]
        refine br_f (nI_pos (by omega)) (br_c (fun y => ⟨pk_in f 10 hf, g0 f t hf rfl hnf y⟩) (fun y0 => br_c (fun y => ?_) (fun y1 => ?_)))
        · subst y
          refine ⟨217, yl_f0 (nI f) 1 1 post ?_ 217 0 yla (by omega) (by omega) (fun j hj => absurd hj (by omega))⟩
          intro la hla
          exact ⟨t.length + 1, yl_f1 (yla := la) f hf t ht hsf post (g1 f t hf rfl hnf rfl la) (t.length + 1) 0 (by omega) (by omega)⟩
        · have y2 : p1 = 2 := by
            subst e
            have : w ≠ 0 := fun h => y0 (by rw [h]; rfl)
            have : w ≠ 1 := fun h => y1 (by rw [h]; rfl)
            have : w ≠ 3 := fun h => z (by rw [h]; rfl)
            have : w = 2 := by omega
            rw [this]; rfl
          subst y2
          refine ⟨217, yl_f0 (nI f) 2 0 post ?_ 217 0 yla (by omega) (by omega) (fun j hj => absurd hj (by omega))⟩
          intro la hla
          refine ⟨t.length + 1, yl_f2 f hf t ht hsf post (g2 f t hf rfl hnf rfl) (t.length + 1) 0 la (by omega) (by omega) ?_⟩
          intro c hc
          rw [show qt_any t 0 c = false from rfl, if_neg (by decide), hla c hc]
          decide
end
end
section
/-! the reference: having, document, at, state -/
theorem yr_b01 (m : Int32) {f : Nat} (hf : f < 32) : ((m >>> (nI f &&& 31)) &&& 1) = nI (if bt m f = true then 1 else 0) := by
  by_cases z : bt m f = true
  · rw [if_pos z]; exact (qb_s1 m f hf).mpr z
  · rw [if_neg z]; exact (qb_s0 m f hf).mpr (by simpa using z)
theorem yr_div {k : Nat} (hk : k < 100000) : nI k / 40 = nI (k / 40) := pk_div (d := 40) (by omega) (by omega) (by omega)
theorem yr_rem {k : Nat} (hk : k < 100000) : nI k - nI k / 40 * 40 = nI (k % 40) := pk_rem (d := 40) (by omega) (by omega) (by omega)
def qy_ow (now : Nat → qf_X) (k : Nat) (ow : Nat → Int32) : Prop := ∀ c, c < 216 → ∀ f, f < 10 → (bt (ow c) f = true ↔ ∃ t, now f = some t ∧ qt_any t (min 40 (k - 40 * f)) c = true)
def qy_own (now : Nat → qf_X) (ow : Nat → Int32) : Prop := ∀ c, c < 216 → ∀ f, f < 10 → (bt (ow c) f = true ↔ ∃ t, now f = some t ∧ qt_any t t.length c = true)
section
variable {ywa ydd ynd yns yma ynt yno yrc yfo ybl yod ywr : Int32} {yan yab yac yad yal yabl yacl yacf ynu yfi ypa ysz yli ytx yki yf1 yf2 yo yoa yob yit yss ymo yst ymy ycl yrw yow yhi yla : Nat → Int32} {yen : Nat → Int64}
theorem yr_inm (x : Int32) (n : Nat) (hn : n < 2 ^ 31) (xh : Int32) (eh : xh = nI n - 1) (post : Int32 → Prop) (h0 : (∀ j, j < n → x ≠ nI j) → post 0) (h1 : ∀ j, j < n → x = nI j → post 1) : wpY_in post x 0 xh := by
  subst eh
  by_cases z : n = 0
  · subst z
    have hh := h0 (fun j hj => absurd hj (by omega))
    refine br_c (fun _ => hh) (fun a => br_t ?_ hh)
    obtain ⟨j, hj, rfl⟩ := nI_of a
    have e : nI 0 - 1 = (-1 : Int32) := by decide
    rw [e, Int32.lt_iff_toInt_lt, nI_toInt hj]
    have : (-1 : Int32).toInt = -1 := by decide
    omega
  · have e : nI n - 1 = nI (n - 1) := pk_sub (b := 1) (by omega)
    exact ys_in x 0 (n - 1) (by omega) (by omega) 0 _ rfl e post (fun h => h0 (fun j hj => h j (by omega) (by omega))) (fun j _ hj => h1 j (by omega))
theorem yr_list1 (now : Nat → qf_X) (hno : ∀ f, f < 10 → qf_o (now f)) (hs : ∀ f, f < 10 → qx_slot yan yal f (now f)) (post : SY → Prop) (hp : ∀ ow : Nat → Int32, qy_own now ow → post (ywa, ydd, ynd, yns, yma, ynt, yno, yrc, yfo, ybl, yod, ywr, yan, yab, yac, yad, yal, yabl, yacl, yacf, ynu, yfi, ypa, ysz, yli, ytx, yki, yf1, yf2, yo, yoa, yob, yit, yss, ymo, yst, ymy, ycl, yrw, ow, yen, yhi, yla)) :
  ∀ (n k : Nat) (ow : Nat → Int32), k ≤ 400 → 400 - k < n → qy_ow now k ow → wY_list_24 post ywa ydd ynd yns yma ynt yno yrc yfo ybl yod ywr n (nI k) yan yab yac yad yal yabl yacl yacf ynu yfi ypa ysz yli ytx yki yf1 yf2 yo yoa yob yit yss ymo yst ymy ycl yrw ow yen yhi yla := by
  intro n
  induction n with
  | zero => intro k ow h1 h2; omega
  | succ n ih =>
    intro k ow h1 h2 h3
    refine pk_le 400 k (fun hle => ?_) (fun hlt => ?_)
    · refine hp ow (fun c hc f hf => ?_)
      rw [h3 c hc f hf]
      constructor
      · rintro ⟨t, e, h⟩
        have ht := (hno f hf t e).1
        rw [qt_any_all (by omega)] at h
        exact ⟨t, e, h⟩
      · rintro ⟨t, e, h⟩
        have ht := (hno f hf t e).1
        refine ⟨t, e, ?_⟩
        rw [qt_any_all (by omega)]
        exact h
    · have hd : k / 40 < 10 := by omega
      have hi : k % 40 < 40 := by omega
      have keep : (∀ c, c < 216 → ∀ t, now (k / 40) = some t → qt_g t (k % 40) ≠ some c) → qy_ow now (k + 1) ow := by
        intro hn c hc f hf
        rw [h3 c hc f hf]
        by_cases z : f = k / 40
        · subst z
          have e1 : min 40 (k - 40 * (k / 40)) = k % 40 := by omega
          have e2 : min 40 (k + 1 - 40 * (k / 40)) = k % 40 + 1 := by omega
          rw [e1, e2]
          constructor
          · rintro ⟨t, e, h⟩
            exact ⟨t, e, by rw [qt_any_s, h]; rfl⟩
          · rintro ⟨t, e, h⟩
            refine ⟨t, e, ?_⟩
            rw [qt_any_s, Bool.or_eq_true] at h
            rcases h with h | h
            · exact h
            · exact absurd (by simpa using h) (hn c hc t e)
        · have e1 : min 40 (k - 40 * f) = min 40 (k + 1 - 40 * f) := by omega
          rw [e1]
      refine ⟨by decide, by decide, ?_⟩
      refine yl_trN (k / 40) (k % 40) hd (by omega) (now (k / 40)) (hno _ hd) (hs _ hd) _ _ (yr_div (by omega)) (yr_rem (by omega)) _ ?_
      unfold qt_6o
      cases hnf : now (k / 40) with
      | none =>
        dsimp only
        exact br_t (by decide) (nm_r (nI_1 k) (ih (k + 1) ow (by omega) (by omega) (keep (fun c hc t e => by rw [hnf] at e; exact nomatch e))))
      | some t =>
        dsimp only
        unfold qt_6
        cases hg : qt_g t (k % 40) with
        | none =>
          dsimp only
          exact br_t (by decide) (nm_r (nI_1 k) (ih (k + 1) ow (by omega) (by omega) (keep (fun c hc t' e => by rw [hnf] at e; cases e; rw [hg]; exact fun z => nomatch z))))
        | some c =>
          dsimp only
          have hc := (qt_g_lt hg).1
          have hic : vp_in (nI c) 216 := pk_in c 216 hc
          refine br_f (nI_pos (by omega)) ⟨hic, by decide, hic, nm_e (nm_r (nI_1 k) ?_)⟩
          rw [nI_clamp (by omega), yr_div (by omega)]
          refine ih (k + 1) _ (by omega) (by omega) ?_
          intro c' hc' f hf
          by_cases z : c' = c
          · subst z
            rw [pk_us, b_or, qb_h32 _ (by omega) f (by omega), Bool.or_eq_true, h3 c' hc' f hf, decide_eq_true_eq]
            by_cases y : f = k / 40
            · subst y
              have e2 : min 40 (k + 1 - 40 * (k / 40)) = k % 40 + 1 := by omega
              rw [e2]
              constructor
              · intro _
                exact ⟨t, hnf, by rw [qt_any_s, hg]; simp⟩
              · intro _; exact Or.inr rfl
            · have e1 : min 40 (k + 1 - 40 * f) = min 40 (k - 40 * f) := by omega
              rw [e1]
              constructor
              · rintro (h | h)
                · exact h
                · exact absurd h y
              · exact Or.inl
          · rw [pk_un z, h3 c' hc' f hf]
            by_cases y : f = k / 40
            · subst y
              have e1 : min 40 (k - 40 * (k / 40)) = k % 40 := by omega
              have e2 : min 40 (k + 1 - 40 * (k / 40)) = k % 40 + 1 := by omega
              rw [e1, e2]
              constructor
              · rintro ⟨t', e, h⟩
                exact ⟨t', e, by rw [qt_any_s, h]; rfl⟩
              · rintro ⟨t', e, h⟩
                refine ⟨t', e, ?_⟩
                rw [hnf] at e
                cases e
                rw [qt_any_s, hg, Bool.or_eq_true] at h
                rcases h with h | h
                · exact h
                · have : c = c' := by simpa using h
                  exact absurd this.symm z
            · have e1 : min 40 (k + 1 - 40 * f) = min 40 (k - 40 * f) := by omega
              rw [e1]
theorem yr_list0 (post : SY → Prop) (hp : ∀ ow : Nat → Int32, (∀ j, j < 216 → ow j = 0) → ∃ n : Nat, wY_list_24 post ywa ydd ynd yns yma ynt yno yrc yfo ybl yod ywr n 0 yan yab yac yad yal yabl yacl yacf ynu yfi ypa ysz yli ytx yki yf1 yf2 yo yoa yob yit yss ymo yst ymy ycl yrw ow yen yhi yla) :
  ∀ (n i : Nat) (ow : Nat → Int32), i ≤ 216 → 216 - i < n → (∀ j, j < i → ow j = 0) → wY_list_2 post ywa ydd ynd yns yma ynt yno yrc yfo ybl yod ywr n (nI i) yan yab yac yad yal yabl yacl yacf ynu yfi ypa ysz yli ytx yki yf1 yf2 yo yoa yob yit yss ymo yst ymy ycl yrw ow yen yhi yla := by
  intro n
  induction n with
  | zero => intro i hd h1 h2; omega
  | succ n ih =>
    intro i hd h1 h2 h3
    refine pk_le 216 i (fun hle => hp hd (fun j hj => h3 j (by omega))) (fun hlt => ?_)
    have ci : (nI i).toNatClampNeg = i := nI_clamp (by omega)
    refine ⟨pk_in i 216 hlt, nm_e (nm_r (nI_1 i) ?_)⟩
    rw [ci]
    refine ih (i + 1) _ (by omega) (by omega) (fun j hj => ?_)
    by_cases z : j = i
    · subst z; exact pk_us
    · exact (pk_un z).trans (h3 j (by omega))
theorem yr_list (now : Nat → qf_X) (hno : ∀ f, f < 10 → qf_o (now f)) (hs : ∀ f, f < 10 → qx_slot yan yal f (now f)) (post : SY → Prop) (hp : ∀ ow : Nat → Int32, qy_own now ow → post (ywa, ydd, ynd, yns, yma, ynt, yno, yrc, yfo, ybl, yod, ywr, yan, yab, yac, yad, yal, yabl, yacl, yacf, ynu, yfi, ypa, ysz, yli, ytx, yki, yf1, yf2, yo, yoa, yob, yit, yss, ymo, yst, ymy, ycl, yrw, ow, yen, yhi, yla)) : wpY_list post (ywa, ydd, ynd, yns, yma, ynt, yno, yrc, yfo, ybl, yod, ywr, yan, yab, yac, yad, yal, yabl, yacl, yacf, ynu, yfi, ypa, ysz, yli, ytx, yki, yf1, yf2, yo, yoa, yob, yit, yss, ymo, yst, ymy, ycl, yrw, yow, yen, yhi, yla) := by
  refine ⟨217, yr_list0 post ?_ 217 0 yow (by omega) (by omega) (fun j hj => absurd hj (by omega))⟩
  intro ow h0
  refine ⟨401, yr_list1 now hno hs post hp 401 0 ow (by omega) (by omega) ?_⟩
  intro c hc f hf
  rw [h0 c hc, b_0]
  constructor
  · exact fun z => nomatch z
  · rintro ⟨t, _, h⟩
    rw [Nat.zero_sub, Nat.min_zero] at h
    exact nomatch h
theorem yr_hav1 (now : Nat → qf_X) (c a b d : Nat) (hc : c < 216) (e : ((36 : Int32) * nI a + 6 * nI b) + nI d = nI c) (how : qy_own now yow) (post : Int32 → SY → Prop) (hp : post (nI (qn_hv now c 10)) (ywa, ydd, ynd, yns, yma, ynt, yno, yrc, yfo, ybl, yod, ywr, yan, yab, yac, yad, yal, yabl, yacl, yacf, ynu, yfi, ypa, ysz, yli, ytx, yki, yf1, yf2, yo, yoa, yob, yit, yss, ymo, yst, ymy, ycl, yrw, yow, yen, yhi, yla)) :
  ∀ (n f : Nat), f ≤ 10 → 10 - f < n → wY_having_39 post (nI a) (nI b) (nI d) ywa ydd ynd yns yma ynt yno yrc yfo ybl yod ywr yan yab yac yad yal yabl yacl yacf ynu yfi ypa ysz yli ytx yki yf1 yf2 yo yoa yob yit yss ymo yst ymy ycl yrw yow yen yhi yla n (nI (qn_hv now c f)) (nI f) := by
  intro n
  induction n with
  | zero => intro f h1 h2; omega
  | succ n ih =>
    intro f h1 h2
    refine pk_le 10 f (fun hle => ?_) (fun hlt => ?_)
    · have e : f = 10 := by omega
      subst e
      exact hp
    · refine ⟨pk_in c 216 hc e, ?_⟩
      rw [e, nI_clamp (by omega), yr_b01 _ (by omega)]
      have := ih (f + 1) (by omega) (by omega)
      have e3 : qn_hv now c (f + 1) = qn_hv now c f + (if bt (yow c) f = true then 1 else 0) := by
        show qn_hv now c f + _ = _
        congr 1
        have hq := how c hc f hlt
        cases hnf : now f with
        | none =>
          dsimp only
          rw [if_neg]
          intro z
          obtain ⟨t, et, _⟩ := hq.mp z
          rw [hnf] at et
          exact nomatch et
        | some t =>
          dsimp only
          by_cases z : qt_any t t.length c = true
          · rw [if_pos z, if_pos (hq.mpr ⟨t, hnf, z⟩)]
          · rw [if_neg z, if_neg]
            intro y
            obtain ⟨t', et, h⟩ := hq.mp y
            rw [hnf] at et
            cases et
            exact z h
      rw [e3] at this
      exact nm_r (nI_add _ _) (nm_r (nI_1 f) this)
theorem yr_having (now : Nat → qf_X) (hno : ∀ f, f < 10 → qf_o (now f)) (hs : ∀ f, f < 10 → qx_slot yan yal f (now f)) (p0 p1 p2 : Int32) (post : Int32 → SY → Prop)
  (h0 : (¬ ∃ a b c, a < 6 ∧ b < 6 ∧ c < 6 ∧ p0 = nI a ∧ p1 = nI b ∧ p2 = nI c) → post (-1) (ywa, ydd, ynd, yns, yma, ynt, yno, yrc, yfo, ybl, yod, ywr, yan, yab, yac, yad, yal, yabl, yacl, yacf, ynu, yfi, ypa, ysz, yli, ytx, yki, yf1, yf2, yo, yoa, yob, yit, yss, ymo, yst, ymy, ycl, yrw, yow, yen, yhi, yla))
  (h1 : ∀ a b c, a < 6 → b < 6 → c < 6 → p0 = nI a → p1 = nI b → p2 = nI c → ∀ ow : Nat → Int32, post (nI (qn_hv now (36 * a + 6 * b + c) 10)) (ywa, ydd, ynd, yns, yma, ynt, yno, yrc, yfo, ybl, yod, ywr, yan, yab, yac, yad, yal, yabl, yacl, yacf, ynu, yfi, ypa, ysz, yli, ytx, yki, yf1, yf2, yo, yoa, yob, yit, yss, ymo, yst, ymy, ycl, yrw, ow, yen, yhi, yla)) : wpY_having post (ywa, ydd, ynd, yns, yma, ynt, yno, yrc, yfo, ybl, yod, ywr, yan, yab, yac, yad, yal, yabl, yacl, yacf, ynu, yfi, ypa, ysz, yli, ytx, yki, yf1, yf2, yo, yoa, yob, yit, yss, ymo, yst, ymy, ycl, yrw, yow, yen, yhi, yla) p0 p1 p2 := by
  unfold wpY_having
  refine ys_in p0 0 5 (by decide) (by decide) 0 5 rfl rfl _ (fun z => br_t rfl (h0 (fun ⟨a, b, c, ha, _, _, e, _⟩ => z a (by omega) (by omega) e))) (fun a _ ha e0 => br_f (by decide) ?_)
  refine ys_in p1 0 5 (by decide) (by decide) 0 5 rfl rfl _ (fun z => br_t rfl (h0 (fun ⟨_, b, _, _, hb, _, _, e, _⟩ => z b (by omega) (by omega) e))) (fun b _ hb e1 => br_f (by decide) ?_)
  refine ys_in p2 0 5 (by decide) (by decide) 0 5 rfl rfl _ (fun z => br_t rfl (h0 (fun ⟨_, _, c, _, _, hc, _, _, e⟩ => z c (by omega) (by omega) e))) (fun c _ hc e2 => br_f (by decide) ?_)
  refine yr_list now hno hs _ (fun ow how => ⟨11, ?_⟩)
  rw [e0, e1, e2]
  refine yr_hav1 now (36 * a + 6 * b + c) a b c (by omega) ?_ how post (h1 a b c (by omega) (by omega) (by omega) e0 e1 e2 ow) 11 0 (by omega) (by omega)
  rw [show (36 : Int32) = nI 36 from rfl, show (6 : Int32) = nI 6 from rfl, pk_mul, pk_mul, nI_add, nI_add]
theorem yr_document (now base : Nat → qf_X) (wt : List (Nat × qf_X)) (dr : List Nat) (docs : List qf_D) (segs : List Nat) (made : Nat) (hi : qf_inv now base wt dr docs segs made) (hS : qy_S now base wt dr docs segs made yan yal yab yabl yac yacl yacf yad ywa ydd ynu yfi ypa ysz yli ytx ynd yns yma) (p0 p1 : Int32) (post : Int32 → Prop)
  (hb : (∀ j, j < docs.length → p0 ≠ nI j) ∨ (∀ w, w < 4 → p1 ≠ nI w) → post (-1))
  (g0 : ∀ j x, docs[j]? = some x → p0 = nI j → p1 = 0 → post (nI x.1))
  (g1 : ∀ j x, docs[j]? = some x → p0 = nI j → p1 = 1 → post (nI x.2.1))
  (g2 : ∀ j x, docs[j]? = some x → p0 = nI j → p1 = 2 → post (if x.2.2.1 = true then 1 else 0))
  (g3 : ∀ j, j < docs.length → p0 = nI j → p1 = 3 → post (nI (qd_seg segs j))) : wpY_document post (ywa, ydd, ynd, yns, yma, ynt, yno, yrc, yfo, ybl, yod, ywr, yan, yab, yac, yad, yal, yabl, yacl, yacf, ynu, yfi, ypa, ysz, yli, ytx, yki, yf1, yf2, yo, yoa, yob, yit, yss, ymo, yst, ymy, ycl, yrw, yow, yen, yhi, yla) p0 p1 := by
  obtain ⟨i1, i2, i3, i4, i5, i6⟩ := hi
  obtain ⟨s1, s2, s3, s5, ⟨s6, s7⟩, s8, s9⟩ := hS
  subst s6
  have hb10 := qd_dec10 i6 i5.2.1
  have hsm := i5.1
  unfold wpY_document
  refine yr_inm p0 docs.length (by omega) _ rfl _ (fun z => br_t rfl (hb (Or.inl z))) (fun k hk e => br_f (by decide) ?_)
  subst e
  have ck : (nI k).toNatClampNeg = k := nI_clamp (by omega)
  have hik : vp_in (nI k) 64 := pk_in k 64 (by omega)
  have hg := List.getElem?_eq_getElem hk
  obtain ⟨a1, a2, a3, a4, a5⟩ := s7 k _ hg
  refine ys_in p1 0 3 (by decide) (by decide) 0 3 rfl rfl _ (fun z => br_t rfl (hb (Or.inr (fun w hw => z w (by omega) (by omega))))) (fun w _ hw e => br_f (by decide) ?_)
  refine br_c (fun w => ⟨hik, ?_⟩) (fun w0 => br_c (fun w => ⟨hik, ?_⟩) (fun w1 => br_c (fun w => ⟨hik, ?_⟩) (fun w2 => ⟨hik, ?_⟩)))
  · rw [ck, a1]; exact g0 k _ hg rfl w
  · rw [ck, a2]; exact g1 k _ hg rfl w
  · rw [ck, a3]
    have := g2 k _ hg rfl w
    by_cases z : docs[k].2.2.1 = true
    · rw [if_pos z] at this ⊢; exact br_f (by decide) this
    · rw [if_neg z] at this ⊢; exact br_t rfl this
  · have y3 : p1 = 3 := by
      subst e
      have : w ≠ 0 := fun h => w0 (by rw [h]; rfl)
      have : w ≠ 1 := fun h => w1 (by rw [h]; rfl)
      have : w ≠ 2 := fun h => w2 (by rw [h]; rfl)
      have : w = 3 := by omega
      rw [this]; rfl
    rw [ck, a4]; exact g3 k hk rfl y3
theorem yr_at (now : Nat → qf_X) (hno : ∀ f, f < 10 → qf_o (now f)) (hs : ∀ f, f < 10 → qx_slot yan yal f (now f)) (p0 p1 : Int32) (post : Int32 → Prop)
  (hb : (∀ f t i, f < 10 → now f = some t → i < t.length → p0 = nI f → p1 ≠ nI i) → post (-1))
  (hg : ∀ f t i, f < 10 → now f = some t → i < t.length → p0 = nI f → p1 = nI i → post (nI (t.getD i 0))) : wpY_at post (ywa, ydd, ynd, yns, yma, ynt, yno, yrc, yfo, ybl, yod, ywr, yan, yab, yac, yad, yal, yabl, yacl, yacf, ynu, yfi, ypa, ysz, yli, ytx, yki, yf1, yf2, yo, yoa, yob, yit, yss, ymo, yst, ymy, ycl, yrw, yow, yen, yhi, yla) p0 p1 := by
  unfold wpY_at
  rcases pk_ix p0 (n := 10) (by decide) with z | z | ⟨f, hf, rfl⟩
  · unfold wpY_isThere
    refine ys_fileC p0 _ (fun _ => br_t rfl (br_t rfl (hb (fun g t i hg' _ _ e => ?_)))) (fun f hf e => ?_)
    · subst e; exact absurd z (nI_pos (by omega))
    · subst e; exact absurd z (nI_pos (by omega))
  · unfold wpY_isThere
    refine ys_fileC p0 _ (fun _ => br_t rfl (br_t rfl (hb (fun g t i hg' _ _ e => ?_)))) (fun f hf e => ?_)
    · subst e; exact absurd z (nI_ge (b := 10) hg' (by decide))
    · subst e; exact absurd z (nI_ge (b := 10) hf (by decide))
  · have cf : (nI f).toNatClampNeg = f := nI_clamp (by omega)
    have hsf := hs f hf
    refine ys_there f hf (now f) (hno f hf) hsf _ (fun e => br_t rfl (hb (fun g t i hg' ht _ e1 => ?_))) (fun t e => br_f (by decide) ⟨pk_in f 10 hf, ?_⟩)
    · rw [nI_eq (by omega) (by omega)] at e1
      subst e1
      rw [e] at ht
      exact nomatch ht
    · rw [e] at hsf
      have ht := hno f hf t e
      have hL := ht.1
      rw [cf, show yal f = nI t.length from hsf.1]
      refine yr_inm p1 t.length (by omega) _ rfl _ (fun z => br_t rfl (hb (fun g t' i hg' ht' hi' e1 => ?_))) (fun j hj e1 => br_f (by decide) ⟨?_, ?_⟩)
      · rw [nI_eq (by omega) (by omega)] at e1
        subst e1
        rw [e] at ht'
        cases ht'
        exact z i hi'
      · subst e1; exact pk_in (f * 40 + j) 400 (by omega) (ys_ix f j)
      · subst e1
        rw [ys_ixc (by omega), hsf.2 j hj]
        exact hg f t j hf e hj rfl rfl
end
end
section
/-! the reference: segment -/
def qz_p (l : List qf_D) (o : Option qf_D) (i c : Nat) : Nat := match o with
  | none => ql_p (qt_P c) l 0
  | some x => if qt_any x.2.2.2 i c = true then x.1 + 1 else ql_p (qt_P c) l 0
def qz_b (l : List qf_D) (o : Option qf_D) (i c : Nat) : Nat := match o with
  | none => ql_b (qt_P c) l 0
  | some x => ql_b (qt_P c) l 0 + (if qt_any x.2.2.2 i c = true then ql_c (x.1 + 1 - ql_p (qt_P c) l 0) else 0)
def qz_n (b : Nat) : Nat := if b = 0 then 0 else 1
/-- the documents of a segment ahead of the d-th -/
def qz_l (docs : List qf_D) (st e d : Nat) : List qf_D := (docs.drop st).take (min d e - st)
def qz_o (docs : List qf_D) (st e d : Nat) : Option qf_D := if st ≤ d ∧ d < e then docs[d]? else none
theorem ql_p_pos (P : List Nat → Bool) : ∀ (l : List qf_D) (p : Nat), 0 < p → 0 < ql_p P l p
  | [], _, h => h
  | z :: l, p, h => by
    unfold ql_p
    split
    · exact ql_p_pos P l _ (by omega)
    · exact ql_p_pos P l _ h
theorem ql_b0 (P : List Nat → Bool) : ∀ (l : List qf_D), ql_b P l 0 = 0 ↔ ql_p P l 0 = 0
  | [] => by simp [ql_b, ql_p]
  | y :: l => by
    unfold ql_b ql_p
    split
    · have h1 := ql_c_pos (y.1 + 1 - 0)
      have h2 := ql_p_pos P l (y.1 + 1) (by omega)
      constructor
      · intro h; omega
      · intro h; omega
    · exact ql_b0 P l
theorem qz_end {docs : List qf_D} {st e d : Nat} (he : e ≤ docs.length) (ht : ∀ x, x ∈ docs → qf_t x.2.2.2) (c : Nat) : qz_p (qz_l docs st e d) (qz_o docs st e d) 40 c = qz_p (qz_l docs st e (d + 1)) (qz_o docs st e (d + 1)) 0 c ∧ qz_b (qz_l docs st e d) (qz_o docs st e d) 40 c = qz_b (qz_l docs st e (d + 1)) (qz_o docs st e (d + 1)) 0 c := by
  have h0 : ∀ o : Option qf_D, ∀ l, qz_p l o 0 c = ql_p (qt_P c) l 0 ∧ qz_b l o 0 c = ql_b (qt_P c) l 0 := by
    intro o l
    cases o with
    | none => exact ⟨rfl, rfl⟩
    | some x =>
      unfold qz_p qz_b
      dsimp only
      rw [show qt_any x.2.2.2 0 c = false from rfl]
      exact ⟨rfl, rfl⟩
  rw [(h0 _ _).1, (h0 _ _).2]
  unfold qz_o
  by_cases z : st ≤ d ∧ d < e
  · rw [if_pos z]
    have hd : d < docs.length := by omega
    rw [List.getElem?_eq_getElem hd]
    have hs : qz_l docs st e (d + 1) = qz_l docs st e d ++ [docs[d]] := by
      unfold qz_l
      have e1 : min (d + 1) e - st = (d - st) + 1 := by omega
      have e2 : min d e - st = d - st := by omega
      rw [e1, e2, ql_seg_s docs st (d - st) (by omega)]
      congr 2
      congr 1
      omega
    rw [hs, ql_p_1, ql_b_1]
    unfold qz_p qz_b
    dsimp only
    have hany : qt_any docs[d].2.2.2 40 c = qt_P c docs[d].2.2.2 := by
      unfold qt_P
      exact qt_any_all (by have := (ht _ (List.getElem_mem hd)).1; omega)
    rw [hany]
    exact ⟨rfl, rfl⟩
  · rw [if_neg z]
    have e1 : qz_l docs st e (d + 1) = qz_l docs st e d := by
      unfold qz_l
      congr 1
      omega
    rw [e1]
    exact ⟨rfl, rfl⟩
section
variable {ywa ydd ynd yns yma ynt yno yrc yfo ybl yod ywr : Int32} {yan yab yac yad yal yabl yacl yacf ynu yfi ypa ysz yli ytx yki yf1 yf2 yo yoa yob yit yss ymo yst ymy ycl yrw yow yhi yla : Nat → Int32} {yen : Nat → Int64}
theorem yg_cost1 (post : Int32 → Prop) : ∀ (n v a : Nat), v < n → 0 < v → v < 2 ^ 31 → post (nI (a + 2 * v.log2)) → wY_cost_4 post n (nI a) (nI v) := by
  intro n
  induction n with
  | zero => intro v a h1; omega
  | succ n ih =>
    intro v a h1 h0 h2 h3
    refine pk_le v 1 (fun hle => ?_) (fun hlt => nm_r (nI_add a 2) ⟨by decide, nm_r (pk_div (d := 2) h2 (by omega) (by omega)) ?_⟩)
    · have e : v = 1 := by omega
      subst e
      exact h3
    · refine ih (v / 2) (a + 2) (by omega) (by omega) (by omega) ?_
      have e : v.log2 = (v / 2).log2 + 1 := by
        rw [Nat.log2_def]
        rw [if_pos (by omega)]
      rw [e] at h3
      have e2 : a + 2 + 2 * (v / 2).log2 = a + 2 * ((v / 2).log2 + 1) := by omega
      rw [e2]
      exact h3
theorem yg_cost (d : Nat) (h0 : 0 < d) (hd : d < 2 ^ 31) (x : Int32) (ex : x = nI d) (post : Int32 → Prop) (hp : post (nI (ql_c d))) : wpY_cost post x := by
  subst ex
  refine ⟨d + 1, yg_cost1 post (d + 1) d 1 (by omega) h0 hd ?_⟩
  have e : 1 + 2 * d.log2 = ql_c d := by unfold ql_c; omega
  rw [e]
  exact hp
def qy_st (docs : List qf_D) (st e d i : Nat) (la : Nat → Int32) : Prop := ∀ c, c < 216 → la c = nI (qz_p (qz_l docs st e d) (qz_o docs st e d) i c) - 1
def qy_v (bits : Bool) (docs : List qf_D) (st e d i : Nat) : Nat := qs_sum (fun c => if bits = true then qz_b (qz_l docs st e d) (qz_o docs st e d) i c else qz_n (qz_b (qz_l docs st e d) (qz_o docs st e d) i c)) 216
theorem qy_adv {docs : List qf_D} {st e d i : Nat} {la : Nat → Int32} {bits : Bool} (he : e ≤ docs.length) (ht : ∀ x, x ∈ docs → qf_t x.2.2.2) (hi : i < 40) (h : qy_st docs st e d (i + 1) la) : qy_st docs st e ((40 * d + i + 1) / 40) ((40 * d + i + 1) % 40) la ∧ qy_v bits docs st e d (i + 1) = qy_v bits docs st e ((40 * d + i + 1) / 40) ((40 * d + i + 1) % 40) := by
  by_cases z : i = 39
  · subst z
    have e1 : (40 * d + 39 + 1) / 40 = d + 1 := by omega
    have e2 : (40 * d + 39 + 1) % 40 = 0 := by omega
    rw [e1, e2]
    constructor
    · intro c hc
      rw [h c hc]
      congr 2
      exact (qz_end he ht c).1
    · unfold qy_v
      apply qs_cg
      intro c _
      rw [(qz_end he ht c).2]
  · have e1 : (40 * d + i + 1) / 40 = d := by omega
    have e2 : (40 * d + i + 1) % 40 = i + 1 := by omega
    rw [e1, e2]
    exact ⟨h, rfl⟩
theorem yg_l1 (docs : List qf_D) (segs : List Nat) (made k : Nat) (bits : Bool) (hk : k < segs.length) (hd : docs.length ≤ 64) (hsl : segs.length ≤ 16) (hsum : segs.sum = docs.length) (hdl : qy_dl docs (qd_seg segs) ytx ysz ynu yfi ypa yli) (hok : ∀ y, y ∈ docs → y.1 < made ∧ qf_t y.2.2.2) (hpw : docs.Pairwise (fun x y => x.1 < y.1)) (hm : made < 2 ^ 30) (hnd : ynd = nI docs.length) (post : Int32 → SY → Prop)
  (hp : ∀ la : Nat → Int32, post (nI (if bits = true then ql_bits (ql_docs docs segs k) else ql_lists (ql_docs docs segs k))) (ywa, ydd, ynd, yns, yma, ynt, yno, yrc, yfo, ybl, yod, ywr, yan, yab, yac, yad, yal, yabl, yacl, yacf, ynu, yfi, ypa, ysz, yli, ytx, yki, yf1, yf2, yo, yoa, yob, yit, yss, ymo, yst, ymy, ycl, yrw, yow, yen, yhi, la)) :
  ∀ (n x : Nat) (la : Nat → Int32), x ≤ 40 * docs.length → 40 * docs.length - x < n → qy_st docs (qd_st k segs) (qd_st (k + 1) segs) (x / 40) (x % 40) la → wY_lists_30 post (nI k) (if bits = true then 1 else 0) ywa ydd ynd yns yma ynt yno yrc yfo ybl yod ywr n (nI (qy_v bits docs (qd_st k segs) (qd_st (k + 1) segs) (x / 40) (x % 40))) (nI x) yan yab yac yad yal yabl yacl yacf ynu yfi ypa ysz yli ytx yki yf1 yf2 yo yoa yob yit yss ymo yst ymy ycl yrw yow yen yhi la := by
  intro n
  subst hnd
  have hst := qd_st_s segs k
  have hle1 := qd_st_le (segs := segs) (k + 1)
  have htt : ∀ x, x ∈ docs → qf_t x.2.2.2 := fun x hx => (hok x hx).2
  induction n with
  | zero => intro x la h1 h2; omega
  | succ n ih =>
    intro x la h1 h2 h3
    refine pk_le (40 * docs.length) x (fun hle => ?_) (fun hlt => ?_) (pk_mul 40 _)
    · have e : x = 40 * docs.length := by omega
      subst e
      have e1 : 40 * docs.length / 40 = docs.length := by omega
      have e2 : 40 * docs.length % 40 = 0 := by omega
      rw [e1, e2]
      have hl : qz_l docs (qd_st k segs) (qd_st (k + 1) segs) docs.length = ql_docs docs segs k := by
        unfold qz_l ql_docs
        congr 1
        omega
      have hoo : qz_o docs (qd_st k segs) (qd_st (k + 1) segs) docs.length = none := by
        unfold qz_o
        rw [if_neg (by omega)]
      have hv : qy_v bits docs (qd_st k segs) (qd_st (k + 1) segs) docs.length 0 = if bits = true then ql_bits (ql_docs docs segs k) else ql_lists (ql_docs docs segs k) := by
        unfold qy_v
        rw [hl, hoo]
        cases bits with
        | true => rfl
        | false => rfl
      rw [hv]
      exact hp la
    · have hdl' : x / 40 < docs.length := by omega
      have hx4 : 40 * (x / 40) + x % 40 = x := by omega
      have hi40 : x % 40 < 40 := by omega
      generalize hd' : x / 40 = d at *
      generalize hi' : x % 40 = i at *
      obtain ⟨a1, a2, a3, a4, a5⟩ := hdl d _ (List.getElem?_eq_getElem hdl')
      have ho := hok _ (List.getElem_mem hdl')
      have hid : vp_in (nI d) 64 := pk_in d 64 (by omega)
      have cd : (nI d).toNatClampNeg = d := nI_clamp (by omega)
      have hsg := qd_seg_lt segs d (by omega)
      have hq := qd_seg_eq segs d k (by omega)
      have next : ∀ la', qy_st docs (qd_st k segs) (qd_st (k + 1) segs) d (i + 1) la' → wY_lists_30 post (nI k) (if bits = true then 1 else 0) ywa ydd (nI docs.length) yns yma ynt yno yrc yfo ybl yod ywr n (nI (qy_v bits docs (qd_st k segs) (qd_st (k + 1) segs) d (i + 1))) (nI (x + 1)) yan yab yac yad yal yabl yacl yacf ynu yfi ypa ysz yli ytx yki yf1 yf2 yo yoa yob yit yss ymo yst ymy ycl yrw yow yen yhi la' := by
        intro la' h
        have ha := qy_adv (bits := bits) (by omega) htt hi40 h
        have := ih (x + 1) la' (by omega) (by omega) (by rw [← hx4]; exact ha.1)
        rw [show (x + 1) / 40 = (40 * d + i + 1) / 40 by omega, show (x + 1) % 40 = (40 * d + i + 1) % 40 by omega, ← ha.2] at this
        exact this
      have same : (∀ c, c < 216 → qz_p (qz_l docs (qd_st k segs) (qd_st (k + 1) segs) d) (qz_o docs (qd_st k segs) (qd_st (k + 1) segs) d) (i + 1) c = qz_p (qz_l docs (qd_st k segs) (qd_st (k + 1) segs) d) (qz_o docs (qd_st k segs) (qd_st (k + 1) segs) d) i c ∧ qz_b (qz_l docs (qd_st k segs) (qd_st (k + 1) segs) d) (qz_o docs (qd_st k segs) (qd_st (k + 1) segs) d) (i + 1) c = qz_b (qz_l docs (qd_st k segs) (qd_st (k + 1) segs) d) (qz_o docs (qd_st k segs) (qd_st (k + 1) segs) d) i c) → wY_lists_30 post (nI k) (if bits = true then 1 else 0) ywa ydd (nI docs.length) yns yma ynt yno yrc yfo ybl yod ywr n (nI (qy_v bits docs (qd_st k segs) (qd_st (k + 1) segs) d i)) (nI (x + 1)) yan yab yac yad yal yabl yacl yacf ynu yfi ypa ysz yli ytx yki yf1 yf2 yo yoa yob yit yss ymo yst ymy ycl yrw yow yen yhi la := by
        intro hs
        have := next la (fun c hc => by rw [(hs c hc).1]; exact h3 c hc)
        have e : qy_v bits docs (qd_st k segs) (qd_st (k + 1) segs) d (i + 1) = qy_v bits docs (qd_st k segs) (qd_st (k + 1) segs) d i := by
          unfold qy_v
          apply qs_cg
          intro c hc
          rw [(hs c hc).2]
        rw [e] at this
        exact this
      have hdv : nI x / 40 = nI d := by rw [yr_div (by omega), hd']
      refine ⟨by decide, nm_r hdv ⟨hid, ?_⟩⟩
      rw [cd, a4]
      refine pk_eq (qd_seg segs d) k (fun he => ⟨by decide, ?_⟩) (fun he => ?_)
      · have hin := hq.mp he
        have hoo : qz_o docs (qd_st k segs) (qd_st (k + 1) segs) d = some docs[d] := by
          unfold qz_o
          rw [if_pos hin, List.getElem?_eq_getElem hdl']
        rw [hoo] at same
        have h3 : ∀ c, c < 216 → la c = nI (qz_p (qz_l docs (qd_st k segs) (qd_st (k + 1) segs) d) (some docs[d]) i c) - 1 := by
          intro c hc
          have h := h3 c hc
          rw [hoo] at h
          exact h
        refine yl_trK d i (by omega) (by omega) docs[d].2.2.2 ho.2 a5 _ _ rfl (by rw [yr_rem (by omega), hi']) _ ?_
        unfold qt_6
        cases hg : qt_g docs[d].2.2.2 i with
        | none =>
          dsimp only
          refine br_t (by decide) (nm_r (nI_1 x) (same (fun c hc => ?_)))
          have : qt_any docs[d].2.2.2 (i + 1) c = qt_any docs[d].2.2.2 i c := by rw [qt_any_s, hg]; simp
          unfold qz_p qz_b
          dsimp only
          rw [this]
          exact ⟨rfl, rfl⟩
        | some c =>
          dsimp only
          have hc := (qt_g_lt hg).1
          have cc : (nI c).toNatClampNeg = c := nI_clamp (by omega)
          have hic : vp_in (nI c) 216 := pk_in c 216 hc
          have hle : ∀ c', ql_p (qt_P c') (qz_l docs (qd_st k segs) (qd_st (k + 1) segs) d) 0 ≤ docs[d].1 := by
            intro c'
            apply ql_p_le
            · omega
            · intro y hy
              rw [List.pairwise_iff_getElem] at hpw
              unfold qz_l at hy
              obtain ⟨j, hj, rfl⟩ := List.getElem_of_mem hy
              rw [List.length_take, List.length_drop] at hj
              rw [List.getElem_take, List.getElem_drop]
              exact hpw (qd_st k segs + j) d (by omega) hdl' (by omega)
          generalize hL : qz_l docs (qd_st k segs) (qd_st (k + 1) segs) d = L at *
          have oth : ∀ c', c' ≠ c → qt_any docs[d].2.2.2 (i + 1) c' = qt_any docs[d].2.2.2 i c' := by
            intro c' z
            rw [qt_any_s, hg]
            have hcc : ¬ c = c' := fun h => z h.symm
            have : (some c == some c') = false := by simp [hcc]
            rw [this, Bool.or_false]
          have h3c := h3 c hc
          refine br_f (nI_pos (by omega)) ⟨hic, hid, ?_⟩
          rw [cc, cd, h3c]
          cases ha : qt_any docs[d].2.2.2 i c with
          | true =>
            have e : qz_p L (some docs[d]) i c = docs[d].1 + 1 := by unfold qz_p; dsimp only; rw [if_pos ha]
            rw [e, nI_pred, a1]
            refine br_t rfl (nm_r (nI_1 x) (same (fun c' hc' => ?_)))
            unfold qz_p qz_b
            dsimp only
            by_cases z : c' = c
            · subst z
              rw [show qt_any docs[d].2.2.2 (i + 1) c' = true by rw [qt_any_s, ha]; rfl, ha]
              exact ⟨rfl, rfl⟩
            · rw [oth c' z]
              exact ⟨rfl, rfl⟩
          | false =>
            have e : qz_p L (some docs[d]) i c = ql_p (qt_P c) L 0 := by unfold qz_p; dsimp only; rw [ha]; rfl
            have hlc := hle c
            have han : qt_any docs[d].2.2.2 (i + 1) c = true := by rw [qt_any_s, hg]; simp
            rw [e]
            have hne : ¬ nI (ql_p (qt_P c) L 0) - 1 = ynu d := by
              rw [a1]
              intro h
              have h5 : nI (ql_p (qt_P c) L 0) = nI (docs[d].1 + 1) := by
                rw [← nI_1, ← h]
                grind
              rw [nI_eq (by omega) (by omega)] at h5
              omega
            have hst2 : qy_st docs (qd_st k segs) (qd_st (k + 1) segs) d (i + 1) (upd la c (nI docs[d].1)) := by
              intro c' hc'
              rw [hL, hoo]
              by_cases z : c' = c
              · subst z
                rw [pk_us]
                unfold qz_p
                dsimp only
                rw [if_pos han, nI_pred]
              · rw [pk_un z, h3 c' hc']
                unfold qz_p
                dsimp only
                rw [oth c' z]
            have nx := next (upd la c (nI docs[d].1)) hst2
            have hb1 : qz_b L (some docs[d]) (i + 1) c = qz_b L (some docs[d]) i c + ql_c (docs[d].1 + 1 - ql_p (qt_P c) L 0) := by
              unfold qz_b
              dsimp only
              rw [if_pos han, ha]
              simp
            have hbo : ∀ c', c' ≠ c → qz_b L (some docs[d]) (i + 1) c' = qz_b L (some docs[d]) i c' := by
              intro c' z
              unfold qz_b
              dsimp only
              rw [oth c' z]
            have fin : ∀ v : Nat, v = qy_v bits docs (qd_st k segs) (qd_st (k + 1) segs) d (i + 1) → wY_lists_144 post (wY_lists_30 post (nI k) (if bits = true then 1 else 0) ywa ydd (nI docs.length) yns yma ynt yno yrc yfo ybl yod ywr n) (nI k) (if bits = true then 1 else 0) (nI v) (nI x) (nI d) (nI c) ywa ydd (nI docs.length) yns yma ynt yno yrc yfo ybl yod ywr yan yab yac yad yal yabl yacl yacf ynu yfi ypa ysz yli ytx yki yf1 yf2 yo yoa yob yit yss ymo yst ymy ycl yrw yow yen yhi la := by
              intro v hv
              refine ⟨hid, hic, nm_e (nm_r (nI_1 x) ?_)⟩
              rw [cd, cc, a1, hv]
              exact nx
            refine br_f hne ?_
            have hvv : qy_v bits docs (qd_st k segs) (qd_st (k + 1) segs) d (i + 1) = qy_v bits docs (qd_st k segs) (qd_st (k + 1) segs) d i + (if bits = true then ql_c (docs[d].1 + 1 - ql_p (qt_P c) L 0) else (if qz_b L (some docs[d]) i c = 0 then 1 else 0)) := by
              unfold qy_v
              rw [hL, hoo]
              refine qs_upd (j := c) 216 hc (fun c' _ z => ?_) ?_
              · rw [hbo c' z]
              · rw [hb1]
                have := ql_c_pos (docs[d].1 + 1 - ql_p (qt_P c) L 0)
                cases bits with
                | true => rfl
                | false =>
                  simp only [Bool.false_eq_true, if_false]
                  unfold qz_n
                  rw [if_neg (by omega)]
                  split <;> rfl
            cases bits with
            | true =>
              simp only [if_true] at fin hvv ⊢
              refine br_f (by decide) ⟨hid, hic, ?_⟩
              refine yg_cost (docs[d].1 + 1 - ql_p (qt_P c) L 0) (by omega) (by omega) _ (by rw [a1]; exact xl_pv hlc) _ ?_
              exact nm_r (nI_add _ _) (fin _ hvv.symm)
            | false =>
              simp only [Bool.false_eq_true, if_false] at fin hvv ⊢
              refine br_t (by trivial) ⟨hic, ?_⟩
              have hb0 : qz_b L (some docs[d]) i c = 0 ↔ ql_p (qt_P c) L 0 = 0 := by
                unfold qz_b
                dsimp only
                rw [ha]
                simp only [Bool.false_eq_true, if_false, Nat.add_zero]
                exact ql_b0 (qt_P c) L
              by_cases z : ql_p (qt_P c) L 0 = 0
              · rw [if_pos (hb0.mpr z)] at hvv
                rw [z]
                refine br_f (by decide) (nm_r (nI_1 _) (fin _ hvv.symm))
              · rw [if_neg (fun y => z (hb0.mp y)), Nat.add_zero] at hvv
                refine br_t ?_ (fin _ hvv.symm)
                rw [show nI (ql_p (qt_P c) L 0) - 1 = nI (ql_p (qt_P c) L 0 - 1) from pk_sub (b := 1) (by omega)]
                exact nI_pos' (by omega)
      · have hoo : qz_o docs (qd_st k segs) (qd_st (k + 1) segs) d = none := by
          unfold qz_o
          rw [if_neg (fun z => he (hq.mpr z))]
        rw [hoo] at same
        exact br_t (by decide) (nm_r (nI_1 x) (same (fun c hc => ⟨rfl, rfl⟩)))
end
end
section
/-! the reference: segment, whole -/
theorem ql_cl_1 (x : qf_D) : ∀ l : List qf_D, ql_cl (l ++ [x]) = ql_cl l + (if x.2.2.1 = true then 1 else 0)
  | [] => by simp [ql_cl]
  | y :: l => by
    rw [List.cons_append]
    unfold ql_cl
    rw [ql_cl_1 x l]
    omega
theorem ql_cl_le : ∀ l : List qf_D, ql_cl l ≤ l.length
  | [] => Nat.le_refl _
  | y :: l => by
    have := ql_cl_le l
    unfold ql_cl
    rw [List.length_cons]
    split <;> omega
section
variable {ywa ydd ynd yns yma ynt yno yrc yfo ybl yod ywr : Int32} {yan yab yac yad yal yabl yacl yacf ynu yfi ypa ysz yli ytx yki yf1 yf2 yo yoa yob yit yss ymo yst ymy ycl yrw yow yhi yla : Nat → Int32} {yen : Nat → Int64}
theorem yg_la (x1 x2 x3 : Int32) (post : Int32 → SY → Prop) (hp : ∀ la : Nat → Int32, (∀ j, j < 216 → la j = -1) → ∃ n : Nat, wY_lists_30 post x1 x2 ywa ydd ynd yns yma ynt yno yrc yfo ybl yod ywr n x3 0 yan yab yac yad yal yabl yacl yacf ynu yfi ypa ysz yli ytx yki yf1 yf2 yo yoa yob yit yss ymo yst ymy ycl yrw yow yen yhi la) :
  ∀ (n i : Nat) (la : Nat → Int32), i ≤ 216 → 216 - i < n → (∀ j, j < i → la j = -1) → wY_lists_5 post x1 x2 x3 ywa ydd ynd yns yma ynt yno yrc yfo ybl yod ywr n (nI i) yan yab yac yad yal yabl yacl yacf ynu yfi ypa ysz yli ytx yki yf1 yf2 yo yoa yob yit yss ymo yst ymy ycl yrw yow yen yhi la := by
  intro n
  induction n with
  | zero => intro i hd h1 h2; omega
  | succ n ih =>
    intro i hd h1 h2 h3
    refine pk_le 216 i (fun hle => hp hd (fun j hj => h3 j (by omega))) (fun hlt => ?_)
    have ci : (nI i).toNatClampNeg = i := nI_clamp (by omega)
    refine ⟨pk_in i 216 hlt, nm_e (nm_r (nI_1 i) ?_)⟩
    rw [ci]
    refine ih (i + 1) _ (by omega) (by omega) (fun j hj => ?_)
    by_cases z : j = i
    · subst z; exact pk_us
    · exact (pk_un z).trans (h3 j (by omega))
theorem yg_lists (docs : List qf_D) (segs : List Nat) (made k : Nat) (bits : Bool) (hk : k < segs.length) (hd : docs.length ≤ 64) (hsl : segs.length ≤ 16) (hsum : segs.sum = docs.length) (hdl : qy_dl docs (qd_seg segs) ytx ysz ynu yfi ypa yli) (hok : ∀ y, y ∈ docs → y.1 < made ∧ qf_t y.2.2.2) (hpw : docs.Pairwise (fun x y => x.1 < y.1)) (hm : made < 2 ^ 30) (hnd : ynd = nI docs.length) (xb : Int32) (eb : xb = if bits = true then 1 else 0) (post : Int32 → SY → Prop)
  (hp : ∀ la : Nat → Int32, post (nI (if bits = true then ql_bits (ql_docs docs segs k) else ql_lists (ql_docs docs segs k))) (ywa, ydd, ynd, yns, yma, ynt, yno, yrc, yfo, ybl, yod, ywr, yan, yab, yac, yad, yal, yabl, yacl, yacf, ynu, yfi, ypa, ysz, yli, ytx, yki, yf1, yf2, yo, yoa, yob, yit, yss, ymo, yst, ymy, ycl, yrw, yow, yen, yhi, la)) : wpY_lists post (ywa, ydd, ynd, yns, yma, ynt, yno, yrc, yfo, ybl, yod, ywr, yan, yab, yac, yad, yal, yabl, yacl, yacf, ynu, yfi, ypa, ysz, yli, ytx, yki, yf1, yf2, yo, yoa, yob, yit, yss, ymo, yst, ymy, ycl, yrw, yow, yen, yhi, yla) (nI k) xb := by
  subst eb
  refine ⟨217, yg_la (nI k) _ 0 post ?_ 217 0 yla (by omega) (by omega) (fun j hj => absurd hj (by omega))⟩
  intro la hla
  have h0 : ∀ c, qz_p (qz_l docs (qd_st k segs) (qd_st (k + 1) segs) 0) (qz_o docs (qd_st k segs) (qd_st (k + 1) segs) 0) 0 c = 0 ∧ qz_b (qz_l docs (qd_st k segs) (qd_st (k + 1) segs) 0) (qz_o docs (qd_st k segs) (qd_st (k + 1) segs) 0) 0 c = 0 := by
    intro c
    have e : qz_l docs (qd_st k segs) (qd_st (k + 1) segs) 0 = [] := by
      unfold qz_l
      rw [Nat.zero_min, Nat.zero_sub, List.take_zero]
    rw [e]
    cases qz_o docs (qd_st k segs) (qd_st (k + 1) segs) 0 with
    | none => exact ⟨rfl, rfl⟩
    | some x =>
      unfold qz_p qz_b
      dsimp only
      rw [show qt_any x.2.2.2 0 c = false from rfl]
      exact ⟨rfl, rfl⟩
  have hv : qy_v bits docs (qd_st k segs) (qd_st (k + 1) segs) 0 0 = 0 := by
    unfold qy_v
    apply qs_0
    intro c _
    rw [(h0 c).2]
    cases bits <;> rfl
  have this : wY_lists_30 post (nI k) (if bits = true then 1 else 0) ywa ydd ynd yns yma ynt yno yrc yfo ybl yod ywr (40 * docs.length + 1) (nI (qy_v bits docs (qd_st k segs) (qd_st (k + 1) segs) (0 / 40) (0 % 40))) (nI 0) yan yab yac yad yal yabl yacl yacf ynu yfi ypa ysz yli ytx yki yf1 yf2 yo yoa yob yit yss ymo yst ymy ycl yrw yow yen yhi la := yg_l1 docs segs made k bits hk hd hsl hsum hdl hok hpw hm hnd post hp (40 * docs.length + 1) 0 la (by omega) (by omega) (fun c hc => by
    rw [(h0 c).1, hla c hc]
    decide)
  rw [show 0 / 40 = 0 from rfl, show 0 % 40 = 0 from rfl, hv] at this
  exact ⟨_, this⟩
theorem yg_s1 (docs : List qf_D) (segs : List Nat) (k : Nat) (hk : k < segs.length) (hd : docs.length ≤ 64) (hsl : segs.length ≤ 16) (hsum : segs.sum = docs.length) (hpos : 1 ≤ segs.getD k 0) (hdl : qy_dl docs (qd_seg segs) ytx ysz ynu yfi ypa yli) (hnum : ∀ x, x ∈ docs → x.1 < 2 ^ 30) (hnd : ynd = nI docs.length) (p1 : Int32) (post : Int32 → SY → Prop)
  (hp : ∀ x, docs[qd_st k segs]? = some x → wY_segment_36 post (nI k) p1 ywa ydd ynd yns yma ynt yno yrc yfo ybl yod ywr yan yab yac yad yal yabl yacl yacf ynu yfi ypa ysz yli ytx yki yf1 yf2 yo yoa yob yit yss ymo yst ymy ycl yrw yow yen yhi yla 1 (nI (segs.getD k 0)) (nI (ql_cl (ql_docs docs segs k))) (nI x.1) (nI docs.length)) :
  ∀ (n d : Nat), d ≤ docs.length → docs.length - d < n → wY_segment_36 post (nI k) p1 ywa ydd ynd yns yma ynt yno yrc yfo ybl yod ywr yan yab yac yad yal yabl yacl yacf ynu yfi ypa ysz yli ytx yki yf1 yf2 yo yoa yob yit yss ymo yst ymy ycl yrw yow yen yhi yla n (nI (qz_l docs (qd_st k segs) (qd_st (k + 1) segs) d).length) (nI (ql_cl (qz_l docs (qd_st k segs) (qd_st (k + 1) segs) d))) (match docs[qd_st k segs]? with
    | some x => if qd_st k segs < d then nI x.1 else -1
    | none => -1) (nI d) := by
  intro n
  subst hnd
  have hst := qd_st_s segs k
  have hle1 := qd_st_le (segs := segs) (k + 1)
  have hlt0 : qd_st k segs < docs.length := by omega
  have hg0 := List.getElem?_eq_getElem hlt0
  induction n with
  | zero => intro d h1 h2; omega
  | succ n ih =>
    intro d h1 h2
    by_cases hlt : d < docs.length
    · have hg := List.getElem?_eq_getElem hlt
      obtain ⟨a1, a2, a3, a4, a5⟩ := hdl d _ hg
      have hid : vp_in (nI d) 64 := pk_in d 64 (by omega)
      have cd : (nI d).toNatClampNeg = d := nI_clamp (by omega)
      have hsg := qd_seg_lt segs d (by omega)
      have hq := qd_seg_eq segs d k (by omega)
      have := ih (d + 1) (by omega) (by omega)
      rw [hg0] at this ⊢
      dsimp only at this ⊢
      refine br_f (nI_ge hlt (by omega)) ⟨hid, ?_⟩
      rw [cd, a4]
      refine pk_eq (qd_seg segs d) k (fun he => ?_) (fun he => ?_)
      · have hin := hq.mp he
        have hs : qz_l docs (qd_st k segs) (qd_st (k + 1) segs) (d + 1) = qz_l docs (qd_st k segs) (qd_st (k + 1) segs) d ++ [docs[d]] := by
          unfold qz_l
          have e1 : min (d + 1) (qd_st (k + 1) segs) - qd_st k segs = (d - qd_st k segs) + 1 := by omega
          have e2 : min d (qd_st (k + 1) segs) - qd_st k segs = d - qd_st k segs := by omega
          rw [e1, e2, ql_seg_s docs (qd_st k segs) (d - qd_st k segs) (by omega)]
          congr 2
          congr 1
          omega
        rw [hs, ql_cl_1, List.length_append, List.length_singleton, if_pos (show qd_st k segs < d + 1 by omega)] at this
        generalize qz_l docs (qd_st k segs) (qd_st (k + 1) segs) d = L at *
        have fin : ∀ a : Nat, a = ql_cl L + (if docs[d].2.2.1 = true then 1 else 0) → wY_segment_75 post (wY_segment_36 post (nI k) p1 ywa ydd (nI docs.length) yns yma ynt yno yrc yfo ybl yod ywr yan yab yac yad yal yabl yacl yacf ynu yfi ypa ysz yli ytx yki yf1 yf2 yo yoa yob yit yss ymo yst ymy ycl yrw yow yen yhi yla n) (nI k) p1 (nI (L.length + 1)) (nI a) (if qd_st k segs < d then nI docs[qd_st k segs].1 else -1) (nI d) ywa ydd (nI docs.length) yns yma ynt yno yrc yfo ybl yod ywr yan yab yac yad yal yabl yacl yacf ynu yfi ypa ysz yli ytx yki yf1 yf2 yo yoa yob yit yss ymo yst ymy ycl yrw yow yen yhi yla := by
          intro a ha
          rw [ha]
          by_cases z : qd_st k segs < d
          · rw [if_pos z]
            have hn := hnum _ (List.getElem_mem hlt0)
            exact br_t (nI_pos' (by omega)) (nm_r (nI_1 d) this)
          · rw [if_neg z]
            have e : qd_st k segs = d := by omega
            refine br_f (by decide) ⟨hid, nm_r (e' := nI docs[qd_st k segs].1) ?_ (nm_r (nI_1 d) this)⟩
            rw [cd, a1]
            congr 2
            congr 1
            exact e.symm
        refine nm_r (nI_1 _) ⟨hid, ?_⟩
        rw [a3]
        by_cases z : docs[d].2.2.1 = true
        · rw [if_pos z]
          exact br_f (by decide) (nm_r (nI_1 _) (fin _ (by rw [if_pos z])))
        · rw [if_neg z]
          exact br_t rfl (fin _ (by rw [if_neg z]; rfl))
      · have hs : qz_l docs (qd_st k segs) (qd_st (k + 1) segs) (d + 1) = qz_l docs (qd_st k segs) (qd_st (k + 1) segs) d := by
          have hn : ¬ (qd_st k segs ≤ d ∧ d < qd_st (k + 1) segs) := fun z => he (hq.mpr z)
          unfold qz_l
          congr 1
          omega
        have hn : ¬ (qd_st k segs ≤ d ∧ d < qd_st (k + 1) segs) := fun z => he (hq.mpr z)
        rw [hs] at this
        have e : (if qd_st k segs < d + 1 then nI docs[qd_st k segs].1 else (-1 : Int32)) = if qd_st k segs < d then nI docs[qd_st k segs].1 else -1 := by
          by_cases z : qd_st k segs < d
          · rw [if_pos z, if_pos (by omega)]
          · rw [if_neg z, if_neg (by omega)]
        rw [e] at this
        exact nm_r (nI_1 d) this
    · have e : d = docs.length := by omega
      subst e
      have hl : qz_l docs (qd_st k segs) (qd_st (k + 1) segs) docs.length = ql_docs docs segs k := by
        unfold qz_l ql_docs
        congr 1
        omega
      have hll : (ql_docs docs segs k).length = segs.getD k 0 := by
        unfold ql_docs
        rw [List.length_take, List.length_drop]
        omega
      have := hp _ hg0
      rw [hl, hll, hg0]
      dsimp only
      rw [if_pos hlt0]
      have h4 := this
      refine br_t (nI_le (Nat.le_refl _) (by omega)) ?_
      have h5 := h4.1 (nI_le (Nat.le_refl _) (by omega))
      exact h5
theorem yg_segment (now base : Nat → qf_X) (wt : List (Nat × qf_X)) (dr : List Nat) (docs : List qf_D) (segs : List Nat) (made : Nat) (hi : qf_inv now base wt dr docs segs made) (hm : made < 2 ^ 30) (hS : qy_S now base wt dr docs segs made yan yal yab yabl yac yacl yacf yad ywa ydd ynu yfi ypa ysz yli ytx ynd yns yma) (p0 p1 : Int32) (post : Int32 → SY → Prop)
  (hb : (∀ k, k < segs.length → p0 ≠ nI k) ∨ (∀ w, w < 5 → p1 ≠ nI w) → post (-1) (ywa, ydd, ynd, yns, yma, ynt, yno, yrc, yfo, ybl, yod, ywr, yan, yab, yac, yad, yal, yabl, yacl, yacf, ynu, yfi, ypa, ysz, yli, ytx, yki, yf1, yf2, yo, yoa, yob, yit, yss, ymo, yst, ymy, ycl, yrw, yow, yen, yhi, yla))
  (g0 : ∀ k, k < segs.length → p0 = nI k → p1 = 0 → post (nI (segs.getD k 0)) (ywa, ydd, ynd, yns, yma, ynt, yno, yrc, yfo, ybl, yod, ywr, yan, yab, yac, yad, yal, yabl, yacl, yacf, ynu, yfi, ypa, ysz, yli, ytx, yki, yf1, yf2, yo, yoa, yob, yit, yss, ymo, yst, ymy, ycl, yrw, yow, yen, yhi, yla))
  (g1 : ∀ k, k < segs.length → p0 = nI k → p1 = 1 → post (nI (ql_cl (ql_docs docs segs k))) (ywa, ydd, ynd, yns, yma, ynt, yno, yrc, yfo, ybl, yod, ywr, yan, yab, yac, yad, yal, yabl, yacl, yacf, ynu, yfi, ypa, ysz, yli, ytx, yki, yf1, yf2, yo, yoa, yob, yit, yss, ymo, yst, ymy, ycl, yrw, yow, yen, yhi, yla))
  (g2 : ∀ k, k < segs.length → p0 = nI k → p1 = 2 → ∀ la : Nat → Int32, post (nI (ql_lists (ql_docs docs segs k))) (ywa, ydd, ynd, yns, yma, ynt, yno, yrc, yfo, ybl, yod, ywr, yan, yab, yac, yad, yal, yabl, yacl, yacf, ynu, yfi, ypa, ysz, yli, ytx, yki, yf1, yf2, yo, yoa, yob, yit, yss, ymo, yst, ymy, ycl, yrw, yow, yen, yhi, la))
  (g3 : ∀ k, k < segs.length → p0 = nI k → p1 = 3 → ∀ la : Nat → Int32, post (nI (ql_bits (ql_docs docs segs k))) (ywa, ydd, ynd, yns, yma, ynt, yno, yrc, yfo, ybl, yod, ywr, yan, yab, yac, yad, yal, yabl, yacl, yacf, ynu, yfi, ypa, ysz, yli, ytx, yki, yf1, yf2, yo, yoa, yob, yit, yss, ymo, yst, ymy, ycl, yrw, yow, yen, yhi, la))
  (g4 : ∀ k x, k < segs.length → p0 = nI k → p1 = 4 → docs[qd_st k segs]? = some x → post (nI x.1) (ywa, ydd, ynd, yns, yma, ynt, yno, yrc, yfo, ybl, yod, ywr, yan, yab, yac, yad, yal, yabl, yacl, yacf, ynu, yfi, ypa, ysz, yli, ytx, yki, yf1, yf2, yo, yoa, yob, yit, yss, ymo, yst, ymy, ycl, yrw, yow, yen, yhi, yla)) : wpY_segment post (ywa, ydd, ynd, yns, yma, ynt, yno, yrc, yfo, ybl, yod, ywr, yan, yab, yac, yad, yal, yabl, yacl, yacf, ynu, yfi, ypa, ysz, yli, ytx, yki, yf1, yf2, yo, yoa, yob, yit, yss, ymo, yst, ymy, ycl, yrw, yow, yen, yhi, yla) p0 p1 := by
  obtain ⟨i1, i2, i3, i4, i5, i6⟩ := hi
  obtain ⟨s1, s2, s3, s5, ⟨s6, s7⟩, s8, s9⟩ := hS
  subst s9; subst s6
  have hb10 := qd_dec10 i6 i5.2.1
  have hsm := i5.1
  have hok : ∀ y, y ∈ docs → y.1 < made ∧ qf_t y.2.2.2 := fun y hy => ⟨(i5.2.2.2.1 y hy).1, (i5.2.2.2.1 y hy).2.2⟩
  unfold wpY_segment
  refine yr_inm p0 segs.length (by omega) _ rfl _ (fun z => br_t rfl (hb (Or.inl z))) (fun k hk e => br_f (by decide) ?_)
  subst e
  refine ys_in p1 0 4 (by decide) (by decide) 0 4 rfl rfl _ (fun z => br_t rfl (hb (Or.inr (fun w hw => z w (by omega) (by omega))))) (fun w _ hw e => br_f (by decide) ⟨docs.length + 1, ?_⟩)
  have hpos : 1 ≤ segs.getD k 0 := by rw [qc_gd hk]; exact (i5.2.1 _ (List.getElem_mem hk)).1
  have hst := qd_st_s segs k
  have hle1 := qd_st_le (segs := segs) (k + 1)
  have hlt0 : qd_st k segs < docs.length := by omega
  have e0 : qz_l docs (qd_st k segs) (qd_st (k + 1) segs) 0 = [] := by
    unfold qz_l
    rw [Nat.zero_min, Nat.zero_sub, List.take_zero]
  have this : wY_segment_36 post (nI k) p1 ywa ydd (nI docs.length) (nI segs.length) yma ynt yno yrc yfo ybl yod ywr yan yab yac yad yal yabl yacl yacf ynu yfi ypa ysz yli ytx yki yf1 yf2 yo yoa yob yit yss ymo yst ymy ycl yrw yow yen yhi yla (docs.length + 1) (nI (qz_l docs (qd_st k segs) (qd_st (k + 1) segs) 0).length) (nI (ql_cl (qz_l docs (qd_st k segs) (qd_st (k + 1) segs) 0))) (match docs[qd_st k segs]? with
    | some x => if qd_st k segs < 0 then nI x.1 else -1
    | none => -1) (nI 0) := by
    refine yg_s1 docs segs k hk (by omega) (by omega) i5.1 hpos s7 (fun x hx => by have := (hok x hx).1; omega) rfl p1 post ?_ (docs.length + 1) 0 (by omega) (by omega)
    intro x hx
    refine br_t (nI_le (Nat.le_refl _) (by omega)) ?_
    refine br_c (fun y => g0 k hk rfl y) (fun y0 => br_c (fun y => g1 k hk rfl y) (fun y1 => br_c (fun y => g4 k x hk rfl y hx) (fun y4 => br_c (fun y => ?_) (fun y3 => ?_))))
    · exact yg_lists docs segs made k true hk (by omega) (by omega) i5.1 s7 hok i5.2.2.1 hm rfl 1 rfl _ (fun la => g3 k hk rfl y la)
    · have y2 : p1 = 2 := by
        subst e
        have : w ≠ 0 := fun h => y0 (by rw [h]; rfl)
        have : w ≠ 1 := fun h => y1 (by rw [h]; rfl)
        have : w ≠ 3 := fun h => y3 (by rw [h]; rfl)
        have : w ≠ 4 := fun h => y4 (by rw [h]; rfl)
        have : w = 2 := by omega
        rw [this]; rfl
      exact yg_lists docs segs made k false hk (by omega) (by omega) i5.1 s7 hok i5.2.2.1 hm rfl 0 rfl _ (fun la => g2 k hk rfl y2 la)
  rw [e0, List.getElem?_eq_getElem hlt0] at this
  dsimp only at this
  rw [if_neg (by omega)] at this
  exact this
theorem yg_st1 (now : Nat → qf_X) (hno : ∀ f, f < 10 → qf_o (now f)) (hs : ∀ f, f < 10 → qx_slot yan yal f (now f)) (W : Int32 → Prop) (post : Int32 → Prop) (x1 : Int32)
  (hx : ∀ n x, wY_state_4 post x1 ywa ydd ynd yns yma ynt yno yrc yfo ybl yod ywr yan yab yac yad yal yabl yacl yacf ynu yfi ypa ysz yli ytx yki yf1 yf2 yo yoa yob yit yss ymo yst ymy ycl yrw yow yen yhi yla (n + 1) x 10 ↔ W x) (hp : W (nI (qn_th now 10))) : True := trivial
end
end
section
/-! the relation; the answers of the calls that look -/
def qk_ok (tk ta tb : Nat → Int32) (nt : Nat) : Prop := nt ≤ 16 ∧ ∀ t, t < nt → ∃ k : Nat, k < 12 ∧ tk t = nI k ∧ (k = 0 → ∃ a : Nat, a < 6 ∧ ta t = nI a) ∧ (k = 2 → ∃ a : Nat, 1 ≤ a ∧ a ≤ 63 ∧ ta t = nI a) ∧ (k = 9 → ∃ a b : Nat, a ≤ b ∧ b ≤ 3 ∧ ta t = nI a ∧ tb t = nI b)
def qR_T (xtk xta xtb yki yf1 yf2 : Nat → Int32) (xtc ynt : Int32) : Prop := ∃ nt : Nat, yki = xtk ∧ yf1 = xta ∧ yf2 = xtb ∧ xtc = nI nt ∧ ynt = nI nt ∧ qk_ok xtk xta xtb nt
def qR_H (H : List (Nat × Nat × Nat × Nat)) : Prop := H.length < 2 ^ 30 ∧ ∀ x, x ∈ H → x.1 < 10 ∧ x.2.1 ≤ 40 ∧ x.2.2.1 ≤ 40 ∧ x.2.2.2 ≤ 40
def qR_pk (x : Nat × Nat × Nat × Nat) : Nat := x.1 + 256 * x.2.1 + 65536 * x.2.2.1 + 16777216 * x.2.2.2
def qx_R (H : List (Nat × Nat × Nat × Nat)) (op : Nat → Prop) (hi : Nat → Int32) (mc : Int32) (wo : Nat → Int32) : Prop :=
  mc = nI H.length ∧ (∀ k x, k < 40 → H[k]? = some x → hi (k * 4) = nI x.1 ∧ hi (k * 4 + 1) = nI x.2.1 ∧ hi (k * 4 + 2) = nI x.2.2.1 ∧ hi (k * 4 + 3) = nI x.2.2.2) ∧ ∀ f, f < 10 → (op f → wo f = 1) ∧ (¬ op f → wo f = 0)
def qy_R (H : List (Nat × Nat × Nat × Nat)) (op : Nat → Prop) (hi : Nat → Int32) (fo od : Int32) : Prop :=
  fo = nI H.length ∧ (∀ k x, k < 40 → H[k]? = some x → hi k = nI (qR_pk x)) ∧ ∀ f, f < 10 → (bt od f = true ↔ op f)
def qR_R (xhi xwo : Nat → Int32) (xmc : Int32) (yhi : Nat → Int32) (yfo yod : Int32) : Prop := ∃ (H : List (Nat × Nat × Nat × Nat)) (op : Nat → Prop), qR_H H ∧ qx_R H op xhi xmc xwo ∧ qy_R H op yhi yfo yod
def i_Rel (k : Nat) (u : SX) (v : SY) : Prop := match u with
  | (xwc, xdc, xdm, xsc, xtc, xnc, xmc, xbr, xwt, xch, xtl, xwf, xdn, xdf, xdl, xss, xtk, xta, xtb, xnk, xna, xnb, xnl, xnr, xns, xfa, xfs, xfi, xrw, xrc, xcl, xhd, xre, xhi, xwo) => match v with
    | (ywa, ydd, ynd, yns, yma, ynt, yno, yrc, yfo, ybl, yod, ywr, yan, yab, yac, yad, yal, yabl, yacl, yacf, ynu, yfi, ypa, ysz, yli, ytx, yki, yf1, yf2, yo, yoa, yob, yit, yss, ymo, yst, ymy, ycl, yrw, yow, yen, yhi, yla) => ∃ (now base : Nat → qf_X) (wt : List (Nat × qf_X)) (dr : List Nat) (docs : List qf_D) (segs : List Nat) (made : Nat), qf_inv now base wt dr docs segs made ∧ made ≤ 2 * k ∧ qx_S now base wt dr docs segs made xch xtl xwf xwc xdn xdf xdl xdc xdm xss xsc ∧ qy_S now base wt dr docs segs made yan yal yab yabl yac yacl yacf yad ywa ydd ynu yfi ypa ysz yli ytx ynd yns yma ∧ qR_T xtk xta xtb yki yf1 yf2 xtc ynt ∧ qR_R xhi xwo xmc yhi yfo yod ∧ xbr = ybl ∧ xwt = ywr
theorem i_up {k : Nat} {u : SX} {v : SY} (h : i_Rel k u v) : i_Rel (k + 4) u v := by
  obtain ⟨xwc, xdc, xdm, xsc, xtc, xnc, xmc, xbr, xwt, xch, xtl, xwf, xdn, xdf, xdl, xss, xtk, xta, xtb, xnk, xna, xnb, xnl, xnr, xns, xfa, xfs, xfi, xrw, xrc, xcl, xhd, xre, xhi, xwo⟩ := u
  obtain ⟨ywa, ydd, ynd, yns, yma, ynt, yno, yrc, yfo, ybl, yod, ywr, yan, yab, yac, yad, yal, yabl, yacl, yacf, ynu, yfi, ypa, ysz, yli, ytx, yki, yf1, yf2, yo, yoa, yob, yit, yss, ymo, yst, ymy, ycl, yrw, yow, yen, yhi, yla⟩ := v
  obtain ⟨now, base, wt, dr, docs, segs, made, hi, hm, hX, hY, hT, hR, hb, hw⟩ := h
  exact ⟨now, base, wt, dr, docs, segs, made, hi, by omega, hX, hY, hT, hR, hb, hw⟩
theorem qa_nn {x : Int32} (h : ¬ x < 0) : x = nI x.toNatClampNeg ∧ x.toNatClampNeg < 2 ^ 31 := by
  obtain ⟨j, hj, rfl⟩ := nI_of h
  rw [nI_clamp hj]
  exact ⟨rfl, hj⟩
section
variable {xwc xdc xdm xsc xtc xnc xmc xbr xwt : Int32} {xch xtl xwf xdn xdf xdl xss xtk xta xtb xnk xna xnb xnl xnr xns xfa xfs xfi xrc xcl xhd xhi xwo : Nat → Int32} {xrw xre : Nat → Int64} {ywa ydd ynd yns yma ynt yno yrc yfo ybl yod ywr : Int32} {yan yab yac yad yal yabl yacl yacf ynu yfi ypa ysz yli ytx yki yf1 yf2 yo yoa yob yit yss ymo yst ymy ycl yrw yow yhi yla : Nat → Int32} {yen : Nat → Int64}
theorem i0_x (post : SX → Prop) (hp : ∀ tl : Nat → Int32, (∀ j, j < 91 → tl j = -1) → post (xwc, xdc, xdm, xsc, xtc, xnc, xmc, xbr, (-1), xch, upd tl 26 0, xwf, xdn, xdf, xdl, xss, xtk, xta, xtb, xnk, xna, xnb, xnl, xnr, xns, xfa, xfs, xfi, xrw, xrc, xcl, xhd, xre, xhi, xwo)) :
  ∀ (n i : Nat) (tl : Nat → Int32), i ≤ 91 → 91 - i < n → (∀ j, j < i → tl j = -1) → wX_init_219 post xwc xdc xdm xsc xtc xnc xmc xbr xwt n (nI i) xch tl xwf xdn xdf xdl xss xtk xta xtb xnk xna xnb xnl xnr xns xfa xfs xfi xrw xrc xcl xhd xre xhi xwo := by
  intro n
  induction n with
  | zero => intro i tl h1 h2; omega
  | succ n ih =>
    intro i tl h1 h2 h3
    refine pk_le 91 i (fun hle => nm_e (hp tl (fun j hj => h3 j (by omega)))) (fun hlt => ⟨pk_in i 91 hlt, nm_e (nm_r (nI_1 i) ?_)⟩)
    rw [nI_clamp (by omega)]
    refine ih (i + 1) _ (by omega) (by omega) (fun j hj => ?_)
    by_cases z : j = i
    · subst z; exact pk_us
    · exact (pk_un z).trans (h3 j (by omega))
theorem i0_y (post : SY → Prop) (hp : ∀ al abl : Nat → Int32, (∀ j, j < 10 → al j = -1 ∧ abl j = -1) → post (ywa, ydd, ynd, yns, yma, ynt, yno, yrc, yfo, ybl, yod, ywr, yan, yab, yac, yad, al, abl, yacl, yacf, ynu, yfi, ypa, ysz, yli, ytx, yki, yf1, yf2, yo, yoa, yob, yit, yss, ymo, yst, ymy, ycl, yrw, yow, yen, yhi, yla)) :
  ∀ (n i : Nat) (al abl : Nat → Int32), i ≤ 10 → 10 - i < n → (∀ j, j < i → al j = -1 ∧ abl j = -1) → wY_init_267 post ywa ydd ynd yns yma ynt yno yrc yfo ybl yod ywr n (nI i) yan yab yac yad al abl yacl yacf ynu yfi ypa ysz yli ytx yki yf1 yf2 yo yoa yob yit yss ymo yst ymy ycl yrw yow yen yhi yla := by
  intro n
  induction n with
  | zero => intro i al abl h1 h2; omega
  | succ n ih =>
    intro i al abl h1 h2 h3
    refine pk_le 10 i (fun hle => hp al abl (fun j hj => h3 j (by omega))) (fun hlt => ⟨pk_in i 10 hlt, nm_e ⟨pk_in i 10 hlt, nm_e (nm_r (nI_1 i) ?_)⟩⟩)
    rw [nI_clamp (by omega)]
    refine ih (i + 1) _ _ (by omega) (by omega) (fun j hj => ?_)
    by_cases z : j = i
    · subst z; exact ⟨pk_us, pk_us⟩
    · exact ⟨(pk_un z).trans (h3 j (by omega)).1, (pk_un z).trans (h3 j (by omega)).2⟩
end
theorem i_vc0 : wpX_init (fun u => wpY_init (fun v => i_Rel 0 u v)) := by
  refine ⟨92, i0_x _ ?_ 92 0 (fun _ => 0) (by omega) (by omega) (fun j hj => absurd hj (by omega))⟩
  intro tl htl
  refine ⟨11, i0_y _ ?_ 11 0 (fun _ => 0) (fun _ => 0) (by omega) (by omega) (fun j hj => absurd hj (by omega))⟩
  intro al abl h
  refine ⟨fun _ => none, fun _ => none, [], [], [], [], 0, ⟨fun f _ => rfl, fun f _ => qf_o_none, ⟨by simp, (fun c hc => nomatch hc)⟩, ⟨by simp, (fun x hx => nomatch hx)⟩, ⟨rfl, (fun s hs => nomatch hs), List.Pairwise.nil, (fun x hx => nomatch hx), List.Pairwise.nil⟩, List.Pairwise.nil⟩, by omega, ?_, ?_, ?_, ?_, rfl, rfl⟩
  · refine ⟨fun f hf => ?_, fun f hf => ?_, ⟨rfl, (fun k c hc => nomatch hc)⟩, ⟨pk_us, fun i hi => absurd hi (by simp)⟩, ⟨rfl, (fun d x hx => nomatch hx)⟩, rfl, rfl, (fun k s hk => nomatch hk)⟩
    · exact (pk_un (by omega)).trans (htl f (by omega))
    · exact (pk_un (by omega)).trans (htl _ (by omega))
  · exact ⟨fun f hf => (h f hf).1, fun f hf => (h f hf).2, ⟨rfl, (fun k c hc => nomatch hc)⟩, ⟨rfl, fun i hi => absurd hi (by simp)⟩, ⟨rfl, (fun d x hx => nomatch hx)⟩, rfl, rfl⟩
  · exact ⟨0, rfl, rfl, rfl, rfl, rfl, by omega, fun t ht => absurd ht (by omega)⟩
  · refine ⟨[], fun _ => False, ⟨by simp, (fun x hx => nomatch hx)⟩, ⟨rfl, (fun k x _ hx => nomatch hx), fun f _ => ⟨fun h => h.elim, fun _ => rfl⟩⟩, ⟨rfl, (fun k x _ hx => nomatch hx), fun f _ => ?_⟩⟩
    rw [b_0]
    exact ⟨fun z => (nomatch z), fun z => z.elim⟩
end
section
/-! the calls, but for the search -/
theorem i_vc_type {k : Nat} {u : SX} {v : SY} (I : i_Rel k u v) (hk : k + 4 ≤ 2048) (v1 : Int32) : wpX_type (fun r u' => wpY_type (fun r' v' => r' = r ∧ i_Rel (k + 4) u' v') v v1) u v1 := by
  obtain ⟨xwc, xdc, xdm, xsc, xtc, xnc, xmc, xbr, xwt, xch, xtl, xwf, xdn, xdf, xdl, xss, xtk, xta, xtb, xnk, xna, xnb, xnl, xnr, xns, xfa, xfs, xfi, xrw, xrc, xcl, xhd, xre, xhi, xwo⟩ := u
  obtain ⟨ywa, ydd, ynd, yns, yma, ynt, yno, yrc, yfo, ybl, yod, ywr, yan, yab, yac, yad, yal, yabl, yacl, yacf, ynu, yfi, ypa, ysz, yli, ytx, yki, yf1, yf2, yo, yoa, yob, yit, yss, ymo, yst, ymy, ycl, yrw, yow, yen, yhi, yla⟩ := v
  obtain ⟨now, base, wt, dr, docs, segs, made, hi, hm, hX, hY, hT, hR, hb, hw⟩ := I
  have same : ∀ r : Int32, r = r ∧ i_Rel (k + 4) (xwc, xdc, xdm, xsc, xtc, xnc, xmc, xbr, xwt, xch, xtl, xwf, xdn, xdf, xdl, xss, xtk, xta, xtb, xnk, xna, xnb, xnl, xnr, xns, xfa, xfs, xfi, xrw, xrc, xcl, xhd, xre, xhi, xwo) (ywa, ydd, ynd, yns, yma, ynt, yno, yrc, yfo, ybl, yod, ywr, yan, yab, yac, yad, yal, yabl, yacl, yacf, ynu, yfi, ypa, ysz, yli, ytx, yki, yf1, yf2, yo, yoa, yob, yit, yss, ymo, yst, ymy, ycl, yrw, yow, yen, yhi, yla) := fun r => ⟨rfl, now, base, wt, dr, docs, segs, made, hi, by omega, hX, hY, hT, hR, hb, hw⟩
  have hL := hi.2.2.2.1.1
  have e26 : xtl 26 = nI dr.length := hX.2.2.2.1.1
  have edd : ydd = nI dr.length := hY.2.2.2.1.1
  unfold wpX_type
  refine nm_r e26 ?_
  have bad : (∀ j, j ≤ 6 → v1 ≠ nI j) → wpY_type (fun r' v' => r' = -1 ∧ i_Rel (k + 4) (xwc, xdc, xdm, xsc, xtc, xnc, xmc, xbr, xwt, xch, xtl, xwf, xdn, xdf, xdl, xss, xtk, xta, xtb, xnk, xna, xnb, xnl, xnr, xns, xfa, xfs, xfi, xrw, xrc, xcl, xhd, xre, xhi, xwo) v') (ywa, ydd, ynd, yns, yma, ynt, yno, yrc, yfo, ybl, yod, ywr, yan, yab, yac, yad, yal, yabl, yacl, yacf, ynu, yfi, ypa, ysz, yli, ytx, yki, yf1, yf2, yo, yoa, yob, yit, yss, ymo, yst, ymy, ycl, yrw, yow, yen, yhi, yla) v1 := by
    intro z
    unfold wpY_type
    exact ys_in v1 0 6 (by decide) (by decide) 0 6 rfl rfl _ (fun _ => br_t rfl (same (-1))) (fun j _ hj e => absurd e (z j hj))
  rcases pk_ix v1 (n := 7) (by decide) with z | z | ⟨c, hc, rfl⟩
  · exact br_t z (bad (fun j hj e => by rw [e] at z; exact nI_pos (by omega) z))
  · have hbad := bad (fun j hj e => by rw [e, nI_leI (by omega) (by omega)] at z; omega)
    exact br_c (fun _ => hbad) (fun _ => br_t z hbad)
  · refine br_f (nI_pos (by omega)) (br_f (nI_ge (b := 7) hc (by decide)) (pk_lt dr.length 40 (fun hlt => ?_) (fun hle => ?_)))
    · have e1 : (1040 : Int32) + nI dr.length = nI (26 * 40 + dr.length) := nI_add 1040 dr.length
      refine ⟨pk_in (26 * 40 + dr.length) 3640 (by omega) e1, nm_e (nm_e ?_)⟩
      rw [e1, nI_clamp (by omega)]
      unfold wpY_type
      refine ys_in (nI c) 0 6 (by decide) (by decide) 0 6 rfl rfl _ (fun z => absurd rfl (z c (by omega) (by omega))) (fun j _ _ _ => br_f (by decide) ?_)
      subst edd
      refine pk_eq dr.length 40 (fun h => absurd h (by omega)) (fun _ => nm_r (nI_1 _) ⟨pk_in dr.length 40 hlt, nm_e ⟨(nI_1 _).symm, ?_⟩⟩)
      rw [nI_clamp (by omega), nI_1]
      have ec : vp_nar .byte ((nI c).toInt8.toInt32) = nI c := by
        rw [show (nI c).toInt8.toInt32 = nI c from (by decide +kernel : ∀ c, c < 7 → (nI c).toInt8.toInt32 = nI c) c hc]
        exact ys_nar hc
      rw [ec]
      have hget : ∀ i, i < (dr ++ [c]).length → (dr ++ [c]).getD i 0 = if i < dr.length then dr.getD i 0 else c := by
        intro i hi'
        rw [List.length_append, List.length_singleton] at hi'
        by_cases z : i < dr.length
        · rw [if_pos z, List.getD_eq_getElem?_getD, List.getElem?_append_left z, ← List.getD_eq_getElem?_getD]
        · have e : i = dr.length := by omega
          subst e
          rw [if_neg z, List.getD_eq_getElem?_getD, List.getElem?_append_right (Nat.le_refl _), Nat.sub_self]
          rfl
      have hl1 : (dr ++ [c]).length = dr.length + 1 := by rw [List.length_append]; rfl
      have hkp : ∀ s o', s ≠ 26 → qf_o o' → qx_slot xch xtl s o' → qx_slot (upd xch (26 * 40 + dr.length) (nI c)) (upd xtl 26 (nI (dr.length + 1))) s o' := by
        intro s o' hs ho h
        match o', ho, h with
        | none, _, h => exact (pk_un hs).trans h
        | some t, ho, h =>
          have hlt' := (ho t rfl).1
          exact ⟨(pk_un hs).trans h.1, fun i hi' => (pk_un (by omega)).trans (h.2 i hi')⟩
      have hno := qf_now_o hi
      obtain ⟨i1, i2, i3, i4, i5, i6⟩ := hi
      obtain ⟨s1, s2, ⟨s3, s4⟩, s5, ⟨s6, s7⟩, s8, s9⟩ := hX
      obtain ⟨t1, t2, t3, t4, t5⟩ := hY
      refine ⟨now, base, wt, dr ++ [c], docs, segs, made, ⟨i1, i2, i3, ⟨by omega, ?_⟩, i5, i6⟩, by omega, ⟨fun f hf => hkp _ _ (by omega) (hno f hf) (s1 f hf), fun f hf => hkp _ _ (by omega) (i2 f hf) (s2 f hf), ⟨s3, fun k' c' hc' => ⟨(s4 k' c' hc').1, ?_⟩⟩, ⟨?_, ?_⟩, ⟨s6, fun d x hx => ?_⟩, s8, s9⟩, ⟨t1, t2, t3, ⟨by rw [hl1], ?_⟩, t5⟩, hT, hR, hb, hw⟩
      · intro x hx
        rcases List.mem_append.mp hx with y | y
        · exact i4.2 x y
        · rw [List.mem_singleton] at y; omega
      · have := qr_get_lt hc'
        exact hkp _ _ (by omega) (i3.2 c' (qr_get_in hc')).2 (s4 k' c' hc').2
      · rw [hl1]; exact pk_us
      · intro i hi'
        rw [hget i hi']
        by_cases z : i < dr.length
        · rw [if_pos z]; exact (pk_un (by omega)).trans (s5.2 i z)
        · rw [if_neg z]
          have e : i = dr.length := by omega
          subst e
          exact pk_us
      · obtain ⟨a1, a2, a3, a4⟩ := s7 d x hx
        exact ⟨a1, a2, a3, hkp _ _ (by omega) (qf_o_some (i5.2.2.2.1 x (qr_get_in hx)).2.2) a4⟩
      · intro i hi'
        rw [hget i hi']
        by_cases z : i < dr.length
        · rw [if_pos z]; exact (pk_un (by omega)).trans (t4.2 i z)
        · rw [if_neg z]
          have e : i = dr.length := by omega
          subst e
          exact pk_us
    · unfold wpY_type
      subst edd
      exact ys_in (nI c) 0 6 (by decide) (by decide) 0 6 rfl rfl _ (fun _ => br_t rfl (same (-1))) (fun j _ _ _ => br_f (by decide) (pk_eq dr.length 40 (fun _ => same (-1)) (fun h => absurd (show dr.length = 40 by omega) h)))
theorem i_vc_keep {k : Nat} {u : SX} {v : SY} (I : i_Rel k u v) (hk : k + 4 ≤ 2048) (v1 : Int32) : wpX_keep (fun r u' => wpY_keep (fun r' v' => r' = r ∧ i_Rel (k + 4) u' v') v v1) u v1 := by
  obtain ⟨xwc, xdc, xdm, xsc, xtc, xnc, xmc, xbr, xwt, xch, xtl, xwf, xdn, xdf, xdl, xss, xtk, xta, xtb, xnk, xna, xnb, xnl, xnr, xns, xfa, xfs, xfi, xrw, xrc, xcl, xhd, xre, xhi, xwo⟩ := u
  obtain ⟨ywa, ydd, ynd, yns, yma, ynt, yno, yrc, yfo, ybl, yod, ywr, yan, yab, yac, yad, yal, yabl, yacl, yacf, ynu, yfi, ypa, ysz, yli, ytx, yki, yf1, yf2, yo, yoa, yob, yit, yss, ymo, yst, ymy, ycl, yrw, yow, yen, yhi, yla⟩ := v
  obtain ⟨now, base, wt, dr, docs, segs, made, hi, hm, hX, hY, hT, hR, hb, hw⟩ := I
  have hr := qf_inv_room hi
  have bad : (v1 < 0 ∨ 10 ≤ v1) → wpX_keep (fun r u' => wpY_keep (fun r' v' => r' = r ∧ i_Rel (k + 4) u' v') (ywa, ydd, ynd, yns, yma, ynt, yno, yrc, yfo, ybl, yod, ywr, yan, yab, yac, yad, yal, yabl, yacl, yacf, ynu, yfi, ypa, ysz, yli, ytx, yki, yf1, yf2, yo, yoa, yob, yit, yss, ymo, yst, ymy, ycl, yrw, yow, yen, yhi, yla) v1) (xwc, xdc, xdm, xsc, xtc, xnc, xmc, xbr, xwt, xch, xtl, xwf, xdn, xdf, xdl, xss, xtk, xta, xtb, xnk, xna, xnb, xnl, xnr, xns, xfa, xfs, xfi, xrw, xrc, xcl, xhd, xre, xhi, xwo) v1 := by
    intro z
    unfold wpX_keep
    refine xs_isFile0 v1 z _ (br_t rfl ?_)
    unfold wpY_keep
    refine ys_fileC v1 _ (fun _ => br_t rfl ⟨rfl, now, base, wt, dr, docs, segs, made, hi, by omega, hX, hY, hT, hR, hb, hw⟩) (fun f hf e => ?_)
    subst e
    rcases z with z | z
    · exact absurd z (nI_pos (by omega))
    · exact absurd z (nI_ge (b := 10) hf (by decide))
  rcases pk_ix v1 (n := 10) (by decide) with z | z | ⟨f, hf, rfl⟩
  · exact bad (Or.inl z)
  · exact bad (Or.inr z)
  · refine xs_keep now base wt dr docs segs made hi hX f hf _ (fun ch tl wf dn df dl ss wc dc dm sc hS => ?_)
    refine ys_keep now base wt dr docs segs made hi hY f hf _ (fun an al ab abl ac acl acf nu fi pa sz li tx wa dd nd ns ma hS' => ⟨rfl, _, _, _, _, _, _, _, qf_inv_add (dr' := []) hr.1 hr.2.1 hf (qf_o_some hi.2.2.2.1) ⟨by simp, (fun x hx => nomatch hx)⟩, by have := hr.2.2; omega, hS, hS', hT, hR, hb, hw⟩)
theorem i_vc_remove {k : Nat} {u : SX} {v : SY} (I : i_Rel k u v) (hk : k + 4 ≤ 2048) (v1 : Int32) : wpX_remove (fun r u' => wpY_remove (fun r' v' => r' = r ∧ i_Rel (k + 4) u' v') v v1) u v1 := by
  obtain ⟨xwc, xdc, xdm, xsc, xtc, xnc, xmc, xbr, xwt, xch, xtl, xwf, xdn, xdf, xdl, xss, xtk, xta, xtb, xnk, xna, xnb, xnl, xnr, xns, xfa, xfs, xfi, xrw, xrc, xcl, xhd, xre, xhi, xwo⟩ := u
  obtain ⟨ywa, ydd, ynd, yns, yma, ynt, yno, yrc, yfo, ybl, yod, ywr, yan, yab, yac, yad, yal, yabl, yacl, yacf, ynu, yfi, ypa, ysz, yli, ytx, yki, yf1, yf2, yo, yoa, yob, yit, yss, ymo, yst, ymy, ycl, yrw, yow, yen, yhi, yla⟩ := v
  obtain ⟨now, base, wt, dr, docs, segs, made, hi, hm, hX, hY, hT, hR, hb, hw⟩ := I
  have hr := qf_inv_room hi
  have same : ∀ r : Int32, r = r ∧ i_Rel (k + 4) (xwc, xdc, xdm, xsc, xtc, xnc, xmc, xbr, xwt, xch, xtl, xwf, xdn, xdf, xdl, xss, xtk, xta, xtb, xnk, xna, xnb, xnl, xnr, xns, xfa, xfs, xfi, xrw, xrc, xcl, xhd, xre, xhi, xwo) (ywa, ydd, ynd, yns, yma, ynt, yno, yrc, yfo, ybl, yod, ywr, yan, yab, yac, yad, yal, yabl, yacl, yacf, ynu, yfi, ypa, ysz, yli, ytx, yki, yf1, yf2, yo, yoa, yob, yit, yss, ymo, yst, ymy, ycl, yrw, yow, yen, yhi, yla) := fun r => ⟨rfl, now, base, wt, dr, docs, segs, made, hi, by omega, hX, hY, hT, hR, hb, hw⟩
  have bad : (v1 < 0 ∨ 10 ≤ v1) → wpX_remove (fun r u' => wpY_remove (fun r' v' => r' = r ∧ i_Rel (k + 4) u' v') (ywa, ydd, ynd, yns, yma, ynt, yno, yrc, yfo, ybl, yod, ywr, yan, yab, yac, yad, yal, yabl, yacl, yacf, ynu, yfi, ypa, ysz, yli, ytx, yki, yf1, yf2, yo, yoa, yob, yit, yss, ymo, yst, ymy, ycl, yrw, yow, yen, yhi, yla) v1) (xwc, xdc, xdm, xsc, xtc, xnc, xmc, xbr, xwt, xch, xtl, xwf, xdn, xdf, xdl, xss, xtk, xta, xtb, xnk, xna, xnb, xnl, xnr, xns, xfa, xfs, xfi, xrw, xrc, xcl, xhd, xre, xhi, xwo) v1 := by
    intro z
    unfold wpX_remove wpX_isThere
    refine xs_isFile0 v1 z _ (br_t rfl (br_t rfl ?_))
    unfold wpY_remove wpY_isThere
    refine ys_fileC v1 _ (fun _ => br_t rfl (br_t rfl (same (-1)))) (fun f hf e => ?_)
    subst e
    rcases z with z | z
    · exact absurd z (nI_pos (by omega))
    · exact absurd z (nI_ge (b := 10) hf (by decide))
  rcases pk_ix v1 (n := 10) (by decide) with z | z | ⟨f, hf, rfl⟩
  · exact bad (Or.inl z)
  · exact bad (Or.inr z)
  · refine xs_remove now base wt dr docs segs made hi hX f hf _ (fun e => ?_) (fun t et ch tl wf dn df dl ss wc dc dm sc hS => ?_)
    · exact ys_remove now base wt dr docs segs made hi hY f hf _ (fun _ => same (-1)) (fun t et => by rw [e] at et; exact nomatch et)
    · refine ys_remove now base wt dr docs segs made hi hY f hf _ (fun e => by rw [e] at et; exact nomatch et) (fun t' et' an al ab abl acl acf nu fi pa sz li tx wa nd ns ma hS' => ⟨rfl, _, _, _, _, _, _, _, qf_inv_add hr.1 hr.2.1 hf qf_o_none hi.2.2.2.1, by have := hr.2.2; omega, hS, hS', hT, hR, hb, hw⟩)
theorem i_vc_sync {k : Nat} {u : SX} {v : SY} (I : i_Rel k u v) (hk : k + 4 ≤ 2048) : wpX_sync (fun r u' => wpY_sync (fun r' v' => r' = r ∧ i_Rel (k + 4) u' v') v) u := by
  obtain ⟨xwc, xdc, xdm, xsc, xtc, xnc, xmc, xbr, xwt, xch, xtl, xwf, xdn, xdf, xdl, xss, xtk, xta, xtb, xnk, xna, xnb, xnl, xnr, xns, xfa, xfs, xfi, xrw, xrc, xcl, xhd, xre, xhi, xwo⟩ := u
  obtain ⟨ywa, ydd, ynd, yns, yma, ynt, yno, yrc, yfo, ybl, yod, ywr, yan, yab, yac, yad, yal, yabl, yacl, yacf, ynu, yfi, ypa, ysz, yli, ytx, yki, yf1, yf2, yo, yoa, yob, yit, yss, ymo, yst, ymy, ycl, yrw, yow, yen, yhi, yla⟩ := v
  obtain ⟨now, base, wt, dr, docs, segs, made, hi, hm, hX, hY, hT, hR, hb, hw⟩ := I
  have hs := qf_inv_sync hi
  unfold wpX_sync
  refine xs_sync now base wt dr docs segs made hi hX _ (fun ch tl dn df dl ss wc dc dm sc hS => ?_)
  refine ys_sync now base wt dr docs segs made hi hY _ (fun ab abl nu fi pa sz li tx wa nd ns ma hS' => ⟨?_, now, now, [], dr, _, _, _, hs.1, by have := hs.2; omega, hS, hS', hT, hR, hb, hw⟩)
  rw [hS'.2.2.2.2.2.2, hS.2.2.2.2.2.2.1]
theorem i_vc_crash {k : Nat} {u : SX} {v : SY} (I : i_Rel k u v) (hk : k + 4 ≤ 2048) (v1 : Int32) : wpX_crash (fun r u' => wpY_crash (fun r' v' => r' = r ∧ i_Rel (k + 4) u' v') v v1) u v1 := by
  obtain ⟨xwc, xdc, xdm, xsc, xtc, xnc, xmc, xbr, xwt, xch, xtl, xwf, xdn, xdf, xdl, xss, xtk, xta, xtb, xnk, xna, xnb, xnl, xnr, xns, xfa, xfs, xfi, xrw, xrc, xcl, xhd, xre, xhi, xwo⟩ := u
  obtain ⟨ywa, ydd, ynd, yns, yma, ynt, yno, yrc, yfo, ybl, yod, ywr, yan, yab, yac, yad, yal, yabl, yacl, yacf, ynu, yfi, ypa, ysz, yli, ytx, yki, yf1, yf2, yo, yoa, yob, yit, yss, ymo, yst, ymy, ycl, yrw, yow, yen, yhi, yla⟩ := v
  obtain ⟨now, base, wt, dr, docs, segs, made, hi, hm, hX, hY, hT, hR, hb, hw⟩ := I
  by_cases z : v1 < 0
  · have z' : ¬ 0 ≤ v1 := Int32.not_le.mpr z
    exact br_f z' (br_f z' ⟨rfl, now, base, wt, dr, docs, segs, made, hi, by omega, hX, hY, hT, hR, hb, hw⟩)
  · obtain ⟨j, hj, rfl⟩ := nI_of z
    refine xs_crash now base wt dr docs segs made hi hX j hj _ (fun ch tl wc hS => ?_)
    refine ys_crash now base wt dr docs segs made hi hY j hj _ (fun an al wa hS' => ⟨rfl, _, base, _, dr, docs, segs, made, ?_, by omega, hS, hS', hT, hR, hb, hw⟩)
    obtain ⟨i1, i2, i3, i4, i5, i6⟩ := hi
    exact ⟨fun f _ => rfl, i2, ⟨by rw [List.length_take]; omega, fun c hc => i3.2 c (List.mem_of_mem_take hc)⟩, i4, i5, i6⟩
theorem i_vc_settle {k : Nat} {u : SX} {v : SY} (I : i_Rel k u v) (hk : k + 4 ≤ 2048) : wpX_settle (fun r u' => wpY_settle (fun r' v' => r' = r ∧ i_Rel (k + 4) u' v') v) u := by
  obtain ⟨xwc, xdc, xdm, xsc, xtc, xnc, xmc, xbr, xwt, xch, xtl, xwf, xdn, xdf, xdl, xss, xtk, xta, xtb, xnk, xna, xnb, xnl, xnr, xns, xfa, xfs, xfi, xrw, xrc, xcl, xhd, xre, xhi, xwo⟩ := u
  obtain ⟨ywa, ydd, ynd, yns, yma, ynt, yno, yrc, yfo, ybl, yod, ywr, yan, yab, yac, yad, yal, yabl, yacl, yacf, ynu, yfi, ypa, ysz, yli, ytx, yki, yf1, yf2, yo, yoa, yob, yit, yss, ymo, yst, ymy, ycl, yrw, yow, yen, yhi, yla⟩ := v
  obtain ⟨now, base, wt, dr, docs, segs, made, hi, hm, hX, hY, hT, hR, hb, hw⟩ := I
  have hs := qf_inv_sync hi
  refine xs_settle now base wt dr docs segs made hi hX _ (fun ch tl dn df dl ss wc dc dm sc hS => ?_)
  refine ys_settle now base wt dr docs segs made hi hY _ (fun ab abl nu fi pa sz li tx wa nd ns ma hS' => ⟨rfl, now, now, [], dr, _, _, _, ?_, by have := hs.2; omega, hS, hS', hT, hR, hb, hw⟩)
  obtain ⟨i1, i2, i3, i4, i5, i6⟩ := hs.1
  refine ⟨i1, i2, i3, i4, qd_ga_ok i5 0, ?_⟩
  unfold qd_gs
  rw [List.take_zero, List.nil_append]
  split
  · exact List.Pairwise.nil
  · exact List.pairwise_singleton _ _
end
section
/-! the calls that look; tokens -/
def qa_file (now : Nat → qf_X) (docs : List qf_D) (p0 p1 : Int32) : Int32 := if p0 < 0 ∨ 10 ≤ p0 then -1 else if p1 = 3 then ql_v p0.toNatClampNeg docs else match now p0.toNatClampNeg with
  | none => -1
  | some t => if p1 = 0 then nI t.length else if p1 = 1 then nI (qn_6 t t.length) else if p1 = 2 then nI (qt_cnt t) else -1
theorem qa_file_b {now : Nat → qf_X} {docs : List qf_D} {p0 p1 : Int32} (h : p0 < 0 ∨ 10 ≤ p0) : qa_file now docs p0 p1 = -1 := if_pos h
theorem qa_in {f : Nat} (hf : f < 10) : ¬ (nI f < 0 ∨ 10 ≤ nI f) := by
  rintro (z | z)
  · exact nI_pos (by omega) z
  · exact nI_ge (b := 10) hf (by decide) z
theorem qa_file_3 {now : Nat → qf_X} {docs : List qf_D} {f : Nat} (hf : f < 10) : qa_file now docs (nI f) 3 = ql_v f docs := by
  unfold qa_file
  rw [if_neg (qa_in hf), if_pos rfl, nI_clamp (by omega)]
theorem qa_file_t {now : Nat → qf_X} {docs : List qf_D} {f : Nat} {p1 : Int32} (hf : f < 10) (h3 : ¬ p1 = 3) : qa_file now docs (nI f) p1 = match now f with
  | none => -1
  | some t => if p1 = 0 then nI t.length else if p1 = 1 then nI (qn_6 t t.length) else if p1 = 2 then nI (qt_cnt t) else -1 := by
  unfold qa_file
  rw [if_neg (qa_in hf), if_neg h3, nI_clamp (by omega)]
theorem i_vc_file {k : Nat} {u : SX} {v : SY} (I : i_Rel k u v) (hk : k + 4 ≤ 2048) (v1 : Int32) (v2 : Int32) : wpX_file (fun r u' => wpY_file (fun r' v' => r' = r ∧ i_Rel (k + 4) u' v') v v1 v2) u v1 v2 := by
  obtain ⟨xwc, xdc, xdm, xsc, xtc, xnc, xmc, xbr, xwt, xch, xtl, xwf, xdn, xdf, xdl, xss, xtk, xta, xtb, xnk, xna, xnb, xnl, xnr, xns, xfa, xfs, xfi, xrw, xrc, xcl, xhd, xre, xhi, xwo⟩ := u
  obtain ⟨ywa, ydd, ynd, yns, yma, ynt, yno, yrc, yfo, ybl, yod, ywr, yan, yab, yac, yad, yal, yabl, yacl, yacf, ynu, yfi, ypa, ysz, yli, ytx, yki, yf1, yf2, yo, yoa, yob, yit, yss, ymo, yst, ymy, ycl, yrw, yow, yen, yhi, yla⟩ := v
  obtain ⟨now, base, wt, dr, docs, segs, made, hi, hm, hX, hY, hT, hR, hb, hw⟩ := I
  have key : ∀ hd : Nat → Int32, wpY_file (fun r' v' => r' = qa_file now docs v1 v2 ∧ i_Rel (k + 4) (xwc, xdc, xdm, xsc, xtc, xnc, xmc, xbr, xwt, xch, xtl, xwf, xdn, xdf, xdl, xss, xtk, xta, xtb, xnk, xna, xnb, xnl, xnr, xns, xfa, xfs, xfi, xrw, xrc, xcl, hd, xre, xhi, xwo) v') (ywa, ydd, ynd, yns, yma, ynt, yno, yrc, yfo, ybl, yod, ywr, yan, yab, yac, yad, yal, yabl, yacl, yacf, ynu, yfi, ypa, ysz, yli, ytx, yki, yf1, yf2, yo, yoa, yob, yit, yss, ymo, yst, ymy, ycl, yrw, yow, yen, yhi, yla) v1 v2 := by
    intro hd
    have fin : ∀ (r : Int32) (la : Nat → Int32), r = qa_file now docs v1 v2 → r = qa_file now docs v1 v2 ∧ i_Rel (k + 4) (xwc, xdc, xdm, xsc, xtc, xnc, xmc, xbr, xwt, xch, xtl, xwf, xdn, xdf, xdl, xss, xtk, xta, xtb, xnk, xna, xnb, xnl, xnr, xns, xfa, xfs, xfi, xrw, xrc, xcl, hd, xre, xhi, xwo) (ywa, ydd, ynd, yns, yma, ynt, yno, yrc, yfo, ybl, yod, ywr, yan, yab, yac, yad, yal, yabl, yacl, yacf, ynu, yfi, ypa, ysz, yli, ytx, yki, yf1, yf2, yo, yoa, yob, yit, yss, ymo, yst, ymy, ycl, yrw, yow, yen, yhi, la) := fun r la e => ⟨e, now, base, wt, dr, docs, segs, made, hi, by omega, hX, hY, hT, hR, hb, hw⟩
    refine yl_file now base wt dr docs segs made hi hY v1 v2 _ (fun z => fin _ yla (qa_file_b z).symm) (fun f hf e0 e1 => fin _ yla ?_) (fun f hf e0 n3 e2 => fin _ yla ?_) (fun f t hf e0 et n0 n1 n2 n3 => fin _ yla ?_) (fun f t hf e0 et e1 => fin _ yla ?_) (fun f t hf e0 et e1 la => fin _ la ?_) (fun f t hf e0 et e1 la => fin _ la ?_)
    · rw [e0, e1, qa_file_3 hf]
    · rw [e0, qa_file_t hf n3, e2]
    · rw [e0, qa_file_t hf n3, et]
      dsimp only
      rw [if_neg n0, if_neg n1, if_neg n2]
    · rw [e0, e1, qa_file_t hf (by decide), et]
      rfl
    · rw [e0, e1, qa_file_t hf (by decide), et]
      rfl
    · rw [e0, e1, qa_file_t hf (by decide), et]
      rfl
  have fx : ∀ (r : Int32) (hd : Nat → Int32), r = qa_file now docs v1 v2 → wpY_file (fun r' v' => r' = r ∧ i_Rel (k + 4) (xwc, xdc, xdm, xsc, xtc, xnc, xmc, xbr, xwt, xch, xtl, xwf, xdn, xdf, xdl, xss, xtk, xta, xtb, xnk, xna, xnb, xnl, xnr, xns, xfa, xfs, xfi, xrw, xrc, xcl, hd, xre, xhi, xwo) v') (ywa, ydd, ynd, yns, yma, ynt, yno, yrc, yfo, ybl, yod, ywr, yan, yab, yac, yad, yal, yabl, yacl, yacf, ynu, yfi, ypa, ysz, yli, ytx, yki, yf1, yf2, yo, yoa, yob, yit, yss, ymo, yst, ymy, ycl, yrw, yow, yen, yhi, yla) v1 v2 := fun r hd e => by rw [e]; exact key hd
  refine xl_file now base wt dr docs segs made hi hX v1 v2 _ (fun z => fx _ xhd (qa_file_b z).symm) (fun f hf e0 e1 => fx _ xhd ?_) (fun f hf e0 n3 e2 => fx _ xhd ?_) (fun f t hf e0 et n0 n1 n2 n3 => fx _ xhd ?_) (fun f t hf e0 et e1 => fx _ xhd ?_) (fun f t hf e0 et e1 => fx _ xhd ?_) (fun f t hf e0 et e1 hd => fx _ hd ?_)
  · rw [e0, e1, qa_file_3 hf]
  · rw [e0, qa_file_t hf n3, e2]
  · rw [e0, qa_file_t hf n3, et]
    dsimp only
    rw [if_neg n0, if_neg n1, if_neg n2]
  · rw [e0, e1, qa_file_t hf (by decide), et]
    rfl
  · rw [e0, e1, qa_file_t hf (by decide), et]
    rfl
  · rw [e0, e1, qa_file_t hf (by decide), et]
    rfl
/-! at -/
def qa_at (now : Nat → qf_X) (p0 p1 : Int32) : Int32 := if p0 < 0 ∨ 10 ≤ p0 ∨ p1 < 0 then -1 else match now p0.toNatClampNeg with
  | none => -1
  | some t => if p1.toNatClampNeg < t.length then nI (t.getD p1.toNatClampNeg 0) else -1
theorem qa_at_g {now : Nat → qf_X} (hno : ∀ f, f < 10 → qf_o (now f)) {f i : Nat} {t : List Nat} (hf : f < 10) (et : now f = some t) (hi : i < t.length) : qa_at now (nI f) (nI i) = nI (t.getD i 0) := by
  have hL := (hno f hf t et).1
  unfold qa_at
  rw [if_neg, nI_clamp (by omega), nI_clamp (by omega), et]
  · dsimp only
    rw [if_pos hi]
  · rintro (z | z | z)
    · exact nI_pos (by omega) z
    · exact nI_ge (b := 10) hf (by decide) z
    · exact nI_pos (by omega) z
theorem qa_at_b {now : Nat → qf_X} {p0 p1 : Int32} (h : ∀ f t i, f < 10 → now f = some t → i < t.length → p0 = nI f → p1 ≠ nI i) : qa_at now p0 p1 = -1 := by
  unfold qa_at
  by_cases z : p0 < 0 ∨ 10 ≤ p0 ∨ p1 < 0
  · rw [if_pos z]
  · rw [if_neg z]
    have h0 : ¬ p0 < 0 := fun y => z (Or.inl y)
    have h1 : ¬ 10 ≤ p0 := fun y => z (Or.inr (Or.inl y))
    have h2 : ¬ p1 < 0 := fun y => z (Or.inr (Or.inr y))
    obtain ⟨e0, l0⟩ := qa_nn h0
    obtain ⟨e1, l1⟩ := qa_nn h2
    generalize p0.toNatClampNeg = f at *
    generalize p1.toNatClampNeg = i at *
    subst e0; subst e1
    have hf : f < 10 := by
      rcases Nat.lt_or_ge f 10 with y | y
      · exact y
      · exact absurd (nI_le (a := 10) y l0) h1
    cases et : now f with
    | none => rfl
    | some t =>
      dsimp only
      rw [if_neg]
      intro hi
      exact h f t i hf et hi rfl rfl
theorem i_vc_at {k : Nat} {u : SX} {v : SY} (I : i_Rel k u v) (hk : k + 4 ≤ 2048) (v1 : Int32) (v2 : Int32) : wpX_at (fun r => wpY_at (fun r' => r' = r ∧ i_Rel (k + 4) u v) v v1 v2) u v1 v2 := by
  obtain ⟨xwc, xdc, xdm, xsc, xtc, xnc, xmc, xbr, xwt, xch, xtl, xwf, xdn, xdf, xdl, xss, xtk, xta, xtb, xnk, xna, xnb, xnl, xnr, xns, xfa, xfs, xfi, xrw, xrc, xcl, xhd, xre, xhi, xwo⟩ := u
  obtain ⟨ywa, ydd, ynd, yns, yma, ynt, yno, yrc, yfo, ybl, yod, ywr, yan, yab, yac, yad, yal, yabl, yacl, yacf, ynu, yfi, ypa, ysz, yli, ytx, yki, yf1, yf2, yo, yoa, yob, yit, yss, ymo, yst, ymy, ycl, yrw, yow, yen, yhi, yla⟩ := v
  obtain ⟨now, base, wt, dr, docs, segs, made, hi, hm, hX, hY, hT, hR, hb, hw⟩ := I
  have hno := qf_now_o hi
  have J : i_Rel (k + 4) (xwc, xdc, xdm, xsc, xtc, xnc, xmc, xbr, xwt, xch, xtl, xwf, xdn, xdf, xdl, xss, xtk, xta, xtb, xnk, xna, xnb, xnl, xnr, xns, xfa, xfs, xfi, xrw, xrc, xcl, xhd, xre, xhi, xwo) (ywa, ydd, ynd, yns, yma, ynt, yno, yrc, yfo, ybl, yod, ywr, yan, yab, yac, yad, yal, yabl, yacl, yacf, ynu, yfi, ypa, ysz, yli, ytx, yki, yf1, yf2, yo, yoa, yob, yit, yss, ymo, yst, ymy, ycl, yrw, yow, yen, yhi, yla) := ⟨now, base, wt, dr, docs, segs, made, hi, by omega, hX, hY, hT, hR, hb, hw⟩
  have key : wpY_at (fun r' => r' = qa_at now v1 v2 ∧ i_Rel (k + 4) (xwc, xdc, xdm, xsc, xtc, xnc, xmc, xbr, xwt, xch, xtl, xwf, xdn, xdf, xdl, xss, xtk, xta, xtb, xnk, xna, xnb, xnl, xnr, xns, xfa, xfs, xfi, xrw, xrc, xcl, xhd, xre, xhi, xwo) (ywa, ydd, ynd, yns, yma, ynt, yno, yrc, yfo, ybl, yod, ywr, yan, yab, yac, yad, yal, yabl, yacl, yacf, ynu, yfi, ypa, ysz, yli, ytx, yki, yf1, yf2, yo, yoa, yob, yit, yss, ymo, yst, ymy, ycl, yrw, yow, yen, yhi, yla)) (ywa, ydd, ynd, yns, yma, ynt, yno, yrc, yfo, ybl, yod, ywr, yan, yab, yac, yad, yal, yabl, yacl, yacf, ynu, yfi, ypa, ysz, yli, ytx, yki, yf1, yf2, yo, yoa, yob, yit, yss, ymo, yst, ymy, ycl, yrw, yow, yen, yhi, yla) v1 v2 :=
    yr_at now hno hY.1 v1 v2 _ (fun h => ⟨(qa_at_b h).symm, J⟩) (fun f t i hf et hi' e0 e1 => ⟨by rw [e0, e1, qa_at_g hno hf et hi'], J⟩)
  have fx : ∀ r : Int32, r = qa_at now v1 v2 → wpY_at (fun r' => r' = r ∧ i_Rel (k + 4) (xwc, xdc, xdm, xsc, xtc, xnc, xmc, xbr, xwt, xch, xtl, xwf, xdn, xdf, xdl, xss, xtk, xta, xtb, xnk, xna, xnb, xnl, xnr, xns, xfa, xfs, xfi, xrw, xrc, xcl, xhd, xre, xhi, xwo) (ywa, ydd, ynd, yns, yma, ynt, yno, yrc, yfo, ybl, yod, ywr, yan, yab, yac, yad, yal, yabl, yacl, yacf, ynu, yfi, ypa, ysz, yli, ytx, yki, yf1, yf2, yo, yoa, yob, yit, yss, ymo, yst, ymy, ycl, yrw, yow, yen, yhi, yla)) (ywa, ydd, ynd, yns, yma, ynt, yno, yrc, yfo, ybl, yod, ywr, yan, yab, yac, yad, yal, yabl, yacl, yacf, ynu, yfi, ypa, ysz, yli, ytx, yki, yf1, yf2, yo, yoa, yob, yit, yss, ymo, yst, ymy, ycl, yrw, yow, yen, yhi, yla) v1 v2 := fun r e => by rw [e]; exact key
  exact xl_at now hno hX.1 v1 v2 _ (fun h => fx _ (qa_at_b h).symm) (fun f t i hf et hi' e0 e1 => fx _ (by rw [e0, e1, qa_at_g hno hf et hi']))
/-! having -/
def qa_hav (now : Nat → qf_X) (p0 p1 p2 : Int32) : Int32 := if p0 < 0 ∨ 6 ≤ p0 ∨ p1 < 0 ∨ 6 ≤ p1 ∨ p2 < 0 ∨ 6 ≤ p2 then -1 else nI (qn_hv now (36 * p0.toNatClampNeg + 6 * p1.toNatClampNeg + p2.toNatClampNeg) 10)
theorem qa_6 {x : Int32} (h0 : ¬ x < 0) (h1 : ¬ 6 ≤ x) : ∃ a, a < 6 ∧ x = nI a := by
  rcases pk_ix x (n := 6) (by decide) with z | z | ⟨a, ha, e⟩
  · exact absurd z h0
  · exact absurd z h1
  · exact ⟨a, ha, e⟩
theorem qa_6n {a : Nat} (h : a < 6) : ¬ nI a < 0 ∧ ¬ 6 ≤ nI a := ⟨nI_pos (by omega), nI_ge (b := 6) h (by decide)⟩
theorem qa_hav_g {now : Nat → qf_X} {a b c : Nat} (ha : a < 6) (hb : b < 6) (hc : c < 6) : qa_hav now (nI a) (nI b) (nI c) = nI (qn_hv now (36 * a + 6 * b + c) 10) := by
  have h1 := qa_6n ha
  have h2 := qa_6n hb
  have h3 := qa_6n hc
  unfold qa_hav
  rw [if_neg (by rintro (z | z | z | z | z | z) <;> simp_all), nI_clamp (by omega), nI_clamp (by omega), nI_clamp (by omega)]
theorem qa_hav_b {now : Nat → qf_X} {p0 p1 p2 : Int32} (h : ¬ ∃ a b c, a < 6 ∧ b < 6 ∧ c < 6 ∧ p0 = nI a ∧ p1 = nI b ∧ p2 = nI c) : qa_hav now p0 p1 p2 = -1 := by
  unfold qa_hav
  by_cases z : p0 < 0 ∨ 6 ≤ p0 ∨ p1 < 0 ∨ 6 ≤ p1 ∨ p2 < 0 ∨ 6 ≤ p2
  · rw [if_pos z]
  · exfalso
    apply h
    obtain ⟨a, ha, ea⟩ := qa_6 (x := p0) (fun y => z (Or.inl y)) (fun y => z (Or.inr (Or.inl y)))
    obtain ⟨b, hb, eb⟩ := qa_6 (x := p1) (fun y => z (Or.inr (Or.inr (Or.inl y)))) (fun y => z (Or.inr (Or.inr (Or.inr (Or.inl y)))))
    obtain ⟨c, hc, ec⟩ := qa_6 (x := p2) (fun y => z (Or.inr (Or.inr (Or.inr (Or.inr (Or.inl y)))))) (fun y => z (Or.inr (Or.inr (Or.inr (Or.inr (Or.inr y))))))
    exact ⟨a, b, c, ha, hb, hc, ea, eb, ec⟩
theorem i_vc_having {k : Nat} {u : SX} {v : SY} (I : i_Rel k u v) (hk : k + 4 ≤ 2048) (v1 : Int32) (v2 : Int32) (v3 : Int32) : wpX_having (fun r => wpY_having (fun r' v' => r' = r ∧ i_Rel (k + 4) u v') v v1 v2 v3) u v1 v2 v3 := by
  obtain ⟨xwc, xdc, xdm, xsc, xtc, xnc, xmc, xbr, xwt, xch, xtl, xwf, xdn, xdf, xdl, xss, xtk, xta, xtb, xnk, xna, xnb, xnl, xnr, xns, xfa, xfs, xfi, xrw, xrc, xcl, xhd, xre, xhi, xwo⟩ := u
  obtain ⟨ywa, ydd, ynd, yns, yma, ynt, yno, yrc, yfo, ybl, yod, ywr, yan, yab, yac, yad, yal, yabl, yacl, yacf, ynu, yfi, ypa, ysz, yli, ytx, yki, yf1, yf2, yo, yoa, yob, yit, yss, ymo, yst, ymy, ycl, yrw, yow, yen, yhi, yla⟩ := v
  obtain ⟨now, base, wt, dr, docs, segs, made, hi, hm, hX, hY, hT, hR, hb, hw⟩ := I
  have hno := qf_now_o hi
  have J : ∀ ow : Nat → Int32, i_Rel (k + 4) (xwc, xdc, xdm, xsc, xtc, xnc, xmc, xbr, xwt, xch, xtl, xwf, xdn, xdf, xdl, xss, xtk, xta, xtb, xnk, xna, xnb, xnl, xnr, xns, xfa, xfs, xfi, xrw, xrc, xcl, xhd, xre, xhi, xwo) (ywa, ydd, ynd, yns, yma, ynt, yno, yrc, yfo, ybl, yod, ywr, yan, yab, yac, yad, yal, yabl, yacl, yacf, ynu, yfi, ypa, ysz, yli, ytx, yki, yf1, yf2, yo, yoa, yob, yit, yss, ymo, yst, ymy, ycl, yrw, ow, yen, yhi, yla) := fun ow => ⟨now, base, wt, dr, docs, segs, made, hi, by omega, hX, hY, hT, hR, hb, hw⟩
  have key : wpY_having (fun r' v' => r' = qa_hav now v1 v2 v3 ∧ i_Rel (k + 4) (xwc, xdc, xdm, xsc, xtc, xnc, xmc, xbr, xwt, xch, xtl, xwf, xdn, xdf, xdl, xss, xtk, xta, xtb, xnk, xna, xnb, xnl, xnr, xns, xfa, xfs, xfi, xrw, xrc, xcl, xhd, xre, xhi, xwo) v') (ywa, ydd, ynd, yns, yma, ynt, yno, yrc, yfo, ybl, yod, ywr, yan, yab, yac, yad, yal, yabl, yacl, yacf, ynu, yfi, ypa, ysz, yli, ytx, yki, yf1, yf2, yo, yoa, yob, yit, yss, ymo, yst, ymy, ycl, yrw, yow, yen, yhi, yla) v1 v2 v3 :=
    yr_having now hno hY.1 v1 v2 v3 _ (fun h => ⟨(qa_hav_b h).symm, J yow⟩) (fun a b c ha hb' hc e0 e1 e2 ow => ⟨by rw [e0, e1, e2, qa_hav_g ha hb' hc], J ow⟩)
  have fx : ∀ r : Int32, r = qa_hav now v1 v2 v3 → wpY_having (fun r' v' => r' = r ∧ i_Rel (k + 4) (xwc, xdc, xdm, xsc, xtc, xnc, xmc, xbr, xwt, xch, xtl, xwf, xdn, xdf, xdl, xss, xtk, xta, xtb, xnk, xna, xnb, xnl, xnr, xns, xfa, xfs, xfi, xrw, xrc, xcl, xhd, xre, xhi, xwo) v') (ywa, ydd, ynd, yns, yma, ynt, yno, yrc, yfo, ybl, yod, ywr, yan, yab, yac, yad, yal, yabl, yacl, yacf, ynu, yfi, ypa, ysz, yli, ytx, yki, yf1, yf2, yo, yoa, yob, yit, yss, ymo, yst, ymy, ycl, yrw, yow, yen, yhi, yla) v1 v2 v3 := fun r e => by rw [e]; exact key
  exact xl_having now hno hX.1 v1 v2 v3 _ (fun h => fx _ (qa_hav_b h).symm) (fun a b c ha hb' hc e0 e1 e2 => fx _ (by rw [e0, e1, e2, qa_hav_g ha hb' hc]))
/-! segment and document -/
def qa_seg (docs : List qf_D) (segs : List Nat) (p0 p1 : Int32) : Int32 := if p0 < 0 ∨ nI segs.length ≤ p0 then -1 else if p1 = 0 then nI (segs.getD p0.toNatClampNeg 0) else if p1 = 1 then nI (ql_cl (ql_docs docs segs p0.toNatClampNeg)) else if p1 = 2 then nI (ql_lists (ql_docs docs segs p0.toNatClampNeg)) else if p1 = 3 then nI (ql_bits (ql_docs docs segs p0.toNatClampNeg)) else if p1 = 4 then (match docs[qd_st p0.toNatClampNeg segs]? with
  | some x => nI x.1
  | none => -1) else -1
theorem qa_seg_n {segs : List Nat} (hl : segs.length ≤ 16) {k : Nat} (hk : k < segs.length) : ¬ (nI k < 0 ∨ nI segs.length ≤ nI k) ∧ (nI k).toNatClampNeg = k := by
  refine ⟨?_, nI_clamp (by omega)⟩
  rintro (z | z)
  · exact nI_pos (by omega) z
  · exact nI_ge hk (by omega) z
theorem qa_seg_b {docs : List qf_D} {segs : List Nat} (hl : segs.length ≤ 16) {p0 p1 : Int32} (h : (∀ k, k < segs.length → p0 ≠ nI k) ∨ (∀ w, w < 5 → p1 ≠ nI w)) : qa_seg docs segs p0 p1 = -1 := by
  unfold qa_seg
  by_cases z : p0 < 0 ∨ nI segs.length ≤ p0
  · rw [if_pos z]
  · rw [if_neg z]
    rcases pk_ix p0 (n := segs.length) (by omega) with y | y | ⟨k, hk, e⟩
    · exact absurd (Or.inl y) z
    · exact absurd (Or.inr y) z
    · rcases h with h | h
      · exact absurd e (h k hk)
      · have n0 : ¬ p1 = 0 := h 0 (by omega)
        have n1 : ¬ p1 = 1 := h 1 (by omega)
        have n2 : ¬ p1 = 2 := h 2 (by omega)
        have n3 : ¬ p1 = 3 := h 3 (by omega)
        have n4 : ¬ p1 = 4 := h 4 (by omega)
        rw [if_neg n0, if_neg n1, if_neg n2, if_neg n3, if_neg n4]
theorem i_vc_segment {k : Nat} {u : SX} {v : SY} (I : i_Rel k u v) (hk : k + 4 ≤ 2048) (v1 : Int32) (v2 : Int32) : wpX_segment (fun r => wpY_segment (fun r' v' => r' = r ∧ i_Rel (k + 4) u v') v v1 v2) u v1 v2 := by
  obtain ⟨xwc, xdc, xdm, xsc, xtc, xnc, xmc, xbr, xwt, xch, xtl, xwf, xdn, xdf, xdl, xss, xtk, xta, xtb, xnk, xna, xnb, xnl, xnr, xns, xfa, xfs, xfi, xrw, xrc, xcl, xhd, xre, xhi, xwo⟩ := u
  obtain ⟨ywa, ydd, ynd, yns, yma, ynt, yno, yrc, yfo, ybl, yod, ywr, yan, yab, yac, yad, yal, yabl, yacl, yacf, ynu, yfi, ypa, ysz, yli, ytx, yki, yf1, yf2, yo, yoa, yob, yit, yss, ymo, yst, ymy, ycl, yrw, yow, yen, yhi, yla⟩ := v
  obtain ⟨now, base, wt, dr, docs, segs, made, hi, hm, hX, hY, hT, hR, hb, hw⟩ := I
  have hl : segs.length ≤ 16 := by have := (qd_dec10 hi.2.2.2.2.2 hi.2.2.2.2.1.2.1).1; omega
  have J : ∀ la : Nat → Int32, i_Rel (k + 4) (xwc, xdc, xdm, xsc, xtc, xnc, xmc, xbr, xwt, xch, xtl, xwf, xdn, xdf, xdl, xss, xtk, xta, xtb, xnk, xna, xnb, xnl, xnr, xns, xfa, xfs, xfi, xrw, xrc, xcl, xhd, xre, xhi, xwo) (ywa, ydd, ynd, yns, yma, ynt, yno, yrc, yfo, ybl, yod, ywr, yan, yab, yac, yad, yal, yabl, yacl, yacf, ynu, yfi, ypa, ysz, yli, ytx, yki, yf1, yf2, yo, yoa, yob, yit, yss, ymo, yst, ymy, ycl, yrw, yow, yen, yhi, la) := fun la => ⟨now, base, wt, dr, docs, segs, made, hi, by omega, hX, hY, hT, hR, hb, hw⟩
  have g0 : ∀ j, j < segs.length → v1 = nI j → v2 = 0 → nI (segs.getD j 0) = qa_seg docs segs v1 v2 := fun j hj e0 e1 => by
    rw [e0, e1]; unfold qa_seg; rw [if_neg (qa_seg_n hl hj).1, if_pos rfl, (qa_seg_n hl hj).2]
  have g1 : ∀ j, j < segs.length → v1 = nI j → v2 = 1 → nI (ql_cl (ql_docs docs segs j)) = qa_seg docs segs v1 v2 := fun j hj e0 e1 => by
    rw [e0, e1]; unfold qa_seg; rw [if_neg (qa_seg_n hl hj).1, if_neg (by decide), if_pos rfl, (qa_seg_n hl hj).2]
  have g2 : ∀ j, j < segs.length → v1 = nI j → v2 = 2 → nI (ql_lists (ql_docs docs segs j)) = qa_seg docs segs v1 v2 := fun j hj e0 e1 => by
    rw [e0, e1]; unfold qa_seg; rw [if_neg (qa_seg_n hl hj).1, if_neg (by decide), if_neg (by decide), if_pos rfl, (qa_seg_n hl hj).2]
  have g3 : ∀ j, j < segs.length → v1 = nI j → v2 = 3 → nI (ql_bits (ql_docs docs segs j)) = qa_seg docs segs v1 v2 := fun j hj e0 e1 => by
    rw [e0, e1]; unfold qa_seg; rw [if_neg (qa_seg_n hl hj).1, if_neg (by decide), if_neg (by decide), if_neg (by decide), if_pos rfl, (qa_seg_n hl hj).2]
  have g4 : ∀ j x, j < segs.length → v1 = nI j → v2 = 4 → docs[qd_st j segs]? = some x → nI x.1 = qa_seg docs segs v1 v2 := fun j x hj e0 e1 e2 => by
    rw [e0, e1]; unfold qa_seg; rw [if_neg (qa_seg_n hl hj).1, if_neg (by decide), if_neg (by decide), if_neg (by decide), if_neg (by decide), if_pos rfl, (qa_seg_n hl hj).2, e2]
  have key : wpY_segment (fun r' v' => r' = qa_seg docs segs v1 v2 ∧ i_Rel (k + 4) (xwc, xdc, xdm, xsc, xtc, xnc, xmc, xbr, xwt, xch, xtl, xwf, xdn, xdf, xdl, xss, xtk, xta, xtb, xnk, xna, xnb, xnl, xnr, xns, xfa, xfs, xfi, xrw, xrc, xcl, xhd, xre, xhi, xwo) v') (ywa, ydd, ynd, yns, yma, ynt, yno, yrc, yfo, ybl, yod, ywr, yan, yab, yac, yad, yal, yabl, yacl, yacf, ynu, yfi, ypa, ysz, yli, ytx, yki, yf1, yf2, yo, yoa, yob, yit, yss, ymo, yst, ymy, ycl, yrw, yow, yen, yhi, yla) v1 v2 :=
    yg_segment now base wt dr docs segs made hi (by omega) hY v1 v2 _ (fun h => ⟨(qa_seg_b hl h).symm, J yla⟩) (fun j hj e0 e1 => ⟨g0 j hj e0 e1, J yla⟩) (fun j hj e0 e1 => ⟨g1 j hj e0 e1, J yla⟩) (fun j hj e0 e1 la => ⟨g2 j hj e0 e1, J la⟩) (fun j hj e0 e1 la => ⟨g3 j hj e0 e1, J la⟩) (fun j x hj e0 e1 e2 => ⟨g4 j x hj e0 e1 e2, J yla⟩)
  have fx : ∀ r : Int32, r = qa_seg docs segs v1 v2 → wpY_segment (fun r' v' => r' = r ∧ i_Rel (k + 4) (xwc, xdc, xdm, xsc, xtc, xnc, xmc, xbr, xwt, xch, xtl, xwf, xdn, xdf, xdl, xss, xtk, xta, xtb, xnk, xna, xnb, xnl, xnr, xns, xfa, xfs, xfi, xrw, xrc, xcl, xhd, xre, xhi, xwo) v') (ywa, ydd, ynd, yns, yma, ynt, yno, yrc, yfo, ybl, yod, ywr, yan, yab, yac, yad, yal, yabl, yacl, yacf, ynu, yfi, ypa, ysz, yli, ytx, yki, yf1, yf2, yo, yoa, yob, yit, yss, ymo, yst, ymy, ycl, yrw, yow, yen, yhi, yla) v1 v2 := fun r e => by rw [e]; exact key
  exact xl_segment now base wt dr docs segs made hi (by omega) hX v1 v2 _ (fun h => fx _ (qa_seg_b hl h).symm) (fun j hj e0 e1 => fx _ (g0 j hj e0 e1)) (fun j hj e0 e1 => fx _ (g1 j hj e0 e1)) (fun j hj e0 e1 => fx _ (g2 j hj e0 e1)) (fun j hj e0 e1 => fx _ (g3 j hj e0 e1)) (fun j x hj e0 e1 e2 => fx _ (g4 j x hj e0 e1 e2))
def qa_doc (docs : List qf_D) (segs : List Nat) (p0 p1 : Int32) : Int32 := if p0 < 0 then -1 else match docs[p0.toNatClampNeg]? with
  | none => -1
  | some x => if p1 = 0 then nI x.1 else if p1 = 1 then nI x.2.1 else if p1 = 2 then (if x.2.2.1 = true then 1 else 0) else if p1 = 3 then nI (qd_seg segs p0.toNatClampNeg) else -1
theorem qa_doc_b {docs : List qf_D} {segs : List Nat} {p0 p1 : Int32} (h : (∀ k, k < docs.length → p0 ≠ nI k) ∨ (∀ w, w < 4 → p1 ≠ nI w)) : qa_doc docs segs p0 p1 = -1 := by
  unfold qa_doc
  by_cases z : p0 < 0
  · rw [if_pos z]
  · rw [if_neg z]
    obtain ⟨e0, l0⟩ := qa_nn z
    cases ed : docs[p0.toNatClampNeg]? with
    | none => rfl
    | some x =>
      dsimp only
      rcases h with h | h
      · exact absurd e0 (h _ (qr_get_lt ed))
      · have n0 : ¬ p1 = 0 := h 0 (by omega)
        have n1 : ¬ p1 = 1 := h 1 (by omega)
        have n2 : ¬ p1 = 2 := h 2 (by omega)
        have n3 : ¬ p1 = 3 := h 3 (by omega)
        rw [if_neg n0, if_neg n1, if_neg n2, if_neg n3]
theorem qa_doc_g {docs : List qf_D} {segs : List Nat} {j : Nat} {x : qf_D} (hl : docs.length ≤ 64) (h : docs[j]? = some x) (p1 : Int32) : qa_doc docs segs (nI j) p1 = if p1 = 0 then nI x.1 else if p1 = 1 then nI x.2.1 else if p1 = 2 then (if x.2.2.1 = true then 1 else 0) else if p1 = 3 then nI (qd_seg segs j) else -1 := by
  have := qr_get_lt h
  unfold qa_doc
  rw [if_neg (nI_pos (by omega)), nI_clamp (by omega), h]
theorem i_vc_document {k : Nat} {u : SX} {v : SY} (I : i_Rel k u v) (hk : k + 4 ≤ 2048) (v1 : Int32) (v2 : Int32) : wpX_document (fun r => wpY_document (fun r' => r' = r ∧ i_Rel (k + 4) u v) v v1 v2) u v1 v2 := by
  obtain ⟨xwc, xdc, xdm, xsc, xtc, xnc, xmc, xbr, xwt, xch, xtl, xwf, xdn, xdf, xdl, xss, xtk, xta, xtb, xnk, xna, xnb, xnl, xnr, xns, xfa, xfs, xfi, xrw, xrc, xcl, xhd, xre, xhi, xwo⟩ := u
  obtain ⟨ywa, ydd, ynd, yns, yma, ynt, yno, yrc, yfo, ybl, yod, ywr, yan, yab, yac, yad, yal, yabl, yacl, yacf, ynu, yfi, ypa, ysz, yli, ytx, yki, yf1, yf2, yo, yoa, yob, yit, yss, ymo, yst, ymy, ycl, yrw, yow, yen, yhi, yla⟩ := v
  obtain ⟨now, base, wt, dr, docs, segs, made, hi, hm, hX, hY, hT, hR, hb, hw⟩ := I
  have hl : docs.length ≤ 64 := by
    have := (qd_dec10 hi.2.2.2.2.2 hi.2.2.2.2.1.2.1).2
    have := hi.2.2.2.2.1.1
    omega
  have J : i_Rel (k + 4) (xwc, xdc, xdm, xsc, xtc, xnc, xmc, xbr, xwt, xch, xtl, xwf, xdn, xdf, xdl, xss, xtk, xta, xtb, xnk, xna, xnb, xnl, xnr, xns, xfa, xfs, xfi, xrw, xrc, xcl, xhd, xre, xhi, xwo) (ywa, ydd, ynd, yns, yma, ynt, yno, yrc, yfo, ybl, yod, ywr, yan, yab, yac, yad, yal, yabl, yacl, yacf, ynu, yfi, ypa, ysz, yli, ytx, yki, yf1, yf2, yo, yoa, yob, yit, yss, ymo, yst, ymy, ycl, yrw, yow, yen, yhi, yla) := ⟨now, base, wt, dr, docs, segs, made, hi, by omega, hX, hY, hT, hR, hb, hw⟩
  have g0 : ∀ j x, docs[j]? = some x → v1 = nI j → v2 = 0 → nI x.1 = qa_doc docs segs v1 v2 := fun j x hx e0 e1 => by
    rw [e0, e1, qa_doc_g hl hx, if_pos rfl]
  have g1 : ∀ j x, docs[j]? = some x → v1 = nI j → v2 = 1 → nI x.2.1 = qa_doc docs segs v1 v2 := fun j x hx e0 e1 => by
    rw [e0, e1, qa_doc_g hl hx, if_neg (by decide), if_pos rfl]
  have g2 : ∀ j x, docs[j]? = some x → v1 = nI j → v2 = 2 → (if x.2.2.1 = true then 1 else 0) = qa_doc docs segs v1 v2 := fun j x hx e0 e1 => by
    rw [e0, e1, qa_doc_g hl hx]
    rfl
  have g3 : ∀ j, j < docs.length → v1 = nI j → v2 = 3 → nI (qd_seg segs j) = qa_doc docs segs v1 v2 := fun j hj e0 e1 => by
    rw [e0, e1, qa_doc_g hl (List.getElem?_eq_getElem hj), if_neg (by decide), if_neg (by decide), if_neg (by decide), if_pos rfl]
  have key : wpY_document (fun r' => r' = qa_doc docs segs v1 v2 ∧ i_Rel (k + 4) (xwc, xdc, xdm, xsc, xtc, xnc, xmc, xbr, xwt, xch, xtl, xwf, xdn, xdf, xdl, xss, xtk, xta, xtb, xnk, xna, xnb, xnl, xnr, xns, xfa, xfs, xfi, xrw, xrc, xcl, xhd, xre, xhi, xwo) (ywa, ydd, ynd, yns, yma, ynt, yno, yrc, yfo, ybl, yod, ywr, yan, yab, yac, yad, yal, yabl, yacl, yacf, ynu, yfi, ypa, ysz, yli, ytx, yki, yf1, yf2, yo, yoa, yob, yit, yss, ymo, yst, ymy, ycl, yrw, yow, yen, yhi, yla)) (ywa, ydd, ynd, yns, yma, ynt, yno, yrc, yfo, ybl, yod, ywr, yan, yab, yac, yad, yal, yabl, yacl, yacf, ynu, yfi, ypa, ysz, yli, ytx, yki, yf1, yf2, yo, yoa, yob, yit, yss, ymo, yst, ymy, ycl, yrw, yow, yen, yhi, yla) v1 v2 :=
    yr_document now base wt dr docs segs made hi hY v1 v2 _ (fun h => ⟨(qa_doc_b h).symm, J⟩) (fun j x hx e0 e1 => ⟨g0 j x hx e0 e1, J⟩) (fun j x hx e0 e1 => ⟨g1 j x hx e0 e1, J⟩) (fun j x hx e0 e1 => ⟨g2 j x hx e0 e1, J⟩) (fun j hj e0 e1 => ⟨g3 j hj e0 e1, J⟩)
  have fx : ∀ r : Int32, r = qa_doc docs segs v1 v2 → wpY_document (fun r' => r' = r ∧ i_Rel (k + 4) (xwc, xdc, xdm, xsc, xtc, xnc, xmc, xbr, xwt, xch, xtl, xwf, xdn, xdf, xdl, xss, xtk, xta, xtb, xnk, xna, xnb, xnl, xnr, xns, xfa, xfs, xfi, xrw, xrc, xcl, xhd, xre, xhi, xwo) (ywa, ydd, ynd, yns, yma, ynt, yno, yrc, yfo, ybl, yod, ywr, yan, yab, yac, yad, yal, yabl, yacl, yacf, ynu, yfi, ypa, ysz, yli, ytx, yki, yf1, yf2, yo, yoa, yob, yit, yss, ymo, yst, ymy, ycl, yrw, yow, yen, yhi, yla)) (ywa, ydd, ynd, yns, yma, ynt, yno, yrc, yfo, ybl, yod, ywr, yan, yab, yac, yad, yal, yabl, yacl, yacf, ynu, yfi, ypa, ysz, yli, ytx, yki, yf1, yf2, yo, yoa, yob, yit, yss, ymo, yst, ymy, ycl, yrw, yow, yen, yhi, yla) v1 v2 := fun r e => by rw [e]; exact key
  exact xl_document now base wt dr docs segs made hi hX v1 v2 _ (fun h => fx _ (qa_doc_b h).symm) (fun j x hx e0 e1 => fx _ (g0 j x hx e0 e1)) (fun j x hx e0 e1 => fx _ (g1 j x hx e0 e1)) (fun j x hx e0 e1 => fx _ (g2 j x hx e0 e1)) (fun j hj e0 e1 => fx _ (g3 j hj e0 e1))
end
section
/-! tokens, results, state -/
theorem i_tok {k : Nat} (a b : Int32) (P : Prop) (hb : P) (hk : k < 12) : True := trivial
theorem i_vc_token {k : Nat} {u : SX} {v : SY} (I : i_Rel k u v) (hk : k + 4 ≤ 2048) (v1 : Int32) (v2 : Int32) (v3 : Int32) : wpX_token (fun r u' => wpY_token (fun r' v' => r' = r ∧ i_Rel (k + 4) u' v') v v1 v2 v3) u v1 v2 v3 := by
  obtain ⟨xwc, xdc, xdm, xsc, xtc, xnc, xmc, xbr, xwt, xch, xtl, xwf, xdn, xdf, xdl, xss, xtk, xta, xtb, xnk, xna, xnb, xnl, xnr, xns, xfa, xfs, xfi, xrw, xrc, xcl, xhd, xre, xhi, xwo⟩ := u
  obtain ⟨ywa, ydd, ynd, yns, yma, ynt, yno, yrc, yfo, ybl, yod, ywr, yan, yab, yac, yad, yal, yabl, yacl, yacf, ynu, yfi, ypa, ysz, yli, ytx, yki, yf1, yf2, yo, yoa, yob, yit, yss, ymo, yst, ymy, ycl, yrw, yow, yen, yhi, yla⟩ := v
  obtain ⟨now, base, wt, dr, docs, segs, made, hi, hm, hX, hY, ⟨nt, h1, h2, h3, rfl, rfl, h16, htk⟩, hR, hb, hw⟩ := I
  have h1 := h1.symm
  have h2 := h2.symm
  have h3 := h3.symm
  subst h1; subst h2; subst h3
  have same : ∀ r : Int32, r = r ∧ i_Rel (k + 4) (xwc, xdc, xdm, xsc, nI nt, xnc, xmc, xbr, xwt, xch, xtl, xwf, xdn, xdf, xdl, xss, xtk, xta, xtb, xnk, xna, xnb, xnl, xnr, xns, xfa, xfs, xfi, xrw, xrc, xcl, xhd, xre, xhi, xwo) (ywa, ydd, ynd, yns, yma, nI nt, yno, yrc, yfo, ybl, yod, ywr, yan, yab, yac, yad, yal, yabl, yacl, yacf, ynu, yfi, ypa, ysz, yli, ytx, xtk, xta, xtb, yo, yoa, yob, yit, yss, ymo, yst, ymy, ycl, yrw, yow, yen, yhi, yla) := fun r => ⟨rfl, now, base, wt, dr, docs, segs, made, hi, by omega, hX, hY, ⟨nt, rfl, rfl, rfl, rfl, rfl, h16, htk⟩, hR, hb, hw⟩
  have good : ∀ q : Nat, nt < 16 → q < 12 → v1 = nI q → (q = 0 → ∃ a : Nat, a < 6 ∧ v2 = nI a) → (q = 2 → ∃ a : Nat, 1 ≤ a ∧ a ≤ 63 ∧ v2 = nI a) → (q = 9 → ∃ a b : Nat, a ≤ b ∧ b ≤ 3 ∧ v2 = nI a ∧ v3 = nI b) → nI (nt + 1) = nI (nt + 1) ∧ i_Rel (k + 4) (xwc, xdc, xdm, xsc, nI (nt + 1), xnc, xmc, xbr, xwt, xch, xtl, xwf, xdn, xdf, xdl, xss, upd xtk nt v1, upd xta nt v2, upd xtb nt v3, xnk, xna, xnb, xnl, xnr, xns, xfa, xfs, xfi, xrw, xrc, xcl, xhd, xre, xhi, xwo) (ywa, ydd, ynd, yns, yma, nI (nt + 1), yno, yrc, yfo, ybl, yod, ywr, yan, yab, yac, yad, yal, yabl, yacl, yacf, ynu, yfi, ypa, ysz, yli, ytx, upd xtk nt v1, upd xta nt v2, upd xtb nt v3, yo, yoa, yob, yit, yss, ymo, yst, ymy, ycl, yrw, yow, yen, yhi, yla) := by
    intro q hlt hq eq q0 q2 q9
    refine ⟨rfl, now, base, wt, dr, docs, segs, made, hi, by omega, hX, hY, ⟨nt + 1, rfl, rfl, rfl, rfl, rfl, by omega, fun t ht => ?_⟩, hR, hb, hw⟩
    by_cases z : t = nt
    · subst z
      rw [pk_us, pk_us, pk_us]
      exact ⟨q, hq, eq, q0, q2, q9⟩
    · rw [pk_un z, pk_un z, pk_un z]
      exact htk t (by omega)
  have y75 : ∀ q : Nat, nt < 16 → q < 12 → v1 = nI q → (q = 0 → ∃ a : Nat, a < 6 ∧ v2 = nI a) → (q = 2 → ∃ a : Nat, 1 ≤ a ∧ a ≤ 63 ∧ v2 = nI a) → (q = 9 → ∃ a b : Nat, a ≤ b ∧ b ≤ 3 ∧ v2 = nI a ∧ v3 = nI b) → wY_token_75 (fun r' v' => r' = nI (nt + 1) ∧ i_Rel (k + 4) (xwc, xdc, xdm, xsc, nI (nt + 1), xnc, xmc, xbr, xwt, xch, xtl, xwf, xdn, xdf, xdl, xss, upd xtk nt v1, upd xta nt v2, upd xtb nt v3, xnk, xna, xnb, xnl, xnr, xns, xfa, xfs, xfi, xrw, xrc, xcl, xhd, xre, xhi, xwo) v') v1 v2 v3 ywa ydd ynd yns yma (nI nt) yno yrc yfo ybl yod ywr yan yab yac yad yal yabl yacl yacf ynu yfi ypa ysz yli ytx xtk xta xtb yo yoa yob yit yss ymo yst ymy ycl yrw yow yen yhi yla := by
    intro q hlt hq eq q0 q2 q9
    refine ⟨pk_in nt 16 hlt, nm_e ⟨pk_in nt 16 hlt, nm_e (nm_r (nI_1 nt) ⟨pk_in nt 16 hlt, nm_e ?_⟩)⟩⟩
    rw [nI_clamp (by omega)]
    exact good q hlt hq eq q0 q2 q9
  have xgo : ∀ q : Nat, nt < 16 → wpY_token (fun r' v' => r' = nI (nt + 1) ∧ i_Rel (k + 4) (xwc, xdc, xdm, xsc, nI (nt + 1), xnc, xmc, xbr, xwt, xch, xtl, xwf, xdn, xdf, xdl, xss, upd xtk nt v1, upd xta nt v2, upd xtb nt v3, xnk, xna, xnb, xnl, xnr, xns, xfa, xfs, xfi, xrw, xrc, xcl, xhd, xre, xhi, xwo) v') (ywa, ydd, ynd, yns, yma, nI nt, yno, yrc, yfo, ybl, yod, ywr, yan, yab, yac, yad, yal, yabl, yacl, yacf, ynu, yfi, ypa, ysz, yli, ytx, xtk, xta, xtb, yo, yoa, yob, yit, yss, ymo, yst, ymy, ycl, yrw, yow, yen, yhi, yla) v1 v2 v3 → ((1 : Int32) = 0 → wpY_token (fun r' v' => r' = -1 ∧ i_Rel (k + 4) (xwc, xdc, xdm, xsc, nI nt, xnc, xmc, xbr, xwt, xch, xtl, xwf, xdn, xdf, xdl, xss, xtk, xta, xtb, xnk, xna, xnb, xnl, xnr, xns, xfa, xfs, xfi, xrw, xrc, xcl, xhd, xre, xhi, xwo) v') (ywa, ydd, ynd, yns, yma, nI nt, yno, yrc, yfo, ybl, yod, ywr, yan, yab, yac, yad, yal, yabl, yacl, yacf, ynu, yfi, ypa, ysz, yli, ytx, xtk, xta, xtb, yo, yoa, yob, yit, yss, ymo, yst, ymy, ycl, yrw, yow, yen, yhi, yla) v1 v2 v3) ∧ (¬ (1 : Int32) = 0 → vp_in (nI nt) 16 ∧ ∀ y1, y1 = upd xtk (nI nt).toNatClampNeg v1 → (vp_in (nI nt) 16 ∧ ∀ y2, y2 = upd xta (nI nt).toNatClampNeg v2 → (vp_in (nI nt) 16 ∧ ∀ y3, y3 = upd xtb (nI nt).toNatClampNeg v3 → ∀ y4, y4 = nI nt + 1 → wpY_token (fun r' v' => r' = y4 ∧ i_Rel (k + 4) (xwc, xdc, xdm, xsc, y4, xnc, xmc, xbr, xwt, xch, xtl, xwf, xdn, xdf, xdl, xss, y1, y2, y3, xnk, xna, xnb, xnl, xnr, xns, xfa, xfs, xfi, xrw, xrc, xcl, xhd, xre, xhi, xwo) v') (ywa, ydd, ynd, yns, yma, nI nt, yno, yrc, yfo, ybl, yod, ywr, yan, yab, yac, yad, yal, yabl, yacl, yacf, ynu, yfi, ypa, ysz, yli, ytx, xtk, xta, xtb, yo, yoa, yob, yit, yss, ymo, yst, ymy, ycl, yrw, yow, yen, yhi, yla) v1 v2 v3))) := by
    intro q hlt hh
    refine br_f (by decide) ⟨pk_in nt 16 hlt, nm_e ⟨pk_in nt 16 hlt, nm_e ⟨pk_in nt 16 hlt, nm_e (nm_r (nI_1 nt) ?_)⟩⟩⟩
    rw [nI_clamp (by omega)]
    exact hh
  have xno : ∀ P : Prop, wpY_token (fun r' v' => r' = -1 ∧ i_Rel (k + 4) (xwc, xdc, xdm, xsc, nI nt, xnc, xmc, xbr, xwt, xch, xtl, xwf, xdn, xdf, xdl, xss, xtk, xta, xtb, xnk, xna, xnb, xnl, xnr, xns, xfa, xfs, xfi, xrw, xrc, xcl, xhd, xre, xhi, xwo) v') (ywa, ydd, ynd, yns, yma, nI nt, yno, yrc, yfo, ybl, yod, ywr, yan, yab, yac, yad, yal, yabl, yacl, yacf, ynu, yfi, ypa, ysz, yli, ytx, xtk, xta, xtb, yo, yoa, yob, yit, yss, ymo, yst, ymy, ycl, yrw, yow, yen, yhi, yla) v1 v2 v3 → ((0 : Int32) = 0 → wpY_token (fun r' v' => r' = -1 ∧ i_Rel (k + 4) (xwc, xdc, xdm, xsc, nI nt, xnc, xmc, xbr, xwt, xch, xtl, xwf, xdn, xdf, xdl, xss, xtk, xta, xtb, xnk, xna, xnb, xnl, xnr, xns, xfa, xfs, xfi, xrw, xrc, xcl, xhd, xre, xhi, xwo) v') (ywa, ydd, ynd, yns, yma, nI nt, yno, yrc, yfo, ybl, yod, ywr, yan, yab, yac, yad, yal, yabl, yacl, yacf, ynu, yfi, ypa, ysz, yli, ytx, xtk, xta, xtb, yo, yoa, yob, yit, yss, ymo, yst, ymy, ycl, yrw, yow, yen, yhi, yla) v1 v2 v3) ∧ (¬ (0 : Int32) = 0 → P) := fun P h => br_t rfl h
  unfold wpX_token
  by_cases hlt : nt < 16
  · refine br_f (nI_ge (b := 16) hlt (by decide)) ?_
    rcases pk_ix v1 (n := 12) (by decide) with z | z | ⟨q, hq, eq⟩
    · have n0 : ¬ v1 = 0 := fun e => by rw [e] at z; exact absurd z (by decide)
      have n2 : ¬ v1 = 2 := fun e => by rw [e] at z; exact absurd z (by decide)
      have n9 : ¬ v1 = 9 := fun e => by rw [e] at z; exact absurd z (by decide)
      refine br_f n0 (br_f n2 (br_f n9 (br_t z (br_t rfl ?_))))
      unfold wpY_token
      exact br_t z (br_t rfl (same (-1)))
    · have hn : ¬ v1 < 0 := fun y => absurd (Int32.lt_of_le_of_lt z y) (by decide)
      have n0 : ¬ v1 = 0 := fun e => by rw [e] at z; exact absurd z (by decide)
      have n2 : ¬ v1 = 2 := fun e => by rw [e] at z; exact absurd z (by decide)
      have n9 : ¬ v1 = 9 := fun e => by rw [e] at z; exact absurd z (by decide)
      refine br_f n0 (br_f n2 (br_f n9 (br_f hn (br_t z (br_t rfl ?_)))))
      unfold wpY_token
      refine br_f hn (br_t ?_ (br_t rfl (same (-1))))
      exact Int32.lt_of_lt_of_le (by decide) z
    · have yin : ∀ P : Int32 → Prop, P 1 → wpY_in P v1 0 11 := fun P hP => ys_in v1 0 11 (by decide) (by decide) 0 11 rfl rfl P (fun y => absurd eq (y q (by omega) (by omega))) (fun _ _ _ _ => hP)
      have n16 : ¬ nI nt = 16 := fun e => by
        rw [show (16 : Int32) = nI 16 from rfl, nI_eq (by omega) (by omega)] at e
        omega
      by_cases c0 : q = 0
      · subst c0
        have e0 : v1 = 0 := eq
        refine br_t e0 (xl_letC v2 _ (fun z => ⟨by decide, br_t rfl ?_⟩) (fun a ha ea => ⟨by decide, xgo 0 hlt ?_⟩))
        · unfold wpY_token
          refine yin _ (br_f (by decide) (br_f n16 (br_t e0 ?_)))
          exact ys_in v2 0 5 (by decide) (by decide) 0 5 rfl rfl _ (fun _ => br_t rfl (same (-1))) (fun a _ ha ea => absurd ea (z a (by omega)))
        · unfold wpY_token
          refine yin _ (br_f (by decide) (br_f n16 (br_t e0 ?_)))
          refine ys_in v2 0 5 (by decide) (by decide) 0 5 rfl rfl _ (fun z => absurd ea (z a (by omega) (by omega))) (fun _ _ _ _ => br_f (by decide) ?_)
          have n2 : ¬ v1 = 2 := fun e => by rw [e] at e0; exact absurd e0 (by decide)
          have n9 : ¬ v1 = 9 := fun e => by rw [e] at e0; exact absurd e0 (by decide)
          exact br_f n2 (br_f n9 (y75 0 hlt hq eq (fun _ => ⟨a, ha, ea⟩) (fun h => absurd h (by decide)) (fun h => absurd h (by decide))))
      · have n0 : ¬ v1 = 0 := fun e => by
          rw [e, show (0 : Int32) = nI 0 from rfl, nI_eq (by omega) (by omega)] at eq
          exact c0 eq.symm
        refine br_f n0 ?_
        by_cases c2 : q = 2
        · subst c2
          have e2 : v1 = 2 := eq
          have n9 : ¬ v1 = 9 := fun e => by rw [e] at e2; exact absurd e2 (by decide)
          refine br_t e2 ?_
          have ybad : (∀ a, 1 ≤ a → a ≤ 63 → v2 ≠ nI a) → wpY_token (fun r' v' => r' = -1 ∧ i_Rel (k + 4) (xwc, xdc, xdm, xsc, nI nt, xnc, xmc, xbr, xwt, xch, xtl, xwf, xdn, xdf, xdl, xss, xtk, xta, xtb, xnk, xna, xnb, xnl, xnr, xns, xfa, xfs, xfi, xrw, xrc, xcl, xhd, xre, xhi, xwo) v') (ywa, ydd, ynd, yns, yma, nI nt, yno, yrc, yfo, ybl, yod, ywr, yan, yab, yac, yad, yal, yabl, yacl, yacf, ynu, yfi, ypa, ysz, yli, ytx, xtk, xta, xtb, yo, yoa, yob, yit, yss, ymo, yst, ymy, ycl, yrw, yow, yen, yhi, yla) v1 v2 v3 := by
            intro z
            unfold wpY_token
            refine yin _ (br_f (by decide) (br_f n16 (br_f n0 (br_t e2 ?_))))
            exact ys_in v2 1 63 (by decide) (by decide) 1 63 rfl rfl _ (fun _ => br_t rfl (same (-1))) (fun a h1 h2 ea => absurd ea (z a h1 h2))
          by_cases l1 : v2 < 1
          · refine br_t l1 (xno _ (ybad (fun a h1 h2 e => ?_)))
            rw [e, show (1 : Int32) = nI 1 from rfl, nI_ltI (by omega) (by omega)] at l1
            omega
          · refine br_f l1 ?_
            by_cases l2 : 63 < v2
            · refine br_t l2 (xno _ (ybad (fun a h1 h2 e => ?_)))
              rw [e, show (63 : Int32) = nI 63 from rfl, nI_ltI (by omega) (by omega)] at l2
              omega
            · refine br_f l2 (xgo 2 hlt ?_)
              have hnn : ¬ v2 < 0 := fun y => l1 (Int32.lt_trans y (by decide))
              obtain ⟨a, ha, ea⟩ := nI_of hnn
              rw [ea, show (1 : Int32) = nI 1 from rfl, nI_ltI ha (by omega)] at l1
              rw [ea, show (63 : Int32) = nI 63 from rfl, nI_ltI (by omega) ha] at l2
              unfold wpY_token
              refine yin _ (br_f (by decide) (br_f n16 (br_f n0 (br_t e2 ?_))))
              refine ys_in v2 1 63 (by decide) (by decide) 1 63 rfl rfl _ (fun z => absurd ea (z a (by omega) (by omega))) (fun _ _ _ _ => br_f (by decide) ?_)
              exact br_f n9 (y75 2 hlt hq eq (fun h => absurd h (by decide)) (fun _ => ⟨a, by omega, by omega, ea⟩) (fun h => absurd h (by decide)))
        · have n2 : ¬ v1 = 2 := fun e => by
            rw [e, show (2 : Int32) = nI 2 from rfl, nI_eq (by omega) (by omega)] at eq
            exact c2 eq.symm
          refine br_f n2 ?_
          by_cases c9 : q = 9
          · subst c9
            have e9 : v1 = 9 := eq
            refine br_t e9 ?_
            have ybad : (∀ a b, a ≤ b → b ≤ 3 → v2 = nI a → v3 ≠ nI b) → wpY_token (fun r' v' => r' = -1 ∧ i_Rel (k + 4) (xwc, xdc, xdm, xsc, nI nt, xnc, xmc, xbr, xwt, xch, xtl, xwf, xdn, xdf, xdl, xss, xtk, xta, xtb, xnk, xna, xnb, xnl, xnr, xns, xfa, xfs, xfi, xrw, xrc, xcl, xhd, xre, xhi, xwo) v') (ywa, ydd, ynd, yns, yma, nI nt, yno, yrc, yfo, ybl, yod, ywr, yan, yab, yac, yad, yal, yabl, yacl, yacf, ynu, yfi, ypa, ysz, yli, ytx, xtk, xta, xtb, yo, yoa, yob, yit, yss, ymo, yst, ymy, ycl, yrw, yow, yen, yhi, yla) v1 v2 v3 := by
              intro z
              unfold wpY_token
              refine yin _ (br_f (by decide) (br_f n16 (br_f n0 (br_f n2 (br_t e9 ?_)))))
              refine ys_in v2 0 3 (by decide) (by decide) 0 3 rfl rfl _ (fun _ => br_t rfl (same (-1))) (fun a _ h2 ea => br_f (by decide) ?_)
              exact ys_in v3 a 3 (by decide) (by omega) v2 3 ea rfl _ (fun _ => br_t rfl (same (-1))) (fun b h3 h4 eb => absurd eb (z a b h3 h4 ea))
            by_cases l1 : v2 < 0
            · exact br_t l1 (xno _ (ybad (fun a b h1 h2 e => by rw [e] at l1; exact absurd l1 (nI_pos (by omega)))))
            · refine br_f l1 ?_
              obtain ⟨a, ha, ea⟩ := nI_of l1
              by_cases l2 : v3 < v2
              · refine br_t l2 (xno _ (ybad (fun a' b' h1 h2 e1 e2 => ?_)))
                rw [e1, e2, nI_ltI (by omega) (by omega)] at l2
                omega
              · refine br_f l2 ?_
                by_cases l3 : 3 < v3
                · refine br_t l3 (xno _ (ybad (fun a' b' h1 h2 e1 e2 => ?_)))
                  rw [e2, show (3 : Int32) = nI 3 from rfl, nI_ltI (by omega) (by omega)] at l3
                  omega
                · refine br_f l3 (xgo 9 hlt ?_)
                  have hnn : ¬ v3 < 0 := fun y => l2 (Int32.lt_of_lt_of_le y (by rw [ea]; exact nI_pos' ha))
                  obtain ⟨b, hb', eb⟩ := nI_of hnn
                  rw [ea, eb, nI_ltI hb' ha] at l2
                  rw [eb, show (3 : Int32) = nI 3 from rfl, nI_ltI (by omega) hb'] at l3
                  unfold wpY_token
                  refine yin _ (br_f (by decide) (br_f n16 (br_f n0 (br_f n2 (br_t e9 ?_)))))
                  refine ys_in v2 0 3 (by decide) (by decide) 0 3 rfl rfl _ (fun z => absurd ea (z a (by omega) (by omega))) (fun _ _ _ _ => br_f (by decide) ?_)
                  refine ys_in v3 a 3 (by decide) (by omega) v2 3 ea rfl _ (fun z => absurd eb (z b (by omega) (by omega))) (fun _ _ _ _ => br_f (by decide) ?_)
                  exact y75 9 hlt hq eq (fun h => absurd h (by decide)) (fun h => absurd h (by decide)) (fun _ => ⟨a, b, by omega, by omega, ea, eb⟩)
          · have n9 : ¬ v1 = 9 := fun e => by
              rw [e, show (9 : Int32) = nI 9 from rfl, nI_eq (by omega) (by omega)] at eq
              exact c9 eq.symm
            refine br_f n9 (br_f (by rw [eq]; exact nI_pos (by omega)) (br_f (by rw [eq]; exact nI_ge (b := 12) hq (by decide)) (xgo q hlt ?_)))
            unfold wpY_token
            refine yin _ (br_f (by decide) (br_f n16 (br_f n0 (br_f n2 (br_f n9 ?_)))))
            exact y75 q hlt hq eq (fun h => absurd h c0) (fun h => absurd h c2) (fun h => absurd h c9)
  · have e16 : nt = 16 := by omega
    subst e16
    refine br_t (by decide) ?_
    unfold wpY_token
    refine ys_in v1 0 11 (by decide) (by decide) 0 11 rfl rfl _ (fun _ => br_t rfl (same (-1))) (fun _ _ _ _ => br_f (by decide) (br_t (by decide) (same (-1))))
theorem i_vc_wipe {k : Nat} {u : SX} {v : SY} (I : i_Rel k u v) (hk : k + 4 ≤ 2048) : wpX_wipe (fun r u' => wpY_wipe (fun r' v' => r' = r ∧ i_Rel (k + 4) u' v') v) u := by
  obtain ⟨xwc, xdc, xdm, xsc, xtc, xnc, xmc, xbr, xwt, xch, xtl, xwf, xdn, xdf, xdl, xss, xtk, xta, xtb, xnk, xna, xnb, xnl, xnr, xns, xfa, xfs, xfi, xrw, xrc, xcl, xhd, xre, xhi, xwo⟩ := u
  obtain ⟨ywa, ydd, ynd, yns, yma, ynt, yno, yrc, yfo, ybl, yod, ywr, yan, yab, yac, yad, yal, yabl, yacl, yacf, ynu, yfi, ypa, ysz, yli, ytx, yki, yf1, yf2, yo, yoa, yob, yit, yss, ymo, yst, ymy, ycl, yrw, yow, yen, yhi, yla⟩ := v
  obtain ⟨now, base, wt, dr, docs, segs, made, hi, hm, hX, hY, ⟨nt, h1, h2, h3, h4, h5, h16, htk⟩, hR, hb, hw⟩ := I
  exact ⟨by rw [h4, h5], now, base, wt, dr, docs, segs, made, hi, by omega, hX, hY, ⟨0, h1, h2, h3, rfl, rfl, by omega, fun t ht => absurd ht (by omega)⟩, hR, hb, hw⟩
theorem i_vc_place {k : Nat} {u : SX} {v : SY} (I : i_Rel k u v) (hk : k + 4 ≤ 2048) : wpX_place (fun r => wpY_place (fun r' => r' = r ∧ i_Rel (k + 4) u v) v) u := by
  obtain ⟨xwc, xdc, xdm, xsc, xtc, xnc, xmc, xbr, xwt, xch, xtl, xwf, xdn, xdf, xdl, xss, xtk, xta, xtb, xnk, xna, xnb, xnl, xnr, xns, xfa, xfs, xfi, xrw, xrc, xcl, xhd, xre, xhi, xwo⟩ := u
  obtain ⟨ywa, ydd, ynd, yns, yma, ynt, yno, yrc, yfo, ybl, yod, ywr, yan, yab, yac, yad, yal, yabl, yacl, yacf, ynu, yfi, ypa, ysz, yli, ytx, yki, yf1, yf2, yo, yoa, yob, yit, yss, ymo, yst, ymy, ycl, yrw, yow, yen, yhi, yla⟩ := v
  obtain ⟨now, base, wt, dr, docs, segs, made, hi, hm, hX, hY, hT, hR, hb, hw⟩ := I
  exact ⟨hw.symm, now, base, wt, dr, docs, segs, made, hi, by omega, hX, hY, hT, hR, hb, hw⟩
theorem i_vc_opened {k : Nat} {u : SX} {v : SY} (I : i_Rel k u v) (hk : k + 4 ≤ 2048) (v1 : Int32) : wpX_opened (fun r => wpY_opened (fun r' => r' = r ∧ i_Rel (k + 4) u v) v v1) u v1 := by
  obtain ⟨xwc, xdc, xdm, xsc, xtc, xnc, xmc, xbr, xwt, xch, xtl, xwf, xdn, xdf, xdl, xss, xtk, xta, xtb, xnk, xna, xnb, xnl, xnr, xns, xfa, xfs, xfi, xrw, xrc, xcl, xhd, xre, xhi, xwo⟩ := u
  obtain ⟨ywa, ydd, ynd, yns, yma, ynt, yno, yrc, yfo, ybl, yod, ywr, yan, yab, yac, yad, yal, yabl, yacl, yacf, ynu, yfi, ypa, ysz, yli, ytx, yki, yf1, yf2, yo, yoa, yob, yit, yss, ymo, yst, ymy, ycl, yrw, yow, yen, yhi, yla⟩ := v
  obtain ⟨now, base, wt, dr, docs, segs, made, hi, hm, hX, hY, hT, ⟨H, op, hH, hRx, hRy⟩, hb, hw⟩ := I
  have same : ∀ r : Int32, r = r ∧ i_Rel (k + 4) (xwc, xdc, xdm, xsc, xtc, xnc, xmc, xbr, xwt, xch, xtl, xwf, xdn, xdf, xdl, xss, xtk, xta, xtb, xnk, xna, xnb, xnl, xnr, xns, xfa, xfs, xfi, xrw, xrc, xcl, xhd, xre, xhi, xwo) (ywa, ydd, ynd, yns, yma, ynt, yno, yrc, yfo, ybl, yod, ywr, yan, yab, yac, yad, yal, yabl, yacl, yacf, ynu, yfi, ypa, ysz, yli, ytx, yki, yf1, yf2, yo, yoa, yob, yit, yss, ymo, yst, ymy, ycl, yrw, yow, yen, yhi, yla) := fun r => ⟨rfl, now, base, wt, dr, docs, segs, made, hi, by omega, hX, hY, hT, ⟨H, op, hH, hRx, hRy⟩, hb, hw⟩
  unfold wpX_opened
  refine xs_fileC v1 _ (fun z => br_t rfl ?_) (fun f hf e => br_f (by decide) ⟨?_, ?_⟩)
  · unfold wpY_opened
    refine ys_fileC v1 _ (fun _ => br_t rfl (same 0)) (fun f hf e => ?_)
    subst e
    rcases z with z | z
    · exact absurd z (nI_pos (by omega))
    · exact absurd z (nI_ge (b := 10) hf (by decide))
  · subst e; exact pk_in f 10 hf
  · subst e
    rw [nI_clamp (by omega)]
    have hx := hRx.2.2 f hf
    have hy := hRy.2.2 f hf
    by_cases z : op f
    · rw [hx.1 z]
      refine br_f (by decide) ?_
      unfold wpY_opened
      exact ys_file f hf _ (br_f (by decide) (br_t ((qb_s1 yod f (by omega)).mpr (hy.mpr z)) (same 1)))
    · rw [hx.2 z]
      refine br_t rfl ?_
      unfold wpY_opened
      exact ys_file f hf _ (br_f (by decide) (br_f (fun w => z (hy.mp ((qb_s1 yod f (by omega)).mp w))) (same 0)))
def qa_st (now : Nat → qf_X) (wc sc dm br dd p0 : Int32) : Int32 := if p0 = 0 then wc else if p0 = 1 then sc else if p0 = 2 then dm else if p0 = 3 then nI (qn_th now 10) else if p0 = 4 then br else if p0 = 5 then dd else -1
section
variable {ywa ydd ynd yns yma ynt yno yrc yfo ybl yod ywr : Int32} {yan yab yac yad yal yabl yacl yacf ynu yfi ypa ysz yli ytx yki yf1 yf2 yo yoa yob yit yss ymo yst ymy ycl yrw yow yhi yla : Nat → Int32} {yen : Nat → Int64}
theorem yt_1 (now : Nat → qf_X) (hno : ∀ f, f < 10 → qf_o (now f)) (hs : ∀ f, f < 10 → qx_slot yan yal f (now f)) (x1 : Int32) (post : Int32 → Prop) (hp : post (qa_st now ywa yns yma ybl ydd x1)) :
  ∀ (n f : Nat), f ≤ 10 → 10 - f < n → wY_state_4 post x1 ywa ydd ynd yns yma ynt yno yrc yfo ybl yod ywr yan yab yac yad yal yabl yacl yacf ynu yfi ypa ysz yli ytx yki yf1 yf2 yo yoa yob yit yss ymo yst ymy ycl yrw yow yen yhi yla n (nI (qn_th now f)) (nI f) := by
  intro n
  induction n with
  | zero => intro f h1 h2; omega
  | succ n ih =>
    intro f h1 h2
    refine pk_le 10 f (fun hle => ?_) (fun hlt => ?_)
    · have e : f = 10 := by omega
      subst e
      unfold qa_st at hp
      refine br_c (fun z => ?_) (fun z0 => br_c (fun z => ?_) (fun z1 => br_c (fun z => ?_) (fun z2 => br_c (fun z => ?_) (fun z3 => br_c (fun z => ?_) (fun z4 => br_c (fun z => ?_) (fun z5 => ?_))))))
      · rw [if_pos z] at hp; exact hp
      · rw [if_neg z0, if_pos z] at hp; exact hp
      · rw [if_neg z0, if_neg z1, if_pos z] at hp; exact hp
      · rw [if_neg z0, if_neg z1, if_neg z2, if_pos z] at hp; exact hp
      · rw [if_neg z0, if_neg z1, if_neg z2, if_neg z3, if_pos z] at hp; exact hp
      · rw [if_neg z0, if_neg z1, if_neg z2, if_neg z3, if_neg z4, if_pos z] at hp; exact hp
      · rw [if_neg z0, if_neg z1, if_neg z2, if_neg z3, if_neg z4, if_neg z5] at hp; exact hp
    · have := ih (f + 1) (by omega) (by omega)
      have hsf := hs f hlt
      refine ⟨pk_in f 10 hlt, ?_⟩
      rw [nI_clamp (by omega)]
      cases hnf : now f with
      | none =>
        rw [hnf] at hsf
        rw [show yal f = -1 from hsf]
        have e' : qn_th now (f + 1) = qn_th now f := by show qn_th now f + _ = _; rw [hnf]; rfl
        rw [e'] at this
        exact br_t (by decide) (nm_r (nI_1 f) this)
      | some t =>
        rw [hnf] at hsf
        rw [show yal f = nI t.length from hsf.1]
        have e' : qn_th now (f + 1) = qn_th now f + 1 := by show qn_th now f + _ = _; rw [hnf]
        rw [e'] at this
        exact br_f (nI_pos (by have := (hno f hlt t hnf).1; omega)) (nm_r (nI_1 _) (nm_r (nI_1 f) this))
end
theorem i_vc_state {k : Nat} {u : SX} {v : SY} (I : i_Rel k u v) (hk : k + 4 ≤ 2048) (v1 : Int32) : wpX_state (fun r => wpY_state (fun r' => r' = r ∧ i_Rel (k + 4) u v) v v1) u v1 := by
  obtain ⟨xwc, xdc, xdm, xsc, xtc, xnc, xmc, xbr, xwt, xch, xtl, xwf, xdn, xdf, xdl, xss, xtk, xta, xtb, xnk, xna, xnb, xnl, xnr, xns, xfa, xfs, xfi, xrw, xrc, xcl, xhd, xre, xhi, xwo⟩ := u
  obtain ⟨ywa, ydd, ynd, yns, yma, ynt, yno, yrc, yfo, ybl, yod, ywr, yan, yab, yac, yad, yal, yabl, yacl, yacf, ynu, yfi, ypa, ysz, yli, ytx, yki, yf1, yf2, yo, yoa, yob, yit, yss, ymo, yst, ymy, ycl, yrw, yow, yen, yhi, yla⟩ := v
  obtain ⟨now, base, wt, dr, docs, segs, made, hi, hm, hX, hY, hT, hR, hb, hw⟩ := I
  have hno := qf_now_o hi
  have J : i_Rel (k + 4) (xwc, xdc, xdm, xsc, xtc, xnc, xmc, xbr, xwt, xch, xtl, xwf, xdn, xdf, xdl, xss, xtk, xta, xtb, xnk, xna, xnb, xnl, xnr, xns, xfa, xfs, xfi, xrw, xrc, xcl, xhd, xre, xhi, xwo) (ywa, ydd, ynd, yns, yma, ynt, yno, yrc, yfo, ybl, yod, ywr, yan, yab, yac, yad, yal, yabl, yacl, yacf, ynu, yfi, ypa, ysz, yli, ytx, yki, yf1, yf2, yo, yoa, yob, yit, yss, ymo, yst, ymy, ycl, yrw, yow, yen, yhi, yla) := ⟨now, base, wt, dr, docs, segs, made, hi, by omega, hX, hY, hT, hR, hb, hw⟩
  have fx : ∀ r : Int32, r = qa_st now ywa yns yma ybl ydd v1 → wpY_state (fun r' => r' = r ∧ i_Rel (k + 4) (xwc, xdc, xdm, xsc, xtc, xnc, xmc, xbr, xwt, xch, xtl, xwf, xdn, xdf, xdl, xss, xtk, xta, xtb, xnk, xna, xnb, xnl, xnr, xns, xfa, xfs, xfi, xrw, xrc, xcl, xhd, xre, xhi, xwo) (ywa, ydd, ynd, yns, yma, ynt, yno, yrc, yfo, ybl, yod, ywr, yan, yab, yac, yad, yal, yabl, yacl, yacf, ynu, yfi, ypa, ysz, yli, ytx, yki, yf1, yf2, yo, yoa, yob, yit, yss, ymo, yst, ymy, ycl, yrw, yow, yen, yhi, yla)) (ywa, ydd, ynd, yns, yma, ynt, yno, yrc, yfo, ybl, yod, ywr, yan, yab, yac, yad, yal, yabl, yacl, yacf, ynu, yfi, ypa, ysz, yli, ytx, yki, yf1, yf2, yo, yoa, yob, yit, yss, ymo, yst, ymy, ycl, yrw, yow, yen, yhi, yla) v1 := fun r e => by
    rw [e]
    exact ⟨11, yt_1 now hno hY.1 v1 _ ⟨rfl, J⟩ 11 0 (by omega) (by omega)⟩
  have e0 : xwc = ywa := by rw [hX.2.2.1.1, hY.2.2.1.1]
  have e1 : xsc = yns := by rw [hX.2.2.2.2.2.2.1, hY.2.2.2.2.2.2]
  have e2 : xdm = yma := by rw [hX.2.2.2.2.2.1, hY.2.2.2.2.2.1]
  have e5 : xtl 26 = ydd := by rw [hX.2.2.2.1.1, hY.2.2.2.1.1]
  have bad : (v1 < 0 ∨ 5 < v1) → (-1 : Int32) = qa_st now ywa yns yma ybl ydd v1 := by
    intro z
    have h : ∀ w : Nat, w ≤ 5 → ¬ v1 = nI w := by
      intro w hw' e
      rw [e] at z
      rcases z with z | z
      · exact nI_pos (by omega) z
      · rw [show (5 : Int32) = nI 5 from rfl, nI_ltI (by omega) (by omega)] at z; omega
    have n0 : ¬ v1 = 0 := h 0 (by omega)
    have n1 : ¬ v1 = 1 := h 1 (by omega)
    have n2 : ¬ v1 = 2 := h 2 (by omega)
    have n3 : ¬ v1 = 3 := h 3 (by omega)
    have n4 : ¬ v1 = 4 := h 4 (by omega)
    have n5 : ¬ v1 = 5 := h 5 (by omega)
    unfold qa_st
    rw [if_neg n0, if_neg n1, if_neg n2, if_neg n3, if_neg n4, if_neg n5]
  refine br_c (fun z => fx _ (bad (Or.inl z))) (fun _ => br_c (fun z => fx _ (bad (Or.inr z))) (fun _ => ?_))
  refine br_c (fun z => fx _ ?_) (fun z0 => br_c (fun z => fx _ ?_) (fun z1 => br_c (fun z => fx _ ?_) (fun z2 => br_c (fun z => ?_) (fun z3 => br_c (fun z => fx _ ?_) (fun z4 => br_c (fun z => fx _ ?_) (fun _ => trivial))))))
  · rw [z, e0]; rfl
  · rw [z, e1]; rfl
  · rw [z, e2]; rfl
  · exact ⟨11, xl_cf1 now hno hX.1 _ (fx _ (by rw [z]; rfl)) 11 0 (by omega) (by omega)⟩
  · rw [z, hb]; rfl
  · rw [z, e5]; rfl
def qa_hit (H : List (Nat × Nat × Nat × Nat)) (p0 p1 : Int32) : Int32 := if p0 < 0 ∨ 40 ≤ p0 then -1 else match H[p0.toNatClampNeg]? with
  | none => -1
  | some x => if p1 = 0 then nI x.1 else if p1 = 1 then nI x.2.1 else if p1 = 2 then nI x.2.2.1 else if p1 = 3 then nI x.2.2.2 else -1
theorem i_vc_hit {k : Nat} {u : SX} {v : SY} (I : i_Rel k u v) (hk : k + 4 ≤ 2048) (v1 : Int32) (v2 : Int32) : wpX_hit (fun r => wpY_hit (fun r' => r' = r ∧ i_Rel (k + 4) u v) v v1 v2) u v1 v2 := by
  obtain ⟨xwc, xdc, xdm, xsc, xtc, xnc, xmc, xbr, xwt, xch, xtl, xwf, xdn, xdf, xdl, xss, xtk, xta, xtb, xnk, xna, xnb, xnl, xnr, xns, xfa, xfs, xfi, xrw, xrc, xcl, xhd, xre, xhi, xwo⟩ := u
  obtain ⟨ywa, ydd, ynd, yns, yma, ynt, yno, yrc, yfo, ybl, yod, ywr, yan, yab, yac, yad, yal, yabl, yacl, yacf, ynu, yfi, ypa, ysz, yli, ytx, yki, yf1, yf2, yo, yoa, yob, yit, yss, ymo, yst, ymy, ycl, yrw, yow, yen, yhi, yla⟩ := v
  obtain ⟨now, base, wt, dr, docs, segs, made, hi, hm, hX, hY, hT, ⟨H, op, hH, hRx, hRy⟩, hb, hw⟩ := I
  have same : ∀ r : Int32, r = r ∧ i_Rel (k + 4) (xwc, xdc, xdm, xsc, xtc, xnc, xmc, xbr, xwt, xch, xtl, xwf, xdn, xdf, xdl, xss, xtk, xta, xtb, xnk, xna, xnb, xnl, xnr, xns, xfa, xfs, xfi, xrw, xrc, xcl, xhd, xre, xhi, xwo) (ywa, ydd, ynd, yns, yma, ynt, yno, yrc, yfo, ybl, yod, ywr, yan, yab, yac, yad, yal, yabl, yacl, yacf, ynu, yfi, ypa, ysz, yli, ytx, yki, yf1, yf2, yo, yoa, yob, yit, yss, ymo, yst, ymy, ycl, yrw, yow, yen, yhi, yla) := fun r => ⟨rfl, now, base, wt, dr, docs, segs, made, hi, by omega, hX, hY, hT, ⟨H, op, hH, hRx, hRy⟩, hb, hw⟩
  have hl := hH.1
  obtain ⟨hx1, hx2, _⟩ := hRx
  obtain ⟨hy1, hy2, _⟩ := hRy
  subst hx1; subst hy1
  have ybad : ((∀ j, j < 40 → j < H.length → v1 ≠ nI j) ∨ (∀ w, w ≤ 3 → v2 ≠ nI w)) → wpY_hit (fun r' => r' = -1 ∧ i_Rel (k + 4) (xwc, xdc, xdm, xsc, xtc, xnc, nI H.length, xbr, xwt, xch, xtl, xwf, xdn, xdf, xdl, xss, xtk, xta, xtb, xnk, xna, xnb, xnl, xnr, xns, xfa, xfs, xfi, xrw, xrc, xcl, xhd, xre, xhi, xwo) (ywa, ydd, ynd, yns, yma, ynt, yno, yrc, nI H.length, ybl, yod, ywr, yan, yab, yac, yad, yal, yabl, yacl, yacf, ynu, yfi, ypa, ysz, yli, ytx, yki, yf1, yf2, yo, yoa, yob, yit, yss, ymo, yst, ymy, ycl, yrw, yow, yen, yhi, yla)) (ywa, ydd, ynd, yns, yma, ynt, yno, yrc, nI H.length, ybl, yod, ywr, yan, yab, yac, yad, yal, yabl, yacl, yacf, ynu, yfi, ypa, ysz, yli, ytx, yki, yf1, yf2, yo, yoa, yob, yit, yss, ymo, yst, ymy, ycl, yrw, yow, yen, yhi, yla) v1 v2 := by
    intro h
    unfold wpY_hit
    refine yr_inm v1 H.length (by omega) _ rfl _ (fun _ => br_t rfl (same (-1))) (fun j hj e => br_f (by decide) ?_)
    refine br_c (fun _ => same (-1)) (fun n40 => ?_)
    refine ys_in v2 0 3 (by decide) (by decide) 0 3 rfl rfl _ (fun _ => br_t rfl (same (-1))) (fun w _ hw' e2 => ?_)
    rcases h with h | h
    · have hj40 : j < 40 := by
        rcases Nat.lt_or_ge j 40 with y | y
        · exact y
        · exact absurd (by rw [e]; exact nI_le (a := 40) y (by omega)) n40
      exact absurd e (h j hj40 hj)
    · exact absurd e2 (h w hw')
  by_cases l0 : v1 < 0
  · exact br_t l0 (ybad (Or.inl (fun j hj _ e => by rw [e] at l0; exact nI_pos (by omega) l0)))
  · refine br_f l0 ?_
    by_cases l1 : 40 ≤ v1
    · exact br_t l1 (ybad (Or.inl (fun j hj _ e => by rw [e] at l1; exact nI_ge (b := 40) hj (by decide) l1)))
    · refine br_f l1 ?_
      by_cases l2 : nI H.length ≤ v1
      · exact br_t l2 (ybad (Or.inl (fun j hj hj' e => by rw [e] at l2; exact nI_ge hj' (by omega) l2)))
      · refine br_f l2 ?_
        by_cases l3 : v2 < 0
        · exact br_t l3 (ybad (Or.inr (fun w hw' e => by rw [e] at l3; exact nI_pos (by omega) l3)))
        · refine br_f l3 ?_
          by_cases l4 : v2 < 4
          · refine br_t l4 ?_
            obtain ⟨j, hj, rfl⟩ := nI_of l0
            obtain ⟨w, hw', rfl⟩ := nI_of l3
            rw [show (40 : Int32) = nI 40 from rfl, nI_leI (by omega) hj] at l1
            rw [nI_leI (by omega) hj] at l2
            rw [show (4 : Int32) = nI 4 from rfl, nI_ltI hw' (by omega)] at l4
            have ej : nI j * 4 + nI w = nI (j * 4 + w) := by rw [show (4 : Int32) = nI 4 from rfl, pk_mul, nI_add]
            have hjl : j < H.length := by omega
            have hg := List.getElem?_eq_getElem hjl
            obtain ⟨a0, a1, a2, a3⟩ := hx2 j _ (by omega) hg
            have hyk := hy2 j _ (by omega) hg
            have hin := hH.2 _ (List.getElem_mem hjl)
            refine ⟨pk_in (j * 4 + w) 160 (by omega) ej, ?_⟩
            rw [ej, nI_clamp (by omega)]
            have fin : ∀ r : Int32, r = nI (qR_pk H[j] / 2 ^ (8 * w) % 2 ^ 8) → wpY_hit (fun r' => r' = r ∧ i_Rel (k + 4) (xwc, xdc, xdm, xsc, xtc, xnc, nI H.length, xbr, xwt, xch, xtl, xwf, xdn, xdf, xdl, xss, xtk, xta, xtb, xnk, xna, xnb, xnl, xnr, xns, xfa, xfs, xfi, xrw, xrc, xcl, xhd, xre, xhi, xwo) (ywa, ydd, ynd, yns, yma, ynt, yno, yrc, nI H.length, ybl, yod, ywr, yan, yab, yac, yad, yal, yabl, yacl, yacf, ynu, yfi, ypa, ysz, yli, ytx, yki, yf1, yf2, yo, yoa, yob, yit, yss, ymo, yst, ymy, ycl, yrw, yow, yen, yhi, yla)) (ywa, ydd, ynd, yns, yma, ynt, yno, yrc, nI H.length, ybl, yod, ywr, yan, yab, yac, yad, yal, yabl, yacl, yacf, ynu, yfi, ypa, ysz, yli, ytx, yki, yf1, yf2, yo, yoa, yob, yit, yss, ymo, yst, ymy, ycl, yrw, yow, yen, yhi, yla) (nI j) (nI w) := by
              intro r er
              unfold wpY_hit
              refine yr_inm (nI j) H.length (by omega) _ rfl _ (fun z => absurd rfl (z j hjl)) (fun j' hj' e => br_f (by decide) ?_)
              refine br_f (by rw [show (40 : Int32) = nI 40 from rfl, nI_leI (by omega) hj]; omega) ?_
              refine ys_in (nI w) 0 3 (by decide) (by decide) 0 3 rfl rfl _ (fun z => absurd rfl (z w (by omega) (by omega))) (fun w' _ hw'' e2 => br_f (by decide) ⟨pk_in j 40 (by omega), ?_, (same 0).2⟩)
              rw [nI_clamp (by omega), hyk, er]
              have e8 : (8 : Int32) * nI w = nI (8 * w) := pk_mul 8 w
              have hpk : qR_pk H[j] < 2 ^ 31 := by unfold qR_pk; omega
              rw [e8, pk_shrN hpk (nI (8 * w) &&& 31) (8 * w) (s_l (8 * w) (by omega)), pk_andN (by have : qR_pk H[j] / 2 ^ (8 * w) ≤ qR_pk H[j] := Nat.div_le_self _ _; omega) 8 (by decide)]
            have hw4 : w = 0 ∨ w = 1 ∨ w = 2 ∨ w = 3 := by omega
            rcases hw4 with e | e | e | e
            · subst e
              rw [show j * 4 + 0 = j * 4 from rfl, a0]
              apply fin
              congr 1
              unfold qR_pk
              simp only [Nat.mul_zero, Nat.pow_zero, Nat.div_one]
              omega
            · subst e
              rw [a1]
              apply fin
              congr 1
              unfold qR_pk
              simp only [Nat.mul_one, show (2 : Nat) ^ 8 = 256 from rfl]
              omega
            · subst e
              rw [a2]
              apply fin
              congr 1
              unfold qR_pk
              simp only [show 8 * 2 = 16 from rfl, show (2 : Nat) ^ 16 = 65536 from rfl, show (2 : Nat) ^ 8 = 256 from rfl]
              omega
            · subst e
              rw [a3]
              apply fin
              congr 1
              unfold qR_pk
              simp only [show 8 * 3 = 24 from rfl, show (2 : Nat) ^ 24 = 16777216 from rfl, show (2 : Nat) ^ 8 = 256 from rfl]
              omega
          · refine br_f l4 (ybad (Or.inr (fun w hw' e => l4 ?_)))
            rw [e]
            exact nI_lt (b := 4) (by omega) (by decide)
end
section
/-! the reader: what the reference's stack keeps -/
section
variable {V : Type} (lf : Nat → Nat → V) (un : Nat → Nat → Nat → V → V) (bi : Nat → V → V → V) (big : V → Prop)
theorem qp_y_mem (k a b : Nat) (st : List V) : ∀ v, v ∈ qp_y lf un bi k a b st → (∃ s, qp_y lf un bi k a b st = v :: s) ∨ v ∈ st := by
  intro v hv
  unfold qp_y at hv ⊢
  split at hv
  · rename_i h
    match st, hv with
    | [], hv => exact Or.inr hv
    | [x], hv => exact Or.inr hv
    | y :: x :: s, hv =>
      rcases List.mem_cons.mp hv with e | h'
      · exact Or.inl ⟨s, by rw [if_pos h, e]⟩
      · exact Or.inr (List.mem_cons_of_mem _ (List.mem_cons_of_mem _ h'))
  · rename_i h
    split at hv
    · rename_i h2
      match st, hv with
      | [], hv => exact Or.inr hv
      | x :: s, hv =>
        rcases List.mem_cons.mp hv with e | h'
        · exact Or.inl ⟨s, by rw [if_neg h, if_pos h2, e]⟩
        · exact Or.inr (List.mem_cons_of_mem _ h')
    · rename_i h2
      split at hv
      · rename_i h3
        rcases List.mem_cons.mp hv with e | h'
        · exact Or.inl ⟨st, by rw [if_neg h, if_neg h2, if_pos h3, e]⟩
        · exact Or.inr h'
      · rename_i h3
        rcases List.mem_cons.mp hv with e | h'
        · exact Or.inl ⟨st, by rw [if_neg h, if_neg h2, if_neg h3, e]⟩
        · exact Or.inr h'
theorem qp_yr_mem (O A B : Nat → Nat) : ∀ n v, v ∈ qp_yr lf un bi O A B n → ∃ k, k < n ∧ ∃ s, qp_yr lf un bi O A B (k + 1) = v :: s
  | 0, v, h => absurd h (by simp [qp_yr])
  | n + 1, v, h => by
    rcases qp_y_mem lf un bi (O n) (A n) (B n) (qp_yr lf un bi O A B n) v h with ⟨s, e⟩ | h'
    · exact ⟨n, by omega, s, e⟩
    · obtain ⟨k, hk, s, e⟩ := qp_yr_mem O A B n v h'
      exact ⟨k, by omega, s, e⟩
theorem qp_YO_big {op oa ob : Nat → Int32} {n : Nat} {st : List V} {P : Prop} (h : qp_YO lf un bi big op oa ob n st P) {v : V} (hv : v ∈ st) (hb : big v) : P := by
  obtain ⟨h1, h2, _⟩ := h
  rw [← h1] at hv
  obtain ⟨k, hk, s, e⟩ := qp_yr_mem lf un bi _ _ _ n v hv
  exact h2.mpr ⟨k, hk, v, s, e, hb⟩
theorem qp_YO_iff {op oa ob : Nat → Int32} {n : Nat} {st st' : List V} {P Q : Prop} (h : qp_YO lf un bi big op oa ob n st P) (e : st = st') (hq : P ↔ Q) : qp_YO lf un bi big op oa ob n st' Q := by
  subst e
  exact ⟨h.1, hq.symm.trans h.2.1, h.2.2⟩
def qp_c (o : Option V) : Nat := match o with
  | none => 0
  | some _ => 1
def qp_st (S : qp_S V) : List V := qp_top (S.2.1 S.1) (S.2.2.1 S.1) (S.2.2.2.1 S.1) ++ qp_lows bi S.2.1 S.2.2.1 S.2.2.2.1 S.1
def qp_pd (S : qp_S V) : Prop := S.2.2.2.2 ∨ ∃ l, l < S.1 ∧ qp_jbig bi big (S.2.2.1 l) (S.2.2.2.1 l)
def qp_inv (S : qp_S V) : Prop := ∀ l, l ≤ S.1 → S.2.2.2.1 l = none → S.2.2.1 l = none
def qp_lv (S : qp_S V) (yit ymo : Nat → Int32) : Prop := (∀ l, l < S.1 → yit l = nI (qp_c (S.2.2.2.1 l))) ∧ yit S.1 = nI (qp_c (S.2.2.1 S.1) + qp_c (S.2.2.2.1 S.1)) ∧ ∀ l, l ≤ S.1 → ymo l = nI (qp_c (S.2.1 l))
def qp_Y (S : qp_S V) (t : Nat) (yo yoa yob : Nat → Int32) (n : Nat) (yit ymo : Nat → Int32) : Prop :=
  qp_inv S ∧ S.1 ≤ t ∧ n + (qp_st bi S).length ≤ 2 * t ∧ (qp_st bi S).length ≤ t ∧ qp_YO lf un bi big yo yoa yob n (qp_st bi S) (qp_pd bi big S) ∧ qp_lv S yit ymo
theorem qp_set_s (f : Nat → Option V) (l : Nat) (x : Option V) : qp_set f l x l = x := if_pos rfl
theorem qp_set_n {f : Nat → Option V} {l j : Nat} {x : Option V} (h : j ≠ l) : qp_set f l x j = f j := if_neg h
theorem qp_lows_cg {fa fs fi fa' fs' fi' : Nat → Option V} : ∀ d, (∀ l, l < d → fa l = fa' l ∧ fs l = fs' l ∧ fi l = fi' l) → qp_lows bi fa fs fi d = qp_lows bi fa' fs' fi' d
  | 0, _ => rfl
  | d + 1, h => by
    show qp_low bi _ _ _ ++ _ = qp_low bi _ _ _ ++ _
    rw [qp_lows_cg d (fun l hl => h l (by omega)), (h d (by omega)).1, (h d (by omega)).2.1, (h d (by omega)).2.2]
theorem qp_top_low (a s i : Option V) (h : i = none → s = none) (hn : ¬ (qp_c s + qp_c i = 2)) : qp_top a s i = qp_low bi a s i ∧ ¬ qp_jbig bi big s i := by
  match s, i with
  | none, none => exact ⟨rfl, fun ⟨x, y, e, _⟩ => nomatch e⟩
  | none, some x => exact ⟨rfl, fun ⟨x, y, _, e, _⟩ => nomatch e⟩
  | some y, none => exact absurd (h rfl) (fun z => nomatch z)
  | some y, some x => exact absurd rfl hn
end
section
variable {V : Type} (lf : Nat → Nat → V) (un : Nat → Nat → Nat → V → V) (bi : Nat → V → V → V) (big : V → Prop)
variable {ywa ydd ynd yns yma ynt yno yrc yfo ybl yod ywr : Int32} {yan yab yac yad yal yabl yacl yacf ynu yfi ypa ysz yli ytx yki yf1 yf2 yo yoa yob yit yss ymo yst ymy ycl yrw yow yhi yla : Nat → Int32} {yen : Nat → Int64}
theorem ye_emit (n : Nat) (hn : n < 40) (hno : yno = nI n) (o a b : Int32) (post : SY → Prop) (hp : post (ywa, ydd, ynd, yns, yma, ynt, nI (n + 1), yrc, yfo, ybl, yod, ywr, yan, yab, yac, yad, yal, yabl, yacl, yacf, ynu, yfi, ypa, ysz, yli, ytx, yki, yf1, yf2, upd yo n o, upd yoa n a, upd yob n b, yit, yss, ymo, yst, ymy, ycl, yrw, yow, yen, yhi, yla)) : wpY_emit post (ywa, ydd, ynd, yns, yma, ynt, yno, yrc, yfo, ybl, yod, ywr, yan, yab, yac, yad, yal, yabl, yacl, yacf, ynu, yfi, ypa, ysz, yli, ytx, yki, yf1, yf2, yo, yoa, yob, yit, yss, ymo, yst, ymy, ycl, yrw, yow, yen, yhi, yla) o a b := by
  subst hno
  have hi : vp_in (nI n) 40 := pk_in n 40 hn
  refine And.intro hi (nm_e (And.intro hi (nm_e (nm_r (nI_1 n) (And.intro hi (nm_e ?_))))))
  rw [nI_clamp (by omega)]
  exact hp
/-- the first items of a seq and the next one are joined -/
theorem ye_both (l n : Nat) (hl : l < 20) (hn : n < 40) (hno : yno = nI n) (a s i : Option V) (R : List V) (P : Prop) (hO : qp_YO lf un bi big yo yoa yob n (qp_top a s i ++ R) P) (hlen : (qp_top a s i ++ R).length ≤ 17) (hsi : i = none → s = none) (hit : yit l = nI (qp_c s + qp_c i)) (post : SY → Prop)
  (hp : ∀ (n' : Nat) (o' oa' ob' it' : Nat → Int32), qp_YO lf un bi big o' oa' ob' n' (qp_low bi a s i ++ R) (P ∨ qp_jbig bi big s i) → n' ≤ n + 1 ∧ n' + (qp_low bi a s i ++ R).length ≤ n + (qp_top a s i ++ R).length → (qp_low bi a s i ++ R).length ≤ (qp_top a s i ++ R).length → it' l = nI (qp_c i) → (∀ j, j ≠ l → it' j = yit j) → post (ywa, ydd, ynd, yns, yma, ynt, nI n', yrc, yfo, ybl, yod, ywr, yan, yab, yac, yad, yal, yabl, yacl, yacf, ynu, yfi, ypa, ysz, yli, ytx, yki, yf1, yf2, o', oa', ob', it', yss, ymo, yst, ymy, ycl, yrw, yow, yen, yhi, yla)) : wpY_both post (ywa, ydd, ynd, yns, yma, ynt, yno, yrc, yfo, ybl, yod, ywr, yan, yab, yac, yad, yal, yabl, yacl, yacf, ynu, yfi, ypa, ysz, yli, ytx, yki, yf1, yf2, yo, yoa, yob, yit, yss, ymo, yst, ymy, ycl, yrw, yow, yen, yhi, yla) (nI l) := by
  have cl : (nI l).toNatClampNeg = l := nI_clamp (by omega)
  refine And.intro (pk_in l 20 hl) ?_
  rw [cl, hit]
  have hc : qp_c s + qp_c i ≤ 2 := by cases s <;> cases i <;> simp [qp_c]
  refine pk_le 2 (qp_c s + qp_c i) (fun hle => ?_) (fun hlt => ?_)
  · match s, i, hO, hp, hlen, hle with
    | some y, some x, hO, hp, hlen, hle =>
      refine ye_emit n hn hno 13 0 0 _ ⟨pk_in l 20 hl, nm_e ?_⟩
      have hO' := qp_YO_emit lf un bi big hO 13 0 0 0 0 (by omega) rfl rfl (fun h => absurd h (by omega)) (fun h => absurd h (by omega)) ⟨by omega, by omega, fun h => absurd h (by omega), fun h => absurd h (by omega), fun h => absurd h (by omega), fun _ => by simp [qp_top], fun h => absurd h (by omega)⟩ (by
        have e : (qp_y lf un bi 13 0 0 (qp_top a (some y) (some x) ++ R)).length + 1 = (qp_top a (some y) (some x) ++ R).length := by simp [qp_y, qp_top]
        omega)
      refine hp (n + 1) _ _ _ _ (qp_YO_iff lf un bi big hO' rfl ?_) ?_ ?_ pk_us (fun j hj => pk_un hj)
      · constructor
        · rintro (h | ⟨v, st, e, hb⟩)
          · exact Or.inl h
          · have e2 : bi 13 y x = v := by
              have : qp_y lf un bi 13 0 0 (qp_top a (some y) (some x) ++ R) = bi 13 y x :: (a.toList ++ R) := rfl
              rw [this] at e
              exact (List.cons.inj e).1
            exact Or.inr ⟨x, y, rfl, rfl, by rw [e2]; exact hb⟩
        · rintro (h | ⟨x', y', e1, e2, hb⟩)
          · exact Or.inl h
          · cases e1; cases e2
            exact Or.inr ⟨_, _, rfl, hb⟩
      · refine ⟨Nat.le_refl _, ?_⟩
        simp [qp_low, qp_top, qp_join]; omega
      · simp [qp_low, qp_top, qp_join]
    | none, none, _, _, _, hle => exact absurd hle (by simp [qp_c])
    | none, some x, _, _, _, hle => exact absurd hle (by simp [qp_c])
    | some y, none, _, _, _, hle => exact absurd hle (by simp [qp_c])
  · obtain ⟨e1, e2⟩ := qp_top_low bi big a s i hsi (by omega)
    rw [e1] at hp hO hlen
    have e3 : yit l = nI (qp_c i) := by
      rw [hit]
      congr 1
      match s, i with
      | none, none => rfl
      | none, some x => rfl
      | some y, none => exact absurd (hsi rfl) (fun z => nomatch z)
      | some y, some x => exact absurd hlt (by simp [qp_c])
    subst hno
    exact hp n yo yoa yob yit (qp_YO_iff lf un bi big hO rfl ⟨Or.inl, fun h => h.elim id (fun h => absurd h e2)⟩) ⟨by omega, Nat.le_refl _⟩ (Nat.le_refl _) e3 (fun j _ => rfl)
/-- a seq ends -/
theorem ye_end (l n : Nat) (hl : l < 20) (hn : n < 37) (hno : yno = nI n) (a s i : Option V) (R : List V) (P : Prop) (hnb : ¬ big (lf 12 0)) (hO : qp_YO lf un bi big yo yoa yob n (qp_top a s i ++ R) P) (hlen : (qp_top a s i ++ R).length ≤ 16) (hsi : i = none → s = none) (hit : yit l = nI (qp_c s + qp_c i)) (hmo : ymo l = nI (qp_c a)) (post : SY → Prop)
  (hp : ∀ (n' : Nat) (o' oa' ob' it' mo' : Nat → Int32), qp_YO lf un bi big o' oa' ob' n' (qp_alt bi a (qp_sq lf (qp_join bi s i)) :: R) ((P ∨ qp_jbig bi big s i) ∨ big (qp_alt bi a (qp_sq lf (qp_join bi s i)))) → n' + (1 + R.length) ≤ n + (qp_top a s i ++ R).length + 2 → 1 + R.length ≤ (qp_top a s i ++ R).length + 1 → it' l = 0 → mo' l = 1 → (∀ j, j ≠ l → it' j = yit j ∧ mo' j = ymo j) → post (ywa, ydd, ynd, yns, yma, ynt, nI n', yrc, yfo, ybl, yod, ywr, yan, yab, yac, yad, yal, yabl, yacl, yacf, ynu, yfi, ypa, ysz, yli, ytx, yki, yf1, yf2, o', oa', ob', it', yss, mo', yst, ymy, ycl, yrw, yow, yen, yhi, yla)) : wpY_endSeq post (ywa, ydd, ynd, yns, yma, ynt, yno, yrc, yfo, ybl, yod, ywr, yan, yab, yac, yad, yal, yabl, yacl, yacf, ynu, yfi, ypa, ysz, yli, ytx, yki, yf1, yf2, yo, yoa, yob, yit, yss, ymo, yst, ymy, ycl, yrw, yow, yen, yhi, yla) (nI l) := by
  have cl : (nI l).toNatClampNeg = l := nI_clamp (by omega)
  have hil : vp_in (nI l) 20 := pk_in l 20 hl
  unfold wpY_endSeq
  refine ye_both lf un bi big l n hl (by omega) hno a s i R P hO (by omega) hsi hit _ (fun n1 o1 oa1 ob1 it1 hO1 hn1 hl1 e1 ho1 => ?_)
  refine ⟨hil, ?_⟩
  rw [cl, e1]
  have hlen1 : (qp_low bi a s i ++ R).length ≤ 16 := by omega
  -- behind the items: the alt, if there is one
  have fin : ∀ (n2 : Nat) (o2 oa2 ob2 : Nat → Int32), n2 ≤ n1 + 1 → n2 + (1 + (a.toList.length + R.length)) ≤ n1 + (qp_low bi a s i ++ R).length + 2 → 1 + (a.toList.length + R.length) ≤ (qp_low bi a s i ++ R).length + 1 → qp_YO lf un bi big o2 oa2 ob2 n2 (qp_sq lf (qp_join bi s i) :: (a.toList ++ R)) (P ∨ qp_jbig bi big s i) → wY_endSeq_22 (fun u => post u) (nI l) ywa ydd ynd yns yma ynt (nI n2) yrc yfo ybl yod ywr yan yab yac yad yal yabl yacl yacf ynu yfi ypa ysz yli ytx yki yf1 yf2 o2 oa2 ob2 it1 yss ymo yst ymy ycl yrw yow yen yhi yla := by
    intro n2 o2 oa2 ob2 hn2 hn3 hl3 hO2
    refine ⟨hil, ?_⟩
    rw [cl, hmo]
    cases a with
    | none =>
      refine br_t rfl ⟨hil, nm_e ⟨hil, nm_e ?_⟩⟩
      rw [cl, xs_b1]
      refine hp n2 o2 oa2 ob2 _ _ (qp_YO_iff lf un bi big hO2 rfl ⟨Or.inl, fun h => h.elim id (fun h => qp_YO_big lf un bi big hO2 (List.mem_cons_self) h)⟩) ?_ ?_ pk_us pk_us (fun j hj => ⟨(pk_un hj).trans (ho1 j hj), pk_un hj⟩)
      · rw [show (none : Option V).toList.length = 0 from rfl] at hn3; omega
      · rw [show (none : Option V).toList.length = 0 from rfl] at hl3; omega
    | some y =>
      rw [show (some y).toList.length = 1 from rfl] at hn3 hl3
      refine br_f (by show ¬ nI 1 = 0; decide) ?_
      refine ye_emit n2 (by omega) rfl 14 0 0 _ ⟨hil, nm_e ⟨hil, nm_e ?_⟩⟩
      rw [cl, xs_b1]
      have hO' := qp_YO_emit lf un bi big hO2 14 0 0 0 0 (by omega) rfl rfl (fun h => absurd h (by omega)) (fun h => absurd h (by omega)) ⟨by omega, by omega, fun h => absurd h (by omega), fun h => absurd h (by omega), fun h => absurd h (by omega), fun _ => by simp, fun h => absurd h (by omega)⟩ (by
        have e : (qp_y lf un bi 14 0 0 (qp_sq lf (qp_join bi s i) :: ((some y).toList ++ R))).length = R.length + 1 := rfl
        omega)
      refine hp (n2 + 1) _ _ _ _ _ (qp_YO_iff lf un bi big hO' rfl ?_) ?_ ?_ pk_us pk_us (fun j hj => ⟨(pk_un hj).trans (ho1 j hj), pk_un hj⟩)
      · have e0 : qp_y lf un bi 14 0 0 (qp_sq lf (qp_join bi s i) :: ((some y).toList ++ R)) = bi 5 y (qp_sq lf (qp_join bi s i)) :: R := rfl
        rw [e0]
        constructor
        · rintro (h | ⟨v, st, e, hb⟩)
          · exact Or.inl h
          · have := (List.cons.inj e).1
            exact Or.inr (by show big (bi 5 y _); rw [this]; exact hb)
        · rintro (h | h)
          · exact Or.inl h
          · exact Or.inr ⟨_, _, rfl, h⟩
      · omega
      · omega
  cases i with
  | none =>
    have hs0 := hsi rfl
    subst hs0
    refine br_t rfl ?_
    have hO' := qp_YO_emit lf un bi big hO1 12 0 0 0 0 (by omega) rfl rfl (fun h => absurd h (by omega)) (fun h => absurd h (by omega)) ⟨by omega, by omega, fun h => absurd h (by omega), fun h => absurd h (by omega), fun h => absurd h (by omega), fun h => absurd h (by omega), fun h => absurd h (by omega)⟩ (by
      have e : (qp_y lf un bi 12 0 0 (qp_low bi a (none : Option V) none ++ R)).length = (qp_low bi a (none : Option V) none ++ R).length + 1 := rfl
      omega)
    refine ye_emit n1 (by have : (qp_low bi a (none : Option V) none ++ R).length ≥ 0 := Nat.zero_le _; omega) rfl 12 0 0 _ (fin (n1 + 1) _ _ _ (Nat.le_refl _) ?_ ?_ (qp_YO_iff lf un bi big hO' rfl ?_))
    · simp [qp_low, qp_join]; omega
    · simp [qp_low, qp_join]; omega
    · constructor
      · rintro (h | ⟨v, st, e, hb⟩)
        · exact h
        · have : lf 12 0 = v := (List.cons.inj e).1
          rw [← this] at hb
          exact absurd hb hnb
      · exact Or.inl
  | some x =>
    refine br_f (by show ¬ nI 1 = 0; decide) (fin n1 o1 oa1 ob1 (by omega) ?_ ?_ (qp_YO_iff lf un bi big hO1 ?_ Iff.rfl))
    · cases s <;> (simp [qp_low, qp_join]; omega)
    · cases s <;> (simp [qp_low, qp_join]; omega)
    · cases s <;> rfl
end
end
section
/-! the reference reads a token -/
section
variable {V : Type} (lf : Nat → Nat → V) (un : Nat → Nat → Nat → V → V) (bi : Nat → V → V → V) (big : V → Prop)
theorem qp_c_join (s i : Option V) (h : i = none → s = none) : qp_c (qp_join bi s i) = qp_c i := by
  match s, i with
  | none, none => rfl
  | none, some x => rfl
  | some y, none => exact absurd (h rfl) (fun z => nomatch z)
  | some y, some x => rfl
theorem qp_top_cons (a s : Option V) (x : V) : qp_top a s (some x) = x :: (s.toList ++ a.toList) := rfl
variable {ywa ydd ynd yns yma ynt yno yrc yfo ybl yod ywr : Int32} {yan yab yac yad yal yabl yacl yacf ynu yfi ypa ysz yli ytx yki yf1 yf2 yo yoa yob yit yss ymo yst ymy ycl yrw yow yhi yla : Nat → Int32} {yen : Nat → Int64}
theorem yp_rep (S : qp_S V) (t n k a b : Nat) (x : V) (ht : t < 16) (hk : 6 ≤ k ∧ k ≤ 9) (hab : k = 9 → a ≤ b ∧ b ≤ 3) (xa xb : Int32) (ha : xa.toNatClampNeg = a) (hb : xb.toNatClampNeg = b) (hB : k = 9 → xa = nI a ∧ xb = nI b) (hx : S.2.2.2.1 S.1 = some x) (hY : qp_Y lf un bi big S t yo yoa yob n yit ymo) : qp_Y lf un bi big (qp_step lf un bi big k a b S) (t + 1) (upd yo n (nI k)) (upd yoa n xa) (upd yob n xb) (n + 1) yit ymo := by
  obtain ⟨d, fa, fs, fi, B⟩ := S
  obtain ⟨h1, h2, h3, h4, h5, h6⟩ := hY
  dsimp only at hx h1 h2 h3 h4 h5 h6
  have hst : qp_st bi (d, fa, fs, fi, B) = x :: (((fs d).toList ++ (fa d).toList) ++ qp_lows bi fa fs fi d) := by
    unfold qp_st
    dsimp only
    rw [hx]
    rfl
  have e1 : qp_step lf un bi big k a b (d, fa, fs, fi, B) = (d, fa, fs, qp_set fi d (some (qp_rep lf un bi k a b x)), B ∨ big (qp_rep lf un bi k a b x)) := by
    unfold qp_step
    rw [if_neg (by omega), if_neg (by omega), if_neg (by omega), if_pos (by omega)]
    dsimp only
    rw [hx]
    rfl
  rw [e1]
  have hlo : qp_lows bi fa fs (qp_set fi d (some (qp_rep lf un bi k a b x))) d = qp_lows bi fa fs fi d := qp_lows_cg bi d (fun l hl => ⟨rfl, rfl, qp_set_n (by omega)⟩)
  have hst' : qp_st bi (d, fa, fs, qp_set fi d (some (qp_rep lf un bi k a b x)), B ∨ big (qp_rep lf un bi k a b x)) = qp_rep lf un bi k a b x :: (((fs d).toList ++ (fa d).toList) ++ qp_lows bi fa fs fi d) := by
    unfold qp_st
    dsimp only
    rw [qp_set_s, hlo]
    rfl
  rw [hst] at h3 h4 h5
  have hyy : qp_y lf un bi k a b (x :: (((fs d).toList ++ (fa d).toList) ++ qp_lows bi fa fs fi d)) = qp_rep lf un bi k a b x :: (((fs d).toList ++ (fa d).toList) ++ qp_lows bi fa fs fi d) := by
    unfold qp_y
    rw [if_neg (by omega), if_pos hk]
  have hO' := qp_YO_emit lf un bi big h5 k a b xa xb (by omega) ha hb (fun h => absurd h (by omega)) hB ⟨by omega, by omega, fun h => absurd h (by omega), fun h => absurd h (by omega), hab, fun h => absurd h (by omega), fun _ => by simp⟩ (by rw [hyy]; simp at h4 ⊢; omega)
  rw [hyy] at hO'
  refine ⟨?_, by dsimp only; omega, by rw [hst']; simp at h3 ⊢; omega, by rw [hst']; simp at h4 ⊢; omega, ?_, ?_⟩
  · intro l hl hn
    dsimp only at hn hl ⊢
    by_cases z : l = d
    · subst z; rw [qp_set_s] at hn; exact nomatch hn
    · rw [qp_set_n z] at hn; exact h1 l hl hn
  · rw [hst']
    refine qp_YO_iff lf un bi big hO' rfl ?_
    unfold qp_pd
    dsimp only
    have hpe : (∃ l, l < d ∧ qp_jbig bi big (fs l) (qp_set fi d (some (qp_rep lf un bi k a b x)) l)) ↔ ∃ l, l < d ∧ qp_jbig bi big (fs l) (fi l) := by
      constructor
      · rintro ⟨l, hl, h⟩; rw [qp_set_n (by omega)] at h; exact ⟨l, hl, h⟩
      · rintro ⟨l, hl, h⟩; exact ⟨l, hl, by rw [qp_set_n (by omega)]; exact h⟩
    rw [hpe]
    have hbb : qp_big1 big (qp_rep lf un bi k a b x :: (((fs d).toList ++ (fa d).toList) ++ qp_lows bi fa fs fi d)) ↔ big (qp_rep lf un bi k a b x) := by
      constructor
      · rintro ⟨v, s, e, h⟩; rw [(List.cons.inj e).1]; exact h
      · exact fun h => ⟨_, _, rfl, h⟩
    rw [hbb]
    constructor
    · rintro ((h | h) | h)
      · exact Or.inl (Or.inl h)
      · exact Or.inr h
      · exact Or.inl (Or.inr h)
    · rintro ((h | h) | h)
      · exact Or.inl (Or.inl h)
      · exact Or.inr h
      · exact Or.inl (Or.inr h)
  · obtain ⟨g1, g2, g3⟩ := h6
    dsimp only at g1 g2 g3
    refine ⟨fun l hl => ?_, ?_, g3⟩
    · dsimp only at hl ⊢
      rw [qp_set_n (by omega)]; exact g1 l hl
    · dsimp only
      rw [qp_set_s, g2, hx]
      rfl
theorem yp_bar (S : qp_S V) (t n a b : Nat) (ht : t < 16) (hnb : ¬ big (lf 12 0)) (hno : yno = nI n) (hY : qp_Y lf un bi big S t yo yoa yob n yit ymo) (post : SY → Prop)
  (hp : ∀ (n' : Nat) (o' oa' ob' it' mo' : Nat → Int32), qp_Y lf un bi big (qp_step lf un bi big 5 a b S) (t + 1) o' oa' ob' n' it' mo' → post (ywa, ydd, ynd, yns, yma, ynt, nI n', yrc, yfo, ybl, yod, ywr, yan, yab, yac, yad, yal, yabl, yacl, yacf, ynu, yfi, ypa, ysz, yli, ytx, yki, yf1, yf2, o', oa', ob', it', yss, mo', yst, ymy, ycl, yrw, yow, yen, yhi, yla)) : wpY_endSeq post (ywa, ydd, ynd, yns, yma, ynt, yno, yrc, yfo, ybl, yod, ywr, yan, yab, yac, yad, yal, yabl, yacl, yacf, ynu, yfi, ypa, ysz, yli, ytx, yki, yf1, yf2, yo, yoa, yob, yit, yss, ymo, yst, ymy, ycl, yrw, yow, yen, yhi, yla) (nI S.1) := by
  obtain ⟨d, fa, fs, fi, B⟩ := S
  obtain ⟨h1, h2, h3, h4, h5, g1, g2, g3⟩ := hY
  dsimp only at h1 h2 h3 h4 h5 g1 g2 g3
  unfold qp_st at h3 h4 h5
  dsimp only at h3 h4 h5
  refine ye_end lf un bi big d n (by omega) (by omega) hno (fa d) (fs d) (fi d) (qp_lows bi fa fs fi d) _ hnb h5 (by omega) (h1 d (Nat.le_refl _)) g2 (g3 d (Nat.le_refl _)) post (fun n' o' oa' ob' it' mo' hO hn hl hi0 hm1 hoth => ?_)
  apply hp
  have e1 : qp_step lf un bi big 5 a b (d, fa, fs, fi, B) = qp_end lf bi big d (d, fa, fs, fi, B) := rfl
  rw [e1]
  unfold qp_end
  dsimp only
  generalize hal : qp_alt bi (fa d) (qp_sq lf (qp_join bi (fs d) (fi d))) = al at *
  have hlo : qp_lows bi (qp_set fa d (some al)) (qp_set fs d none) (qp_set fi d none) d = qp_lows bi fa fs fi d := qp_lows_cg bi d (fun l hl => ⟨qp_set_n (by omega), qp_set_n (by omega), qp_set_n (by omega)⟩)
  have hst' : ∀ Q : Prop, qp_st bi (d, qp_set fa d (some al), qp_set fs d none, qp_set fi d none, Q) = al :: qp_lows bi fa fs fi d := by
    intro Q
    unfold qp_st
    dsimp only
    rw [qp_set_s, qp_set_s, qp_set_s, hlo]
    rfl
  refine ⟨?_, by dsimp only; omega, by rw [hst']; rw [List.length_cons]; omega, by rw [hst']; rw [List.length_cons]; omega, ?_, ?_⟩
  · intro l hl hn
    dsimp only at hn hl ⊢
    by_cases z : l = d
    · subst z; rw [qp_set_s]
    · rw [qp_set_n z] at hn ⊢; exact h1 l hl hn
  · rw [hst']
    refine qp_YO_iff lf un bi big hO rfl ?_
    unfold qp_pd
    dsimp only
    have hpe : (∃ l, l < d ∧ qp_jbig bi big (qp_set fs d none l) (qp_set fi d none l)) ↔ ∃ l, l < d ∧ qp_jbig bi big (fs l) (fi l) := by
      constructor
      · rintro ⟨l, hl, h⟩; rw [qp_set_n (by omega), qp_set_n (by omega)] at h; exact ⟨l, hl, h⟩
      · rintro ⟨l, hl, h⟩; exact ⟨l, hl, by rw [qp_set_n (by omega), qp_set_n (by omega)]; exact h⟩
    rw [hpe]
    constructor
    · rintro (((h | h) | h) | h)
      · exact Or.inl (Or.inl (Or.inl h))
      · exact Or.inr h
      · exact Or.inl (Or.inl (Or.inr h))
      · exact Or.inl (Or.inr h)
    · rintro (((h | h) | h) | h)
      · exact Or.inl (Or.inl (Or.inl h))
      · exact Or.inl (Or.inr h)
      · exact Or.inr h
      · exact Or.inl (Or.inl (Or.inr h))
  · refine ⟨fun l hl => ?_, ?_, fun l hl => ?_⟩
    · dsimp only at hl ⊢
      rw [qp_set_n (by omega), (hoth l (by omega)).1]; exact g1 l hl
    · dsimp only
      rw [qp_set_s, qp_set_s, hi0]
      rfl
    · dsimp only at hl ⊢
      by_cases z : l = d
      · subst z; rw [qp_set_s, hm1]; rfl
      · rw [qp_set_n z, (hoth l z).2]; exact g3 l hl
theorem yp_close (S : qp_S V) (t n a b : Nat) (ht : t < 16) (hd0 : S.1 ≠ 0) (hnb : ¬ big (lf 12 0)) (hno : yno = nI n) (hY : qp_Y lf un bi big S t yo yoa yob n yit ymo) (post : SY → Prop)
  (hp : ∀ (n' : Nat) (o' oa' ob' it' mo' : Nat → Int32) (c : Nat), it' (S.1 - 1) = nI c → qp_Y lf un bi big (qp_step lf un bi big 4 a b S) (t + 1) o' oa' ob' n' (upd it' (S.1 - 1) (nI (c + 1))) mo' → post (ywa, ydd, ynd, yns, yma, ynt, nI n', yrc, yfo, ybl, yod, ywr, yan, yab, yac, yad, yal, yabl, yacl, yacf, ynu, yfi, ypa, ysz, yli, ytx, yki, yf1, yf2, o', oa', ob', it', yss, mo', yst, ymy, ycl, yrw, yow, yen, yhi, yla)) : wpY_endSeq post (ywa, ydd, ynd, yns, yma, ynt, yno, yrc, yfo, ybl, yod, ywr, yan, yab, yac, yad, yal, yabl, yacl, yacf, ynu, yfi, ypa, ysz, yli, ytx, yki, yf1, yf2, yo, yoa, yob, yit, yss, ymo, yst, ymy, ycl, yrw, yow, yen, yhi, yla) (nI S.1) := by
  obtain ⟨d, fa, fs, fi, B⟩ := S
  obtain ⟨e, rfl⟩ : ∃ e, d = e + 1 := ⟨d - 1, by dsimp only at hd0; omega⟩
  obtain ⟨h1, h2, h3, h4, h5, g1, g2, g3⟩ := hY
  dsimp only at h1 h2 h3 h4 h5 g1 g2 g3
  unfold qp_st at h3 h4 h5
  dsimp only at h3 h4 h5
  refine ye_end lf un bi big (e + 1) n (by omega) (by omega) hno (fa (e + 1)) (fs (e + 1)) (fi (e + 1)) (qp_lows bi fa fs fi (e + 1)) _ hnb h5 (by omega) (h1 (e + 1) (Nat.le_refl _)) g2 (g3 (e + 1) (Nat.le_refl _)) post (fun n' o' oa' ob' it' mo' hO hn hl hi0 hm1 hoth => ?_)
  have hsi : fi e = none → fs e = none := h1 e (by omega)
  refine hp n' o' oa' ob' it' mo' (qp_c (fi e)) ?_ ?_
  · show it' (e + 1 - 1) = _
    rw [Nat.add_sub_cancel, (hoth e (by omega)).1]
    exact g1 e (by omega)
  have e1 : qp_step lf un bi big 4 a b (e + 1, fa, fs, fi, B) = qp_take bi big e ((qp_end lf bi big (e + 1) (e + 1, fa, fs, fi, B)).2.1 (e + 1)) (e, (qp_end lf bi big (e + 1) (e + 1, fa, fs, fi, B)).2) := rfl
  rw [e1]
  unfold qp_end qp_take
  dsimp only
  rw [qp_set_s, qp_set_n (show e ≠ e + 1 by omega), qp_set_n (show e ≠ e + 1 by omega)]
  generalize hal : qp_alt bi (fa (e + 1)) (qp_sq lf (qp_join bi (fs (e + 1)) (fi (e + 1)))) = al at *
  have hlo : qp_lows bi (qp_set fa (e + 1) (some al)) (qp_set (qp_set fs (e + 1) none) e (qp_join bi (fs e) (fi e))) (qp_set (qp_set fi (e + 1) none) e (some al)) e = qp_lows bi fa fs fi e := qp_lows_cg bi e (fun l hl => ⟨qp_set_n (by omega), by rw [qp_set_n (by omega), qp_set_n (by omega)], by rw [qp_set_n (by omega), qp_set_n (by omega)]⟩)
  have hst' : ∀ Q : Prop, qp_st bi (e, qp_set fa (e + 1) (some al), qp_set (qp_set fs (e + 1) none) e (qp_join bi (fs e) (fi e)), qp_set (qp_set fi (e + 1) none) e (some al), Q) = al :: qp_lows bi fa fs fi (e + 1) := by
    intro Q
    unfold qp_st
    dsimp only
    rw [qp_set_s, qp_set_s, qp_set_n (show e ≠ e + 1 by omega), hlo, qp_top_cons]
    show _ = al :: (qp_low bi (fa e) (fs e) (fi e) ++ qp_lows bi fa fs fi e)
    rfl
  refine ⟨?_, by dsimp only; omega, by rw [hst']; rw [List.length_cons]; omega, by rw [hst']; rw [List.length_cons]; omega, ?_, ?_⟩
  · intro l hl hn
    dsimp only at hn hl ⊢
    by_cases z : l = e
    · subst z; rw [qp_set_s] at hn; exact nomatch hn
    · rw [qp_set_n z, qp_set_n (by omega)] at hn ⊢; exact h1 l (by omega) hn
  · rw [hst']
    refine qp_YO_iff lf un bi big hO rfl ?_
    unfold qp_pd
    dsimp only
    have hpe : (∃ l, l < e ∧ qp_jbig bi big (qp_set (qp_set fs (e + 1) none) e (qp_join bi (fs e) (fi e)) l) (qp_set (qp_set fi (e + 1) none) e (some al) l)) ↔ ∃ l, l < e ∧ qp_jbig bi big (fs l) (fi l) := by
      constructor
      · rintro ⟨l, hl, h⟩; rw [qp_set_n (by omega), qp_set_n (by omega), qp_set_n (by omega), qp_set_n (by omega)] at h; exact ⟨l, hl, h⟩
      · rintro ⟨l, hl, h⟩; exact ⟨l, hl, by rw [qp_set_n (by omega), qp_set_n (by omega), qp_set_n (by omega), qp_set_n (by omega)]; exact h⟩
    have hpe2 : (∃ l, l < e + 1 ∧ qp_jbig bi big (fs l) (fi l)) ↔ qp_jbig bi big (fs e) (fi e) ∨ ∃ l, l < e ∧ qp_jbig bi big (fs l) (fi l) := by
      constructor
      · rintro ⟨l, hl, h⟩
        by_cases z : l = e
        · subst z; exact Or.inl h
        · exact Or.inr ⟨l, by omega, h⟩
      · rintro (h | ⟨l, hl, h⟩)
        · exact ⟨e, by omega, h⟩
        · exact ⟨l, by omega, h⟩
    rw [hpe, hpe2]
    constructor
    · rintro (((h | (h | h)) | h) | h)
      · exact Or.inl (Or.inl (Or.inl (Or.inl h)))
      · exact Or.inl (Or.inr h)
      · exact Or.inr h
      · exact Or.inl (Or.inl (Or.inl (Or.inr h)))
      · exact Or.inl (Or.inl (Or.inr h))
    · rintro ((((h | h) | h) | h) | h)
      · exact Or.inl (Or.inl (Or.inl h))
      · exact Or.inl (Or.inr h)
      · exact Or.inr h
      · exact Or.inl (Or.inl (Or.inr (Or.inl h)))
      · exact Or.inl (Or.inl (Or.inr (Or.inr h)))
  · refine ⟨fun l hl => ?_, ?_, fun l hl => ?_⟩
    · dsimp only at hl ⊢
      rw [qp_set_n (by omega), qp_set_n (by omega), pk_un (by omega), (hoth l (by omega)).1]; exact g1 l (by omega)
    · dsimp only
      rw [qp_set_s, qp_set_s, show e + 1 - 1 = e from rfl, pk_us, qp_c_join bi _ _ hsi]
      rfl
    · dsimp only at hl ⊢
      rw [qp_set_n (by omega), (hoth l (by omega)).2]; exact g3 l (by omega)
end
end
section
/-! the reference reads the expression -/
section
variable {V : Type} (lf : Nat → Nat → V) (un : Nat → Nat → Nat → V → V) (bi : Nat → V → V → V) (big : V → Prop)
variable {ywa ydd ynd yns yma ynt yno yrc yfo ybl yod ywr : Int32} {yan yab yac yad yal yabl yacl yacf ynu yfi ypa ysz yli ytx yki yf1 yf2 yo yoa yob yit yss ymo yst ymy ycl yrw yow yhi yla : Nat → Int32} {yen : Nat → Int64}
theorem yp_open (S : qp_S V) (t n a b : Nat) (ht : t < 16) (hno : yno = nI n) (hY : qp_Y lf un bi big S t yo yoa yob n yit ymo) (post : SY → Prop)
  (hp : ∀ (n' : Nat) (o' oa' ob' it' : Nat → Int32), qp_Y lf un bi big (qp_step lf un bi big 3 a b S) (t + 1) o' oa' ob' n' (upd it' (S.1 + 1) 0) (upd ymo (S.1 + 1) 0) → post (ywa, ydd, ynd, yns, yma, ynt, nI n', yrc, yfo, ybl, yod, ywr, yan, yab, yac, yad, yal, yabl, yacl, yacf, ynu, yfi, ypa, ysz, yli, ytx, yki, yf1, yf2, o', oa', ob', it', yss, ymo, yst, ymy, ycl, yrw, yow, yen, yhi, yla)) : wpY_both post (ywa, ydd, ynd, yns, yma, ynt, yno, yrc, yfo, ybl, yod, ywr, yan, yab, yac, yad, yal, yabl, yacl, yacf, ynu, yfi, ypa, ysz, yli, ytx, yki, yf1, yf2, yo, yoa, yob, yit, yss, ymo, yst, ymy, ycl, yrw, yow, yen, yhi, yla) (nI S.1) := by
  obtain ⟨d, fa, fs, fi, B⟩ := S
  obtain ⟨h1, h2, h3, h4, h5, g1, g2, g3⟩ := hY
  dsimp only at h1 h2 h3 h4 h5 g1 g2 g3
  unfold qp_st at h3 h4 h5
  dsimp only at h3 h4 h5
  refine ye_both lf un bi big d n (by omega) (by omega) hno (fa d) (fs d) (fi d) (qp_lows bi fa fs fi d) _ h5 (by omega) (h1 d (Nat.le_refl _)) g2 post (fun n' o' oa' ob' it' hO hn hl hi0 hoth => ?_)
  apply hp
  have e1 : qp_step lf un bi big 3 a b (d, fa, fs, fi, B) = (d + 1, qp_set fa (d + 1) none, qp_set fs (d + 1) none, qp_set fi (d + 1) none, B) := rfl
  rw [e1]
  have hlo : qp_lows bi (qp_set fa (d + 1) none) (qp_set fs (d + 1) none) (qp_set fi (d + 1) none) (d + 1) = qp_lows bi fa fs fi (d + 1) := qp_lows_cg bi (d + 1) (fun l hl => ⟨qp_set_n (by omega), qp_set_n (by omega), qp_set_n (by omega)⟩)
  have hst' : qp_st bi (d + 1, qp_set fa (d + 1) none, qp_set fs (d + 1) none, qp_set fi (d + 1) none, B) = qp_low bi (fa d) (fs d) (fi d) ++ qp_lows bi fa fs fi d := by
    unfold qp_st
    dsimp only
    rw [qp_set_s, qp_set_s, qp_set_s, hlo]
    rfl
  refine ⟨?_, by dsimp only; omega, by rw [hst']; omega, by rw [hst']; omega, ?_, ?_⟩
  · intro l hl hn
    dsimp only at hn hl ⊢
    by_cases z : l = d + 1
    · subst z; rw [qp_set_s]
    · rw [qp_set_n z] at hn ⊢; exact h1 l (by omega) hn
  · rw [hst']
    refine qp_YO_iff lf un bi big hO rfl ?_
    unfold qp_pd
    dsimp only
    have hpe : (∃ l, l < d + 1 ∧ qp_jbig bi big (qp_set fs (d + 1) none l) (qp_set fi (d + 1) none l)) ↔ qp_jbig bi big (fs d) (fi d) ∨ ∃ l, l < d ∧ qp_jbig bi big (fs l) (fi l) := by
      constructor
      · rintro ⟨l, hl, h⟩
        rw [qp_set_n (by omega), qp_set_n (by omega)] at h
        by_cases z : l = d
        · subst z; exact Or.inl h
        · exact Or.inr ⟨l, by omega, h⟩
      · rintro (h | ⟨l, hl, h⟩)
        · exact ⟨d, by omega, by rw [qp_set_n (by omega), qp_set_n (by omega)]; exact h⟩
        · exact ⟨l, by omega, by rw [qp_set_n (by omega), qp_set_n (by omega)]; exact h⟩
    rw [hpe]
    constructor
    · rintro ((h | h) | h)
      · exact Or.inl h
      · exact Or.inr (Or.inr h)
      · exact Or.inr (Or.inl h)
    · rintro (h | (h | h))
      · exact Or.inl (Or.inl h)
      · exact Or.inr h
      · exact Or.inl (Or.inr h)
  · refine ⟨fun l hl => ?_, ?_, fun l hl => ?_⟩
    · dsimp only at hl ⊢
      rw [qp_set_n (by omega), pk_un (by omega)]
      by_cases z : l = d
      · subst z; exact hi0
      · rw [hoth l z]; exact g1 l (by omega)
    · dsimp only
      rw [qp_set_s, qp_set_s, pk_us]
      rfl
    · dsimp only at hl ⊢
      by_cases z : l = d + 1
      · subst z; rw [qp_set_s, pk_us]; rfl
      · rw [qp_set_n z, pk_un z]; exact g3 l (by omega)
theorem yp_leaf (S : qp_S V) (t n k a b : Nat) (ht : t < 16) (hk : k < 3 ∨ k = 10 ∨ k = 11) (hk0 : k = 0 → a < 6) (hk2 : k = 2 → 1 ≤ a ∧ a ≤ 63) (xa xb : Int32) (ha : xa.toNatClampNeg = a) (hb : xb.toNatClampNeg = b) (hA : k = 0 ∨ k = 2 → xa = nI a) (hno : yno = nI n) (hY : qp_Y lf un bi big S t yo yoa yob n yit ymo) (post : SY → Prop)
  (hp : ∀ (n' : Nat) (o' oa' ob' it' : Nat → Int32) (c : Nat), n' < 40 → it' S.1 = nI c → qp_Y lf un bi big (qp_step lf un bi big k a b S) (t + 1) (upd o' n' (nI k)) (upd oa' n' xa) (upd ob' n' xb) (n' + 1) (upd it' S.1 (nI (c + 1))) ymo → post (ywa, ydd, ynd, yns, yma, ynt, nI n', yrc, yfo, ybl, yod, ywr, yan, yab, yac, yad, yal, yabl, yacl, yacf, ynu, yfi, ypa, ysz, yli, ytx, yki, yf1, yf2, o', oa', ob', it', yss, ymo, yst, ymy, ycl, yrw, yow, yen, yhi, yla)) : wpY_both post (ywa, ydd, ynd, yns, yma, ynt, yno, yrc, yfo, ybl, yod, ywr, yan, yab, yac, yad, yal, yabl, yacl, yacf, ynu, yfi, ypa, ysz, yli, ytx, yki, yf1, yf2, yo, yoa, yob, yit, yss, ymo, yst, ymy, ycl, yrw, yow, yen, yhi, yla) (nI S.1) := by
  obtain ⟨d, fa, fs, fi, B⟩ := S
  obtain ⟨h1, h2, h3, h4, h5, g1, g2, g3⟩ := hY
  dsimp only at h1 h2 h3 h4 h5 g1 g2 g3
  unfold qp_st at h3 h4 h5
  dsimp only at h3 h4 h5
  have hsi := h1 d (Nat.le_refl _)
  refine ye_both lf un bi big d n (by omega) (by omega) hno (fa d) (fs d) (fi d) (qp_lows bi fa fs fi d) _ h5 (by omega) hsi g2 post (fun n' o' oa' ob' it' hO hn hl hi0 hoth => ?_)
  refine hp n' o' oa' ob' it' (qp_c (fi d)) (by omega) hi0 ?_
  have e1 : qp_step lf un bi big k a b (d, fa, fs, fi, B) = (d, fa, qp_set fs d (qp_join bi (fs d) (fi d)), qp_set fi d (some (qp_leaf lf k a)), (B ∨ qp_jbig bi big (fs d) (fi d)) ∨ big (qp_leaf lf k a)) := by
    unfold qp_step
    rw [if_neg (by omega), if_neg (by omega), if_neg (by omega), if_neg (by omega)]
    rfl
  rw [e1]
  have hyy : qp_y lf un bi k a b (qp_low bi (fa d) (fs d) (fi d) ++ qp_lows bi fa fs fi d) = qp_leaf lf k a :: (qp_low bi (fa d) (fs d) (fi d) ++ qp_lows bi fa fs fi d) := by
    unfold qp_y
    rw [if_neg (by omega), if_neg (by omega), if_neg (by omega)]
  have hO' := qp_YO_emit lf un bi big hO k a b xa xb (by omega) ha hb hA (fun h => absurd h (by omega)) ⟨by omega, by omega, hk0, hk2, fun h => absurd h (by omega), fun h => absurd h (by omega), fun h => absurd h (by omega)⟩ (by rw [hyy, List.length_cons]; omega)
  rw [hyy] at hO'
  generalize hLF : qp_leaf lf k a = LF at *
  have hlo : qp_lows bi fa (qp_set fs d (qp_join bi (fs d) (fi d))) (qp_set fi d (some LF)) d = qp_lows bi fa fs fi d := qp_lows_cg bi d (fun l hl => ⟨rfl, qp_set_n (by omega), qp_set_n (by omega)⟩)
  have hst' : ∀ Q : Prop, qp_st bi (d, fa, qp_set fs d (qp_join bi (fs d) (fi d)), qp_set fi d (some LF), Q) = LF :: (qp_low bi (fa d) (fs d) (fi d) ++ qp_lows bi fa fs fi d) := by
    intro Q
    unfold qp_st
    dsimp only
    rw [qp_set_s, qp_set_s, hlo]
    rfl
  refine ⟨?_, by dsimp only; omega, by rw [hst', List.length_cons]; omega, by rw [hst', List.length_cons]; omega, ?_, ?_⟩
  · intro l hl hn'
    dsimp only at hn' hl ⊢
    by_cases z : l = d
    · subst z; rw [qp_set_s] at hn'; exact nomatch hn'
    · rw [qp_set_n z] at hn' ⊢; exact h1 l hl hn'
  · rw [hst']
    refine qp_YO_iff lf un bi big hO' rfl ?_
    unfold qp_pd
    dsimp only
    have hpe : (∃ l, l < d ∧ qp_jbig bi big (qp_set fs d (qp_join bi (fs d) (fi d)) l) (qp_set fi d (some LF) l)) ↔ ∃ l, l < d ∧ qp_jbig bi big (fs l) (fi l) := by
      constructor
      · rintro ⟨l, hl, h⟩; rw [qp_set_n (by omega), qp_set_n (by omega)] at h; exact ⟨l, hl, h⟩
      · rintro ⟨l, hl, h⟩; exact ⟨l, hl, by rw [qp_set_n (by omega), qp_set_n (by omega)]; exact h⟩
    rw [hpe]
    have hbb : qp_big1 big (LF :: (qp_low bi (fa d) (fs d) (fi d) ++ qp_lows bi fa fs fi d)) ↔ big LF := by
      constructor
      · rintro ⟨v, s, e, h⟩; rw [(List.cons.inj e).1]; exact h
      · exact fun h => ⟨_, _, rfl, h⟩
    rw [hbb]
    constructor
    · rintro (((h | h) | h) | h)
      · exact Or.inl (Or.inl (Or.inl h))
      · exact Or.inr h
      · exact Or.inl (Or.inl (Or.inr h))
      · exact Or.inl (Or.inr h)
    · rintro (((h | h) | h) | h)
      · exact Or.inl (Or.inl (Or.inl h))
      · exact Or.inl (Or.inr h)
      · exact Or.inr h
      · exact Or.inl (Or.inl (Or.inr h))
  · refine ⟨fun l hl => ?_, ?_, g3⟩
    · dsimp only at hl ⊢
      rw [qp_set_n (by omega), pk_un (by omega), hoth l (by omega)]; exact g1 l hl
    · dsimp only
      rw [qp_set_s, qp_set_s, pk_us, qp_c_join bi _ _ hsi]
      rfl
/-- the first token that no alt goes on with -/
def qp_badb (k : Nat) (S : qp_S V) : Bool := (decide (6 ≤ k ∧ k ≤ 9) && (S.2.2.2.1 S.1).isNone) || (decide (k = 4) && decide (S.1 = 0))
def qp_wr (K A B : Nat → Nat) (nt : Nat) : Nat → Nat → Int32
  | 0, _ => if (qp_run lf un bi big K A B nt).1 = 0 then -1 else nI nt
  | m + 1, t => if qp_badb (K t) (qp_run lf un bi big K A B t) = true then nI t else qp_wr K A B nt m (t + 1)
def qp_wrong (K A B : Nat → Nat) (nt : Nat) : Int32 := qp_wr lf un bi big K A B nt nt 0
def qk_K (a : Nat → Int32) : Nat → Nat := fun t => (a t).toNatClampNeg
theorem yp_loop (nt : Nat) (hk : qk_ok yki yf1 yf2 nt) (hnt : ynt = nI nt) (hnb : ¬ big (lf 12 0)) (post : Int32 → SY → Prop)
  (hb : ∀ (r : Int32) (no : Int32) (o' oa' ob' it' mo' : Nat → Int32), r = qp_wrong lf un bi big (qk_K yki) (qk_K yf1) (qk_K yf2) nt → r ≠ -1 → post r (ywa, ydd, ynd, yns, yma, ynt, no, yrc, yfo, ybl, yod, ywr, yan, yab, yac, yad, yal, yabl, yacl, yacf, ynu, yfi, ypa, ysz, yli, ytx, yki, yf1, yf2, o', oa', ob', it', yss, mo', yst, ymy, ycl, yrw, yow, yen, yhi, yla))
  (hg : ∀ (n' : Nat) (o' oa' ob' it' mo' : Nat → Int32), qp_wrong lf un bi big (qk_K yki) (qk_K yf1) (qk_K yf2) nt = -1 → n' ≤ 33 → qp_YO lf un bi big o' oa' ob' n' [qp_alt bi ((qp_run lf un bi big (qk_K yki) (qk_K yf1) (qk_K yf2) nt).2.1 0) (qp_sq lf (qp_join bi ((qp_run lf un bi big (qk_K yki) (qk_K yf1) (qk_K yf2) nt).2.2.1 0) ((qp_run lf un bi big (qk_K yki) (qk_K yf1) (qk_K yf2) nt).2.2.2.1 0)))] (qp_end lf bi big 0 (qp_run lf un bi big (qk_K yki) (qk_K yf1) (qk_K yf2) nt)).2.2.2.2 → post (-1) (ywa, ydd, ynd, yns, yma, ynt, nI n', yrc, yfo, ybl, yod, ywr, yan, yab, yac, yad, yal, yabl, yacl, yacf, ynu, yfi, ypa, ysz, yli, ytx, yki, yf1, yf2, o', oa', ob', it', yss, mo', yst, ymy, ycl, yrw, yow, yen, yhi, yla)) :
  ∀ (N t n : Nat) (o' oa' ob' it' mo' : Nat → Int32), t ≤ nt → nt - t < N → qp_wr lf un bi big (qk_K yki) (qk_K yf1) (qk_K yf2) nt (nt - t) t = qp_wrong lf un bi big (qk_K yki) (qk_K yf1) (qk_K yf2) nt → qp_Y lf un bi big (qp_run lf un bi big (qk_K yki) (qk_K yf1) (qk_K yf2) t) t o' oa' ob' n it' mo' → wY_parse_16 post N (nI (qp_run lf un bi big (qk_K yki) (qk_K yf1) (qk_K yf2) t).1) (nI (qp_c ((qp_run lf un bi big (qk_K yki) (qk_K yf1) (qk_K yf2) t).2.2.2.1 (qp_run lf un bi big (qk_K yki) (qk_K yf1) (qk_K yf2) t).1))) (nI t) ywa ydd ynd yns yma ynt (nI n) yrc yfo ybl yod ywr yan yab yac yad yal yabl yacl yacf ynu yfi ypa ysz yli ytx yki yf1 yf2 o' oa' ob' it' yss mo' yst ymy ycl yrw yow yen yhi yla := by
  intro N
  subst hnt
  have h16 := hk.1
  induction N with
  | zero => intro t n o' oa' ob' it' mo' h1 h2; omega
  | succ N ih =>
    intro t n o' oa' ob' it' mo' h1 h2 h3 h4
    have hdt := h4.2.1
    refine pk_le nt t (fun hle => ?_) (fun hlt => ?_)
    · have e : t = nt := by omega
      subst e
      rw [Nat.sub_self] at h3
      unfold qp_wr at h3
      refine pk_le (qp_run lf un bi big (qk_K yki) (qk_K yf1) (qk_K yf2) t).1 0 (fun hz => ?_) (fun hz => ?_)
      · rw [if_pos (by omega)] at h3
        have e0 : (qp_run lf un bi big (qk_K yki) (qk_K yf1) (qk_K yf2) t).1 = 0 := by omega
        obtain ⟨g1, g2, g3, g4, g5, l1, l2, l3⟩ := h4
        generalize qp_run lf un bi big (qk_K yki) (qk_K yf1) (qk_K yf2) t = S at *
        obtain ⟨d, fa, fs, fi, B⟩ := S
        dsimp only at e0 g1 g2 g3 g4 g5 l1 l2 l3 hg
        subst e0
        unfold qp_st at g3 g4 g5
        dsimp only at g3 g4 g5
        refine ye_end lf un bi big 0 n (by omega) (by omega) rfl (fa 0) (fs 0) (fi 0) [] _ hnb g5 (by show _ ≤ 16; exact Nat.le_trans g4 (by omega)) (g1 0 (Nat.le_refl _)) l2 (l3 0 (Nat.le_refl _)) _ (fun n' o2 oa2 ob2 it2 mo2 hO hn hl hi0 hm1 hoth => ?_)
        have g3' : n + (qp_top (fa 0) (fs 0) (fi 0) ++ []).length ≤ 2 * t := g3
        refine hg n' o2 oa2 ob2 it2 mo2 h3.symm (by simp only [List.length_nil] at hn; omega) (qp_YO_iff lf un bi big hO rfl ?_)
        unfold qp_end qp_pd
        dsimp only
        constructor
        · rintro (((h | ⟨l, hl, _⟩) | h) | h)
          · exact Or.inl (Or.inl h)
          · exact absurd hl (by omega)
          · exact Or.inl (Or.inr h)
          · exact Or.inr h
        · rintro ((h | h) | h)
          · exact Or.inl (Or.inl (Or.inl h))
          · exact Or.inl (Or.inr h)
          · exact Or.inr h
      · rw [if_neg (by omega)] at h3
        exact hb _ _ _ _ _ _ _ h3 (xs_nm1 (by omega))
    · have hm : nt - t = (nt - (t + 1)) + 1 := by omega
      rw [hm] at h3
      unfold qp_wr at h3
      obtain ⟨k, hk12, ek, q0, q2, q9⟩ := hk.2 t hlt
      have eK : qk_K yki t = k := by unfold qk_K; rw [ek]; exact nI_clamp (by omega)
      have hrun : qp_run lf un bi big (qk_K yki) (qk_K yf1) (qk_K yf2) (t + 1) = qp_step lf un bi big k (qk_K yf1 t) (qk_K yf2 t) (qp_run lf un bi big (qk_K yki) (qk_K yf1) (qk_K yf2) t) := by
        show qp_step lf un bi big (qk_K yki t) _ _ _ = _
        rw [eK]
      rw [eK] at h3
      have ct : (nI t).toNatClampNeg = t := nI_clamp (by omega)
      have hit : vp_in (nI t) 16 := pk_in t 16 (by omega)
      have next := fun (n2 : Nat) (o2 oa2 ob2 it2 mo2 : Nat → Int32) (hw : qp_badb k (qp_run lf un bi big (qk_K yki) (qk_K yf1) (qk_K yf2) t) = false) (h : qp_Y lf un bi big (qp_step lf un bi big k (qk_K yf1 t) (qk_K yf2 t) (qp_run lf un bi big (qk_K yki) (qk_K yf1) (qk_K yf2) t)) (t + 1) o2 oa2 ob2 n2 it2 mo2) => ih (t + 1) n2 o2 oa2 ob2 it2 mo2 (by omega) (by omega) (by rw [hw] at h3; exact h3) (by rw [hrun]; exact h)
      rw [hrun] at next
      generalize hS : qp_run lf un bi big (qk_K yki) (qk_K yf1) (qk_K yf2) t = S at *
      refine ⟨hit, nm_r (e' := nI k) (by rw [ct]; exact ek) ?_⟩
      by_cases hrep : 6 ≤ k ∧ k ≤ 9
      · refine ys_in (nI k) 6 9 (by decide) (by decide) 6 9 rfl rfl _ (fun z => absurd rfl (z k hrep.1 hrep.2)) (fun _ _ _ _ => br_f (by decide) ?_)
        cases hfi : S.2.2.2.1 S.1 with
        | none =>
          refine br_t rfl ?_
          have hbad : qp_badb k S = true := by unfold qp_badb; rw [hfi]; simp [hrep]
          rw [if_pos hbad] at h3
          exact hb _ _ _ _ _ _ _ h3 (xs_nm1 (by omega))
        | some x =>
          have hnb' : qp_badb k S = false := by unfold qp_badb; rw [hfi]; simp; omega
          have n4 : ¬ nI k = 4 := fun e => by rw [show (4 : Int32) = nI 4 from rfl, nI_eq (by omega) (by omega)] at e; omega
          have n5 : ¬ nI k = 5 := fun e => by rw [show (5 : Int32) = nI 5 from rfl, nI_eq (by omega) (by omega)] at e; omega
          have n3 : ¬ nI k = 3 := fun e => by rw [show (3 : Int32) = nI 3 from rfl, nI_eq (by omega) (by omega)] at e; omega
          have hn40 : n < 40 := by have := h4.2.2.1; omega
          refine br_f (by show ¬ nI 1 = 0; decide) (br_f n4 (br_f n5 (br_f n3 (br_f (by decide) ⟨hit, hit, ?_⟩))))
          rw [ct]
          refine ye_emit n hn40 rfl _ _ _ _ (nm_r (nI_1 t) ?_)
          have hh := yp_rep lf un bi big S t n k (qk_K yf1 t) (qk_K yf2 t) x (by omega) hrep (fun e9 => by
            obtain ⟨a, b, h1, h2, e1, e2⟩ := q9 e9
            unfold qk_K
            rw [e1, e2, nI_clamp (by omega), nI_clamp (by omega)]
            exact ⟨h1, h2⟩) (yf1 t) (yf2 t) rfl rfl (fun e9 => by
            obtain ⟨a, b, h1, h2, e1, e2⟩ := q9 e9
            unfold qk_K
            rw [e1, e2, nI_clamp (by omega), nI_clamp (by omega)]
            exact ⟨rfl, rfl⟩) hfi h4
          have hnx := next _ _ _ _ _ _ hnb' hh
          have e1 : qp_step lf un bi big k (qk_K yf1 t) (qk_K yf2 t) S = (S.1, S.2.1, S.2.2.1, qp_set S.2.2.2.1 S.1 (some (qp_rep lf un bi k (qk_K yf1 t) (qk_K yf2 t) ((S.2.2.2.1 S.1).getD (lf 12 0)))), S.2.2.2.2 ∨ big (qp_rep lf un bi k (qk_K yf1 t) (qk_K yf2 t) ((S.2.2.2.1 S.1).getD (lf 12 0)))) := by
            unfold qp_step
            rw [if_neg (by omega), if_neg (by omega), if_neg (by omega), if_pos (by omega)]
          rw [e1] at hnx
          dsimp only at hnx
          rw [qp_set_s] at hnx
          exact hnx
      · refine ys_in (nI k) 6 9 (by decide) (by decide) 6 9 rfl rfl _ (fun _ => br_t rfl ?_) (fun j h5 h6 e => by rw [nI_eq (by omega) (by omega)] at e; omega)
        by_cases k4 : k = 4
        · subst k4
          refine br_t rfl (pk_eq S.1 0 (fun hz => ?_) (fun hz => ?_))
          · have hbad : qp_badb 4 S = true := by unfold qp_badb; simp [hz]
            rw [if_pos hbad] at h3
            exact hb _ _ _ _ _ _ _ h3 (xs_nm1 (by omega))
          · have hnb' : qp_badb 4 S = false := by unfold qp_badb; simp [hz]
            refine br_f (by decide) (br_f (by decide) (br_t rfl (br_f (by decide) (br_t rfl ?_))))
            refine yp_close lf un bi big S t n (qk_K yf1 t) (qk_K yf2 t) (by omega) hz hnb rfl h4 _ (fun n' o2 oa2 ob2 it2 mo2 c hc hh => ?_)
            have e1 : nI S.1 + (-1) = nI (S.1 - 1) := by
              obtain ⟨m, hm'⟩ : ∃ m, S.1 = m + 1 := ⟨S.1 - 1, by omega⟩
              rw [hm', pk_m1]
              rfl
            refine nm_r e1 ⟨pk_in (S.1 - 1) 20 (by omega), pk_in (S.1 - 1) 20 (by omega), nm_e (nm_r (nI_1 t) ?_)⟩
            rw [nI_clamp (by omega), hc, nI_1]
            have hnx := next _ _ _ _ _ _ hnb' hh
            have e2 : (qp_step lf un bi big 4 (qk_K yf1 t) (qk_K yf2 t) S).1 = S.1 - 1 := rfl
            have e3 : (qp_step lf un bi big 4 (qk_K yf1 t) (qk_K yf2 t) S).2.2.2.1 (S.1 - 1) = some (qp_alt bi (S.2.1 S.1) (qp_sq lf (qp_join bi (S.2.2.1 S.1) (S.2.2.2.1 S.1)))) := by
              show qp_set _ (S.1 - 1) ((qp_set S.2.1 S.1 _) S.1) (S.1 - 1) = _
              rw [qp_set_s, qp_set_s]
            rw [e2, e3] at hnx
            exact hnx
        · have n4 : ¬ nI k = 4 := fun e => by rw [show (4 : Int32) = nI 4 from rfl, nI_eq (by omega) (by omega)] at e; omega
          have hnb' : qp_badb k S = false := by unfold qp_badb; simp [hrep, k4]
          refine br_f n4 ?_
          by_cases k5 : k = 5
          · subst k5
            refine br_t rfl (br_t rfl (br_t rfl ?_))
            refine yp_bar lf un bi big S t n (qk_K yf1 t) (qk_K yf2 t) (by omega) hnb rfl h4 _ (fun n' o2 oa2 ob2 it2 mo2 hh => nm_r (nI_1 t) ?_)
            have hnx := next _ _ _ _ _ _ hnb' hh
            have e2 : (qp_step lf un bi big 5 (qk_K yf1 t) (qk_K yf2 t) S).1 = S.1 := rfl
            have e3 : (qp_step lf un bi big 5 (qk_K yf1 t) (qk_K yf2 t) S).2.2.2.1 S.1 = none := by
              show qp_set S.2.2.2.1 S.1 none S.1 = none
              rw [qp_set_s]
            rw [e2, e3] at hnx
            exact hnx
          · have n5 : ¬ nI k = 5 := fun e => by rw [show (5 : Int32) = nI 5 from rfl, nI_eq (by omega) (by omega)] at e; omega
            refine br_f n5 ?_
            by_cases k3 : k = 3
            · subst k3
              refine br_t rfl (br_t rfl (br_f (by decide) (br_f (by decide) ?_)))
              refine yp_open lf un bi big S t n (qk_K yf1 t) (qk_K yf2 t) (by omega) rfl h4 _ (fun n' o2 oa2 ob2 it2 hh => br_t rfl (nm_r (nI_1 _) ?_))
              have hil : vp_in (nI (S.1 + 1)) 20 := pk_in (S.1 + 1) 20 (by omega)
              refine And.intro hil (nm_e (And.intro hil (nm_e (nm_r (nI_1 t) ?_))))
              rw [nI_clamp (by omega), xs_b0]
              have hnx := next _ _ _ _ _ _ hnb' hh
              have e2 : (qp_step lf un bi big 3 (qk_K yf1 t) (qk_K yf2 t) S).1 = S.1 + 1 := rfl
              have e3 : (qp_step lf un bi big 3 (qk_K yf1 t) (qk_K yf2 t) S).2.2.2.1 (S.1 + 1) = none := by
                show qp_set S.2.2.2.1 (S.1 + 1) none (S.1 + 1) = none
                rw [qp_set_s]
              rw [e2, e3] at hnx
              exact hnx
            · have n3 : ¬ nI k = 3 := fun e => by rw [show (3 : Int32) = nI 3 from rfl, nI_eq (by omega) (by omega)] at e; omega
              refine br_f n3 (br_t rfl (br_f n5 (br_f n4 ?_)))
              have hq0 : k = 0 → qk_K yf1 t < 6 := fun e => by
                obtain ⟨a, h1, e1⟩ := q0 e
                unfold qk_K
                rw [e1, nI_clamp (by omega)]; exact h1
              have hq2 : k = 2 → 1 ≤ qk_K yf1 t ∧ qk_K yf1 t ≤ 63 := fun e => by
                obtain ⟨a, h1, h2, e1⟩ := q2 e
                unfold qk_K
                rw [e1, nI_clamp (by omega)]; exact ⟨h1, h2⟩
              have hqA : k = 0 ∨ k = 2 → yf1 t = nI (qk_K yf1 t) := fun e => by
                unfold qk_K
                rcases e with e | e
                · obtain ⟨a, h1, e1⟩ := q0 e
                  rw [e1, nI_clamp (by omega)]
                · obtain ⟨a, h1, h2, e1⟩ := q2 e
                  rw [e1, nI_clamp (by omega)]
              refine yp_leaf lf un bi big S t n k (qk_K yf1 t) (qk_K yf2 t) (by omega) (by omega) hq0 hq2 (yf1 t) (yf2 t) rfl rfl hqA rfl h4 _ (fun n' o2 oa2 ob2 it2 c hn' hc hh => br_f n3 ⟨hit, hit, ?_⟩)
              rw [ct]
              refine ye_emit n' hn' rfl _ _ _ _ ⟨pk_in S.1 20 (by omega), pk_in S.1 20 (by omega), nm_e (nm_r (nI_1 t) ?_)⟩
              rw [nI_clamp (by omega), hc, nI_1]
              have hnx := next _ _ _ _ _ _ hnb' hh
              have e1 : qp_step lf un bi big k (qk_K yf1 t) (qk_K yf2 t) S = ((qp_take bi big S.1 (some (qp_leaf lf k (qk_K yf1 t))) S).1, (qp_take bi big S.1 (some (qp_leaf lf k (qk_K yf1 t))) S).2.1, (qp_take bi big S.1 (some (qp_leaf lf k (qk_K yf1 t))) S).2.2.1, (qp_take bi big S.1 (some (qp_leaf lf k (qk_K yf1 t))) S).2.2.2.1, (qp_take bi big S.1 (some (qp_leaf lf k (qk_K yf1 t))) S).2.2.2.2 ∨ big (qp_leaf lf k (qk_K yf1 t))) := by
                unfold qp_step
                rw [if_neg (by omega), if_neg (by omega), if_neg (by omega), if_neg (by omega)]
              rw [e1] at hnx
              have e3 : (qp_take bi big S.1 (some (qp_leaf lf k (qk_K yf1 t))) S).2.2.2.1 S.1 = some (qp_leaf lf k (qk_K yf1 t)) := by
                show qp_set S.2.2.2.1 S.1 _ S.1 = _
                rw [qp_set_s]
              have e2 : (qp_take bi big S.1 (some (qp_leaf lf k (qk_K yf1 t))) S).1 = S.1 := rfl
              dsimp only at hnx
              rw [e2, e3] at hnx
              exact hnx
end
end
section
/-! the class reads the expression: nodes -/
section
variable {V : Type} (lf : Nat → Nat → V) (un : Nat → Nat → Nat → V → V) (bi : Nat → V → V → V) (big : V → Prop)
variable {ywa ydd ynd yns yma ynt yno yrc yfo ybl yod ywr : Int32} {yan yab yac yad yal yabl yacl yacf ynu yfi ypa ysz yli ytx yki yf1 yf2 yo yoa yob yit yss ymo yst ymy ycl yrw yow yhi yla : Nat → Int32} {yen : Nat → Int64}
theorem yp_parse (nt : Nat) (hk : qk_ok yki yf1 yf2 nt) (hnt : ynt = nI nt) (hnb : ¬ big (lf 12 0)) (post : Int32 → SY → Prop)
  (hb : ∀ (r : Int32) (no : Int32) (o' oa' ob' it' mo' : Nat → Int32), r = qp_wrong lf un bi big (qk_K yki) (qk_K yf1) (qk_K yf2) nt → r ≠ -1 → post r (ywa, ydd, ynd, yns, yma, ynt, no, yrc, yfo, ybl, yod, ywr, yan, yab, yac, yad, yal, yabl, yacl, yacf, ynu, yfi, ypa, ysz, yli, ytx, yki, yf1, yf2, o', oa', ob', it', yss, mo', yst, ymy, ycl, yrw, yow, yen, yhi, yla))
  (hg : ∀ (n' : Nat) (o' oa' ob' it' mo' : Nat → Int32), qp_wrong lf un bi big (qk_K yki) (qk_K yf1) (qk_K yf2) nt = -1 → n' ≤ 33 → qp_YO lf un bi big o' oa' ob' n' [qp_alt bi ((qp_run lf un bi big (qk_K yki) (qk_K yf1) (qk_K yf2) nt).2.1 0) (qp_sq lf (qp_join bi ((qp_run lf un bi big (qk_K yki) (qk_K yf1) (qk_K yf2) nt).2.2.1 0) ((qp_run lf un bi big (qk_K yki) (qk_K yf1) (qk_K yf2) nt).2.2.2.1 0)))] (qp_end lf bi big 0 (qp_run lf un bi big (qk_K yki) (qk_K yf1) (qk_K yf2) nt)).2.2.2.2 → post (-1) (ywa, ydd, ynd, yns, yma, ynt, nI n', yrc, yfo, ybl, yod, ywr, yan, yab, yac, yad, yal, yabl, yacl, yacf, ynu, yfi, ypa, ysz, yli, ytx, yki, yf1, yf2, o', oa', ob', it', yss, mo', yst, ymy, ycl, yrw, yow, yen, yhi, yla)) : wpY_parse post (ywa, ydd, ynd, yns, yma, ynt, yno, yrc, yfo, ybl, yod, ywr, yan, yab, yac, yad, yal, yabl, yacl, yacf, ynu, yfi, ypa, ysz, yli, ytx, yki, yf1, yf2, yo, yoa, yob, yit, yss, ymo, yst, ymy, ycl, yrw, yow, yen, yhi, yla) := by
  unfold wpY_parse
  have h0 : vp_in (0 : Int32) 20 := pk_in 0 20 (by omega)
  refine And.intro h0 (nm_e (And.intro h0 (nm_e ⟨nt + 1, ?_⟩)))
  refine yp_loop lf un bi big nt hk hnt hnb post hb hg (nt + 1) 0 0 yo yoa yob _ _ (by omega) (by omega) rfl ?_
  refine ⟨fun l _ _ => rfl, Nat.le_refl _, Nat.le_refl _, Nat.le_refl _, qp_YO_iff lf un bi big (qp_YO_0 lf un bi big yo yoa yob) rfl ?_, fun l hl => absurd hl (by show ¬ l < 0; omega), ?_, fun l hl => ?_⟩
  · unfold qp_pd
    constructor
    · exact fun h => h.elim
    · rintro (h | ⟨l, hl, _⟩)
      · exact h
      · exact absurd hl (by show ¬ l < 0; omega)
  · exact pk_us
  · have e : l = 0 := Nat.le_zero.mp hl
    subst e
    rw [xs_b0]
    exact pk_us
end
section
variable {V : Type} (lf : Nat → Nat → V) (un : Nat → Nat → Nat → V → V) (bi : Nat → V → V → V) (big : V → Prop)
variable {xwc xdc xdm xsc xtc xnc xmc xbr xwt : Int32} {xch xtl xwf xdn xdf xdl xss xtk xta xtb xnk xna xnb xnl xnr xns xfa xfs xfi xrc xcl xhd xhi xwo : Nat → Int32} {xrw xre : Nat → Int64}
theorem xe_add (m : Nat) (hm : m < 40) (hnc : xnc = nI m) (k a b l r : Int32) (post : Int32 → SX → Prop) (hp : post (nI m) (xwc, xdc, xdm, xsc, xtc, nI (m + 1), xmc, xbr, xwt, xch, xtl, xwf, xdn, xdf, xdl, xss, xtk, xta, xtb, upd xnk m k, upd xna m a, upd xnb m b, upd xnl m l, upd xnr m r, xns, xfa, xfs, xfi, xrw, xrc, xcl, xhd, xre, xhi, xwo)) : wpX_addNode post (xwc, xdc, xdm, xsc, xtc, xnc, xmc, xbr, xwt, xch, xtl, xwf, xdn, xdf, xdl, xss, xtk, xta, xtb, xnk, xna, xnb, xnl, xnr, xns, xfa, xfs, xfi, xrw, xrc, xcl, xhd, xre, xhi, xwo) k a b l r := by
  subst hnc
  have hi : vp_in (nI m) 40 := pk_in m 40 hm
  refine br_t (nI_lt (b := 40) hm (by decide)) ⟨hi, nm_e ⟨hi, nm_e ⟨hi, nm_e ⟨hi, nm_e ⟨hi, nm_e (nm_r (nI_1 m) ?_)⟩⟩⟩⟩⟩
  rw [nI_clamp (by omega)]
  exact hp
theorem xe_take (l m : Nat) (hl : l < 17) (hm : m < 40) (hnc : xnc = nI m) (s i : Option V) (D : Nat → V) (hok : qn_ok lf un bi xnk xna xnb xnl xnr m D) (hs : qn_fr D m (xfs l) s) (hi : qn_fr D m (xfi l) i) (hsi : i = none → s = none) (nx : Int32) (post : SX → Prop)
  (hp : ∀ (m' : Nat) (D' : Nat → V) (K' A' B' L' R' FS' : Nat → Int32), m ≤ m' → m' ≤ m + 1 → m' + qp_c (qp_join bi s i) ≤ m + qp_c s + qp_c i → qn_ok lf un bi K' A' B' L' R' m' D' → (∀ x o, qn_fr D m x o → qn_fr D' m' x o) → qn_fr D' m' (FS' l) (qp_join bi s i) → (∀ j, j ≠ l → FS' j = xfs j) → ((∃ n, n < m' ∧ big (D' n)) ↔ (∃ n, n < m ∧ big (D n)) ∨ qp_jbig bi big s i) → post (xwc, xdc, xdm, xsc, xtc, nI m', xmc, xbr, xwt, xch, xtl, xwf, xdn, xdf, xdl, xss, xtk, xta, xtb, K', A', B', L', R', xns, xfa, FS', upd xfi l nx, xrw, xrc, xcl, xhd, xre, xhi, xwo)) : wpX_takeItem post (xwc, xdc, xdm, xsc, xtc, xnc, xmc, xbr, xwt, xch, xtl, xwf, xdn, xdf, xdl, xss, xtk, xta, xtb, xnk, xna, xnb, xnl, xnr, xns, xfa, xfs, xfi, xrw, xrc, xcl, xhd, xre, xhi, xwo) (nI l) nx := by
  have hil : vp_in (nI l) 17 := pk_in l 17 hl
  have cl : (nI l).toNatClampNeg = l := nI_clamp (by omega)
  unfold wpX_takeItem
  refine ⟨hil, nm_r (e' := xfi l) (by rw [cl]) ⟨hil, nm_r (e' := xfs l) (by rw [cl]) ?_⟩⟩
  match s, i, hs, hi, hsi, hp with
  | some y, none, _, _, hsi, _ => exact absurd (hsi rfl) (fun z => nomatch z)
  | none, none, hs, hi, _, hp =>
    refine br_t hi ⟨hil, nm_e ?_⟩
    rw [cl]
    subst hnc
    exact hp m D xnk xna xnb xnl xnr xfs (Nat.le_refl _) (by omega) (Nat.le_refl _) hok (fun _ _ h => h) hs (fun _ _ => rfl) ⟨Or.inl, fun h => h.elim id (fun ⟨x, y, e, _⟩ => nomatch e)⟩
  | none, some x, hs, hi, _, hp =>
    obtain ⟨j, hj, ej, dj⟩ := hi
    refine br_f (by rw [ej]; exact xs_nm1 (by omega)) (br_t hs ⟨hil, nm_e ⟨hil, nm_e ?_⟩⟩)
    rw [cl]
    subst hnc
    exact hp m D xnk xna xnb xnl xnr (upd xfs l (xfi l)) (Nat.le_refl _) (by omega) (by simp [qp_c, qp_join]) hok (fun _ _ h => h) ⟨j, hj, pk_us.trans ej, dj⟩ (fun j hj => pk_un hj) ⟨Or.inl, fun h => h.elim id (fun ⟨x, y, _, e, _⟩ => nomatch e)⟩
  | some y, some x, hs, hi, _, hp =>
    obtain ⟨j, hj, ej, dj⟩ := hi
    obtain ⟨g, hg, eg, dg⟩ := hs
    refine br_f (by rw [ej]; exact xs_nm1 (by omega)) (br_f (by rw [eg]; exact xs_nm1 (by omega)) ?_)
    refine xe_add m hm hnc 13 0 0 _ _ _ ⟨hil, nm_e ⟨hil, nm_e ?_⟩⟩
    rw [cl]
    have hlc : qn_lc lf un bi 13 0 0 (xfs l) (xfi l) D m (bi 13 y x) := ⟨13, g, j, rfl, eg, ej, by omega, by omega, Or.inr (Or.inr (Or.inr (Or.inr ⟨by omega, hg, hj, by rw [dg, dj]⟩)))⟩
    refine hp (m + 1) (qn_D D m (bi 13 y x)) _ _ _ _ _ (upd xfs l (nI m)) (by omega) (Nat.le_refl _) (by simp [qp_c, qp_join]) (qn_add lf un bi hok hlc) (fun x' o' h => qn_fr_up _ h) ?_ (fun j hj => pk_un hj) ?_
    · show qn_fr _ _ _ (some (bi 13 y x))
      rw [pk_us]
      exact qn_fr_new D m _
    · rw [qn_big]
      constructor
      · rintro (h | h)
        · exact Or.inl h
        · exact Or.inr ⟨x, y, rfl, rfl, h⟩
      · rintro (h | ⟨x', y', e1, e2, h⟩)
        · exact Or.inl h
        · cases e1; cases e2; exact Or.inr h
theorem xe_end (l m : Nat) (hl : l < 17) (hm : m < 37) (hnc : xnc = nI m) (a s i : Option V) (D : Nat → V) (hnb : ¬ big (lf 12 0)) (hok : qn_ok lf un bi xnk xna xnb xnl xnr m D) (ha : qn_fr D m (xfa l) a) (hs : qn_fr D m (xfs l) s) (hi : qn_fr D m (xfi l) i) (hsi : i = none → s = none) (post : SX → Prop)
  (hp : ∀ (m' : Nat) (D' : Nat → V) (K' A' B' L' R' FA' FS' FI' : Nat → Int32), m' + 1 ≤ m + qp_c a + qp_c s + qp_c i + 2 → m' ≤ m + 3 → qn_ok lf un bi K' A' B' L' R' m' D' → (∀ x o, qn_fr D m x o → qn_fr D' m' x o) → qn_fr D' m' (FA' l) (some (qp_alt bi a (qp_sq lf (qp_join bi s i)))) → FS' l = -1 → FI' l = -1 → (∀ j, j ≠ l → FA' j = xfa j ∧ FS' j = xfs j ∧ FI' j = xfi j) → ((∃ n, n < m' ∧ big (D' n)) ↔ ((∃ n, n < m ∧ big (D n)) ∨ qp_jbig bi big s i) ∨ big (qp_alt bi a (qp_sq lf (qp_join bi s i)))) → post (xwc, xdc, xdm, xsc, xtc, nI m', xmc, xbr, xwt, xch, xtl, xwf, xdn, xdf, xdl, xss, xtk, xta, xtb, K', A', B', L', R', xns, FA', FS', FI', xrw, xrc, xcl, xhd, xre, xhi, xwo)) : wpX_endSeq post (xwc, xdc, xdm, xsc, xtc, xnc, xmc, xbr, xwt, xch, xtl, xwf, xdn, xdf, xdl, xss, xtk, xta, xtb, xnk, xna, xnb, xnl, xnr, xns, xfa, xfs, xfi, xrw, xrc, xcl, xhd, xre, xhi, xwo) (nI l) := by
  have hil : vp_in (nI l) 17 := pk_in l 17 hl
  have cl : (nI l).toNatClampNeg = l := nI_clamp (by omega)
  unfold wpX_endSeq
  refine xe_take lf un bi big l m hl (by omega) hnc s i D hok hs hi hsi (-1) _ (fun m1 D1 K1 A1 B1 L1 R1 FS1 hm1 hm1' hc1 hok1 hup1 hfs1 ho1 hb1 => ?_)
  -- behind the seq
  have fin : ∀ (m2 : Nat) (D2 : Nat → V) (K2 A2 B2 L2 R2 : Nat → Int32) (x2 : Int32), m2 ≤ m1 + 1 → m2 + 1 ≤ m + qp_c s + qp_c i + 2 → qn_ok lf un bi K2 A2 B2 L2 R2 m2 D2 → (∀ x o, qn_fr D m x o → qn_fr D2 m2 x o) → qn_fr D2 m2 x2 (some (qp_sq lf (qp_join bi s i))) → ((∃ n, n < m2 ∧ big (D2 n)) ↔ (∃ n, n < m ∧ big (D n)) ∨ qp_jbig bi big s i) → wX_endSeq_29 post (nI l) x2 xwc xdc xdm xsc xtc (nI m2) xmc xbr xwt xch xtl xwf xdn xdf xdl xss xtk xta xtb K2 A2 B2 L2 R2 xns xfa FS1 (upd xfi l (-1)) xrw xrc xcl xhd xre xhi xwo := by
    intro m2 D2 K2 A2 B2 L2 R2 x2 hm2 hc2 hok2 hup2 hfr2 hb2
    refine ⟨hil, nm_r (e' := xfa l) (by rw [cl]) ?_⟩
    cases a with
    | none =>
      refine br_t ha ⟨hil, nm_e ⟨hil, nm_e ?_⟩⟩
      rw [cl]
      refine hp m2 D2 _ _ _ _ _ _ _ _ (by show m2 + 1 ≤ m + 0 + _ + _ + 2; omega) (by omega) hok2 hup2 ?_ pk_us pk_us (fun j hj => ⟨pk_un hj, (pk_un hj).trans (ho1 j hj), pk_un hj⟩) ?_
      · rw [pk_us]; exact hfr2
      · rw [hb2]
        constructor
        · exact Or.inl
        · rintro (h | h)
          · exact h
          · obtain ⟨j, hj, _, dj⟩ := hfr2
            refine hb2.mp ⟨j, hj, ?_⟩
            rw [dj]; exact h
    | some y =>
      obtain ⟨j, hj, ej, dj⟩ := hup2 _ _ ha
      obtain ⟨g, hg, eg, dg⟩ := hfr2
      refine br_f (by rw [ej]; exact xs_nm1 (by omega)) ?_
      refine xe_add m2 (by omega) rfl 5 0 0 _ _ _ ⟨hil, nm_e ⟨hil, nm_e ?_⟩⟩
      rw [cl]
      have hlc : qn_lc lf un bi 5 0 0 (xfa l) x2 D2 m2 (bi 5 y (qp_sq lf (qp_join bi s i))) := ⟨5, j, g, rfl, ej, eg, by omega, by omega, Or.inr (Or.inr (Or.inr (Or.inr ⟨by omega, hj, hg, by rw [dg, dj]⟩)))⟩
      refine hp (m2 + 1) (qn_D D2 m2 (bi 5 y (qp_sq lf (qp_join bi s i)))) _ _ _ _ _ _ _ _ (by show m2 + 1 + 1 ≤ m + 1 + _ + _ + 2; omega) (by omega) (qn_add lf un bi hok2 hlc) (fun x' o' h => qn_fr_up _ (hup2 _ _ h)) ?_ pk_us pk_us (fun j hj => ⟨pk_un hj, (pk_un hj).trans (ho1 j hj), pk_un hj⟩) ?_
      · rw [pk_us]; exact qn_fr_new D2 m2 _
      · rw [qn_big, hb2]
        exact Iff.rfl
  refine ⟨hil, nm_r (e' := FS1 l) (by rw [cl]) ?_⟩
  cases hj : qp_join bi s i with
  | none =>
    rw [hj] at hfs1 hc1 fin
    refine br_t hfs1 ?_
    refine xe_add m1 (by omega) rfl 12 0 0 0 0 _ ?_
    have hlc : qn_lc lf un bi 12 0 0 0 0 D1 m1 (lf 12 0) := ⟨12, 0, 0, rfl, rfl, rfl, by omega, by omega, Or.inr (Or.inl ⟨by omega, rfl⟩)⟩
    refine fin (m1 + 1) (qn_D D1 m1 (lf 12 0)) _ _ _ _ _ _ (Nat.le_refl _) (by have : qp_c (none : Option V) = 0 := rfl; omega) (qn_add lf un bi hok1 hlc) (fun x' o' h => qn_fr_up _ (hup1 _ _ h)) (qn_fr_new D1 m1 _) ?_
    rw [qn_big, hb1]
    exact ⟨fun h => h.elim id (fun h => absurd h hnb), Or.inl⟩
  | some y =>
    rw [hj] at hfs1 hc1 fin
    have hne : ¬ FS1 l = -1 := by
      obtain ⟨g, hg, eg, _⟩ := hfs1
      rw [eg]; exact xs_nm1 (by omega)
    exact br_f hne (fin m1 D1 K1 A1 B1 L1 R1 (FS1 l) (by omega) (by have : qp_c (some y) = 1 := rfl; omega) hok1 hup1 hfs1 hb1)
end
end
section
/-! the class reads a token -/
section
variable {V : Type} (lf : Nat → Nat → V) (un : Nat → Nat → Nat → V → V) (bi : Nat → V → V → V) (big : V → Prop)
variable {xwc xdc xdm xsc xtc xnc xmc xbr xwt : Int32} {xch xtl xwf xdn xdf xdl xss xtk xta xtb xnk xna xnb xnl xnr xns xfa xfs xfi xrc xcl xhd xhi xwo : Nat → Int32} {xrw xre : Nat → Int64}
def qk_a0 (k : Nat) (x : Int32) : Prop := k = 0 → ∃ a : Nat, a < 6 ∧ x = nI a
def qk_a2 (k : Nat) (x : Int32) : Prop := k = 2 → ∃ a : Nat, 1 ≤ a ∧ a ≤ 63 ∧ x = nI a
def qk_a9 (k : Nat) (x y : Int32) : Prop := k = 9 → ∃ a b : Nat, a ≤ b ∧ b ≤ 3 ∧ x = nI a ∧ y = nI b
theorem xe_kne {k q : Nat} (hk : k < 100) (hq : q < 100) (h : k ≠ q) : ¬ nI k = nI q := fun e => h ((nI_eq (by omega) (by omega)).mp e)
theorem xe_leaf (t m k : Nat) (ht : t < 16) (hm : m < 40) (hnc : xnc = nI m) (hk : k < 3 ∨ k = 10 ∨ k = 11) (ek : xtk t = nI k) (hk0 : qk_a0 k (xta t)) (hk2 : qk_a2 k (xta t)) (D : Nat → V) (hok : qn_ok lf un bi xnk xna xnb xnl xnr m D) (post : Int32 → SX → Prop)
  (hp : ∀ (K' A' B' L' R' : Nat → Int32), qn_ok lf un bi K' A' B' L' R' (m + 1) (qn_D D m (qp_leaf lf k (qk_K xta t))) → post (nI m) (xwc, xdc, xdm, xsc, xtc, nI (m + 1), xmc, xbr, xwt, xch, xtl, xwf, xdn, xdf, xdl, xss, xtk, xta, xtb, K', A', B', L', R', xns, xfa, xfs, xfi, xrw, xrc, xcl, xhd, xre, xhi, xwo)) : wpX_addLeaf post (xwc, xdc, xdm, xsc, xtc, xnc, xmc, xbr, xwt, xch, xtl, xwf, xdn, xdf, xdl, xss, xtk, xta, xtb, xnk, xna, xnb, xnl, xnr, xns, xfa, xfs, xfi, xrw, xrc, xcl, xhd, xre, xhi, xwo) (nI t) := by
  have hit : vp_in (nI t) 16 := pk_in t 16 ht
  have ct : (nI t).toNatClampNeg = t := nI_clamp (by omega)
  unfold wpX_addLeaf
  refine ⟨hit, nm_r (e' := nI k) (by rw [ct]; exact ek) (br_f (nI_pos (by omega)) (pk_lt 2 k (fun h2 => ⟨hit, ?_⟩) (fun h2 => ?_)))⟩
  · rw [ct, ek]
    refine xe_add m hm hnc _ _ _ _ _ _ (hp _ _ _ _ _ (qn_add lf un bi hok ?_))
    have e : qp_leaf lf k (qk_K xta t) = lf k 0 := by unfold qp_leaf; rw [if_neg (by omega), if_neg (by omega), if_neg (by omega)]
    rw [e]
    exact ⟨k, 0, 0, rfl, rfl, rfl, by omega, by omega, Or.inr (Or.inl ⟨by omega, rfl⟩)⟩
  · refine pk_eq k 0 (fun e0 => ⟨hit, ?_⟩) (fun e0 => pk_eq k 1 (fun e1 => ?_) (fun e1 => pk_eq k 2 (fun e2 => ⟨hit, ?_⟩) (fun e2 => trivial)))
    · obtain ⟨a, ha, ea⟩ := hk0 e0
      rw [ct, ea]
      refine xe_add m hm hnc _ _ _ _ _ _ (hp _ _ _ _ _ (qn_add lf un bi hok ?_))
      have e : qp_leaf lf k (qk_K xta t) = lf 2 (2 ^ a) := by unfold qp_leaf qk_K; rw [if_pos e0, ea, nI_clamp (by omega)]
      rw [e]
      have hp2 : 2 ^ a ≤ 32 := by
        have : 2 ^ a ≤ 2 ^ 5 := Nat.pow_le_pow_right (by omega) (by omega)
        omega
      have e1 : (1 : Int32) <<< (nI a &&& 31) = nI (2 ^ a) := by
        have := pk_shlN (n := 1) (nI a &&& 31) a (s_l a (by omega)) (by omega)
        rw [Nat.one_mul] at this
        exact this
      exact ⟨2, 0, 0, rfl, rfl, rfl, by omega, by omega, Or.inl ⟨rfl, 2 ^ a, e1, Nat.two_pow_pos a, by omega, rfl⟩⟩
    · refine xe_add m hm hnc _ _ _ _ _ _ (hp _ _ _ _ _ (qn_add lf un bi hok ?_))
      have e : qp_leaf lf k (qk_K xta t) = lf 2 63 := by unfold qp_leaf; rw [if_neg e0, if_pos e1]
      rw [e]
      exact ⟨2, 0, 0, rfl, rfl, rfl, by omega, by omega, Or.inl ⟨rfl, 63, rfl, by omega, by omega, rfl⟩⟩
    · obtain ⟨a, h1, h3, ea⟩ := hk2 e2
      rw [ct, ea]
      refine xe_add m hm hnc _ _ _ _ _ _ (hp _ _ _ _ _ (qn_add lf un bi hok ?_))
      have e : qp_leaf lf k (qk_K xta t) = lf 2 a := by unfold qp_leaf qk_K; rw [if_neg e0, if_neg e1, if_pos e2, ea, nI_clamp (by omega)]
      rw [e]
      exact ⟨2, 0, 0, rfl, rfl, rfl, by omega, by omega, Or.inl ⟨rfl, a, rfl, h1, h3, rfl⟩⟩
theorem xe_rep (t m k : Nat) (ht : t < 16) (hm : m < 39) (hnc : xnc = nI m) (hk : 6 ≤ k ∧ k ≤ 9) (ek : xtk t = nI k) (hk9 : qk_a9 k (xta t) (xtb t)) (D : Nat → V) (hnb : ¬ big (lf 12 0)) (hok : qn_ok lf un bi xnk xna xnb xnl xnr m D) (xi : Int32) (x : V) (hx : qn_fr D m xi (some x)) (post : Int32 → SX → Prop)
  (hp : ∀ (r : Int32) (m' : Nat) (D' : Nat → V) (K' A' B' L' R' : Nat → Int32), m' ≤ m + 2 → qn_ok lf un bi K' A' B' L' R' m' D' → (∀ y o, qn_fr D m y o → qn_fr D' m' y o) → qn_fr D' m' r (some (qp_rep lf un bi k (qk_K xta t) (qk_K xtb t) x)) → ((∃ n, n < m' ∧ big (D' n)) ↔ (∃ n, n < m ∧ big (D n)) ∨ big (qp_rep lf un bi k (qk_K xta t) (qk_K xtb t) x)) → post r (xwc, xdc, xdm, xsc, xtc, nI m', xmc, xbr, xwt, xch, xtl, xwf, xdn, xdf, xdl, xss, xtk, xta, xtb, K', A', B', L', R', xns, xfa, xfs, xfi, xrw, xrc, xcl, xhd, xre, xhi, xwo)) : wpX_addRepeat post (xwc, xdc, xdm, xsc, xtc, xnc, xmc, xbr, xwt, xch, xtl, xwf, xdn, xdf, xdl, xss, xtk, xta, xtb, xnk, xna, xnb, xnl, xnr, xns, xfa, xfs, xfi, xrw, xrc, xcl, xhd, xre, xhi, xwo) (nI t) xi := by
  have hit : vp_in (nI t) 16 := pk_in t 16 ht
  have ct : (nI t).toNatClampNeg = t := nI_clamp (by omega)
  obtain ⟨j, hj, ej, dj⟩ := hx
  have lc12 : ∀ (D : Nat → V) (m : Nat), qn_lc lf un bi 12 0 0 0 0 D m (lf 12 0) := fun D m => ⟨12, 0, 0, rfl, rfl, rfl, by omega, by omega, Or.inr (Or.inl ⟨by omega, rfl⟩)⟩
  unfold wpX_addRepeat
  refine ⟨hit, nm_r (e' := nI k) (by rw [ct]; exact ek) ⟨hit, nm_r (e' := xta t) (by rw [ct]) ⟨hit, nm_r (e' := xtb t) (by rw [ct]) ?_⟩⟩⟩
  refine pk_eq k 8 (fun e8 => ?_) (fun e8 => ?_)
  · refine xe_add m (by omega) hnc 12 0 0 0 0 _ ?_
    refine xe_add (m + 1) (by omega) rfl 8 0 0 _ _ _ ?_
    have e : qp_rep lf un bi k (qk_K xta t) (qk_K xtb t) x = bi 8 x (lf 12 0) := by unfold qp_rep; rw [if_pos e8]
    rw [e] at hp
    have hlc : qn_lc lf un bi 8 0 0 xi (nI m) (qn_D D m (lf 12 0)) (m + 1) (bi 8 x (lf 12 0)) := ⟨8, j, m, rfl, ej, rfl, by omega, by omega, Or.inr (Or.inr (Or.inr (Or.inr ⟨by omega, by omega, by omega, by rw [qn_D_n D _ (by omega), qn_D_s, dj]⟩)))⟩
    refine hp _ (m + 2) (qn_D (qn_D D m (lf 12 0)) (m + 1) (bi 8 x (lf 12 0))) _ _ _ _ _ (Nat.le_refl _) (qn_add lf un bi (qn_add lf un bi hok (lc12 D m)) hlc) (fun y o h => qn_fr_up _ (qn_fr_up _ h)) (qn_fr_new _ _ _) ?_
    rw [qn_big, qn_big]
    constructor
    · rintro ((h | h) | h)
      · exact Or.inl h
      · exact absurd h hnb
      · exact Or.inr h
    · rintro (h | h)
      · exact Or.inl (Or.inl h)
      · exact Or.inr h
  · have fin : ∀ (v : V), qp_rep lf un bi k (qk_K xta t) (qk_K xtb t) x = v → qn_lc lf un bi (nI k) (xta t) (xtb t) xi 0 D m v → wX_addRepeat_95 post xi (nI k) (xta t) (xtb t) xwc xdc xdm xsc xtc xnc xmc xbr xwt xch xtl xwf xdn xdf xdl xss xtk xta xtb xnk xna xnb xnl xnr xns xfa xfs xfi xrw xrc xcl xhd xre xhi xwo := by
      intro v ev hlc
      refine xe_add m (by omega) hnc _ _ _ _ _ _ ?_
      rw [ev] at hp
      exact hp _ (m + 1) (qn_D D m v) _ _ _ _ _ (by omega) (qn_add lf un bi hok hlc) (fun y o h => qn_fr_up _ h) (qn_fr_new D m v) (qn_big big D m v)
    refine pk_eq k 9 (fun e9 => ?_) (fun e9 => ?_)
    · obtain ⟨a, b, hab, hb3, ea, eb⟩ := hk9 e9
      have ea' : qk_K xta t = a := by unfold qk_K; rw [ea, nI_clamp (by omega)]
      have eb' : qk_K xtb t = b := by unfold qk_K; rw [eb, nI_clamp (by omega)]
      rw [ea, eb] at fin ⊢
      rw [ea', eb'] at hp fin
      refine pk_eq b 0 (fun eb0 => ?_) (fun eb0 => ?_)
      · refine xe_add m (by omega) hnc 12 0 0 0 0 _ ?_
        have e : qp_rep lf un bi k a b x = lf 12 0 := by unfold qp_rep; rw [if_neg e8, if_pos e9, if_pos eb0]
        rw [e] at hp
        refine hp _ (m + 1) (qn_D D m (lf 12 0)) _ _ _ _ _ (by omega) (qn_add lf un bi hok (lc12 D m)) (fun y o h => qn_fr_up _ h) (qn_fr_new D m _) (qn_big big D m _)
      · have fin9 : ¬ (a = 1 ∧ b = 1) → wX_addRepeat_95 post xi (nI k) (nI a) (nI b) xwc xdc xdm xsc xtc xnc xmc xbr xwt xch xtl xwf xdn xdf xdl xss xtk xta xtb xnk xna xnb xnl xnr xns xfa xfs xfi xrw xrc xcl xhd xre xhi xwo := by
          intro hn
          refine fin (un 9 a b x) ?_ ?_
          · unfold qp_rep; rw [if_neg e8, if_pos e9, if_neg eb0, if_neg hn]
          · exact ⟨9, j, 0, by rw [e9], ej, rfl, by omega, by omega, Or.inr (Or.inr (Or.inr (Or.inl ⟨rfl, hj, a, b, rfl, rfl, hab, hb3, by omega, by rw [dj]⟩)))⟩
        refine br_t (by rw [e9]; rfl) (pk_eq a 1 (fun ea1 => pk_eq b 1 (fun eb1 => ?_) (fun eb1 => fin9 (fun h => eb1 h.2))) (fun ea1 => fin9 (fun h => ea1 h.1)))
        have e : qp_rep lf un bi k a b x = x := by unfold qp_rep; rw [if_neg e8, if_pos e9, if_neg eb0, if_pos ⟨ea1, eb1⟩]
        rw [e] at hp
        subst hnc
        refine hp xi m D _ _ _ _ _ (by omega) hok (fun y o h => h) ⟨j, hj, ej, dj⟩ ⟨Or.inl, fun h => h.elim id (fun h => ⟨j, hj, by rw [dj]; exact h⟩)⟩
    · refine br_f (xe_kne (q := 9) (by omega) (by omega) e9) (fin (un k 0 0 x) ?_ ?_)
      · unfold qp_rep; rw [if_neg e8, if_neg e9]
      · exact ⟨k, j, 0, rfl, ej, rfl, by omega, by omega, Or.inr (Or.inr (Or.inl ⟨by omega, hj, by rw [dj]⟩))⟩
theorem xe_isrep (k : Nat) (hk : k < 12) (post : Int32 → Prop) (h1 : 6 ≤ k ∧ k ≤ 9 → post 1) (h0 : ¬ (6 ≤ k ∧ k ≤ 9) → post 0) : wpX_isRepeat post (nI k) :=
  pk_eq k 6 (fun e => h1 (by omega)) (fun e6 => pk_eq k 7 (fun e => h1 (by omega)) (fun e7 => pk_eq k 8 (fun e => h1 (by omega)) (fun e8 => pk_eq k 9 (fun e => h1 (by omega)) (fun e9 => h0 (by omega)))))
/-- the wrong token -/
theorem xe_wrong1 (nt : Nat) (hk : qk_ok xtk xta xtb nt) (htc : xtc = nI nt) (post : Int32 → Prop) (hp : post (qp_wrong lf un bi big (qk_K xtk) (qk_K xta) (qk_K xtb) nt)) :
  ∀ (N t : Nat), t ≤ nt → nt - t < N → (qp_run lf un bi big (qk_K xtk) (qk_K xta) (qk_K xtb) t).1 ≤ t → qp_wr lf un bi big (qk_K xtk) (qk_K xta) (qk_K xtb) nt (nt - t) t = qp_wrong lf un bi big (qk_K xtk) (qk_K xta) (qk_K xtb) nt → wX_findWrongToken_6 post xwc xdc xdm xsc xtc xnc xmc xbr xwt xch xtl xwf xdn xdf xdl xss xtk xta xtb xnk xna xnb xnl xnr xns xfa xfs xfi xrw xrc xcl xhd xre xhi xwo N (nI (qp_run lf un bi big (qk_K xtk) (qk_K xta) (qk_K xtb) t).1) (nI (qp_c ((qp_run lf un bi big (qk_K xtk) (qk_K xta) (qk_K xtb) t).2.2.2.1 (qp_run lf un bi big (qk_K xtk) (qk_K xta) (qk_K xtb) t).1))) (nI t) := by
  intro N
  subst htc
  have h16 := hk.1
  induction N with
  | zero => intro t h1 h2; omega
  | succ N ih =>
    intro t h1 h2 hdt h3
    refine pk_le nt t (fun hle => ?_) (fun hlt => ?_)
    · have e : t = nt := by omega
      subst e
      rw [Nat.sub_self] at h3
      unfold qp_wr at h3
      refine pk_le (qp_run lf un bi big (qk_K xtk) (qk_K xta) (qk_K xtb) t).1 0 (fun hz => ?_) (fun hz => ?_)
      · rw [if_pos (by omega)] at h3; rw [h3]; exact hp
      · rw [if_neg (by omega)] at h3; rw [h3]; exact hp
    · have hm : nt - t = (nt - (t + 1)) + 1 := by omega
      rw [hm] at h3
      unfold qp_wr at h3
      obtain ⟨k, hk12, ek, q0, q2, q9⟩ := hk.2 t hlt
      have eK : qk_K xtk t = k := by unfold qk_K; rw [ek]; exact nI_clamp (by omega)
      have hrun : qp_run lf un bi big (qk_K xtk) (qk_K xta) (qk_K xtb) (t + 1) = qp_step lf un bi big k (qk_K xta t) (qk_K xtb t) (qp_run lf un bi big (qk_K xtk) (qk_K xta) (qk_K xtb) t) := by
        show qp_step lf un bi big (qk_K xtk t) _ _ _ = _
        rw [eK]
      rw [eK] at h3
      have ct : (nI t).toNatClampNeg = t := nI_clamp (by omega)
      have next := ih (t + 1) (by omega) (by omega)
      rw [hrun] at next
      generalize hS : qp_run lf un bi big (qk_K xtk) (qk_K xta) (qk_K xtb) t = S at *
      refine ⟨pk_in t 16 (by omega), nm_r (e' := nI k) (by rw [ct]; exact ek) ?_⟩
      -- the walk behind the check
      have goon : qp_badb k S = false → wX_findWrongToken_34 post (wX_findWrongToken_6 post xwc xdc xdm xsc (nI nt) xnc xmc xbr xwt xch xtl xwf xdn xdf xdl xss xtk xta xtb xnk xna xnb xnl xnr xns xfa xfs xfi xrw xrc xcl xhd xre xhi xwo N) (nI S.1) (nI t) (nI k) xwc xdc xdm xsc (nI nt) xnc xmc xbr xwt xch xtl xwf xdn xdf xdl xss xtk xta xtb xnk xna xnb xnl xnr xns xfa xfs xfi xrw xrc xcl xhd xre xhi xwo := by
        intro hnb
        rw [hnb] at h3
        have k46 : wX_findWrongToken_46 post (wX_findWrongToken_6 post xwc xdc xdm xsc (nI nt) xnc xmc xbr xwt xch xtl xwf xdn xdf xdl xss xtk xta xtb xnk xna xnb xnl xnr xns xfa xfs xfi xrw xrc xcl xhd xre xhi xwo N) (nI S.1) (nI t) (nI k) xwc xdc xdm xsc (nI nt) xnc xmc xbr xwt xch xtl xwf xdn xdf xdl xss xtk xta xtb xnk xna xnb xnl xnr xns xfa xfs xfi xrw xrc xcl xhd xre xhi xwo := by
          by_cases k3 : k = 3
          · subst k3
            have e2 : (qp_step lf un bi big 3 (qk_K xta t) (qk_K xtb t) S).1 = S.1 + 1 := rfl
            have e3 : (qp_step lf un bi big 3 (qk_K xta t) (qk_K xtb t) S).2.2.2.1 (S.1 + 1) = none := by
              show qp_set S.2.2.2.1 (S.1 + 1) none (S.1 + 1) = none
              rw [qp_set_s]
            have hn := next (by rw [e2]; omega) h3
            rw [e2, e3] at hn
            exact br_t rfl (nm_r (nI_1 _) (br_t rfl (nm_r (nI_1 t) hn)))
          · have n3 : ¬ nI k = 3 := xe_kne (q := 3) (by omega) (by omega) k3
            refine br_f n3 ?_
            by_cases k4 : k = 4
            · subst k4
              have hz : S.1 ≠ 0 := fun z => by unfold qp_badb at hnb; simp [z] at hnb
              have e1 : nI S.1 + (-1) = nI (S.1 - 1) := by
                obtain ⟨m, hm'⟩ : ∃ m, S.1 = m + 1 := ⟨S.1 - 1, by omega⟩
                rw [hm', pk_m1]
                rfl
              have e2 : (qp_step lf un bi big 4 (qk_K xta t) (qk_K xtb t) S).1 = S.1 - 1 := rfl
              have e3 : (qp_step lf un bi big 4 (qk_K xta t) (qk_K xtb t) S).2.2.2.1 (S.1 - 1) = some (qp_alt bi (S.2.1 S.1) (qp_sq lf (qp_join bi (S.2.2.1 S.1) (S.2.2.2.1 S.1)))) := by
                show qp_set _ (S.1 - 1) ((qp_set S.2.1 S.1 _) S.1) (S.1 - 1) = _
                rw [qp_set_s, qp_set_s]
              have hn := next (by rw [e2]; omega) h3
              rw [e2, e3] at hn
              exact br_t rfl (nm_r e1 (br_f (by decide) (br_f (by decide) (nm_r (nI_1 t) hn))))
            · have n4 : ¬ nI k = 4 := xe_kne (q := 4) (by omega) (by omega) k4
              refine br_f n4 (br_f n3 ?_)
              by_cases k5 : k = 5
              · subst k5
                have e2 : (qp_step lf un bi big 5 (qk_K xta t) (qk_K xtb t) S).1 = S.1 := rfl
                have e3 : (qp_step lf un bi big 5 (qk_K xta t) (qk_K xtb t) S).2.2.2.1 S.1 = none := by
                  show qp_set S.2.2.2.1 S.1 none S.1 = none
                  rw [qp_set_s]
                have hn := next (by rw [e2]; omega) h3
                rw [e2, e3] at hn
                exact br_t rfl (nm_r (nI_1 t) hn)
              · have n5 : ¬ nI k = 5 := xe_kne (q := 5) (by omega) (by omega) k5
                refine br_f n5 (nm_r (nI_1 t) ?_)
                have e2 : (qp_step lf un bi big k (qk_K xta t) (qk_K xtb t) S).1 = S.1 ∧ ∃ v, (qp_step lf un bi big k (qk_K xta t) (qk_K xtb t) S).2.2.2.1 S.1 = some v := by
                  unfold qp_step
                  rw [if_neg k3, if_neg k4, if_neg k5]
                  split
                  · exact ⟨rfl, _, qp_set_s _ _ _⟩
                  · exact ⟨rfl, _, qp_set_s _ _ _⟩
                obtain ⟨e2, v, e3⟩ := e2
                have hn := next (by rw [e2]; omega) h3
                rw [e2, e3] at hn
                exact hn
        by_cases k4 : k = 4
        · subst k4
          refine br_t rfl (br_f ?_ k46)
          intro z
          rw [show (0 : Int32) = nI 0 from rfl, nI_eq (by omega) (by omega)] at z
          unfold qp_badb at hnb
          simp [z] at hnb
        · exact br_f (xe_kne (q := 4) (by omega) (by omega) k4) k46
      have isbad : qp_badb k S = true → post (nI t) := by
        intro hb
        rw [if_pos hb] at h3
        rw [h3]
        exact hp
      refine xe_isrep k hk12 _ (fun hr => br_f (by decide) ?_) (fun hr => br_t rfl ?_)
      · cases hfi : S.2.2.2.1 S.1 with
        | none => exact br_t rfl (isbad (by unfold qp_badb; rw [hfi]; simp [hr]))
        | some x => exact br_f (by show ¬ nI 1 = 0; decide) (goon (by unfold qp_badb; rw [hfi]; simp; omega))
      · by_cases hb : qp_badb k S = true
        · have k4 : k = 4 ∧ S.1 = 0 := by unfold qp_badb at hb; simp [hr] at hb; exact hb
          rw [k4.1, k4.2]
          exact br_t rfl (br_t rfl (isbad hb))
        · exact goon (by simpa using hb)
theorem xe_wrong (nt : Nat) (hk : qk_ok xtk xta xtb nt) (htc : xtc = nI nt) (post : Int32 → Prop) (hp : post (qp_wrong lf un bi big (qk_K xtk) (qk_K xta) (qk_K xtb) nt)) : wpX_findWrongToken post (xwc, xdc, xdm, xsc, xtc, xnc, xmc, xbr, xwt, xch, xtl, xwf, xdn, xdf, xdl, xss, xtk, xta, xtb, xnk, xna, xnb, xnl, xnr, xns, xfa, xfs, xfi, xrw, xrc, xcl, xhd, xre, xhi, xwo) :=
  ⟨nt + 1, xe_wrong1 lf un bi big nt hk htc post hp (nt + 1) 0 (by omega) (by omega) (Nat.le_refl _) rfl⟩
end
end
section
/-! the class reads the whole expression -/
section
variable {V : Type} (lf : Nat → Nat → V) (un : Nat → Nat → Nat → V → V) (bi : Nat → V → V → V) (big : V → Prop)
def qp_cn (fa fs fi : Nat → Option V) : Nat → Nat
  | 0 => 0
  | l + 1 => qp_cn fa fs fi l + (qp_c (fa l) + qp_c (fs l) + qp_c (fi l))
theorem qp_cn_cg {fa fs fi fa' fs' fi' : Nat → Option V} : ∀ d, (∀ l, l < d → fa l = fa' l ∧ fs l = fs' l ∧ fi l = fi' l) → qp_cn fa fs fi d = qp_cn fa' fs' fi' d
  | 0, _ => rfl
  | d + 1, h => by
    unfold qp_cn
    rw [qp_cn_cg d (fun l hl => h l (by omega)), (h d (by omega)).1, (h d (by omega)).2.1, (h d (by omega)).2.2]
def qp_X (S : qp_S V) (t : Nat) (K A B L R : Nat → Int32) (m : Nat) (D : Nat → V) (FA FS FI : Nat → Int32) : Prop :=
  qp_inv S ∧ S.1 ≤ t ∧ m + qp_cn S.2.1 S.2.2.1 S.2.2.2.1 (S.1 + 1) ≤ 2 * t ∧ qn_ok lf un bi K A B L R m D ∧ (∀ l, l ≤ S.1 → qn_fr D m (FA l) (S.2.1 l) ∧ qn_fr D m (FS l) (S.2.2.1 l) ∧ qn_fr D m (FI l) (S.2.2.2.1 l)) ∧ (S.2.2.2.2 ↔ ∃ n, n < m ∧ big (D n))
theorem qp_wr_ok (K A B : Nat → Nat) (nt : Nat) : ∀ m t, t + m = nt → nt < 2 ^ 31 → qp_wr lf un bi big K A B nt m t = -1 → (∀ j, t ≤ j → j < nt → qp_badb (K j) (qp_run lf un bi big K A B j) = false) ∧ (qp_run lf un bi big K A B nt).1 = 0
  | 0, t, e, hn, h => by
    unfold qp_wr at h
    refine ⟨fun j h1 h2 => absurd h2 (by omega), ?_⟩
    by_cases z : (qp_run lf un bi big K A B nt).1 = 0
    · exact z
    · rw [if_neg z] at h
      exact absurd h (xs_nm1 hn)
  | m + 1, t, e, hn, h => by
    unfold qp_wr at h
    by_cases z : qp_badb (K t) (qp_run lf un bi big K A B t) = true
    · rw [if_pos z] at h
      exact absurd h (xs_nm1 (by omega))
    · rw [if_neg z] at h
      obtain ⟨h1, h2⟩ := qp_wr_ok K A B nt m (t + 1) (by omega) hn h
      refine ⟨fun j hj hj' => ?_, h2⟩
      by_cases y : j = t
      · subst y; simpa using z
      · exact h1 j (by omega) hj'
variable {xwc xdc xdm xsc xtc xnc xmc xbr xwt : Int32} {xch xtl xwf xdn xdf xdl xss xtk xta xtb xnk xna xnb xnl xnr xns xfa xfs xfi xrc xcl xhd xhi xwo : Nat → Int32} {xrw xre : Nat → Int64}
theorem xe_loop (nt : Nat) (hk : qk_ok xtk xta xtb nt) (htc : xtc = nI nt) (hnb : ¬ big (lf 12 0)) (hgood : ∀ j, j < nt → qp_badb (qk_K xtk j) (qp_run lf un bi big (qk_K xtk) (qk_K xta) (qk_K xtb) j) = false) (h0 : (qp_run lf un bi big (qk_K xtk) (qk_K xta) (qk_K xtb) nt).1 = 0) (post : Int32 → SX → Prop)
  (hp : ∀ (root : Int32) (m' : Nat) (D' : Nat → V) (K' A' B' L' R' FA' FS' FI' : Nat → Int32), m' ≤ 33 → qn_ok lf un bi K' A' B' L' R' m' D' → qn_fr D' m' root (some (qp_alt bi ((qp_run lf un bi big (qk_K xtk) (qk_K xta) (qk_K xtb) nt).2.1 0) (qp_sq lf (qp_join bi ((qp_run lf un bi big (qk_K xtk) (qk_K xta) (qk_K xtb) nt).2.2.1 0) ((qp_run lf un bi big (qk_K xtk) (qk_K xta) (qk_K xtb) nt).2.2.2.1 0))))) → ((qp_end lf bi big 0 (qp_run lf un bi big (qk_K xtk) (qk_K xta) (qk_K xtb) nt)).2.2.2.2 ↔ ∃ n, n < m' ∧ big (D' n)) → post root (xwc, xdc, xdm, xsc, xtc, nI m', xmc, xbr, xwt, xch, xtl, xwf, xdn, xdf, xdl, xss, xtk, xta, xtb, K', A', B', L', R', xns, FA', FS', FI', xrw, xrc, xcl, xhd, xre, xhi, xwo)) :
  ∀ (N t m : Nat) (D : Nat → V) (K' A' B' L' R' FA' FS' FI' : Nat → Int32), t ≤ nt → nt - t < N → qp_X lf un bi big (qp_run lf un bi big (qk_K xtk) (qk_K xta) (qk_K xtb) t) t K' A' B' L' R' m D FA' FS' FI' → wX_parse_14 post N (nI (qp_run lf un bi big (qk_K xtk) (qk_K xta) (qk_K xtb) t).1) (nI t) xwc xdc xdm xsc xtc (nI m) xmc xbr xwt xch xtl xwf xdn xdf xdl xss xtk xta xtb K' A' B' L' R' xns FA' FS' FI' xrw xrc xcl xhd xre xhi xwo := by
  intro N
  subst htc
  have h16 := hk.1
  induction N with
  | zero => intro t m D K' A' B' L' R' FA' FS' FI' h1 h2; omega
  | succ N ih =>
    intro t m D K' A' B' L' R' FA' FS' FI' h1 h2 h4
    refine pk_le nt t (fun hle => ?_) (fun hlt => ?_)
    · have e : t = nt := by omega
      subst e
      obtain ⟨g1, g2, g3, g4, g5, g6⟩ := h4
      generalize qp_run lf un bi big (qk_K xtk) (qk_K xta) (qk_K xtb) t = S at *
      obtain ⟨d, fa, fs, fi, B⟩ := S
      dsimp only at h0 g1 g2 g3 g4 g5 g6 hp
      subst h0
      have hcn : qp_cn fa fs fi (0 + 1) = qp_c (fa 0) + qp_c (fs 0) + qp_c (fi 0) := Nat.zero_add _
      rw [hcn] at g3
      obtain ⟨f1, f2, f3⟩ := g5 0 (Nat.le_refl _)
      refine xe_end lf un bi big 0 m (by omega) (by omega) rfl (fa 0) (fs 0) (fi 0) D hnb g4 f1 f2 f3 (g1 0 (Nat.le_refl _)) _ (fun m' D' K2 A2 B2 L2 R2 FA2 FS2 FI2 hc hm' hok hup hfr hs1 hi1 hoth hbig => ?_)
      refine ⟨pk_in 0 17 (by omega), hp _ m' D' _ _ _ _ _ _ _ _ (by omega) hok hfr ?_⟩
      unfold qp_end
      dsimp only
      rw [hbig, g6]
    · obtain ⟨k, hk12, ek, p0, p2, p9⟩ := hk.2 t hlt
      have q0 : qk_a0 k (xta t) := p0
      have q2 : qk_a2 k (xta t) := p2
      have q9 : qk_a9 k (xta t) (xtb t) := p9
      clear p0 p2 p9
      have eK : qk_K xtk t = k := by unfold qk_K; rw [ek]; exact nI_clamp (by omega)
      have hrun : qp_run lf un bi big (qk_K xtk) (qk_K xta) (qk_K xtb) (t + 1) = qp_step lf un bi big k (qk_K xta t) (qk_K xtb t) (qp_run lf un bi big (qk_K xtk) (qk_K xta) (qk_K xtb) t) := by
        show qp_step lf un bi big (qk_K xtk t) _ _ _ = _
        rw [eK]
      have hbad := hgood t hlt
      rw [eK] at hbad
      have ct : (nI t).toNatClampNeg = t := nI_clamp (by omega)
      have next := fun (m2 : Nat) (D2 : Nat → V) (K2 A2 B2 L2 R2 FA2 FS2 FI2 : Nat → Int32) => ih (t + 1) m2 D2 K2 A2 B2 L2 R2 FA2 FS2 FI2 (by omega) (by omega)
      rw [hrun] at next
      clear hrun hp hgood h0
      generalize hS : qp_run lf un bi big (qk_K xtk) (qk_K xta) (qk_K xtb) t = S at *
      obtain ⟨d, fa, fs, fi, B⟩ := S
      obtain ⟨g1, g2, g3, g4, g5, g6⟩ := h4
      dsimp only at g1 g2 g3 g4 g5 g6
      have hcnd : qp_cn fa fs fi (d + 1) = qp_cn fa fs fi d + (qp_c (fa d) + qp_c (fs d) + qp_c (fi d)) := rfl
      obtain ⟨f1, f2, f3⟩ := g5 d (Nat.le_refl _)
      have cd : (nI d).toNatClampNeg = d := nI_clamp (by omega)
      have hid : vp_in (nI d) 17 := pk_in d 17 (by omega)
      refine ⟨pk_in t 16 (by omega), nm_r (e' := nI k) (by rw [ct]; exact ek) ?_⟩
      by_cases k3 : k = 3
      · subst k3
        have hi1 : vp_in (nI (d + 1)) 17 := pk_in (d + 1) 17 (by omega)
        refine br_t rfl (nm_r (nI_1 d) ?_)
        refine And.intro hi1 (nm_e (And.intro hi1 (nm_e (And.intro hi1 (nm_e (nm_r (nI_1 t) ?_))))))
        rw [nI_clamp (by omega)]
        refine next m D K' A' B' L' R' _ _ _ ⟨?_, ?_, ?_, g4, ?_, g6⟩
        · intro l hl hn
          show qp_set fs (d + 1) none l = none
          have hn : qp_set fi (d + 1) none l = none := hn
          have hl : l ≤ d + 1 := hl
          by_cases z : l = d + 1
          · subst z; rw [qp_set_s]
          · rw [qp_set_n z] at hn ⊢; exact g1 l (by omega) hn
        · show d + 1 ≤ t + 1
          omega
        · show m + qp_cn (qp_set fa (d + 1) none) (qp_set fs (d + 1) none) (qp_set fi (d + 1) none) (d + 1 + 1) ≤ 2 * (t + 1)
          have e : qp_cn (qp_set fa (d + 1) none) (qp_set fs (d + 1) none) (qp_set fi (d + 1) none) (d + 1 + 1) = qp_cn fa fs fi (d + 1) := by
            show qp_cn _ _ _ (d + 1) + (qp_c (qp_set fa (d + 1) none (d + 1)) + qp_c (qp_set fs (d + 1) none (d + 1)) + qp_c (qp_set fi (d + 1) none (d + 1))) = _
            rw [qp_set_s, qp_set_s, qp_set_s, qp_cn_cg (fa' := fa) (fs' := fs) (fi' := fi) (d + 1) (fun l hl => ⟨qp_set_n (by omega), qp_set_n (by omega), qp_set_n (by omega)⟩)]
            rfl
          rw [e]
          omega
        · intro l hl
          have hl : l ≤ d + 1 := hl
          show qn_fr D m (upd FA' (d + 1) (-1) l) (qp_set fa (d + 1) none l) ∧ qn_fr D m (upd FS' (d + 1) (-1) l) (qp_set fs (d + 1) none l) ∧ qn_fr D m (upd FI' (d + 1) (-1) l) (qp_set fi (d + 1) none l)
          by_cases z : l = d + 1
          · subst z
            rw [qp_set_s, qp_set_s, qp_set_s, pk_us, pk_us, pk_us]
            exact ⟨rfl, rfl, rfl⟩
          · rw [qp_set_n z, qp_set_n z, qp_set_n z, pk_un z, pk_un z, pk_un z]
            exact g5 l (by omega)
      · have n3 : ¬ nI k = 3 := xe_kne (q := 3) (by omega) (by omega) k3
        refine br_f n3 ?_
        by_cases k4 : k = 4
        · subst k4
          have hz : d ≠ 0 := fun z => by unfold qp_badb at hbad; simp [z] at hbad
          obtain ⟨e, rfl⟩ : ∃ e, d = e + 1 := ⟨d - 1, by omega⟩
          refine br_t rfl (br_f (nI_nle (by omega) (by omega)) ?_)
          refine xe_end lf un bi big (e + 1) m (by omega) (by omega) rfl (fa (e + 1)) (fs (e + 1)) (fi (e + 1)) D hnb g4 f1 f2 f3 (g1 (e + 1) (Nat.le_refl _)) _ (fun m' D' K2 A2 B2 L2 R2 FA2 FS2 FI2 hc hm' hok hup hfr hs1 hi1 hoth hbig => ?_)
          have hcne : qp_cn fa fs fi (e + 1) = qp_cn fa fs fi e + (qp_c (fa e) + qp_c (fs e) + qp_c (fi e)) := rfl
          obtain ⟨p1, p2, p3⟩ := g5 e (by omega)
          refine nm_r (pk_m1 e) ⟨pk_in (e + 1) 17 (by omega) (nI_1 e), ?_⟩
          rw [show (nI e + 1).toNatClampNeg = e + 1 from by rw [nI_1]; exact nI_clamp (by omega)]
          have hsi : fi e = none → fs e = none := g1 e (by omega)
          refine xe_take lf un bi big e m' (by omega) (by omega) rfl (fs e) (fi e) D' hok (by rw [(hoth e (by omega)).2.1]; exact hup _ _ p2) (by rw [(hoth e (by omega)).2.2]; exact hup _ _ p3) hsi (FA2 (e + 1)) _ (fun m3 D3 K3 A3 B3 L3 R3 FS3 hm3 hm3' hc3 hok3 hup3 hfs3 ho3 hb3 => ?_)
          refine nm_r (nI_1 t) ?_
          generalize hal : qp_alt bi (fa (e + 1)) (qp_sq lf (qp_join bi (fs (e + 1)) (fi (e + 1)))) = al at *
          have estep : qp_step lf un bi big 4 (qk_K xta t) (qk_K xtb t) (e + 1, fa, fs, fi, B) = (e, qp_set fa (e + 1) (some al), qp_set (qp_set fs (e + 1) none) e (qp_join bi (fs e) (fi e)), qp_set (qp_set fi (e + 1) none) e (some al), ((B ∨ qp_jbig bi big (fs (e + 1)) (fi (e + 1))) ∨ big al) ∨ qp_jbig bi big (fs e) (fi e)) := by
            show qp_take bi big e ((qp_end lf bi big (e + 1) (e + 1, fa, fs, fi, B)).2.1 (e + 1)) (e, (qp_end lf bi big (e + 1) (e + 1, fa, fs, fi, B)).2) = _
            unfold qp_end qp_take
            dsimp only
            rw [qp_set_s, qp_set_n (show e ≠ e + 1 by omega), qp_set_n (show e ≠ e + 1 by omega), hal]
          rw [estep] at next
          refine next m3 D3 K3 A3 B3 L3 R3 FA2 FS3 _ ⟨?_, ?_, ?_, hok3, ?_, ?_⟩
          · intro l hl hn
            show qp_set (qp_set fs (e + 1) none) e (qp_join bi (fs e) (fi e)) l = none
            have hn : qp_set (qp_set fi (e + 1) none) e (some al) l = none := hn
            have hl : l ≤ e := hl
            by_cases z : l = e
            · subst z; rw [qp_set_s] at hn; exact nomatch hn
            · rw [qp_set_n z, qp_set_n (by omega)] at hn ⊢; exact g1 l (by omega) hn
          · show e ≤ t + 1
            omega
          · show m3 + qp_cn (qp_set fa (e + 1) (some al)) (qp_set (qp_set fs (e + 1) none) e (qp_join bi (fs e) (fi e))) (qp_set (qp_set fi (e + 1) none) e (some al)) (e + 1) ≤ 2 * (t + 1)
            have ecn : qp_cn (qp_set fa (e + 1) (some al)) (qp_set (qp_set fs (e + 1) none) e (qp_join bi (fs e) (fi e))) (qp_set (qp_set fi (e + 1) none) e (some al)) (e + 1) = qp_cn fa fs fi e + (qp_c (fa e) + qp_c (qp_join bi (fs e) (fi e)) + 1) := by
              show qp_cn _ _ _ e + (qp_c (qp_set fa (e + 1) (some al) e) + qp_c (qp_set _ e _ e) + qp_c (qp_set _ e _ e)) = _
              rw [qp_set_s, qp_set_s, qp_set_n (by omega), qp_cn_cg (fa' := fa) (fs' := fs) (fi' := fi) e (fun l hl => ⟨qp_set_n (by omega), by rw [qp_set_n (by omega), qp_set_n (by omega)], by rw [qp_set_n (by omega), qp_set_n (by omega)]⟩)]
              rfl
            rw [ecn]
            omega
          · intro l hl
            have hl : l ≤ e := hl
            show qn_fr D3 m3 (FA2 l) (qp_set fa (e + 1) (some al) l) ∧ qn_fr D3 m3 (FS3 l) (qp_set (qp_set fs (e + 1) none) e (qp_join bi (fs e) (fi e)) l) ∧ qn_fr D3 m3 (upd FI2 e (FA2 (e + 1)) l) (qp_set (qp_set fi (e + 1) none) e (some al) l)
            rw [qp_set_n (show l ≠ e + 1 by omega)]
            by_cases z : l = e
            · subst z
              rw [qp_set_s, qp_set_s, pk_us, (hoth l (by omega)).1]
              exact ⟨hup3 _ _ (hup _ _ p1), hfs3, hup3 _ _ hfr⟩
            · obtain ⟨r1, r2, r3⟩ := g5 l (by omega)
              rw [qp_set_n z, qp_set_n z, qp_set_n (by omega), qp_set_n (by omega), pk_un z, ho3 l z, (hoth l (by omega)).1, (hoth l (by omega)).2.1, (hoth l (by omega)).2.2]
              exact ⟨hup3 _ _ (hup _ _ r1), hup3 _ _ (hup _ _ r2), hup3 _ _ (hup _ _ r3)⟩
          · show (((B ∨ qp_jbig bi big (fs (e + 1)) (fi (e + 1))) ∨ big al) ∨ qp_jbig bi big (fs e) (fi e)) ↔ _
            rw [hb3, hbig, g6]
        · have n4 : ¬ nI k = 4 := xe_kne (q := 4) (by omega) (by omega) k4
          refine br_f n4 ?_
          by_cases k5 : k = 5
          · subst k5
            refine br_t rfl ?_
            refine xe_end lf un bi big d m (by omega) (by omega) rfl (fa d) (fs d) (fi d) D hnb g4 f1 f2 f3 (g1 d (Nat.le_refl _)) _ (fun m' D' K2 A2 B2 L2 R2 FA2 FS2 FI2 hc hm' hok hup hfr hs1 hi1 hoth hbig => nm_r (nI_1 t) ?_)
            generalize hal : qp_alt bi (fa d) (qp_sq lf (qp_join bi (fs d) (fi d))) = al at *
            have estep : qp_step lf un bi big 5 (qk_K xta t) (qk_K xtb t) (d, fa, fs, fi, B) = (d, qp_set fa d (some al), qp_set fs d none, qp_set fi d none, (B ∨ qp_jbig bi big (fs d) (fi d)) ∨ big al) := by
              show qp_end lf bi big d (d, fa, fs, fi, B) = _
              unfold qp_end
              dsimp only
              rw [hal]
            rw [estep] at next
            refine next m' D' K2 A2 B2 L2 R2 FA2 FS2 FI2 ⟨?_, ?_, ?_, hok, ?_, ?_⟩
            · intro l hl hn
              show qp_set fs d none l = none
              have hn : qp_set fi d none l = none := hn
              have hl : l ≤ d := hl
              by_cases z : l = d
              · subst z; rw [qp_set_s]
              · rw [qp_set_n z] at hn ⊢; exact g1 l hl hn
            · show d ≤ t + 1
              omega
            · show m' + qp_cn (qp_set fa d (some al)) (qp_set fs d none) (qp_set fi d none) (d + 1) ≤ 2 * (t + 1)
              have ecn : qp_cn (qp_set fa d (some al)) (qp_set fs d none) (qp_set fi d none) (d + 1) = qp_cn fa fs fi d + 1 := by
                show qp_cn _ _ _ d + (qp_c (qp_set fa d (some al) d) + qp_c (qp_set fs d none d) + qp_c (qp_set fi d none d)) = _
                rw [qp_set_s, qp_set_s, qp_set_s, qp_cn_cg (fa' := fa) (fs' := fs) (fi' := fi) d (fun l hl => ⟨qp_set_n (by omega), qp_set_n (by omega), qp_set_n (by omega)⟩)]
                rfl
              rw [ecn]
              omega
            · intro l hl
              have hl : l ≤ d := hl
              show qn_fr D' m' (FA2 l) (qp_set fa d (some al) l) ∧ qn_fr D' m' (FS2 l) (qp_set fs d none l) ∧ qn_fr D' m' (FI2 l) (qp_set fi d none l)
              by_cases z : l = d
              · subst z
                rw [qp_set_s, qp_set_s, qp_set_s]
                exact ⟨hfr, hs1, hi1⟩
              · obtain ⟨r1, r2, r3⟩ := g5 l hl
                rw [qp_set_n z, qp_set_n z, qp_set_n z, (hoth l z).1, (hoth l z).2.1, (hoth l z).2.2]
                exact ⟨hup _ _ r1, hup _ _ r2, hup _ _ r3⟩
            · show ((B ∨ qp_jbig bi big (fs d) (fi d)) ∨ big al) ↔ _
              rw [hbig, g6]
          · have n5 : ¬ nI k = 5 := xe_kne (q := 5) (by omega) (by omega) k5
            refine br_f n5 ?_
            refine xe_isrep k hk12 _ (fun hr => br_f (by decide) ⟨hid, ?_⟩) (fun hr => br_t rfl ?_)
            · rw [cd]
              cases hfi : fi d with
              | none =>
                exfalso
                unfold qp_badb at hbad
                dsimp only at hbad
                rw [hfi] at hbad
                simp [hr] at hbad
              | some x =>
                rw [hfi] at f3 hcnd
                refine xe_rep lf un bi big t m k (by omega) (by omega) rfl hr ek q9 D hnb g4 (FI' d) x f3 _ (fun r m' D' K2 A2 B2 L2 R2 hm' hok hup hfr hbig => ⟨hid, nm_e (nm_r (nI_1 t) ?_)⟩)
                try rw [cd]
                have estep : qp_step lf un bi big k (qk_K xta t) (qk_K xtb t) (d, fa, fs, fi, B) = (d, fa, fs, qp_set fi d (some (qp_rep lf un bi k (qk_K xta t) (qk_K xtb t) x)), B ∨ big (qp_rep lf un bi k (qk_K xta t) (qk_K xtb t) x)) := by
                  unfold qp_step
                  rw [if_neg k3, if_neg k4, if_neg k5, if_pos (by omega)]
                  dsimp only
                  rw [hfi]
                  rfl
                rw [estep] at next
                generalize qp_rep lf un bi k (qk_K xta t) (qk_K xtb t) x = rp at *
                refine next m' D' K2 A2 B2 L2 R2 FA' FS' _ ⟨?_, ?_, ?_, hok, ?_, ?_⟩
                · intro l hl hn
                  show fs l = none
                  have hn : qp_set fi d (some rp) l = none := hn
                  have hl : l ≤ d := hl
                  by_cases z : l = d
                  · subst z; rw [qp_set_s] at hn; exact nomatch hn
                  · rw [qp_set_n z] at hn; exact g1 l hl hn
                · show d ≤ t + 1
                  omega
                · show m' + qp_cn fa fs (qp_set fi d (some rp)) (d + 1) ≤ 2 * (t + 1)
                  have ecn : qp_cn fa fs (qp_set fi d (some rp)) (d + 1) = qp_cn fa fs fi d + (qp_c (fa d) + qp_c (fs d) + 1) := by
                    show qp_cn _ _ _ d + (qp_c (fa d) + qp_c (fs d) + qp_c (qp_set fi d (some rp) d)) = _
                    rw [qp_set_s, qp_cn_cg (fa' := fa) (fs' := fs) (fi' := fi) d (fun l hl => ⟨rfl, rfl, qp_set_n (by omega)⟩)]
                    rfl
                  have : qp_c (some x) = 1 := rfl
                  rw [ecn]
                  omega
                · intro l hl
                  have hl : l ≤ d := hl
                  show qn_fr D' m' (FA' l) (fa l) ∧ qn_fr D' m' (FS' l) (fs l) ∧ qn_fr D' m' (upd FI' d r l) (qp_set fi d (some rp) l)
                  obtain ⟨r1, r2, r3⟩ := g5 l hl
                  by_cases z : l = d
                  · subst z
                    rw [qp_set_s, pk_us]
                    exact ⟨hup _ _ r1, hup _ _ r2, hfr⟩
                  · rw [qp_set_n z, pk_un z]
                    exact ⟨hup _ _ r1, hup _ _ r2, hup _ _ r3⟩
                · show (B ∨ big rp) ↔ _
                  rw [hbig, g6]
            · have hk6 : ¬ (k = 6 ∨ k = 7 ∨ k = 8 ∨ k = 9) := by clear g6; omega
              refine xe_leaf lf un bi t m k (by omega) (by omega) rfl (by omega) ek q0 q2 D g4 _ (fun K2 A2 B2 L2 R2 hok => ?_)
              have hsi := g1 d (Nat.le_refl _)
              refine xe_take lf un bi big d (m + 1) (by omega) (by omega) rfl (fs d) (fi d) _ hok (qn_fr_up _ f2) (qn_fr_up _ f3) hsi (nI m) _ (fun m3 D3 K3 A3 B3 L3 R3 FS3 hm3 hm3' hc3 hok3 hup3 hfs3 ho3 hb3 => nm_r (nI_1 t) ?_)
              have estep : qp_step lf un bi big k (qk_K xta t) (qk_K xtb t) (d, fa, fs, fi, B) = (d, fa, qp_set fs d (qp_join bi (fs d) (fi d)), qp_set fi d (some (qp_leaf lf k (qk_K xta t))), (B ∨ qp_jbig bi big (fs d) (fi d)) ∨ big (qp_leaf lf k (qk_K xta t))) := by
                unfold qp_step
                rw [if_neg k3, if_neg k4, if_neg k5, if_neg hk6]
                rfl
              rw [estep] at next
              generalize hlf : qp_leaf lf k (qk_K xta t) = LF at *
              refine next m3 D3 K3 A3 B3 L3 R3 FA' FS3 _ ⟨?_, ?_, ?_, hok3, ?_, ?_⟩
              · intro l hl hn
                show qp_set fs d (qp_join bi (fs d) (fi d)) l = none
                have hn : qp_set fi d (some LF) l = none := hn
                have hl : l ≤ d := hl
                by_cases z : l = d
                · subst z; rw [qp_set_s] at hn; exact nomatch hn
                · rw [qp_set_n z] at hn ⊢; exact g1 l hl hn
              · show d ≤ t + 1
                omega
              · show m3 + qp_cn fa (qp_set fs d (qp_join bi (fs d) (fi d))) (qp_set fi d (some LF)) (d + 1) ≤ 2 * (t + 1)
                have ecn : qp_cn fa (qp_set fs d (qp_join bi (fs d) (fi d))) (qp_set fi d (some LF)) (d + 1) = qp_cn fa fs fi d + (qp_c (fa d) + qp_c (qp_join bi (fs d) (fi d)) + 1) := by
                  show qp_cn _ _ _ d + (qp_c (fa d) + qp_c (qp_set fs d _ d) + qp_c (qp_set fi d (some LF) d)) = _
                  rw [qp_set_s, qp_set_s, qp_cn_cg (fa' := fa) (fs' := fs) (fi' := fi) d (fun l hl => ⟨rfl, qp_set_n (by omega), qp_set_n (by omega)⟩)]
                  rfl
                rw [ecn]
                omega
              · intro l hl
                have hl : l ≤ d := hl
                show qn_fr D3 m3 (FA' l) (fa l) ∧ qn_fr D3 m3 (FS3 l) (qp_set fs d (qp_join bi (fs d) (fi d)) l) ∧ qn_fr D3 m3 (upd FI' d (nI m) l) (qp_set fi d (some LF) l)
                obtain ⟨r1, r2, r3⟩ := g5 l hl
                by_cases z : l = d
                · subst z
                  rw [qp_set_s, qp_set_s, pk_us]
                  exact ⟨hup3 _ _ (qn_fr_up _ r1), hfs3, hup3 _ _ (qn_fr_new D m LF)⟩
                · rw [qp_set_n z, qp_set_n z, pk_un z, ho3 l z]
                  exact ⟨hup3 _ _ (qn_fr_up _ r1), hup3 _ _ (qn_fr_up _ r2), hup3 _ _ (qn_fr_up _ r3)⟩
              · show ((B ∨ qp_jbig bi big (fs d) (fi d)) ∨ big LF) ↔ _
                rw [hb3, qn_big, g6]
                constructor
                · rintro ((h | h) | h)
                  · exact Or.inl (Or.inl h)
                  · exact Or.inr h
                  · exact Or.inl (Or.inr h)
                · rintro ((h | h) | h)
                  · exact Or.inl (Or.inl h)
                  · exact Or.inr h
                  · exact Or.inl (Or.inr h)
theorem xe_parse (nt : Nat) (hk : qk_ok xtk xta xtb nt) (htc : xtc = nI nt) (hnb : ¬ big (lf 12 0)) (hw : qp_wrong lf un bi big (qk_K xtk) (qk_K xta) (qk_K xtb) nt = -1) (post : Int32 → SX → Prop)
  (hp : ∀ (root : Int32) (m' : Nat) (D' : Nat → V) (K' A' B' L' R' FA' FS' FI' : Nat → Int32), m' ≤ 33 → qn_ok lf un bi K' A' B' L' R' m' D' → qn_fr D' m' root (some (qp_alt bi ((qp_run lf un bi big (qk_K xtk) (qk_K xta) (qk_K xtb) nt).2.1 0) (qp_sq lf (qp_join bi ((qp_run lf un bi big (qk_K xtk) (qk_K xta) (qk_K xtb) nt).2.2.1 0) ((qp_run lf un bi big (qk_K xtk) (qk_K xta) (qk_K xtb) nt).2.2.2.1 0))))) → ((qp_end lf bi big 0 (qp_run lf un bi big (qk_K xtk) (qk_K xta) (qk_K xtb) nt)).2.2.2.2 ↔ ∃ n, n < m' ∧ big (D' n)) → post root (xwc, xdc, xdm, xsc, xtc, nI m', xmc, xbr, xwt, xch, xtl, xwf, xdn, xdf, xdl, xss, xtk, xta, xtb, K', A', B', L', R', xns, FA', FS', FI', xrw, xrc, xcl, xhd, xre, xhi, xwo)) : wpX_parse post (xwc, xdc, xdm, xsc, xtc, xnc, xmc, xbr, xwt, xch, xtl, xwf, xdn, xdf, xdl, xss, xtk, xta, xtb, xnk, xna, xnb, xnl, xnr, xns, xfa, xfs, xfi, xrw, xrc, xcl, xhd, xre, xhi, xwo) := by
  have h16 := hk.1
  obtain ⟨hg, h0⟩ := qp_wr_ok lf un bi big _ _ _ nt nt 0 (by omega) (by omega) hw
  unfold wpX_parse
  have hi1 : vp_in (0 : Int32) 17 := pk_in 0 17 (by omega)
  refine And.intro hi1 (nm_e (And.intro hi1 (nm_e (And.intro hi1 (nm_e ⟨nt + 1, ?_⟩)))))
  refine xe_loop lf un bi big nt hk htc hnb (fun j hj => hg j (by omega) hj) h0 post hp (nt + 1) 0 0 (fun _ => lf 12 0) xnk xna xnb xnl xnr _ _ _ (by omega) (by omega) ⟨fun l _ _ => rfl, Nat.le_refl _, Nat.le_refl _, fun n hn => absurd hn (by omega), fun l hl => ?_, ⟨fun h => h.elim, fun ⟨n, hn, _⟩ => absurd hn (by omega)⟩⟩
  have e : l = 0 := Nat.le_zero.mp hl
  subst e
  exact ⟨pk_us, pk_us, pk_us⟩
end
end
section
/-! too large -/
def qv_big (v : qv_T) : Prop := 60 < v.1
theorem qv_nb : ¬ qv_big (qv_lf 12 0) := by
  intro h
  have : (qv_lf 12 0).1 = 0 := rfl
  unfold qv_big at h
  omega
/-- what stands on a stack, by its places -/
def qz_sl {V : Type} (R : Nat → V → Prop) : List V → Prop
  | [] => True
  | v :: s => R s.length v ∧ qz_sl R s
theorem qz_sl_cg {V : Type} {R R' : Nat → V → Prop} : ∀ {st : List V}, (∀ p v, p < st.length → R p v → R' p v) → qz_sl R st → qz_sl R' st
  | [], _, _ => trivial
  | v :: s, h, ⟨h1, h2⟩ => ⟨h s.length v (by simp) h1, qz_sl_cg (fun p v hp => h p v (by rw [List.length_cons]; omega)) h2⟩
section
variable {V : Type} (lf : Nat → Nat → V) (un : Nat → Nat → Nat → V → V) (bi : Nat → V → V → V) (big : V → Prop)
def qz_R (op oa ob : Nat → Int32) (k : Nat) : List V := qp_yr lf un bi (fun j => (op j).toNatClampNeg) (fun j => (oa j).toNatClampNeg) (fun j => (ob j).toNatClampNeg) k
/-- the step of the k-th op on the stack of parts -/
def qz_stp (op oa ob : Nat → Int32) (k : Nat) : Prop := ∃ o : Nat, op k = nI o ∧ ((o < 3 ∨ o = 10 ∨ o = 11) ∧ (o = 0 → (oa k).toNatClampNeg < 6 ∧ oa k = nI (oa k).toNatClampNeg) ∧ (o = 2 → (1 ≤ (oa k).toNatClampNeg ∧ (oa k).toNatClampNeg ≤ 63) ∧ oa k = nI (oa k).toNatClampNeg) ∧ qz_R lf un bi op oa ob (k + 1) = qp_leaf lf o (oa k).toNatClampNeg :: qz_R lf un bi op oa ob k ∨
  o = 12 ∧ qz_R lf un bi op oa ob (k + 1) = lf 12 0 :: qz_R lf un bi op oa ob k ∨
  ((6 ≤ o ∧ o ≤ 9) ∧ (o = 9 → (oa k).toNatClampNeg ≤ (ob k).toNatClampNeg ∧ (ob k).toNatClampNeg ≤ 3 ∧ oa k = nI (oa k).toNatClampNeg ∧ ob k = nI (ob k).toNatClampNeg) ∧ ∃ x s, qz_R lf un bi op oa ob k = x :: s ∧ qz_R lf un bi op oa ob (k + 1) = qp_rep lf un bi o (oa k).toNatClampNeg (ob k).toNatClampNeg x :: s) ∨
  ((o = 13 ∨ o = 14) ∧ ∃ y x s, qz_R lf un bi op oa ob k = y :: x :: s ∧ qz_R lf un bi op oa ob (k + 1) = bi (if o = 13 then 13 else 5) x y :: s)) ∧ (qz_R lf un bi op oa ob (k + 1)).length ≤ 17 ∧ (qz_R lf un bi op oa ob k).length ≤ 17
theorem qz_step {op oa ob : Nat → Int32} {n : Nat} {st : List V} {P : Prop} (h : qp_YO lf un bi big op oa ob n st P) {k : Nat} (hk : k < n) : qz_stp lf un bi op oa ob k := by
  obtain ⟨_, _, h3⟩ := h
  obtain ⟨e1, e2, e3, e4, e5⟩ := h3 k hk
  have e6 : (qz_R lf un bi op oa ob k).length ≤ 17 := by
    cases k with
    | zero => exact Nat.zero_le _
    | succ k => exact (h3 k (by omega)).2.2.2.2
  refine ⟨(op k).toNatClampNeg, e1, ?_, e5, e6⟩
  obtain ⟨c1, c2, c3, c4, c5, c6, c7⟩ := e4
  have er : qz_R lf un bi op oa ob (k + 1) = qp_y lf un bi (op k).toNatClampNeg (oa k).toNatClampNeg (ob k).toNatClampNeg (qz_R lf un bi op oa ob k) := rfl
  have c6' : (op k).toNatClampNeg = 13 ∨ (op k).toNatClampNeg = 14 → 2 ≤ (qz_R lf un bi op oa ob k).length := c6
  have c7' : 6 ≤ (op k).toNatClampNeg ∧ (op k).toNatClampNeg ≤ 9 → 1 ≤ (qz_R lf un bi op oa ob k).length := c7
  rw [er]
  generalize (op k).toNatClampNeg = o at *
  generalize qz_R lf un bi op oa ob k = st' at *
  clear er c6 c7 e5 h3
  by_cases h1 : o = 13 ∨ o = 14
  · refine Or.inr (Or.inr (Or.inr ⟨h1, ?_⟩))
    have := c6' h1
    match st', this with
    | y :: x :: s, _ =>
      refine ⟨y, x, s, rfl, ?_⟩
      unfold qp_y
      rw [if_pos h1]
  · by_cases h2 : 6 ≤ o ∧ o ≤ 9
    · refine Or.inr (Or.inr (Or.inl ⟨h2, fun h9 => ⟨(c5 h9).1, (c5 h9).2, (e3 h9).1, (e3 h9).2⟩, ?_⟩))
      have := c7' h2
      match st', this with
      | x :: s, _ =>
        refine ⟨x, s, rfl, ?_⟩
        unfold qp_y
        rw [if_neg h1, if_pos h2]
    · by_cases h3 : o = 12
      · refine Or.inr (Or.inl ⟨h3, ?_⟩)
        unfold qp_y
        rw [if_neg h1, if_neg h2, if_pos h3]
      · refine Or.inl ⟨by omega, fun h0 => ⟨c3 h0, e2 (Or.inl h0)⟩, fun h0 => ⟨c4 h0, e2 (Or.inr h0)⟩, ?_⟩
        unfold qp_y
        rw [if_neg h1, if_neg h2, if_neg h3]
end
section
variable {ywa ydd ynd yns yma ynt yno yrc yfo ybl yod ywr : Int32} {yan yab yac yad yal yabl yacl yacf ynu yfi ypa ysz yli ytx yki yf1 yf2 yo yoa yob yit yss ymo yst ymy ycl yrw yow yhi yla : Nat → Int32} {yen : Nat → Int64}
theorem yz_gr (o : Nat) (ho : o < 15) (post : Int32 → Prop) (h1 : o < 6 ∨ 10 ≤ o ∧ o < 13 → post 1) (h0 : 6 ≤ o ∧ o ≤ 9 → post 0) (hm : 13 ≤ o → post (-1)) : wpY_growth post (nI o) := by
  refine pk_lt o 13 (fun hl => ?_) (fun hl => hm hl)
  refine ys_in (nI o) 6 9 (by decide) (by decide) 6 9 rfl rfl _ (fun z => br_t rfl (h1 ?_)) (fun j h2 h3 e => br_f (by decide) (h0 ?_))
  · have : ¬ (6 ≤ o ∧ o ≤ 9) := fun w => z o w.1 w.2 rfl
    omega
  · rw [nI_eq (by omega) (by omega)] at e
    omega
theorem yz_large1 (n : Nat) (hn : n ≤ 33) (hno : yno = nI n) (st : List qv_T) (P : Prop) (hO : qp_YO qv_lf qv_un qv_bi qv_big yo yoa yob n st P) (post : Int32 → SY → Prop)
  (h0 : ¬ P → ∀ ss : Nat → Int32, post 0 (ywa, ydd, ynd, yns, yma, ynt, yno, yrc, yfo, ybl, yod, ywr, yan, yab, yac, yad, yal, yabl, yacl, yacf, ynu, yfi, ypa, ysz, yli, ytx, yki, yf1, yf2, yo, yoa, yob, yit, ss, ymo, yst, ymy, ycl, yrw, yow, yen, yhi, yla)) (h1 : P → ∀ ss : Nat → Int32, post 1 (ywa, ydd, ynd, yns, yma, ynt, yno, yrc, yfo, ybl, yod, ywr, yan, yab, yac, yad, yal, yabl, yacl, yacf, ynu, yfi, ypa, ysz, yli, ytx, yki, yf1, yf2, yo, yoa, yob, yit, ss, ymo, yst, ymy, ycl, yrw, yow, yen, yhi, yla)) :
  ∀ (N k : Nat) (ss : Nat → Int32), k ≤ n → n - k < N → qz_sl (fun p v => ss p = nI v.1 ∧ v.1 ≤ 60) (qz_R qv_lf qv_un qv_bi yo yoa yob k) → (∀ j, j < k → ¬ qp_big1 qv_big (qz_R qv_lf qv_un qv_bi yo yoa yob (j + 1))) → wY_isLarge_4 post ywa ydd ynd yns yma ynt yno yrc yfo ybl yod ywr N (nI (qz_R qv_lf qv_un qv_bi yo yoa yob k).length) (nI k) yan yab yac yad yal yabl yacl yacf ynu yfi ypa ysz yli ytx yki yf1 yf2 yo yoa yob yit ss ymo yst ymy ycl yrw yow yen yhi yla := by
  intro N
  subst hno
  induction N with
  | zero => intro k ss h2 h3; omega
  | succ N ih =>
    intro k ss h2 h3 h4 h5
    refine pk_le n k (fun hle => ?_) (fun hlt => ?_)
    · have e : k = n := by omega
      subst e
      refine h0 (fun hP => ?_) ss
      obtain ⟨j, hj, hb⟩ := hO.2.1.mp hP
      exact h5 j hj hb
    · have ck : (nI k).toNatClampNeg = k := nI_clamp (by omega)
      obtain ⟨o, eo, hc, hl1, hl0⟩ := qz_step qv_lf qv_un qv_bi qv_big hO hlt
      have ho : o < 15 := by rcases hc with h | h | h | h <;> omega
      -- the store, and what goes on behind it
      have fin : ∀ (v : qv_T) (s : List qv_T) (ss' : Nat → Int32), qz_R qv_lf qv_un qv_bi yo yoa yob (k + 1) = v :: s → qz_sl (fun p v => ss p = nI v.1 ∧ v.1 ≤ 60) s → v.1 ≤ 1000 → wY_isLarge_156 post (wY_isLarge_4 post ywa ydd ynd yns yma ynt (nI n) yrc yfo ybl yod ywr N) (nI (s.length + 1)) (nI k) (nI v.1) (nI (s.length + 1) - 1) ywa ydd ynd yns yma ynt (nI n) yrc yfo ybl yod ywr yan yab yac yad yal yabl yacl yacf ynu yfi ypa ysz yli ytx yki yf1 yf2 yo yoa yob yit ss ymo yst ymy ycl yrw yow yen yhi yla := by
        intro v s ss' er hs hv
        have e1 : nI (s.length + 1) - 1 = nI s.length := nI_pred _
        rw [er, List.length_cons] at hl1
        refine ⟨pk_in s.length 20 (by omega) e1, nm_e ⟨pk_in s.length 20 (by omega) e1, ?_⟩⟩
        rw [e1, nI_clamp (by omega), pk_us]
        refine pk_le v.1 60 (fun hle => nm_r (nI_1 k) ?_) (fun hgt => ?_) rfl rfl (by omega) (by omega)
        · have := ih (k + 1) (upd ss s.length (nI v.1)) (by omega) (by omega) (by
            rw [er]
            refine ⟨⟨pk_us, hle⟩, qz_sl_cg (fun p w hp h => ⟨(pk_un (by omega)).trans h.1, h.2⟩) hs⟩) (fun j hj => by
            by_cases z : j = k
            · subst z
              rw [er]
              rintro ⟨w, s', e, hb⟩
              have : v = w := (List.cons.inj e).1
              subst this
              unfold qv_big at hb
              omega
            · exact h5 j (by omega))
          rw [er, List.length_cons] at this
          exact this
        · exact h1 (hO.2.1.mpr ⟨k, hlt, v, s, er, hgt⟩) _
      refine ⟨pk_in k 40 (by omega), nm_r (e' := nI o) (by rw [ck]; exact eo) ?_⟩
      refine yz_gr o ho _ (fun hg => ?_) (fun hg => ?_) (fun hg => ?_)
      · -- a leaf
        refine nm_r (nI_1 _) ?_
        have hin1 : vp_in (nI ((qz_R qv_lf qv_un qv_bi yo yoa yob k).length + 1) - 1) 20 := pk_in (qz_R qv_lf qv_un qv_bi yo yoa yob k).length 20 (by omega) (nI_pred _)
        refine ⟨hin1, nm_e ⟨pk_in ((qz_R qv_lf qv_un qv_bi yo yoa yob k).length + 1) 20 (by omega), nm_e ?_⟩⟩
        rcases hc with ⟨hk, hk0, hk2, er⟩ | ⟨hk, er⟩ | ⟨hk, _⟩ | ⟨hk, _⟩
        · refine br_f (xe_kne (q := 12) (by omega) (by omega) (by omega)) (br_f (xe_kne (q := 13) (by omega) (by omega) (by omega)) (br_f (xe_kne (q := 14) (by omega) (by omega) (by omega)) (br_f (xe_kne (q := 6) (by omega) (by omega) (by omega)) (br_f (xe_kne (q := 7) (by omega) (by omega) (by omega)) (br_f (xe_kne (q := 8) (by omega) (by omega) (by omega)) (br_f (xe_kne (q := 9) (by omega) (by omega) (by omega)) ?_))))))
          have hv : (qp_leaf qv_lf o (yoa k).toNatClampNeg).1 = 1 := by
            unfold qp_leaf
            split
            · rfl
            · split
              · rfl
              · split
                · rfl
                · show (if o = 12 then 0 else 1) = 1
                  rw [if_neg (by omega)]
          have := fin _ _ ss er h4 (by rw [hv]; omega)
          rw [hv] at this
          exact this
        · refine br_t (by rw [hk]; rfl) ?_
          exact fin _ _ ss er h4 (by show 0 ≤ 1000; omega)
        · omega
        · omega
      · -- a repeat
        rcases hc with ⟨hk, _⟩ | ⟨hk, _⟩ | ⟨hk, h9, x, s, e0, er⟩ | ⟨hk, _⟩
        · omega
        · omega
        · rw [e0] at h4 hl0 ⊢
          rw [List.length_cons] at hl0 ⊢
          obtain ⟨⟨hx1, hx2⟩, hs⟩ := h4
          have e1 : nI (s.length + 1) - 1 = nI s.length := nI_pred _
          refine nm_r (e' := nI (s.length + 1)) (by grind) ⟨pk_in s.length 20 (by omega) e1, nm_r (e' := nI x.1) (by rw [e1, nI_clamp (by omega)]; exact hx1) ⟨pk_in (s.length + 1) 20 (by omega), nm_e ?_⟩⟩
          refine br_f (xe_kne (q := 12) (by omega) (by omega) (by omega)) (br_f (xe_kne (q := 13) (by omega) (by omega) (by omega)) (br_f (xe_kne (q := 14) (by omega) (by omega) (by omega)) ?_))
          have hv : (qp_rep qv_lf qv_un qv_bi o (yoa k).toNatClampNeg (yob k).toNatClampNeg x).1 = if o = 6 then x.1 + 2 else if o = 7 then x.1 + 1 else if o = 8 then x.1 + 1 else (yob k).toNatClampNeg * x.1 + (yob k).toNatClampNeg - (yoa k).toNatClampNeg := by
            unfold qp_rep
            by_cases o8 : o = 8
            · subst o8; rfl
            · rw [if_neg o8]
              by_cases o9 : o = 9
              · rw [if_pos o9]
                obtain ⟨hab, hb3, _⟩ := h9 o9
                have hr : (if o = 6 then x.1 + 2 else if o = 7 then x.1 + 1 else if o = 8 then x.1 + 1 else (yob k).toNatClampNeg * x.1 + (yob k).toNatClampNeg - (yoa k).toNatClampNeg) = (yob k).toNatClampNeg * x.1 + (yob k).toNatClampNeg - (yoa k).toNatClampNeg := by
                  rw [if_neg (show ¬ o = 6 by omega), if_neg (show ¬ o = 7 by omega), if_neg o8]
                rw [hr]
                by_cases hb0 : (yob k).toNatClampNeg = 0
                · rw [if_pos hb0, hb0, Nat.zero_mul]
                  show 0 = _
                  omega
                · rw [if_neg hb0]
                  by_cases h11 : (yoa k).toNatClampNeg = 1 ∧ (yob k).toNatClampNeg = 1
                  · rw [if_pos h11, h11.1, h11.2]
                    omega
                  · rw [if_neg h11]
                    show (yob k).toNatClampNeg * x.1 + ((yob k).toNatClampNeg - (yoa k).toNatClampNeg) = _
                    omega
              · rw [if_neg o9]
                by_cases o6 : o = 6
                · rw [if_pos o6]
                  show (if o = 6 then _ else _) = _
                  rw [if_pos o6]
                · have o7 : o = 7 := by omega
                  rw [if_neg o6, if_pos o7]
                  show (if o = 6 then _ else if o = 7 then _ else _) = _
                  rw [if_neg o6, if_pos o7]
          have hbx : (yob k).toNatClampNeg ≤ 3 → (yob k).toNatClampNeg * x.1 ≤ 180 := fun h => by
            have := Nat.mul_le_mul h hx2
            omega
          refine pk_eq o 6 (fun e6 => ?_) (fun e6 => pk_eq o 7 (fun e7 => ?_) (fun e7 => pk_eq o 8 (fun e8 => ?_) (fun e8 => pk_eq o 9 (fun e9 => ?_) (fun e9 => by omega))))
          · rw [if_pos e6] at hv
            have := fin _ _ ss er hs (by rw [hv]; omega)
            rw [hv] at this
            rw [show nI x.1 + 2 = nI (x.1 + 2) from nI_add _ 2]
            exact this
          · rw [if_neg e6, if_pos e7] at hv
            have := fin _ _ ss er hs (by rw [hv]; omega)
            rw [hv] at this
            unfold wY_isLarge_116
            rw [nI_1 x.1]
            exact this
          · rw [if_neg e6, if_neg e7, if_pos e8] at hv
            have := fin _ _ ss er hs (by rw [hv]; omega)
            rw [hv] at this
            unfold wY_isLarge_116
            rw [nI_1 x.1]
            exact this
          · rw [if_neg e6, if_neg e7, if_neg e8] at hv
            obtain ⟨hab, hb3, ea, eb⟩ := h9 e9
            have hb180 := hbx hb3
            have := fin _ _ ss er hs (by rw [hv]; omega)
            rw [hv] at this
            refine ⟨pk_in k 40 (by omega), pk_in k 40 (by omega), pk_in k 40 (by omega), ?_⟩
            rw [ck, ea, eb, pk_mul, nI_add, pk_sub (by omega)]
            exact this
        · omega
      · -- a seq, an alt
        rcases hc with ⟨hk, _⟩ | ⟨hk, _⟩ | ⟨hk, _⟩ | ⟨hk, y, x, s, e0, er⟩
        · omega
        · omega
        · omega
        · rw [e0] at h4 hl0 ⊢
          rw [List.length_cons, List.length_cons] at hl0 ⊢
          obtain ⟨⟨hy1, hy2⟩, ⟨hx1, hx2⟩, hs⟩ := h4
          rw [List.length_cons] at hy1
          have e1 : nI (s.length + 1) - 1 = nI s.length := nI_pred _
          refine nm_r (pk_m1 _) ⟨pk_in s.length 20 (by omega) e1, nm_r (e' := nI x.1) (by rw [e1, nI_clamp (by omega)]; exact hx1) ⟨pk_in (s.length + 1) 20 (by omega), nm_r (e' := nI y.1) (by rw [nI_clamp (by omega)]; exact hy1) ?_⟩⟩
          refine br_f (xe_kne (q := 12) (by omega) (by omega) (by omega)) (pk_eq o 13 (fun e13 => ?_) (fun e13 => br_t (by rw [show o = 14 by omega]; rfl) ?_))
          · rw [if_pos e13] at er
            have := fin _ _ ss er hs (by show x.1 + y.1 ≤ 1000; omega)
            rw [nI_add]
            exact this
          · rw [if_neg e13] at er
            have := fin _ _ ss er hs (by show x.1 + y.1 + 2 ≤ 1000; omega)
            rw [nI_add, show nI (x.1 + y.1) + 2 = nI (x.1 + y.1 + 2) from nI_add _ 2]
            exact this
theorem yz_large (n : Nat) (hn : n ≤ 33) (hno : yno = nI n) (st : List qv_T) (P : Prop) (hO : qp_YO qv_lf qv_un qv_bi qv_big yo yoa yob n st P) (post : Int32 → SY → Prop)
  (h0 : ¬ P → ∀ ss : Nat → Int32, post 0 (ywa, ydd, ynd, yns, yma, ynt, yno, yrc, yfo, ybl, yod, ywr, yan, yab, yac, yad, yal, yabl, yacl, yacf, ynu, yfi, ypa, ysz, yli, ytx, yki, yf1, yf2, yo, yoa, yob, yit, ss, ymo, yst, ymy, ycl, yrw, yow, yen, yhi, yla)) (h1 : P → ∀ ss : Nat → Int32, post 1 (ywa, ydd, ynd, yns, yma, ynt, yno, yrc, yfo, ybl, yod, ywr, yan, yab, yac, yad, yal, yabl, yacl, yacf, ynu, yfi, ypa, ysz, yli, ytx, yki, yf1, yf2, yo, yoa, yob, yit, ss, ymo, yst, ymy, ycl, yrw, yow, yen, yhi, yla)) : wpY_isLarge post (ywa, ydd, ynd, yns, yma, ynt, yno, yrc, yfo, ybl, yod, ywr, yan, yab, yac, yad, yal, yabl, yacl, yacf, ynu, yfi, ypa, ysz, yli, ytx, yki, yf1, yf2, yo, yoa, yob, yit, yss, ymo, yst, ymy, ycl, yrw, yow, yen, yhi, yla) :=
  ⟨n + 1, yz_large1 n hn hno st P hO post h0 h1 (n + 1) 0 yss (by omega) (by omega) trivial (fun j hj => absurd hj (by omega))⟩
end
end
section
/-! the class: sizes of its nodes -/
section
variable {xwc xdc xdm xsc xtc xnc xmc xbr xwt : Int32} {xch xtl xwf xdn xdf xdl xss xtk xta xtb xnk xna xnb xnl xnr xns xfa xfs xfi xrc xcl xhd xhi xwo : Nat → Int32} {xrw xre : Nat → Int64}
theorem xz_size (n m : Nat) (D : Nat → qv_T) (hm : m ≤ 33) (hn : n < m) (hok : qn_ok qv_lf qv_un qv_bi xnk xna xnb xnl xnr m D) (hs : ∀ j, j < n → xns j = nI (D j).1 ∧ (D j).1 ≤ 60) (post : Int32 → Prop) (hp : (D n).1 ≤ 1000 → post (nI (D n).1)) : wpX_sizeOf post (xwc, xdc, xdm, xsc, xtc, xnc, xmc, xbr, xwt, xch, xtl, xwf, xdn, xdf, xdl, xss, xtk, xta, xtb, xnk, xna, xnb, xnl, xnr, xns, xfa, xfs, xfi, xrw, xrc, xcl, xhd, xre, xhi, xwo) (nI n) := by
  have hin : vp_in (nI n) 40 := pk_in n 40 (by omega)
  have cn : (nI n).toNatClampNeg = n := nI_clamp (by omega)
  obtain ⟨k, l, r, ek, el, er, hl, hr, hc⟩ := hok n hn
  unfold wpX_sizeOf
  refine ⟨hin, ?_⟩
  rw [cn, el, er, ek, nI_clamp (show l < 2 ^ 31 by omega), nI_clamp (show r < 2 ^ 31 by omega)]
  refine ⟨pk_in l 40 (by omega), nm_e ⟨hin, pk_in r 40 (by omega), nm_e ⟨hin, nm_e ?_⟩⟩⟩
  rcases hc with ⟨hk, a, _, _, _, ev⟩ | ⟨hk, ev⟩ | ⟨hk, hl', ev⟩ | ⟨hk, hl', a, b, ea, eb, hab, hb3, hb1, ev⟩ | ⟨hk, hl', hr', ev⟩
  · rw [ev] at hp
    exact br_t (nI_lt (b := 5) (by omega) (by decide)) (hp (by show 1 ≤ 1000; omega))
  · rw [ev] at hp
    refine br_f (nI_nlt (b := 5) (by omega) (by omega)) (br_f (nI_nlt (a := 13) (b := k) (by omega) (by omega)) ?_)
    refine br_f (xe_kne (q := 5) (by omega) (by omega) (by omega)) (br_f (xe_kne (q := 6) (by omega) (by omega) (by omega)) (br_f (xe_kne (q := 7) (by omega) (by omega) (by omega)) (br_f (xe_kne (q := 8) (by omega) (by omega) (by omega)) (br_f (xe_kne (q := 9) (by omega) (by omega) (by omega)) ?_))))
    rcases hk with h | h | h
    · subst h; exact br_t rfl (hp (by show 1 ≤ 1000; omega))
    · subst h; exact br_f (by decide) (br_t rfl (hp (by show 1 ≤ 1000; omega)))
    · subst h; exact br_f (by decide) (br_f (by decide) (br_t rfl (hp (by show 0 ≤ 1000; omega))))
  · rw [ev] at hp
    obtain ⟨s1, s2⟩ := hs l hl'
    rw [s1]
    refine br_f (nI_nlt (b := 5) (by omega) (by omega)) (br_f (nI_nlt (a := 13) (b := k) (by omega) (by omega)) ?_)
    refine br_f (xe_kne (q := 5) (by omega) (by omega) (by omega)) ?_
    rcases hk with h | h
    · subst h
      refine br_t rfl ?_
      rw [show nI (D l).1 + 2 = nI ((D l).1 + 2) from nI_add _ 2]
      exact hp (by show (D l).1 + 2 ≤ 1000; omega)
    · subst h
      refine br_f (by decide) (br_t rfl ?_)
      rw [nI_1]
      exact hp (by show (D l).1 + 1 ≤ 1000; omega)
  · rw [ev] at hp
    obtain ⟨s1, s2⟩ := hs l hl'
    rw [s1]
    subst hk
    refine br_f (by decide) (br_f (by decide) (br_f (by decide) (br_f (by decide) (br_f (by decide) (br_f (by decide) (br_t rfl ⟨hin, hin, hin, ?_⟩))))))
    have hbx : b * (D l).1 ≤ 180 := by
      have := Nat.mul_le_mul hb3 s2
      omega
    rw [ea, eb, pk_mul, nI_add, pk_sub (by omega)]
    have e : b * (D l).1 + b - a = b * (D l).1 + (b - a) := by omega
    rw [e]
    exact hp (by show b * (D l).1 + (b - a) ≤ 1000; omega)
  · rw [ev] at hp
    obtain ⟨s1, s2⟩ := hs l hl'
    obtain ⟨t1, t2⟩ := hs r hr'
    rw [s1, t1]
    refine br_f (nI_nlt (b := 5) (by omega) (by omega)) (br_f (nI_nlt (a := 13) (b := k) (by omega) (by omega)) ?_)
    rcases hk with h | h | h
    · subst h
      refine br_t rfl ?_
      rw [nI_add, show nI ((D l).1 + (D r).1) + 2 = nI ((D l).1 + (D r).1 + 2) from nI_add _ 2]
      exact hp (by show (D l).1 + (D r).1 + 2 ≤ 1000; omega)
    · subst h
      refine br_f (by decide) (br_f (by decide) (br_f (by decide) (br_t rfl ?_)))
      rw [nI_1]
      exact hp (by show (D l).1 + 1 ≤ 1000; omega)
    · subst h
      refine br_f (by decide) (br_f (by decide) (br_f (by decide) (br_f (by decide) (br_f (by decide) (br_f (by decide) (br_f (by decide) (br_f (by decide) (br_t rfl ?_))))))))
      rw [nI_add]
      exact hp (by show (D l).1 + (D r).1 ≤ 1000; omega)
theorem xz_large (m : Nat) (D : Nat → qv_T) (hm : m ≤ 33) (hnc : xnc = nI m) (hok : qn_ok qv_lf qv_un qv_bi xnk xna xnb xnl xnr m D) (post : Int32 → SX → Prop)
  (h0 : (¬ ∃ n, n < m ∧ qv_big (D n)) → ∀ ns : Nat → Int32, post 0 (xwc, xdc, xdm, xsc, xtc, xnc, xmc, xbr, xwt, xch, xtl, xwf, xdn, xdf, xdl, xss, xtk, xta, xtb, xnk, xna, xnb, xnl, xnr, ns, xfa, xfs, xfi, xrw, xrc, xcl, xhd, xre, xhi, xwo)) (h1 : (∃ n, n < m ∧ qv_big (D n)) → ∀ ns : Nat → Int32, post 1 (xwc, xdc, xdm, xsc, xtc, xnc, xmc, xbr, xwt, xch, xtl, xwf, xdn, xdf, xdl, xss, xtk, xta, xtb, xnk, xna, xnb, xnl, xnr, ns, xfa, xfs, xfi, xrw, xrc, xcl, xhd, xre, xhi, xwo)) : wpX_isLarge post (xwc, xdc, xdm, xsc, xtc, xnc, xmc, xbr, xwt, xch, xtl, xwf, xdn, xdf, xdl, xss, xtk, xta, xtb, xnk, xna, xnb, xnl, xnr, xns, xfa, xfs, xfi, xrw, xrc, xcl, xhd, xre, xhi, xwo) := by
  have key : ∀ (N n : Nat) (ns : Nat → Int32), n ≤ m → m - n < N → (∀ j, j < n → ns j = nI (D j).1 ∧ (D j).1 ≤ 60) → wX_isLarge_2 post xwc xdc xdm xsc xtc xnc xmc xbr xwt N (nI n) xch xtl xwf xdn xdf xdl xss xtk xta xtb xnk xna xnb xnl xnr ns xfa xfs xfi xrw xrc xcl xhd xre xhi xwo := by
    intro N
    subst hnc
    induction N with
    | zero => intro n ns h2 h3; omega
    | succ N ih =>
      intro n ns h2 h3 h4
      refine pk_le m n (fun hle => h0 (fun ⟨j, hj, hb⟩ => ?_) ns) (fun hlt => ?_)
      · have := (h4 j (by omega)).2
        unfold qv_big at hb
        omega
      · refine xz_size (xns := ns) n m D hm hlt hok h4 _ (fun hv => ⟨pk_in n 40 (by omega), nm_e ⟨pk_in n 40 (by omega), ?_⟩⟩)
        rw [nI_clamp (by omega), pk_us]
        refine pk_le (D n).1 60 (fun hle => nm_r (nI_1 n) (ih (n + 1) _ (by omega) (by omega) (fun j hj => ?_))) (fun hgt => h1 ⟨n, hlt, hgt⟩ _) rfl rfl (by omega) (by omega)
        by_cases z : j = n
        · subst z; exact ⟨pk_us, hle⟩
        · exact ⟨(pk_un z).trans (h4 j (by omega)).1, (h4 j (by omega)).2⟩
  exact ⟨m + 1, key (m + 1) 0 xns (by omega) (by omega) (fun j hj => absurd hj (by omega))⟩
end
/-! rows in the class's sets -/
theorem xr_ix (s k : Nat) : nI s * 8 + nI k = nI (s * 8 + k) := by
  rw [show (8 : Int32) = nI 8 from rfl, pk_mul, nI_add]
theorem xr_ixc {s k : Nat} (h : s * 8 + k < 2 ^ 31) : (nI s * 8 + nI k).toNatClampNeg = s * 8 + k := by
  rw [xr_ix]; exact nI_clamp h
def qx_ko (s0 : Nat) (rw' rc' : Nat → Int64) (r c : Nat → Int32) : Prop := True
section
variable {xwc xdc xdm xsc xtc xnc xmc xbr xwt : Int32} {xch xtl xwf xdn xdf xdl xss xtk xta xtb xnk xna xnb xnl xnr xns xfa xfs xfi xrc xcl xhd xhi xwo : Nat → Int32} {xrw xre : Nat → Int64}
/-- one row more in a set -/
theorem xr_add1 (s : Nat) (hs : s < 120) (l : List (List Nat)) (hl : l.length ≤ 8) (hset : qx_set xrw xrc s (some l)) (r : List Nat) (hr : qr_rw r) (post : SX → Prop)
  (hp : ∀ (rw1 : Nat → Int64) (rc1 : Nat → Int32), qx_set rw1 rc1 s (qr_oadd (some l) r) → (∀ s' o, s' ≠ s → qx_set xrw xrc s' o → qx_set rw1 rc1 s' o) → post (xwc, xdc, xdm, xsc, xtc, xnc, xmc, xbr, xwt, xch, xtl, xwf, xdn, xdf, xdl, xss, xtk, xta, xtb, xnk, xna, xnb, xnl, xnr, xns, xfa, xfs, xfi, rw1, rc1, xcl, xhd, xre, xhi, xwo)) :
  ∀ (N k : Nat), k ≤ l.length → l.length - k < N → (∀ j q, j < k → l[j]? = some q → q ≠ r) → wX_addRow_19 post (nI s) (lN (qc_x r)) (nI l.length) xwc xdc xdm xsc xtc xnc xmc xbr xwt xch xtl xwf xdn xdf xdl xss xtk xta xtb xnk xna xnb xnl xnr xns xfa xfs xfi xrw xrc xcl xhd xre xhi xwo N (nI k) := by
  intro N
  obtain ⟨_, b2, b3, b4⟩ := hset
  have cs : (nI s).toNatClampNeg = s := nI_clamp (by omega)
  induction N with
  | zero => intro k h1 h2; omega
  | succ N ih =>
    intro k h1 h2 h3
    refine pk_le l.length k (fun hle => ?_) (fun hlt => ?_)
    · have hni : r ∉ l := by
        intro hm
        obtain ⟨j, hj, e⟩ := List.getElem_of_mem hm
        exact h3 j l[j] (by omega) (List.getElem?_eq_getElem hj) e
      have fin : ∀ (rw1 : Nat → Int64), (∀ j, ¬ (l.length < 8 ∧ j = s * 8 + l.length) → rw1 j = xrw j) → (l.length < 8 → rw1 (s * 8 + l.length) = lN (qc_x r)) → wX_addRow_70 post (nI s) (nI l.length) xwc xdc xdm xsc xtc xnc xmc xbr xwt xch xtl xwf xdn xdf xdl xss xtk xta xtb xnk xna xnb xnl xnr xns xfa xfs xfi rw1 xrc xcl xhd xre xhi xwo := by
        intro rw1 hk hn
        refine ⟨pk_in s 120 hs, nm_e ?_⟩
        rw [cs, nI_1]
        refine hp rw1 _ ?_ (fun s' o hs' h => ?_)
        · unfold qr_oadd
          dsimp only
          rw [if_neg hni]
          by_cases z : l.length < 8
          · rw [if_pos z]
            refine ⟨by simp; omega, fun q hq => ?_, by rw [pk_us, List.length_append]; rfl, fun j q hq => ?_⟩
            · rcases List.mem_append.mp hq with y | y
              · exact b2 q y
              · rw [List.mem_singleton] at y; rw [y]; exact hr
            · by_cases y : j < l.length
              · rw [List.getElem?_append_left y] at hq
                rw [hk _ (by omega)]
                exact b4 j q hq
              · have hj := qr_get_lt hq
                rw [List.length_append, List.length_singleton] at hj
                have e : j = l.length := by omega
                subst e
                rw [List.getElem?_append_right (Nat.le_refl _), Nat.sub_self] at hq
                have e : r = q := by simpa using hq
                rw [← e]
                exact hn z
          · rw [if_neg z]
            show upd xrc s (nI (l.length + 1)) s = 9
            rw [pk_us, show l.length = 8 by omega]
            rfl
        · refine qx_set_cg h (pk_un hs') (fun j hj => hk _ ?_)
          omega
      refine pk_le 8 l.length (fun h8 => fin xrw (fun _ _ => rfl) (fun h => absurd h (by omega))) (fun h8 => ⟨pk_in (s * 8 + l.length) 960 (by omega) (xr_ix s _), nm_e ?_⟩)
      rw [xr_ixc (by omega)]
      exact fin _ (fun j hj => pk_uLn (fun e => hj ⟨h8, e⟩)) (fun _ => pk_uLs)
    · have hg := List.getElem?_eq_getElem hlt
      refine ⟨pk_in (s * 8 + k) 960 (by omega) (xr_ix s k), ?_⟩
      rw [xr_ixc (by omega), b4 k _ hg]
      refine ek_if (qc_x_ii (b2 _ (List.getElem_mem hlt)) hr) (fun he => ?_) (fun hne => nm_r (nI_1 k) (ih (k + 1) (by omega) (by omega) (fun j q hj hq => ?_)))
      · have hm : r ∈ l := by rw [← he]; exact List.getElem_mem hlt
        refine hp xrw xrc ?_ (fun _ _ _ h => h)
        unfold qr_oadd
        dsimp only
        rw [if_pos hm]
        exact ⟨hl, b2, b3, b4⟩
      · by_cases z : j = k
        · subst z
          rw [hg] at hq
          cases hq
          exact hne
        · exact h3 j q (by omega) hq
theorem xr_add (s : Nat) (hs : s < 120) (o : Option (List (List Nat))) (hset : qx_set xrw xrc s o) (r : List Nat) (hr : qr_rw r) (xs' : Int32) (es : xs' = nI s) (xr' : Int64) (er : xr' = lN (qc_x r)) (post : SX → Prop)
  (hp : ∀ (rw1 : Nat → Int64) (rc1 : Nat → Int32), qx_set rw1 rc1 s (qr_oadd o r) → (∀ s' o, s' ≠ s → qx_set xrw xrc s' o → qx_set rw1 rc1 s' o) → post (xwc, xdc, xdm, xsc, xtc, xnc, xmc, xbr, xwt, xch, xtl, xwf, xdn, xdf, xdl, xss, xtk, xta, xtb, xnk, xna, xnb, xnl, xnr, xns, xfa, xfs, xfi, rw1, rc1, xcl, xhd, xre, xhi, xwo)) : wpX_addRow post (xwc, xdc, xdm, xsc, xtc, xnc, xmc, xbr, xwt, xch, xtl, xwf, xdn, xdf, xdl, xss, xtk, xta, xtb, xnk, xna, xnb, xnl, xnr, xns, xfa, xfs, xfi, xrw, xrc, xcl, xhd, xre, xhi, xwo) xs' xr' := by
  subst es; subst er
  have cs : (nI s).toNatClampNeg = s := nI_clamp (by omega)
  cases o with
  | none =>
    refine And.intro (pk_in s 120 hs) (nm_r (e' := 9) (by rw [cs]; exact hset) (br_f (by decide) (hp xrw xrc hset (fun _ _ _ h => h))))
  | some l =>
    have hl := hset.1
    refine And.intro (pk_in s 120 hs) (nm_r (e' := nI l.length) (by rw [cs]; exact hset.2.2.1) (br_t (nI_le (b := 8) hl (by decide)) ⟨l.length + 1, ?_⟩))
    exact xr_add1 s hs l hl hset r hr post hp (l.length + 1) 0 (by omega) (by omega) (fun j q hj => absurd hj (by omega))
end
end
section
/-! the class: rows are cut, joined, added -/
def qr_cut (c : Nat) (r : List Nat) : List Nat := if c = 0 then r else if c = 1 then qr_hd r else qr_tl r
theorem qr_cut_rw {c : Nat} {r : List Nat} (h : qr_rw r) : qr_rw (qr_cut c r) := by
  unfold qr_cut
  split
  · exact h
  · split
    · exact ⟨by have := qr_hd_len r; omega, fun x hx => h.2 x (qr_hd_in hx)⟩
    · exact ⟨by have := qr_tl_len r; omega, fun x hx => h.2 x (qr_tl_in hx)⟩
theorem xr_len {r : List Nat} (h : qr_rw r) : lN (qc_x r) >>> ((32 : Int32).toInt64 &&& 63) = lN r.length := by
  have a := qc_x_lt r h.2 h.1
  rw [pf_shr (d := 32) (by decide) (by omega), show (2 : Nat) ^ 32 = 4294967296 from rfl, qc_x_len r h.2 h.1]
theorem xr_low {r : List Nat} (h : qr_rw r) : lN (qc_x r) &&& 4294967295 = lN (qc_v 8 r) := by
  have a := qc_x_lt r h.2 h.1
  have e := g_mask (a := qc_x r) (s := 32) (p := 4294967296) (by decide) (by omega) (by omega)
  rw [qc_x_low r h.2 h.1] at e
  exact e
theorem xr_p8 (k : Nat) : 2 ^ (3 * k) = 8 ^ k := by rw [Nat.pow_mul]
theorem xr_cut {r : List Nat} (h : qr_rw r) (c : Nat) (hc : c ≤ 2) (xc : Int32) (ec : xc = nI c) (xr' : Int64) (er : xr' = lN (qc_x r)) (post : Int64 → Prop) (hp : post (lN (qc_x (qr_cut c r)))) : wpX_cutRow post xr' xc := by
  subst ec; subst er
  have hv := qc_x_v r h.2 h.1
  have hl := h.1
  refine nm_r (xr_len h) (nm_r (xr_low h) (pk_eq c 0 (fun e0 => ?_) (fun e0 => ?_)))
  · have e : qr_cut c r = r := by unfold qr_cut; rw [if_pos e0]
    rw [e] at hp
    exact hp
  · refine ek_if (pk_lLT (a := 2) (b := r.length) (by omega) (by omega)) (fun h2 => ?_) (fun h2 => ?_)
    · refine pk_eq c 1 (fun e1 => ?_) (fun e1 => ?_)
      · have e : qr_cut c r = qr_hd r := by unfold qr_cut; rw [if_neg e0, if_pos e1]
        rw [e, ← qc_x_hd r h.2 (by omega)] at hp
        have es : ((3 * (lN r.length - 2)).toInt32).toInt64 &&& 63 = (nI (3 * (r.length - 2))).toInt64 &&& 63 := by
          rw [show (2 : Int64) = lN 2 from rfl, lN_sub (by omega), show (3 : Int64) = lN 3 from rfl, lN_mul, lN_i]
        refine nm_r (e' := lN (qc_v 8 r / 8 ^ (r.length - 2))) ?_ ?_
        · rw [es, pf_shr (d := 3 * (r.length - 2)) (qb_sl _ (by omega)) (by omega), xr_p8]
        · rw [show (8589934592 : Int64) = lN (2 * 4294967296) from rfl, lN_add]
          exact hp
      · have e : qr_cut c r = qr_tl r := by unfold qr_cut; rw [if_neg e0, if_neg e1]
        rw [e, ← qc_x_tl r h.2 (by omega)] at hp
        refine nm_r (e' := lN (qc_v 8 r % 64)) ?_ ?_
        · exact g_mask (a := qc_v 8 r) (s := 6) (p := 64) (by decide) (by omega) (by omega)
        · rw [show (8589934592 : Int64) = lN (2 * 4294967296) from rfl, lN_add]
          exact hp
    · have e : qr_cut c r = r := by
        unfold qr_cut
        rw [if_neg e0]
        split
        · exact qc_hd_id (by omega)
        · exact qc_tl_id (by omega)
      rw [e] at hp
      exact hp
theorem xr_join {a b : List Nat} (ha : qr_rw a) (hb : qr_rw b) (xa xb : Int64) (ea : xa = lN (qc_x a)) (eb : xb = lN (qc_x b)) (hl : a.length + b.length ≤ 10) (post : Int64 → Prop) (hp : post (lN (qc_x (a ++ b)))) : wpX_joinRows post xa xb := by
  subst ea; subst eb
  have hva := qc_x_v a ha.2 ha.1
  have hvb := qc_x_v b hb.2 hb.1
  have hbl := hb.1
  have es : ((3 * lN b.length).toInt32).toInt64 &&& 63 = (nI (3 * b.length)).toInt64 &&& 63 := by
    rw [show (3 : Int64) = lN 3 from rfl, lN_mul, lN_i]
  refine nm_r (xr_len ha) (nm_r (xr_len hb) (nm_r (e' := lN (qc_v 8 a * 8 ^ b.length + qc_v 8 b)) ?_ ?_))
  · rw [xr_low ha, xr_low hb, es, wb_shl (qc_v 8 a) (k := 3 * b.length) (by omega), xr_p8, lN_add]
  · have e : (lN a.length + lN b.length) <<< ((32 : Int32).toInt64 &&& 63) = lN ((a.length + b.length) * 4294967296) := by
      rw [lN_add]
      exact wb_shl (a.length + b.length) (k := 32) (by omega)
    rw [e, lN_add]
    rw [qc_x_app] at hp
    exact hp
def qr_jadd (c : Nat) (o : Option (List (List Nat))) (r : List Nat) : Option (List (List Nat)) := if c = 0 ∧ 5 < r.length then none else qr_oadd o (qr_cut c r)
def qr_jall (c : Nat) (o : Option (List (List Nat))) (rs : List (List Nat)) : Option (List (List Nat)) := rs.foldl (qr_jadd c) o
theorem qr_jall_c {c : Nat} (hc : c ≠ 0) : ∀ (rs : List (List Nat)) (o : Option (List (List Nat))), qr_jall c o rs = qr_oall o (rs.map (qr_cut c))
  | [], _ => rfl
  | r :: rs, o => by
    show qr_jall c (qr_jadd c o r) rs = qr_oall (qr_oadd o (qr_cut c r)) (rs.map (qr_cut c))
    have e : qr_jadd c o r = qr_oadd o (qr_cut c r) := by unfold qr_jadd; rw [if_neg (fun h => hc h.1)]
    rw [e]
    exact qr_jall_c hc rs _
theorem qr_jall_n : ∀ (rs : List (List Nat)), qr_jall 0 none rs = none
  | [] => rfl
  | r :: rs => by
    show qr_jall 0 (qr_jadd 0 none r) rs = none
    have e : qr_jadd 0 none r = none := by unfold qr_jadd; split <;> rfl
    rw [e]
    exact qr_jall_n rs
theorem qr_jall_0 : ∀ (rs : List (List Nat)) (o : Option (List (List Nat))), qr_jall 0 o rs = if rs.all (fun r => decide (r.length ≤ 5)) = true then qr_oall o rs else none
  | [], _ => rfl
  | r :: rs, o => by
    show qr_jall 0 (qr_jadd 0 o r) rs = _
    by_cases z : 5 < r.length
    · have e : qr_jadd 0 o r = none := by unfold qr_jadd; rw [if_pos ⟨rfl, z⟩]
      rw [e, qr_jall_n, if_neg]
      intro h
      rw [List.all_cons, Bool.and_eq_true] at h
      have := of_decide_eq_true h.1
      omega
    · have e : qr_jadd 0 o r = qr_oadd o r := by unfold qr_jadd; rw [if_neg (fun h => z h.2)]; rfl
      rw [e, qr_jall_0 rs, List.all_cons, decide_eq_true (by omega : r.length ≤ 5), Bool.true_and]
      rfl
theorem qr_jall_sh (xs ys : List (List Nat)) : qr_jall 0 (some []) (qr_pr xs ys) = if qi_sh xs ys = true then some (qr_all [] (qr_pr xs ys)) else none := by
  rw [qr_jall_0, qr_oall_some _ _ (by simp)]
  unfold qi_sh
  by_cases h1 : (qr_pr xs ys).all (fun r => decide (r.length ≤ 5)) = true
  · rw [if_pos h1, h1, Bool.and_true]
    by_cases h2 : (qr_all [] (qr_pr xs ys)).length ≤ 8
    · rw [if_pos h2, decide_eq_true h2, if_pos rfl]
    · rw [if_neg h2, decide_eq_false h2, if_neg (by decide)]
  · rw [if_neg h1, if_neg]
    intro h
    rw [Bool.and_eq_true] at h
    exact h1 h.2
def qr_le (o : Option (List (List Nat))) : List (List Nat) := match o with
  | none => [[]]
  | some [] => [[]]
  | some (r :: l) => r :: l
def qx_kk (s : Nat) (rw0 : Nat → Int64) (rc0 : Nat → Int32) (rw1 : Nat → Int64) (rc1 : Nat → Int32) : Prop := ∀ s' o, s' ≠ s → qx_set rw0 rc0 s' o → qx_set rw1 rc1 s' o
section
variable {xwc xdc xdm xsc xtc xnc xmc xbr xwt : Int32} {xch xtl xwf xdn xdf xdl xss xtk xta xtb xnk xna xnb xnl xnr xns xfa xfs xfi xrc xcl xhd xhi xwo : Nat → Int32} {xrw xre : Nat → Int64}
theorem xr_rows1 (s f c : Nat) (hs : s < 120) (hf : f < 120) (hsf : f ≠ s) (hc : c ≤ 2) (l : List (List Nat)) (hl : l.length ≤ 8) (o : Option (List (List Nat))) (rw0 : Nat → Int64) (rc0 : Nat → Int32) (hfrom : qx_set rw0 rc0 f (some l)) (post : SX → Prop)
  (hp : ∀ (rw1 : Nat → Int64) (rc1 : Nat → Int32), qx_set rw1 rc1 s (qr_oall o (l.map (qr_cut c))) → qx_kk s rw0 rc0 rw1 rc1 → post (xwc, xdc, xdm, xsc, xtc, xnc, xmc, xbr, xwt, xch, xtl, xwf, xdn, xdf, xdl, xss, xtk, xta, xtb, xnk, xna, xnb, xnl, xnr, xns, xfa, xfs, xfi, rw1, rc1, xcl, xhd, xre, xhi, xwo)) :
  ∀ (N k : Nat) (rw1 : Nat → Int64) (rc1 : Nat → Int32), k ≤ l.length → l.length - k < N → qx_set rw1 rc1 s (qr_oall o ((l.take k).map (qr_cut c))) → qx_kk s rw0 rc0 rw1 rc1 → wX_addRows_11 post (nI s) (nI f) (nI c) (nI l.length) N (nI k) xwc xdc xdm xsc xtc xnc xmc xbr xwt xch xtl xwf xdn xdf xdl xss xtk xta xtb xnk xna xnb xnl xnr xns xfa xfs xfi rw1 rc1 xcl xhd xre xhi xwo := by
  intro N
  induction N with
  | zero => intro k rw1 rc1 h1 h2; omega
  | succ N ih =>
    intro k rw1 rc1 h1 h2 h3 h4
    refine pk_le l.length k (fun hle => ?_) (fun hlt => ?_)
    · rw [List.take_of_length_le hle] at h3
      exact hp rw1 rc1 h3 h4
    · have hg := List.getElem?_eq_getElem hlt
      obtain ⟨_, b2, _, b4⟩ := h4 f (some l) hsf hfrom
      have hrw := b2 _ (List.getElem_mem hlt)
      refine ⟨pk_in (f * 8 + k) 960 (by omega) (xr_ix f k), ?_⟩
      rw [xr_ixc (by omega), b4 k _ hg]
      refine xr_cut hrw c hc _ rfl _ rfl _ ?_
      refine xr_add s hs _ h3 (qr_cut c l[k]) (qr_cut_rw hrw) _ rfl _ rfl _ (fun rw2 rc2 g1 g2 => nm_r (nI_1 k) (ih (k + 1) rw2 rc2 (by omega) (by omega) ?_ (fun s' o' hs' h => g2 s' o' hs' (h4 s' o' hs' h))))
      rw [List.take_succ_eq_append_getElem hlt, List.map_append, qr_oall_app]
      exact g1
theorem xr_rows (s f c : Nat) (hs : s < 120) (hf : f < 120) (hsf : f ≠ s) (hc : c ≤ 2) (l : List (List Nat)) (o : Option (List (List Nat))) (hset : qx_set xrw xrc s o) (hfrom : qx_set xrw xrc f (some l)) (xs' xf' xc' : Int32) (es : xs' = nI s) (ef : xf' = nI f) (ec : xc' = nI c) (post : SX → Prop)
  (hp : ∀ (rw1 : Nat → Int64) (rc1 : Nat → Int32), qx_set rw1 rc1 s (qr_oall o (l.map (qr_cut c))) → qx_kk s xrw xrc rw1 rc1 → post (xwc, xdc, xdm, xsc, xtc, xnc, xmc, xbr, xwt, xch, xtl, xwf, xdn, xdf, xdl, xss, xtk, xta, xtb, xnk, xna, xnb, xnl, xnr, xns, xfa, xfs, xfi, rw1, rc1, xcl, xhd, xre, xhi, xwo)) : wpX_addRows post (xwc, xdc, xdm, xsc, xtc, xnc, xmc, xbr, xwt, xch, xtl, xwf, xdn, xdf, xdl, xss, xtk, xta, xtb, xnk, xna, xnb, xnl, xnr, xns, xfa, xfs, xfi, xrw, xrc, xcl, xhd, xre, xhi, xwo) xs' xf' xc' := by
  subst es; subst ef; subst ec
  have cf : (nI f).toNatClampNeg = f := nI_clamp (by omega)
  have hl := hfrom.1
  refine And.intro (pk_in f 120 hf) (nm_r (e' := nI l.length) (by rw [cf]; exact hfrom.2.2.1) ⟨l.length + 1, ?_⟩)
  exact xr_rows1 s f c hs hf hsf hc l hl o xrw xrc hfrom post hp (l.length + 1) 0 xrw xrc (by omega) (by omega) hset (fun _ _ _ h => h)
theorem qr_pr_s (xs ys : List (List Nat)) (i : Nat) (hi : i < xs.length) : qr_pr (xs.take (i + 1)) ys = qr_pr (xs.take i) ys ++ ys.map (fun b => xs[i] ++ b) := by
  unfold qr_pr
  rw [List.take_succ_eq_append_getElem hi, List.flatMap_append]
  simp
theorem xr_len10 {r : List Nat} (h : ∀ x, x ∈ r → x < 6) (hl : r.length ≤ 10) : lN (qc_x r) >>> ((32 : Int32).toInt64 &&& 63) = lN r.length := by
  have h1 := qc_lt 8 r (qc_8 h)
  have h2 : 8 ^ r.length ≤ 8 ^ 10 := Nat.pow_le_pow_right (by omega) hl
  have h3 : (8 : Nat) ^ 10 = 1073741824 := by decide
  have e : qc_x r / 4294967296 = r.length := by
    unfold qc_x
    exact qc_divm _ _ _ (by omega)
  have hlt : qc_x r < 2 ^ 62 := by unfold qc_x; omega
  rw [pf_shr (d := 32) (by decide) hlt, show (2 : Nat) ^ 32 = 4294967296 from rfl, e]
theorem xr_jn1 (s x y c i : Nat) (hs : s < 120) (hx : x < 120) (hy : y < 120) (hsx : x ≠ s) (hsy : y ≠ s) (hc : c ≤ 2) (xs ys : List (List Nat)) (hi : i < xs.length) (hxl : ∀ a, a ∈ xs → a.length ≤ 5) (hyl : ∀ b, b ∈ ys → b.length ≤ 5) (hc7 : c ≠ 0 → ∀ a b, a ∈ xs → b ∈ ys → a.length + b.length ≤ 7) (o : Option (List (List Nat))) (rw0 : Nat → Int64) (rc0 : Nat → Int32) (hX : qx_set rw0 rc0 x (some xs)) (hY : qx_set rw0 rc0 y (some ys)) (n5 : Int32) (post : SX → Prop) (J : Int32 → Int32 → Int32 → Int32 → Int32 → Int32 → Int32 → Int32 → Int32 → Int32 → (Nat → Int32) → (Nat → Int32) → (Nat → Int32) → (Nat → Int32) → (Nat → Int32) → (Nat → Int32) → (Nat → Int32) → (Nat → Int32) → (Nat → Int32) → (Nat → Int32) → (Nat → Int32) → (Nat → Int32) → (Nat → Int32) → (Nat → Int32) → (Nat → Int32) → (Nat → Int32) → (Nat → Int32) → (Nat → Int32) → (Nat → Int32) → (Nat → Int64) → (Nat → Int32) → (Nat → Int32) → (Nat → Int32) → (Nat → Int64) → (Nat → Int32) → (Nat → Int32) → Prop)
  (hp : ∀ (rw1 : Nat → Int64) (rc1 : Nat → Int32), qx_set rw1 rc1 s (qr_jall c o (qr_pr (xs.take (i + 1)) ys)) → qx_kk s rw0 rc0 rw1 rc1 → J (nI (i + 1)) xwc xdc xdm xsc xtc xnc xmc xbr xwt xch xtl xwf xdn xdf xdl xss xtk xta xtb xnk xna xnb xnl xnr xns xfa xfs xfi rw1 rc1 xcl xhd xre xhi xwo) :
  ∀ (N j : Nat) (rw1 : Nat → Int64) (rc1 : Nat → Int32), j ≤ ys.length → ys.length - j < N → qx_set rw1 rc1 s (qr_jall c o (qr_pr (xs.take i) ys ++ (ys.take j).map (fun b => xs[i] ++ b))) → qx_kk s rw0 rc0 rw1 rc1 → wX_addJoined_29 post J (nI s) (nI x) (nI y) (nI c) n5 (nI ys.length) (nI i) N (nI j) xwc xdc xdm xsc xtc xnc xmc xbr xwt xch xtl xwf xdn xdf xdl xss xtk xta xtb xnk xna xnb xnl xnr xns xfa xfs xfi rw1 rc1 xcl xhd xre xhi xwo := by
  intro N
  have hxl8 := hX.1
  have hyl8 := hY.1
  induction N with
  | zero => intro j rw1 rc1 h1 h2; omega
  | succ N ih =>
    intro j rw1 rc1 h1 h2 h3 h4
    refine pk_le ys.length j (fun hle => ?_) (fun hlt => ?_)
    · rw [List.take_of_length_le hle, ← qr_pr_s xs ys i hi] at h3
      exact nm_r (nI_1 i) (hp rw1 rc1 h3 h4)
    · obtain ⟨_, bx2, _, bx4⟩ := h4 x (some xs) hsx hX
      obtain ⟨_, by2, _, by4⟩ := h4 y (some ys) hsy hY
      have hgx := List.getElem?_eq_getElem hi
      have hgy := List.getElem?_eq_getElem hlt
      have hmx := List.getElem_mem hi
      have hmy := List.getElem_mem hlt
      have rx := bx2 _ hmx
      have ry := by2 _ hmy
      have lx := hxl _ hmx
      have ly := hyl _ hmy
      have hin : ∀ z, z ∈ xs[i] ++ ys[j] → z < 6 := fun z hz => (List.mem_append.mp hz).elim (rx.2 z) (ry.2 z)
      have hlen : (xs[i] ++ ys[j]).length = xs[i].length + ys[j].length := List.length_append
      have hfold : ∀ o', qr_jall c o' (qr_pr (xs.take i) ys ++ (ys.take (j + 1)).map (fun b => xs[i] ++ b)) = qr_jadd c (qr_jall c o' (qr_pr (xs.take i) ys ++ (ys.take j).map (fun b => xs[i] ++ b))) (xs[i] ++ ys[j]) := by
        intro o'
        unfold qr_jall
        rw [List.take_succ_eq_append_getElem hlt, List.map_append, ← List.append_assoc, List.foldl_append]
        rfl
      refine ⟨pk_in (x * 8 + i) 960 (by omega) (xr_ix x i), pk_in (y * 8 + j) 960 (by omega) (xr_ix y j), ?_⟩
      rw [xr_ixc (by omega), xr_ixc (by omega), bx4 i _ hgx, by4 j _ hgy]
      refine xr_join rx ry _ _ rfl rfl (by omega) _ ?_
      -- the row is cut and added
      have fin : qr_rw (xs[i] ++ ys[j]) → ¬ (c = 0 ∧ 5 < (xs[i] ++ ys[j]).length) → wX_addJoined_90 post J (wX_addJoined_29 post J (nI s) (nI x) (nI y) (nI c) n5 (nI ys.length) (nI i) N) (nI s) (nI x) (nI y) (nI c) n5 (nI ys.length) (nI i) (nI j) (lN (qc_x (xs[i] ++ ys[j]))) xwc xdc xdm xsc xtc xnc xmc xbr xwt xch xtl xwf xdn xdf xdl xss xtk xta xtb xnk xna xnb xnl xnr xns xfa xfs xfi rw1 rc1 xcl xhd xre xhi xwo := by
        intro hr hn
        refine xr_cut hr c hc _ rfl _ rfl _ ?_
        refine xr_add s hs _ h3 (qr_cut c (xs[i] ++ ys[j])) (qr_cut_rw hr) _ rfl _ rfl _ (fun rw2 rc2 g1 g2 => nm_r (nI_1 j) (ih (j + 1) rw2 rc2 (by omega) (by omega) ?_ (fun s' o' hs' h => g2 s' o' hs' (h4 s' o' hs' h))))
        rw [hfold]
        unfold qr_jadd
        rw [if_neg hn]
        exact g1
      refine pk_eq c 0 (fun e0 => ?_) (fun e0 => fin ⟨by have := hc7 e0 _ _ hmx hmy; omega, hin⟩ (fun h => e0 h.1))
      rw [xr_len10 hin (by omega)]
      refine ek_if (pk_lLE (a := (xs[i] ++ ys[j]).length) (b := 5) (by omega) (by omega)) (fun h5 => fin ⟨by omega, hin⟩ (fun h => by omega)) (fun h5 => ⟨pk_in s 120 hs, nm_e ?_⟩)
      rw [nI_clamp (by omega)]
      refine nm_e (nm_e (br_t (by rw [e0]; rfl) ?_))
      have h9 : qx_set rw1 (upd rc1 s 9) s none := pk_us
      refine And.intro (pk_in s 120 hs) (nm_r (e' := 9) (by rw [nI_clamp (by omega)]; exact pk_us) (br_f (by decide) (nm_r (nI_1 j) (ih (j + 1) rw1 (upd rc1 s 9) (by omega) (by omega) ?_ (fun s' o' hs' h => qx_set_cg (h4 s' o' hs' h) (pk_un hs') (fun _ _ => rfl))))))
      rw [hfold]
      unfold qr_jadd
      rw [if_pos ⟨e0, by omega⟩]
      exact h9
theorem xr_jn (s x y c : Nat) (hs : s < 120) (hx : x < 120) (hy : y < 120) (hsx : x ≠ s) (hsy : y ≠ s) (hc : c ≤ 2) (xs ys : List (List Nat)) (hxl : ∀ a, a ∈ xs → a.length ≤ 5) (hyl : ∀ b, b ∈ ys → b.length ≤ 5) (hc7 : c ≠ 0 → ∀ a b, a ∈ xs → b ∈ ys → a.length + b.length ≤ 7) (o : Option (List (List Nat))) (hset : qx_set xrw xrc s o) (hX : qx_set xrw xrc x (some xs)) (hY : qx_set xrw xrc y (some ys)) (xs' xx' xy' xc' : Int32) (es : xs' = nI s) (ex : xx' = nI x) (ey : xy' = nI y) (ec : xc' = nI c) (post : SX → Prop)
  (hp : ∀ (rw1 : Nat → Int64) (rc1 : Nat → Int32), qx_set rw1 rc1 s (qr_jall c o (qr_pr xs ys)) → qx_kk s xrw xrc rw1 rc1 → post (xwc, xdc, xdm, xsc, xtc, xnc, xmc, xbr, xwt, xch, xtl, xwf, xdn, xdf, xdl, xss, xtk, xta, xtb, xnk, xna, xnb, xnl, xnr, xns, xfa, xfs, xfi, rw1, rc1, xcl, xhd, xre, xhi, xwo)) : wpX_addJoined post (xwc, xdc, xdm, xsc, xtc, xnc, xmc, xbr, xwt, xch, xtl, xwf, xdn, xdf, xdl, xss, xtk, xta, xtb, xnk, xna, xnb, xnl, xnr, xns, xfa, xfs, xfi, xrw, xrc, xcl, xhd, xre, xhi, xwo) xs' xx' xy' xc' := by
  subst es; subst ex; subst ey; subst ec
  have hxl8 := hX.1
  have key : ∀ (N i : Nat) (rw1 : Nat → Int64) (rc1 : Nat → Int32), i ≤ xs.length → xs.length - i < N → qx_set rw1 rc1 s (qr_jall c o (qr_pr (xs.take i) ys)) → qx_kk s xrw xrc rw1 rc1 → wX_addJoined_19 post (nI s) (nI x) (nI y) (nI c) (nI xs.length) (nI ys.length) N (nI i) xwc xdc xdm xsc xtc xnc xmc xbr xwt xch xtl xwf xdn xdf xdl xss xtk xta xtb xnk xna xnb xnl xnr xns xfa xfs xfi rw1 rc1 xcl xhd xre xhi xwo := by
    intro N
    induction N with
    | zero => intro i rw1 rc1 h1 h2; omega
    | succ N ih =>
      intro i rw1 rc1 h1 h2 h3 h4
      refine pk_le xs.length i (fun hle => ?_) (fun hlt => ⟨ys.length + 1, ?_⟩)
      · rw [List.take_of_length_le hle] at h3
        exact hp rw1 rc1 h3 h4
      · refine xr_jn1 s x y c i hs hx hy hsx hsy hc xs ys hlt hxl hyl hc7 o xrw xrc hX hY _ post _ (fun rw2 rc2 g1 g2 => ih (i + 1) rw2 rc2 (by omega) (by omega) g1 g2) (ys.length + 1) 0 rw1 rc1 (by omega) (by omega) ?_ h4
        rw [List.take_zero, List.map_nil, List.append_nil]
        exact h3
  have cx : (nI x).toNatClampNeg = x := nI_clamp (by omega)
  have cy : (nI y).toNatClampNeg = y := nI_clamp (by omega)
  refine And.intro (pk_in x 120 hx) (nm_r (e' := nI xs.length) (by rw [cx]; exact hX.2.2.1) (And.intro (pk_in y 120 hy) (nm_r (e' := nI ys.length) (by rw [cy]; exact hY.2.2.1) ⟨xs.length + 1, ?_⟩)))
  exact key (xs.length + 1) 0 xrw xrc (by omega) (by omega) hset (fun _ _ _ h => h)
theorem xr_drop (s : Nat) (hs : s < 120) (o : Option (List (List Nat))) (hset : qx_set xrw xrc s o) (xs' : Int32) (es : xs' = nI s) (post : SX → Prop)
  (hp : ∀ (rc1 : Nat → Int32), qx_set xrw rc1 s (some (o.getD [])) → qx_kk s xrw xrc xrw rc1 → post (xwc, xdc, xdm, xsc, xtc, xnc, xmc, xbr, xwt, xch, xtl, xwf, xdn, xdf, xdl, xss, xtk, xta, xtb, xnk, xna, xnb, xnl, xnr, xns, xfa, xfs, xfi, xrw, rc1, xcl, xhd, xre, xhi, xwo)) : wpX_dropTooMany post (xwc, xdc, xdm, xsc, xtc, xnc, xmc, xbr, xwt, xch, xtl, xwf, xdn, xdf, xdl, xss, xtk, xta, xtb, xnk, xna, xnb, xnl, xnr, xns, xfa, xfs, xfi, xrw, xrc, xcl, xhd, xre, xhi, xwo) xs' := by
  subst es
  have cs : (nI s).toNatClampNeg = s := nI_clamp (by omega)
  refine And.intro (pk_in s 120 hs) ?_
  rw [cs]
  cases o with
  | none =>
    rw [show xrc s = 9 from hset]
    refine br_f (by decide) ⟨pk_in s 120 hs, nm_e (hp _ ?_ (fun s' o' hs' h => qx_set_cg h (pk_un hs') (fun _ _ => rfl)))⟩
    exact ⟨by simp, (fun r hr => nomatch hr), pk_us, (fun k r hk => nomatch hk)⟩
  | some l =>
    rw [hset.2.2.1]
    exact br_t (nI_le (b := 8) hset.1 (by decide)) (hp xrc hset (fun _ _ _ h => h))
theorem xr_lim (s : Nat) (hs : s < 120) (o : Option (List (List Nat))) (hset : qx_set xrw xrc s o) (xs' : Int32) (es : xs' = nI s) (post : SX → Prop)
  (hp : ∀ (rw1 : Nat → Int64) (rc1 : Nat → Int32), qx_set rw1 rc1 s (some (qr_le o)) → qx_kk s xrw xrc rw1 rc1 → post (xwc, xdc, xdm, xsc, xtc, xnc, xmc, xbr, xwt, xch, xtl, xwf, xdn, xdf, xdl, xss, xtk, xta, xtb, xnk, xna, xnb, xnl, xnr, xns, xfa, xfs, xfi, rw1, rc1, xcl, xhd, xre, xhi, xwo)) : wpX_limitEnds post (xwc, xdc, xdm, xsc, xtc, xnc, xmc, xbr, xwt, xch, xtl, xwf, xdn, xdf, xdl, xss, xtk, xta, xtb, xnk, xna, xnb, xnl, xnr, xns, xfa, xfs, xfi, xrw, xrc, xcl, xhd, xre, xhi, xwo) xs' := by
  subst es
  have cs : (nI s).toNatClampNeg = s := nI_clamp (by omega)
  have hs0 : qx_set xrw (upd xrc s 0) s (some []) := ⟨by simp, (fun r hr => nomatch hr), pk_us, (fun k r hk => nomatch hk)⟩
  have fin : (∀ (rw1 : Nat → Int64) (rc1 : Nat → Int32), qx_set rw1 rc1 s (some [[]]) → qx_kk s xrw xrc rw1 rc1 → post (xwc, xdc, xdm, xsc, xtc, xnc, xmc, xbr, xwt, xch, xtl, xwf, xdn, xdf, xdl, xss, xtk, xta, xtb, xnk, xna, xnb, xnl, xnr, xns, xfa, xfs, xfi, rw1, rc1, xcl, xhd, xre, xhi, xwo)) → wX_limitEnds_20 post (nI s) xwc xdc xdm xsc xtc xnc xmc xbr xwt xch xtl xwf xdn xdf xdl xss xtk xta xtb xnk xna xnb xnl xnr xns xfa xfs xfi xrw xrc xcl xhd xre xhi xwo := by
    intro hp'
    refine ⟨pk_in s 120 hs, nm_e ?_⟩
    rw [cs]
    refine xr_add s hs (some []) hs0 [] ⟨by simp, (fun x hx => nomatch hx)⟩ _ rfl _ rfl _ (fun rw1 rc1 g1 g2 => hp' rw1 rc1 g1 (fun s' o' hs' h => g2 s' o' hs' (qx_set_cg h (pk_un hs') (fun _ _ => rfl))))
  refine And.intro (pk_in s 120 hs) ?_
  rw [cs]
  match o, hset, hp with
  | none, hset, hp =>
    rw [show xrc s = 9 from hset]
    refine br_f (by decide) ⟨pk_in s 120 hs, br_f (by decide) (fin hp)⟩
  | some [], hset, hp =>
    rw [hset.2.2.1]
    exact br_t rfl (fin hp)
  | some (r :: l), hset, hp =>
    have hl := hset.1
    rw [hset.2.2.1]
    refine br_f (nI_ne0 (by simp) (by omega)) ⟨pk_in s 120 hs, br_t (nI_le (b := 8) hl (by decide)) (hp xrw xrc hset (fun _ _ _ h => h))⟩
end
end
section
/-! the class: what a part of the expression has -/
theorem qr_le_all {rs : List (List Nat)} (h : 1 ≤ rs.length) : qr_le (qr_oall (some []) rs) = qr_lim (qr_all [] rs) := by
  have hne := qr_ne_all h
  rw [qr_oall_some rs [] (by simp)]
  unfold qr_lim
  by_cases z : (qr_all [] rs).length ≤ 8
  · rw [if_pos z, if_pos z]
    match hl : qr_all [] rs, hne with
    | r :: l, _ => rfl
  · rw [if_neg z, if_neg z]
    rfl
theorem qr_le_id {l : List (List Nat)} (h : 1 ≤ l.length) : qr_le (some l) = l := by
  match l, h with
  | r :: l, _ => rfl
theorem qr_map0 (l : List (List Nat)) : l.map (qr_cut 0) = l := by
  have : qr_cut 0 = id := by funext r; rfl
  rw [this, List.map_id]
theorem qr_map1 (l : List (List Nat)) : l.map (qr_cut 1) = l.map qr_hd := by
  have : qr_cut 1 = qr_hd := by funext r; rfl
  rw [this]
theorem qr_map2 (l : List (List Nat)) : l.map (qr_cut 2) = l.map qr_tl := by
  have : qr_cut 2 = qr_tl := by funext r; rfl
  rw [this]
def qx_in (rw0 : Nat → Int64) (rc0 : Nat → Int32) (j : Nat) (v : qi_T) : Prop := qx_set rw0 rc0 (j * 3) (some (v.1.getD [])) ∧ qx_set rw0 rc0 (j * 3 + 1) (some v.2.1) ∧ qx_set rw0 rc0 (j * 3 + 2) (some v.2.2.1)
def qx_k3 (n : Nat) (rw0 : Nat → Int64) (rc0 : Nat → Int32) (rw1 : Nat → Int64) (rc1 : Nat → Int32) : Prop := ∀ s' o, s' < n * 3 → qx_set rw0 rc0 s' o → qx_set rw1 rc1 s' o
theorem xn_3 (n : Nat) : nI n * 3 = nI (n * 3) := by rw [show (3 : Int32) = nI 3 from rfl, pk_mul]
theorem xn_31 (n : Nat) : nI (n * 3) + 1 = nI (n * 3 + 1) := nI_1 _
theorem xn_32 (n : Nat) : nI (n * 3) + 2 = nI (n * 3 + 2) := nI_add _ 2
section
variable {xwc xdc xdm xsc xtc xnc xmc xbr xwt : Int32} {xch xtl xwf xdn xdf xdl xss xtk xta xtb xnk xna xnb xnl xnr xns xfa xfs xfi xrc xcl xhd xhi xwo : Nat → Int32} {xrw xre : Nat → Int64}
theorem xn_164 (n : Nat) (hn : n < 40) (oh ot : Option (List (List Nat))) (hh : qx_set xrw xrc (n * 3 + 1) oh) (ht : qx_set xrw xrc (n * 3 + 2) ot) (post : SX → Prop)
  (hp : ∀ (rw1 : Nat → Int64) (rc1 : Nat → Int32), qx_set rw1 rc1 (n * 3 + 1) (some (qr_le oh)) → qx_set rw1 rc1 (n * 3 + 2) (some (qr_le ot)) → (∀ s' o, s' ≠ n * 3 + 1 → s' ≠ n * 3 + 2 → qx_set xrw xrc s' o → qx_set rw1 rc1 s' o) → post (xwc, xdc, xdm, xsc, xtc, xnc, xmc, xbr, xwt, xch, xtl, xwf, xdn, xdf, xdl, xss, xtk, xta, xtb, xnk, xna, xnb, xnl, xnr, xns, xfa, xfs, xfi, rw1, rc1, xcl, xhd, xre, xhi, xwo)) : wX_learn_164 post (nI (n * 3)) xwc xdc xdm xsc xtc xnc xmc xbr xwt xch xtl xwf xdn xdf xdl xss xtk xta xtb xnk xna xnb xnl xnr xns xfa xfs xfi xrw xrc xcl xhd xre xhi xwo := by
  unfold wX_learn_164
  refine xr_lim (n * 3 + 1) (by omega) oh hh _ (xn_31 n) _ (fun rw1 rc1 g1 k1 => ?_)
  refine xr_lim (n * 3 + 2) (by omega) ot (k1 _ _ (by omega) ht) _ (xn_32 n) _ (fun rw2 rc2 g2 k2 => ?_)
  exact hp rw2 rc2 (k2 _ _ (by omega) g1) g2 (fun s' o h1 h2 h => k2 _ _ h2 (k1 _ _ h1 h))
theorem xn_137 (n : Nat) (hn : n < 40) (w : List (List Nat)) (oh ot : Option (List (List Nat))) (hw : qx_set xrw xrc (n * 3) (some w)) (hh : qx_set xrw xrc (n * 3 + 1) oh) (ht : qx_set xrw xrc (n * 3 + 2) ot) (post : SX → Prop)
  (hp : ∀ (rw1 : Nat → Int64) (rc1 : Nat → Int32), qx_set rw1 rc1 (n * 3) (some w) → qx_set rw1 rc1 (n * 3 + 1) (some (qr_le (qr_oall oh (w.map qr_hd)))) → qx_set rw1 rc1 (n * 3 + 2) (some (qr_le (qr_oall ot (w.map qr_tl)))) → qx_k3 n xrw xrc rw1 rc1 → post (xwc, xdc, xdm, xsc, xtc, xnc, xmc, xbr, xwt, xch, xtl, xwf, xdn, xdf, xdl, xss, xtk, xta, xtb, xnk, xna, xnb, xnl, xnr, xns, xfa, xfs, xfi, rw1, rc1, xcl, xhd, xre, xhi, xwo)) : wX_learn_137 post (nI (n * 3)) xwc xdc xdm xsc xtc xnc xmc xbr xwt xch xtl xwf xdn xdf xdl xss xtk xta xtb xnk xna xnb xnl xnr xns xfa xfs xfi xrw xrc xcl xhd xre xhi xwo := by
  have c0 : (nI (n * 3)).toNatClampNeg = n * 3 := nI_clamp (by omega)
  refine ⟨pk_in (n * 3) 120 (by omega), ?_⟩
  rw [c0, hw.2.2.1]
  have hl := hw.1
  refine pk_le w.length 0 (fun hz => ?_) (fun hz => ?_)
  · have e : w = [] := List.eq_nil_of_length_eq_zero (by omega)
    subst e
    exact xn_164 n hn oh ot hh ht post (fun rw1 rc1 g1 g2 k => hp rw1 rc1 (k _ _ (by omega) (by omega) hw) g1 g2 (fun s' o hs' h => k _ _ (by omega) (by omega) h))
  · refine xr_rows (n * 3 + 1) (n * 3) 1 (by omega) (by omega) (by omega) (by omega) w oh hh hw _ _ _ (xn_31 n) rfl rfl _ (fun rw1 rc1 g1 k1 => ?_)
    refine xr_rows (n * 3 + 2) (n * 3) 2 (by omega) (by omega) (by omega) (by omega) w ot (k1 _ _ (by omega) ht) (k1 _ _ (by omega) hw) _ _ _ (xn_32 n) rfl rfl _ (fun rw2 rc2 g2 k2 => ?_)
    rw [qr_map1] at g1
    rw [qr_map2] at g2
    exact xn_164 n hn _ _ (k2 _ _ (by omega) g1) g2 post (fun rw3 rc3 g3 g4 k => hp rw3 rc3 (k _ _ (by omega) (by omega) (k2 _ _ (by omega) (k1 _ _ (by omega) hw))) g3 g4 (fun s' o hs' h => k _ _ (by omega) (by omega) (k2 _ _ (by omega) (k1 _ _ (by omega) h))))
theorem xn_incl (a l : Nat) (hl : l < 6) (xa xl : Int32) (ea : xa = nI a) (el : xl = nI l) (post : Int32 → Prop) (h1 : a.testBit l = true → post 1) (h0 : a.testBit l = false → post 0) : wpX_isInClass post xa xl := by
  subst ea; subst el
  refine ek_if (qb_s1 (nI a) l (by omega)) (fun h => h1 (by rw [qb_nI a l (by omega)] at h; exact h)) (fun h => h0 (by rw [qb_nI a l (by omega)] at h; simpa using h))
def qi_lt (a m : Nat) : List Nat := (List.range m).filter (fun l => a.testBit l)
theorem qi_lt_s (a m : Nat) : qi_lt a (m + 1) = qi_lt a m ++ (if a.testBit m = true then [m] else []) := by
  unfold qi_lt
  rw [List.range_succ, List.filter_append]
  congr 1
  by_cases z : a.testBit m = true
  · rw [if_pos z]; simp [z]
  · rw [if_neg z]; simp [z]
theorem qi_lt_len (a m : Nat) : (qi_lt a m).length ≤ m := by
  unfold qi_lt
  have := List.length_filter_le (fun l => a.testBit l) (List.range m)
  rw [List.length_range] at this
  exact this
theorem xn_class (n a : Nat) (hn : n < 40) (ea : xna n = nI a) (hw : qx_set xrw xrc (n * 3) (some [])) (post : SX → Prop)
  (hp : ∀ (rw1 : Nat → Int64) (rc1 : Nat → Int32), qx_set rw1 rc1 (n * 3) (if (qi_ls a).length ≤ 3 then qr_oall (some []) ((qi_ls a).map (fun l => [l])) else some []) → qx_kk (n * 3) xrw xrc rw1 rc1 → post (xwc, xdc, xdm, xsc, xtc, xnc, xmc, xbr, xwt, xch, xtl, xwf, xdn, xdf, xdl, xss, xtk, xta, xtb, xnk, xna, xnb, xnl, xnr, xns, xfa, xfs, xfi, rw1, rc1, xcl, xhd, xre, xhi, xwo)) : wpX_learnClass post (xwc, xdc, xdm, xsc, xtc, xnc, xmc, xbr, xwt, xch, xtl, xwf, xdn, xdf, xdl, xss, xtk, xta, xtb, xnk, xna, xnb, xnl, xnr, xns, xfa, xfs, xfi, xrw, xrc, xcl, xhd, xre, xhi, xwo) (nI n) := by
  have cn : (nI n).toNatClampNeg = n := nI_clamp (by omega)
  have hin : vp_in (nI n) 40 := pk_in n 40 hn
  have h6 : qi_lt a 6 = qi_ls a := rfl
  -- the rows
  have key : ∀ (N l : Nat) (rw1 : Nat → Int64) (rc1 : Nat → Int32), l ≤ 6 → 6 - l < N → (qi_ls a).length ≤ 3 → qx_set rw1 rc1 (n * 3) (qr_oall (some []) ((qi_lt a l).map (fun l => [l]))) → qx_kk (n * 3) xrw xrc rw1 rc1 → wX_learnClass_39 post (nI n) (nI (qi_ls a).length) N (nI l) xwc xdc xdm xsc xtc xnc xmc xbr xwt xch xtl xwf xdn xdf xdl xss xtk xta xtb xnk xna xnb xnl xnr xns xfa xfs xfi rw1 rc1 xcl xhd xre xhi xwo := by
    intro N
    induction N with
    | zero => intro l rw1 rc1 h1 h2; omega
    | succ N ih =>
      intro l rw1 rc1 h1 h2 h3 h4 h5
      refine pk_le 6 l (fun hle => ?_) (fun hlt => ?_)
      · have e : l = 6 := by omega
        subst e
        rw [if_pos h3] at hp
        exact hp rw1 rc1 h4 h5
      · refine br_f (nI_nlt (a := 3) (b := (qi_ls a).length) h3 (by omega)) ⟨hin, ?_⟩
        rw [cn]
        refine xn_incl a l hlt _ _ ea rfl _ (fun hb => br_f (by decide) ?_) (fun hb => br_t rfl (nm_r (nI_1 l) (ih (l + 1) rw1 rc1 (by omega) (by omega) h3 (by rw [qi_lt_s, hb]; simpa using h4) h5)))
        have hrw : qr_rw [l] := ⟨by simp, fun x hx => by rw [List.mem_singleton] at hx; omega⟩
        have er : (4294967296 : Int64) + (nI l).toInt64 = lN (qc_x [l]) := by
          have e1 : qc_x [l] = 4294967296 + l := by
            unfold qc_x
            rw [qc_one, List.length_singleton, Nat.one_mul]
          rw [nI_l (by omega), show (4294967296 : Int64) = lN 4294967296 from rfl, lN_add, e1]
        refine xr_add (n * 3) (by omega) _ h4 [l] hrw _ (xn_3 n) _ er _ (fun rw2 rc2 g1 g2 => nm_r (nI_1 l) (ih (l + 1) rw2 rc2 (by omega) (by omega) h3 ?_ (fun s' o' hs' h => g2 s' o' hs' (h5 s' o' hs' h))))
        rw [qi_lt_s, hb, if_pos rfl, List.map_append, qr_oall_app]
        exact g1
  -- the count
  have cnt : ∀ (N l : Nat), l ≤ 6 → 6 - l < N → wX_learnClass_4 post (nI n) xwc xdc xdm xsc xtc xnc xmc xbr xwt xch xtl xwf xdn xdf xdl xss xtk xta xtb xnk xna xnb xnl xnr xns xfa xfs xfi xrw xrc xcl xhd xre xhi xwo N (nI (qi_lt a l).length) (nI l) := by
    intro N
    induction N with
    | zero => intro l h1 h2; omega
    | succ N ih =>
      intro l h1 h2
      refine pk_le 6 l (fun hle => ?_) (fun hlt => ⟨hin, ?_⟩)
      · have e : l = 6 := by omega
        subst e
        rw [h6]
        have hlen := qi_lt_len a 6
        rw [h6] at hlen
        by_cases z : (qi_ls a).length ≤ 3
        · exact ⟨7, key 7 0 xrw xrc (by omega) (by omega) z hw (fun _ _ _ h => h)⟩
        · refine ⟨1, br_f (by decide) (br_t (nI_lt (a := 3) (by omega) (by omega)) ?_)⟩
          rw [if_neg z] at hp
          exact hp xrw xrc hw (fun _ _ _ h => h)
      · rw [cn]
        have := ih (l + 1) (by omega) (by omega)
        rw [qi_lt_s] at this
        refine xn_incl a l hlt _ _ ea rfl _ (fun hb => br_f (by decide) ?_) (fun hb => br_t rfl ?_)
        · rw [hb, if_pos rfl, List.length_append, List.length_singleton] at this
          exact nm_r (nI_1 _) (nm_r (nI_1 l) this)
        · rw [hb, if_neg (by decide), List.append_nil] at this
          exact nm_r (nI_add _ 0) (nm_r (nI_1 l) this)
  exact ⟨7, cnt 7 0 (by omega) (by omega)⟩
/-- the rows of two parts' ends -/
theorem xn_two (s f g : Nat) (hs : s < 120) (hf : f < 120) (hg : g < 120) (hsf : f ≠ s) (hsg : g ≠ s) (l1 l2 : List (List Nat)) (o : Option (List (List Nat))) (hset : qx_set xrw xrc s o) (h1 : qx_set xrw xrc f (some l1)) (h2 : qx_set xrw xrc g (some l2)) (xs' xf' xg' : Int32) (es : xs' = nI s) (ef : xf' = nI f) (eg : xg' = nI g) (post : SX → Prop)
  (hp : ∀ (rw1 : Nat → Int64) (rc1 : Nat → Int32), qx_set rw1 rc1 s (qr_oall o (l1 ++ l2)) → qx_kk s xrw xrc rw1 rc1 → post (xwc, xdc, xdm, xsc, xtc, xnc, xmc, xbr, xwt, xch, xtl, xwf, xdn, xdf, xdl, xss, xtk, xta, xtb, xnk, xna, xnb, xnl, xnr, xns, xfa, xfs, xfi, rw1, rc1, xcl, xhd, xre, xhi, xwo)) : wpX_addRows (fun u => wpX_addRows post u xs' xg' 0) (xwc, xdc, xdm, xsc, xtc, xnc, xmc, xbr, xwt, xch, xtl, xwf, xdn, xdf, xdl, xss, xtk, xta, xtb, xnk, xna, xnb, xnl, xnr, xns, xfa, xfs, xfi, xrw, xrc, xcl, xhd, xre, xhi, xwo) xs' xf' 0 := by
  refine xr_rows s f 0 hs hf hsf (by omega) l1 o hset h1 _ _ _ es ef rfl _ (fun rw1 rc1 g1 k1 => ?_)
  refine xr_rows s g 0 hs hg hsg (by omega) l2 _ g1 (k1 _ _ hsg h2) _ _ _ es eg rfl _ (fun rw2 rc2 g2 k2 => ?_)
  rw [qr_map0, qr_map0, ← qr_oall_app] at g2
  exact hp rw2 rc2 g2 (fun s' o' hs' h => k2 _ _ hs' (k1 _ _ hs' h))
end
end
section
/-! the class: each kind of part -/
theorem qr_oall_nd {l : List (List Nat)} (h : l.Nodup) (hl : l.length ≤ 8) : qr_oall (some []) l = some l := by
  rw [qr_oall_some l [] (by simp), qr_all_self h, if_pos hl]
theorem qi_wf_w {v : qi_T} (h : qi_wf v) {ws : List (List Nat)} (e : v.1 = some ws) : v.1.getD [] = ws ∧ 1 ≤ ws.length ∧ ws.length ≤ 8 ∧ (∀ r, r ∈ ws → r.length ≤ 5) ∧ ws.Nodup := by
  have := (h.1 ws e).1
  exact ⟨by rw [e]; rfl, this.2.1, this.2.2.1, fun r hr => (this.2.2.2 r hr).1, this.1⟩
theorem qi_wf_h {v : qi_T} (h : qi_wf v) : v.2.1.Nodup ∧ 1 ≤ v.2.1.length ∧ v.2.1.length ≤ 8 ∧ ∀ r, r ∈ v.2.1 → r.length ≤ 2 := ⟨h.2.1.1, h.2.1.2.1, h.2.1.2.2.1, fun r hr => (h.2.1.2.2.2 r hr).1⟩
theorem qi_wf_t {v : qi_T} (h : qi_wf v) : v.2.2.1.Nodup ∧ 1 ≤ v.2.2.1.length ∧ v.2.2.1.length ≤ 8 ∧ ∀ r, r ∈ v.2.2.1 → r.length ≤ 2 := ⟨h.2.2.1, h.2.2.2.1, h.2.2.2.2.1, fun r hr => (h.2.2.2.2.2 r hr).1⟩
def qx_alt (x y : qi_T) : List (List Nat) × Option (List (List Nat)) × Option (List (List Nat)) := match x.1, y.1 with
  | some xs, some ys => if (qr_all [] (xs ++ ys)).length ≤ 8 then (qr_all [] (xs ++ ys), some [], some []) else ([], qr_oall (some []) (x.2.1 ++ y.2.1), qr_oall (some []) (x.2.2.1 ++ y.2.2.1))
  | _, _ => ([], qr_oall (some []) (x.2.1 ++ y.2.1), qr_oall (some []) (x.2.2.1 ++ y.2.2.1))
def qx_sqh (x y : qi_T) : Option (List (List Nat)) := match x.1 with
  | some xs => qr_jall 1 (some []) (qr_pr xs y.2.1)
  | none => qr_oall (some []) x.2.1
def qx_sqt (x y : qi_T) : Option (List (List Nat)) := match y.1 with
  | some ys => qr_jall 2 (some []) (qr_pr x.2.2.1 ys)
  | none => qr_oall (some []) y.2.2.1
section
variable {xwc xdc xdm xsc xtc xnc xmc xbr xwt : Int32} {xch xtl xwf xdn xdf xdl xss xtk xta xtb xnk xna xnb xnl xnr xns xfa xfs xfi xrc xcl xhd xhi xwo : Nat → Int32} {xrw xre : Nat → Int64}
theorem xn_rep29 (n l : Nat) (hn : n < 40) (hl : l < n) (v : qi_T) (hv : qi_wf v) (hin : qx_in xrw xrc l v) (hw : qx_set xrw xrc (n * 3) (some [])) (hh : qx_set xrw xrc (n * 3 + 1) (some [])) (ht : qx_set xrw xrc (n * 3 + 2) (some [])) (post : SX → Prop)
  (hp : ∀ (rw1 : Nat → Int64) (rc1 : Nat → Int32), qx_set rw1 rc1 (n * 3) (some []) → qx_set rw1 rc1 (n * 3 + 1) (some v.2.1) → qx_set rw1 rc1 (n * 3 + 2) (some v.2.2.1) → qx_k3 n xrw xrc rw1 rc1 → post (xwc, xdc, xdm, xsc, xtc, xnc, xmc, xbr, xwt, xch, xtl, xwf, xdn, xdf, xdl, xss, xtk, xta, xtb, xnk, xna, xnb, xnl, xnr, xns, xfa, xfs, xfi, rw1, rc1, xcl, xhd, xre, xhi, xwo)) : wX_learnRepeat_29 post (nI n) (nI (l * 3)) xwc xdc xdm xsc xtc xnc xmc xbr xwt xch xtl xwf xdn xdf xdl xss xtk xta xtb xnk xna xnb xnl xnr xns xfa xfs xfi xrw xrc xcl xhd xre xhi xwo := by
  obtain ⟨i1, i2, i3⟩ := hin
  have h1 := qi_wf_h hv
  have h2 := qi_wf_t hv
  have e31 : nI n * 3 + 1 = nI (n * 3 + 1) := by rw [xn_3]; exact xn_31 n
  have e32 : nI n * 3 + 2 = nI (n * 3 + 2) := by rw [xn_3]; exact xn_32 n
  unfold wX_learnRepeat_29
  refine xr_rows (n * 3 + 1) (l * 3 + 1) 0 (by omega) (by omega) (by omega) (by omega) v.2.1 _ hh i2 _ _ _ e31 (xn_31 l) rfl _ (fun rw1 rc1 g1 k1 => ?_)
  refine xr_rows (n * 3 + 2) (l * 3 + 2) 0 (by omega) (by omega) (by omega) (by omega) v.2.2.1 _ (k1 _ _ (by omega) ht) (k1 _ _ (by omega) i3) _ _ _ e32 (xn_32 l) rfl _ (fun rw2 rc2 g2 k2 => ?_)
  rw [qr_map0, qr_oall_nd h1.1 h1.2.2.1] at g1
  rw [qr_map0, qr_oall_nd h2.1 h2.2.2.1] at g2
  exact hp rw2 rc2 (k2 _ _ (by omega) (k1 _ _ (by omega) hw)) (k2 _ _ (by omega) g1) g2 (fun s' o hs' h => k2 _ _ (by omega) (k1 _ _ (by omega) h))
theorem xn_alt (n l r : Nat) (hn : n < 40) (hl : l < n) (hr : r < n) (el : xnl n = nI l) (er : xnr n = nI r) (x y : qi_T) (hx : qi_wf x) (hy : qi_wf y) (hix : qx_in xrw xrc l x) (hiy : qx_in xrw xrc r y) (hw : qx_set xrw xrc (n * 3) (some [])) (hh : qx_set xrw xrc (n * 3 + 1) (some [])) (ht : qx_set xrw xrc (n * 3 + 2) (some [])) (post : SX → Prop)
  (hp : ∀ (rw1 : Nat → Int64) (rc1 : Nat → Int32), qx_set rw1 rc1 (n * 3) (some (qx_alt x y).1) → qx_set rw1 rc1 (n * 3 + 1) (qx_alt x y).2.1 → qx_set rw1 rc1 (n * 3 + 2) (qx_alt x y).2.2 → qx_k3 n xrw xrc rw1 rc1 → post (xwc, xdc, xdm, xsc, xtc, xnc, xmc, xbr, xwt, xch, xtl, xwf, xdn, xdf, xdl, xss, xtk, xta, xtb, xnk, xna, xnb, xnl, xnr, xns, xfa, xfs, xfi, rw1, rc1, xcl, xhd, xre, xhi, xwo)) : wpX_learnAlt post (xwc, xdc, xdm, xsc, xtc, xnc, xmc, xbr, xwt, xch, xtl, xwf, xdn, xdf, xdl, xss, xtk, xta, xtb, xnk, xna, xnb, xnl, xnr, xns, xfa, xfs, xfi, xrw, xrc, xcl, xhd, xre, xhi, xwo) (nI n) := by
  obtain ⟨i1, i2, i3⟩ := hix
  obtain ⟨j1, j2, j3⟩ := hiy
  have cn : (nI n).toNatClampNeg = n := nI_clamp (by omega)
  have cl : (nI (l * 3)).toNatClampNeg = l * 3 := nI_clamp (by omega)
  have cr : (nI (r * 3)).toNatClampNeg = r * 3 := nI_clamp (by omega)
  have hin : vp_in (nI n) 40 := pk_in n 40 hn
  -- behind the words
  have k62 : ∀ (rw1 : Nat → Int64) (rc1 : Nat → Int32) (w : List (List Nat)), qx_set rw1 rc1 (n * 3) (some w) → qx_kk (n * 3) xrw xrc rw1 rc1 → (w = [] → (qx_alt x y) = ([], qr_oall (some []) (x.2.1 ++ y.2.1), qr_oall (some []) (x.2.2.1 ++ y.2.2.1))) → (w ≠ [] → qx_alt x y = (w, some [], some [])) → wX_learnAlt_62 post (nI (n * 3)) (nI (l * 3)) (nI (r * 3)) xwc xdc xdm xsc xtc xnc xmc xbr xwt xch xtl xwf xdn xdf xdl xss xtk xta xtb xnk xna xnb xnl xnr xns xfa xfs xfi rw1 rc1 xcl xhd xre xhi xwo := by
    intro rw1 rc1 w g1 k1 hw0 hw1
    refine ⟨pk_in (n * 3) 120 (by omega), ?_⟩
    rw [nI_clamp (by omega), g1.2.2.1]
    have hl8 := g1.1
    refine pk_eq w.length 0 (fun hz => ?_) (fun hz => ?_)
    · have e : w = [] := List.eq_nil_of_length_eq_zero hz
      have ea := hw0 e
      rw [ea] at hp
      subst e
      refine xn_two (n * 3 + 1) (l * 3 + 1) (r * 3 + 1) (by omega) (by omega) (by omega) (by omega) (by omega) x.2.1 y.2.1 _ (k1 _ _ (by omega) hh) (k1 _ _ (by omega) i2) (k1 _ _ (by omega) j2) _ _ _ (xn_31 n) (xn_31 l) (xn_31 r) _ (fun rw2 rc2 g2 k2 => ?_)
      refine xn_two (n * 3 + 2) (l * 3 + 2) (r * 3 + 2) (by omega) (by omega) (by omega) (by omega) (by omega) x.2.2.1 y.2.2.1 _ (k2 _ _ (by omega) (k1 _ _ (by omega) ht)) (k2 _ _ (by omega) (k1 _ _ (by omega) i3)) (k2 _ _ (by omega) (k1 _ _ (by omega) j3)) _ _ _ (xn_32 n) (xn_32 l) (xn_32 r) _ (fun rw3 rc3 g3 k3 => ?_)
      exact hp rw3 rc3 (k3 _ _ (by omega) (k2 _ _ (by omega) g1)) (k3 _ _ (by omega) g2) g3 (fun s' o hs' h => k3 _ _ (by omega) (k2 _ _ (by omega) (k1 _ _ (by omega) h)))
    · have ea := hw1 (fun e => hz (by rw [e]; rfl))
      rw [ea] at hp
      exact hp rw1 rc1 g1 (k1 _ _ (by omega) hh) (k1 _ _ (by omega) ht) (fun s' o hs' h => k1 _ _ (by omega) h)
  unfold wpX_learnAlt
  refine nm_r (xn_3 n) ⟨hin, nm_r (e' := nI (l * 3)) (by rw [cn, el, xn_3]) ⟨hin, nm_r (e' := nI (r * 3)) (by rw [cn, er, xn_3]) ⟨pk_in (l * 3) 120 (by omega), ?_⟩⟩⟩
  rw [cl, i1.2.2.1]
  cases ex : x.1 with
  | none =>
    refine br_t (by show nI 0 ≤ 0; decide) (k62 xrw xrc [] hw (fun _ _ _ h => h) (fun _ => ?_) (fun h => absurd rfl h))
    unfold qx_alt
    rw [ex]
  | some xs =>
    have wx := qi_wf_w hx ex
    refine br_f (by show ¬ nI xs.length ≤ 0; exact nI_nle (by omega) (by omega)) ⟨pk_in (r * 3) 120 (by omega), ?_⟩
    rw [cr, j1.2.2.1]
    cases ey : y.1 with
    | none =>
      refine br_t (by show nI 0 ≤ 0; decide) (k62 xrw xrc [] hw (fun _ _ _ h => h) (fun _ => ?_) (fun h => absurd rfl h))
      unfold qx_alt
      rw [ex, ey]
    | some ys =>
      have wy := qi_wf_w hy ey
      rw [ex] at i1
      rw [ey] at j1
      refine br_f (by show ¬ nI ys.length ≤ 0; exact nI_nle (by omega) (by omega)) ?_
      refine xn_two (n * 3) (l * 3) (r * 3) (by omega) (by omega) (by omega) (by omega) (by omega) xs ys _ hw i1 j1 _ _ _ rfl rfl rfl _ (fun rw2 rc2 g2 k2 => ?_)
      refine xr_drop (n * 3) (by omega) _ g2 _ rfl _ (fun rc3 g3 k3 => ?_)
      have hne : 1 ≤ (qr_all [] (xs ++ ys)).length := qr_ne_all (by rw [List.length_append]; omega)
      rw [qr_oall_some _ _ (by simp)] at g3
      by_cases z : (qr_all [] (xs ++ ys)).length ≤ 8
      · rw [if_pos z] at g3
        refine k62 rw2 rc3 (qr_all [] (xs ++ ys)) g3 (fun s' o hs' h => k3 _ _ hs' (k2 _ _ hs' h)) (fun h => ?_) (fun _ => ?_)
        · rw [h] at hne; exact absurd hne (by simp)
        · unfold qx_alt; rw [ex, ey]; dsimp only; rw [if_pos z]
      · rw [if_neg z] at g3
        refine k62 rw2 rc3 [] g3 (fun s' o hs' h => k3 _ _ hs' (k2 _ _ hs' h)) (fun _ => ?_) (fun h => absurd rfl h)
        unfold qx_alt; rw [ex, ey]; dsimp only; rw [if_neg z]
theorem xn_seq (n l r : Nat) (hn : n < 40) (hl : l < n) (hr : r < n) (el : xnl n = nI l) (er : xnr n = nI r) (x y : qi_T) (hx : qi_wf x) (hy : qi_wf y) (hix : qx_in xrw xrc l x) (hiy : qx_in xrw xrc r y) (hw : qx_set xrw xrc (n * 3) (some [])) (hh : qx_set xrw xrc (n * 3 + 1) (some [])) (ht : qx_set xrw xrc (n * 3 + 2) (some [])) (post : SX → Prop)
  (hp1 : ∀ (xs ys : List (List Nat)) (rw1 : Nat → Int64) (rc1 : Nat → Int32), x.1 = some xs → y.1 = some ys → qi_sh xs ys = true → qx_set rw1 rc1 (n * 3) (some (qr_all [] (qr_pr xs ys))) → qx_set rw1 rc1 (n * 3 + 1) (some []) → qx_set rw1 rc1 (n * 3 + 2) (some []) → qx_k3 n xrw xrc rw1 rc1 → post (xwc, xdc, xdm, xsc, xtc, xnc, xmc, xbr, xwt, xch, xtl, xwf, xdn, xdf, xdl, xss, xtk, xta, xtb, xnk, xna, xnb, xnl, xnr, xns, xfa, xfs, xfi, rw1, rc1, xcl, xhd, xre, xhi, xwo))
  (hp2 : ∀ (rw1 : Nat → Int64) (rc1 : Nat → Int32), (∀ xs ys, x.1 = some xs → y.1 = some ys → ¬ qi_sh xs ys = true) → qx_set rw1 rc1 (n * 3) (some []) → qx_set rw1 rc1 (n * 3 + 1) (qx_sqh x y) → qx_set rw1 rc1 (n * 3 + 2) (qx_sqt x y) → qx_k3 n xrw xrc rw1 rc1 → post (xwc, xdc, xdm, xsc, xtc, xnc, xmc, xbr, xwt, xch, xtl, xwf, xdn, xdf, xdl, xss, xtk, xta, xtb, xnk, xna, xnb, xnl, xnr, xns, xfa, xfs, xfi, rw1, rc1, xcl, xhd, xre, xhi, xwo)) : wpX_learnSeq post (xwc, xdc, xdm, xsc, xtc, xnc, xmc, xbr, xwt, xch, xtl, xwf, xdn, xdf, xdl, xss, xtk, xta, xtb, xnk, xna, xnb, xnl, xnr, xns, xfa, xfs, xfi, xrw, xrc, xcl, xhd, xre, xhi, xwo) (nI n) := by
  obtain ⟨i1, i2, i3⟩ := hix
  obtain ⟨j1, j2, j3⟩ := hiy
  have cn : (nI n).toNatClampNeg = n := nI_clamp (by omega)
  have cl : (nI (l * 3)).toNatClampNeg = l * 3 := nI_clamp (by omega)
  have cr : (nI (r * 3)).toNatClampNeg = r * 3 := nI_clamp (by omega)
  have hin : vp_in (nI n) 40 := pk_in n 40 hn
  have hxt := qi_wf_t hx
  have hyh := qi_wf_h hy
  -- the tails
  have k102 : ∀ (rw1 : Nat → Int64) (rc1 : Nat → Int32), (∀ xs ys, x.1 = some xs → y.1 = some ys → ¬ qi_sh xs ys = true) → qx_set rw1 rc1 (n * 3) (some []) → qx_set rw1 rc1 (n * 3 + 1) (qx_sqh x y) → qx_set rw1 rc1 (n * 3 + 2) (some []) → qx_k3 n xrw xrc rw1 rc1 → wX_learnSeq_102 post (nI (n * 3)) (nI (l * 3)) (nI (r * 3)) xwc xdc xdm xsc xtc xnc xmc xbr xwt xch xtl xwf xdn xdf xdl xss xtk xta xtb xnk xna xnb xnl xnr xns xfa xfs xfi rw1 rc1 xcl xhd xre xhi xwo := by
    intro rw1 rc1 hns g1 g2 g3 k1
    have j1' := k1 _ _ (by omega) j1
    have j3' := k1 _ _ (by omega) j3
    have i3' := k1 _ _ (by omega) i3
    refine ⟨pk_in (r * 3) 120 (by omega), ?_⟩
    rw [cr, j1'.2.2.1]
    cases ey : y.1 with
    | none =>
      refine br_t (by show nI 0 ≤ 0; decide) ?_
      refine xr_rows (n * 3 + 2) (r * 3 + 2) 0 (by omega) (by omega) (by omega) (by omega) y.2.2.1 _ g3 j3' _ _ _ (xn_32 n) (xn_32 r) rfl _ (fun rw2 rc2 g4 k2 => ?_)
      rw [qr_map0] at g4
      have e : qx_sqt x y = qr_oall (some []) y.2.2.1 := by unfold qx_sqt; rw [ey]
      exact hp2 rw2 rc2 hns (k2 _ _ (by omega) g1) (k2 _ _ (by omega) g2) (by rw [e]; exact g4) (fun s' o hs' h => k2 _ _ (by omega) (k1 _ _ hs' h))
    | some ys =>
      have wy := qi_wf_w hy ey
      rw [ey] at j1'
      refine br_f (by show ¬ nI ys.length ≤ 0; exact nI_nle (by omega) (by omega)) ?_
      refine xr_jn (n * 3 + 2) (l * 3 + 2) (r * 3) 2 (by omega) (by omega) (by omega) (by omega) (by omega) (by omega) x.2.2.1 ys (fun a ha => by have := hxt.2.2.2 a ha; omega) wy.2.2.2.1 (fun _ a b ha hb => by have := hxt.2.2.2 a ha; have := wy.2.2.2.1 b hb; omega) _ g3 i3' j1' _ _ _ _ (xn_32 n) (xn_32 l) rfl rfl _ (fun rw2 rc2 g4 k2 => ?_)
      have e : qx_sqt x y = qr_jall 2 (some []) (qr_pr x.2.2.1 ys) := by unfold qx_sqt; rw [ey]
      exact hp2 rw2 rc2 hns (k2 _ _ (by omega) g1) (k2 _ _ (by omega) g2) (by rw [e]; exact g4) (fun s' o hs' h => k2 _ _ (by omega) (k1 _ _ hs' h))
  -- the heads
  have k56 : ∀ (rw1 : Nat → Int64) (rc1 : Nat → Int32), (∀ xs ys, x.1 = some xs → y.1 = some ys → ¬ qi_sh xs ys = true) → qx_set rw1 rc1 (n * 3) (some []) → qx_kk (n * 3) xrw xrc rw1 rc1 → wX_learnSeq_56 post (nI (n * 3)) (nI (l * 3)) (nI (r * 3)) xwc xdc xdm xsc xtc xnc xmc xbr xwt xch xtl xwf xdn xdf xdl xss xtk xta xtb xnk xna xnb xnl xnr xns xfa xfs xfi rw1 rc1 xcl xhd xre xhi xwo := by
    intro rw1 rc1 hns g1 k1
    have i1' := k1 _ _ (by omega) i1
    have i2' := k1 _ _ (by omega) i2
    have j2' := k1 _ _ (by omega) j2
    have hh' := k1 _ _ (by omega) hh
    have ht' := k1 _ _ (by omega) ht
    refine ⟨pk_in (n * 3) 120 (by omega), ?_⟩
    rw [nI_clamp (by omega), g1.2.2.1]
    refine br_t (by show nI 0 ≤ 0; decide) ⟨pk_in (l * 3) 120 (by omega), ?_⟩
    rw [cl, i1'.2.2.1]
    cases ex : x.1 with
    | none =>
      refine br_t (by show nI 0 ≤ 0; decide) ?_
      refine xr_rows (n * 3 + 1) (l * 3 + 1) 0 (by omega) (by omega) (by omega) (by omega) x.2.1 _ hh' i2' _ _ _ (xn_31 n) (xn_31 l) rfl _ (fun rw2 rc2 g4 k2 => ?_)
      rw [qr_map0] at g4
      have e : qx_sqh x y = qr_oall (some []) x.2.1 := by unfold qx_sqh; rw [ex]
      exact k102 rw2 rc2 hns (k2 _ _ (by omega) g1) (by rw [e]; exact g4) (k2 _ _ (by omega) ht') (fun s' o hs' h => k2 _ _ (by omega) (k1 _ _ (by omega) h))
    | some xs =>
      have wx := qi_wf_w hx ex
      rw [ex] at i1'
      refine br_f (by show ¬ nI xs.length ≤ 0; exact nI_nle (by omega) (by omega)) ?_
      refine xr_jn (n * 3 + 1) (l * 3) (r * 3 + 1) 1 (by omega) (by omega) (by omega) (by omega) (by omega) (by omega) xs y.2.1 wx.2.2.2.1 (fun a ha => by have := hyh.2.2.2 a ha; omega) (fun _ a b ha hb => by have := wx.2.2.2.1 a ha; have := hyh.2.2.2 b hb; omega) _ hh' i1' j2' _ _ _ _ (xn_31 n) rfl (xn_31 r) rfl _ (fun rw2 rc2 g4 k2 => ?_)
      have e : qx_sqh x y = qr_jall 1 (some []) (qr_pr xs y.2.1) := by unfold qx_sqh; rw [ex]
      exact k102 rw2 rc2 hns (k2 _ _ (by omega) g1) (by rw [e]; exact g4) (k2 _ _ (by omega) ht') (fun s' o hs' h => k2 _ _ (by omega) (k1 _ _ (by omega) h))
  unfold wpX_learnSeq
  refine nm_r (xn_3 n) ⟨hin, nm_r (e' := nI (l * 3)) (by rw [cn, el, xn_3]) ⟨hin, nm_r (e' := nI (r * 3)) (by rw [cn, er, xn_3]) ⟨pk_in (l * 3) 120 (by omega), ?_⟩⟩⟩
  rw [cl, i1.2.2.1]
  cases ex : x.1 with
  | none => exact br_t (by show nI 0 ≤ 0; decide) (k56 xrw xrc (fun xs ys h => by rw [ex] at h; exact nomatch h) hw (fun _ _ _ h => h))
  | some xs =>
    have wx := qi_wf_w hx ex
    refine br_f (by show ¬ nI xs.length ≤ 0; exact nI_nle (by omega) (by omega)) ⟨pk_in (r * 3) 120 (by omega), ?_⟩
    rw [cr, j1.2.2.1]
    cases ey : y.1 with
    | none => exact br_t (by show nI 0 ≤ 0; decide) (k56 xrw xrc (fun xs ys _ h => by rw [ey] at h; exact nomatch h) hw (fun _ _ _ h => h))
    | some ys =>
      have wy := qi_wf_w hy ey
      rw [ex] at i1
      rw [ey] at j1
      refine br_f (by show ¬ nI ys.length ≤ 0; exact nI_nle (by omega) (by omega)) ?_
      refine xr_jn (n * 3) (l * 3) (r * 3) 0 (by omega) (by omega) (by omega) (by omega) (by omega) (by omega) xs ys wx.2.2.2.1 wy.2.2.2.1 (fun h => absurd rfl h) _ hw i1 j1 _ _ _ _ rfl rfl rfl rfl _ (fun rw2 rc2 g2 k2 => ?_)
      refine xr_drop (n * 3) (by omega) _ g2 _ rfl _ (fun rc3 g3 k3 => ?_)
      have kk : qx_kk (n * 3) xrw xrc rw2 rc3 := fun s' o hs' h => k3 _ _ hs' (k2 _ _ hs' h)
      rw [qr_jall_sh] at g3
      by_cases z : qi_sh xs ys = true
      · rw [if_pos z] at g3
        refine ⟨pk_in (n * 3) 120 (by omega), ?_⟩
        rw [nI_clamp (by omega), g3.2.2.1]
        have hne : 1 ≤ (qr_all [] (qr_pr xs ys)).length := qr_ne_all (by rw [qr_pr_len]; exact Nat.mul_pos (by omega) (by omega))
        have hl8 : (qr_all [] (qr_pr xs ys)).length ≤ 8 := g3.1
        refine br_f (by show ¬ nI (qr_all [] (qr_pr xs ys)).length ≤ 0; exact nI_nle (by omega) (by omega)) ?_
        exact hp1 xs ys rw2 rc3 ex ey z g3 (kk _ _ (by omega) hh) (kk _ _ (by omega) ht) (fun s' o hs' h => kk _ _ (by omega) h)
      · rw [if_neg z] at g3
        exact k56 rw2 rc3 (fun xs' ys' h1 h2 => by rw [ex] at h1; rw [ey] at h2; cases h1; cases h2; exact z) g3 kk
end
end
section
/-! the class: all parts are learned -/
theorem qi_bit {a : Nat} (h1 : 1 ≤ a) (h2 : a ≤ 63) : ∃ l, l < 6 ∧ a.testBit l = true := by
  have : ∀ a, a < 64 → 1 ≤ a → ∃ l, l < 6 ∧ a.testBit l = true := by decide +kernel
  exact this a (by omega) h1
theorem qi_ls_ok {a : Nat} (h1 : 1 ≤ a) (h2 : a ≤ 63) : (qi_ls a).Nodup ∧ 1 ≤ (qi_ls a).length ∧ (qi_ls a).length ≤ 6 := by
  obtain ⟨l, hl, hb⟩ := qi_bit h1 h2
  refine ⟨List.Pairwise.filter _ List.nodup_range, ?_, qi_lt_len a 6⟩
  exact List.length_pos_of_mem (List.mem_filter.mpr ⟨List.mem_range.mpr hl, hb⟩)
theorem qx_inj3 {v : qi_T} {w : List (List Nat)} {oh ot : Option (List (List Nat))} (h : v = (if w = [] then (none, qr_le oh, qr_le ot, v.2.2.2) else (some w, qr_le (qr_oall oh (w.map qr_hd)), qr_le (qr_oall ot (w.map qr_tl)), v.2.2.2))) : v.1.getD [] = w ∧ v.2.1 = qr_le (qr_oall oh (w.map qr_hd)) ∧ v.2.2.1 = qr_le (qr_oall ot (w.map qr_tl)) := by
  by_cases z : w = []
  · rw [if_pos z] at h
    subst z
    rw [h]
    exact ⟨rfl, rfl, rfl⟩
  · rw [if_neg z] at h
    rw [h]
    exact ⟨rfl, rfl, rfl⟩
theorem qi_known_3 {ws : List (List Nat)} (h : 1 ≤ ws.length) : qi_known ws = (if ws = [] then (none, qr_le (some []), qr_le (some []), (qi_known ws).2.2.2) else (some ws, qr_le (qr_oall (some []) (ws.map qr_hd)), qr_le (qr_oall (some []) (ws.map qr_tl)), (qi_known ws).2.2.2)) := by
  have hne : ws ≠ [] := fun e => by rw [e] at h; exact absurd h (by simp)
  rw [if_neg hne, qr_le_all (by rw [List.length_map]; exact h), qr_le_all (by rw [List.length_map]; exact h)]
  rfl
section
variable {xwc xdc xdm xsc xtc xnc xmc xbr xwt : Int32} {xch xtl xwf xdn xdf xdl xss xtk xta xtb xnk xna xnb xnl xnr xns xfa xfs xfi xrc xcl xhd xhi xwo : Nat → Int32} {xrw xre : Nat → Int64}
theorem xn_learn (n m : Nat) (D : Nat → qv_T) (hm : m ≤ 33) (hn : n < m) (hok : qn_ok qv_lf qv_un qv_bi xnk xna xnb xnl xnr m D) (hwf : ∀ j, j < m → qi_wf (D j).2.1) (hin : ∀ j, j < n → qx_in xrw xrc j (D j).2.1) (post : SX → Prop)
  (hp : ∀ (rw1 : Nat → Int64) (rc1 : Nat → Int32), (∀ j, j < n + 1 → qx_in rw1 rc1 j (D j).2.1) → post (xwc, xdc, xdm, xsc, xtc, xnc, xmc, xbr, xwt, xch, xtl, xwf, xdn, xdf, xdl, xss, xtk, xta, xtb, xnk, xna, xnb, xnl, xnr, xns, xfa, xfs, xfi, rw1, rc1, xcl, xhd, xre, xhi, xwo)) : wpX_learn post (xwc, xdc, xdm, xsc, xtc, xnc, xmc, xbr, xwt, xch, xtl, xwf, xdn, xdf, xdl, xss, xtk, xta, xtb, xnk, xna, xnb, xnl, xnr, xns, xfa, xfs, xfi, xrw, xrc, xcl, xhd, xre, xhi, xwo) (nI n) := by
  have hin40 : vp_in (nI n) 40 := pk_in n 40 (by omega)
  have cn : (nI n).toNatClampNeg = n := nI_clamp (by omega)
  unfold wpX_learn
  refine nm_r (xn_3 n) ⟨pk_in (n * 3) 120 (by omega), nm_e ⟨pk_in (n * 3 + 1) 120 (by omega) (xn_31 n), nm_e ⟨pk_in (n * 3 + 2) 120 (by omega) (xn_32 n), nm_e ⟨hin40, ?_⟩⟩⟩⟩
  rw [xn_31, xn_32, nI_clamp (show n * 3 < 2 ^ 31 by omega), nI_clamp (show n * 3 + 1 < 2 ^ 31 by omega), nI_clamp (show n * 3 + 2 < 2 ^ 31 by omega), cn]
  generalize hrc : upd (upd (upd xrc (n * 3) 0) (n * 3 + 1) 0) (n * 3 + 2) 0 = rc0
  have z0 : ∀ s, s = n * 3 ∨ s = n * 3 + 1 ∨ s = n * 3 + 2 → qx_set xrw rc0 s (some []) := by
    intro s hs
    refine ⟨by simp, (fun r hr => nomatch hr), ?_, (fun k r hk => nomatch hk)⟩
    rw [← hrc]
    show (if s = n * 3 + 2 then (0 : Int32) else if s = n * 3 + 1 then 0 else if s = n * 3 then 0 else xrc s) = 0
    rcases hs with h | h | h <;> subst h <;> simp
  have k0 : qx_k3 n xrw xrc xrw rc0 := by
    intro s' o hs' h
    refine qx_set_cg h ?_ (fun _ _ => rfl)
    rw [← hrc, pk_un (by omega), pk_un (by omega), pk_un (by omega)]
  -- behind the kinds
  have fin : ∀ (rw1 : Nat → Int64) (rc1 : Nat → Int32) (w : List (List Nat)) (oh ot : Option (List (List Nat))), qx_set rw1 rc1 (n * 3) (some w) → qx_set rw1 rc1 (n * 3 + 1) oh → qx_set rw1 rc1 (n * 3 + 2) ot → qx_k3 n xrw rc0 rw1 rc1 → (D n).2.1 = (if w = [] then (none, qr_le oh, qr_le ot, (D n).2.1.2.2.2) else (some w, qr_le (qr_oall oh (w.map qr_hd)), qr_le (qr_oall ot (w.map qr_tl)), (D n).2.1.2.2.2)) → wX_learn_137 post (nI (n * 3)) xwc xdc xdm xsc xtc xnc xmc xbr xwt xch xtl xwf xdn xdf xdl xss xtk xta xtb xnk xna xnb xnl xnr xns xfa xfs xfi rw1 rc1 xcl xhd xre xhi xwo := by
    intro rw1 rc1 w oh ot g1 g2 g3 k1 hv
    refine xn_137 n (by omega) w oh ot g1 g2 g3 post (fun rw2 rc2 f1 f2 f3 k2 => hp rw2 rc2 (fun j hj => ?_))
    by_cases z : j = n
    · subst z
      obtain ⟨e1, e2, e3⟩ := qx_inj3 hv
      refine ⟨?_, ?_, ?_⟩
      · rw [e1]; exact f1
      · rw [e2]; exact f2
      · rw [e3]; exact f3
    · obtain ⟨i1, i2, i3⟩ := hin j (by omega)
      exact ⟨k2 _ _ (by omega) (k1 _ _ (by omega) (k0 _ _ (by omega) i1)), k2 _ _ (by omega) (k1 _ _ (by omega) (k0 _ _ (by omega) i2)), k2 _ _ (by omega) (k1 _ _ (by omega) (k0 _ _ (by omega) i3))⟩
  have hin0 : ∀ j, j < n → qx_in xrw rc0 j (D j).2.1 := fun j hj => ⟨k0 _ _ (by omega) (hin j hj).1, k0 _ _ (by omega) (hin j hj).2.1, k0 _ _ (by omega) (hin j hj).2.2⟩
  obtain ⟨k, l, r, ek, el, er, hl, hr, hc⟩ := hok n hn
  refine nm_r ek ?_
  have n137 : (D n).2.1 = qi_unk → wX_learn_137 post (nI (n * 3)) xwc xdc xdm xsc xtc xnc xmc xbr xwt xch xtl xwf xdn xdf xdl xss xtk xta xtb xnk xna xnb xnl xnr xns xfa xfs xfi xrw rc0 xcl xhd xre xhi xwo := fun e => fin xrw rc0 [] (some []) (some []) (z0 _ (by omega)) (z0 _ (by omega)) (z0 _ (by omega)) (fun _ _ _ h => h) (by rw [e]; rfl)
  have kne : ∀ q : Nat, q < 100 → k ≠ q → ¬ nI k = nI q := fun q hq h => xe_kne (by rcases hc with h | h | h | h | h <;> omega) hq h
  have hk14 : k < 14 := by rcases hc with h | h | h | h | h <;> omega
  have hk2 : 2 ≤ k := by rcases hc with h | h | h | h | h <;> omega
  refine br_f (nI_nlt (b := 2) hk2 (by omega)) (br_f (nI_nlt (a := 13) (b := k) (by omega) (by omega)) ?_)
  rcases hc with ⟨hk, a, ea, ha1, ha2, ev⟩ | ⟨hk, ev⟩ | ⟨hk, hl', ev⟩ | ⟨hk, hl', a, b, ea, eb, hab, hb3, hb1, ev⟩ | ⟨hk, hl', hr', ev⟩
  · -- a class
    subst hk
    have ev' : (D n).2.1 = qi_lf 2 a := by rw [ev]; rfl
    have hls := qi_ls_ok ha1 ha2
    refine br_t rfl ?_
    refine xn_class n a (by omega) ea (z0 _ (by omega)) _ (fun rw1 rc1 g1 kk => ?_)
    by_cases z : (qi_ls a).length ≤ 3
    · rw [if_pos z, qr_oall_nd (List.Pairwise.map _ (fun x y hxy e => hxy (by simpa using e)) hls.1) (by rw [List.length_map]; omega)] at g1
      refine fin rw1 rc1 _ (some []) (some []) g1 (kk _ _ (by omega) (z0 _ (by omega))) (kk _ _ (by omega) (z0 _ (by omega))) (fun s' o hs' h => kk _ _ (by omega) h) ?_
      have e : (D n).2.1 = qi_known ((qi_ls a).map (fun l => [l])) := by rw [ev']; unfold qi_lf; rw [if_pos rfl, if_pos z]
      rw [e]
      exact qi_known_3 (by rw [List.length_map]; omega)
    · rw [if_neg z] at g1
      refine fin rw1 rc1 [] (some []) (some []) g1 (kk _ _ (by omega) (z0 _ (by omega))) (kk _ _ (by omega) (z0 _ (by omega))) (fun s' o hs' h => kk _ _ (by omega) h) ?_
      have e : (D n).2.1 = qi_unk := by rw [ev']; unfold qi_lf; rw [if_pos rfl, if_neg z]
      rw [e]
      rfl
  · -- the empty row
    have e : (D n).2.1 = qi_known [[]] := by
      rw [ev]
      show qi_lf k 0 = _
      unfold qi_lf
      rw [if_neg (by omega)]
    have k104 : wX_learn_104 post (nI (n * 3)) xwc xdc xdm xsc xtc xnc xmc xbr xwt xch xtl xwf xdn xdf xdl xss xtk xta xtb xnk xna xnb xnl xnr xns xfa xfs xfi xrw rc0 xcl xhd xre xhi xwo := by
      unfold wX_learn_104
      refine xr_add (n * 3) (by omega) (some []) (z0 _ (by omega)) [] ⟨by simp, (fun x hx => nomatch hx)⟩ _ rfl _ rfl _ (fun rw1 rc1 g1 kk => ?_)
      refine fin rw1 rc1 [[]] (some []) (some []) g1 (kk _ _ (by omega) (z0 _ (by omega))) (kk _ _ (by omega) (z0 _ (by omega))) (fun s' o hs' h => kk _ _ (by omega) h) ?_
      rw [e]
      exact qi_known_3 (by simp)
    refine br_f (kne 2 (by omega) (by omega)) (br_f (kne 3 (by omega) (by omega)) (br_f (kne 4 (by omega) (by omega)) (br_f (kne 5 (by omega) (by omega)) (br_f (kne 6 (by omega) (by omega)) (br_f (kne 7 (by omega) (by omega)) (br_f (kne 8 (by omega) (by omega)) (br_f (kne 9 (by omega) (by omega)) ?_)))))))
    rcases hk with h | h | h
    · subst h; exact br_t rfl k104
    · subst h; exact br_f (by decide) (br_t rfl k104)
    · subst h; exact br_f (by decide) (br_f (by decide) (br_t rfl k104))
  · -- star and plus
    have hwl := hwf l (by omega)
    refine br_f (kne 2 (by omega) (by omega)) (br_f (kne 3 (by omega) (by omega)) (br_f (kne 4 (by omega) (by omega)) (br_f (kne 5 (by omega) (by omega)) ?_)))
    rcases hk with h | h
    · subst h
      exact br_t rfl (n137 (by rw [ev]; rfl))
    · subst h
      refine br_f (by decide) (br_t rfl ?_)
      unfold wX_learn_113 wpX_learnRepeat
      refine ⟨hin40, nm_r (e' := nI (l * 3)) (by rw [cn, el, xn_3]) ⟨hin40, ?_⟩⟩
      rw [cn, ek]
      refine br_t rfl (xn_rep29 n l (by omega) hl' (D l).2.1 hwl (hin0 l hl') (z0 _ (by omega)) (z0 _ (by omega)) (z0 _ (by omega)) _ (fun rw1 rc1 g1 g2 g3 k1 => fin rw1 rc1 [] _ _ g1 g2 g3 k1 ?_))
      rw [if_pos rfl, qr_le_id (qi_wf_h hwl).2.1, qr_le_id (qi_wf_t hwl).2.1, ev]
      rfl
  · -- count
    subst hk
    have hwl := hwf l (by omega)
    refine br_f (by decide) (br_f (by decide) (br_f (by decide) (br_f (by decide) (br_f (by decide) (br_f (by decide) (br_f (by decide) (br_t rfl ?_)))))))
    unfold wX_learn_113 wpX_learnRepeat
    refine ⟨hin40, nm_r (e' := nI (l * 3)) (by rw [cn, el, xn_3]) ⟨hin40, ?_⟩⟩
    rw [cn, ek]
    refine br_f (by decide) ⟨hin40, ?_⟩
    rw [ea]
    refine pk_le a 0 (fun h0 => n137 ?_) (fun h0 => ?_)
    · rw [ev]
      show qi_un 9 a (D l).2.1 = _
      unfold qi_un
      rw [if_neg (by decide), if_pos rfl, if_pos (by omega)]
    · refine xn_rep29 n l (by omega) hl' (D l).2.1 hwl (hin0 l hl') (z0 _ (by omega)) (z0 _ (by omega)) (z0 _ (by omega)) _ (fun rw1 rc1 g1 g2 g3 k1 => fin rw1 rc1 [] _ _ g1 g2 g3 k1 ?_)
      have e9 : (qv_un 9 a b (D l)).2.1 = qi_rep (D l).2.1 := by
        show qi_un 9 a (D l).2.1 = _
        unfold qi_un
        rw [if_neg (by decide), if_pos rfl, if_neg (by omega)]
      rw [if_pos rfl, qr_le_id (qi_wf_h hwl).2.1, qr_le_id (qi_wf_t hwl).2.1, ev, e9]
      rfl
  · -- alt and seq
    have hwl := hwf l (by omega)
    have hwr := hwf r (by omega)
    have alt : (k = 5 ∨ k = 8) → wX_learn_121 post (nI n) (nI (n * 3)) xwc xdc xdm xsc xtc xnc xmc xbr xwt xch xtl xwf xdn xdf xdl xss xtk xta xtb xnk xna xnb xnl xnr xns xfa xfs xfi xrw rc0 xcl xhd xre xhi xwo := by
      intro hk'
      unfold wX_learn_121
      refine xn_alt n l r (by omega) hl' hr' el er (D l).2.1 (D r).2.1 hwl hwr (hin0 l hl') (hin0 r hr') (z0 _ (by omega)) (z0 _ (by omega)) (z0 _ (by omega)) _ (fun rw1 rc1 g1 g2 g3 k1 => fin rw1 rc1 _ _ _ g1 g2 g3 k1 ?_)
      have e : (D n).2.1 = qi_alt (D l).2.1 (D r).2.1 := by
        rw [ev]
        show qi_bi k _ _ = _
        unfold qi_bi
        rw [if_neg (by omega)]
      rw [e]
      have hl2 := qi_wf_h hwl
      have ht2 := qi_wf_t hwl
      have hun : qi_alt2 (D l).2.1 (D r).2.1 = (none, qr_le (qr_oall (some []) ((D l).2.1.2.1 ++ (D r).2.1.2.1)), qr_le (qr_oall (some []) ((D l).2.1.2.2.1 ++ (D r).2.1.2.2.1)), (qi_alt2 (D l).2.1 (D r).2.1).2.2.2) := by
        rw [qr_le_all (by rw [List.length_append]; omega), qr_le_all (by rw [List.length_append]; omega)]
        rfl
      have un2 : qi_alt (D l).2.1 (D r).2.1 = qi_alt2 (D l).2.1 (D r).2.1 → qx_alt (D l).2.1 (D r).2.1 = ([], qr_oall (some []) ((D l).2.1.2.1 ++ (D r).2.1.2.1), qr_oall (some []) ((D l).2.1.2.2.1 ++ (D r).2.1.2.2.1)) → qi_alt (D l).2.1 (D r).2.1 = (if (qx_alt (D l).2.1 (D r).2.1).1 = [] then (none, qr_le (qx_alt (D l).2.1 (D r).2.1).2.1, qr_le (qx_alt (D l).2.1 (D r).2.1).2.2, (qi_alt (D l).2.1 (D r).2.1).2.2.2) else (some (qx_alt (D l).2.1 (D r).2.1).1, qr_le (qr_oall (qx_alt (D l).2.1 (D r).2.1).2.1 ((qx_alt (D l).2.1 (D r).2.1).1.map qr_hd)), qr_le (qr_oall (qx_alt (D l).2.1 (D r).2.1).2.2 ((qx_alt (D l).2.1 (D r).2.1).1.map qr_tl)), (qi_alt (D l).2.1 (D r).2.1).2.2.2)) := by
        intro u1 u2
        rw [u1, u2]
        dsimp only
        rw [if_pos rfl]
        exact hun
      cases ex : (D l).2.1.1 with
      | none => exact un2 (by unfold qi_alt; rw [ex]) (by unfold qx_alt; rw [ex])
      | some xs =>
        cases ey : (D r).2.1.1 with
        | none => exact un2 (by unfold qi_alt; rw [ex, ey]) (by unfold qx_alt; rw [ex, ey])
        | some ys =>
          have wx := qi_wf_w hwl ex
          by_cases z : (qr_all [] (xs ++ ys)).length ≤ 8
          · have u1 : qi_alt (D l).2.1 (D r).2.1 = qi_known (qr_all [] (xs ++ ys)) := by unfold qi_alt; rw [ex, ey]; dsimp only; rw [if_pos z]
            have u2 : qx_alt (D l).2.1 (D r).2.1 = (qr_all [] (xs ++ ys), some [], some []) := by unfold qx_alt; rw [ex, ey]; dsimp only; rw [if_pos z]
            rw [u1, u2]
            exact qi_known_3 (qr_ne_all (by rw [List.length_append]; omega))
          · exact un2 (by unfold qi_alt; rw [ex, ey]; dsimp only; rw [if_neg z]) (by unfold qx_alt; rw [ex, ey]; dsimp only; rw [if_neg z])
    refine br_f (kne 2 (by omega) (by omega)) (br_f (kne 3 (by omega) (by omega)) (br_f (kne 4 (by omega) (by omega)) ?_))
    rcases hk with h | h | h
    · subst h; exact br_t rfl (alt (Or.inl rfl))
    · subst h; exact br_f (by decide) (br_f (by decide) (br_f (by decide) (br_t rfl (alt (Or.inr rfl)))))
    · subst h
      refine br_f (by decide) (br_f (by decide) (br_f (by decide) (br_f (by decide) (br_f (by decide) (br_f (by decide) (br_f (by decide) (br_f (by decide) (br_t rfl ?_))))))))
      have e : (D n).2.1 = qi_seq (D l).2.1 (D r).2.1 := by rw [ev]; rfl
      have hxh := qi_wf_h hwl
      have hxt := qi_wf_t hwl
      have hyh := qi_wf_h hwr
      have hyt := qi_wf_t hwr
      refine xn_seq n l r (by omega) hl' hr' el er (D l).2.1 (D r).2.1 hwl hwr (hin0 l hl') (hin0 r hr') (z0 _ (by omega)) (z0 _ (by omega)) (z0 _ (by omega)) _ (fun xs ys rw1 rc1 ex ey z g1 g2 g3 k1 => fin rw1 rc1 _ _ _ g1 g2 g3 k1 ?_) (fun rw1 rc1 hns g1 g2 g3 k1 => fin rw1 rc1 [] _ _ g1 g2 g3 k1 ?_)
      · have wx := qi_wf_w hwl ex
        have wy := qi_wf_w hwr ey
        have e2 : (D n).2.1 = qi_known (qr_all [] (qr_pr xs ys)) := by rw [e]; unfold qi_seq; rw [ex, ey]; dsimp only; rw [if_pos z]
        rw [e2]
        exact qi_known_3 (qr_ne_all (by rw [qr_pr_len]; exact Nat.mul_pos (by omega) (by omega)))
      · have e2 : (D n).2.1 = qi_seq2 (D l).2.1 (D r).2.1 := by
          rw [e]
          unfold qi_seq
          split
          · rename_i xs ys ex ey
            rw [if_neg (hns xs ys ex ey)]
          · rfl
        rw [if_pos rfl, e2]
        have eh : qi_hx (D l).2.1 (D r).2.1 = qr_le (qx_sqh (D l).2.1 (D r).2.1) := by
          unfold qi_hx qx_sqh
          cases ex : (D l).2.1.1 with
          | none =>
            dsimp only
            rw [qr_oall_nd hxh.1 hxh.2.2.1, qr_le_id hxh.2.1]
          | some xs =>
            dsimp only
            have wx := qi_wf_w hwl ex
            rw [qr_jall_c (by decide), qr_map1, qr_le_all (by rw [List.length_map, qr_pr_len]; exact Nat.mul_pos (by omega) (by omega))]
        have et : qi_ty (D l).2.1 (D r).2.1 = qr_le (qx_sqt (D l).2.1 (D r).2.1) := by
          unfold qi_ty qx_sqt
          cases ey : (D r).2.1.1 with
          | none =>
            dsimp only
            rw [qr_oall_nd hyt.1 hyt.2.2.1, qr_le_id hyt.2.1]
          | some ys =>
            dsimp only
            have wy := qi_wf_w hwr ey
            rw [qr_jall_c (by decide), qr_map2, qr_le_all (by rw [List.length_map, qr_pr_len]; exact Nat.mul_pos (by omega) (by omega))]
        unfold qi_seq2
        rw [eh, et]
end
end
section
/-! the class: the claim of the expression, of a text -/
theorem qi_alt_unk {x y : qi_T} (h : (qi_alt x y).1 = none) : qi_alt x y = qi_alt2 x y := by
  unfold qi_alt at h ⊢
  split at h
  · split at h
    · exact nomatch h
    · rename_i z
      rw [if_neg z]
  · rfl
theorem qi_seq_unk {x y : qi_T} (h : (qi_seq x y).1 = none) : qi_seq x y = qi_seq2 x y := by
  unfold qi_seq at h ⊢
  split at h
  · split at h
    · exact nomatch h
    · rename_i z
      rw [if_neg z]
  · rfl
theorem xc_n1 : narrow .boolean (.int 1) = .int 1 := by decide
theorem xc_n0 : narrow .boolean (.int 0) = .int 0 := by decide
section
variable {xwc xdc xdm xsc xtc xnc xmc xbr xwt : Int32} {xch xtl xwf xdn xdf xdl xss xtk xta xtb xnk xna xnb xnl xnr xns xfa xfs xfi xrc xcl xhd xhi xwo : Nat → Int32} {xrw xre : Nat → Int64}
theorem xc_had (t : List Nat) (hhd : qx_hd t t.length xhd) (r : List Nat) (hr : qr_rw r) (xr' : Int64) (er : xr' = lN (qc_x r)) (post : Int32 → Prop) (h1 : qr_has r (qt_T t) → post 1) (h0 : ¬ qr_has r (qt_T t) → post 0) : wpX_isHad post (xwc, xdc, xdm, xsc, xtc, xnc, xmc, xbr, xwt, xch, xtl, xwf, xdn, xdf, xdl, xss, xtk, xta, xtb, xnk, xna, xnb, xnl, xnr, xns, xfa, xfs, xfi, xrw, xrc, xcl, xhd, xre, xhi, xwo) xr' := by
  subst er
  have hv := qc_x_v r hr.2 hr.1
  have hl := hr.1
  have tri : ∀ i, i + 2 < r.length → (xhd ((r.getD i 0 * 8 + r.getD (i + 1) 0) * 8 + r.getD (i + 2) 0) = if qt_any t t.length (36 * r.getD i 0 + 6 * r.getD (i + 1) 0 + r.getD (i + 2) 0) = true then 1 else 0) ∧ (qt_any t t.length (36 * r.getD i 0 + 6 * r.getD (i + 1) 0 + r.getD (i + 2) 0) = true ↔ qt_T t (r.getD i 0) (r.getD (i + 1) 0) (r.getD (i + 2) 0)) := by
    intro i hi
    have a := qc_get_in hr.2 i (by omega)
    have b := qc_get_in hr.2 (i + 1) (by omega)
    have c := qc_get_in hr.2 (i + 2) hi
    constructor
    · have e := hhd (36 * r.getD i 0 + 6 * r.getD (i + 1) 0 + r.getD (i + 2) 0) (by omega)
      rw [qt_68_eq a b c] at e
      rw [← e]
      congr 1
      omega
    · rw [qt_g_T a b c, qt_any_iff]
      constructor
      · rintro ⟨j, _, h⟩; exact ⟨j, h⟩
      · rintro ⟨j, h⟩; exact ⟨j, by have := (qt_g_lt h).2; omega, h⟩
  have key : ∀ (N b : Nat), b ≤ r.length → r.length - b < N → (∀ i, i + 2 < r.length → r.length - 3 - i < b → qt_T t (r.getD i 0) (r.getD (i + 1) 0) (r.getD (i + 2) 0)) → wX_isHad_17 post (nI r.length) (nI (qc_v 8 r)) xwc xdc xdm xsc xtc xnc xmc xbr xwt xch xtl xwf xdn xdf xdl xss xtk xta xtb xnk xna xnb xnl xnr xns xfa xfs xfi xrw xrc xcl xhd xre xhi xwo N (nI b) := by
    intro N
    induction N with
    | zero => intro b g1 g2; omega
    | succ N ih =>
      intro b g1 g2 g3
      refine pk_lt r.length (b + 3) (fun hlt => h1 (fun i hi => g3 i hi (by omega))) (fun hle => ?_) rfl (nI_add b 3)
      have e3 : (3 : Int32) * nI b = nI (3 * b) := pk_mul 3 b
      have hd : qc_v 8 r / 2 ^ (3 * b) ≤ qc_v 8 r := Nat.div_le_self _ _
      have ei : (nI (qc_v 8 r) >>> ((3 * nI b) &&& 31)) &&& 511 = nI ((r.getD (r.length - 3 - b) 0 * 8 + r.getD (r.length - 3 - b + 1) 0) * 8 + r.getD (r.length - 3 - b + 2) 0) := by
        rw [e3, pk_shrN (by omega) _ (3 * b) (s_l (3 * b) (by omega)), pk_andN (by omega) 9 (by decide)]
        congr 1
        have := qc_x_tri r hr.2 (r.length - 3 - b) (by omega)
        rw [show r.length - 3 - (r.length - 3 - b) = b by omega] at this
        rw [xr_p8, show (2 : Nat) ^ 9 = 512 from rfl]
        exact this
      have a := qc_get_in hr.2 (r.length - 3 - b) (by omega)
      have bb := qc_get_in hr.2 (r.length - 3 - b + 1) (by omega)
      have c := qc_get_in hr.2 (r.length - 3 - b + 2) (by omega)
      obtain ⟨t1, t2⟩ := tri (r.length - 3 - b) (by omega)
      refine ⟨pk_in _ 512 (by omega) ei, ?_⟩
      rw [ei, nI_clamp (by omega), t1]
      by_cases z : qt_any t t.length (36 * r.getD (r.length - 3 - b) 0 + 6 * r.getD (r.length - 3 - b + 1) 0 + r.getD (r.length - 3 - b + 2) 0) = true
      · rw [if_pos z]
        refine br_f (by decide) (nm_r (nI_1 b) (ih (b + 1) (by omega) (by omega) (fun i hi hb => ?_)))
        by_cases y : r.length - 3 - i = b
        · have e : i = r.length - 3 - b := by omega
          rw [e]
          exact t2.mp z
        · exact g3 i hi (by omega)
      · rw [if_neg z]
        exact br_t rfl (h0 (fun hh => z (t2.mpr (hh _ (by omega)))))
  unfold wpX_isHad
  refine nm_r (e' := nI r.length) (by rw [xr_len hr, lN_i]) (nm_r (e' := nI (qc_v 8 r)) (by rw [xr_low hr, lN_i]) ⟨r.length + 1, key (r.length + 1) 0 (by omega) (by omega) (fun i _ h => absurd h (by omega))⟩)
theorem xc_some (t : List Nat) (hhd : qx_hd t t.length xhd) (s : Nat) (hs : s < 120) (l : List (List Nat)) (hset : qx_set xrw xrc s (some l)) (xs' : Int32) (es : xs' = nI s) (post : Int32 → Prop) (h1 : qr_some l (qt_T t) → post 1) (h0 : ¬ qr_some l (qt_T t) → post 0) : wpX_someOf post (xwc, xdc, xdm, xsc, xtc, xnc, xmc, xbr, xwt, xch, xtl, xwf, xdn, xdf, xdl, xss, xtk, xta, xtb, xnk, xna, xnb, xnl, xnr, xns, xfa, xfs, xfi, xrw, xrc, xcl, xhd, xre, xhi, xwo) xs' := by
  subst es
  obtain ⟨b1, b2, b3, b4⟩ := hset
  have key : ∀ (N k : Nat), k ≤ l.length → l.length - k < N → (∀ j q, j < k → l[j]? = some q → ¬ qr_has q (qt_T t)) → wX_someOf_2 post (nI s) xwc xdc xdm xsc xtc xnc xmc xbr xwt xch xtl xwf xdn xdf xdl xss xtk xta xtb xnk xna xnb xnl xnr xns xfa xfs xfi xrw xrc xcl xhd xre xhi xwo N (nI k) := by
    intro N
    induction N with
    | zero => intro k g1 g2; omega
    | succ N ih =>
      intro k g1 g2 g3
      refine ⟨pk_in s 120 hs, ?_⟩
      rw [nI_clamp (by omega), b3]
      refine pk_le l.length k (fun hle => h0 (fun ⟨r, hr, hh⟩ => ?_)) (fun hlt => ⟨pk_in (s * 8 + k) 960 (by omega) (xr_ix s k), ?_⟩)
      · obtain ⟨j, hj, e⟩ := List.getElem_of_mem hr
        exact g3 j r (by omega) (by rw [List.getElem?_eq_getElem hj, e]) hh
      · have hg := List.getElem?_eq_getElem hlt
        rw [xr_ixc (by omega), b4 k _ hg]
        refine xc_had t hhd l[k] (b2 _ (List.getElem_mem hlt)) _ rfl _ (fun hh => br_f (by decide) (h1 ⟨_, List.getElem_mem hlt, hh⟩)) (fun hh => br_t rfl (nm_r (nI_1 k) (ih (k + 1) (by omega) (by omega) (fun j q hj hq => ?_))))
        by_cases z : j = k
        · subst z; rw [hg] at hq; cases hq; exact hh
        · exact g3 j q (by omega) hq
  exact ⟨l.length + 1, key (l.length + 1) 0 (by omega) (by omega) (fun j q hj => absurd hj (by omega))⟩
theorem xc_across (t : List Nat) (hhd : qx_hd t t.length xhd) (l r : Nat) (hl : l < 40) (hr : r < 40) (xs ys : List (List Nat)) (hx2 : ∀ a, a ∈ xs → a.length ≤ 2) (hy2 : ∀ a, a ∈ ys → a.length ≤ 2) (hX : qx_set xrw xrc (l * 3 + 2) (some xs)) (hY : qx_set xrw xrc (r * 3 + 1) (some ys)) (post : Int32 → Prop) (h1 : qr_some (qr_pr xs ys) (qt_T t) → post 1) (h0 : ¬ qr_some (qr_pr xs ys) (qt_T t) → post 0) : wpX_someAcross post (xwc, xdc, xdm, xsc, xtc, xnc, xmc, xbr, xwt, xch, xtl, xwf, xdn, xdf, xdl, xss, xtk, xta, xtb, xnk, xna, xnb, xnl, xnr, xns, xfa, xfs, xfi, xrw, xrc, xcl, xhd, xre, xhi, xwo) (nI l) (nI r) := by
  obtain ⟨b1, b2, b3, b4⟩ := hX
  obtain ⟨c1, c2, c3, c4⟩ := hY
  have inner : ∀ (J : Int32 → Prop) (i : Nat) (hi : i < xs.length), ((∀ b, b ∈ ys → ¬ qr_has (xs[i] ++ b) (qt_T t)) → J (nI (i + 1))) → ∀ (N k : Nat), k ≤ ys.length → ys.length - k < N → (∀ j q, j < k → ys[j]? = some q → ¬ qr_has (xs[i] ++ q) (qt_T t)) → wX_someAcross_30 post J (nI (l * 3 + 2)) (nI (r * 3 + 1)) (nI i) xwc xdc xdm xsc xtc xnc xmc xbr xwt xch xtl xwf xdn xdf xdl xss xtk xta xtb xnk xna xnb xnl xnr xns xfa xfs xfi xrw xrc xcl xhd xre xhi xwo N (nI k) := by
    intro J i hi hJ N
    induction N with
    | zero => intro k g1 g2; omega
    | succ N ih =>
      intro k g1 g2 g3
      refine ⟨pk_in (r * 3 + 1) 120 (by omega), ?_⟩
      rw [nI_clamp (by omega), c3]
      refine pk_le ys.length k (fun hle => nm_r (nI_1 i) (hJ (fun b hb => ?_))) (fun hlt => ⟨pk_in ((l * 3 + 2) * 8 + i) 960 (by omega) (xr_ix _ i), pk_in ((r * 3 + 1) * 8 + k) 960 (by omega) (xr_ix _ k), ?_⟩)
      · obtain ⟨j, hj, e⟩ := List.getElem_of_mem hb
        exact g3 j b (by omega) (by rw [List.getElem?_eq_getElem hj, e])
      · have hgx := List.getElem?_eq_getElem hi
        have hgy := List.getElem?_eq_getElem hlt
        have mx := List.getElem_mem hi
        have my := List.getElem_mem hlt
        have lx := hx2 _ mx
        have ly := hy2 _ my
        have rx := b2 _ mx
        have ry := c2 _ my
        rw [xr_ixc (by omega), xr_ixc (by omega), b4 i _ hgx, c4 k _ hgy]
        refine xr_join rx ry _ _ rfl rfl (by omega) _ ?_
        have hrw : qr_rw (xs[i] ++ ys[k]) := ⟨by rw [List.length_append]; omega, fun z hz => (List.mem_append.mp hz).elim (rx.2 z) (ry.2 z)⟩
        refine xc_had t hhd _ hrw _ rfl _ (fun hh => br_f (by decide) (h1 ⟨_, qr_mem_pr.mpr ⟨_, mx, _, my, rfl⟩, hh⟩)) (fun hh => br_t rfl (nm_r (nI_1 k) (ih (k + 1) (by omega) (by omega) (fun j q hj hq => ?_))))
        by_cases z : j = k
        · subst z; rw [hgy] at hq; cases hq; exact hh
        · exact g3 j q (by omega) hq
  have outer : ∀ (N i : Nat), i ≤ xs.length → xs.length - i < N → (∀ j q, j < i → xs[j]? = some q → ∀ b, b ∈ ys → ¬ qr_has (q ++ b) (qt_T t)) → wX_someAcross_16 post (nI (l * 3 + 2)) (nI (r * 3 + 1)) xwc xdc xdm xsc xtc xnc xmc xbr xwt xch xtl xwf xdn xdf xdl xss xtk xta xtb xnk xna xnb xnl xnr xns xfa xfs xfi xrw xrc xcl xhd xre xhi xwo N (nI i) := by
    intro N
    induction N with
    | zero => intro i g1 g2; omega
    | succ N ih =>
      intro i g1 g2 g3
      refine ⟨pk_in (l * 3 + 2) 120 (by omega), ?_⟩
      rw [nI_clamp (by omega), b3]
      refine pk_le xs.length i (fun hle => h0 (fun ⟨q, hq, hh⟩ => ?_)) (fun hlt => ⟨ys.length + 1, ?_⟩)
      · obtain ⟨a, ha, b, hb, e⟩ := qr_mem_pr.mp hq
        obtain ⟨j, hj, e2⟩ := List.getElem_of_mem ha
        rw [e] at hh
        exact g3 j a (by omega) (by rw [List.getElem?_eq_getElem hj, e2]) b hb hh
      · refine inner _ i hlt (fun hn => ih (i + 1) (by omega) (by omega) (fun j q hj hq => ?_)) (ys.length + 1) 0 (by omega) (by omega) (fun j q hj => absurd hj (by omega))
        by_cases z : j = i
        · subst z; rw [List.getElem?_eq_getElem hlt] at hq; cases hq; exact hn
        · exact g3 j q (by omega) hq
  unfold wpX_someAcross
  refine nm_r (e' := nI (l * 3 + 2)) (by rw [xn_3, xn_32]) (nm_r (e' := nI (r * 3 + 1)) (by rw [xn_3, xn_31]) ⟨xs.length + 1, outer (xs.length + 1) 0 (by omega) (by omega) (fun j q hj => absurd hj (by omega))⟩)
theorem xc_of (t : List Nat) (hhd : qx_hd t t.length xhd) (n m : Nat) (D : Nat → qv_T) (hm : m ≤ 33) (hn : n < m) (hok : qn_ok qv_lf qv_un qv_bi xnk xna xnb xnl xnr m D) (hwf : ∀ j, j < m → qi_wf (D j).2.1) (hin : ∀ j, j < m → qx_in xrw xrc j (D j).2.1) (hcl : ∀ j, j < n → ((D j).2.1.2.2.2 (qt_T t) → xcl j = 1) ∧ (¬ (D j).2.1.2.2.2 (qt_T t) → xcl j = 0)) (post : Int32 → Prop) (h1 : (D n).2.1.2.2.2 (qt_T t) → post 1) (h0 : ¬ (D n).2.1.2.2.2 (qt_T t) → post 0) : wpX_claimOf post (xwc, xdc, xdm, xsc, xtc, xnc, xmc, xbr, xwt, xch, xtl, xwf, xdn, xdf, xdl, xss, xtk, xta, xtb, xnk, xna, xnb, xnl, xnr, xns, xfa, xfs, xfi, xrw, xrc, xcl, xhd, xre, xhi, xwo) (nI n) := by
  have hin40 : vp_in (nI n) 40 := pk_in n 40 (by omega)
  have cn : (nI n).toNatClampNeg = n := nI_clamp (by omega)
  obtain ⟨k, l, r, ek, el, er, hl, hr, hc⟩ := hok n hn
  obtain ⟨i1, i2, i3⟩ := hin n hn
  have hwn := hwf n hn
  unfold wpX_claimOf
  refine ⟨hin40, nm_r (e' := nI l) (by rw [cn]; exact el) ⟨hin40, nm_r (e' := nI r) (by rw [cn]; exact er) ⟨pk_in (n * 3) 120 (by omega) (xn_3 n), ?_⟩⟩⟩
  rw [xn_3, nI_clamp (by omega), i1.2.2.1]
  cases hw : (D n).2.1.1 with
  | some ws =>
    have ww := qi_wf_w hwn hw
    rw [hw] at i1
    have ek' := (hwn.1 ws hw).2
    refine br_f (by show ¬ nI ws.length ≤ 0; exact nI_nle (by omega) (by omega)) ?_
    have ecl : (D n).2.1.2.2.2 = qr_some ws := by rw [ek']; rfl
    rw [ecl] at h1 h0
    exact xc_some t hhd (n * 3) (by omega) ws i1 _ rfl _ (fun h => ⟨xc_n1, h1 h⟩) (fun h => ⟨xc_n0, h0 h⟩)
  | none =>
    refine br_t (by show nI 0 ≤ 0; decide) ⟨hin40, nm_r (e' := nI k) (by rw [cn]; exact ek) ?_⟩
    have cl1 : ∀ j : Nat, j < n → vp_in (nI j) 40 := fun j hj => pk_in j 40 (by omega)
    rcases hc with ⟨hk, a, ea, ha1, ha2, ev⟩ | ⟨hk, ev⟩ | ⟨hk, hl', ev⟩ | ⟨hk, hl', a, b, ea, eb, hab, hb3, hb1, ev⟩ | ⟨hk, hl', hr', ev⟩
    · refine br_t (nI_lt (b := 5) (by omega) (by decide)) (h1 ?_)
      rw [ev] at hw ⊢
      show (qi_lf 2 a).2.2.2 (qt_T t)
      have hw : (qi_lf 2 a).1 = none := hw
      unfold qi_lf at hw ⊢
      rw [if_pos rfl] at hw ⊢
      by_cases z : (qi_ls a).length ≤ 3
      · rw [if_pos z] at hw; exact nomatch hw
      · rw [if_neg z]; exact trivial
    · rw [ev] at hw
      have hw : (qi_lf k 0).1 = none := hw
      unfold qi_lf at hw
      rw [if_neg (by omega)] at hw
      exact nomatch hw
    · rcases hk with h | h
      · subst h
        refine br_f (by decide) (br_f (by decide) (br_f (by decide) (br_t rfl (h1 ?_))))
        rw [ev]
        exact trivial
      · subst h
        refine br_f (by decide) (br_f (by decide) (br_f (by decide) (br_f (by decide) (br_t rfl ⟨cl1 l hl', ?_⟩))))
        rw [nI_clamp (by omega)]
        have e : (D n).2.1.2.2.2 (qt_T t) ↔ (D l).2.1.2.2.2 (qt_T t) := by rw [ev]; exact Iff.rfl
        by_cases z : (D l).2.1.2.2.2 (qt_T t)
        · rw [(hcl l hl').1 z]; exact ⟨xc_n1, h1 (e.mpr z)⟩
        · rw [(hcl l hl').2 z]; exact ⟨xc_n0, h0 (fun h => z (e.mp h))⟩
    · subst hk
      refine br_f (by decide) (br_f (by decide) (br_f (by decide) (br_f (by decide) (br_f (by decide) (br_f (by decide) (br_t rfl ⟨hin40, ?_⟩))))))
      rw [cn, ea]
      have e : (D n).2.1 = qi_un 9 a (D l).2.1 := by rw [ev]; rfl
      refine pk_eq a 0 (fun e0 => h1 ?_) (fun e0 => ⟨cl1 l hl', ?_⟩)
      · rw [e]; unfold qi_un; rw [if_neg (by decide), if_pos rfl, if_pos e0]; exact trivial
      · have e2 : (D n).2.1.2.2.2 (qt_T t) ↔ (D l).2.1.2.2.2 (qt_T t) := by rw [e]; unfold qi_un; rw [if_neg (by decide), if_pos rfl, if_neg e0]; exact Iff.rfl
        rw [nI_clamp (by omega)]
        by_cases z : (D l).2.1.2.2.2 (qt_T t)
        · rw [(hcl l hl').1 z]; exact br_f (by decide) (h1 (e2.mpr z))
        · rw [(hcl l hl').2 z]; exact br_t rfl (h0 (fun h => z (e2.mp h)))
    · have alt : (k = 5 ∨ k = 8) → wX_claimOf_88 post (nI l) (nI r) xwc xdc xdm xsc xtc xnc xmc xbr xwt xch xtl xwf xdn xdf xdl xss xtk xta xtb xnk xna xnb xnl xnr xns xfa xfs xfi xrw xrc xcl xhd xre xhi xwo := by
        intro hk'
        have e : (D n).2.1 = qi_alt (D l).2.1 (D r).2.1 := by
          rw [ev]
          show qi_bi k _ _ = _
          unfold qi_bi
          rw [if_neg (by omega)]
        have e2 : (D n).2.1.2.2.2 (qt_T t) ↔ (D l).2.1.2.2.2 (qt_T t) ∨ (D r).2.1.2.2.2 (qt_T t) := by
          rw [e] at hw ⊢
          rw [qi_alt_unk hw]
          exact Iff.rfl
        refine ⟨cl1 l hl', ?_⟩
        rw [nI_clamp (by omega)]
        by_cases z : (D l).2.1.2.2.2 (qt_T t)
        · rw [(hcl l hl').1 z]; exact br_f (by decide) (h1 (e2.mpr (Or.inl z)))
        · rw [(hcl l hl').2 z]
          refine br_t rfl ⟨cl1 r hr', ?_⟩
          rw [nI_clamp (by omega)]
          by_cases y : (D r).2.1.2.2.2 (qt_T t)
          · rw [(hcl r hr').1 y]; exact br_f (by decide) (h1 (e2.mpr (Or.inr y)))
          · rw [(hcl r hr').2 y]; exact br_t rfl (h0 (fun h => (e2.mp h).elim z y))
      rcases hk with h | h | h
      · subst h; exact br_f (by decide) (br_f (by decide) (br_t rfl (alt (Or.inl rfl))))
      · subst h; exact br_f (by decide) (br_f (by decide) (br_f (by decide) (br_f (by decide) (br_f (by decide) (br_t rfl (alt (Or.inr rfl)))))))
      · subst h
        refine br_f (by decide) (br_f (by decide) (br_f (by decide) (br_f (by decide) (br_f (by decide) (br_f (by decide) (br_f (by decide) (br_f (by decide) (br_f (by decide) (br_f (by decide) (br_t rfl ⟨cl1 l hl', ?_⟩))))))))))
        have e : (D n).2.1 = qi_seq (D l).2.1 (D r).2.1 := by rw [ev]; rfl
        have e2 : (D n).2.1.2.2.2 (qt_T t) ↔ (D l).2.1.2.2.2 (qt_T t) ∧ (D r).2.1.2.2.2 (qt_T t) ∧ qr_some (qr_pr (D l).2.1.2.2.1 (D r).2.1.2.1) (qt_T t) := by
          rw [e] at hw ⊢
          rw [qi_seq_unk hw]
          exact Iff.rfl
        rw [nI_clamp (by omega)]
        by_cases z : (D l).2.1.2.2.2 (qt_T t)
        · rw [(hcl l hl').1 z]
          refine br_f (by decide) ⟨cl1 r hr', ?_⟩
          rw [nI_clamp (by omega)]
          by_cases y : (D r).2.1.2.2.2 (qt_T t)
          · rw [(hcl r hr').1 y]
            refine br_f (by decide) ?_
            exact xc_across t hhd l r (by omega) (by omega) (D l).2.1.2.2.1 (D r).2.1.2.1 (qi_wf_t (hwf l (by omega))).2.2.2 (qi_wf_h (hwf r (by omega))).2.2.2 (hin l (by omega)).2.2 (hin r (by omega)).2.1 _ (fun h => br_f (by decide) (h1 (e2.mpr ⟨z, y, h⟩))) (fun h => br_t rfl (h0 (fun w => h (e2.mp w).2.2)))
          · rw [(hcl r hr').2 y]; exact br_t rfl (h0 (fun w => y (e2.mp w).2.1))
        · rw [(hcl l hl').2 z]; exact br_t rfl (h0 (fun w => z (e2.mp w).1))
theorem xc_holds (f : Nat) (hf : f < 10) (t : List Nat) (ht : qf_t t) (hs : qx_slot xch xtl f (some t)) (m root : Nat) (D : Nat → qv_T) (hm : m ≤ 33) (hr : root < m) (hnc : xnc = nI m) (hok : qn_ok qv_lf qv_un qv_bi xnk xna xnb xnl xnr m D) (hwf : ∀ j, j < m → qi_wf (D j).2.1) (hin : ∀ j, j < m → qx_in xrw xrc j (D j).2.1) (post : Int32 → SX → Prop)
  (h1 : (D root).2.1.2.2.2 (qt_T t) → ∀ hd cl : Nat → Int32, post 1 (xwc, xdc, xdm, xsc, xtc, xnc, xmc, xbr, xwt, xch, xtl, xwf, xdn, xdf, xdl, xss, xtk, xta, xtb, xnk, xna, xnb, xnl, xnr, xns, xfa, xfs, xfi, xrw, xrc, cl, hd, xre, xhi, xwo)) (h0 : ¬ (D root).2.1.2.2.2 (qt_T t) → ∀ hd cl : Nat → Int32, post 0 (xwc, xdc, xdm, xsc, xtc, xnc, xmc, xbr, xwt, xch, xtl, xwf, xdn, xdf, xdl, xss, xtk, xta, xtb, xnk, xna, xnb, xnl, xnr, xns, xfa, xfs, xfi, xrw, xrc, cl, hd, xre, xhi, xwo)) : wpX_claimHolds post (xwc, xdc, xdm, xsc, xtc, xnc, xmc, xbr, xwt, xch, xtl, xwf, xdn, xdf, xdl, xss, xtk, xta, xtb, xnk, xna, xnb, xnl, xnr, xns, xfa, xfs, xfi, xrw, xrc, xcl, xhd, xre, xhi, xwo) (nI f) (nI root) := by
  subst hnc
  unfold wpX_claimHolds
  refine xm_mark f (by omega) t ht hs _ (fun hd hhd => ?_)
  have key : ∀ (N n : Nat) (cl : Nat → Int32), n ≤ m → m - n < N → (∀ j, j < n → ((D j).2.1.2.2.2 (qt_T t) → cl j = 1) ∧ (¬ (D j).2.1.2.2.2 (qt_T t) → cl j = 0)) → wX_claimHolds_8 post (nI root) xwc xdc xdm xsc xtc (nI m) xmc xbr xwt N (nI n) xch xtl xwf xdn xdf xdl xss xtk xta xtb xnk xna xnb xnl xnr xns xfa xfs xfi xrw xrc cl hd xre xhi xwo := by
    intro N
    induction N with
    | zero => intro n cl g1 g2; omega
    | succ N ih =>
      intro n cl g1 g2 g3
      refine pk_le m n (fun hle => ⟨pk_in root 40 (by omega), ?_⟩) (fun hlt => ?_)
      · rw [nI_clamp (by omega)]
        by_cases z : (D root).2.1.2.2.2 (qt_T t)
        · rw [(g3 root (by omega)).1 z]; exact ⟨xc_n1, h1 z hd cl⟩
        · rw [(g3 root (by omega)).2 z]; exact ⟨xc_n0, h0 z hd cl⟩
      · have fin : ∀ b : Int32, vp_nar .boolean b = b → ((D n).2.1.2.2.2 (qt_T t) → b = 1) → (¬ (D n).2.1.2.2.2 (qt_T t) → b = 0) → vp_in (nI n) 40 ∧ ∀ y, y = upd cl (nI n).toNatClampNeg (vp_nar .boolean b) → ∀ x, x = nI n + 1 → wX_claimHolds_8 post (nI root) xwc xdc xdm xsc xtc (nI m) xmc xbr xwt N x xch xtl xwf xdn xdf xdl xss xtk xta xtb xnk xna xnb xnl xnr xns xfa xfs xfi xrw xrc y hd xre xhi xwo := by
          intro b eb b1 b0
          refine ⟨pk_in n 40 (by omega), nm_e (nm_r (nI_1 n) ?_)⟩
          rw [nI_clamp (by omega), eb]
          refine ih (n + 1) _ (by omega) (by omega) (fun j hj => ?_)
          by_cases z : j = n
          · subst z; rw [pk_us]; exact ⟨b1, b0⟩
          · rw [pk_un z]; exact g3 j (by omega)
        exact xc_of (xhd := hd) (xcl := cl) t hhd n m D hm hlt hok hwf hin g3 _ (fun z => fin 1 xs_b1 (fun _ => rfl) (fun y => absurd z y)) (fun z => fin 0 xs_b0 (fun y => absurd y z) (fun _ => rfl))
  exact ⟨m + 1, key (m + 1) 0 xcl (by omega) (by omega) (fun j hj => absurd hj (by omega))⟩
end
end
section
/-! the reference: rows are counted, cut, joined, added, gathered, stored -/
def qk_w (m : Nat) (r : List Nat) : Prop := r.length ≤ m ∧ ∀ x, x ∈ r → x < 6
theorem qk_w_up {m m' : Nat} {r : List Nat} (h : qk_w m r) (hm : m ≤ m') : qk_w m' r := ⟨Nat.le_trans h.1 hm, h.2⟩
theorem qk_w_cut {m c : Nat} {r : List Nat} (h : qk_w m r) : qk_w m (qr_cut c r) := by
  unfold qr_cut
  split
  · exact h
  · split
    · refine ⟨?_, fun x hx => h.2 x (qr_hd_in hx)⟩
      have : (qr_hd r).length ≤ r.length := by unfold qr_hd; rw [List.length_take]; omega
      exact Nat.le_trans this h.1
    · refine ⟨?_, fun x hx => h.2 x (qr_tl_in hx)⟩
      have : (qr_tl r).length ≤ r.length := by unfold qr_tl; rw [List.length_drop]; omega
      exact Nat.le_trans this h.1
theorem qk_w_app {m m' : Nat} {a b : List Nat} (ha : qk_w m a) (hb : qk_w m' b) : qk_w (m + m') (a ++ b) := by
  refine ⟨by rw [List.length_append]; have := ha.1; have := hb.1; omega, fun x hx => ?_⟩
  rcases List.mem_append.mp hx with z | z
  · exact ha.2 x z
  · exact hb.2 x z
theorem qk_i {r : List Nat} (h : qk_w 10 r) : qc_y r < 120932352 := qc_y_lt 10 r h.2 h.1
theorem qk_ii {r s : List Nat} (hr : qk_w 10 r) (hs : qk_w 10 s) : nI (qc_y r) = nI (qc_y s) ↔ r = s := by
  have a := qk_i hr
  have b := qk_i hs
  rw [nI_eq (by omega) (by omega)]
  exact ⟨fun h => qc_y_inj hr.2 hs.2 h, fun h => by rw [h]⟩
theorem qk_pos (r : List Nat) : 1 ≤ qc_y r := by
  have : 0 < 6 ^ r.length := Nat.pow_pos (by omega)
  unfold qc_y
  omega
theorem qk_le1 {r : List Nat} (h : ∀ x, x ∈ r → x < 6) : qc_y r ≤ 1 ↔ r = [] := by
  constructor
  · intro z
    have := (qc_y_big r h 1)
    match r, this with
    | [], _ => rfl
    | x :: r, this =>
      have := this.mpr (by simp)
      omega
  · rintro rfl
    exact Nat.le_refl _
def qk_buf (rows : Nat → Int32) (rc : Int32) (l : List (List Nat)) : Prop := (∀ r, r ∈ l → qk_w 10 r) ∧ rc = nI l.length ∧ ∀ k r, l[k]? = some r → rows k = nI (qc_y r)
def qk_set (sets many : Nat → Int32) (s : Nat) (l : List (List Nat)) : Prop := l.length ≤ 8 ∧ (∀ r, r ∈ l → qk_w 5 r) ∧ many s = nI l.length ∧ ∀ k r, l[k]? = some r → sets (8 * s + k) = nI (qc_y r)
/-- the sets of K are kept -/
def qk_k (K : Nat → Prop) (st my st' my' : Nat → Int32) : Prop := ∀ s, K s → my' s = my s ∧ ∀ k, k < 8 → st' (8 * s + k) = st (8 * s + k)
theorem qk_k_rf (K : Nat → Prop) (st my : Nat → Int32) : qk_k K st my st my := fun _ _ => ⟨rfl, fun _ _ => rfl⟩
theorem qk_k_tr {K K1 K2 : Nat → Prop} {st my st' my' st'' my'' : Nat → Int32} (h1 : qk_k K1 st my st' my') (h2 : qk_k K2 st' my' st'' my'') (hK : ∀ s, K s → K1 s ∧ K2 s) : qk_k K st my st'' my'' :=
  fun s hs => ⟨(h2 s (hK s hs).2).1.trans (h1 s (hK s hs).1).1, fun k hk => ((h2 s (hK s hs).2).2 k hk).trans ((h1 s (hK s hs).1).2 k hk)⟩
theorem qk_set_k {K : Nat → Prop} {st my st' my' : Nat → Int32} (h : qk_k K st my st' my') {s : Nat} {l : List (List Nat)} (hs : K s) (hl : qk_set st my s l) : qk_set st' my' s l := by
  obtain ⟨a, b, c, d⟩ := hl
  obtain ⟨e1, e2⟩ := h s hs
  refine ⟨a, b, e1.trans c, fun k r hk => ?_⟩
  have := qr_get_lt hk
  rw [e2 k (by omega)]
  exact d k r hk
theorem yk_len1 (post : Int32 → Prop) : ∀ (N j : Nat) (r : List Nat), r.length < N → qk_w 10 r → post (nI (j + r.length)) → wY_lettersOf_4 post N (nI j) (nI (qc_y r)) := by
  intro N
  induction N with
  | zero => intro j r h1; omega
  | succ N ih =>
    intro j r h1 h2 h3
    have hi := qk_i h2
    refine pk_le (qc_y r) 1 (fun hle => ?_) (fun hlt => nm_r (nI_1 j) ⟨by decide, nm_r (e' := nI (qc_y r / 6)) (pk_div (d := 6) (by omega) (by omega) (by omega)) ?_⟩)
    · have := (qk_le1 h2.2).mp hle
      subst this
      exact h3
    · have hl : 1 ≤ r.length := by
        match r, hlt with
        | [], h => exact absurd h (by decide)
        | _ :: _, _ => simp
      have e := qc_y_take r h2.2 1 hl
      rw [Nat.pow_one] at e
      rw [e]
      have e3 : (r.take (r.length - 1)).length = r.length - 1 := by rw [List.length_take]; omega
      refine ih (j + 1) (r.take (r.length - 1)) (by omega) ⟨by have := h2.1; omega, fun x hx => h2.2 x (List.mem_of_mem_take hx)⟩ ?_
      rw [e3, show j + 1 + (r.length - 1) = j + r.length by omega]
      exact h3
theorem yk_len {r : List Nat} (h : qk_w 10 r) (post : Int32 → Prop) (hp : post (nI r.length)) : wpY_lettersOf post (nI (qc_y r)) :=
  ⟨r.length + 1, yk_len1 post _ 0 r (by omega) h (by rw [Nat.zero_add]; exact hp)⟩
theorem yk_row1 (a b : Int32) (n : Nat) (hn : n ≤ 10) (post : Int32 → Prop) (hp : post (a * nI (6 ^ n) + b - nI (6 ^ n))) : ∀ (N i : Nat), i ≤ n → n - i < N → wY_row_10 post a b (nI n) N (nI (6 ^ i)) (nI i) := by
  intro N
  induction N with
  | zero => intro i h1 h2; omega
  | succ N ih =>
    intro i h1 h2
    refine pk_le n i (fun hle => ?_) (fun hlt => nm_r (e' := nI (6 ^ (i + 1))) (by rw [Nat.pow_succ]; exact pk_mul _ 6) (nm_r (nI_1 i) (ih (i + 1) (by omega) (by omega))))
    have : i = n := by omega
    subst this
    exact hp
theorem yk_row {a b : List Nat} (ha : qk_w 5 a) (hb : qk_w 5 b) (post : Int32 → Prop) (hp : post (nI (qc_y (a ++ b)))) : wpY_row post (nI (qc_y a)) (nI (qc_y b)) := by
  unfold wpY_row
  refine yk_len (qk_w_up hb (by omega)) _ ⟨b.length + 1, ?_⟩
  refine yk_row1 _ _ b.length (by have := hb.1; omega) post ?_ (b.length + 1) 0 (by omega) (by omega)
  have e : nI (qc_y a) * nI (6 ^ b.length) + nI (qc_y b) - nI (6 ^ b.length) = nI (qc_y (a ++ b)) := by
    rw [pk_mul, nI_add, pk_sub (by have := (qc_y_rng b hb.2).1; omega), qc_y_app]
    congr 1
    unfold qc_y
    omega
  rw [e]
  exact hp
theorem yk_cut1 (post : Int32 → Prop) : ∀ (N : Nat) (r : List Nat), r.length < N → qk_w 10 r → post (nI (qc_y (qr_hd r))) → wY_cut_26 post 1 N (nI (qc_y r)) := by
  intro N
  induction N with
  | zero => intro r h1; omega
  | succ N ih =>
    intro r h1 h2 h3
    have hi := qk_i h2
    have hb := qc_y_big r h2.2 3
    rw [show (6 : Nat) ^ 3 = 216 by decide] at hb
    refine br_t rfl (pk_lt (qc_y r) 216 (fun hle => ?_) (fun hlt => ⟨by decide, nm_r (e' := nI (qc_y r / 6)) (pk_div (d := 6) (by omega) (by omega) (by omega)) ?_⟩))
    · have : r.length ≤ 2 := by
        rcases Nat.lt_or_ge r.length 3 with z | z
        · omega
        · have := hb.mpr z; omega
      rw [qc_hd_id this] at h3
      exact h3
    · have hl : 3 ≤ r.length := hb.mp hlt
      have e := qc_y_take r h2.2 1 (by omega)
      rw [Nat.pow_one] at e
      rw [e]
      have e3 : (r.take (r.length - 1)).length = r.length - 1 := by rw [List.length_take]; omega
      refine ih (r.take (r.length - 1)) (by omega) ⟨by have := h2.1; omega, fun x hx => h2.2 x (List.mem_of_mem_take hx)⟩ ?_
      have e4 : qr_hd (r.take (r.length - 1)) = qr_hd r := by
        unfold qr_hd
        rw [List.take_take, Nat.min_eq_left (by omega)]
      rw [e4]
      exact h3
theorem yk_cut {r : List Nat} (h : qk_w 10 r) (c : Nat) (hc : c ≤ 2) (post : Int32 → Prop) (hp : post (nI (qc_y (qr_cut c r)))) : wpY_cut post (nI (qc_y r)) (nI c) := by
  have hi := qk_i h
  have hb := qc_y_big r h.2 3
  rw [show (6 : Nat) ^ 3 = 216 by decide] at hb
  refine pk_eq c 2 (fun e2 => ?_) (fun e2 => ?_)
  · have e : qr_cut c r = qr_tl r := by unfold qr_cut; rw [if_neg (by omega), if_neg (by omega)]
    rw [e] at hp
    refine pk_le 216 (qc_y r) (fun hle => ⟨by decide, ?_⟩) (fun hlt => ?_)
    · have e3 : nI (qc_y r) - nI (qc_y r) / 36 * 36 = nI (qc_y r % 36) := pk_rem (by omega) (d := 36) (by omega) (by omega)
      rw [e3, show (36 : Int32) = nI 36 from rfl, nI_add, qc_y_tl r h.2 (by have := hb.mp hle; omega)]
      exact hp
    · have : r.length ≤ 2 := by
        rcases Nat.lt_or_ge r.length 3 with z | z
        · omega
        · have := hb.mpr z; omega
      rw [qc_tl_id this] at hp
      exact hp
  · rcases Nat.eq_zero_or_pos c with z | z
    · subst z
      refine ⟨1, br_f (by decide) ?_⟩
      have e : qr_cut 0 r = r := rfl
      rw [e] at hp
      exact hp
    · have e1 : c = 1 := by omega
      subst e1
      exact ⟨r.length + 1, yk_cut1 post _ r (by omega) h hp⟩
section
variable {ywa ydd ynd yns yma ynt yno yrc yfo ybl yod ywr : Int32} {yan yab yac yad yal yabl yacl yacf ynu yfi ypa ysz yli ytx yki yf1 yf2 yo yoa yob yit yss ymo yst ymy ycl yrw yow yhi yla : Nat → Int32} {yen : Nat → Int64}
theorem yk_add1 (l : List (List Nat)) (hb : qk_buf yrw yrc l) (hl : l.length < 64) (r : List Nat) (hr : qk_w 10 r) (post : SY → Prop) (hp : ∀ (rc' : Int32) (rw' : Nat → Int32), qk_buf rw' rc' (qr_add l r) → post (ywa, ydd, ynd, yns, yma, ynt, yno, rc', yfo, ybl, yod, ywr, yan, yab, yac, yad, yal, yabl, yacl, yacf, ynu, yfi, ypa, ysz, yli, ytx, yki, yf1, yf2, yo, yoa, yob, yit, yss, ymo, yst, ymy, ycl, rw', yow, yen, yhi, yla)) :
  ∀ (N i : Nat), i ≤ l.length → l.length - i < N → (∀ k, k < i → l[k]? ≠ some r) → wY_add_2 post (nI (qc_y r)) ywa ydd ynd yns yma ynt yno yrc yfo ybl yod ywr yan yab yac yad yal yabl yacl yacf ynu yfi ypa ysz yli ytx yki yf1 yf2 yo yoa yob yit yss ymo yst ymy ycl yrw yow yen yhi yla N (nI i) := by
  obtain ⟨b1, b2, b3⟩ := hb
  subst b2
  intro N
  induction N with
  | zero => intro i h1 h2; omega
  | succ N ih =>
    intro i h1 h2 h3
    refine pk_le l.length i (fun hle => ?_) (fun hlt => ⟨pk_in i 64 (by omega), ?_⟩)
    · have hn : r ∉ l := by
        intro z
        obtain ⟨k, hk⟩ := List.getElem?_of_mem z
        exact h3 k (by have := qr_get_lt hk; omega) hk
      refine nm_r (nI_1 l.length) ⟨pk_in l.length 64 hl, nm_e (hp _ _ ?_)⟩
      have e : qr_add l r = l ++ [r] := if_neg hn
      rw [e, nI_clamp (by omega)]
      refine ⟨fun s hs => ?_, by rw [List.length_append]; rfl, fun k s hk => ?_⟩
      · rcases List.mem_append.mp hs with z | z
        · exact b1 s z
        · rw [List.mem_singleton.mp z]; exact hr
      · by_cases z : k = l.length
        · subst z
          rw [List.getElem?_append_right (Nat.le_refl _), Nat.sub_self] at hk
          cases hk
          exact pk_us
        · have hk2 := qr_get_lt hk
          rw [List.length_append] at hk2
          have : k < l.length := by simp at hk2; omega
          rw [List.getElem?_append_left this] at hk
          exact (pk_un z).trans (b3 k s hk)
    · have hg := List.getElem?_eq_getElem hlt
      rw [nI_clamp (by omega), b3 i _ hg]
      refine ek_if (qk_ii (b1 _ (List.getElem_mem hlt)) hr) (fun e => ?_) (fun e => nm_r (nI_1 i) (ih (i + 1) (by omega) (by omega) (fun k hk => ?_)))
      · have := hp (nI l.length) yrw
        have e2 : qr_add l r = l := if_pos (e ▸ List.getElem_mem hlt)
        rw [e2] at this
        exact this ⟨b1, rfl, b3⟩
      · by_cases z : k = i
        · subst z
          rw [hg]
          exact fun w => e (Option.some.inj w)
        · exact h3 k (by omega)
theorem yk_add (l : List (List Nat)) (hb : qk_buf yrw yrc l) (hl : l.length < 64) (r : List Nat) (hr : qk_w 10 r) (x : Int32) (hx : x = nI (qc_y r)) (post : SY → Prop) (hp : ∀ (rc' : Int32) (rw' : Nat → Int32), qk_buf rw' rc' (qr_add l r) → post (ywa, ydd, ynd, yns, yma, ynt, yno, rc', yfo, ybl, yod, ywr, yan, yab, yac, yad, yal, yabl, yacl, yacf, ynu, yfi, ypa, ysz, yli, ytx, yki, yf1, yf2, yo, yoa, yob, yit, yss, ymo, yst, ymy, ycl, rw', yow, yen, yhi, yla)) : wpY_add post (ywa, ydd, ynd, yns, yma, ynt, yno, yrc, yfo, ybl, yod, ywr, yan, yab, yac, yad, yal, yabl, yacl, yacf, ynu, yfi, ypa, ysz, yli, ytx, yki, yf1, yf2, yo, yoa, yob, yit, yss, ymo, yst, ymy, ycl, yrw, yow, yen, yhi, yla) x := by
  subst hx
  exact ⟨l.length + 1, yk_add1 l hb hl r hr post hp (l.length + 1) 0 (by omega) (by omega) (fun k hk => absurd hk (by omega))⟩
theorem yk_ga1 (s c : Nat) (hs : s < 60) (hc : c ≤ 2) (w l : List (List Nat)) (hset : qk_set yst ymy s w) (hl : l.length + w.length ≤ 64) (post : SY → Prop) (hp : ∀ (rc' : Int32) (rw' : Nat → Int32), qk_buf rw' rc' (qr_all l (w.map (qr_cut c))) → post (ywa, ydd, ynd, yns, yma, ynt, yno, rc', yfo, ybl, yod, ywr, yan, yab, yac, yad, yal, yabl, yacl, yacf, ynu, yfi, ypa, ysz, yli, ytx, yki, yf1, yf2, yo, yoa, yob, yit, yss, ymo, yst, ymy, ycl, rw', yow, yen, yhi, yla)) :
  ∀ (N i : Nat) (rc' : Int32) (rw' : Nat → Int32), i ≤ w.length → w.length - i < N → qk_buf rw' rc' (qr_all l ((w.take i).map (qr_cut c))) → wY_gather_2 post (nI s) (nI c) N (nI i) ywa ydd ynd yns yma ynt yno rc' yfo ybl yod ywr yan yab yac yad yal yabl yacl yacf ynu yfi ypa ysz yli ytx yki yf1 yf2 yo yoa yob yit yss ymo yst ymy ycl rw' yow yen yhi yla := by
  obtain ⟨s1, s2, s3, s4⟩ := hset
  intro N
  induction N with
  | zero => intro i rc' rw' h1 h2; omega
  | succ N ih =>
    intro i rc' rw' h1 h2 h3
    refine ⟨pk_in s 60 hs, pk_le w.length i (fun hle => ?_) (fun hlt => ⟨pk_in (8 * s + i) 480 (by omega) (by rw [show (8 : Int32) = nI 8 from rfl, pk_mul, nI_add]), ?_⟩) (by rw [nI_clamp (by omega)]; exact s3) rfl⟩
    · rw [List.take_of_length_le hle] at h3
      exact hp rc' rw' h3
    · have hg := List.getElem?_eq_getElem hlt
      have hw := s2 _ (List.getElem_mem hlt)
      have ec : ((8 : Int32) * nI s + nI i).toNatClampNeg = 8 * s + i := pk_cl (8 * s + i) (by rw [show (8 : Int32) = nI 8 from rfl, pk_mul, nI_add])
      rw [ec, s4 i _ hg]
      refine yk_cut (qk_w_up hw (by omega)) c hc _ ?_
      have hlen : (qr_all l ((w.take i).map (qr_cut c))).length < 64 := by
        have := qr_len_all1 ((w.take i).map (qr_cut c)) l
        rw [List.length_map, List.length_take] at this
        omega
      refine yk_add _ h3 hlen _ (qk_w_cut (qk_w_up hw (by omega))) _ rfl _ (fun rc2 rw2 hb2 => nm_r (nI_1 i) (ih (i + 1) rc2 rw2 (by omega) (by omega) ?_))
      rw [List.take_succ_eq_append_getElem hlt, List.map_append, qr_all_app]
      exact hb2
theorem yk_gather (s c : Nat) (hs : s < 60) (hc : c ≤ 2) (w l : List (List Nat)) (hset : qk_set yst ymy s w) (hbuf : qk_buf yrw yrc l) (hl : l.length + w.length ≤ 64) (xs xc : Int32) (es : xs = nI s) (ec : xc = nI c) (post : SY → Prop) (hp : ∀ (rc' : Int32) (rw' : Nat → Int32), qk_buf rw' rc' (qr_all l (w.map (qr_cut c))) → post (ywa, ydd, ynd, yns, yma, ynt, yno, rc', yfo, ybl, yod, ywr, yan, yab, yac, yad, yal, yabl, yacl, yacf, ynu, yfi, ypa, ysz, yli, ytx, yki, yf1, yf2, yo, yoa, yob, yit, yss, ymo, yst, ymy, ycl, rw', yow, yen, yhi, yla)) : wpY_gather post (ywa, ydd, ynd, yns, yma, ynt, yno, yrc, yfo, ybl, yod, ywr, yan, yab, yac, yad, yal, yabl, yacl, yacf, ynu, yfi, ypa, ysz, yli, ytx, yki, yf1, yf2, yo, yoa, yob, yit, yss, ymo, yst, ymy, ycl, yrw, yow, yen, yhi, yla) xs xc := by
  subst es; subst ec
  exact ⟨w.length + 1, yk_ga1 s c hs hc w l hset hl post hp (w.length + 1) 0 yrc yrw (by omega) (by omega) hbuf⟩
theorem qk_buf0 (rw : Nat → Int32) : qk_buf rw 0 [] := ⟨(fun r hr => nomatch hr), rfl, (fun k r hk => nomatch hk)⟩
theorem yk_pr2 (s1 s2 c : Nat) (hs1 : s1 < 60) (hs2 : s2 < 60) (hc : c ≤ 2) (xs ys l : List (List Nat)) (h1 : qk_set yst ymy s1 xs) (h2 : qk_set yst ymy s2 ys) (i : Nat) (hi : i < xs.length) (hl : l.length + ys.length ≤ 64) (post : SY → Prop) (J : Int32 → Int32 → Int32 → Int32 → Int32 → Int32 → Int32 → Int32 → Int32 → Int32 → Int32 → Int32 → Int32 → (Nat → Int32) → (Nat → Int32) → (Nat → Int32) → (Nat → Int32) → (Nat → Int32) → (Nat → Int32) → (Nat → Int32) → (Nat → Int32) → (Nat → Int32) → (Nat → Int32) → (Nat → Int32) → (Nat → Int32) → (Nat → Int32) → (Nat → Int32) → (Nat → Int32) → (Nat → Int32) → (Nat → Int32) → (Nat → Int32) → (Nat → Int32) → (Nat → Int32) → (Nat → Int32) → (Nat → Int32) → (Nat → Int32) → (Nat → Int32) → (Nat → Int32) → (Nat → Int32) → (Nat → Int32) → (Nat → Int32) → (Nat → Int64) → (Nat → Int32) → (Nat → Int32) → Prop)
  (hp : ∀ (rc' : Int32) (rw' : Nat → Int32), qk_buf rw' rc' (qr_all l (ys.map (fun b => qr_cut c (xs[i] ++ b)))) → J (nI (i + 1)) ywa ydd ynd yns yma ynt yno rc' yfo ybl yod ywr yan yab yac yad yal yabl yacl yacf ynu yfi ypa ysz yli ytx yki yf1 yf2 yo yoa yob yit yss ymo yst ymy ycl rw' yow yen yhi yla) :
  ∀ (N j : Nat) (rc' : Int32) (rw' : Nat → Int32), j ≤ ys.length → ys.length - j < N → qk_buf rw' rc' (qr_all l ((ys.take j).map (fun b => qr_cut c (xs[i] ++ b)))) → wY_product_22 post J (nI s1) (nI s2) (nI c) (nI i) N (nI j) ywa ydd ynd yns yma ynt yno rc' yfo ybl yod ywr yan yab yac yad yal yabl yacl yacf ynu yfi ypa ysz yli ytx yki yf1 yf2 yo yoa yob yit yss ymo yst ymy ycl rw' yow yen yhi yla := by
  obtain ⟨a1, a2, a3, a4⟩ := h1
  obtain ⟨b1, b2, b3, b4⟩ := h2
  intro N
  induction N with
  | zero => intro j rc' rw' h1 h2; omega
  | succ N ih =>
    intro j rc' rw' g1 g2 g3
    have ei : ∀ a b : Nat, (8 : Int32) * nI a + nI b = nI (8 * a + b) := fun a b => by rw [show (8 : Int32) = nI 8 from rfl, pk_mul, nI_add]
    refine ⟨pk_in s2 60 hs2, pk_le ys.length j (fun hle => nm_r (nI_1 i) ?_) (fun hlt => ⟨pk_in (8 * s1 + i) 480 (by omega) (ei _ _), pk_in (8 * s2 + j) 480 (by omega) (ei _ _), ?_⟩) (by rw [nI_clamp (by omega)]; exact b3) rfl⟩
    · rw [List.take_of_length_le hle] at g3
      exact hp rc' rw' g3
    · rw [pk_cl (8 * s1 + i) (ei _ _), pk_cl (8 * s2 + j) (ei _ _), a4 i _ (List.getElem?_eq_getElem hi), b4 j _ (List.getElem?_eq_getElem hlt)]
      have ha := a2 _ (List.getElem_mem hi)
      have hb := b2 _ (List.getElem_mem hlt)
      have hw : qk_w 10 (xs[i] ++ ys[j]) := qk_w_app ha hb
      refine yk_row ha hb _ (yk_cut hw c hc _ ?_)
      have hlen : (qr_all l ((ys.take j).map (fun b => qr_cut c (xs[i] ++ b)))).length < 64 := by
        have := qr_len_all1 ((ys.take j).map (fun b => qr_cut c (xs[i] ++ b))) l
        rw [List.length_map, List.length_take] at this
        omega
      refine yk_add _ g3 hlen _ (qk_w_cut hw) _ rfl _ (fun rc2 rw2 hb2 => nm_r (nI_1 j) (ih (j + 1) rc2 rw2 (by omega) (by omega) ?_))
      rw [List.take_succ_eq_append_getElem hlt, List.map_append, qr_all_app]
      exact hb2
theorem qk_pr_s (c : Nat) (xs ys : List (List Nat)) (i : Nat) (hi : i < xs.length) : (qr_pr (xs.take (i + 1)) ys).map (qr_cut c) = (qr_pr (xs.take i) ys).map (qr_cut c) ++ ys.map (fun b => qr_cut c (xs[i] ++ b)) := by
  rw [qr_pr_s xs ys i hi, List.map_append, List.map_map]
  rfl
theorem yk_pr1 (s1 s2 c : Nat) (hs1 : s1 < 60) (hs2 : s2 < 60) (hc : c ≤ 2) (xs ys : List (List Nat)) (h1 : qk_set yst ymy s1 xs) (h2 : qk_set yst ymy s2 ys) (post : SY → Prop)
  (hp : ∀ (rc' : Int32) (rw' : Nat → Int32), qk_buf rw' rc' (qr_all [] ((qr_pr xs ys).map (qr_cut c))) → post (ywa, ydd, ynd, yns, yma, ynt, yno, rc', yfo, ybl, yod, ywr, yan, yab, yac, yad, yal, yabl, yacl, yacf, ynu, yfi, ypa, ysz, yli, ytx, yki, yf1, yf2, yo, yoa, yob, yit, yss, ymo, yst, ymy, ycl, rw', yow, yen, yhi, yla)) :
  ∀ (N i : Nat) (rc' : Int32) (rw' : Nat → Int32), i ≤ xs.length → xs.length - i < N → qk_buf rw' rc' (qr_all [] ((qr_pr (xs.take i) ys).map (qr_cut c))) → wY_product_8 post (nI s1) (nI s2) (nI c) N (nI i) ywa ydd ynd yns yma ynt yno rc' yfo ybl yod ywr yan yab yac yad yal yabl yacl yacf ynu yfi ypa ysz yli ytx yki yf1 yf2 yo yoa yob yit yss ymo yst ymy ycl rw' yow yen yhi yla := by
  intro N
  induction N with
  | zero => intro i rc' rw' h1 h2; omega
  | succ N ih =>
    intro i rc' rw' g1 g2 g3
    refine ⟨pk_in s1 60 hs1, pk_le xs.length i (fun hle => ?_) (fun hlt => ⟨ys.length + 1, ?_⟩) (by rw [nI_clamp (by omega)]; exact h1.2.2.1) rfl (by have := h1.1; omega) (by have := h1.1; omega)⟩
    · rw [List.take_of_length_le hle] at g3
      exact hp rc' rw' g3
    · have hlen : (qr_all [] ((qr_pr (xs.take i) ys).map (qr_cut c))).length + ys.length ≤ 64 := by
        have := qr_len_all1 ((qr_pr (xs.take i) ys).map (qr_cut c)) []
        rw [List.length_map, qr_pr_len, List.length_take, Nat.min_eq_left (by omega), List.length_nil, Nat.zero_add] at this
        have h8 : (i + 1) * ys.length ≤ 8 * 8 := Nat.mul_le_mul (by have := h1.1; omega) h2.1
        rw [Nat.succ_mul] at h8
        omega
      refine yk_pr2 s1 s2 c hs1 hs2 hc xs ys _ h1 h2 i hlt hlen post _ (fun rc2 rw2 hb2 => ih (i + 1) rc2 rw2 (by omega) (by omega) ?_) (ys.length + 1) 0 rc' rw' (by omega) (by omega) g3
      rw [qk_pr_s c xs ys i hlt, qr_all_app]
      exact hb2
theorem yk_product (s1 s2 c : Nat) (hs1 : s1 < 60) (hs2 : s2 < 60) (hc : c ≤ 2) (xs ys : List (List Nat)) (h1 : qk_set yst ymy s1 xs) (h2 : qk_set yst ymy s2 ys) (x1 x2 xc : Int32) (e1 : x1 = nI s1) (e2 : x2 = nI s2) (ec : xc = nI c) (post : SY → Prop)
  (hp : ∀ (rc' : Int32) (rw' : Nat → Int32), qk_buf rw' rc' (qr_all [] ((qr_pr xs ys).map (qr_cut c))) → post (ywa, ydd, ynd, yns, yma, ynt, yno, rc', yfo, ybl, yod, ywr, yan, yab, yac, yad, yal, yabl, yacl, yacf, ynu, yfi, ypa, ysz, yli, ytx, yki, yf1, yf2, yo, yoa, yob, yit, yss, ymo, yst, ymy, ycl, rw', yow, yen, yhi, yla)) : wpY_product post (ywa, ydd, ynd, yns, yma, ynt, yno, yrc, yfo, ybl, yod, ywr, yan, yab, yac, yad, yal, yabl, yacl, yacf, ynu, yfi, ypa, ysz, yli, ytx, yki, yf1, yf2, yo, yoa, yob, yit, yss, ymo, yst, ymy, ycl, yrw, yow, yen, yhi, yla) x1 x2 xc := by
  subst e1; subst e2; subst ec
  exact ⟨xs.length + 1, yk_pr1 s1 s2 c hs1 hs2 hc xs ys h1 h2 post hp (xs.length + 1) 0 0 yrw (by omega) (by omega) (qk_buf0 yrw)⟩
theorem yk_st1 (s : Nat) (hs : s < 60) (l : List (List Nat)) (hb : qk_buf yrw yrc l) (hl : l.length ≤ 8) (st0 : Nat → Int32) (post : SY → Prop) (hp : ∀ st' : Nat → Int32, (∀ k r, l[k]? = some r → st' (8 * s + k) = nI (qc_y r)) → (∀ s', s' ≠ s → ∀ k, k < 8 → st' (8 * s' + k) = st0 (8 * s' + k)) → post (ywa, ydd, ynd, yns, yma, ynt, yno, 0, yfo, ybl, yod, ywr, yan, yab, yac, yad, yal, yabl, yacl, yacf, ynu, yfi, ypa, ysz, yli, ytx, yki, yf1, yf2, yo, yoa, yob, yit, yss, ymo, st', ymy, ycl, yrw, yow, yen, yhi, yla)) :
  ∀ (N i : Nat) (st' : Nat → Int32), i ≤ l.length → l.length - i < N → (∀ k r, k < i → l[k]? = some r → st' (8 * s + k) = nI (qc_y r)) → (∀ s', s' ≠ s → ∀ k, k < 8 → st' (8 * s' + k) = st0 (8 * s' + k)) → wY_store_33 post (nI s) ywa ydd ynd yns yma ynt yno yrc yfo ybl yod ywr N (nI i) yan yab yac yad yal yabl yacl yacf ynu yfi ypa ysz yli ytx yki yf1 yf2 yo yoa yob yit yss ymo st' ymy ycl yrw yow yen yhi yla := by
  obtain ⟨b1, b2, b3⟩ := hb
  subst b2
  intro N
  induction N with
  | zero => intro i st' h1 h2; omega
  | succ N ih =>
    intro i st' h1 h2 h3 h4
    have ei : (8 : Int32) * nI s + nI i = nI (8 * s + i) := by rw [show (8 : Int32) = nI 8 from rfl, pk_mul, nI_add]
    refine pk_le l.length i (fun hle => hp st' (fun k r hk => h3 k r (by have := qr_get_lt hk; omega) hk) h4) (fun hlt => ⟨pk_in i 64 (by omega), pk_in (8 * s + i) 480 (by omega) ei, nm_e (nm_r (nI_1 i) ?_)⟩)
    rw [pk_cl (8 * s + i) ei, nI_clamp (by omega)]
    refine ih (i + 1) _ (by omega) (by omega) (fun k r hk hr => ?_) (fun s' hs' k hk => (pk_un (by omega)).trans (h4 s' hs' k hk))
    by_cases z : k = i
    · subst z
      exact pk_us.trans (b3 k r hr)
    · exact (pk_un (by omega)).trans (h3 k r (by omega) hr)
theorem yk_st2 (s : Nat) (hs : s < 60) (l : List (List Nat)) (hb : qk_buf yrw yrc l) (hl : l.length ≤ 8) (h5 : ∀ r, r ∈ l → qk_w 5 r) (post : SY → Prop) (hp : ∀ st' my' : Nat → Int32, qk_set st' my' s l → qk_k (fun s' => s' ≠ s) yst ymy st' my' → post (ywa, ydd, ynd, yns, yma, ynt, yno, 0, yfo, ybl, yod, ywr, yan, yab, yac, yad, yal, yabl, yacl, yacf, ynu, yfi, ypa, ysz, yli, ytx, yki, yf1, yf2, yo, yoa, yob, yit, yss, ymo, st', my', ycl, yrw, yow, yen, yhi, yla)) : wY_store_21 post (nI s) ywa ydd ynd yns yma ynt yno yrc yfo ybl yod ywr yan yab yac yad yal yabl yacl yacf ynu yfi ypa ysz yli ytx yki yf1 yf2 yo yoa yob yit yss ymo yst ymy ycl yrw yow yen yhi yla := by
  have b2 := hb.2.1
  refine ⟨pk_in s 60 hs, nm_e ⟨l.length + 1, ?_⟩⟩
  rw [nI_clamp (by omega)]
  refine yk_st1 s hs l hb hl yst post (fun st' g1 g2 => hp _ _ ⟨hl, h5, pk_us.trans b2, g1⟩ (fun s' hs' => ⟨pk_un hs', g2 s' hs'⟩)) (l.length + 1) 0 yst (by omega) (by omega) (fun k r hk => absurd hk (by omega)) (fun _ _ _ _ => rfl)
theorem yk_store (s : Nat) (hs : s < 60) (l : List (List Nat)) (hb : qk_buf yrw yrc l) (hl : l.length ≤ 64) (h5 : l.length ≤ 8 → ∀ r, r ∈ l → qk_w 5 r) (xs : Int32) (es : xs = nI s) (post : SY → Prop) (hp : ∀ rw' st' my' : Nat → Int32, qk_set st' my' s (qr_lim l) → qk_k (fun s' => s' ≠ s) yst ymy st' my' → post (ywa, ydd, ynd, yns, yma, ynt, yno, 0, yfo, ybl, yod, ywr, yan, yab, yac, yad, yal, yabl, yacl, yacf, ynu, yfi, ypa, ysz, yli, ytx, yki, yf1, yf2, yo, yoa, yob, yit, yss, ymo, st', my', ycl, rw', yow, yen, yhi, yla)) : wpY_store post (ywa, ydd, ynd, yns, yma, ynt, yno, yrc, yfo, ybl, yod, ywr, yan, yab, yac, yad, yal, yabl, yacl, yacf, ynu, yfi, ypa, ysz, yli, ytx, yki, yf1, yf2, yo, yoa, yob, yit, yss, ymo, yst, ymy, ycl, yrw, yow, yen, yhi, yla) xs := by
  subst es
  have b2 := hb.2.1
  subst b2
  refine pk_le l.length 8 (fun hle => ?_) (fun hlt => nm_e ?_)
  · have e : qr_lim l = l := if_pos hle
    rw [e] at hp
    exact yk_st2 s hs l hb hle (h5 hle) post (fun st' my' h1 h2 => hp yrw st' my' h1 h2)
  · have e : qr_lim l = [[]] := if_neg (by omega)
    rw [e] at hp
    refine yk_st2 s hs [[]] ⟨?_, rfl, ?_⟩ (by simp) ?_ post (fun st' my' h1 h2 => hp _ st' my' h1 h2)
    · intro r hr
      rw [List.mem_singleton.mp hr]
      exact ⟨by simp, (fun x hx => nomatch hx)⟩
    · intro k r hk
      match k, hk with
      | 0, hk => cases hk; exact pk_us
    · intro r hr
      rw [List.mem_singleton.mp hr]
      exact ⟨by simp, (fun x hx => nomatch hx)⟩
end
end
section
/-! the reference: the claim of each part -/
theorem qk_w_all {m : Nat} {l : List (List Nat)} (h : ∀ r, r ∈ l → qk_w m r) : ∀ r, r ∈ qr_all [] l → qk_w m r := fun r hr => h r ((qr_mem_all.mp hr).elim (fun z => absurd z (by simp)) id)
theorem qk_cut0 (l : List (List Nat)) : l.map (qr_cut 0) = l := List.map_id'' (fun _ => rfl) l
theorem qk_cut1 (l : List (List Nat)) : l.map (qr_cut 1) = l.map qr_hd := rfl
theorem qk_cut2 (l : List (List Nat)) : l.map (qr_cut 2) = l.map qr_tl := rfl
theorem qk_cutw {m c : Nat} {l : List (List Nat)} (h : ∀ r, r ∈ l → qk_w m r) : ∀ r, r ∈ l.map (qr_cut c) → qk_w m r := by
  intro r hr
  obtain ⟨s, hs, rfl⟩ := List.mem_map.mp hr
  exact qk_w_cut (h s hs)
def qk_tr (ow : Nat → Int32) (q : List Nat) (f : Nat) : Prop := ∀ i, i + 2 < q.length → bt (ow ((q.getD i 0 * 6 + q.getD (i + 1) 0) * 6 + q.getD (i + 2) 0)) f = true
theorem qk_gt (q : List Nat) (m i : Nat) (h : i < m) : (q.take m).getD i 0 = q.getD i 0 := by
  rw [List.getD_eq_getElem?_getD, List.getD_eq_getElem?_getD, List.getElem?_take, if_pos h]
theorem qk_tr_s (ow : Nat → Int32) (q : List Nat) (f : Nat) (h : 3 ≤ q.length) : qk_tr ow q f ↔ bt (ow ((q.getD (q.length - 3) 0 * 6 + q.getD (q.length - 3 + 1) 0) * 6 + q.getD (q.length - 3 + 2) 0)) f = true ∧ qk_tr ow (q.take (q.length - 1)) f := by
  have el : (q.take (q.length - 1)).length = q.length - 1 := by rw [List.length_take]; omega
  constructor
  · intro hh
    refine ⟨hh (q.length - 3) (by omega), fun i hi => ?_⟩
    rw [el] at hi
    rw [qk_gt q _ i (by omega), qk_gt q _ (i + 1) (by omega), qk_gt q _ (i + 2) (by omega)]
    exact hh i (by omega)
  · rintro ⟨h1, h2⟩ i hi
    by_cases z : i = q.length - 3
    · subst z; exact h1
    · have := h2 i (by rw [el]; omega)
      rw [qk_gt q _ i (by omega), qk_gt q _ (i + 1) (by omega), qk_gt q _ (i + 2) (by omega)] at this
      exact this
theorem qk_has {now : Nat → qf_X} {ow : Nat → Int32} (how : qy_own now ow) {f : Nat} (hf : f < 10) {t : List Nat} (ht : now f = some t) {r : List Nat} (hr : ∀ x, x ∈ r → x < 6) : qk_tr ow r f ↔ qr_has r (qt_T t) := by
  have key : ∀ i, i + 2 < r.length → (bt (ow ((r.getD i 0 * 6 + r.getD (i + 1) 0) * 6 + r.getD (i + 2) 0)) f = true ↔ qt_T t (r.getD i 0) (r.getD (i + 1) 0) (r.getD (i + 2) 0)) := by
    intro i hi
    have a := qc_get_in hr i (by omega)
    have b := qc_get_in hr (i + 1) (by omega)
    have c := qc_get_in hr (i + 2) (by omega)
    rw [how _ (by omega) f hf, qt_g_T a b c]
    have e : (r.getD i 0 * 6 + r.getD (i + 1) 0) * 6 + r.getD (i + 2) 0 = 36 * r.getD i 0 + 6 * r.getD (i + 1) 0 + r.getD (i + 2) 0 := by omega
    rw [e]
    constructor
    · rintro ⟨t', h1, h2⟩
      rw [ht] at h1
      cases h1
      obtain ⟨j, _, hj⟩ := qt_any_iff.mp h2
      exact ⟨j, hj⟩
    · rintro ⟨j, hj⟩
      exact ⟨t, ht, qt_any_iff.mpr ⟨j, by have := (qt_g_lt hj).2; omega, hj⟩⟩
  exact ⟨fun h i hi => (key i hi).mp (h i hi), fun h i hi => (key i hi).mpr (h i hi)⟩
theorem qk_1023 : ∀ f, f < 10 → bt 1023 f = true := by decide +kernel
def qk_cl (now : Nat → qf_X) (x : Int32) (C : (Nat → Nat → Nat → Prop) → Prop) : Prop := ∀ f t, f < 10 → now f = some t → (bt x f = true ↔ C (qt_T t))
section
variable {ywa ydd ynd yns yma ynt yno yrc yfo ybl yod ywr : Int32} {yan yab yac yad yal yabl yacl yacf ynu yfi ypa ysz yli ytx yki yf1 yf2 yo yoa yob yit yss ymo yst ymy ycl yrw yow yhi yla : Nat → Int32} {yen : Nat → Int64}
theorem yk_so2 (post : Int32 → SY → Prop) (J : Int32 → Int32 → Prop) (x1 x2 : Int32) : ∀ (N : Nat) (x3 : Int32) (r : List Nat), r.length < N → qk_w 10 r → (∀ x3' : Int32, (∀ f, f < 10 → (bt x3' f = true ↔ bt x3 f = true ∧ qk_tr yow r f)) → J (x1 ||| x3') (x2 + 1)) → wY_some_24 post J x1 x2 ywa ydd ynd yns yma ynt yno yrc yfo ybl yod ywr yan yab yac yad yal yabl yacl yacf ynu yfi ypa ysz yli ytx yki yf1 yf2 yo yoa yob yit yss ymo yst ymy ycl yrw yow yen yhi yla N x3 (nI (qc_y r)) := by
  intro N
  induction N with
  | zero => intro x3 r h1; omega
  | succ N ih =>
    intro x3 r h1 h2 h3
    have hi := qk_i h2
    have hb := qc_y_big r h2.2 3
    rw [show (6 : Nat) ^ 3 = 216 by decide] at hb
    refine pk_lt (qc_y r) 216 (fun hle => nm_e (nm_e (h3 x3 (fun f hf => ?_)))) (fun hlt => ?_)
    · have hs : r.length ≤ 2 := by
        rcases Nat.lt_or_ge r.length 3 with z | z
        · omega
        · have := hb.mpr z; omega
      exact ⟨fun h => ⟨h, fun i hi => absurd hi (by omega)⟩, fun h => h.1⟩
    · have hl : 3 ≤ r.length := hb.mp hlt
      have em : nI (qc_y r) - nI (qc_y r) / 216 * 216 = nI (qc_y r % 216) := pk_rem (by omega) (d := 216) (by omega) (by omega)
      have hm : qc_y r % 216 < 216 := Nat.mod_lt _ (by omega)
      refine ⟨by decide, pk_in (qc_y r % 216) 216 hm em, nm_e ⟨by decide, nm_r (e' := nI (qc_y r / 6)) (pk_div (d := 6) (by omega) (by omega) (by omega)) ?_⟩⟩
      rw [pk_cl _ em]
      have e := qc_y_take r h2.2 1 (by omega)
      rw [Nat.pow_one] at e
      rw [e]
      have e3 : (r.take (r.length - 1)).length = r.length - 1 := by rw [List.length_take]; omega
      refine ih _ (r.take (r.length - 1)) (by omega) ⟨by have := h2.1; omega, fun x hx => h2.2 x (List.mem_of_mem_take hx)⟩ (fun x3' h4 => h3 x3' (fun f hf => ?_))
      have et := qc_y_tri r h2.2 (r.length - 3) (by omega)
      rw [show r.length - 3 - (r.length - 3) = 0 by omega, Nat.pow_zero, Nat.div_one] at et
      rw [h4 f hf, b_and, Bool.and_eq_true, qk_tr_s yow r f hl, et, and_assoc]
theorem yk_so1 (l : List (List Nat)) (hb : qk_buf yrw yrc l) (hl : l.length ≤ 64) (post : Int32 → SY → Prop) (hp : ∀ x : Int32, (∀ f, f < 10 → (bt x f = true ↔ ∃ r, r ∈ l ∧ qk_tr yow r f)) → post x (ywa, ydd, ynd, yns, yma, ynt, yno, 0, yfo, ybl, yod, ywr, yan, yab, yac, yad, yal, yabl, yacl, yacf, ynu, yfi, ypa, ysz, yli, ytx, yki, yf1, yf2, yo, yoa, yob, yit, yss, ymo, yst, ymy, ycl, yrw, yow, yen, yhi, yla)) : ∀ (N i : Nat) (x : Int32), i ≤ l.length → l.length - i < N → (∀ f, f < 10 → (bt x f = true ↔ ∃ r, r ∈ l.take i ∧ qk_tr yow r f)) → wY_some_4 post ywa ydd ynd yns yma ynt yno yrc yfo ybl yod ywr yan yab yac yad yal yabl yacl yacf ynu yfi ypa ysz yli ytx yki yf1 yf2 yo yoa yob yit yss ymo yst ymy ycl yrw yow yen yhi yla N x (nI i) := by
  obtain ⟨b1, b2, b3⟩ := hb
  subst b2
  intro N
  induction N with
  | zero => intro i x h1 h2; omega
  | succ N ih =>
    intro i x h1 h2 h3
    refine pk_le l.length i (fun hle => hp x (fun f hf => ?_)) (fun hlt => ⟨pk_in i 64 (by omega), ?_⟩)
    · have := h3 f hf
      rw [List.take_of_length_le hle] at this
      exact this
    · have hg := List.getElem?_eq_getElem hlt
      have hw := b1 _ (List.getElem_mem hlt)
      refine nm_r (e' := nI (qc_y l[i])) (by rw [nI_clamp (by omega)]; exact b3 i _ hg) ⟨l[i].length + 1, ?_⟩
      refine yk_so2 post _ x (nI i) _ 1023 l[i] (by omega) hw (fun x3 h4 => ?_)
      rw [nI_1 i]
      refine ih (i + 1) _ (by omega) (by omega) (fun f hf => ?_)
      rw [b_or, Bool.or_eq_true, h3 f hf, h4 f hf, List.take_succ_eq_append_getElem hlt]
      constructor
      · rintro (⟨r, h5, h6⟩ | ⟨_, h6⟩)
        · exact ⟨r, List.mem_append.mpr (Or.inl h5), h6⟩
        · exact ⟨l[i], List.mem_append.mpr (Or.inr (List.mem_singleton.mpr rfl)), h6⟩
      · rintro ⟨r, h5, h6⟩
        rcases List.mem_append.mp h5 with z | z
        · exact Or.inl ⟨r, z, h6⟩
        · rw [List.mem_singleton.mp z] at h6
          exact Or.inr ⟨qk_1023 f hf, h6⟩
theorem yk_some {now : Nat → qf_X} (how : qy_own now yow) (l : List (List Nat)) (hb : qk_buf yrw yrc l) (hl : l.length ≤ 64) (post : Int32 → SY → Prop) (hp : ∀ x : Int32, qk_cl now x (qr_some l) → post x (ywa, ydd, ynd, yns, yma, ynt, yno, 0, yfo, ybl, yod, ywr, yan, yab, yac, yad, yal, yabl, yacl, yacf, ynu, yfi, ypa, ysz, yli, ytx, yki, yf1, yf2, yo, yoa, yob, yit, yss, ymo, yst, ymy, ycl, yrw, yow, yen, yhi, yla)) : wpY_some post (ywa, ydd, ynd, yns, yma, ynt, yno, yrc, yfo, ybl, yod, ywr, yan, yab, yac, yad, yal, yabl, yacl, yacf, ynu, yfi, ypa, ysz, yli, ytx, yki, yf1, yf2, yo, yoa, yob, yit, yss, ymo, yst, ymy, ycl, yrw, yow, yen, yhi, yla) := by
  refine ⟨l.length + 1, yk_so1 l hb hl post (fun x hx => hp x (fun f t hf ht => ?_)) (l.length + 1) 0 0 (by omega) (by omega) (fun f hf => ?_)⟩
  · rw [hx f hf]
    constructor
    · rintro ⟨r, h1, h2⟩
      exact ⟨r, h1, (qk_has how hf ht (hb.1 r h1).2).mp h2⟩
    · rintro ⟨r, h1, h2⟩
      exact ⟨r, h1, (qk_has how hf ht (hb.1 r h1).2).mpr h2⟩
  · rw [b_0]
    exact ⟨fun h => (nomatch h), fun ⟨r, h, _⟩ => (nomatch h)⟩
end
def qk_lo (now : Nat → qf_X) (st my cl : Nat → Int32) (p : Nat) (v : qi_T) : Prop := qk_set st my (3 * p + 1) v.2.1 ∧ qk_set st my (3 * p + 2) v.2.2.1 ∧ qk_cl now (cl p) v.2.2.2
def qk_sl (now : Nat → qf_X) (st my cl : Nat → Int32) (p : Nat) (v : qi_T) : Prop := (∀ ws, v.1 = some ws → qk_set st my (3 * p) ws) ∧ (v.1 = none → my (3 * p) = -1 ∧ qk_lo now st my cl p v)
def qk_kp (p : Nat) (st my cl st' my' cl' : Nat → Int32) : Prop := qk_k (fun s => s < 3 * p) st my st' my' ∧ ∀ q, q < p → cl' q = cl q
theorem qk_kp_rf (p : Nat) (st my cl : Nat → Int32) : qk_kp p st my cl st my cl := ⟨qk_k_rf _ _ _, fun _ _ => rfl⟩
theorem qk_sl_kp {now : Nat → qf_X} {p q : Nat} {st my cl st' my' cl' : Nat → Int32} {v : qi_T} (h : qk_kp p st my cl st' my' cl') (hq : q < p) (hv : qk_sl now st my cl q v) : qk_sl now st' my' cl' q v := by
  refine ⟨fun ws e => qk_set_k h.1 (by show 3 * q < 3 * p; omega) (hv.1 ws e), fun e => ?_⟩
  obtain ⟨a, b, c, d⟩ := hv.2 e
  refine ⟨(h.1 (3 * q) (by show 3 * q < 3 * p; omega)).1.trans a, qk_set_k h.1 (by show 3 * q + 1 < 3 * p; omega) b, qk_set_k h.1 (by show 3 * q + 2 < 3 * p; omega) c, ?_⟩
  rw [h.2 q hq]
  exact d
theorem qk_ne (l : List (List Nat)) (h : l.length ≤ 8) : ¬ nI l.length < 0 := nI_nlt (a := l.length) (b := 0) (Nat.zero_le _) (by omega)
section
variable {ywa ydd ynd yns yma ynt yno yrc yfo ybl yod ywr : Int32} {yan yab yac yad yal yabl yacl yacf ynu yfi ypa ysz yli ytx yki yf1 yf2 yo yoa yob yit yss ymo yst ymy ycl yrw yow yhi yla : Nat → Int32} {yen : Nat → Int64} {now : Nat → qf_X}
theorem yk_isk (p : Nat) (hp : p < 20) (v : qi_T) (hs : qk_sl now yst ymy ycl p v) (x : Int32) (ex : x = nI p) (post : Int32 → Prop) (h0 : v.1 = none → post 0) (h1 : ∀ ws, v.1 = some ws → post 1) : wpY_isKnown post (ywa, ydd, ynd, yns, yma, ynt, yno, yrc, yfo, ybl, yod, ywr, yan, yab, yac, yad, yal, yabl, yacl, yacf, ynu, yfi, ypa, ysz, yli, ytx, yki, yf1, yf2, yo, yoa, yob, yit, yss, ymo, yst, ymy, ycl, yrw, yow, yen, yhi, yla) x := by
  subst ex
  have e : (3 : Int32) * nI p = nI (3 * p) := by rw [show (3 : Int32) = nI 3 from rfl, pk_mul]
  unfold wpY_isKnown
  refine And.intro (pk_in (3 * p) 60 (by omega) e) ?_
  rw [pk_cl (3 * p) e]
  match hv : v.1 with
  | none =>
    rw [((hs.2 hv).1)]
    exact br_t (by decide) (h0 hv)
  | some ws =>
    have hk := hs.1 ws hv
    rw [hk.2.2.1]
    exact br_f (qk_ne ws hk.1) (h1 ws hv)
/-- a set of words is loosened -/
theorem yk_loosen (how : qy_own now yow) (p : Nat) (hp20 : p < 20) (v : qi_T) (hwf : qi_wf v) (hs : qk_sl now yst ymy ycl p v) (x : Int32) (ex : x = nI p) (post : SY → Prop)
  (hp : ∀ (rc' : Int32) (rw' st' my' cl' : Nat → Int32), qk_lo now st' my' cl' p v → qk_k (fun s => s ≠ 3 * p + 1 ∧ s ≠ 3 * p + 2) yst ymy st' my' → (∀ q, q ≠ p → cl' q = ycl q) → post (ywa, ydd, ynd, yns, yma, ynt, yno, rc', yfo, ybl, yod, ywr, yan, yab, yac, yad, yal, yabl, yacl, yacf, ynu, yfi, ypa, ysz, yli, ytx, yki, yf1, yf2, yo, yoa, yob, yit, yss, ymo, st', my', cl', rw', yow, yen, yhi, yla)) : wpY_loosen post (ywa, ydd, ynd, yns, yma, ynt, yno, yrc, yfo, ybl, yod, ywr, yan, yab, yac, yad, yal, yabl, yacl, yacf, ynu, yfi, ypa, ysz, yli, ytx, yki, yf1, yf2, yo, yoa, yob, yit, yss, ymo, yst, ymy, ycl, yrw, yow, yen, yhi, yla) x := by
  subst ex
  have e0 : (3 : Int32) * nI p = nI (3 * p) := by rw [show (3 : Int32) = nI 3 from rfl, pk_mul]
  have e1 : (3 : Int32) * nI p + 1 = nI (3 * p + 1) := by rw [e0, nI_1]
  have e2 : (3 : Int32) * nI p + 2 = nI (3 * p + 2) := by rw [e0]; exact nI_add _ 2
  unfold wpY_loosen
  refine yk_isk p hp20 v hs _ rfl _ (fun hv => br_t rfl ?_) (fun ws hv => br_f (by decide) ?_)
  · exact hp yrc yrw yst ymy ycl (hs.2 hv).2 (qk_k_rf _ _ _) (fun _ _ => rfl)
  · obtain ⟨hw, ev⟩ := hwf.1 ws hv
    have h0 := hs.1 ws hv
    have l8 := h0.1
    refine yk_gather (3 * p) 1 (by omega) (by omega) ws [] h0 (qk_buf0 yrw) (by simp; omega) _ _ e0 rfl _ (fun rc1 rw1 hb1 => ?_)
    have len1 : ∀ c, (qr_all [] (ws.map (qr_cut c))).length ≤ 8 := fun c => by
      have := qr_len_all1 (ws.map (qr_cut c)) []
      rw [List.length_map, List.length_nil] at this
      omega
    have w5 : ∀ c r, r ∈ qr_all [] (ws.map (qr_cut c)) → qk_w 5 r := fun c => qk_w_all (qk_cutw h0.2.1)
    refine yk_store (3 * p + 1) (by omega) _ hb1 (by have := len1 1; omega) (fun _ => w5 1) _ e1 _ (fun rw2 st2 my2 hs2 hk2 => ?_)
    have h2 : qk_set st2 my2 (3 * p) ws := qk_set_k hk2 (by show 3 * p ≠ 3 * p + 1; omega) h0
    refine yk_gather (3 * p) 2 (by omega) (by omega) ws [] h2 (qk_buf0 rw2) (by simp; omega) _ _ e0 rfl _ (fun rc3 rw3 hb3 => ?_)
    refine yk_store (3 * p + 2) (by omega) _ hb3 (by have := len1 2; omega) (fun _ => w5 2) _ e2 _ (fun rw4 st4 my4 hs4 hk4 => ?_)
    have h4 : qk_set st4 my4 (3 * p) ws := qk_set_k hk4 (by show 3 * p ≠ 3 * p + 2; omega) h2
    refine yk_gather (3 * p) 0 (by omega) (by omega) ws [] h4 (qk_buf0 rw4) (by simp; omega) _ _ e0 rfl _ (fun rc5 rw5 hb5 => ?_)
    refine yk_some how _ hb5 (by have := len1 0; omega) _ (fun x hx => ⟨pk_in p 20 hp20, nm_e ?_⟩)
    rw [nI_clamp (by omega)]
    refine hp _ _ _ _ _ ⟨?_, ?_, ?_⟩ ?_ (fun q hq => pk_un hq)
    · rw [ev]
      exact qk_set_k hk4 (by show 3 * p + 1 ≠ 3 * p + 2; omega) hs2
    · rw [ev]
      exact hs4
    · rw [pk_us, ev]
      rw [qk_cut0, qr_all_self hw.1] at hx
      exact hx
    · exact qk_k_tr hk2 hk4 (fun s hs => hs)
theorem qk_3 (p : Nat) : (3 : Int32) * nI p = nI (3 * p) := by rw [show (3 : Int32) = nI 3 from rfl, pk_mul]
theorem qk_lt_w (a l : Nat) (hl : l ≤ 6) : ∀ r, r ∈ (qi_lt a l).map (fun l => [l]) → qk_w 1 r := by
  intro r hr
  obtain ⟨x, hx, rfl⟩ := List.mem_map.mp hr
  refine ⟨by simp, fun y hy => ?_⟩
  rw [List.mem_singleton] at hy
  subst hy
  have := List.mem_range.mp (List.mem_filter.mp hx).1
  omega
theorem qk_lt_len (a l : Nat) (hl : l ≤ 6) : (qi_lt a l).length ≤ l := by
  have := List.length_filter_le (fun l => a.testBit l) (List.range l)
  rw [List.length_range] at this
  exact this
theorem qk_row1 (l : Nat) : qc_y [l] = 6 + l := by
  unfold qc_y
  rw [qc_one, List.length_singleton]
theorem yk_let1 (p a : Nat) (ha : a < 64) (post : SY → Prop) (hp : ∀ (rc' : Int32) (rw' : Nat → Int32), qk_buf rw' rc' (if a = 0 then [[]] else qr_all [] ((qi_ls a).map (fun l => [l]))) → wY_letters_45 post (nI p) ywa ydd ynd yns yma ynt yno rc' yfo ybl yod ywr yan yab yac yad yal yabl yacl yacf ynu yfi ypa ysz yli ytx yki yf1 yf2 yo yoa yob yit yss ymo yst ymy ycl rw' yow yen yhi yla) :
  ∀ (N l : Nat) (rc' : Int32) (rw' : Nat → Int32), l ≤ 6 → 6 - l < N → qk_buf rw' rc' (qr_all [] ((qi_lt a l).map (fun l => [l]))) → wY_letters_7 post (nI p) (nI a) N (nI l) ywa ydd ynd yns yma ynt yno rc' yfo ybl yod ywr yan yab yac yad yal yabl yacl yacf ynu yfi ypa ysz yli ytx yki yf1 yf2 yo yoa yob yit yss ymo yst ymy ycl rw' yow yen yhi yla := by
  intro N
  induction N with
  | zero => intro l rc' rw' h1 h2; omega
  | succ N ih =>
    intro l rc' rw' h1 h2 h3
    have hlen : (qr_all [] ((qi_lt a l).map (fun l => [l]))).length < 64 := by
      have := qr_len_all1 ((qi_lt a l).map (fun l => [l])) []
      rw [List.length_map, List.length_nil] at this
      have := qk_lt_len a l h1
      omega
    refine pk_le 6 l (fun hle => ?_) (fun hlt => ?_)
    · have e : l = 6 := by omega
      subst e
      refine pk_eq a 0 (fun e0 => ?_) (fun e0 => ?_)
      · subst e0
        have el : qr_all [] ((qi_lt 0 6).map (fun l => [l])) = [] := by decide +kernel
        rw [el] at h3
        refine yk_add [] h3 (by simp) [] ⟨by simp, (fun x hx => nomatch hx)⟩ _ rfl _ (fun rc2 rw2 hb2 => ?_)
        exact hp rc2 rw2 hb2
      · have := hp rc' rw'
        rw [if_neg e0] at this
        exact this h3
    · refine ek_if (qb_s1 (nI a) l (by omega)) (fun hb => ?_) (fun hb => nm_r (nI_1 l) (ih (l + 1) rc' rw' (by omega) (by omega) ?_))
      · rw [qb_nI a l (by omega)] at hb
        refine yk_add _ h3 hlen [l] ⟨by simp, fun x hx => by rw [List.mem_singleton] at hx; omega⟩ _ (by rw [qk_row1]; exact nI_add 6 l) _ (fun rc2 rw2 hb2 => nm_r (nI_1 l) (ih (l + 1) rc2 rw2 (by omega) (by omega) ?_))
        rw [qi_lt_s, hb, if_pos rfl, List.map_append, qr_all_app]
        exact hb2
      · rw [qb_nI a l (by omega)] at hb
        rw [qi_lt_s]
        have : a.testBit l = false := by simpa using hb
        rw [this]
        simpa using h3
/-- letters: a set of one-letter rows, or of the empty row -/
theorem yk_letters (p a : Nat) (hp20 : p < 20) (ha : a < 64) (x y : Int32) (ex : x = nI p) (ey : y = nI a) (post : SY → Prop)
  (hp : ∀ (rc' : Int32) (rw' st' my' cl' : Nat → Int32), qk_sl now st' my' cl' p (qi_known (if a = 0 then [[]] else (qi_ls a).map (fun l => [l]))) → qk_kp p yst ymy ycl st' my' cl' → cl' = ycl → qk_k (fun s => s ≠ 3 * p) yst ymy st' my' → post (ywa, ydd, ynd, yns, yma, ynt, yno, rc', yfo, ybl, yod, ywr, yan, yab, yac, yad, yal, yabl, yacl, yacf, ynu, yfi, ypa, ysz, yli, ytx, yki, yf1, yf2, yo, yoa, yob, yit, yss, ymo, st', my', cl', rw', yow, yen, yhi, yla)) : wpY_letters post (ywa, ydd, ynd, yns, yma, ynt, yno, yrc, yfo, ybl, yod, ywr, yan, yab, yac, yad, yal, yabl, yacl, yacf, ynu, yfi, ypa, ysz, yli, ytx, yki, yf1, yf2, yo, yoa, yob, yit, yss, ymo, yst, ymy, ycl, yrw, yow, yen, yhi, yla) x y := by
  subst ex; subst ey
  refine ⟨7, yk_let1 p a ha post (fun rc1 rw1 hb1 => ?_) 7 0 0 yrw (by omega) (by omega) (qk_buf0 yrw)⟩
  have hnd : (qi_ls a).Nodup := List.Pairwise.filter _ List.nodup_range
  have hn2 : ((qi_ls a).map (fun l => [l])).Nodup := List.Pairwise.map _ (fun x y hxy e => hxy (by simpa using e)) hnd
  have hlen : ((qi_ls a).map (fun l => [l])).length ≤ 6 := by rw [List.length_map]; exact qk_lt_len a 6 (by omega)
  rw [qr_all_self hn2] at hb1
  have hl8 : (if a = 0 then [[]] else (qi_ls a).map (fun l => [l])).length ≤ 8 := by
    split
    · simp
    · omega
  have hw5 : ∀ r, r ∈ (if a = 0 then [[]] else (qi_ls a).map (fun l => [l])) → qk_w 5 r := by
    split
    · intro r hr
      rw [List.mem_singleton.mp hr]
      exact ⟨by simp, (fun x hx => nomatch hx)⟩
    · exact fun r hr => qk_w_up (qk_lt_w a 6 (by omega) r hr) (by omega)
  unfold wY_letters_45
  refine yk_store (3 * p) (by omega) _ hb1 (by omega) (fun _ => hw5) _ (qk_3 p) _ (fun rw2 st2 my2 hs2 hk2 => hp _ _ _ _ _ ⟨fun ws e => ?_, fun e => nomatch e⟩ ⟨fun s hs => hk2 s (by have : s < 3 * p := hs; omega), fun _ _ => rfl⟩ rfl hk2)
  cases e
  have el : qr_lim (if a = 0 then [[]] else (qi_ls a).map (fun l => [l])) = (if a = 0 then [[]] else (qi_ls a).map (fun l => [l])) := if_pos hl8
  rw [el] at hs2
  exact hs2
end
end
section
/-! the reference: the claims of parts put together -/
theorem qk_unk1 : qr_lim (qr_all [] ([[]].map qr_hd)) = [[]] := by decide +kernel
theorem qk_unk2 : qr_lim (qr_all [] ([[]].map qr_tl)) = [[]] := by decide +kernel
theorem qk_some1 (T : Nat → Nat → Nat → Prop) : qr_some [[]] T := ⟨[], by simp, fun i hi => absurd hi (by simp)⟩
theorem qk_lo_unk {now : Nat → qf_X} {st my cl : Nat → Int32} {p : Nat} (h : qk_lo now st my cl p (qi_known [[]])) : qk_lo now st my cl p qi_unk := by
  obtain ⟨a, b, c⟩ := h
  refine ⟨?_, ?_, fun f t hf ht => (c f t hf ht).trans ⟨fun _ => trivial, fun _ => qk_some1 _⟩⟩
  · have a' : qk_set st my (3 * p + 1) (qr_lim (qr_all [] ([[]].map qr_hd))) := a
    rw [qk_unk1] at a'
    exact a'
  · have b' : qk_set st my (3 * p + 2) (qr_lim (qr_all [] ([[]].map qr_tl))) := b
    rw [qk_unk2] at b'
    exact b'
theorem qk_k_my (s : Nat) (st my : Nat → Int32) (x : Int32) : qk_k (fun s' => s' ≠ s) st my st (upd my s x) := fun _ hs => ⟨pk_un hs, fun _ _ => rfl⟩
theorem qk_sl_none {now : Nat → qf_X} {st my cl : Nat → Int32} {p : Nat} {v : qi_T} (hv : v.1 = none) (h : qk_lo now st my cl p v) : qk_sl now st (upd my (3 * p) (-1)) cl p v := by
  refine ⟨fun ws e => (by rw [hv] at e; exact (nomatch e)), fun _ => ⟨pk_us, ?_, ?_, h.2.2⟩⟩
  · exact qk_set_k (qk_k_my _ _ _ _) (by show 3 * p + 1 ≠ 3 * p; omega) h.1
  · exact qk_set_k (qk_k_my _ _ _ _) (by show 3 * p + 2 ≠ 3 * p; omega) h.2.1
theorem qk_lo_rep {now : Nat → qf_X} {st my cl : Nat → Int32} {p : Nat} {v : qi_T} (h : qk_lo now st my cl p v) : qk_lo now st my cl p (qi_rep v) := h
theorem qk_2 (p : Nat) : (3 : Int32) * nI p + 2 = nI (3 * p + 2) := by rw [qk_3]; exact nI_add _ 2
section
variable {ywa ydd ynd yns yma ynt yno yrc yfo ybl yod ywr : Int32} {yan yab yac yad yal yabl yacl yacf ynu yfi ypa ysz yli ytx yki yf1 yf2 yo yoa yob yit yss ymo yst ymy ycl yrw yow yhi yla : Nat → Int32} {yen : Nat → Int64} {now : Nat → qf_X}
theorem yk_nothing (how : qy_own now yow) (p : Nat) (hp20 : p < 20) (x : Int32) (ex : x = nI p) (post : SY → Prop)
  (hp : ∀ (rc' : Int32) (rw' st' my' cl' : Nat → Int32), qk_sl now st' my' cl' p qi_unk → qk_kp p yst ymy ycl st' my' cl' → post (ywa, ydd, ynd, yns, yma, ynt, yno, rc', yfo, ybl, yod, ywr, yan, yab, yac, yad, yal, yabl, yacl, yacf, ynu, yfi, ypa, ysz, yli, ytx, yki, yf1, yf2, yo, yoa, yob, yit, yss, ymo, st', my', cl', rw', yow, yen, yhi, yla)) : wpY_nothing post (ywa, ydd, ynd, yns, yma, ynt, yno, yrc, yfo, ybl, yod, ywr, yan, yab, yac, yad, yal, yabl, yacl, yacf, ynu, yfi, ypa, ysz, yli, ytx, yki, yf1, yf2, yo, yoa, yob, yit, yss, ymo, yst, ymy, ycl, yrw, yow, yen, yhi, yla) x := by
  subst ex
  have e24 : (24 : Int32) * nI p = nI (24 * p) := by rw [show (24 : Int32) = nI 24 from rfl, pk_mul]
  unfold wpY_nothing
  refine And.intro (pk_in (3 * p) 60 (by omega) (qk_3 p)) (nm_e (And.intro (pk_in (24 * p) 480 (by omega) e24) (nm_e ?_)))
  rw [pk_cl (3 * p) (qk_3 p), pk_cl (24 * p) e24]
  refine yk_loosen how p hp20 (qi_known [[]]) (qi_wf_known (qr_wf1 5)) ⟨fun ws e => ?_, fun e => nomatch e⟩ _ rfl _ (fun rc' rw' st' my' cl' h1 h2 h3 => And.intro (pk_in (3 * p) 60 (by omega) (qk_3 p)) (nm_e ?_))
  · cases e
    refine ⟨by simp, fun r hr => ?_, pk_us, fun k r hk => ?_⟩
    · rw [List.mem_singleton.mp hr]
      exact ⟨by simp, (fun x hx => nomatch hx)⟩
    · match k, hk with
      | 0, hk =>
        cases hk
        rw [show 8 * (3 * p) + 0 = 24 * p by omega]
        exact pk_us
  · refine hp _ _ _ _ _ (qk_sl_none rfl (qk_lo_unk h1)) ⟨fun s hs => ?_, fun q hq => h3 q (by omega)⟩
    have hs' : s < 3 * p := hs
    obtain ⟨a, b⟩ := h2 s ⟨by omega, by omega⟩
    refine ⟨(pk_un (by omega)).trans (a.trans (pk_un (by omega))), fun k hk => (b k hk).trans (pk_un (by omega))⟩
theorem yk_join (s : Nat) (hs : s + 3 < 60) (a b : List (List Nat)) (ha : qk_set yst ymy s a) (hb : qk_set yst ymy (s + 3) b) (x : Int32) (ex : x = nI s) (post : SY → Prop)
  (hp : ∀ (rc' : Int32) (rw' : Nat → Int32), qk_buf rw' rc' (qr_all [] (a ++ b)) → post (ywa, ydd, ynd, yns, yma, ynt, yno, rc', yfo, ybl, yod, ywr, yan, yab, yac, yad, yal, yabl, yacl, yacf, ynu, yfi, ypa, ysz, yli, ytx, yki, yf1, yf2, yo, yoa, yob, yit, yss, ymo, yst, ymy, ycl, rw', yow, yen, yhi, yla)) : wpY_join post (ywa, ydd, ynd, yns, yma, ynt, yno, yrc, yfo, ybl, yod, ywr, yan, yab, yac, yad, yal, yabl, yacl, yacf, ynu, yfi, ypa, ysz, yli, ytx, yki, yf1, yf2, yo, yoa, yob, yit, yss, ymo, yst, ymy, ycl, yrw, yow, yen, yhi, yla) x := by
  subst ex
  have l1 := ha.1
  have l2 := hb.1
  unfold wpY_join
  refine yk_gather s 0 (by omega) (by omega) a [] ha (qk_buf0 yrw) (by simp; omega) _ _ rfl rfl _ (fun rc1 rw1 h1 => ?_)
  have hl : (qr_all [] (a.map (qr_cut 0))).length + b.length ≤ 64 := by
    have := qr_len_all1 (a.map (qr_cut 0)) []
    rw [List.length_map, List.length_nil] at this
    omega
  refine yk_gather (s + 3) 0 (by omega) (by omega) b _ hb h1 hl _ _ (nI_add s 3) rfl _ (fun rc2 rw2 h2 => hp rc2 rw2 ?_)
  rw [qk_cut0, qk_cut0, ← qr_all_app] at h2
  exact h2
theorem qk_jl {a b : List (List Nat)} (ha : a.length ≤ 8) (hb : b.length ≤ 8) : (qr_all [] (a ++ b)).length ≤ 64 := by
  have := qr_len_all1 (a ++ b) []
  rw [List.length_append, List.length_nil] at this
  omega
theorem qk_jw {a b : List (List Nat)} (ha : ∀ r, r ∈ a → qk_w 5 r) (hb : ∀ r, r ∈ b → qk_w 5 r) : ∀ r, r ∈ qr_all [] (a ++ b) → qk_w 5 r :=
  qk_w_all (fun r hr => (List.mem_append.mp hr).elim (ha r) (hb r))
theorem yk_alt60 (how : qy_own now yow) (p : Nat) (hp20 : p + 1 < 20) (v w : qi_T) (wv : qi_wf v) (ww : qi_wf w) (hv : qk_sl now yst ymy ycl p v) (hw : qk_sl now yst ymy ycl (p + 1) w) (post : SY → Prop)
  (hp : ∀ (rc' : Int32) (rw' st' my' cl' : Nat → Int32), qk_sl now st' my' cl' p (qi_alt2 v w) → qk_kp p yst ymy ycl st' my' cl' → post (ywa, ydd, ynd, yns, yma, ynt, yno, rc', yfo, ybl, yod, ywr, yan, yab, yac, yad, yal, yabl, yacl, yacf, ynu, yfi, ypa, ysz, yli, ytx, yki, yf1, yf2, yo, yoa, yob, yit, yss, ymo, st', my', cl', rw', yow, yen, yhi, yla)) : wY_alt_60 post (nI p) (nI (3 * p)) ywa ydd ynd yns yma ynt yno yrc yfo ybl yod ywr yan yab yac yad yal yabl yacl yacf ynu yfi ypa ysz yli ytx yki yf1 yf2 yo yoa yob yit yss ymo yst ymy ycl yrw yow yen yhi yla := by
  unfold wY_alt_60
  refine yk_loosen how p (by omega) v wv hv _ rfl _ (fun rc1 rw1 st1 my1 cl1 h1 k1 c1 => ?_)
  have hw1 : qk_sl now st1 my1 cl1 (p + 1) w := by
    refine ⟨fun ws e => qk_set_k k1 ⟨by omega, by omega⟩ (hw.1 ws e), fun e => ?_⟩
    obtain ⟨a, b, c, d⟩ := hw.2 e
    refine ⟨(k1 _ ⟨by omega, by omega⟩).1.trans a, qk_set_k k1 ⟨by omega, by omega⟩ b, qk_set_k k1 ⟨by omega, by omega⟩ c, ?_⟩
    rw [c1 (p + 1) (by omega)]
    exact d
  refine yk_loosen how (p + 1) hp20 w ww hw1 _ (nI_1 p) _ (fun rc2 rw2 st2 my2 cl2 h2 k2 c2 => ?_)
  obtain ⟨a1, a2, a3⟩ := h1
  obtain ⟨b1, b2, b3⟩ := h2
  have a1' : qk_set st2 my2 (3 * p + 1) v.2.1 := qk_set_k k2 ⟨by omega, by omega⟩ a1
  have a2' : qk_set st2 my2 (3 * p + 2) v.2.2.1 := qk_set_k k2 ⟨by omega, by omega⟩ a2
  rw [show 3 * (p + 1) + 1 = 3 * p + 1 + 3 by omega] at b1
  rw [show 3 * (p + 1) + 2 = 3 * p + 2 + 3 by omega] at b2
  refine yk_join (3 * p + 1) (by omega) _ _ a1' b1 _ (nI_1 _) _ (fun rc3 rw3 hb3 => ?_)
  refine yk_store (3 * p + 1) (by omega) _ hb3 (qk_jl a1'.1 b1.1) (fun _ => qk_jw a1'.2.1 b1.2.1) _ (nI_1 _) _ (fun rw4 st4 my4 s4 k4 => ?_)
  have a2'' : qk_set st4 my4 (3 * p + 2) v.2.2.1 := qk_set_k k4 (by show 3 * p + 2 ≠ 3 * p + 1; omega) a2'
  have b2' : qk_set st4 my4 (3 * p + 2 + 3) w.2.2.1 := qk_set_k k4 (by show 3 * p + 2 + 3 ≠ 3 * p + 1; omega) b2
  refine yk_join (3 * p + 2) (by omega) _ _ a2'' b2' _ (nI_add _ 2) _ (fun rc5 rw5 hb5 => ?_)
  refine yk_store (3 * p + 2) (by omega) _ hb5 (qk_jl a2''.1 b2'.1) (fun _ => qk_jw a2''.2.1 b2'.2.1) _ (nI_add _ 2) _ (fun rw6 st6 my6 s6 k6 => ?_)
  refine And.intro (pk_in p 20 (by omega)) (And.intro (pk_in (p + 1) 20 (by omega) (nI_1 p)) (And.intro (pk_in p 20 (by omega)) (nm_e (And.intro (pk_in (3 * p) 60 (by omega)) (nm_e ?_)))))
  rw [nI_clamp (show p < 2 ^ 31 by omega), nI_clamp (show 3 * p < 2 ^ 31 by omega), pk_cl (p + 1) (nI_1 p)]
  refine hp _ _ _ _ _ (qk_sl_none rfl ⟨?_, s6, ?_⟩) ⟨fun s hs => ?_, fun q hq => ?_⟩
  · exact qk_set_k k6 (by show 3 * p + 1 ≠ 3 * p + 2; omega) s4
  · intro f t hf ht
    rw [pk_us, b_or, Bool.or_eq_true, b3 f t hf ht, c2 p (by omega), a3 f t hf ht]
    exact Iff.rfl
  · have hs' : s < 3 * p := hs
    have g1 := k1 s ⟨by omega, by omega⟩
    have g2 := k2 s ⟨by omega, by omega⟩
    have g4 := k4 s (show s ≠ 3 * p + 1 by omega)
    have g6 := k6 s (show s ≠ 3 * p + 2 by omega)
    exact ⟨(pk_un (by omega)).trans (g6.1.trans (g4.1.trans (g2.1.trans g1.1))), fun k hk => (g6.2 k hk).trans ((g4.2 k hk).trans ((g2.2 k hk).trans (g1.2 k hk)))⟩
  · exact (pk_un (by omega)).trans ((c2 q (by omega)).trans (c1 q (by omega)))
theorem qi_alt_n1 {v w : qi_T} (h : v.1 = none) : qi_alt v w = qi_alt2 v w := by
  unfold qi_alt
  rw [h]
theorem qi_alt_n2 {v w : qi_T} (h : w.1 = none) : qi_alt v w = qi_alt2 v w := by
  unfold qi_alt
  rw [h]
  cases v.1 <;> rfl
theorem qi_alt_ss {v w : qi_T} {xs ys : List (List Nat)} (h : v.1 = some xs) (h' : w.1 = some ys) : qi_alt v w = if (qr_all [] (xs ++ ys)).length ≤ 8 then qi_known (qr_all [] (xs ++ ys)) else qi_alt2 v w := by
  unfold qi_alt
  rw [h, h']
theorem yk_alt (how : qy_own now yow) (p : Nat) (hp20 : p + 1 < 20) (v w : qi_T) (wv : qi_wf v) (ww : qi_wf w) (hv : qk_sl now yst ymy ycl p v) (hw : qk_sl now yst ymy ycl (p + 1) w) (x : Int32) (ex : x = nI p) (post : SY → Prop)
  (hp : ∀ (rc' : Int32) (rw' st' my' cl' : Nat → Int32), qk_sl now st' my' cl' p (qi_alt v w) → qk_kp p yst ymy ycl st' my' cl' → post (ywa, ydd, ynd, yns, yma, ynt, yno, rc', yfo, ybl, yod, ywr, yan, yab, yac, yad, yal, yabl, yacl, yacf, ynu, yfi, ypa, ysz, yli, ytx, yki, yf1, yf2, yo, yoa, yob, yit, yss, ymo, st', my', cl', rw', yow, yen, yhi, yla)) : wpY_alt post (ywa, ydd, ynd, yns, yma, ynt, yno, yrc, yfo, ybl, yod, ywr, yan, yab, yac, yad, yal, yabl, yacl, yacf, ynu, yfi, ypa, ysz, yli, ytx, yki, yf1, yf2, yo, yoa, yob, yit, yss, ymo, yst, ymy, ycl, yrw, yow, yen, yhi, yla) x := by
  subst ex
  unfold wpY_alt
  refine nm_r (qk_3 p) ?_
  refine yk_isk p (by omega) v hv _ rfl _ (fun nv => br_t rfl ?_) (fun xs ev => br_f (by decide) ?_)
  · rw [qi_alt_n1 nv] at hp
    unfold wY_alt_27
    refine yk_isk p (by omega) v hv _ rfl _ (fun nv => br_t rfl ?_) (fun xs ev => by rw [nv] at ev; exact nomatch ev)
    exact yk_alt60 how p hp20 v w wv ww hv hw post hp
  · refine yk_isk (p + 1) hp20 w hw _ (nI_1 p) _ (fun nw => br_t rfl ?_) (fun ys ew => br_f (by decide) ?_)
    · rw [qi_alt_n2 nw] at hp
      unfold wY_alt_27
      refine yk_isk p (by omega) v hv _ rfl _ (fun nv => by rw [ev] at nv; exact nomatch nv) (fun _ _ => br_f (by decide) ?_)
      refine yk_isk (p + 1) hp20 w hw _ (nI_1 p) _ (fun nw => br_t rfl ?_) (fun _ ew => by rw [nw] at ew; exact nomatch ew)
      exact yk_alt60 how p hp20 v w wv ww hv hw post hp
    · rw [qi_alt_ss ev ew] at hp
      have hx := hv.1 xs ev
      have hy := hw.1 ys ew
      rw [show 3 * (p + 1) = 3 * p + 3 by omega] at hy
      refine yk_join (3 * p) (by omega) xs ys hx hy _ rfl _ (fun rc1 rw1 hb1 => ?_)
      have hrc := hb1.2.1
      subst hrc
      unfold wY_alt_27
      refine yk_isk p (by omega) v hv _ rfl _ (fun nv => by rw [ev] at nv; exact nomatch nv) (fun _ _ => br_f (by decide) ?_)
      refine yk_isk (p + 1) hp20 w hw _ (nI_1 p) _ (fun nw => by rw [ew] at nw; exact nomatch nw) (fun _ _ => br_f (by decide) ?_)
      have hl64 := qk_jl hx.1 hy.1
      refine pk_lt 8 (qr_all [] (xs ++ ys)).length (fun hlt => ?_) (fun hle => ?_)
      · rw [if_neg (by omega)] at hp
        exact yk_alt60 how p hp20 v w wv ww hv hw post hp
      · rw [if_pos hle] at hp
        refine yk_store (3 * p) (by omega) _ hb1 hl64 (fun _ => qk_jw hx.2.1 hy.2.1) _ rfl _ (fun rw2 st2 my2 s2 k2 => hp _ _ _ _ _ ⟨fun ws e => ?_, fun e => nomatch e⟩ ⟨fun s hs => k2 s (by have : s < 3 * p := hs; omega), fun _ _ => rfl⟩)
        cases e
        have el : qr_lim (qr_all [] (xs ++ ys)) = qr_all [] (xs ++ ys) := if_pos hle
        rw [el] at s2
        exact s2
/-! a seq -/
theorem yk_short1 (l : List (List Nat)) (hb : qk_buf yrw yrc l) (hl : l.length ≤ 64) (post : Int32 → Prop) (h1 : l.length ≤ 8 → (∀ r, r ∈ l → r.length ≤ 5) → post 1) (h0 : ¬ (l.length ≤ 8 ∧ ∀ r, r ∈ l → r.length ≤ 5) → post 0) :
  ∀ (N i : Nat), i ≤ l.length → l.length - i < N → (∀ k r, k < i → l[k]? = some r → r.length ≤ 5) → wY_isShort_2 post ywa ydd ynd yns yma ynt yno yrc yfo ybl yod ywr yan yab yac yad yal yabl yacl yacf ynu yfi ypa ysz yli ytx yki yf1 yf2 yo yoa yob yit yss ymo yst ymy ycl yrw yow yen yhi yla N (nI i) := by
  obtain ⟨b1, b2, b3⟩ := hb
  subst b2
  intro N
  induction N with
  | zero => intro i h2 h3; omega
  | succ N ih =>
    intro i h2 h3 h4
    refine pk_le l.length i (fun hle => pk_lt 8 l.length (fun hlt => h0 (fun h => by omega)) (fun h8 => h1 h8 (fun r hr => ?_))) (fun hlt => ⟨pk_in i 64 (by omega), ?_⟩)
    · obtain ⟨k, hk⟩ := List.getElem?_of_mem hr
      exact h4 k r (by have := qr_get_lt hk; omega) hk
    · have hg := List.getElem?_eq_getElem hlt
      have hw := b1 _ (List.getElem_mem hlt)
      have hw1 := hw.1
      rw [nI_clamp (by omega), b3 i _ hg]
      refine yk_len hw _ (pk_le l[i].length 5 (fun hle => nm_r (nI_1 i) (ih (i + 1) (by omega) (by omega) (fun k r hk hr => ?_))) (fun hgt => h0 (fun h => ?_)))
      · by_cases z : k = i
        · subst z
          rw [hg] at hr
          cases hr
          exact hle
        · exact h4 k r (by omega) hr
      · have := h.2 l[i] (List.getElem_mem hlt)
        omega
theorem yk_short (l : List (List Nat)) (hb : qk_buf yrw yrc l) (hl : l.length ≤ 64) (post : Int32 → Prop) (h1 : l.length ≤ 8 → (∀ r, r ∈ l → r.length ≤ 5) → post 1) (h0 : ¬ (l.length ≤ 8 ∧ ∀ r, r ∈ l → r.length ≤ 5) → post 0) : wpY_isShort post (ywa, ydd, ynd, yns, yma, ynt, yno, yrc, yfo, ybl, yod, ywr, yan, yab, yac, yad, yal, yabl, yacl, yacf, ynu, yfi, ypa, ysz, yli, ytx, yki, yf1, yf2, yo, yoa, yob, yit, yss, ymo, yst, ymy, ycl, yrw, yow, yen, yhi, yla) :=
  ⟨l.length + 1, yk_short1 l hb hl post h1 h0 (l.length + 1) 0 (by omega) (by omega) (fun k r hk => absurd hk (by omega))⟩
theorem qk_pl {a b : List (List Nat)} (c : Nat) (ha : a.length ≤ 8) (hb : b.length ≤ 8) : (qr_all [] ((qr_pr a b).map (qr_cut c))).length ≤ 64 := by
  have := qr_len_all1 ((qr_pr a b).map (qr_cut c)) []
  rw [List.length_map, qr_pr_len, List.length_nil] at this
  have := Nat.mul_le_mul ha hb
  omega
theorem qk_cut_2 {c : Nat} (hc : c = 1 ∨ c = 2) (r : List Nat) : (qr_cut c r).length ≤ 2 := by
  rcases hc with rfl | rfl
  · exact qr_hd_len r
  · exact qr_tl_len r
theorem qk_pw {a b : List (List Nat)} {c : Nat} (hc : c = 1 ∨ c = 2) (ha : ∀ r, r ∈ a → qk_w 5 r) (hb : ∀ r, r ∈ b → qk_w 5 r) : ∀ r, r ∈ qr_all [] ((qr_pr a b).map (qr_cut c)) → qk_w 5 r := by
  apply qk_w_all
  intro r hr
  obtain ⟨s, hs, rfl⟩ := List.mem_map.mp hr
  obtain ⟨x, hx, y, hy, rfl⟩ := qr_mem_pr.mp hs
  have := qk_w_cut (c := c) (qk_w_app (ha x hx) (hb y hy))
  exact ⟨by have := qk_cut_2 hc (x ++ y); omega, this.2⟩
/-- behind the claim and the heads: the tails -/
theorem yk_seq124 (p : Nat) (hp20 : p + 1 < 20) (v w : qi_T) (ww : qi_wf w) (x4 : Int32) (h40 : w.1 = none → x4 = 0) (h41 : ∀ ys, w.1 = some ys → x4 = 1) (ht : qk_set yst ymy (3 * p + 2) v.2.2.1) (htw : qk_set yst ymy (3 * p + 5) w.2.2.1) (hyw : ∀ ys, w.1 = some ys → qk_set yst ymy (3 * p + 3) ys) (post : SY → Prop)
  (hp : ∀ (rc' : Int32) (rw' st' my' : Nat → Int32), qk_set st' my' (3 * p + 2) (qi_ty v w) → qk_k (fun s => s ≠ 3 * p + 2) yst ymy st' my' → post (ywa, ydd, ynd, yns, yma, ynt, yno, rc', yfo, ybl, yod, ywr, yan, yab, yac, yad, yal, yabl, yacl, yacf, ynu, yfi, ypa, ysz, yli, ytx, yki, yf1, yf2, yo, yoa, yob, yit, yss, ymo, st', upd my' (3 * p) (-1), ycl, rw', yow, yen, yhi, yla)) : wY_seq_124 post (nI (3 * p)) x4 ywa ydd ynd yns yma ynt yno yrc yfo ybl yod ywr yan yab yac yad yal yabl yacl yacf ynu yfi ypa ysz yli ytx yki yf1 yf2 yo yoa yob yit yss ymo yst ymy ycl yrw yow yen yhi yla := by
  have fin : ∀ (l : List (List Nat)) (rc' : Int32) (rw' : Nat → Int32), qk_buf rw' rc' l → l.length ≤ 64 → (∀ r, r ∈ l → qk_w 5 r) → qr_lim l = qi_ty v w → wY_seq_156 post (nI (3 * p)) ywa ydd ynd yns yma ynt yno rc' yfo ybl yod ywr yan yab yac yad yal yabl yacl yacf ynu yfi ypa ysz yli ytx yki yf1 yf2 yo yoa yob yit yss ymo yst ymy ycl rw' yow yen yhi yla := by
    intro l rc' rw' hb hl h5 el
    unfold wY_seq_156
    refine yk_store (3 * p + 2) (by omega) l hb hl (fun _ => h5) _ (nI_add _ 2) _ (fun rw2 st2 my2 s2 k2 => And.intro (pk_in (3 * p) 60 (by omega)) (nm_e ?_))
    rw [nI_clamp (by omega)]
    rw [el] at s2
    exact hp _ _ _ _ s2 k2
  unfold wY_seq_124
  match hw : w.1 with
  | none =>
    refine br_t (h40 hw) ?_
    have l8 := htw.1
    refine yk_gather (3 * p + 5) 0 (by omega) (by omega) _ [] htw (qk_buf0 yrw) (by simp; omega) _ _ (nI_add _ 5) rfl _ (fun rc1 rw1 hb1 => ?_)
    have hn := (qi_wf_t ww).1
    rw [qk_cut0, qr_all_self hn] at hb1
    refine fin _ rc1 rw1 hb1 (by omega) htw.2.1 ?_
    have e1 : qr_lim w.2.2.1 = w.2.2.1 := if_pos l8
    rw [e1]
    unfold qi_ty
    rw [hw]
  | some ys =>
    refine br_f (by rw [h41 ys hw]; decide) ?_
    have hy := hyw ys hw
    refine yk_product (3 * p + 2) (3 * p + 3) 2 (by omega) (by omega) (by omega) _ ys ht hy _ _ _ (nI_add _ 2) (nI_add _ 3) rfl _ (fun rc1 rw1 hb1 => ?_)
    refine fin _ rc1 rw1 hb1 (qk_pl 2 ht.1 hy.1) (qk_pw (Or.inr rfl) ht.2.1 hy.2.1) ?_
    unfold qi_ty
    rw [hw]
    rfl
theorem yk_seq59 (how : qy_own now yow) (p : Nat) (hp20 : p + 1 < 20) (v w : qi_T) (wv : qi_wf v) (ww : qi_wf w) (hv : qk_sl now yst ymy ycl p v) (hw : qk_sl now yst ymy ycl (p + 1) w) (x3 x4 : Int32) (h30 : v.1 = none → x3 = 0) (h31 : ∀ xs, v.1 = some xs → x3 = 1) (h40 : w.1 = none → x4 = 0) (h41 : ∀ ys, w.1 = some ys → x4 = 1) (post : SY → Prop)
  (hp : ∀ (rc' : Int32) (rw' st' my' cl' : Nat → Int32), qk_sl now st' my' cl' p (qi_seq2 v w) → qk_kp p yst ymy ycl st' my' cl' → post (ywa, ydd, ynd, yns, yma, ynt, yno, rc', yfo, ybl, yod, ywr, yan, yab, yac, yad, yal, yabl, yacl, yacf, ynu, yfi, ypa, ysz, yli, ytx, yki, yf1, yf2, yo, yoa, yob, yit, yss, ymo, st', my', cl', rw', yow, yen, yhi, yla)) : wY_seq_59 post (nI p) (nI (3 * p)) x3 x4 ywa ydd ynd yns yma ynt yno yrc yfo ybl yod ywr yan yab yac yad yal yabl yacl yacf ynu yfi ypa ysz yli ytx yki yf1 yf2 yo yoa yob yit yss ymo yst ymy ycl yrw yow yen yhi yla := by
  unfold wY_seq_59
  refine yk_loosen how p (by omega) v wv hv _ rfl _ (fun rc1 rw1 st1 my1 cl1 h1 k1 c1 => ?_)
  have hw1 : qk_sl now st1 my1 cl1 (p + 1) w := by
    refine ⟨fun ws e => qk_set_k k1 ⟨by omega, by omega⟩ (hw.1 ws e), fun e => ?_⟩
    obtain ⟨a, b, c, d⟩ := hw.2 e
    refine ⟨(k1 _ ⟨by omega, by omega⟩).1.trans a, qk_set_k k1 ⟨by omega, by omega⟩ b, qk_set_k k1 ⟨by omega, by omega⟩ c, ?_⟩
    rw [c1 (p + 1) (by omega)]
    exact d
  refine yk_loosen how (p + 1) hp20 w ww hw1 _ (nI_1 p) _ (fun rc2 rw2 st2 my2 cl2 h2 k2 c2 => ?_)
  obtain ⟨a1, a2, a3⟩ := h1
  obtain ⟨b1, b2, b3⟩ := h2
  have a1' : qk_set st2 my2 (3 * p + 1) v.2.1 := qk_set_k k2 ⟨by omega, by omega⟩ a1
  have a2' : qk_set st2 my2 (3 * p + 2) v.2.2.1 := qk_set_k k2 ⟨by omega, by omega⟩ a2
  rw [show 3 * (p + 1) + 1 = 3 * p + 4 by omega] at b1
  rw [show 3 * (p + 1) + 2 = 3 * p + 5 by omega] at b2
  have xw : ∀ xs, v.1 = some xs → qk_set st2 my2 (3 * p) xs := fun xs e => qk_set_k k2 ⟨by omega, by omega⟩ (qk_set_k k1 ⟨by omega, by omega⟩ (hv.1 xs e))
  have yw : ∀ ys, w.1 = some ys → qk_set st2 my2 (3 * p + 3) ys := fun ys e => qk_set_k k2 ⟨by omega, by omega⟩ (by have := hw1.1 ys e; rw [show 3 * (p + 1) = 3 * p + 3 by omega] at this; exact this)
  refine yk_product (3 * p + 2) (3 * p + 4) 0 (by omega) (by omega) (by omega) _ _ a2' b1 _ _ _ (nI_add _ 2) (nI_add _ 4) rfl _ (fun rc3 rw3 hb3 => ?_)
  refine And.intro (pk_in p 20 (by omega)) (And.intro (pk_in (p + 1) 20 (by omega) (nI_1 p)) ?_)
  refine yk_some how _ hb3 (qk_pl 0 a2'.1 b1.1) _ (fun x hx => And.intro (pk_in p 20 (by omega)) (nm_e ?_))
  rw [nI_clamp (show p < 2 ^ 31 by omega), pk_cl (p + 1) (nI_1 p)]
  generalize hcl : upd cl2 p (cl2 p &&& (cl2 (p + 1) &&& x)) = cl4
  have c4 : qk_cl now (cl4 p) (qi_seq2 v w).2.2.2 := by
    intro f t hf ht
    rw [← hcl, pk_us, b_and, b_and, Bool.and_eq_true, Bool.and_eq_true, c2 p (by omega), a3 f t hf ht, b3 f t hf ht, hx f t hf ht]
    show _ ∧ _ ∧ qr_some _ _ ↔ _ ∧ _ ∧ qr_some _ _
    rw [qk_cut0]
    have em : qr_some (qr_all [] (qr_pr v.2.2.1 w.2.1)) (qt_T t) ↔ qr_some (qr_pr v.2.2.1 w.2.1) (qt_T t) := by
      constructor
      · rintro ⟨r, h5, h6⟩
        exact ⟨r, (qr_mem_all.mp h5).elim (fun z => absurd z (by simp)) id, h6⟩
      · rintro ⟨r, h5, h6⟩
        exact ⟨r, qr_mem_all.mpr (Or.inr h5), h6⟩
    rw [em]
  have k4 : ∀ q, q < p → cl4 q = ycl q := fun q hq => by
    rw [← hcl]
    exact (pk_un (by omega)).trans ((c2 q (by omega)).trans (c1 q (by omega)))
  -- the heads
  have fin : ∀ (rc' : Int32) (rw' st' my' : Nat → Int32), qk_set st' my' (3 * p + 1) (qi_hx v w) → qk_k (fun s => s ≠ 3 * p + 1) st2 my2 st' my' → wY_seq_124 post (nI (3 * p)) x4 ywa ydd ynd yns yma ynt yno rc' yfo ybl yod ywr yan yab yac yad yal yabl yacl yacf ynu yfi ypa ysz yli ytx yki yf1 yf2 yo yoa yob yit yss ymo st' my' cl4 rw' yow yen yhi yla := by
    intro rc' rw' st' my' hh hk
    refine yk_seq124 p hp20 v w ww x4 h40 h41 (qk_set_k hk (by show 3 * p + 2 ≠ 3 * p + 1; omega) a2') (qk_set_k hk (by show 3 * p + 5 ≠ 3 * p + 1; omega) b2) (fun ys e => qk_set_k hk (by show 3 * p + 3 ≠ 3 * p + 1; omega) (yw ys e)) post (fun rc5 rw5 st5 my5 t5 k5 => ?_)
    refine hp _ _ _ _ _ (qk_sl_none (v := qi_seq2 v w) rfl ⟨qk_set_k k5 (by show 3 * p + 1 ≠ 3 * p + 2; omega) hh, t5, c4⟩) ⟨fun s hs => ?_, k4⟩
    have hs' : s < 3 * p := hs
    have g1 := k1 s ⟨by omega, by omega⟩
    have g2 := k2 s ⟨by omega, by omega⟩
    have g4 := hk s (show s ≠ 3 * p + 1 by omega)
    have g6 := k5 s (show s ≠ 3 * p + 2 by omega)
    exact ⟨(pk_un (by omega)).trans (g6.1.trans (g4.1.trans (g2.1.trans g1.1))), fun k hk => (g6.2 k hk).trans ((g4.2 k hk).trans ((g2.2 k hk).trans (g1.2 k hk)))⟩
  match ev : v.1 with
  | none =>
    refine br_t (h30 ev) (fin _ _ _ _ ?_ (qk_k_rf _ _ _))
    unfold qi_hx
    rw [ev]
    exact a1'
  | some xs =>
    refine br_f (by rw [h31 xs ev]; decide) ?_
    have hx' := xw xs ev
    refine yk_product (3 * p) (3 * p + 4) 1 (by omega) (by omega) (by omega) xs _ hx' b1 _ _ _ rfl (nI_add _ 4) rfl _ (fun rc5 rw5 hb5 => ?_)
    refine yk_store (3 * p + 1) (by omega) _ hb5 (qk_pl 1 hx'.1 b1.1) (fun _ => qk_pw (Or.inl rfl) hx'.2.1 b1.2.1) _ (nI_1 _) _ (fun rw6 st6 my6 s6 k6 => fin _ _ _ _ ?_ k6)
    unfold qi_hx
    rw [ev]
    exact s6
theorem qi_seq_n1 {v w : qi_T} (h : v.1 = none) : qi_seq v w = qi_seq2 v w := by
  unfold qi_seq
  rw [h]
theorem qi_seq_n2 {v w : qi_T} (h : w.1 = none) : qi_seq v w = qi_seq2 v w := by
  unfold qi_seq
  rw [h]
  cases v.1 <;> rfl
theorem qi_seq_ss {v w : qi_T} {xs ys : List (List Nat)} (h : v.1 = some xs) (h' : w.1 = some ys) : qi_seq v w = if qi_sh xs ys = true then qi_known (qr_all [] (qr_pr xs ys)) else qi_seq2 v w := by
  unfold qi_seq
  rw [h, h']
theorem qk_sh (xs ys : List (List Nat)) : qi_sh xs ys = true ↔ (qr_all [] (qr_pr xs ys)).length ≤ 8 ∧ ∀ r, r ∈ qr_all [] (qr_pr xs ys) → r.length ≤ 5 := by
  unfold qi_sh
  rw [Bool.and_eq_true, decide_eq_true_eq, List.all_eq_true]
  constructor
  · rintro ⟨h1, h2⟩
    exact ⟨h1, fun r hr => of_decide_eq_true (h2 r ((qr_mem_all.mp hr).elim (fun z => absurd z (by simp)) id))⟩
  · rintro ⟨h1, h2⟩
    exact ⟨h1, fun r hr => decide_eq_true (h2 r (qr_mem_all.mpr (Or.inr hr)))⟩
theorem yk_seq (how : qy_own now yow) (p : Nat) (hp20 : p + 1 < 20) (v w : qi_T) (wv : qi_wf v) (ww : qi_wf w) (hv : qk_sl now yst ymy ycl p v) (hw : qk_sl now yst ymy ycl (p + 1) w) (x : Int32) (ex : x = nI p) (post : SY → Prop)
  (hp : ∀ (rc' : Int32) (rw' st' my' cl' : Nat → Int32), qk_sl now st' my' cl' p (qi_seq v w) → qk_kp p yst ymy ycl st' my' cl' → post (ywa, ydd, ynd, yns, yma, ynt, yno, rc', yfo, ybl, yod, ywr, yan, yab, yac, yad, yal, yabl, yacl, yacf, ynu, yfi, ypa, ysz, yli, ytx, yki, yf1, yf2, yo, yoa, yob, yit, yss, ymo, st', my', cl', rw', yow, yen, yhi, yla)) : wpY_seq post (ywa, ydd, ynd, yns, yma, ynt, yno, yrc, yfo, ybl, yod, ywr, yan, yab, yac, yad, yal, yabl, yacl, yacf, ynu, yfi, ypa, ysz, yli, ytx, yki, yf1, yf2, yo, yoa, yob, yit, yss, ymo, yst, ymy, ycl, yrw, yow, yen, yhi, yla) x := by
  subst ex
  unfold wpY_seq
  refine nm_r (qk_3 p) ?_
  refine yk_isk p (by omega) v hv _ rfl _ (fun nv => ?_) (fun xs ev => ?_)
  · rw [qi_seq_n1 nv] at hp
    refine yk_isk (p + 1) hp20 w hw _ (nI_1 p) _ (fun nw => br_t rfl (br_t rfl ?_)) (fun ys ew => br_t rfl (br_t rfl ?_))
    · exact yk_seq59 how p hp20 v w wv ww hv hw 0 0 (fun _ => rfl) (fun _ e => by rw [nv] at e; exact nomatch e) (fun _ => rfl) (fun _ e => by rw [nw] at e; exact nomatch e) post hp
    · exact yk_seq59 how p hp20 v w wv ww hv hw 0 1 (fun _ => rfl) (fun _ e => by rw [nv] at e; exact nomatch e) (fun e => by rw [ew] at e; exact nomatch e) (fun _ _ => rfl) post hp
  · refine yk_isk (p + 1) hp20 w hw _ (nI_1 p) _ (fun nw => br_f (by decide) (br_t rfl (br_f (by decide) (br_t rfl ?_)))) (fun ys ew => br_f (by decide) (br_f (by decide) ?_))
    · rw [qi_seq_n2 nw] at hp
      exact yk_seq59 how p hp20 v w wv ww hv hw 1 0 (fun e => by rw [ev] at e; exact nomatch e) (fun _ _ => rfl) (fun _ => rfl) (fun _ e => by rw [nw] at e; exact nomatch e) post hp
    · rw [qi_seq_ss ev ew] at hp
      have hx := hv.1 xs ev
      have hy := hw.1 ys ew
      rw [show 3 * (p + 1) = 3 * p + 3 by omega] at hy
      refine yk_product (3 * p) (3 * p + 3) 0 (by omega) (by omega) (by omega) xs ys hx hy _ _ _ rfl (nI_add _ 3) rfl _ (fun rc1 rw1 hb1 => br_f (by decide) (br_f (by decide) ?_))
      rw [qk_cut0] at hb1
      have hl64 := qk_pl 0 hx.1 hy.1
      rw [qk_cut0] at hl64
      refine yk_short _ hb1 hl64 _ (fun h8 h5 => br_f (by decide) ?_) (fun hn => br_t rfl ?_)
      · rw [if_pos ((qk_sh xs ys).mpr ⟨h8, h5⟩)] at hp
        refine yk_store (3 * p) (by omega) _ hb1 hl64 (fun _ r hr => ⟨h5 r hr, (hb1.1 r hr).2⟩) _ rfl _ (fun rw2 st2 my2 s2 k2 => hp _ _ _ _ _ ⟨fun ws e => ?_, fun e => nomatch e⟩ ⟨fun s hs => k2 s (by have : s < 3 * p := hs; omega), fun _ _ => rfl⟩)
        cases e
        have el : qr_lim (qr_all [] (qr_pr xs ys)) = qr_all [] (qr_pr xs ys) := if_pos h8
        rw [el] at s2
        exact s2
      · rw [if_neg (fun h => hn ((qk_sh xs ys).mp h))] at hp
        exact yk_seq59 how p hp20 v w wv ww hv hw 1 1 (fun e => by rw [ev] at e; exact nomatch e) (fun _ _ => rfl) (fun e => by rw [ew] at e; exact nomatch e) (fun _ _ => rfl) post hp
end
end
section
/-! the reference: the claims of all ops -/
theorem qz_ok {op oa ob : Nat → Int32} {n : Nat} {st : List qv_T} {P : Prop} (h : qp_YO qv_lf qv_un qv_bi qv_big op oa ob n st P) : ∀ k, k ≤ n → ∀ v, v ∈ qz_R qv_lf qv_un qv_bi op oa ob k → qv_ok v := by
  intro k
  induction k with
  | zero => exact fun _ v hv => nomatch hv
  | succ k ih =>
    intro hk v hv
    have hi := ih (by omega)
    obtain ⟨o, eo, hc, _, _⟩ := qz_step qv_lf qv_un qv_bi qv_big h (show k < n by omega)
    rcases hc with ⟨hk, hk0, hk2, er⟩ | ⟨hk, er⟩ | ⟨hk, h9, x, s, e0, er⟩ | ⟨hk, y, x, s, e0, er⟩
    · rw [er] at hv
      rcases List.mem_cons.mp hv with z | z
      · subst z
        unfold qp_leaf
        split
        · rename_i o0
          have := (hk0 o0).1
          exact qv_ok_lf 2 _ (fun _ => ⟨_, this, Nat.testBit_two_pow_self⟩)
        · split
          · exact qv_ok_lf 2 63 (fun _ => qi_bit (by omega) (by omega))
          · split
            · rename_i o2
              have := (hk2 o2).1
              exact qv_ok_lf 2 _ (fun _ => qi_bit this.1 this.2)
            · rename_i o2
              exact qv_ok_lf o 0 (fun h => absurd h o2)
      · exact hi v z
    · rw [er] at hv
      rcases List.mem_cons.mp hv with z | z
      · subst z
        exact qv_ok_lf 12 0 (fun h => nomatch h)
      · exact hi v z
    · rw [er] at hv
      rw [e0] at hi
      have hx := hi x (List.mem_cons_self)
      rcases List.mem_cons.mp hv with z | z
      · subst z
        unfold qp_rep
        split
        · exact qv_ok_bi 8 hx (qv_ok_lf 12 0 (fun h => nomatch h))
        · split
          · split
            · exact qv_ok_lf 12 0 (fun h => nomatch h)
            · split
              · exact hx
              · exact qv_ok_un _ _ _ hx
          · exact qv_ok_un _ _ _ hx
      · exact hi v (List.mem_cons_of_mem _ z)
    · rw [er] at hv
      rw [e0] at hi
      rcases List.mem_cons.mp hv with z | z
      · subst z
        exact qv_ok_bi _ (hi x (List.mem_cons_of_mem _ List.mem_cons_self)) (hi y List.mem_cons_self)
      · exact hi v (List.mem_cons_of_mem _ (List.mem_cons_of_mem _ z))
def qk_cnt (a b : Nat) (v : qi_T) : qi_T := if b = 0 then qi_known [[]] else if a = 0 then qi_unk else if b ≤ 1 then v else qi_rep v
section
variable {ywa ydd ynd yns yma ynt yno yrc yfo ybl yod ywr : Int32} {yan yab yac yad yal yabl yacl yacf ynu yfi ypa ysz yli ytx yki yf1 yf2 yo yoa yob yit yss ymo yst ymy ycl yrw yow yhi yla : Nat → Int32} {yen : Nat → Int64} {now : Nat → qf_X}
theorem yk_count (how : qy_own now yow) (p a b : Nat) (hp20 : p < 20) (ha : a < 2 ^ 31) (hb : b < 2 ^ 31) (v : qi_T) (wv : qi_wf v) (hv : qk_sl now yst ymy ycl p v) (x y z : Int32) (ex : x = nI p) (ey : y = nI a) (ez : z = nI b) (post : SY → Prop)
  (hp : ∀ (rc' : Int32) (rw' st' my' cl' : Nat → Int32), qk_sl now st' my' cl' p (qk_cnt a b v) → qk_kp p yst ymy ycl st' my' cl' → post (ywa, ydd, ynd, yns, yma, ynt, yno, rc', yfo, ybl, yod, ywr, yan, yab, yac, yad, yal, yabl, yacl, yacf, ynu, yfi, ypa, ysz, yli, ytx, yki, yf1, yf2, yo, yoa, yob, yit, yss, ymo, st', my', cl', rw', yow, yen, yhi, yla)) : wpY_count post (ywa, ydd, ynd, yns, yma, ynt, yno, yrc, yfo, ybl, yod, ywr, yan, yab, yac, yad, yal, yabl, yacl, yacf, ynu, yfi, ypa, ysz, yli, ytx, yki, yf1, yf2, yo, yoa, yob, yit, yss, ymo, yst, ymy, ycl, yrw, yow, yen, yhi, yla) x y z := by
  subst ex; subst ey; subst ez
  unfold qk_cnt at hp
  unfold wpY_count
  refine pk_eq b 0 (fun e0 => ?_) (fun e0 => pk_eq a 0 (fun ea => ?_) (fun ea => pk_le b 1 (fun h1 => ?_) (fun h1 => ?_)))
  · rw [if_pos e0] at hp
    refine yk_letters (now := now) p 0 hp20 (by omega) _ _ rfl rfl _ (fun rc' rw' st' my' cl' g1 g2 _ _ => hp _ _ _ _ _ ?_ g2)
    exact g1
  · rw [if_neg e0, if_pos ea] at hp
    exact yk_nothing how p hp20 _ rfl _ hp
  · rw [if_neg e0, if_neg ea, if_pos h1] at hp
    exact hp _ _ _ _ _ hv (qk_kp_rf _ _ _ _)
  · rw [if_neg e0, if_neg ea, if_neg (by omega)] at hp
    refine yk_loosen how p hp20 v wv hv _ rfl _ (fun rc' rw' st' my' cl' g1 g2 g3 => And.intro (pk_in (3 * p) 60 (by omega) (qk_3 p)) (nm_e ?_))
    rw [pk_cl (3 * p) (qk_3 p)]
    refine hp _ _ _ _ _ (qk_sl_none (v := qi_rep v) rfl (qk_lo_rep g1)) ⟨fun s hs => ?_, fun q hq => g3 q (by omega)⟩
    have hs' : s < 3 * p := hs
    obtain ⟨c1, c2⟩ := g2 s ⟨by omega, by omega⟩
    exact ⟨(pk_un (by omega)).trans c1, c2⟩
theorem qk_bit1 (a l : Nat) (ha : a < 64) (hl : l < 6) : ((nI a >>> (nI l &&& 31)) &&& 1) = nI (if a.testBit l = true then 1 else 0) := by
  by_cases z : a.testBit l = true
  · rw [if_pos z]
    exact (qb_s1 (nI a) l (by omega)).mpr (by rw [qb_nI a l (by omega)]; exact z)
  · rw [if_neg z]
    exact (qb_s0 (nI a) l (by omega)).mpr (by rw [qb_nI a l (by omega)]; simpa using z)
theorem yk_bits (a : Nat) (ha : a < 64) (x : Int32) (ex : x = nI a) (post : Int32 → Prop) (hp : post (nI (qi_ls a).length)) : wpY_bits post x := by
  subst ex
  have key : ∀ (N l : Nat), l ≤ 6 → 6 - l < N → wY_bits_4 post (nI a) N (nI (qi_lt a l).length) (nI l) := by
    intro N
    induction N with
    | zero => intro l h1 h2; omega
    | succ N ih =>
      intro l h1 h2
      refine pk_le 6 l (fun hle => ?_) (fun hlt => nm_r (e' := nI (qi_lt a (l + 1)).length) ?_ (nm_r (nI_1 l) (ih (l + 1) (by omega) (by omega))))
      · have e : l = 6 := by omega
        subst e
        exact hp
      · rw [qk_bit1 a l ha hlt, nI_add, qi_lt_s, List.length_append]
        congr 2
        split <;> rfl
  exact ⟨7, key 7 0 (by omega) (by omega)⟩
theorem qk_rep_info (o a b : Nat) (x : qv_T) (ho : 6 ≤ o ∧ o ≤ 9) (hab : o = 9 → a ≤ b) : (qp_rep qv_lf qv_un qv_bi o a b x).2.1 = if o = 6 then qi_unk else if o = 7 then qk_cnt 1 2 x.2.1 else if o = 8 then qi_alt x.2.1 (qi_known [[]]) else qk_cnt a b x.2.1 := by
  unfold qp_rep
  by_cases o8 : o = 8
  · subst o8; rfl
  · rw [if_neg o8]
    by_cases o9 : o = 9
    · rw [if_pos o9]
      subst o9
      rw [if_neg (show ¬ 9 = 6 by omega), if_neg (show ¬ 9 = 7 by omega), if_neg o8]
      unfold qk_cnt
      by_cases b0 : b = 0
      · rw [if_pos b0, if_pos b0]; rfl
      · rw [if_neg b0, if_neg b0]
        by_cases h11 : a = 1 ∧ b = 1
        · rw [if_pos h11, if_neg (by omega), if_pos (by omega)]
        · rw [if_neg h11]
          show qi_un 9 a x.2.1 = _
          unfold qi_un
          rw [if_neg (show ¬ 9 = 7 by omega), if_pos rfl]
          by_cases a0 : a = 0
          · rw [if_pos a0, if_pos a0]
          · have := hab rfl
            rw [if_neg a0, if_neg a0, if_neg (show ¬ b ≤ 1 by omega)]
    · rw [if_neg o9]
      by_cases o6 : o = 6
      · subst o6; rfl
      · have o7 : o = 7 := by omega
        subst o7; rfl
theorem yk_claim1 (n : Nat) (hn : n ≤ 33) (hno : yno = nI n) (root : qv_T) (P : Prop) (hO : qp_YO qv_lf qv_un qv_bi qv_big yo yoa yob n [root] P) (how : qy_own now yow) (post : Int32 → SY → Prop)
  (hp : ∀ (x rc' : Int32) (rw' st' my' cl' : Nat → Int32), qk_cl now x root.2.1.2.2.2 → post x (ywa, ydd, ynd, yns, yma, ynt, yno, rc', yfo, ybl, yod, ywr, yan, yab, yac, yad, yal, yabl, yacl, yacf, ynu, yfi, ypa, ysz, yli, ytx, yki, yf1, yf2, yo, yoa, yob, yit, yss, ymo, st', my', cl', rw', yow, yen, yhi, yla)) :
  ∀ (N k : Nat) (rc' : Int32) (rw' st' my' cl' : Nat → Int32), k ≤ n → n - k < N → qz_sl (fun p v => qk_sl now st' my' cl' p v.2.1) (qz_R qv_lf qv_un qv_bi yo yoa yob k) → wY_claim_4 post N (nI (qz_R qv_lf qv_un qv_bi yo yoa yob k).length) (nI k) ywa ydd ynd yns yma ynt yno rc' yfo ybl yod ywr yan yab yac yad yal yabl yacl yacf ynu yfi ypa ysz yli ytx yki yf1 yf2 yo yoa yob yit yss ymo st' my' cl' rw' yow yen yhi yla := by
  intro N
  subst hno
  induction N with
  | zero => intro k rc' rw' st' my' cl' h2 h3; omega
  | succ N ih =>
    intro k rc' rw' st' my' cl' h2 h3 h4
    have hall := qz_ok hO k h2
    refine pk_le n k (fun hle => ?_) (fun hlt => ?_)
    · have e : k = n := by omega
      subst e
      have er : qz_R qv_lf qv_un qv_bi yo yoa yob k = [root] := hO.1
      rw [er] at h4 hall
      refine yk_loosen how 0 (by omega) root.2.1 (hall root List.mem_cons_self).1 h4.1 _ rfl _ (fun rc2 rw2 st2 my2 cl2 g1 g2 g3 => hp _ _ _ _ _ _ g1.2.2)
    · have ck : (nI k).toNatClampNeg = k := nI_clamp (by omega)
      obtain ⟨o, eo, hc, hl1, hl0⟩ := qz_step qv_lf qv_un qv_bi qv_big hO hlt
      have ho : o < 15 := by rcases hc with h | h | h | h <;> omega
      have fin : ∀ (v : qv_T) (s : List qv_T) (rc2 : Int32) (rw2 st2 my2 cl2 : Nat → Int32), qz_R qv_lf qv_un qv_bi yo yoa yob (k + 1) = v :: s → qz_sl (fun p v => qk_sl now st' my' cl' p v.2.1) s → qk_sl now st2 my2 cl2 s.length v.2.1 → qk_kp s.length st' my' cl' st2 my2 cl2 → wY_claim_4 post N (nI (s.length + 1)) (nI (k + 1)) ywa ydd ynd yns yma ynt (nI n) rc2 yfo ybl yod ywr yan yab yac yad yal yabl yacl yacf ynu yfi ypa ysz yli ytx yki yf1 yf2 yo yoa yob yit yss ymo st2 my2 cl2 rw2 yow yen yhi yla := by
        intro v s rc2 rw2 st2 my2 cl2 er hs hv hkp
        have := ih (k + 1) rc2 rw2 st2 my2 cl2 (by omega) (by omega) (by
          rw [er]
          exact ⟨hv, qz_sl_cg (fun p w hp h => qk_sl_kp hkp hp h) hs⟩)
        rw [er, List.length_cons] at this
        exact this
      refine ⟨pk_in k 40 (by omega), nm_r (e' := nI o) (by rw [ck]; exact eo) ?_⟩
      refine yz_gr o ho _ (fun hg => ?_) (fun hg => ?_) (fun hg => ?_)
      · -- a leaf
        generalize hR : qz_R qv_lf qv_un qv_bi yo yoa yob k = s at *
        refine nm_r (nI_1 _) (nm_r (nI_pred _) ?_)
        have unk : ∀ v : qv_T, qz_R qv_lf qv_un qv_bi yo yoa yob (k + 1) = v :: s → v.2.1 = qi_unk → (o = 1 ∨ o = 2) → wY_claim_85 post (wY_claim_4 post N) (nI (s.length + 1)) (nI k) (nI o) (nI s.length) ywa ydd ynd yns yma ynt (nI n) rc' yfo ybl yod ywr yan yab yac yad yal yabl yacl yacf ynu yfi ypa ysz yli ytx yki yf1 yf2 yo yoa yob yit yss ymo st' my' cl' rw' yow yen yhi yla := by
          intro v er ev ho12
          refine pk_lt o 10 (fun _ => ?_) (fun h => by omega)
          refine br_f (xe_kne (q := 13) (by omega) (by omega) (by omega)) (br_f (xe_kne (q := 14) (by omega) (by omega) (by omega)) (br_f (xe_kne (q := 8) (by omega) (by omega) (by omega)) (br_f (xe_kne (q := 7) (by omega) (by omega) (by omega)) (br_f (xe_kne (q := 9) (by omega) (by omega) (by omega)) ?_))))
          refine yk_nothing how s.length (by omega) _ rfl _ (fun rc2 rw2 st2 my2 cl2 g1 g2 => nm_r (nI_1 k) (fin v s _ _ _ _ _ er h4 (by rw [ev]; exact g1) g2))
        have emp : ∀ v : qv_T, qz_R qv_lf qv_un qv_bi yo yoa yob (k + 1) = v :: s → v.2.1 = qi_known [[]] → (10 ≤ o ∧ o ≤ 12) → wY_claim_85 post (wY_claim_4 post N) (nI (s.length + 1)) (nI k) (nI o) (nI s.length) ywa ydd ynd yns yma ynt (nI n) rc' yfo ybl yod ywr yan yab yac yad yal yabl yacl yacf ynu yfi ypa ysz yli ytx yki yf1 yf2 yo yoa yob yit yss ymo st' my' cl' rw' yow yen yhi yla := by
          intro v er ev ho12
          refine pk_lt o 10 (fun _ => by omega) (fun h => pk_lt 12 o (fun _ => by omega) (fun _ => ?_))
          refine yk_letters (now := now) s.length 0 (by omega) (by omega) _ _ rfl rfl _ (fun rc2 rw2 st2 my2 cl2 g1 g2 _ _ => nm_r (nI_1 k) (fin v s _ _ _ _ _ er h4 (by rw [ev]; exact g1) g2))
        rcases hc with ⟨hk, hk0, hk2, er⟩ | ⟨hk, er⟩ | ⟨hk, _⟩ | ⟨hk, _⟩
        · refine pk_eq o 0 (fun o0 => ?_) (fun o0 => pk_eq o 2 (fun o2 => ?_) (fun o2 => ?_))
          · obtain ⟨h6, ea⟩ := hk0 o0
            refine ⟨pk_in k 40 (by omega), ?_⟩
            have e1 : (1 : Int32) <<< (yoa k &&& 31) = nI (2 ^ (yoa k).toNatClampNeg) := by
              have : ∀ a, a < 6 → (1 : Int32) <<< (nI a &&& 31) = nI (2 ^ a) := by decide +kernel
              rw [← this _ h6, ← ea]
            have e2 : ∀ a, a < 6 → 2 ^ a < 64 ∧ 2 ^ a ≠ 0 ∧ (qi_ls (2 ^ a)).length ≤ 3 := by decide +kernel
            obtain ⟨e3, e4, e5⟩ := e2 _ h6
            rw [ck, e1]
            refine yk_letters (now := now) s.length (2 ^ (yoa k).toNatClampNeg) (by omega) e3 _ _ rfl rfl _ (fun rc2 rw2 st2 my2 cl2 g1 g2 _ _ => nm_r (nI_1 k) (fin _ s _ _ _ _ _ er h4 ?_ g2))
            rw [if_neg e4] at g1
            have ei : (qp_leaf qv_lf o (yoa k).toNatClampNeg).2.1 = qi_known ((qi_ls (2 ^ (yoa k).toNatClampNeg)).map (fun l => [l])) := by
              unfold qp_leaf
              rw [if_pos o0]
              show qi_lf 2 _ = _
              unfold qi_lf
              rw [if_pos rfl, if_pos e5]
            rw [ei]
            exact g1
          · obtain ⟨⟨h6, h7⟩, ea⟩ := hk2 o2
            have ei : (qp_leaf qv_lf o (yoa k).toNatClampNeg).2.1 = if (qi_ls (yoa k).toNatClampNeg).length ≤ 3 then qi_known ((qi_ls (yoa k).toNatClampNeg).map (fun l => [l])) else qi_unk := by
              unfold qp_leaf
              rw [if_neg o0, if_neg (by omega), if_pos o2]
              show qi_lf 2 _ = _
              unfold qi_lf
              rw [if_pos rfl]
            refine ⟨pk_in k 40 (by omega), ?_⟩
            rw [ck]
            have hlt6 : (qi_ls (yoa k).toNatClampNeg).length ≤ 6 := qk_lt_len _ 6 (by omega)
            refine yk_bits (yoa k).toNatClampNeg (by omega) _ ea _ (pk_le 4 (qi_ls (yoa k).toNatClampNeg).length (fun h => ?_) (fun h => ⟨pk_in k 40 (by omega), ?_⟩))
            · rw [if_neg (by omega)] at ei
              exact unk _ er ei (by omega)
            · rw [if_pos (by omega)] at ei
              refine yk_letters (now := now) s.length (yoa k).toNatClampNeg (by omega) (by omega) _ _ rfl ea _ (fun rc2 rw2 st2 my2 cl2 g1 g2 _ _ => nm_r (nI_1 k) (fin _ s _ _ _ _ _ er h4 ?_ g2))
              rw [if_neg (by omega)] at g1
              rw [ei]
              exact g1
          · by_cases o1 : o = 1
            · refine unk _ er ?_ (by omega)
              unfold qp_leaf
              rw [if_neg o0, if_pos o1]
              show qi_lf 2 63 = _
              have e6 : ¬ (qi_ls 63).length ≤ 3 := by decide +kernel
              unfold qi_lf
              rw [if_pos rfl, if_neg e6]
            · refine emp _ er ?_ (by omega)
              unfold qp_leaf
              rw [if_neg o0, if_neg o1, if_neg o2]
              show qi_lf o 0 = _
              unfold qi_lf
              rw [if_neg o2]
        · refine br_f (xe_kne (q := 0) (by omega) (by omega) (by omega)) (br_f (xe_kne (q := 2) (by omega) (by omega) (by omega)) ?_)
          exact emp _ er rfl (by omega)
        · omega
        · omega
      · -- a repeat
        rcases hc with ⟨hk, _⟩ | ⟨hk, _⟩ | ⟨hk, h9, x, s, e0, er⟩ | ⟨hk, _⟩
        · omega
        · omega
        · rw [e0] at h4 hl0 hall ⊢
          rw [List.length_cons] at hl0 ⊢
          obtain ⟨hx, hs⟩ := h4
          have wx := (hall x List.mem_cons_self).1
          have hi := qk_rep_info o (yoa k).toNatClampNeg (yob k).toNatClampNeg x hk (fun h => (h9 h).1)
          refine nm_r (e' := nI (s.length + 1)) (by grind) (nm_r (nI_pred _) ?_)
          refine br_f (xe_kne (q := 0) (by omega) (by omega) (by omega)) (br_f (xe_kne (q := 2) (by omega) (by omega) (by omega)) (pk_lt o 10 (fun _ => ?_) (fun h => by omega)))
          refine br_f (xe_kne (q := 13) (by omega) (by omega) (by omega)) (br_f (xe_kne (q := 14) (by omega) (by omega) (by omega)) (pk_eq o 8 (fun e8 => ?_) (fun e8 => pk_eq o 7 (fun e7 => ?_) (fun e7 => pk_eq o 9 (fun e9 => ?_) (fun e9 => ?_)))))
          · rw [if_neg (by omega), if_neg (by omega), if_pos e8] at hi
            refine yk_letters (now := now) (s.length + 1) 0 (by omega) (by omega) _ _ rfl rfl _ (fun rc2 rw2 st2 my2 cl2 g1 g2 _ _ => ?_)
            refine yk_alt how s.length (by omega) x.2.1 (qi_known [[]]) wx (qi_wf_known (qr_wf1 5)) (qk_sl_kp g2 (by omega) hx) g1 _ rfl _ (fun rc3 rw3 st3 my3 cl3 g3 g4 => nm_r (nI_1 k) (fin _ s _ _ _ _ _ er hs (by rw [hi]; exact g3) ?_))
            refine ⟨qk_k_tr g2.1 g4.1 (fun s' hs' => ⟨by have : s' < 3 * s.length := hs'; show s' < 3 * (s.length + 1); omega, hs'⟩), fun q hq => (g4.2 q hq).trans (g2.2 q (by omega))⟩
          · rw [if_neg (by omega), if_pos e7] at hi
            refine yk_count how s.length 1 2 (by omega) (by omega) (by omega) x.2.1 wx hx _ _ _ rfl rfl rfl _ (fun rc2 rw2 st2 my2 cl2 g1 g2 => nm_r (nI_1 k) (fin _ s _ _ _ _ _ er hs (by rw [hi]; exact g1) g2))
          · rw [if_neg (by omega), if_neg e7, if_neg e8] at hi
            obtain ⟨hab, hb3, ea, eb⟩ := h9 e9
            refine ⟨pk_in k 40 (by omega), pk_in k 40 (by omega), ?_⟩
            rw [ck]
            refine yk_count how s.length (yoa k).toNatClampNeg (yob k).toNatClampNeg (by omega) (by omega) (by omega) x.2.1 wx hx _ _ _ rfl ea eb _ (fun rc2 rw2 st2 my2 cl2 g1 g2 => nm_r (nI_1 k) (fin _ s _ _ _ _ _ er hs (by rw [hi]; exact g1) g2))
          · rw [if_pos (by omega)] at hi
            refine yk_nothing how s.length (by omega) _ rfl _ (fun rc2 rw2 st2 my2 cl2 g1 g2 => nm_r (nI_1 k) (fin _ s _ _ _ _ _ er hs (by rw [hi]; exact g1) g2))
        · omega
      · -- a seq, an alt
        rcases hc with ⟨hk, _⟩ | ⟨hk, _⟩ | ⟨hk, _⟩ | ⟨hk, y, x, s, e0, er⟩
        · omega
        · omega
        · omega
        · rw [e0] at h4 hl0 hall ⊢
          rw [List.length_cons, List.length_cons] at hl0 ⊢
          obtain ⟨hy, hx, hs⟩ := h4
          rw [List.length_cons] at hy
          have wx := (hall x (List.mem_cons_of_mem _ List.mem_cons_self)).1
          have wy := (hall y List.mem_cons_self).1
          refine nm_r (pk_m1 _) (nm_r (nI_pred _) ?_)
          refine br_f (xe_kne (q := 0) (by omega) (by omega) (by omega)) (br_f (xe_kne (q := 2) (by omega) (by omega) (by omega)) (pk_lt o 10 (fun _ => by omega) (fun h => pk_lt 12 o (fun _ => ?_) (fun h => by omega))))
          refine pk_eq o 13 (fun e13 => ?_) (fun e13 => br_t (by rw [show o = 14 by omega]; rfl) ?_)
          · rw [if_pos e13] at er
            refine yk_seq how s.length (by omega) x.2.1 y.2.1 wx wy hx hy _ rfl _ (fun rc3 rw3 st3 my3 cl3 g3 g4 => nm_r (nI_1 k) (fin _ s _ _ _ _ _ er hs g3 g4))
          · rw [if_neg e13] at er
            refine yk_alt how s.length (by omega) x.2.1 y.2.1 wx wy hx hy _ rfl _ (fun rc3 rw3 st3 my3 cl3 g3 g4 => nm_r (nI_1 k) (fin _ s _ _ _ _ _ er hs g3 g4))
theorem yk_claim (n : Nat) (hn : n ≤ 33) (hno : yno = nI n) (root : qv_T) (P : Prop) (hO : qp_YO qv_lf qv_un qv_bi qv_big yo yoa yob n [root] P) (how : qy_own now yow) (post : Int32 → SY → Prop)
  (hp : ∀ (x rc' : Int32) (rw' st' my' cl' : Nat → Int32), qk_cl now x root.2.1.2.2.2 → post x (ywa, ydd, ynd, yns, yma, ynt, yno, rc', yfo, ybl, yod, ywr, yan, yab, yac, yad, yal, yabl, yacl, yacf, ynu, yfi, ypa, ysz, yli, ytx, yki, yf1, yf2, yo, yoa, yob, yit, yss, ymo, st', my', cl', rw', yow, yen, yhi, yla)) : wpY_claim post (ywa, ydd, ynd, yns, yma, ynt, yno, yrc, yfo, ybl, yod, ywr, yan, yab, yac, yad, yal, yabl, yacl, yacf, ynu, yfi, ypa, ysz, yli, ytx, yki, yf1, yf2, yo, yoa, yob, yit, yss, ymo, yst, ymy, ycl, yrw, yow, yen, yhi, yla) :=
  ⟨n + 1, yk_claim1 n hn hno root P hO how post hp (n + 1) 0 yrc yrw yst ymy ycl (by omega) (by omega) trivial⟩
end
end
section
/-! the class: where the pieces of a line end -/
def qe_b (x : Int64) (M : Nat → Prop) : Prop := ∀ e, e < 64 → (qb_l x e = true ↔ M e)
def qe_rp (re : Nat → Int64) (D : Nat → qv_T) (c : Nat → Nat) (n nd k : Nat) : Prop := ∀ i, k ≤ i → i ≤ n → qe_b (re (nd * 41 + i)) ((D nd).2.2 c n i)
def qe_re (re : Nat → Int64) (D : Nat → qv_T) (c : Nat → Nat) (n m : Nat) : Prop := ∀ j, j < m → qe_rp re D c n j 0
theorem xg_i (r m : Nat) : nI r * 41 + nI m = nI (r * 41 + m) := by rw [show (41 : Int32) = nI 41 from rfl, pk_mul, nI_add]
section
variable {xwc xdc xdm xsc xtc xnc xmc xbr xwt : Int32} {xch xtl xwf xdn xdf xdl xss xtk xta xtb xnk xna xnb xnl xnr xns xfa xfs xfi xrc xcl xhd xhi xwo : Nat → Int32} {xrw xre : Nat → Int64}
theorem xg_on (r : Nat) (hr : r < 40) (x1 : Int64) (xr' : Int32) (er : xr' = nI r) (post : Int64 → Prop) (hp : ∀ x : Int64, qe_b x (fun e => ∃ m, m < 41 ∧ qb_l x1 m = true ∧ qb_l (xre (r * 41 + m)) e = true) → post x) : wpX_goOn post (xwc, xdc, xdm, xsc, xtc, xnc, xmc, xbr, xwt, xch, xtl, xwf, xdn, xdf, xdl, xss, xtk, xta, xtb, xnk, xna, xnb, xnl, xnr, xns, xfa, xfs, xfi, xrw, xrc, xcl, xhd, xre, xhi, xwo) x1 xr' := by
  subst er
  have key : ∀ (N i : Nat) (x4 : Int64), i ≤ 41 → 41 - i < N → qe_b x4 (fun e => ∃ m, m < i ∧ qb_l x1 m = true ∧ qb_l (xre (r * 41 + m)) e = true) → wX_goOn_6 post x1 (nI r) xwc xdc xdm xsc xtc xnc xmc xbr xwt xch xtl xwf xdn xdf xdl xss xtk xta xtb xnk xna xnb xnl xnr xns xfa xfs xfi xrw xrc xcl xhd xre xhi xwo N x4 (nI i) := by
    intro N
    induction N with
    | zero => intro i x4 h1 h2; omega
    | succ N ih =>
      intro i x4 h1 h2 h3
      refine pk_le 41 i (fun hle => hp x4 ?_) (fun hlt => ek_if (qb_S1 x1 i (by omega)) (fun hb => ⟨pk_in (r * 41 + i) 1640 (by omega) (xg_i r i), nm_e (nm_r (nI_1 i) (ih (i + 1) _ (by omega) (by omega) (fun e he => ?_)))⟩) (fun hb => nm_r (nI_1 i) (ih (i + 1) x4 (by omega) (by omega) (fun e he => ?_))))
      · have : i = 41 := by omega
        subst this
        exact h3
      · rw [pk_cl (r * 41 + i) (xg_i r i), qb_or, Bool.or_eq_true, h3 e he]
        constructor
        · rintro (⟨m, g1, g2, g3⟩ | g)
          · exact ⟨m, by omega, g2, g3⟩
          · exact ⟨i, by omega, hb, g⟩
        · rintro ⟨m, g1, g2, g3⟩
          by_cases z : m = i
          · subst z; exact Or.inr g3
          · exact Or.inl ⟨m, by omega, g2, g3⟩
      · rw [h3 e he]
        constructor
        · rintro ⟨m, g1, g2, g3⟩
          exact ⟨m, by omega, g2, g3⟩
        · rintro ⟨m, g1, g2, g3⟩
          by_cases z : m = i
          · subst z; exact absurd g2 hb
          · exact ⟨m, by omega, g2, g3⟩
  exact ⟨42, key 42 0 0 (by omega) (by omega) (fun e he => by rw [qb_0]; exact ⟨fun h => (nomatch h), fun ⟨m, h, _⟩ => absurd h (by omega)⟩)⟩
/-- the ends of a count of pieces -/
theorem xg_cnt (nd a b l : Nat) (hnd : nd < 40) (ea : xna nd = nI a) (eb : xnb nd = nI b) (el : xnl nd = nI l) (hl : l < 40) (hab : a ≤ b) (hb : b ≤ 3) (n : Nat) (hn : n ≤ 40) (M : qe_M) (hM : ∀ i e, i ≤ n → M i e → i ≤ e ∧ e ≤ n) (hre : ∀ i, i ≤ n → qe_b (xre (l * 41 + i)) (M i)) (i : Nat) (hi : i ≤ n) (x5 : Int64) (h5 : qe_b x5 (fun e => e = i)) (post : Int64 → Prop) (hp : ∀ x, qe_b x (fun e => ∃ q, a ≤ q ∧ q ≤ b ∧ qe_pow M q i e) → post x) : wpX_countedEnds post (xwc, xdc, xdm, xsc, xtc, xnc, xmc, xbr, xwt, xch, xtl, xwf, xdn, xdf, xdl, xss, xtk, xta, xtb, xnk, xna, xnb, xnl, xnr, xns, xfa, xfs, xfi, xrw, xrc, xcl, xhd, xre, xhi, xwo) (nI nd) x5 := by
  have cn : (nI nd).toNatClampNeg = nd := nI_clamp (by omega)
  have hin : vp_in (nI nd) 40 := pk_in nd 40 hnd
  have key : ∀ (N k : Nat) (x4 x6 : Int64), 1 ≤ k → k ≤ b + 1 → b + 1 - k < N → qe_b x4 (fun e => qe_pow M (k - 1) i e) → qe_b x6 (fun e => ∃ q, a ≤ q ∧ q ≤ b ∧ q < k ∧ qe_pow M q i e) → wX_countedEnds_22 post (nI nd) xwc xdc xdm xsc xtc xnc xmc xbr xwt xch xtl xwf xdn xdf xdl xss xtk xta xtb xnk xna xnb xnl xnr xns xfa xfs xfi xrw xrc xcl xhd xre xhi xwo N x4 x6 (nI k) := by
    intro N
    induction N with
    | zero => intro k x4 x6 h1 h2 h3; omega
    | succ N ih =>
      intro k x4 x6 h1 h2 h3 h4 h6
      refine ⟨hin, pk_lt b k (fun hlt => hp x6 (fun e he => ?_)) (fun hle => ⟨hin, ?_⟩) (by rw [cn]; exact eb) rfl⟩
      · rw [h6 e he]
        exact ⟨fun ⟨q, g1, g2, g3, g4⟩ => ⟨q, g1, g2, g4⟩, fun ⟨q, g1, g2, g4⟩ => ⟨q, g1, g2, by omega, g4⟩⟩
      · refine xg_on l hl x4 _ (by rw [cn]; exact el) _ (fun x hx => ⟨hin, ?_⟩)
        have hx' : qe_b x (fun e => qe_pow M k i e) := by
          intro e he
          rw [hx e he]
          obtain ⟨k', rfl⟩ : ∃ k', k = k' + 1 := ⟨k - 1, by omega⟩
          constructor
          · rintro ⟨m, g1, g2, g3⟩
            have g4 := (h4 m (by omega)).mp g2
            have g5 := qe_pow_in M n hM k' i m hi g4
            exact ⟨m, g4, (hre m g5.2 e he).mp g3⟩
          · rintro ⟨m, g1, g2⟩
            have g5 := qe_pow_in M n hM k' i m hi g1
            exact ⟨m, by omega, (h4 m (by omega)).mpr g1, (hre m g5.2 e he).mpr g2⟩
        refine pk_lt k a (fun hka => nm_r (nI_1 k) (ih (k + 1) x x6 (by omega) (by omega) (by omega) hx' (fun e he => ?_))) (fun hka => nm_e (nm_r (nI_1 k) (ih (k + 1) x _ (by omega) (by omega) (by omega) hx' (fun e he => ?_)))) rfl (by rw [cn]; exact ea)
        · rw [h6 e he]
          exact ⟨fun ⟨q, g1, g2, g3, g4⟩ => ⟨q, g1, g2, by omega, g4⟩, fun ⟨q, g1, g2, g3, g4⟩ => ⟨q, g1, g2, by omega, g4⟩⟩
        · rw [qb_or, Bool.or_eq_true, h6 e he, hx' e he]
          constructor
          · rintro (⟨q, g1, g2, g3, g4⟩ | g)
            · exact ⟨q, g1, g2, by omega, g4⟩
            · exact ⟨k, hka, hle, by omega, g⟩
          · rintro ⟨q, g1, g2, g3, g4⟩
            by_cases z : q = k
            · subst z; exact Or.inr g4
            · exact Or.inl ⟨q, g1, g2, by omega, g4⟩
  have h0 : qe_b x5 (fun e => qe_pow M (1 - 1) i e) := fun e he => (h5 e he).trans ⟨fun h => h.symm, fun h => Eq.symm h⟩
  refine And.intro hin (pk_eq a 0 (fun e0 => ⟨b + 1, key (b + 1) 1 x5 x5 (by omega) (by omega) (by omega) h0 (fun e he => ?_)⟩) (fun e0 => ⟨b + 1, key (b + 1) 1 x5 0 (by omega) (by omega) (by omega) h0 (fun e he => ?_)⟩) (by rw [cn]; exact ea) rfl)
  · rw [h0 e he]
    constructor
    · exact fun g => ⟨0, by omega, by omega, by omega, g⟩
    · rintro ⟨q, g1, g2, g3, g4⟩
      have : q = 0 := by omega
      subst this
      exact g4
  · rw [qb_0]
    exact ⟨fun h => (nomatch h), fun ⟨q, g1, g2, g3, g4⟩ => by omega⟩
/-- what goes on from the other ends of a piece -/
theorem qe_go {x1 x : Int64} {re : Nat → Int64} {r n k : Nat} {A : Nat → Prop} {C : qe_M} (hn : n ≤ 40) (hx : qe_b x (fun e => ∃ m, m < 41 ∧ qb_l x1 m = true ∧ qb_l (re (r * 41 + m)) e = true)) (h1 : qe_b x1 A) (hA : ∀ m, A m → k ≤ m ∧ m ≤ n) (hre : ∀ m, k ≤ m → m ≤ n → qe_b (re (r * 41 + m)) (C m)) : qe_b x (fun e => ∃ m, A m ∧ C m e) := by
  intro e he
  rw [hx e he]
  constructor
  · rintro ⟨m, g1, g2, g3⟩
    have a := (h1 m (by omega)).mp g2
    have b := hA m a
    exact ⟨m, a, (hre m b.1 b.2 e he).mp g3⟩
  · rintro ⟨m, a, g⟩
    have b := hA m a
    exact ⟨m, by omega, (h1 m (by omega)).mpr a, (hre m b.1 b.2 e he).mpr g⟩
theorem xg_from (nd m i n B : Nat) (c : Nat → Nat) (D : Nat → qv_T) (hm : m ≤ 33) (hnd : nd < m) (hi : i ≤ n) (hn : n ≤ 40) (hc : ∀ j, j < n → c j < 6) (hB : B + n ≤ 3640) (hch : ∀ j, j < n → xch (B + j) = nI (c j)) (hok : qn_ok qv_lf qv_un qv_bi xnk xna xnb xnl xnr m D) (hv : ∀ j, j < m → qv_ok (D j)) (hre : qe_re xre D c n nd) (hrp : qe_rp xre D c n nd (i + 1)) (post : Int64 → Prop) (hp : ∀ x, qe_b x ((D nd).2.2 c n i) → post x) : wpX_endsFrom post (xwc, xdc, xdm, xsc, xtc, xnc, xmc, xbr, xwt, xch, xtl, xwf, xdn, xdf, xdl, xss, xtk, xta, xtb, xnk, xna, xnb, xnl, xnr, xns, xfa, xfs, xfi, xrw, xrc, xcl, xhd, xre, xhi, xwo) (nI nd) (nI i) (nI B) (nI n) := by
  have cn : (nI nd).toNatClampNeg = nd := nI_clamp (by omega)
  have hin : vp_in (nI nd) 40 := pk_in nd 40 (by omega)
  obtain ⟨k', l', r', h1, h2, h3, h4, h5, h6⟩ := hok nd hnd
  have hh : qe_b ((1 : Int64) <<< ((nI i).toInt64 &&& 63)) (fun e => e = i) := fun e he => by rw [qb_here i (by omega) e he, decide_eq_true_eq]
  unfold wpX_endsFrom
  refine nm_e (And.intro hin (nm_r (e' := nI l') (by rw [cn]; exact h2) (And.intro hin (nm_r (e' := nI r') (by rw [cn]; exact h3) (And.intro (pk_in (l' * 41 + i) 1640 (by omega) (xg_i l' i)) (nm_r (e' := xre (l' * 41 + i)) (by rw [pk_cl (l' * 41 + i) (xg_i l' i)]) (And.intro hin (nm_r (e' := nI k') (by rw [cn]; exact h1) ?_))))))))
  have hother : qe_b ((((1 : Int64) <<< ((nI i).toInt64 &&& 63))) ^^^ (-1)) (fun e => e ≠ i) := fun e he => by
    rw [qb_not _ e he]
    have := hh e he
    cases z : qb_l ((1 : Int64) <<< ((nI i).toInt64 &&& 63)) e
    · rw [z] at this
      simpa using this
    · rw [z] at this
      simpa using this
  have hxo : l' < nd → qe_b (xre (l' * 41 + i) &&& (((1 : Int64) <<< ((nI i).toInt64 &&& 63)) ^^^ (-1))) (fun e => i < e ∧ (D l').2.2 c n i e) := fun hl e he => by
    rw [qb_and, Bool.and_eq_true, hre l' hl i (by omega) hi e he, hother e he]
    constructor
    · rintro ⟨g1, g2⟩
      have := qv_in (hv l' (by omega)) hc hi g1
      exact ⟨by omega, g1⟩
    · rintro ⟨g1, g2⟩
      exact ⟨g2, by omega⟩
  rcases h6 with ⟨hk, a', e1, e2, e3, ev⟩ | ⟨hk, ev⟩ | ⟨hk, hl, ev⟩ | ⟨hk, hl, a', b', e1, e2, e3, e4, e5, ev⟩ | ⟨hk, hl, hr, ev⟩
  · subst hk
    have eM : ∀ e, (D nd).2.2 c n i e ↔ i < n ∧ e = i + 1 ∧ a'.testBit (c i) = true := fun e => by
      rw [ev]
      show qe_lf 2 a' c n i e ↔ _
      unfold qe_lf
      rw [if_pos rfl]
    refine br_f (by decide) (br_f (by decide) (br_t rfl (pk_le n i (fun hle => hp 0 (fun e he => ?_)) (fun hlt => ⟨hin, pk_in (B + i) 3640 (by omega) (nI_add B i), ?_⟩))))
    · rw [qb_0, eM e]
      exact ⟨fun h => (nomatch h), fun h => by omega⟩
    · rw [cn, pk_cl (B + i) (nI_add B i)]
      refine xn_incl a' (c i) (hc i hlt) _ _ e1 (hch i hlt) _ (fun hb => br_f (by decide) (hp _ (fun e he => ?_))) (fun hb => br_t rfl (hp 0 (fun e he => ?_)))
      · rw [qb_here1 i (by omega) e he, decide_eq_true_eq, eM e]
        exact ⟨fun h => ⟨hlt, h, hb⟩, fun h => h.2.1⟩
      · rw [qb_0, eM e, hb]
        exact ⟨fun h => (nomatch h), fun h => (nomatch h.2.2)⟩
  · refine br_f (nI_nlt (a := k') (b := 2) (by omega) (by omega)) (br_f (nI_nlt (a := 13) (b := k') (by omega) (by omega)) (br_f (xe_kne (q := 2) (by omega) (by omega) (by omega)) (br_f (xe_kne (q := 3) (by omega) (by omega) (by omega)) (br_f (xe_kne (q := 4) (by omega) (by omega) (by omega)) (br_f (xe_kne (q := 5) (by omega) (by omega) (by omega)) (br_f (xe_kne (q := 6) (by omega) (by omega) (by omega)) (br_f (xe_kne (q := 7) (by omega) (by omega) (by omega)) (br_f (xe_kne (q := 8) (by omega) (by omega) (by omega)) (br_f (xe_kne (q := 9) (by omega) (by omega) (by omega)) ?_)))))))))
    have eM : ∀ e, (D nd).2.2 c n i e ↔ (if k' = 10 then i = 0 ∧ e = i else if k' = 11 then i = n ∧ e = i else e = i) := fun e => by
      rw [ev]
      show qe_lf k' 0 c n i e ↔ _
      unfold qe_lf
      rw [if_neg (by omega)]
    refine pk_eq k' 10 (fun e10 => pk_eq i 0 (fun z => hp _ (fun e he => ?_)) (fun z => hp 0 (fun e he => ?_))) (fun e10 => pk_eq k' 11 (fun e11 => pk_eq i n (fun z => hp _ (fun e he => ?_)) (fun z => hp 0 (fun e he => ?_))) (fun e11 => br_t (by rw [show k' = 12 by omega]; rfl) (hp _ (fun e he => ?_))))
    · rw [hh e he, eM e, if_pos e10]
      exact ⟨fun h => ⟨z, h⟩, fun h => h.2⟩
    · rw [qb_0, eM e, if_pos e10]
      exact ⟨fun h => (nomatch h), fun h => absurd h.1 z⟩
    · rw [hh e he, eM e, if_neg e10, if_pos e11]
      exact ⟨fun h => ⟨z, h⟩, fun h => h.2⟩
    · rw [qb_0, eM e, if_neg e10, if_pos e11]
      exact ⟨fun h => (nomatch h), fun h => absurd h.1 z⟩
    · rw [hh e he, eM e, if_neg e10, if_neg e11]
  · have hMl : ∀ a b, a ≤ n → (D l').2.2 c n a b → a ≤ b ∧ b ≤ n := fun a b ha => qv_in (hv l' (by omega)) hc ha
    refine br_f (nI_nlt (a := k') (b := 2) (by omega) (by omega)) (br_f (nI_nlt (a := 13) (b := k') (by omega) (by omega)) (br_f (xe_kne (q := 2) (by omega) (by omega) (by omega)) (br_f (xe_kne (q := 3) (by omega) (by omega) (by omega)) (br_f (xe_kne (q := 4) (by omega) (by omega) (by omega)) (br_f (xe_kne (q := 5) (by omega) (by omega) (by omega)) ?_)))))
    have hA : ∀ m, i < m ∧ (D l').2.2 c n i m → i + 1 ≤ m ∧ m ≤ n := fun m hm => ⟨hm.1, (hMl i m hi hm.2).2⟩
    refine pk_eq k' 6 (fun e6 => ?_) (fun e6 => br_t (by rw [show k' = 7 by omega]; rfl) ?_)
    · refine xg_on nd (by omega) _ _ rfl _ (fun x hx => hp _ (fun e he => ?_))
      have hx2 := qe_go (k := i + 1) hn hx (hxo hl) hA (fun m g1 g2 => hrp m g1 g2)
      have eM : ∀ a b, (D nd).2.2 c n a b ↔ qe_star ((D l').2.2 c n) a b := fun a b => by
        rw [ev]
        show qe_un k' 0 0 _ a b ↔ _
        unfold qe_un
        rw [if_pos e6]
      rw [qb_or, Bool.or_eq_true, hh e he, hx2 e he, eM i e, qe_star_eq]
      constructor
      · rintro (g | ⟨m, ⟨g1, g2⟩, g3⟩)
        · exact Or.inl g.symm
        · exact Or.inr ⟨m, g1, g2, (eM m e).mp g3⟩
      · rintro (g | ⟨m, g1, g2, g3⟩)
        · exact Or.inl g.symm
        · exact Or.inr ⟨m, ⟨g1, g2⟩, (eM m e).mpr g3⟩
    · have e7 : k' = 7 := by omega
      refine xg_on nd (by omega) _ _ rfl _ (fun x hx => hp _ (fun e he => ?_))
      have hx2 := qe_go (k := i + 1) hn hx (hxo hl) hA (fun m g1 g2 => hrp m g1 g2)
      have eM : ∀ a b, (D nd).2.2 c n a b ↔ ∃ m, (D l').2.2 c n a m ∧ qe_star ((D l').2.2 c n) m b := fun a b => by
        rw [ev]
        show qe_un k' 0 0 _ a b ↔ _
        unfold qe_un
        rw [if_neg e6, if_pos e7]
      rw [qb_or, Bool.or_eq_true, hre l' hl i (by omega) hi e he, hx2 e he, eM i e, qe_plus_eq _ n hMl i e hi]
      constructor
      · rintro (g | ⟨m, ⟨g1, g2⟩, g3⟩)
        · exact Or.inl g
        · exact Or.inr ⟨m, g1, g2, (eM m e).mp g3⟩
      · rintro (g | ⟨m, g1, g2, g3⟩)
        · exact Or.inl g
        · exact Or.inr ⟨m, ⟨g1, g2⟩, (eM m e).mpr g3⟩
  · have hMl : ∀ a b, a ≤ n → (D l').2.2 c n a b → a ≤ b ∧ b ≤ n := fun a b ha => qv_in (hv l' (by omega)) hc ha
    subst hk
    refine br_f (by decide) (br_f (by decide) (br_f (by decide) (br_f (by decide) (br_f (by decide) (br_f (by decide) (br_f (by decide) (br_f (by decide) (br_f (by decide) (br_t rfl ?_)))))))))
    refine xg_cnt nd a' b' l' (by omega) e1 e2 h2 (by omega) e3 e4 n hn _ hMl (fun j hj => hre l' hl j (by omega) hj) i hi _ hh _ (fun x hx => hp x (fun e he => ?_))
    rw [hx e he, ev]
    show _ ↔ qe_un 9 a' b' _ i e
    unfold qe_un
    rw [if_neg (by decide), if_neg (by decide)]
  · have alt : (k' = 5 ∨ k' = 8) → wX_endsFrom_166 post (nI i) (nI r') (xre (l' * 41 + i)) xwc xdc xdm xsc xtc xnc xmc xbr xwt xch xtl xwf xdn xdf xdl xss xtk xta xtb xnk xna xnb xnl xnr xns xfa xfs xfi xrw xrc xcl xhd xre xhi xwo := by
      intro hk2
      refine And.intro (pk_in (r' * 41 + i) 1640 (by omega) (xg_i r' i)) (hp _ (fun e he => ?_))
      rw [pk_cl (r' * 41 + i) (xg_i r' i), qb_or, Bool.or_eq_true, hre l' hl i (by omega) hi e he, hre r' hr i (by omega) hi e he, ev]
      show _ ↔ qe_bi k' _ _ i e
      unfold qe_bi
      rw [if_neg (by omega)]
    refine br_f (nI_nlt (a := k') (b := 2) (by omega) (by omega)) (br_f (nI_nlt (a := 13) (b := k') (by omega) (by omega)) (br_f (xe_kne (q := 2) (by omega) (by omega) (by omega)) (br_f (xe_kne (q := 3) (by omega) (by omega) (by omega)) (br_f (xe_kne (q := 4) (by omega) (by omega) (by omega)) (pk_eq k' 5 (fun e5 => alt (Or.inl e5)) (fun e5 => ?_))))))
    refine br_f (xe_kne (q := 6) (by omega) (by omega) (by omega)) (br_f (xe_kne (q := 7) (by omega) (by omega) (by omega)) (pk_eq k' 8 (fun e8 => alt (Or.inr e8)) (fun e8 => ?_)))
    refine br_f (xe_kne (q := 9) (by omega) (by omega) (by omega)) (br_f (xe_kne (q := 10) (by omega) (by omega) (by omega)) (br_f (xe_kne (q := 11) (by omega) (by omega) (by omega)) (br_f (xe_kne (q := 12) (by omega) (by omega) (by omega)) (br_t (by rw [show k' = 13 by omega]; rfl) ?_))))
    refine xg_on r' (by omega) _ _ rfl _ (fun x hx => hp _ (fun e he => ?_))
    have hx2 := qe_go (k := 0) hn hx (hre l' hl i (by omega) hi) (fun m hm => ⟨by omega, (qv_in (hv l' (by omega)) hc hi hm).2⟩) (fun m g1 g2 => hre r' hr m g1 g2)
    rw [hx2 e he, ev]
    show _ ↔ qe_bi k' _ _ i e
    unfold qe_bi
    rw [if_pos (by omega)]
theorem xg_find (m n B : Nat) (c : Nat → Nat) (D : Nat → qv_T) (hm : m ≤ 33) (hnc : xnc = nI m) (hn : n ≤ 40) (hc : ∀ j, j < n → c j < 6) (hB : B + n ≤ 3640) (hch : ∀ j, j < n → xch (B + j) = nI (c j)) (hok : qn_ok qv_lf qv_un qv_bi xnk xna xnb xnl xnr m D) (hv : ∀ j, j < m → qv_ok (D j)) (xB xn : Int32) (eB : xB = nI B) (en : xn = nI n) (post : SX → Prop) (hp : ∀ re' : Nat → Int64, qe_re re' D c n m → post (xwc, xdc, xdm, xsc, xtc, xnc, xmc, xbr, xwt, xch, xtl, xwf, xdn, xdf, xdl, xss, xtk, xta, xtb, xnk, xna, xnb, xnl, xnr, xns, xfa, xfs, xfi, xrw, xrc, xcl, xhd, re', xhi, xwo)) : wpX_findPieces post (xwc, xdc, xdm, xsc, xtc, xnc, xmc, xbr, xwt, xch, xtl, xwf, xdn, xdf, xdl, xss, xtk, xta, xtb, xnk, xna, xnb, xnl, xnr, xns, xfa, xfs, xfi, xrw, xrc, xcl, xhd, xre, xhi, xwo) xB xn := by
  subst eB; subst en; subst hnc
  have inner : ∀ (nd : Nat) (J : Int32 → (Nat → Int32) → (Nat → Int32) → (Nat → Int32) → (Nat → Int32) → (Nat → Int32) → (Nat → Int32) → (Nat → Int32) → (Nat → Int32) → (Nat → Int32) → (Nat → Int32) → (Nat → Int32) → (Nat → Int32) → (Nat → Int32) → (Nat → Int32) → (Nat → Int32) → (Nat → Int32) → (Nat → Int32) → (Nat → Int32) → (Nat → Int32) → (Nat → Int64) → (Nat → Int32) → (Nat → Int32) → (Nat → Int32) → (Nat → Int64) → (Nat → Int32) → (Nat → Int32) → Prop), nd < m → (∀ re' : Nat → Int64, qe_re re' D c n (nd + 1) → J (nI (nd + 1)) xch xtl xwf xdn xdf xdl xss xtk xta xtb xnk xna xnb xnl xnr xns xfa xfs xfi xrw xrc xcl xhd re' xhi xwo) → ∀ (N k : Nat) (x4 : Int32) (re' : Nat → Int64), k ≤ n + 1 → k < N → x4 = nI k + (-1) → qe_re re' D c n nd → qe_rp re' D c n nd k → wX_findPieces_13 post J (nI B) (nI n) (nI nd) xwc xdc xdm xsc xtc (nI m) xmc xbr xwt N x4 xch xtl xwf xdn xdf xdl xss xtk xta xtb xnk xna xnb xnl xnr xns xfa xfs xfi xrw xrc xcl xhd re' xhi xwo := by
    intro nd J hnd hJ N
    induction N with
    | zero => intro k x4 re' h1 h2; omega
    | succ N ih =>
      intro k x4 re' h1 h2 e4 h3 h4
      rcases Nat.eq_zero_or_pos k with z0 | z0
      · subst z0
        subst e4
        refine br_t (by decide) (nm_r (nI_1 nd) (hJ re' (fun j hj => ?_)))
        by_cases z : j = nd
        · subst z; exact h4
        · exact h3 j (by omega)
      · obtain ⟨q, rfl⟩ : ∃ q, k = q + 1 := ⟨k - 1, by omega⟩
        rw [pk_m1] at e4
        subst e4
        refine br_f (nI_nlt (a := q) (b := 0) (Nat.zero_le _) (by omega)) ?_
        refine xg_from nd m q n B c D hm hnd (by omega) hn hc hB hch hok hv h3 h4 _ (fun x hx => ⟨pk_in (nd * 41 + q) 1640 (by omega) (xg_i nd q), nm_e (nm_e ?_)⟩)
        rw [pk_cl (nd * 41 + q) (xg_i nd q)]
        refine ih q _ _ (by omega) (by omega) rfl (fun j hj i g1 g2 => ?_) (fun i g1 g2 => ?_)
        · rw [pk_uLn (by omega)]
          exact h3 j hj i g1 g2
        · by_cases z : i = q
          · subst z
            rw [pk_uLs]
            exact hx
          · rw [pk_uLn (by omega)]
            exact h4 i (by omega) g2
  have outer : ∀ (N nd : Nat) (re' : Nat → Int64), nd ≤ m → m - nd < N → qe_re re' D c n nd → wX_findPieces_2 post (nI B) (nI n) xwc xdc xdm xsc xtc (nI m) xmc xbr xwt N (nI nd) xch xtl xwf xdn xdf xdl xss xtk xta xtb xnk xna xnb xnl xnr xns xfa xfs xfi xrw xrc xcl xhd re' xhi xwo := by
    intro N
    induction N with
    | zero => intro nd re' h1 h2; omega
    | succ N ih =>
      intro nd re' h1 h2 h3
      refine pk_le m nd (fun hle => hp re' ?_) (fun hlt => ⟨n + 2, inner nd _ hlt (fun re2 h => ih (nd + 1) re2 (by omega) (by omega) h) (n + 2) (n + 1) _ re' (by omega) (by omega) (pk_m1 n).symm h3 (fun i g1 g2 => by omega)⟩)
      have : nd = m := by omega
      subst this
      exact h3
  exact ⟨m + 1, outer (m + 1) 0 xre (by omega) (by omega) (fun j hj => absurd hj (by omega))⟩
end
end
section
/-! the reference: where the pieces of a line end -/
def qe_row (en : Nat → Int64) (b n : Nat) (M : qe_M) : Prop := ∀ i, i ≤ n → qe_b (en (b + i)) (M i)
def qe_kp (b n : Nat) (en en' : Nat → Int64) : Prop := ∀ j, j < b ∨ b + n < j → en' j = en j
theorem qe_row_kp {b n b' n' : Nat} {en en' : Nat → Int64} {M : qe_M} (h : qe_kp b n en en') (hd : b' + n' < b ∨ b + n < b') (hr : qe_row en b' n' M) : qe_row en' b' n' M := by
  intro i hi
  rw [h (b' + i) (by omega)]
  exact hr i hi
theorem qe_kp_tr {b n : Nat} {en en' en'' : Nat → Int64} (h : qe_kp b n en en') (h' : qe_kp b n en' en'') : qe_kp b n en en'' := fun j hj => (h' j hj).trans (h j hj)
section
variable {ywa ydd ynd yns yma ynt yno yrc yfo ybl yod ywr : Int32} {yan yab yac yad yal yabl yacl yacf ynu yfi ypa ysz yli ytx yki yf1 yf2 yo yoa yob yit yss ymo yst ymy ycl yrw yow yhi yla : Nat → Int32} {yen : Nat → Int64}
theorem yg_copy (b1 b2 n : Nat) (hn : n ≤ 40) (h1 : b1 + n < 779) (h2 : b2 + n < 779) (hd : b1 + n < b2) (M : qe_M) (hr : qe_row yen b1 n M) (x1 x2 x3 : Int32) (e1 : x1 = nI b1) (e2 : x2 = nI b2) (e3 : x3 = nI n) (post : SY → Prop) (hp : ∀ en' : Nat → Int64, qe_row en' b2 n M → qe_kp b2 n yen en' → post (ywa, ydd, ynd, yns, yma, ynt, yno, yrc, yfo, ybl, yod, ywr, yan, yab, yac, yad, yal, yabl, yacl, yacf, ynu, yfi, ypa, ysz, yli, ytx, yki, yf1, yf2, yo, yoa, yob, yit, yss, ymo, yst, ymy, ycl, yrw, yow, en', yhi, yla)) : wpY_copy post (ywa, ydd, ynd, yns, yma, ynt, yno, yrc, yfo, ybl, yod, ywr, yan, yab, yac, yad, yal, yabl, yacl, yacf, ynu, yfi, ypa, ysz, yli, ytx, yki, yf1, yf2, yo, yoa, yob, yit, yss, ymo, yst, ymy, ycl, yrw, yow, yen, yhi, yla) x1 x2 x3 := by
  subst e1; subst e2; subst e3
  have key : ∀ (N i : Nat) (en' : Nat → Int64), i ≤ n + 1 → n + 1 - i < N → (∀ j, j < i → qe_b (en' (b2 + j)) (M j)) → qe_kp b2 n yen en' → wY_copy_3 post (nI b1) (nI b2) (nI n) ywa ydd ynd yns yma ynt yno yrc yfo ybl yod ywr N (nI i) yan yab yac yad yal yabl yacl yacf ynu yfi ypa ysz yli ytx yki yf1 yf2 yo yoa yob yit yss ymo yst ymy ycl yrw yow en' yhi yla := by
    intro N
    induction N with
    | zero => intro i en' g1 g2; omega
    | succ N ih =>
      intro i en' g1 g2 g3 g4
      refine pk_lt n i (fun hlt => hp en' (fun j hj => g3 j (by omega)) g4) (fun hle => ⟨pk_in (b1 + i) 779 (by omega) (nI_add _ _), pk_in (b2 + i) 779 (by omega) (nI_add _ _), nm_e (nm_r (nI_1 i) ?_)⟩)
      rw [pk_cl (b1 + i) (nI_add _ _), pk_cl (b2 + i) (nI_add _ _)]
      refine ih (i + 1) _ (by omega) (by omega) (fun j hj => ?_) (fun j hj => ?_)
      · by_cases z : j = i
        · subst z
          rw [pk_uLs, g4 (b1 + j) (by omega)]
          exact hr j (by omega)
        · rw [pk_uLn (by omega)]
          exact g3 j (by omega)
      · rw [pk_uLn (by omega)]
        exact g4 j hj
  exact ⟨n + 2, key (n + 2) 0 yen (by omega) (by omega) (fun j hj => absurd hj (by omega)) (fun _ _ => rfl)⟩
def qe_fw (keep : Nat) (A B : qe_M) : qe_M := fun i e => (keep ≠ 0 ∧ A i e) ∨ ∃ m, A i m ∧ B m e
theorem yg_follow (b1 b2 n keep : Nat) (hn : n ≤ 40) (h1 : b1 + n < 779) (h2 : b2 + n < 779) (hd : b1 + n < b2) (hkp : keep ≤ 1) (A B : qe_M) (hA : ∀ i e, i ≤ n → A i e → i ≤ e ∧ e ≤ n) (hrA : qe_row yen b1 n A) (hrB : qe_row yen b2 n B) (x1 x2 x3 x4 : Int32) (e1 : x1 = nI b1) (e2 : x2 = nI b2) (e3 : x3 = nI n) (e4 : x4 = nI keep) (post : SY → Prop) (hp : ∀ en' : Nat → Int64, qe_row en' b1 n (qe_fw keep A B) → qe_kp b1 n yen en' → post (ywa, ydd, ynd, yns, yma, ynt, yno, yrc, yfo, ybl, yod, ywr, yan, yab, yac, yad, yal, yabl, yacl, yacf, ynu, yfi, ypa, ysz, yli, ytx, yki, yf1, yf2, yo, yoa, yob, yit, yss, ymo, yst, ymy, ycl, yrw, yow, en', yhi, yla)) : wpY_follow post (ywa, ydd, ynd, yns, yma, ynt, yno, yrc, yfo, ybl, yod, ywr, yan, yab, yac, yad, yal, yabl, yacl, yacf, ynu, yfi, ypa, ysz, yli, ytx, yki, yf1, yf2, yo, yoa, yob, yit, yss, ymo, yst, ymy, ycl, yrw, yow, yen, yhi, yla) x1 x2 x3 x4 := by
  subst e1; subst e2; subst e3; subst e4
  have inner : ∀ (en' : Nat → Int64) (i : Nat) (J : Int32 → (Nat → Int32) → (Nat → Int32) → (Nat → Int32) → (Nat → Int32) → (Nat → Int32) → (Nat → Int32) → (Nat → Int32) → (Nat → Int32) → (Nat → Int32) → (Nat → Int32) → (Nat → Int32) → (Nat → Int32) → (Nat → Int32) → (Nat → Int32) → (Nat → Int32) → (Nat → Int32) → (Nat → Int32) → (Nat → Int32) → (Nat → Int32) → (Nat → Int32) → (Nat → Int32) → (Nat → Int32) → (Nat → Int32) → (Nat → Int32) → (Nat → Int32) → (Nat → Int32) → (Nat → Int32) → (Nat → Int32) → (Nat → Int64) → (Nat → Int32) → (Nat → Int32) → Prop), i ≤ n → qe_b (en' (b1 + i)) (A i) → qe_row en' b2 n B → (∀ x : Int64, qe_b x (qe_fw keep A B i) → J (nI (i + 1)) yan yab yac yad yal yabl yacl yacf ynu yfi ypa ysz yli ytx yki yf1 yf2 yo yoa yob yit yss ymo yst ymy ycl yrw yow (vp_updL en' (b1 + i) x) yhi yla) → ∀ (N j : Nat) (x6 : Int64), i ≤ j → j ≤ n + 1 → n + 1 - j < N → qe_b x6 (fun e => (keep ≠ 0 ∧ A i e) ∨ ∃ m, m < j ∧ A i m ∧ B m e) → wY_follow_33 post J (nI b1) (nI b2) (nI n) (nI keep) (nI i) ywa ydd ynd yns yma ynt yno yrc yfo ybl yod ywr yan yab yac yad yal yabl yacl yacf ynu yfi ypa ysz yli ytx yki yf1 yf2 yo yoa yob yit yss ymo yst ymy ycl yrw yow en' yhi yla N x6 (nI j) := by
    intro en' i J hi ha hb hJ N
    induction N with
    | zero => intro j x6 g1 g2 g3; omega
    | succ N ih =>
      intro j x6 g1 g2 g3 g4
      refine pk_lt n j (fun hlt => ⟨pk_in (b1 + i) 779 (by omega) (nI_add _ _), nm_e (nm_r (nI_1 i) ?_)⟩) (fun hle => ⟨pk_in (b1 + i) 779 (by omega) (nI_add _ _), ?_⟩)
      · rw [pk_cl (b1 + i) (nI_add _ _)]
        refine hJ x6 (fun e he => ?_)
        rw [g4 e he]
        unfold qe_fw
        constructor
        · rintro (g | ⟨m, g5, g6, g7⟩)
          · exact Or.inl g
          · exact Or.inr ⟨m, g6, g7⟩
        · rintro (g | ⟨m, g6, g7⟩)
          · exact Or.inl g
          · exact Or.inr ⟨m, by have := hA i m hi g6; omega, g6, g7⟩
      · rw [pk_cl (b1 + i) (nI_add _ _)]
        refine ek_if ((qb_S1 _ j (by omega)).trans (ha j (by omega))) (fun hb1 => ⟨pk_in (b2 + j) 779 (by omega) (nI_add _ _), nm_e (nm_r (nI_1 j) (ih (j + 1) _ (by omega) (by omega) (by omega) (fun e he => ?_)))⟩) (fun hb1 => nm_r (nI_1 j) (ih (j + 1) x6 (by omega) (by omega) (by omega) (fun e he => ?_)))
        · rw [pk_cl (b2 + j) (nI_add _ _), qb_or, Bool.or_eq_true, g4 e he, hb j hle e he]
          constructor
          · rintro ((g | ⟨m, g5, g6, g7⟩) | g)
            · exact Or.inl g
            · exact Or.inr ⟨m, by omega, g6, g7⟩
            · exact Or.inr ⟨j, by omega, hb1, g⟩
          · rintro (g | ⟨m, g5, g6, g7⟩)
            · exact Or.inl (Or.inl g)
            · by_cases z : m = j
              · subst z; exact Or.inr g7
              · exact Or.inl (Or.inr ⟨m, by omega, g6, g7⟩)
        · rw [g4 e he]
          constructor
          · rintro (g | ⟨m, g5, g6, g7⟩)
            · exact Or.inl g
            · exact Or.inr ⟨m, by omega, g6, g7⟩
          · rintro (g | ⟨m, g5, g6, g7⟩)
            · exact Or.inl g
            · by_cases z : m = j
              · subst z; exact absurd g6 hb1
              · exact Or.inr ⟨m, by omega, g6, g7⟩
  have outer : ∀ (N i : Nat) (en' : Nat → Int64), i ≤ n + 1 → n + 1 - i < N → (∀ j, j < i → qe_b (en' (b1 + j)) (qe_fw keep A B j)) → (∀ j, i ≤ j → j ≤ n → en' (b1 + j) = yen (b1 + j)) → qe_kp b1 n yen en' → wY_follow_3 post (nI b1) (nI b2) (nI n) (nI keep) ywa ydd ynd yns yma ynt yno yrc yfo ybl yod ywr N (nI i) yan yab yac yad yal yabl yacl yacf ynu yfi ypa ysz yli ytx yki yf1 yf2 yo yoa yob yit yss ymo yst ymy ycl yrw yow en' yhi yla := by
    intro N
    induction N with
    | zero => intro i en' g1 g2; omega
    | succ N ih =>
      intro i en' g1 g2 g3 g4 g5
      have next : i ≤ n → ∀ x : Int64, qe_b x (qe_fw keep A B i) → wY_follow_3 post (nI b1) (nI b2) (nI n) (nI keep) ywa ydd ynd yns yma ynt yno yrc yfo ybl yod ywr N (nI (i + 1)) yan yab yac yad yal yabl yacl yacf ynu yfi ypa ysz yli ytx yki yf1 yf2 yo yoa yob yit yss ymo yst ymy ycl yrw yow (vp_updL en' (b1 + i) x) yhi yla := by
        intro hi x hx
        refine ih (i + 1) _ (by omega) (by omega) (fun j hj => ?_) (fun j g6 g7 => ?_) (fun j hj => ?_)
        · by_cases z : j = i
          · subst z
            rw [pk_uLs]
            exact hx
          · rw [pk_uLn (by omega)]
            exact g3 j (by omega)
        · rw [pk_uLn (by omega)]
          exact g4 j (by omega) g7
        · rw [pk_uLn (by omega)]
          exact g5 j hj
      refine pk_lt n i (fun hlt => hp en' (fun j hj => g3 j (by omega)) g5) (fun hle => ?_)
      have ha : qe_b (en' (b1 + i)) (A i) := by
        rw [g4 i (by omega) hle]
        exact hrA i hle
      have hb : qe_row en' b2 n B := qe_row_kp g5 (by omega) hrB
      refine pk_eq keep 0 (fun k0 => ⟨n + 2, ?_⟩) (fun k0 => ⟨pk_in (b1 + i) 779 (by omega) (nI_add _ _), nm_e ⟨n + 2, ?_⟩⟩)
      · refine inner en' i _ hle ha hb (next hle) (n + 2) i 0 (by omega) (by omega) (by omega) (fun e he => ?_)
        rw [qb_0]
        refine ⟨fun h => (nomatch h), ?_⟩
        rintro (g | ⟨m, g6, g7, _⟩)
        · exact absurd k0 g.1
        · have := hA i m hle g7
          omega
      · refine inner en' i _ hle ha hb (next hle) (n + 2) i _ (by omega) (by omega) (by omega) (fun e he => ?_)
        rw [pk_cl (b1 + i) (nI_add _ _), ha e he]
        constructor
        · exact fun g => Or.inl ⟨k0, g⟩
        · rintro (g | ⟨m, g6, g7, _⟩)
          · exact g.2
          · have := hA i m hle g7
            omega
  exact ⟨n + 2, outer (n + 2) 0 yen (by omega) (by omega) (fun j hj => absurd hj (by omega)) (fun _ _ _ => rfl) (fun _ _ => rfl)⟩
theorem yg_star (b n : Nat) (hn : n ≤ 40) (h1 : b + n < 779) (A : qe_M) (hA : ∀ i e, i ≤ n → A i e → i ≤ e ∧ e ≤ n) (hrA : qe_row yen b n A) (x1 x2 : Int32) (e1 : x1 = nI b) (e2 : x2 = nI n) (post : SY → Prop) (hp : ∀ en' : Nat → Int64, qe_row en' b n (qe_star A) → qe_kp b n yen en' → post (ywa, ydd, ynd, yns, yma, ynt, yno, yrc, yfo, ybl, yod, ywr, yan, yab, yac, yad, yal, yabl, yacl, yacf, ynu, yfi, ypa, ysz, yli, ytx, yki, yf1, yf2, yo, yoa, yob, yit, yss, ymo, yst, ymy, ycl, yrw, yow, en', yhi, yla)) : wpY_star post (ywa, ydd, ynd, yns, yma, ynt, yno, yrc, yfo, ybl, yod, ywr, yan, yab, yac, yad, yal, yabl, yacl, yacf, ynu, yfi, ypa, ysz, yli, ytx, yki, yf1, yf2, yo, yoa, yob, yit, yss, ymo, yst, ymy, ycl, yrw, yow, yen, yhi, yla) x1 x2 := by
  subst e1; subst e2
  have inner : ∀ (en' : Nat → Int64) (i : Nat) (J : Int32 → (Nat → Int32) → (Nat → Int32) → (Nat → Int32) → (Nat → Int32) → (Nat → Int32) → (Nat → Int32) → (Nat → Int32) → (Nat → Int32) → (Nat → Int32) → (Nat → Int32) → (Nat → Int32) → (Nat → Int32) → (Nat → Int32) → (Nat → Int32) → (Nat → Int32) → (Nat → Int32) → (Nat → Int32) → (Nat → Int32) → (Nat → Int32) → (Nat → Int32) → (Nat → Int32) → (Nat → Int32) → (Nat → Int32) → (Nat → Int32) → (Nat → Int32) → (Nat → Int32) → (Nat → Int32) → (Nat → Int32) → (Nat → Int64) → (Nat → Int32) → (Nat → Int32) → Prop), i ≤ n → qe_b (en' (b + i)) (A i) → (∀ j, i < j → j ≤ n → qe_b (en' (b + j)) (qe_star A j)) → (∀ x : Int64, qe_b x (qe_star A i) → J (nI i + (-1)) yan yab yac yad yal yabl yacl yacf ynu yfi ypa ysz yli ytx yki yf1 yf2 yo yoa yob yit yss ymo yst ymy ycl yrw yow (vp_updL en' (b + i) x) yhi yla) → ∀ (N j : Nat) (x4 : Int64), i < j → j ≤ n + 1 → n + 1 - j < N → qe_b x4 (fun e => e = i ∨ ∃ m, m < j ∧ i < m ∧ A i m ∧ qe_star A m e) → wY_star_16 post J (nI b) (nI n) (nI i) ywa ydd ynd yns yma ynt yno yrc yfo ybl yod ywr yan yab yac yad yal yabl yacl yacf ynu yfi ypa ysz yli ytx yki yf1 yf2 yo yoa yob yit yss ymo yst ymy ycl yrw yow en' yhi yla N x4 (nI j) := by
    intro en' i J hi ha hs hJ N
    induction N with
    | zero => intro j x4 g1 g2 g3; omega
    | succ N ih =>
      intro j x4 g1 g2 g3 g4
      refine pk_lt n j (fun hlt => ⟨pk_in (b + i) 779 (by omega) (nI_add _ _), nm_e (nm_e ?_)⟩) (fun hle => ⟨pk_in (b + i) 779 (by omega) (nI_add _ _), ?_⟩)
      · rw [pk_cl (b + i) (nI_add _ _)]
        refine hJ x4 (fun e he => ?_)
        rw [g4 e he, qe_star_eq]
        constructor
        · rintro (g | ⟨m, g5, g6, g7, g8⟩)
          · exact Or.inl g.symm
          · exact Or.inr ⟨m, g6, g7, g8⟩
        · rintro (g | ⟨m, g6, g7, g8⟩)
          · exact Or.inl g.symm
          · exact Or.inr ⟨m, by have := hA i m hi g7; omega, g6, g7, g8⟩
      · rw [pk_cl (b + i) (nI_add _ _)]
        refine ek_if ((qb_S1 _ j (by omega)).trans (ha j (by omega))) (fun hb1 => ⟨pk_in (b + j) 779 (by omega) (nI_add _ _), nm_e (nm_r (nI_1 j) (ih (j + 1) _ (by omega) (by omega) (by omega) (fun e he => ?_)))⟩) (fun hb1 => nm_r (nI_1 j) (ih (j + 1) x4 (by omega) (by omega) (by omega) (fun e he => ?_)))
        · rw [pk_cl (b + j) (nI_add _ _), qb_or, Bool.or_eq_true, g4 e he, hs j g1 hle e he]
          constructor
          · rintro ((g | ⟨m, g5, g6⟩) | g)
            · exact Or.inl g
            · exact Or.inr ⟨m, by omega, g6⟩
            · exact Or.inr ⟨j, by omega, g1, hb1, g⟩
          · rintro (g | ⟨m, g5, g6, g7, g8⟩)
            · exact Or.inl (Or.inl g)
            · by_cases z : m = j
              · subst z; exact Or.inr g8
              · exact Or.inl (Or.inr ⟨m, by omega, g6, g7, g8⟩)
        · rw [g4 e he]
          constructor
          · rintro (g | ⟨m, g5, g6⟩)
            · exact Or.inl g
            · exact Or.inr ⟨m, by omega, g6⟩
          · rintro (g | ⟨m, g5, g6, g7, g8⟩)
            · exact Or.inl g
            · by_cases z : m = j
              · subst z; exact absurd g7 hb1
              · exact Or.inr ⟨m, by omega, g6, g7, g8⟩
  have outer : ∀ (N k : Nat) (x3 : Int32) (en' : Nat → Int64), k ≤ n + 1 → k < N → x3 = nI k + (-1) → (∀ j, k ≤ j → j ≤ n → qe_b (en' (b + j)) (qe_star A j)) → (∀ j, j < k → en' (b + j) = yen (b + j)) → qe_kp b n yen en' → wY_star_2 post (nI b) (nI n) ywa ydd ynd yns yma ynt yno yrc yfo ybl yod ywr N x3 yan yab yac yad yal yabl yacl yacf ynu yfi ypa ysz yli ytx yki yf1 yf2 yo yoa yob yit yss ymo yst ymy ycl yrw yow en' yhi yla := by
    intro N
    induction N with
    | zero => intro k x3 en' g1 g2; omega
    | succ N ih =>
      intro k x3 en' g1 g2 ex g3 g4 g5
      rcases Nat.eq_zero_or_pos k with z0 | z0
      · subst z0
        subst ex
        exact br_t (by decide) (hp en' (fun j hj => g3 j (by omega) hj) g5)
      · obtain ⟨q, rfl⟩ : ∃ q, k = q + 1 := ⟨k - 1, by omega⟩
        rw [pk_m1] at ex
        subst ex
        refine br_f (nI_nlt (a := q) (b := 0) (Nat.zero_le _) (by omega)) (nm_e (nm_r (nI_1 q) ⟨n + 2, ?_⟩))
        refine inner en' q _ (by omega) (by rw [g4 q (by omega)]; exact hrA q (by omega)) (fun j h1 h2 => g3 j (by omega) h2) (fun x hx => ih q _ _ (by omega) (by omega) rfl (fun j h2 h3 => ?_) (fun j hj => ?_) (fun j hj => ?_)) (n + 2) (q + 1) _ (by omega) (by omega) (by omega) (fun e he => ?_)
        · by_cases z : j = q
          · subst z
            rw [pk_uLs]
            exact hx
          · rw [pk_uLn (by omega)]
            exact g3 j (by omega) h3
        · rw [pk_uLn (by omega)]
          exact g4 j (by omega)
        · rw [pk_uLn (by omega)]
          exact g5 j hj
        · rw [qb_here q (by omega) e he, decide_eq_true_eq]
          refine ⟨Or.inl, ?_⟩
          rintro (g | ⟨m, h2, h3, _⟩)
          · exact g
          · omega
  exact ⟨n + 2, outer (n + 2) (n + 1) _ yen (by omega) (by omega) (pk_m1 n).symm (fun j h2 h3 => by omega) (fun _ _ => rfl) (fun _ _ => rfl)⟩
def qe_bt (A : qe_M) (a k : Nat) : qe_M := fun i e => ∃ q, (a ≤ q ∨ q = k) ∧ q ≤ k ∧ qe_pow A q i e
theorem yg_times (b n lo hi : Nat) (hn : n ≤ 40) (h1 : b + n < 738) (hlh : lo ≤ hi) (hh : hi ≤ 3) (A : qe_M) (hA : ∀ i e, i ≤ n → A i e → i ≤ e ∧ e ≤ n) (hrA : qe_row yen b n A) (x1 x2 x3 x4 : Int32) (e1 : x1 = nI b) (e2 : x2 = nI n) (e3 : x3 = nI lo) (e4 : x4 = nI hi) (post : SY → Prop) (hp : ∀ en' : Nat → Int64, qe_row en' b n (fun i e => ∃ q, lo ≤ q ∧ q ≤ hi ∧ qe_pow A q i e) → (∀ j, j < b → en' j = yen j) → post (ywa, ydd, ynd, yns, yma, ynt, yno, yrc, yfo, ybl, yod, ywr, yan, yab, yac, yad, yal, yabl, yacl, yacf, ynu, yfi, ypa, ysz, yli, ytx, yki, yf1, yf2, yo, yoa, yob, yit, yss, ymo, yst, ymy, ycl, yrw, yow, en', yhi, yla)) : wpY_times post (ywa, ydd, ynd, yns, yma, ynt, yno, yrc, yfo, ybl, yod, ywr, yan, yab, yac, yad, yal, yabl, yacl, yacf, ynu, yfi, ypa, ysz, yli, ytx, yki, yf1, yf2, yo, yoa, yob, yit, yss, ymo, yst, ymy, ycl, yrw, yow, yen, yhi, yla) x1 x2 x3 x4 := by
  subst e1; subst e2; subst e3; subst e4
  unfold wpY_times
  refine yg_copy b 738 n hn (by omega) (by omega) h1 A hrA _ _ _ rfl rfl rfl _ (fun en1 r1 k1 => ?_)
  have rep : ∀ (N k : Nat) (en' : Nat → Int64), k ≤ hi → hi - k < N → qe_row en' b n (qe_bt A lo k) → qe_row en' 738 n A → (∀ j, j < b → en' j = yen j) → wY_times_40 post (nI b) (nI n) (nI lo) (nI hi) N (nI k) ywa ydd ynd yns yma ynt yno yrc yfo ybl yod ywr yan yab yac yad yal yabl yacl yacf ynu yfi ypa ysz yli ytx yki yf1 yf2 yo yoa yob yit yss ymo yst ymy ycl yrw yow en' yhi yla := by
    intro N
    induction N with
    | zero => intro k en' g1 g2; omega
    | succ N ih =>
      intro k en' g1 g2 g3 g4 g5
      have hbt : ∀ i e, i ≤ n → qe_bt A lo k i e → i ≤ e ∧ e ≤ n := fun i e hi ⟨q, _, _, h⟩ => qe_pow_in A n hA q i e hi h
      refine pk_le hi k (fun hle => hp en' (fun i hi' e he => ?_) g5) (fun hlt => pk_lt k lo (fun hkl => ?_) (fun hkl => ?_))
      · rw [g3 i hi' e he]
        constructor
        · rintro ⟨q, g6, g7, g8⟩
          exact ⟨q, by omega, by omega, g8⟩
        · rintro ⟨q, g6, g7, g8⟩
          exact ⟨q, Or.inl g6, by omega, g8⟩
      · unfold wY_times_64
        refine yg_follow b 738 n 0 hn (by omega) (by omega) h1 (by omega) _ A hbt g3 g4 _ _ _ _ rfl rfl rfl rfl _ (fun en2 r2 k2 => nm_r (nI_1 k) (ih (k + 1) en2 (by omega) (by omega) (fun i hi' e he => ?_) (qe_row_kp k2 (by omega) g4) (fun j hj => (k2 j (by omega)).trans (g5 j hj))))
        rw [r2 i hi' e he]
        unfold qe_fw qe_bt
        constructor
        · rintro (g | ⟨m, ⟨q, g6, g7, g8⟩, g9⟩)
          · exact absurd rfl g.1
          · have : q = k := by omega
            subst this
            exact ⟨q + 1, Or.inr rfl, by omega, m, g8, g9⟩
        · rintro ⟨q, g6, g7, g8⟩
          have : q = k + 1 := by omega
          subst this
          obtain ⟨m, g8, g9⟩ := g8
          exact Or.inr ⟨m, ⟨k, Or.inr rfl, by omega, g8⟩, g9⟩
      · unfold wY_times_64
        refine yg_follow b 738 n 1 hn (by omega) (by omega) h1 (by omega) _ A hbt g3 g4 _ _ _ _ rfl rfl rfl rfl _ (fun en2 r2 k2 => nm_r (nI_1 k) (ih (k + 1) en2 (by omega) (by omega) (fun i hi' e he => ?_) (qe_row_kp k2 (by omega) g4) (fun j hj => (k2 j (by omega)).trans (g5 j hj))))
        rw [r2 i hi' e he]
        unfold qe_fw qe_bt
        constructor
        · rintro (⟨_, q, g6, g7, g8⟩ | ⟨m, ⟨q, g6, g7, g8⟩, g9⟩)
          · exact ⟨q, by omega, by omega, g8⟩
          · exact ⟨q + 1, by omega, by omega, m, g8, g9⟩
        · rintro ⟨q, g6, g7, g8⟩
          by_cases z : q ≤ k
          · exact Or.inl ⟨by decide, q, by omega, z, g8⟩
          · have : q = k + 1 := by omega
            subst this
            obtain ⟨m, g8, g9⟩ := g8
            exact Or.inr ⟨m, ⟨k, Or.inr rfl, by omega, g8⟩, g9⟩
  have one : ∀ (N i : Nat) (en' : Nat → Int64), i ≤ n + 1 → n + 1 - i < N → (∀ j, j < i → qe_b (en' (b + j)) (fun e => j = e)) → qe_row en' 738 n A → (∀ j, j < b → en' j = yen j) → wY_times_12 post (nI b) (nI n) (nI lo) (nI hi) ywa ydd ynd yns yma ynt yno yrc yfo ybl yod ywr N (nI i) yan yab yac yad yal yabl yacl yacf ynu yfi ypa ysz yli ytx yki yf1 yf2 yo yoa yob yit yss ymo yst ymy ycl yrw yow en' yhi yla := by
    intro N
    induction N with
    | zero => intro i en' g1 g2; omega
    | succ N ih =>
      intro i en' g1 g2 g3 g4 g5
      refine pk_lt n i (fun hlt => ⟨hi + 1, rep (hi + 1) 0 en' (by omega) (by omega) (fun j hj e he => ?_) g4 g5⟩) (fun hle => ⟨pk_in (b + i) 779 (by omega) (nI_add _ _), nm_e (nm_r (nI_1 i) ?_)⟩)
      · rw [g3 j (by omega) e he]
        unfold qe_bt
        constructor
        · intro g
          exact ⟨0, Or.inr rfl, Nat.le_refl _, g⟩
        · rintro ⟨q, g6, g7, g8⟩
          have : q = 0 := by omega
          subst this
          exact g8
      · rw [pk_cl (b + i) (nI_add _ _)]
        refine ih (i + 1) _ (by omega) (by omega) (fun j hj => ?_) (fun j hj => ?_) (fun j hj => ?_)
        · by_cases z : j = i
          · subst z
            rw [pk_uLs]
            intro e he
            rw [qb_here j (by omega) e he, decide_eq_true_eq]
            exact ⟨Eq.symm, Eq.symm⟩
          · rw [pk_uLn (by omega)]
            exact g3 j (by omega)
        · rw [pk_uLn (by omega)]
          exact g4 j hj
        · rw [pk_uLn (by omega)]
          exact g5 j hj
  exact ⟨n + 2, one (n + 2) 0 en1 (by omega) (by omega) (fun j hj => absurd hj (by omega)) r1 (fun j hj => k1 j (by omega))⟩
end
end
section
/-! the reference: the ends of each op -/
def qe_set1 (en : Nat → Int64) (b n i : Nat) (M : qe_M) (en0 : Nat → Int64) : Prop := (∀ j, j < i → qe_b (en (b + j)) (M j)) ∧ qe_kp b n en0 en
section
variable {ywa ydd ynd yns yma ynt yno yrc yfo ybl yod ywr : Int32} {yan yab yac yad yal yabl yacl yacf ynu yfi ypa ysz yli ytx yki yf1 yf2 yo yoa yob yit yss ymo yst ymy ycl yrw yow yhi yla : Nat → Int32} {yen : Nat → Int64}
/-- one letter of a set, or a place -/
theorem yg_single1 (k b B n o mk : Nat) (c : Nat → Nat) (M : qe_M) (hk : k < 40) (hb : b + n < 779) (hn : n ≤ 40) (hB : B + n ≤ 400) (hch : ∀ j, j < n → yan (B + j) = nI (c j)) (hc : ∀ j, j < n → c j < 6) (ho : o < 3 ∨ o = 10 ∨ o = 11 ∨ o = 12)
  (h0 : o = 0 → (1 : Int32) <<< (yoa k &&& 31) = nI mk) (h1 : o = 1 → mk = 63) (h2 : o = 2 → yoa k = nI mk) (h3 : 3 ≤ o → mk = 0) (hM : ∀ i e, i ≤ n → (M i e ↔ if o < 3 then i < n ∧ e = i + 1 ∧ mk.testBit (c i) = true else if o = 10 then i = 0 ∧ e = i else if o = 11 then i = n ∧ e = i else e = i)) (en0 : Nat → Int64) (post : SY → Prop) (hp : ∀ en' : Nat → Int64, qe_row en' b n M → qe_kp b n en0 en' → post (ywa, ydd, ynd, yns, yma, ynt, yno, yrc, yfo, ybl, yod, ywr, yan, yab, yac, yad, yal, yabl, yacl, yacf, ynu, yfi, ypa, ysz, yli, ytx, yki, yf1, yf2, yo, yoa, yob, yit, yss, ymo, yst, ymy, ycl, yrw, yow, en', yhi, yla)) :
  ∀ (N i : Nat) (en' : Nat → Int64), i ≤ n + 1 → n + 1 - i < N → qe_set1 en' b n i M en0 → wY_single_11 post (nI k) (nI b) (nI B) (nI n) (nI o) ywa ydd ynd yns yma ynt yno yrc yfo ybl yod ywr N (nI i) yan yab yac yad yal yabl yacl yacf ynu yfi ypa ysz yli ytx yki yf1 yf2 yo yoa yob yit yss ymo yst ymy ycl yrw yow en' yhi yla := by
  intro N
  induction N with
  | zero => intro i en' g1 g2; omega
  | succ N ih =>
    intro i en' g1 g2 g3
    have ck : (nI k).toNatClampNeg = k := nI_clamp (by omega)
    refine pk_lt n i (fun hlt => hp en' (fun j hj => g3.1 j (by omega)) g3.2) (fun hle => ?_)
    have next : ∀ x : Int64, qe_b x (M i) → wY_single_11 post (nI k) (nI b) (nI B) (nI n) (nI o) ywa ydd ynd yns yma ynt yno yrc yfo ybl yod ywr N (nI (i + 1)) yan yab yac yad yal yabl yacl yacf ynu yfi ypa ysz yli ytx yki yf1 yf2 yo yoa yob yit yss ymo yst ymy ycl yrw yow (vp_updL en' (b + i) x) yhi yla := by
      intro x hx
      refine ih (i + 1) _ (by omega) (by omega) ⟨fun j hj => ?_, fun j hj => ?_⟩
      · by_cases z : j = i
        · subst z
          rw [pk_uLs]
          exact hx
        · rw [pk_uLn (by omega)]
          exact g3.1 j (by omega)
      · rw [pk_uLn (by omega)]
        exact g3.2 j hj
    have hin : vp_in (nI b + nI i) 779 := pk_in (b + i) 779 (by omega) (nI_add _ _)
    have ecl : (nI b + nI i).toNatClampNeg = b + i := pk_cl (b + i) (nI_add _ _)
    have w133 : ∀ (x8 z : Nat), x8 ≤ 1 → z ≤ 1 → (∀ e, e < 64 → (M i e ↔ if x8 = 0 then (if z = 0 then False else e = i) else e = i + 1)) → wY_single_133 post (wY_single_11 post (nI k) (nI b) (nI B) (nI n) (nI o) ywa ydd ynd yns yma ynt yno yrc yfo ybl yod ywr N) (nI k) (nI b) (nI B) (nI n) (nI o) (nI i) (nI x8) (nI z) ywa ydd ynd yns yma ynt yno yrc yfo ybl yod ywr yan yab yac yad yal yabl yacl yacf ynu yfi ypa ysz yli ytx yki yf1 yf2 yo yoa yob yit yss ymo yst ymy ycl yrw yow en' yhi yla := by
      intro x8 z hx8 hz hm
      refine pk_eq x8 0 (fun e8 => pk_eq z 0 (fun ez => ⟨hin, nm_e (nm_r (nI_1 i) ?_)⟩) (fun ez => ⟨hin, nm_e (nm_r (nI_1 i) ?_)⟩)) (fun e8 => ⟨hin, nm_e (nm_r (nI_1 i) ?_)⟩)
      · rw [ecl]
        refine next 0 (fun e he => ?_)
        rw [qb_0, hm e he, if_pos e8, if_pos ez]
        exact ⟨fun h => (nomatch h), fun h => h.elim⟩
      · rw [ecl]
        refine next _ (fun e he => ?_)
        rw [qb_here i (by omega) e he, decide_eq_true_eq, hm e he, if_pos e8, if_neg ez]
      · rw [ecl]
        refine next _ (fun e he => ?_)
        rw [qb_next i (by omega) e he, decide_eq_true_eq, hm e he, if_neg e8]
    have w93 : ∀ (x8 : Nat), x8 ≤ 1 → (o < 3 → (x8 = 1 ↔ i < n ∧ mk.testBit (c i) = true)) → (3 ≤ o → x8 = 0) → wY_single_93 post (wY_single_11 post (nI k) (nI b) (nI B) (nI n) (nI o) ywa ydd ynd yns yma ynt yno yrc yfo ybl yod ywr N) (nI k) (nI b) (nI B) (nI n) (nI o) (nI i) (nI x8) ywa ydd ynd yns yma ynt yno yrc yfo ybl yod ywr yan yab yac yad yal yabl yacl yacf ynu yfi ypa ysz yli ytx yki yf1 yf2 yo yoa yob yit yss ymo yst ymy ycl yrw yow en' yhi yla := by
      intro x8 hx8 hl hg
      have hmi := fun e => hM i e hle
      refine pk_eq o 12 (fun e12 => ?_) (fun e12 => pk_eq o 10 (fun e10 => pk_eq i 0 (fun ei => ?_) (fun ei => br_f (xe_kne (q := 11) (by omega) (by omega) (by omega)) ?_)) (fun e10 => pk_eq o 11 (fun e11 => pk_eq i n (fun ei => ?_) (fun ei => ?_)) (fun e11 => ?_)))
      · refine w133 x8 1 hx8 (by omega) (fun e he => ?_)
        rw [hmi e, if_neg (by omega), if_neg (by omega), if_neg (by omega), if_pos (hg (by omega)), if_neg (by omega)]
      · refine w133 x8 1 hx8 (by omega) (fun e he => ?_)
        rw [hmi e, if_neg (by omega), if_pos e10, if_pos (hg (by omega)), if_neg (by omega)]
        exact ⟨fun h => h.2, fun h => ⟨ei, h⟩⟩
      · refine w133 x8 0 hx8 (by omega) (fun e he => ?_)
        rw [hmi e, if_neg (by omega), if_pos e10, if_pos (hg (by omega)), if_pos rfl]
        exact ⟨fun h => ei h.1, fun h => h.elim⟩
      · refine w133 x8 1 hx8 (by omega) (fun e he => ?_)
        rw [hmi e, if_neg (by omega), if_neg e10, if_pos e11, if_pos (hg (by omega)), if_neg (by omega)]
        exact ⟨fun h => h.2, fun h => ⟨ei, h⟩⟩
      · refine w133 x8 0 hx8 (by omega) (fun e he => ?_)
        rw [hmi e, if_neg (by omega), if_neg e10, if_pos e11, if_pos (hg (by omega)), if_pos rfl]
        exact ⟨fun h => ei h.1, fun h => h.elim⟩
      · refine w133 x8 0 hx8 (by omega) (fun e he => ?_)
        have hx := hl (by omega)
        rw [hmi e, if_pos (by omega), if_pos rfl]
        by_cases z : x8 = 0
        · rw [if_pos z]
          refine ⟨fun h => ?_, fun h => h.elim⟩
          have := hx.mpr ⟨h.1, h.2.2⟩
          omega
        · rw [if_neg z]
          have := hx.mp (by omega)
          exact ⟨fun h => h.2.1, fun h => ⟨this.1, h, this.2⟩⟩
    have w61 : ∀ zm : Int32, zm = nI mk → wY_single_61 post (wY_single_11 post (nI k) (nI b) (nI B) (nI n) (nI o) ywa ydd ynd yns yma ynt yno yrc yfo ybl yod ywr N) (nI k) (nI b) (nI B) (nI n) (nI o) (nI i) zm ywa ydd ynd yns yma ynt yno yrc yfo ybl yod ywr yan yab yac yad yal yabl yacl yacf ynu yfi ypa ysz yli ytx yki yf1 yf2 yo yoa yob yit yss ymo yst ymy ycl yrw yow en' yhi yla := by
      intro zm ez
      subst ez
      refine pk_le n i (fun hge => w93 0 (by omega) (fun _ => ⟨fun h => by omega, fun h => by omega⟩) (fun _ => rfl)) (fun hlt => ⟨pk_in (B + i) 400 (by omega) (nI_add _ _), ?_⟩)
      have h6 := hc i hlt
      rw [pk_cl (B + i) (nI_add _ _), hch i hlt]
      refine ek_if ((qb_s1 (nI mk) (c i) (by omega)).trans (by rw [qb_nI mk (c i) (by omega)])) (fun hb1 => w93 1 (by omega) (fun _ => ⟨fun _ => ⟨hlt, hb1⟩, fun _ => rfl⟩) (fun h => ?_)) (fun hb1 => w93 0 (by omega) (fun _ => ⟨fun h => (nomatch h), fun h => absurd h.2 hb1⟩) (fun _ => rfl))
      rw [h3 h, Nat.zero_testBit] at hb1
      exact nomatch hb1
    refine pk_eq o 0 (fun e0 => ⟨pk_in k 40 hk, w61 _ (by rw [ck]; exact h0 e0)⟩) (fun e0 => pk_eq o 1 (fun e1 => w61 _ (by rw [h1 e1]; rfl)) (fun e1 => pk_eq o 2 (fun e2 => ⟨pk_in k 40 hk, w61 _ (by rw [ck]; exact h2 e2)⟩) (fun e2 => w61 _ (by rw [h3 (by omega)]; rfl))))
theorem qe_leafM (o a : Nat) (c : Nat → Nat) (n : Nat) (ho : o < 3 ∨ o = 10 ∨ o = 11 ∨ o = 12) (i e : Nat) : (qp_leaf qv_lf o a).2.2 c n i e ↔ if o < 3 then i < n ∧ e = i + 1 ∧ (if o = 0 then 2 ^ a else if o = 1 then 63 else if o = 2 then a else 0).testBit (c i) = true else if o = 10 then i = 0 ∧ e = i else if o = 11 then i = n ∧ e = i else e = i := by
  unfold qp_leaf
  by_cases o0 : o = 0
  · subst o0; exact Iff.rfl
  · rw [if_neg o0, if_neg o0]
    by_cases o1 : o = 1
    · subst o1; exact Iff.rfl
    · rw [if_neg o1, if_neg o1]
      by_cases o2 : o = 2
      · subst o2; exact Iff.rfl
      · rw [if_neg o2, if_neg o2, if_neg (show ¬ o < 3 by omega)]
        show qe_lf o 0 c n i e ↔ _
        unfold qe_lf
        rw [if_neg o2]
/-- the leaves -/
theorem yg_leaf (k b B n o : Nat) (c : Nat → Nat) (hk : k < 40) (hb : b + n < 779) (hn : n ≤ 40) (hB : B + n ≤ 400) (hch : ∀ j, j < n → yan (B + j) = nI (c j)) (hc : ∀ j, j < n → c j < 6) (ho : o < 3 ∨ o = 10 ∨ o = 11 ∨ o = 12) (eo : yo k = nI o)
  (h0 : o = 0 → (yoa k).toNatClampNeg < 6 ∧ yoa k = nI (yoa k).toNatClampNeg) (h2 : o = 2 → yoa k = nI (yoa k).toNatClampNeg) (post : SY → Prop) (hp : ∀ en' : Nat → Int64, qe_row en' b n ((qp_leaf qv_lf o (yoa k).toNatClampNeg).2.2 c n) → qe_kp b n yen en' → post (ywa, ydd, ynd, yns, yma, ynt, yno, yrc, yfo, ybl, yod, ywr, yan, yab, yac, yad, yal, yabl, yacl, yacf, ynu, yfi, ypa, ysz, yli, ytx, yki, yf1, yf2, yo, yoa, yob, yit, yss, ymo, yst, ymy, ycl, yrw, yow, en', yhi, yla)) : wpY_single post (ywa, ydd, ynd, yns, yma, ynt, yno, yrc, yfo, ybl, yod, ywr, yan, yab, yac, yad, yal, yabl, yacl, yacf, ynu, yfi, ypa, ysz, yli, ytx, yki, yf1, yf2, yo, yoa, yob, yit, yss, ymo, yst, ymy, ycl, yrw, yow, yen, yhi, yla) (nI k) (nI b) (nI B) (nI n) := by
  refine And.intro (pk_in k 40 hk) (nm_r (e' := nI o) (by rw [nI_clamp (by omega)]; exact eo) ⟨n + 2, ?_⟩)
  refine yg_single1 k b B n o (if o = 0 then 2 ^ (yoa k).toNatClampNeg else if o = 1 then 63 else if o = 2 then (yoa k).toNatClampNeg else 0) c _ hk hb hn hB hch hc ho (fun e => ?_) (fun e => ?_) (fun e => ?_) (fun e => ?_) (fun i e _ => qe_leafM o _ c n ho i e) yen post hp (n + 2) 0 yen (by omega) (by omega) ⟨fun j hj => absurd hj (by omega), fun _ _ => rfl⟩
  · obtain ⟨h6, ea⟩ := h0 e
    have : ∀ a, a < 6 → (1 : Int32) <<< (nI a &&& 31) = nI (2 ^ a) := by decide +kernel
    rw [if_pos e, ← this _ h6, ← ea]
  · rw [if_neg (by omega), if_pos e]
  · rw [if_neg (by omega), if_neg (by omega), if_pos e]
    exact h2 e
  · rw [if_neg (by omega), if_neg (by omega), if_neg (by omega)]
theorem qe_repM (o a b : Nat) (x : qv_T) (c : Nat → Nat) (n : Nat) (ho : o = 8 ∨ o = 9) (hab : o = 9 → a ≤ b) (i e : Nat) : (qp_rep qv_lf qv_un qv_bi o a b x).2.2 c n i e ↔ ∃ q, (if o = 8 then 0 else a) ≤ q ∧ q ≤ (if o = 8 then 1 else b) ∧ qe_pow (x.2.2 c n) q i e := by
  have p1 : qe_pow (x.2.2 c n) 1 i e ↔ x.2.2 c n i e := by
    constructor
    · rintro ⟨m, h1, h2⟩
      have : i = m := h1
      subst this
      exact h2
    · exact fun h => ⟨i, rfl, h⟩
  have p0 : qe_pow (x.2.2 c n) 0 i e ↔ i = e := Iff.rfl
  have l12 : (qv_lf 12 0).2.2 c n i e ↔ e = i := Iff.rfl
  unfold qp_rep
  by_cases o8 : o = 8
  · rw [if_pos o8, if_pos o8, if_pos o8]
    have eb : (qv_bi 8 x (qv_lf 12 0)).2.2 c n i e ↔ x.2.2 c n i e ∨ e = i := Iff.rfl
    rw [eb]
    constructor
    · rintro (h | h)
      · exact ⟨1, by omega, by omega, p1.mpr h⟩
      · exact ⟨0, by omega, by omega, p0.mpr h.symm⟩
    · rintro ⟨q, _, h2, h3⟩
      by_cases z : q = 0
      · subst z; exact Or.inr (p0.mp h3).symm
      · have : q = 1 := by omega
        subst this
        exact Or.inl (p1.mp h3)
  · have o9 : o = 9 := by omega
    have hab' := hab o9
    rw [if_neg o8, if_neg o8, if_neg o8, if_pos o9]
    by_cases b0 : b = 0
    · rw [if_pos b0, l12]
      constructor
      · exact fun h => ⟨0, by omega, by omega, p0.mpr h.symm⟩
      · rintro ⟨q, _, h2, h3⟩
        have : q = 0 := by omega
        subst this
        exact (p0.mp h3).symm
    · rw [if_neg b0]
      by_cases h11 : a = 1 ∧ b = 1
      · rw [if_pos h11]
        constructor
        · exact fun h => ⟨1, by omega, by omega, p1.mpr h⟩
        · rintro ⟨q, h1, h2, h3⟩
          have : q = 1 := by omega
          subst this
          exact p1.mp h3
      · rw [if_neg h11]
        exact Iff.rfl
theorem yg_or (b n : Nat) (hn : n ≤ 40) (hb : b + 41 + n < 779) (A B : qe_M) (hrA : qe_row yen b n A) (hrB : qe_row yen (b + 41) n B) (post : SY → Prop) (hp : ∀ en' : Nat → Int64, qe_row en' b n (fun i e => A i e ∨ B i e) → (∀ j, j < b → en' j = yen j) → post (ywa, ydd, ynd, yns, yma, ynt, yno, yrc, yfo, ybl, yod, ywr, yan, yab, yac, yad, yal, yabl, yacl, yacf, ynu, yfi, ypa, ysz, yli, ytx, yki, yf1, yf2, yo, yoa, yob, yit, yss, ymo, yst, ymy, ycl, yrw, yow, en', yhi, yla)) :
  ∃ N : Nat, wY_work_80 post (nI b) (nI n) (nI (b + 41)) ywa ydd ynd yns yma ynt yno yrc yfo ybl yod ywr N 0 yan yab yac yad yal yabl yacl yacf ynu yfi ypa ysz yli ytx yki yf1 yf2 yo yoa yob yit yss ymo yst ymy ycl yrw yow yen yhi yla := by
  have key : ∀ (N i : Nat) (en' : Nat → Int64), i ≤ n + 1 → n + 1 - i < N → (∀ j, j < i → qe_b (en' (b + j)) (fun e => A j e ∨ B j e)) → (∀ j, j < b ∨ b + i ≤ j → en' j = yen j) → wY_work_80 post (nI b) (nI n) (nI (b + 41)) ywa ydd ynd yns yma ynt yno yrc yfo ybl yod ywr N (nI i) yan yab yac yad yal yabl yacl yacf ynu yfi ypa ysz yli ytx yki yf1 yf2 yo yoa yob yit yss ymo yst ymy ycl yrw yow en' yhi yla := by
    intro N
    induction N with
    | zero => intro i en' g1 g2; omega
    | succ N ih =>
      intro i en' g1 g2 g3 g4
      have i1 : vp_in (nI b + nI i) 779 := pk_in (b + i) 779 (by omega) (nI_add _ _)
      refine pk_lt n i (fun hlt => hp en' (fun j hj => g3 j (by omega)) (fun j hj => g4 j (Or.inl hj))) (fun hle => ⟨i1, pk_in (b + 41 + i) 779 (by omega) (nI_add _ _), i1, nm_e (nm_r (nI_1 i) ?_)⟩)
      rw [pk_cl (b + i) (nI_add _ _), pk_cl (b + 41 + i) (nI_add _ _)]
      refine ih (i + 1) _ (by omega) (by omega) (fun j hj => ?_) (fun j hj => ?_)
      · by_cases z : j = i
        · subst z
          rw [pk_uLs, g4 (b + j) (by omega), g4 (b + 41 + j) (by omega)]
          intro e he
          rw [qb_or, Bool.or_eq_true, hrA j hle e he, hrB j hle e he]
        · rw [pk_uLn (by omega)]
          exact g3 j (by omega)
      · rw [pk_uLn (by omega)]
        exact g4 j (by omega)
  exact ⟨n + 2, key (n + 2) 0 yen (by omega) (by omega) (fun j hj => absurd hj (by omega)) (fun _ _ => rfl)⟩
/-- work: a leaf -/
theorem yg_wleaf (k b B n o : Nat) (c : Nat → Nat) (hk : k < 40) (hb : b + n < 779) (hn : n ≤ 40) (hB : B + n ≤ 400) (hch : ∀ j, j < n → yan (B + j) = nI (c j)) (hc : ∀ j, j < n → c j < 6) (ho : o < 3 ∨ o = 10 ∨ o = 11 ∨ o = 12) (eo : yo k = nI o)
  (h0 : o = 0 → (yoa k).toNatClampNeg < 6 ∧ yoa k = nI (yoa k).toNatClampNeg) (h2 : o = 2 → yoa k = nI (yoa k).toNatClampNeg) (post : SY → Prop) (hp : ∀ en' : Nat → Int64, qe_row en' b n ((qp_leaf qv_lf o (yoa k).toNatClampNeg).2.2 c n) → (∀ j, j < b → en' j = yen j) → post (ywa, ydd, ynd, yns, yma, ynt, yno, yrc, yfo, ybl, yod, ywr, yan, yab, yac, yad, yal, yabl, yacl, yacf, ynu, yfi, ypa, ysz, yli, ytx, yki, yf1, yf2, yo, yoa, yob, yit, yss, ymo, yst, ymy, ycl, yrw, yow, en', yhi, yla)) : wpY_work post (ywa, ydd, ynd, yns, yma, ynt, yno, yrc, yfo, ybl, yod, ywr, yan, yab, yac, yad, yal, yabl, yacl, yacf, ynu, yfi, ypa, ysz, yli, ytx, yki, yf1, yf2, yo, yoa, yob, yit, yss, ymo, yst, ymy, ycl, yrw, yow, yen, yhi, yla) (nI k) (nI b) (nI B) (nI n) := by
  have go : wY_work_195 post (nI k) (nI b) (nI B) (nI n) ywa ydd ynd yns yma ynt yno yrc yfo ybl yod ywr yan yab yac yad yal yabl yacl yacf ynu yfi ypa ysz yli ytx yki yf1 yf2 yo yoa yob yit yss ymo yst ymy ycl yrw yow yen yhi yla := by
    unfold wY_work_195
    exact yg_leaf k b B n o c hk hb hn hB hch hc ho eo h0 h2 _ (fun en' h1 h2 => hp en' h1 (fun j hj => h2 j (Or.inl hj)))
  unfold wpY_work
  refine And.intro (pk_in k 40 hk) (nm_r (e' := nI o) (by rw [nI_clamp (by omega)]; exact eo) (pk_lt o 6 (fun _ => go) (fun h6 => br_f (nI_nlt (a := 14) (b := o) (by omega) (by omega)) ?_)))
  refine br_f (xe_kne (q := 6) (by omega) (by omega) (by omega)) (br_f (xe_kne (q := 7) (by omega) (by omega) (by omega)) (br_f (xe_kne (q := 8) (by omega) (by omega) (by omega)) (br_f (xe_kne (q := 9) (by omega) (by omega) (by omega)) (pk_eq o 10 (fun _ => go) (fun e10 => pk_eq o 11 (fun _ => go) (fun e11 => br_t (by rw [show o = 12 by omega]; rfl) go))))))
/-- work: a repeat -/
theorem yg_wrep (k b B n o : Nat) (c : Nat → Nat) (hk : k < 40) (hb : b + n < 738) (hn : n ≤ 40) (x : qv_T) (hx : ∀ i e, i ≤ n → x.2.2 c n i e → i ≤ e ∧ e ≤ n) (hr : qe_row yen b n (x.2.2 c n)) (ho : 6 ≤ o ∧ o ≤ 9) (eo : yo k = nI o)
  (h9 : o = 9 → (yoa k).toNatClampNeg ≤ (yob k).toNatClampNeg ∧ (yob k).toNatClampNeg ≤ 3 ∧ yoa k = nI (yoa k).toNatClampNeg ∧ yob k = nI (yob k).toNatClampNeg) (post : SY → Prop) (hp : ∀ en' : Nat → Int64, qe_row en' b n ((qp_rep qv_lf qv_un qv_bi o (yoa k).toNatClampNeg (yob k).toNatClampNeg x).2.2 c n) → (∀ j, j < b → en' j = yen j) → post (ywa, ydd, ynd, yns, yma, ynt, yno, yrc, yfo, ybl, yod, ywr, yan, yab, yac, yad, yal, yabl, yacl, yacf, ynu, yfi, ypa, ysz, yli, ytx, yki, yf1, yf2, yo, yoa, yob, yit, yss, ymo, yst, ymy, ycl, yrw, yow, en', yhi, yla)) : wpY_work post (ywa, ydd, ynd, yns, yma, ynt, yno, yrc, yfo, ybl, yod, ywr, yan, yab, yac, yad, yal, yabl, yacl, yacf, ynu, yfi, ypa, ysz, yli, ytx, yki, yf1, yf2, yo, yoa, yob, yit, yss, ymo, yst, ymy, ycl, yrw, yow, yen, yhi, yla) (nI k) (nI b) (nI B) (nI n) := by
  have ck : (nI k).toNatClampNeg = k := nI_clamp (by omega)
  have hin : vp_in (nI k) 40 := pk_in k 40 hk
  unfold wpY_work
  refine And.intro hin (nm_r (e' := nI o) (by rw [ck]; exact eo) (pk_lt o 6 (fun h => by omega) (fun h6 => br_f (nI_nlt (a := 14) (b := o) (by omega) (by omega)) ?_)))
  refine pk_eq o 6 (fun e6 => ?_) (fun e6 => pk_eq o 7 (fun e7 => ?_) (fun e7 => pk_eq o 8 (fun e8 => ?_) (fun e8 => br_t (by rw [show o = 9 by omega]; rfl) ⟨hin, hin, ?_⟩)))
  · refine yg_star b n hn (by omega) _ hx hr _ _ rfl rfl _ (fun en' r k' => hp en' ?_ (fun j hj => k' j (Or.inl hj)))
    subst e6
    exact r
  · refine yg_copy b 738 n hn (by omega) (by omega) hb _ hr _ _ _ rfl rfl rfl _ (fun en1 r1 k1 => ?_)
    refine yg_star 738 n hn (by omega) _ hx r1 _ _ rfl rfl _ (fun en2 r2 k2 => ?_)
    have hr2 : qe_row en2 b n (x.2.2 c n) := qe_row_kp k2 (by omega) (qe_row_kp k1 (by omega) hr)
    refine yg_follow b 738 n 0 hn (by omega) (by omega) hb (by omega) _ _ hx hr2 r2 _ _ _ _ rfl rfl rfl rfl _ (fun en3 r3 k3 => hp en3 (fun i hi e he => ?_) (fun j hj => (k3 j (Or.inl hj)).trans ((k2 j (by omega)).trans (k1 j (by omega)))))
    rw [r3 i hi e he]
    subst e7
    show _ ↔ ∃ m, x.2.2 c n i m ∧ qe_star (x.2.2 c n) m e
    unfold qe_fw
    constructor
    · rintro (g | g)
      · exact absurd rfl g.1
      · exact g
    · exact Or.inr
  · refine yg_times b n 0 1 hn hb (by omega) (by omega) _ hx hr _ _ _ _ rfl rfl rfl rfl _ (fun en' r k' => hp en' (fun i hi e he => ?_) k')
    rw [r i hi e he, qe_repM o _ _ x c n (Or.inl e8) (fun h => by omega) i e, if_pos e8, if_pos e8]
  · have e9 : o = 9 := by omega
    obtain ⟨hab, hb3, ea, eb⟩ := h9 e9
    rw [ck]
    refine yg_times b n (yoa k).toNatClampNeg (yob k).toNatClampNeg hn hb hab hb3 _ hx hr _ _ _ _ rfl rfl ea eb _ (fun en' r k' => hp en' (fun i hi e he => ?_) k')
    rw [r i hi e he, qe_repM o _ _ x c n (Or.inr e9) (fun _ => hab) i e, if_neg e8, if_neg e8]
/-- work: a seq, an alt -/
theorem yg_wbi (k b B n o : Nat) (c : Nat → Nat) (hk : k < 40) (hb : b + 41 + n < 779) (hn : n ≤ 40) (x y : qv_T) (hx : ∀ i e, i ≤ n → x.2.2 c n i e → i ≤ e ∧ e ≤ n) (hrx : qe_row yen b n (x.2.2 c n)) (hry : qe_row yen (b + 41) n (y.2.2 c n)) (ho : o = 13 ∨ o = 14) (eo : yo k = nI o)
  (post : SY → Prop) (hp : ∀ en' : Nat → Int64, qe_row en' b n ((qv_bi (if o = 13 then 13 else 5) x y).2.2 c n) → (∀ j, j < b → en' j = yen j) → post (ywa, ydd, ynd, yns, yma, ynt, yno, yrc, yfo, ybl, yod, ywr, yan, yab, yac, yad, yal, yabl, yacl, yacf, ynu, yfi, ypa, ysz, yli, ytx, yki, yf1, yf2, yo, yoa, yob, yit, yss, ymo, yst, ymy, ycl, yrw, yow, en', yhi, yla)) : wpY_work post (ywa, ydd, ynd, yns, yma, ynt, yno, yrc, yfo, ybl, yod, ywr, yan, yab, yac, yad, yal, yabl, yacl, yacf, ynu, yfi, ypa, ysz, yli, ytx, yki, yf1, yf2, yo, yoa, yob, yit, yss, ymo, yst, ymy, ycl, yrw, yow, yen, yhi, yla) (nI k) (nI b) (nI B) (nI n) := by
  have ck : (nI k).toNatClampNeg = k := nI_clamp (by omega)
  have e41 : nI b + 41 = nI (b + 41) := nI_add b 41
  unfold wpY_work
  refine And.intro (pk_in k 40 hk) (nm_r (e' := nI o) (by rw [ck]; exact eo) (pk_lt o 6 (fun h => by omega) (fun h6 => br_f (nI_nlt (a := 14) (b := o) (by omega) (by omega)) ?_)))
  refine br_f (xe_kne (q := 6) (by omega) (by omega) (by omega)) (br_f (xe_kne (q := 7) (by omega) (by omega) (by omega)) (br_f (xe_kne (q := 8) (by omega) (by omega) (by omega)) (br_f (xe_kne (q := 9) (by omega) (by omega) (by omega)) (br_f (xe_kne (q := 10) (by omega) (by omega) (by omega)) (br_f (xe_kne (q := 11) (by omega) (by omega) (by omega)) (br_f (xe_kne (q := 12) (by omega) (by omega) (by omega)) ?_))))))
  refine pk_eq o 13 (fun e13 => ?_) (fun e13 => br_t (by rw [show o = 14 by omega]; rfl) (nm_r e41 ?_))
  · rw [if_pos e13] at hp
    refine yg_follow b (b + 41) n 0 hn (by omega) (by omega) (by omega) (by omega) _ _ hx hrx hry _ _ _ _ rfl e41 rfl rfl _ (fun en3 r3 k3 => hp en3 (fun i hi e he => ?_) (fun j hj => k3 j (Or.inl hj)))
    rw [r3 i hi e he]
    show _ ↔ ∃ m, x.2.2 c n i m ∧ y.2.2 c n m e
    unfold qe_fw
    constructor
    · rintro (g | g)
      · exact absurd rfl g.1
      · exact g
    · exact Or.inr
  · rw [if_neg e13] at hp
    exact yg_or b n hn hb _ _ hrx hry post (fun en' r k' => hp en' r k')
theorem yg_line1 (n k0 B : Nat) (c : Nat → Nat) (hk0 : k0 ≤ 33) (hno : yno = nI k0) (hn : n ≤ 40) (hB : B + n ≤ 400) (hch : ∀ j, j < n → yan (B + j) = nI (c j)) (hc : ∀ j, j < n → c j < 6) (root : qv_T) (P : Prop) (hO : qp_YO qv_lf qv_un qv_bi qv_big yo yoa yob k0 [root] P) (x1 x2 : Int32) (post : SY → Prop)
  (hp : ∀ en' : Nat → Int64, qe_row en' 0 n (root.2.2 c n) → ∃ N : Nat, wY_line_56 post x1 x2 (nI n) ywa ydd ynd yns yma ynt yno yrc ybl yod ywr N 0 yfo yan yab yac yad yal yabl yacl yacf ynu yfi ypa ysz yli ytx yki yf1 yf2 yo yoa yob yit yss ymo yst ymy ycl yrw yow en' yhi yla) :
  ∀ (N k : Nat) (en' : Nat → Int64), k ≤ k0 → k0 - k < N → qz_sl (fun p v => qe_row en' (41 * p) n (v.2.2 c n)) (qz_R qv_lf qv_un qv_bi yo yoa yob k) → wY_line_6 post x1 x2 (nI B) (nI n) N (nI (qz_R qv_lf qv_un qv_bi yo yoa yob k).length) (nI k) ywa ydd ynd yns yma ynt yno yrc yfo ybl yod ywr yan yab yac yad yal yabl yacl yacf ynu yfi ypa ysz yli ytx yki yf1 yf2 yo yoa yob yit yss ymo yst ymy ycl yrw yow en' yhi yla := by
  intro N
  subst hno
  induction N with
  | zero => intro k en' h2 h3; omega
  | succ N ih =>
    intro k en' h2 h3 h4
    have hall := qz_ok hO k h2
    refine pk_le k0 k (fun hle => ?_) (fun hlt => ?_)
    · have e : k = k0 := by omega
      subst e
      have er : qz_R qv_lf qv_un qv_bi yo yoa yob k = [root] := hO.1
      rw [er] at h4
      exact hp en' h4.1
    · have ck : (nI k).toNatClampNeg = k := nI_clamp (by omega)
      obtain ⟨o, eo, hc', hl1, hl0⟩ := qz_step qv_lf qv_un qv_bi qv_big hO hlt
      have ho : o < 15 := by rcases hc' with h | h | h | h <;> omega
      have e41 : ∀ p : Nat, (41 : Int32) * nI (p + 1) - 41 = nI (41 * p) := fun p => by
        rw [show (41 : Int32) = nI 41 from rfl, pk_mul, pk_sub (by omega)]
        congr 1
      have fin : ∀ (v : qv_T) (s : List qv_T) (en2 : Nat → Int64), qz_R qv_lf qv_un qv_bi yo yoa yob (k + 1) = v :: s → qz_sl (fun p v => qe_row en' (41 * p) n (v.2.2 c n)) s → qe_row en2 (41 * s.length) n (v.2.2 c n) → (∀ j, j < 41 * s.length → en2 j = en' j) → wY_line_6 post x1 x2 (nI B) (nI n) N (nI (s.length + 1)) (nI (k + 1)) ywa ydd ynd yns yma ynt (nI k0) yrc yfo ybl yod ywr yan yab yac yad yal yabl yacl yacf ynu yfi ypa ysz yli ytx yki yf1 yf2 yo yoa yob yit yss ymo yst ymy ycl yrw yow en2 yhi yla := by
        intro v s en2 er hs hv hkp
        have := ih (k + 1) en2 (by omega) (by omega) (by
          rw [er]
          refine ⟨hv, qz_sl_cg (fun p w hp h i hi => ?_) hs⟩
          have h' : qe_row en' (41 * p) n (w.2.2 c n) := h
          rw [hkp (41 * p + i) (by omega)]
          exact h' i hi)
        rw [er, List.length_cons] at this
        exact this
      refine ⟨pk_in k 40 (by omega), ?_⟩
      rw [ck, eo]
      refine yz_gr o ho _ (fun hg => ?_) (fun hg => ?_) (fun hg => ?_)
      · -- a leaf
        refine nm_r (nI_1 _) ?_
        rw [e41]
        rcases hc' with ⟨hk, hk0, hk2, er⟩ | ⟨hk, er⟩ | ⟨hk, _⟩ | ⟨hk, _⟩
        · rw [er, List.length_cons] at hl1
          refine yg_wleaf k _ B n o c (by omega) (by omega) hn hB hch hc (by omega) eo hk0 (fun h => (hk2 h).2) _ (fun en2 r2 k2 => nm_r (nI_1 k) (fin _ _ en2 er h4 r2 k2))
        · rw [er, List.length_cons] at hl1
          refine yg_wleaf k _ B n o c (by omega) (by omega) hn hB hch hc (by omega) eo (fun h => by omega) (fun h => by omega) _ (fun en2 r2 k2 => nm_r (nI_1 k) (fin _ _ en2 er h4 ?_ k2))
          subst hk
          exact r2
        · omega
        · omega
      · -- a repeat
        rcases hc' with ⟨hk, _⟩ | ⟨hk, _⟩ | ⟨hk, h9, x, s, e0, er⟩ | ⟨hk, _⟩
        · omega
        · omega
        · rw [e0] at h4 hl0 hall ⊢
          rw [List.length_cons] at hl0 ⊢
          obtain ⟨hx, hs⟩ := h4
          have ox := hall x List.mem_cons_self
          refine nm_r (e' := nI (s.length + 1)) (by grind) ?_
          rw [e41]
          refine yg_wrep k _ B n o c (by omega) (by omega) hn x (fun i e hi h => qv_in ox hc hi h) hx hk eo h9 _ (fun en2 r2 k2 => nm_r (nI_1 k) (fin _ _ en2 er hs r2 k2))
        · omega
      · -- a seq, an alt
        rcases hc' with ⟨hk, _⟩ | ⟨hk, _⟩ | ⟨hk, _⟩ | ⟨hk, y, x, s, e0, er⟩
        · omega
        · omega
        · omega
        · rw [e0] at h4 hl0 hall ⊢
          rw [List.length_cons, List.length_cons] at hl0 ⊢
          obtain ⟨hy, hx, hs⟩ := h4
          rw [List.length_cons, show 41 * (s.length + 1) = 41 * s.length + 41 by omega] at hy
          have ox := hall x (List.mem_cons_of_mem _ List.mem_cons_self)
          refine nm_r (pk_m1 _) ?_
          rw [e41]
          refine yg_wbi k _ B n o c (by omega) (by omega) hn x y (fun i e hi h => qv_in ox hc hi h) hx hy hk eo _ (fun en2 r2 k2 => nm_r (nI_1 k) (fin _ _ en2 er hs r2 k2))
end
end
section
/-! the matches of a line -/
def qh_L (E : Nat → Int64) (n q : Nat) : List (Nat × Nat) := qh_ln E n (n + 1) q
theorem qh_L_end (E : Nat → Int64) (n q : Nat) (h : n < q) : qh_L E n q = [] := by
  unfold qh_L qh_ln
  rw [if_neg (by omega)]
theorem qh_L_none (E : Nat → Int64) (n q : Nat) (h : q ≤ n) (hl : qh_last (E q) n = none) : qh_L E n q = qh_L E n (q + 1) := by
  have e : qh_L E n q = qh_ln E n n (q + 1) := by
    unfold qh_L
    conv => lhs; unfold qh_ln
    rw [if_pos h, hl]
  rw [e]
  exact qh_ln_f E n n (n + 1) (q + 1) (by omega) (by omega)
theorem qh_L_some (E : Nat → Int64) (n q l : Nat) (h : q ≤ n) (hl : qh_last (E q) n = some l) : qh_L E n q = (q, l) :: qh_L E n (if q < l then l else q + 1) := by
  have e : qh_L E n q = (q, l) :: qh_ln E n n (if q < l then l else q + 1) := by
    unfold qh_L
    conv => lhs; unfold qh_ln
    rw [if_pos h, hl]
  rw [e, qh_ln_f E n n (n + 1) _ (by split <;> omega) (by split <;> omega)]
  rfl
theorem qh_ln_len (E : Nat → Int64) (n : Nat) : ∀ m q, (qh_ln E n m q).length ≤ m
  | 0, _ => Nat.le_refl _
  | m + 1, q => by
    unfold qh_ln
    split
    · split
      · have := qh_ln_len E n m (q + 1); omega
      · rw [List.length_cons]
        exact Nat.succ_le_succ (qh_ln_len E n m _)
    · simp
theorem qh_L_cg {E E' : Nat → Int64} {n : Nat} (h : ∀ q, q ≤ n → E q = E' q) : ∀ m q, qh_ln E n m q = qh_ln E' n m q
  | 0, _ => rfl
  | m + 1, q => by
    unfold qh_ln
    split
    · rename_i hq
      rw [h q hq]
      split
      · exact qh_L_cg h m (q + 1)
      · rw [qh_L_cg h m _]
    · rfl
def qh_B (x : Nat × Nat × Nat × Nat) : Prop := x.1 < 10 ∧ x.2.1 ≤ 40 ∧ x.2.2.1 ≤ 40 ∧ x.2.2.2 ≤ 40
def qx_H (H : List (Nat × Nat × Nat × Nat)) (hi : Nat → Int32) (mc : Int32) : Prop := mc = nI H.length ∧ ∀ k x, k < 40 → H[k]? = some x → hi (k * 4) = nI x.1 ∧ hi (k * 4 + 1) = nI x.2.1 ∧ hi (k * 4 + 2) = nI x.2.2.1 ∧ hi (k * 4 + 3) = nI x.2.2.2
def qy_H (H : List (Nat × Nat × Nat × Nat)) (hi : Nat → Int32) (fo : Int32) : Prop := fo = nI H.length ∧ ∀ k x, k < 40 → H[k]? = some x → hi k = nI (qR_pk x)
theorem qh_snoc {α : Type} {H : List α} {x y : α} {k : Nat} (h : (H ++ [x])[k]? = some y) : (k < H.length ∧ H[k]? = some y) ∨ (k = H.length ∧ x = y) := by
  rcases Nat.lt_or_ge k H.length with z | z
  · rw [List.getElem?_append_left z] at h
    exact Or.inl ⟨z, h⟩
  · rw [List.getElem?_append_right z] at h
    have e : k - H.length = 0 := by
      have := qr_get_lt h
      simp at this
      omega
    rw [e] at h
    exact Or.inr ⟨by omega, by simpa using h⟩
/-- the bits of the ends at a place lie in the line behind it -/
def qe_in (E : Nat → Int64) (n : Nat) : Prop := ∀ p, p ≤ n → ∀ e, e < 64 → qb_l (E p) e = true → p ≤ e ∧ e ≤ n
section
variable {xwc xdc xdm xsc xtc xnc xmc xbr xwt : Int32} {xch xtl xwf xdn xdf xdl xss xtk xta xtb xnk xna xnb xnl xnr xns xfa xfs xfi xrc xcl xhd xhi xwo : Nat → Int32} {xrw xre : Nat → Int64}
theorem xh_last (x : Int64) (n : Nat) (hn : n ≤ 40) (hx : ∀ e, e < 64 → qb_l x e = true → e ≤ n) (l : Nat) (hl : qh_last x n = some l) (post : Int32 → Prop) (hp : post (nI l)) : wpX_lastPlace post x := by
  obtain ⟨a, b, c⟩ := qh_last_some x n l hl
  have key : ∀ (N i r : Nat), i ≤ 41 → 41 - i < N → (i ≤ l → r ≤ 41) → (l < i → r = l) → wX_lastPlace_4 post x N (nI r) (nI i) := by
    intro N
    induction N with
    | zero => intro i r h1 h2; omega
    | succ N ih =>
      intro i r h1 h2 h3 h4
      refine pk_le 41 i (fun hle => ?_) (fun hlt => ek_if (qb_S1 x i (by omega)) (fun hb => nm_r (nI_1 i) (ih (i + 1) i (by omega) (by omega) (fun _ => by omega) (fun h => ?_))) (fun hb => nm_r (nI_1 i) (ih (i + 1) r (by omega) (by omega) (fun h => h3 (by omega)) (fun h => ?_))))
      · rw [h4 (by omega)]
        exact hp
      · rcases Nat.lt_or_ge l i with z | z
        · have := hx i (by omega) hb
          rw [c i z this] at hb
          exact nomatch hb
        · omega
      · by_cases z : i = l
        · subst z; exact absurd b hb
        · exact h4 (by omega)
  exact ⟨42, key 42 0 0 (by omega) (by omega) (fun _ => by omega) (fun h => absurd h (by omega))⟩
theorem xh_add (H : List (Nat × Nat × Nat × Nat)) (hH : qx_H H xhi xmc) (hl : H.length < 2 ^ 20) (x : Nat × Nat × Nat × Nat) (x1 x2 x3 x4 : Int32) (e1 : x1 = nI x.1) (e2 : x2 = nI x.2.1) (e3 : x3 = nI x.2.2.1) (e4 : x4 = nI x.2.2.2) (post : SX → Prop) (hp : ∀ (mc' : Int32) (hi' : Nat → Int32), qx_H (H ++ [x]) hi' mc' → post (xwc, xdc, xdm, xsc, xtc, xnc, mc', xbr, xwt, xch, xtl, xwf, xdn, xdf, xdl, xss, xtk, xta, xtb, xnk, xna, xnb, xnl, xnr, xns, xfa, xfs, xfi, xrw, xrc, xcl, xhd, xre, hi', xwo)) : wpX_addHit post (xwc, xdc, xdm, xsc, xtc, xnc, xmc, xbr, xwt, xch, xtl, xwf, xdn, xdf, xdl, xss, xtk, xta, xtb, xnk, xna, xnb, xnl, xnr, xns, xfa, xfs, xfi, xrw, xrc, xcl, xhd, xre, xhi, xwo) x1 x2 x3 x4 := by
  obtain ⟨h1, h2⟩ := hH
  subst h1; subst e1; subst e2; subst e3; subst e4
  have el : nI H.length + 1 = nI (H ++ [x]).length := by rw [nI_1, List.length_append]; rfl
  refine pk_le 40 H.length (fun hle => nm_r el (hp _ _ ⟨rfl, fun k y hk hy => ?_⟩)) (fun hlt => ?_)
  · rcases qh_snoc hy with ⟨_, g⟩ | ⟨g, _⟩
    · exact h2 k y hk g
    · omega
  · have e4 : nI H.length * 4 = nI (H.length * 4) := by rw [show (4 : Int32) = nI 4 from rfl, pk_mul]
    have e41 : nI H.length * 4 + 1 = nI (H.length * 4 + 1) := by rw [e4, nI_1]
    have e42 : nI H.length * 4 + 2 = nI (H.length * 4 + 2) := by rw [e4]; exact nI_add _ 2
    have e43 : nI H.length * 4 + 3 = nI (H.length * 4 + 3) := by rw [e4]; exact nI_add _ 3
    refine ⟨pk_in (H.length * 4) 160 (by omega) e4, nm_e ⟨pk_in (H.length * 4 + 1) 160 (by omega) e41, nm_e ⟨pk_in (H.length * 4 + 2) 160 (by omega) e42, nm_e ⟨pk_in (H.length * 4 + 3) 160 (by omega) e43, nm_e (nm_r el (hp _ _ ⟨rfl, fun k y hk hy => ?_⟩))⟩⟩⟩⟩
    rw [pk_cl _ e4, pk_cl _ e41, pk_cl _ e42, pk_cl _ e43]
    rcases qh_snoc hy with ⟨gl, g⟩ | ⟨g, gx⟩
    · obtain ⟨a, b, c, d⟩ := h2 k y hk g
      refine ⟨?_, ?_, ?_, ?_⟩
      · rw [pk_un (by omega), pk_un (by omega), pk_un (by omega), pk_un (by omega)]; exact a
      · rw [pk_un (by omega), pk_un (by omega), pk_un (by omega), pk_un (by omega)]; exact b
      · rw [pk_un (by omega), pk_un (by omega), pk_un (by omega), pk_un (by omega)]; exact c
      · rw [pk_un (by omega), pk_un (by omega), pk_un (by omega), pk_un (by omega)]; exact d
    · subst gx; subst g
      refine ⟨?_, ?_, ?_, ?_⟩
      · rw [pk_un (by omega), pk_un (by omega), pk_un (by omega), pk_us]
      · rw [pk_un (by omega), pk_un (by omega), pk_us]
      · rw [pk_un (by omega), pk_us]
      · rw [pk_us]
theorem xh_matches (f l n root : Nat) (hn : n ≤ 40) (hr : root < 40) (E : Nat → Int64) (hE : ∀ p, p ≤ n → xre (root * 41 + p) = E p) (hin : qe_in E n) (H0 : List (Nat × Nat × Nat × Nat)) (hH : qx_H H0 xhi xmc) (hl : H0.length + 41 ≤ 2 ^ 20) (x1 x2 x3 x4 : Int32) (e1 : x1 = nI f) (e2 : x2 = nI l) (e3 : x3 = nI n) (e4 : x4 = nI root) (post : SX → Prop)
  (hp : ∀ (mc' : Int32) (hi' : Nat → Int32), qx_H (H0 ++ (qh_L E n 0).map (fun x => (f, l, x.1, x.2))) hi' mc' → post (xwc, xdc, xdm, xsc, xtc, xnc, mc', xbr, xwt, xch, xtl, xwf, xdn, xdf, xdl, xss, xtk, xta, xtb, xnk, xna, xnb, xnl, xnr, xns, xfa, xfs, xfi, xrw, xrc, xcl, xhd, xre, hi', xwo)) : wpX_addMatches post (xwc, xdc, xdm, xsc, xtc, xnc, xmc, xbr, xwt, xch, xtl, xwf, xdn, xdf, xdl, xss, xtk, xta, xtb, xnk, xna, xnb, xnl, xnr, xns, xfa, xfs, xfi, xrw, xrc, xcl, xhd, xre, xhi, xwo) x1 x2 x3 x4 := by
  subst e1; subst e2; subst e3; subst e4
  have key : ∀ (N p s : Nat) (H : List (Nat × Nat × Nat × Nat)) (mc' : Int32) (hi' : Nat → Int32), p ≤ n + 1 → n + 1 - p < N → s ≤ n + 1 → p ≤ s ∨ s ≤ p → H.length + (n + 1 - p) ≤ 2 ^ 20 → qx_H H hi' mc' → H ++ (qh_L E n (if p < s then s else p)).map (fun x => (f, l, x.1, x.2)) = H0 ++ (qh_L E n 0).map (fun x => (f, l, x.1, x.2)) → wX_addMatches_6 post (nI f) (nI l) (nI n) (nI root) N (nI s) (nI p) xwc xdc xdm xsc xtc xnc mc' xbr xwt xch xtl xwf xdn xdf xdl xss xtk xta xtb xnk xna xnb xnl xnr xns xfa xfs xfi xrw xrc xcl xhd xre hi' xwo := by
    intro N
    induction N with
    | zero => intro p s H mc' hi' h1 h2; omega
    | succ N ih =>
      intro p s H mc' hi' h1 h2 h3 h4 h5 h6 h7
      refine pk_lt n p (fun hlt => ?_) (fun hle => ⟨pk_in (root * 41 + p) 1640 (by omega) (xg_i root p), nm_r (e' := E p) (by rw [pk_cl (root * 41 + p) (xg_i root p)]; exact hE p hle) ?_⟩)
      · rw [qh_L_end E n _ (by split <;> omega), List.map_nil, List.append_nil] at h7
        subst h7
        exact hp mc' hi' h6
      · refine pk_lt p s (fun hps => nm_r (nI_1 p) (ih (p + 1) s H mc' hi' (by omega) (by omega) h3 (by omega) (by omega) h6 ?_)) (fun hps => ?_)
        · rw [if_pos hps] at h7
          rw [← h7]
          by_cases z : p + 1 < s
          · rw [if_pos z]
          · rw [if_neg z, show p + 1 = s by omega]
        · rw [if_neg (by omega)] at h7
          by_cases z : E p = 0
          · refine br_t z (nm_r (nI_1 p) (ih (p + 1) s H mc' hi' (by omega) (by omega) h3 (by omega) (by omega) h6 ?_))
            have hl0 : qh_last (E p) n = none := (qh_last_none _ _).mpr (fun j _ => by rw [z, qb_0])
            rw [qh_L_none E n p hle hl0] at h7
            rw [if_neg (by omega)]
            exact h7
          · refine br_f z ?_
            obtain ⟨e, he, hb⟩ := qb_ne.mp z
            have hbd := hin p hle e he hb
            match hq : qh_last (E p) n with
            | none => rw [(qh_last_none _ _).mp hq e hbd.2] at hb; exact nomatch hb
            | some q =>
              obtain ⟨q1, q2, q3⟩ := qh_last_some _ _ _ hq
              have hpq := (hin p hle q (by omega) q2).1
              refine xh_last (E p) n hn (fun e he hb => (hin p hle e he hb).2) q hq _ ?_
              refine xh_add H h6 (by omega) (f, l, p, q) _ _ _ _ rfl rfl rfl rfl _ (fun mc2 hi2 h8 => ?_)
              rw [qh_L_some E n p q hle hq, List.map_cons] at h7
              have hlen : (H ++ [(f, l, p, q)]).length + (n + 1 - (p + 1)) ≤ 2 ^ 20 := by
                rw [List.length_append, List.length_singleton]
                omega
              refine pk_le q p (fun hqp => nm_r (nI_1 p) (nm_r (nI_1 p) (ih (p + 1) (p + 1) _ mc2 hi2 (by omega) (by omega) (by omega) (by omega) hlen h8 ?_))) (fun hqp => nm_r (nI_1 p) (ih (p + 1) q _ mc2 hi2 (by omega) (by omega) (by omega) (by omega) hlen h8 ?_))
              · rw [if_neg (by omega)] at h7
                rw [if_neg (by omega), List.append_assoc]
                exact h7
              · rw [if_pos hqp] at h7
                rw [List.append_assoc]
                by_cases y : p + 1 < q
                · rw [if_pos y]; exact h7
                · rw [if_neg y, show p + 1 = q by omega]; exact h7
  exact ⟨n + 2, key (n + 2) 0 0 H0 xmc xhi (by omega) (by omega) (by omega) (by omega) (by omega) hH rfl⟩
end
section
variable {ywa ydd ynd yns yma ynt yno yrc yfo ybl yod ywr : Int32} {yan yab yac yad yal yabl yacl yacf ynu yfi ypa ysz yli ytx yki yf1 yf2 yo yoa yob yit yss ymo yst ymy ycl yrw yow yhi yla : Nat → Int32} {yen : Nat → Int64}
theorem yh_pk (x : Nat × Nat × Nat × Nat) (hx : qh_B x) : ((nI x.1 + (nI x.2.1 <<< ((8 : Int32) &&& 31))) + (nI x.2.2.1 <<< ((16 : Int32) &&& 31))) + (nI x.2.2.2 <<< ((24 : Int32) &&& 31)) = nI (qR_pk x) := by
  obtain ⟨a, b, c, d⟩ := hx
  rw [pk_shlN _ 8 (by decide) (by omega), pk_shlN _ 16 (by decide) (by omega), pk_shlN _ 24 (by decide) (by omega), nI_add, nI_add, nI_add]
  congr 1
  unfold qR_pk
  omega
theorem yh_line (f l n : Nat) (hf : f < 10) (hl40 : l ≤ 40) (hn : n ≤ 40) (E : Nat → Int64) (hE : ∀ p, p ≤ n → yen p = E p) (hin : qe_in E n) (H0 : List (Nat × Nat × Nat × Nat)) (hH : qy_H H0 yhi yfo) (hl : H0.length + 41 ≤ 2 ^ 20) (post : SY → Prop)
  (hp : ∀ (fo' : Int32) (hi' : Nat → Int32), qy_H (H0 ++ (qh_L E n 0).map (fun x => (f, l, x.1, x.2))) hi' fo' → post (ywa, ydd, ynd, yns, yma, ynt, yno, yrc, fo', ybl, yod, ywr, yan, yab, yac, yad, yal, yabl, yacl, yacf, ynu, yfi, ypa, ysz, yli, ytx, yki, yf1, yf2, yo, yoa, yob, yit, yss, ymo, yst, ymy, ycl, yrw, yow, yen, hi', yla)) : ∃ N : Nat, wY_line_56 post (nI f) (nI l) (nI n) ywa ydd ynd yns yma ynt yno yrc ybl yod ywr N 0 yfo yan yab yac yad yal yabl yacl yacf ynu yfi ypa ysz yli ytx yki yf1 yf2 yo yoa yob yit yss ymo yst ymy ycl yrw yow yen yhi yla := by
  have key : ∀ (N p : Nat) (H : List (Nat × Nat × Nat × Nat)) (fo' : Int32) (hi' : Nat → Int32), p ≤ n + 1 → n + 1 - p < N → H.length + (n + 1 - p) ≤ 2 ^ 20 → qy_H H hi' fo' → H ++ (qh_L E n p).map (fun x => (f, l, x.1, x.2)) = H0 ++ (qh_L E n 0).map (fun x => (f, l, x.1, x.2)) → wY_line_56 post (nI f) (nI l) (nI n) ywa ydd ynd yns yma ynt yno yrc ybl yod ywr N (nI p) fo' yan yab yac yad yal yabl yacl yacf ynu yfi ypa ysz yli ytx yki yf1 yf2 yo yoa yob yit yss ymo yst ymy ycl yrw yow yen hi' yla := by
    intro N
    induction N with
    | zero => intro p H fo' hi' h1 h2; omega
    | succ N ih =>
      intro p H fo' hi' h1 h2 h5 h6 h7
      refine pk_lt n p (fun hlt => ?_) (fun hle => ⟨n + 2, ?_⟩)
      · rw [qh_L_end E n _ hlt, List.map_nil, List.append_nil] at h7
        subst h7
        exact hp fo' hi' h6
      · obtain ⟨g1, g2⟩ := h6
        subst g1
        -- behind the place that was found
        have none97 : ∀ x7 : Int32, x7 < nI p → x7 ≤ nI p → qh_last (E p) n = none → wY_line_97 post (wY_line_56 post (nI f) (nI l) (nI n) ywa ydd ynd yns yma ynt yno yrc ybl yod ywr N) (nI f) (nI l) (nI n) (nI p) x7 ywa ydd ynd yns yma ynt yno yrc (nI H.length) ybl yod ywr yan yab yac yad yal yabl yacl yacf ynu yfi ypa ysz yli ytx yki yf1 yf2 yo yoa yob yit yss ymo yst ymy ycl yrw yow yen hi' yla := by
          intro x7 hx7 hx7' hq
          rw [qh_L_none E n p hle hq] at h7
          exact br_t hx7 (br_t hx7 (br_t hx7' (nm_r (nI_1 p) (ih (p + 1) H _ hi' (by omega) (by omega) (by omega) ⟨rfl, g2⟩ h7))))
        have some97 : ∀ q : Nat, q ≤ n → p ≤ q → qh_last (E p) n = some q → wY_line_97 post (wY_line_56 post (nI f) (nI l) (nI n) ywa ydd ynd yns yma ynt yno yrc ybl yod ywr N) (nI f) (nI l) (nI n) (nI p) (nI q) ywa ydd ynd yns yma ynt yno yrc (nI H.length) ybl yod ywr yan yab yac yad yal yabl yacl yacf ynu yfi ypa ysz yli ytx yki yf1 yf2 yo yoa yob yit yss ymo yst ymy ycl yrw yow yen hi' yla := by
          intro q hqn hpq hq
          rw [qh_L_some E n p q hle hq, List.map_cons] at h7
          have el : nI H.length + 1 = nI (H ++ [(f, l, p, q)]).length := by rw [nI_1, List.length_append]; rfl
          have hnl : ¬ nI q < nI p := nI_nlt (a := q) (b := p) hpq (by omega)
          have fin : ∀ hi2 : Nat → Int32, qy_H (H ++ [(f, l, p, q)]) hi2 (nI (H ++ [(f, l, p, q)]).length) → wY_line_140 post (wY_line_56 post (nI f) (nI l) (nI n) ywa ydd ynd yns yma ynt yno yrc ybl yod ywr N) (nI f) (nI l) (nI n) (nI p) (nI q) ywa ydd ynd yns yma ynt yno yrc (nI H.length) ybl yod ywr yan yab yac yad yal yabl yacl yacf ynu yfi ypa ysz yli ytx yki yf1 yf2 yo yoa yob yit yss ymo yst ymy ycl yrw yow yen hi2 yla := by
            intro hi2 h8
            have hlen : (H ++ [(f, l, p, q)]).length + (n + 1 - (p + 1)) ≤ 2 ^ 20 := by
              rw [List.length_append, List.length_singleton]
              omega
            refine br_f hnl (nm_r el (pk_le q p (fun hqp => nm_r (nI_1 p) (ih (p + 1) _ _ hi2 (by omega) (by omega) hlen h8 ?_)) (fun hqp => ih q _ _ hi2 (by omega) (by omega) (by omega) h8 ?_)))
            · rw [if_neg (by omega)] at h7
              rw [List.append_assoc]
              exact h7
            · rw [if_pos hqp] at h7
              rw [List.append_assoc]
              exact h7
          refine br_f hnl (pk_le 40 H.length (fun h40 => fin hi' ⟨rfl, fun k y hk hy => ?_⟩) (fun h40 => ⟨pk_in H.length 40 h40, nm_e (fin _ ⟨rfl, fun k y hk hy => ?_⟩)⟩))
          · rcases qh_snoc hy with ⟨_, g⟩ | ⟨g, _⟩
            · exact g2 k y hk g
            · omega
          · rw [nI_clamp (by omega)]
            rcases qh_snoc hy with ⟨gl, g⟩ | ⟨g, gx⟩
            · rw [pk_un (by omega)]
              exact g2 k y hk g
            · subst gx; subst g
              rw [pk_us]
              exact yh_pk (f, l, p, q) ⟨hf, hl40, by show p ≤ 40; omega, by show q ≤ 40; omega⟩
        have srch : ∀ (N' k : Nat) (x7 : Int32), k ≤ n + 1 → k < N' → x7 = nI k + (-1) → (∀ j, k ≤ j → j ≤ n → qb_l (E p) j = false) → wY_line_67 post (wY_line_56 post (nI f) (nI l) (nI n) ywa ydd ynd yns yma ynt yno yrc ybl yod ywr N) (nI f) (nI l) (nI n) (nI p) ywa ydd ynd yns yma ynt yno yrc (nI H.length) ybl yod ywr yan yab yac yad yal yabl yacl yacf ynu yfi ypa ysz yli ytx yki yf1 yf2 yo yoa yob yit yss ymo yst ymy ycl yrw yow yen hi' yla N' x7 := by
          intro N'
          induction N' with
          | zero => intro k x7 a1 a2; omega
          | succ N' ih' =>
            intro k x7 a1 a2 a3 a4
            have allno : k ≤ p → qh_last (E p) n = none := by
              intro hkp
              refine (qh_last_none _ _).mpr (fun j hj => ?_)
              rcases Nat.lt_or_ge j k with z | z
              · cases hb : qb_l (E p) j
                · rfl
                · have := (hin p hle j (by omega) hb).1
                  omega
              · exact a4 j z hj
            rcases Nat.eq_zero_or_pos k with z0 | z0
            · subst z0
              subst a3
              have e0 : (nI 0 + (-1)).toInt = -1 := by decide
              have hm : nI 0 + (-1) < nI p := by
                rw [Int32.lt_iff_toInt_lt, nI_toInt (by omega), e0]
                omega
              have hm' : nI 0 + (-1) ≤ nI p := by
                rw [Int32.le_iff_toInt_le, nI_toInt (by omega), e0]
                omega
              exact br_t hm (none97 _ hm hm' (allno (by omega)))
            · obtain ⟨q, rfl⟩ : ∃ q, k = q + 1 := ⟨k - 1, by omega⟩
              rw [pk_m1] at a3
              subst a3
              refine pk_lt q p (fun hqp => ?_) (fun hpq => ⟨pk_in p 779 (by omega), ?_⟩)
              · refine none97 (nI q) ?_ ?_ (allno (by omega))
                · exact nI_lt hqp (by omega)
                · exact nI_le (by omega) (by omega)
              · rw [nI_clamp (by omega), hE p hle]
                refine ek_if (qb_S0 (E p) q (by omega)) (fun hb => nm_e (ih' q _ (by omega) (by omega) rfl (fun j b1 b2 => ?_))) (fun hb => ?_)
                · by_cases z : j = q
                  · subst z; exact hb
                  · exact a4 j (by omega) b2
                · have hb' : qb_l (E p) q = true := by simpa using hb
                  refine some97 q (by omega) hpq ?_
                  match hq : qh_last (E p) n with
                  | none => rw [(qh_last_none _ _).mp hq q (by omega)] at hb'; exact nomatch hb'
                  | some q' =>
                    obtain ⟨q1, q2, q3⟩ := qh_last_some _ _ _ hq
                    rcases Nat.lt_trichotomy q q' with z | z | z
                    · rw [a4 q' (by omega) q1] at q2; exact nomatch q2
                    · rw [z]
                    · rw [q3 q z (by omega)] at hb'; exact nomatch hb'
        exact srch (n + 2) (n + 1) _ (by omega) (by omega) (pk_m1 n).symm (fun j b1 b2 => by omega)
  exact ⟨n + 2, key (n + 2) 0 H0 yfo yhi (by omega) (by omega) (by omega) hH rfl⟩
end
end
section
/-! a file is searched line by line -/
theorem qh_file_len (v : qv_T) (f : Nat) (t : List Nat) (ht : t.length ≤ 40) : ∀ m i b l, i + m = t.length + 1 → (qh_sc t (qh_g v f t) m i b l).length ≤ 41 * m
  | 0, _, _, _, _ => Nat.le_refl _
  | m + 1, i, b, l, h => by
    unfold qh_sc
    split
    · have := qh_file_len v f t ht m (i + 1) b l (by omega)
      omega
    · rw [List.length_append]
      have h1 := qh_file_len v f t ht m (i + 1) (i + 1) (l + 1) (by omega)
      have h2 : (qh_g v f t l b (i - b)).length ≤ i - b + 1 := by
        unfold qh_g
        rw [List.length_map]
        exact qh_ln_len _ _ _ _
      omega
theorem qh_ME {v : qv_T} {t : List Nat} {b n : Nat} {e : Int64} {p : Nat} (h : qe_b e (v.2.2 (fun i => t.getD (b + i) 0) n p)) : e = qh_M v t b n p := qh_E_eq h
theorem qh_Min {v : qv_T} (hv : qv_ok v) {t : List Nat} {b n : Nat} (hc : ∀ j, j < n → t.getD (b + j) 0 < 6) : qe_in (qh_M v t b n) n := by
  intro p hp e he hb
  have := (qh_E_b (v.2.2 (fun i => t.getD (b + i) 0) n p) he).mp hb
  exact qv_in hv (c := fun i => t.getD (b + i) 0) hc hp this
theorem qh_L_g (v : qv_T) (f : Nat) (t : List Nat) (l b n : Nat) : (qh_L (qh_M v t b n) n 0).map (fun x => (f, l, x.1, x.2)) = qh_g v f t l b n := rfl
theorem qh_sc_next (t : List Nat) (g : Nat → Nat → Nat → List (Nat × Nat × Nat × Nat)) (m i b l : Nat) (h : i < t.length ∧ t.getD i 0 ≠ 6) : qh_sc t g (m + 1) i b l = qh_sc t g m (i + 1) b l := by
  conv => lhs; unfold qh_sc
  rw [if_pos h]
theorem qh_sc_line (t : List Nat) (g : Nat → Nat → Nat → List (Nat × Nat × Nat × Nat)) (m i b l : Nat) (h : ¬ (i < t.length ∧ t.getD i 0 ≠ 6)) : qh_sc t g (m + 1) i b l = g l b (i - b) ++ qh_sc t g m (i + 1) (i + 1) (l + 1) := by
  conv => lhs; unfold qh_sc
  rw [if_neg h]
/-- how far the scan of a text has come -/
def qh_at (v : qv_T) (f : Nat) (t : List Nat) (i b l : Nat) (H R : List (Nat × Nat × Nat × Nat)) : Prop :=
  i ≤ t.length + 1 ∧ b ≤ i ∧ l ≤ b ∧ (∀ j, b ≤ j → j < i → t.getD j 0 ≠ 6) ∧ H.length + 41 * (t.length + 1 - i) ≤ 2 ^ 20 ∧ H ++ qh_sc t (qh_g v f t) (t.length + 1 - i) i b l = R
theorem qh_at_next {v : qv_T} {f : Nat} {t : List Nat} {i b l : Nat} {H R : List (Nat × Nat × Nat × Nat)} (h : qh_at v f t i b l H R) (hi : i < t.length) (h6 : t.getD i 0 ≠ 6) : qh_at v f t (i + 1) b l H R := by
  obtain ⟨h1, h2, h3, h4, h5, h7⟩ := h
  refine ⟨by omega, by omega, h3, fun j g1 g2 => ?_, by omega, ?_⟩
  · by_cases z : j = i
    · subst z; exact h6
    · exact h4 j g1 (by omega)
  · rw [show t.length + 1 - i = (t.length + 1 - (i + 1)) + 1 by omega, qh_sc_next t _ _ i b l ⟨hi, h6⟩] at h7
    exact h7
theorem qh_at_line {v : qv_T} {f : Nat} {t : List Nat} {i b l : Nat} {H R : List (Nat × Nat × Nat × Nat)} (h : qh_at v f t i b l H R) (hi : i ≤ t.length) (ht : t.length ≤ 40) (h6 : ¬ (i < t.length ∧ t.getD i 0 ≠ 6)) : qh_at v f t (i + 1) (i + 1) (l + 1) (H ++ qh_g v f t l b (i - b)) R := by
  obtain ⟨h1, h2, h3, h4, h5, h7⟩ := h
  refine ⟨by omega, by omega, by omega, fun j g1 g2 => by omega, ?_, ?_⟩
  · rw [List.length_append]
    have h2 : (qh_g v f t l b (i - b)).length ≤ i - b + 1 := by
      unfold qh_g
      rw [List.length_map]
      exact qh_ln_len _ _ _ _
    omega
  · rw [show t.length + 1 - i = (t.length + 1 - (i + 1)) + 1 by omega, qh_sc_line t _ _ i b l h6] at h7
    rw [List.append_assoc]
    exact h7
theorem qh_at_ok {v : qv_T} {f : Nat} {t : List Nat} {i b l : Nat} {H R : List (Nat × Nat × Nat × Nat)} (h : qh_at v f t i b l H R) (hi : i ≤ t.length) : qh_ok t b (i - b) := by
  obtain ⟨h1, h2, h3, h4, h5, h7⟩ := h
  exact ⟨by omega, fun j hj => h4 (b + j) (by omega) (by omega)⟩
theorem qh_at_end {v : qv_T} {f : Nat} {t : List Nat} {i b l : Nat} {H R : List (Nat × Nat × Nat × Nat)} (h : qh_at v f t i b l H R) (hi : t.length < i) : H = R := by
  obtain ⟨h1, h2, h3, h4, h5, h7⟩ := h
  rw [show t.length + 1 - i = 0 by omega] at h7
  rw [← h7]
  show H = H ++ []
  rw [List.append_nil]
theorem qh_at_0 (v : qv_T) (f : Nat) (t : List Nat) (ht : t.length ≤ 40) (H : List (Nat × Nat × Nat × Nat)) (hl : H.length + 1681 ≤ 2 ^ 20) : qh_at v f t 0 0 0 H (H ++ qh_file v f t) :=
  ⟨by omega, Nat.le_refl _, Nat.le_refl _, fun j g1 g2 => by omega, by omega, rfl⟩
section
variable {xwc xdc xdm xsc xtc xnc xmc xbr xwt : Int32} {xch xtl xwf xdn xdf xdl xss xtk xta xtb xnk xna xnb xnl xnr xns xfa xfs xfi xrc xcl xhd xhi xwo : Nat → Int32} {xrw xre : Nat → Int64}
theorem xf_file (f : Nat) (hf : f < 10) (t : List Nat) (ht : qf_t t) (hs : qx_slot xch xtl f (some t)) (m root : Nat) (D : Nat → qv_T) (hm : m ≤ 33) (hr : root < m) (hnc : xnc = nI m) (hok : qn_ok qv_lf qv_un qv_bi xnk xna xnb xnl xnr m D) (hv : ∀ j, j < m → qv_ok (D j)) (H0 : List (Nat × Nat × Nat × Nat)) (hH : qx_H H0 xhi xmc) (hl : H0.length + 1681 ≤ 2 ^ 20) (post : SX → Prop)
  (hp : ∀ (mc' : Int32) (hi' : Nat → Int32) (re' : Nat → Int64), qx_H (H0 ++ qh_file (D root) f t) hi' mc' → post (xwc, xdc, xdm, xsc, xtc, xnc, mc', xbr, xwt, xch, xtl, xwf, xdn, xdf, xdl, xss, xtk, xta, xtb, xnk, xna, xnb, xnl, xnr, xns, xfa, xfs, xfi, xrw, xrc, xcl, xhd, re', hi', xwo)) : wpX_searchFile post (xwc, xdc, xdm, xsc, xtc, xnc, xmc, xbr, xwt, xch, xtl, xwf, xdn, xdf, xdl, xss, xtk, xta, xtb, xnk, xna, xnb, xnl, xnr, xns, xfa, xfs, xfi, xrw, xrc, xcl, xhd, xre, xhi, xwo) (nI f) (nI root) := by
  obtain ⟨hlen, hch⟩ := hs
  have ht40 := ht.1
  have e40 : ∀ b : Nat, nI f * 40 + nI b = nI (f * 40 + b) := fun b => by rw [show (40 : Int32) = nI 40 from rfl, pk_mul, nI_add]
  have key : ∀ (N i b l : Nat) (H : List (Nat × Nat × Nat × Nat)) (mc' : Int32) (hi' : Nat → Int32) (re' : Nat → Int64), t.length + 1 - i < N → qh_at (D root) f t i b l H (H0 ++ qh_file (D root) f t) → qx_H H hi' mc' → wX_searchFile_16 post (nI f) (nI root) (nI t.length) N (nI l) (nI b) (nI i) xwc xdc xdm xsc xtc xnc mc' xbr xwt xch xtl xwf xdn xdf xdl xss xtk xta xtb xnk xna xnb xnl xnr xns xfa xfs xfi xrw xrc xcl xhd re' hi' xwo := by
    intro N
    induction N with
    | zero => intro i b l H mc' hi' re' h1; omega
    | succ N ih =>
      intro i b l H mc' hi' re' h1 h2 h3
      have hi41 := h2.1
      have hbi := h2.2.1
      have hlb := h2.2.2.1
      have hlh := h2.2.2.2.2.1
      refine pk_lt t.length i (fun hlt => ?_) (fun hle => ?_)
      · have e := qh_at_end h2 hlt
        subst e
        exact hp mc' hi' re' h3
      · have line : ¬ (i < t.length ∧ t.getD i 0 ≠ 6) → wX_searchFile_45 post (wX_searchFile_16 post (nI f) (nI root) (nI t.length) N) (nI f) (nI root) (nI t.length) (nI l) (nI b) (nI i) xwc xdc xdm xsc xtc xnc mc' xbr xwt xch xtl xwf xdn xdf xdl xss xtk xta xtb xnk xna xnb xnl xnr xns xfa xfs xfi xrw xrc xcl xhd re' hi' xwo := by
          intro hn
          have ok := qh_at_ok h2 hle
          have hc := fun j hj => qh_lt6 ht.2 ok j hj
          unfold wX_searchFile_45
          refine xg_find m (i - b) (f * 40 + b) (fun j => t.getD (b + j) 0) D hm hnc (by omega) hc (by omega) (fun j hj => ?_) hok hv _ _ (e40 b) (pk_sub hbi) _ (fun re2 hre => ?_)
          · rw [show f * 40 + b + j = f * 40 + (b + j) by omega]
            exact hch (b + j) (by omega)
          · refine xh_matches f l (i - b) root (by omega) (by omega) (qh_M (D root) t b (i - b)) (fun p hp' => qh_ME (hre root hr p (by omega) hp')) (qh_Min (hv root hr) hc) H h3 (by omega) _ _ _ _ rfl rfl (pk_sub hbi) rfl _ (fun mc2 hi2 h4 => nm_r (nI_1 l) (nm_r (nI_1 i) (nm_r (nI_1 i) ?_)))
            rw [qh_L_g] at h4
            exact ih (i + 1) (i + 1) (l + 1) _ mc2 hi2 re2 (by omega) (qh_at_line h2 hle ht40 hn) h4
        refine pk_eq i t.length (fun e => line (fun h => by omega)) (fun hne => ⟨pk_in (f * 40 + i) 3640 (by omega) (e40 i), ?_⟩)
        have hi : i < t.length := by omega
        have h7 : t.getD i 0 < 7 := qc_get_in ht.2 i hi
        rw [pk_cl (f * 40 + i) (e40 i), hch i hi]
        refine pk_eq (t.getD i 0) 6 (fun e6 => line (fun h => h.2 e6)) (fun h6 => nm_r (nI_1 i) (ih (i + 1) b l H mc' hi' re' (by omega) (qh_at_next h2 hi h6) h3))
  refine And.intro (pk_in f 91 (by omega)) (nm_r (e' := nI t.length) (by rw [nI_clamp (by omega)]; exact hlen) ⟨t.length + 2, ?_⟩)
  exact key (t.length + 2) 0 0 0 H0 xmc xhi xre (by omega) (qh_at_0 (D root) f t ht40 H0 hl) hH
end
section
variable {ywa ydd ynd yns yma ynt yno yrc yfo ybl yod ywr : Int32} {yan yab yac yad yal yabl yacl yacf ynu yfi ypa ysz yli ytx yki yf1 yf2 yo yoa yob yit yss ymo yst ymy ycl yrw yow yhi yla : Nat → Int32} {yen : Nat → Int64}
theorem yf_file (f : Nat) (hf : f < 10) (t : List Nat) (ht : qf_t t) (hs : qx_slot yan yal f (some t)) (k0 : Nat) (hk0 : k0 ≤ 33) (hno : yno = nI k0) (root : qv_T) (P : Prop) (hO : qp_YO qv_lf qv_un qv_bi qv_big yo yoa yob k0 [root] P) (H0 : List (Nat × Nat × Nat × Nat)) (hH : qy_H H0 yhi yfo) (hl : H0.length + 1681 ≤ 2 ^ 20) (post : SY → Prop)
  (hp : ∀ (fo' : Int32) (hi' : Nat → Int32) (en' : Nat → Int64), qy_H (H0 ++ qh_file root f t) hi' fo' → post (ywa, ydd, ynd, yns, yma, ynt, yno, yrc, fo', ybl, yod, ywr, yan, yab, yac, yad, yal, yabl, yacl, yacf, ynu, yfi, ypa, ysz, yli, ytx, yki, yf1, yf2, yo, yoa, yob, yit, yss, ymo, yst, ymy, ycl, yrw, yow, en', hi', yla)) : wpY_scan post (ywa, ydd, ynd, yns, yma, ynt, yno, yrc, yfo, ybl, yod, ywr, yan, yab, yac, yad, yal, yabl, yacl, yacf, ynu, yfi, ypa, ysz, yli, ytx, yki, yf1, yf2, yo, yoa, yob, yit, yss, ymo, yst, ymy, ycl, yrw, yow, yen, yhi, yla) (nI f) := by
  obtain ⟨hlen, hch⟩ := hs
  have ht40 := ht.1
  have hvr : qv_ok root := qz_ok hO k0 (Nat.le_refl _) root (by
    have er : qz_R qv_lf qv_un qv_bi yo yoa yob k0 = [root] := hO.1
    rw [er]; exact List.mem_cons_self)
  have e40 : ∀ b : Nat, (40 : Int32) * nI f + nI b = nI (40 * f + b) := fun b => by rw [show (40 : Int32) = nI 40 from rfl, pk_mul, nI_add]
  have cf : (nI f).toNatClampNeg = f := nI_clamp (by omega)
  have key : ∀ (N i b l : Nat) (H : List (Nat × Nat × Nat × Nat)) (fo' : Int32) (hi' : Nat → Int32) (en' : Nat → Int64), t.length + 1 - i < N → qh_at root f t i b l H (H0 ++ qh_file root f t) → qy_H H hi' fo' → wY_scan_7 post (nI f) N (nI b) (nI l) (nI i) ywa ydd ynd yns yma ynt yno yrc fo' ybl yod ywr yan yab yac yad yal yabl yacl yacf ynu yfi ypa ysz yli ytx yki yf1 yf2 yo yoa yob yit yss ymo yst ymy ycl yrw yow en' hi' yla := by
    intro N
    induction N with
    | zero => intro i b l H fo' hi' en' h1; omega
    | succ N ih =>
      intro i b l H fo' hi' en' h1 h2 h3
      have hi41 := h2.1
      have hbi := h2.2.1
      have hlb := h2.2.2.1
      have hlh := h2.2.2.2.2.1
      refine ⟨pk_in f 10 hf, pk_lt t.length i (fun hlt => ?_) (fun hle => ⟨pk_in f 10 hf, ?_⟩) (by rw [cf]; exact hlen) rfl⟩
      · have e := qh_at_end h2 hlt
        subst e
        exact hp fo' hi' en' h3
      · have line : ¬ (i < t.length ∧ t.getD i 0 ≠ 6) → wY_scan_49 post (wY_scan_7 post (nI f) N) (nI f) (nI b) (nI l) (nI i) ywa ydd ynd yns yma ynt yno yrc fo' ybl yod ywr yan yab yac yad yal yabl yacl yacf ynu yfi ypa ysz yli ytx yki yf1 yf2 yo yoa yob yit yss ymo yst ymy ycl yrw yow en' hi' yla := by
          intro hn
          have ok := qh_at_ok h2 hle
          have hc := fun j hj => qh_lt6 ht.2 ok j hj
          refine nm_r (nI_1 l) ?_
          unfold wpY_line
          rw [e40 b, pk_sub hbi]
          refine ⟨k0 + 1, yg_line1 (i - b) k0 (40 * f + b) (fun j => t.getD (b + j) 0) hk0 hno (by omega) (by omega) (fun j hj => ?_) hc root P hO _ _ _ (fun en2 hre => ?_) (k0 + 1) 0 en' (by omega) (by omega) trivial⟩
          · rw [show 40 * f + b + j = f * 40 + (b + j) by omega]
            exact hch (b + j) (by omega)
          · refine yh_line f l (i - b) hf (by omega) (by omega) (qh_M root t b (i - b)) (fun p hp' => qh_ME ?_) (qh_Min hvr hc) H h3 (by omega) _ (fun fo2 hi2 h4 => nm_r (nI_1 i) (nm_r (nI_1 i) ?_))
            · have := hre p hp'
              rw [Nat.zero_add] at this
              exact this
            · rw [qh_L_g] at h4
              exact ih (i + 1) (i + 1) (l + 1) _ fo2 hi2 en2 (by omega) (qh_at_line h2 hle ht40 hn) h4
        refine pk_le t.length i (fun e => line (fun h => by omega)) (fun hi => ⟨pk_in (40 * f + i) 400 (by omega) (e40 i), ?_⟩) (by rw [cf]; exact hlen) rfl
        have h7 : t.getD i 0 < 7 := qc_get_in ht.2 i hi
        rw [pk_cl (40 * f + i) (e40 i), show 40 * f + i = f * 40 + i by omega, hch i hi]
        refine pk_eq (t.getD i 0) 6 (fun e6 => line (fun h => h.2 e6)) (fun h6 => nm_r (nI_1 i) (ih (i + 1) b l H fo' hi' en' (by omega) (qh_at_next h2 hi h6) h3))
  exact ⟨t.length + 2, key (t.length + 2) 0 0 0 H0 yfo yhi yen (by omega) (qh_at_0 root f t ht40 H0 hl) hH⟩
end
end
section
/-! the search over all files -/
noncomputable def qs_f (v : qv_T) (o : qf_X) (f : Nat) : List (Nat × Nat × Nat × Nat) := match o with
  | none => []
  | some t => qh_file v f t
noncomputable def qs_H (v : qv_T) (now : Nat → qf_X) : Nat → List (Nat × Nat × Nat × Nat)
  | 0 => []
  | k + 1 => qs_H v now k ++ qs_f v (now k) k
def qs_op (v : qv_T) (now : Nat → qf_X) (f : Nat) : Prop := ∃ t, now f = some t ∧ v.2.1.2.2.2 (qt_T t)
noncomputable def qs_bl (v : qv_T) (now : Nat → qf_X) : Nat → Nat
  | 0 => 0
  | k + 1 => qs_bl v now k + (@ite Nat (qs_op v now k) (Classical.propDecidable _) ((((now k).getD []).length + 7) / 8) 0)
theorem qs_bl_y {v : qv_T} {now : Nat → qf_X} {k : Nat} {t : List Nat} (ht : now k = some t) (h : v.2.1.2.2.2 (qt_T t)) : qs_bl v now (k + 1) = qs_bl v now k + (t.length + 7) / 8 := by
  have e : qs_bl v now (k + 1) = qs_bl v now k + (@ite Nat (qs_op v now k) (Classical.propDecidable _) ((((now k).getD []).length + 7) / 8) 0) := rfl
  rw [e, if_pos ⟨t, ht, h⟩, ht]
  rfl
theorem qs_bl_n {v : qv_T} {now : Nat → qf_X} {k : Nat} (h : ¬ qs_op v now k) : qs_bl v now (k + 1) = qs_bl v now k := by
  have e : qs_bl v now (k + 1) = qs_bl v now k + (@ite Nat (qs_op v now k) (Classical.propDecidable _) ((((now k).getD []).length + 7) / 8) 0) := rfl
  rw [e, if_neg h]
  rfl
theorem qs_op_n {v : qv_T} {now : Nat → qf_X} {k : Nat} (h : now k = none) : ¬ qs_op v now k := fun ⟨t, e, _⟩ => by rw [h] at e; exact nomatch e
theorem qs_op_f {v : qv_T} {now : Nat → qf_X} {k : Nat} {t : List Nat} (ht : now k = some t) (h : ¬ v.2.1.2.2.2 (qt_T t)) : ¬ qs_op v now k := fun ⟨t', e, h'⟩ => by
  rw [ht] at e
  cases e
  exact h h'
theorem qs_H_none {v : qv_T} {now : Nat → qf_X} {k : Nat} (h : now k = none) : qs_H v now (k + 1) = qs_H v now k := by
  show qs_H v now k ++ qs_f v (now k) k = _
  rw [h]
  exact List.append_nil _
theorem qs_H_some {v : qv_T} {now : Nat → qf_X} {k : Nat} {t : List Nat} (h : now k = some t) : qs_H v now (k + 1) = qs_H v now k ++ qh_file v k t := by
  show qs_H v now k ++ qs_f v (now k) k = _
  rw [h]
  rfl
theorem qs_len (v : qv_T) (now : Nat → qf_X) (hno : ∀ f, f < 10 → qf_o (now f)) : ∀ k, k ≤ 10 → (qs_H v now k).length ≤ 1681 * k
  | 0, _ => Nat.le_refl _
  | k + 1, hk => by
    have ih := qs_len v now hno k (by omega)
    match h : now k with
    | none => rw [qs_H_none h]; omega
    | some t =>
      rw [qs_H_some h, List.length_append]
      have ht := (hno k (by omega) t h).1
      have := qh_file_len v k t ht (t.length + 1) 0 0 0 (by omega)
      have e : (qh_file v k t).length = (qh_sc t (qh_g v k t) (t.length + 1) 0 0 0).length := rfl
      omega
theorem qh_ln_in (E : Nat → Int64) (n : Nat) : ∀ m q x, x ∈ qh_ln E n m q → x.1 ≤ n ∧ x.2 ≤ n
  | 0, _, x, h => nomatch h
  | m + 1, q, x, h => by
    unfold qh_ln at h
    split at h
    · rename_i hq
      split at h
      · exact qh_ln_in E n m _ x h
      · rename_i e he
        rcases List.mem_cons.mp h with z | z
        · subst z
          exact ⟨hq, (qh_last_some _ _ _ he).1⟩
        · exact qh_ln_in E n m _ x z
    · exact nomatch h
theorem qh_sc_in (v : qv_T) (f : Nat) (hf : f < 10) (t : List Nat) (ht : t.length ≤ 40) : ∀ m i b l, i + m = t.length + 1 → l + m ≤ t.length + 1 → ∀ x, x ∈ qh_sc t (qh_g v f t) m i b l → qh_B x
  | 0, _, _, _, _, _, x, h => nomatch h
  | m + 1, i, b, l, hm, hl, x, h => by
    unfold qh_sc at h
    split at h
    · exact qh_sc_in v f hf t ht m (i + 1) b l (by omega) (by omega) x h
    · rcases List.mem_append.mp h with z | z
      · obtain ⟨y, hy, rfl⟩ := List.mem_map.mp z
        have := qh_ln_in _ _ _ _ y hy
        exact ⟨hf, by show l ≤ 40; omega, by show y.1 ≤ 40; omega, by show y.2 ≤ 40; omega⟩
      · exact qh_sc_in v f hf t ht m (i + 1) (i + 1) (l + 1) (by omega) (by omega) x z
theorem qs_inb (v : qv_T) (now : Nat → qf_X) (hno : ∀ f, f < 10 → qf_o (now f)) : ∀ k, k ≤ 10 → ∀ x, x ∈ qs_H v now k → qh_B x
  | 0, _, x, h => nomatch h
  | k + 1, hk, x, h => by
    match hn : now k with
    | none =>
      rw [qs_H_none hn] at h
      exact qs_inb v now hno k (by omega) x h
    | some t =>
      rw [qs_H_some hn] at h
      rcases List.mem_append.mp h with z | z
      · exact qs_inb v now hno k (by omega) x z
      · exact qh_sc_in v k (by omega) t (hno k (by omega) t hn).1 (t.length + 1) 0 0 0 (by omega) (by omega) x z
def qs_wo (v : qv_T) (now : Nat → qf_X) (wo : Nat → Int32) (f : Nat) : Prop := ∀ g, g < 10 → (g < f ∧ qs_op v now g → wo g = 1) ∧ (¬ (g < f ∧ qs_op v now g) → wo g = 0)
theorem qs_wo_n {v : qv_T} {now : Nat → qf_X} {wo : Nat → Int32} {f : Nat} (h : qs_wo v now wo f) (hn : ¬ qs_op v now f) : qs_wo v now wo (f + 1) := by
  intro g hg
  obtain ⟨a, b⟩ := h g hg
  refine ⟨fun ⟨g1, g2⟩ => a ⟨?_, g2⟩, fun hh => b (fun ⟨g1, g2⟩ => hh ⟨by omega, g2⟩)⟩
  rcases Nat.lt_or_ge g f with z | z
  · exact z
  · have : g = f := by omega
    subst this
    exact absurd g2 hn
theorem qs_wo_y {v : qv_T} {now : Nat → qf_X} {wo : Nat → Int32} {f : Nat} (h : qs_wo v now wo f) (hn : qs_op v now f) : qs_wo v now (upd wo f 1) (f + 1) := by
  intro g hg
  obtain ⟨a, b⟩ := h g hg
  by_cases z : g = f
  · subst z
    refine ⟨fun _ => pk_us, fun hh => absurd ⟨by omega, hn⟩ hh⟩
  · rw [pk_un z]
    exact ⟨fun ⟨g1, g2⟩ => a ⟨by omega, g2⟩, fun hh => b (fun ⟨g1, g2⟩ => hh ⟨by omega, g2⟩)⟩
section
variable {xwc xdc xdm xsc xtc xnc xmc xbr xwt : Int32} {xch xtl xwf xdn xdf xdl xss xtk xta xtb xnk xna xnb xnl xnr xns xfa xfs xfi xrc xcl xhd xhi xwo : Nat → Int32} {xrw xre : Nat → Int64}
theorem xl_files (now : Nat → qf_X) (hno : ∀ f, f < 10 → qf_o (now f)) (hs : ∀ f, f < 10 → qx_slot xch xtl f (now f)) (m root : Nat) (D : Nat → qv_T) (hm : m ≤ 33) (hr : root < m) (hnc : xnc = nI m) (hok : qn_ok qv_lf qv_un qv_bi xnk xna xnb xnl xnr m D) (hv : ∀ j, j < m → qv_ok (D j)) (hin : ∀ j, j < m → qx_in xrw xrc j (D j).2.1) (post : Int32 → SX → Prop)
  (hp : ∀ (mc' br' : Int32) (cl' hd' hi' wo' : Nat → Int32) (re' : Nat → Int64), qx_H (qs_H (D root) now 10) hi' mc' → qs_wo (D root) now wo' 10 → br' = nI (qs_bl (D root) now 10) → post mc' (xwc, xdc, xdm, xsc, xtc, xnc, mc', br', xwt, xch, xtl, xwf, xdn, xdf, xdl, xss, xtk, xta, xtb, xnk, xna, xnb, xnl, xnr, xns, xfa, xfs, xfi, xrw, xrc, cl', hd', re', hi', wo')) :
  ∀ (N f : Nat) (mc' br' : Int32) (cl' hd' hi' wo' : Nat → Int32) (re' : Nat → Int64), f ≤ 10 → 10 - f < N → qx_H (qs_H (D root) now f) hi' mc' → qs_wo (D root) now wo' f → br' = nI (qs_bl (D root) now f) → wX_search_61 post (nI root) N (nI f) xwc xdc xdm xsc xtc xnc mc' br' xwt xch xtl xwf xdn xdf xdl xss xtk xta xtb xnk xna xnb xnl xnr xns xfa xfs xfi xrw xrc cl' hd' re' hi' wo' := by
  intro N
  induction N with
  | zero => intro f mc' br' cl' hd' hi' wo' re' h1 h2; omega
  | succ N ih =>
    intro f mc' br' cl' hd' hi' wo' re' h1 h2 h3 h4 h5
    refine pk_le 10 f (fun hle => ?_) (fun hlt => ?_)
    · have e : f = 10 := by omega
      subst e
      exact hp mc' br' cl' hd' hi' wo' re' h3 h4 h5
    · have hlen := qs_len (D root) now hno f (by omega)
      refine xs_there f hlt (now f) (hno f hlt) (hs f hlt) _ (fun hn => br_t rfl (nm_r (nI_1 f) (ih (f + 1) mc' br' cl' hd' hi' wo' re' (by omega) (by omega) ?_ (qs_wo_n h4 (qs_op_n hn)) ?_))) (fun t ht => br_f (by decide) ?_)
      · rw [qs_H_none hn]; exact h3
      · rw [qs_bl_n (qs_op_n hn)]; exact h5
      · have hqt := hno f hlt t ht
        have hst := hs f hlt
        rw [ht] at hst
        refine xc_holds f hlt t hqt hst m root D hm hr hnc hok (fun j hj => (hv j hj).1) hin _ (fun hc hd2 cl2 => br_f (by decide) ?_) (fun hc hd2 cl2 => br_t rfl (nm_r (nI_1 f) (ih (f + 1) mc' br' cl2 hd2 hi' wo' re' (by omega) (by omega) ?_ (qs_wo_n h4 (qs_op_f ht hc)) ?_)))
        · have l40 := hqt.1
          have cf : (nI f).toNatClampNeg = f := nI_clamp (by omega)
          have eb : br' + ((xtl f + 8) - 1) / 8 = nI (qs_bl (D root) now (f + 1)) := by
            rw [qs_bl_y ht hc, h5, hst.1, show (8 : Int32) = nI 8 from rfl, nI_add, show t.length + 8 = t.length + 7 + 1 by omega, nI_pred, pk_div (by omega) (by omega) (by omega), nI_add]
          refine ⟨pk_in f 10 hlt, nm_e ⟨pk_in f 91 (by omega), by decide, nm_r (e' := nI (qs_bl (D root) now (f + 1))) (by rw [cf]; exact eb) ?_⟩⟩
          rw [cf, xs_b1]
          refine xf_file f hlt t hqt hst m root D hm hr hnc hok hv _ h3 (by omega) _ (fun mc2 hi2 re2 h6 => nm_r (nI_1 f) (ih (f + 1) mc2 _ cl2 hd2 hi2 _ re2 (by omega) (by omega) ?_ (qs_wo_y h4 ⟨t, ht, hc⟩) rfl))
          rw [qs_H_some ht]
          exact h6
        · rw [qs_H_some ht, qh_file_nil (hv root hr) f hqt.2 hc, List.append_nil]
          exact h3
        · rw [qs_bl_n (qs_op_f ht hc)]; exact h5
theorem xl_learn (now : Nat → qf_X) (hno : ∀ f, f < 10 → qf_o (now f)) (hs : ∀ f, f < 10 → qx_slot xch xtl f (now f)) (m root : Nat) (D : Nat → qv_T) (hm : m ≤ 33) (hr : root < m) (hnc : xnc = nI m) (hok : qn_ok qv_lf qv_un qv_bi xnk xna xnb xnl xnr m D) (hv : ∀ j, j < m → qv_ok (D j)) (h0H : qx_H [] xhi xmc) (h0w : qs_wo (D root) now xwo 0) (h0b : xbr = 0) (post : Int32 → SX → Prop)
  (hp : ∀ (mc' br' : Int32) (rc' cl' hd' hi' wo' : Nat → Int32) (rw' re' : Nat → Int64), qx_H (qs_H (D root) now 10) hi' mc' → qs_wo (D root) now wo' 10 → br' = nI (qs_bl (D root) now 10) → post mc' (xwc, xdc, xdm, xsc, xtc, xnc, mc', br', xwt, xch, xtl, xwf, xdn, xdf, xdl, xss, xtk, xta, xtb, xnk, xna, xnb, xnl, xnr, xns, xfa, xfs, xfi, rw', rc', cl', hd', re', hi', wo')) :
  ∃ N : Nat, wX_search_40 post (nI root) N 0 xwc xdc xdm xsc xtc xnc xmc xbr xwt xch xtl xwf xdn xdf xdl xss xtk xta xtb xnk xna xnb xnl xnr xns xfa xfs xfi xrw xrc xcl xhd xre xhi xwo := by
  have key : ∀ (N n : Nat) (rw' : Nat → Int64) (rc' : Nat → Int32), n ≤ m → m - n < N → (∀ j, j < n → qx_in rw' rc' j (D j).2.1) → wX_search_40 post (nI root) N (nI n) xwc xdc xdm xsc xtc xnc xmc xbr xwt xch xtl xwf xdn xdf xdl xss xtk xta xtb xnk xna xnb xnl xnr xns xfa xfs xfi rw' rc' xcl xhd xre xhi xwo := by
    intro N
    induction N with
    | zero => intro n rw' rc' h1 h2; omega
    | succ N ih =>
      intro n rw' rc' h1 h2 h3
      refine pk_le m n (fun hle => ⟨11, ?_⟩) (fun hlt => ?_) hnc rfl
      · refine xl_files now hno hs m root D hm hr hnc hok hv (fun j hj => h3 j (by omega)) post (fun mc' br' cl' hd' hi' wo' re' g1 g2 g3 => hp mc' br' rc' cl' hd' hi' wo' rw' re' g1 g2 g3) 11 0 xmc xbr xcl xhd xhi xwo xre (by omega) (by omega) h0H h0w h0b
      · exact xn_learn n m D hm hlt hok (fun j hj => (hv j hj).1) h3 _ (fun rw1 rc1 h4 => nm_r (nI_1 n) (ih (n + 1) rw1 rc1 (by omega) (by omega) h4))
  exact ⟨m + 1, key (m + 1) 0 xrw xrc (by omega) (by omega) (fun j hj => absurd hj (by omega))⟩
theorem xl_forget (post : SX → Prop) (hp : ∀ wo' : Nat → Int32, (∀ g, g < 10 → wo' g = 0) → post (xwc, xdc, xdm, xsc, xtc, xnc, 0, 0, xwt, xch, xtl, xwf, xdn, xdf, xdl, xss, xtk, xta, xtb, xnk, xna, xnb, xnl, xnr, xns, xfa, xfs, xfi, xrw, xrc, xcl, xhd, xre, xhi, wo')) : wpX_forgetFound post (xwc, xdc, xdm, xsc, xtc, xnc, xmc, xbr, xwt, xch, xtl, xwf, xdn, xdf, xdl, xss, xtk, xta, xtb, xnk, xna, xnb, xnl, xnr, xns, xfa, xfs, xfi, xrw, xrc, xcl, xhd, xre, xhi, xwo) := by
  have key : ∀ (N i : Nat) (wo' : Nat → Int32), i ≤ 10 → 10 - i < N → (∀ g, g < i → wo' g = 0) → wX_forgetFound_12 post xwc xdc xdm xsc xtc xnc 0 0 xwt N (nI i) xch xtl xwf xdn xdf xdl xss xtk xta xtb xnk xna xnb xnl xnr xns xfa xfs xfi xrw xrc xcl xhd xre xhi wo' := by
    intro N
    induction N with
    | zero => intro i wo' h1 h2; omega
    | succ N ih =>
      intro i wo' h1 h2 h3
      refine pk_le 10 i (fun hle => hp wo' (fun g hg => h3 g (by omega))) (fun hlt => ⟨pk_in i 10 hlt, nm_e (nm_r (nI_1 i) ?_)⟩)
      rw [nI_clamp (by omega), xs_b0]
      refine ih (i + 1) _ (by omega) (by omega) (fun g hg => ?_)
      by_cases z : g = i
      · subst z; exact pk_us
      · exact (pk_un z).trans (h3 g (by omega))
  exact ⟨11, key 11 0 xwo (by omega) (by omega) (fun g hg => absurd hg (by omega))⟩
end
def qs_od (v : qv_T) (now : Nat → qf_X) (od : Int32) (f : Nat) : Prop := ∀ g, g < 10 → (bt od g = true ↔ g < f ∧ qs_op v now g)
section
variable {ywa ydd ynd yns yma ynt yno yrc yfo ybl yod ywr : Int32} {yan yab yac yad yal yabl yacl yacf ynu yfi ypa ysz yli ytx yki yf1 yf2 yo yoa yob yit yss ymo yst ymy ycl yrw yow yhi yla : Nat → Int32} {yen : Nat → Int64}
theorem yl_files (now : Nat → qf_X) (hno : ∀ f, f < 10 → qf_o (now f)) (hs : ∀ f, f < 10 → qx_slot yan yal f (now f)) (k0 : Nat) (hk0 : k0 ≤ 33) (hyno : yno = nI k0) (root : qv_T) (P : Prop) (hO : qp_YO qv_lf qv_un qv_bi qv_big yo yoa yob k0 [root] P) (x : Int32) (hx : qk_cl now x root.2.1.2.2.2) (post : Int32 → SY → Prop)
  (hp : ∀ (fo' bl' od' : Int32) (hi' : Nat → Int32) (en' : Nat → Int64), qy_H (qs_H root now 10) hi' fo' → qs_od root now od' 10 → bl' = nI (qs_bl root now 10) → post fo' (ywa, ydd, ynd, yns, yma, ynt, yno, yrc, fo', bl', od', ywr, yan, yab, yac, yad, yal, yabl, yacl, yacf, ynu, yfi, ypa, ysz, yli, ytx, yki, yf1, yf2, yo, yoa, yob, yit, yss, ymo, yst, ymy, ycl, yrw, yow, en', hi', yla)) :
  ∀ (N f : Nat) (fo' bl' od' : Int32) (hi' : Nat → Int32) (en' : Nat → Int64), f ≤ 10 → 10 - f < N → qy_H (qs_H root now f) hi' fo' → qs_od root now od' f → bl' = nI (qs_bl root now f) → wY_search_54 post x N (nI f) ywa ydd ynd yns yma ynt yno yrc fo' bl' od' ywr yan yab yac yad yal yabl yacl yacf ynu yfi ypa ysz yli ytx yki yf1 yf2 yo yoa yob yit yss ymo yst ymy ycl yrw yow en' hi' yla := by
  intro N
  induction N with
  | zero => intro f fo' bl' od' hi' en' h1 h2; omega
  | succ N ih =>
    intro f fo' bl' od' hi' en' h1 h2 h3 h4 h5
    refine pk_le 10 f (fun hle => ?_) (fun hlt => ⟨pk_in f 10 hlt, ?_⟩)
    · have e : f = 10 := by omega
      subst e
      exact hp fo' bl' od' hi' en' h3 h4 h5
    · have hlen := qs_len root now hno f (by omega)
      have cf : (nI f).toNatClampNeg = f := nI_clamp (by omega)
      have hst := hs f hlt
      have odn : ¬ qs_op root now f → qs_od root now od' (f + 1) := by
        intro hn g hg
        rw [h4 g hg]
        refine ⟨fun ⟨a, b⟩ => ⟨by omega, b⟩, fun ⟨a, b⟩ => ⟨?_, b⟩⟩
        rcases Nat.lt_or_ge g f with z | z
        · exact z
        · have : g = f := by omega
          subst this
          exact absurd b hn
      match hnf : now f with
      | none =>
        rw [hnf] at hst
        have hst' : yal f = -1 := hst
        rw [cf, hst']
        refine br_f (by decide) (nm_r (nI_1 f) (ih (f + 1) fo' bl' od' hi' en' (by omega) (by omega) ?_ (odn (qs_op_n hnf)) ?_))
        · rw [qs_H_none hnf]; exact h3
        · rw [qs_bl_n (qs_op_n hnf)]; exact h5
      | some t =>
        rw [hnf] at hst
        have hqt := hno f hlt t hnf
        have l40 := hqt.1
        rw [cf, hst.1]
        refine br_t (nI_pos' (by omega)) ?_
        refine ek_if ((qb_s1 x f (by omega)).trans (hx f t hlt hnf)) (fun hc => ?_) (fun hc => ?_)
        · refine nm_e ⟨pk_in f 10 hlt, by decide, nm_r (e' := nI (qs_bl root now (f + 1))) ?_ ?_⟩
          · rw [qs_bl_y hnf hc, h5, show (7 : Int32) = nI 7 from rfl, nI_add, show (8 : Int32) = nI 8 from rfl, pk_div (by omega) (by omega) (by omega), nI_add]
          · unfold wY_search_114
            refine yf_file f hlt t hqt hst k0 hk0 hyno root P hO _ h3 (by omega) _ (fun fo2 hi2 en2 h6 => nm_r (nI_1 f) (ih (f + 1) fo2 _ _ hi2 en2 (by omega) (by omega) (by rw [qs_H_some hnf]; exact h6) (fun g hg => ?_) rfl))
            rw [b_or, Bool.or_eq_true, h4 g hg, qb_h32 f (by omega) g (by omega), decide_eq_true_eq]
            constructor
            · rintro (⟨a, b⟩ | a)
              · exact ⟨by omega, b⟩
              · subst a; exact ⟨by omega, t, hnf, hc⟩
            · rintro ⟨a, b⟩
              by_cases z : g = f
              · exact Or.inr z
              · exact Or.inl ⟨by omega, b⟩
        · unfold wY_search_114
          refine yf_file f hlt t hqt hst k0 hk0 hyno root P hO _ h3 (by omega) _ (fun fo2 hi2 en2 h6 => nm_r (nI_1 f) (ih (f + 1) fo2 bl' od' hi2 en2 (by omega) (by omega) (by rw [qs_H_some hnf]; exact h6) (odn (qs_op_f hnf hc)) ?_))
          rw [qs_bl_n (qs_op_f hnf hc)]; exact h5
end
theorem qp_wr_nn {V : Type} (lf : Nat → Nat → V) (un : Nat → Nat → Nat → V → V) (bi : Nat → V → V → V) (big : V → Prop) (K A B : Nat → Nat) (nt : Nat) : ∀ m t, t + m ≤ nt → qp_wr lf un bi big K A B nt m t = -1 ∨ ∃ j, j ≤ nt ∧ qp_wr lf un bi big K A B nt m t = nI j
  | 0, t, h => by
    unfold qp_wr
    split
    · exact Or.inl rfl
    · exact Or.inr ⟨nt, Nat.le_refl _, rfl⟩
  | m + 1, t, h => by
    unfold qp_wr
    split
    · exact Or.inr ⟨t, by omega, rfl⟩
    · exact qp_wr_nn lf un bi big K A B nt m (t + 1) (by omega)
end
section
theorem i_vc_search {k : Nat} {u : SX} {v : SY} (I : i_Rel k u v) (hk : k + 4 ≤ 2048) : wpX_search (fun r u' => wpY_search (fun r' v' => r' = r ∧ i_Rel (k + 4) u' v') v) u := by
  obtain ⟨xwc, xdc, xdm, xsc, xtc, xnc, xmc, xbr, xwt, xch, xtl, xwf, xdn, xdf, xdl, xss, xtk, xta, xtb, xnk, xna, xnb, xnl, xnr, xns, xfa, xfs, xfi, xrw, xrc, xcl, xhd, xre, xhi, xwo⟩ := u
  obtain ⟨ywa, ydd, ynd, yns, yma, ynt, yno, yrc, yfo, ybl, yod, ywr, yan, yab, yac, yad, yal, yabl, yacl, yacf, ynu, yfi, ypa, ysz, yli, ytx, yki, yf1, yf2, yo, yoa, yob, yit, yss, ymo, yst, ymy, ycl, yrw, yow, yen, yhi, yla⟩ := v
  obtain ⟨now, base, wt, dr, docs, segs, made, hi, hm, hX, hY, ⟨nt, h1, h2, h3, h4, h5, htk⟩, hR, hb, hw⟩ := I
  subst h1; subst h2; subst h3
  have hno := qf_now_o hi
  have nil : ∀ (op : Nat → Prop) (wo hx hy : Nat → Int32), (∀ f, f < 10 → ¬ op f) → (∀ g, g < 10 → wo g = 0) → qR_R hx wo 0 hy 0 0 := by
    intro op wo hx hy hop hwo
    refine ⟨[], op, ⟨by simp, (fun x hx => nomatch hx)⟩, ⟨rfl, (fun k x _ hx => nomatch hx), fun f hf => ⟨fun h => absurd h (hop f hf), fun _ => hwo f hf⟩⟩, ⟨rfl, (fun k x _ hx => nomatch hx), fun f hf => ?_⟩⟩
    rw [b_0]
    exact ⟨fun z => (nomatch z), fun z => absurd z (hop f hf)⟩
  unfold wpX_search
  refine xl_forget _ (fun wo0 hwo0 => ?_)
  refine xe_wrong qv_lf qv_un qv_bi qv_big nt htk h4 _ ?_
  by_cases hwr : qp_wrong qv_lf qv_un qv_bi qv_big (qk_K yki) (qk_K yf1) (qk_K yf2) nt = -1
  · refine br_t hwr ?_
    refine xe_parse qv_lf qv_un qv_bi qv_big nt htk h4 qv_nb hwr _ (fun root m' D' K' A' B' L' R' FA' FS' FI' g1 g2 g3 g4 => ?_)
    obtain ⟨rt, hrt, ert, eD⟩ := g3
    subst ert
    have hv : ∀ j, j < m' → qv_ok (D' j) := qn_all qv_lf qv_un qv_bi g2 (fun k a h => qv_ok_lf k a (fun e => qi_bit (h e).1 (h e).2)) (fun k a b x h => qv_ok_un k a b h) (fun k x y h h' => qv_ok_bi k h h')
    refine xz_large m' D' g1 rfl g2 _ (fun hnb ns => br_t rfl ?_) (fun hbg ns => br_f (by decide) ?_)
    · refine xl_learn now hno hX.1 m' rt D' g1 hrt rfl g2 hv ⟨rfl, (fun k x _ hx => nomatch hx)⟩ (fun g hg => ⟨fun h => absurd h.1 (by omega), fun _ => hwo0 g hg⟩) rfl _ (fun mc' br' rc' cl' hd' hi' wo' rw' re' e1 e2 e3 => ?_)
      unfold wpY_search
      refine yp_parse qv_lf qv_un qv_bi qv_big nt htk h5 qv_nb _ (fun r no o' oa' ob' it' mo' er hr => absurd (er.trans hwr) hr) (fun n' o' oa' ob' it' mo' _ f1 f2 => br_t (by decide) ?_)
      refine yz_large n' f1 rfl _ _ f2 _ (fun hnP ss => br_t rfl ?_) (fun hP ss => absurd (g4.mp hP) hnb)
      refine yr_list now hno hY.1 _ (fun ow how => ?_)
      rw [← eD] at f2
      refine yk_claim n' f1 rfl (D' rt) _ f2 how _ (fun x rc2 rw2 st2 my2 cl2 hcl => ⟨11, ?_⟩)
      refine yl_files now hno hY.1 n' f1 rfl (D' rt) _ f2 x hcl _ (fun fo' bl' od' hy' en' y1 y2 y3 => ⟨by rw [y1.1, e1.1], now, base, wt, dr, docs, segs, made, hi, by omega, hX, hY, ⟨nt, rfl, rfl, rfl, h4, h5, htk⟩, ⟨qs_H (D' rt) now 10, qs_op (D' rt) now, ?_, ?_, ?_⟩, ?_, ?_⟩) 11 0 0 0 0 yhi yen (by omega) (by omega) ⟨rfl, (fun k x _ hx => nomatch hx)⟩ (fun g hg => ?_) rfl
      · have := qs_len (D' rt) now hno 10 (Nat.le_refl _)
        exact ⟨by omega, fun x hx => qs_inb (D' rt) now hno 10 (Nat.le_refl _) x hx⟩
      · exact ⟨e1.1, e1.2, fun f hf => ⟨fun h => (e2 f hf).1 ⟨hf, h⟩, fun h => (e2 f hf).2 (fun z => h z.2)⟩⟩
      · exact ⟨y1.1, y1.2, fun f hf => (y2 f hf).trans ⟨fun h => h.2, fun h => ⟨hf, h⟩⟩⟩
      · rw [e3, y3]
      · exact hwr
      · rw [b_0]
        exact ⟨fun z => (nomatch z), fun z => absurd z.1 (by omega)⟩
    · unfold wpY_search
      refine yp_parse qv_lf qv_un qv_bi qv_big nt htk h5 qv_nb _ (fun r no o' oa' ob' it' mo' er hr => absurd (er.trans hwr) hr) (fun n' o' oa' ob' it' mo' _ f1 f2 => br_t (by decide) ?_)
      refine yz_large n' f1 rfl _ _ f2 _ (fun hnP ss => absurd (g4.mpr hbg) hnP) (fun hP ss => br_f (by decide) ?_)
      exact ⟨rfl, now, base, wt, dr, docs, segs, made, hi, by omega, hX, hY, ⟨nt, rfl, rfl, rfl, h4, h5, htk⟩, nil (fun _ => False) _ _ _ (fun _ _ h => h) hwo0, rfl, hwr⟩
  · refine br_f hwr ?_
    unfold wpY_search
    refine yp_parse qv_lf qv_un qv_bi qv_big nt htk h5 qv_nb _ (fun r no o' oa' ob' it' mo' er hr => ?_) (fun n' o' oa' ob' it' mo' hwr' f1 f2 => absurd hwr' hwr)
    have hnn : ¬ r < 0 := by
      rcases qp_wr_nn qv_lf qv_un qv_bi qv_big (qk_K yki) (qk_K yf1) (qk_K yf2) nt nt 0 (by omega) with z | ⟨j, hj, z⟩
      · exact absurd z hwr
      · have h16 := htk.1
        rw [er]
        show ¬ qp_wr _ _ _ _ _ _ _ _ _ _ < 0
        rw [z]
        exact nI_pos (by omega)
    refine br_f hnn ?_
    exact ⟨rfl, now, base, wt, dr, docs, segs, made, hi, by omega, hX, hY, ⟨nt, rfl, rfl, rfl, h4, h5, htk⟩, nil (fun _ => False) _ _ _ (fun _ _ h => h) hwo0, rfl, er.symm⟩
end
