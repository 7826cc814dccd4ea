/-! trigrams of a text; lists and bits of a segment -/
def qt_g (t : List Nat) (i : Nat) : Option Nat := if i + 2 < t.length ∧ t.getD i 0 < 6 ∧ t.getD (i + 1) 0 < 6 ∧ t.getD (i + 2) 0 < 6 then some (36 * t.getD i 0 + 6 * t.getD (i + 1) 0 + t.getD (i + 2) 0) else none
theorem qt_g_lt {t : List Nat} {i c : Nat} (h : qt_g t i = some c) : c < 216 ∧ i + 2 < t.length := by
  unfold qt_g at h
  split at h
  · rename_i z
    cases h
    omega
  · exact nomatch h
theorem qt_g_T {t : List Nat} {a b c : Nat} (ha : a < 6) (hb : b < 6) (hc : c < 6) : qt_T t a b c ↔ ∃ i, qt_g t i = some (36 * a + 6 * b + c) := by
  constructor
  · rintro ⟨i, h1, h2, h3, h4⟩
    refine ⟨i, ?_⟩
    unfold qt_g
    rw [h2, h3, h4, if_pos ⟨h1, ha, hb, hc⟩]
  · rintro ⟨i, h⟩
    unfold qt_g at h
    split at h
    · rename_i z
      have e := Option.some.inj h
      exact ⟨i, z.1, by omega, by omega, by omega⟩
    · exact nomatch h
theorem qt_g_none {t : List Nat} {i : Nat} (h : t.length ≤ i + 2) : qt_g t i = none := by
  unfold qt_g
  rw [if_neg (by omega)]
def qt_any (t : List Nat) (m c : Nat) : Bool := (List.range m).any (fun i => qt_g t i == some c)
theorem qt_any_iff {t : List Nat} {m c : Nat} : qt_any t m c = true ↔ ∃ i, i < m ∧ qt_g t i = some c := by
  unfold qt_any
  rw [List.any_eq_true]
  constructor
  · rintro ⟨i, h1, h2⟩
    exact ⟨i, List.mem_range.mp h1, by simpa using h2⟩
  · rintro ⟨i, h1, h2⟩
    exact ⟨i, List.mem_range.mpr h1, by simpa using h2⟩
theorem qt_any_all {t : List Nat} {m c : Nat} (hm : t.length ≤ m + 2) : qt_any t m c = qt_any t t.length c := by
  have h : qt_any t m c = true ↔ qt_any t t.length c = true := by
    rw [qt_any_iff, qt_any_iff]
    constructor
    · rintro ⟨i, h1, h2⟩; exact ⟨i, by have := (qt_g_lt h2).2; omega, h2⟩
    · rintro ⟨i, h1, h2⟩; exact ⟨i, by have := (qt_g_lt h2).2; omega, h2⟩
  cases x : qt_any t m c <;> cases y : qt_any t t.length c
  · rfl
  · rw [x, y] at h; exact absurd (h.mpr rfl) (by decide)
  · rw [x, y] at h; exact absurd (h.mp rfl) (by decide)
  · rfl
theorem qt_any_s (t : List Nat) (m c : Nat) : qt_any t (m + 1) c = (qt_any t m c || (qt_g t m == some c)) := by
  unfold qt_any
  rw [List.range_succ, List.any_append]
  simp
def qt_new (t : List Nat) (k : Nat) : Bool := match qt_g t k with
  | none => false
  | some c => !qt_any t k c
def qt_n (t : List Nat) : Nat → Nat
  | 0 => 0
  | k + 1 => qt_n t k + (if qt_new t k = true then 1 else 0)
/-- how many different trigrams a text has -/
def qt_cnt (t : List Nat) : Nat := qt_n t t.length
theorem qt_n_all {t : List Nat} : ∀ m, t.length ≤ m + 2 → m ≤ t.length → qt_n t m = qt_cnt t := by
  intro m h1 h2
  have : ∀ k, m ≤ k → qt_n t k = qt_n t m := by
    intro k hk
    induction hk with
    | refl => rfl
    | step hk ih =>
      rename_i k
      have hk' : m ≤ k := hk
      have e : qt_new t k = false := by unfold qt_new; rw [qt_g_none (by omega)]
      show qt_n t k + _ = _
      rw [e, ih]
      rfl
  exact (this t.length h2).symm
/-! sums -/
def qs_sum (f : Nat → Nat) : Nat → Nat
  | 0 => 0
  | n + 1 => qs_sum f n + f n
theorem qs_cg {f g : Nat → Nat} : ∀ n, (∀ i, i < n → f i = g i) → qs_sum f n = qs_sum g n
  | 0, _ => rfl
  | n + 1, h => by
    show qs_sum f n + f n = qs_sum g n + g n
    rw [qs_cg n (fun i hi => h i (by omega)), h n (by omega)]
theorem qs_upd {f g : Nat → Nat} {j δ : Nat} : ∀ n, j < n → (∀ i, i < n → i ≠ j → g i = f i) → g j = f j + δ → qs_sum g n = qs_sum f n + δ
  | 0, h, _, _ => absurd h (by omega)
  | n + 1, h, h1, h2 => by
    show qs_sum g n + g n = qs_sum f n + f n + δ
    by_cases z : j = n
    · subst z
      rw [qs_cg j (fun i hi => h1 i (by omega) (by omega)), h2]
      omega
    · rw [qs_upd n (by omega) (fun i hi => h1 i (by omega)) h2, h1 n (by omega) (fun e => z e.symm)]
      omega
theorem qs_add (f : Nat → Nat) (n : Nat) : ∀ m, qs_sum f (n + m) = qs_sum f n + qs_sum (fun i => f (n + i)) m
  | 0 => rfl
  | m + 1 => by
    show qs_sum f (n + m) + f (n + m) = _ + (_ + _)
    rw [qs_add f n m]
    dsimp only
    omega
theorem qs_blk (f : Nat → Nat) (k : Nat) : ∀ n, qs_sum f (k * n) = qs_sum (fun a => qs_sum (fun c => f (k * a + c)) k) n
  | 0 => rfl
  | n + 1 => by
    rw [Nat.mul_succ, qs_add, qs_blk f k n]
    rfl
theorem qs_0 {f : Nat → Nat} : ∀ n, (∀ i, i < n → f i = 0) → qs_sum f n = 0
  | 0, _ => rfl
  | n + 1, h => by
    show qs_sum f n + f n = 0
    rw [qs_0 n (fun i hi => h i (by omega)), h n (by omega)]
theorem qs_86 {f : Nat → Nat} (h6 : f 6 = 0) (h7 : f 7 = 0) : qs_sum f 8 = qs_sum f 6 := by
  show qs_sum f 6 + f 6 + f 7 = _
  omega
def qt_68 (c : Nat) : Nat := 64 * (c / 36) + 8 * (c / 6 % 6) + c % 6
/-- a sum over the class's codes is that over the reference's -/
theorem qs_conv (g : Nat → Nat) (h : ∀ a b c, a < 8 → b < 8 → c < 8 → 6 ≤ a ∨ 6 ≤ b ∨ 6 ≤ c → g (64 * a + 8 * b + c) = 0) : qs_sum g 512 = qs_sum (fun c => g (qt_68 c)) 216 := by
  have e1 : qs_sum g 512 = qs_sum (fun a => qs_sum (fun b => qs_sum (fun c => g (64 * a + 8 * b + c)) 6) 6) 6 := by
    rw [show (512 : Nat) = 64 * 8 from rfl, qs_blk g 64 8]
    have hb : ∀ a, a < 8 → qs_sum (fun c => g (64 * a + c)) 64 = qs_sum (fun b => qs_sum (fun c => g (64 * a + 8 * b + c)) 6) 6 := by
      intro a ha
      rw [show (64 : Nat) = 8 * 8 from rfl, qs_blk _ 8 8]
      have hc : ∀ b, b < 8 → qs_sum (fun c => g (8 * 8 * a + (8 * b + c))) 8 = qs_sum (fun c => g (64 * a + 8 * b + c)) 6 := by
        intro b hb
        rw [qs_86]
        · apply qs_cg; intro c hc; rw [show 8 * 8 * a + (8 * b + c) = 64 * a + 8 * b + c by omega]
        · rw [show 8 * 8 * a + (8 * b + 6) = 64 * a + 8 * b + 6 by omega]; exact h a b 6 ha hb (by omega) (by omega)
        · rw [show 8 * 8 * a + (8 * b + 7) = 64 * a + 8 * b + 7 by omega]; exact h a b 7 ha hb (by omega) (by omega)
      rw [qs_cg 8 hc, qs_86]
      · exact qs_0 6 (fun c hc => h a 6 c ha (by omega) (by omega) (by omega))
      · exact qs_0 6 (fun c hc => h a 7 c ha (by omega) (by omega) (by omega))
    rw [qs_cg 8 hb, qs_86]
    · exact qs_0 6 (fun b hb => qs_0 6 (fun c hc => h 6 b c (by omega) (by omega) (by omega) (by omega)))
    · exact qs_0 6 (fun b hb => qs_0 6 (fun c hc => h 7 b c (by omega) (by omega) (by omega) (by omega)))
  rw [e1, show (216 : Nat) = 36 * 6 from rfl, qs_blk _ 36 6]
  apply qs_cg
  intro a ha
  show _ = qs_sum (fun c => g (qt_68 (36 * a + c))) 36
  rw [show (36 : Nat) = 6 * 6 from rfl, qs_blk _ 6 6]
  apply qs_cg
  intro b hb
  apply qs_cg
  intro c hc
  show g (64 * a + 8 * b + c) = g (qt_68 (6 * 6 * a + (6 * b + c)))
  congr 1
  unfold qt_68
  omega
/-! lists and bits -/
def ql_c (d : Nat) : Nat := 2 * Nat.log2 d + 1
def qt_P (c : Nat) (t : List Nat) : Bool := qt_any t t.length c
def ql_b (P : List Nat → Bool) : List qf_D → Nat → Nat
  | [], _ => 0
  | x :: l, p => if P x.2.2.2 = true then ql_c (x.1 + 1 - p) + ql_b P l (x.1 + 1) else ql_b P l p
def ql_p (P : List Nat → Bool) : List qf_D → Nat → Nat
  | [], p => p
  | x :: l, p => if P x.2.2.2 = true then ql_p P l (x.1 + 1) else ql_p P l p
theorem ql_b_1 (P : List Nat → Bool) (x : qf_D) : ∀ (l : List qf_D) (p : Nat), ql_b P (l ++ [x]) p = ql_b P l p + (if P x.2.2.2 = true then ql_c (x.1 + 1 - ql_p P l p) else 0)
  | [], p => by simp [ql_b, ql_p]
  | y :: l, p => by
    rw [List.cons_append]
    unfold ql_b ql_p
    split
    · rw [ql_b_1 P x l]; omega
    · rw [ql_b_1 P x l]
theorem ql_p_1 (P : List Nat → Bool) (x : qf_D) : ∀ (l : List qf_D) (p : Nat), ql_p P (l ++ [x]) p = (if P x.2.2.2 = true then x.1 + 1 else ql_p P l p)
  | [], p => by simp [ql_p]
  | y :: l, p => by
    rw [List.cons_append]
    unfold ql_p
    split
    · rw [ql_p_1 P x l]
    · rw [ql_p_1 P x l]
theorem ql_p_le (P : List Nat → Bool) : ∀ (l : List qf_D) (p m : Nat), p ≤ m → (∀ x, x ∈ l → x.1 < m) → ql_p P l p ≤ m
  | [], _, _, h, _ => h
  | x :: l, p, m, h, hl => by
    unfold ql_p
    split
    · exact ql_p_le P l _ m (by have := hl x List.mem_cons_self; omega) (fun y hy => hl y (List.mem_cons_of_mem _ hy))
    · exact ql_p_le P l _ m h (fun y hy => hl y (List.mem_cons_of_mem _ hy))
theorem ql_b_cg {P Q : List Nat → Bool} (h : ∀ t, P t = Q t) (l : List qf_D) (p : Nat) : ql_b P l p = ql_b Q l p := by
  have : P = Q := funext h
  rw [this]
theorem ql_b_0 {P : List Nat → Bool} (h : ∀ t, P t = false) : ∀ (l : List qf_D) (p : Nat), ql_b P l p = 0
  | [], _ => rfl
  | x :: l, p => by
    unfold ql_b
    rw [h]
    exact ql_b_0 h l p
theorem ql_c_le {d : Nat} (h : d < 2 ^ 31) : ql_c d ≤ 63 := by
  unfold ql_c
  by_cases z : d = 0
  · subst z; decide
  · have := (Nat.log2_lt z).mpr h
    omega
theorem ql_b_le (P : List Nat → Bool) : ∀ (l : List qf_D) (p : Nat), (∀ x, x ∈ l → x.1 + 1 < 2 ^ 31) → ql_b P l p ≤ 63 * l.length
  | [], _, _ => by simp [ql_b]
  | x :: l, p, h => by
    have h1 := h x List.mem_cons_self
    have h2 : ∀ q, ql_b P l q ≤ 63 * l.length := fun q => ql_b_le P l q (fun y hy => h y (List.mem_cons_of_mem _ hy))
    have h3 := ql_c_le (d := x.1 + 1 - p) (by omega)
    have h4 := h2 (x.1 + 1)
    have h5 := h2 p
    unfold ql_b
    rw [List.length_cons]
    split <;> omega
def ql_docs (docs : List qf_D) (segs : List Nat) (k : Nat) : List qf_D := (docs.drop (qd_st k segs)).take (segs.getD k 0)
def ql_bits (l : List qf_D) : Nat := qs_sum (fun c => ql_b (qt_P c) l 0) 216
def ql_lists (l : List qf_D) : Nat := qs_sum (fun c => if ql_b (qt_P c) l 0 = 0 then 0 else 1) 216
theorem ql_c_pos (d : Nat) : 1 ≤ ql_c d := by unfold ql_c; omega
