/-! what a part of an expression has: WORDS, HEADS, TAILS, CLAIM (loosened), and what it matches in a line -/
abbrev qi_T : Type := Option (List (List Nat)) × List (List Nat) × List (List Nat) × ((Nat → Nat → Nat → Prop) → Prop)
def qi_known (ws : List (List Nat)) : qi_T := (some ws, qr_lim (qr_all [] (ws.map qr_hd)), qr_lim (qr_all [] (ws.map qr_tl)), qr_some ws)
def qi_unk : qi_T := (none, [[]], [[]], fun _ => True)
def qi_ls (a : Nat) : List Nat := (List.range 6).filter (fun l => a.testBit l)
def qi_lf (k a : Nat) : qi_T := if k = 2 then (if (qi_ls a).length ≤ 3 then qi_known ((qi_ls a).map (fun l => [l])) else qi_unk) else qi_known [[]]
def qi_rep (x : qi_T) : qi_T := (none, x.2.1, x.2.2.1, x.2.2.2)
def qi_un (k a : Nat) (x : qi_T) : qi_T := if k = 7 then qi_rep x else if k = 9 then (if a = 0 then qi_unk else qi_rep x) else qi_unk
def qi_alt2 (x y : qi_T) : qi_T := (none, qr_lim (qr_all [] (x.2.1 ++ y.2.1)), qr_lim (qr_all [] (x.2.2.1 ++ y.2.2.1)), fun T => x.2.2.2 T ∨ y.2.2.2 T)
def qi_alt (x y : qi_T) : qi_T := match x.1, y.1 with
  | some xs, some ys => if (qr_all [] (xs ++ ys)).length ≤ 8 then qi_known (qr_all [] (xs ++ ys)) else qi_alt2 x y
  | _, _ => qi_alt2 x y
def qi_hx (x y : qi_T) : List (List Nat) := match x.1 with
  | some xs => qr_lim (qr_all [] ((qr_pr xs y.2.1).map qr_hd))
  | none => x.2.1
def qi_ty (x y : qi_T) : List (List Nat) := match y.1 with
  | some ys => qr_lim (qr_all [] ((qr_pr x.2.2.1 ys).map qr_tl))
  | none => y.2.2.1
def qi_seq2 (x y : qi_T) : qi_T := (none, qi_hx x y, qi_ty x y, fun T => x.2.2.2 T ∧ y.2.2.2 T ∧ qr_some (qr_pr x.2.2.1 y.2.1) T)
def qi_sh (xs ys : List (List Nat)) : Bool := decide ((qr_all [] (qr_pr xs ys)).length ≤ 8) && (qr_pr xs ys).all (fun r => decide (r.length ≤ 5))
def qi_seq (x y : qi_T) : qi_T := match x.1, y.1 with
  | some xs, some ys => if qi_sh xs ys = true then qi_known (qr_all [] (qr_pr xs ys)) else qi_seq2 x y
  | _, _ => qi_seq2 x y
def qi_bi (k : Nat) (x y : qi_T) : qi_T := if k = 13 then qi_seq x y else qi_alt x y
abbrev qe_M : Type := Nat → Nat → Prop
def qe_st (x : qe_M) : Nat → Nat → Nat → Prop
  | 0, i, j => i = j
  | d + 1, i, j => i = j ∨ ∃ m, i < m ∧ x i m ∧ qe_st x d m j
def qe_star (x : qe_M) (i j : Nat) : Prop := ∃ d, qe_st x d i j
def qe_pow (x : qe_M) : Nat → Nat → Nat → Prop
  | 0, i, j => i = j
  | q + 1, i, j => ∃ m, qe_pow x q i m ∧ x m j
def qe_lf (k a : Nat) (c : Nat → Nat) (n : Nat) : qe_M := fun i j =>
  if k = 2 then i < n ∧ j = i + 1 ∧ a.testBit (c i) = true else if k = 10 then i = 0 ∧ j = i else if k = 11 then i = n ∧ j = i else j = i
def qe_un (k a b : Nat) (x : qe_M) : qe_M := fun i j =>
  if k = 6 then qe_star x i j else if k = 7 then (∃ m, x i m ∧ qe_star x m j) else ∃ q, a ≤ q ∧ q ≤ b ∧ qe_pow x q i j
def qe_bi (k : Nat) (x y : qe_M) : qe_M := fun i j => if k = 13 then ∃ m, x i m ∧ y m j else x i j ∨ y i j
abbrev qv_T : Type := Nat × qi_T × ((Nat → Nat) → Nat → qe_M)
def qv_lf (k a : Nat) : qv_T := (if k = 12 then 0 else 1, qi_lf k a, fun c n => qe_lf k a c n)
def qv_un (k a b : Nat) (x : qv_T) : qv_T := (if k = 6 then x.1 + 2 else if k = 7 then x.1 + 1 else b * x.1 + (b - a), qi_un k a x.2.1, fun c n => qe_un k a b (x.2.2 c n))
def qv_bi (k : Nat) (x y : qv_T) : qv_T := (if k = 13 then x.1 + y.1 else if k = 5 then x.1 + y.1 + 2 else x.1 + 1, qi_bi k x.2.1 y.2.1, fun c n => qe_bi k (x.2.2 c n) (y.2.2 c n))
/-! star and pow -/
theorem qe_star_eq (x : qe_M) (i j : Nat) : qe_star x i j ↔ i = j ∨ ∃ m, i < m ∧ x i m ∧ qe_star x m j := by
  constructor
  · rintro ⟨d, h⟩
    match d, h with
    | 0, h => exact Or.inl h
    | d + 1, Or.inl h => exact Or.inl h
    | d + 1, Or.inr ⟨m, h1, h2, h3⟩ => exact Or.inr ⟨m, h1, h2, d, h3⟩
  · rintro (h | ⟨m, h1, h2, d, h3⟩)
    · exact ⟨0, h⟩
    · exact ⟨d + 1, Or.inr ⟨m, h1, h2, h3⟩⟩
theorem qe_star_rf (x : qe_M) (i : Nat) : qe_star x i i := ⟨0, rfl⟩
theorem qe_plus_eq (x : qe_M) (n : Nat) (hx : ∀ i j, i ≤ n → x i j → i ≤ j ∧ j ≤ n) (i j : Nat) (hi : i ≤ n) : (∃ m, x i m ∧ qe_star x m j) ↔ x i j ∨ ∃ m, i < m ∧ x i m ∧ ∃ m', x m m' ∧ qe_star x m' j := by
  constructor
  · rintro ⟨m, h1, h2⟩
    rcases (qe_star_eq x m j).mp h2 with h | ⟨m', h3, h4, h5⟩
    · subst h; exact Or.inl h1
    · rcases Nat.lt_or_ge i m with z | z
      · exact Or.inr ⟨m, z, h1, m', h4, h5⟩
      · have e : m = i := Nat.le_antisymm z (hx _ _ hi h1).1
        subst e
        rcases (qe_star_eq x m' j).mp h5 with h | ⟨m2, h6, h7, h8⟩
        · subst h; exact Or.inl h4
        · exact Or.inr ⟨m', h3, h4, m2, h7, h8⟩
  · rintro (h | ⟨m, h1, h2, m', h3, h4⟩)
    · exact ⟨j, h, qe_star_rf x j⟩
    · refine ⟨m, h2, ?_⟩
      rcases Nat.lt_or_ge m m' with z | z
      · exact (qe_star_eq x m j).mpr (Or.inr ⟨m', z, h3, h4⟩)
      · have e : m' = m := Nat.le_antisymm z (hx _ _ (hx _ _ hi h2).2 h3).1
        subst e
        exact h4
theorem qe_star_last (x : qe_M) (n : Nat) (hx : ∀ i j, i ≤ n → x i j → i ≤ j ∧ j ≤ n) : ∀ (d i j : Nat), i ≤ n → qe_st x d i j → i ≤ j ∧ j ≤ n ∧ (i = j ∨ ∃ m, i ≤ m ∧ m ≤ n ∧ x m j)
  | 0, i, j, hi, h => by
    have e : i = j := h
    subst e
    exact ⟨Nat.le_refl _, hi, Or.inl rfl⟩
  | d + 1, i, j, hi, h => by
    rcases h with h | ⟨m, h1, h2, h3⟩
    · subst h
      exact ⟨Nat.le_refl _, hi, Or.inl rfl⟩
    · have hm := hx i m hi h2
      obtain ⟨h4, h5, h6⟩ := qe_star_last x n hx d m j hm.2 h3
      refine ⟨by omega, h5, Or.inr ?_⟩
      rcases h6 with h6 | ⟨m', h7, h8, h9⟩
      · subst h6; exact ⟨i, Nat.le_refl _, hi, h2⟩
      · exact ⟨m', by omega, h8, h9⟩
theorem qe_pow_in (x : qe_M) (n : Nat) (hx : ∀ i j, i ≤ n → x i j → i ≤ j ∧ j ≤ n) : ∀ (q i j : Nat), i ≤ n → qe_pow x q i j → i ≤ j ∧ j ≤ n
  | 0, i, j, hi, h => by
    have e : i = j := h
    subst e
    exact ⟨Nat.le_refl _, hi⟩
  | q + 1, i, j, hi, h => by
    obtain ⟨m, h1, h2⟩ := h
    have a := qe_pow_in x n hx q i m hi h1
    have b := hx m j a.2 h2
    exact ⟨by omega, b.2⟩
theorem qe_pow_first (x : qe_M) (n : Nat) (hx : ∀ i j, i ≤ n → x i j → i ≤ j ∧ j ≤ n) : ∀ (q i j : Nat), i ≤ n → qe_pow x (q + 1) i j → ∃ m, x i m ∧ m ≤ j
  | 0, i, j, hi, h => by
    obtain ⟨m, h1, h2⟩ := h
    have e : i = m := h1
    subst e
    exact ⟨j, h2, Nat.le_refl _⟩
  | q + 1, i, j, hi, h => by
    obtain ⟨m, h1, h2⟩ := h
    obtain ⟨m', h3, h4⟩ := qe_pow_first x n hx q i m hi h1
    have a := qe_pow_in x n hx (q + 1) i m hi h1
    have b := hx m j a.2 h2
    exact ⟨m', h3, by omega⟩
/-! soundness: where a part matches, its words, heads, tails and claim hold -/
def qs_ok (c : Nat → Nat) (n : Nat) (T : Nat → Nat → Nat → Prop) (v : qi_T) (M : qe_M) : Prop :=
  ∀ i j, i ≤ n → M i j → i ≤ j ∧ j ≤ n ∧ (∀ ws, v.1 = some ws → ∃ w, w ∈ ws ∧ i + w.length = j ∧ qr_at c i w) ∧ (∃ h, h ∈ v.2.1 ∧ i + h.length ≤ j ∧ qr_at c i h) ∧ (∃ t, t ∈ v.2.2.1 ∧ ∃ p, i ≤ p ∧ p + t.length = j ∧ qr_at c p t) ∧ v.2.2.2 T
theorem qs_known {c : Nat → Nat} {n : Nat} {T : Nat → Nat → Nat → Prop} (hT : ∀ i, i + 2 < n → T (c i) (c (i + 1)) (c (i + 2))) {ws : List (List Nat)} {M : qe_M} (h : ∀ i j, i ≤ n → M i j → i ≤ j ∧ j ≤ n ∧ ∃ w, w ∈ ws ∧ i + w.length = j ∧ qr_at c i w) : qs_ok c n T (qi_known ws) M := by
  intro i j hi hM
  obtain ⟨h1, h2, w, h3, h4, h5⟩ := h i j hi hM
  refine ⟨h1, h2, ?_, ?_, ?_, ?_⟩
  · intro ws' e
    cases e
    exact ⟨w, h3, h4, h5⟩
  · apply qr_lim_ex
    · exact ⟨by simpa using h1, trivial⟩
    · refine ⟨qr_hd w, qr_mem_all.mpr (Or.inr (List.mem_map.mpr ⟨w, h3, rfl⟩)), ?_, qr_at_take c w i 2 h5⟩
      have : (qr_hd w).length ≤ w.length := by unfold qr_hd; rw [List.length_take]; omega
      omega
  · apply qr_lim_ex
    · exact ⟨j, h1, by simp, trivial⟩
    · refine ⟨qr_tl w, qr_mem_all.mpr (Or.inr (List.mem_map.mpr ⟨w, h3, rfl⟩)), i + (w.length - 2), by omega, ?_, qr_at_drop c w i _ (by omega) h5⟩
      unfold qr_tl
      rw [List.length_drop]
      omega
  · exact ⟨w, h3, qr_at_has c n i w T hT h5 (by omega)⟩
theorem qs_unk {c : Nat → Nat} {n : Nat} {T : Nat → Nat → Nat → Prop} {M : qe_M} (h : ∀ i j, i ≤ n → M i j → i ≤ j ∧ j ≤ n) : qs_ok c n T qi_unk M := by
  intro i j hi hM
  obtain ⟨h1, h2⟩ := h i j hi hM
  exact ⟨h1, h2, (fun ws e => nomatch e), ⟨[], by simp [qi_unk], by simpa using h1, trivial⟩, ⟨[], by simp [qi_unk], j, h1, by simp, trivial⟩, trivial⟩
theorem qs_lf {c : Nat → Nat} {n : Nat} {T : Nat → Nat → Nat → Prop} (hT : ∀ i, i + 2 < n → T (c i) (c (i + 1)) (c (i + 2))) (hc : ∀ i, i < n → c i < 6) (k a : Nat) : qs_ok c n T (qi_lf k a) (qe_lf k a c n) := by
  unfold qi_lf
  by_cases hk : k = 2
  · rw [if_pos hk]
    subst hk
    by_cases hl : (qi_ls a).length ≤ 3
    · rw [if_pos hl]
      apply qs_known hT
      intro i j hi hM
      simp only [qe_lf, if_true] at hM
      obtain ⟨h1, h2, h3⟩ := hM
      subst h2
      refine ⟨by omega, by omega, [c i], List.mem_map.mpr ⟨c i, ?_, rfl⟩, rfl, rfl, trivial⟩
      unfold qi_ls
      rw [List.mem_filter]
      exact ⟨List.mem_range.mpr (hc i h1), h3⟩
    · rw [if_neg hl]
      apply qs_unk
      intro i j hi hM
      simp only [qe_lf, if_true] at hM
      omega
  · rw [if_neg hk]
    apply qs_known hT
    intro i j hi hM
    simp only [qe_lf, if_neg hk] at hM
    have e : j = i := by
      by_cases h1 : k = 10
      · rw [if_pos h1] at hM; exact hM.2
      · rw [if_neg h1] at hM
        by_cases h2 : k = 11
        · rw [if_pos h2] at hM; exact hM.2
        · rw [if_neg h2] at hM; exact hM
    subst e
    exact ⟨Nat.le_refl _, hi, [], by simp, by simp, trivial⟩
theorem qs_in {c : Nat → Nat} {n : Nat} {T : Nat → Nat → Nat → Prop} {v : qi_T} {M : qe_M} (h : qs_ok c n T v M) : ∀ i j, i ≤ n → M i j → i ≤ j ∧ j ≤ n :=
  fun i j hi hM => ⟨(h i j hi hM).1, (h i j hi hM).2.1⟩
theorem qs_rep {c : Nat → Nat} {n : Nat} {T : Nat → Nat → Nat → Prop} {v : qi_T} {M M' : qe_M} (h : qs_ok c n T v M) (h' : ∀ i j, i ≤ n → M' i j → i ≤ j ∧ j ≤ n ∧ (∃ m, M i m ∧ m ≤ j) ∧ ∃ m, i ≤ m ∧ m ≤ n ∧ M m j) : qs_ok c n T (qi_rep v) M' := by
  intro i j hi hM
  obtain ⟨h1, h2, ⟨m, h3, h4⟩, m', h5, h6, h7⟩ := h' i j hi hM
  have a := h i m hi h3
  have b := h m' j h6 h7
  refine ⟨h1, h2, (fun ws e => nomatch e), ?_, ?_, a.2.2.2.2.2⟩
  · obtain ⟨r, r1, r2, r3⟩ := a.2.2.2.1
    exact ⟨r, r1, by omega, r3⟩
  · obtain ⟨r, r1, p, r2, r3, r4⟩ := b.2.2.2.2.1
    exact ⟨r, r1, p, by omega, r3, r4⟩
theorem qs_un {c : Nat → Nat} {n : Nat} {T : Nat → Nat → Nat → Prop} {v : qi_T} {M : qe_M} (h : qs_ok c n T v M) (k a b : Nat) : qs_ok c n T (qi_un k a v) (qe_un k a b M) := by
  have hx := qs_in h
  unfold qi_un
  by_cases h7 : k = 7
  · rw [if_pos h7]
    subst h7
    apply qs_rep h
    intro i j hi hM
    simp only [qe_un, show ¬ (7 : Nat) = 6 by decide, if_false, if_true] at hM
    obtain ⟨m, h1, d, h2⟩ := hM
    have a1 := hx i m hi h1
    obtain ⟨b1, b2, b3⟩ := qe_star_last M n hx d m j a1.2 h2
    refine ⟨by omega, b2, ⟨m, h1, b1⟩, ?_⟩
    rcases b3 with b3 | ⟨m', b4, b5, b6⟩
    · subst b3; exact ⟨i, Nat.le_refl _, hi, h1⟩
    · exact ⟨m', by omega, b5, b6⟩
  · rw [if_neg h7]
    by_cases h9 : k = 9
    · rw [if_pos h9]
      subst h9
      by_cases ha : a = 0
      · rw [if_pos ha]
        apply qs_unk
        intro i j hi hM
        simp only [qe_un, show ¬ (9 : Nat) = 6 by decide, show ¬ (9 : Nat) = 7 by decide, if_false] at hM
        obtain ⟨q, _, _, h3⟩ := hM
        exact qe_pow_in M n hx q i j hi h3
      · rw [if_neg ha]
        apply qs_rep h
        intro i j hi hM
        simp only [qe_un, show ¬ (9 : Nat) = 6 by decide, show ¬ (9 : Nat) = 7 by decide, if_false] at hM
        obtain ⟨q, h1, _, h3⟩ := hM
        obtain ⟨q', rfl⟩ : ∃ q', q = q' + 1 := ⟨q - 1, by omega⟩
        have a1 := qe_pow_in M n hx _ i j hi h3
        refine ⟨a1.1, a1.2, qe_pow_first M n hx q' i j hi h3, ?_⟩
        obtain ⟨m, h4, h5⟩ := h3
        have a2 := qe_pow_in M n hx _ i m hi h4
        exact ⟨m, a2.1, a2.2, h5⟩
    · rw [if_neg h9]
      apply qs_unk
      intro i j hi hM
      simp only [qe_un, if_neg h7] at hM
      by_cases h6 : k = 6
      · rw [if_pos h6] at hM
        obtain ⟨d, h2⟩ := hM
        have := qe_star_last M n hx d i j hi h2
        exact ⟨this.1, this.2.1⟩
      · rw [if_neg h6] at hM
        obtain ⟨q, _, _, h3⟩ := hM
        exact qe_pow_in M n hx q i j hi h3
theorem qs_alt2 {c : Nat → Nat} {n : Nat} {T : Nat → Nat → Nat → Prop} {v w : qi_T} {M N : qe_M} (h : qs_ok c n T v M) (h' : qs_ok c n T w N) : qs_ok c n T (qi_alt2 v w) (fun i j => M i j ∨ N i j) := by
  intro i j hi hM
  rcases hM with hM | hM
  · obtain ⟨a1, a2, _, ⟨r, r1, r2, r3⟩, ⟨t, t1, p, t2, t3, t4⟩, a6⟩ := h i j hi hM
    refine ⟨a1, a2, (fun ws e => nomatch e), ?_, ?_, Or.inl a6⟩
    · exact qr_lim_ex ⟨by simpa using a1, trivial⟩ ⟨r, qr_mem_all.mpr (Or.inr (List.mem_append.mpr (Or.inl r1))), r2, r3⟩
    · exact qr_lim_ex ⟨j, a1, by simp, trivial⟩ ⟨t, qr_mem_all.mpr (Or.inr (List.mem_append.mpr (Or.inl t1))), p, t2, t3, t4⟩
  · obtain ⟨a1, a2, _, ⟨r, r1, r2, r3⟩, ⟨t, t1, p, t2, t3, t4⟩, a6⟩ := h' i j hi hM
    refine ⟨a1, a2, (fun ws e => nomatch e), ?_, ?_, Or.inr a6⟩
    · exact qr_lim_ex ⟨by simpa using a1, trivial⟩ ⟨r, qr_mem_all.mpr (Or.inr (List.mem_append.mpr (Or.inr r1))), r2, r3⟩
    · exact qr_lim_ex ⟨j, a1, by simp, trivial⟩ ⟨t, qr_mem_all.mpr (Or.inr (List.mem_append.mpr (Or.inr t1))), p, t2, t3, t4⟩
theorem qs_alt {c : Nat → Nat} {n : Nat} {T : Nat → Nat → Nat → Prop} (hT : ∀ i, i + 2 < n → T (c i) (c (i + 1)) (c (i + 2))) {v w : qi_T} {M N : qe_M} (h : qs_ok c n T v M) (h' : qs_ok c n T w N) : qs_ok c n T (qi_alt v w) (fun i j => M i j ∨ N i j) := by
  unfold qi_alt
  split
  · rename_i xs ys ex ey
    split
    · apply qs_known hT
      intro i j hi hM
      rcases hM with hM | hM
      · obtain ⟨a1, a2, a3, _⟩ := h i j hi hM
        obtain ⟨r, r1, r2, r3⟩ := a3 xs ex
        exact ⟨a1, a2, r, qr_mem_all.mpr (Or.inr (List.mem_append.mpr (Or.inl r1))), r2, r3⟩
      · obtain ⟨a1, a2, a3, _⟩ := h' i j hi hM
        obtain ⟨r, r1, r2, r3⟩ := a3 ys ey
        exact ⟨a1, a2, r, qr_mem_all.mpr (Or.inr (List.mem_append.mpr (Or.inr r1))), r2, r3⟩
    · exact qs_alt2 h h'
  · exact qs_alt2 h h'
theorem qs_seq2 {c : Nat → Nat} {n : Nat} {T : Nat → Nat → Nat → Prop} (hT : ∀ i, i + 2 < n → T (c i) (c (i + 1)) (c (i + 2))) {v w : qi_T} {M N : qe_M} (h : qs_ok c n T v M) (h' : qs_ok c n T w N) : qs_ok c n T (qi_seq2 v w) (fun i j => ∃ m, M i m ∧ N m j) := by
  intro i j hi hM
  obtain ⟨m, hM, hN⟩ := hM
  obtain ⟨a1, a2, a3, ⟨r, r1, r2, r3⟩, ⟨t, t1, p, t2, t3, t4⟩, a6⟩ := h i m hi hM
  obtain ⟨b1, b2, b3, ⟨s, s1, s2, s3⟩, ⟨z, z1, q, z2, z3, z4⟩, b6⟩ := h' m j a2 hN
  have ij : i ≤ j := by omega
  refine ⟨ij, b2, (fun ws e => nomatch e), ?_, ?_, a6, b6, ?_⟩
  · show ∃ h, h ∈ qi_hx v w ∧ _
    unfold qi_hx
    split
    · rename_i xs ex
      obtain ⟨y, y1, y2, y3⟩ := a3 xs ex
      refine qr_lim_ex ⟨by simpa using ij, trivial⟩ ⟨qr_hd (y ++ s), qr_mem_all.mpr (Or.inr (List.mem_map.mpr ⟨y ++ s, qr_mem_pr.mpr ⟨y, y1, s, s1, rfl⟩, rfl⟩)), ?_, ?_⟩
      · have : (qr_hd (y ++ s)).length ≤ (y ++ s).length := by unfold qr_hd; rw [List.length_take]; omega
        rw [List.length_append] at this
        omega
      · apply qr_at_take
        rw [qr_at_app, y2]
        exact ⟨y3, s3⟩
    · exact ⟨r, r1, by omega, r3⟩
  · show ∃ t, t ∈ qi_ty v w ∧ _
    unfold qi_ty
    split
    · rename_i ys ey
      obtain ⟨y, y1, y2, y3⟩ := b3 ys ey
      have l2 : (t ++ y).length = t.length + y.length := List.length_append
      refine qr_lim_ex ⟨j, ij, by simp, trivial⟩ ⟨qr_tl (t ++ y), qr_mem_all.mpr (Or.inr (List.mem_map.mpr ⟨t ++ y, qr_mem_pr.mpr ⟨t, t1, y, y1, rfl⟩, rfl⟩)), p + ((t ++ y).length - 2), by omega, ?_, ?_⟩
      · unfold qr_tl
        rw [List.length_drop]
        omega
      · apply qr_at_drop
        · omega
        · rw [qr_at_app, t3]
          exact ⟨t4, y3⟩
    · exact ⟨z, z1, q, by omega, z3, z4⟩
  · refine ⟨t ++ s, qr_mem_pr.mpr ⟨t, t1, s, s1, rfl⟩, qr_at_has c n p _ T hT ?_ ?_⟩
    · rw [qr_at_app, t3]
      exact ⟨t4, s3⟩
    · rw [List.length_append]
      omega
theorem qs_seq {c : Nat → Nat} {n : Nat} {T : Nat → Nat → Nat → Prop} (hT : ∀ i, i + 2 < n → T (c i) (c (i + 1)) (c (i + 2))) {v w : qi_T} {M N : qe_M} (h : qs_ok c n T v M) (h' : qs_ok c n T w N) : qs_ok c n T (qi_seq v w) (fun i j => ∃ m, M i m ∧ N m j) := by
  unfold qi_seq
  split
  · rename_i xs ys ex ey
    split
    · apply qs_known hT
      intro i j hi hM
      obtain ⟨m, hM, hN⟩ := hM
      obtain ⟨a1, a2, a3, _⟩ := h i m hi hM
      obtain ⟨b1, b2, b3, _⟩ := h' m j a2 hN
      obtain ⟨r, r1, r2, r3⟩ := a3 xs ex
      obtain ⟨s, s1, s2, s3⟩ := b3 ys ey
      refine ⟨by omega, b2, r ++ s, qr_mem_all.mpr (Or.inr (qr_mem_pr.mpr ⟨r, r1, s, s1, rfl⟩)), ?_, ?_⟩
      · rw [List.length_append]; omega
      · rw [qr_at_app, r2]; exact ⟨r3, s3⟩
    · exact qs_seq2 hT h h'
  · exact qs_seq2 hT h h'
theorem qs_bi {c : Nat → Nat} {n : Nat} {T : Nat → Nat → Nat → Prop} (hT : ∀ i, i + 2 < n → T (c i) (c (i + 1)) (c (i + 2))) {v w : qi_T} {M N : qe_M} (h : qs_ok c n T v M) (h' : qs_ok c n T w N) (k : Nat) : qs_ok c n T (qi_bi k v w) (qe_bi k M N) := by
  unfold qi_bi
  by_cases hk : k = 13
  · rw [if_pos hk]
    have e : qe_bi k M N = (fun i j => ∃ m, M i m ∧ N m j) := by
      funext i j; simp only [qe_bi, if_pos hk]
    rw [e]
    exact qs_seq hT h h'
  · rw [if_neg hk]
    have e : qe_bi k M N = (fun i j => M i j ∨ N i j) := by
      funext i j; simp only [qe_bi, if_neg hk]
    rw [e]
    exact qs_alt hT h h'
/-! what each part keeps -/
def qi_wf (x : qi_T) : Prop := (∀ ws, x.1 = some ws → qr_wf 5 ws ∧ x = qi_known ws) ∧ qr_wf 2 x.2.1 ∧ qr_wf 2 x.2.2.1
theorem qi_wf_known {ws : List (List Nat)} (h : qr_wf 5 ws) : qi_wf (qi_known ws) := by
  refine ⟨fun w e => ?_, ?_, ?_⟩
  · cases e; exact ⟨h, rfl⟩
  · apply qr_wf_all
    · rw [List.length_map]; exact h.2.1
    · intro r hr
      obtain ⟨s, hs, rfl⟩ := List.mem_map.mp hr
      exact ⟨qr_hd_len s, fun x hx => (h.2.2.2 s hs).2 x (qr_hd_in hx)⟩
  · apply qr_wf_all
    · rw [List.length_map]; exact h.2.1
    · intro r hr
      obtain ⟨s, hs, rfl⟩ := List.mem_map.mp hr
      exact ⟨qr_tl_len s, fun x hx => (h.2.2.2 s hs).2 x (qr_tl_in hx)⟩
theorem qi_wf_unk : qi_wf qi_unk := ⟨(fun _ e => nomatch e), qr_wf1 2, qr_wf1 2⟩
theorem qi_wf_rep {x : qi_T} (h : qi_wf x) : qi_wf (qi_rep x) := ⟨(fun _ e => nomatch e), h.2.1, h.2.2⟩
theorem qi_wf_lf (k a : Nat) (h : k = 2 → ∃ l, l < 6 ∧ a.testBit l = true) : qi_wf (qi_lf k a) := by
  unfold qi_lf
  by_cases hk : k = 2
  · rw [if_pos hk]
    by_cases hl : (qi_ls a).length ≤ 3
    · rw [if_pos hl]
      apply qi_wf_known
      refine ⟨?_, ?_, ?_, ?_⟩
      · have hn : (qi_ls a).Nodup := List.Pairwise.filter _ List.nodup_range
        exact List.Pairwise.map _ (fun x y hxy e => hxy (by simpa using e)) hn
      · rw [List.length_map]
        obtain ⟨l, h1, h2⟩ := h hk
        have : l ∈ qi_ls a := List.mem_filter.mpr ⟨List.mem_range.mpr h1, h2⟩
        exact List.length_pos_of_mem this
      · rw [List.length_map]; omega
      · intro r hr
        obtain ⟨l, hl, rfl⟩ := List.mem_map.mp hr
        refine ⟨by simp, fun x hx => ?_⟩
        rw [List.mem_singleton] at hx
        subst hx
        exact List.mem_range.mp (List.mem_filter.mp hl).1
    · rw [if_neg hl]; exact qi_wf_unk
  · rw [if_neg hk]; exact qi_wf_known (qr_wf1 5)
theorem qi_wf_un (k a : Nat) {x : qi_T} (h : qi_wf x) : qi_wf (qi_un k a x) := by
  unfold qi_un
  split
  · exact qi_wf_rep h
  · split
    · split
      · exact qi_wf_unk
      · exact qi_wf_rep h
    · exact qi_wf_unk
theorem qi_app_in {m : Nat} {a b : List (List Nat)} (ha : qr_wf m a) (hb : qr_wf m b) : ∀ r, r ∈ a ++ b → r.length ≤ m ∧ ∀ x, x ∈ r → x < 6 := by
  intro r hr
  rcases List.mem_append.mp hr with z | z
  · exact ha.2.2.2 r z
  · exact hb.2.2.2 r z
theorem qi_wf_alt2 {x y : qi_T} (h : qi_wf x) (h' : qi_wf y) : qi_wf (qi_alt2 x y) := by
  refine ⟨fun _ e => (nomatch e), ?_, ?_⟩
  · apply qr_wf_all
    · rw [List.length_append]; have := h.2.1.2.1; omega
    · exact qi_app_in h.2.1 h'.2.1
  · apply qr_wf_all
    · rw [List.length_append]; have := h.2.2.2.1; omega
    · exact qi_app_in h.2.2 h'.2.2
theorem qi_wf_alt {x y : qi_T} (h : qi_wf x) (h' : qi_wf y) : qi_wf (qi_alt x y) := by
  unfold qi_alt
  split
  · rename_i xs ys ex ey
    have hx := (h.1 xs ex).1
    have hy := (h'.1 ys ey).1
    split
    · rename_i hl
      apply qi_wf_known
      refine ⟨qr_nd_all (by simp), qr_ne_all ?_, hl, ?_⟩
      · rw [List.length_append]; have := hx.2.1; omega
      · intro r hr
        exact qi_app_in hx hy r ((qr_mem_all.mp hr).elim (fun z => absurd z (by simp)) id)
    · exact qi_wf_alt2 h h'
  · exact qi_wf_alt2 h h'
theorem qi_pr_in {m k : Nat} {a b : List (List Nat)} (ha : qr_wf m a) (hb : qr_wf k b) : ∀ r, r ∈ qr_pr a b → r.length ≤ m + k ∧ ∀ x, x ∈ r → x < 6 := by
  intro r hr
  obtain ⟨s, hs, t, ht, rfl⟩ := qr_mem_pr.mp hr
  have a1 := ha.2.2.2 s hs
  have b1 := hb.2.2.2 t ht
  refine ⟨by rw [List.length_append]; omega, fun x hx => ?_⟩
  rcases List.mem_append.mp hx with z | z
  · exact a1.2 x z
  · exact b1.2 x z
theorem qi_pr_ne {m k : Nat} {a b : List (List Nat)} (ha : qr_wf m a) (hb : qr_wf k b) : 1 ≤ (qr_pr a b).length := by
  rw [qr_pr_len]
  exact Nat.mul_pos ha.2.1 hb.2.1
theorem qi_wf_seq2 {x y : qi_T} (h : qi_wf x) (h' : qi_wf y) : qi_wf (qi_seq2 x y) := by
  refine ⟨fun _ e => (nomatch e), ?_, ?_⟩
  · show qr_wf 2 (qi_hx x y)
    unfold qi_hx
    split
    · rename_i xs ex
      have hx := (h.1 xs ex).1
      apply qr_wf_all
      · rw [List.length_map]; exact qi_pr_ne hx h'.2.1
      · intro r hr
        obtain ⟨s, hs, rfl⟩ := List.mem_map.mp hr
        exact ⟨qr_hd_len s, fun z hz => (qi_pr_in hx h'.2.1 s hs).2 z (qr_hd_in hz)⟩
    · exact h.2.1
  · show qr_wf 2 (qi_ty x y)
    unfold qi_ty
    split
    · rename_i ys ey
      have hy := (h'.1 ys ey).1
      apply qr_wf_all
      · rw [List.length_map]; exact qi_pr_ne h.2.2 hy
      · intro r hr
        obtain ⟨s, hs, rfl⟩ := List.mem_map.mp hr
        exact ⟨qr_tl_len s, fun z hz => (qi_pr_in h.2.2 hy s hs).2 z (qr_tl_in hz)⟩
    · exact h'.2.2
theorem qi_wf_seq {x y : qi_T} (h : qi_wf x) (h' : qi_wf y) : qi_wf (qi_seq x y) := by
  unfold qi_seq
  split
  · rename_i xs ys ex ey
    have hx := (h.1 xs ex).1
    have hy := (h'.1 ys ey).1
    split
    · rename_i hl
      unfold qi_sh at hl
      rw [Bool.and_eq_true, decide_eq_true_eq, List.all_eq_true] at hl
      apply qi_wf_known
      refine ⟨qr_nd_all (by simp), qr_ne_all (qi_pr_ne hx hy), hl.1, ?_⟩
      intro r hr
      have hr' : r ∈ qr_pr xs ys := (qr_mem_all.mp hr).elim (fun z => absurd z (by simp)) id
      exact ⟨of_decide_eq_true (hl.2 r hr'), (qi_pr_in hx hy r hr').2⟩
    · exact qi_wf_seq2 h h'
  · exact qi_wf_seq2 h h'
theorem qi_wf_bi (k : Nat) {x y : qi_T} (h : qi_wf x) (h' : qi_wf y) : qi_wf (qi_bi k x y) := by
  unfold qi_bi
  split
  · exact qi_wf_seq h h'
  · exact qi_wf_alt h h'
def qv_ok (v : qv_T) : Prop := qi_wf v.2.1 ∧ ∀ (c : Nat → Nat) (n : Nat) (T : Nat → Nat → Nat → Prop), (∀ i, i + 2 < n → T (c i) (c (i + 1)) (c (i + 2))) → (∀ i, i < n → c i < 6) → qs_ok c n T v.2.1 (v.2.2 c n)
theorem qv_ok_lf (k a : Nat) (h : k = 2 → ∃ l, l < 6 ∧ a.testBit l = true) : qv_ok (qv_lf k a) := ⟨qi_wf_lf k a h, fun _ _ _ hT hc => qs_lf hT hc k a⟩
theorem qv_ok_un (k a b : Nat) {x : qv_T} (h : qv_ok x) : qv_ok (qv_un k a b x) := ⟨qi_wf_un k a h.1, fun c n T hT hc => qs_un (h.2 c n T hT hc) k a b⟩
theorem qv_ok_bi (k : Nat) {x y : qv_T} (h : qv_ok x) (h' : qv_ok y) : qv_ok (qv_bi k x y) := ⟨qi_wf_bi k h.1 h'.1, fun c n T hT hc => qs_bi hT (h.2 c n T hT hc) (h'.2 c n T hT hc) k⟩
/-- a part whose claim is false of a text matches nothing in a line of it -/
theorem qv_none {v : qv_T} (h : qv_ok v) {c : Nat → Nat} {n : Nat} {T : Nat → Nat → Nat → Prop} (hT : ∀ i, i + 2 < n → T (c i) (c (i + 1)) (c (i + 2))) (hc : ∀ i, i < n → c i < 6) (hn : ¬ v.2.1.2.2.2 T) {i j : Nat} (hi : i ≤ n) : ¬ v.2.2 c n i j :=
  fun hM => hn (h.2 c n T hT hc i j hi hM).2.2.2.2.2
theorem qv_in {v : qv_T} (h : qv_ok v) {c : Nat → Nat} {n : Nat} (hc : ∀ i, i < n → c i < 6) {i j : Nat} (hi : i ≤ n) (hM : v.2.2 c n i j) : i ≤ j ∧ j ≤ n :=
  qs_in (h.2 c n (fun _ _ _ => True) (fun _ _ => trivial) hc) i j hi hM
