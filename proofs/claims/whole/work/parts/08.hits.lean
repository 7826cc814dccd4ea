/-! the ends of pieces as bits; the matches of a line, of a file -/
theorem qh_ex (P : Nat → Prop) : ∃ e : Int64, ∀ j, j < 64 → (qb_l e j = true ↔ P j) := by
  have h : ∀ m, m ≤ 64 → ∃ e : Int64, ∀ j, j < 64 → (qb_l e j = true ↔ j < m ∧ P j) := by
    intro m
    induction m with
    | zero => exact fun _ => ⟨0, fun j _ => by rw [qb_0]; simp⟩
    | succ m ih =>
      intro hm
      obtain ⟨e, he⟩ := ih (by omega)
      by_cases z : P m
      · refine ⟨e ||| ((1 : Int64) <<< ((nI m).toInt64 &&& 63)), fun j hj => ?_⟩
        rw [qb_or, qb_here m (by omega) j hj, Bool.or_eq_true, he j hj, decide_eq_true_eq]
        constructor
        · rintro (⟨a, b⟩ | a)
          · exact ⟨by omega, b⟩
          · subst a; exact ⟨by omega, z⟩
        · rintro ⟨a, b⟩
          by_cases y : j = m
          · exact Or.inr y
          · exact Or.inl ⟨by omega, b⟩
      · refine ⟨e, fun j hj => ?_⟩
        rw [he j hj]
        constructor
        · rintro ⟨a, b⟩; exact ⟨by omega, b⟩
        · rintro ⟨a, b⟩
          refine ⟨?_, b⟩
          rcases Nat.lt_or_ge j m with y | y
          · exact y
          · have : j = m := by omega
            subst this
            exact absurd b z
  obtain ⟨e, he⟩ := h 64 (Nat.le_refl _)
  exact ⟨e, fun j hj => by rw [he j hj]; exact ⟨fun a => a.2, fun a => ⟨hj, a⟩⟩⟩
noncomputable def qh_E (P : Nat → Prop) : Int64 := Classical.choose (qh_ex P)
theorem qh_E_b (P : Nat → Prop) {j : Nat} (hj : j < 64) : qb_l (qh_E P) j = true ↔ P j := Classical.choose_spec (qh_ex P) j hj
theorem qh_E_eq {P : Nat → Prop} {e : Int64} (h : ∀ j, j < 64 → (qb_l e j = true ↔ P j)) : e = qh_E P := by
  apply qb_ext
  intro i hi
  have a := h i hi
  have b := qh_E_b P hi
  cases x : qb_l e i <;> cases y : qb_l (qh_E P) i
  · rfl
  · rw [x] at a; exact absurd (a.mpr (b.mp y)) (by decide)
  · rw [y] at b; exact absurd (b.mpr (a.mp x)) (by decide)
  · rfl
theorem qh_E_0 {P : Nat → Prop} (h : ∀ j, j < 64 → ¬ P j) : qh_E P = 0 := by
  apply Eq.symm
  apply qh_E_eq
  intro j hj
  rw [qb_0]
  exact ⟨(fun z => nomatch z), fun z => absurd z (h j hj)⟩
/-- the last place of a set of places up to m -/
def qh_last (e : Int64) : Nat → Option Nat
  | 0 => if qb_l e 0 = true then some 0 else none
  | m + 1 => if qb_l e (m + 1) = true then some (m + 1) else qh_last e m
theorem qh_last_none (e : Int64) : ∀ m, qh_last e m = none ↔ ∀ j, j ≤ m → qb_l e j = false
  | 0 => by
    unfold qh_last
    split
    · rename_i h
      exact ⟨(fun z => nomatch z), fun z => by rw [z 0 (Nat.le_refl _)] at h; exact nomatch h⟩
    · rename_i h
      refine ⟨fun _ j hj => ?_, fun _ => rfl⟩
      have : j = 0 := by omega
      subst this
      simpa using h
  | m + 1 => by
    unfold qh_last
    split
    · rename_i h
      exact ⟨(fun z => nomatch z), fun z => by rw [z (m + 1) (Nat.le_refl _)] at h; exact nomatch h⟩
    · rename_i h
      rw [qh_last_none e m]
      constructor
      · intro z j hj
        by_cases y : j = m + 1
        · subst y; simpa using h
        · exact z j (by omega)
      · exact fun z j hj => z j (by omega)
theorem qh_last_some (e : Int64) : ∀ m l, qh_last e m = some l → l ≤ m ∧ qb_l e l = true ∧ ∀ j, l < j → j ≤ m → qb_l e j = false
  | 0, l, h => by
    unfold qh_last at h
    split at h
    · rename_i z
      cases h
      exact ⟨Nat.le_refl _, z, fun j h1 h2 => absurd h1 (by omega)⟩
    · exact nomatch h
  | m + 1, l, h => by
    unfold qh_last at h
    split at h
    · rename_i z
      cases h
      exact ⟨Nat.le_refl _, z, fun j h1 h2 => absurd h1 (by omega)⟩
    · rename_i z
      obtain ⟨a, b, c⟩ := qh_last_some e m l h
      refine ⟨by omega, b, fun j h1 h2 => ?_⟩
      by_cases y : j = m + 1
      · subst y; simpa using z
      · exact c j h1 (by omega)
/-- the matches of a line of n letters from a place on -/
def qh_ln (E : Nat → Int64) (n : Nat) : Nat → Nat → List (Nat × Nat)
  | 0, _ => []
  | m + 1, p => if p ≤ n then (match qh_last (E p) n with
      | none => qh_ln E n m (p + 1)
      | some e => (p, e) :: qh_ln E n m (if p < e then e else p + 1)) else []
theorem qh_ln_0 (E : Nat → Int64) (n : Nat) (h : ∀ p, p ≤ n → E p = 0) : ∀ m p, qh_ln E n m p = []
  | 0, _ => rfl
  | m + 1, p => by
    unfold qh_ln
    split
    · rename_i hp
      have : qh_last (E p) n = none := (qh_last_none _ _).mpr (fun j _ => by rw [h p hp, qb_0])
      rw [this]
      exact qh_ln_0 E n h m (p + 1)
    · rfl
/-- a text line by line: what each line gives -/
def qh_sc (t : List Nat) (g : Nat → Nat → Nat → List (Nat × Nat × Nat × Nat)) : Nat → Nat → Nat → Nat → List (Nat × Nat × Nat × Nat)
  | 0, _, _, _ => []
  | m + 1, i, b, l => if i < t.length ∧ t.getD i 0 ≠ 6 then qh_sc t g m (i + 1) b l else g l b (i - b) ++ qh_sc t g m (i + 1) (i + 1) (l + 1)
def qh_ok (t : List Nat) (b n : Nat) : Prop := b + n ≤ t.length ∧ ∀ i, i < n → t.getD (b + i) 0 ≠ 6
theorem qh_sc_nil (t : List Nat) (g : Nat → Nat → Nat → List (Nat × Nat × Nat × Nat)) (hg : ∀ l b n, qh_ok t b n → g l b n = []) : ∀ m i b l, i + m ≤ t.length + 1 → b ≤ i → (∀ j, b ≤ j → j < i → t.getD j 0 ≠ 6) → qh_sc t g m i b l = []
  | 0, _, _, _, _, _, _ => rfl
  | m + 1, i, b, l, hm, hb, hj => by
    unfold qh_sc
    split
    · rename_i h
      apply qh_sc_nil t g hg m (i + 1) b l (by omega) (by omega)
      intro j h1 h2
      by_cases y : j = i
      · subst y; exact h.2
      · exact hj j h1 (by omega)
    · rw [hg l b (i - b) ⟨by omega, fun k hk => hj (b + k) (by omega) (by omega)⟩, List.nil_append]
      exact qh_sc_nil t g hg m (i + 1) (i + 1) (l + 1) (by omega) (by omega) (fun j h1 h2 => absurd h1 (by omega))
def qt_T (t : List Nat) (a b c : Nat) : Prop := ∃ i, i + 2 < t.length ∧ t.getD i 0 = a ∧ t.getD (i + 1) 0 = b ∧ t.getD (i + 2) 0 = c
/-- the ends in a line of a text, of a part -/
noncomputable def qh_M (v : qv_T) (t : List Nat) (b n : Nat) (p : Nat) : Int64 := qh_E (v.2.2 (fun i => t.getD (b + i) 0) n p)
noncomputable def qh_g (v : qv_T) (f : Nat) (t : List Nat) (l b n : Nat) : List (Nat × Nat × Nat × Nat) := (qh_ln (qh_M v t b n) n (n + 1) 0).map (fun x => (f, l, x.1, x.2))
noncomputable def qh_file (v : qv_T) (f : Nat) (t : List Nat) : List (Nat × Nat × Nat × Nat) := qh_sc t (qh_g v f t) (t.length + 1) 0 0 0
theorem qh_lt6 {t : List Nat} {b n : Nat} (ht : ∀ x, x ∈ t → x < 7) (h : qh_ok t b n) (i : Nat) (hi : i < n) : t.getD (b + i) 0 < 6 := by
  have h1 := h.1
  have h2 := h.2 i hi
  have h3 : t.getD (b + i) 0 < 7 := qc_get_in ht (b + i) (by omega)
  omega
theorem qh_lnT {t : List Nat} {b n : Nat} (h : qh_ok t b n) (i : Nat) (hi : i + 2 < n) : qt_T t (t.getD (b + i) 0) (t.getD (b + (i + 1)) 0) (t.getD (b + (i + 2)) 0) := by
  have h1 := h.1
  exact ⟨b + i, by omega, rfl, rfl, rfl⟩
theorem qh_file_nil {v : qv_T} (hv : qv_ok v) (f : Nat) {t : List Nat} (ht : ∀ x, x ∈ t → x < 7) (hc : ¬ v.2.1.2.2.2 (qt_T t)) : qh_file v f t = [] := by
  unfold qh_file
  refine qh_sc_nil t _ ?_ (t.length + 1) 0 0 0 (by omega) (Nat.le_refl _) (fun j h1 h2 => absurd h2 (by omega))
  intro l b n hok
  unfold qh_g
  rw [qh_ln_0]
  · rfl
  · intro p hp
    apply qh_E_0
    intro j _
    exact qv_none hv (c := fun i => t.getD (b + i) 0) (T := qt_T t) (fun i hi => qh_lnT hok i hi) (fun i hi => qh_lt6 ht hok i hi) hc hp
theorem qh_ln_f (E : Nat → Int64) (n : Nat) : ∀ m m' p, n + 1 ≤ p + m → n + 1 ≤ p + m' → qh_ln E n m p = qh_ln E n m' p
  | 0, 0, _, _, _ => rfl
  | 0, m' + 1, p, h, _ => by
    unfold qh_ln
    rw [if_neg (by omega)]
  | m + 1, 0, p, _, h => by
    unfold qh_ln
    rw [if_neg (by omega)]
  | m + 1, m' + 1, p, h, h' => by
    unfold qh_ln
    split
    · split
      · exact qh_ln_f E n m m' (p + 1) (by omega) (by omega)
      · rename_i e _
        have a : p + 1 ≤ (if p < e then e else p + 1) := by split <;> omega
        rw [qh_ln_f E n m m' _ (by omega) (by omega)]
    · rfl
