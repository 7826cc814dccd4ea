/-! the class's nodes: each holds a part, its own row and its children's places agree -/
section
variable {V : Type} (lf : Nat → Nat → V) (un : Nat → Nat → Nat → V → V) (bi : Nat → V → V → V) (big : V → Prop)
def qn_lc (k a b l r : Int32) (D : Nat → V) (n : Nat) (v : V) : Prop := ∃ k' l' r' : Nat, k = nI k' ∧ l = nI l' ∧ r = nI r' ∧ l' ≤ n ∧ r' ≤ n ∧
  ((k' = 2 ∧ ∃ a' : Nat, a = nI a' ∧ 1 ≤ a' ∧ a' ≤ 63 ∧ v = lf 2 a') ∨ ((k' = 10 ∨ k' = 11 ∨ k' = 12) ∧ v = lf k' 0) ∨ ((k' = 6 ∨ k' = 7) ∧ l' < n ∧ v = un k' 0 0 (D l')) ∨
   (k' = 9 ∧ l' < n ∧ ∃ a' b' : Nat, a = nI a' ∧ b = nI b' ∧ a' ≤ b' ∧ b' ≤ 3 ∧ 1 ≤ b' ∧ v = un 9 a' b' (D l')) ∨ ((k' = 5 ∨ k' = 8 ∨ k' = 13) ∧ l' < n ∧ r' < n ∧ v = bi k' (D l') (D r')))
def qn_ok (K A B L R : Nat → Int32) (m : Nat) (D : Nat → V) : Prop := ∀ n, n < m → qn_lc lf un bi (K n) (A n) (B n) (L n) (R n) D n (D n)
def qn_fr (D : Nat → V) (m : Nat) (x : Int32) (o : Option V) : Prop := match o with
  | none => x = -1
  | some v => ∃ j, j < m ∧ x = nI j ∧ D j = v
def qn_D (D : Nat → V) (m : Nat) (v : V) : Nat → V := fun j => if j = m then v else D j
theorem qn_D_s (D : Nat → V) (m : Nat) (v : V) : qn_D D m v m = v := if_pos rfl
theorem qn_D_n (D : Nat → V) {m j : Nat} (v : V) (h : j ≠ m) : qn_D D m v j = D j := if_neg h
theorem qn_lc_cg {k a b l r : Int32} {D D' : Nat → V} {n : Nat} {v : V} (hD : ∀ j, j < n → D' j = D j) (h : qn_lc lf un bi k a b l r D n v) : qn_lc lf un bi k a b l r D' n v := by
  obtain ⟨k', l', r', h1, h2, h3, h4, h5, h6⟩ := h
  refine ⟨k', l', r', h1, h2, h3, h4, h5, ?_⟩
  rcases h6 with h | h | ⟨h, h', e⟩ | ⟨h, h', a', b', e1, e2, e3, e4, e5, e6⟩ | ⟨h, h', h'', e⟩
  · exact Or.inl h
  · exact Or.inr (Or.inl h)
  · exact Or.inr (Or.inr (Or.inl ⟨h, h', by rw [hD l' h']; exact e⟩))
  · exact Or.inr (Or.inr (Or.inr (Or.inl ⟨h, h', a', b', e1, e2, e3, e4, e5, by rw [hD l' h']; exact e6⟩)))
  · exact Or.inr (Or.inr (Or.inr (Or.inr ⟨h, h', h'', by rw [hD l' h', hD r' h'']; exact e⟩)))
theorem qn_add {K A B L R : Nat → Int32} {m : Nat} {D : Nat → V} (h : qn_ok lf un bi K A B L R m D) {k a b l r : Int32} {v : V} (hn : qn_lc lf un bi k a b l r D m v) : qn_ok lf un bi (upd K m k) (upd A m a) (upd B m b) (upd L m l) (upd R m r) (m + 1) (qn_D D m v) := by
  intro n hn'
  by_cases z : n = m
  · subst z
    rw [pk_us, pk_us, pk_us, pk_us, pk_us, qn_D_s]
    exact qn_lc_cg lf un bi (fun j hj => qn_D_n D v (by omega)) hn
  · rw [pk_un z, pk_un z, pk_un z, pk_un z, pk_un z, qn_D_n D v z]
    exact qn_lc_cg lf un bi (fun j hj => qn_D_n D v (by omega)) (h n (by omega))
theorem qn_fr_up {D : Nat → V} {m : Nat} {x : Int32} {o : Option V} (v : V) (h : qn_fr D m x o) : qn_fr (qn_D D m v) (m + 1) x o := by
  match o, h with
  | none, h => exact h
  | some w, ⟨j, h1, h2, h3⟩ => exact ⟨j, by omega, h2, by rw [qn_D_n D v (by omega)]; exact h3⟩
theorem qn_fr_new (D : Nat → V) (m : Nat) (v : V) : qn_fr (qn_D D m v) (m + 1) (nI m) (some v) := ⟨m, by omega, rfl, qn_D_s D m v⟩
theorem qn_big (D : Nat → V) (m : Nat) (v : V) : (∃ n, n < m + 1 ∧ big (qn_D D m v n)) ↔ (∃ n, n < m ∧ big (D n)) ∨ big v := by
  constructor
  · rintro ⟨n, h1, h2⟩
    by_cases z : n = m
    · subst z; rw [qn_D_s] at h2; exact Or.inr h2
    · rw [qn_D_n D v z] at h2; exact Or.inl ⟨n, by omega, h2⟩
  · rintro (⟨n, h1, h2⟩ | h)
    · exact ⟨n, by omega, by rw [qn_D_n D v (by omega)]; exact h2⟩
    · exact ⟨m, by omega, by rw [qn_D_s]; exact h⟩
/-- a property that the algebra keeps holds of each node's part -/
theorem qn_all {K A B L R : Nat → Int32} {m : Nat} {D : Nat → V} (h : qn_ok lf un bi K A B L R m D) {P : V → Prop} (hl : ∀ k a, (k = 2 → 1 ≤ a ∧ a ≤ 63) → P (lf k a)) (hu : ∀ k a b x, P x → P (un k a b x)) (hb : ∀ k x y, P x → P y → P (bi k x y)) : ∀ n, n < m → P (D n) := by
  intro n
  induction n using Nat.strongRecOn with
  | ind n ih =>
    intro hn
    obtain ⟨k', l', r', h1, h2, h3, h4, h5, h6⟩ := h n hn
    rcases h6 with ⟨_, a', _, e1, e2, e⟩ | ⟨hk, e⟩ | ⟨_, hl', e⟩ | ⟨_, hl', a', b', _, _, _, _, _, e⟩ | ⟨_, hl', hr', e⟩
    · rw [e]; exact hl 2 a' (fun _ => ⟨e1, e2⟩)
    · rw [e]; exact hl k' 0 (fun z => by omega)
    · rw [e]; exact hu _ _ _ _ (ih l' hl' (by omega))
    · rw [e]; exact hu _ _ _ _ (ih l' hl' (by omega))
    · rw [e]; exact hb _ _ _ (ih l' hl' (by omega)) (ih r' hr' (by omega))
end
