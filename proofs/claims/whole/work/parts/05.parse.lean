/-! the expression read: an abstract reader over any algebra of parts; the reference's stack of parts -/
section
variable {V : Type} (lf : Nat → Nat → V) (un : Nat → Nat → Nat → V → V) (bi : Nat → V → V → V) (big : V → Prop)
def qp_leaf (k a : Nat) : V := if k = 0 then lf 2 (2 ^ a) else if k = 1 then lf 2 63 else if k = 2 then lf 2 a else lf k 0
def qp_rep (k a b : Nat) (x : V) : V := if k = 8 then bi 8 x (lf 12 0) else if k = 9 then (if b = 0 then lf 12 0 else if a = 1 ∧ b = 1 then x else un 9 a b x) else un k 0 0 x
def qp_set (f : Nat → Option V) (l : Nat) (x : Option V) : Nat → Option V := fun j => if j = l then x else f j
/-- what is read: the depth, and for each level the first seqs, the first items, the latest item; whether a part was too large -/
abbrev qp_S (V : Type) : Type := Nat × (Nat → Option V) × (Nat → Option V) × (Nat → Option V) × Prop
def qp_join (s i : Option V) : Option V := match i with
  | none => s
  | some x => match s with
    | none => some x
    | some y => some (bi 13 y x)
def qp_jbig (s i : Option V) : Prop := ∃ x y, i = some x ∧ s = some y ∧ big (bi 13 y x)
def qp_take (l : Nat) (nx : Option V) (S : qp_S V) : qp_S V := (S.1, S.2.1, qp_set S.2.2.1 l (qp_join bi (S.2.2.1 l) (S.2.2.2.1 l)), qp_set S.2.2.2.1 l nx, S.2.2.2.2 ∨ qp_jbig bi big (S.2.2.1 l) (S.2.2.2.1 l))
def qp_alt (a : Option V) (s : V) : V := match a with
  | none => s
  | some y => bi 5 y s
def qp_sq (s : Option V) : V := match s with
  | none => lf 12 0
  | some y => y
/-- the seq of a level ends -/
def qp_end (l : Nat) (S : qp_S V) : qp_S V :=
  (S.1, qp_set S.2.1 l (some (qp_alt bi (S.2.1 l) (qp_sq lf (qp_join bi (S.2.2.1 l) (S.2.2.2.1 l))))), qp_set S.2.2.1 l none, qp_set S.2.2.2.1 l none,
    (S.2.2.2.2 ∨ qp_jbig bi big (S.2.2.1 l) (S.2.2.2.1 l)) ∨ big (qp_alt bi (S.2.1 l) (qp_sq lf (qp_join bi (S.2.2.1 l) (S.2.2.2.1 l)))))
def qp_isrep (k : Nat) : Prop := k = 6 ∨ k = 7 ∨ k = 8 ∨ k = 9
def qp_step (k a b : Nat) (S : qp_S V) : qp_S V :=
  if k = 3 then (S.1 + 1, qp_set S.2.1 (S.1 + 1) none, qp_set S.2.2.1 (S.1 + 1) none, qp_set S.2.2.2.1 (S.1 + 1) none, S.2.2.2.2)
  else if k = 4 then qp_take bi big (S.1 - 1) ((qp_end lf bi big S.1 S).2.1 S.1) (S.1 - 1, (qp_end lf bi big S.1 S).2)
  else if k = 5 then qp_end lf bi big S.1 S
  else if k = 6 ∨ k = 7 ∨ k = 8 ∨ k = 9 then (S.1, S.2.1, S.2.2.1, qp_set S.2.2.2.1 S.1 (some (qp_rep lf un bi k a b ((S.2.2.2.1 S.1).getD (lf 12 0)))), S.2.2.2.2 ∨ big (qp_rep lf un bi k a b ((S.2.2.2.1 S.1).getD (lf 12 0))))
  else ((qp_take bi big S.1 (some (qp_leaf lf k a)) S).1, (qp_take bi big S.1 (some (qp_leaf lf k a)) S).2.1, (qp_take bi big S.1 (some (qp_leaf lf k a)) S).2.2.1, (qp_take bi big S.1 (some (qp_leaf lf k a)) S).2.2.2.1, (qp_take bi big S.1 (some (qp_leaf lf k a)) S).2.2.2.2 ∨ big (qp_leaf lf k a))
def qp_0 : qp_S V := (0, fun _ => none, fun _ => none, fun _ => none, False)
def qp_run (K A B : Nat → Nat) : Nat → qp_S V
  | 0 => qp_0
  | t + 1 => qp_step lf un bi big (K t) (A t) (B t) (qp_run K A B t)
def qp_y (k a b : Nat) (st : List V) : List V :=
  if k = 13 ∨ k = 14 then (match st with
    | y :: x :: s => bi (if k = 13 then 13 else 5) x y :: s
    | s => s)
  else if 6 ≤ k ∧ k ≤ 9 then (match st with
    | x :: s => qp_rep lf un bi k a b x :: s
    | [] => [])
  else if k = 12 then lf 12 0 :: st
  else qp_leaf lf k a :: st
def qp_yr (O A B : Nat → Nat) : Nat → List V
  | 0 => []
  | k + 1 => qp_y lf un bi (O k) (A k) (B k) (qp_yr O A B k)
def qp_low (a s i : Option V) : List V := (qp_join bi s i).toList ++ a.toList
def qp_lows (fa fs fi : Nat → Option V) : Nat → List V
  | 0 => []
  | l + 1 => qp_low bi (fa l) (fs l) (fi l) ++ qp_lows fa fs fi l
def qp_top (a s i : Option V) : List V := i.toList ++ (s.toList ++ a.toList)
def qp_big1 (st : List V) : Prop := ∃ v s, st = v :: s ∧ big v
/-- an op's kind and operands are those that the reference emits -/
def qp_opok (k a b h : Nat) : Prop := (k < 3 ∨ 5 < k) ∧ k < 15 ∧ (k = 0 → a < 6) ∧ (k = 2 → 1 ≤ a ∧ a ≤ 63) ∧ (k = 9 → a ≤ b ∧ b ≤ 3) ∧ (k = 13 ∨ k = 14 → 2 ≤ h) ∧ (6 ≤ k ∧ k ≤ 9 → 1 ≤ h)
/-- the first n ops give this stack of parts; whether one of the parts was too large -/
def qp_YO (op oa ob : Nat → Int32) (n : Nat) (st : List V) (P : Prop) : Prop :=
  qp_yr lf un bi (fun j => (op j).toNatClampNeg) (fun j => (oa j).toNatClampNeg) (fun j => (ob j).toNatClampNeg) n = st ∧
  (P ↔ ∃ k, k < n ∧ qp_big1 big (qp_yr lf un bi (fun j => (op j).toNatClampNeg) (fun j => (oa j).toNatClampNeg) (fun j => (ob j).toNatClampNeg) (k + 1))) ∧
  ∀ k, k < n → op k = nI (op k).toNatClampNeg ∧ ((op k).toNatClampNeg = 0 ∨ (op k).toNatClampNeg = 2 → oa k = nI (oa k).toNatClampNeg) ∧ ((op k).toNatClampNeg = 9 → oa k = nI (oa k).toNatClampNeg ∧ ob k = nI (ob k).toNatClampNeg) ∧
    qp_opok (op k).toNatClampNeg (oa k).toNatClampNeg (ob k).toNatClampNeg (qp_yr lf un bi (fun j => (op j).toNatClampNeg) (fun j => (oa j).toNatClampNeg) (fun j => (ob j).toNatClampNeg) k).length ∧
    (qp_yr lf un bi (fun j => (op j).toNatClampNeg) (fun j => (oa j).toNatClampNeg) (fun j => (ob j).toNatClampNeg) (k + 1)).length ≤ 17
theorem qp_yr_cg (O A B O' A' B' : Nat → Nat) : ∀ n, (∀ j, j < n → O j = O' j ∧ A j = A' j ∧ B j = B' j) → qp_yr lf un bi O A B n = qp_yr lf un bi O' A' B' n
  | 0, _ => rfl
  | n + 1, h => by
    have e := qp_yr_cg O A B O' A' B' n (fun j hj => h j (by omega))
    obtain ⟨h1, h2, h3⟩ := h n (by omega)
    simp only [qp_yr, e, h1, h2, h3]
theorem qp_YO_0 (op oa ob : Nat → Int32) : qp_YO lf un bi big op oa ob 0 [] False :=
  ⟨rfl, ⟨fun h => h.elim, fun ⟨k, h, _⟩ => absurd h (by omega)⟩, fun k h => absurd h (by omega)⟩
theorem qp_YO_emit {op oa ob : Nat → Int32} {n : Nat} {st : List V} {P : Prop} (h : qp_YO lf un bi big op oa ob n st P) (k a b : Nat) (xa xb : Int32) (hk : k < 15) (ha : xa.toNatClampNeg = a) (hb : xb.toNatClampNeg = b) (hA : k = 0 ∨ k = 2 → xa = nI a) (hB : k = 9 → xa = nI a ∧ xb = nI b) (ho : qp_opok k a b st.length) (hl : (qp_y lf un bi k a b st).length ≤ 17) : qp_YO lf un bi big (upd op n (nI k)) (upd oa n xa) (upd ob n xb) (n + 1) (qp_y lf un bi k a b st) (P ∨ qp_big1 big (qp_y lf un bi k a b st)) := by
  obtain ⟨h1, h2, h3⟩ := h
  have ck : (nI k).toNatClampNeg = k := nI_clamp (by omega)
  have e0 : ∀ m, m ≤ n → qp_yr lf un bi (fun j => (upd op n (nI k) j).toNatClampNeg) (fun j => (upd oa n xa j).toNatClampNeg) (fun j => (upd ob n xb j).toNatClampNeg) m = qp_yr lf un bi (fun j => (op j).toNatClampNeg) (fun j => (oa j).toNatClampNeg) (fun j => (ob j).toNatClampNeg) m := by
    intro m hm
    apply qp_yr_cg
    intro j hj
    simp only [pk_un (show j ≠ n by omega), and_self]
  have e1 : qp_yr lf un bi (fun j => (upd op n (nI k) j).toNatClampNeg) (fun j => (upd oa n xa j).toNatClampNeg) (fun j => (upd ob n xb j).toNatClampNeg) (n + 1) = qp_y lf un bi k a b st := by
    simp only [qp_yr, e0 n (Nat.le_refl _), h1, pk_us, ck, ha, hb]
  refine ⟨e1, ?_, ?_⟩
  · rw [h2]
    constructor
    · rintro (⟨j, hj, hb⟩ | hb)
      · exact ⟨j, by omega, by rw [e0 (j + 1) (by omega)]; exact hb⟩
      · exact ⟨n, by omega, by rw [e1]; exact hb⟩
    · rintro ⟨j, hj, hb⟩
      rcases Nat.lt_or_ge j n with z | z
      · exact Or.inl ⟨j, z, by rw [e0 (j + 1) (by omega)] at hb; exact hb⟩
      · have : j = n := by omega
        subst this
        rw [e1] at hb
        exact Or.inr hb
  · intro j hj
    rcases Nat.lt_or_ge j n with z | z
    · rw [e0 (j + 1) (by omega), e0 j (by omega), pk_un (show j ≠ n by omega), pk_un (show j ≠ n by omega), pk_un (show j ≠ n by omega)]
      exact h3 j z
    · have : j = n := by omega
      subst this
      rw [e1, e0 j (Nat.le_refl _), h1, pk_us, pk_us, pk_us, ck, ha, hb]
      exact ⟨rfl, hA, hB, ho, hl⟩
end
