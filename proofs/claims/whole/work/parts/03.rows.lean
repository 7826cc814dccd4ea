/-! rows of letters as lists; sets of rows as lists in the order of their making -/
def qr_add (l : List (List Nat)) (r : List Nat) : List (List Nat) := if r ∈ l then l else l ++ [r]
def qr_all (l rs : List (List Nat)) : List (List Nat) := rs.foldl qr_add l
def qr_lim (l : List (List Nat)) : List (List Nat) := if l.length ≤ 8 then l else [[]]
def qr_hd (r : List Nat) : List Nat := r.take 2
def qr_tl (r : List Nat) : List Nat := r.drop (r.length - 2)
def qr_pr (xs ys : List (List Nat)) : List (List Nat) := xs.flatMap (fun a => ys.map (fun b => a ++ b))
def qr_has (r : List Nat) (T : Nat → Nat → Nat → Prop) : Prop := ∀ i, i + 2 < r.length → T (r.getD i 0) (r.getD (i + 1) 0) (r.getD (i + 2) 0)
def qr_some (W : List (List Nat)) (T : Nat → Nat → Nat → Prop) : Prop := ∃ r, r ∈ W ∧ qr_has r T
def qr_at (c : Nat → Nat) : Nat → List Nat → Prop
  | _, [] => True
  | i, a :: r => a = c i ∧ qr_at c (i + 1) r
theorem qr_at_app (c : Nat → Nat) : ∀ (a b : List Nat) (i : Nat), qr_at c i (a ++ b) ↔ qr_at c i a ∧ qr_at c (i + a.length) b
  | [], b, i => by simp [qr_at]
  | x :: a, b, i => by
    have := qr_at_app c a b (i + 1)
    simp only [List.cons_append, qr_at, this, List.length_cons]
    rw [show i + 1 + a.length = i + (a.length + 1) by omega, and_assoc]
theorem qr_at_get (c : Nat → Nat) : ∀ (r : List Nat) (i k : Nat), k < r.length → qr_at c i r → r.getD k 0 = c (i + k)
  | [], i, k, h, _ => absurd h (by simp)
  | a :: r, i, 0, _, h => h.1
  | a :: r, i, k + 1, hk, h => by
    have := qr_at_get c r (i + 1) k (by simpa using hk) h.2
    rw [show i + (k + 1) = i + 1 + k by omega, ← this]
    rfl
theorem qr_at_take (c : Nat → Nat) (r : List Nat) (i m : Nat) (h : qr_at c i r) : qr_at c i (r.take m) := by
  rw [← List.take_append_drop m r, qr_at_app] at h
  exact h.1
theorem qr_at_drop (c : Nat → Nat) (r : List Nat) (i m : Nat) (hm : m ≤ r.length) (h : qr_at c i r) : qr_at c (i + m) (r.drop m) := by
  rw [← List.take_append_drop m r, qr_at_app, List.length_take, Nat.min_eq_left hm] at h
  exact h.2
theorem qr_at_has (c : Nat → Nat) (n i : Nat) (r : List Nat) (T : Nat → Nat → Nat → Prop) (hT : ∀ i, i + 2 < n → T (c i) (c (i + 1)) (c (i + 2))) (h : qr_at c i r) (hn : i + r.length ≤ n) : qr_has r T := by
  intro k hk
  rw [qr_at_get c r i k (by omega) h, qr_at_get c r i (k + 1) (by omega) h, qr_at_get c r i (k + 2) (by omega) h]
  exact hT (i + k) (by omega)
theorem qr_mem_add {l : List (List Nat)} {r s : List Nat} : s ∈ qr_add l r ↔ s ∈ l ∨ s = r := by
  unfold qr_add
  by_cases h : r ∈ l
  · rw [if_pos h]
    exact ⟨Or.inl, fun z => z.elim id (fun e => e ▸ h)⟩
  · rw [if_neg h]; simp
theorem qr_mem_all : ∀ {rs l : List (List Nat)} {s : List Nat}, s ∈ qr_all l rs ↔ s ∈ l ∨ s ∈ rs
  | [], l, s => by simp [qr_all]
  | r :: rs, l, s => by
    have := qr_mem_all (rs := rs) (l := qr_add l r) (s := s)
    show s ∈ qr_all (qr_add l r) rs ↔ _
    rw [this, qr_mem_add]
    simp [or_assoc]
theorem qr_nd_add {l : List (List Nat)} {r : List Nat} (h : l.Nodup) : (qr_add l r).Nodup := by
  unfold qr_add
  by_cases z : r ∈ l
  · rw [if_pos z]; exact h
  · rw [if_neg z, List.nodup_append]
    refine ⟨h, by simp, ?_⟩
    intro a ha b hb e
    simp at hb
    subst hb; subst e
    exact z ha
theorem qr_nd_all : ∀ {rs l : List (List Nat)}, l.Nodup → (qr_all l rs).Nodup
  | [], _, h => h
  | _ :: rs, _, h => qr_nd_all (rs := rs) (qr_nd_add h)
theorem qr_all_nd : ∀ {rs l : List (List Nat)}, (l ++ rs).Nodup → qr_all l rs = l ++ rs
  | [], l, _ => by simp [qr_all]
  | r :: rs, l, h => by
    have hr : r ∉ l := by
      intro z
      rw [List.nodup_append] at h
      exact h.2.2 r z r (by simp) rfl
    show qr_all (qr_add l r) rs = _
    have e : qr_add l r = l ++ [r] := by unfold qr_add; rw [if_neg hr]
    rw [e, qr_all_nd (by simpa using h)]
    simp
theorem qr_all_self {l : List (List Nat)} (h : l.Nodup) : qr_all [] l = l := by
  rw [qr_all_nd (by simpa using h)]; rfl
theorem qr_all_app (l a b : List (List Nat)) : qr_all l (a ++ b) = qr_all (qr_all l a) b := by
  unfold qr_all; rw [List.foldl_append]
theorem qr_len_add (l : List (List Nat)) (r : List Nat) : l.length ≤ (qr_add l r).length := by
  unfold qr_add
  by_cases z : r ∈ l
  · rw [if_pos z]; exact Nat.le_refl _
  · rw [if_neg z]; simp
theorem qr_len_add1 (l : List (List Nat)) (r : List Nat) : (qr_add l r).length ≤ l.length + 1 := by
  unfold qr_add
  by_cases z : r ∈ l
  · rw [if_pos z]; omega
  · rw [if_neg z]; simp
theorem qr_len_all : ∀ (rs l : List (List Nat)), l.length ≤ (qr_all l rs).length
  | [], _ => Nat.le_refl _
  | r :: rs, l => Nat.le_trans (qr_len_add l r) (qr_len_all rs (qr_add l r))
theorem qr_len_all1 : ∀ (rs l : List (List Nat)), (qr_all l rs).length ≤ l.length + rs.length
  | [], _ => Nat.le_refl _
  | r :: rs, l => by
    have := qr_len_all1 rs (qr_add l r)
    have := qr_len_add1 l r
    show (qr_all (qr_add l r) rs).length ≤ _
    rw [List.length_cons]
    omega
theorem qr_lim_ex {l : List (List Nat)} {P : List Nat → Prop} (h0 : P []) (h : ∃ r, r ∈ l ∧ P r) : ∃ r, r ∈ qr_lim l ∧ P r := by
  unfold qr_lim
  by_cases z : l.length ≤ 8
  · rw [if_pos z]; exact h
  · rw [if_neg z]; exact ⟨[], by simp, h0⟩
theorem qr_mem_pr {xs ys : List (List Nat)} {r : List Nat} : r ∈ qr_pr xs ys ↔ ∃ a, a ∈ xs ∧ ∃ b, b ∈ ys ∧ r = a ++ b := by
  unfold qr_pr
  rw [List.mem_flatMap]
  constructor
  · rintro ⟨a, ha, h⟩
    rw [List.mem_map] at h
    obtain ⟨b, hb, e⟩ := h
    exact ⟨a, ha, b, hb, e.symm⟩
  · rintro ⟨a, ha, b, hb, e⟩
    exact ⟨a, ha, List.mem_map.mpr ⟨b, hb, e.symm⟩⟩
/-! what a set of rows keeps: no repeats, one to eight, at most m letters a row -/
def qr_wf (m : Nat) (l : List (List Nat)) : Prop := l.Nodup ∧ 1 ≤ l.length ∧ l.length ≤ 8 ∧ ∀ r, r ∈ l → r.length ≤ m ∧ ∀ x, x ∈ r → x < 6
theorem qr_wf1 (m : Nat) : qr_wf m [[]] := ⟨by simp, by simp, by simp, by simp⟩
theorem qr_wf_lim {m : Nat} {l : List (List Nat)} (h0 : l.Nodup) (h1 : 1 ≤ l.length) (h : ∀ r, r ∈ l → r.length ≤ m ∧ ∀ x, x ∈ r → x < 6) : qr_wf m (qr_lim l) := by
  unfold qr_lim
  by_cases z : l.length ≤ 8
  · rw [if_pos z]; exact ⟨h0, h1, z, h⟩
  · rw [if_neg z]; exact qr_wf1 m
theorem qr_ne_all {rs : List (List Nat)} (h : 1 ≤ rs.length) : 1 ≤ (qr_all [] rs).length := by
  match rs, h with
  | r :: rs, _ =>
    have h1 := qr_len_all rs (qr_add [] r)
    have h2 : (qr_add [] r).length = 1 := by simp [qr_add]
    show 1 ≤ (qr_all (qr_add [] r) rs).length
    omega
theorem qr_wf_all {m : Nat} {l : List (List Nat)} (h1 : 1 ≤ l.length) (h : ∀ r, r ∈ l → r.length ≤ m ∧ ∀ x, x ∈ r → x < 6) : qr_wf m (qr_lim (qr_all [] l)) :=
  qr_wf_lim (qr_nd_all (by simp)) (qr_ne_all h1) (fun r hr => h r ((qr_mem_all.mp hr).elim (fun z => absurd z (by simp)) id))
theorem qr_hd_in {r : List Nat} {x : Nat} (h : x ∈ qr_hd r) : x ∈ r := List.mem_of_mem_take h
theorem qr_tl_in {r : List Nat} {x : Nat} (h : x ∈ qr_tl r) : x ∈ r := List.mem_of_mem_drop h
theorem qr_hd_len (r : List Nat) : (qr_hd r).length ≤ 2 := by unfold qr_hd; rw [List.length_take]; omega
theorem qr_tl_len (r : List Nat) : (qr_tl r).length ≤ 2 := by unfold qr_tl; rw [List.length_drop]; omega
theorem qr_pr_len (xs ys : List (List Nat)) : (qr_pr xs ys).length = xs.length * ys.length := by
  unfold qr_pr
  induction xs with
  | nil => simp
  | cons a xs ih => rw [List.flatMap_cons, List.length_append, ih, List.length_map, List.length_cons, Nat.succ_mul]; omega
