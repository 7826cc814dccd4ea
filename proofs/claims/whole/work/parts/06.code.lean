/-! rows of letters as numbers: base 6 behind a leading 1 (the reference), base 8 below the length (the class) -/
def qc_v (b : Nat) (r : List Nat) : Nat := r.foldl (fun n x => b * n + x) 0
theorem qc_fold (b : Nat) : ∀ (r : List Nat) (s : Nat), r.foldl (fun n x => b * n + x) s = s * b ^ r.length + qc_v b r
  | [], s => by simp [qc_v]
  | x :: r, s => by
    have h1 := qc_fold b r (b * s + x)
    have h2 := qc_fold b r (b * 0 + x)
    show r.foldl (fun n x => b * n + x) (b * s + x) = _
    have h3 : qc_v b (x :: r) = r.foldl (fun n x => b * n + x) (b * 0 + x) := rfl
    rw [h1, h3, h2, List.length_cons, Nat.pow_succ, Nat.add_mul, Nat.mul_zero, Nat.zero_add]
    rw [show b * s * b ^ r.length = s * (b ^ r.length * b) by rw [Nat.mul_comm b s, Nat.mul_assoc, Nat.mul_comm b]]
    omega
theorem qc_app (b : Nat) (a c : List Nat) : qc_v b (a ++ c) = qc_v b a * b ^ c.length + qc_v b c := by
  show (a ++ c).foldl _ 0 = _
  rw [List.foldl_append, qc_fold]
  rfl
theorem qc_nil (b : Nat) : qc_v b [] = 0 := rfl
theorem qc_one (b x : Nat) : qc_v b [x] = x := by show b * 0 + x = x; omega
theorem qc_cons (b x : Nat) (r : List Nat) : qc_v b (x :: r) = x * b ^ r.length + qc_v b r := by
  have := qc_app b [x] r
  rw [qc_one] at this
  exact this
theorem qc_lt (b : Nat) : ∀ (r : List Nat), (∀ x, x ∈ r → x < b) → qc_v b r < b ^ r.length
  | [], _ => by simp [qc_nil]
  | x :: r, h => by
    have h1 := qc_lt b r (fun y hy => h y (List.mem_cons_of_mem _ hy))
    have h2 : x < b := h x (List.mem_cons_self)
    rw [qc_cons, List.length_cons, Nat.pow_succ]
    have h3 : (x + 1) * b ^ r.length ≤ b * b ^ r.length := Nat.mul_le_mul_right _ h2
    rw [Nat.succ_mul] at h3
    rw [Nat.mul_comm (b ^ r.length) b]
    omega
theorem qc_dig {P x y u w : Nat} (hu : u < P) (hw : w < P) (h : x * P + u = y * P + w) : x = y ∧ u = w := by
  rcases Nat.lt_trichotomy x y with z | z | z
  · have : (x + 1) * P ≤ y * P := Nat.mul_le_mul_right _ z
    rw [Nat.succ_mul] at this
    omega
  · subst z; omega
  · have : (y + 1) * P ≤ x * P := Nat.mul_le_mul_right _ z
    rw [Nat.succ_mul] at this
    omega
theorem qc_inj (b : Nat) : ∀ (r s : List Nat), r.length = s.length → (∀ x, x ∈ r → x < b) → (∀ x, x ∈ s → x < b) → qc_v b r = qc_v b s → r = s
  | [], [], _, _, _, _ => rfl
  | [], _ :: _, h, _, _, _ => absurd h (by simp)
  | _ :: _, [], h, _, _, _ => absurd h (by simp)
  | x :: r, y :: s, hl, hr, hs, h => by
    have hl' : r.length = s.length := by simpa using hl
    have h1 := qc_lt b r (fun y hy => hr y (List.mem_cons_of_mem _ hy))
    have h2 := qc_lt b s (fun y hy => hs y (List.mem_cons_of_mem _ hy))
    rw [qc_cons, qc_cons, hl'] at h
    rw [hl'] at h1
    obtain ⟨e1, e2⟩ := qc_dig h1 h2 h
    rw [e1, qc_inj b r s hl' (fun y hy => hr y (List.mem_cons_of_mem _ hy)) (fun y hy => hs y (List.mem_cons_of_mem _ hy)) e2]
theorem qc_divm (P a u : Nat) (hu : u < P) : (a * P + u) / P = a := by
  rw [Nat.mul_comm a P, Nat.mul_add_div (by omega), Nat.div_eq_of_lt hu]
  omega
theorem qc_modm (P a u : Nat) (hu : u < P) : (a * P + u) % P = u := by
  rw [Nat.mul_comm a P, Nat.mul_add_mod, Nat.mod_eq_of_lt hu]
theorem qc_gd {l : List Nat} {i : Nat} (h : i < l.length) : l.getD i 0 = l[i] := by rw [List.getD_eq_getElem?_getD, List.getElem?_eq_getElem h]; rfl
/-- three letters in a row of them -/
theorem qc_split3 (r : List Nat) (i : Nat) (h : i + 2 < r.length) : ∃ a c : List Nat, r = a ++ (r.getD i 0 :: r.getD (i + 1) 0 :: r.getD (i + 2) 0 :: c) ∧ a.length = i ∧ i + 3 + c.length = r.length := by
  refine ⟨r.take i, r.drop (i + 3), ?_, ?_, ?_⟩
  · have e1 : r.drop i = r.getD i 0 :: r.drop (i + 1) := by
      rw [List.drop_eq_getElem_cons (by omega), qc_gd (by omega)]
    have e2 : r.drop (i + 1) = r.getD (i + 1) 0 :: r.drop (i + 2) := by
      rw [List.drop_eq_getElem_cons (by omega), qc_gd (by omega)]
    have e3 : r.drop (i + 2) = r.getD (i + 2) 0 :: r.drop (i + 3) := by
      rw [List.drop_eq_getElem_cons (by omega), qc_gd (by omega)]
    rw [← e3, ← e2, ← e1, List.take_append_drop]
  · rw [List.length_take]; omega
  · rw [List.length_drop]; omega
theorem qc_v3 (b x y z : Nat) : qc_v b [x, y, z] = (x * b + y) * b + z := by
  show b * (b * (b * 0 + x) + y) + z = _
  rw [Nat.mul_zero, Nat.zero_add, Nat.mul_comm b (b * x + y), Nat.mul_comm b x]
/-- the code of the three letters at i, out of the code of the row -/
theorem qc_tri (b : Nat) (r : List Nat) (hr : ∀ x, x ∈ r → x < b) (i : Nat) (h : i + 2 < r.length) (P Q : Nat) (hP : P = b ^ (r.length - 3 - i)) (hQ : Q = b ^ 3) : qc_v b r / P % Q = (r.getD i 0 * b + r.getD (i + 1) 0) * b + r.getD (i + 2) 0 := by
  obtain ⟨a, c, e, h1, h2⟩ := qc_split3 r i h
  generalize r.getD i 0 = x at *
  generalize r.getD (i + 1) 0 = y at *
  generalize r.getD (i + 2) 0 = z at *
  have hc : ∀ x, x ∈ c → x < b := fun w hw => hr w (by rw [e]; simp [hw])
  have ht : ∀ w, w ∈ [x, y, z] → w < b := fun w hw => hr w (by rw [e]; simp at hw ⊢; rcases hw with h | h | h <;> simp [h])
  have e2 : qc_v b r = (qc_v b a * b ^ 3 + qc_v b [x, y, z]) * b ^ c.length + qc_v b c := by
    have : r = (a ++ [x, y, z]) ++ c := by rw [e]; simp
    rw [this, qc_app, qc_app]
    rfl
  have e3 : r.length - 3 - i = c.length := by omega
  have l1 := qc_lt b c hc
  have l2 : qc_v b [x, y, z] < b ^ 3 := qc_lt b [x, y, z] ht
  rw [hP, hQ, e2, e3, qc_divm _ _ _ l1, qc_modm _ _ _ l2, qc_v3]
/-! the reference's codes -/
def qc_y (r : List Nat) : Nat := 6 ^ r.length + qc_v 6 r
theorem qc_y_nil : qc_y [] = 1 := rfl
theorem qc_y_app (a c : List Nat) : qc_y (a ++ c) = qc_y a * 6 ^ c.length + qc_v 6 c := by
  unfold qc_y
  rw [qc_app, List.length_append, Nat.pow_add, Nat.add_mul]
  omega
theorem qc_y_rng (r : List Nat) (hr : ∀ x, x ∈ r → x < 6) : 6 ^ r.length ≤ qc_y r ∧ qc_y r < 2 * 6 ^ r.length := by
  have := qc_lt 6 r hr
  unfold qc_y
  omega
theorem qc_y_lt (m : Nat) (r : List Nat) (hr : ∀ x, x ∈ r → x < 6) (hm : r.length ≤ m) : qc_y r < 2 * 6 ^ m := by
  have h1 := (qc_y_rng r hr).2
  have h2 : 6 ^ r.length ≤ 6 ^ m := Nat.pow_le_pow_right (by omega) hm
  omega
theorem qc_y_len {r s : List Nat} (hr : ∀ x, x ∈ r → x < 6) (hs : ∀ x, x ∈ s → x < 6) (h : qc_y r = qc_y s) : r.length = s.length := by
  have h1 := qc_y_rng r hr
  have h2 := qc_y_rng s hs
  rcases Nat.lt_trichotomy r.length s.length with z | z | z
  · have : 6 ^ (r.length + 1) ≤ 6 ^ s.length := Nat.pow_le_pow_right (by omega) z
    rw [Nat.pow_succ] at this
    omega
  · exact z
  · have : 6 ^ (s.length + 1) ≤ 6 ^ r.length := Nat.pow_le_pow_right (by omega) z
    rw [Nat.pow_succ] at this
    omega
theorem qc_y_inj {r s : List Nat} (hr : ∀ x, x ∈ r → x < 6) (hs : ∀ x, x ∈ s → x < 6) (h : qc_y r = qc_y s) : r = s := by
  have hl := qc_y_len hr hs h
  apply qc_inj 6 r s hl hr hs
  unfold qc_y at h
  rw [hl] at h
  omega
theorem qc_in_l {a c : List Nat} {b : Nat} (h : ∀ x, x ∈ a ++ c → x < b) : ∀ x, x ∈ a → x < b := fun x hx => h x (List.mem_append.mpr (Or.inl hx))
theorem qc_in_r {a c : List Nat} {b : Nat} (h : ∀ x, x ∈ a ++ c → x < b) : ∀ x, x ∈ c → x < b := fun x hx => h x (List.mem_append.mpr (Or.inr hx))
/-- the code without the last k letters -/
theorem qc_y_div (a c : List Nat) (h : ∀ x, x ∈ a ++ c → x < 6) : qc_y (a ++ c) / 6 ^ c.length = qc_y a := by
  rw [qc_y_app, qc_divm _ _ _ (qc_lt 6 c (qc_in_r h))]
theorem qc_y_take (r : List Nat) (hr : ∀ x, x ∈ r → x < 6) (k : Nat) (hk : k ≤ r.length) : qc_y r / 6 ^ k = qc_y (r.take (r.length - k)) := by
  have e : r.take (r.length - k) ++ r.drop (r.length - k) = r := List.take_append_drop _ _
  have h := qc_y_div (r.take (r.length - k)) (r.drop (r.length - k)) (by rw [e]; exact hr)
  rw [e, List.length_drop, show r.length - (r.length - k) = k by omega] at h
  exact h
theorem qc_y_big (r : List Nat) (hr : ∀ x, x ∈ r → x < 6) (m : Nat) : 6 ^ m ≤ qc_y r ↔ m ≤ r.length := by
  have h1 := qc_y_rng r hr
  constructor
  · intro h
    rcases Nat.lt_or_ge r.length m with z | z
    · have : 6 ^ (r.length + 1) ≤ 6 ^ m := Nat.pow_le_pow_right (by omega) z
      rw [Nat.pow_succ] at this
      omega
    · exact z
  · intro h
    have : 6 ^ m ≤ 6 ^ r.length := Nat.pow_le_pow_right (by omega) h
    omega
theorem qc_y_mod (a c : List Nat) (h : ∀ x, x ∈ c → x < 6) : qc_y (a ++ c) % 6 ^ c.length = qc_v 6 c := by
  rw [qc_y_app, qc_modm _ _ _ (qc_lt 6 c h)]
/-- the trigram at i, out of the reference's code -/
theorem qc_y_tri (r : List Nat) (hr : ∀ x, x ∈ r → x < 6) (i : Nat) (h : i + 2 < r.length) : qc_y r / 6 ^ (r.length - 3 - i) % 216 = (r.getD i 0 * 6 + r.getD (i + 1) 0) * 6 + r.getD (i + 2) 0 := by
  have h0 := qc_tri 6 r hr i h _ 216 rfl (by decide)
  obtain ⟨a, c, e, h1, h2⟩ := qc_split3 r i h
  have e3 : r.length - 3 - i = c.length := by omega
  have e4 : 6 ^ r.length = 6 ^ (i + 3) * 6 ^ c.length := by rw [← Nat.pow_add]; congr 1; omega
  rw [← h0, e3]
  unfold qc_y
  rw [e4, Nat.mul_comm (6 ^ (i + 3)), Nat.mul_add_div (Nat.pow_pos (by omega)), Nat.pow_add, show (6 : Nat) ^ 3 = 216 by decide, Nat.mul_comm (6 ^ i) 216, Nat.mul_add_mod]
theorem qc_y_hd (r : List Nat) (hr : ∀ x, x ∈ r → x < 6) (h : 2 ≤ r.length) : qc_y r / 6 ^ (r.length - 2) = qc_y (qr_hd r) := by
  rw [qc_y_take r hr (r.length - 2) (by omega), show r.length - (r.length - 2) = 2 by omega]
  rfl
theorem qc_y_tl (r : List Nat) (hr : ∀ x, x ∈ r → x < 6) (h : 2 ≤ r.length) : 36 + qc_y r % 36 = qc_y (qr_tl r) := by
  have e : r.take (r.length - 2) ++ r.drop (r.length - 2) = r := List.take_append_drop _ _
  have hl : (r.drop (r.length - 2)).length = 2 := by rw [List.length_drop]; omega
  have h1 := qc_y_mod (r.take (r.length - 2)) (r.drop (r.length - 2)) (fun x hx => hr x (List.mem_of_mem_drop hx))
  rw [e, hl, show (6 : Nat) ^ 2 = 36 by decide] at h1
  show _ = qc_y (r.drop (r.length - 2))
  unfold qc_y at h1 ⊢
  rw [hl, h1]
theorem qc_tl_id {r : List Nat} (h : r.length ≤ 2) : qr_tl r = r := by unfold qr_tl; rw [show r.length - 2 = 0 by omega]; rfl
theorem qc_hd_id {r : List Nat} (h : r.length ≤ 2) : qr_hd r = r := by unfold qr_hd; exact List.take_of_length_le h
/-! the class's codes -/
def qc_x (r : List Nat) : Nat := r.length * 4294967296 + qc_v 8 r
theorem qc_8 {r : List Nat} (hr : ∀ x, x ∈ r → x < 6) : ∀ x, x ∈ r → x < 8 := fun x hx => by have := hr x hx; omega
theorem qc_x_v (r : List Nat) (hr : ∀ x, x ∈ r → x < 6) (h : r.length ≤ 7) : qc_v 8 r < 2097152 := by
  have h1 := qc_lt 8 r (qc_8 hr)
  have h2 : 8 ^ r.length ≤ 8 ^ 7 := Nat.pow_le_pow_right (by omega) h
  have h3 : (8 : Nat) ^ 7 = 2097152 := by decide
  omega
theorem qc_x_lt (r : List Nat) (hr : ∀ x, x ∈ r → x < 6) (h : r.length ≤ 7) : qc_x r < 34359738368 := by
  have h1 := qc_x_v r hr h
  unfold qc_x
  omega
theorem qc_x_len (r : List Nat) (hr : ∀ x, x ∈ r → x < 6) (h : r.length ≤ 7) : qc_x r / 4294967296 = r.length := by
  have h1 := qc_x_v r hr h
  unfold qc_x
  exact qc_divm _ _ _ (by omega)
theorem qc_x_low (r : List Nat) (hr : ∀ x, x ∈ r → x < 6) (h : r.length ≤ 7) : qc_x r % 4294967296 = qc_v 8 r := by
  have h1 := qc_x_v r hr h
  unfold qc_x
  exact qc_modm _ _ _ (by omega)
theorem qc_x_inj {r s : List Nat} (hr : ∀ x, x ∈ r → x < 6) (hs : ∀ x, x ∈ s → x < 6) (h1 : r.length ≤ 7) (h2 : s.length ≤ 7) (h : qc_x r = qc_x s) : r = s := by
  have a := qc_x_len r hr h1
  have b := qc_x_low r hr h1
  rw [h, qc_x_len s hs h2] at a
  rw [h, qc_x_low s hs h2] at b
  exact qc_inj 8 r s a.symm (qc_8 hr) (qc_8 hs) b.symm
theorem qc_x_nil : qc_x [] = 0 := rfl
theorem qc_x_app (a c : List Nat) : qc_x (a ++ c) = (a.length + c.length) * 4294967296 + (qc_v 8 a * 8 ^ c.length + qc_v 8 c) := by
  unfold qc_x
  rw [qc_app, List.length_append]
theorem qc_x_hd (r : List Nat) (hr : ∀ x, x ∈ r → x < 6) (h : 2 ≤ r.length) : 2 * 4294967296 + qc_v 8 r / 8 ^ (r.length - 2) = qc_x (qr_hd r) := by
  have e : r.take 2 ++ r.drop 2 = r := List.take_append_drop _ _
  have h1 : qc_v 8 r / 8 ^ (r.length - 2) = qc_v 8 (r.take 2) := by
    have h2 := qc_app 8 (r.take 2) (r.drop 2)
    rw [e, List.length_drop] at h2
    have h3 := qc_lt 8 (r.drop 2) (fun x hx => qc_8 hr x (List.mem_of_mem_drop hx))
    rw [List.length_drop] at h3
    rw [h2, qc_divm _ _ _ h3]
  have hl : (r.take 2).length = 2 := by rw [List.length_take]; omega
  show _ = qc_x (r.take 2)
  unfold qc_x
  rw [h1, hl]
theorem qc_x_tl (r : List Nat) (hr : ∀ x, x ∈ r → x < 6) (h : 2 ≤ r.length) : 2 * 4294967296 + qc_v 8 r % 64 = qc_x (qr_tl r) := by
  have e : r.take (r.length - 2) ++ r.drop (r.length - 2) = r := List.take_append_drop _ _
  have hl : (r.drop (r.length - 2)).length = 2 := by rw [List.length_drop]; omega
  have h1 : qc_v 8 r % 64 = qc_v 8 (r.drop (r.length - 2)) := by
    have h2 := qc_app 8 (r.take (r.length - 2)) (r.drop (r.length - 2))
    rw [e, hl, show (8 : Nat) ^ 2 = 64 by decide] at h2
    have h3 := qc_lt 8 (r.drop (r.length - 2)) (fun x hx => qc_8 hr x (List.mem_of_mem_drop hx))
    rw [hl, show (8 : Nat) ^ 2 = 64 by decide] at h3
    rw [h2, qc_modm _ _ _ h3]
  show _ = qc_x (r.drop (r.length - 2))
  unfold qc_x
  rw [h1, hl]
theorem qc_x_tri (r : List Nat) (hr : ∀ x, x ∈ r → x < 6) (i : Nat) (h : i + 2 < r.length) : qc_v 8 r / 8 ^ (r.length - 3 - i) % 512 = (r.getD i 0 * 8 + r.getD (i + 1) 0) * 8 + r.getD (i + 2) 0 :=
  qc_tri 8 r (qc_8 hr) i h _ 512 rfl (by decide)
theorem qc_get_in {r : List Nat} {b : Nat} (hr : ∀ x, x ∈ r → x < b) (i : Nat) (h : i < r.length) : r.getD i 0 < b := by
  rw [qc_gd h]
  exact hr _ (List.getElem_mem h)
