/-! sets of rows as each side holds them -/
def qr_oadd (o : Option (List (List Nat))) (r : List Nat) : Option (List (List Nat)) := match o with
  | none => none
  | some l => if r ∈ l then some l else if l.length < 8 then some (l ++ [r]) else none
def qr_oall (o : Option (List (List Nat))) (rs : List (List Nat)) : Option (List (List Nat)) := rs.foldl qr_oadd o
theorem qr_oall_none : ∀ rs, qr_oall none rs = none
  | [] => rfl
  | _ :: rs => qr_oall_none rs
theorem qr_oall_some : ∀ (rs l : List (List Nat)), l.length ≤ 8 → qr_oall (some l) rs = if (qr_all l rs).length ≤ 8 then some (qr_all l rs) else none
  | [], l, h => by
    show some l = if l.length ≤ 8 then some l else none
    rw [if_pos h]
  | r :: rs, l, h => by
    show qr_oall (qr_oadd (some l) r) rs = if (qr_all (qr_add l r) rs).length ≤ 8 then some (qr_all (qr_add l r) rs) else none
    by_cases z : r ∈ l
    · have e1 : qr_oadd (some l) r = some l := if_pos z
      have e2 : qr_add l r = l := if_pos z
      rw [e1, e2]
      exact qr_oall_some rs l h
    · have e2 : qr_add l r = l ++ [r] := if_neg z
      rw [e2]
      by_cases y : l.length < 8
      · have e1 : qr_oadd (some l) r = some (l ++ [r]) := by
          show (if r ∈ l then some l else if l.length < 8 then some (l ++ [r]) else none) = _
          rw [if_neg z, if_pos y]
        rw [e1]
        exact qr_oall_some rs (l ++ [r]) (by simp; omega)
      · have e1 : qr_oadd (some l) r = none := by
          show (if r ∈ l then some l else if l.length < 8 then some (l ++ [r]) else none) = _
          rw [if_neg z, if_neg y]
        rw [e1, qr_oall_none, if_neg]
        have := qr_len_all rs (l ++ [r])
        simp at this
        omega
theorem qr_oall_app (o : Option (List (List Nat))) (a b : List (List Nat)) : qr_oall o (a ++ b) = qr_oall (qr_oall o a) b := by unfold qr_oall; rw [List.foldl_append]
def qr_rw (r : List Nat) : Prop := r.length ≤ 7 ∧ ∀ x, x ∈ r → x < 6
def qx_set (rows : Nat → Int64) (rc : Nat → Int32) (s : Nat) (o : Option (List (List Nat))) : Prop := match o with
  | none => rc s = 9
  | some l => l.length ≤ 8 ∧ (∀ r, r ∈ l → qr_rw r) ∧ rc s = nI l.length ∧ ∀ k r, l[k]? = some r → rows (s * 8 + k) = lN (qc_x r)
theorem qx_set_cg {rows rows' : Nat → Int64} {rc rc' : Nat → Int32} {s : Nat} {o : Option (List (List Nat))} (h : qx_set rows rc s o) (h1 : rc' s = rc s) (h2 : ∀ k, k < 8 → rows' (s * 8 + k) = rows (s * 8 + k)) : qx_set rows' rc' s o := by
  match o, h with
  | none, h => exact h1.trans h
  | some l, ⟨a, b, c, d⟩ =>
    refine ⟨a, b, h1.trans c, fun k r hk => ?_⟩
    have : k < l.length := by
      rcases Nat.lt_or_ge k l.length with z | z
      · exact z
      · rw [List.getElem?_eq_none z] at hk; exact nomatch hk
    rw [h2 k (by omega)]
    exact d k r hk
theorem qr_get_lt {α : Type} {l : List α} {k : Nat} {r : α} (h : l[k]? = some r) : k < l.length := by
  rcases Nat.lt_or_ge k l.length with z | z
  · exact z
  · rw [List.getElem?_eq_none z] at h; exact nomatch h
theorem qr_get_in {α : Type} {l : List α} {k : Nat} {r : α} (h : l[k]? = some r) : r ∈ l := List.mem_of_getElem? h
def qy_buf (rows : Nat → Int32) (rc : Int32) (l : List (List Nat)) : Prop := (∀ r, r ∈ l → qr_rw r) ∧ rc = nI l.length ∧ ∀ k r, l[k]? = some r → rows k = nI (qc_y r)
def qy_set (sets many : Nat → Int32) (s : Nat) (l : List (List Nat)) : Prop := l.length ≤ 8 ∧ (∀ r, r ∈ l → qr_rw r) ∧ many s = nI l.length ∧ ∀ k r, l[k]? = some r → sets (8 * s + k) = nI (qc_y r)
theorem qc_y_i {r : List Nat} (h : qr_rw r) : qc_y r < 559872 := qc_y_lt 7 r h.2 h.1
theorem qc_y_ii {r s : List Nat} (hr : qr_rw r) (hs : qr_rw s) : nI (qc_y r) = nI (qc_y s) ↔ r = s := by
  have a := qc_y_i hr
  have b := qc_y_i hs
  rw [nI_eq (by omega) (by omega)]
  exact ⟨fun h => qc_y_inj hr.2 hs.2 h, fun h => by rw [h]⟩
theorem qc_x_ii {r s : List Nat} (hr : qr_rw r) (hs : qr_rw s) : lN (qc_x r) = lN (qc_x s) ↔ r = s := by
  have a := qc_x_lt r hr.2 hr.1
  have b := qc_x_lt s hs.2 hs.1
  rw [pk_lEQ (by omega) (by omega)]
  exact ⟨fun h => qc_x_inj hr.2 hs.2 hr.1 hs.1 h, fun h => by rw [h]⟩
