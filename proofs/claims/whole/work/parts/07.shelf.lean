/-! the shelf: files, changes, documents and segments -/
abbrev qf_X : Type := Option (List Nat)
abbrev qf_D : Type := Nat × Nat × Bool × List Nat
def qf_ap (b : Nat → qf_X) (c : Nat × qf_X) : Nat → qf_X := fun f => if f = c.1 then c.2 else b f
def qf_aps (b : Nat → qf_X) (w : List (Nat × qf_X)) : Nat → qf_X := w.foldl qf_ap b
def qf_t (t : List Nat) : Prop := t.length ≤ 40 ∧ ∀ x, x ∈ t → x < 7
def qf_o (o : qf_X) : Prop := ∀ t, o = some t → qf_t t
theorem qf_aps_1 (b : Nat → qf_X) (w : List (Nat × qf_X)) (c : Nat × qf_X) : qf_aps b (w ++ [c]) = qf_ap (qf_aps b w) c := by
  unfold qf_aps; rw [List.foldl_append]; rfl
theorem qf_aps_no (f : Nat) : ∀ (w : List (Nat × qf_X)) (b : Nat → qf_X), (∀ c, c ∈ w → c.1 ≠ f) → qf_aps b w f = b f
  | [], _, _ => rfl
  | c :: w, b, h => by
    have h1 := qf_aps_no f w (qf_ap b c) (fun d hd => h d (List.mem_cons_of_mem _ hd))
    show qf_aps (qf_ap b c) w f = b f
    rw [h1]
    exact if_neg (fun e => h c List.mem_cons_self e.symm)
theorem qf_aps_o : ∀ (w : List (Nat × qf_X)) (b : Nat → qf_X), (∀ f, f < 10 → qf_o (b f)) → (∀ c, c ∈ w → qf_o c.2) → ∀ f, f < 10 → qf_o (qf_aps b w f)
  | [], _, hb, _ => hb
  | c :: w, b, hb, hw => by
    apply qf_aps_o w (qf_ap b c)
    · intro f hf
      unfold qf_ap
      split
      · exact hw c List.mem_cons_self
      · exact hb f hf
    · exact fun d hd => hw d (List.mem_cons_of_mem _ hd)
/-! documents -/
def qd_live (x : qf_D) : Bool := x.2.2.1
def qd_dead (ch : List Nat) (x : qf_D) : qf_D := if x.2.1 ∈ ch then (x.1, x.2.1, false, x.2.2.2) else x
/-- the documents that a sync makes of the files f, f + 1, .. -/
def qd_new (ch : List Nat) (now : Nat → qf_X) : Nat → Nat → Nat → List qf_D
  | 0, _, _ => []
  | m + 1, f, made => if f ∈ ch then (match now f with
      | some t => (made, f, true, t) :: qd_new ch now m (f + 1) (made + 1)
      | none => qd_new ch now m (f + 1) made) else qd_new ch now m (f + 1) made
def qd_st (first : Nat) (segs : List Nat) : Nat := (segs.take first).sum
def qd_gd (first : Nat) (docs : List qf_D) (segs : List Nat) : List qf_D := docs.take (qd_st first segs) ++ (docs.drop (qd_st first segs)).filter qd_live
def qd_gs (first : Nat) (docs : List qf_D) (segs : List Nat) : List Nat := segs.take first ++ (if ((docs.drop (qd_st first segs)).filter qd_live).length = 0 then [] else [((docs.drop (qd_st first segs)).filter qd_live).length])
def qd_due (segs : List Nat) : Prop := 2 ≤ segs.length ∧ segs.getD (segs.length - 2) 0 ≤ segs.getD (segs.length - 1) 0
def qd_ok (docs : List qf_D) (segs : List Nat) (made : Nat) : Prop :=
  segs.sum = docs.length ∧ (∀ s, s ∈ segs → 1 ≤ s ∧ s ≤ 10) ∧ docs.Pairwise (fun x y => x.1 < y.1) ∧ (∀ x, x ∈ docs → x.1 < made ∧ x.2.1 < 10 ∧ qf_t x.2.2.2) ∧ docs.Pairwise (fun x y => x.2.2.1 = true → y.2.2.1 = true → x.2.1 ≠ y.2.1)
theorem qd_sub {docs : List qf_D} {first : Nat} {segs : List Nat} : (qd_gd first docs segs).Sublist docs := by
  have h : (docs.take (qd_st first segs) ++ (docs.drop (qd_st first segs)).filter qd_live).Sublist (docs.take (qd_st first segs) ++ docs.drop (qd_st first segs)) := List.Sublist.append (List.Sublist.refl _) List.filter_sublist
  rw [List.take_append_drop] at h
  exact h
theorem qd_pig {l : List Nat} {n : Nat} (h : l.Nodup) (hn : ∀ x, x ∈ l → x < n) : l.length ≤ n := by
  have := List.Nodup.length_le_of_subset h (l₂ := List.range n) (fun x hx => List.mem_range.mpr (hn x hx))
  rw [List.length_range] at this
  exact this
theorem qd_live10 {docs : List qf_D} (h1 : ∀ x, x ∈ docs → x.2.1 < 10) (h2 : docs.Pairwise (fun x y => x.2.2.1 = true → y.2.2.1 = true → x.2.1 ≠ y.2.1)) : (docs.filter qd_live).length ≤ 10 := by
  have hp : ((docs.filter qd_live).map (fun x => x.2.1)).Nodup := by
    have a : (docs.filter qd_live).Pairwise (fun x y => x.2.1 ≠ y.2.1) := by
      have b := List.Pairwise.filter qd_live h2
      refine List.Pairwise.imp_of_mem ?_ b
      intro x y hx hy hxy
      exact hxy (List.mem_filter.mp hx).2 (List.mem_filter.mp hy).2
    exact List.Pairwise.map _ (fun x y hxy => hxy) a
  have := qd_pig hp (n := 10) (fun x hx => by
    obtain ⟨y, hy, rfl⟩ := List.mem_map.mp hx
    exact h1 y (List.mem_filter.mp hy).1)
  rw [List.length_map] at this
  exact this
theorem qd_st_le {segs : List Nat} (first : Nat) : qd_st first segs ≤ segs.sum := by
  have : segs.sum = (segs.take first).sum + (segs.drop first).sum := by rw [← List.sum_append_nat, List.take_append_drop]
  unfold qd_st
  omega
theorem qd_ga_ok {docs : List qf_D} {segs : List Nat} {made : Nat} (h : qd_ok docs segs made) (first : Nat) : qd_ok (qd_gd first docs segs) (qd_gs first docs segs) made := by
  obtain ⟨h1, h2, h3, h4, h5⟩ := h
  have hl := qd_st_le (segs := segs) first
  refine ⟨?_, ?_, h3.sublist qd_sub, fun x hx => h4 x (qd_sub.mem hx), h5.sublist qd_sub⟩
  · unfold qd_gd qd_gs
    rw [List.sum_append_nat, List.length_append, List.length_take, Nat.min_eq_left (by omega)]
    show qd_st first segs + _ = _
    split
    · rename_i e; rw [e]; rfl
    · simp
  · intro s hs
    unfold qd_gs at hs
    rcases List.mem_append.mp hs with z | z
    · exact h2 s (List.mem_of_mem_take z)
    · split at z
      · exact absurd z (by simp)
      · rename_i e
        rw [List.mem_singleton] at z
        subst z
        refine ⟨by omega, ?_⟩
        apply qd_live10
        · exact fun x hx => (h4 x (List.mem_of_mem_drop hx)).2.1
        · exact h5.sublist (List.drop_sublist _ _)
/-! ever fewer documents a segment -/
def qd_tri : Nat → Nat
  | 0 => 0
  | m + 1 => qd_tri m + (m + 1)
theorem qd_tri_le {a b : Nat} (h : a ≤ b) : qd_tri a ≤ qd_tri b := by
  induction h with
  | refl => exact Nat.le_refl _
  | step _ ih => exact Nat.le_trans ih (by simp [qd_tri])
def qd_dec (segs : List Nat) : Prop := segs.Pairwise (fun a b => b < a)
theorem qd_dec_b : ∀ (segs : List Nat) (m : Nat), qd_dec segs → (∀ s, s ∈ segs → 1 ≤ s ∧ s ≤ m) → segs.length ≤ m ∧ segs.sum ≤ qd_tri m
  | [], m, _, _ => ⟨by simp, by simp⟩
  | s :: l, m, hd, hb => by
    have hd' := List.pairwise_cons.mp hd
    have hs := hb s List.mem_cons_self
    obtain ⟨a, b⟩ := qd_dec_b l (s - 1) hd'.2 (fun x hx => ⟨(hb x (List.mem_cons_of_mem _ hx)).1, by have := hd'.1 x hx; omega⟩)
    obtain ⟨s', rfl⟩ : ∃ s', s = s' + 1 := ⟨s - 1, by omega⟩
    have c := qd_tri_le hs.2
    simp only [Nat.add_sub_cancel] at a b
    rw [List.length_cons, List.sum_cons]
    simp only [qd_tri] at c
    omega
theorem qd_dec10 {segs : List Nat} (hd : qd_dec segs) (hb : ∀ s, s ∈ segs → 1 ≤ s ∧ s ≤ 10) : segs.length ≤ 10 ∧ segs.sum ≤ 55 := qd_dec_b segs 10 hd hb
theorem qd_split_last {segs : List Nat} (h : 1 ≤ segs.length) : segs = segs.dropLast ++ [segs.getD (segs.length - 1) 0] := by
  have hne : segs ≠ [] := by intro e; rw [e] at h; simp at h
  have e1 := List.dropLast_concat_getLast hne
  rw [List.getLast_eq_getElem] at e1
  rw [qc_gd (show segs.length - 1 < segs.length by omega)]
  exact e1.symm
theorem qd_not_due {segs : List Nat} (h : qd_dec segs.dropLast) (hn : ¬ qd_due segs) : qd_dec segs := by
  rcases Nat.lt_or_ge segs.length 2 with z | z
  · match segs, z with
    | [], _ => exact List.Pairwise.nil
    | [a], _ => exact List.pairwise_singleton _ _
  · have hlt : segs.getD (segs.length - 1) 0 < segs.getD (segs.length - 2) 0 := by
      rcases Nat.lt_or_ge (segs.getD (segs.length - 1) 0) (segs.getD (segs.length - 2) 0) with y | y
      · exact y
      · exact absurd ⟨z, y⟩ hn
    rw [qd_split_last (show 1 ≤ segs.length by omega)]
    unfold qd_dec at h ⊢
    rw [List.pairwise_append]
    refine ⟨h, List.pairwise_singleton _ _, ?_⟩
    intro a ha b hb
    rw [List.mem_singleton] at hb
    subst hb
    have hl : segs.dropLast.length = segs.length - 1 := List.length_dropLast
    have e2 := qd_split_last (segs := segs.dropLast) (by omega)
    have e3 : segs.dropLast.getD (segs.dropLast.length - 1) 0 = segs.getD (segs.length - 2) 0 := by
      rw [qc_gd (by omega), qc_gd (by omega), List.getElem_dropLast]
      congr 1
      omega
    rw [e2, e3] at ha
    rcases List.mem_append.mp ha with y | y
    · rw [e2, e3, List.pairwise_append] at h
      have := h.2.2 a y _ (List.mem_singleton.mpr rfl)
      omega
    · rw [List.mem_singleton] at y
      omega
theorem qd_gs_dec {docs : List qf_D} {segs : List Nat} (h : qd_dec segs.dropLast) (hl : 2 ≤ segs.length) : qd_dec (qd_gs (segs.length - 2) docs segs).dropLast ∧ (qd_gs (segs.length - 2) docs segs).length < segs.length := by
  have ht : (segs.take (segs.length - 2)).length = segs.length - 2 := by rw [List.length_take]; omega
  have hs : (segs.take (segs.length - 2)).Sublist segs.dropLast := by
    rw [List.dropLast_eq_take]
    exact List.take_sublist_take_left (by omega)
  unfold qd_gs
  split
  · rw [List.append_nil]
    exact ⟨h.sublist ((List.dropLast_sublist _).trans hs), by omega⟩
  · rw [List.dropLast_concat, List.length_append, ht]
    exact ⟨h.sublist hs, by simp; omega⟩
/-- merges, as many as are due -/
def qd_mg : Nat → List qf_D → List Nat → List qf_D × List Nat
  | 0, d, s => (d, s)
  | n + 1, d, s => if 2 ≤ s.length ∧ s.getD (s.length - 2) 0 ≤ s.getD (s.length - 1) 0 then qd_mg n (qd_gd (s.length - 2) d s) (qd_gs (s.length - 2) d s) else (d, s)
theorem qd_mg_ok : ∀ (n : Nat) (d : List qf_D) (s : List Nat) (made : Nat), s.length ≤ n → qd_ok d s made → qd_dec s.dropLast → qd_ok (qd_mg n d s).1 (qd_mg n d s).2 made ∧ qd_dec (qd_mg n d s).2
  | 0, d, s, made, hn, h, hd => by
    refine ⟨h, ?_⟩
    have : s = [] := List.eq_nil_of_length_eq_zero (by omega)
    show qd_dec s
    rw [this]
    exact List.Pairwise.nil
  | n + 1, d, s, made, hn, h, hd => by
    unfold qd_mg
    split
    · rename_i hdue
      have a := qd_gs_dec (docs := d) hd hdue.1
      exact qd_mg_ok n _ _ made (by omega) (qd_ga_ok h _) a.1
    · rename_i hdue
      exact ⟨h, qd_not_due hd hdue⟩
/-! a sync -/
theorem qd_new_in (ch : List Nat) (now : Nat → qf_X) : ∀ (m f made : Nat) (x : qf_D), x ∈ qd_new ch now m f made → made ≤ x.1 ∧ x.1 < made + (qd_new ch now m f made).length ∧ f ≤ x.2.1 ∧ x.2.1 < f + m ∧ x.2.1 ∈ ch ∧ x.2.2.1 = true ∧ now x.2.1 = some x.2.2.2
  | 0, _, _, _, h => absurd h (by simp [qd_new])
  | m + 1, f, made, x, h => by
    unfold qd_new at h ⊢
    split at h
    · rename_i hf
      rw [if_pos hf]
      split at h
      · rename_i t ht
        rcases List.mem_cons.mp h with e | h
        · subst e
          simp only [List.length_cons]
          exact ⟨Nat.le_refl _, by omega, Nat.le_refl _, by omega, hf, by trivial, ht⟩
        · obtain ⟨a1, a2, a3, a4, a5⟩ := qd_new_in ch now m (f + 1) (made + 1) x h
          simp only [List.length_cons]
          exact ⟨by omega, by omega, by omega, by omega, a5⟩
      · obtain ⟨a1, a2, a3, a4, a5⟩ := qd_new_in ch now m (f + 1) made x h
        exact ⟨a1, a2, by omega, by omega, a5⟩
    · rename_i hf
      rw [if_neg hf]
      obtain ⟨a1, a2, a3, a4, a5⟩ := qd_new_in ch now m (f + 1) made x h
      exact ⟨a1, a2, by omega, by omega, a5⟩
theorem qd_new_pw (ch : List Nat) (now : Nat → qf_X) : ∀ (m f made : Nat), (qd_new ch now m f made).Pairwise (fun x y => x.1 < y.1 ∧ x.2.1 < y.2.1)
  | 0, _, _ => by unfold qd_new; exact List.Pairwise.nil
  | m + 1, f, made => by
    unfold qd_new
    split
    · split
      · refine List.pairwise_cons.mpr ⟨?_, qd_new_pw ch now m (f + 1) (made + 1)⟩
        intro y hy
        have := qd_new_in ch now m (f + 1) (made + 1) y hy
        exact ⟨by show made < y.1; omega, by show f < y.2.1; omega⟩
      · exact qd_new_pw ch now m (f + 1) made
    · exact qd_new_pw ch now m (f + 1) made
theorem qd_new_len (ch : List Nat) (now : Nat → qf_X) (m f made : Nat) : (qd_new ch now m f made).length ≤ ch.length := by
  have hn : ((qd_new ch now m f made).map (fun x => x.2.1)).Nodup := by
    refine List.Pairwise.map _ ?_ (qd_new_pw ch now m f made)
    intro x y hxy e
    have := hxy.2
    omega
  have := List.Nodup.length_le_of_subset hn (l₂ := ch) (fun x hx => by
    obtain ⟨y, hy, rfl⟩ := List.mem_map.mp hx
    exact (qd_new_in ch now m f made y hy).2.2.2.2.1)
  rw [List.length_map] at this
  exact this
theorem qd_new_cut (ch : List Nat) (now : Nat → qf_X) : ∀ (m f made : Nat), qd_new ch now (m + 1) f made = qd_new ch now m f made ++ (if f + m ∈ ch then (match now (f + m) with
      | some t => [(made + (qd_new ch now m f made).length, f + m, true, t)]
      | none => []) else [])
  | 0, f, made => by
    unfold qd_new
    simp only [Nat.add_zero, qd_new, List.nil_append, List.length_nil]
  | m + 1, f, made => by
    rw [show qd_new ch now (m + 1 + 1) f made = (if f ∈ ch then (match now f with
      | some t => (made, f, true, t) :: qd_new ch now (m + 1) (f + 1) (made + 1)
      | none => qd_new ch now (m + 1) (f + 1) made) else qd_new ch now (m + 1) (f + 1) made) from rfl]
    rw [show qd_new ch now (m + 1) f made = (if f ∈ ch then (match now f with
      | some t => (made, f, true, t) :: qd_new ch now m (f + 1) (made + 1)
      | none => qd_new ch now m (f + 1) made) else qd_new ch now m (f + 1) made) from rfl]
    have e : f + (m + 1) = f + 1 + m := by omega
    rw [e]
    split
    · split
      · rw [qd_new_cut ch now m (f + 1) (made + 1), List.cons_append, List.length_cons]
        rw [show made + ((qd_new ch now m (f + 1) (made + 1)).length + 1) = made + 1 + (qd_new ch now m (f + 1) (made + 1)).length by omega]
      · rw [qd_new_cut ch now m (f + 1) made]
    · rw [qd_new_cut ch now m (f + 1) made]
def qd_ch (wt : List (Nat × qf_X)) : List Nat := wt.map (fun c => c.1)
def qd_s1 (segs : List Nat) (n : Nat) : List Nat := segs ++ (if n = 0 then [] else [n])
theorem qd_sync_ok {docs : List qf_D} {segs : List Nat} {made : Nat} (h : qd_ok docs segs made) (hd : qd_dec segs) {wt : List (Nat × qf_X)} (hw : wt.length ≤ 6) {now : Nat → qf_X} (hn : ∀ f, f < 10 → qf_o (now f)) :
    qd_ok (docs.map (qd_dead (qd_ch wt)) ++ qd_new (qd_ch wt) now 10 0 made) (qd_s1 segs (qd_new (qd_ch wt) now 10 0 made).length) (made + (qd_new (qd_ch wt) now 10 0 made).length) ∧ qd_dec (qd_s1 segs (qd_new (qd_ch wt) now 10 0 made).length).dropLast ∧ docs.length ≤ 55 ∧ segs.length ≤ 10 ∧ (qd_new (qd_ch wt) now 10 0 made).length ≤ 6 := by
  obtain ⟨h1, h2, h3, h4, h5⟩ := h
  have hb := qd_dec10 hd h2
  have hl : (qd_new (qd_ch wt) now 10 0 made).length ≤ 6 := by
    have := qd_new_len (qd_ch wt) now 10 0 made
    have e : (qd_ch wt).length = wt.length := List.length_map _
    omega
  have hin := qd_new_in (qd_ch wt) now 10 0 made
  have hpw := qd_new_pw (qd_ch wt) now 10 0 made
  have hdd : ∀ x : qf_D, (qd_dead (qd_ch wt) x).1 = x.1 ∧ (qd_dead (qd_ch wt) x).2.1 = x.2.1 ∧ (qd_dead (qd_ch wt) x).2.2.2 = x.2.2.2 ∧ ((qd_dead (qd_ch wt) x).2.2.1 = true → x.2.2.1 = true ∧ ¬ x.2.1 ∈ qd_ch wt) := by
    intro x
    unfold qd_dead
    split
    · exact ⟨rfl, rfl, rfl, (fun e => nomatch e)⟩
    · rename_i z; exact ⟨rfl, rfl, rfl, fun e => ⟨e, z⟩⟩
  generalize hN : qd_new (qd_ch wt) now 10 0 made = N at *
  refine ⟨⟨?_, ?_, ?_, ?_, ?_⟩, ?_, by omega, hb.1, hl⟩
  · unfold qd_s1
    rw [List.sum_append_nat, List.length_append, List.length_map, h1]
    split
    · rename_i e; rw [e]; rfl
    · simp
  · intro s hs
    unfold qd_s1 at hs
    rcases List.mem_append.mp hs with z | z
    · exact h2 s z
    · split at z
      · exact absurd z (by simp)
      · rw [List.mem_singleton] at z
        omega
  · rw [List.pairwise_append]
    refine ⟨List.Pairwise.map _ (fun x y hxy => by rw [(hdd x).1, (hdd y).1]; exact hxy) h3, hpw.imp (fun hxy => hxy.1), ?_⟩
    intro x hx y hy
    obtain ⟨z, hz, rfl⟩ := List.mem_map.mp hx
    have := (h4 z hz).1
    have := (hin y hy).1
    rw [(hdd z).1]
    omega
  · intro x hx
    rcases List.mem_append.mp hx with z | z
    · obtain ⟨y, hy, rfl⟩ := List.mem_map.mp z
      obtain ⟨a1, a2, a3⟩ := h4 y hy
      rw [(hdd y).1, (hdd y).2.1, (hdd y).2.2.1]
      exact ⟨by omega, a2, a3⟩
    · obtain ⟨a1, a2, a3, a4, a5, a6, a7⟩ := hin x z
      exact ⟨a2, by omega, hn x.2.1 (by omega) _ a7⟩
  · rw [List.pairwise_append]
    refine ⟨List.Pairwise.map _ (fun x y hxy => ?_) h5, hpw.imp (fun hxy _ _ e => by have := hxy.2; omega), ?_⟩
    · intro e1 e2
      rw [(hdd x).2.1, (hdd y).2.1]
      exact hxy ((hdd x).2.2.2 e1).1 ((hdd y).2.2.2 e2).1
    · intro x hx y hy e1 _ e
      obtain ⟨z, hz, rfl⟩ := List.mem_map.mp hx
      have a := ((hdd z).2.2.2 e1).2
      rw [(hdd z).2.1] at e
      rw [e] at a
      exact a (hin y hy).2.2.2.2.1
  · unfold qd_s1
    split
    · rw [List.append_nil]; exact hd.sublist (List.dropLast_sublist _)
    · rw [List.dropLast_concat]; exact hd
/-! which segment a document lies in -/
def qd_seg : List Nat → Nat → Nat
  | [], _ => 0
  | s :: l, d => if d < s then 0 else qd_seg l (d - s) + 1
theorem qd_seg_ge : ∀ (segs : List Nat) (d k : Nat), d < segs.sum → (k ≤ qd_seg segs d ↔ qd_st k segs ≤ d)
  | [], d, k, h => absurd h (by simp)
  | s :: l, d, 0, _ => by simp [qd_st]
  | s :: l, d, k + 1, h => by
    rw [List.sum_cons] at h
    have e : qd_st (k + 1) (s :: l) = s + qd_st k l := by unfold qd_st; rw [List.take_succ_cons, List.sum_cons]
    rw [e]
    unfold qd_seg
    split
    · omega
    · have := qd_seg_ge l (d - s) k (by omega)
      omega
theorem qd_seg_lt : ∀ (segs : List Nat) (d : Nat), d < segs.sum → qd_seg segs d < segs.length
  | [], d, h => absurd h (by simp)
  | s :: l, d, h => by
    rw [List.sum_cons] at h
    unfold qd_seg
    rw [List.length_cons]
    split
    · omega
    · have := qd_seg_lt l (d - s) (by omega)
      omega
theorem qd_seg_eq (segs : List Nat) (d k : Nat) (h : d < segs.sum) : qd_seg segs d = k ↔ qd_st k segs ≤ d ∧ d < qd_st (k + 1) segs := by
  have a := qd_seg_ge segs d k h
  have b := qd_seg_ge segs d (k + 1) h
  omega
theorem qd_st_s (segs : List Nat) (k : Nat) : qd_st (k + 1) segs = qd_st k segs + segs.getD k 0 := by
  unfold qd_st
  rw [List.take_add_one, List.sum_append_nat, List.getD_eq_getElem?_getD]
  cases segs[k]? <;> simp
theorem qd_st_all (segs : List Nat) : qd_st segs.length segs = segs.sum := by unfold qd_st; rw [List.take_length]
theorem qd_seg_app (segs : List Nat) : ∀ (l : List Nat) (d : Nat), d < l.sum → qd_seg (l ++ segs) d = qd_seg l d
  | [], d, h => absurd h (by simp)
  | s :: l, d, h => by
    rw [List.sum_cons] at h
    rw [List.cons_append]
    unfold qd_seg
    split
    · rfl
    · rw [qd_seg_app segs l (d - s) (by omega)]
theorem qd_seg_new (n : Nat) : ∀ (l : List Nat) (d : Nat), l.sum ≤ d → d < l.sum + n → qd_seg (l ++ [n]) d = l.length
  | [], d, _, h => by
    show qd_seg [n] d = 0
    unfold qd_seg
    rw [List.sum_nil] at h
    rw [if_pos (by omega)]
  | s :: l, d, h, h' => by
    rw [List.sum_cons] at h h'
    rw [List.cons_append]
    unfold qd_seg
    rw [if_neg (by omega), qd_seg_new n l (d - s) (by omega) (by omega), List.length_cons]
/-! how each side holds a text, a document, a shelf -/
def qx_slot (ch tl : Nat → Int32) (s : Nat) (o : qf_X) : Prop := match o with
  | none => tl s = -1
  | some t => tl s = nI t.length ∧ ∀ i, i < t.length → ch (s * 40 + i) = nI (t.getD i 0)
def qx_doc (ch tl dn df dl : Nat → Int32) (d : Nat) (x : qf_D) : Prop := dn d = nI x.1 ∧ df d = nI x.2.1 ∧ dl d = (if x.2.2.1 = true then 1 else 0) ∧ qx_slot ch tl (27 + d) (some x.2.2.2)
def qx_S (now base : Nat → qf_X) (wt : List (Nat × qf_X)) (dr : List Nat) (docs : List qf_D) (segs : List Nat) (made : Nat) (ch tl wf : Nat → Int32) (wc : Int32) (dn df dl : Nat → Int32) (dc dm : Int32) (ss : Nat → Int32) (sc : Int32) : Prop :=
  (∀ f, f < 10 → qx_slot ch tl f (now f)) ∧ (∀ f, f < 10 → qx_slot ch tl (10 + f) (base f)) ∧ (wc = nI wt.length ∧ ∀ k c, wt[k]? = some c → wf k = nI c.1 ∧ qx_slot ch tl (20 + k) c.2) ∧ qx_slot ch tl 26 (some dr) ∧ (dc = nI docs.length ∧ ∀ d x, docs[d]? = some x → qx_doc ch tl dn df dl d x) ∧ dm = nI made ∧ (sc = nI segs.length ∧ ∀ k s, segs[k]? = some s → ss k = nI s)
def qy_doc (tx sz nu fi pa li : Nat → Int32) (segs : List Nat) (d : Nat) (x : qf_D) : Prop := nu d = nI x.1 ∧ fi d = nI x.2.1 ∧ li d = (if x.2.2.1 = true then 1 else 0) ∧ pa d = nI (qd_seg segs d) ∧ qx_slot tx sz d (some x.2.2.2)
def qy_S (now base : Nat → qf_X) (wt : List (Nat × qf_X)) (dr : List Nat) (docs : List qf_D) (segs : List Nat) (made : Nat) (an al ab abl ac acl acf ad : Nat → Int32) (wa dd : Int32) (nu fi pa sz li tx : Nat → Int32) (nd ns ma : Int32) : Prop :=
  (∀ f, f < 10 → qx_slot an al f (now f)) ∧ (∀ f, f < 10 → qx_slot ab abl f (base f)) ∧ (wa = nI wt.length ∧ ∀ k c, wt[k]? = some c → acf k = nI c.1 ∧ qx_slot ac acl k c.2) ∧ (dd = nI dr.length ∧ ∀ i, i < dr.length → ad i = nI (dr.getD i 0)) ∧ (nd = nI docs.length ∧ ∀ d x, docs[d]? = some x → qy_doc tx sz nu fi pa li segs d x) ∧ ma = nI made ∧ ns = nI segs.length
def qf_inv (now base : Nat → qf_X) (wt : List (Nat × qf_X)) (dr : List Nat) (docs : List qf_D) (segs : List Nat) (made : Nat) : Prop :=
  (∀ f, f < 10 → now f = qf_aps base wt f) ∧ (∀ f, f < 10 → qf_o (base f)) ∧ (wt.length ≤ 6 ∧ ∀ c, c ∈ wt → c.1 < 10 ∧ qf_o c.2) ∧ qf_t dr ∧ qd_ok docs segs made ∧ qd_dec segs
