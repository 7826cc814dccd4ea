/-! the reference: segment, whole -/
theorem ql_cl_1 (x : qf_D) : ∀ l : List qf_D, ql_cl (l ++ [x]) = ql_cl l + (if x.2.2.1 = true then 1 else 0)
  | [] => by simp [ql_cl]
  | y :: l => by
    rw [List.cons_append]
    unfold ql_cl
    rw [ql_cl_1 x l]
    omega
theorem ql_cl_le : ∀ l : List qf_D, ql_cl l ≤ l.length
  | [] => Nat.le_refl _
  | y :: l => by
    have := ql_cl_le l
    unfold ql_cl
    rw [List.length_cons]
    split <;> omega
section
variable {ywa ydd ynd yns yma ynt yno yrc yfo ybl yod ywr : Int32} {yan yab yac yad yal yabl yacl yacf ynu yfi ypa ysz yli ytx yki yf1 yf2 yo yoa yob yit yss ymo yst ymy ycl yrw yow yhi yla : Nat → Int32} {yen : Nat → Int64}
theorem yg_la (x1 x2 x3 : Int32) (post : Int32 → SY → Prop) (hp : ∀ la : Nat → Int32, (∀ j, j < 216 → la j = -1) → ∃ n : Nat, wY_lists_30 post x1 x2 ywa ydd ynd yns yma ynt yno yrc yfo ybl yod ywr n x3 0 yan yab yac yad yal yabl yacl yacf ynu yfi ypa ysz yli ytx yki yf1 yf2 yo yoa yob yit yss ymo yst ymy ycl yrw yow yen yhi la) :
  ∀ (n i : Nat) (la : Nat → Int32), i ≤ 216 → 216 - i < n → (∀ j, j < i → la j = -1) → wY_lists_5 post x1 x2 x3 ywa ydd ynd yns yma ynt yno yrc yfo ybl yod ywr n (nI i) yan yab yac yad yal yabl yacl yacf ynu yfi ypa ysz yli ytx yki yf1 yf2 yo yoa yob yit yss ymo yst ymy ycl yrw yow yen yhi la := by
  intro n
  induction n with
  | zero => intro i hd h1 h2; omega
  | succ n ih =>
    intro i hd h1 h2 h3
    refine pk_le 216 i (fun hle => hp hd (fun j hj => h3 j (by omega))) (fun hlt => ?_)
    have ci : (nI i).toNatClampNeg = i := nI_clamp (by omega)
    refine ⟨pk_in i 216 hlt, nm_e (nm_r (nI_1 i) ?_)⟩
    rw [ci]
    refine ih (i + 1) _ (by omega) (by omega) (fun j hj => ?_)
    by_cases z : j = i
    · subst z; exact pk_us
    · exact (pk_un z).trans (h3 j (by omega))
theorem yg_lists (docs : List qf_D) (segs : List Nat) (made k : Nat) (bits : Bool) (hk : k < segs.length) (hd : docs.length ≤ 64) (hsl : segs.length ≤ 16) (hsum : segs.sum = docs.length) (hdl : qy_dl docs (qd_seg segs) ytx ysz ynu yfi ypa yli) (hok : ∀ y, y ∈ docs → y.1 < made ∧ qf_t y.2.2.2) (hpw : docs.Pairwise (fun x y => x.1 < y.1)) (hm : made < 2 ^ 30) (hnd : ynd = nI docs.length) (xb : Int32) (eb : xb = if bits = true then 1 else 0) (post : Int32 → SY → Prop)
  (hp : ∀ la : Nat → Int32, post (nI (if bits = true then ql_bits (ql_docs docs segs k) else ql_lists (ql_docs docs segs k))) (ywa, ydd, ynd, yns, yma, ynt, yno, yrc, yfo, ybl, yod, ywr, yan, yab, yac, yad, yal, yabl, yacl, yacf, ynu, yfi, ypa, ysz, yli, ytx, yki, yf1, yf2, yo, yoa, yob, yit, yss, ymo, yst, ymy, ycl, yrw, yow, yen, yhi, la)) : wpY_lists post (ywa, ydd, ynd, yns, yma, ynt, yno, yrc, yfo, ybl, yod, ywr, yan, yab, yac, yad, yal, yabl, yacl, yacf, ynu, yfi, ypa, ysz, yli, ytx, yki, yf1, yf2, yo, yoa, yob, yit, yss, ymo, yst, ymy, ycl, yrw, yow, yen, yhi, yla) (nI k) xb := by
  subst eb
  refine ⟨217, yg_la (nI k) _ 0 post ?_ 217 0 yla (by omega) (by omega) (fun j hj => absurd hj (by omega))⟩
  intro la hla
  have h0 : ∀ c, qz_p (qz_l docs (qd_st k segs) (qd_st (k + 1) segs) 0) (qz_o docs (qd_st k segs) (qd_st (k + 1) segs) 0) 0 c = 0 ∧ qz_b (qz_l docs (qd_st k segs) (qd_st (k + 1) segs) 0) (qz_o docs (qd_st k segs) (qd_st (k + 1) segs) 0) 0 c = 0 := by
    intro c
    have e : qz_l docs (qd_st k segs) (qd_st (k + 1) segs) 0 = [] := by
      unfold qz_l
      rw [Nat.zero_min, Nat.zero_sub, List.take_zero]
    rw [e]
    cases qz_o docs (qd_st k segs) (qd_st (k + 1) segs) 0 with
    | none => exact ⟨rfl, rfl⟩
    | some x =>
      unfold qz_p qz_b
      dsimp only
      rw [show qt_any x.2.2.2 0 c = false from rfl]
      exact ⟨rfl, rfl⟩
  have hv : qy_v bits docs (qd_st k segs) (qd_st (k + 1) segs) 0 0 = 0 := by
    unfold qy_v
    apply qs_0
    intro c _
    rw [(h0 c).2]
    cases bits <;> rfl
  have this : wY_lists_30 post (nI k) (if bits = true then 1 else 0) ywa ydd ynd yns yma ynt yno yrc yfo ybl yod ywr (40 * docs.length + 1) (nI (qy_v bits docs (qd_st k segs) (qd_st (k + 1) segs) (0 / 40) (0 % 40))) (nI 0) yan yab yac yad yal yabl yacl yacf ynu yfi ypa ysz yli ytx yki yf1 yf2 yo yoa yob yit yss ymo yst ymy ycl yrw yow yen yhi la := yg_l1 docs segs made k bits hk hd hsl hsum hdl hok hpw hm hnd post hp (40 * docs.length + 1) 0 la (by omega) (by omega) (fun c hc => by
    rw [(h0 c).1, hla c hc]
    decide)
  rw [show 0 / 40 = 0 from rfl, show 0 % 40 = 0 from rfl, hv] at this
  exact ⟨_, this⟩
theorem yg_s1 (docs : List qf_D) (segs : List Nat) (k : Nat) (hk : k < segs.length) (hd : docs.length ≤ 64) (hsl : segs.length ≤ 16) (hsum : segs.sum = docs.length) (hpos : 1 ≤ segs.getD k 0) (hdl : qy_dl docs (qd_seg segs) ytx ysz ynu yfi ypa yli) (hnum : ∀ x, x ∈ docs → x.1 < 2 ^ 30) (hnd : ynd = nI docs.length) (p1 : Int32) (post : Int32 → SY → Prop)
  (hp : ∀ x, docs[qd_st k segs]? = some x → wY_segment_36 post (nI k) p1 ywa ydd ynd yns yma ynt yno yrc yfo ybl yod ywr yan yab yac yad yal yabl yacl yacf ynu yfi ypa ysz yli ytx yki yf1 yf2 yo yoa yob yit yss ymo yst ymy ycl yrw yow yen yhi yla 1 (nI (segs.getD k 0)) (nI (ql_cl (ql_docs docs segs k))) (nI x.1) (nI docs.length)) :
  ∀ (n d : Nat), d ≤ docs.length → docs.length - d < n → wY_segment_36 post (nI k) p1 ywa ydd ynd yns yma ynt yno yrc yfo ybl yod ywr yan yab yac yad yal yabl yacl yacf ynu yfi ypa ysz yli ytx yki yf1 yf2 yo yoa yob yit yss ymo yst ymy ycl yrw yow yen yhi yla n (nI (qz_l docs (qd_st k segs) (qd_st (k + 1) segs) d).length) (nI (ql_cl (qz_l docs (qd_st k segs) (qd_st (k + 1) segs) d))) (match docs[qd_st k segs]? with
    | some x => if qd_st k segs < d then nI x.1 else -1
    | none => -1) (nI d) := by
  intro n
  subst hnd
  have hst := qd_st_s segs k
  have hle1 := qd_st_le (segs := segs) (k + 1)
  have hlt0 : qd_st k segs < docs.length := by omega
  have hg0 := List.getElem?_eq_getElem hlt0
  induction n with
  | zero => intro d h1 h2; omega
  | succ n ih =>
    intro d h1 h2
    by_cases hlt : d < docs.length
    · have hg := List.getElem?_eq_getElem hlt
      obtain ⟨a1, a2, a3, a4, a5⟩ := hdl d _ hg
      have hid : vp_in (nI d) 64 := pk_in d 64 (by omega)
      have cd : (nI d).toNatClampNeg = d := nI_clamp (by omega)
      have hsg := qd_seg_lt segs d (by omega)
      have hq := qd_seg_eq segs d k (by omega)
      have := ih (d + 1) (by omega) (by omega)
      rw [hg0] at this ⊢
      dsimp only at this ⊢
      refine br_f (nI_ge hlt (by omega)) ⟨hid, ?_⟩
      rw [cd, a4]
      refine pk_eq (qd_seg segs d) k (fun he => ?_) (fun he => ?_)
      · have hin := hq.mp he
        have hs : qz_l docs (qd_st k segs) (qd_st (k + 1) segs) (d + 1) = qz_l docs (qd_st k segs) (qd_st (k + 1) segs) d ++ [docs[d]] := by
          unfold qz_l
          have e1 : min (d + 1) (qd_st (k + 1) segs) - qd_st k segs = (d - qd_st k segs) + 1 := by omega
          have e2 : min d (qd_st (k + 1) segs) - qd_st k segs = d - qd_st k segs := by omega
          rw [e1, e2, ql_seg_s docs (qd_st k segs) (d - qd_st k segs) (by omega)]
          congr 2
          congr 1
          omega
        rw [hs, ql_cl_1, List.length_append, List.length_singleton, if_pos (show qd_st k segs < d + 1 by omega)] at this
        generalize qz_l docs (qd_st k segs) (qd_st (k + 1) segs) d = L at *
        have fin : ∀ a : Nat, a = ql_cl L + (if docs[d].2.2.1 = true then 1 else 0) → wY_segment_75 post (wY_segment_36 post (nI k) p1 ywa ydd (nI docs.length) yns yma ynt yno yrc yfo ybl yod ywr yan yab yac yad yal yabl yacl yacf ynu yfi ypa ysz yli ytx yki yf1 yf2 yo yoa yob yit yss ymo yst ymy ycl yrw yow yen yhi yla n) (nI k) p1 (nI (L.length + 1)) (nI a) (if qd_st k segs < d then nI docs[qd_st k segs].1 else -1) (nI d) ywa ydd (nI docs.length) yns yma ynt yno yrc yfo ybl yod ywr yan yab yac yad yal yabl yacl yacf ynu yfi ypa ysz yli ytx yki yf1 yf2 yo yoa yob yit yss ymo yst ymy ycl yrw yow yen yhi yla := by
          intro a ha
          rw [ha]
          by_cases z : qd_st k segs < d
          · rw [if_pos z]
            have hn := hnum _ (List.getElem_mem hlt0)
            exact br_t (nI_pos' (by omega)) (nm_r (nI_1 d) this)
          · rw [if_neg z]
            have e : qd_st k segs = d := by omega
            refine br_f (by decide) ⟨hid, nm_r (e' := nI docs[qd_st k segs].1) ?_ (nm_r (nI_1 d) this)⟩
            rw [cd, a1]
            congr 2
            congr 1
            exact e.symm
        refine nm_r (nI_1 _) ⟨hid, ?_⟩
        rw [a3]
        by_cases z : docs[d].2.2.1 = true
        · rw [if_pos z]
          exact br_f (by decide) (nm_r (nI_1 _) (fin _ (by rw [if_pos z])))
        · rw [if_neg z]
          exact br_t rfl (fin _ (by rw [if_neg z]; rfl))
      · have hs : qz_l docs (qd_st k segs) (qd_st (k + 1) segs) (d + 1) = qz_l docs (qd_st k segs) (qd_st (k + 1) segs) d := by
          have hn : ¬ (qd_st k segs ≤ d ∧ d < qd_st (k + 1) segs) := fun z => he (hq.mpr z)
          unfold qz_l
          congr 1
          omega
        have hn : ¬ (qd_st k segs ≤ d ∧ d < qd_st (k + 1) segs) := fun z => he (hq.mpr z)
        rw [hs] at this
        have e : (if qd_st k segs < d + 1 then nI docs[qd_st k segs].1 else (-1 : Int32)) = if qd_st k segs < d then nI docs[qd_st k segs].1 else -1 := by
          by_cases z : qd_st k segs < d
          · rw [if_pos z, if_pos (by omega)]
          · rw [if_neg z, if_neg (by omega)]
        rw [e] at this
        exact nm_r (nI_1 d) this
    · have e : d = docs.length := by omega
      subst e
      have hl : qz_l docs (qd_st k segs) (qd_st (k + 1) segs) docs.length = ql_docs docs segs k := by
        unfold qz_l ql_docs
        congr 1
        omega
      have hll : (ql_docs docs segs k).length = segs.getD k 0 := by
        unfold ql_docs
        rw [List.length_take, List.length_drop]
        omega
      have := hp _ hg0
      rw [hl, hll, hg0]
      dsimp only
      rw [if_pos hlt0]
      have h4 := this
      refine br_t (nI_le (Nat.le_refl _) (by omega)) ?_
      have h5 := h4.1 (nI_le (Nat.le_refl _) (by omega))
      exact h5
theorem yg_segment (now base : Nat → qf_X) (wt : List (Nat × qf_X)) (dr : List Nat) (docs : List qf_D) (segs : List Nat) (made : Nat) (hi : qf_inv now base wt dr docs segs made) (hm : made < 2 ^ 30) (hS : qy_S now base wt dr docs segs made yan yal yab yabl yac yacl yacf yad ywa ydd ynu yfi ypa ysz yli ytx ynd yns yma) (p0 p1 : Int32) (post : Int32 → SY → Prop)
  (hb : (∀ k, k < segs.length → p0 ≠ nI k) ∨ (∀ w, w < 5 → p1 ≠ nI w) → post (-1) (ywa, ydd, ynd, yns, yma, ynt, yno, yrc, yfo, ybl, yod, ywr, yan, yab, yac, yad, yal, yabl, yacl, yacf, ynu, yfi, ypa, ysz, yli, ytx, yki, yf1, yf2, yo, yoa, yob, yit, yss, ymo, yst, ymy, ycl, yrw, yow, yen, yhi, yla))
  (g0 : ∀ k, k < segs.length → p0 = nI k → p1 = 0 → post (nI (segs.getD k 0)) (ywa, ydd, ynd, yns, yma, ynt, yno, yrc, yfo, ybl, yod, ywr, yan, yab, yac, yad, yal, yabl, yacl, yacf, ynu, yfi, ypa, ysz, yli, ytx, yki, yf1, yf2, yo, yoa, yob, yit, yss, ymo, yst, ymy, ycl, yrw, yow, yen, yhi, yla))
  (g1 : ∀ k, k < segs.length → p0 = nI k → p1 = 1 → post (nI (ql_cl (ql_docs docs segs k))) (ywa, ydd, ynd, yns, yma, ynt, yno, yrc, yfo, ybl, yod, ywr, yan, yab, yac, yad, yal, yabl, yacl, yacf, ynu, yfi, ypa, ysz, yli, ytx, yki, yf1, yf2, yo, yoa, yob, yit, yss, ymo, yst, ymy, ycl, yrw, yow, yen, yhi, yla))
  (g2 : ∀ k, k < segs.length → p0 = nI k → p1 = 2 → ∀ la : Nat → Int32, post (nI (ql_lists (ql_docs docs segs k))) (ywa, ydd, ynd, yns, yma, ynt, yno, yrc, yfo, ybl, yod, ywr, yan, yab, yac, yad, yal, yabl, yacl, yacf, ynu, yfi, ypa, ysz, yli, ytx, yki, yf1, yf2, yo, yoa, yob, yit, yss, ymo, yst, ymy, ycl, yrw, yow, yen, yhi, la))
  (g3 : ∀ k, k < segs.length → p0 = nI k → p1 = 3 → ∀ la : Nat → Int32, post (nI (ql_bits (ql_docs docs segs k))) (ywa, ydd, ynd, yns, yma, ynt, yno, yrc, yfo, ybl, yod, ywr, yan, yab, yac, yad, yal, yabl, yacl, yacf, ynu, yfi, ypa, ysz, yli, ytx, yki, yf1, yf2, yo, yoa, yob, yit, yss, ymo, yst, ymy, ycl, yrw, yow, yen, yhi, la))
  (g4 : ∀ k x, k < segs.length → p0 = nI k → p1 = 4 → docs[qd_st k segs]? = some x → post (nI x.1) (ywa, ydd, ynd, yns, yma, ynt, yno, yrc, yfo, ybl, yod, ywr, yan, yab, yac, yad, yal, yabl, yacl, yacf, ynu, yfi, ypa, ysz, yli, ytx, yki, yf1, yf2, yo, yoa, yob, yit, yss, ymo, yst, ymy, ycl, yrw, yow, yen, yhi, yla)) : wpY_segment post (ywa, ydd, ynd, yns, yma, ynt, yno, yrc, yfo, ybl, yod, ywr, yan, yab, yac, yad, yal, yabl, yacl, yacf, ynu, yfi, ypa, ysz, yli, ytx, yki, yf1, yf2, yo, yoa, yob, yit, yss, ymo, yst, ymy, ycl, yrw, yow, yen, yhi, yla) p0 p1 := by
  obtain ⟨i1, i2, i3, i4, i5, i6⟩ := hi
  obtain ⟨s1, s2, s3, s5, ⟨s6, s7⟩, s8, s9⟩ := hS
  subst s9; subst s6
  have hb10 := qd_dec10 i6 i5.2.1
  have hsm := i5.1
  have hok : ∀ y, y ∈ docs → y.1 < made ∧ qf_t y.2.2.2 := fun y hy => ⟨(i5.2.2.2.1 y hy).1, (i5.2.2.2.1 y hy).2.2⟩
  unfold wpY_segment
  refine yr_inm p0 segs.length (by omega) _ rfl _ (fun z => br_t rfl (hb (Or.inl z))) (fun k hk e => br_f (by decide) ?_)
  subst e
  refine ys_in p1 0 4 (by decide) (by decide) 0 4 rfl rfl _ (fun z => br_t rfl (hb (Or.inr (fun w hw => z w (by omega) (by omega))))) (fun w _ hw e => br_f (by decide) ⟨docs.length + 1, ?_⟩)
  have hpos : 1 ≤ segs.getD k 0 := by rw [qc_gd hk]; exact (i5.2.1 _ (List.getElem_mem hk)).1
  have hst := qd_st_s segs k
  have hle1 := qd_st_le (segs := segs) (k + 1)
  have hlt0 : qd_st k segs < docs.length := by omega
  have e0 : qz_l docs (qd_st k segs) (qd_st (k + 1) segs) 0 = [] := by
    unfold qz_l
    rw [Nat.zero_min, Nat.zero_sub, List.take_zero]
  have this : wY_segment_36 post (nI k) p1 ywa ydd (nI docs.length) (nI segs.length) yma ynt yno yrc yfo ybl yod ywr yan yab yac yad yal yabl yacl yacf ynu yfi ypa ysz yli ytx yki yf1 yf2 yo yoa yob yit yss ymo yst ymy ycl yrw yow yen yhi yla (docs.length + 1) (nI (qz_l docs (qd_st k segs) (qd_st (k + 1) segs) 0).length) (nI (ql_cl (qz_l docs (qd_st k segs) (qd_st (k + 1) segs) 0))) (match docs[qd_st k segs]? with
    | some x => if qd_st k segs < 0 then nI x.1 else -1
    | none => -1) (nI 0) := by
    refine yg_s1 docs segs k hk (by omega) (by omega) i5.1 hpos s7 (fun x hx => by have := (hok x hx).1; omega) rfl p1 post ?_ (docs.length + 1) 0 (by omega) (by omega)
    intro x hx
    refine br_t (nI_le (Nat.le_refl _) (by omega)) ?_
    refine br_c (fun y => g0 k hk rfl y) (fun y0 => br_c (fun y => g1 k hk rfl y) (fun y1 => br_c (fun y => g4 k x hk rfl y hx) (fun y4 => br_c (fun y => ?_) (fun y3 => ?_))))
    · exact yg_lists docs segs made k true hk (by omega) (by omega) i5.1 s7 hok i5.2.2.1 hm rfl 1 rfl _ (fun la => g3 k hk rfl y la)
    · have y2 : p1 = 2 := by
        subst e
        have : w ≠ 0 := fun h => y0 (by rw [h]; rfl)
        have : w ≠ 1 := fun h => y1 (by rw [h]; rfl)
        have : w ≠ 3 := fun h => y3 (by rw [h]; rfl)
        have : w ≠ 4 := fun h => y4 (by rw [h]; rfl)
        have : w = 2 := by omega
        rw [this]; rfl
      exact yg_lists docs segs made k false hk (by omega) (by omega) i5.1 s7 hok i5.2.2.1 hm rfl 0 rfl _ (fun la => g2 k hk rfl y2 la)
  rw [e0, List.getElem?_eq_getElem hlt0] at this
  dsimp only at this
  rw [if_neg (by omega)] at this
  exact this
theorem yg_st1 (now : Nat → qf_X) (hno : ∀ f, f < 10 → qf_o (now f)) (hs : ∀ f, f < 10 → qx_slot yan yal f (now f)) (W : Int32 → Prop) (post : Int32 → Prop) (x1 : Int32)
  (hx : ∀ n x, wY_state_4 post x1 ywa ydd ynd yns yma ynt yno yrc yfo ybl yod ywr yan yab yac yad yal yabl yacl yacf ynu yfi ypa ysz yli ytx yki yf1 yf2 yo yoa yob yit yss ymo yst ymy ycl yrw yow yen yhi yla (n + 1) x 10 ↔ W x) (hp : W (nI (qn_th now 10))) : True := trivial
end
