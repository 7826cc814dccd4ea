/-! too large -/
def qv_big (v : qv_T) : Prop := 60 < v.1
theorem qv_nb : ¬ qv_big (qv_lf 12 0) := by
  intro h
  have : (qv_lf 12 0).1 = 0 := rfl
  unfold qv_big at h
  omega
/-- what stands on a stack, by its places -/
def qz_sl {V : Type} (R : Nat → V → Prop) : List V → Prop
  | [] => True
  | v :: s => R s.length v ∧ qz_sl R s
theorem qz_sl_cg {V : Type} {R R' : Nat → V → Prop} : ∀ {st : List V}, (∀ p v, p < st.length → R p v → R' p v) → qz_sl R st → qz_sl R' st
  | [], _, _ => trivial
  | v :: s, h, ⟨h1, h2⟩ => ⟨h s.length v (by simp) h1, qz_sl_cg (fun p v hp => h p v (by rw [List.length_cons]; omega)) h2⟩
section
variable {V : Type} (lf : Nat → Nat → V) (un : Nat → Nat → Nat → V → V) (bi : Nat → V → V → V) (big : V → Prop)
def qz_R (op oa ob : Nat → Int32) (k : Nat) : List V := qp_yr lf un bi (fun j => (op j).toNatClampNeg) (fun j => (oa j).toNatClampNeg) (fun j => (ob j).toNatClampNeg) k
/-- the step of the k-th op on the stack of parts -/
def qz_stp (op oa ob : Nat → Int32) (k : Nat) : Prop := ∃ o : Nat, op k = nI o ∧ ((o < 3 ∨ o = 10 ∨ o = 11) ∧ (o = 0 → (oa k).toNatClampNeg < 6 ∧ oa k = nI (oa k).toNatClampNeg) ∧ (o = 2 → (1 ≤ (oa k).toNatClampNeg ∧ (oa k).toNatClampNeg ≤ 63) ∧ oa k = nI (oa k).toNatClampNeg) ∧ qz_R lf un bi op oa ob (k + 1) = qp_leaf lf o (oa k).toNatClampNeg :: qz_R lf un bi op oa ob k ∨
  o = 12 ∧ qz_R lf un bi op oa ob (k + 1) = lf 12 0 :: qz_R lf un bi op oa ob k ∨
  ((6 ≤ o ∧ o ≤ 9) ∧ (o = 9 → (oa k).toNatClampNeg ≤ (ob k).toNatClampNeg ∧ (ob k).toNatClampNeg ≤ 3 ∧ oa k = nI (oa k).toNatClampNeg ∧ ob k = nI (ob k).toNatClampNeg) ∧ ∃ x s, qz_R lf un bi op oa ob k = x :: s ∧ qz_R lf un bi op oa ob (k + 1) = qp_rep lf un bi o (oa k).toNatClampNeg (ob k).toNatClampNeg x :: s) ∨
  ((o = 13 ∨ o = 14) ∧ ∃ y x s, qz_R lf un bi op oa ob k = y :: x :: s ∧ qz_R lf un bi op oa ob (k + 1) = bi (if o = 13 then 13 else 5) x y :: s)) ∧ (qz_R lf un bi op oa ob (k + 1)).length ≤ 17 ∧ (qz_R lf un bi op oa ob k).length ≤ 17
theorem qz_step {op oa ob : Nat → Int32} {n : Nat} {st : List V} {P : Prop} (h : qp_YO lf un bi big op oa ob n st P) {k : Nat} (hk : k < n) : qz_stp lf un bi op oa ob k := by
  obtain ⟨_, _, h3⟩ := h
  obtain ⟨e1, e2, e3, e4, e5⟩ := h3 k hk
  have e6 : (qz_R lf un bi op oa ob k).length ≤ 17 := by
    cases k with
    | zero => exact Nat.zero_le _
    | succ k => exact (h3 k (by omega)).2.2.2.2
  refine ⟨(op k).toNatClampNeg, e1, ?_, e5, e6⟩
  obtain ⟨c1, c2, c3, c4, c5, c6, c7⟩ := e4
  have er : qz_R lf un bi op oa ob (k + 1) = qp_y lf un bi (op k).toNatClampNeg (oa k).toNatClampNeg (ob k).toNatClampNeg (qz_R lf un bi op oa ob k) := rfl
  have c6' : (op k).toNatClampNeg = 13 ∨ (op k).toNatClampNeg = 14 → 2 ≤ (qz_R lf un bi op oa ob k).length := c6
  have c7' : 6 ≤ (op k).toNatClampNeg ∧ (op k).toNatClampNeg ≤ 9 → 1 ≤ (qz_R lf un bi op oa ob k).length := c7
  rw [er]
  generalize (op k).toNatClampNeg = o at *
  generalize qz_R lf un bi op oa ob k = st' at *
  clear er c6 c7 e5 h3
  by_cases h1 : o = 13 ∨ o = 14
  · refine Or.inr (Or.inr (Or.inr ⟨h1, ?_⟩))
    have := c6' h1
    match st', this with
    | y :: x :: s, _ =>
      refine ⟨y, x, s, rfl, ?_⟩
      unfold qp_y
      rw [if_pos h1]
  · by_cases h2 : 6 ≤ o ∧ o ≤ 9
    · refine Or.inr (Or.inr (Or.inl ⟨h2, fun h9 => ⟨(c5 h9).1, (c5 h9).2, (e3 h9).1, (e3 h9).2⟩, ?_⟩))
      have := c7' h2
      match st', this with
      | x :: s, _ =>
        refine ⟨x, s, rfl, ?_⟩
        unfold qp_y
        rw [if_neg h1, if_pos h2]
    · by_cases h3 : o = 12
      · refine Or.inr (Or.inl ⟨h3, ?_⟩)
        unfold qp_y
        rw [if_neg h1, if_neg h2, if_pos h3]
      · refine Or.inl ⟨by omega, fun h0 => ⟨c3 h0, e2 (Or.inl h0)⟩, fun h0 => ⟨c4 h0, e2 (Or.inr h0)⟩, ?_⟩
        unfold qp_y
        rw [if_neg h1, if_neg h2, if_neg h3]
end
section
variable {ywa ydd ynd yns yma ynt yno yrc yfo ybl yod ywr : Int32} {yan yab yac yad yal yabl yacl yacf ynu yfi ypa ysz yli ytx yki yf1 yf2 yo yoa yob yit yss ymo yst ymy ycl yrw yow yhi yla : Nat → Int32} {yen : Nat → Int64}
theorem yz_gr (o : Nat) (ho : o < 15) (post : Int32 → Prop) (h1 : o < 6 ∨ 10 ≤ o ∧ o < 13 → post 1) (h0 : 6 ≤ o ∧ o ≤ 9 → post 0) (hm : 13 ≤ o → post (-1)) : wpY_growth post (nI o) := by
  refine pk_lt o 13 (fun hl => ?_) (fun hl => hm hl)
  refine ys_in (nI o) 6 9 (by decide) (by decide) 6 9 rfl rfl _ (fun z => br_t rfl (h1 ?_)) (fun j h2 h3 e => br_f (by decide) (h0 ?_))
  · have : ¬ (6 ≤ o ∧ o ≤ 9) := fun w => z o w.1 w.2 rfl
    omega
  · rw [nI_eq (by omega) (by omega)] at e
    omega
theorem yz_large1 (n : Nat) (hn : n ≤ 33) (hno : yno = nI n) (st : List qv_T) (P : Prop) (hO : qp_YO qv_lf qv_un qv_bi qv_big yo yoa yob n st P) (post : Int32 → SY → Prop)
  (h0 : ¬ P → ∀ ss : Nat → Int32, post 0 (ywa, ydd, ynd, yns, yma, ynt, yno, yrc, yfo, ybl, yod, ywr, yan, yab, yac, yad, yal, yabl, yacl, yacf, ynu, yfi, ypa, ysz, yli, ytx, yki, yf1, yf2, yo, yoa, yob, yit, ss, ymo, yst, ymy, ycl, yrw, yow, yen, yhi, yla)) (h1 : P → ∀ ss : Nat → Int32, post 1 (ywa, ydd, ynd, yns, yma, ynt, yno, yrc, yfo, ybl, yod, ywr, yan, yab, yac, yad, yal, yabl, yacl, yacf, ynu, yfi, ypa, ysz, yli, ytx, yki, yf1, yf2, yo, yoa, yob, yit, ss, ymo, yst, ymy, ycl, yrw, yow, yen, yhi, yla)) :
  ∀ (N k : Nat) (ss : Nat → Int32), k ≤ n → n - k < N → qz_sl (fun p v => ss p = nI v.1 ∧ v.1 ≤ 60) (qz_R qv_lf qv_un qv_bi yo yoa yob k) → (∀ j, j < k → ¬ qp_big1 qv_big (qz_R qv_lf qv_un qv_bi yo yoa yob (j + 1))) → wY_isLarge_4 post ywa ydd ynd yns yma ynt yno yrc yfo ybl yod ywr N (nI (qz_R qv_lf qv_un qv_bi yo yoa yob k).length) (nI k) yan yab yac yad yal yabl yacl yacf ynu yfi ypa ysz yli ytx yki yf1 yf2 yo yoa yob yit ss ymo yst ymy ycl yrw yow yen yhi yla := by
  intro N
  subst hno
  induction N with
  | zero => intro k ss h2 h3; omega
  | succ N ih =>
    intro k ss h2 h3 h4 h5
    refine pk_le n k (fun hle => ?_) (fun hlt => ?_)
    · have e : k = n := by omega
      subst e
      refine h0 (fun hP => ?_) ss
      obtain ⟨j, hj, hb⟩ := hO.2.1.mp hP
      exact h5 j hj hb
    · have ck : (nI k).toNatClampNeg = k := nI_clamp (by omega)
      obtain ⟨o, eo, hc, hl1, hl0⟩ := qz_step qv_lf qv_un qv_bi qv_big hO hlt
      have ho : o < 15 := by rcases hc with h | h | h | h <;> omega
      -- the store, and what goes on behind it
      have fin : ∀ (v : qv_T) (s : List qv_T) (ss' : Nat → Int32), qz_R qv_lf qv_un qv_bi yo yoa yob (k + 1) = v :: s → qz_sl (fun p v => ss p = nI v.1 ∧ v.1 ≤ 60) s → v.1 ≤ 1000 → wY_isLarge_156 post (wY_isLarge_4 post ywa ydd ynd yns yma ynt (nI n) yrc yfo ybl yod ywr N) (nI (s.length + 1)) (nI k) (nI v.1) (nI (s.length + 1) - 1) ywa ydd ynd yns yma ynt (nI n) yrc yfo ybl yod ywr yan yab yac yad yal yabl yacl yacf ynu yfi ypa ysz yli ytx yki yf1 yf2 yo yoa yob yit ss ymo yst ymy ycl yrw yow yen yhi yla := by
        intro v s ss' er hs hv
        have e1 : nI (s.length + 1) - 1 = nI s.length := nI_pred _
        rw [er, List.length_cons] at hl1
        refine ⟨pk_in s.length 20 (by omega) e1, nm_e ⟨pk_in s.length 20 (by omega) e1, ?_⟩⟩
        rw [e1, nI_clamp (by omega), pk_us]
        refine pk_le v.1 60 (fun hle => nm_r (nI_1 k) ?_) (fun hgt => ?_) rfl rfl (by omega) (by omega)
        · have := ih (k + 1) (upd ss s.length (nI v.1)) (by omega) (by omega) (by
            rw [er]
            refine ⟨⟨pk_us, hle⟩, qz_sl_cg (fun p w hp h => ⟨(pk_un (by omega)).trans h.1, h.2⟩) hs⟩) (fun j hj => by
            by_cases z : j = k
            · subst z
              rw [er]
              rintro ⟨w, s', e, hb⟩
              have : v = w := (List.cons.inj e).1
              subst this
              unfold qv_big at hb
              omega
            · exact h5 j (by omega))
          rw [er, List.length_cons] at this
          exact this
        · exact h1 (hO.2.1.mpr ⟨k, hlt, v, s, er, hgt⟩) _
      refine ⟨pk_in k 40 (by omega), nm_r (e' := nI o) (by rw [ck]; exact eo) ?_⟩
      refine yz_gr o ho _ (fun hg => ?_) (fun hg => ?_) (fun hg => ?_)
      · -- a leaf
        refine nm_r (nI_1 _) ?_
        have hin1 : vp_in (nI ((qz_R qv_lf qv_un qv_bi yo yoa yob k).length + 1) - 1) 20 := pk_in (qz_R qv_lf qv_un qv_bi yo yoa yob k).length 20 (by omega) (nI_pred _)
        refine ⟨hin1, nm_e ⟨pk_in ((qz_R qv_lf qv_un qv_bi yo yoa yob k).length + 1) 20 (by omega), nm_e ?_⟩⟩
        rcases hc with ⟨hk, hk0, hk2, er⟩ | ⟨hk, er⟩ | ⟨hk, _⟩ | ⟨hk, _⟩
        · refine br_f (xe_kne (q := 12) (by omega) (by omega) (by omega)) (br_f (xe_kne (q := 13) (by omega) (by omega) (by omega)) (br_f (xe_kne (q := 14) (by omega) (by omega) (by omega)) (br_f (xe_kne (q := 6) (by omega) (by omega) (by omega)) (br_f (xe_kne (q := 7) (by omega) (by omega) (by omega)) (br_f (xe_kne (q := 8) (by omega) (by omega) (by omega)) (br_f (xe_kne (q := 9) (by omega) (by omega) (by omega)) ?_))))))
          have hv : (qp_leaf qv_lf o (yoa k).toNatClampNeg).1 = 1 := by
            unfold qp_leaf
            split
            · rfl
            · split
              · rfl
              · split
                · rfl
                · show (if o = 12 then 0 else 1) = 1
                  rw [if_neg (by omega)]
          have := fin _ _ ss er h4 (by rw [hv]; omega)
          rw [hv] at this
          exact this
        · refine br_t (by rw [hk]; rfl) ?_
          exact fin _ _ ss er h4 (by show 0 ≤ 1000; omega)
        · omega
        · omega
      · -- a repeat
        rcases hc with ⟨hk, _⟩ | ⟨hk, _⟩ | ⟨hk, h9, x, s, e0, er⟩ | ⟨hk, _⟩
        · omega
        · omega
        · rw [e0] at h4 hl0 ⊢
          rw [List.length_cons] at hl0 ⊢
          obtain ⟨⟨hx1, hx2⟩, hs⟩ := h4
          have e1 : nI (s.length + 1) - 1 = nI s.length := nI_pred _
          refine nm_r (e' := nI (s.length + 1)) (by grind) ⟨pk_in s.length 20 (by omega) e1, nm_r (e' := nI x.1) (by rw [e1, nI_clamp (by omega)]; exact hx1) ⟨pk_in (s.length + 1) 20 (by omega), nm_e ?_⟩⟩
          refine br_f (xe_kne (q := 12) (by omega) (by omega) (by omega)) (br_f (xe_kne (q := 13) (by omega) (by omega) (by omega)) (br_f (xe_kne (q := 14) (by omega) (by omega) (by omega)) ?_))
          have hv : (qp_rep qv_lf qv_un qv_bi o (yoa k).toNatClampNeg (yob k).toNatClampNeg x).1 = if o = 6 then x.1 + 2 else if o = 7 then x.1 + 1 else if o = 8 then x.1 + 1 else (yob k).toNatClampNeg * x.1 + (yob k).toNatClampNeg - (yoa k).toNatClampNeg := by
            unfold qp_rep
            by_cases o8 : o = 8
            · subst o8; rfl
            · rw [if_neg o8]
              by_cases o9 : o = 9
              · rw [if_pos o9]
                obtain ⟨hab, hb3, _⟩ := h9 o9
                have hr : (if o = 6 then x.1 + 2 else if o = 7 then x.1 + 1 else if o = 8 then x.1 + 1 else (yob k).toNatClampNeg * x.1 + (yob k).toNatClampNeg - (yoa k).toNatClampNeg) = (yob k).toNatClampNeg * x.1 + (yob k).toNatClampNeg - (yoa k).toNatClampNeg := by
                  rw [if_neg (show ¬ o = 6 by omega), if_neg (show ¬ o = 7 by omega), if_neg o8]
                rw [hr]
                by_cases hb0 : (yob k).toNatClampNeg = 0
                · rw [if_pos hb0, hb0, Nat.zero_mul]
                  show 0 = _
                  omega
                · rw [if_neg hb0]
                  by_cases h11 : (yoa k).toNatClampNeg = 1 ∧ (yob k).toNatClampNeg = 1
                  · rw [if_pos h11, h11.1, h11.2]
                    omega
                  · rw [if_neg h11]
                    show (yob k).toNatClampNeg * x.1 + ((yob k).toNatClampNeg - (yoa k).toNatClampNeg) = _
                    omega
              · rw [if_neg o9]
                by_cases o6 : o = 6
                · rw [if_pos o6]
                  show (if o = 6 then _ else _) = _
                  rw [if_pos o6]
                · have o7 : o = 7 := by omega
                  rw [if_neg o6, if_pos o7]
                  show (if o = 6 then _ else if o = 7 then _ else _) = _
                  rw [if_neg o6, if_pos o7]
          have hbx : (yob k).toNatClampNeg ≤ 3 → (yob k).toNatClampNeg * x.1 ≤ 180 := fun h => by
            have := Nat.mul_le_mul h hx2
            omega
          refine pk_eq o 6 (fun e6 => ?_) (fun e6 => pk_eq o 7 (fun e7 => ?_) (fun e7 => pk_eq o 8 (fun e8 => ?_) (fun e8 => pk_eq o 9 (fun e9 => ?_) (fun e9 => by omega))))
          · rw [if_pos e6] at hv
            have := fin _ _ ss er hs (by rw [hv]; omega)
            rw [hv] at this
            rw [show nI x.1 + 2 = nI (x.1 + 2) from nI_add _ 2]
            exact this
          · rw [if_neg e6, if_pos e7] at hv
            have := fin _ _ ss er hs (by rw [hv]; omega)
            rw [hv] at this
            unfold wY_isLarge_116
            rw [nI_1 x.1]
            exact this
          · rw [if_neg e6, if_neg e7, if_pos e8] at hv
            have := fin _ _ ss er hs (by rw [hv]; omega)
            rw [hv] at this
            unfold wY_isLarge_116
            rw [nI_1 x.1]
            exact this
          · rw [if_neg e6, if_neg e7, if_neg e8] at hv
            obtain ⟨hab, hb3, ea, eb⟩ := h9 e9
            have hb180 := hbx hb3
            have := fin _ _ ss er hs (by rw [hv]; omega)
            rw [hv] at this
            refine ⟨pk_in k 40 (by omega), pk_in k 40 (by omega), pk_in k 40 (by omega), ?_⟩
            rw [ck, ea, eb, pk_mul, nI_add, pk_sub (by omega)]
            exact this
        · omega
      · -- a seq, an alt
        rcases hc with ⟨hk, _⟩ | ⟨hk, _⟩ | ⟨hk, _⟩ | ⟨hk, y, x, s, e0, er⟩
        · omega
        · omega
        · omega
        · rw [e0] at h4 hl0 ⊢
          rw [List.length_cons, List.length_cons] at hl0 ⊢
          obtain ⟨⟨hy1, hy2⟩, ⟨hx1, hx2⟩, hs⟩ := h4
          rw [List.length_cons] at hy1
          have e1 : nI (s.length + 1) - 1 = nI s.length := nI_pred _
          refine nm_r (pk_m1 _) ⟨pk_in s.length 20 (by omega) e1, nm_r (e' := nI x.1) (by rw [e1, nI_clamp (by omega)]; exact hx1) ⟨pk_in (s.length + 1) 20 (by omega), nm_r (e' := nI y.1) (by rw [nI_clamp (by omega)]; exact hy1) ?_⟩⟩
          refine br_f (xe_kne (q := 12) (by omega) (by omega) (by omega)) (pk_eq o 13 (fun e13 => ?_) (fun e13 => br_t (by rw [show o = 14 by omega]; rfl) ?_))
          · rw [if_pos e13] at er
            have := fin _ _ ss er hs (by show x.1 + y.1 ≤ 1000; omega)
            rw [nI_add]
            exact this
          · rw [if_neg e13] at er
            have := fin _ _ ss er hs (by show x.1 + y.1 + 2 ≤ 1000; omega)
            rw [nI_add, show nI (x.1 + y.1) + 2 = nI (x.1 + y.1 + 2) from nI_add _ 2]
            exact this
theorem yz_large (n : Nat) (hn : n ≤ 33) (hno : yno = nI n) (st : List qv_T) (P : Prop) (hO : qp_YO qv_lf qv_un qv_bi qv_big yo yoa yob n st P) (post : Int32 → SY → Prop)
  (h0 : ¬ P → ∀ ss : Nat → Int32, post 0 (ywa, ydd, ynd, yns, yma, ynt, yno, yrc, yfo, ybl, yod, ywr, yan, yab, yac, yad, yal, yabl, yacl, yacf, ynu, yfi, ypa, ysz, yli, ytx, yki, yf1, yf2, yo, yoa, yob, yit, ss, ymo, yst, ymy, ycl, yrw, yow, yen, yhi, yla)) (h1 : P → ∀ ss : Nat → Int32, post 1 (ywa, ydd, ynd, yns, yma, ynt, yno, yrc, yfo, ybl, yod, ywr, yan, yab, yac, yad, yal, yabl, yacl, yacf, ynu, yfi, ypa, ysz, yli, ytx, yki, yf1, yf2, yo, yoa, yob, yit, ss, ymo, yst, ymy, ycl, yrw, yow, yen, yhi, yla)) : wpY_isLarge post (ywa, ydd, ynd, yns, yma, ynt, yno, yrc, yfo, ybl, yod, ywr, yan, yab, yac, yad, yal, yabl, yacl, yacf, ynu, yfi, ypa, ysz, yli, ytx, yki, yf1, yf2, yo, yoa, yob, yit, yss, ymo, yst, ymy, ycl, yrw, yow, yen, yhi, yla) :=
  ⟨n + 1, yz_large1 n hn hno st P hO post h0 h1 (n + 1) 0 yss (by omega) (by omega) trivial (fun j hj => absurd hj (by omega))⟩
end
