/-! the reference: the ends of each op -/
def qe_set1 (en : Nat → Int64) (b n i : Nat) (M : qe_M) (en0 : Nat → Int64) : Prop := (∀ j, j < i → qe_b (en (b + j)) (M j)) ∧ qe_kp b n en0 en
section
variable {ywa ydd ynd yns yma ynt yno yrc yfo ybl yod ywr : Int32} {yan yab yac yad yal yabl yacl yacf ynu yfi ypa ysz yli ytx yki yf1 yf2 yo yoa yob yit yss ymo yst ymy ycl yrw yow yhi yla : Nat → Int32} {yen : Nat → Int64}
/-- one letter of a set, or a place -/
theorem yg_single1 (k b B n o mk : Nat) (c : Nat → Nat) (M : qe_M) (hk : k < 40) (hb : b + n < 779) (hn : n ≤ 40) (hB : B + n ≤ 400) (hch : ∀ j, j < n → yan (B + j) = nI (c j)) (hc : ∀ j, j < n → c j < 6) (ho : o < 3 ∨ o = 10 ∨ o = 11 ∨ o = 12)
  (h0 : o = 0 → (1 : Int32) <<< (yoa k &&& 31) = nI mk) (h1 : o = 1 → mk = 63) (h2 : o = 2 → yoa k = nI mk) (h3 : 3 ≤ o → mk = 0) (hM : ∀ i e, i ≤ n → (M i e ↔ if o < 3 then i < n ∧ e = i + 1 ∧ mk.testBit (c i) = true else if o = 10 then i = 0 ∧ e = i else if o = 11 then i = n ∧ e = i else e = i)) (en0 : Nat → Int64) (post : SY → Prop) (hp : ∀ en' : Nat → Int64, qe_row en' b n M → qe_kp b n en0 en' → post (ywa, ydd, ynd, yns, yma, ynt, yno, yrc, yfo, ybl, yod, ywr, yan, yab, yac, yad, yal, yabl, yacl, yacf, ynu, yfi, ypa, ysz, yli, ytx, yki, yf1, yf2, yo, yoa, yob, yit, yss, ymo, yst, ymy, ycl, yrw, yow, en', yhi, yla)) :
  ∀ (N i : Nat) (en' : Nat → Int64), i ≤ n + 1 → n + 1 - i < N → qe_set1 en' b n i M en0 → wY_single_11 post (nI k) (nI b) (nI B) (nI n) (nI o) ywa ydd ynd yns yma ynt yno yrc yfo ybl yod ywr N (nI i) yan yab yac yad yal yabl yacl yacf ynu yfi ypa ysz yli ytx yki yf1 yf2 yo yoa yob yit yss ymo yst ymy ycl yrw yow en' yhi yla := by
  intro N
  induction N with
  | zero => intro i en' g1 g2; omega
  | succ N ih =>
    intro i en' g1 g2 g3
    have ck : (nI k).toNatClampNeg = k := nI_clamp (by omega)
    refine pk_lt n i (fun hlt => hp en' (fun j hj => g3.1 j (by omega)) g3.2) (fun hle => ?_)
    have next : ∀ x : Int64, qe_b x (M i) → wY_single_11 post (nI k) (nI b) (nI B) (nI n) (nI o) ywa ydd ynd yns yma ynt yno yrc yfo ybl yod ywr N (nI (i + 1)) yan yab yac yad yal yabl yacl yacf ynu yfi ypa ysz yli ytx yki yf1 yf2 yo yoa yob yit yss ymo yst ymy ycl yrw yow (vp_updL en' (b + i) x) yhi yla := by
      intro x hx
      refine ih (i + 1) _ (by omega) (by omega) ⟨fun j hj => ?_, fun j hj => ?_⟩
      · by_cases z : j = i
        · subst z
          rw [pk_uLs]
          exact hx
        · rw [pk_uLn (by omega)]
          exact g3.1 j (by omega)
      · rw [pk_uLn (by omega)]
        exact g3.2 j hj
    have hin : vp_in (nI b + nI i) 779 := pk_in (b + i) 779 (by omega) (nI_add _ _)
    have ecl : (nI b + nI i).toNatClampNeg = b + i := pk_cl (b + i) (nI_add _ _)
    have w133 : ∀ (x8 z : Nat), x8 ≤ 1 → z ≤ 1 → (∀ e, e < 64 → (M i e ↔ if x8 = 0 then (if z = 0 then False else e = i) else e = i + 1)) → wY_single_133 post (wY_single_11 post (nI k) (nI b) (nI B) (nI n) (nI o) ywa ydd ynd yns yma ynt yno yrc yfo ybl yod ywr N) (nI k) (nI b) (nI B) (nI n) (nI o) (nI i) (nI x8) (nI z) ywa ydd ynd yns yma ynt yno yrc yfo ybl yod ywr yan yab yac yad yal yabl yacl yacf ynu yfi ypa ysz yli ytx yki yf1 yf2 yo yoa yob yit yss ymo yst ymy ycl yrw yow en' yhi yla := by
      intro x8 z hx8 hz hm
      refine pk_eq x8 0 (fun e8 => pk_eq z 0 (fun ez => ⟨hin, nm_e (nm_r (nI_1 i) ?_)⟩) (fun ez => ⟨hin, nm_e (nm_r (nI_1 i) ?_)⟩)) (fun e8 => ⟨hin, nm_e (nm_r (nI_1 i) ?_)⟩)
      · rw [ecl]
        refine next 0 (fun e he => ?_)
        rw [qb_0, hm e he, if_pos e8, if_pos ez]
        exact ⟨fun h => (nomatch h), fun h => h.elim⟩
      · rw [ecl]
        refine next _ (fun e he => ?_)
        rw [qb_here i (by omega) e he, decide_eq_true_eq, hm e he, if_pos e8, if_neg ez]
      · rw [ecl]
        refine next _ (fun e he => ?_)
        rw [qb_next i (by omega) e he, decide_eq_true_eq, hm e he, if_neg e8]
    have w93 : ∀ (x8 : Nat), x8 ≤ 1 → (o < 3 → (x8 = 1 ↔ i < n ∧ mk.testBit (c i) = true)) → (3 ≤ o → x8 = 0) → wY_single_93 post (wY_single_11 post (nI k) (nI b) (nI B) (nI n) (nI o) ywa ydd ynd yns yma ynt yno yrc yfo ybl yod ywr N) (nI k) (nI b) (nI B) (nI n) (nI o) (nI i) (nI x8) ywa ydd ynd yns yma ynt yno yrc yfo ybl yod ywr yan yab yac yad yal yabl yacl yacf ynu yfi ypa ysz yli ytx yki yf1 yf2 yo yoa yob yit yss ymo yst ymy ycl yrw yow en' yhi yla := by
      intro x8 hx8 hl hg
      have hmi := fun e => hM i e hle
      refine pk_eq o 12 (fun e12 => ?_) (fun e12 => pk_eq o 10 (fun e10 => pk_eq i 0 (fun ei => ?_) (fun ei => br_f (xe_kne (q := 11) (by omega) (by omega) (by omega)) ?_)) (fun e10 => pk_eq o 11 (fun e11 => pk_eq i n (fun ei => ?_) (fun ei => ?_)) (fun e11 => ?_)))
      · refine w133 x8 1 hx8 (by omega) (fun e he => ?_)
        rw [hmi e, if_neg (by omega), if_neg (by omega), if_neg (by omega), if_pos (hg (by omega)), if_neg (by omega)]
      · refine w133 x8 1 hx8 (by omega) (fun e he => ?_)
        rw [hmi e, if_neg (by omega), if_pos e10, if_pos (hg (by omega)), if_neg (by omega)]
        exact ⟨fun h => h.2, fun h => ⟨ei, h⟩⟩
      · refine w133 x8 0 hx8 (by omega) (fun e he => ?_)
        rw [hmi e, if_neg (by omega), if_pos e10, if_pos (hg (by omega)), if_pos rfl]
        exact ⟨fun h => ei h.1, fun h => h.elim⟩
      · refine w133 x8 1 hx8 (by omega) (fun e he => ?_)
        rw [hmi e, if_neg (by omega), if_neg e10, if_pos e11, if_pos (hg (by omega)), if_neg (by omega)]
        exact ⟨fun h => h.2, fun h => ⟨ei, h⟩⟩
      · refine w133 x8 0 hx8 (by omega) (fun e he => ?_)
        rw [hmi e, if_neg (by omega), if_neg e10, if_pos e11, if_pos (hg (by omega)), if_pos rfl]
        exact ⟨fun h => ei h.1, fun h => h.elim⟩
      · refine w133 x8 0 hx8 (by omega) (fun e he => ?_)
        have hx := hl (by omega)
        rw [hmi e, if_pos (by omega), if_pos rfl]
        by_cases z : x8 = 0
        · rw [if_pos z]
          refine ⟨fun h => ?_, fun h => h.elim⟩
          have := hx.mpr ⟨h.1, h.2.2⟩
          omega
        · rw [if_neg z]
          have := hx.mp (by omega)
          exact ⟨fun h => h.2.1, fun h => ⟨this.1, h, this.2⟩⟩
    have w61 : ∀ zm : Int32, zm = nI mk → wY_single_61 post (wY_single_11 post (nI k) (nI b) (nI B) (nI n) (nI o) ywa ydd ynd yns yma ynt yno yrc yfo ybl yod ywr N) (nI k) (nI b) (nI B) (nI n) (nI o) (nI i) zm ywa ydd ynd yns yma ynt yno yrc yfo ybl yod ywr yan yab yac yad yal yabl yacl yacf ynu yfi ypa ysz yli ytx yki yf1 yf2 yo yoa yob yit yss ymo yst ymy ycl yrw yow en' yhi yla := by
      intro zm ez
      subst ez
      refine pk_le n i (fun hge => w93 0 (by omega) (fun _ => ⟨fun h => by omega, fun h => by omega⟩) (fun _ => rfl)) (fun hlt => ⟨pk_in (B + i) 400 (by omega) (nI_add _ _), ?_⟩)
      have h6 := hc i hlt
      rw [pk_cl (B + i) (nI_add _ _), hch i hlt]
      refine ek_if ((qb_s1 (nI mk) (c i) (by omega)).trans (by rw [qb_nI mk (c i) (by omega)])) (fun hb1 => w93 1 (by omega) (fun _ => ⟨fun _ => ⟨hlt, hb1⟩, fun _ => rfl⟩) (fun h => ?_)) (fun hb1 => w93 0 (by omega) (fun _ => ⟨fun h => (nomatch h), fun h => absurd h.2 hb1⟩) (fun _ => rfl))
      rw [h3 h, Nat.zero_testBit] at hb1
      exact nomatch hb1
    refine pk_eq o 0 (fun e0 => ⟨pk_in k 40 hk, w61 _ (by rw [ck]; exact h0 e0)⟩) (fun e0 => pk_eq o 1 (fun e1 => w61 _ (by rw [h1 e1]; rfl)) (fun e1 => pk_eq o 2 (fun e2 => ⟨pk_in k 40 hk, w61 _ (by rw [ck]; exact h2 e2)⟩) (fun e2 => w61 _ (by rw [h3 (by omega)]; rfl))))
theorem qe_leafM (o a : Nat) (c : Nat → Nat) (n : Nat) (ho : o < 3 ∨ o = 10 ∨ o = 11 ∨ o = 12) (i e : Nat) : (qp_leaf qv_lf o a).2.2 c n i e ↔ if o < 3 then i < n ∧ e = i + 1 ∧ (if o = 0 then 2 ^ a else if o = 1 then 63 else if o = 2 then a else 0).testBit (c i) = true else if o = 10 then i = 0 ∧ e = i else if o = 11 then i = n ∧ e = i else e = i := by
  unfold qp_leaf
  by_cases o0 : o = 0
  · subst o0; exact Iff.rfl
  · rw [if_neg o0, if_neg o0]
    by_cases o1 : o = 1
    · subst o1; exact Iff.rfl
    · rw [if_neg o1, if_neg o1]
      by_cases o2 : o = 2
      · subst o2; exact Iff.rfl
      · rw [if_neg o2, if_neg o2, if_neg (show ¬ o < 3 by omega)]
        show qe_lf o 0 c n i e ↔ _
        unfold qe_lf
        rw [if_neg o2]
/-- the leaves -/
theorem yg_leaf (k b B n o : Nat) (c : Nat → Nat) (hk : k < 40) (hb : b + n < 779) (hn : n ≤ 40) (hB : B + n ≤ 400) (hch : ∀ j, j < n → yan (B + j) = nI (c j)) (hc : ∀ j, j < n → c j < 6) (ho : o < 3 ∨ o = 10 ∨ o = 11 ∨ o = 12) (eo : yo k = nI o)
  (h0 : o = 0 → (yoa k).toNatClampNeg < 6 ∧ yoa k = nI (yoa k).toNatClampNeg) (h2 : o = 2 → yoa k = nI (yoa k).toNatClampNeg) (post : SY → Prop) (hp : ∀ en' : Nat → Int64, qe_row en' b n ((qp_leaf qv_lf o (yoa k).toNatClampNeg).2.2 c n) → qe_kp b n yen en' → post (ywa, ydd, ynd, yns, yma, ynt, yno, yrc, yfo, ybl, yod, ywr, yan, yab, yac, yad, yal, yabl, yacl, yacf, ynu, yfi, ypa, ysz, yli, ytx, yki, yf1, yf2, yo, yoa, yob, yit, yss, ymo, yst, ymy, ycl, yrw, yow, en', yhi, yla)) : wpY_single post (ywa, ydd, ynd, yns, yma, ynt, yno, yrc, yfo, ybl, yod, ywr, yan, yab, yac, yad, yal, yabl, yacl, yacf, ynu, yfi, ypa, ysz, yli, ytx, yki, yf1, yf2, yo, yoa, yob, yit, yss, ymo, yst, ymy, ycl, yrw, yow, yen, yhi, yla) (nI k) (nI b) (nI B) (nI n) := by
  refine And.intro (pk_in k 40 hk) (nm_r (e' := nI o) (by rw [nI_clamp (by omega)]; exact eo) ⟨n + 2, ?_⟩)
  refine yg_single1 k b B n o (if o = 0 then 2 ^ (yoa k).toNatClampNeg else if o = 1 then 63 else if o = 2 then (yoa k).toNatClampNeg else 0) c _ hk hb hn hB hch hc ho (fun e => ?_) (fun e => ?_) (fun e => ?_) (fun e => ?_) (fun i e _ => qe_leafM o _ c n ho i e) yen post hp (n + 2) 0 yen (by omega) (by omega) ⟨fun j hj => absurd hj (by omega), fun _ _ => rfl⟩
  · obtain ⟨h6, ea⟩ := h0 e
    have : ∀ a, a < 6 → (1 : Int32) <<< (nI a &&& 31) = nI (2 ^ a) := by decide +kernel
    rw [if_pos e, ← this _ h6, ← ea]
  · rw [if_neg (by omega), if_pos e]
  · rw [if_neg (by omega), if_neg (by omega), if_pos e]
    exact h2 e
  · rw [if_neg (by omega), if_neg (by omega), if_neg (by omega)]
theorem qe_repM (o a b : Nat) (x : qv_T) (c : Nat → Nat) (n : Nat) (ho : o = 8 ∨ o = 9) (hab : o = 9 → a ≤ b) (i e : Nat) : (qp_rep qv_lf qv_un qv_bi o a b x).2.2 c n i e ↔ ∃ q, (if o = 8 then 0 else a) ≤ q ∧ q ≤ (if o = 8 then 1 else b) ∧ qe_pow (x.2.2 c n) q i e := by
  have p1 : qe_pow (x.2.2 c n) 1 i e ↔ x.2.2 c n i e := by
    constructor
    · rintro ⟨m, h1, h2⟩
      have : i = m := h1
      subst this
      exact h2
    · exact fun h => ⟨i, rfl, h⟩
  have p0 : qe_pow (x.2.2 c n) 0 i e ↔ i = e := Iff.rfl
  have l12 : (qv_lf 12 0).2.2 c n i e ↔ e = i := Iff.rfl
  unfold qp_rep
  by_cases o8 : o = 8
  · rw [if_pos o8, if_pos o8, if_pos o8]
    have eb : (qv_bi 8 x (qv_lf 12 0)).2.2 c n i e ↔ x.2.2 c n i e ∨ e = i := Iff.rfl
    rw [eb]
    constructor
    · rintro (h | h)
      · exact ⟨1, by omega, by omega, p1.mpr h⟩
      · exact ⟨0, by omega, by omega, p0.mpr h.symm⟩
    · rintro ⟨q, _, h2, h3⟩
      by_cases z : q = 0
      · subst z; exact Or.inr (p0.mp h3).symm
      · have : q = 1 := by omega
        subst this
        exact Or.inl (p1.mp h3)
  · have o9 : o = 9 := by omega
    have hab' := hab o9
    rw [if_neg o8, if_neg o8, if_neg o8, if_pos o9]
    by_cases b0 : b = 0
    · rw [if_pos b0, l12]
      constructor
      · exact fun h => ⟨0, by omega, by omega, p0.mpr h.symm⟩
      · rintro ⟨q, _, h2, h3⟩
        have : q = 0 := by omega
        subst this
        exact (p0.mp h3).symm
    · rw [if_neg b0]
      by_cases h11 : a = 1 ∧ b = 1
      · rw [if_pos h11]
        constructor
        · exact fun h => ⟨1, by omega, by omega, p1.mpr h⟩
        · rintro ⟨q, h1, h2, h3⟩
          have : q = 1 := by omega
          subst this
          exact p1.mp h3
      · rw [if_neg h11]
        exact Iff.rfl
theorem yg_or (b n : Nat) (hn : n ≤ 40) (hb : b + 41 + n < 779) (A B : qe_M) (hrA : qe_row yen b n A) (hrB : qe_row yen (b + 41) n B) (post : SY → Prop) (hp : ∀ en' : Nat → Int64, qe_row en' b n (fun i e => A i e ∨ B i e) → (∀ j, j < b → en' j = yen j) → post (ywa, ydd, ynd, yns, yma, ynt, yno, yrc, yfo, ybl, yod, ywr, yan, yab, yac, yad, yal, yabl, yacl, yacf, ynu, yfi, ypa, ysz, yli, ytx, yki, yf1, yf2, yo, yoa, yob, yit, yss, ymo, yst, ymy, ycl, yrw, yow, en', yhi, yla)) :
  ∃ N : Nat, wY_work_80 post (nI b) (nI n) (nI (b + 41)) ywa ydd ynd yns yma ynt yno yrc yfo ybl yod ywr N 0 yan yab yac yad yal yabl yacl yacf ynu yfi ypa ysz yli ytx yki yf1 yf2 yo yoa yob yit yss ymo yst ymy ycl yrw yow yen yhi yla := by
  have key : ∀ (N i : Nat) (en' : Nat → Int64), i ≤ n + 1 → n + 1 - i < N → (∀ j, j < i → qe_b (en' (b + j)) (fun e => A j e ∨ B j e)) → (∀ j, j < b ∨ b + i ≤ j → en' j = yen j) → wY_work_80 post (nI b) (nI n) (nI (b + 41)) ywa ydd ynd yns yma ynt yno yrc yfo ybl yod ywr N (nI i) yan yab yac yad yal yabl yacl yacf ynu yfi ypa ysz yli ytx yki yf1 yf2 yo yoa yob yit yss ymo yst ymy ycl yrw yow en' yhi yla := by
    intro N
    induction N with
    | zero => intro i en' g1 g2; omega
    | succ N ih =>
      intro i en' g1 g2 g3 g4
      have i1 : vp_in (nI b + nI i) 779 := pk_in (b + i) 779 (by omega) (nI_add _ _)
      refine pk_lt n i (fun hlt => hp en' (fun j hj => g3 j (by omega)) (fun j hj => g4 j (Or.inl hj))) (fun hle => ⟨i1, pk_in (b + 41 + i) 779 (by omega) (nI_add _ _), i1, nm_e (nm_r (nI_1 i) ?_)⟩)
      rw [pk_cl (b + i) (nI_add _ _), pk_cl (b + 41 + i) (nI_add _ _)]
      refine ih (i + 1) _ (by omega) (by omega) (fun j hj => ?_) (fun j hj => ?_)
      · by_cases z : j = i
        · subst z
          rw [pk_uLs, g4 (b + j) (by omega), g4 (b + 41 + j) (by omega)]
          intro e he
          rw [qb_or, Bool.or_eq_true, hrA j hle e he, hrB j hle e he]
        · rw [pk_uLn (by omega)]
          exact g3 j (by omega)
      · rw [pk_uLn (by omega)]
        exact g4 j (by omega)
  exact ⟨n + 2, key (n + 2) 0 yen (by omega) (by omega) (fun j hj => absurd hj (by omega)) (fun _ _ => rfl)⟩
/-- work: a leaf -/
theorem yg_wleaf (k b B n o : Nat) (c : Nat → Nat) (hk : k < 40) (hb : b + n < 779) (hn : n ≤ 40) (hB : B + n ≤ 400) (hch : ∀ j, j < n → yan (B + j) = nI (c j)) (hc : ∀ j, j < n → c j < 6) (ho : o < 3 ∨ o = 10 ∨ o = 11 ∨ o = 12) (eo : yo k = nI o)
  (h0 : o = 0 → (yoa k).toNatClampNeg < 6 ∧ yoa k = nI (yoa k).toNatClampNeg) (h2 : o = 2 → yoa k = nI (yoa k).toNatClampNeg) (post : SY → Prop) (hp : ∀ en' : Nat → Int64, qe_row en' b n ((qp_leaf qv_lf o (yoa k).toNatClampNeg).2.2 c n) → (∀ j, j < b → en' j = yen j) → post (ywa, ydd, ynd, yns, yma, ynt, yno, yrc, yfo, ybl, yod, ywr, yan, yab, yac, yad, yal, yabl, yacl, yacf, ynu, yfi, ypa, ysz, yli, ytx, yki, yf1, yf2, yo, yoa, yob, yit, yss, ymo, yst, ymy, ycl, yrw, yow, en', yhi, yla)) : wpY_work post (ywa, ydd, ynd, yns, yma, ynt, yno, yrc, yfo, ybl, yod, ywr, yan, yab, yac, yad, yal, yabl, yacl, yacf, ynu, yfi, ypa, ysz, yli, ytx, yki, yf1, yf2, yo, yoa, yob, yit, yss, ymo, yst, ymy, ycl, yrw, yow, yen, yhi, yla) (nI k) (nI b) (nI B) (nI n) := by
  have go : wY_work_195 post (nI k) (nI b) (nI B) (nI n) ywa ydd ynd yns yma ynt yno yrc yfo ybl yod ywr yan yab yac yad yal yabl yacl yacf ynu yfi ypa ysz yli ytx yki yf1 yf2 yo yoa yob yit yss ymo yst ymy ycl yrw yow yen yhi yla := by
    unfold wY_work_195
    exact yg_leaf k b B n o c hk hb hn hB hch hc ho eo h0 h2 _ (fun en' h1 h2 => hp en' h1 (fun j hj => h2 j (Or.inl hj)))
  unfold wpY_work
  refine And.intro (pk_in k 40 hk) (nm_r (e' := nI o) (by rw [nI_clamp (by omega)]; exact eo) (pk_lt o 6 (fun _ => go) (fun h6 => br_f (nI_nlt (a := 14) (b := o) (by omega) (by omega)) ?_)))
  refine br_f (xe_kne (q := 6) (by omega) (by omega) (by omega)) (br_f (xe_kne (q := 7) (by omega) (by omega) (by omega)) (br_f (xe_kne (q := 8) (by omega) (by omega) (by omega)) (br_f (xe_kne (q := 9) (by omega) (by omega) (by omega)) (pk_eq o 10 (fun _ => go) (fun e10 => pk_eq o 11 (fun _ => go) (fun e11 => br_t (by rw [show o = 12 by omega]; rfl) go))))))
/-- work: a repeat -/
theorem yg_wrep (k b B n o : Nat) (c : Nat → Nat) (hk : k < 40) (hb : b + n < 738) (hn : n ≤ 40) (x : qv_T) (hx : ∀ i e, i ≤ n → x.2.2 c n i e → i ≤ e ∧ e ≤ n) (hr : qe_row yen b n (x.2.2 c n)) (ho : 6 ≤ o ∧ o ≤ 9) (eo : yo k = nI o)
  (h9 : o = 9 → (yoa k).toNatClampNeg ≤ (yob k).toNatClampNeg ∧ (yob k).toNatClampNeg ≤ 3 ∧ yoa k = nI (yoa k).toNatClampNeg ∧ yob k = nI (yob k).toNatClampNeg) (post : SY → Prop) (hp : ∀ en' : Nat → Int64, qe_row en' b n ((qp_rep qv_lf qv_un qv_bi o (yoa k).toNatClampNeg (yob k).toNatClampNeg x).2.2 c n) → (∀ j, j < b → en' j = yen j) → post (ywa, ydd, ynd, yns, yma, ynt, yno, yrc, yfo, ybl, yod, ywr, yan, yab, yac, yad, yal, yabl, yacl, yacf, ynu, yfi, ypa, ysz, yli, ytx, yki, yf1, yf2, yo, yoa, yob, yit, yss, ymo, yst, ymy, ycl, yrw, yow, en', yhi, yla)) : wpY_work post (ywa, ydd, ynd, yns, yma, ynt, yno, yrc, yfo, ybl, yod, ywr, yan, yab, yac, yad, yal, yabl, yacl, yacf, ynu, yfi, ypa, ysz, yli, ytx, yki, yf1, yf2, yo, yoa, yob, yit, yss, ymo, yst, ymy, ycl, yrw, yow, yen, yhi, yla) (nI k) (nI b) (nI B) (nI n) := by
  have ck : (nI k).toNatClampNeg = k := nI_clamp (by omega)
  have hin : vp_in (nI k) 40 := pk_in k 40 hk
  unfold wpY_work
  refine And.intro hin (nm_r (e' := nI o) (by rw [ck]; exact eo) (pk_lt o 6 (fun h => by omega) (fun h6 => br_f (nI_nlt (a := 14) (b := o) (by omega) (by omega)) ?_)))
  refine pk_eq o 6 (fun e6 => ?_) (fun e6 => pk_eq o 7 (fun e7 => ?_) (fun e7 => pk_eq o 8 (fun e8 => ?_) (fun e8 => br_t (by rw [show o = 9 by omega]; rfl) ⟨hin, hin, ?_⟩)))
  · refine yg_star b n hn (by omega) _ hx hr _ _ rfl rfl _ (fun en' r k' => hp en' ?_ (fun j hj => k' j (Or.inl hj)))
    subst e6
    exact r
  · refine yg_copy b 738 n hn (by omega) (by omega) hb _ hr _ _ _ rfl rfl rfl _ (fun en1 r1 k1 => ?_)
    refine yg_star 738 n hn (by omega) _ hx r1 _ _ rfl rfl _ (fun en2 r2 k2 => ?_)
    have hr2 : qe_row en2 b n (x.2.2 c n) := qe_row_kp k2 (by omega) (qe_row_kp k1 (by omega) hr)
    refine yg_follow b 738 n 0 hn (by omega) (by omega) hb (by omega) _ _ hx hr2 r2 _ _ _ _ rfl rfl rfl rfl _ (fun en3 r3 k3 => hp en3 (fun i hi e he => ?_) (fun j hj => (k3 j (Or.inl hj)).trans ((k2 j (by omega)).trans (k1 j (by omega)))))
    rw [r3 i hi e he]
    subst e7
    show _ ↔ ∃ m, x.2.2 c n i m ∧ qe_star (x.2.2 c n) m e
    unfold qe_fw
    constructor
    · rintro (g | g)
      · exact absurd rfl g.1
      · exact g
    · exact Or.inr
  · refine yg_times b n 0 1 hn hb (by omega) (by omega) _ hx hr _ _ _ _ rfl rfl rfl rfl _ (fun en' r k' => hp en' (fun i hi e he => ?_) k')
    rw [r i hi e he, qe_repM o _ _ x c n (Or.inl e8) (fun h => by omega) i e, if_pos e8, if_pos e8]
  · have e9 : o = 9 := by omega
    obtain ⟨hab, hb3, ea, eb⟩ := h9 e9
    rw [ck]
    refine yg_times b n (yoa k).toNatClampNeg (yob k).toNatClampNeg hn hb hab hb3 _ hx hr _ _ _ _ rfl rfl ea eb _ (fun en' r k' => hp en' (fun i hi e he => ?_) k')
    rw [r i hi e he, qe_repM o _ _ x c n (Or.inr e9) (fun _ => hab) i e, if_neg e8, if_neg e8]
/-- work: a seq, an alt -/
theorem yg_wbi (k b B n o : Nat) (c : Nat → Nat) (hk : k < 40) (hb : b + 41 + n < 779) (hn : n ≤ 40) (x y : qv_T) (hx : ∀ i e, i ≤ n → x.2.2 c n i e → i ≤ e ∧ e ≤ n) (hrx : qe_row yen b n (x.2.2 c n)) (hry : qe_row yen (b + 41) n (y.2.2 c n)) (ho : o = 13 ∨ o = 14) (eo : yo k = nI o)
  (post : SY → Prop) (hp : ∀ en' : Nat → Int64, qe_row en' b n ((qv_bi (if o = 13 then 13 else 5) x y).2.2 c n) → (∀ j, j < b → en' j = yen j) → post (ywa, ydd, ynd, yns, yma, ynt, yno, yrc, yfo, ybl, yod, ywr, yan, yab, yac, yad, yal, yabl, yacl, yacf, ynu, yfi, ypa, ysz, yli, ytx, yki, yf1, yf2, yo, yoa, yob, yit, yss, ymo, yst, ymy, ycl, yrw, yow, en', yhi, yla)) : wpY_work post (ywa, ydd, ynd, yns, yma, ynt, yno, yrc, yfo, ybl, yod, ywr, yan, yab, yac, yad, yal, yabl, yacl, yacf, ynu, yfi, ypa, ysz, yli, ytx, yki, yf1, yf2, yo, yoa, yob, yit, yss, ymo, yst, ymy, ycl, yrw, yow, yen, yhi, yla) (nI k) (nI b) (nI B) (nI n) := by
  have ck : (nI k).toNatClampNeg = k := nI_clamp (by omega)
  have e41 : nI b + 41 = nI (b + 41) := nI_add b 41
  unfold wpY_work
  refine And.intro (pk_in k 40 hk) (nm_r (e' := nI o) (by rw [ck]; exact eo) (pk_lt o 6 (fun h => by omega) (fun h6 => br_f (nI_nlt (a := 14) (b := o) (by omega) (by omega)) ?_)))
  refine br_f (xe_kne (q := 6) (by omega) (by omega) (by omega)) (br_f (xe_kne (q := 7) (by omega) (by omega) (by omega)) (br_f (xe_kne (q := 8) (by omega) (by omega) (by omega)) (br_f (xe_kne (q := 9) (by omega) (by omega) (by omega)) (br_f (xe_kne (q := 10) (by omega) (by omega) (by omega)) (br_f (xe_kne (q := 11) (by omega) (by omega) (by omega)) (br_f (xe_kne (q := 12) (by omega) (by omega) (by omega)) ?_))))))
  refine pk_eq o 13 (fun e13 => ?_) (fun e13 => br_t (by rw [show o = 14 by omega]; rfl) (nm_r e41 ?_))
  · rw [if_pos e13] at hp
    refine yg_follow b (b + 41) n 0 hn (by omega) (by omega) (by omega) (by omega) _ _ hx hrx hry _ _ _ _ rfl e41 rfl rfl _ (fun en3 r3 k3 => hp en3 (fun i hi e he => ?_) (fun j hj => k3 j (Or.inl hj)))
    rw [r3 i hi e he]
    show _ ↔ ∃ m, x.2.2 c n i m ∧ y.2.2 c n m e
    unfold qe_fw
    constructor
    · rintro (g | g)
      · exact absurd rfl g.1
      · exact g
    · exact Or.inr
  · rw [if_neg e13] at hp
    exact yg_or b n hn hb _ _ hrx hry post (fun en' r k' => hp en' r k')
theorem yg_line1 (n k0 B : Nat) (c : Nat → Nat) (hk0 : k0 ≤ 33) (hno : yno = nI k0) (hn : n ≤ 40) (hB : B + n ≤ 400) (hch : ∀ j, j < n → yan (B + j) = nI (c j)) (hc : ∀ j, j < n → c j < 6) (root : qv_T) (P : Prop) (hO : qp_YO qv_lf qv_un qv_bi qv_big yo yoa yob k0 [root] P) (x1 x2 : Int32) (post : SY → Prop)
  (hp : ∀ en' : Nat → Int64, qe_row en' 0 n (root.2.2 c n) → ∃ N : Nat, wY_line_56 post x1 x2 (nI n) ywa ydd ynd yns yma ynt yno yrc ybl yod ywr N 0 yfo yan yab yac yad yal yabl yacl yacf ynu yfi ypa ysz yli ytx yki yf1 yf2 yo yoa yob yit yss ymo yst ymy ycl yrw yow en' yhi yla) :
  ∀ (N k : Nat) (en' : Nat → Int64), k ≤ k0 → k0 - k < N → qz_sl (fun p v => qe_row en' (41 * p) n (v.2.2 c n)) (qz_R qv_lf qv_un qv_bi yo yoa yob k) → wY_line_6 post x1 x2 (nI B) (nI n) N (nI (qz_R qv_lf qv_un qv_bi yo yoa yob k).length) (nI k) ywa ydd ynd yns yma ynt yno yrc yfo ybl yod ywr yan yab yac yad yal yabl yacl yacf ynu yfi ypa ysz yli ytx yki yf1 yf2 yo yoa yob yit yss ymo yst ymy ycl yrw yow en' yhi yla := by
  intro N
  subst hno
  induction N with
  | zero => intro k en' h2 h3; omega
  | succ N ih =>
    intro k en' h2 h3 h4
    have hall := qz_ok hO k h2
    refine pk_le k0 k (fun hle => ?_) (fun hlt => ?_)
    · have e : k = k0 := by omega
      subst e
      have er : qz_R qv_lf qv_un qv_bi yo yoa yob k = [root] := hO.1
      rw [er] at h4
      exact hp en' h4.1
    · have ck : (nI k).toNatClampNeg = k := nI_clamp (by omega)
      obtain ⟨o, eo, hc', hl1, hl0⟩ := qz_step qv_lf qv_un qv_bi qv_big hO hlt
      have ho : o < 15 := by rcases hc' with h | h | h | h <;> omega
      have e41 : ∀ p : Nat, (41 : Int32) * nI (p + 1) - 41 = nI (41 * p) := fun p => by
        rw [show (41 : Int32) = nI 41 from rfl, pk_mul, pk_sub (by omega)]
        congr 1
      have fin : ∀ (v : qv_T) (s : List qv_T) (en2 : Nat → Int64), qz_R qv_lf qv_un qv_bi yo yoa yob (k + 1) = v :: s → qz_sl (fun p v => qe_row en' (41 * p) n (v.2.2 c n)) s → qe_row en2 (41 * s.length) n (v.2.2 c n) → (∀ j, j < 41 * s.length → en2 j = en' j) → wY_line_6 post x1 x2 (nI B) (nI n) N (nI (s.length + 1)) (nI (k + 1)) ywa ydd ynd yns yma ynt (nI k0) yrc yfo ybl yod ywr yan yab yac yad yal yabl yacl yacf ynu yfi ypa ysz yli ytx yki yf1 yf2 yo yoa yob yit yss ymo yst ymy ycl yrw yow en2 yhi yla := by
        intro v s en2 er hs hv hkp
        have := ih (k + 1) en2 (by omega) (by omega) (by
          rw [er]
          refine ⟨hv, qz_sl_cg (fun p w hp h i hi => ?_) hs⟩
          have h' : qe_row en' (41 * p) n (w.2.2 c n) := h
          rw [hkp (41 * p + i) (by omega)]
          exact h' i hi)
        rw [er, List.length_cons] at this
        exact this
      refine ⟨pk_in k 40 (by omega), ?_⟩
      rw [ck, eo]
      refine yz_gr o ho _ (fun hg => ?_) (fun hg => ?_) (fun hg => ?_)
      · -- a leaf
        refine nm_r (nI_1 _) ?_
        rw [e41]
        rcases hc' with ⟨hk, hk0, hk2, er⟩ | ⟨hk, er⟩ | ⟨hk, _⟩ | ⟨hk, _⟩
        · rw [er, List.length_cons] at hl1
          refine yg_wleaf k _ B n o c (by omega) (by omega) hn hB hch hc (by omega) eo hk0 (fun h => (hk2 h).2) _ (fun en2 r2 k2 => nm_r (nI_1 k) (fin _ _ en2 er h4 r2 k2))
        · rw [er, List.length_cons] at hl1
          refine yg_wleaf k _ B n o c (by omega) (by omega) hn hB hch hc (by omega) eo (fun h => by omega) (fun h => by omega) _ (fun en2 r2 k2 => nm_r (nI_1 k) (fin _ _ en2 er h4 ?_ k2))
          subst hk
          exact r2
        · omega
        · omega
      · -- a repeat
        rcases hc' with ⟨hk, _⟩ | ⟨hk, _⟩ | ⟨hk, h9, x, s, e0, er⟩ | ⟨hk, _⟩
        · omega
        · omega
        · rw [e0] at h4 hl0 hall ⊢
          rw [List.length_cons] at hl0 ⊢
          obtain ⟨hx, hs⟩ := h4
          have ox := hall x List.mem_cons_self
          refine nm_r (e' := nI (s.length + 1)) (by grind) ?_
          rw [e41]
          refine yg_wrep k _ B n o c (by omega) (by omega) hn x (fun i e hi h => qv_in ox hc hi h) hx hk eo h9 _ (fun en2 r2 k2 => nm_r (nI_1 k) (fin _ _ en2 er hs r2 k2))
        · omega
      · -- a seq, an alt
        rcases hc' with ⟨hk, _⟩ | ⟨hk, _⟩ | ⟨hk, _⟩ | ⟨hk, y, x, s, e0, er⟩
        · omega
        · omega
        · omega
        · rw [e0] at h4 hl0 hall ⊢
          rw [List.length_cons, List.length_cons] at hl0 ⊢
          obtain ⟨hy, hx, hs⟩ := h4
          rw [List.length_cons, show 41 * (s.length + 1) = 41 * s.length + 41 by omega] at hy
          have ox := hall x (List.mem_cons_of_mem _ List.mem_cons_self)
          refine nm_r (pk_m1 _) ?_
          rw [e41]
          refine yg_wbi k _ B n o c (by omega) (by omega) hn x y (fun i e hi h => qv_in ox hc hi h) hx hy hk eo _ (fun en2 r2 k2 => nm_r (nI_1 k) (fin _ _ en2 er hs r2 k2))
end
