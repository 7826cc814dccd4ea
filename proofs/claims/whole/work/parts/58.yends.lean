/-! the reference: where the pieces of a line end -/
def qe_row (en : Nat → Int64) (b n : Nat) (M : qe_M) : Prop := ∀ i, i ≤ n → qe_b (en (b + i)) (M i)
def qe_kp (b n : Nat) (en en' : Nat → Int64) : Prop := ∀ j, j < b ∨ b + n < j → en' j = en j
theorem qe_row_kp {b n b' n' : Nat} {en en' : Nat → Int64} {M : qe_M} (h : qe_kp b n en en') (hd : b' + n' < b ∨ b + n < b') (hr : qe_row en b' n' M) : qe_row en' b' n' M := by
  intro i hi
  rw [h (b' + i) (by omega)]
  exact hr i hi
theorem qe_kp_tr {b n : Nat} {en en' en'' : Nat → Int64} (h : qe_kp b n en en') (h' : qe_kp b n en' en'') : qe_kp b n en en'' := fun j hj => (h' j hj).trans (h j hj)
section
variable {ywa ydd ynd yns yma ynt yno yrc yfo ybl yod ywr : Int32} {yan yab yac yad yal yabl yacl yacf ynu yfi ypa ysz yli ytx yki yf1 yf2 yo yoa yob yit yss ymo yst ymy ycl yrw yow yhi yla : Nat → Int32} {yen : Nat → Int64}
theorem yg_copy (b1 b2 n : Nat) (hn : n ≤ 40) (h1 : b1 + n < 779) (h2 : b2 + n < 779) (hd : b1 + n < b2) (M : qe_M) (hr : qe_row yen b1 n M) (x1 x2 x3 : Int32) (e1 : x1 = nI b1) (e2 : x2 = nI b2) (e3 : x3 = nI n) (post : SY → Prop) (hp : ∀ en' : Nat → Int64, qe_row en' b2 n M → qe_kp b2 n yen en' → post (ywa, ydd, ynd, yns, yma, ynt, yno, yrc, yfo, ybl, yod, ywr, yan, yab, yac, yad, yal, yabl, yacl, yacf, ynu, yfi, ypa, ysz, yli, ytx, yki, yf1, yf2, yo, yoa, yob, yit, yss, ymo, yst, ymy, ycl, yrw, yow, en', yhi, yla)) : wpY_copy post (ywa, ydd, ynd, yns, yma, ynt, yno, yrc, yfo, ybl, yod, ywr, yan, yab, yac, yad, yal, yabl, yacl, yacf, ynu, yfi, ypa, ysz, yli, ytx, yki, yf1, yf2, yo, yoa, yob, yit, yss, ymo, yst, ymy, ycl, yrw, yow, yen, yhi, yla) x1 x2 x3 := by
  subst e1; subst e2; subst e3
  have key : ∀ (N i : Nat) (en' : Nat → Int64), i ≤ n + 1 → n + 1 - i < N → (∀ j, j < i → qe_b (en' (b2 + j)) (M j)) → qe_kp b2 n yen en' → wY_copy_3 post (nI b1) (nI b2) (nI n) ywa ydd ynd yns yma ynt yno yrc yfo ybl yod ywr N (nI i) yan yab yac yad yal yabl yacl yacf ynu yfi ypa ysz yli ytx yki yf1 yf2 yo yoa yob yit yss ymo yst ymy ycl yrw yow en' yhi yla := by
    intro N
    induction N with
    | zero => intro i en' g1 g2; omega
    | succ N ih =>
      intro i en' g1 g2 g3 g4
      refine pk_lt n i (fun hlt => hp en' (fun j hj => g3 j (by omega)) g4) (fun hle => ⟨pk_in (b1 + i) 779 (by omega) (nI_add _ _), pk_in (b2 + i) 779 (by omega) (nI_add _ _), nm_e (nm_r (nI_1 i) ?_)⟩)
      rw [pk_cl (b1 + i) (nI_add _ _), pk_cl (b2 + i) (nI_add _ _)]
      refine ih (i + 1) _ (by omega) (by omega) (fun j hj => ?_) (fun j hj => ?_)
      · by_cases z : j = i
        · subst z
          rw [pk_uLs, g4 (b1 + j) (by omega)]
          exact hr j (by omega)
        · rw [pk_uLn (by omega)]
          exact g3 j (by omega)
      · rw [pk_uLn (by omega)]
        exact g4 j hj
  exact ⟨n + 2, key (n + 2) 0 yen (by omega) (by omega) (fun j hj => absurd hj (by omega)) (fun _ _ => rfl)⟩
def qe_fw (keep : Nat) (A B : qe_M) : qe_M := fun i e => (keep ≠ 0 ∧ A i e) ∨ ∃ m, A i m ∧ B m e
theorem yg_follow (b1 b2 n keep : Nat) (hn : n ≤ 40) (h1 : b1 + n < 779) (h2 : b2 + n < 779) (hd : b1 + n < b2) (hkp : keep ≤ 1) (A B : qe_M) (hA : ∀ i e, i ≤ n → A i e → i ≤ e ∧ e ≤ n) (hrA : qe_row yen b1 n A) (hrB : qe_row yen b2 n B) (x1 x2 x3 x4 : Int32) (e1 : x1 = nI b1) (e2 : x2 = nI b2) (e3 : x3 = nI n) (e4 : x4 = nI keep) (post : SY → Prop) (hp : ∀ en' : Nat → Int64, qe_row en' b1 n (qe_fw keep A B) → qe_kp b1 n yen en' → post (ywa, ydd, ynd, yns, yma, ynt, yno, yrc, yfo, ybl, yod, ywr, yan, yab, yac, yad, yal, yabl, yacl, yacf, ynu, yfi, ypa, ysz, yli, ytx, yki, yf1, yf2, yo, yoa, yob, yit, yss, ymo, yst, ymy, ycl, yrw, yow, en', yhi, yla)) : wpY_follow post (ywa, ydd, ynd, yns, yma, ynt, yno, yrc, yfo, ybl, yod, ywr, yan, yab, yac, yad, yal, yabl, yacl, yacf, ynu, yfi, ypa, ysz, yli, ytx, yki, yf1, yf2, yo, yoa, yob, yit, yss, ymo, yst, ymy, ycl, yrw, yow, yen, yhi, yla) x1 x2 x3 x4 := by
  subst e1; subst e2; subst e3; subst e4
  have inner : ∀ (en' : Nat → Int64) (i : Nat) (J : Int32 → (Nat → Int32) → (Nat → Int32) → (Nat → Int32) → (Nat → Int32) → (Nat → Int32) → (Nat → Int32) → (Nat → Int32) → (Nat → Int32) → (Nat → Int32) → (Nat → Int32) → (Nat → Int32) → (Nat → Int32) → (Nat → Int32) → (Nat → Int32) → (Nat → Int32) → (Nat → Int32) → (Nat → Int32) → (Nat → Int32) → (Nat → Int32) → (Nat → Int32) → (Nat → Int32) → (Nat → Int32) → (Nat → Int32) → (Nat → Int32) → (Nat → Int32) → (Nat → Int32) → (Nat → Int32) → (Nat → Int32) → (Nat → Int64) → (Nat → Int32) → (Nat → Int32) → Prop), i ≤ n → qe_b (en' (b1 + i)) (A i) → qe_row en' b2 n B → (∀ x : Int64, qe_b x (qe_fw keep A B i) → J (nI (i + 1)) yan yab yac yad yal yabl yacl yacf ynu yfi ypa ysz yli ytx yki yf1 yf2 yo yoa yob yit yss ymo yst ymy ycl yrw yow (vp_updL en' (b1 + i) x) yhi yla) → ∀ (N j : Nat) (x6 : Int64), i ≤ j → j ≤ n + 1 → n + 1 - j < N → qe_b x6 (fun e => (keep ≠ 0 ∧ A i e) ∨ ∃ m, m < j ∧ A i m ∧ B m e) → wY_follow_33 post J (nI b1) (nI b2) (nI n) (nI keep) (nI i) ywa ydd ynd yns yma ynt yno yrc yfo ybl yod ywr yan yab yac yad yal yabl yacl yacf ynu yfi ypa ysz yli ytx yki yf1 yf2 yo yoa yob yit yss ymo yst ymy ycl yrw yow en' yhi yla N x6 (nI j) := by
    intro en' i J hi ha hb hJ N
    induction N with
    | zero => intro j x6 g1 g2 g3; omega
    | succ N ih =>
      intro j x6 g1 g2 g3 g4
      refine pk_lt n j (fun hlt => ⟨pk_in (b1 + i) 779 (by omega) (nI_add _ _), nm_e (nm_r (nI_1 i) ?_)⟩) (fun hle => ⟨pk_in (b1 + i) 779 (by omega) (nI_add _ _), ?_⟩)
      · rw [pk_cl (b1 + i) (nI_add _ _)]
        refine hJ x6 (fun e he => ?_)
        rw [g4 e he]
        unfold qe_fw
        constructor
        · rintro (g | ⟨m, g5, g6, g7⟩)
          · exact Or.inl g
          · exact Or.inr ⟨m, g6, g7⟩
        · rintro (g | ⟨m, g6, g7⟩)
          · exact Or.inl g
          · exact Or.inr ⟨m, by have := hA i m hi g6; omega, g6, g7⟩
      · rw [pk_cl (b1 + i) (nI_add _ _)]
        refine ek_if ((qb_S1 _ j (by omega)).trans (ha j (by omega))) (fun hb1 => ⟨pk_in (b2 + j) 779 (by omega) (nI_add _ _), nm_e (nm_r (nI_1 j) (ih (j + 1) _ (by omega) (by omega) (by omega) (fun e he => ?_)))⟩) (fun hb1 => nm_r (nI_1 j) (ih (j + 1) x6 (by omega) (by omega) (by omega) (fun e he => ?_)))
        · rw [pk_cl (b2 + j) (nI_add _ _), qb_or, Bool.or_eq_true, g4 e he, hb j hle e he]
          constructor
          · rintro ((g | ⟨m, g5, g6, g7⟩) | g)
            · exact Or.inl g
            · exact Or.inr ⟨m, by omega, g6, g7⟩
            · exact Or.inr ⟨j, by omega, hb1, g⟩
          · rintro (g | ⟨m, g5, g6, g7⟩)
            · exact Or.inl (Or.inl g)
            · by_cases z : m = j
              · subst z; exact Or.inr g7
              · exact Or.inl (Or.inr ⟨m, by omega, g6, g7⟩)
        · rw [g4 e he]
          constructor
          · rintro (g | ⟨m, g5, g6, g7⟩)
            · exact Or.inl g
            · exact Or.inr ⟨m, by omega, g6, g7⟩
          · rintro (g | ⟨m, g5, g6, g7⟩)
            · exact Or.inl g
            · by_cases z : m = j
              · subst z; exact absurd g6 hb1
              · exact Or.inr ⟨m, by omega, g6, g7⟩
  have outer : ∀ (N i : Nat) (en' : Nat → Int64), i ≤ n + 1 → n + 1 - i < N → (∀ j, j < i → qe_b (en' (b1 + j)) (qe_fw keep A B j)) → (∀ j, i ≤ j → j ≤ n → en' (b1 + j) = yen (b1 + j)) → qe_kp b1 n yen en' → wY_follow_3 post (nI b1) (nI b2) (nI n) (nI keep) ywa ydd ynd yns yma ynt yno yrc yfo ybl yod ywr N (nI i) yan yab yac yad yal yabl yacl yacf ynu yfi ypa ysz yli ytx yki yf1 yf2 yo yoa yob yit yss ymo yst ymy ycl yrw yow en' yhi yla := by
    intro N
    induction N with
    | zero => intro i en' g1 g2; omega
    | succ N ih =>
      intro i en' g1 g2 g3 g4 g5
      have next : i ≤ n → ∀ x : Int64, qe_b x (qe_fw keep A B i) → wY_follow_3 post (nI b1) (nI b2) (nI n) (nI keep) ywa ydd ynd yns yma ynt yno yrc yfo ybl yod ywr N (nI (i + 1)) yan yab yac yad yal yabl yacl yacf ynu yfi ypa ysz yli ytx yki yf1 yf2 yo yoa yob yit yss ymo yst ymy ycl yrw yow (vp_updL en' (b1 + i) x) yhi yla := by
        intro hi x hx
        refine ih (i + 1) _ (by omega) (by omega) (fun j hj => ?_) (fun j g6 g7 => ?_) (fun j hj => ?_)
        · by_cases z : j = i
          · subst z
            rw [pk_uLs]
            exact hx
          · rw [pk_uLn (by omega)]
            exact g3 j (by omega)
        · rw [pk_uLn (by omega)]
          exact g4 j (by omega) g7
        · rw [pk_uLn (by omega)]
          exact g5 j hj
      refine pk_lt n i (fun hlt => hp en' (fun j hj => g3 j (by omega)) g5) (fun hle => ?_)
      have ha : qe_b (en' (b1 + i)) (A i) := by
        rw [g4 i (by omega) hle]
        exact hrA i hle
      have hb : qe_row en' b2 n B := qe_row_kp g5 (by omega) hrB
      refine pk_eq keep 0 (fun k0 => ⟨n + 2, ?_⟩) (fun k0 => ⟨pk_in (b1 + i) 779 (by omega) (nI_add _ _), nm_e ⟨n + 2, ?_⟩⟩)
      · refine inner en' i _ hle ha hb (next hle) (n + 2) i 0 (by omega) (by omega) (by omega) (fun e he => ?_)
        rw [qb_0]
        refine ⟨fun h => (nomatch h), ?_⟩
        rintro (g | ⟨m, g6, g7, _⟩)
        · exact absurd k0 g.1
        · have := hA i m hle g7
          omega
      · refine inner en' i _ hle ha hb (next hle) (n + 2) i _ (by omega) (by omega) (by omega) (fun e he => ?_)
        rw [pk_cl (b1 + i) (nI_add _ _), ha e he]
        constructor
        · exact fun g => Or.inl ⟨k0, g⟩
        · rintro (g | ⟨m, g6, g7, _⟩)
          · exact g.2
          · have := hA i m hle g7
            omega
  exact ⟨n + 2, outer (n + 2) 0 yen (by omega) (by omega) (fun j hj => absurd hj (by omega)) (fun _ _ _ => rfl) (fun _ _ => rfl)⟩
theorem yg_star (b n : Nat) (hn : n ≤ 40) (h1 : b + n < 779) (A : qe_M) (hA : ∀ i e, i ≤ n → A i e → i ≤ e ∧ e ≤ n) (hrA : qe_row yen b n A) (x1 x2 : Int32) (e1 : x1 = nI b) (e2 : x2 = nI n) (post : SY → Prop) (hp : ∀ en' : Nat → Int64, qe_row en' b n (qe_star A) → qe_kp b n yen en' → post (ywa, ydd, ynd, yns, yma, ynt, yno, yrc, yfo, ybl, yod, ywr, yan, yab, yac, yad, yal, yabl, yacl, yacf, ynu, yfi, ypa, ysz, yli, ytx, yki, yf1, yf2, yo, yoa, yob, yit, yss, ymo, yst, ymy, ycl, yrw, yow, en', yhi, yla)) : wpY_star post (ywa, ydd, ynd, yns, yma, ynt, yno, yrc, yfo, ybl, yod, ywr, yan, yab, yac, yad, yal, yabl, yacl, yacf, ynu, yfi, ypa, ysz, yli, ytx, yki, yf1, yf2, yo, yoa, yob, yit, yss, ymo, yst, ymy, ycl, yrw, yow, yen, yhi, yla) x1 x2 := by
  subst e1; subst e2
  have inner : ∀ (en' : Nat → Int64) (i : Nat) (J : Int32 → (Nat → Int32) → (Nat → Int32) → (Nat → Int32) → (Nat → Int32) → (Nat → Int32) → (Nat → Int32) → (Nat → Int32) → (Nat → Int32) → (Nat → Int32) → (Nat → Int32) → (Nat → Int32) → (Nat → Int32) → (Nat → Int32) → (Nat → Int32) → (Nat → Int32) → (Nat → Int32) → (Nat → Int32) → (Nat → Int32) → (Nat → Int32) → (Nat → Int32) → (Nat → Int32) → (Nat → Int32) → (Nat → Int32) → (Nat → Int32) → (Nat → Int32) → (Nat → Int32) → (Nat → Int32) → (Nat → Int32) → (Nat → Int64) → (Nat → Int32) → (Nat → Int32) → Prop), i ≤ n → qe_b (en' (b + i)) (A i) → (∀ j, i < j → j ≤ n → qe_b (en' (b + j)) (qe_star A j)) → (∀ x : Int64, qe_b x (qe_star A i) → J (nI i + (-1)) yan yab yac yad yal yabl yacl yacf ynu yfi ypa ysz yli ytx yki yf1 yf2 yo yoa yob yit yss ymo yst ymy ycl yrw yow (vp_updL en' (b + i) x) yhi yla) → ∀ (N j : Nat) (x4 : Int64), i < j → j ≤ n + 1 → n + 1 - j < N → qe_b x4 (fun e => e = i ∨ ∃ m, m < j ∧ i < m ∧ A i m ∧ qe_star A m e) → wY_star_16 post J (nI b) (nI n) (nI i) ywa ydd ynd yns yma ynt yno yrc yfo ybl yod ywr yan yab yac yad yal yabl yacl yacf ynu yfi ypa ysz yli ytx yki yf1 yf2 yo yoa yob yit yss ymo yst ymy ycl yrw yow en' yhi yla N x4 (nI j) := by
    intro en' i J hi ha hs hJ N
    induction N with
    | zero => intro j x4 g1 g2 g3; omega
    | succ N ih =>
      intro j x4 g1 g2 g3 g4
      refine pk_lt n j (fun hlt => ⟨pk_in (b + i) 779 (by omega) (nI_add _ _), nm_e (nm_e ?_)⟩) (fun hle => ⟨pk_in (b + i) 779 (by omega) (nI_add _ _), ?_⟩)
      · rw [pk_cl (b + i) (nI_add _ _)]
        refine hJ x4 (fun e he => ?_)
        rw [g4 e he, qe_star_eq]
        constructor
        · rintro (g | ⟨m, g5, g6, g7, g8⟩)
          · exact Or.inl g.symm
          · exact Or.inr ⟨m, g6, g7, g8⟩
        · rintro (g | ⟨m, g6, g7, g8⟩)
          · exact Or.inl g.symm
          · exact Or.inr ⟨m, by have := hA i m hi g7; omega, g6, g7, g8⟩
      · rw [pk_cl (b + i) (nI_add _ _)]
        refine ek_if ((qb_S1 _ j (by omega)).trans (ha j (by omega))) (fun hb1 => ⟨pk_in (b + j) 779 (by omega) (nI_add _ _), nm_e (nm_r (nI_1 j) (ih (j + 1) _ (by omega) (by omega) (by omega) (fun e he => ?_)))⟩) (fun hb1 => nm_r (nI_1 j) (ih (j + 1) x4 (by omega) (by omega) (by omega) (fun e he => ?_)))
        · rw [pk_cl (b + j) (nI_add _ _), qb_or, Bool.or_eq_true, g4 e he, hs j g1 hle e he]
          constructor
          · rintro ((g | ⟨m, g5, g6⟩) | g)
            · exact Or.inl g
            · exact Or.inr ⟨m, by omega, g6⟩
            · exact Or.inr ⟨j, by omega, g1, hb1, g⟩
          · rintro (g | ⟨m, g5, g6, g7, g8⟩)
            · exact Or.inl (Or.inl g)
            · by_cases z : m = j
              · subst z; exact Or.inr g8
              · exact Or.inl (Or.inr ⟨m, by omega, g6, g7, g8⟩)
        · rw [g4 e he]
          constructor
          · rintro (g | ⟨m, g5, g6⟩)
            · exact Or.inl g
            · exact Or.inr ⟨m, by omega, g6⟩
          · rintro (g | ⟨m, g5, g6, g7, g8⟩)
            · exact Or.inl g
            · by_cases z : m = j
              · subst z; exact absurd g7 hb1
              · exact Or.inr ⟨m, by omega, g6, g7, g8⟩
  have outer : ∀ (N k : Nat) (x3 : Int32) (en' : Nat → Int64), k ≤ n + 1 → k < N → x3 = nI k + (-1) → (∀ j, k ≤ j → j ≤ n → qe_b (en' (b + j)) (qe_star A j)) → (∀ j, j < k → en' (b + j) = yen (b + j)) → qe_kp b n yen en' → wY_star_2 post (nI b) (nI n) ywa ydd ynd yns yma ynt yno yrc yfo ybl yod ywr N x3 yan yab yac yad yal yabl yacl yacf ynu yfi ypa ysz yli ytx yki yf1 yf2 yo yoa yob yit yss ymo yst ymy ycl yrw yow en' yhi yla := by
    intro N
    induction N with
    | zero => intro k x3 en' g1 g2; omega
    | succ N ih =>
      intro k x3 en' g1 g2 ex g3 g4 g5
      rcases Nat.eq_zero_or_pos k with z0 | z0
      · subst z0
        subst ex
        exact br_t (by decide) (hp en' (fun j hj => g3 j (by omega) hj) g5)
      · obtain ⟨q, rfl⟩ : ∃ q, k = q + 1 := ⟨k - 1, by omega⟩
        rw [pk_m1] at ex
        subst ex
        refine br_f (nI_nlt (a := q) (b := 0) (Nat.zero_le _) (by omega)) (nm_e (nm_r (nI_1 q) ⟨n + 2, ?_⟩))
        refine inner en' q _ (by omega) (by rw [g4 q (by omega)]; exact hrA q (by omega)) (fun j h1 h2 => g3 j (by omega) h2) (fun x hx => ih q _ _ (by omega) (by omega) rfl (fun j h2 h3 => ?_) (fun j hj => ?_) (fun j hj => ?_)) (n + 2) (q + 1) _ (by omega) (by omega) (by omega) (fun e he => ?_)
        · by_cases z : j = q
          · subst z
            rw [pk_uLs]
            exact hx
          · rw [pk_uLn (by omega)]
            exact g3 j (by omega) h3
        · rw [pk_uLn (by omega)]
          exact g4 j (by omega)
        · rw [pk_uLn (by omega)]
          exact g5 j hj
        · rw [qb_here q (by omega) e he, decide_eq_true_eq]
          refine ⟨Or.inl, ?_⟩
          rintro (g | ⟨m, h2, h3, _⟩)
          · exact g
          · omega
  exact ⟨n + 2, outer (n + 2) (n + 1) _ yen (by omega) (by omega) (pk_m1 n).symm (fun j h2 h3 => by omega) (fun _ _ => rfl) (fun _ _ => rfl)⟩
def qe_bt (A : qe_M) (a k : Nat) : qe_M := fun i e => ∃ q, (a ≤ q ∨ q = k) ∧ q ≤ k ∧ qe_pow A q i e
theorem yg_times (b n lo hi : Nat) (hn : n ≤ 40) (h1 : b + n < 738) (hlh : lo ≤ hi) (hh : hi ≤ 3) (A : qe_M) (hA : ∀ i e, i ≤ n → A i e → i ≤ e ∧ e ≤ n) (hrA : qe_row yen b n A) (x1 x2 x3 x4 : Int32) (e1 : x1 = nI b) (e2 : x2 = nI n) (e3 : x3 = nI lo) (e4 : x4 = nI hi) (post : SY → Prop) (hp : ∀ en' : Nat → Int64, qe_row en' b n (fun i e => ∃ q, lo ≤ q ∧ q ≤ hi ∧ qe_pow A q i e) → (∀ j, j < b → en' j = yen j) → post (ywa, ydd, ynd, yns, yma, ynt, yno, yrc, yfo, ybl, yod, ywr, yan, yab, yac, yad, yal, yabl, yacl, yacf, ynu, yfi, ypa, ysz, yli, ytx, yki, yf1, yf2, yo, yoa, yob, yit, yss, ymo, yst, ymy, ycl, yrw, yow, en', yhi, yla)) : wpY_times post (ywa, ydd, ynd, yns, yma, ynt, yno, yrc, yfo, ybl, yod, ywr, yan, yab, yac, yad, yal, yabl, yacl, yacf, ynu, yfi, ypa, ysz, yli, ytx, yki, yf1, yf2, yo, yoa, yob, yit, yss, ymo, yst, ymy, ycl, yrw, yow, yen, yhi, yla) x1 x2 x3 x4 := by
  subst e1; subst e2; subst e3; subst e4
  unfold wpY_times
  refine yg_copy b 738 n hn (by omega) (by omega) h1 A hrA _ _ _ rfl rfl rfl _ (fun en1 r1 k1 => ?_)
  have rep : ∀ (N k : Nat) (en' : Nat → Int64), k ≤ hi → hi - k < N → qe_row en' b n (qe_bt A lo k) → qe_row en' 738 n A → (∀ j, j < b → en' j = yen j) → wY_times_40 post (nI b) (nI n) (nI lo) (nI hi) N (nI k) ywa ydd ynd yns yma ynt yno yrc yfo ybl yod ywr yan yab yac yad yal yabl yacl yacf ynu yfi ypa ysz yli ytx yki yf1 yf2 yo yoa yob yit yss ymo yst ymy ycl yrw yow en' yhi yla := by
    intro N
    induction N with
    | zero => intro k en' g1 g2; omega
    | succ N ih =>
      intro k en' g1 g2 g3 g4 g5
      have hbt : ∀ i e, i ≤ n → qe_bt A lo k i e → i ≤ e ∧ e ≤ n := fun i e hi ⟨q, _, _, h⟩ => qe_pow_in A n hA q i e hi h
      refine pk_le hi k (fun hle => hp en' (fun i hi' e he => ?_) g5) (fun hlt => pk_lt k lo (fun hkl => ?_) (fun hkl => ?_))
      · rw [g3 i hi' e he]
        constructor
        · rintro ⟨q, g6, g7, g8⟩
          exact ⟨q, by omega, by omega, g8⟩
        · rintro ⟨q, g6, g7, g8⟩
          exact ⟨q, Or.inl g6, by omega, g8⟩
      · unfold wY_times_64
        refine yg_follow b 738 n 0 hn (by omega) (by omega) h1 (by omega) _ A hbt g3 g4 _ _ _ _ rfl rfl rfl rfl _ (fun en2 r2 k2 => nm_r (nI_1 k) (ih (k + 1) en2 (by omega) (by omega) (fun i hi' e he => ?_) (qe_row_kp k2 (by omega) g4) (fun j hj => (k2 j (by omega)).trans (g5 j hj))))
        rw [r2 i hi' e he]
        unfold qe_fw qe_bt
        constructor
        · rintro (g | ⟨m, ⟨q, g6, g7, g8⟩, g9⟩)
          · exact absurd rfl g.1
          · have : q = k := by omega
            subst this
            exact ⟨q + 1, Or.inr rfl, by omega, m, g8, g9⟩
        · rintro ⟨q, g6, g7, g8⟩
          have : q = k + 1 := by omega
          subst this
          obtain ⟨m, g8, g9⟩ := g8
          exact Or.inr ⟨m, ⟨k, Or.inr rfl, by omega, g8⟩, g9⟩
      · unfold wY_times_64
        refine yg_follow b 738 n 1 hn (by omega) (by omega) h1 (by omega) _ A hbt g3 g4 _ _ _ _ rfl rfl rfl rfl _ (fun en2 r2 k2 => nm_r (nI_1 k) (ih (k + 1) en2 (by omega) (by omega) (fun i hi' e he => ?_) (qe_row_kp k2 (by omega) g4) (fun j hj => (k2 j (by omega)).trans (g5 j hj))))
        rw [r2 i hi' e he]
        unfold qe_fw qe_bt
        constructor
        · rintro (⟨_, q, g6, g7, g8⟩ | ⟨m, ⟨q, g6, g7, g8⟩, g9⟩)
          · exact ⟨q, by omega, by omega, g8⟩
          · exact ⟨q + 1, by omega, by omega, m, g8, g9⟩
        · rintro ⟨q, g6, g7, g8⟩
          by_cases z : q ≤ k
          · exact Or.inl ⟨by decide, q, by omega, z, g8⟩
          · have : q = k + 1 := by omega
            subst this
            obtain ⟨m, g8, g9⟩ := g8
            exact Or.inr ⟨m, ⟨k, Or.inr rfl, by omega, g8⟩, g9⟩
  have one : ∀ (N i : Nat) (en' : Nat → Int64), i ≤ n + 1 → n + 1 - i < N → (∀ j, j < i → qe_b (en' (b + j)) (fun e => j = e)) → qe_row en' 738 n A → (∀ j, j < b → en' j = yen j) → wY_times_12 post (nI b) (nI n) (nI lo) (nI hi) ywa ydd ynd yns yma ynt yno yrc yfo ybl yod ywr N (nI i) yan yab yac yad yal yabl yacl yacf ynu yfi ypa ysz yli ytx yki yf1 yf2 yo yoa yob yit yss ymo yst ymy ycl yrw yow en' yhi yla := by
    intro N
    induction N with
    | zero => intro i en' g1 g2; omega
    | succ N ih =>
      intro i en' g1 g2 g3 g4 g5
      refine pk_lt n i (fun hlt => ⟨hi + 1, rep (hi + 1) 0 en' (by omega) (by omega) (fun j hj e he => ?_) g4 g5⟩) (fun hle => ⟨pk_in (b + i) 779 (by omega) (nI_add _ _), nm_e (nm_r (nI_1 i) ?_)⟩)
      · rw [g3 j (by omega) e he]
        unfold qe_bt
        constructor
        · intro g
          exact ⟨0, Or.inr rfl, Nat.le_refl _, g⟩
        · rintro ⟨q, g6, g7, g8⟩
          have : q = 0 := by omega
          subst this
          exact g8
      · rw [pk_cl (b + i) (nI_add _ _)]
        refine ih (i + 1) _ (by omega) (by omega) (fun j hj => ?_) (fun j hj => ?_) (fun j hj => ?_)
        · by_cases z : j = i
          · subst z
            rw [pk_uLs]
            intro e he
            rw [qb_here j (by omega) e he, decide_eq_true_eq]
            exact ⟨Eq.symm, Eq.symm⟩
          · rw [pk_uLn (by omega)]
            exact g3 j (by omega)
        · rw [pk_uLn (by omega)]
          exact g4 j hj
        · rw [pk_uLn (by omega)]
          exact g5 j hj
  exact ⟨n + 2, one (n + 2) 0 en1 (by omega) (by omega) (fun j hj => absurd hj (by omega)) r1 (fun j hj => k1 j (by omega))⟩
end
