/-! the reference: having, document, at, state -/
theorem yr_b01 (m : Int32) {f : Nat} (hf : f < 32) : ((m >>> (nI f &&& 31)) &&& 1) = nI (if bt m f = true then 1 else 0) := by
  by_cases z : bt m f = true
  · rw [if_pos z]; exact (qb_s1 m f hf).mpr z
  · rw [if_neg z]; exact (qb_s0 m f hf).mpr (by simpa using z)
theorem yr_div {k : Nat} (hk : k < 100000) : nI k / 40 = nI (k / 40) := pk_div (d := 40) (by omega) (by omega) (by omega)
theorem yr_rem {k : Nat} (hk : k < 100000) : nI k - nI k / 40 * 40 = nI (k % 40) := pk_rem (d := 40) (by omega) (by omega) (by omega)
def qy_ow (now : Nat → qf_X) (k : Nat) (ow : Nat → Int32) : Prop := ∀ c, c < 216 → ∀ f, f < 10 → (bt (ow c) f = true ↔ ∃ t, now f = some t ∧ qt_any t (min 40 (k - 40 * f)) c = true)
def qy_own (now : Nat → qf_X) (ow : Nat → Int32) : Prop := ∀ c, c < 216 → ∀ f, f < 10 → (bt (ow c) f = true ↔ ∃ t, now f = some t ∧ qt_any t t.length c = true)
section
variable {ywa ydd ynd yns yma ynt yno yrc yfo ybl yod ywr : Int32} {yan yab yac yad yal yabl yacl yacf ynu yfi ypa ysz yli ytx yki yf1 yf2 yo yoa yob yit yss ymo yst ymy ycl yrw yow yhi yla : Nat → Int32} {yen : Nat → Int64}
theorem yr_inm (x : Int32) (n : Nat) (hn : n < 2 ^ 31) (xh : Int32) (eh : xh = nI n - 1) (post : Int32 → Prop) (h0 : (∀ j, j < n → x ≠ nI j) → post 0) (h1 : ∀ j, j < n → x = nI j → post 1) : wpY_in post x 0 xh := by
  subst eh
  by_cases z : n = 0
  · subst z
    have hh := h0 (fun j hj => absurd hj (by omega))
    refine br_c (fun _ => hh) (fun a => br_t ?_ hh)
    obtain ⟨j, hj, rfl⟩ := nI_of a
    have e : nI 0 - 1 = (-1 : Int32) := by decide
    rw [e, Int32.lt_iff_toInt_lt, nI_toInt hj]
    have : (-1 : Int32).toInt = -1 := by decide
    omega
  · have e : nI n - 1 = nI (n - 1) := pk_sub (b := 1) (by omega)
    exact ys_in x 0 (n - 1) (by omega) (by omega) 0 _ rfl e post (fun h => h0 (fun j hj => h j (by omega) (by omega))) (fun j _ hj => h1 j (by omega))
theorem yr_list1 (now : Nat → qf_X) (hno : ∀ f, f < 10 → qf_o (now f)) (hs : ∀ f, f < 10 → qx_slot yan yal f (now f)) (post : SY → Prop) (hp : ∀ ow : Nat → Int32, qy_own now ow → post (ywa, ydd, ynd, yns, yma, ynt, yno, yrc, yfo, ybl, yod, ywr, yan, yab, yac, yad, yal, yabl, yacl, yacf, ynu, yfi, ypa, ysz, yli, ytx, yki, yf1, yf2, yo, yoa, yob, yit, yss, ymo, yst, ymy, ycl, yrw, ow, yen, yhi, yla)) :
  ∀ (n k : Nat) (ow : Nat → Int32), k ≤ 400 → 400 - k < n → qy_ow now k ow → wY_list_24 post ywa ydd ynd yns yma ynt yno yrc yfo ybl yod ywr n (nI k) yan yab yac yad yal yabl yacl yacf ynu yfi ypa ysz yli ytx yki yf1 yf2 yo yoa yob yit yss ymo yst ymy ycl yrw ow yen yhi yla := by
  intro n
  induction n with
  | zero => intro k ow h1 h2; omega
  | succ n ih =>
    intro k ow h1 h2 h3
    refine pk_le 400 k (fun hle => ?_) (fun hlt => ?_)
    · refine hp ow (fun c hc f hf => ?_)
      rw [h3 c hc f hf]
      constructor
      · rintro ⟨t, e, h⟩
        have ht := (hno f hf t e).1
        rw [qt_any_all (by omega)] at h
        exact ⟨t, e, h⟩
      · rintro ⟨t, e, h⟩
        have ht := (hno f hf t e).1
        refine ⟨t, e, ?_⟩
        rw [qt_any_all (by omega)]
        exact h
    · have hd : k / 40 < 10 := by omega
      have hi : k % 40 < 40 := by omega
      have keep : (∀ c, c < 216 → ∀ t, now (k / 40) = some t → qt_g t (k % 40) ≠ some c) → qy_ow now (k + 1) ow := by
        intro hn c hc f hf
        rw [h3 c hc f hf]
        by_cases z : f = k / 40
        · subst z
          have e1 : min 40 (k - 40 * (k / 40)) = k % 40 := by omega
          have e2 : min 40 (k + 1 - 40 * (k / 40)) = k % 40 + 1 := by omega
          rw [e1, e2]
          constructor
          · rintro ⟨t, e, h⟩
            exact ⟨t, e, by rw [qt_any_s, h]; rfl⟩
          · rintro ⟨t, e, h⟩
            refine ⟨t, e, ?_⟩
            rw [qt_any_s, Bool.or_eq_true] at h
            rcases h with h | h
            · exact h
            · exact absurd (by simpa using h) (hn c hc t e)
        · have e1 : min 40 (k - 40 * f) = min 40 (k + 1 - 40 * f) := by omega
          rw [e1]
      refine ⟨by decide, by decide, ?_⟩
      refine yl_trN (k / 40) (k % 40) hd (by omega) (now (k / 40)) (hno _ hd) (hs _ hd) _ _ (yr_div (by omega)) (yr_rem (by omega)) _ ?_
      unfold qt_6o
      cases hnf : now (k / 40) with
      | none =>
        dsimp only
        exact br_t (by decide) (nm_r (nI_1 k) (ih (k + 1) ow (by omega) (by omega) (keep (fun c hc t e => by rw [hnf] at e; exact nomatch e))))
      | some t =>
        dsimp only
        unfold qt_6
        cases hg : qt_g t (k % 40) with
        | none =>
          dsimp only
          exact br_t (by decide) (nm_r (nI_1 k) (ih (k + 1) ow (by omega) (by omega) (keep (fun c hc t' e => by rw [hnf] at e; cases e; rw [hg]; exact fun z => nomatch z))))
        | some c =>
          dsimp only
          have hc := (qt_g_lt hg).1
          have hic : vp_in (nI c) 216 := pk_in c 216 hc
          refine br_f (nI_pos (by omega)) ⟨hic, by decide, hic, nm_e (nm_r (nI_1 k) ?_)⟩
          rw [nI_clamp (by omega), yr_div (by omega)]
          refine ih (k + 1) _ (by omega) (by omega) ?_
          intro c' hc' f hf
          by_cases z : c' = c
          · subst z
            rw [pk_us, b_or, qb_h32 _ (by omega) f (by omega), Bool.or_eq_true, h3 c' hc' f hf, decide_eq_true_eq]
            by_cases y : f = k / 40
            · subst y
              have e2 : min 40 (k + 1 - 40 * (k / 40)) = k % 40 + 1 := by omega
              rw [e2]
              constructor
              · intro _
                exact ⟨t, hnf, by rw [qt_any_s, hg]; simp⟩
              · intro _; exact Or.inr rfl
            · have e1 : min 40 (k + 1 - 40 * f) = min 40 (k - 40 * f) := by omega
              rw [e1]
              constructor
              · rintro (h | h)
                · exact h
                · exact absurd h y
              · exact Or.inl
          · rw [pk_un z, h3 c' hc' f hf]
            by_cases y : f = k / 40
            · subst y
              have e1 : min 40 (k - 40 * (k / 40)) = k % 40 := by omega
              have e2 : min 40 (k + 1 - 40 * (k / 40)) = k % 40 + 1 := by omega
              rw [e1, e2]
              constructor
              · rintro ⟨t', e, h⟩
                exact ⟨t', e, by rw [qt_any_s, h]; rfl⟩
              · rintro ⟨t', e, h⟩
                refine ⟨t', e, ?_⟩
                rw [hnf] at e
                cases e
                rw [qt_any_s, hg, Bool.or_eq_true] at h
                rcases h with h | h
                · exact h
                · have : c = c' := by simpa using h
                  exact absurd this.symm z
            · have e1 : min 40 (k + 1 - 40 * f) = min 40 (k - 40 * f) := by omega
              rw [e1]
theorem yr_list0 (post : SY → Prop) (hp : ∀ ow : Nat → Int32, (∀ j, j < 216 → ow j = 0) → ∃ n : Nat, wY_list_24 post ywa ydd ynd yns yma ynt yno yrc yfo ybl yod ywr n 0 yan yab yac yad yal yabl yacl yacf ynu yfi ypa ysz yli ytx yki yf1 yf2 yo yoa yob yit yss ymo yst ymy ycl yrw ow yen yhi yla) :
  ∀ (n i : Nat) (ow : Nat → Int32), i ≤ 216 → 216 - i < n → (∀ j, j < i → ow j = 0) → wY_list_2 post ywa ydd ynd yns yma ynt yno yrc yfo ybl yod ywr n (nI i) yan yab yac yad yal yabl yacl yacf ynu yfi ypa ysz yli ytx yki yf1 yf2 yo yoa yob yit yss ymo yst ymy ycl yrw ow yen yhi yla := by
  intro n
  induction n with
  | zero => intro i hd h1 h2; omega
  | succ n ih =>
    intro i hd h1 h2 h3
    refine pk_le 216 i (fun hle => hp hd (fun j hj => h3 j (by omega))) (fun hlt => ?_)
    have ci : (nI i).toNatClampNeg = i := nI_clamp (by omega)
    refine ⟨pk_in i 216 hlt, nm_e (nm_r (nI_1 i) ?_)⟩
    rw [ci]
    refine ih (i + 1) _ (by omega) (by omega) (fun j hj => ?_)
    by_cases z : j = i
    · subst z; exact pk_us
    · exact (pk_un z).trans (h3 j (by omega))
theorem yr_list (now : Nat → qf_X) (hno : ∀ f, f < 10 → qf_o (now f)) (hs : ∀ f, f < 10 → qx_slot yan yal f (now f)) (post : SY → Prop) (hp : ∀ ow : Nat → Int32, qy_own now ow → post (ywa, ydd, ynd, yns, yma, ynt, yno, yrc, yfo, ybl, yod, ywr, yan, yab, yac, yad, yal, yabl, yacl, yacf, ynu, yfi, ypa, ysz, yli, ytx, yki, yf1, yf2, yo, yoa, yob, yit, yss, ymo, yst, ymy, ycl, yrw, ow, yen, yhi, yla)) : wpY_list post (ywa, ydd, ynd, yns, yma, ynt, yno, yrc, yfo, ybl, yod, ywr, yan, yab, yac, yad, yal, yabl, yacl, yacf, ynu, yfi, ypa, ysz, yli, ytx, yki, yf1, yf2, yo, yoa, yob, yit, yss, ymo, yst, ymy, ycl, yrw, yow, yen, yhi, yla) := by
  refine ⟨217, yr_list0 post ?_ 217 0 yow (by omega) (by omega) (fun j hj => absurd hj (by omega))⟩
  intro ow h0
  refine ⟨401, yr_list1 now hno hs post hp 401 0 ow (by omega) (by omega) ?_⟩
  intro c hc f hf
  rw [h0 c hc, b_0]
  constructor
  · exact fun z => nomatch z
  · rintro ⟨t, _, h⟩
    rw [Nat.zero_sub, Nat.min_zero] at h
    exact nomatch h
theorem yr_hav1 (now : Nat → qf_X) (c a b d : Nat) (hc : c < 216) (e : ((36 : Int32) * nI a + 6 * nI b) + nI d = nI c) (how : qy_own now yow) (post : Int32 → SY → Prop) (hp : post (nI (qn_hv now c 10)) (ywa, ydd, ynd, yns, yma, ynt, yno, yrc, yfo, ybl, yod, ywr, yan, yab, yac, yad, yal, yabl, yacl, yacf, ynu, yfi, ypa, ysz, yli, ytx, yki, yf1, yf2, yo, yoa, yob, yit, yss, ymo, yst, ymy, ycl, yrw, yow, yen, yhi, yla)) :
  ∀ (n f : Nat), f ≤ 10 → 10 - f < n → wY_having_39 post (nI a) (nI b) (nI d) ywa ydd ynd yns yma ynt yno yrc yfo ybl yod ywr yan yab yac yad yal yabl yacl yacf ynu yfi ypa ysz yli ytx yki yf1 yf2 yo yoa yob yit yss ymo yst ymy ycl yrw yow yen yhi yla n (nI (qn_hv now c f)) (nI f) := by
  intro n
  induction n with
  | zero => intro f h1 h2; omega
  | succ n ih =>
    intro f h1 h2
    refine pk_le 10 f (fun hle => ?_) (fun hlt => ?_)
    · have e : f = 10 := by omega
      subst e
      exact hp
    · refine ⟨pk_in c 216 hc e, ?_⟩
      rw [e, nI_clamp (by omega), yr_b01 _ (by omega)]
      have := ih (f + 1) (by omega) (by omega)
      have e3 : qn_hv now c (f + 1) = qn_hv now c f + (if bt (yow c) f = true then 1 else 0) := by
        show qn_hv now c f + _ = _
        congr 1
        have hq := how c hc f hlt
        cases hnf : now f with
        | none =>
          dsimp only
          rw [if_neg]
          intro z
          obtain ⟨t, et, _⟩ := hq.mp z
          rw [hnf] at et
          exact nomatch et
        | some t =>
          dsimp only
          by_cases z : qt_any t t.length c = true
          · rw [if_pos z, if_pos (hq.mpr ⟨t, hnf, z⟩)]
          · rw [if_neg z, if_neg]
            intro y
            obtain ⟨t', et, h⟩ := hq.mp y
            rw [hnf] at et
            cases et
            exact z h
      rw [e3] at this
      exact nm_r (nI_add _ _) (nm_r (nI_1 f) this)
theorem yr_having (now : Nat → qf_X) (hno : ∀ f, f < 10 → qf_o (now f)) (hs : ∀ f, f < 10 → qx_slot yan yal f (now f)) (p0 p1 p2 : Int32) (post : Int32 → SY → Prop)
  (h0 : (¬ ∃ a b c, a < 6 ∧ b < 6 ∧ c < 6 ∧ p0 = nI a ∧ p1 = nI b ∧ p2 = nI c) → post (-1) (ywa, ydd, ynd, yns, yma, ynt, yno, yrc, yfo, ybl, yod, ywr, yan, yab, yac, yad, yal, yabl, yacl, yacf, ynu, yfi, ypa, ysz, yli, ytx, yki, yf1, yf2, yo, yoa, yob, yit, yss, ymo, yst, ymy, ycl, yrw, yow, yen, yhi, yla))
  (h1 : ∀ a b c, a < 6 → b < 6 → c < 6 → p0 = nI a → p1 = nI b → p2 = nI c → ∀ ow : Nat → Int32, post (nI (qn_hv now (36 * a + 6 * b + c) 10)) (ywa, ydd, ynd, yns, yma, ynt, yno, yrc, yfo, ybl, yod, ywr, yan, yab, yac, yad, yal, yabl, yacl, yacf, ynu, yfi, ypa, ysz, yli, ytx, yki, yf1, yf2, yo, yoa, yob, yit, yss, ymo, yst, ymy, ycl, yrw, ow, yen, yhi, yla)) : wpY_having post (ywa, ydd, ynd, yns, yma, ynt, yno, yrc, yfo, ybl, yod, ywr, yan, yab, yac, yad, yal, yabl, yacl, yacf, ynu, yfi, ypa, ysz, yli, ytx, yki, yf1, yf2, yo, yoa, yob, yit, yss, ymo, yst, ymy, ycl, yrw, yow, yen, yhi, yla) p0 p1 p2 := by
  unfold wpY_having
  refine ys_in p0 0 5 (by decide) (by decide) 0 5 rfl rfl _ (fun z => br_t rfl (h0 (fun ⟨a, b, c, ha, _, _, e, _⟩ => z a (by omega) (by omega) e))) (fun a _ ha e0 => br_f (by decide) ?_)
  refine ys_in p1 0 5 (by decide) (by decide) 0 5 rfl rfl _ (fun z => br_t rfl (h0 (fun ⟨_, b, _, _, hb, _, _, e, _⟩ => z b (by omega) (by omega) e))) (fun b _ hb e1 => br_f (by decide) ?_)
  refine ys_in p2 0 5 (by decide) (by decide) 0 5 rfl rfl _ (fun z => br_t rfl (h0 (fun ⟨_, _, c, _, _, hc, _, _, e⟩ => z c (by omega) (by omega) e))) (fun c _ hc e2 => br_f (by decide) ?_)
  refine yr_list now hno hs _ (fun ow how => ⟨11, ?_⟩)
  rw [e0, e1, e2]
  refine yr_hav1 now (36 * a + 6 * b + c) a b c (by omega) ?_ how post (h1 a b c (by omega) (by omega) (by omega) e0 e1 e2 ow) 11 0 (by omega) (by omega)
  rw [show (36 : Int32) = nI 36 from rfl, show (6 : Int32) = nI 6 from rfl, pk_mul, pk_mul, nI_add, nI_add]
theorem yr_document (now base : Nat → qf_X) (wt : List (Nat × qf_X)) (dr : List Nat) (docs : List qf_D) (segs : List Nat) (made : Nat) (hi : qf_inv now base wt dr docs segs made) (hS : qy_S now base wt dr docs segs made yan yal yab yabl yac yacl yacf yad ywa ydd ynu yfi ypa ysz yli ytx ynd yns yma) (p0 p1 : Int32) (post : Int32 → Prop)
  (hb : (∀ j, j < docs.length → p0 ≠ nI j) ∨ (∀ w, w < 4 → p1 ≠ nI w) → post (-1))
  (g0 : ∀ j x, docs[j]? = some x → p0 = nI j → p1 = 0 → post (nI x.1))
  (g1 : ∀ j x, docs[j]? = some x → p0 = nI j → p1 = 1 → post (nI x.2.1))
  (g2 : ∀ j x, docs[j]? = some x → p0 = nI j → p1 = 2 → post (if x.2.2.1 = true then 1 else 0))
  (g3 : ∀ j, j < docs.length → p0 = nI j → p1 = 3 → post (nI (qd_seg segs j))) : wpY_document post (ywa, ydd, ynd, yns, yma, ynt, yno, yrc, yfo, ybl, yod, ywr, yan, yab, yac, yad, yal, yabl, yacl, yacf, ynu, yfi, ypa, ysz, yli, ytx, yki, yf1, yf2, yo, yoa, yob, yit, yss, ymo, yst, ymy, ycl, yrw, yow, yen, yhi, yla) p0 p1 := by
  obtain ⟨i1, i2, i3, i4, i5, i6⟩ := hi
  obtain ⟨s1, s2, s3, s5, ⟨s6, s7⟩, s8, s9⟩ := hS
  subst s6
  have hb10 := qd_dec10 i6 i5.2.1
  have hsm := i5.1
  unfold wpY_document
  refine yr_inm p0 docs.length (by omega) _ rfl _ (fun z => br_t rfl (hb (Or.inl z))) (fun k hk e => br_f (by decide) ?_)
  subst e
  have ck : (nI k).toNatClampNeg = k := nI_clamp (by omega)
  have hik : vp_in (nI k) 64 := pk_in k 64 (by omega)
  have hg := List.getElem?_eq_getElem hk
  obtain ⟨a1, a2, a3, a4, a5⟩ := s7 k _ hg
  refine ys_in p1 0 3 (by decide) (by decide) 0 3 rfl rfl _ (fun z => br_t rfl (hb (Or.inr (fun w hw => z w (by omega) (by omega))))) (fun w _ hw e => br_f (by decide) ?_)
  refine br_c (fun w => ⟨hik, ?_⟩) (fun w0 => br_c (fun w => ⟨hik, ?_⟩) (fun w1 => br_c (fun w => ⟨hik, ?_⟩) (fun w2 => ⟨hik, ?_⟩)))
  · rw [ck, a1]; exact g0 k _ hg rfl w
  · rw [ck, a2]; exact g1 k _ hg rfl w
  · rw [ck, a3]
    have := g2 k _ hg rfl w
    by_cases z : docs[k].2.2.1 = true
    · rw [if_pos z] at this ⊢; exact br_f (by decide) this
    · rw [if_neg z] at this ⊢; exact br_t rfl this
  · have y3 : p1 = 3 := by
      subst e
      have : w ≠ 0 := fun h => w0 (by rw [h]; rfl)
      have : w ≠ 1 := fun h => w1 (by rw [h]; rfl)
      have : w ≠ 2 := fun h => w2 (by rw [h]; rfl)
      have : w = 3 := by omega
      rw [this]; rfl
    rw [ck, a4]; exact g3 k hk rfl y3
theorem yr_at (now : Nat → qf_X) (hno : ∀ f, f < 10 → qf_o (now f)) (hs : ∀ f, f < 10 → qx_slot yan yal f (now f)) (p0 p1 : Int32) (post : Int32 → Prop)
  (hb : (∀ f t i, f < 10 → now f = some t → i < t.length → p0 = nI f → p1 ≠ nI i) → post (-1))
  (hg : ∀ f t i, f < 10 → now f = some t → i < t.length → p0 = nI f → p1 = nI i → post (nI (t.getD i 0))) : wpY_at post (ywa, ydd, ynd, yns, yma, ynt, yno, yrc, yfo, ybl, yod, ywr, yan, yab, yac, yad, yal, yabl, yacl, yacf, ynu, yfi, ypa, ysz, yli, ytx, yki, yf1, yf2, yo, yoa, yob, yit, yss, ymo, yst, ymy, ycl, yrw, yow, yen, yhi, yla) p0 p1 := by
  unfold wpY_at
  rcases pk_ix p0 (n := 10) (by decide) with z | z | ⟨f, hf, rfl⟩
  · unfold wpY_isThere
    refine ys_fileC p0 _ (fun _ => br_t rfl (br_t rfl (hb (fun g t i hg' _ _ e => ?_)))) (fun f hf e => ?_)
    · subst e; exact absurd z (nI_pos (by omega))
    · subst e; exact absurd z (nI_pos (by omega))
  · unfold wpY_isThere
    refine ys_fileC p0 _ (fun _ => br_t rfl (br_t rfl (hb (fun g t i hg' _ _ e => ?_)))) (fun f hf e => ?_)
    · subst e; exact absurd z (nI_ge (b := 10) hg' (by decide))
    · subst e; exact absurd z (nI_ge (b := 10) hf (by decide))
  · have cf : (nI f).toNatClampNeg = f := nI_clamp (by omega)
    have hsf := hs f hf
    refine ys_there f hf (now f) (hno f hf) hsf _ (fun e => br_t rfl (hb (fun g t i hg' ht _ e1 => ?_))) (fun t e => br_f (by decide) ⟨pk_in f 10 hf, ?_⟩)
    · rw [nI_eq (by omega) (by omega)] at e1
      subst e1
      rw [e] at ht
      exact nomatch ht
    · rw [e] at hsf
      have ht := hno f hf t e
      have hL := ht.1
      rw [cf, show yal f = nI t.length from hsf.1]
      refine yr_inm p1 t.length (by omega) _ rfl _ (fun z => br_t rfl (hb (fun g t' i hg' ht' hi' e1 => ?_))) (fun j hj e1 => br_f (by decide) ⟨?_, ?_⟩)
      · rw [nI_eq (by omega) (by omega)] at e1
        subst e1
        rw [e] at ht'
        cases ht'
        exact z i hi'
      · subst e1; exact pk_in (f * 40 + j) 400 (by omega) (ys_ix f j)
      · subst e1
        rw [ys_ixc (by omega), hsf.2 j hj]
        exact hg f t j hf e hj rfl rfl
end
