/-! the matches of a line -/
def qh_L (E : Nat → Int64) (n q : Nat) : List (Nat × Nat) := qh_ln E n (n + 1) q
theorem qh_L_end (E : Nat → Int64) (n q : Nat) (h : n < q) : qh_L E n q = [] := by
  unfold qh_L qh_ln
  rw [if_neg (by omega)]
theorem qh_L_none (E : Nat → Int64) (n q : Nat) (h : q ≤ n) (hl : qh_last (E q) n = none) : qh_L E n q = qh_L E n (q + 1) := by
  have e : qh_L E n q = qh_ln E n n (q + 1) := by
    unfold qh_L
    conv => lhs; unfold qh_ln
    rw [if_pos h, hl]
  rw [e]
  exact qh_ln_f E n n (n + 1) (q + 1) (by omega) (by omega)
theorem qh_L_some (E : Nat → Int64) (n q l : Nat) (h : q ≤ n) (hl : qh_last (E q) n = some l) : qh_L E n q = (q, l) :: qh_L E n (if q < l then l else q + 1) := by
  have e : qh_L E n q = (q, l) :: qh_ln E n n (if q < l then l else q + 1) := by
    unfold qh_L
    conv => lhs; unfold qh_ln
    rw [if_pos h, hl]
  rw [e, qh_ln_f E n n (n + 1) _ (by split <;> omega) (by split <;> omega)]
  rfl
theorem qh_ln_len (E : Nat → Int64) (n : Nat) : ∀ m q, (qh_ln E n m q).length ≤ m
  | 0, _ => Nat.le_refl _
  | m + 1, q => by
    unfold qh_ln
    split
    · split
      · have := qh_ln_len E n m (q + 1); omega
      · rw [List.length_cons]
        exact Nat.succ_le_succ (qh_ln_len E n m _)
    · simp
theorem qh_L_cg {E E' : Nat → Int64} {n : Nat} (h : ∀ q, q ≤ n → E q = E' q) : ∀ m q, qh_ln E n m q = qh_ln E' n m q
  | 0, _ => rfl
  | m + 1, q => by
    unfold qh_ln
    split
    · rename_i hq
      rw [h q hq]
      split
      · exact qh_L_cg h m (q + 1)
      · rw [qh_L_cg h m _]
    · rfl
def qh_B (x : Nat × Nat × Nat × Nat) : Prop := x.1 < 10 ∧ x.2.1 ≤ 40 ∧ x.2.2.1 ≤ 40 ∧ x.2.2.2 ≤ 40
def qx_H (H : List (Nat × Nat × Nat × Nat)) (hi : Nat → Int32) (mc : Int32) : Prop := mc = nI H.length ∧ ∀ k x, k < 40 → H[k]? = some x → hi (k * 4) = nI x.1 ∧ hi (k * 4 + 1) = nI x.2.1 ∧ hi (k * 4 + 2) = nI x.2.2.1 ∧ hi (k * 4 + 3) = nI x.2.2.2
def qy_H (H : List (Nat × Nat × Nat × Nat)) (hi : Nat → Int32) (fo : Int32) : Prop := fo = nI H.length ∧ ∀ k x, k < 40 → H[k]? = some x → hi k = nI (qR_pk x)
theorem qh_snoc {α : Type} {H : List α} {x y : α} {k : Nat} (h : (H ++ [x])[k]? = some y) : (k < H.length ∧ H[k]? = some y) ∨ (k = H.length ∧ x = y) := by
  rcases Nat.lt_or_ge k H.length with z | z
  · rw [List.getElem?_append_left z] at h
    exact Or.inl ⟨z, h⟩
  · rw [List.getElem?_append_right z] at h
    have e : k - H.length = 0 := by
      have := qr_get_lt h
      simp at this
      omega
    rw [e] at h
    exact Or.inr ⟨by omega, by simpa using h⟩
/-- the bits of the ends at a place lie in the line behind it -/
def qe_in (E : Nat → Int64) (n : Nat) : Prop := ∀ p, p ≤ n → ∀ e, e < 64 → qb_l (E p) e = true → p ≤ e ∧ e ≤ n
section
variable {xwc xdc xdm xsc xtc xnc xmc xbr xwt : Int32} {xch xtl xwf xdn xdf xdl xss xtk xta xtb xnk xna xnb xnl xnr xns xfa xfs xfi xrc xcl xhd xhi xwo : Nat → Int32} {xrw xre : Nat → Int64}
theorem xh_last (x : Int64) (n : Nat) (hn : n ≤ 40) (hx : ∀ e, e < 64 → qb_l x e = true → e ≤ n) (l : Nat) (hl : qh_last x n = some l) (post : Int32 → Prop) (hp : post (nI l)) : wpX_lastPlace post x := by
  obtain ⟨a, b, c⟩ := qh_last_some x n l hl
  have key : ∀ (N i r : Nat), i ≤ 41 → 41 - i < N → (i ≤ l → r ≤ 41) → (l < i → r = l) → wX_lastPlace_4 post x N (nI r) (nI i) := by
    intro N
    induction N with
    | zero => intro i r h1 h2; omega
    | succ N ih =>
      intro i r h1 h2 h3 h4
      refine pk_le 41 i (fun hle => ?_) (fun hlt => ek_if (qb_S1 x i (by omega)) (fun hb => nm_r (nI_1 i) (ih (i + 1) i (by omega) (by omega) (fun _ => by omega) (fun h => ?_))) (fun hb => nm_r (nI_1 i) (ih (i + 1) r (by omega) (by omega) (fun h => h3 (by omega)) (fun h => ?_))))
      · rw [h4 (by omega)]
        exact hp
      · rcases Nat.lt_or_ge l i with z | z
        · have := hx i (by omega) hb
          rw [c i z this] at hb
          exact nomatch hb
        · omega
      · by_cases z : i = l
        · subst z; exact absurd b hb
        · exact h4 (by omega)
  exact ⟨42, key 42 0 0 (by omega) (by omega) (fun _ => by omega) (fun h => absurd h (by omega))⟩
theorem xh_add (H : List (Nat × Nat × Nat × Nat)) (hH : qx_H H xhi xmc) (hl : H.length < 2 ^ 20) (x : Nat × Nat × Nat × Nat) (x1 x2 x3 x4 : Int32) (e1 : x1 = nI x.1) (e2 : x2 = nI x.2.1) (e3 : x3 = nI x.2.2.1) (e4 : x4 = nI x.2.2.2) (post : SX → Prop) (hp : ∀ (mc' : Int32) (hi' : Nat → Int32), qx_H (H ++ [x]) hi' mc' → post (xwc, xdc, xdm, xsc, xtc, xnc, mc', xbr, xwt, xch, xtl, xwf, xdn, xdf, xdl, xss, xtk, xta, xtb, xnk, xna, xnb, xnl, xnr, xns, xfa, xfs, xfi, xrw, xrc, xcl, xhd, xre, hi', xwo)) : wpX_addHit post (xwc, xdc, xdm, xsc, xtc, xnc, xmc, xbr, xwt, xch, xtl, xwf, xdn, xdf, xdl, xss, xtk, xta, xtb, xnk, xna, xnb, xnl, xnr, xns, xfa, xfs, xfi, xrw, xrc, xcl, xhd, xre, xhi, xwo) x1 x2 x3 x4 := by
  obtain ⟨h1, h2⟩ := hH
  subst h1; subst e1; subst e2; subst e3; subst e4
  have el : nI H.length + 1 = nI (H ++ [x]).length := by rw [nI_1, List.length_append]; rfl
  refine pk_le 40 H.length (fun hle => nm_r el (hp _ _ ⟨rfl, fun k y hk hy => ?_⟩)) (fun hlt => ?_)
  · rcases qh_snoc hy with ⟨_, g⟩ | ⟨g, _⟩
    · exact h2 k y hk g
    · omega
  · have e4 : nI H.length * 4 = nI (H.length * 4) := by rw [show (4 : Int32) = nI 4 from rfl, pk_mul]
    have e41 : nI H.length * 4 + 1 = nI (H.length * 4 + 1) := by rw [e4, nI_1]
    have e42 : nI H.length * 4 + 2 = nI (H.length * 4 + 2) := by rw [e4]; exact nI_add _ 2
    have e43 : nI H.length * 4 + 3 = nI (H.length * 4 + 3) := by rw [e4]; exact nI_add _ 3
    refine ⟨pk_in (H.length * 4) 160 (by omega) e4, nm_e ⟨pk_in (H.length * 4 + 1) 160 (by omega) e41, nm_e ⟨pk_in (H.length * 4 + 2) 160 (by omega) e42, nm_e ⟨pk_in (H.length * 4 + 3) 160 (by omega) e43, nm_e (nm_r el (hp _ _ ⟨rfl, fun k y hk hy => ?_⟩))⟩⟩⟩⟩
    rw [pk_cl _ e4, pk_cl _ e41, pk_cl _ e42, pk_cl _ e43]
    rcases qh_snoc hy with ⟨gl, g⟩ | ⟨g, gx⟩
    · obtain ⟨a, b, c, d⟩ := h2 k y hk g
      refine ⟨?_, ?_, ?_, ?_⟩
      · rw [pk_un (by omega), pk_un (by omega), pk_un (by omega), pk_un (by omega)]; exact a
      · rw [pk_un (by omega), pk_un (by omega), pk_un (by omega), pk_un (by omega)]; exact b
      · rw [pk_un (by omega), pk_un (by omega), pk_un (by omega), pk_un (by omega)]; exact c
      · rw [pk_un (by omega), pk_un (by omega), pk_un (by omega), pk_un (by omega)]; exact d
    · subst gx; subst g
      refine ⟨?_, ?_, ?_, ?_⟩
      · rw [pk_un (by omega), pk_un (by omega), pk_un (by omega), pk_us]
      · rw [pk_un (by omega), pk_un (by omega), pk_us]
      · rw [pk_un (by omega), pk_us]
      · rw [pk_us]
theorem xh_matches (f l n root : Nat) (hn : n ≤ 40) (hr : root < 40) (E : Nat → Int64) (hE : ∀ p, p ≤ n → xre (root * 41 + p) = E p) (hin : qe_in E n) (H0 : List (Nat × Nat × Nat × Nat)) (hH : qx_H H0 xhi xmc) (hl : H0.length + 41 ≤ 2 ^ 20) (x1 x2 x3 x4 : Int32) (e1 : x1 = nI f) (e2 : x2 = nI l) (e3 : x3 = nI n) (e4 : x4 = nI root) (post : SX → Prop)
  (hp : ∀ (mc' : Int32) (hi' : Nat → Int32), qx_H (H0 ++ (qh_L E n 0).map (fun x => (f, l, x.1, x.2))) hi' mc' → post (xwc, xdc, xdm, xsc, xtc, xnc, mc', xbr, xwt, xch, xtl, xwf, xdn, xdf, xdl, xss, xtk, xta, xtb, xnk, xna, xnb, xnl, xnr, xns, xfa, xfs, xfi, xrw, xrc, xcl, xhd, xre, hi', xwo)) : wpX_addMatches post (xwc, xdc, xdm, xsc, xtc, xnc, xmc, xbr, xwt, xch, xtl, xwf, xdn, xdf, xdl, xss, xtk, xta, xtb, xnk, xna, xnb, xnl, xnr, xns, xfa, xfs, xfi, xrw, xrc, xcl, xhd, xre, xhi, xwo) x1 x2 x3 x4 := by
  subst e1; subst e2; subst e3; subst e4
  have key : ∀ (N p s : Nat) (H : List (Nat × Nat × Nat × Nat)) (mc' : Int32) (hi' : Nat → Int32), p ≤ n + 1 → n + 1 - p < N → s ≤ n + 1 → p ≤ s ∨ s ≤ p → H.length + (n + 1 - p) ≤ 2 ^ 20 → qx_H H hi' mc' → H ++ (qh_L E n (if p < s then s else p)).map (fun x => (f, l, x.1, x.2)) = H0 ++ (qh_L E n 0).map (fun x => (f, l, x.1, x.2)) → wX_addMatches_6 post (nI f) (nI l) (nI n) (nI root) N (nI s) (nI p) xwc xdc xdm xsc xtc xnc mc' xbr xwt xch xtl xwf xdn xdf xdl xss xtk xta xtb xnk xna xnb xnl xnr xns xfa xfs xfi xrw xrc xcl xhd xre hi' xwo := by
    intro N
    induction N with
    | zero => intro p s H mc' hi' h1 h2; omega
    | succ N ih =>
      intro p s H mc' hi' h1 h2 h3 h4 h5 h6 h7
      refine pk_lt n p (fun hlt => ?_) (fun hle => ⟨pk_in (root * 41 + p) 1640 (by omega) (xg_i root p), nm_r (e' := E p) (by rw [pk_cl (root * 41 + p) (xg_i root p)]; exact hE p hle) ?_⟩)
      · rw [qh_L_end E n _ (by split <;> omega), List.map_nil, List.append_nil] at h7
        subst h7
        exact hp mc' hi' h6
      · refine pk_lt p s (fun hps => nm_r (nI_1 p) (ih (p + 1) s H mc' hi' (by omega) (by omega) h3 (by omega) (by omega) h6 ?_)) (fun hps => ?_)
        · rw [if_pos hps] at h7
          rw [← h7]
          by_cases z : p + 1 < s
          · rw [if_pos z]
          · rw [if_neg z, show p + 1 = s by omega]
        · rw [if_neg (by omega)] at h7
          by_cases z : E p = 0
          · refine br_t z (nm_r (nI_1 p) (ih (p + 1) s H mc' hi' (by omega) (by omega) h3 (by omega) (by omega) h6 ?_))
            have hl0 : qh_last (E p) n = none := (qh_last_none _ _).mpr (fun j _ => by rw [z, qb_0])
            rw [qh_L_none E n p hle hl0] at h7
            rw [if_neg (by omega)]
            exact h7
          · refine br_f z ?_
            obtain ⟨e, he, hb⟩ := qb_ne.mp z
            have hbd := hin p hle e he hb
            match hq : qh_last (E p) n with
            | none => rw [(qh_last_none _ _).mp hq e hbd.2] at hb; exact nomatch hb
            | some q =>
              obtain ⟨q1, q2, q3⟩ := qh_last_some _ _ _ hq
              have hpq := (hin p hle q (by omega) q2).1
              refine xh_last (E p) n hn (fun e he hb => (hin p hle e he hb).2) q hq _ ?_
              refine xh_add H h6 (by omega) (f, l, p, q) _ _ _ _ rfl rfl rfl rfl _ (fun mc2 hi2 h8 => ?_)
              rw [qh_L_some E n p q hle hq, List.map_cons] at h7
              have hlen : (H ++ [(f, l, p, q)]).length + (n + 1 - (p + 1)) ≤ 2 ^ 20 := by
                rw [List.length_append, List.length_singleton]
                omega
              refine pk_le q p (fun hqp => nm_r (nI_1 p) (nm_r (nI_1 p) (ih (p + 1) (p + 1) _ mc2 hi2 (by omega) (by omega) (by omega) (by omega) hlen h8 ?_))) (fun hqp => nm_r (nI_1 p) (ih (p + 1) q _ mc2 hi2 (by omega) (by omega) (by omega) (by omega) hlen h8 ?_))
              · rw [if_neg (by omega)] at h7
                rw [if_neg (by omega), List.append_assoc]
                exact h7
              · rw [if_pos hqp] at h7
                rw [List.append_assoc]
                by_cases y : p + 1 < q
                · rw [if_pos y]; exact h7
                · rw [if_neg y, show p + 1 = q by omega]; exact h7
  exact ⟨n + 2, key (n + 2) 0 0 H0 xmc xhi (by omega) (by omega) (by omega) (by omega) (by omega) hH rfl⟩
end
section
variable {ywa ydd ynd yns yma ynt yno yrc yfo ybl yod ywr : Int32} {yan yab yac yad yal yabl yacl yacf ynu yfi ypa ysz yli ytx yki yf1 yf2 yo yoa yob yit yss ymo yst ymy ycl yrw yow yhi yla : Nat → Int32} {yen : Nat → Int64}
theorem yh_pk (x : Nat × Nat × Nat × Nat) (hx : qh_B x) : ((nI x.1 + (nI x.2.1 <<< ((8 : Int32) &&& 31))) + (nI x.2.2.1 <<< ((16 : Int32) &&& 31))) + (nI x.2.2.2 <<< ((24 : Int32) &&& 31)) = nI (qR_pk x) := by
  obtain ⟨a, b, c, d⟩ := hx
  rw [pk_shlN _ 8 (by decide) (by omega), pk_shlN _ 16 (by decide) (by omega), pk_shlN _ 24 (by decide) (by omega), nI_add, nI_add, nI_add]
  congr 1
  unfold qR_pk
  omega
theorem yh_line (f l n : Nat) (hf : f < 10) (hl40 : l ≤ 40) (hn : n ≤ 40) (E : Nat → Int64) (hE : ∀ p, p ≤ n → yen p = E p) (hin : qe_in E n) (H0 : List (Nat × Nat × Nat × Nat)) (hH : qy_H H0 yhi yfo) (hl : H0.length + 41 ≤ 2 ^ 20) (post : SY → Prop)
  (hp : ∀ (fo' : Int32) (hi' : Nat → Int32), qy_H (H0 ++ (qh_L E n 0).map (fun x => (f, l, x.1, x.2))) hi' fo' → post (ywa, ydd, ynd, yns, yma, ynt, yno, yrc, fo', ybl, yod, ywr, yan, yab, yac, yad, yal, yabl, yacl, yacf, ynu, yfi, ypa, ysz, yli, ytx, yki, yf1, yf2, yo, yoa, yob, yit, yss, ymo, yst, ymy, ycl, yrw, yow, yen, hi', yla)) : ∃ N : Nat, wY_line_56 post (nI f) (nI l) (nI n) ywa ydd ynd yns yma ynt yno yrc ybl yod ywr N 0 yfo yan yab yac yad yal yabl yacl yacf ynu yfi ypa ysz yli ytx yki yf1 yf2 yo yoa yob yit yss ymo yst ymy ycl yrw yow yen yhi yla := by
  have key : ∀ (N p : Nat) (H : List (Nat × Nat × Nat × Nat)) (fo' : Int32) (hi' : Nat → Int32), p ≤ n + 1 → n + 1 - p < N → H.length + (n + 1 - p) ≤ 2 ^ 20 → qy_H H hi' fo' → H ++ (qh_L E n p).map (fun x => (f, l, x.1, x.2)) = H0 ++ (qh_L E n 0).map (fun x => (f, l, x.1, x.2)) → wY_line_56 post (nI f) (nI l) (nI n) ywa ydd ynd yns yma ynt yno yrc ybl yod ywr N (nI p) fo' yan yab yac yad yal yabl yacl yacf ynu yfi ypa ysz yli ytx yki yf1 yf2 yo yoa yob yit yss ymo yst ymy ycl yrw yow yen hi' yla := by
    intro N
    induction N with
    | zero => intro p H fo' hi' h1 h2; omega
    | succ N ih =>
      intro p H fo' hi' h1 h2 h5 h6 h7
      refine pk_lt n p (fun hlt => ?_) (fun hle => ⟨n + 2, ?_⟩)
      · rw [qh_L_end E n _ hlt, List.map_nil, List.append_nil] at h7
        subst h7
        exact hp fo' hi' h6
      · obtain ⟨g1, g2⟩ := h6
        subst g1
        -- behind the place that was found
        have none97 : ∀ x7 : Int32, x7 < nI p → x7 ≤ nI p → qh_last (E p) n = none → wY_line_97 post (wY_line_56 post (nI f) (nI l) (nI n) ywa ydd ynd yns yma ynt yno yrc ybl yod ywr N) (nI f) (nI l) (nI n) (nI p) x7 ywa ydd ynd yns yma ynt yno yrc (nI H.length) ybl yod ywr yan yab yac yad yal yabl yacl yacf ynu yfi ypa ysz yli ytx yki yf1 yf2 yo yoa yob yit yss ymo yst ymy ycl yrw yow yen hi' yla := by
          intro x7 hx7 hx7' hq
          rw [qh_L_none E n p hle hq] at h7
          exact br_t hx7 (br_t hx7 (br_t hx7' (nm_r (nI_1 p) (ih (p + 1) H _ hi' (by omega) (by omega) (by omega) ⟨rfl, g2⟩ h7))))
        have some97 : ∀ q : Nat, q ≤ n → p ≤ q → qh_last (E p) n = some q → wY_line_97 post (wY_line_56 post (nI f) (nI l) (nI n) ywa ydd ynd yns yma ynt yno yrc ybl yod ywr N) (nI f) (nI l) (nI n) (nI p) (nI q) ywa ydd ynd yns yma ynt yno yrc (nI H.length) ybl yod ywr yan yab yac yad yal yabl yacl yacf ynu yfi ypa ysz yli ytx yki yf1 yf2 yo yoa yob yit yss ymo yst ymy ycl yrw yow yen hi' yla := by
          intro q hqn hpq hq
          rw [qh_L_some E n p q hle hq, List.map_cons] at h7
          have el : nI H.length + 1 = nI (H ++ [(f, l, p, q)]).length := by rw [nI_1, List.length_append]; rfl
          have hnl : ¬ nI q < nI p := nI_nlt (a := q) (b := p) hpq (by omega)
          have fin : ∀ hi2 : Nat → Int32, qy_H (H ++ [(f, l, p, q)]) hi2 (nI (H ++ [(f, l, p, q)]).length) → wY_line_140 post (wY_line_56 post (nI f) (nI l) (nI n) ywa ydd ynd yns yma ynt yno yrc ybl yod ywr N) (nI f) (nI l) (nI n) (nI p) (nI q) ywa ydd ynd yns yma ynt yno yrc (nI H.length) ybl yod ywr yan yab yac yad yal yabl yacl yacf ynu yfi ypa ysz yli ytx yki yf1 yf2 yo yoa yob yit yss ymo yst ymy ycl yrw yow yen hi2 yla := by
            intro hi2 h8
            have hlen : (H ++ [(f, l, p, q)]).length + (n + 1 - (p + 1)) ≤ 2 ^ 20 := by
              rw [List.length_append, List.length_singleton]
              omega
            refine br_f hnl (nm_r el (pk_le q p (fun hqp => nm_r (nI_1 p) (ih (p + 1) _ _ hi2 (by omega) (by omega) hlen h8 ?_)) (fun hqp => ih q _ _ hi2 (by omega) (by omega) (by omega) h8 ?_)))
            · rw [if_neg (by omega)] at h7
              rw [List.append_assoc]
              exact h7
            · rw [if_pos hqp] at h7
              rw [List.append_assoc]
              exact h7
          refine br_f hnl (pk_le 40 H.length (fun h40 => fin hi' ⟨rfl, fun k y hk hy => ?_⟩) (fun h40 => ⟨pk_in H.length 40 h40, nm_e (fin _ ⟨rfl, fun k y hk hy => ?_⟩)⟩))
          · rcases qh_snoc hy with ⟨_, g⟩ | ⟨g, _⟩
            · exact g2 k y hk g
            · omega
          · rw [nI_clamp (by omega)]
            rcases qh_snoc hy with ⟨gl, g⟩ | ⟨g, gx⟩
            · rw [pk_un (by omega)]
              exact g2 k y hk g
            · subst gx; subst g
              rw [pk_us]
              exact yh_pk (f, l, p, q) ⟨hf, hl40, by show p ≤ 40; omega, by show q ≤ 40; omega⟩
        have srch : ∀ (N' k : Nat) (x7 : Int32), k ≤ n + 1 → k < N' → x7 = nI k + (-1) → (∀ j, k ≤ j → j ≤ n → qb_l (E p) j = false) → wY_line_67 post (wY_line_56 post (nI f) (nI l) (nI n) ywa ydd ynd yns yma ynt yno yrc ybl yod ywr N) (nI f) (nI l) (nI n) (nI p) ywa ydd ynd yns yma ynt yno yrc (nI H.length) ybl yod ywr yan yab yac yad yal yabl yacl yacf ynu yfi ypa ysz yli ytx yki yf1 yf2 yo yoa yob yit yss ymo yst ymy ycl yrw yow yen hi' yla N' x7 := by
          intro N'
          induction N' with
          | zero => intro k x7 a1 a2; omega
          | succ N' ih' =>
            intro k x7 a1 a2 a3 a4
            have allno : k ≤ p → qh_last (E p) n = none := by
              intro hkp
              refine (qh_last_none _ _).mpr (fun j hj => ?_)
              rcases Nat.lt_or_ge j k with z | z
              · cases hb : qb_l (E p) j
                · rfl
                · have := (hin p hle j (by omega) hb).1
                  omega
              · exact a4 j z hj
            rcases Nat.eq_zero_or_pos k with z0 | z0
            · subst z0
              subst a3
              have e0 : (nI 0 + (-1)).toInt = -1 := by decide
              have hm : nI 0 + (-1) < nI p := by
                rw [Int32.lt_iff_toInt_lt, nI_toInt (by omega), e0]
                omega
              have hm' : nI 0 + (-1) ≤ nI p := by
                rw [Int32.le_iff_toInt_le, nI_toInt (by omega), e0]
                omega
              exact br_t hm (none97 _ hm hm' (allno (by omega)))
            · obtain ⟨q, rfl⟩ : ∃ q, k = q + 1 := ⟨k - 1, by omega⟩
              rw [pk_m1] at a3
              subst a3
              refine pk_lt q p (fun hqp => ?_) (fun hpq => ⟨pk_in p 779 (by omega), ?_⟩)
              · refine none97 (nI q) ?_ ?_ (allno (by omega))
                · exact nI_lt hqp (by omega)
                · exact nI_le (by omega) (by omega)
              · rw [nI_clamp (by omega), hE p hle]
                refine ek_if (qb_S0 (E p) q (by omega)) (fun hb => nm_e (ih' q _ (by omega) (by omega) rfl (fun j b1 b2 => ?_))) (fun hb => ?_)
                · by_cases z : j = q
                  · subst z; exact hb
                  · exact a4 j (by omega) b2
                · have hb' : qb_l (E p) q = true := by simpa using hb
                  refine some97 q (by omega) hpq ?_
                  match hq : qh_last (E p) n with
                  | none => rw [(qh_last_none _ _).mp hq q (by omega)] at hb'; exact nomatch hb'
                  | some q' =>
                    obtain ⟨q1, q2, q3⟩ := qh_last_some _ _ _ hq
                    rcases Nat.lt_trichotomy q q' with z | z | z
                    · rw [a4 q' (by omega) q1] at q2; exact nomatch q2
                    · rw [z]
                    · rw [q3 q z (by omega)] at hb'; exact nomatch hb'
        exact srch (n + 2) (n + 1) _ (by omega) (by omega) (pk_m1 n).symm (fun j b1 b2 => by omega)
  exact ⟨n + 2, key (n + 2) 0 H0 yfo yhi (by omega) (by omega) (by omega) hH rfl⟩
end
