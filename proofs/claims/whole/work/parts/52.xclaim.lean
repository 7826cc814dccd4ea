/-! the class: the claim of the expression, of a text -/
theorem qi_alt_unk {x y : qi_T} (h : (qi_alt x y).1 = none) : qi_alt x y = qi_alt2 x y := by
  unfold qi_alt at h ⊢
  split at h
  · split at h
    · exact nomatch h
    · rename_i z
      rw [if_neg z]
  · rfl
theorem qi_seq_unk {x y : qi_T} (h : (qi_seq x y).1 = none) : qi_seq x y = qi_seq2 x y := by
  unfold qi_seq at h ⊢
  split at h
  · split at h
    · exact nomatch h
    · rename_i z
      rw [if_neg z]
  · rfl
theorem xc_n1 : narrow .boolean (.int 1) = .int 1 := by decide
theorem xc_n0 : narrow .boolean (.int 0) = .int 0 := by decide
section
variable {xwc xdc xdm xsc xtc xnc xmc xbr xwt : Int32} {xch xtl xwf xdn xdf xdl xss xtk xta xtb xnk xna xnb xnl xnr xns xfa xfs xfi xrc xcl xhd xhi xwo : Nat → Int32} {xrw xre : Nat → Int64}
theorem xc_had (t : List Nat) (hhd : qx_hd t t.length xhd) (r : List Nat) (hr : qr_rw r) (xr' : Int64) (er : xr' = lN (qc_x r)) (post : Int32 → Prop) (h1 : qr_has r (qt_T t) → post 1) (h0 : ¬ qr_has r (qt_T t) → post 0) : wpX_isHad post (xwc, xdc, xdm, xsc, xtc, xnc, xmc, xbr, xwt, xch, xtl, xwf, xdn, xdf, xdl, xss, xtk, xta, xtb, xnk, xna, xnb, xnl, xnr, xns, xfa, xfs, xfi, xrw, xrc, xcl, xhd, xre, xhi, xwo) xr' := by
  subst er
  have hv := qc_x_v r hr.2 hr.1
  have hl := hr.1
  have tri : ∀ i, i + 2 < r.length → (xhd ((r.getD i 0 * 8 + r.getD (i + 1) 0) * 8 + r.getD (i + 2) 0) = if qt_any t t.length (36 * r.getD i 0 + 6 * r.getD (i + 1) 0 + r.getD (i + 2) 0) = true then 1 else 0) ∧ (qt_any t t.length (36 * r.getD i 0 + 6 * r.getD (i + 1) 0 + r.getD (i + 2) 0) = true ↔ qt_T t (r.getD i 0) (r.getD (i + 1) 0) (r.getD (i + 2) 0)) := by
    intro i hi
    have a := qc_get_in hr.2 i (by omega)
    have b := qc_get_in hr.2 (i + 1) (by omega)
    have c := qc_get_in hr.2 (i + 2) hi
    constructor
    · have e := hhd (36 * r.getD i 0 + 6 * r.getD (i + 1) 0 + r.getD (i + 2) 0) (by omega)
      rw [qt_68_eq a b c] at e
      rw [← e]
      congr 1
      omega
    · rw [qt_g_T a b c, qt_any_iff]
      constructor
      · rintro ⟨j, _, h⟩; exact ⟨j, h⟩
      · rintro ⟨j, h⟩; exact ⟨j, by have := (qt_g_lt h).2; omega, h⟩
  have key : ∀ (N b : Nat), b ≤ r.length → r.length - b < N → (∀ i, i + 2 < r.length → r.length - 3 - i < b → qt_T t (r.getD i 0) (r.getD (i + 1) 0) (r.getD (i + 2) 0)) → wX_isHad_17 post (nI r.length) (nI (qc_v 8 r)) xwc xdc xdm xsc xtc xnc xmc xbr xwt xch xtl xwf xdn xdf xdl xss xtk xta xtb xnk xna xnb xnl xnr xns xfa xfs xfi xrw xrc xcl xhd xre xhi xwo N (nI b) := by
    intro N
    induction N with
    | zero => intro b g1 g2; omega
    | succ N ih =>
      intro b g1 g2 g3
      refine pk_lt r.length (b + 3) (fun hlt => h1 (fun i hi => g3 i hi (by omega))) (fun hle => ?_) rfl (nI_add b 3)
      have e3 : (3 : Int32) * nI b = nI (3 * b) := pk_mul 3 b
      have hd : qc_v 8 r / 2 ^ (3 * b) ≤ qc_v 8 r := Nat.div_le_self _ _
      have ei : (nI (qc_v 8 r) >>> ((3 * nI b) &&& 31)) &&& 511 = nI ((r.getD (r.length - 3 - b) 0 * 8 + r.getD (r.length - 3 - b + 1) 0) * 8 + r.getD (r.length - 3 - b + 2) 0) := by
        rw [e3, pk_shrN (by omega) _ (3 * b) (s_l (3 * b) (by omega)), pk_andN (by omega) 9 (by decide)]
        congr 1
        have := qc_x_tri r hr.2 (r.length - 3 - b) (by omega)
        rw [show r.length - 3 - (r.length - 3 - b) = b by omega] at this
        rw [xr_p8, show (2 : Nat) ^ 9 = 512 from rfl]
        exact this
      have a := qc_get_in hr.2 (r.length - 3 - b) (by omega)
      have bb := qc_get_in hr.2 (r.length - 3 - b + 1) (by omega)
      have c := qc_get_in hr.2 (r.length - 3 - b + 2) (by omega)
      obtain ⟨t1, t2⟩ := tri (r.length - 3 - b) (by omega)
      refine ⟨pk_in _ 512 (by omega) ei, ?_⟩
      rw [ei, nI_clamp (by omega), t1]
      by_cases z : qt_any t t.length (36 * r.getD (r.length - 3 - b) 0 + 6 * r.getD (r.length - 3 - b + 1) 0 + r.getD (r.length - 3 - b + 2) 0) = true
      · rw [if_pos z]
        refine br_f (by decide) (nm_r (nI_1 b) (ih (b + 1) (by omega) (by omega) (fun i hi hb => ?_)))
        by_cases y : r.length - 3 - i = b
        · have e : i = r.length - 3 - b := by omega
          rw [e]
          exact t2.mp z
        · exact g3 i hi (by omega)
      · rw [if_neg z]
        exact br_t rfl (h0 (fun hh => z (t2.mpr (hh _ (by omega)))))
  unfold wpX_isHad
  refine nm_r (e' := nI r.length) (by rw [xr_len hr, lN_i]) (nm_r (e' := nI (qc_v 8 r)) (by rw [xr_low hr, lN_i]) ⟨r.length + 1, key (r.length + 1) 0 (by omega) (by omega) (fun i _ h => absurd h (by omega))⟩)
theorem xc_some (t : List Nat) (hhd : qx_hd t t.length xhd) (s : Nat) (hs : s < 120) (l : List (List Nat)) (hset : qx_set xrw xrc s (some l)) (xs' : Int32) (es : xs' = nI s) (post : Int32 → Prop) (h1 : qr_some l (qt_T t) → post 1) (h0 : ¬ qr_some l (qt_T t) → post 0) : wpX_someOf post (xwc, xdc, xdm, xsc, xtc, xnc, xmc, xbr, xwt, xch, xtl, xwf, xdn, xdf, xdl, xss, xtk, xta, xtb, xnk, xna, xnb, xnl, xnr, xns, xfa, xfs, xfi, xrw, xrc, xcl, xhd, xre, xhi, xwo) xs' := by
  subst es
  obtain ⟨b1, b2, b3, b4⟩ := hset
  have key : ∀ (N k : Nat), k ≤ l.length → l.length - k < N → (∀ j q, j < k → l[j]? = some q → ¬ qr_has q (qt_T t)) → wX_someOf_2 post (nI s) xwc xdc xdm xsc xtc xnc xmc xbr xwt xch xtl xwf xdn xdf xdl xss xtk xta xtb xnk xna xnb xnl xnr xns xfa xfs xfi xrw xrc xcl xhd xre xhi xwo N (nI k) := by
    intro N
    induction N with
    | zero => intro k g1 g2; omega
    | succ N ih =>
      intro k g1 g2 g3
      refine ⟨pk_in s 120 hs, ?_⟩
      rw [nI_clamp (by omega), b3]
      refine pk_le l.length k (fun hle => h0 (fun ⟨r, hr, hh⟩ => ?_)) (fun hlt => ⟨pk_in (s * 8 + k) 960 (by omega) (xr_ix s k), ?_⟩)
      · obtain ⟨j, hj, e⟩ := List.getElem_of_mem hr
        exact g3 j r (by omega) (by rw [List.getElem?_eq_getElem hj, e]) hh
      · have hg := List.getElem?_eq_getElem hlt
        rw [xr_ixc (by omega), b4 k _ hg]
        refine xc_had t hhd l[k] (b2 _ (List.getElem_mem hlt)) _ rfl _ (fun hh => br_f (by decide) (h1 ⟨_, List.getElem_mem hlt, hh⟩)) (fun hh => br_t rfl (nm_r (nI_1 k) (ih (k + 1) (by omega) (by omega) (fun j q hj hq => ?_))))
        by_cases z : j = k
        · subst z; rw [hg] at hq; cases hq; exact hh
        · exact g3 j q (by omega) hq
  exact ⟨l.length + 1, key (l.length + 1) 0 (by omega) (by omega) (fun j q hj => absurd hj (by omega))⟩
theorem xc_across (t : List Nat) (hhd : qx_hd t t.length xhd) (l r : Nat) (hl : l < 40) (hr : r < 40) (xs ys : List (List Nat)) (hx2 : ∀ a, a ∈ xs → a.length ≤ 2) (hy2 : ∀ a, a ∈ ys → a.length ≤ 2) (hX : qx_set xrw xrc (l * 3 + 2) (some xs)) (hY : qx_set xrw xrc (r * 3 + 1) (some ys)) (post : Int32 → Prop) (h1 : qr_some (qr_pr xs ys) (qt_T t) → post 1) (h0 : ¬ qr_some (qr_pr xs ys) (qt_T t) → post 0) : wpX_someAcross post (xwc, xdc, xdm, xsc, xtc, xnc, xmc, xbr, xwt, xch, xtl, xwf, xdn, xdf, xdl, xss, xtk, xta, xtb, xnk, xna, xnb, xnl, xnr, xns, xfa, xfs, xfi, xrw, xrc, xcl, xhd, xre, xhi, xwo) (nI l) (nI r) := by
  obtain ⟨b1, b2, b3, b4⟩ := hX
  obtain ⟨c1, c2, c3, c4⟩ := hY
  have inner : ∀ (J : Int32 → Prop) (i : Nat) (hi : i < xs.length), ((∀ b, b ∈ ys → ¬ qr_has (xs[i] ++ b) (qt_T t)) → J (nI (i + 1))) → ∀ (N k : Nat), k ≤ ys.length → ys.length - k < N → (∀ j q, j < k → ys[j]? = some q → ¬ qr_has (xs[i] ++ q) (qt_T t)) → wX_someAcross_30 post J (nI (l * 3 + 2)) (nI (r * 3 + 1)) (nI i) xwc xdc xdm xsc xtc xnc xmc xbr xwt xch xtl xwf xdn xdf xdl xss xtk xta xtb xnk xna xnb xnl xnr xns xfa xfs xfi xrw xrc xcl xhd xre xhi xwo N (nI k) := by
    intro J i hi hJ N
    induction N with
    | zero => intro k g1 g2; omega
    | succ N ih =>
      intro k g1 g2 g3
      refine ⟨pk_in (r * 3 + 1) 120 (by omega), ?_⟩
      rw [nI_clamp (by omega), c3]
      refine pk_le ys.length k (fun hle => nm_r (nI_1 i) (hJ (fun b hb => ?_))) (fun hlt => ⟨pk_in ((l * 3 + 2) * 8 + i) 960 (by omega) (xr_ix _ i), pk_in ((r * 3 + 1) * 8 + k) 960 (by omega) (xr_ix _ k), ?_⟩)
      · obtain ⟨j, hj, e⟩ := List.getElem_of_mem hb
        exact g3 j b (by omega) (by rw [List.getElem?_eq_getElem hj, e])
      · have hgx := List.getElem?_eq_getElem hi
        have hgy := List.getElem?_eq_getElem hlt
        have mx := List.getElem_mem hi
        have my := List.getElem_mem hlt
        have lx := hx2 _ mx
        have ly := hy2 _ my
        have rx := b2 _ mx
        have ry := c2 _ my
        rw [xr_ixc (by omega), xr_ixc (by omega), b4 i _ hgx, c4 k _ hgy]
        refine xr_join rx ry _ _ rfl rfl (by omega) _ ?_
        have hrw : qr_rw (xs[i] ++ ys[k]) := ⟨by rw [List.length_append]; omega, fun z hz => (List.mem_append.mp hz).elim (rx.2 z) (ry.2 z)⟩
        refine xc_had t hhd _ hrw _ rfl _ (fun hh => br_f (by decide) (h1 ⟨_, qr_mem_pr.mpr ⟨_, mx, _, my, rfl⟩, hh⟩)) (fun hh => br_t rfl (nm_r (nI_1 k) (ih (k + 1) (by omega) (by omega) (fun j q hj hq => ?_))))
        by_cases z : j = k
        · subst z; rw [hgy] at hq; cases hq; exact hh
        · exact g3 j q (by omega) hq
  have outer : ∀ (N i : Nat), i ≤ xs.length → xs.length - i < N → (∀ j q, j < i → xs[j]? = some q → ∀ b, b ∈ ys → ¬ qr_has (q ++ b) (qt_T t)) → wX_someAcross_16 post (nI (l * 3 + 2)) (nI (r * 3 + 1)) xwc xdc xdm xsc xtc xnc xmc xbr xwt xch xtl xwf xdn xdf xdl xss xtk xta xtb xnk xna xnb xnl xnr xns xfa xfs xfi xrw xrc xcl xhd xre xhi xwo N (nI i) := by
    intro N
    induction N with
    | zero => intro i g1 g2; omega
    | succ N ih =>
      intro i g1 g2 g3
      refine ⟨pk_in (l * 3 + 2) 120 (by omega), ?_⟩
      rw [nI_clamp (by omega), b3]
      refine pk_le xs.length i (fun hle => h0 (fun ⟨q, hq, hh⟩ => ?_)) (fun hlt => ⟨ys.length + 1, ?_⟩)
      · obtain ⟨a, ha, b, hb, e⟩ := qr_mem_pr.mp hq
        obtain ⟨j, hj, e2⟩ := List.getElem_of_mem ha
        rw [e] at hh
        exact g3 j a (by omega) (by rw [List.getElem?_eq_getElem hj, e2]) b hb hh
      · refine inner _ i hlt (fun hn => ih (i + 1) (by omega) (by omega) (fun j q hj hq => ?_)) (ys.length + 1) 0 (by omega) (by omega) (fun j q hj => absurd hj (by omega))
        by_cases z : j = i
        · subst z; rw [List.getElem?_eq_getElem hlt] at hq; cases hq; exact hn
        · exact g3 j q (by omega) hq
  unfold wpX_someAcross
  refine nm_r (e' := nI (l * 3 + 2)) (by rw [xn_3, xn_32]) (nm_r (e' := nI (r * 3 + 1)) (by rw [xn_3, xn_31]) ⟨xs.length + 1, outer (xs.length + 1) 0 (by omega) (by omega) (fun j q hj => absurd hj (by omega))⟩)
theorem xc_of (t : List Nat) (hhd : qx_hd t t.length xhd) (n m : Nat) (D : Nat → qv_T) (hm : m ≤ 33) (hn : n < m) (hok : qn_ok qv_lf qv_un qv_bi xnk xna xnb xnl xnr m D) (hwf : ∀ j, j < m → qi_wf (D j).2.1) (hin : ∀ j, j < m → qx_in xrw xrc j (D j).2.1) (hcl : ∀ j, j < n → ((D j).2.1.2.2.2 (qt_T t) → xcl j = 1) ∧ (¬ (D j).2.1.2.2.2 (qt_T t) → xcl j = 0)) (post : Int32 → Prop) (h1 : (D n).2.1.2.2.2 (qt_T t) → post 1) (h0 : ¬ (D n).2.1.2.2.2 (qt_T t) → post 0) : wpX_claimOf post (xwc, xdc, xdm, xsc, xtc, xnc, xmc, xbr, xwt, xch, xtl, xwf, xdn, xdf, xdl, xss, xtk, xta, xtb, xnk, xna, xnb, xnl, xnr, xns, xfa, xfs, xfi, xrw, xrc, xcl, xhd, xre, xhi, xwo) (nI n) := by
  have hin40 : vp_in (nI n) 40 := pk_in n 40 (by omega)
  have cn : (nI n).toNatClampNeg = n := nI_clamp (by omega)
  obtain ⟨k, l, r, ek, el, er, hl, hr, hc⟩ := hok n hn
  obtain ⟨i1, i2, i3⟩ := hin n hn
  have hwn := hwf n hn
  unfold wpX_claimOf
  refine ⟨hin40, nm_r (e' := nI l) (by rw [cn]; exact el) ⟨hin40, nm_r (e' := nI r) (by rw [cn]; exact er) ⟨pk_in (n * 3) 120 (by omega) (xn_3 n), ?_⟩⟩⟩
  rw [xn_3, nI_clamp (by omega), i1.2.2.1]
  cases hw : (D n).2.1.1 with
  | some ws =>
    have ww := qi_wf_w hwn hw
    rw [hw] at i1
    have ek' := (hwn.1 ws hw).2
    refine br_f (by show ¬ nI ws.length ≤ 0; exact nI_nle (by omega) (by omega)) ?_
    have ecl : (D n).2.1.2.2.2 = qr_some ws := by rw [ek']; rfl
    rw [ecl] at h1 h0
    exact xc_some t hhd (n * 3) (by omega) ws i1 _ rfl _ (fun h => ⟨xc_n1, h1 h⟩) (fun h => ⟨xc_n0, h0 h⟩)
  | none =>
    refine br_t (by show nI 0 ≤ 0; decide) ⟨hin40, nm_r (e' := nI k) (by rw [cn]; exact ek) ?_⟩
    have cl1 : ∀ j : Nat, j < n → vp_in (nI j) 40 := fun j hj => pk_in j 40 (by omega)
    rcases hc with ⟨hk, a, ea, ha1, ha2, ev⟩ | ⟨hk, ev⟩ | ⟨hk, hl', ev⟩ | ⟨hk, hl', a, b, ea, eb, hab, hb3, hb1, ev⟩ | ⟨hk, hl', hr', ev⟩
    · refine br_t (nI_lt (b := 5) (by omega) (by decide)) (h1 ?_)
      rw [ev] at hw ⊢
      show (qi_lf 2 a).2.2.2 (qt_T t)
      have hw : (qi_lf 2 a).1 = none := hw
      unfold qi_lf at hw ⊢
      rw [if_pos rfl] at hw ⊢
      by_cases z : (qi_ls a).length ≤ 3
      · rw [if_pos z] at hw; exact nomatch hw
      · rw [if_neg z]; exact trivial
    · rw [ev] at hw
      have hw : (qi_lf k 0).1 = none := hw
      unfold qi_lf at hw
      rw [if_neg (by omega)] at hw
      exact nomatch hw
    · rcases hk with h | h
      · subst h
        refine br_f (by decide) (br_f (by decide) (br_f (by decide) (br_t rfl (h1 ?_))))
        rw [ev]
        exact trivial
      · subst h
        refine br_f (by decide) (br_f (by decide) (br_f (by decide) (br_f (by decide) (br_t rfl ⟨cl1 l hl', ?_⟩))))
        rw [nI_clamp (by omega)]
        have e : (D n).2.1.2.2.2 (qt_T t) ↔ (D l).2.1.2.2.2 (qt_T t) := by rw [ev]; exact Iff.rfl
        by_cases z : (D l).2.1.2.2.2 (qt_T t)
        · rw [(hcl l hl').1 z]; exact ⟨xc_n1, h1 (e.mpr z)⟩
        · rw [(hcl l hl').2 z]; exact ⟨xc_n0, h0 (fun h => z (e.mp h))⟩
    · subst hk
      refine br_f (by decide) (br_f (by decide) (br_f (by decide) (br_f (by decide) (br_f (by decide) (br_f (by decide) (br_t rfl ⟨hin40, ?_⟩))))))
      rw [cn, ea]
      have e : (D n).2.1 = qi_un 9 a (D l).2.1 := by rw [ev]; rfl
      refine pk_eq a 0 (fun e0 => h1 ?_) (fun e0 => ⟨cl1 l hl', ?_⟩)
      · rw [e]; unfold qi_un; rw [if_neg (by decide), if_pos rfl, if_pos e0]; exact trivial
      · have e2 : (D n).2.1.2.2.2 (qt_T t) ↔ (D l).2.1.2.2.2 (qt_T t) := by rw [e]; unfold qi_un; rw [if_neg (by decide), if_pos rfl, if_neg e0]; exact Iff.rfl
        rw [nI_clamp (by omega)]
        by_cases z : (D l).2.1.2.2.2 (qt_T t)
        · rw [(hcl l hl').1 z]; exact br_f (by decide) (h1 (e2.mpr z))
        · rw [(hcl l hl').2 z]; exact br_t rfl (h0 (fun h => z (e2.mp h)))
    · have alt : (k = 5 ∨ k = 8) → wX_claimOf_88 post (nI l) (nI r) xwc xdc xdm xsc xtc xnc xmc xbr xwt xch xtl xwf xdn xdf xdl xss xtk xta xtb xnk xna xnb xnl xnr xns xfa xfs xfi xrw xrc xcl xhd xre xhi xwo := by
        intro hk'
        have e : (D n).2.1 = qi_alt (D l).2.1 (D r).2.1 := by
          rw [ev]
          show qi_bi k _ _ = _
          unfold qi_bi
          rw [if_neg (by omega)]
        have e2 : (D n).2.1.2.2.2 (qt_T t) ↔ (D l).2.1.2.2.2 (qt_T t) ∨ (D r).2.1.2.2.2 (qt_T t) := by
          rw [e] at hw ⊢
          rw [qi_alt_unk hw]
          exact Iff.rfl
        refine ⟨cl1 l hl', ?_⟩
        rw [nI_clamp (by omega)]
        by_cases z : (D l).2.1.2.2.2 (qt_T t)
        · rw [(hcl l hl').1 z]; exact br_f (by decide) (h1 (e2.mpr (Or.inl z)))
        · rw [(hcl l hl').2 z]
          refine br_t rfl ⟨cl1 r hr', ?_⟩
          rw [nI_clamp (by omega)]
          by_cases y : (D r).2.1.2.2.2 (qt_T t)
          · rw [(hcl r hr').1 y]; exact br_f (by decide) (h1 (e2.mpr (Or.inr y)))
          · rw [(hcl r hr').2 y]; exact br_t rfl (h0 (fun h => (e2.mp h).elim z y))
      rcases hk with h | h | h
      · subst h; exact br_f (by decide) (br_f (by decide) (br_t rfl (alt (Or.inl rfl))))
      · subst h; exact br_f (by decide) (br_f (by decide) (br_f (by decide) (br_f (by decide) (br_f (by decide) (br_t rfl (alt (Or.inr rfl)))))))
      · subst h
        refine br_f (by decide) (br_f (by decide) (br_f (by decide) (br_f (by decide) (br_f (by decide) (br_f (by decide) (br_f (by decide) (br_f (by decide) (br_f (by decide) (br_f (by decide) (br_t rfl ⟨cl1 l hl', ?_⟩))))))))))
        have e : (D n).2.1 = qi_seq (D l).2.1 (D r).2.1 := by rw [ev]; rfl
        have e2 : (D n).2.1.2.2.2 (qt_T t) ↔ (D l).2.1.2.2.2 (qt_T t) ∧ (D r).2.1.2.2.2 (qt_T t) ∧ qr_some (qr_pr (D l).2.1.2.2.1 (D r).2.1.2.1) (qt_T t) := by
          rw [e] at hw ⊢
          rw [qi_seq_unk hw]
          exact Iff.rfl
        rw [nI_clamp (by omega)]
        by_cases z : (D l).2.1.2.2.2 (qt_T t)
        · rw [(hcl l hl').1 z]
          refine br_f (by decide) ⟨cl1 r hr', ?_⟩
          rw [nI_clamp (by omega)]
          by_cases y : (D r).2.1.2.2.2 (qt_T t)
          · rw [(hcl r hr').1 y]
            refine br_f (by decide) ?_
            exact xc_across t hhd l r (by omega) (by omega) (D l).2.1.2.2.1 (D r).2.1.2.1 (qi_wf_t (hwf l (by omega))).2.2.2 (qi_wf_h (hwf r (by omega))).2.2.2 (hin l (by omega)).2.2 (hin r (by omega)).2.1 _ (fun h => br_f (by decide) (h1 (e2.mpr ⟨z, y, h⟩))) (fun h => br_t rfl (h0 (fun w => h (e2.mp w).2.2)))
          · rw [(hcl r hr').2 y]; exact br_t rfl (h0 (fun w => y (e2.mp w).2.1))
        · rw [(hcl l hl').2 z]; exact br_t rfl (h0 (fun w => z (e2.mp w).1))
theorem xc_holds (f : Nat) (hf : f < 10) (t : List Nat) (ht : qf_t t) (hs : qx_slot xch xtl f (some t)) (m root : Nat) (D : Nat → qv_T) (hm : m ≤ 33) (hr : root < m) (hnc : xnc = nI m) (hok : qn_ok qv_lf qv_un qv_bi xnk xna xnb xnl xnr m D) (hwf : ∀ j, j < m → qi_wf (D j).2.1) (hin : ∀ j, j < m → qx_in xrw xrc j (D j).2.1) (post : Int32 → SX → Prop)
  (h1 : (D root).2.1.2.2.2 (qt_T t) → ∀ hd cl : Nat → Int32, post 1 (xwc, xdc, xdm, xsc, xtc, xnc, xmc, xbr, xwt, xch, xtl, xwf, xdn, xdf, xdl, xss, xtk, xta, xtb, xnk, xna, xnb, xnl, xnr, xns, xfa, xfs, xfi, xrw, xrc, cl, hd, xre, xhi, xwo)) (h0 : ¬ (D root).2.1.2.2.2 (qt_T t) → ∀ hd cl : Nat → Int32, post 0 (xwc, xdc, xdm, xsc, xtc, xnc, xmc, xbr, xwt, xch, xtl, xwf, xdn, xdf, xdl, xss, xtk, xta, xtb, xnk, xna, xnb, xnl, xnr, xns, xfa, xfs, xfi, xrw, xrc, cl, hd, xre, xhi, xwo)) : wpX_claimHolds post (xwc, xdc, xdm, xsc, xtc, xnc, xmc, xbr, xwt, xch, xtl, xwf, xdn, xdf, xdl, xss, xtk, xta, xtb, xnk, xna, xnb, xnl, xnr, xns, xfa, xfs, xfi, xrw, xrc, xcl, xhd, xre, xhi, xwo) (nI f) (nI root) := by
  subst hnc
  unfold wpX_claimHolds
  refine xm_mark f (by omega) t ht hs _ (fun hd hhd => ?_)
  have key : ∀ (N n : Nat) (cl : Nat → Int32), n ≤ m → m - n < N → (∀ j, j < n → ((D j).2.1.2.2.2 (qt_T t) → cl j = 1) ∧ (¬ (D j).2.1.2.2.2 (qt_T t) → cl j = 0)) → wX_claimHolds_8 post (nI root) xwc xdc xdm xsc xtc (nI m) xmc xbr xwt N (nI n) xch xtl xwf xdn xdf xdl xss xtk xta xtb xnk xna xnb xnl xnr xns xfa xfs xfi xrw xrc cl hd xre xhi xwo := by
    intro N
    induction N with
    | zero => intro n cl g1 g2; omega
    | succ N ih =>
      intro n cl g1 g2 g3
      refine pk_le m n (fun hle => ⟨pk_in root 40 (by omega), ?_⟩) (fun hlt => ?_)
      · rw [nI_clamp (by omega)]
        by_cases z : (D root).2.1.2.2.2 (qt_T t)
        · rw [(g3 root (by omega)).1 z]; exact ⟨xc_n1, h1 z hd cl⟩
        · rw [(g3 root (by omega)).2 z]; exact ⟨xc_n0, h0 z hd cl⟩
      · have fin : ∀ b : Int32, vp_nar .boolean b = b → ((D n).2.1.2.2.2 (qt_T t) → b = 1) → (¬ (D n).2.1.2.2.2 (qt_T t) → b = 0) → vp_in (nI n) 40 ∧ ∀ y, y = upd cl (nI n).toNatClampNeg (vp_nar .boolean b) → ∀ x, x = nI n + 1 → wX_claimHolds_8 post (nI root) xwc xdc xdm xsc xtc (nI m) xmc xbr xwt N x xch xtl xwf xdn xdf xdl xss xtk xta xtb xnk xna xnb xnl xnr xns xfa xfs xfi xrw xrc y hd xre xhi xwo := by
          intro b eb b1 b0
          refine ⟨pk_in n 40 (by omega), nm_e (nm_r (nI_1 n) ?_)⟩
          rw [nI_clamp (by omega), eb]
          refine ih (n + 1) _ (by omega) (by omega) (fun j hj => ?_)
          by_cases z : j = n
          · subst z; rw [pk_us]; exact ⟨b1, b0⟩
          · rw [pk_un z]; exact g3 j (by omega)
        exact xc_of (xhd := hd) (xcl := cl) t hhd n m D hm hlt hok hwf hin g3 _ (fun z => fin 1 xs_b1 (fun _ => rfl) (fun y => absurd z y)) (fun z => fin 0 xs_b0 (fun y => absurd y z) (fun _ => rfl))
  exact ⟨m + 1, key (m + 1) 0 xcl (by omega) (by omega) (fun j hj => absurd hj (by omega))⟩
end
