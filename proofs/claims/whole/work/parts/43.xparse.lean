/-! the class reads the expression: nodes -/
section
variable {V : Type} (lf : Nat → Nat → V) (un : Nat → Nat → Nat → V → V) (bi : Nat → V → V → V) (big : V → Prop)
variable {ywa ydd ynd yns yma ynt yno yrc yfo ybl yod ywr : Int32} {yan yab yac yad yal yabl yacl yacf ynu yfi ypa ysz yli ytx yki yf1 yf2 yo yoa yob yit yss ymo yst ymy ycl yrw yow yhi yla : Nat → Int32} {yen : Nat → Int64}
theorem yp_parse (nt : Nat) (hk : qk_ok yki yf1 yf2 nt) (hnt : ynt = nI nt) (hnb : ¬ big (lf 12 0)) (post : Int32 → SY → Prop)
  (hb : ∀ (r : Int32) (no : Int32) (o' oa' ob' it' mo' : Nat → Int32), r = qp_wrong lf un bi big (qk_K yki) (qk_K yf1) (qk_K yf2) nt → r ≠ -1 → post r (ywa, ydd, ynd, yns, yma, ynt, no, yrc, yfo, ybl, yod, ywr, yan, yab, yac, yad, yal, yabl, yacl, yacf, ynu, yfi, ypa, ysz, yli, ytx, yki, yf1, yf2, o', oa', ob', it', yss, mo', yst, ymy, ycl, yrw, yow, yen, yhi, yla))
  (hg : ∀ (n' : Nat) (o' oa' ob' it' mo' : Nat → Int32), qp_wrong lf un bi big (qk_K yki) (qk_K yf1) (qk_K yf2) nt = -1 → n' ≤ 33 → qp_YO lf un bi big o' oa' ob' n' [qp_alt bi ((qp_run lf un bi big (qk_K yki) (qk_K yf1) (qk_K yf2) nt).2.1 0) (qp_sq lf (qp_join bi ((qp_run lf un bi big (qk_K yki) (qk_K yf1) (qk_K yf2) nt).2.2.1 0) ((qp_run lf un bi big (qk_K yki) (qk_K yf1) (qk_K yf2) nt).2.2.2.1 0)))] (qp_end lf bi big 0 (qp_run lf un bi big (qk_K yki) (qk_K yf1) (qk_K yf2) nt)).2.2.2.2 → post (-1) (ywa, ydd, ynd, yns, yma, ynt, nI n', yrc, yfo, ybl, yod, ywr, yan, yab, yac, yad, yal, yabl, yacl, yacf, ynu, yfi, ypa, ysz, yli, ytx, yki, yf1, yf2, o', oa', ob', it', yss, mo', yst, ymy, ycl, yrw, yow, yen, yhi, yla)) : wpY_parse post (ywa, ydd, ynd, yns, yma, ynt, yno, yrc, yfo, ybl, yod, ywr, yan, yab, yac, yad, yal, yabl, yacl, yacf, ynu, yfi, ypa, ysz, yli, ytx, yki, yf1, yf2, yo, yoa, yob, yit, yss, ymo, yst, ymy, ycl, yrw, yow, yen, yhi, yla) := by
  unfold wpY_parse
  have h0 : vp_in (0 : Int32) 20 := pk_in 0 20 (by omega)
  refine And.intro h0 (nm_e (And.intro h0 (nm_e ⟨nt + 1, ?_⟩)))
  refine yp_loop lf un bi big nt hk hnt hnb post hb hg (nt + 1) 0 0 yo yoa yob _ _ (by omega) (by omega) rfl ?_
  refine ⟨fun l _ _ => rfl, Nat.le_refl _, Nat.le_refl _, Nat.le_refl _, qp_YO_iff lf un bi big (qp_YO_0 lf un bi big yo yoa yob) rfl ?_, fun l hl => absurd hl (by show ¬ l < 0; omega), ?_, fun l hl => ?_⟩
  · unfold qp_pd
    constructor
    · exact fun h => h.elim
    · rintro (h | ⟨l, hl, _⟩)
      · exact h
      · exact absurd hl (by show ¬ l < 0; omega)
  · exact pk_us
  · have e : l = 0 := Nat.le_zero.mp hl
    subst e
    rw [xs_b0]
    exact pk_us
end
section
variable {V : Type} (lf : Nat → Nat → V) (un : Nat → Nat → Nat → V → V) (bi : Nat → V → V → V) (big : V → Prop)
variable {xwc xdc xdm xsc xtc xnc xmc xbr xwt : Int32} {xch xtl xwf xdn xdf xdl xss xtk xta xtb xnk xna xnb xnl xnr xns xfa xfs xfi xrc xcl xhd xhi xwo : Nat → Int32} {xrw xre : Nat → Int64}
theorem xe_add (m : Nat) (hm : m < 40) (hnc : xnc = nI m) (k a b l r : Int32) (post : Int32 → SX → Prop) (hp : post (nI m) (xwc, xdc, xdm, xsc, xtc, nI (m + 1), xmc, xbr, xwt, xch, xtl, xwf, xdn, xdf, xdl, xss, xtk, xta, xtb, upd xnk m k, upd xna m a, upd xnb m b, upd xnl m l, upd xnr m r, xns, xfa, xfs, xfi, xrw, xrc, xcl, xhd, xre, xhi, xwo)) : wpX_addNode post (xwc, xdc, xdm, xsc, xtc, xnc, xmc, xbr, xwt, xch, xtl, xwf, xdn, xdf, xdl, xss, xtk, xta, xtb, xnk, xna, xnb, xnl, xnr, xns, xfa, xfs, xfi, xrw, xrc, xcl, xhd, xre, xhi, xwo) k a b l r := by
  subst hnc
  have hi : vp_in (nI m) 40 := pk_in m 40 hm
  refine br_t (nI_lt (b := 40) hm (by decide)) ⟨hi, nm_e ⟨hi, nm_e ⟨hi, nm_e ⟨hi, nm_e ⟨hi, nm_e (nm_r (nI_1 m) ?_)⟩⟩⟩⟩⟩
  rw [nI_clamp (by omega)]
  exact hp
theorem xe_take (l m : Nat) (hl : l < 17) (hm : m < 40) (hnc : xnc = nI m) (s i : Option V) (D : Nat → V) (hok : qn_ok lf un bi xnk xna xnb xnl xnr m D) (hs : qn_fr D m (xfs l) s) (hi : qn_fr D m (xfi l) i) (hsi : i = none → s = none) (nx : Int32) (post : SX → Prop)
  (hp : ∀ (m' : Nat) (D' : Nat → V) (K' A' B' L' R' FS' : Nat → Int32), m ≤ m' → m' ≤ m + 1 → m' + qp_c (qp_join bi s i) ≤ m + qp_c s + qp_c i → qn_ok lf un bi K' A' B' L' R' m' D' → (∀ x o, qn_fr D m x o → qn_fr D' m' x o) → qn_fr D' m' (FS' l) (qp_join bi s i) → (∀ j, j ≠ l → FS' j = xfs j) → ((∃ n, n < m' ∧ big (D' n)) ↔ (∃ n, n < m ∧ big (D n)) ∨ qp_jbig bi big s i) → post (xwc, xdc, xdm, xsc, xtc, nI m', xmc, xbr, xwt, xch, xtl, xwf, xdn, xdf, xdl, xss, xtk, xta, xtb, K', A', B', L', R', xns, xfa, FS', upd xfi l nx, xrw, xrc, xcl, xhd, xre, xhi, xwo)) : wpX_takeItem post (xwc, xdc, xdm, xsc, xtc, xnc, xmc, xbr, xwt, xch, xtl, xwf, xdn, xdf, xdl, xss, xtk, xta, xtb, xnk, xna, xnb, xnl, xnr, xns, xfa, xfs, xfi, xrw, xrc, xcl, xhd, xre, xhi, xwo) (nI l) nx := by
  have hil : vp_in (nI l) 17 := pk_in l 17 hl
  have cl : (nI l).toNatClampNeg = l := nI_clamp (by omega)
  unfold wpX_takeItem
  refine ⟨hil, nm_r (e' := xfi l) (by rw [cl]) ⟨hil, nm_r (e' := xfs l) (by rw [cl]) ?_⟩⟩
  match s, i, hs, hi, hsi, hp with
  | some y, none, _, _, hsi, _ => exact absurd (hsi rfl) (fun z => nomatch z)
  | none, none, hs, hi, _, hp =>
    refine br_t hi ⟨hil, nm_e ?_⟩
    rw [cl]
    subst hnc
    exact hp m D xnk xna xnb xnl xnr xfs (Nat.le_refl _) (by omega) (Nat.le_refl _) hok (fun _ _ h => h) hs (fun _ _ => rfl) ⟨Or.inl, fun h => h.elim id (fun ⟨x, y, e, _⟩ => nomatch e)⟩
  | none, some x, hs, hi, _, hp =>
    obtain ⟨j, hj, ej, dj⟩ := hi
    refine br_f (by rw [ej]; exact xs_nm1 (by omega)) (br_t hs ⟨hil, nm_e ⟨hil, nm_e ?_⟩⟩)
    rw [cl]
    subst hnc
    exact hp m D xnk xna xnb xnl xnr (upd xfs l (xfi l)) (Nat.le_refl _) (by omega) (by simp [qp_c, qp_join]) hok (fun _ _ h => h) ⟨j, hj, pk_us.trans ej, dj⟩ (fun j hj => pk_un hj) ⟨Or.inl, fun h => h.elim id (fun ⟨x, y, _, e, _⟩ => nomatch e)⟩
  | some y, some x, hs, hi, _, hp =>
    obtain ⟨j, hj, ej, dj⟩ := hi
    obtain ⟨g, hg, eg, dg⟩ := hs
    refine br_f (by rw [ej]; exact xs_nm1 (by omega)) (br_f (by rw [eg]; exact xs_nm1 (by omega)) ?_)
    refine xe_add m hm hnc 13 0 0 _ _ _ ⟨hil, nm_e ⟨hil, nm_e ?_⟩⟩
    rw [cl]
    have hlc : qn_lc lf un bi 13 0 0 (xfs l) (xfi l) D m (bi 13 y x) := ⟨13, g, j, rfl, eg, ej, by omega, by omega, Or.inr (Or.inr (Or.inr (Or.inr ⟨by omega, hg, hj, by rw [dg, dj]⟩)))⟩
    refine hp (m + 1) (qn_D D m (bi 13 y x)) _ _ _ _ _ (upd xfs l (nI m)) (by omega) (Nat.le_refl _) (by simp [qp_c, qp_join]) (qn_add lf un bi hok hlc) (fun x' o' h => qn_fr_up _ h) ?_ (fun j hj => pk_un hj) ?_
    · show qn_fr _ _ _ (some (bi 13 y x))
      rw [pk_us]
      exact qn_fr_new D m _
    · rw [qn_big]
      constructor
      · rintro (h | h)
        · exact Or.inl h
        · exact Or.inr ⟨x, y, rfl, rfl, h⟩
      · rintro (h | ⟨x', y', e1, e2, h⟩)
        · exact Or.inl h
        · cases e1; cases e2; exact Or.inr h
theorem xe_end (l m : Nat) (hl : l < 17) (hm : m < 37) (hnc : xnc = nI m) (a s i : Option V) (D : Nat → V) (hnb : ¬ big (lf 12 0)) (hok : qn_ok lf un bi xnk xna xnb xnl xnr m D) (ha : qn_fr D m (xfa l) a) (hs : qn_fr D m (xfs l) s) (hi : qn_fr D m (xfi l) i) (hsi : i = none → s = none) (post : SX → Prop)
  (hp : ∀ (m' : Nat) (D' : Nat → V) (K' A' B' L' R' FA' FS' FI' : Nat → Int32), m' + 1 ≤ m + qp_c a + qp_c s + qp_c i + 2 → m' ≤ m + 3 → qn_ok lf un bi K' A' B' L' R' m' D' → (∀ x o, qn_fr D m x o → qn_fr D' m' x o) → qn_fr D' m' (FA' l) (some (qp_alt bi a (qp_sq lf (qp_join bi s i)))) → FS' l = -1 → FI' l = -1 → (∀ j, j ≠ l → FA' j = xfa j ∧ FS' j = xfs j ∧ FI' j = xfi j) → ((∃ n, n < m' ∧ big (D' n)) ↔ ((∃ n, n < m ∧ big (D n)) ∨ qp_jbig bi big s i) ∨ big (qp_alt bi a (qp_sq lf (qp_join bi s i)))) → post (xwc, xdc, xdm, xsc, xtc, nI m', xmc, xbr, xwt, xch, xtl, xwf, xdn, xdf, xdl, xss, xtk, xta, xtb, K', A', B', L', R', xns, FA', FS', FI', xrw, xrc, xcl, xhd, xre, xhi, xwo)) : wpX_endSeq post (xwc, xdc, xdm, xsc, xtc, xnc, xmc, xbr, xwt, xch, xtl, xwf, xdn, xdf, xdl, xss, xtk, xta, xtb, xnk, xna, xnb, xnl, xnr, xns, xfa, xfs, xfi, xrw, xrc, xcl, xhd, xre, xhi, xwo) (nI l) := by
  have hil : vp_in (nI l) 17 := pk_in l 17 hl
  have cl : (nI l).toNatClampNeg = l := nI_clamp (by omega)
  unfold wpX_endSeq
  refine xe_take lf un bi big l m hl (by omega) hnc s i D hok hs hi hsi (-1) _ (fun m1 D1 K1 A1 B1 L1 R1 FS1 hm1 hm1' hc1 hok1 hup1 hfs1 ho1 hb1 => ?_)
  -- behind the seq
  have fin : ∀ (m2 : Nat) (D2 : Nat → V) (K2 A2 B2 L2 R2 : Nat → Int32) (x2 : Int32), m2 ≤ m1 + 1 → m2 + 1 ≤ m + qp_c s + qp_c i + 2 → qn_ok lf un bi K2 A2 B2 L2 R2 m2 D2 → (∀ x o, qn_fr D m x o → qn_fr D2 m2 x o) → qn_fr D2 m2 x2 (some (qp_sq lf (qp_join bi s i))) → ((∃ n, n < m2 ∧ big (D2 n)) ↔ (∃ n, n < m ∧ big (D n)) ∨ qp_jbig bi big s i) → wX_endSeq_29 post (nI l) x2 xwc xdc xdm xsc xtc (nI m2) xmc xbr xwt xch xtl xwf xdn xdf xdl xss xtk xta xtb K2 A2 B2 L2 R2 xns xfa FS1 (upd xfi l (-1)) xrw xrc xcl xhd xre xhi xwo := by
    intro m2 D2 K2 A2 B2 L2 R2 x2 hm2 hc2 hok2 hup2 hfr2 hb2
    refine ⟨hil, nm_r (e' := xfa l) (by rw [cl]) ?_⟩
    cases a with
    | none =>
      refine br_t ha ⟨hil, nm_e ⟨hil, nm_e ?_⟩⟩
      rw [cl]
      refine hp m2 D2 _ _ _ _ _ _ _ _ (by show m2 + 1 ≤ m + 0 + _ + _ + 2; omega) (by omega) hok2 hup2 ?_ pk_us pk_us (fun j hj => ⟨pk_un hj, (pk_un hj).trans (ho1 j hj), pk_un hj⟩) ?_
      · rw [pk_us]; exact hfr2
      · rw [hb2]
        constructor
        · exact Or.inl
        · rintro (h | h)
          · exact h
          · obtain ⟨j, hj, _, dj⟩ := hfr2
            refine hb2.mp ⟨j, hj, ?_⟩
            rw [dj]; exact h
    | some y =>
      obtain ⟨j, hj, ej, dj⟩ := hup2 _ _ ha
      obtain ⟨g, hg, eg, dg⟩ := hfr2
      refine br_f (by rw [ej]; exact xs_nm1 (by omega)) ?_
      refine xe_add m2 (by omega) rfl 5 0 0 _ _ _ ⟨hil, nm_e ⟨hil, nm_e ?_⟩⟩
      rw [cl]
      have hlc : qn_lc lf un bi 5 0 0 (xfa l) x2 D2 m2 (bi 5 y (qp_sq lf (qp_join bi s i))) := ⟨5, j, g, rfl, ej, eg, by omega, by omega, Or.inr (Or.inr (Or.inr (Or.inr ⟨by omega, hj, hg, by rw [dg, dj]⟩)))⟩
      refine hp (m2 + 1) (qn_D D2 m2 (bi 5 y (qp_sq lf (qp_join bi s i)))) _ _ _ _ _ _ _ _ (by show m2 + 1 + 1 ≤ m + 1 + _ + _ + 2; omega) (by omega) (qn_add lf un bi hok2 hlc) (fun x' o' h => qn_fr_up _ (hup2 _ _ h)) ?_ pk_us pk_us (fun j hj => ⟨pk_un hj, (pk_un hj).trans (ho1 j hj), pk_un hj⟩) ?_
      · rw [pk_us]; exact qn_fr_new D2 m2 _
      · rw [qn_big, hb2]
        exact Iff.rfl
  refine ⟨hil, nm_r (e' := FS1 l) (by rw [cl]) ?_⟩
  cases hj : qp_join bi s i with
  | none =>
    rw [hj] at hfs1 hc1 fin
    refine br_t hfs1 ?_
    refine xe_add m1 (by omega) rfl 12 0 0 0 0 _ ?_
    have hlc : qn_lc lf un bi 12 0 0 0 0 D1 m1 (lf 12 0) := ⟨12, 0, 0, rfl, rfl, rfl, by omega, by omega, Or.inr (Or.inl ⟨by omega, rfl⟩)⟩
    refine fin (m1 + 1) (qn_D D1 m1 (lf 12 0)) _ _ _ _ _ _ (Nat.le_refl _) (by have : qp_c (none : Option V) = 0 := rfl; omega) (qn_add lf un bi hok1 hlc) (fun x' o' h => qn_fr_up _ (hup1 _ _ h)) (qn_fr_new D1 m1 _) ?_
    rw [qn_big, hb1]
    exact ⟨fun h => h.elim id (fun h => absurd h hnb), Or.inl⟩
  | some y =>
    rw [hj] at hfs1 hc1 fin
    have hne : ¬ FS1 l = -1 := by
      obtain ⟨g, hg, eg, _⟩ := hfs1
      rw [eg]; exact xs_nm1 (by omega)
    exact br_f hne (fin m1 D1 K1 A1 B1 L1 R1 (FS1 l) (by omega) (by have : qp_c (some y) = 1 := rfl; omega) hok1 hup1 hfs1 hb1)
end
