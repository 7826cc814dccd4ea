/-! a file is searched line by line -/
theorem qh_file_len (v : qv_T) (f : Nat) (t : List Nat) (ht : t.length ≤ 40) : ∀ m i b l, i + m = t.length + 1 → (qh_sc t (qh_g v f t) m i b l).length ≤ 41 * m
  | 0, _, _, _, _ => Nat.le_refl _
  | m + 1, i, b, l, h => by
    unfold qh_sc
    split
    · have := qh_file_len v f t ht m (i + 1) b l (by omega)
      omega
    · rw [List.length_append]
      have h1 := qh_file_len v f t ht m (i + 1) (i + 1) (l + 1) (by omega)
      have h2 : (qh_g v f t l b (i - b)).length ≤ i - b + 1 := by
        unfold qh_g
        rw [List.length_map]
        exact qh_ln_len _ _ _ _
      omega
theorem qh_ME {v : qv_T} {t : List Nat} {b n : Nat} {e : Int64} {p : Nat} (h : qe_b e (v.2.2 (fun i => t.getD (b + i) 0) n p)) : e = qh_M v t b n p := qh_E_eq h
theorem qh_Min {v : qv_T} (hv : qv_ok v) {t : List Nat} {b n : Nat} (hc : ∀ j, j < n → t.getD (b + j) 0 < 6) : qe_in (qh_M v t b n) n := by
  intro p hp e he hb
  have := (qh_E_b (v.2.2 (fun i => t.getD (b + i) 0) n p) he).mp hb
  exact qv_in hv (c := fun i => t.getD (b + i) 0) hc hp this
theorem qh_L_g (v : qv_T) (f : Nat) (t : List Nat) (l b n : Nat) : (qh_L (qh_M v t b n) n 0).map (fun x => (f, l, x.1, x.2)) = qh_g v f t l b n := rfl
theorem qh_sc_next (t : List Nat) (g : Nat → Nat → Nat → List (Nat × Nat × Nat × Nat)) (m i b l : Nat) (h : i < t.length ∧ t.getD i 0 ≠ 6) : qh_sc t g (m + 1) i b l = qh_sc t g m (i + 1) b l := by
  conv => lhs; unfold qh_sc
  rw [if_pos h]
theorem qh_sc_line (t : List Nat) (g : Nat → Nat → Nat → List (Nat × Nat × Nat × Nat)) (m i b l : Nat) (h : ¬ (i < t.length ∧ t.getD i 0 ≠ 6)) : qh_sc t g (m + 1) i b l = g l b (i - b) ++ qh_sc t g m (i + 1) (i + 1) (l + 1) := by
  conv => lhs; unfold qh_sc
  rw [if_neg h]
/-- how far the scan of a text has come -/
def qh_at (v : qv_T) (f : Nat) (t : List Nat) (i b l : Nat) (H R : List (Nat × Nat × Nat × Nat)) : Prop :=
  i ≤ t.length + 1 ∧ b ≤ i ∧ l ≤ b ∧ (∀ j, b ≤ j → j < i → t.getD j 0 ≠ 6) ∧ H.length + 41 * (t.length + 1 - i) ≤ 2 ^ 20 ∧ H ++ qh_sc t (qh_g v f t) (t.length + 1 - i) i b l = R
theorem qh_at_next {v : qv_T} {f : Nat} {t : List Nat} {i b l : Nat} {H R : List (Nat × Nat × Nat × Nat)} (h : qh_at v f t i b l H R) (hi : i < t.length) (h6 : t.getD i 0 ≠ 6) : qh_at v f t (i + 1) b l H R := by
  obtain ⟨h1, h2, h3, h4, h5, h7⟩ := h
  refine ⟨by omega, by omega, h3, fun j g1 g2 => ?_, by omega, ?_⟩
  · by_cases z : j = i
    · subst z; exact h6
    · exact h4 j g1 (by omega)
  · rw [show t.length + 1 - i = (t.length + 1 - (i + 1)) + 1 by omega, qh_sc_next t _ _ i b l ⟨hi, h6⟩] at h7
    exact h7
theorem qh_at_line {v : qv_T} {f : Nat} {t : List Nat} {i b l : Nat} {H R : List (Nat × Nat × Nat × Nat)} (h : qh_at v f t i b l H R) (hi : i ≤ t.length) (ht : t.length ≤ 40) (h6 : ¬ (i < t.length ∧ t.getD i 0 ≠ 6)) : qh_at v f t (i + 1) (i + 1) (l + 1) (H ++ qh_g v f t l b (i - b)) R := by
  obtain ⟨h1, h2, h3, h4, h5, h7⟩ := h
  refine ⟨by omega, by omega, by omega, fun j g1 g2 => by omega, ?_, ?_⟩
  · rw [List.length_append]
    have h2 : (qh_g v f t l b (i - b)).length ≤ i - b + 1 := by
      unfold qh_g
      rw [List.length_map]
      exact qh_ln_len _ _ _ _
    omega
  · rw [show t.length + 1 - i = (t.length + 1 - (i + 1)) + 1 by omega, qh_sc_line t _ _ i b l h6] at h7
    rw [List.append_assoc]
    exact h7
theorem qh_at_ok {v : qv_T} {f : Nat} {t : List Nat} {i b l : Nat} {H R : List (Nat × Nat × Nat × Nat)} (h : qh_at v f t i b l H R) (hi : i ≤ t.length) : qh_ok t b (i - b) := by
  obtain ⟨h1, h2, h3, h4, h5, h7⟩ := h
  exact ⟨by omega, fun j hj => h4 (b + j) (by omega) (by omega)⟩
theorem qh_at_end {v : qv_T} {f : Nat} {t : List Nat} {i b l : Nat} {H R : List (Nat × Nat × Nat × Nat)} (h : qh_at v f t i b l H R) (hi : t.length < i) : H = R := by
  obtain ⟨h1, h2, h3, h4, h5, h7⟩ := h
  rw [show t.length + 1 - i = 0 by omega] at h7
  rw [← h7]
  show H = H ++ []
  rw [List.append_nil]
theorem qh_at_0 (v : qv_T) (f : Nat) (t : List Nat) (ht : t.length ≤ 40) (H : List (Nat × Nat × Nat × Nat)) (hl : H.length + 1681 ≤ 2 ^ 20) : qh_at v f t 0 0 0 H (H ++ qh_file v f t) :=
  ⟨by omega, Nat.le_refl _, Nat.le_refl _, fun j g1 g2 => by omega, by omega, rfl⟩
section
variable {xwc xdc xdm xsc xtc xnc xmc xbr xwt : Int32} {xch xtl xwf xdn xdf xdl xss xtk xta xtb xnk xna xnb xnl xnr xns xfa xfs xfi xrc xcl xhd xhi xwo : Nat → Int32} {xrw xre : Nat → Int64}
theorem xf_file (f : Nat) (hf : f < 10) (t : List Nat) (ht : qf_t t) (hs : qx_slot xch xtl f (some t)) (m root : Nat) (D : Nat → qv_T) (hm : m ≤ 33) (hr : root < m) (hnc : xnc = nI m) (hok : qn_ok qv_lf qv_un qv_bi xnk xna xnb xnl xnr m D) (hv : ∀ j, j < m → qv_ok (D j)) (H0 : List (Nat × Nat × Nat × Nat)) (hH : qx_H H0 xhi xmc) (hl : H0.length + 1681 ≤ 2 ^ 20) (post : SX → Prop)
  (hp : ∀ (mc' : Int32) (hi' : Nat → Int32) (re' : Nat → Int64), qx_H (H0 ++ qh_file (D root) f t) hi' mc' → post (xwc, xdc, xdm, xsc, xtc, xnc, mc', xbr, xwt, xch, xtl, xwf, xdn, xdf, xdl, xss, xtk, xta, xtb, xnk, xna, xnb, xnl, xnr, xns, xfa, xfs, xfi, xrw, xrc, xcl, xhd, re', hi', xwo)) : wpX_searchFile post (xwc, xdc, xdm, xsc, xtc, xnc, xmc, xbr, xwt, xch, xtl, xwf, xdn, xdf, xdl, xss, xtk, xta, xtb, xnk, xna, xnb, xnl, xnr, xns, xfa, xfs, xfi, xrw, xrc, xcl, xhd, xre, xhi, xwo) (nI f) (nI root) := by
  obtain ⟨hlen, hch⟩ := hs
  have ht40 := ht.1
  have e40 : ∀ b : Nat, nI f * 40 + nI b = nI (f * 40 + b) := fun b => by rw [show (40 : Int32) = nI 40 from rfl, pk_mul, nI_add]
  have key : ∀ (N i b l : Nat) (H : List (Nat × Nat × Nat × Nat)) (mc' : Int32) (hi' : Nat → Int32) (re' : Nat → Int64), t.length + 1 - i < N → qh_at (D root) f t i b l H (H0 ++ qh_file (D root) f t) → qx_H H hi' mc' → wX_searchFile_16 post (nI f) (nI root) (nI t.length) N (nI l) (nI b) (nI i) xwc xdc xdm xsc xtc xnc mc' xbr xwt xch xtl xwf xdn xdf xdl xss xtk xta xtb xnk xna xnb xnl xnr xns xfa xfs xfi xrw xrc xcl xhd re' hi' xwo := by
    intro N
    induction N with
    | zero => intro i b l H mc' hi' re' h1; omega
    | succ N ih =>
      intro i b l H mc' hi' re' h1 h2 h3
      have hi41 := h2.1
      have hbi := h2.2.1
      have hlb := h2.2.2.1
      have hlh := h2.2.2.2.2.1
      refine pk_lt t.length i (fun hlt => ?_) (fun hle => ?_)
      · have e := qh_at_end h2 hlt
        subst e
        exact hp mc' hi' re' h3
      · have line : ¬ (i < t.length ∧ t.getD i 0 ≠ 6) → wX_searchFile_45 post (wX_searchFile_16 post (nI f) (nI root) (nI t.length) N) (nI f) (nI root) (nI t.length) (nI l) (nI b) (nI i) xwc xdc xdm xsc xtc xnc mc' xbr xwt xch xtl xwf xdn xdf xdl xss xtk xta xtb xnk xna xnb xnl xnr xns xfa xfs xfi xrw xrc xcl xhd re' hi' xwo := by
          intro hn
          have ok := qh_at_ok h2 hle
          have hc := fun j hj => qh_lt6 ht.2 ok j hj
          unfold wX_searchFile_45
          refine xg_find m (i - b) (f * 40 + b) (fun j => t.getD (b + j) 0) D hm hnc (by omega) hc (by omega) (fun j hj => ?_) hok hv _ _ (e40 b) (pk_sub hbi) _ (fun re2 hre => ?_)
          · rw [show f * 40 + b + j = f * 40 + (b + j) by omega]
            exact hch (b + j) (by omega)
          · refine xh_matches f l (i - b) root (by omega) (by omega) (qh_M (D root) t b (i - b)) (fun p hp' => qh_ME (hre root hr p (by omega) hp')) (qh_Min (hv root hr) hc) H h3 (by omega) _ _ _ _ rfl rfl (pk_sub hbi) rfl _ (fun mc2 hi2 h4 => nm_r (nI_1 l) (nm_r (nI_1 i) (nm_r (nI_1 i) ?_)))
            rw [qh_L_g] at h4
            exact ih (i + 1) (i + 1) (l + 1) _ mc2 hi2 re2 (by omega) (qh_at_line h2 hle ht40 hn) h4
        refine pk_eq i t.length (fun e => line (fun h => by omega)) (fun hne => ⟨pk_in (f * 40 + i) 3640 (by omega) (e40 i), ?_⟩)
        have hi : i < t.length := by omega
        have h7 : t.getD i 0 < 7 := qc_get_in ht.2 i hi
        rw [pk_cl (f * 40 + i) (e40 i), hch i hi]
        refine pk_eq (t.getD i 0) 6 (fun e6 => line (fun h => h.2 e6)) (fun h6 => nm_r (nI_1 i) (ih (i + 1) b l H mc' hi' re' (by omega) (qh_at_next h2 hi h6) h3))
  refine And.intro (pk_in f 91 (by omega)) (nm_r (e' := nI t.length) (by rw [nI_clamp (by omega)]; exact hlen) ⟨t.length + 2, ?_⟩)
  exact key (t.length + 2) 0 0 0 H0 xmc xhi xre (by omega) (qh_at_0 (D root) f t ht40 H0 hl) hH
end
section
variable {ywa ydd ynd yns yma ynt yno yrc yfo ybl yod ywr : Int32} {yan yab yac yad yal yabl yacl yacf ynu yfi ypa ysz yli ytx yki yf1 yf2 yo yoa yob yit yss ymo yst ymy ycl yrw yow yhi yla : Nat → Int32} {yen : Nat → Int64}
theorem yf_file (f : Nat) (hf : f < 10) (t : List Nat) (ht : qf_t t) (hs : qx_slot yan yal f (some t)) (k0 : Nat) (hk0 : k0 ≤ 33) (hno : yno = nI k0) (root : qv_T) (P : Prop) (hO : qp_YO qv_lf qv_un qv_bi qv_big yo yoa yob k0 [root] P) (H0 : List (Nat × Nat × Nat × Nat)) (hH : qy_H H0 yhi yfo) (hl : H0.length + 1681 ≤ 2 ^ 20) (post : SY → Prop)
  (hp : ∀ (fo' : Int32) (hi' : Nat → Int32) (en' : Nat → Int64), qy_H (H0 ++ qh_file root f t) hi' fo' → post (ywa, ydd, ynd, yns, yma, ynt, yno, yrc, fo', ybl, yod, ywr, yan, yab, yac, yad, yal, yabl, yacl, yacf, ynu, yfi, ypa, ysz, yli, ytx, yki, yf1, yf2, yo, yoa, yob, yit, yss, ymo, yst, ymy, ycl, yrw, yow, en', hi', yla)) : wpY_scan post (ywa, ydd, ynd, yns, yma, ynt, yno, yrc, yfo, ybl, yod, ywr, yan, yab, yac, yad, yal, yabl, yacl, yacf, ynu, yfi, ypa, ysz, yli, ytx, yki, yf1, yf2, yo, yoa, yob, yit, yss, ymo, yst, ymy, ycl, yrw, yow, yen, yhi, yla) (nI f) := by
  obtain ⟨hlen, hch⟩ := hs
  have ht40 := ht.1
  have hvr : qv_ok root := qz_ok hO k0 (Nat.le_refl _) root (by
    have er : qz_R qv_lf qv_un qv_bi yo yoa yob k0 = [root] := hO.1
    rw [er]; exact List.mem_cons_self)
  have e40 : ∀ b : Nat, (40 : Int32) * nI f + nI b = nI (40 * f + b) := fun b => by rw [show (40 : Int32) = nI 40 from rfl, pk_mul, nI_add]
  have cf : (nI f).toNatClampNeg = f := nI_clamp (by omega)
  have key : ∀ (N i b l : Nat) (H : List (Nat × Nat × Nat × Nat)) (fo' : Int32) (hi' : Nat → Int32) (en' : Nat → Int64), t.length + 1 - i < N → qh_at root f t i b l H (H0 ++ qh_file root f t) → qy_H H hi' fo' → wY_scan_7 post (nI f) N (nI b) (nI l) (nI i) ywa ydd ynd yns yma ynt yno yrc fo' ybl yod ywr yan yab yac yad yal yabl yacl yacf ynu yfi ypa ysz yli ytx yki yf1 yf2 yo yoa yob yit yss ymo yst ymy ycl yrw yow en' hi' yla := by
    intro N
    induction N with
    | zero => intro i b l H fo' hi' en' h1; omega
    | succ N ih =>
      intro i b l H fo' hi' en' h1 h2 h3
      have hi41 := h2.1
      have hbi := h2.2.1
      have hlb := h2.2.2.1
      have hlh := h2.2.2.2.2.1
      refine ⟨pk_in f 10 hf, pk_lt t.length i (fun hlt => ?_) (fun hle => ⟨pk_in f 10 hf, ?_⟩) (by rw [cf]; exact hlen) rfl⟩
      · have e := qh_at_end h2 hlt
        subst e
        exact hp fo' hi' en' h3
      · have line : ¬ (i < t.length ∧ t.getD i 0 ≠ 6) → wY_scan_49 post (wY_scan_7 post (nI f) N) (nI f) (nI b) (nI l) (nI i) ywa ydd ynd yns yma ynt yno yrc fo' ybl yod ywr yan yab yac yad yal yabl yacl yacf ynu yfi ypa ysz yli ytx yki yf1 yf2 yo yoa yob yit yss ymo yst ymy ycl yrw yow en' hi' yla := by
          intro hn
          have ok := qh_at_ok h2 hle
          have hc := fun j hj => qh_lt6 ht.2 ok j hj
          refine nm_r (nI_1 l) ?_
          unfold wpY_line
          rw [e40 b, pk_sub hbi]
          refine ⟨k0 + 1, yg_line1 (i - b) k0 (40 * f + b) (fun j => t.getD (b + j) 0) hk0 hno (by omega) (by omega) (fun j hj => ?_) hc root P hO _ _ _ (fun en2 hre => ?_) (k0 + 1) 0 en' (by omega) (by omega) trivial⟩
          · rw [show 40 * f + b + j = f * 40 + (b + j) by omega]
            exact hch (b + j) (by omega)
          · refine yh_line f l (i - b) hf (by omega) (by omega) (qh_M root t b (i - b)) (fun p hp' => qh_ME ?_) (qh_Min hvr hc) H h3 (by omega) _ (fun fo2 hi2 h4 => nm_r (nI_1 i) (nm_r (nI_1 i) ?_))
            · have := hre p hp'
              rw [Nat.zero_add] at this
              exact this
            · rw [qh_L_g] at h4
              exact ih (i + 1) (i + 1) (l + 1) _ fo2 hi2 en2 (by omega) (qh_at_line h2 hle ht40 hn) h4
        refine pk_le t.length i (fun e => line (fun h => by omega)) (fun hi => ⟨pk_in (40 * f + i) 400 (by omega) (e40 i), ?_⟩) (by rw [cf]; exact hlen) rfl
        have h7 : t.getD i 0 < 7 := qc_get_in ht.2 i hi
        rw [pk_cl (40 * f + i) (e40 i), show 40 * f + i = f * 40 + i by omega, hch i hi]
        refine pk_eq (t.getD i 0) 6 (fun e6 => line (fun h => h.2 e6)) (fun h6 => nm_r (nI_1 i) (ih (i + 1) b l H fo' hi' en' (by omega) (qh_at_next h2 hi h6) h3))
  exact ⟨t.length + 2, key (t.length + 2) 0 0 0 H0 yfo yhi yen (by omega) (qh_at_0 root f t ht40 H0 hl) hH⟩
end
