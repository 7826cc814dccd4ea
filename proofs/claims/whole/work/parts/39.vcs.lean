/-! the calls, but for the search -/
theorem i_vc_type {k : Nat} {u : SX} {v : SY} (I : i_Rel k u v) (hk : k + 4 ≤ 2048) (v1 : Int32) : wpX_type (fun r u' => wpY_type (fun r' v' => r' = r ∧ i_Rel (k + 4) u' v') v v1) u v1 := by
  obtain ⟨xwc, xdc, xdm, xsc, xtc, xnc, xmc, xbr, xwt, xch, xtl, xwf, xdn, xdf, xdl, xss, xtk, xta, xtb, xnk, xna, xnb, xnl, xnr, xns, xfa, xfs, xfi, xrw, xrc, xcl, xhd, xre, xhi, xwo⟩ := u
  obtain ⟨ywa, ydd, ynd, yns, yma, ynt, yno, yrc, yfo, ybl, yod, ywr, yan, yab, yac, yad, yal, yabl, yacl, yacf, ynu, yfi, ypa, ysz, yli, ytx, yki, yf1, yf2, yo, yoa, yob, yit, yss, ymo, yst, ymy, ycl, yrw, yow, yen, yhi, yla⟩ := v
  obtain ⟨now, base, wt, dr, docs, segs, made, hi, hm, hX, hY, hT, hR, hb, hw⟩ := I
  have same : ∀ r : Int32, r = r ∧ i_Rel (k + 4) (xwc, xdc, xdm, xsc, xtc, xnc, xmc, xbr, xwt, xch, xtl, xwf, xdn, xdf, xdl, xss, xtk, xta, xtb, xnk, xna, xnb, xnl, xnr, xns, xfa, xfs, xfi, xrw, xrc, xcl, xhd, xre, xhi, xwo) (ywa, ydd, ynd, yns, yma, ynt, yno, yrc, yfo, ybl, yod, ywr, yan, yab, yac, yad, yal, yabl, yacl, yacf, ynu, yfi, ypa, ysz, yli, ytx, yki, yf1, yf2, yo, yoa, yob, yit, yss, ymo, yst, ymy, ycl, yrw, yow, yen, yhi, yla) := fun r => ⟨rfl, now, base, wt, dr, docs, segs, made, hi, by omega, hX, hY, hT, hR, hb, hw⟩
  have hL := hi.2.2.2.1.1
  have e26 : xtl 26 = nI dr.length := hX.2.2.2.1.1
  have edd : ydd = nI dr.length := hY.2.2.2.1.1
  unfold wpX_type
  refine nm_r e26 ?_
  have bad : (∀ j, j ≤ 6 → v1 ≠ nI j) → wpY_type (fun r' v' => r' = -1 ∧ i_Rel (k + 4) (xwc, xdc, xdm, xsc, xtc, xnc, xmc, xbr, xwt, xch, xtl, xwf, xdn, xdf, xdl, xss, xtk, xta, xtb, xnk, xna, xnb, xnl, xnr, xns, xfa, xfs, xfi, xrw, xrc, xcl, xhd, xre, xhi, xwo) v') (ywa, ydd, ynd, yns, yma, ynt, yno, yrc, yfo, ybl, yod, ywr, yan, yab, yac, yad, yal, yabl, yacl, yacf, ynu, yfi, ypa, ysz, yli, ytx, yki, yf1, yf2, yo, yoa, yob, yit, yss, ymo, yst, ymy, ycl, yrw, yow, yen, yhi, yla) v1 := by
    intro z
    unfold wpY_type
    exact ys_in v1 0 6 (by decide) (by decide) 0 6 rfl rfl _ (fun _ => br_t rfl (same (-1))) (fun j _ hj e => absurd e (z j hj))
  rcases pk_ix v1 (n := 7) (by decide) with z | z | ⟨c, hc, rfl⟩
  · exact br_t z (bad (fun j hj e => by rw [e] at z; exact nI_pos (by omega) z))
  · have hbad := bad (fun j hj e => by rw [e, nI_leI (by omega) (by omega)] at z; omega)
    exact br_c (fun _ => hbad) (fun _ => br_t z hbad)
  · refine br_f (nI_pos (by omega)) (br_f (nI_ge (b := 7) hc (by decide)) (pk_lt dr.length 40 (fun hlt => ?_) (fun hle => ?_)))
    · have e1 : (1040 : Int32) + nI dr.length = nI (26 * 40 + dr.length) := nI_add 1040 dr.length
      refine ⟨pk_in (26 * 40 + dr.length) 3640 (by omega) e1, nm_e (nm_e ?_)⟩
      rw [e1, nI_clamp (by omega)]
      unfold wpY_type
      refine ys_in (nI c) 0 6 (by decide) (by decide) 0 6 rfl rfl _ (fun z => absurd rfl (z c (by omega) (by omega))) (fun j _ _ _ => br_f (by decide) ?_)
      subst edd
      refine pk_eq dr.length 40 (fun h => absurd h (by omega)) (fun _ => nm_r (nI_1 _) ⟨pk_in dr.length 40 hlt, nm_e ⟨(nI_1 _).symm, ?_⟩⟩)
      rw [nI_clamp (by omega), nI_1]
      have ec : vp_nar .byte ((nI c).toInt8.toInt32) = nI c := by
        rw [show (nI c).toInt8.toInt32 = nI c from (by decide +kernel : ∀ c, c < 7 → (nI c).toInt8.toInt32 = nI c) c hc]
        exact ys_nar hc
      rw [ec]
      have hget : ∀ i, i < (dr ++ [c]).length → (dr ++ [c]).getD i 0 = if i < dr.length then dr.getD i 0 else c := by
        intro i hi'
        rw [List.length_append, List.length_singleton] at hi'
        by_cases z : i < dr.length
        · rw [if_pos z, List.getD_eq_getElem?_getD, List.getElem?_append_left z, ← List.getD_eq_getElem?_getD]
        · have e : i = dr.length := by omega
          subst e
          rw [if_neg z, List.getD_eq_getElem?_getD, List.getElem?_append_right (Nat.le_refl _), Nat.sub_self]
          rfl
      have hl1 : (dr ++ [c]).length = dr.length + 1 := by rw [List.length_append]; rfl
      have hkp : ∀ s o', s ≠ 26 → qf_o o' → qx_slot xch xtl s o' → qx_slot (upd xch (26 * 40 + dr.length) (nI c)) (upd xtl 26 (nI (dr.length + 1))) s o' := by
        intro s o' hs ho h
        match o', ho, h with
        | none, _, h => exact (pk_un hs).trans h
        | some t, ho, h =>
          have hlt' := (ho t rfl).1
          exact ⟨(pk_un hs).trans h.1, fun i hi' => (pk_un (by omega)).trans (h.2 i hi')⟩
      have hno := qf_now_o hi
      obtain ⟨i1, i2, i3, i4, i5, i6⟩ := hi
      obtain ⟨s1, s2, ⟨s3, s4⟩, s5, ⟨s6, s7⟩, s8, s9⟩ := hX
      obtain ⟨t1, t2, t3, t4, t5⟩ := hY
      refine ⟨now, base, wt, dr ++ [c], docs, segs, made, ⟨i1, i2, i3, ⟨by omega, ?_⟩, i5, i6⟩, by omega, ⟨fun f hf => hkp _ _ (by omega) (hno f hf) (s1 f hf), fun f hf => hkp _ _ (by omega) (i2 f hf) (s2 f hf), ⟨s3, fun k' c' hc' => ⟨(s4 k' c' hc').1, ?_⟩⟩, ⟨?_, ?_⟩, ⟨s6, fun d x hx => ?_⟩, s8, s9⟩, ⟨t1, t2, t3, ⟨by rw [hl1], ?_⟩, t5⟩, hT, hR, hb, hw⟩
      · intro x hx
        rcases List.mem_append.mp hx with y | y
        · exact i4.2 x y
        · rw [List.mem_singleton] at y; omega
      · have := qr_get_lt hc'
        exact hkp _ _ (by omega) (i3.2 c' (qr_get_in hc')).2 (s4 k' c' hc').2
      · rw [hl1]; exact pk_us
      · intro i hi'
        rw [hget i hi']
        by_cases z : i < dr.length
        · rw [if_pos z]; exact (pk_un (by omega)).trans (s5.2 i z)
        · rw [if_neg z]
          have e : i = dr.length := by omega
          subst e
          exact pk_us
      · obtain ⟨a1, a2, a3, a4⟩ := s7 d x hx
        exact ⟨a1, a2, a3, hkp _ _ (by omega) (qf_o_some (i5.2.2.2.1 x (qr_get_in hx)).2.2) a4⟩
      · intro i hi'
        rw [hget i hi']
        by_cases z : i < dr.length
        · rw [if_pos z]; exact (pk_un (by omega)).trans (t4.2 i z)
        · rw [if_neg z]
          have e : i = dr.length := by omega
          subst e
          exact pk_us
    · unfold wpY_type
      subst edd
      exact ys_in (nI c) 0 6 (by decide) (by decide) 0 6 rfl rfl _ (fun _ => br_t rfl (same (-1))) (fun j _ _ _ => br_f (by decide) (pk_eq dr.length 40 (fun _ => same (-1)) (fun h => absurd (show dr.length = 40 by omega) h)))
theorem i_vc_keep {k : Nat} {u : SX} {v : SY} (I : i_Rel k u v) (hk : k + 4 ≤ 2048) (v1 : Int32) : wpX_keep (fun r u' => wpY_keep (fun r' v' => r' = r ∧ i_Rel (k + 4) u' v') v v1) u v1 := by
  obtain ⟨xwc, xdc, xdm, xsc, xtc, xnc, xmc, xbr, xwt, xch, xtl, xwf, xdn, xdf, xdl, xss, xtk, xta, xtb, xnk, xna, xnb, xnl, xnr, xns, xfa, xfs, xfi, xrw, xrc, xcl, xhd, xre, xhi, xwo⟩ := u
  obtain ⟨ywa, ydd, ynd, yns, yma, ynt, yno, yrc, yfo, ybl, yod, ywr, yan, yab, yac, yad, yal, yabl, yacl, yacf, ynu, yfi, ypa, ysz, yli, ytx, yki, yf1, yf2, yo, yoa, yob, yit, yss, ymo, yst, ymy, ycl, yrw, yow, yen, yhi, yla⟩ := v
  obtain ⟨now, base, wt, dr, docs, segs, made, hi, hm, hX, hY, hT, hR, hb, hw⟩ := I
  have hr := qf_inv_room hi
  have bad : (v1 < 0 ∨ 10 ≤ v1) → wpX_keep (fun r u' => wpY_keep (fun r' v' => r' = r ∧ i_Rel (k + 4) u' v') (ywa, ydd, ynd, yns, yma, ynt, yno, yrc, yfo, ybl, yod, ywr, yan, yab, yac, yad, yal, yabl, yacl, yacf, ynu, yfi, ypa, ysz, yli, ytx, yki, yf1, yf2, yo, yoa, yob, yit, yss, ymo, yst, ymy, ycl, yrw, yow, yen, yhi, yla) v1) (xwc, xdc, xdm, xsc, xtc, xnc, xmc, xbr, xwt, xch, xtl, xwf, xdn, xdf, xdl, xss, xtk, xta, xtb, xnk, xna, xnb, xnl, xnr, xns, xfa, xfs, xfi, xrw, xrc, xcl, xhd, xre, xhi, xwo) v1 := by
    intro z
    unfold wpX_keep
    refine xs_isFile0 v1 z _ (br_t rfl ?_)
    unfold wpY_keep
    refine ys_fileC v1 _ (fun _ => br_t rfl ⟨rfl, now, base, wt, dr, docs, segs, made, hi, by omega, hX, hY, hT, hR, hb, hw⟩) (fun f hf e => ?_)
    subst e
    rcases z with z | z
    · exact absurd z (nI_pos (by omega))
    · exact absurd z (nI_ge (b := 10) hf (by decide))
  rcases pk_ix v1 (n := 10) (by decide) with z | z | ⟨f, hf, rfl⟩
  · exact bad (Or.inl z)
  · exact bad (Or.inr z)
  · refine xs_keep now base wt dr docs segs made hi hX f hf _ (fun ch tl wf dn df dl ss wc dc dm sc hS => ?_)
    refine ys_keep now base wt dr docs segs made hi hY f hf _ (fun an al ab abl ac acl acf nu fi pa sz li tx wa dd nd ns ma hS' => ⟨rfl, _, _, _, _, _, _, _, qf_inv_add (dr' := []) hr.1 hr.2.1 hf (qf_o_some hi.2.2.2.1) ⟨by simp, (fun x hx => nomatch hx)⟩, by have := hr.2.2; omega, hS, hS', hT, hR, hb, hw⟩)
theorem i_vc_remove {k : Nat} {u : SX} {v : SY} (I : i_Rel k u v) (hk : k + 4 ≤ 2048) (v1 : Int32) : wpX_remove (fun r u' => wpY_remove (fun r' v' => r' = r ∧ i_Rel (k + 4) u' v') v v1) u v1 := by
  obtain ⟨xwc, xdc, xdm, xsc, xtc, xnc, xmc, xbr, xwt, xch, xtl, xwf, xdn, xdf, xdl, xss, xtk, xta, xtb, xnk, xna, xnb, xnl, xnr, xns, xfa, xfs, xfi, xrw, xrc, xcl, xhd, xre, xhi, xwo⟩ := u
  obtain ⟨ywa, ydd, ynd, yns, yma, ynt, yno, yrc, yfo, ybl, yod, ywr, yan, yab, yac, yad, yal, yabl, yacl, yacf, ynu, yfi, ypa, ysz, yli, ytx, yki, yf1, yf2, yo, yoa, yob, yit, yss, ymo, yst, ymy, ycl, yrw, yow, yen, yhi, yla⟩ := v
  obtain ⟨now, base, wt, dr, docs, segs, made, hi, hm, hX, hY, hT, hR, hb, hw⟩ := I
  have hr := qf_inv_room hi
  have same : ∀ r : Int32, r = r ∧ i_Rel (k + 4) (xwc, xdc, xdm, xsc, xtc, xnc, xmc, xbr, xwt, xch, xtl, xwf, xdn, xdf, xdl, xss, xtk, xta, xtb, xnk, xna, xnb, xnl, xnr, xns, xfa, xfs, xfi, xrw, xrc, xcl, xhd, xre, xhi, xwo) (ywa, ydd, ynd, yns, yma, ynt, yno, yrc, yfo, ybl, yod, ywr, yan, yab, yac, yad, yal, yabl, yacl, yacf, ynu, yfi, ypa, ysz, yli, ytx, yki, yf1, yf2, yo, yoa, yob, yit, yss, ymo, yst, ymy, ycl, yrw, yow, yen, yhi, yla) := fun r => ⟨rfl, now, base, wt, dr, docs, segs, made, hi, by omega, hX, hY, hT, hR, hb, hw⟩
  have bad : (v1 < 0 ∨ 10 ≤ v1) → wpX_remove (fun r u' => wpY_remove (fun r' v' => r' = r ∧ i_Rel (k + 4) u' v') (ywa, ydd, ynd, yns, yma, ynt, yno, yrc, yfo, ybl, yod, ywr, yan, yab, yac, yad, yal, yabl, yacl, yacf, ynu, yfi, ypa, ysz, yli, ytx, yki, yf1, yf2, yo, yoa, yob, yit, yss, ymo, yst, ymy, ycl, yrw, yow, yen, yhi, yla) v1) (xwc, xdc, xdm, xsc, xtc, xnc, xmc, xbr, xwt, xch, xtl, xwf, xdn, xdf, xdl, xss, xtk, xta, xtb, xnk, xna, xnb, xnl, xnr, xns, xfa, xfs, xfi, xrw, xrc, xcl, xhd, xre, xhi, xwo) v1 := by
    intro z
    unfold wpX_remove wpX_isThere
    refine xs_isFile0 v1 z _ (br_t rfl (br_t rfl ?_))
    unfold wpY_remove wpY_isThere
    refine ys_fileC v1 _ (fun _ => br_t rfl (br_t rfl (same (-1)))) (fun f hf e => ?_)
    subst e
    rcases z with z | z
    · exact absurd z (nI_pos (by omega))
    · exact absurd z (nI_ge (b := 10) hf (by decide))
  rcases pk_ix v1 (n := 10) (by decide) with z | z | ⟨f, hf, rfl⟩
  · exact bad (Or.inl z)
  · exact bad (Or.inr z)
  · refine xs_remove now base wt dr docs segs made hi hX f hf _ (fun e => ?_) (fun t et ch tl wf dn df dl ss wc dc dm sc hS => ?_)
    · exact ys_remove now base wt dr docs segs made hi hY f hf _ (fun _ => same (-1)) (fun t et => by rw [e] at et; exact nomatch et)
    · refine ys_remove now base wt dr docs segs made hi hY f hf _ (fun e => by rw [e] at et; exact nomatch et) (fun t' et' an al ab abl acl acf nu fi pa sz li tx wa nd ns ma hS' => ⟨rfl, _, _, _, _, _, _, _, qf_inv_add hr.1 hr.2.1 hf qf_o_none hi.2.2.2.1, by have := hr.2.2; omega, hS, hS', hT, hR, hb, hw⟩)
theorem i_vc_sync {k : Nat} {u : SX} {v : SY} (I : i_Rel k u v) (hk : k + 4 ≤ 2048) : wpX_sync (fun r u' => wpY_sync (fun r' v' => r' = r ∧ i_Rel (k + 4) u' v') v) u := by
  obtain ⟨xwc, xdc, xdm, xsc, xtc, xnc, xmc, xbr, xwt, xch, xtl, xwf, xdn, xdf, xdl, xss, xtk, xta, xtb, xnk, xna, xnb, xnl, xnr, xns, xfa, xfs, xfi, xrw, xrc, xcl, xhd, xre, xhi, xwo⟩ := u
  obtain ⟨ywa, ydd, ynd, yns, yma, ynt, yno, yrc, yfo, ybl, yod, ywr, yan, yab, yac, yad, yal, yabl, yacl, yacf, ynu, yfi, ypa, ysz, yli, ytx, yki, yf1, yf2, yo, yoa, yob, yit, yss, ymo, yst, ymy, ycl, yrw, yow, yen, yhi, yla⟩ := v
  obtain ⟨now, base, wt, dr, docs, segs, made, hi, hm, hX, hY, hT, hR, hb, hw⟩ := I
  have hs := qf_inv_sync hi
  unfold wpX_sync
  refine xs_sync now base wt dr docs segs made hi hX _ (fun ch tl dn df dl ss wc dc dm sc hS => ?_)
  refine ys_sync now base wt dr docs segs made hi hY _ (fun ab abl nu fi pa sz li tx wa nd ns ma hS' => ⟨?_, now, now, [], dr, _, _, _, hs.1, by have := hs.2; omega, hS, hS', hT, hR, hb, hw⟩)
  rw [hS'.2.2.2.2.2.2, hS.2.2.2.2.2.2.1]
theorem i_vc_crash {k : Nat} {u : SX} {v : SY} (I : i_Rel k u v) (hk : k + 4 ≤ 2048) (v1 : Int32) : wpX_crash (fun r u' => wpY_crash (fun r' v' => r' = r ∧ i_Rel (k + 4) u' v') v v1) u v1 := by
  obtain ⟨xwc, xdc, xdm, xsc, xtc, xnc, xmc, xbr, xwt, xch, xtl, xwf, xdn, xdf, xdl, xss, xtk, xta, xtb, xnk, xna, xnb, xnl, xnr, xns, xfa, xfs, xfi, xrw, xrc, xcl, xhd, xre, xhi, xwo⟩ := u
  obtain ⟨ywa, ydd, ynd, yns, yma, ynt, yno, yrc, yfo, ybl, yod, ywr, yan, yab, yac, yad, yal, yabl, yacl, yacf, ynu, yfi, ypa, ysz, yli, ytx, yki, yf1, yf2, yo, yoa, yob, yit, yss, ymo, yst, ymy, ycl, yrw, yow, yen, yhi, yla⟩ := v
  obtain ⟨now, base, wt, dr, docs, segs, made, hi, hm, hX, hY, hT, hR, hb, hw⟩ := I
  by_cases z : v1 < 0
  · have z' : ¬ 0 ≤ v1 := Int32.not_le.mpr z
    exact br_f z' (br_f z' ⟨rfl, now, base, wt, dr, docs, segs, made, hi, by omega, hX, hY, hT, hR, hb, hw⟩)
  · obtain ⟨j, hj, rfl⟩ := nI_of z
    refine xs_crash now base wt dr docs segs made hi hX j hj _ (fun ch tl wc hS => ?_)
    refine ys_crash now base wt dr docs segs made hi hY j hj _ (fun an al wa hS' => ⟨rfl, _, base, _, dr, docs, segs, made, ?_, by omega, hS, hS', hT, hR, hb, hw⟩)
    obtain ⟨i1, i2, i3, i4, i5, i6⟩ := hi
    exact ⟨fun f _ => rfl, i2, ⟨by rw [List.length_take]; omega, fun c hc => i3.2 c (List.mem_of_mem_take hc)⟩, i4, i5, i6⟩
theorem i_vc_settle {k : Nat} {u : SX} {v : SY} (I : i_Rel k u v) (hk : k + 4 ≤ 2048) : wpX_settle (fun r u' => wpY_settle (fun r' v' => r' = r ∧ i_Rel (k + 4) u' v') v) u := by
  obtain ⟨xwc, xdc, xdm, xsc, xtc, xnc, xmc, xbr, xwt, xch, xtl, xwf, xdn, xdf, xdl, xss, xtk, xta, xtb, xnk, xna, xnb, xnl, xnr, xns, xfa, xfs, xfi, xrw, xrc, xcl, xhd, xre, xhi, xwo⟩ := u
  obtain ⟨ywa, ydd, ynd, yns, yma, ynt, yno, yrc, yfo, ybl, yod, ywr, yan, yab, yac, yad, yal, yabl, yacl, yacf, ynu, yfi, ypa, ysz, yli, ytx, yki, yf1, yf2, yo, yoa, yob, yit, yss, ymo, yst, ymy, ycl, yrw, yow, yen, yhi, yla⟩ := v
  obtain ⟨now, base, wt, dr, docs, segs, made, hi, hm, hX, hY, hT, hR, hb, hw⟩ := I
  have hs := qf_inv_sync hi
  refine xs_settle now base wt dr docs segs made hi hX _ (fun ch tl dn df dl ss wc dc dm sc hS => ?_)
  refine ys_settle now base wt dr docs segs made hi hY _ (fun ab abl nu fi pa sz li tx wa nd ns ma hS' => ⟨rfl, now, now, [], dr, _, _, _, ?_, by have := hs.2; omega, hS, hS', hT, hR, hb, hw⟩)
  obtain ⟨i1, i2, i3, i4, i5, i6⟩ := hs.1
  refine ⟨i1, i2, i3, i4, qd_ga_ok i5 0, ?_⟩
  unfold qd_gs
  rw [List.take_zero, List.nil_append]
  split
  · exact List.Pairwise.nil
  · exact List.pairwise_singleton _ _
