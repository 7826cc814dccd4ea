theorem i_vc_search {k : Nat} {u : SX} {v : SY} (I : i_Rel k u v) (hk : k + 4 ≤ 2048) : wpX_search (fun r u' => wpY_search (fun r' v' => r' = r ∧ i_Rel (k + 4) u' v') v) u := by
  obtain ⟨xwc, xdc, xdm, xsc, xtc, xnc, xmc, xbr, xwt, xch, xtl, xwf, xdn, xdf, xdl, xss, xtk, xta, xtb, xnk, xna, xnb, xnl, xnr, xns, xfa, xfs, xfi, xrw, xrc, xcl, xhd, xre, xhi, xwo⟩ := u
  obtain ⟨ywa, ydd, ynd, yns, yma, ynt, yno, yrc, yfo, ybl, yod, ywr, yan, yab, yac, yad, yal, yabl, yacl, yacf, ynu, yfi, ypa, ysz, yli, ytx, yki, yf1, yf2, yo, yoa, yob, yit, yss, ymo, yst, ymy, ycl, yrw, yow, yen, yhi, yla⟩ := v
  obtain ⟨now, base, wt, dr, docs, segs, made, hi, hm, hX, hY, ⟨nt, h1, h2, h3, h4, h5, htk⟩, hR, hb, hw⟩ := I
  subst h1; subst h2; subst h3
  have hno := qf_now_o hi
  have nil : ∀ (op : Nat → Prop) (wo hx hy : Nat → Int32), (∀ f, f < 10 → ¬ op f) → (∀ g, g < 10 → wo g = 0) → qR_R hx wo 0 hy 0 0 := by
    intro op wo hx hy hop hwo
    refine ⟨[], op, ⟨by simp, (fun x hx => nomatch hx)⟩, ⟨rfl, (fun k x _ hx => nomatch hx), fun f hf => ⟨fun h => absurd h (hop f hf), fun _ => hwo f hf⟩⟩, ⟨rfl, (fun k x _ hx => nomatch hx), fun f hf => ?_⟩⟩
    rw [b_0]
    exact ⟨fun z => (nomatch z), fun z => absurd z (hop f hf)⟩
  unfold wpX_search
  refine xl_forget _ (fun wo0 hwo0 => ?_)
  refine xe_wrong qv_lf qv_un qv_bi qv_big nt htk h4 _ ?_
  by_cases hwr : qp_wrong qv_lf qv_un qv_bi qv_big (qk_K yki) (qk_K yf1) (qk_K yf2) nt = -1
  · refine br_t hwr ?_
    refine xe_parse qv_lf qv_un qv_bi qv_big nt htk h4 qv_nb hwr _ (fun root m' D' K' A' B' L' R' FA' FS' FI' g1 g2 g3 g4 => ?_)
    obtain ⟨rt, hrt, ert, eD⟩ := g3
    subst ert
    have hv : ∀ j, j < m' → qv_ok (D' j) := qn_all qv_lf qv_un qv_bi g2 (fun k a h => qv_ok_lf k a (fun e => qi_bit (h e).1 (h e).2)) (fun k a b x h => qv_ok_un k a b h) (fun k x y h h' => qv_ok_bi k h h')
    refine xz_large m' D' g1 rfl g2 _ (fun hnb ns => br_t rfl ?_) (fun hbg ns => br_f (by decide) ?_)
    · refine xl_learn now hno hX.1 m' rt D' g1 hrt rfl g2 hv ⟨rfl, (fun k x _ hx => nomatch hx)⟩ (fun g hg => ⟨fun h => absurd h.1 (by omega), fun _ => hwo0 g hg⟩) rfl _ (fun mc' br' rc' cl' hd' hi' wo' rw' re' e1 e2 e3 => ?_)
      unfold wpY_search
      refine yp_parse qv_lf qv_un qv_bi qv_big nt htk h5 qv_nb _ (fun r no o' oa' ob' it' mo' er hr => absurd (er.trans hwr) hr) (fun n' o' oa' ob' it' mo' _ f1 f2 => br_t (by decide) ?_)
      refine yz_large n' f1 rfl _ _ f2 _ (fun hnP ss => br_t rfl ?_) (fun hP ss => absurd (g4.mp hP) hnb)
      refine yr_list now hno hY.1 _ (fun ow how => ?_)
      rw [← eD] at f2
      refine yk_claim n' f1 rfl (D' rt) _ f2 how _ (fun x rc2 rw2 st2 my2 cl2 hcl => ⟨11, ?_⟩)
      refine yl_files now hno hY.1 n' f1 rfl (D' rt) _ f2 x hcl _ (fun fo' bl' od' hy' en' y1 y2 y3 => ⟨by rw [y1.1, e1.1], now, base, wt, dr, docs, segs, made, hi, by omega, hX, hY, ⟨nt, rfl, rfl, rfl, h4, h5, htk⟩, ⟨qs_H (D' rt) now 10, qs_op (D' rt) now, ?_, ?_, ?_⟩, ?_, ?_⟩) 11 0 0 0 0 yhi yen (by omega) (by omega) ⟨rfl, (fun k x _ hx => nomatch hx)⟩ (fun g hg => ?_) rfl
      · have := qs_len (D' rt) now hno 10 (Nat.le_refl _)
        exact ⟨by omega, fun x hx => qs_inb (D' rt) now hno 10 (Nat.le_refl _) x hx⟩
      · exact ⟨e1.1, e1.2, fun f hf => ⟨fun h => (e2 f hf).1 ⟨hf, h⟩, fun h => (e2 f hf).2 (fun z => h z.2)⟩⟩
      · exact ⟨y1.1, y1.2, fun f hf => (y2 f hf).trans ⟨fun h => h.2, fun h => ⟨hf, h⟩⟩⟩
      · rw [e3, y3]
      · exact hwr
      · rw [b_0]
        exact ⟨fun z => (nomatch z), fun z => absurd z.1 (by omega)⟩
    · unfold wpY_search
      refine yp_parse qv_lf qv_un qv_bi qv_big nt htk h5 qv_nb _ (fun r no o' oa' ob' it' mo' er hr => absurd (er.trans hwr) hr) (fun n' o' oa' ob' it' mo' _ f1 f2 => br_t (by decide) ?_)
      refine yz_large n' f1 rfl _ _ f2 _ (fun hnP ss => absurd (g4.mpr hbg) hnP) (fun hP ss => br_f (by decide) ?_)
      exact ⟨rfl, now, base, wt, dr, docs, segs, made, hi, by omega, hX, hY, ⟨nt, rfl, rfl, rfl, h4, h5, htk⟩, nil (fun _ => False) _ _ _ (fun _ _ h => h) hwo0, rfl, hwr⟩
  · refine br_f hwr ?_
    unfold wpY_search
    refine yp_parse qv_lf qv_un qv_bi qv_big nt htk h5 qv_nb _ (fun r no o' oa' ob' it' mo' er hr => ?_) (fun n' o' oa' ob' it' mo' hwr' f1 f2 => absurd hwr' hwr)
    have hnn : ¬ r < 0 := by
      rcases qp_wr_nn qv_lf qv_un qv_bi qv_big (qk_K yki) (qk_K yf1) (qk_K yf2) nt nt 0 (by omega) with z | ⟨j, hj, z⟩
      · exact absurd z hwr
      · have h16 := htk.1
        rw [er]
        show ¬ qp_wr _ _ _ _ _ _ _ _ _ _ < 0
        rw [z]
        exact nI_pos (by omega)
    refine br_f hnn ?_
    exact ⟨rfl, now, base, wt, dr, docs, segs, made, hi, by omega, hX, hY, ⟨nt, rfl, rfl, rfl, h4, h5, htk⟩, nil (fun _ => False) _ _ _ (fun _ _ h => h) hwo0, rfl, er.symm⟩
