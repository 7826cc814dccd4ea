/-! tokens, results, state -/
theorem i_tok {k : Nat} (a b : Int32) (P : Prop) (hb : P) (hk : k < 12) : True := trivial
theorem i_vc_token {k : Nat} {u : SX} {v : SY} (I : i_Rel k u v) (hk : k + 4 ≤ 2048) (v1 : Int32) (v2 : Int32) (v3 : Int32) : wpX_token (fun r u' => wpY_token (fun r' v' => r' = r ∧ i_Rel (k + 4) u' v') v v1 v2 v3) u v1 v2 v3 := by
  obtain ⟨xwc, xdc, xdm, xsc, xtc, xnc, xmc, xbr, xwt, xch, xtl, xwf, xdn, xdf, xdl, xss, xtk, xta, xtb, xnk, xna, xnb, xnl, xnr, xns, xfa, xfs, xfi, xrw, xrc, xcl, xhd, xre, xhi, xwo⟩ := u
  obtain ⟨ywa, ydd, ynd, yns, yma, ynt, yno, yrc, yfo, ybl, yod, ywr, yan, yab, yac, yad, yal, yabl, yacl, yacf, ynu, yfi, ypa, ysz, yli, ytx, yki, yf1, yf2, yo, yoa, yob, yit, yss, ymo, yst, ymy, ycl, yrw, yow, yen, yhi, yla⟩ := v
  obtain ⟨now, base, wt, dr, docs, segs, made, hi, hm, hX, hY, ⟨nt, h1, h2, h3, rfl, rfl, h16, htk⟩, hR, hb, hw⟩ := I
  have h1 := h1.symm
  have h2 := h2.symm
  have h3 := h3.symm
  subst h1; subst h2; subst h3
  have same : ∀ r : Int32, r = r ∧ i_Rel (k + 4) (xwc, xdc, xdm, xsc, nI nt, xnc, xmc, xbr, xwt, xch, xtl, xwf, xdn, xdf, xdl, xss, xtk, xta, xtb, xnk, xna, xnb, xnl, xnr, xns, xfa, xfs, xfi, xrw, xrc, xcl, xhd, xre, xhi, xwo) (ywa, ydd, ynd, yns, yma, nI nt, yno, yrc, yfo, ybl, yod, ywr, yan, yab, yac, yad, yal, yabl, yacl, yacf, ynu, yfi, ypa, ysz, yli, ytx, xtk, xta, xtb, yo, yoa, yob, yit, yss, ymo, yst, ymy, ycl, yrw, yow, yen, yhi, yla) := fun r => ⟨rfl, now, base, wt, dr, docs, segs, made, hi, by omega, hX, hY, ⟨nt, rfl, rfl, rfl, rfl, rfl, h16, htk⟩, hR, hb, hw⟩
  have good : ∀ q : Nat, nt < 16 → q < 12 → v1 = nI q → (q = 0 → ∃ a : Nat, a < 6 ∧ v2 = nI a) → (q = 2 → ∃ a : Nat, 1 ≤ a ∧ a ≤ 63 ∧ v2 = nI a) → (q = 9 → ∃ a b : Nat, a ≤ b ∧ b ≤ 3 ∧ v2 = nI a ∧ v3 = nI b) → nI (nt + 1) = nI (nt + 1) ∧ i_Rel (k + 4) (xwc, xdc, xdm, xsc, nI (nt + 1), xnc, xmc, xbr, xwt, xch, xtl, xwf, xdn, xdf, xdl, xss, upd xtk nt v1, upd xta nt v2, upd xtb nt v3, xnk, xna, xnb, xnl, xnr, xns, xfa, xfs, xfi, xrw, xrc, xcl, xhd, xre, xhi, xwo) (ywa, ydd, ynd, yns, yma, nI (nt + 1), yno, yrc, yfo, ybl, yod, ywr, yan, yab, yac, yad, yal, yabl, yacl, yacf, ynu, yfi, ypa, ysz, yli, ytx, upd xtk nt v1, upd xta nt v2, upd xtb nt v3, yo, yoa, yob, yit, yss, ymo, yst, ymy, ycl, yrw, yow, yen, yhi, yla) := by
    intro q hlt hq eq q0 q2 q9
    refine ⟨rfl, now, base, wt, dr, docs, segs, made, hi, by omega, hX, hY, ⟨nt + 1, rfl, rfl, rfl, rfl, rfl, by omega, fun t ht => ?_⟩, hR, hb, hw⟩
    by_cases z : t = nt
    · subst z
      rw [pk_us, pk_us, pk_us]
      exact ⟨q, hq, eq, q0, q2, q9⟩
    · rw [pk_un z, pk_un z, pk_un z]
      exact htk t (by omega)
  have y75 : ∀ q : Nat, nt < 16 → q < 12 → v1 = nI q → (q = 0 → ∃ a : Nat, a < 6 ∧ v2 = nI a) → (q = 2 → ∃ a : Nat, 1 ≤ a ∧ a ≤ 63 ∧ v2 = nI a) → (q = 9 → ∃ a b : Nat, a ≤ b ∧ b ≤ 3 ∧ v2 = nI a ∧ v3 = nI b) → wY_token_75 (fun r' v' => r' = nI (nt + 1) ∧ i_Rel (k + 4) (xwc, xdc, xdm, xsc, nI (nt + 1), xnc, xmc, xbr, xwt, xch, xtl, xwf, xdn, xdf, xdl, xss, upd xtk nt v1, upd xta nt v2, upd xtb nt v3, xnk, xna, xnb, xnl, xnr, xns, xfa, xfs, xfi, xrw, xrc, xcl, xhd, xre, xhi, xwo) v') v1 v2 v3 ywa ydd ynd yns yma (nI nt) yno yrc yfo ybl yod ywr yan yab yac yad yal yabl yacl yacf ynu yfi ypa ysz yli ytx xtk xta xtb yo yoa yob yit yss ymo yst ymy ycl yrw yow yen yhi yla := by
    intro q hlt hq eq q0 q2 q9
    refine ⟨pk_in nt 16 hlt, nm_e ⟨pk_in nt 16 hlt, nm_e (nm_r (nI_1 nt) ⟨pk_in nt 16 hlt, nm_e ?_⟩)⟩⟩
    rw [nI_clamp (by omega)]
    exact good q hlt hq eq q0 q2 q9
  have xgo : ∀ q : Nat, nt < 16 → wpY_token (fun r' v' => r' = nI (nt + 1) ∧ i_Rel (k + 4) (xwc, xdc, xdm, xsc, nI (nt + 1), xnc, xmc, xbr, xwt, xch, xtl, xwf, xdn, xdf, xdl, xss, upd xtk nt v1, upd xta nt v2, upd xtb nt v3, xnk, xna, xnb, xnl, xnr, xns, xfa, xfs, xfi, xrw, xrc, xcl, xhd, xre, xhi, xwo) v') (ywa, ydd, ynd, yns, yma, nI nt, yno, yrc, yfo, ybl, yod, ywr, yan, yab, yac, yad, yal, yabl, yacl, yacf, ynu, yfi, ypa, ysz, yli, ytx, xtk, xta, xtb, yo, yoa, yob, yit, yss, ymo, yst, ymy, ycl, yrw, yow, yen, yhi, yla) v1 v2 v3 → ((1 : Int32) = 0 → wpY_token (fun r' v' => r' = -1 ∧ i_Rel (k + 4) (xwc, xdc, xdm, xsc, nI nt, xnc, xmc, xbr, xwt, xch, xtl, xwf, xdn, xdf, xdl, xss, xtk, xta, xtb, xnk, xna, xnb, xnl, xnr, xns, xfa, xfs, xfi, xrw, xrc, xcl, xhd, xre, xhi, xwo) v') (ywa, ydd, ynd, yns, yma, nI nt, yno, yrc, yfo, ybl, yod, ywr, yan, yab, yac, yad, yal, yabl, yacl, yacf, ynu, yfi, ypa, ysz, yli, ytx, xtk, xta, xtb, yo, yoa, yob, yit, yss, ymo, yst, ymy, ycl, yrw, yow, yen, yhi, yla) v1 v2 v3) ∧ (¬ (1 : Int32) = 0 → vp_in (nI nt) 16 ∧ ∀ y1, y1 = upd xtk (nI nt).toNatClampNeg v1 → (vp_in (nI nt) 16 ∧ ∀ y2, y2 = upd xta (nI nt).toNatClampNeg v2 → (vp_in (nI nt) 16 ∧ ∀ y3, y3 = upd xtb (nI nt).toNatClampNeg v3 → ∀ y4, y4 = nI nt + 1 → wpY_token (fun r' v' => r' = y4 ∧ i_Rel (k + 4) (xwc, xdc, xdm, xsc, y4, xnc, xmc, xbr, xwt, xch, xtl, xwf, xdn, xdf, xdl, xss, y1, y2, y3, xnk, xna, xnb, xnl, xnr, xns, xfa, xfs, xfi, xrw, xrc, xcl, xhd, xre, xhi, xwo) v') (ywa, ydd, ynd, yns, yma, nI nt, yno, yrc, yfo, ybl, yod, ywr, yan, yab, yac, yad, yal, yabl, yacl, yacf, ynu, yfi, ypa, ysz, yli, ytx, xtk, xta, xtb, yo, yoa, yob, yit, yss, ymo, yst, ymy, ycl, yrw, yow, yen, yhi, yla) v1 v2 v3))) := by
    intro q hlt hh
    refine br_f (by decide) ⟨pk_in nt 16 hlt, nm_e ⟨pk_in nt 16 hlt, nm_e ⟨pk_in nt 16 hlt, nm_e (nm_r (nI_1 nt) ?_)⟩⟩⟩
    rw [nI_clamp (by omega)]
    exact hh
  have xno : ∀ P : Prop, wpY_token (fun r' v' => r' = -1 ∧ i_Rel (k + 4) (xwc, xdc, xdm, xsc, nI nt, xnc, xmc, xbr, xwt, xch, xtl, xwf, xdn, xdf, xdl, xss, xtk, xta, xtb, xnk, xna, xnb, xnl, xnr, xns, xfa, xfs, xfi, xrw, xrc, xcl, xhd, xre, xhi, xwo) v') (ywa, ydd, ynd, yns, yma, nI nt, yno, yrc, yfo, ybl, yod, ywr, yan, yab, yac, yad, yal, yabl, yacl, yacf, ynu, yfi, ypa, ysz, yli, ytx, xtk, xta, xtb, yo, yoa, yob, yit, yss, ymo, yst, ymy, ycl, yrw, yow, yen, yhi, yla) v1 v2 v3 → ((0 : Int32) = 0 → wpY_token (fun r' v' => r' = -1 ∧ i_Rel (k + 4) (xwc, xdc, xdm, xsc, nI nt, xnc, xmc, xbr, xwt, xch, xtl, xwf, xdn, xdf, xdl, xss, xtk, xta, xtb, xnk, xna, xnb, xnl, xnr, xns, xfa, xfs, xfi, xrw, xrc, xcl, xhd, xre, xhi, xwo) v') (ywa, ydd, ynd, yns, yma, nI nt, yno, yrc, yfo, ybl, yod, ywr, yan, yab, yac, yad, yal, yabl, yacl, yacf, ynu, yfi, ypa, ysz, yli, ytx, xtk, xta, xtb, yo, yoa, yob, yit, yss, ymo, yst, ymy, ycl, yrw, yow, yen, yhi, yla) v1 v2 v3) ∧ (¬ (0 : Int32) = 0 → P) := fun P h => br_t rfl h
  unfold wpX_token
  by_cases hlt : nt < 16
  · refine br_f (nI_ge (b := 16) hlt (by decide)) ?_
    rcases pk_ix v1 (n := 12) (by decide) with z | z | ⟨q, hq, eq⟩
    · have n0 : ¬ v1 = 0 := fun e => by rw [e] at z; exact absurd z (by decide)
      have n2 : ¬ v1 = 2 := fun e => by rw [e] at z; exact absurd z (by decide)
      have n9 : ¬ v1 = 9 := fun e => by rw [e] at z; exact absurd z (by decide)
      refine br_f n0 (br_f n2 (br_f n9 (br_t z (br_t rfl ?_))))
      unfold wpY_token
      exact br_t z (br_t rfl (same (-1)))
    · have hn : ¬ v1 < 0 := fun y => absurd (Int32.lt_of_le_of_lt z y) (by decide)
      have n0 : ¬ v1 = 0 := fun e => by rw [e] at z; exact absurd z (by decide)
      have n2 : ¬ v1 = 2 := fun e => by rw [e] at z; exact absurd z (by decide)
      have n9 : ¬ v1 = 9 := fun e => by rw [e] at z; exact absurd z (by decide)
      refine br_f n0 (br_f n2 (br_f n9 (br_f hn (br_t z (br_t rfl ?_)))))
      unfold wpY_token
      refine br_f hn (br_t ?_ (br_t rfl (same (-1))))
      exact Int32.lt_of_lt_of_le (by decide) z
    · have yin : ∀ P : Int32 → Prop, P 1 → wpY_in P v1 0 11 := fun P hP => ys_in v1 0 11 (by decide) (by decide) 0 11 rfl rfl P (fun y => absurd eq (y q (by omega) (by omega))) (fun _ _ _ _ => hP)
      have n16 : ¬ nI nt = 16 := fun e => by
        rw [show (16 : Int32) = nI 16 from rfl, nI_eq (by omega) (by omega)] at e
        omega
      by_cases c0 : q = 0
      · subst c0
        have e0 : v1 = 0 := eq
        refine br_t e0 (xl_letC v2 _ (fun z => ⟨by decide, br_t rfl ?_⟩) (fun a ha ea => ⟨by decide, xgo 0 hlt ?_⟩))
        · unfold wpY_token
          refine yin _ (br_f (by decide) (br_f n16 (br_t e0 ?_)))
          exact ys_in v2 0 5 (by decide) (by decide) 0 5 rfl rfl _ (fun _ => br_t rfl (same (-1))) (fun a _ ha ea => absurd ea (z a (by omega)))
        · unfold wpY_token
          refine yin _ (br_f (by decide) (br_f n16 (br_t e0 ?_)))
          refine ys_in v2 0 5 (by decide) (by decide) 0 5 rfl rfl _ (fun z => absurd ea (z a (by omega) (by omega))) (fun _ _ _ _ => br_f (by decide) ?_)
          have n2 : ¬ v1 = 2 := fun e => by rw [e] at e0; exact absurd e0 (by decide)
          have n9 : ¬ v1 = 9 := fun e => by rw [e] at e0; exact absurd e0 (by decide)
          exact br_f n2 (br_f n9 (y75 0 hlt hq eq (fun _ => ⟨a, ha, ea⟩) (fun h => absurd h (by decide)) (fun h => absurd h (by decide))))
      · have n0 : ¬ v1 = 0 := fun e => by
          rw [e, show (0 : Int32) = nI 0 from rfl, nI_eq (by omega) (by omega)] at eq
          exact c0 eq.symm
        refine br_f n0 ?_
        by_cases c2 : q = 2
        · subst c2
          have e2 : v1 = 2 := eq
          have n9 : ¬ v1 = 9 := fun e => by rw [e] at e2; exact absurd e2 (by decide)
          refine br_t e2 ?_
          have ybad : (∀ a, 1 ≤ a → a ≤ 63 → v2 ≠ nI a) → wpY_token (fun r' v' => r' = -1 ∧ i_Rel (k + 4) (xwc, xdc, xdm, xsc, nI nt, xnc, xmc, xbr, xwt, xch, xtl, xwf, xdn, xdf, xdl, xss, xtk, xta, xtb, xnk, xna, xnb, xnl, xnr, xns, xfa, xfs, xfi, xrw, xrc, xcl, xhd, xre, xhi, xwo) v') (ywa, ydd, ynd, yns, yma, nI nt, yno, yrc, yfo, ybl, yod, ywr, yan, yab, yac, yad, yal, yabl, yacl, yacf, ynu, yfi, ypa, ysz, yli, ytx, xtk, xta, xtb, yo, yoa, yob, yit, yss, ymo, yst, ymy, ycl, yrw, yow, yen, yhi, yla) v1 v2 v3 := by
            intro z
            unfold wpY_token
            refine yin _ (br_f (by decide) (br_f n16 (br_f n0 (br_t e2 ?_))))
            exact ys_in v2 1 63 (by decide) (by decide) 1 63 rfl rfl _ (fun _ => br_t rfl (same (-1))) (fun a h1 h2 ea => absurd ea (z a h1 h2))
          by_cases l1 : v2 < 1
          · refine br_t l1 (xno _ (ybad (fun a h1 h2 e => ?_)))
            rw [e, show (1 : Int32) = nI 1 from rfl, nI_ltI (by omega) (by omega)] at l1
            omega
          · refine br_f l1 ?_
            by_cases l2 : 63 < v2
            · refine br_t l2 (xno _ (ybad (fun a h1 h2 e => ?_)))
              rw [e, show (63 : Int32) = nI 63 from rfl, nI_ltI (by omega) (by omega)] at l2
              omega
            · refine br_f l2 (xgo 2 hlt ?_)
              have hnn : ¬ v2 < 0 := fun y => l1 (Int32.lt_trans y (by decide))
              obtain ⟨a, ha, ea⟩ := nI_of hnn
              rw [ea, show (1 : Int32) = nI 1 from rfl, nI_ltI ha (by omega)] at l1
              rw [ea, show (63 : Int32) = nI 63 from rfl, nI_ltI (by omega) ha] at l2
              unfold wpY_token
              refine yin _ (br_f (by decide) (br_f n16 (br_f n0 (br_t e2 ?_))))
              refine ys_in v2 1 63 (by decide) (by decide) 1 63 rfl rfl _ (fun z => absurd ea (z a (by omega) (by omega))) (fun _ _ _ _ => br_f (by decide) ?_)
              exact br_f n9 (y75 2 hlt hq eq (fun h => absurd h (by decide)) (fun _ => ⟨a, by omega, by omega, ea⟩) (fun h => absurd h (by decide)))
        · have n2 : ¬ v1 = 2 := fun e => by
            rw [e, show (2 : Int32) = nI 2 from rfl, nI_eq (by omega) (by omega)] at eq
            exact c2 eq.symm
          refine br_f n2 ?_
          by_cases c9 : q = 9
          · subst c9
            have e9 : v1 = 9 := eq
            refine br_t e9 ?_
            have ybad : (∀ a b, a ≤ b → b ≤ 3 → v2 = nI a → v3 ≠ nI b) → wpY_token (fun r' v' => r' = -1 ∧ i_Rel (k + 4) (xwc, xdc, xdm, xsc, nI nt, xnc, xmc, xbr, xwt, xch, xtl, xwf, xdn, xdf, xdl, xss, xtk, xta, xtb, xnk, xna, xnb, xnl, xnr, xns, xfa, xfs, xfi, xrw, xrc, xcl, xhd, xre, xhi, xwo) v') (ywa, ydd, ynd, yns, yma, nI nt, yno, yrc, yfo, ybl, yod, ywr, yan, yab, yac, yad, yal, yabl, yacl, yacf, ynu, yfi, ypa, ysz, yli, ytx, xtk, xta, xtb, yo, yoa, yob, yit, yss, ymo, yst, ymy, ycl, yrw, yow, yen, yhi, yla) v1 v2 v3 := by
              intro z
              unfold wpY_token
              refine yin _ (br_f (by decide) (br_f n16 (br_f n0 (br_f n2 (br_t e9 ?_)))))
              refine ys_in v2 0 3 (by decide) (by decide) 0 3 rfl rfl _ (fun _ => br_t rfl (same (-1))) (fun a _ h2 ea => br_f (by decide) ?_)
              exact ys_in v3 a 3 (by decide) (by omega) v2 3 ea rfl _ (fun _ => br_t rfl (same (-1))) (fun b h3 h4 eb => absurd eb (z a b h3 h4 ea))
            by_cases l1 : v2 < 0
            · exact br_t l1 (xno _ (ybad (fun a b h1 h2 e => by rw [e] at l1; exact absurd l1 (nI_pos (by omega)))))
            · refine br_f l1 ?_
              obtain ⟨a, ha, ea⟩ := nI_of l1
              by_cases l2 : v3 < v2
              · refine br_t l2 (xno _ (ybad (fun a' b' h1 h2 e1 e2 => ?_)))
                rw [e1, e2, nI_ltI (by omega) (by omega)] at l2
                omega
              · refine br_f l2 ?_
                by_cases l3 : 3 < v3
                · refine br_t l3 (xno _ (ybad (fun a' b' h1 h2 e1 e2 => ?_)))
                  rw [e2, show (3 : Int32) = nI 3 from rfl, nI_ltI (by omega) (by omega)] at l3
                  omega
                · refine br_f l3 (xgo 9 hlt ?_)
                  have hnn : ¬ v3 < 0 := fun y => l2 (Int32.lt_of_lt_of_le y (by rw [ea]; exact nI_pos' ha))
                  obtain ⟨b, hb', eb⟩ := nI_of hnn
                  rw [ea, eb, nI_ltI hb' ha] at l2
                  rw [eb, show (3 : Int32) = nI 3 from rfl, nI_ltI (by omega) hb'] at l3
                  unfold wpY_token
                  refine yin _ (br_f (by decide) (br_f n16 (br_f n0 (br_f n2 (br_t e9 ?_)))))
                  refine ys_in v2 0 3 (by decide) (by decide) 0 3 rfl rfl _ (fun z => absurd ea (z a (by omega) (by omega))) (fun _ _ _ _ => br_f (by decide) ?_)
                  refine ys_in v3 a 3 (by decide) (by omega) v2 3 ea rfl _ (fun z => absurd eb (z b (by omega) (by omega))) (fun _ _ _ _ => br_f (by decide) ?_)
                  exact y75 9 hlt hq eq (fun h => absurd h (by decide)) (fun h => absurd h (by decide)) (fun _ => ⟨a, b, by omega, by omega, ea, eb⟩)
          · have n9 : ¬ v1 = 9 := fun e => by
              rw [e, show (9 : Int32) = nI 9 from rfl, nI_eq (by omega) (by omega)] at eq
              exact c9 eq.symm
            refine br_f n9 (br_f (by rw [eq]; exact nI_pos (by omega)) (br_f (by rw [eq]; exact nI_ge (b := 12) hq (by decide)) (xgo q hlt ?_)))
            unfold wpY_token
            refine yin _ (br_f (by decide) (br_f n16 (br_f n0 (br_f n2 (br_f n9 ?_)))))
            exact y75 q hlt hq eq (fun h => absurd h c0) (fun h => absurd h c2) (fun h => absurd h c9)
  · have e16 : nt = 16 := by omega
    subst e16
    refine br_t (by decide) ?_
    unfold wpY_token
    refine ys_in v1 0 11 (by decide) (by decide) 0 11 rfl rfl _ (fun _ => br_t rfl (same (-1))) (fun _ _ _ _ => br_f (by decide) (br_t (by decide) (same (-1))))
theorem i_vc_wipe {k : Nat} {u : SX} {v : SY} (I : i_Rel k u v) (hk : k + 4 ≤ 2048) : wpX_wipe (fun r u' => wpY_wipe (fun r' v' => r' = r ∧ i_Rel (k + 4) u' v') v) u := by
  obtain ⟨xwc, xdc, xdm, xsc, xtc, xnc, xmc, xbr, xwt, xch, xtl, xwf, xdn, xdf, xdl, xss, xtk, xta, xtb, xnk, xna, xnb, xnl, xnr, xns, xfa, xfs, xfi, xrw, xrc, xcl, xhd, xre, xhi, xwo⟩ := u
  obtain ⟨ywa, ydd, ynd, yns, yma, ynt, yno, yrc, yfo, ybl, yod, ywr, yan, yab, yac, yad, yal, yabl, yacl, yacf, ynu, yfi, ypa, ysz, yli, ytx, yki, yf1, yf2, yo, yoa, yob, yit, yss, ymo, yst, ymy, ycl, yrw, yow, yen, yhi, yla⟩ := v
  obtain ⟨now, base, wt, dr, docs, segs, made, hi, hm, hX, hY, ⟨nt, h1, h2, h3, h4, h5, h16, htk⟩, hR, hb, hw⟩ := I
  exact ⟨by rw [h4, h5], now, base, wt, dr, docs, segs, made, hi, by omega, hX, hY, ⟨0, h1, h2, h3, rfl, rfl, by omega, fun t ht => absurd ht (by omega)⟩, hR, hb, hw⟩
theorem i_vc_place {k : Nat} {u : SX} {v : SY} (I : i_Rel k u v) (hk : k + 4 ≤ 2048) : wpX_place (fun r => wpY_place (fun r' => r' = r ∧ i_Rel (k + 4) u v) v) u := by
  obtain ⟨xwc, xdc, xdm, xsc, xtc, xnc, xmc, xbr, xwt, xch, xtl, xwf, xdn, xdf, xdl, xss, xtk, xta, xtb, xnk, xna, xnb, xnl, xnr, xns, xfa, xfs, xfi, xrw, xrc, xcl, xhd, xre, xhi, xwo⟩ := u
  obtain ⟨ywa, ydd, ynd, yns, yma, ynt, yno, yrc, yfo, ybl, yod, ywr, yan, yab, yac, yad, yal, yabl, yacl, yacf, ynu, yfi, ypa, ysz, yli, ytx, yki, yf1, yf2, yo, yoa, yob, yit, yss, ymo, yst, ymy, ycl, yrw, yow, yen, yhi, yla⟩ := v
  obtain ⟨now, base, wt, dr, docs, segs, made, hi, hm, hX, hY, hT, hR, hb, hw⟩ := I
  exact ⟨hw.symm, now, base, wt, dr, docs, segs, made, hi, by omega, hX, hY, hT, hR, hb, hw⟩
theorem i_vc_opened {k : Nat} {u : SX} {v : SY} (I : i_Rel k u v) (hk : k + 4 ≤ 2048) (v1 : Int32) : wpX_opened (fun r => wpY_opened (fun r' => r' = r ∧ i_Rel (k + 4) u v) v v1) u v1 := by
  obtain ⟨xwc, xdc, xdm, xsc, xtc, xnc, xmc, xbr, xwt, xch, xtl, xwf, xdn, xdf, xdl, xss, xtk, xta, xtb, xnk, xna, xnb, xnl, xnr, xns, xfa, xfs, xfi, xrw, xrc, xcl, xhd, xre, xhi, xwo⟩ := u
  obtain ⟨ywa, ydd, ynd, yns, yma, ynt, yno, yrc, yfo, ybl, yod, ywr, yan, yab, yac, yad, yal, yabl, yacl, yacf, ynu, yfi, ypa, ysz, yli, ytx, yki, yf1, yf2, yo, yoa, yob, yit, yss, ymo, yst, ymy, ycl, yrw, yow, yen, yhi, yla⟩ := v
  obtain ⟨now, base, wt, dr, docs, segs, made, hi, hm, hX, hY, hT, ⟨H, op, hH, hRx, hRy⟩, hb, hw⟩ := I
  have same : ∀ r : Int32, r = r ∧ i_Rel (k + 4) (xwc, xdc, xdm, xsc, xtc, xnc, xmc, xbr, xwt, xch, xtl, xwf, xdn, xdf, xdl, xss, xtk, xta, xtb, xnk, xna, xnb, xnl, xnr, xns, xfa, xfs, xfi, xrw, xrc, xcl, xhd, xre, xhi, xwo) (ywa, ydd, ynd, yns, yma, ynt, yno, yrc, yfo, ybl, yod, ywr, yan, yab, yac, yad, yal, yabl, yacl, yacf, ynu, yfi, ypa, ysz, yli, ytx, yki, yf1, yf2, yo, yoa, yob, yit, yss, ymo, yst, ymy, ycl, yrw, yow, yen, yhi, yla) := fun r => ⟨rfl, now, base, wt, dr, docs, segs, made, hi, by omega, hX, hY, hT, ⟨H, op, hH, hRx, hRy⟩, hb, hw⟩
  unfold wpX_opened
  refine xs_fileC v1 _ (fun z => br_t rfl ?_) (fun f hf e => br_f (by decide) ⟨?_, ?_⟩)
  · unfold wpY_opened
    refine ys_fileC v1 _ (fun _ => br_t rfl (same 0)) (fun f hf e => ?_)
    subst e
    rcases z with z | z
    · exact absurd z (nI_pos (by omega))
    · exact absurd z (nI_ge (b := 10) hf (by decide))
  · subst e; exact pk_in f 10 hf
  · subst e
    rw [nI_clamp (by omega)]
    have hx := hRx.2.2 f hf
    have hy := hRy.2.2 f hf
    by_cases z : op f
    · rw [hx.1 z]
      refine br_f (by decide) ?_
      unfold wpY_opened
      exact ys_file f hf _ (br_f (by decide) (br_t ((qb_s1 yod f (by omega)).mpr (hy.mpr z)) (same 1)))
    · rw [hx.2 z]
      refine br_t rfl ?_
      unfold wpY_opened
      exact ys_file f hf _ (br_f (by decide) (br_f (fun w => z (hy.mp ((qb_s1 yod f (by omega)).mp w))) (same 0)))
def qa_st (now : Nat → qf_X) (wc sc dm br dd p0 : Int32) : Int32 := if p0 = 0 then wc else if p0 = 1 then sc else if p0 = 2 then dm else if p0 = 3 then nI (qn_th now 10) else if p0 = 4 then br else if p0 = 5 then dd else -1
section
variable {ywa ydd ynd yns yma ynt yno yrc yfo ybl yod ywr : Int32} {yan yab yac yad yal yabl yacl yacf ynu yfi ypa ysz yli ytx yki yf1 yf2 yo yoa yob yit yss ymo yst ymy ycl yrw yow yhi yla : Nat → Int32} {yen : Nat → Int64}
theorem yt_1 (now : Nat → qf_X) (hno : ∀ f, f < 10 → qf_o (now f)) (hs : ∀ f, f < 10 → qx_slot yan yal f (now f)) (x1 : Int32) (post : Int32 → Prop) (hp : post (qa_st now ywa yns yma ybl ydd x1)) :
  ∀ (n f : Nat), f ≤ 10 → 10 - f < n → wY_state_4 post x1 ywa ydd ynd yns yma ynt yno yrc yfo ybl yod ywr yan yab yac yad yal yabl yacl yacf ynu yfi ypa ysz yli ytx yki yf1 yf2 yo yoa yob yit yss ymo yst ymy ycl yrw yow yen yhi yla n (nI (qn_th now f)) (nI f) := by
  intro n
  induction n with
  | zero => intro f h1 h2; omega
  | succ n ih =>
    intro f h1 h2
    refine pk_le 10 f (fun hle => ?_) (fun hlt => ?_)
    · have e : f = 10 := by omega
      subst e
      unfold qa_st at hp
      refine br_c (fun z => ?_) (fun z0 => br_c (fun z => ?_) (fun z1 => br_c (fun z => ?_) (fun z2 => br_c (fun z => ?_) (fun z3 => br_c (fun z => ?_) (fun z4 => br_c (fun z => ?_) (fun z5 => ?_))))))
      · rw [if_pos z] at hp; exact hp
      · rw [if_neg z0, if_pos z] at hp; exact hp
      · rw [if_neg z0, if_neg z1, if_pos z] at hp; exact hp
      · rw [if_neg z0, if_neg z1, if_neg z2, if_pos z] at hp; exact hp
      · rw [if_neg z0, if_neg z1, if_neg z2, if_neg z3, if_pos z] at hp; exact hp
      · rw [if_neg z0, if_neg z1, if_neg z2, if_neg z3, if_neg z4, if_pos z] at hp; exact hp
      · rw [if_neg z0, if_neg z1, if_neg z2, if_neg z3, if_neg z4, if_neg z5] at hp; exact hp
    · have := ih (f + 1) (by omega) (by omega)
      have hsf := hs f hlt
      refine ⟨pk_in f 10 hlt, ?_⟩
      rw [nI_clamp (by omega)]
      cases hnf : now f with
      | none =>
        rw [hnf] at hsf
        rw [show yal f = -1 from hsf]
        have e' : qn_th now (f + 1) = qn_th now f := by show qn_th now f + _ = _; rw [hnf]; rfl
        rw [e'] at this
        exact br_t (by decide) (nm_r (nI_1 f) this)
      | some t =>
        rw [hnf] at hsf
        rw [show yal f = nI t.length from hsf.1]
        have e' : qn_th now (f + 1) = qn_th now f + 1 := by show qn_th now f + _ = _; rw [hnf]
        rw [e'] at this
        exact br_f (nI_pos (by have := (hno f hlt t hnf).1; omega)) (nm_r (nI_1 _) (nm_r (nI_1 f) this))
end
theorem i_vc_state {k : Nat} {u : SX} {v : SY} (I : i_Rel k u v) (hk : k + 4 ≤ 2048) (v1 : Int32) : wpX_state (fun r => wpY_state (fun r' => r' = r ∧ i_Rel (k + 4) u v) v v1) u v1 := by
  obtain ⟨xwc, xdc, xdm, xsc, xtc, xnc, xmc, xbr, xwt, xch, xtl, xwf, xdn, xdf, xdl, xss, xtk, xta, xtb, xnk, xna, xnb, xnl, xnr, xns, xfa, xfs, xfi, xrw, xrc, xcl, xhd, xre, xhi, xwo⟩ := u
  obtain ⟨ywa, ydd, ynd, yns, yma, ynt, yno, yrc, yfo, ybl, yod, ywr, yan, yab, yac, yad, yal, yabl, yacl, yacf, ynu, yfi, ypa, ysz, yli, ytx, yki, yf1, yf2, yo, yoa, yob, yit, yss, ymo, yst, ymy, ycl, yrw, yow, yen, yhi, yla⟩ := v
  obtain ⟨now, base, wt, dr, docs, segs, made, hi, hm, hX, hY, hT, hR, hb, hw⟩ := I
  have hno := qf_now_o hi
  have J : i_Rel (k + 4) (xwc, xdc, xdm, xsc, xtc, xnc, xmc, xbr, xwt, xch, xtl, xwf, xdn, xdf, xdl, xss, xtk, xta, xtb, xnk, xna, xnb, xnl, xnr, xns, xfa, xfs, xfi, xrw, xrc, xcl, xhd, xre, xhi, xwo) (ywa, ydd, ynd, yns, yma, ynt, yno, yrc, yfo, ybl, yod, ywr, yan, yab, yac, yad, yal, yabl, yacl, yacf, ynu, yfi, ypa, ysz, yli, ytx, yki, yf1, yf2, yo, yoa, yob, yit, yss, ymo, yst, ymy, ycl, yrw, yow, yen, yhi, yla) := ⟨now, base, wt, dr, docs, segs, made, hi, by omega, hX, hY, hT, hR, hb, hw⟩
  have fx : ∀ r : Int32, r = qa_st now ywa yns yma ybl ydd v1 → wpY_state (fun r' => r' = r ∧ i_Rel (k + 4) (xwc, xdc, xdm, xsc, xtc, xnc, xmc, xbr, xwt, xch, xtl, xwf, xdn, xdf, xdl, xss, xtk, xta, xtb, xnk, xna, xnb, xnl, xnr, xns, xfa, xfs, xfi, xrw, xrc, xcl, xhd, xre, xhi, xwo) (ywa, ydd, ynd, yns, yma, ynt, yno, yrc, yfo, ybl, yod, ywr, yan, yab, yac, yad, yal, yabl, yacl, yacf, ynu, yfi, ypa, ysz, yli, ytx, yki, yf1, yf2, yo, yoa, yob, yit, yss, ymo, yst, ymy, ycl, yrw, yow, yen, yhi, yla)) (ywa, ydd, ynd, yns, yma, ynt, yno, yrc, yfo, ybl, yod, ywr, yan, yab, yac, yad, yal, yabl, yacl, yacf, ynu, yfi, ypa, ysz, yli, ytx, yki, yf1, yf2, yo, yoa, yob, yit, yss, ymo, yst, ymy, ycl, yrw, yow, yen, yhi, yla) v1 := fun r e => by
    rw [e]
    exact ⟨11, yt_1 now hno hY.1 v1 _ ⟨rfl, J⟩ 11 0 (by omega) (by omega)⟩
  have e0 : xwc = ywa := by rw [hX.2.2.1.1, hY.2.2.1.1]
  have e1 : xsc = yns := by rw [hX.2.2.2.2.2.2.1, hY.2.2.2.2.2.2]
  have e2 : xdm = yma := by rw [hX.2.2.2.2.2.1, hY.2.2.2.2.2.1]
  have e5 : xtl 26 = ydd := by rw [hX.2.2.2.1.1, hY.2.2.2.1.1]
  have bad : (v1 < 0 ∨ 5 < v1) → (-1 : Int32) = qa_st now ywa yns yma ybl ydd v1 := by
    intro z
    have h : ∀ w : Nat, w ≤ 5 → ¬ v1 = nI w := by
      intro w hw' e
      rw [e] at z
      rcases z with z | z
      · exact nI_pos (by omega) z
      · rw [show (5 : Int32) = nI 5 from rfl, nI_ltI (by omega) (by omega)] at z; omega
    have n0 : ¬ v1 = 0 := h 0 (by omega)
    have n1 : ¬ v1 = 1 := h 1 (by omega)
    have n2 : ¬ v1 = 2 := h 2 (by omega)
    have n3 : ¬ v1 = 3 := h 3 (by omega)
    have n4 : ¬ v1 = 4 := h 4 (by omega)
    have n5 : ¬ v1 = 5 := h 5 (by omega)
    unfold qa_st
    rw [if_neg n0, if_neg n1, if_neg n2, if_neg n3, if_neg n4, if_neg n5]
  refine br_c (fun z => fx _ (bad (Or.inl z))) (fun _ => br_c (fun z => fx _ (bad (Or.inr z))) (fun _ => ?_))
  refine br_c (fun z => fx _ ?_) (fun z0 => br_c (fun z => fx _ ?_) (fun z1 => br_c (fun z => fx _ ?_) (fun z2 => br_c (fun z => ?_) (fun z3 => br_c (fun z => fx _ ?_) (fun z4 => br_c (fun z => fx _ ?_) (fun _ => trivial))))))
  · rw [z, e0]; rfl
  · rw [z, e1]; rfl
  · rw [z, e2]; rfl
  · exact ⟨11, xl_cf1 now hno hX.1 _ (fx _ (by rw [z]; rfl)) 11 0 (by omega) (by omega)⟩
  · rw [z, hb]; rfl
  · rw [z, e5]; rfl
def qa_hit (H : List (Nat × Nat × Nat × Nat)) (p0 p1 : Int32) : Int32 := if p0 < 0 ∨ 40 ≤ p0 then -1 else match H[p0.toNatClampNeg]? with
  | none => -1
  | some x => if p1 = 0 then nI x.1 else if p1 = 1 then nI x.2.1 else if p1 = 2 then nI x.2.2.1 else if p1 = 3 then nI x.2.2.2 else -1
theorem i_vc_hit {k : Nat} {u : SX} {v : SY} (I : i_Rel k u v) (hk : k + 4 ≤ 2048) (v1 : Int32) (v2 : Int32) : wpX_hit (fun r => wpY_hit (fun r' => r' = r ∧ i_Rel (k + 4) u v) v v1 v2) u v1 v2 := by
  obtain ⟨xwc, xdc, xdm, xsc, xtc, xnc, xmc, xbr, xwt, xch, xtl, xwf, xdn, xdf, xdl, xss, xtk, xta, xtb, xnk, xna, xnb, xnl, xnr, xns, xfa, xfs, xfi, xrw, xrc, xcl, xhd, xre, xhi, xwo⟩ := u
  obtain ⟨ywa, ydd, ynd, yns, yma, ynt, yno, yrc, yfo, ybl, yod, ywr, yan, yab, yac, yad, yal, yabl, yacl, yacf, ynu, yfi, ypa, ysz, yli, ytx, yki, yf1, yf2, yo, yoa, yob, yit, yss, ymo, yst, ymy, ycl, yrw, yow, yen, yhi, yla⟩ := v
  obtain ⟨now, base, wt, dr, docs, segs, made, hi, hm, hX, hY, hT, ⟨H, op, hH, hRx, hRy⟩, hb, hw⟩ := I
  have same : ∀ r : Int32, r = r ∧ i_Rel (k + 4) (xwc, xdc, xdm, xsc, xtc, xnc, xmc, xbr, xwt, xch, xtl, xwf, xdn, xdf, xdl, xss, xtk, xta, xtb, xnk, xna, xnb, xnl, xnr, xns, xfa, xfs, xfi, xrw, xrc, xcl, xhd, xre, xhi, xwo) (ywa, ydd, ynd, yns, yma, ynt, yno, yrc, yfo, ybl, yod, ywr, yan, yab, yac, yad, yal, yabl, yacl, yacf, ynu, yfi, ypa, ysz, yli, ytx, yki, yf1, yf2, yo, yoa, yob, yit, yss, ymo, yst, ymy, ycl, yrw, yow, yen, yhi, yla) := fun r => ⟨rfl, now, base, wt, dr, docs, segs, made, hi, by omega, hX, hY, hT, ⟨H, op, hH, hRx, hRy⟩, hb, hw⟩
  have hl := hH.1
  obtain ⟨hx1, hx2, _⟩ := hRx
  obtain ⟨hy1, hy2, _⟩ := hRy
  subst hx1; subst hy1
  have ybad : ((∀ j, j < 40 → j < H.length → v1 ≠ nI j) ∨ (∀ w, w ≤ 3 → v2 ≠ nI w)) → wpY_hit (fun r' => r' = -1 ∧ i_Rel (k + 4) (xwc, xdc, xdm, xsc, xtc, xnc, nI H.length, xbr, xwt, xch, xtl, xwf, xdn, xdf, xdl, xss, xtk, xta, xtb, xnk, xna, xnb, xnl, xnr, xns, xfa, xfs, xfi, xrw, xrc, xcl, xhd, xre, xhi, xwo) (ywa, ydd, ynd, yns, yma, ynt, yno, yrc, nI H.length, ybl, yod, ywr, yan, yab, yac, yad, yal, yabl, yacl, yacf, ynu, yfi, ypa, ysz, yli, ytx, yki, yf1, yf2, yo, yoa, yob, yit, yss, ymo, yst, ymy, ycl, yrw, yow, yen, yhi, yla)) (ywa, ydd, ynd, yns, yma, ynt, yno, yrc, nI H.length, ybl, yod, ywr, yan, yab, yac, yad, yal, yabl, yacl, yacf, ynu, yfi, ypa, ysz, yli, ytx, yki, yf1, yf2, yo, yoa, yob, yit, yss, ymo, yst, ymy, ycl, yrw, yow, yen, yhi, yla) v1 v2 := by
    intro h
    unfold wpY_hit
    refine yr_inm v1 H.length (by omega) _ rfl _ (fun _ => br_t rfl (same (-1))) (fun j hj e => br_f (by decide) ?_)
    refine br_c (fun _ => same (-1)) (fun n40 => ?_)
    refine ys_in v2 0 3 (by decide) (by decide) 0 3 rfl rfl _ (fun _ => br_t rfl (same (-1))) (fun w _ hw' e2 => ?_)
    rcases h with h | h
    · have hj40 : j < 40 := by
        rcases Nat.lt_or_ge j 40 with y | y
        · exact y
        · exact absurd (by rw [e]; exact nI_le (a := 40) y (by omega)) n40
      exact absurd e (h j hj40 hj)
    · exact absurd e2 (h w hw')
  by_cases l0 : v1 < 0
  · exact br_t l0 (ybad (Or.inl (fun j hj _ e => by rw [e] at l0; exact nI_pos (by omega) l0)))
  · refine br_f l0 ?_
    by_cases l1 : 40 ≤ v1
    · exact br_t l1 (ybad (Or.inl (fun j hj _ e => by rw [e] at l1; exact nI_ge (b := 40) hj (by decide) l1)))
    · refine br_f l1 ?_
      by_cases l2 : nI H.length ≤ v1
      · exact br_t l2 (ybad (Or.inl (fun j hj hj' e => by rw [e] at l2; exact nI_ge hj' (by omega) l2)))
      · refine br_f l2 ?_
        by_cases l3 : v2 < 0
        · exact br_t l3 (ybad (Or.inr (fun w hw' e => by rw [e] at l3; exact nI_pos (by omega) l3)))
        · refine br_f l3 ?_
          by_cases l4 : v2 < 4
          · refine br_t l4 ?_
            obtain ⟨j, hj, rfl⟩ := nI_of l0
            obtain ⟨w, hw', rfl⟩ := nI_of l3
            rw [show (40 : Int32) = nI 40 from rfl, nI_leI (by omega) hj] at l1
            rw [nI_leI (by omega) hj] at l2
            rw [show (4 : Int32) = nI 4 from rfl, nI_ltI hw' (by omega)] at l4
            have ej : nI j * 4 + nI w = nI (j * 4 + w) := by rw [show (4 : Int32) = nI 4 from rfl, pk_mul, nI_add]
            have hjl : j < H.length := by omega
            have hg := List.getElem?_eq_getElem hjl
            obtain ⟨a0, a1, a2, a3⟩ := hx2 j _ (by omega) hg
            have hyk := hy2 j _ (by omega) hg
            have hin := hH.2 _ (List.getElem_mem hjl)
            refine ⟨pk_in (j * 4 + w) 160 (by omega) ej, ?_⟩
            rw [ej, nI_clamp (by omega)]
            have fin : ∀ r : Int32, r = nI (qR_pk H[j] / 2 ^ (8 * w) % 2 ^ 8) → wpY_hit (fun r' => r' = r ∧ i_Rel (k + 4) (xwc, xdc, xdm, xsc, xtc, xnc, nI H.length, xbr, xwt, xch, xtl, xwf, xdn, xdf, xdl, xss, xtk, xta, xtb, xnk, xna, xnb, xnl, xnr, xns, xfa, xfs, xfi, xrw, xrc, xcl, xhd, xre, xhi, xwo) (ywa, ydd, ynd, yns, yma, ynt, yno, yrc, nI H.length, ybl, yod, ywr, yan, yab, yac, yad, yal, yabl, yacl, yacf, ynu, yfi, ypa, ysz, yli, ytx, yki, yf1, yf2, yo, yoa, yob, yit, yss, ymo, yst, ymy, ycl, yrw, yow, yen, yhi, yla)) (ywa, ydd, ynd, yns, yma, ynt, yno, yrc, nI H.length, ybl, yod, ywr, yan, yab, yac, yad, yal, yabl, yacl, yacf, ynu, yfi, ypa, ysz, yli, ytx, yki, yf1, yf2, yo, yoa, yob, yit, yss, ymo, yst, ymy, ycl, yrw, yow, yen, yhi, yla) (nI j) (nI w) := by
              intro r er
              unfold wpY_hit
              refine yr_inm (nI j) H.length (by omega) _ rfl _ (fun z => absurd rfl (z j hjl)) (fun j' hj' e => br_f (by decide) ?_)
              refine br_f (by rw [show (40 : Int32) = nI 40 from rfl, nI_leI (by omega) hj]; omega) ?_
              refine ys_in (nI w) 0 3 (by decide) (by decide) 0 3 rfl rfl _ (fun z => absurd rfl (z w (by omega) (by omega))) (fun w' _ hw'' e2 => br_f (by decide) ⟨pk_in j 40 (by omega), ?_, (same 0).2⟩)
              rw [nI_clamp (by omega), hyk, er]
              have e8 : (8 : Int32) * nI w = nI (8 * w) := pk_mul 8 w
              have hpk : qR_pk H[j] < 2 ^ 31 := by unfold qR_pk; omega
              rw [e8, pk_shrN hpk (nI (8 * w) &&& 31) (8 * w) (s_l (8 * w) (by omega)), pk_andN (by have : qR_pk H[j] / 2 ^ (8 * w) ≤ qR_pk H[j] := Nat.div_le_self _ _; omega) 8 (by decide)]
            have hw4 : w = 0 ∨ w = 1 ∨ w = 2 ∨ w = 3 := by omega
            rcases hw4 with e | e | e | e
            · subst e
              rw [show j * 4 + 0 = j * 4 from rfl, a0]
              apply fin
              congr 1
              unfold qR_pk
              simp only [Nat.mul_zero, Nat.pow_zero, Nat.div_one]
              omega
            · subst e
              rw [a1]
              apply fin
              congr 1
              unfold qR_pk
              simp only [Nat.mul_one, show (2 : Nat) ^ 8 = 256 from rfl]
              omega
            · subst e
              rw [a2]
              apply fin
              congr 1
              unfold qR_pk
              simp only [show 8 * 2 = 16 from rfl, show (2 : Nat) ^ 16 = 65536 from rfl, show (2 : Nat) ^ 8 = 256 from rfl]
              omega
            · subst e
              rw [a3]
              apply fin
              congr 1
              unfold qR_pk
              simp only [show 8 * 3 = 24 from rfl, show (2 : Nat) ^ 24 = 16777216 from rfl, show (2 : Nat) ^ 8 = 256 from rfl]
              omega
          · refine br_f l4 (ybad (Or.inr (fun w hw' e => l4 ?_)))
            rw [e]
            exact nI_lt (b := 4) (by omega) (by decide)
