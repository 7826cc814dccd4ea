/-! the calls that look; tokens -/
def qa_file (now : Nat → qf_X) (docs : List qf_D) (p0 p1 : Int32) : Int32 := if p0 < 0 ∨ 10 ≤ p0 then -1 else if p1 = 3 then ql_v p0.toNatClampNeg docs else match now p0.toNatClampNeg with
  | none => -1
  | some t => if p1 = 0 then nI t.length else if p1 = 1 then nI (qn_6 t t.length) else if p1 = 2 then nI (qt_cnt t) else -1
theorem qa_file_b {now : Nat → qf_X} {docs : List qf_D} {p0 p1 : Int32} (h : p0 < 0 ∨ 10 ≤ p0) : qa_file now docs p0 p1 = -1 := if_pos h
theorem qa_in {f : Nat} (hf : f < 10) : ¬ (nI f < 0 ∨ 10 ≤ nI f) := by
  rintro (z | z)
  · exact nI_pos (by omega) z
  · exact nI_ge (b := 10) hf (by decide) z
theorem qa_file_3 {now : Nat → qf_X} {docs : List qf_D} {f : Nat} (hf : f < 10) : qa_file now docs (nI f) 3 = ql_v f docs := by
  unfold qa_file
  rw [if_neg (qa_in hf), if_pos rfl, nI_clamp (by omega)]
theorem qa_file_t {now : Nat → qf_X} {docs : List qf_D} {f : Nat} {p1 : Int32} (hf : f < 10) (h3 : ¬ p1 = 3) : qa_file now docs (nI f) p1 = match now f with
  | none => -1
  | some t => if p1 = 0 then nI t.length else if p1 = 1 then nI (qn_6 t t.length) else if p1 = 2 then nI (qt_cnt t) else -1 := by
  unfold qa_file
  rw [if_neg (qa_in hf), if_neg h3, nI_clamp (by omega)]
theorem i_vc_file {k : Nat} {u : SX} {v : SY} (I : i_Rel k u v) (hk : k + 4 ≤ 2048) (v1 : Int32) (v2 : Int32) : wpX_file (fun r u' => wpY_file (fun r' v' => r' = r ∧ i_Rel (k + 4) u' v') v v1 v2) u v1 v2 := by
  obtain ⟨xwc, xdc, xdm, xsc, xtc, xnc, xmc, xbr, xwt, xch, xtl, xwf, xdn, xdf, xdl, xss, xtk, xta, xtb, xnk, xna, xnb, xnl, xnr, xns, xfa, xfs, xfi, xrw, xrc, xcl, xhd, xre, xhi, xwo⟩ := u
  obtain ⟨ywa, ydd, ynd, yns, yma, ynt, yno, yrc, yfo, ybl, yod, ywr, yan, yab, yac, yad, yal, yabl, yacl, yacf, ynu, yfi, ypa, ysz, yli, ytx, yki, yf1, yf2, yo, yoa, yob, yit, yss, ymo, yst, ymy, ycl, yrw, yow, yen, yhi, yla⟩ := v
  obtain ⟨now, base, wt, dr, docs, segs, made, hi, hm, hX, hY, hT, hR, hb, hw⟩ := I
  have key : ∀ hd : Nat → Int32, wpY_file (fun r' v' => r' = qa_file now docs v1 v2 ∧ i_Rel (k + 4) (xwc, xdc, xdm, xsc, xtc, xnc, xmc, xbr, xwt, xch, xtl, xwf, xdn, xdf, xdl, xss, xtk, xta, xtb, xnk, xna, xnb, xnl, xnr, xns, xfa, xfs, xfi, xrw, xrc, xcl, hd, xre, xhi, xwo) v') (ywa, ydd, ynd, yns, yma, ynt, yno, yrc, yfo, ybl, yod, ywr, yan, yab, yac, yad, yal, yabl, yacl, yacf, ynu, yfi, ypa, ysz, yli, ytx, yki, yf1, yf2, yo, yoa, yob, yit, yss, ymo, yst, ymy, ycl, yrw, yow, yen, yhi, yla) v1 v2 := by
    intro hd
    have fin : ∀ (r : Int32) (la : Nat → Int32), r = qa_file now docs v1 v2 → r = qa_file now docs v1 v2 ∧ i_Rel (k + 4) (xwc, xdc, xdm, xsc, xtc, xnc, xmc, xbr, xwt, xch, xtl, xwf, xdn, xdf, xdl, xss, xtk, xta, xtb, xnk, xna, xnb, xnl, xnr, xns, xfa, xfs, xfi, xrw, xrc, xcl, hd, xre, xhi, xwo) (ywa, ydd, ynd, yns, yma, ynt, yno, yrc, yfo, ybl, yod, ywr, yan, yab, yac, yad, yal, yabl, yacl, yacf, ynu, yfi, ypa, ysz, yli, ytx, yki, yf1, yf2, yo, yoa, yob, yit, yss, ymo, yst, ymy, ycl, yrw, yow, yen, yhi, la) := fun r la e => ⟨e, now, base, wt, dr, docs, segs, made, hi, by omega, hX, hY, hT, hR, hb, hw⟩
    refine yl_file now base wt dr docs segs made hi hY v1 v2 _ (fun z => fin _ yla (qa_file_b z).symm) (fun f hf e0 e1 => fin _ yla ?_) (fun f hf e0 n3 e2 => fin _ yla ?_) (fun f t hf e0 et n0 n1 n2 n3 => fin _ yla ?_) (fun f t hf e0 et e1 => fin _ yla ?_) (fun f t hf e0 et e1 la => fin _ la ?_) (fun f t hf e0 et e1 la => fin _ la ?_)
    · rw [e0, e1, qa_file_3 hf]
    · rw [e0, qa_file_t hf n3, e2]
    · rw [e0, qa_file_t hf n3, et]
      dsimp only
      rw [if_neg n0, if_neg n1, if_neg n2]
    · rw [e0, e1, qa_file_t hf (by decide), et]
      rfl
    · rw [e0, e1, qa_file_t hf (by decide), et]
      rfl
    · rw [e0, e1, qa_file_t hf (by decide), et]
      rfl
  have fx : ∀ (r : Int32) (hd : Nat → Int32), r = qa_file now docs v1 v2 → wpY_file (fun r' v' => r' = r ∧ i_Rel (k + 4) (xwc, xdc, xdm, xsc, xtc, xnc, xmc, xbr, xwt, xch, xtl, xwf, xdn, xdf, xdl, xss, xtk, xta, xtb, xnk, xna, xnb, xnl, xnr, xns, xfa, xfs, xfi, xrw, xrc, xcl, hd, xre, xhi, xwo) v') (ywa, ydd, ynd, yns, yma, ynt, yno, yrc, yfo, ybl, yod, ywr, yan, yab, yac, yad, yal, yabl, yacl, yacf, ynu, yfi, ypa, ysz, yli, ytx, yki, yf1, yf2, yo, yoa, yob, yit, yss, ymo, yst, ymy, ycl, yrw, yow, yen, yhi, yla) v1 v2 := fun r hd e => by rw [e]; exact key hd
  refine xl_file now base wt dr docs segs made hi hX v1 v2 _ (fun z => fx _ xhd (qa_file_b z).symm) (fun f hf e0 e1 => fx _ xhd ?_) (fun f hf e0 n3 e2 => fx _ xhd ?_) (fun f t hf e0 et n0 n1 n2 n3 => fx _ xhd ?_) (fun f t hf e0 et e1 => fx _ xhd ?_) (fun f t hf e0 et e1 => fx _ xhd ?_) (fun f t hf e0 et e1 hd => fx _ hd ?_)
  · rw [e0, e1, qa_file_3 hf]
  · rw [e0, qa_file_t hf n3, e2]
  · rw [e0, qa_file_t hf n3, et]
    dsimp only
    rw [if_neg n0, if_neg n1, if_neg n2]
  · rw [e0, e1, qa_file_t hf (by decide), et]
    rfl
  · rw [e0, e1, qa_file_t hf (by decide), et]
    rfl
  · rw [e0, e1, qa_file_t hf (by decide), et]
    rfl
/-! at -/
def qa_at (now : Nat → qf_X) (p0 p1 : Int32) : Int32 := if p0 < 0 ∨ 10 ≤ p0 ∨ p1 < 0 then -1 else match now p0.toNatClampNeg with
  | none => -1
  | some t => if p1.toNatClampNeg < t.length then nI (t.getD p1.toNatClampNeg 0) else -1
theorem qa_at_g {now : Nat → qf_X} (hno : ∀ f, f < 10 → qf_o (now f)) {f i : Nat} {t : List Nat} (hf : f < 10) (et : now f = some t) (hi : i < t.length) : qa_at now (nI f) (nI i) = nI (t.getD i 0) := by
  have hL := (hno f hf t et).1
  unfold qa_at
  rw [if_neg, nI_clamp (by omega), nI_clamp (by omega), et]
  · dsimp only
    rw [if_pos hi]
  · rintro (z | z | z)
    · exact nI_pos (by omega) z
    · exact nI_ge (b := 10) hf (by decide) z
    · exact nI_pos (by omega) z
theorem qa_at_b {now : Nat → qf_X} {p0 p1 : Int32} (h : ∀ f t i, f < 10 → now f = some t → i < t.length → p0 = nI f → p1 ≠ nI i) : qa_at now p0 p1 = -1 := by
  unfold qa_at
  by_cases z : p0 < 0 ∨ 10 ≤ p0 ∨ p1 < 0
  · rw [if_pos z]
  · rw [if_neg z]
    have h0 : ¬ p0 < 0 := fun y => z (Or.inl y)
    have h1 : ¬ 10 ≤ p0 := fun y => z (Or.inr (Or.inl y))
    have h2 : ¬ p1 < 0 := fun y => z (Or.inr (Or.inr y))
    obtain ⟨e0, l0⟩ := qa_nn h0
    obtain ⟨e1, l1⟩ := qa_nn h2
    generalize p0.toNatClampNeg = f at *
    generalize p1.toNatClampNeg = i at *
    subst e0; subst e1
    have hf : f < 10 := by
      rcases Nat.lt_or_ge f 10 with y | y
      · exact y
      · exact absurd (nI_le (a := 10) y l0) h1
    cases et : now f with
    | none => rfl
    | some t =>
      dsimp only
      rw [if_neg]
      intro hi
      exact h f t i hf et hi rfl rfl
theorem i_vc_at {k : Nat} {u : SX} {v : SY} (I : i_Rel k u v) (hk : k + 4 ≤ 2048) (v1 : Int32) (v2 : Int32) : wpX_at (fun r => wpY_at (fun r' => r' = r ∧ i_Rel (k + 4) u v) v v1 v2) u v1 v2 := by
  obtain ⟨xwc, xdc, xdm, xsc, xtc, xnc, xmc, xbr, xwt, xch, xtl, xwf, xdn, xdf, xdl, xss, xtk, xta, xtb, xnk, xna, xnb, xnl, xnr, xns, xfa, xfs, xfi, xrw, xrc, xcl, xhd, xre, xhi, xwo⟩ := u
  obtain ⟨ywa, ydd, ynd, yns, yma, ynt, yno, yrc, yfo, ybl, yod, ywr, yan, yab, yac, yad, yal, yabl, yacl, yacf, ynu, yfi, ypa, ysz, yli, ytx, yki, yf1, yf2, yo, yoa, yob, yit, yss, ymo, yst, ymy, ycl, yrw, yow, yen, yhi, yla⟩ := v
  obtain ⟨now, base, wt, dr, docs, segs, made, hi, hm, hX, hY, hT, hR, hb, hw⟩ := I
  have hno := qf_now_o hi
  have J : i_Rel (k + 4) (xwc, xdc, xdm, xsc, xtc, xnc, xmc, xbr, xwt, xch, xtl, xwf, xdn, xdf, xdl, xss, xtk, xta, xtb, xnk, xna, xnb, xnl, xnr, xns, xfa, xfs, xfi, xrw, xrc, xcl, xhd, xre, xhi, xwo) (ywa, ydd, ynd, yns, yma, ynt, yno, yrc, yfo, ybl, yod, ywr, yan, yab, yac, yad, yal, yabl, yacl, yacf, ynu, yfi, ypa, ysz, yli, ytx, yki, yf1, yf2, yo, yoa, yob, yit, yss, ymo, yst, ymy, ycl, yrw, yow, yen, yhi, yla) := ⟨now, base, wt, dr, docs, segs, made, hi, by omega, hX, hY, hT, hR, hb, hw⟩
  have key : wpY_at (fun r' => r' = qa_at now v1 v2 ∧ i_Rel (k + 4) (xwc, xdc, xdm, xsc, xtc, xnc, xmc, xbr, xwt, xch, xtl, xwf, xdn, xdf, xdl, xss, xtk, xta, xtb, xnk, xna, xnb, xnl, xnr, xns, xfa, xfs, xfi, xrw, xrc, xcl, xhd, xre, xhi, xwo) (ywa, ydd, ynd, yns, yma, ynt, yno, yrc, yfo, ybl, yod, ywr, yan, yab, yac, yad, yal, yabl, yacl, yacf, ynu, yfi, ypa, ysz, yli, ytx, yki, yf1, yf2, yo, yoa, yob, yit, yss, ymo, yst, ymy, ycl, yrw, yow, yen, yhi, yla)) (ywa, ydd, ynd, yns, yma, ynt, yno, yrc, yfo, ybl, yod, ywr, yan, yab, yac, yad, yal, yabl, yacl, yacf, ynu, yfi, ypa, ysz, yli, ytx, yki, yf1, yf2, yo, yoa, yob, yit, yss, ymo, yst, ymy, ycl, yrw, yow, yen, yhi, yla) v1 v2 :=
    yr_at now hno hY.1 v1 v2 _ (fun h => ⟨(qa_at_b h).symm, J⟩) (fun f t i hf et hi' e0 e1 => ⟨by rw [e0, e1, qa_at_g hno hf et hi'], J⟩)
  have fx : ∀ r : Int32, r = qa_at now v1 v2 → wpY_at (fun r' => r' = r ∧ i_Rel (k + 4) (xwc, xdc, xdm, xsc, xtc, xnc, xmc, xbr, xwt, xch, xtl, xwf, xdn, xdf, xdl, xss, xtk, xta, xtb, xnk, xna, xnb, xnl, xnr, xns, xfa, xfs, xfi, xrw, xrc, xcl, xhd, xre, xhi, xwo) (ywa, ydd, ynd, yns, yma, ynt, yno, yrc, yfo, ybl, yod, ywr, yan, yab, yac, yad, yal, yabl, yacl, yacf, ynu, yfi, ypa, ysz, yli, ytx, yki, yf1, yf2, yo, yoa, yob, yit, yss, ymo, yst, ymy, ycl, yrw, yow, yen, yhi, yla)) (ywa, ydd, ynd, yns, yma, ynt, yno, yrc, yfo, ybl, yod, ywr, yan, yab, yac, yad, yal, yabl, yacl, yacf, ynu, yfi, ypa, ysz, yli, ytx, yki, yf1, yf2, yo, yoa, yob, yit, yss, ymo, yst, ymy, ycl, yrw, yow, yen, yhi, yla) v1 v2 := fun r e => by rw [e]; exact key
  exact xl_at now hno hX.1 v1 v2 _ (fun h => fx _ (qa_at_b h).symm) (fun f t i hf et hi' e0 e1 => fx _ (by rw [e0, e1, qa_at_g hno hf et hi']))
/-! having -/
def qa_hav (now : Nat → qf_X) (p0 p1 p2 : Int32) : Int32 := if p0 < 0 ∨ 6 ≤ p0 ∨ p1 < 0 ∨ 6 ≤ p1 ∨ p2 < 0 ∨ 6 ≤ p2 then -1 else nI (qn_hv now (36 * p0.toNatClampNeg + 6 * p1.toNatClampNeg + p2.toNatClampNeg) 10)
theorem qa_6 {x : Int32} (h0 : ¬ x < 0) (h1 : ¬ 6 ≤ x) : ∃ a, a < 6 ∧ x = nI a := by
  rcases pk_ix x (n := 6) (by decide) with z | z | ⟨a, ha, e⟩
  · exact absurd z h0
  · exact absurd z h1
  · exact ⟨a, ha, e⟩
theorem qa_6n {a : Nat} (h : a < 6) : ¬ nI a < 0 ∧ ¬ 6 ≤ nI a := ⟨nI_pos (by omega), nI_ge (b := 6) h (by decide)⟩
theorem qa_hav_g {now : Nat → qf_X} {a b c : Nat} (ha : a < 6) (hb : b < 6) (hc : c < 6) : qa_hav now (nI a) (nI b) (nI c) = nI (qn_hv now (36 * a + 6 * b + c) 10) := by
  have h1 := qa_6n ha
  have h2 := qa_6n hb
  have h3 := qa_6n hc
  unfold qa_hav
  rw [if_neg (by rintro (z | z | z | z | z | z) <;> simp_all), nI_clamp (by omega), nI_clamp (by omega), nI_clamp (by omega)]
theorem qa_hav_b {now : Nat → qf_X} {p0 p1 p2 : Int32} (h : ¬ ∃ a b c, a < 6 ∧ b < 6 ∧ c < 6 ∧ p0 = nI a ∧ p1 = nI b ∧ p2 = nI c) : qa_hav now p0 p1 p2 = -1 := by
  unfold qa_hav
  by_cases z : p0 < 0 ∨ 6 ≤ p0 ∨ p1 < 0 ∨ 6 ≤ p1 ∨ p2 < 0 ∨ 6 ≤ p2
  · rw [if_pos z]
  · exfalso
    apply h
    obtain ⟨a, ha, ea⟩ := qa_6 (x := p0) (fun y => z (Or.inl y)) (fun y => z (Or.inr (Or.inl y)))
    obtain ⟨b, hb, eb⟩ := qa_6 (x := p1) (fun y => z (Or.inr (Or.inr (Or.inl y)))) (fun y => z (Or.inr (Or.inr (Or.inr (Or.inl y)))))
    obtain ⟨c, hc, ec⟩ := qa_6 (x := p2) (fun y => z (Or.inr (Or.inr (Or.inr (Or.inr (Or.inl y)))))) (fun y => z (Or.inr (Or.inr (Or.inr (Or.inr (Or.inr y))))))
    exact ⟨a, b, c, ha, hb, hc, ea, eb, ec⟩
theorem i_vc_having {k : Nat} {u : SX} {v : SY} (I : i_Rel k u v) (hk : k + 4 ≤ 2048) (v1 : Int32) (v2 : Int32) (v3 : Int32) : wpX_having (fun r => wpY_having (fun r' v' => r' = r ∧ i_Rel (k + 4) u v') v v1 v2 v3) u v1 v2 v3 := by
  obtain ⟨xwc, xdc, xdm, xsc, xtc, xnc, xmc, xbr, xwt, xch, xtl, xwf, xdn, xdf, xdl, xss, xtk, xta, xtb, xnk, xna, xnb, xnl, xnr, xns, xfa, xfs, xfi, xrw, xrc, xcl, xhd, xre, xhi, xwo⟩ := u
  obtain ⟨ywa, ydd, ynd, yns, yma, ynt, yno, yrc, yfo, ybl, yod, ywr, yan, yab, yac, yad, yal, yabl, yacl, yacf, ynu, yfi, ypa, ysz, yli, ytx, yki, yf1, yf2, yo, yoa, yob, yit, yss, ymo, yst, ymy, ycl, yrw, yow, yen, yhi, yla⟩ := v
  obtain ⟨now, base, wt, dr, docs, segs, made, hi, hm, hX, hY, hT, hR, hb, hw⟩ := I
  have hno := qf_now_o hi
  have J : ∀ ow : Nat → Int32, i_Rel (k + 4) (xwc, xdc, xdm, xsc, xtc, xnc, xmc, xbr, xwt, xch, xtl, xwf, xdn, xdf, xdl, xss, xtk, xta, xtb, xnk, xna, xnb, xnl, xnr, xns, xfa, xfs, xfi, xrw, xrc, xcl, xhd, xre, xhi, xwo) (ywa, ydd, ynd, yns, yma, ynt, yno, yrc, yfo, ybl, yod, ywr, yan, yab, yac, yad, yal, yabl, yacl, yacf, ynu, yfi, ypa, ysz, yli, ytx, yki, yf1, yf2, yo, yoa, yob, yit, yss, ymo, yst, ymy, ycl, yrw, ow, yen, yhi, yla) := fun ow => ⟨now, base, wt, dr, docs, segs, made, hi, by omega, hX, hY, hT, hR, hb, hw⟩
  have key : wpY_having (fun r' v' => r' = qa_hav now v1 v2 v3 ∧ i_Rel (k + 4) (xwc, xdc, xdm, xsc, xtc, xnc, xmc, xbr, xwt, xch, xtl, xwf, xdn, xdf, xdl, xss, xtk, xta, xtb, xnk, xna, xnb, xnl, xnr, xns, xfa, xfs, xfi, xrw, xrc, xcl, xhd, xre, xhi, xwo) v') (ywa, ydd, ynd, yns, yma, ynt, yno, yrc, yfo, ybl, yod, ywr, yan, yab, yac, yad, yal, yabl, yacl, yacf, ynu, yfi, ypa, ysz, yli, ytx, yki, yf1, yf2, yo, yoa, yob, yit, yss, ymo, yst, ymy, ycl, yrw, yow, yen, yhi, yla) v1 v2 v3 :=
    yr_having now hno hY.1 v1 v2 v3 _ (fun h => ⟨(qa_hav_b h).symm, J yow⟩) (fun a b c ha hb' hc e0 e1 e2 ow => ⟨by rw [e0, e1, e2, qa_hav_g ha hb' hc], J ow⟩)
  have fx : ∀ r : Int32, r = qa_hav now v1 v2 v3 → wpY_having (fun r' v' => r' = r ∧ i_Rel (k + 4) (xwc, xdc, xdm, xsc, xtc, xnc, xmc, xbr, xwt, xch, xtl, xwf, xdn, xdf, xdl, xss, xtk, xta, xtb, xnk, xna, xnb, xnl, xnr, xns, xfa, xfs, xfi, xrw, xrc, xcl, xhd, xre, xhi, xwo) v') (ywa, ydd, ynd, yns, yma, ynt, yno, yrc, yfo, ybl, yod, ywr, yan, yab, yac, yad, yal, yabl, yacl, yacf, ynu, yfi, ypa, ysz, yli, ytx, yki, yf1, yf2, yo, yoa, yob, yit, yss, ymo, yst, ymy, ycl, yrw, yow, yen, yhi, yla) v1 v2 v3 := fun r e => by rw [e]; exact key
  exact xl_having now hno hX.1 v1 v2 v3 _ (fun h => fx _ (qa_hav_b h).symm) (fun a b c ha hb' hc e0 e1 e2 => fx _ (by rw [e0, e1, e2, qa_hav_g ha hb' hc]))
/-! segment and document -/
def qa_seg (docs : List qf_D) (segs : List Nat) (p0 p1 : Int32) : Int32 := if p0 < 0 ∨ nI segs.length ≤ p0 then -1 else if p1 = 0 then nI (segs.getD p0.toNatClampNeg 0) else if p1 = 1 then nI (ql_cl (ql_docs docs segs p0.toNatClampNeg)) else if p1 = 2 then nI (ql_lists (ql_docs docs segs p0.toNatClampNeg)) else if p1 = 3 then nI (ql_bits (ql_docs docs segs p0.toNatClampNeg)) else if p1 = 4 then (match docs[qd_st p0.toNatClampNeg segs]? with
  | some x => nI x.1
  | none => -1) else -1
theorem qa_seg_n {segs : List Nat} (hl : segs.length ≤ 16) {k : Nat} (hk : k < segs.length) : ¬ (nI k < 0 ∨ nI segs.length ≤ nI k) ∧ (nI k).toNatClampNeg = k := by
  refine ⟨?_, nI_clamp (by omega)⟩
  rintro (z | z)
  · exact nI_pos (by omega) z
  · exact nI_ge hk (by omega) z
theorem qa_seg_b {docs : List qf_D} {segs : List Nat} (hl : segs.length ≤ 16) {p0 p1 : Int32} (h : (∀ k, k < segs.length → p0 ≠ nI k) ∨ (∀ w, w < 5 → p1 ≠ nI w)) : qa_seg docs segs p0 p1 = -1 := by
  unfold qa_seg
  by_cases z : p0 < 0 ∨ nI segs.length ≤ p0
  · rw [if_pos z]
  · rw [if_neg z]
    rcases pk_ix p0 (n := segs.length) (by omega) with y | y | ⟨k, hk, e⟩
    · exact absurd (Or.inl y) z
    · exact absurd (Or.inr y) z
    · rcases h with h | h
      · exact absurd e (h k hk)
      · have n0 : ¬ p1 = 0 := h 0 (by omega)
        have n1 : ¬ p1 = 1 := h 1 (by omega)
        have n2 : ¬ p1 = 2 := h 2 (by omega)
        have n3 : ¬ p1 = 3 := h 3 (by omega)
        have n4 : ¬ p1 = 4 := h 4 (by omega)
        rw [if_neg n0, if_neg n1, if_neg n2, if_neg n3, if_neg n4]
theorem i_vc_segment {k : Nat} {u : SX} {v : SY} (I : i_Rel k u v) (hk : k + 4 ≤ 2048) (v1 : Int32) (v2 : Int32) : wpX_segment (fun r => wpY_segment (fun r' v' => r' = r ∧ i_Rel (k + 4) u v') v v1 v2) u v1 v2 := by
  obtain ⟨xwc, xdc, xdm, xsc, xtc, xnc, xmc, xbr, xwt, xch, xtl, xwf, xdn, xdf, xdl, xss, xtk, xta, xtb, xnk, xna, xnb, xnl, xnr, xns, xfa, xfs, xfi, xrw, xrc, xcl, xhd, xre, xhi, xwo⟩ := u
  obtain ⟨ywa, ydd, ynd, yns, yma, ynt, yno, yrc, yfo, ybl, yod, ywr, yan, yab, yac, yad, yal, yabl, yacl, yacf, ynu, yfi, ypa, ysz, yli, ytx, yki, yf1, yf2, yo, yoa, yob, yit, yss, ymo, yst, ymy, ycl, yrw, yow, yen, yhi, yla⟩ := v
  obtain ⟨now, base, wt, dr, docs, segs, made, hi, hm, hX, hY, hT, hR, hb, hw⟩ := I
  have hl : segs.length ≤ 16 := by have := (qd_dec10 hi.2.2.2.2.2 hi.2.2.2.2.1.2.1).1; omega
  have J : ∀ la : Nat → Int32, i_Rel (k + 4) (xwc, xdc, xdm, xsc, xtc, xnc, xmc, xbr, xwt, xch, xtl, xwf, xdn, xdf, xdl, xss, xtk, xta, xtb, xnk, xna, xnb, xnl, xnr, xns, xfa, xfs, xfi, xrw, xrc, xcl, xhd, xre, xhi, xwo) (ywa, ydd, ynd, yns, yma, ynt, yno, yrc, yfo, ybl, yod, ywr, yan, yab, yac, yad, yal, yabl, yacl, yacf, ynu, yfi, ypa, ysz, yli, ytx, yki, yf1, yf2, yo, yoa, yob, yit, yss, ymo, yst, ymy, ycl, yrw, yow, yen, yhi, la) := fun la => ⟨now, base, wt, dr, docs, segs, made, hi, by omega, hX, hY, hT, hR, hb, hw⟩
  have g0 : ∀ j, j < segs.length → v1 = nI j → v2 = 0 → nI (segs.getD j 0) = qa_seg docs segs v1 v2 := fun j hj e0 e1 => by
    rw [e0, e1]; unfold qa_seg; rw [if_neg (qa_seg_n hl hj).1, if_pos rfl, (qa_seg_n hl hj).2]
  have g1 : ∀ j, j < segs.length → v1 = nI j → v2 = 1 → nI (ql_cl (ql_docs docs segs j)) = qa_seg docs segs v1 v2 := fun j hj e0 e1 => by
    rw [e0, e1]; unfold qa_seg; rw [if_neg (qa_seg_n hl hj).1, if_neg (by decide), if_pos rfl, (qa_seg_n hl hj).2]
  have g2 : ∀ j, j < segs.length → v1 = nI j → v2 = 2 → nI (ql_lists (ql_docs docs segs j)) = qa_seg docs segs v1 v2 := fun j hj e0 e1 => by
    rw [e0, e1]; unfold qa_seg; rw [if_neg (qa_seg_n hl hj).1, if_neg (by decide), if_neg (by decide), if_pos rfl, (qa_seg_n hl hj).2]
  have g3 : ∀ j, j < segs.length → v1 = nI j → v2 = 3 → nI (ql_bits (ql_docs docs segs j)) = qa_seg docs segs v1 v2 := fun j hj e0 e1 => by
    rw [e0, e1]; unfold qa_seg; rw [if_neg (qa_seg_n hl hj).1, if_neg (by decide), if_neg (by decide), if_neg (by decide), if_pos rfl, (qa_seg_n hl hj).2]
  have g4 : ∀ j x, j < segs.length → v1 = nI j → v2 = 4 → docs[qd_st j segs]? = some x → nI x.1 = qa_seg docs segs v1 v2 := fun j x hj e0 e1 e2 => by
    rw [e0, e1]; unfold qa_seg; rw [if_neg (qa_seg_n hl hj).1, if_neg (by decide), if_neg (by decide), if_neg (by decide), if_neg (by decide), if_pos rfl, (qa_seg_n hl hj).2, e2]
  have key : wpY_segment (fun r' v' => r' = qa_seg docs segs v1 v2 ∧ i_Rel (k + 4) (xwc, xdc, xdm, xsc, xtc, xnc, xmc, xbr, xwt, xch, xtl, xwf, xdn, xdf, xdl, xss, xtk, xta, xtb, xnk, xna, xnb, xnl, xnr, xns, xfa, xfs, xfi, xrw, xrc, xcl, xhd, xre, xhi, xwo) v') (ywa, ydd, ynd, yns, yma, ynt, yno, yrc, yfo, ybl, yod, ywr, yan, yab, yac, yad, yal, yabl, yacl, yacf, ynu, yfi, ypa, ysz, yli, ytx, yki, yf1, yf2, yo, yoa, yob, yit, yss, ymo, yst, ymy, ycl, yrw, yow, yen, yhi, yla) v1 v2 :=
    yg_segment now base wt dr docs segs made hi (by omega) hY v1 v2 _ (fun h => ⟨(qa_seg_b hl h).symm, J yla⟩) (fun j hj e0 e1 => ⟨g0 j hj e0 e1, J yla⟩) (fun j hj e0 e1 => ⟨g1 j hj e0 e1, J yla⟩) (fun j hj e0 e1 la => ⟨g2 j hj e0 e1, J la⟩) (fun j hj e0 e1 la => ⟨g3 j hj e0 e1, J la⟩) (fun j x hj e0 e1 e2 => ⟨g4 j x hj e0 e1 e2, J yla⟩)
  have fx : ∀ r : Int32, r = qa_seg docs segs v1 v2 → wpY_segment (fun r' v' => r' = r ∧ i_Rel (k + 4) (xwc, xdc, xdm, xsc, xtc, xnc, xmc, xbr, xwt, xch, xtl, xwf, xdn, xdf, xdl, xss, xtk, xta, xtb, xnk, xna, xnb, xnl, xnr, xns, xfa, xfs, xfi, xrw, xrc, xcl, xhd, xre, xhi, xwo) v') (ywa, ydd, ynd, yns, yma, ynt, yno, yrc, yfo, ybl, yod, ywr, yan, yab, yac, yad, yal, yabl, yacl, yacf, ynu, yfi, ypa, ysz, yli, ytx, yki, yf1, yf2, yo, yoa, yob, yit, yss, ymo, yst, ymy, ycl, yrw, yow, yen, yhi, yla) v1 v2 := fun r e => by rw [e]; exact key
  exact xl_segment now base wt dr docs segs made hi (by omega) hX v1 v2 _ (fun h => fx _ (qa_seg_b hl h).symm) (fun j hj e0 e1 => fx _ (g0 j hj e0 e1)) (fun j hj e0 e1 => fx _ (g1 j hj e0 e1)) (fun j hj e0 e1 => fx _ (g2 j hj e0 e1)) (fun j hj e0 e1 => fx _ (g3 j hj e0 e1)) (fun j x hj e0 e1 e2 => fx _ (g4 j x hj e0 e1 e2))
def qa_doc (docs : List qf_D) (segs : List Nat) (p0 p1 : Int32) : Int32 := if p0 < 0 then -1 else match docs[p0.toNatClampNeg]? with
  | none => -1
  | some x => if p1 = 0 then nI x.1 else if p1 = 1 then nI x.2.1 else if p1 = 2 then (if x.2.2.1 = true then 1 else 0) else if p1 = 3 then nI (qd_seg segs p0.toNatClampNeg) else -1
theorem qa_doc_b {docs : List qf_D} {segs : List Nat} {p0 p1 : Int32} (h : (∀ k, k < docs.length → p0 ≠ nI k) ∨ (∀ w, w < 4 → p1 ≠ nI w)) : qa_doc docs segs p0 p1 = -1 := by
  unfold qa_doc
  by_cases z : p0 < 0
  · rw [if_pos z]
  · rw [if_neg z]
    obtain ⟨e0, l0⟩ := qa_nn z
    cases ed : docs[p0.toNatClampNeg]? with
    | none => rfl
    | some x =>
      dsimp only
      rcases h with h | h
      · exact absurd e0 (h _ (qr_get_lt ed))
      · have n0 : ¬ p1 = 0 := h 0 (by omega)
        have n1 : ¬ p1 = 1 := h 1 (by omega)
        have n2 : ¬ p1 = 2 := h 2 (by omega)
        have n3 : ¬ p1 = 3 := h 3 (by omega)
        rw [if_neg n0, if_neg n1, if_neg n2, if_neg n3]
theorem qa_doc_g {docs : List qf_D} {segs : List Nat} {j : Nat} {x : qf_D} (hl : docs.length ≤ 64) (h : docs[j]? = some x) (p1 : Int32) : qa_doc docs segs (nI j) p1 = if p1 = 0 then nI x.1 else if p1 = 1 then nI x.2.1 else if p1 = 2 then (if x.2.2.1 = true then 1 else 0) else if p1 = 3 then nI (qd_seg segs j) else -1 := by
  have := qr_get_lt h
  unfold qa_doc
  rw [if_neg (nI_pos (by omega)), nI_clamp (by omega), h]
theorem i_vc_document {k : Nat} {u : SX} {v : SY} (I : i_Rel k u v) (hk : k + 4 ≤ 2048) (v1 : Int32) (v2 : Int32) : wpX_document (fun r => wpY_document (fun r' => r' = r ∧ i_Rel (k + 4) u v) v v1 v2) u v1 v2 := by
  obtain ⟨xwc, xdc, xdm, xsc, xtc, xnc, xmc, xbr, xwt, xch, xtl, xwf, xdn, xdf, xdl, xss, xtk, xta, xtb, xnk, xna, xnb, xnl, xnr, xns, xfa, xfs, xfi, xrw, xrc, xcl, xhd, xre, xhi, xwo⟩ := u
  obtain ⟨ywa, ydd, ynd, yns, yma, ynt, yno, yrc, yfo, ybl, yod, ywr, yan, yab, yac, yad, yal, yabl, yacl, yacf, ynu, yfi, ypa, ysz, yli, ytx, yki, yf1, yf2, yo, yoa, yob, yit, yss, ymo, yst, ymy, ycl, yrw, yow, yen, yhi, yla⟩ := v
  obtain ⟨now, base, wt, dr, docs, segs, made, hi, hm, hX, hY, hT, hR, hb, hw⟩ := I
  have hl : docs.length ≤ 64 := by
    have := (qd_dec10 hi.2.2.2.2.2 hi.2.2.2.2.1.2.1).2
    have := hi.2.2.2.2.1.1
    omega
  have J : i_Rel (k + 4) (xwc, xdc, xdm, xsc, xtc, xnc, xmc, xbr, xwt, xch, xtl, xwf, xdn, xdf, xdl, xss, xtk, xta, xtb, xnk, xna, xnb, xnl, xnr, xns, xfa, xfs, xfi, xrw, xrc, xcl, xhd, xre, xhi, xwo) (ywa, ydd, ynd, yns, yma, ynt, yno, yrc, yfo, ybl, yod, ywr, yan, yab, yac, yad, yal, yabl, yacl, yacf, ynu, yfi, ypa, ysz, yli, ytx, yki, yf1, yf2, yo, yoa, yob, yit, yss, ymo, yst, ymy, ycl, yrw, yow, yen, yhi, yla) := ⟨now, base, wt, dr, docs, segs, made, hi, by omega, hX, hY, hT, hR, hb, hw⟩
  have g0 : ∀ j x, docs[j]? = some x → v1 = nI j → v2 = 0 → nI x.1 = qa_doc docs segs v1 v2 := fun j x hx e0 e1 => by
    rw [e0, e1, qa_doc_g hl hx, if_pos rfl]
  have g1 : ∀ j x, docs[j]? = some x → v1 = nI j → v2 = 1 → nI x.2.1 = qa_doc docs segs v1 v2 := fun j x hx e0 e1 => by
    rw [e0, e1, qa_doc_g hl hx, if_neg (by decide), if_pos rfl]
  have g2 : ∀ j x, docs[j]? = some x → v1 = nI j → v2 = 2 → (if x.2.2.1 = true then 1 else 0) = qa_doc docs segs v1 v2 := fun j x hx e0 e1 => by
    rw [e0, e1, qa_doc_g hl hx]
    rfl
  have g3 : ∀ j, j < docs.length → v1 = nI j → v2 = 3 → nI (qd_seg segs j) = qa_doc docs segs v1 v2 := fun j hj e0 e1 => by
    rw [e0, e1, qa_doc_g hl (List.getElem?_eq_getElem hj), if_neg (by decide), if_neg (by decide), if_neg (by decide), if_pos rfl]
  have key : wpY_document (fun r' => r' = qa_doc docs segs v1 v2 ∧ i_Rel (k + 4) (xwc, xdc, xdm, xsc, xtc, xnc, xmc, xbr, xwt, xch, xtl, xwf, xdn, xdf, xdl, xss, xtk, xta, xtb, xnk, xna, xnb, xnl, xnr, xns, xfa, xfs, xfi, xrw, xrc, xcl, xhd, xre, xhi, xwo) (ywa, ydd, ynd, yns, yma, ynt, yno, yrc, yfo, ybl, yod, ywr, yan, yab, yac, yad, yal, yabl, yacl, yacf, ynu, yfi, ypa, ysz, yli, ytx, yki, yf1, yf2, yo, yoa, yob, yit, yss, ymo, yst, ymy, ycl, yrw, yow, yen, yhi, yla)) (ywa, ydd, ynd, yns, yma, ynt, yno, yrc, yfo, ybl, yod, ywr, yan, yab, yac, yad, yal, yabl, yacl, yacf, ynu, yfi, ypa, ysz, yli, ytx, yki, yf1, yf2, yo, yoa, yob, yit, yss, ymo, yst, ymy, ycl, yrw, yow, yen, yhi, yla) v1 v2 :=
    yr_document now base wt dr docs segs made hi hY v1 v2 _ (fun h => ⟨(qa_doc_b h).symm, J⟩) (fun j x hx e0 e1 => ⟨g0 j x hx e0 e1, J⟩) (fun j x hx e0 e1 => ⟨g1 j x hx e0 e1, J⟩) (fun j x hx e0 e1 => ⟨g2 j x hx e0 e1, J⟩) (fun j hj e0 e1 => ⟨g3 j hj e0 e1, J⟩)
  have fx : ∀ r : Int32, r = qa_doc docs segs v1 v2 → wpY_document (fun r' => r' = r ∧ i_Rel (k + 4) (xwc, xdc, xdm, xsc, xtc, xnc, xmc, xbr, xwt, xch, xtl, xwf, xdn, xdf, xdl, xss, xtk, xta, xtb, xnk, xna, xnb, xnl, xnr, xns, xfa, xfs, xfi, xrw, xrc, xcl, xhd, xre, xhi, xwo) (ywa, ydd, ynd, yns, yma, ynt, yno, yrc, yfo, ybl, yod, ywr, yan, yab, yac, yad, yal, yabl, yacl, yacf, ynu, yfi, ypa, ysz, yli, ytx, yki, yf1, yf2, yo, yoa, yob, yit, yss, ymo, yst, ymy, ycl, yrw, yow, yen, yhi, yla)) (ywa, ydd, ynd, yns, yma, ynt, yno, yrc, yfo, ybl, yod, ywr, yan, yab, yac, yad, yal, yabl, yacl, yacf, ynu, yfi, ypa, ysz, yli, ytx, yki, yf1, yf2, yo, yoa, yob, yit, yss, ymo, yst, ymy, ycl, yrw, yow, yen, yhi, yla) v1 v2 := fun r e => by rw [e]; exact key
  exact xl_document now base wt dr docs segs made hi hX v1 v2 _ (fun h => fx _ (qa_doc_b h).symm) (fun j x hx e0 e1 => fx _ (g0 j x hx e0 e1)) (fun j x hx e0 e1 => fx _ (g1 j x hx e0 e1)) (fun j x hx e0 e1 => fx _ (g2 j x hx e0 e1)) (fun j hj e0 e1 => fx _ (g3 j hj e0 e1))
