/-! the class: each kind of part -/
theorem qr_oall_nd {l : List (List Nat)} (h : l.Nodup) (hl : l.length ≤ 8) : qr_oall (some []) l = some l := by
  rw [qr_oall_some l [] (by simp), qr_all_self h, if_pos hl]
theorem qi_wf_w {v : qi_T} (h : qi_wf v) {ws : List (List Nat)} (e : v.1 = some ws) : v.1.getD [] = ws ∧ 1 ≤ ws.length ∧ ws.length ≤ 8 ∧ (∀ r, r ∈ ws → r.length ≤ 5) ∧ ws.Nodup := by
  have := (h.1 ws e).1
  exact ⟨by rw [e]; rfl, this.2.1, this.2.2.1, fun r hr => (this.2.2.2 r hr).1, this.1⟩
theorem qi_wf_h {v : qi_T} (h : qi_wf v) : v.2.1.Nodup ∧ 1 ≤ v.2.1.length ∧ v.2.1.length ≤ 8 ∧ ∀ r, r ∈ v.2.1 → r.length ≤ 2 := ⟨h.2.1.1, h.2.1.2.1, h.2.1.2.2.1, fun r hr => (h.2.1.2.2.2 r hr).1⟩
theorem qi_wf_t {v : qi_T} (h : qi_wf v) : v.2.2.1.Nodup ∧ 1 ≤ v.2.2.1.length ∧ v.2.2.1.length ≤ 8 ∧ ∀ r, r ∈ v.2.2.1 → r.length ≤ 2 := ⟨h.2.2.1, h.2.2.2.1, h.2.2.2.2.1, fun r hr => (h.2.2.2.2.2 r hr).1⟩
def qx_alt (x y : qi_T) : List (List Nat) × Option (List (List Nat)) × Option (List (List Nat)) := match x.1, y.1 with
  | some xs, some ys => if (qr_all [] (xs ++ ys)).length ≤ 8 then (qr_all [] (xs ++ ys), some [], some []) else ([], qr_oall (some []) (x.2.1 ++ y.2.1), qr_oall (some []) (x.2.2.1 ++ y.2.2.1))
  | _, _ => ([], qr_oall (some []) (x.2.1 ++ y.2.1), qr_oall (some []) (x.2.2.1 ++ y.2.2.1))
def qx_sqh (x y : qi_T) : Option (List (List Nat)) := match x.1 with
  | some xs => qr_jall 1 (some []) (qr_pr xs y.2.1)
  | none => qr_oall (some []) x.2.1
def qx_sqt (x y : qi_T) : Option (List (List Nat)) := match y.1 with
  | some ys => qr_jall 2 (some []) (qr_pr x.2.2.1 ys)
  | none => qr_oall (some []) y.2.2.1
section
variable {xwc xdc xdm xsc xtc xnc xmc xbr xwt : Int32} {xch xtl xwf xdn xdf xdl xss xtk xta xtb xnk xna xnb xnl xnr xns xfa xfs xfi xrc xcl xhd xhi xwo : Nat → Int32} {xrw xre : Nat → Int64}
theorem xn_rep29 (n l : Nat) (hn : n < 40) (hl : l < n) (v : qi_T) (hv : qi_wf v) (hin : qx_in xrw xrc l v) (hw : qx_set xrw xrc (n * 3) (some [])) (hh : qx_set xrw xrc (n * 3 + 1) (some [])) (ht : qx_set xrw xrc (n * 3 + 2) (some [])) (post : SX → Prop)
  (hp : ∀ (rw1 : Nat → Int64) (rc1 : Nat → Int32), qx_set rw1 rc1 (n * 3) (some []) → qx_set rw1 rc1 (n * 3 + 1) (some v.2.1) → qx_set rw1 rc1 (n * 3 + 2) (some v.2.2.1) → qx_k3 n xrw xrc rw1 rc1 → post (xwc, xdc, xdm, xsc, xtc, xnc, xmc, xbr, xwt, xch, xtl, xwf, xdn, xdf, xdl, xss, xtk, xta, xtb, xnk, xna, xnb, xnl, xnr, xns, xfa, xfs, xfi, rw1, rc1, xcl, xhd, xre, xhi, xwo)) : wX_learnRepeat_29 post (nI n) (nI (l * 3)) xwc xdc xdm xsc xtc xnc xmc xbr xwt xch xtl xwf xdn xdf xdl xss xtk xta xtb xnk xna xnb xnl xnr xns xfa xfs xfi xrw xrc xcl xhd xre xhi xwo := by
  obtain ⟨i1, i2, i3⟩ := hin
  have h1 := qi_wf_h hv
  have h2 := qi_wf_t hv
  have e31 : nI n * 3 + 1 = nI (n * 3 + 1) := by rw [xn_3]; exact xn_31 n
  have e32 : nI n * 3 + 2 = nI (n * 3 + 2) := by rw [xn_3]; exact xn_32 n
  unfold wX_learnRepeat_29
  refine xr_rows (n * 3 + 1) (l * 3 + 1) 0 (by omega) (by omega) (by omega) (by omega) v.2.1 _ hh i2 _ _ _ e31 (xn_31 l) rfl _ (fun rw1 rc1 g1 k1 => ?_)
  refine xr_rows (n * 3 + 2) (l * 3 + 2) 0 (by omega) (by omega) (by omega) (by omega) v.2.2.1 _ (k1 _ _ (by omega) ht) (k1 _ _ (by omega) i3) _ _ _ e32 (xn_32 l) rfl _ (fun rw2 rc2 g2 k2 => ?_)
  rw [qr_map0, qr_oall_nd h1.1 h1.2.2.1] at g1
  rw [qr_map0, qr_oall_nd h2.1 h2.2.2.1] at g2
  exact hp rw2 rc2 (k2 _ _ (by omega) (k1 _ _ (by omega) hw)) (k2 _ _ (by omega) g1) g2 (fun s' o hs' h => k2 _ _ (by omega) (k1 _ _ (by omega) h))
theorem xn_alt (n l r : Nat) (hn : n < 40) (hl : l < n) (hr : r < n) (el : xnl n = nI l) (er : xnr n = nI r) (x y : qi_T) (hx : qi_wf x) (hy : qi_wf y) (hix : qx_in xrw xrc l x) (hiy : qx_in xrw xrc r y) (hw : qx_set xrw xrc (n * 3) (some [])) (hh : qx_set xrw xrc (n * 3 + 1) (some [])) (ht : qx_set xrw xrc (n * 3 + 2) (some [])) (post : SX → Prop)
  (hp : ∀ (rw1 : Nat → Int64) (rc1 : Nat → Int32), qx_set rw1 rc1 (n * 3) (some (qx_alt x y).1) → qx_set rw1 rc1 (n * 3 + 1) (qx_alt x y).2.1 → qx_set rw1 rc1 (n * 3 + 2) (qx_alt x y).2.2 → qx_k3 n xrw xrc rw1 rc1 → post (xwc, xdc, xdm, xsc, xtc, xnc, xmc, xbr, xwt, xch, xtl, xwf, xdn, xdf, xdl, xss, xtk, xta, xtb, xnk, xna, xnb, xnl, xnr, xns, xfa, xfs, xfi, rw1, rc1, xcl, xhd, xre, xhi, xwo)) : wpX_learnAlt post (xwc, xdc, xdm, xsc, xtc, xnc, xmc, xbr, xwt, xch, xtl, xwf, xdn, xdf, xdl, xss, xtk, xta, xtb, xnk, xna, xnb, xnl, xnr, xns, xfa, xfs, xfi, xrw, xrc, xcl, xhd, xre, xhi, xwo) (nI n) := by
  obtain ⟨i1, i2, i3⟩ := hix
  obtain ⟨j1, j2, j3⟩ := hiy
  have cn : (nI n).toNatClampNeg = n := nI_clamp (by omega)
  have cl : (nI (l * 3)).toNatClampNeg = l * 3 := nI_clamp (by omega)
  have cr : (nI (r * 3)).toNatClampNeg = r * 3 := nI_clamp (by omega)
  have hin : vp_in (nI n) 40 := pk_in n 40 hn
  -- behind the words
  have k62 : ∀ (rw1 : Nat → Int64) (rc1 : Nat → Int32) (w : List (List Nat)), qx_set rw1 rc1 (n * 3) (some w) → qx_kk (n * 3) xrw xrc rw1 rc1 → (w = [] → (qx_alt x y) = ([], qr_oall (some []) (x.2.1 ++ y.2.1), qr_oall (some []) (x.2.2.1 ++ y.2.2.1))) → (w ≠ [] → qx_alt x y = (w, some [], some [])) → wX_learnAlt_62 post (nI (n * 3)) (nI (l * 3)) (nI (r * 3)) xwc xdc xdm xsc xtc xnc xmc xbr xwt xch xtl xwf xdn xdf xdl xss xtk xta xtb xnk xna xnb xnl xnr xns xfa xfs xfi rw1 rc1 xcl xhd xre xhi xwo := by
    intro rw1 rc1 w g1 k1 hw0 hw1
    refine ⟨pk_in (n * 3) 120 (by omega), ?_⟩
    rw [nI_clamp (by omega), g1.2.2.1]
    have hl8 := g1.1
    refine pk_eq w.length 0 (fun hz => ?_) (fun hz => ?_)
    · have e : w = [] := List.eq_nil_of_length_eq_zero hz
      have ea := hw0 e
      rw [ea] at hp
      subst e
      refine xn_two (n * 3 + 1) (l * 3 + 1) (r * 3 + 1) (by omega) (by omega) (by omega) (by omega) (by omega) x.2.1 y.2.1 _ (k1 _ _ (by omega) hh) (k1 _ _ (by omega) i2) (k1 _ _ (by omega) j2) _ _ _ (xn_31 n) (xn_31 l) (xn_31 r) _ (fun rw2 rc2 g2 k2 => ?_)
      refine xn_two (n * 3 + 2) (l * 3 + 2) (r * 3 + 2) (by omega) (by omega) (by omega) (by omega) (by omega) x.2.2.1 y.2.2.1 _ (k2 _ _ (by omega) (k1 _ _ (by omega) ht)) (k2 _ _ (by omega) (k1 _ _ (by omega) i3)) (k2 _ _ (by omega) (k1 _ _ (by omega) j3)) _ _ _ (xn_32 n) (xn_32 l) (xn_32 r) _ (fun rw3 rc3 g3 k3 => ?_)
      exact hp rw3 rc3 (k3 _ _ (by omega) (k2 _ _ (by omega) g1)) (k3 _ _ (by omega) g2) g3 (fun s' o hs' h => k3 _ _ (by omega) (k2 _ _ (by omega) (k1 _ _ (by omega) h)))
    · have ea := hw1 (fun e => hz (by rw [e]; rfl))
      rw [ea] at hp
      exact hp rw1 rc1 g1 (k1 _ _ (by omega) hh) (k1 _ _ (by omega) ht) (fun s' o hs' h => k1 _ _ (by omega) h)
  unfold wpX_learnAlt
  refine nm_r (xn_3 n) ⟨hin, nm_r (e' := nI (l * 3)) (by rw [cn, el, xn_3]) ⟨hin, nm_r (e' := nI (r * 3)) (by rw [cn, er, xn_3]) ⟨pk_in (l * 3) 120 (by omega), ?_⟩⟩⟩
  rw [cl, i1.2.2.1]
  cases ex : x.1 with
  | none =>
    refine br_t (by show nI 0 ≤ 0; decide) (k62 xrw xrc [] hw (fun _ _ _ h => h) (fun _ => ?_) (fun h => absurd rfl h))
    unfold qx_alt
    rw [ex]
  | some xs =>
    have wx := qi_wf_w hx ex
    refine br_f (by show ¬ nI xs.length ≤ 0; exact nI_nle (by omega) (by omega)) ⟨pk_in (r * 3) 120 (by omega), ?_⟩
    rw [cr, j1.2.2.1]
    cases ey : y.1 with
    | none =>
      refine br_t (by show nI 0 ≤ 0; decide) (k62 xrw xrc [] hw (fun _ _ _ h => h) (fun _ => ?_) (fun h => absurd rfl h))
      unfold qx_alt
      rw [ex, ey]
    | some ys =>
      have wy := qi_wf_w hy ey
      rw [ex] at i1
      rw [ey] at j1
      refine br_f (by show ¬ nI ys.length ≤ 0; exact nI_nle (by omega) (by omega)) ?_
      refine xn_two (n * 3) (l * 3) (r * 3) (by omega) (by omega) (by omega) (by omega) (by omega) xs ys _ hw i1 j1 _ _ _ rfl rfl rfl _ (fun rw2 rc2 g2 k2 => ?_)
      refine xr_drop (n * 3) (by omega) _ g2 _ rfl _ (fun rc3 g3 k3 => ?_)
      have hne : 1 ≤ (qr_all [] (xs ++ ys)).length := qr_ne_all (by rw [List.length_append]; omega)
      rw [qr_oall_some _ _ (by simp)] at g3
      by_cases z : (qr_all [] (xs ++ ys)).length ≤ 8
      · rw [if_pos z] at g3
        refine k62 rw2 rc3 (qr_all [] (xs ++ ys)) g3 (fun s' o hs' h => k3 _ _ hs' (k2 _ _ hs' h)) (fun h => ?_) (fun _ => ?_)
        · rw [h] at hne; exact absurd hne (by simp)
        · unfold qx_alt; rw [ex, ey]; dsimp only; rw [if_pos z]
      · rw [if_neg z] at g3
        refine k62 rw2 rc3 [] g3 (fun s' o hs' h => k3 _ _ hs' (k2 _ _ hs' h)) (fun _ => ?_) (fun h => absurd rfl h)
        unfold qx_alt; rw [ex, ey]; dsimp only; rw [if_neg z]
theorem xn_seq (n l r : Nat) (hn : n < 40) (hl : l < n) (hr : r < n) (el : xnl n = nI l) (er : xnr n = nI r) (x y : qi_T) (hx : qi_wf x) (hy : qi_wf y) (hix : qx_in xrw xrc l x) (hiy : qx_in xrw xrc r y) (hw : qx_set xrw xrc (n * 3) (some [])) (hh : qx_set xrw xrc (n * 3 + 1) (some [])) (ht : qx_set xrw xrc (n * 3 + 2) (some [])) (post : SX → Prop)
  (hp1 : ∀ (xs ys : List (List Nat)) (rw1 : Nat → Int64) (rc1 : Nat → Int32), x.1 = some xs → y.1 = some ys → qi_sh xs ys = true → qx_set rw1 rc1 (n * 3) (some (qr_all [] (qr_pr xs ys))) → qx_set rw1 rc1 (n * 3 + 1) (some []) → qx_set rw1 rc1 (n * 3 + 2) (some []) → qx_k3 n xrw xrc rw1 rc1 → post (xwc, xdc, xdm, xsc, xtc, xnc, xmc, xbr, xwt, xch, xtl, xwf, xdn, xdf, xdl, xss, xtk, xta, xtb, xnk, xna, xnb, xnl, xnr, xns, xfa, xfs, xfi, rw1, rc1, xcl, xhd, xre, xhi, xwo))
  (hp2 : ∀ (rw1 : Nat → Int64) (rc1 : Nat → Int32), (∀ xs ys, x.1 = some xs → y.1 = some ys → ¬ qi_sh xs ys = true) → qx_set rw1 rc1 (n * 3) (some []) → qx_set rw1 rc1 (n * 3 + 1) (qx_sqh x y) → qx_set rw1 rc1 (n * 3 + 2) (qx_sqt x y) → qx_k3 n xrw xrc rw1 rc1 → post (xwc, xdc, xdm, xsc, xtc, xnc, xmc, xbr, xwt, xch, xtl, xwf, xdn, xdf, xdl, xss, xtk, xta, xtb, xnk, xna, xnb, xnl, xnr, xns, xfa, xfs, xfi, rw1, rc1, xcl, xhd, xre, xhi, xwo)) : wpX_learnSeq post (xwc, xdc, xdm, xsc, xtc, xnc, xmc, xbr, xwt, xch, xtl, xwf, xdn, xdf, xdl, xss, xtk, xta, xtb, xnk, xna, xnb, xnl, xnr, xns, xfa, xfs, xfi, xrw, xrc, xcl, xhd, xre, xhi, xwo) (nI n) := by
  obtain ⟨i1, i2, i3⟩ := hix
  obtain ⟨j1, j2, j3⟩ := hiy
  have cn : (nI n).toNatClampNeg = n := nI_clamp (by omega)
  have cl : (nI (l * 3)).toNatClampNeg = l * 3 := nI_clamp (by omega)
  have cr : (nI (r * 3)).toNatClampNeg = r * 3 := nI_clamp (by omega)
  have hin : vp_in (nI n) 40 := pk_in n 40 hn
  have hxt := qi_wf_t hx
  have hyh := qi_wf_h hy
  -- the tails
  have k102 : ∀ (rw1 : Nat → Int64) (rc1 : Nat → Int32), (∀ xs ys, x.1 = some xs → y.1 = some ys → ¬ qi_sh xs ys = true) → qx_set rw1 rc1 (n * 3) (some []) → qx_set rw1 rc1 (n * 3 + 1) (qx_sqh x y) → qx_set rw1 rc1 (n * 3 + 2) (some []) → qx_k3 n xrw xrc rw1 rc1 → wX_learnSeq_102 post (nI (n * 3)) (nI (l * 3)) (nI (r * 3)) xwc xdc xdm xsc xtc xnc xmc xbr xwt xch xtl xwf xdn xdf xdl xss xtk xta xtb xnk xna xnb xnl xnr xns xfa xfs xfi rw1 rc1 xcl xhd xre xhi xwo := by
    intro rw1 rc1 hns g1 g2 g3 k1
    have j1' := k1 _ _ (by omega) j1
    have j3' := k1 _ _ (by omega) j3
    have i3' := k1 _ _ (by omega) i3
    refine ⟨pk_in (r * 3) 120 (by omega), ?_⟩
    rw [cr, j1'.2.2.1]
    cases ey : y.1 with
    | none =>
      refine br_t (by show nI 0 ≤ 0; decide) ?_
      refine xr_rows (n * 3 + 2) (r * 3 + 2) 0 (by omega) (by omega) (by omega) (by omega) y.2.2.1 _ g3 j3' _ _ _ (xn_32 n) (xn_32 r) rfl _ (fun rw2 rc2 g4 k2 => ?_)
      rw [qr_map0] at g4
      have e : qx_sqt x y = qr_oall (some []) y.2.2.1 := by unfold qx_sqt; rw [ey]
      exact hp2 rw2 rc2 hns (k2 _ _ (by omega) g1) (k2 _ _ (by omega) g2) (by rw [e]; exact g4) (fun s' o hs' h => k2 _ _ (by omega) (k1 _ _ hs' h))
    | some ys =>
      have wy := qi_wf_w hy ey
      rw [ey] at j1'
      refine br_f (by show ¬ nI ys.length ≤ 0; exact nI_nle (by omega) (by omega)) ?_
      refine xr_jn (n * 3 + 2) (l * 3 + 2) (r * 3) 2 (by omega) (by omega) (by omega) (by omega) (by omega) (by omega) x.2.2.1 ys (fun a ha => by have := hxt.2.2.2 a ha; omega) wy.2.2.2.1 (fun _ a b ha hb => by have := hxt.2.2.2 a ha; have := wy.2.2.2.1 b hb; omega) _ g3 i3' j1' _ _ _ _ (xn_32 n) (xn_32 l) rfl rfl _ (fun rw2 rc2 g4 k2 => ?_)
      have e : qx_sqt x y = qr_jall 2 (some []) (qr_pr x.2.2.1 ys) := by unfold qx_sqt; rw [ey]
      exact hp2 rw2 rc2 hns (k2 _ _ (by omega) g1) (k2 _ _ (by omega) g2) (by rw [e]; exact g4) (fun s' o hs' h => k2 _ _ (by omega) (k1 _ _ hs' h))
  -- the heads
  have k56 : ∀ (rw1 : Nat → Int64) (rc1 : Nat → Int32), (∀ xs ys, x.1 = some xs → y.1 = some ys → ¬ qi_sh xs ys = true) → qx_set rw1 rc1 (n * 3) (some []) → qx_kk (n * 3) xrw xrc rw1 rc1 → wX_learnSeq_56 post (nI (n * 3)) (nI (l * 3)) (nI (r * 3)) xwc xdc xdm xsc xtc xnc xmc xbr xwt xch xtl xwf xdn xdf xdl xss xtk xta xtb xnk xna xnb xnl xnr xns xfa xfs xfi rw1 rc1 xcl xhd xre xhi xwo := by
    intro rw1 rc1 hns g1 k1
    have i1' := k1 _ _ (by omega) i1
    have i2' := k1 _ _ (by omega) i2
    have j2' := k1 _ _ (by omega) j2
    have hh' := k1 _ _ (by omega) hh
    have ht' := k1 _ _ (by omega) ht
    refine ⟨pk_in (n * 3) 120 (by omega), ?_⟩
    rw [nI_clamp (by omega), g1.2.2.1]
    refine br_t (by show nI 0 ≤ 0; decide) ⟨pk_in (l * 3) 120 (by omega), ?_⟩
    rw [cl, i1'.2.2.1]
    cases ex : x.1 with
    | none =>
      refine br_t (by show nI 0 ≤ 0; decide) ?_
      refine xr_rows (n * 3 + 1) (l * 3 + 1) 0 (by omega) (by omega) (by omega) (by omega) x.2.1 _ hh' i2' _ _ _ (xn_31 n) (xn_31 l) rfl _ (fun rw2 rc2 g4 k2 => ?_)
      rw [qr_map0] at g4
      have e : qx_sqh x y = qr_oall (some []) x.2.1 := by unfold qx_sqh; rw [ex]
      exact k102 rw2 rc2 hns (k2 _ _ (by omega) g1) (by rw [e]; exact g4) (k2 _ _ (by omega) ht') (fun s' o hs' h => k2 _ _ (by omega) (k1 _ _ (by omega) h))
    | some xs =>
      have wx := qi_wf_w hx ex
      rw [ex] at i1'
      refine br_f (by show ¬ nI xs.length ≤ 0; exact nI_nle (by omega) (by omega)) ?_
      refine xr_jn (n * 3 + 1) (l * 3) (r * 3 + 1) 1 (by omega) (by omega) (by omega) (by omega) (by omega) (by omega) xs y.2.1 wx.2.2.2.1 (fun a ha => by have := hyh.2.2.2 a ha; omega) (fun _ a b ha hb => by have := wx.2.2.2.1 a ha; have := hyh.2.2.2 b hb; omega) _ hh' i1' j2' _ _ _ _ (xn_31 n) rfl (xn_31 r) rfl _ (fun rw2 rc2 g4 k2 => ?_)
      have e : qx_sqh x y = qr_jall 1 (some []) (qr_pr xs y.2.1) := by unfold qx_sqh; rw [ex]
      exact k102 rw2 rc2 hns (k2 _ _ (by omega) g1) (by rw [e]; exact g4) (k2 _ _ (by omega) ht') (fun s' o hs' h => k2 _ _ (by omega) (k1 _ _ (by omega) h))
  unfold wpX_learnSeq
  refine nm_r (xn_3 n) ⟨hin, nm_r (e' := nI (l * 3)) (by rw [cn, el, xn_3]) ⟨hin, nm_r (e' := nI (r * 3)) (by rw [cn, er, xn_3]) ⟨pk_in (l * 3) 120 (by omega), ?_⟩⟩⟩
  rw [cl, i1.2.2.1]
  cases ex : x.1 with
  | none => exact br_t (by show nI 0 ≤ 0; decide) (k56 xrw xrc (fun xs ys h => by rw [ex] at h; exact nomatch h) hw (fun _ _ _ h => h))
  | some xs =>
    have wx := qi_wf_w hx ex
    refine br_f (by show ¬ nI xs.length ≤ 0; exact nI_nle (by omega) (by omega)) ⟨pk_in (r * 3) 120 (by omega), ?_⟩
    rw [cr, j1.2.2.1]
    cases ey : y.1 with
    | none => exact br_t (by show nI 0 ≤ 0; decide) (k56 xrw xrc (fun xs ys _ h => by rw [ey] at h; exact nomatch h) hw (fun _ _ _ h => h))
    | some ys =>
      have wy := qi_wf_w hy ey
      rw [ex] at i1
      rw [ey] at j1
      refine br_f (by show ¬ nI ys.length ≤ 0; exact nI_nle (by omega) (by omega)) ?_
      refine xr_jn (n * 3) (l * 3) (r * 3) 0 (by omega) (by omega) (by omega) (by omega) (by omega) (by omega) xs ys wx.2.2.2.1 wy.2.2.2.1 (fun h => absurd rfl h) _ hw i1 j1 _ _ _ _ rfl rfl rfl rfl _ (fun rw2 rc2 g2 k2 => ?_)
      refine xr_drop (n * 3) (by omega) _ g2 _ rfl _ (fun rc3 g3 k3 => ?_)
      have kk : qx_kk (n * 3) xrw xrc rw2 rc3 := fun s' o hs' h => k3 _ _ hs' (k2 _ _ hs' h)
      rw [qr_jall_sh] at g3
      by_cases z : qi_sh xs ys = true
      · rw [if_pos z] at g3
        refine ⟨pk_in (n * 3) 120 (by omega), ?_⟩
        rw [nI_clamp (by omega), g3.2.2.1]
        have hne : 1 ≤ (qr_all [] (qr_pr xs ys)).length := qr_ne_all (by rw [qr_pr_len]; exact Nat.mul_pos (by omega) (by omega))
        have hl8 : (qr_all [] (qr_pr xs ys)).length ≤ 8 := g3.1
        refine br_f (by show ¬ nI (qr_all [] (qr_pr xs ys)).length ≤ 0; exact nI_nle (by omega) (by omega)) ?_
        exact hp1 xs ys rw2 rc3 ex ey z g3 (kk _ _ (by omega) hh) (kk _ _ (by omega) ht) (fun s' o hs' h => kk _ _ (by omega) h)
      · rw [if_neg z] at g3
        exact k56 rw2 rc3 (fun xs' ys' h1 h2 => by rw [ex] at h1; rw [ey] at h2; cases h1; cases h2; exact z) g3 kk
end
