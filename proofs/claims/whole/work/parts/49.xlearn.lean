/-! the class: what a part of the expression has -/
theorem qr_le_all {rs : List (List Nat)} (h : 1 ≤ rs.length) : qr_le (qr_oall (some []) rs) = qr_lim (qr_all [] rs) := by
  have hne := qr_ne_all h
  rw [qr_oall_some rs [] (by simp)]
  unfold qr_lim
  by_cases z : (qr_all [] rs).length ≤ 8
  · rw [if_pos z, if_pos z]
    match hl : qr_all [] rs, hne with
    | r :: l, _ => rfl
  · rw [if_neg z, if_neg z]
    rfl
theorem qr_le_id {l : List (List Nat)} (h : 1 ≤ l.length) : qr_le (some l) = l := by
  match l, h with
  | r :: l, _ => rfl
theorem qr_map0 (l : List (List Nat)) : l.map (qr_cut 0) = l := by
  have : qr_cut 0 = id := by funext r; rfl
  rw [this, List.map_id]
theorem qr_map1 (l : List (List Nat)) : l.map (qr_cut 1) = l.map qr_hd := by
  have : qr_cut 1 = qr_hd := by funext r; rfl
  rw [this]
theorem qr_map2 (l : List (List Nat)) : l.map (qr_cut 2) = l.map qr_tl := by
  have : qr_cut 2 = qr_tl := by funext r; rfl
  rw [this]
def qx_in (rw0 : Nat → Int64) (rc0 : Nat → Int32) (j : Nat) (v : qi_T) : Prop := qx_set rw0 rc0 (j * 3) (some (v.1.getD [])) ∧ qx_set rw0 rc0 (j * 3 + 1) (some v.2.1) ∧ qx_set rw0 rc0 (j * 3 + 2) (some v.2.2.1)
def qx_k3 (n : Nat) (rw0 : Nat → Int64) (rc0 : Nat → Int32) (rw1 : Nat → Int64) (rc1 : Nat → Int32) : Prop := ∀ s' o, s' < n * 3 → qx_set rw0 rc0 s' o → qx_set rw1 rc1 s' o
theorem xn_3 (n : Nat) : nI n * 3 = nI (n * 3) := by rw [show (3 : Int32) = nI 3 from rfl, pk_mul]
theorem xn_31 (n : Nat) : nI (n * 3) + 1 = nI (n * 3 + 1) := nI_1 _
theorem xn_32 (n : Nat) : nI (n * 3) + 2 = nI (n * 3 + 2) := nI_add _ 2
section
variable {xwc xdc xdm xsc xtc xnc xmc xbr xwt : Int32} {xch xtl xwf xdn xdf xdl xss xtk xta xtb xnk xna xnb xnl xnr xns xfa xfs xfi xrc xcl xhd xhi xwo : Nat → Int32} {xrw xre : Nat → Int64}
theorem xn_164 (n : Nat) (hn : n < 40) (oh ot : Option (List (List Nat))) (hh : qx_set xrw xrc (n * 3 + 1) oh) (ht : qx_set xrw xrc (n * 3 + 2) ot) (post : SX → Prop)
  (hp : ∀ (rw1 : Nat → Int64) (rc1 : Nat → Int32), qx_set rw1 rc1 (n * 3 + 1) (some (qr_le oh)) → qx_set rw1 rc1 (n * 3 + 2) (some (qr_le ot)) → (∀ s' o, s' ≠ n * 3 + 1 → s' ≠ n * 3 + 2 → qx_set xrw xrc s' o → qx_set rw1 rc1 s' o) → post (xwc, xdc, xdm, xsc, xtc, xnc, xmc, xbr, xwt, xch, xtl, xwf, xdn, xdf, xdl, xss, xtk, xta, xtb, xnk, xna, xnb, xnl, xnr, xns, xfa, xfs, xfi, rw1, rc1, xcl, xhd, xre, xhi, xwo)) : wX_learn_164 post (nI (n * 3)) xwc xdc xdm xsc xtc xnc xmc xbr xwt xch xtl xwf xdn xdf xdl xss xtk xta xtb xnk xna xnb xnl xnr xns xfa xfs xfi xrw xrc xcl xhd xre xhi xwo := by
  unfold wX_learn_164
  refine xr_lim (n * 3 + 1) (by omega) oh hh _ (xn_31 n) _ (fun rw1 rc1 g1 k1 => ?_)
  refine xr_lim (n * 3 + 2) (by omega) ot (k1 _ _ (by omega) ht) _ (xn_32 n) _ (fun rw2 rc2 g2 k2 => ?_)
  exact hp rw2 rc2 (k2 _ _ (by omega) g1) g2 (fun s' o h1 h2 h => k2 _ _ h2 (k1 _ _ h1 h))
theorem xn_137 (n : Nat) (hn : n < 40) (w : List (List Nat)) (oh ot : Option (List (List Nat))) (hw : qx_set xrw xrc (n * 3) (some w)) (hh : qx_set xrw xrc (n * 3 + 1) oh) (ht : qx_set xrw xrc (n * 3 + 2) ot) (post : SX → Prop)
  (hp : ∀ (rw1 : Nat → Int64) (rc1 : Nat → Int32), qx_set rw1 rc1 (n * 3) (some w) → qx_set rw1 rc1 (n * 3 + 1) (some (qr_le (qr_oall oh (w.map qr_hd)))) → qx_set rw1 rc1 (n * 3 + 2) (some (qr_le (qr_oall ot (w.map qr_tl)))) → qx_k3 n xrw xrc rw1 rc1 → post (xwc, xdc, xdm, xsc, xtc, xnc, xmc, xbr, xwt, xch, xtl, xwf, xdn, xdf, xdl, xss, xtk, xta, xtb, xnk, xna, xnb, xnl, xnr, xns, xfa, xfs, xfi, rw1, rc1, xcl, xhd, xre, xhi, xwo)) : wX_learn_137 post (nI (n * 3)) xwc xdc xdm xsc xtc xnc xmc xbr xwt xch xtl xwf xdn xdf xdl xss xtk xta xtb xnk xna xnb xnl xnr xns xfa xfs xfi xrw xrc xcl xhd xre xhi xwo := by
  have c0 : (nI (n * 3)).toNatClampNeg = n * 3 := nI_clamp (by omega)
  refine ⟨pk_in (n * 3) 120 (by omega), ?_⟩
  rw [c0, hw.2.2.1]
  have hl := hw.1
  refine pk_le w.length 0 (fun hz => ?_) (fun hz => ?_)
  · have e : w = [] := List.eq_nil_of_length_eq_zero (by omega)
    subst e
    exact xn_164 n hn oh ot hh ht post (fun rw1 rc1 g1 g2 k => hp rw1 rc1 (k _ _ (by omega) (by omega) hw) g1 g2 (fun s' o hs' h => k _ _ (by omega) (by omega) h))
  · refine xr_rows (n * 3 + 1) (n * 3) 1 (by omega) (by omega) (by omega) (by omega) w oh hh hw _ _ _ (xn_31 n) rfl rfl _ (fun rw1 rc1 g1 k1 => ?_)
    refine xr_rows (n * 3 + 2) (n * 3) 2 (by omega) (by omega) (by omega) (by omega) w ot (k1 _ _ (by omega) ht) (k1 _ _ (by omega) hw) _ _ _ (xn_32 n) rfl rfl _ (fun rw2 rc2 g2 k2 => ?_)
    rw [qr_map1] at g1
    rw [qr_map2] at g2
    exact xn_164 n hn _ _ (k2 _ _ (by omega) g1) g2 post (fun rw3 rc3 g3 g4 k => hp rw3 rc3 (k _ _ (by omega) (by omega) (k2 _ _ (by omega) (k1 _ _ (by omega) hw))) g3 g4 (fun s' o hs' h => k _ _ (by omega) (by omega) (k2 _ _ (by omega) (k1 _ _ (by omega) h))))
theorem xn_incl (a l : Nat) (hl : l < 6) (xa xl : Int32) (ea : xa = nI a) (el : xl = nI l) (post : Int32 → Prop) (h1 : a.testBit l = true → post 1) (h0 : a.testBit l = false → post 0) : wpX_isInClass post xa xl := by
  subst ea; subst el
  refine ek_if (qb_s1 (nI a) l (by omega)) (fun h => h1 (by rw [qb_nI a l (by omega)] at h; exact h)) (fun h => h0 (by rw [qb_nI a l (by omega)] at h; simpa using h))
def qi_lt (a m : Nat) : List Nat := (List.range m).filter (fun l => a.testBit l)
theorem qi_lt_s (a m : Nat) : qi_lt a (m + 1) = qi_lt a m ++ (if a.testBit m = true then [m] else []) := by
  unfold qi_lt
  rw [List.range_succ, List.filter_append]
  congr 1
  by_cases z : a.testBit m = true
  · rw [if_pos z]; simp [z]
  · rw [if_neg z]; simp [z]
theorem qi_lt_len (a m : Nat) : (qi_lt a m).length ≤ m := by
  unfold qi_lt
  have := List.length_filter_le (fun l => a.testBit l) (List.range m)
  rw [List.length_range] at this
  exact this
theorem xn_class (n a : Nat) (hn : n < 40) (ea : xna n = nI a) (hw : qx_set xrw xrc (n * 3) (some [])) (post : SX → Prop)
  (hp : ∀ (rw1 : Nat → Int64) (rc1 : Nat → Int32), qx_set rw1 rc1 (n * 3) (if (qi_ls a).length ≤ 3 then qr_oall (some []) ((qi_ls a).map (fun l => [l])) else some []) → qx_kk (n * 3) xrw xrc rw1 rc1 → post (xwc, xdc, xdm, xsc, xtc, xnc, xmc, xbr, xwt, xch, xtl, xwf, xdn, xdf, xdl, xss, xtk, xta, xtb, xnk, xna, xnb, xnl, xnr, xns, xfa, xfs, xfi, rw1, rc1, xcl, xhd, xre, xhi, xwo)) : wpX_learnClass post (xwc, xdc, xdm, xsc, xtc, xnc, xmc, xbr, xwt, xch, xtl, xwf, xdn, xdf, xdl, xss, xtk, xta, xtb, xnk, xna, xnb, xnl, xnr, xns, xfa, xfs, xfi, xrw, xrc, xcl, xhd, xre, xhi, xwo) (nI n) := by
  have cn : (nI n).toNatClampNeg = n := nI_clamp (by omega)
  have hin : vp_in (nI n) 40 := pk_in n 40 hn
  have h6 : qi_lt a 6 = qi_ls a := rfl
  -- the rows
  have key : ∀ (N l : Nat) (rw1 : Nat → Int64) (rc1 : Nat → Int32), l ≤ 6 → 6 - l < N → (qi_ls a).length ≤ 3 → qx_set rw1 rc1 (n * 3) (qr_oall (some []) ((qi_lt a l).map (fun l => [l]))) → qx_kk (n * 3) xrw xrc rw1 rc1 → wX_learnClass_39 post (nI n) (nI (qi_ls a).length) N (nI l) xwc xdc xdm xsc xtc xnc xmc xbr xwt xch xtl xwf xdn xdf xdl xss xtk xta xtb xnk xna xnb xnl xnr xns xfa xfs xfi rw1 rc1 xcl xhd xre xhi xwo := by
    intro N
    induction N with
    | zero => intro l rw1 rc1 h1 h2; omega
    | succ N ih =>
      intro l rw1 rc1 h1 h2 h3 h4 h5
      refine pk_le 6 l (fun hle => ?_) (fun hlt => ?_)
      · have e : l = 6 := by omega
        subst e
        rw [if_pos h3] at hp
        exact hp rw1 rc1 h4 h5
      · refine br_f (nI_nlt (a := 3) (b := (qi_ls a).length) h3 (by omega)) ⟨hin, ?_⟩
        rw [cn]
        refine xn_incl a l hlt _ _ ea rfl _ (fun hb => br_f (by decide) ?_) (fun hb => br_t rfl (nm_r (nI_1 l) (ih (l + 1) rw1 rc1 (by omega) (by omega) h3 (by rw [qi_lt_s, hb]; simpa using h4) h5)))
        have hrw : qr_rw [l] := ⟨by simp, fun x hx => by rw [List.mem_singleton] at hx; omega⟩
        have er : (4294967296 : Int64) + (nI l).toInt64 = lN (qc_x [l]) := by
          have e1 : qc_x [l] = 4294967296 + l := by
            unfold qc_x
            rw [qc_one, List.length_singleton, Nat.one_mul]
          rw [nI_l (by omega), show (4294967296 : Int64) = lN 4294967296 from rfl, lN_add, e1]
        refine xr_add (n * 3) (by omega) _ h4 [l] hrw _ (xn_3 n) _ er _ (fun rw2 rc2 g1 g2 => nm_r (nI_1 l) (ih (l + 1) rw2 rc2 (by omega) (by omega) h3 ?_ (fun s' o' hs' h => g2 s' o' hs' (h5 s' o' hs' h))))
        rw [qi_lt_s, hb, if_pos rfl, List.map_append, qr_oall_app]
        exact g1
  -- the count
  have cnt : ∀ (N l : Nat), l ≤ 6 → 6 - l < N → wX_learnClass_4 post (nI n) xwc xdc xdm xsc xtc xnc xmc xbr xwt xch xtl xwf xdn xdf xdl xss xtk xta xtb xnk xna xnb xnl xnr xns xfa xfs xfi xrw xrc xcl xhd xre xhi xwo N (nI (qi_lt a l).length) (nI l) := by
    intro N
    induction N with
    | zero => intro l h1 h2; omega
    | succ N ih =>
      intro l h1 h2
      refine pk_le 6 l (fun hle => ?_) (fun hlt => ⟨hin, ?_⟩)
      · have e : l = 6 := by omega
        subst e
        rw [h6]
        have hlen := qi_lt_len a 6
        rw [h6] at hlen
        by_cases z : (qi_ls a).length ≤ 3
        · exact ⟨7, key 7 0 xrw xrc (by omega) (by omega) z hw (fun _ _ _ h => h)⟩
        · refine ⟨1, br_f (by decide) (br_t (nI_lt (a := 3) (by omega) (by omega)) ?_)⟩
          rw [if_neg z] at hp
          exact hp xrw xrc hw (fun _ _ _ h => h)
      · rw [cn]
        have := ih (l + 1) (by omega) (by omega)
        rw [qi_lt_s] at this
        refine xn_incl a l hlt _ _ ea rfl _ (fun hb => br_f (by decide) ?_) (fun hb => br_t rfl ?_)
        · rw [hb, if_pos rfl, List.length_append, List.length_singleton] at this
          exact nm_r (nI_1 _) (nm_r (nI_1 l) this)
        · rw [hb, if_neg (by decide), List.append_nil] at this
          exact nm_r (nI_add _ 0) (nm_r (nI_1 l) this)
  exact ⟨7, cnt 7 0 (by omega) (by omega)⟩
/-- the rows of two parts' ends -/
theorem xn_two (s f g : Nat) (hs : s < 120) (hf : f < 120) (hg : g < 120) (hsf : f ≠ s) (hsg : g ≠ s) (l1 l2 : List (List Nat)) (o : Option (List (List Nat))) (hset : qx_set xrw xrc s o) (h1 : qx_set xrw xrc f (some l1)) (h2 : qx_set xrw xrc g (some l2)) (xs' xf' xg' : Int32) (es : xs' = nI s) (ef : xf' = nI f) (eg : xg' = nI g) (post : SX → Prop)
  (hp : ∀ (rw1 : Nat → Int64) (rc1 : Nat → Int32), qx_set rw1 rc1 s (qr_oall o (l1 ++ l2)) → qx_kk s xrw xrc rw1 rc1 → post (xwc, xdc, xdm, xsc, xtc, xnc, xmc, xbr, xwt, xch, xtl, xwf, xdn, xdf, xdl, xss, xtk, xta, xtb, xnk, xna, xnb, xnl, xnr, xns, xfa, xfs, xfi, rw1, rc1, xcl, xhd, xre, xhi, xwo)) : wpX_addRows (fun u => wpX_addRows post u xs' xg' 0) (xwc, xdc, xdm, xsc, xtc, xnc, xmc, xbr, xwt, xch, xtl, xwf, xdn, xdf, xdl, xss, xtk, xta, xtb, xnk, xna, xnb, xnl, xnr, xns, xfa, xfs, xfi, xrw, xrc, xcl, xhd, xre, xhi, xwo) xs' xf' 0 := by
  refine xr_rows s f 0 hs hf hsf (by omega) l1 o hset h1 _ _ _ es ef rfl _ (fun rw1 rc1 g1 k1 => ?_)
  refine xr_rows s g 0 hs hg hsg (by omega) l2 _ g1 (k1 _ _ hsg h2) _ _ _ es eg rfl _ (fun rw2 rc2 g2 k2 => ?_)
  rw [qr_map0, qr_map0, ← qr_oall_app] at g2
  exact hp rw2 rc2 g2 (fun s' o' hs' h => k2 _ _ hs' (k1 _ _ hs' h))
end
