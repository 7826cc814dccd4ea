/-! the class: all parts are learned -/
theorem qi_bit {a : Nat} (h1 : 1 ≤ a) (h2 : a ≤ 63) : ∃ l, l < 6 ∧ a.testBit l = true := by
  have : ∀ a, a < 64 → 1 ≤ a → ∃ l, l < 6 ∧ a.testBit l = true := by decide +kernel
  exact this a (by omega) h1
theorem qi_ls_ok {a : Nat} (h1 : 1 ≤ a) (h2 : a ≤ 63) : (qi_ls a).Nodup ∧ 1 ≤ (qi_ls a).length ∧ (qi_ls a).length ≤ 6 := by
  obtain ⟨l, hl, hb⟩ := qi_bit h1 h2
  refine ⟨List.Pairwise.filter _ List.nodup_range, ?_, qi_lt_len a 6⟩
  exact List.length_pos_of_mem (List.mem_filter.mpr ⟨List.mem_range.mpr hl, hb⟩)
theorem qx_inj3 {v : qi_T} {w : List (List Nat)} {oh ot : Option (List (List Nat))} (h : v = (if w = [] then (none, qr_le oh, qr_le ot, v.2.2.2) else (some w, qr_le (qr_oall oh (w.map qr_hd)), qr_le (qr_oall ot (w.map qr_tl)), v.2.2.2))) : v.1.getD [] = w ∧ v.2.1 = qr_le (qr_oall oh (w.map qr_hd)) ∧ v.2.2.1 = qr_le (qr_oall ot (w.map qr_tl)) := by
  by_cases z : w = []
  · rw [if_pos z] at h
    subst z
    rw [h]
    exact ⟨rfl, rfl, rfl⟩
  · rw [if_neg z] at h
    rw [h]
    exact ⟨rfl, rfl, rfl⟩
theorem qi_known_3 {ws : List (List Nat)} (h : 1 ≤ ws.length) : qi_known ws = (if ws = [] then (none, qr_le (some []), qr_le (some []), (qi_known ws).2.2.2) else (some ws, qr_le (qr_oall (some []) (ws.map qr_hd)), qr_le (qr_oall (some []) (ws.map qr_tl)), (qi_known ws).2.2.2)) := by
  have hne : ws ≠ [] := fun e => by rw [e] at h; exact absurd h (by simp)
  rw [if_neg hne, qr_le_all (by rw [List.length_map]; exact h), qr_le_all (by rw [List.length_map]; exact h)]
  rfl
section
variable {xwc xdc xdm xsc xtc xnc xmc xbr xwt : Int32} {xch xtl xwf xdn xdf xdl xss xtk xta xtb xnk xna xnb xnl xnr xns xfa xfs xfi xrc xcl xhd xhi xwo : Nat → Int32} {xrw xre : Nat → Int64}
theorem xn_learn (n m : Nat) (D : Nat → qv_T) (hm : m ≤ 33) (hn : n < m) (hok : qn_ok qv_lf qv_un qv_bi xnk xna xnb xnl xnr m D) (hwf : ∀ j, j < m → qi_wf (D j).2.1) (hin : ∀ j, j < n → qx_in xrw xrc j (D j).2.1) (post : SX → Prop)
  (hp : ∀ (rw1 : Nat → Int64) (rc1 : Nat → Int32), (∀ j, j < n + 1 → qx_in rw1 rc1 j (D j).2.1) → post (xwc, xdc, xdm, xsc, xtc, xnc, xmc, xbr, xwt, xch, xtl, xwf, xdn, xdf, xdl, xss, xtk, xta, xtb, xnk, xna, xnb, xnl, xnr, xns, xfa, xfs, xfi, rw1, rc1, xcl, xhd, xre, xhi, xwo)) : wpX_learn post (xwc, xdc, xdm, xsc, xtc, xnc, xmc, xbr, xwt, xch, xtl, xwf, xdn, xdf, xdl, xss, xtk, xta, xtb, xnk, xna, xnb, xnl, xnr, xns, xfa, xfs, xfi, xrw, xrc, xcl, xhd, xre, xhi, xwo) (nI n) := by
  have hin40 : vp_in (nI n) 40 := pk_in n 40 (by omega)
  have cn : (nI n).toNatClampNeg = n := nI_clamp (by omega)
  unfold wpX_learn
  refine nm_r (xn_3 n) ⟨pk_in (n * 3) 120 (by omega), nm_e ⟨pk_in (n * 3 + 1) 120 (by omega) (xn_31 n), nm_e ⟨pk_in (n * 3 + 2) 120 (by omega) (xn_32 n), nm_e ⟨hin40, ?_⟩⟩⟩⟩
  rw [xn_31, xn_32, nI_clamp (show n * 3 < 2 ^ 31 by omega), nI_clamp (show n * 3 + 1 < 2 ^ 31 by omega), nI_clamp (show n * 3 + 2 < 2 ^ 31 by omega), cn]
  generalize hrc : upd (upd (upd xrc (n * 3) 0) (n * 3 + 1) 0) (n * 3 + 2) 0 = rc0
  have z0 : ∀ s, s = n * 3 ∨ s = n * 3 + 1 ∨ s = n * 3 + 2 → qx_set xrw rc0 s (some []) := by
    intro s hs
    refine ⟨by simp, (fun r hr => nomatch hr), ?_, (fun k r hk => nomatch hk)⟩
    rw [← hrc]
    show (if s = n * 3 + 2 then (0 : Int32) else if s = n * 3 + 1 then 0 else if s = n * 3 then 0 else xrc s) = 0
    rcases hs with h | h | h <;> subst h <;> simp
  have k0 : qx_k3 n xrw xrc xrw rc0 := by
    intro s' o hs' h
    refine qx_set_cg h ?_ (fun _ _ => rfl)
    rw [← hrc, pk_un (by omega), pk_un (by omega), pk_un (by omega)]
  -- behind the kinds
  have fin : ∀ (rw1 : Nat → Int64) (rc1 : Nat → Int32) (w : List (List Nat)) (oh ot : Option (List (List Nat))), qx_set rw1 rc1 (n * 3) (some w) → qx_set rw1 rc1 (n * 3 + 1) oh → qx_set rw1 rc1 (n * 3 + 2) ot → qx_k3 n xrw rc0 rw1 rc1 → (D n).2.1 = (if w = [] then (none, qr_le oh, qr_le ot, (D n).2.1.2.2.2) else (some w, qr_le (qr_oall oh (w.map qr_hd)), qr_le (qr_oall ot (w.map qr_tl)), (D n).2.1.2.2.2)) → wX_learn_137 post (nI (n * 3)) xwc xdc xdm xsc xtc xnc xmc xbr xwt xch xtl xwf xdn xdf xdl xss xtk xta xtb xnk xna xnb xnl xnr xns xfa xfs xfi rw1 rc1 xcl xhd xre xhi xwo := by
    intro rw1 rc1 w oh ot g1 g2 g3 k1 hv
    refine xn_137 n (by omega) w oh ot g1 g2 g3 post (fun rw2 rc2 f1 f2 f3 k2 => hp rw2 rc2 (fun j hj => ?_))
    by_cases z : j = n
    · subst z
      obtain ⟨e1, e2, e3⟩ := qx_inj3 hv
      refine ⟨?_, ?_, ?_⟩
      · rw [e1]; exact f1
      · rw [e2]; exact f2
      · rw [e3]; exact f3
    · obtain ⟨i1, i2, i3⟩ := hin j (by omega)
      exact ⟨k2 _ _ (by omega) (k1 _ _ (by omega) (k0 _ _ (by omega) i1)), k2 _ _ (by omega) (k1 _ _ (by omega) (k0 _ _ (by omega) i2)), k2 _ _ (by omega) (k1 _ _ (by omega) (k0 _ _ (by omega) i3))⟩
  have hin0 : ∀ j, j < n → qx_in xrw rc0 j (D j).2.1 := fun j hj => ⟨k0 _ _ (by omega) (hin j hj).1, k0 _ _ (by omega) (hin j hj).2.1, k0 _ _ (by omega) (hin j hj).2.2⟩
  obtain ⟨k, l, r, ek, el, er, hl, hr, hc⟩ := hok n hn
  refine nm_r ek ?_
  have n137 : (D n).2.1 = qi_unk → wX_learn_137 post (nI (n * 3)) xwc xdc xdm xsc xtc xnc xmc xbr xwt xch xtl xwf xdn xdf xdl xss xtk xta xtb xnk xna xnb xnl xnr xns xfa xfs xfi xrw rc0 xcl xhd xre xhi xwo := fun e => fin xrw rc0 [] (some []) (some []) (z0 _ (by omega)) (z0 _ (by omega)) (z0 _ (by omega)) (fun _ _ _ h => h) (by rw [e]; rfl)
  have kne : ∀ q : Nat, q < 100 → k ≠ q → ¬ nI k = nI q := fun q hq h => xe_kne (by rcases hc with h | h | h | h | h <;> omega) hq h
  have hk14 : k < 14 := by rcases hc with h | h | h | h | h <;> omega
  have hk2 : 2 ≤ k := by rcases hc with h | h | h | h | h <;> omega
  refine br_f (nI_nlt (b := 2) hk2 (by omega)) (br_f (nI_nlt (a := 13) (b := k) (by omega) (by omega)) ?_)
  rcases hc with ⟨hk, a, ea, ha1, ha2, ev⟩ | ⟨hk, ev⟩ | ⟨hk, hl', ev⟩ | ⟨hk, hl', a, b, ea, eb, hab, hb3, hb1, ev⟩ | ⟨hk, hl', hr', ev⟩
  · -- a class
    subst hk
    have ev' : (D n).2.1 = qi_lf 2 a := by rw [ev]; rfl
    have hls := qi_ls_ok ha1 ha2
    refine br_t rfl ?_
    refine xn_class n a (by omega) ea (z0 _ (by omega)) _ (fun rw1 rc1 g1 kk => ?_)
    by_cases z : (qi_ls a).length ≤ 3
    · rw [if_pos z, qr_oall_nd (List.Pairwise.map _ (fun x y hxy e => hxy (by simpa using e)) hls.1) (by rw [List.length_map]; omega)] at g1
      refine fin rw1 rc1 _ (some []) (some []) g1 (kk _ _ (by omega) (z0 _ (by omega))) (kk _ _ (by omega) (z0 _ (by omega))) (fun s' o hs' h => kk _ _ (by omega) h) ?_
      have e : (D n).2.1 = qi_known ((qi_ls a).map (fun l => [l])) := by rw [ev']; unfold qi_lf; rw [if_pos rfl, if_pos z]
      rw [e]
      exact qi_known_3 (by rw [List.length_map]; omega)
    · rw [if_neg z] at g1
      refine fin rw1 rc1 [] (some []) (some []) g1 (kk _ _ (by omega) (z0 _ (by omega))) (kk _ _ (by omega) (z0 _ (by omega))) (fun s' o hs' h => kk _ _ (by omega) h) ?_
      have e : (D n).2.1 = qi_unk := by rw [ev']; unfold qi_lf; rw [if_pos rfl, if_neg z]
      rw [e]
      rfl
  · -- the empty row
    have e : (D n).2.1 = qi_known [[]] := by
      rw [ev]
      show qi_lf k 0 = _
      unfold qi_lf
      rw [if_neg (by omega)]
    have k104 : wX_learn_104 post (nI (n * 3)) xwc xdc xdm xsc xtc xnc xmc xbr xwt xch xtl xwf xdn xdf xdl xss xtk xta xtb xnk xna xnb xnl xnr xns xfa xfs xfi xrw rc0 xcl xhd xre xhi xwo := by
      unfold wX_learn_104
      refine xr_add (n * 3) (by omega) (some []) (z0 _ (by omega)) [] ⟨by simp, (fun x hx => nomatch hx)⟩ _ rfl _ rfl _ (fun rw1 rc1 g1 kk => ?_)
      refine fin rw1 rc1 [[]] (some []) (some []) g1 (kk _ _ (by omega) (z0 _ (by omega))) (kk _ _ (by omega) (z0 _ (by omega))) (fun s' o hs' h => kk _ _ (by omega) h) ?_
      rw [e]
      exact qi_known_3 (by simp)
    refine br_f (kne 2 (by omega) (by omega)) (br_f (kne 3 (by omega) (by omega)) (br_f (kne 4 (by omega) (by omega)) (br_f (kne 5 (by omega) (by omega)) (br_f (kne 6 (by omega) (by omega)) (br_f (kne 7 (by omega) (by omega)) (br_f (kne 8 (by omega) (by omega)) (br_f (kne 9 (by omega) (by omega)) ?_)))))))
    rcases hk with h | h | h
    · subst h; exact br_t rfl k104
    · subst h; exact br_f (by decide) (br_t rfl k104)
    · subst h; exact br_f (by decide) (br_f (by decide) (br_t rfl k104))
  · -- star and plus
    have hwl := hwf l (by omega)
    refine br_f (kne 2 (by omega) (by omega)) (br_f (kne 3 (by omega) (by omega)) (br_f (kne 4 (by omega) (by omega)) (br_f (kne 5 (by omega) (by omega)) ?_)))
    rcases hk with h | h
    · subst h
      exact br_t rfl (n137 (by rw [ev]; rfl))
    · subst h
      refine br_f (by decide) (br_t rfl ?_)
      unfold wX_learn_113 wpX_learnRepeat
      refine ⟨hin40, nm_r (e' := nI (l * 3)) (by rw [cn, el, xn_3]) ⟨hin40, ?_⟩⟩
      rw [cn, ek]
      refine br_t rfl (xn_rep29 n l (by omega) hl' (D l).2.1 hwl (hin0 l hl') (z0 _ (by omega)) (z0 _ (by omega)) (z0 _ (by omega)) _ (fun rw1 rc1 g1 g2 g3 k1 => fin rw1 rc1 [] _ _ g1 g2 g3 k1 ?_))
      rw [if_pos rfl, qr_le_id (qi_wf_h hwl).2.1, qr_le_id (qi_wf_t hwl).2.1, ev]
      rfl
  · -- count
    subst hk
    have hwl := hwf l (by omega)
    refine br_f (by decide) (br_f (by decide) (br_f (by decide) (br_f (by decide) (br_f (by decide) (br_f (by decide) (br_f (by decide) (br_t rfl ?_)))))))
    unfold wX_learn_113 wpX_learnRepeat
    refine ⟨hin40, nm_r (e' := nI (l * 3)) (by rw [cn, el, xn_3]) ⟨hin40, ?_⟩⟩
    rw [cn, ek]
    refine br_f (by decide) ⟨hin40, ?_⟩
    rw [ea]
    refine pk_le a 0 (fun h0 => n137 ?_) (fun h0 => ?_)
    · rw [ev]
      show qi_un 9 a (D l).2.1 = _
      unfold qi_un
      rw [if_neg (by decide), if_pos rfl, if_pos (by omega)]
    · refine xn_rep29 n l (by omega) hl' (D l).2.1 hwl (hin0 l hl') (z0 _ (by omega)) (z0 _ (by omega)) (z0 _ (by omega)) _ (fun rw1 rc1 g1 g2 g3 k1 => fin rw1 rc1 [] _ _ g1 g2 g3 k1 ?_)
      have e9 : (qv_un 9 a b (D l)).2.1 = qi_rep (D l).2.1 := by
        show qi_un 9 a (D l).2.1 = _
        unfold qi_un
        rw [if_neg (by decide), if_pos rfl, if_neg (by omega)]
      rw [if_pos rfl, qr_le_id (qi_wf_h hwl).2.1, qr_le_id (qi_wf_t hwl).2.1, ev, e9]
      rfl
  · -- alt and seq
    have hwl := hwf l (by omega)
    have hwr := hwf r (by omega)
    have alt : (k = 5 ∨ k = 8) → wX_learn_121 post (nI n) (nI (n * 3)) xwc xdc xdm xsc xtc xnc xmc xbr xwt xch xtl xwf xdn xdf xdl xss xtk xta xtb xnk xna xnb xnl xnr xns xfa xfs xfi xrw rc0 xcl xhd xre xhi xwo := by
      intro hk'
      unfold wX_learn_121
      refine xn_alt n l r (by omega) hl' hr' el er (D l).2.1 (D r).2.1 hwl hwr (hin0 l hl') (hin0 r hr') (z0 _ (by omega)) (z0 _ (by omega)) (z0 _ (by omega)) _ (fun rw1 rc1 g1 g2 g3 k1 => fin rw1 rc1 _ _ _ g1 g2 g3 k1 ?_)
      have e : (D n).2.1 = qi_alt (D l).2.1 (D r).2.1 := by
        rw [ev]
        show qi_bi k _ _ = _
        unfold qi_bi
        rw [if_neg (by omega)]
      rw [e]
      have hl2 := qi_wf_h hwl
      have ht2 := qi_wf_t hwl
      have hun : qi_alt2 (D l).2.1 (D r).2.1 = (none, qr_le (qr_oall (some []) ((D l).2.1.2.1 ++ (D r).2.1.2.1)), qr_le (qr_oall (some []) ((D l).2.1.2.2.1 ++ (D r).2.1.2.2.1)), (qi_alt2 (D l).2.1 (D r).2.1).2.2.2) := by
        rw [qr_le_all (by rw [List.length_append]; omega), qr_le_all (by rw [List.length_append]; omega)]
        rfl
      have un2 : qi_alt (D l).2.1 (D r).2.1 = qi_alt2 (D l).2.1 (D r).2.1 → qx_alt (D l).2.1 (D r).2.1 = ([], qr_oall (some []) ((D l).2.1.2.1 ++ (D r).2.1.2.1), qr_oall (some []) ((D l).2.1.2.2.1 ++ (D r).2.1.2.2.1)) → qi_alt (D l).2.1 (D r).2.1 = (if (qx_alt (D l).2.1 (D r).2.1).1 = [] then (none, qr_le (qx_alt (D l).2.1 (D r).2.1).2.1, qr_le (qx_alt (D l).2.1 (D r).2.1).2.2, (qi_alt (D l).2.1 (D r).2.1).2.2.2) else (some (qx_alt (D l).2.1 (D r).2.1).1, qr_le (qr_oall (qx_alt (D l).2.1 (D r).2.1).2.1 ((qx_alt (D l).2.1 (D r).2.1).1.map qr_hd)), qr_le (qr_oall (qx_alt (D l).2.1 (D r).2.1).2.2 ((qx_alt (D l).2.1 (D r).2.1).1.map qr_tl)), (qi_alt (D l).2.1 (D r).2.1).2.2.2)) := by
        intro u1 u2
        rw [u1, u2]
        dsimp only
        rw [if_pos rfl]
        exact hun
      cases ex : (D l).2.1.1 with
      | none => exact un2 (by unfold qi_alt; rw [ex]) (by unfold qx_alt; rw [ex])
      | some xs =>
        cases ey : (D r).2.1.1 with
        | none => exact un2 (by unfold qi_alt; rw [ex, ey]) (by unfold qx_alt; rw [ex, ey])
        | some ys =>
          have wx := qi_wf_w hwl ex
          by_cases z : (qr_all [] (xs ++ ys)).length ≤ 8
          · have u1 : qi_alt (D l).2.1 (D r).2.1 = qi_known (qr_all [] (xs ++ ys)) := by unfold qi_alt; rw [ex, ey]; dsimp only; rw [if_pos z]
            have u2 : qx_alt (D l).2.1 (D r).2.1 = (qr_all [] (xs ++ ys), some [], some []) := by unfold qx_alt; rw [ex, ey]; dsimp only; rw [if_pos z]
            rw [u1, u2]
            exact qi_known_3 (qr_ne_all (by rw [List.length_append]; omega))
          · exact un2 (by unfold qi_alt; rw [ex, ey]; dsimp only; rw [if_neg z]) (by unfold qx_alt; rw [ex, ey]; dsimp only; rw [if_neg z])
    refine br_f (kne 2 (by omega) (by omega)) (br_f (kne 3 (by omega) (by omega)) (br_f (kne 4 (by omega) (by omega)) ?_))
    rcases hk with h | h | h
    · subst h; exact br_t rfl (alt (Or.inl rfl))
    · subst h; exact br_f (by decide) (br_f (by decide) (br_f (by decide) (br_t rfl (alt (Or.inr rfl)))))
    · subst h
      refine br_f (by decide) (br_f (by decide) (br_f (by decide) (br_f (by decide) (br_f (by decide) (br_f (by decide) (br_f (by decide) (br_f (by decide) (br_t rfl ?_))))))))
      have e : (D n).2.1 = qi_seq (D l).2.1 (D r).2.1 := by rw [ev]; rfl
      have hxh := qi_wf_h hwl
      have hxt := qi_wf_t hwl
      have hyh := qi_wf_h hwr
      have hyt := qi_wf_t hwr
      refine xn_seq n l r (by omega) hl' hr' el er (D l).2.1 (D r).2.1 hwl hwr (hin0 l hl') (hin0 r hr') (z0 _ (by omega)) (z0 _ (by omega)) (z0 _ (by omega)) _ (fun xs ys rw1 rc1 ex ey z g1 g2 g3 k1 => fin rw1 rc1 _ _ _ g1 g2 g3 k1 ?_) (fun rw1 rc1 hns g1 g2 g3 k1 => fin rw1 rc1 [] _ _ g1 g2 g3 k1 ?_)
      · have wx := qi_wf_w hwl ex
        have wy := qi_wf_w hwr ey
        have e2 : (D n).2.1 = qi_known (qr_all [] (qr_pr xs ys)) := by rw [e]; unfold qi_seq; rw [ex, ey]; dsimp only; rw [if_pos z]
        rw [e2]
        exact qi_known_3 (qr_ne_all (by rw [qr_pr_len]; exact Nat.mul_pos (by omega) (by omega)))
      · have e2 : (D n).2.1 = qi_seq2 (D l).2.1 (D r).2.1 := by
          rw [e]
          unfold qi_seq
          split
          · rename_i xs ys ex ey
            rw [if_neg (hns xs ys ex ey)]
          · rfl
        rw [if_pos rfl, e2]
        have eh : qi_hx (D l).2.1 (D r).2.1 = qr_le (qx_sqh (D l).2.1 (D r).2.1) := by
          unfold qi_hx qx_sqh
          cases ex : (D l).2.1.1 with
          | none =>
            dsimp only
            rw [qr_oall_nd hxh.1 hxh.2.2.1, qr_le_id hxh.2.1]
          | some xs =>
            dsimp only
            have wx := qi_wf_w hwl ex
            rw [qr_jall_c (by decide), qr_map1, qr_le_all (by rw [List.length_map, qr_pr_len]; exact Nat.mul_pos (by omega) (by omega))]
        have et : qi_ty (D l).2.1 (D r).2.1 = qr_le (qx_sqt (D l).2.1 (D r).2.1) := by
          unfold qi_ty qx_sqt
          cases ey : (D r).2.1.1 with
          | none =>
            dsimp only
            rw [qr_oall_nd hyt.1 hyt.2.2.1, qr_le_id hyt.2.1]
          | some ys =>
            dsimp only
            have wy := qi_wf_w hwr ey
            rw [qr_jall_c (by decide), qr_map2, qr_le_all (by rw [List.length_map, qr_pr_len]; exact Nat.mul_pos (by omega) (by omega))]
        unfold qi_seq2
        rw [eh, et]
end
