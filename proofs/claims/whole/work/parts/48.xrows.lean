/-! the class: rows are cut, joined, added -/
def qr_cut (c : Nat) (r : List Nat) : List Nat := if c = 0 then r else if c = 1 then qr_hd r else qr_tl r
theorem qr_cut_rw {c : Nat} {r : List Nat} (h : qr_rw r) : qr_rw (qr_cut c r) := by
  unfold qr_cut
  split
  · exact h
  · split
    · exact ⟨by have := qr_hd_len r; omega, fun x hx => h.2 x (qr_hd_in hx)⟩
    · exact ⟨by have := qr_tl_len r; omega, fun x hx => h.2 x (qr_tl_in hx)⟩
theorem xr_len {r : List Nat} (h : qr_rw r) : lN (qc_x r) >>> ((32 : Int32).toInt64 &&& 63) = lN r.length := by
  have a := qc_x_lt r h.2 h.1
  rw [pf_shr (d := 32) (by decide) (by omega), show (2 : Nat) ^ 32 = 4294967296 from rfl, qc_x_len r h.2 h.1]
theorem xr_low {r : List Nat} (h : qr_rw r) : lN (qc_x r) &&& 4294967295 = lN (qc_v 8 r) := by
  have a := qc_x_lt r h.2 h.1
  have e := g_mask (a := qc_x r) (s := 32) (p := 4294967296) (by decide) (by omega) (by omega)
  rw [qc_x_low r h.2 h.1] at e
  exact e
theorem xr_p8 (k : Nat) : 2 ^ (3 * k) = 8 ^ k := by rw [Nat.pow_mul]
theorem xr_cut {r : List Nat} (h : qr_rw r) (c : Nat) (hc : c ≤ 2) (xc : Int32) (ec : xc = nI c) (xr' : Int64) (er : xr' = lN (qc_x r)) (post : Int64 → Prop) (hp : post (lN (qc_x (qr_cut c r)))) : wpX_cutRow post xr' xc := by
  subst ec; subst er
  have hv := qc_x_v r h.2 h.1
  have hl := h.1
  refine nm_r (xr_len h) (nm_r (xr_low h) (pk_eq c 0 (fun e0 => ?_) (fun e0 => ?_)))
  · have e : qr_cut c r = r := by unfold qr_cut; rw [if_pos e0]
    rw [e] at hp
    exact hp
  · refine ek_if (pk_lLT (a := 2) (b := r.length) (by omega) (by omega)) (fun h2 => ?_) (fun h2 => ?_)
    · refine pk_eq c 1 (fun e1 => ?_) (fun e1 => ?_)
      · have e : qr_cut c r = qr_hd r := by unfold qr_cut; rw [if_neg e0, if_pos e1]
        rw [e, ← qc_x_hd r h.2 (by omega)] at hp
        have es : ((3 * (lN r.length - 2)).toInt32).toInt64 &&& 63 = (nI (3 * (r.length - 2))).toInt64 &&& 63 := by
          rw [show (2 : Int64) = lN 2 from rfl, lN_sub (by omega), show (3 : Int64) = lN 3 from rfl, lN_mul, lN_i]
        refine nm_r (e' := lN (qc_v 8 r / 8 ^ (r.length - 2))) ?_ ?_
        · rw [es, pf_shr (d := 3 * (r.length - 2)) (qb_sl _ (by omega)) (by omega), xr_p8]
        · rw [show (8589934592 : Int64) = lN (2 * 4294967296) from rfl, lN_add]
          exact hp
      · have e : qr_cut c r = qr_tl r := by unfold qr_cut; rw [if_neg e0, if_neg e1]
        rw [e, ← qc_x_tl r h.2 (by omega)] at hp
        refine nm_r (e' := lN (qc_v 8 r % 64)) ?_ ?_
        · exact g_mask (a := qc_v 8 r) (s := 6) (p := 64) (by decide) (by omega) (by omega)
        · rw [show (8589934592 : Int64) = lN (2 * 4294967296) from rfl, lN_add]
          exact hp
    · have e : qr_cut c r = r := by
        unfold qr_cut
        rw [if_neg e0]
        split
        · exact qc_hd_id (by omega)
        · exact qc_tl_id (by omega)
      rw [e] at hp
      exact hp
theorem xr_join {a b : List Nat} (ha : qr_rw a) (hb : qr_rw b) (xa xb : Int64) (ea : xa = lN (qc_x a)) (eb : xb = lN (qc_x b)) (hl : a.length + b.length ≤ 10) (post : Int64 → Prop) (hp : post (lN (qc_x (a ++ b)))) : wpX_joinRows post xa xb := by
  subst ea; subst eb
  have hva := qc_x_v a ha.2 ha.1
  have hvb := qc_x_v b hb.2 hb.1
  have hbl := hb.1
  have es : ((3 * lN b.length).toInt32).toInt64 &&& 63 = (nI (3 * b.length)).toInt64 &&& 63 := by
    rw [show (3 : Int64) = lN 3 from rfl, lN_mul, lN_i]
  refine nm_r (xr_len ha) (nm_r (xr_len hb) (nm_r (e' := lN (qc_v 8 a * 8 ^ b.length + qc_v 8 b)) ?_ ?_))
  · rw [xr_low ha, xr_low hb, es, wb_shl (qc_v 8 a) (k := 3 * b.length) (by omega), xr_p8, lN_add]
  · have e : (lN a.length + lN b.length) <<< ((32 : Int32).toInt64 &&& 63) = lN ((a.length + b.length) * 4294967296) := by
      rw [lN_add]
      exact wb_shl (a.length + b.length) (k := 32) (by omega)
    rw [e, lN_add]
    rw [qc_x_app] at hp
    exact hp
def qr_jadd (c : Nat) (o : Option (List (List Nat))) (r : List Nat) : Option (List (List Nat)) := if c = 0 ∧ 5 < r.length then none else qr_oadd o (qr_cut c r)
def qr_jall (c : Nat) (o : Option (List (List Nat))) (rs : List (List Nat)) : Option (List (List Nat)) := rs.foldl (qr_jadd c) o
theorem qr_jall_c {c : Nat} (hc : c ≠ 0) : ∀ (rs : List (List Nat)) (o : Option (List (List Nat))), qr_jall c o rs = qr_oall o (rs.map (qr_cut c))
  | [], _ => rfl
  | r :: rs, o => by
    show qr_jall c (qr_jadd c o r) rs = qr_oall (qr_oadd o (qr_cut c r)) (rs.map (qr_cut c))
    have e : qr_jadd c o r = qr_oadd o (qr_cut c r) := by unfold qr_jadd; rw [if_neg (fun h => hc h.1)]
    rw [e]
    exact qr_jall_c hc rs _
theorem qr_jall_n : ∀ (rs : List (List Nat)), qr_jall 0 none rs = none
  | [] => rfl
  | r :: rs => by
    show qr_jall 0 (qr_jadd 0 none r) rs = none
    have e : qr_jadd 0 none r = none := by unfold qr_jadd; split <;> rfl
    rw [e]
    exact qr_jall_n rs
theorem qr_jall_0 : ∀ (rs : List (List Nat)) (o : Option (List (List Nat))), qr_jall 0 o rs = if rs.all (fun r => decide (r.length ≤ 5)) = true then qr_oall o rs else none
  | [], _ => rfl
  | r :: rs, o => by
    show qr_jall 0 (qr_jadd 0 o r) rs = _
    by_cases z : 5 < r.length
    · have e : qr_jadd 0 o r = none := by unfold qr_jadd; rw [if_pos ⟨rfl, z⟩]
      rw [e, qr_jall_n, if_neg]
      intro h
      rw [List.all_cons, Bool.and_eq_true] at h
      have := of_decide_eq_true h.1
      omega
    · have e : qr_jadd 0 o r = qr_oadd o r := by unfold qr_jadd; rw [if_neg (fun h => z h.2)]; rfl
      rw [e, qr_jall_0 rs, List.all_cons, decide_eq_true (by omega : r.length ≤ 5), Bool.true_and]
      rfl
theorem qr_jall_sh (xs ys : List (List Nat)) : qr_jall 0 (some []) (qr_pr xs ys) = if qi_sh xs ys = true then some (qr_all [] (qr_pr xs ys)) else none := by
  rw [qr_jall_0, qr_oall_some _ _ (by simp)]
  unfold qi_sh
  by_cases h1 : (qr_pr xs ys).all (fun r => decide (r.length ≤ 5)) = true
  · rw [if_pos h1, h1, Bool.and_true]
    by_cases h2 : (qr_all [] (qr_pr xs ys)).length ≤ 8
    · rw [if_pos h2, decide_eq_true h2, if_pos rfl]
    · rw [if_neg h2, decide_eq_false h2, if_neg (by decide)]
  · rw [if_neg h1, if_neg]
    intro h
    rw [Bool.and_eq_true] at h
    exact h1 h.2
def qr_le (o : Option (List (List Nat))) : List (List Nat) := match o with
  | none => [[]]
  | some [] => [[]]
  | some (r :: l) => r :: l
def qx_kk (s : Nat) (rw0 : Nat → Int64) (rc0 : Nat → Int32) (rw1 : Nat → Int64) (rc1 : Nat → Int32) : Prop := ∀ s' o, s' ≠ s → qx_set rw0 rc0 s' o → qx_set rw1 rc1 s' o
section
variable {xwc xdc xdm xsc xtc xnc xmc xbr xwt : Int32} {xch xtl xwf xdn xdf xdl xss xtk xta xtb xnk xna xnb xnl xnr xns xfa xfs xfi xrc xcl xhd xhi xwo : Nat → Int32} {xrw xre : Nat → Int64}
theorem xr_rows1 (s f c : Nat) (hs : s < 120) (hf : f < 120) (hsf : f ≠ s) (hc : c ≤ 2) (l : List (List Nat)) (hl : l.length ≤ 8) (o : Option (List (List Nat))) (rw0 : Nat → Int64) (rc0 : Nat → Int32) (hfrom : qx_set rw0 rc0 f (some l)) (post : SX → Prop)
  (hp : ∀ (rw1 : Nat → Int64) (rc1 : Nat → Int32), qx_set rw1 rc1 s (qr_oall o (l.map (qr_cut c))) → qx_kk s rw0 rc0 rw1 rc1 → post (xwc, xdc, xdm, xsc, xtc, xnc, xmc, xbr, xwt, xch, xtl, xwf, xdn, xdf, xdl, xss, xtk, xta, xtb, xnk, xna, xnb, xnl, xnr, xns, xfa, xfs, xfi, rw1, rc1, xcl, xhd, xre, xhi, xwo)) :
  ∀ (N k : Nat) (rw1 : Nat → Int64) (rc1 : Nat → Int32), k ≤ l.length → l.length - k < N → qx_set rw1 rc1 s (qr_oall o ((l.take k).map (qr_cut c))) → qx_kk s rw0 rc0 rw1 rc1 → wX_addRows_11 post (nI s) (nI f) (nI c) (nI l.length) N (nI k) xwc xdc xdm xsc xtc xnc xmc xbr xwt xch xtl xwf xdn xdf xdl xss xtk xta xtb xnk xna xnb xnl xnr xns xfa xfs xfi rw1 rc1 xcl xhd xre xhi xwo := by
  intro N
  induction N with
  | zero => intro k rw1 rc1 h1 h2; omega
  | succ N ih =>
    intro k rw1 rc1 h1 h2 h3 h4
    refine pk_le l.length k (fun hle => ?_) (fun hlt => ?_)
    · rw [List.take_of_length_le hle] at h3
      exact hp rw1 rc1 h3 h4
    · have hg := List.getElem?_eq_getElem hlt
      obtain ⟨_, b2, _, b4⟩ := h4 f (some l) hsf hfrom
      have hrw := b2 _ (List.getElem_mem hlt)
      refine ⟨pk_in (f * 8 + k) 960 (by omega) (xr_ix f k), ?_⟩
      rw [xr_ixc (by omega), b4 k _ hg]
      refine xr_cut hrw c hc _ rfl _ rfl _ ?_
      refine xr_add s hs _ h3 (qr_cut c l[k]) (qr_cut_rw hrw) _ rfl _ rfl _ (fun rw2 rc2 g1 g2 => nm_r (nI_1 k) (ih (k + 1) rw2 rc2 (by omega) (by omega) ?_ (fun s' o' hs' h => g2 s' o' hs' (h4 s' o' hs' h))))
      rw [List.take_succ_eq_append_getElem hlt, List.map_append, qr_oall_app]
      exact g1
theorem xr_rows (s f c : Nat) (hs : s < 120) (hf : f < 120) (hsf : f ≠ s) (hc : c ≤ 2) (l : List (List Nat)) (o : Option (List (List Nat))) (hset : qx_set xrw xrc s o) (hfrom : qx_set xrw xrc f (some l)) (xs' xf' xc' : Int32) (es : xs' = nI s) (ef : xf' = nI f) (ec : xc' = nI c) (post : SX → Prop)
  (hp : ∀ (rw1 : Nat → Int64) (rc1 : Nat → Int32), qx_set rw1 rc1 s (qr_oall o (l.map (qr_cut c))) → qx_kk s xrw xrc rw1 rc1 → post (xwc, xdc, xdm, xsc, xtc, xnc, xmc, xbr, xwt, xch, xtl, xwf, xdn, xdf, xdl, xss, xtk, xta, xtb, xnk, xna, xnb, xnl, xnr, xns, xfa, xfs, xfi, rw1, rc1, xcl, xhd, xre, xhi, xwo)) : wpX_addRows post (xwc, xdc, xdm, xsc, xtc, xnc, xmc, xbr, xwt, xch, xtl, xwf, xdn, xdf, xdl, xss, xtk, xta, xtb, xnk, xna, xnb, xnl, xnr, xns, xfa, xfs, xfi, xrw, xrc, xcl, xhd, xre, xhi, xwo) xs' xf' xc' := by
  subst es; subst ef; subst ec
  have cf : (nI f).toNatClampNeg = f := nI_clamp (by omega)
  have hl := hfrom.1
  refine And.intro (pk_in f 120 hf) (nm_r (e' := nI l.length) (by rw [cf]; exact hfrom.2.2.1) ⟨l.length + 1, ?_⟩)
  exact xr_rows1 s f c hs hf hsf hc l hl o xrw xrc hfrom post hp (l.length + 1) 0 xrw xrc (by omega) (by omega) hset (fun _ _ _ h => h)
theorem qr_pr_s (xs ys : List (List Nat)) (i : Nat) (hi : i < xs.length) : qr_pr (xs.take (i + 1)) ys = qr_pr (xs.take i) ys ++ ys.map (fun b => xs[i] ++ b) := by
  unfold qr_pr
  rw [List.take_succ_eq_append_getElem hi, List.flatMap_append]
  simp
theorem xr_len10 {r : List Nat} (h : ∀ x, x ∈ r → x < 6) (hl : r.length ≤ 10) : lN (qc_x r) >>> ((32 : Int32).toInt64 &&& 63) = lN r.length := by
  have h1 := qc_lt 8 r (qc_8 h)
  have h2 : 8 ^ r.length ≤ 8 ^ 10 := Nat.pow_le_pow_right (by omega) hl
  have h3 : (8 : Nat) ^ 10 = 1073741824 := by decide
  have e : qc_x r / 4294967296 = r.length := by
    unfold qc_x
    exact qc_divm _ _ _ (by omega)
  have hlt : qc_x r < 2 ^ 62 := by unfold qc_x; omega
  rw [pf_shr (d := 32) (by decide) hlt, show (2 : Nat) ^ 32 = 4294967296 from rfl, e]
theorem xr_jn1 (s x y c i : Nat) (hs : s < 120) (hx : x < 120) (hy : y < 120) (hsx : x ≠ s) (hsy : y ≠ s) (hc : c ≤ 2) (xs ys : List (List Nat)) (hi : i < xs.length) (hxl : ∀ a, a ∈ xs → a.length ≤ 5) (hyl : ∀ b, b ∈ ys → b.length ≤ 5) (hc7 : c ≠ 0 → ∀ a b, a ∈ xs → b ∈ ys → a.length + b.length ≤ 7) (o : Option (List (List Nat))) (rw0 : Nat → Int64) (rc0 : Nat → Int32) (hX : qx_set rw0 rc0 x (some xs)) (hY : qx_set rw0 rc0 y (some ys)) (n5 : Int32) (post : SX → Prop) (J : Int32 → Int32 → Int32 → Int32 → Int32 → Int32 → Int32 → Int32 → Int32 → Int32 → (Nat → Int32) → (Nat → Int32) → (Nat → Int32) → (Nat → Int32) → (Nat → Int32) → (Nat → Int32) → (Nat → Int32) → (Nat → Int32) → (Nat → Int32) → (Nat → Int32) → (Nat → Int32) → (Nat → Int32) → (Nat → Int32) → (Nat → Int32) → (Nat → Int32) → (Nat → Int32) → (Nat → Int32) → (Nat → Int32) → (Nat → Int32) → (Nat → Int64) → (Nat → Int32) → (Nat → Int32) → (Nat → Int32) → (Nat → Int64) → (Nat → Int32) → (Nat → Int32) → Prop)
  (hp : ∀ (rw1 : Nat → Int64) (rc1 : Nat → Int32), qx_set rw1 rc1 s (qr_jall c o (qr_pr (xs.take (i + 1)) ys)) → qx_kk s rw0 rc0 rw1 rc1 → J (nI (i + 1)) xwc xdc xdm xsc xtc xnc xmc xbr xwt xch xtl xwf xdn xdf xdl xss xtk xta xtb xnk xna xnb xnl xnr xns xfa xfs xfi rw1 rc1 xcl xhd xre xhi xwo) :
  ∀ (N j : Nat) (rw1 : Nat → Int64) (rc1 : Nat → Int32), j ≤ ys.length → ys.length - j < N → qx_set rw1 rc1 s (qr_jall c o (qr_pr (xs.take i) ys ++ (ys.take j).map (fun b => xs[i] ++ b))) → qx_kk s rw0 rc0 rw1 rc1 → wX_addJoined_29 post J (nI s) (nI x) (nI y) (nI c) n5 (nI ys.length) (nI i) N (nI j) xwc xdc xdm xsc xtc xnc xmc xbr xwt xch xtl xwf xdn xdf xdl xss xtk xta xtb xnk xna xnb xnl xnr xns xfa xfs xfi rw1 rc1 xcl xhd xre xhi xwo := by
  intro N
  have hxl8 := hX.1
  have hyl8 := hY.1
  induction N with
  | zero => intro j rw1 rc1 h1 h2; omega
  | succ N ih =>
    intro j rw1 rc1 h1 h2 h3 h4
    refine pk_le ys.length j (fun hle => ?_) (fun hlt => ?_)
    · rw [List.take_of_length_le hle, ← qr_pr_s xs ys i hi] at h3
      exact nm_r (nI_1 i) (hp rw1 rc1 h3 h4)
    · obtain ⟨_, bx2, _, bx4⟩ := h4 x (some xs) hsx hX
      obtain ⟨_, by2, _, by4⟩ := h4 y (some ys) hsy hY
      have hgx := List.getElem?_eq_getElem hi
      have hgy := List.getElem?_eq_getElem hlt
      have hmx := List.getElem_mem hi
      have hmy := List.getElem_mem hlt
      have rx := bx2 _ hmx
      have ry := by2 _ hmy
      have lx := hxl _ hmx
      have ly := hyl _ hmy
      have hin : ∀ z, z ∈ xs[i] ++ ys[j] → z < 6 := fun z hz => (List.mem_append.mp hz).elim (rx.2 z) (ry.2 z)
      have hlen : (xs[i] ++ ys[j]).length = xs[i].length + ys[j].length := List.length_append
      have hfold : ∀ o', qr_jall c o' (qr_pr (xs.take i) ys ++ (ys.take (j + 1)).map (fun b => xs[i] ++ b)) = qr_jadd c (qr_jall c o' (qr_pr (xs.take i) ys ++ (ys.take j).map (fun b => xs[i] ++ b))) (xs[i] ++ ys[j]) := by
        intro o'
        unfold qr_jall
        rw [List.take_succ_eq_append_getElem hlt, List.map_append, ← List.append_assoc, List.foldl_append]
        rfl
      refine ⟨pk_in (x * 8 + i) 960 (by omega) (xr_ix x i), pk_in (y * 8 + j) 960 (by omega) (xr_ix y j), ?_⟩
      rw [xr_ixc (by omega), xr_ixc (by omega), bx4 i _ hgx, by4 j _ hgy]
      refine xr_join rx ry _ _ rfl rfl (by omega) _ ?_
      -- the row is cut and added
      have fin : qr_rw (xs[i] ++ ys[j]) → ¬ (c = 0 ∧ 5 < (xs[i] ++ ys[j]).length) → wX_addJoined_90 post J (wX_addJoined_29 post J (nI s) (nI x) (nI y) (nI c) n5 (nI ys.length) (nI i) N) (nI s) (nI x) (nI y) (nI c) n5 (nI ys.length) (nI i) (nI j) (lN (qc_x (xs[i] ++ ys[j]))) xwc xdc xdm xsc xtc xnc xmc xbr xwt xch xtl xwf xdn xdf xdl xss xtk xta xtb xnk xna xnb xnl xnr xns xfa xfs xfi rw1 rc1 xcl xhd xre xhi xwo := by
        intro hr hn
        refine xr_cut hr c hc _ rfl _ rfl _ ?_
        refine xr_add s hs _ h3 (qr_cut c (xs[i] ++ ys[j])) (qr_cut_rw hr) _ rfl _ rfl _ (fun rw2 rc2 g1 g2 => nm_r (nI_1 j) (ih (j + 1) rw2 rc2 (by omega) (by omega) ?_ (fun s' o' hs' h => g2 s' o' hs' (h4 s' o' hs' h))))
        rw [hfold]
        unfold qr_jadd
        rw [if_neg hn]
        exact g1
      refine pk_eq c 0 (fun e0 => ?_) (fun e0 => fin ⟨by have := hc7 e0 _ _ hmx hmy; omega, hin⟩ (fun h => e0 h.1))
      rw [xr_len10 hin (by omega)]
      refine ek_if (pk_lLE (a := (xs[i] ++ ys[j]).length) (b := 5) (by omega) (by omega)) (fun h5 => fin ⟨by omega, hin⟩ (fun h => by omega)) (fun h5 => ⟨pk_in s 120 hs, nm_e ?_⟩)
      rw [nI_clamp (by omega)]
      refine nm_e (nm_e (br_t (by rw [e0]; rfl) ?_))
      have h9 : qx_set rw1 (upd rc1 s 9) s none := pk_us
      refine And.intro (pk_in s 120 hs) (nm_r (e' := 9) (by rw [nI_clamp (by omega)]; exact pk_us) (br_f (by decide) (nm_r (nI_1 j) (ih (j + 1) rw1 (upd rc1 s 9) (by omega) (by omega) ?_ (fun s' o' hs' h => qx_set_cg (h4 s' o' hs' h) (pk_un hs') (fun _ _ => rfl))))))
      rw [hfold]
      unfold qr_jadd
      rw [if_pos ⟨e0, by omega⟩]
      exact h9
theorem xr_jn (s x y c : Nat) (hs : s < 120) (hx : x < 120) (hy : y < 120) (hsx : x ≠ s) (hsy : y ≠ s) (hc : c ≤ 2) (xs ys : List (List Nat)) (hxl : ∀ a, a ∈ xs → a.length ≤ 5) (hyl : ∀ b, b ∈ ys → b.length ≤ 5) (hc7 : c ≠ 0 → ∀ a b, a ∈ xs → b ∈ ys → a.length + b.length ≤ 7) (o : Option (List (List Nat))) (hset : qx_set xrw xrc s o) (hX : qx_set xrw xrc x (some xs)) (hY : qx_set xrw xrc y (some ys)) (xs' xx' xy' xc' : Int32) (es : xs' = nI s) (ex : xx' = nI x) (ey : xy' = nI y) (ec : xc' = nI c) (post : SX → Prop)
  (hp : ∀ (rw1 : Nat → Int64) (rc1 : Nat → Int32), qx_set rw1 rc1 s (qr_jall c o (qr_pr xs ys)) → qx_kk s xrw xrc rw1 rc1 → post (xwc, xdc, xdm, xsc, xtc, xnc, xmc, xbr, xwt, xch, xtl, xwf, xdn, xdf, xdl, xss, xtk, xta, xtb, xnk, xna, xnb, xnl, xnr, xns, xfa, xfs, xfi, rw1, rc1, xcl, xhd, xre, xhi, xwo)) : wpX_addJoined post (xwc, xdc, xdm, xsc, xtc, xnc, xmc, xbr, xwt, xch, xtl, xwf, xdn, xdf, xdl, xss, xtk, xta, xtb, xnk, xna, xnb, xnl, xnr, xns, xfa, xfs, xfi, xrw, xrc, xcl, xhd, xre, xhi, xwo) xs' xx' xy' xc' := by
  subst es; subst ex; subst ey; subst ec
  have hxl8 := hX.1
  have key : ∀ (N i : Nat) (rw1 : Nat → Int64) (rc1 : Nat → Int32), i ≤ xs.length → xs.length - i < N → qx_set rw1 rc1 s (qr_jall c o (qr_pr (xs.take i) ys)) → qx_kk s xrw xrc rw1 rc1 → wX_addJoined_19 post (nI s) (nI x) (nI y) (nI c) (nI xs.length) (nI ys.length) N (nI i) xwc xdc xdm xsc xtc xnc xmc xbr xwt xch xtl xwf xdn xdf xdl xss xtk xta xtb xnk xna xnb xnl xnr xns xfa xfs xfi rw1 rc1 xcl xhd xre xhi xwo := by
    intro N
    induction N with
    | zero => intro i rw1 rc1 h1 h2; omega
    | succ N ih =>
      intro i rw1 rc1 h1 h2 h3 h4
      refine pk_le xs.length i (fun hle => ?_) (fun hlt => ⟨ys.length + 1, ?_⟩)
      · rw [List.take_of_length_le hle] at h3
        exact hp rw1 rc1 h3 h4
      · refine xr_jn1 s x y c i hs hx hy hsx hsy hc xs ys hlt hxl hyl hc7 o xrw xrc hX hY _ post _ (fun rw2 rc2 g1 g2 => ih (i + 1) rw2 rc2 (by omega) (by omega) g1 g2) (ys.length + 1) 0 rw1 rc1 (by omega) (by omega) ?_ h4
        rw [List.take_zero, List.map_nil, List.append_nil]
        exact h3
  have cx : (nI x).toNatClampNeg = x := nI_clamp (by omega)
  have cy : (nI y).toNatClampNeg = y := nI_clamp (by omega)
  refine And.intro (pk_in x 120 hx) (nm_r (e' := nI xs.length) (by rw [cx]; exact hX.2.2.1) (And.intro (pk_in y 120 hy) (nm_r (e' := nI ys.length) (by rw [cy]; exact hY.2.2.1) ⟨xs.length + 1, ?_⟩)))
  exact key (xs.length + 1) 0 xrw xrc (by omega) (by omega) hset (fun _ _ _ h => h)
theorem xr_drop (s : Nat) (hs : s < 120) (o : Option (List (List Nat))) (hset : qx_set xrw xrc s o) (xs' : Int32) (es : xs' = nI s) (post : SX → Prop)
  (hp : ∀ (rc1 : Nat → Int32), qx_set xrw rc1 s (some (o.getD [])) → qx_kk s xrw xrc xrw rc1 → post (xwc, xdc, xdm, xsc, xtc, xnc, xmc, xbr, xwt, xch, xtl, xwf, xdn, xdf, xdl, xss, xtk, xta, xtb, xnk, xna, xnb, xnl, xnr, xns, xfa, xfs, xfi, xrw, rc1, xcl, xhd, xre, xhi, xwo)) : wpX_dropTooMany post (xwc, xdc, xdm, xsc, xtc, xnc, xmc, xbr, xwt, xch, xtl, xwf, xdn, xdf, xdl, xss, xtk, xta, xtb, xnk, xna, xnb, xnl, xnr, xns, xfa, xfs, xfi, xrw, xrc, xcl, xhd, xre, xhi, xwo) xs' := by
  subst es
  have cs : (nI s).toNatClampNeg = s := nI_clamp (by omega)
  refine And.intro (pk_in s 120 hs) ?_
  rw [cs]
  cases o with
  | none =>
    rw [show xrc s = 9 from hset]
    refine br_f (by decide) ⟨pk_in s 120 hs, nm_e (hp _ ?_ (fun s' o' hs' h => qx_set_cg h (pk_un hs') (fun _ _ => rfl)))⟩
    exact ⟨by simp, (fun r hr => nomatch hr), pk_us, (fun k r hk => nomatch hk)⟩
  | some l =>
    rw [hset.2.2.1]
    exact br_t (nI_le (b := 8) hset.1 (by decide)) (hp xrc hset (fun _ _ _ h => h))
theorem xr_lim (s : Nat) (hs : s < 120) (o : Option (List (List Nat))) (hset : qx_set xrw xrc s o) (xs' : Int32) (es : xs' = nI s) (post : SX → Prop)
  (hp : ∀ (rw1 : Nat → Int64) (rc1 : Nat → Int32), qx_set rw1 rc1 s (some (qr_le o)) → qx_kk s xrw xrc rw1 rc1 → post (xwc, xdc, xdm, xsc, xtc, xnc, xmc, xbr, xwt, xch, xtl, xwf, xdn, xdf, xdl, xss, xtk, xta, xtb, xnk, xna, xnb, xnl, xnr, xns, xfa, xfs, xfi, rw1, rc1, xcl, xhd, xre, xhi, xwo)) : wpX_limitEnds post (xwc, xdc, xdm, xsc, xtc, xnc, xmc, xbr, xwt, xch, xtl, xwf, xdn, xdf, xdl, xss, xtk, xta, xtb, xnk, xna, xnb, xnl, xnr, xns, xfa, xfs, xfi, xrw, xrc, xcl, xhd, xre, xhi, xwo) xs' := by
  subst es
  have cs : (nI s).toNatClampNeg = s := nI_clamp (by omega)
  have hs0 : qx_set xrw (upd xrc s 0) s (some []) := ⟨by simp, (fun r hr => nomatch hr), pk_us, (fun k r hk => nomatch hk)⟩
  have fin : (∀ (rw1 : Nat → Int64) (rc1 : Nat → Int32), qx_set rw1 rc1 s (some [[]]) → qx_kk s xrw xrc rw1 rc1 → post (xwc, xdc, xdm, xsc, xtc, xnc, xmc, xbr, xwt, xch, xtl, xwf, xdn, xdf, xdl, xss, xtk, xta, xtb, xnk, xna, xnb, xnl, xnr, xns, xfa, xfs, xfi, rw1, rc1, xcl, xhd, xre, xhi, xwo)) → wX_limitEnds_20 post (nI s) xwc xdc xdm xsc xtc xnc xmc xbr xwt xch xtl xwf xdn xdf xdl xss xtk xta xtb xnk xna xnb xnl xnr xns xfa xfs xfi xrw xrc xcl xhd xre xhi xwo := by
    intro hp'
    refine ⟨pk_in s 120 hs, nm_e ?_⟩
    rw [cs]
    refine xr_add s hs (some []) hs0 [] ⟨by simp, (fun x hx => nomatch hx)⟩ _ rfl _ rfl _ (fun rw1 rc1 g1 g2 => hp' rw1 rc1 g1 (fun s' o' hs' h => g2 s' o' hs' (qx_set_cg h (pk_un hs') (fun _ _ => rfl))))
  refine And.intro (pk_in s 120 hs) ?_
  rw [cs]
  match o, hset, hp with
  | none, hset, hp =>
    rw [show xrc s = 9 from hset]
    refine br_f (by decide) ⟨pk_in s 120 hs, br_f (by decide) (fin hp)⟩
  | some [], hset, hp =>
    rw [hset.2.2.1]
    exact br_t rfl (fin hp)
  | some (r :: l), hset, hp =>
    have hl := hset.1
    rw [hset.2.2.1]
    refine br_f (nI_ne0 (by simp) (by omega)) ⟨pk_in s 120 hs, br_t (nI_le (b := 8) hl (by decide)) (hp xrw xrc hset (fun _ _ _ h => h))⟩
end
