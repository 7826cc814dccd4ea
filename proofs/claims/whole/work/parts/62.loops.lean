/-! the search over all files -/
noncomputable def qs_f (v : qv_T) (o : qf_X) (f : Nat) : List (Nat × Nat × Nat × Nat) := match o with
  | none => []
  | some t => qh_file v f t
noncomputable def qs_H (v : qv_T) (now : Nat → qf_X) : Nat → List (Nat × Nat × Nat × Nat)
  | 0 => []
  | k + 1 => qs_H v now k ++ qs_f v (now k) k
def qs_op (v : qv_T) (now : Nat → qf_X) (f : Nat) : Prop := ∃ t, now f = some t ∧ v.2.1.2.2.2 (qt_T t)
noncomputable def qs_bl (v : qv_T) (now : Nat → qf_X) : Nat → Nat
  | 0 => 0
  | k + 1 => qs_bl v now k + (@ite Nat (qs_op v now k) (Classical.propDecidable _) ((((now k).getD []).length + 7) / 8) 0)
theorem qs_bl_y {v : qv_T} {now : Nat → qf_X} {k : Nat} {t : List Nat} (ht : now k = some t) (h : v.2.1.2.2.2 (qt_T t)) : qs_bl v now (k + 1) = qs_bl v now k + (t.length + 7) / 8 := by
  have e : qs_bl v now (k + 1) = qs_bl v now k + (@ite Nat (qs_op v now k) (Classical.propDecidable _) ((((now k).getD []).length + 7) / 8) 0) := rfl
  rw [e, if_pos ⟨t, ht, h⟩, ht]
  rfl
theorem qs_bl_n {v : qv_T} {now : Nat → qf_X} {k : Nat} (h : ¬ qs_op v now k) : qs_bl v now (k + 1) = qs_bl v now k := by
  have e : qs_bl v now (k + 1) = qs_bl v now k + (@ite Nat (qs_op v now k) (Classical.propDecidable _) ((((now k).getD []).length + 7) / 8) 0) := rfl
  rw [e, if_neg h]
  rfl
theorem qs_op_n {v : qv_T} {now : Nat → qf_X} {k : Nat} (h : now k = none) : ¬ qs_op v now k := fun ⟨t, e, _⟩ => by rw [h] at e; exact nomatch e
theorem qs_op_f {v : qv_T} {now : Nat → qf_X} {k : Nat} {t : List Nat} (ht : now k = some t) (h : ¬ v.2.1.2.2.2 (qt_T t)) : ¬ qs_op v now k := fun ⟨t', e, h'⟩ => by
  rw [ht] at e
  cases e
  exact h h'
theorem qs_H_none {v : qv_T} {now : Nat → qf_X} {k : Nat} (h : now k = none) : qs_H v now (k + 1) = qs_H v now k := by
  show qs_H v now k ++ qs_f v (now k) k = _
  rw [h]
  exact List.append_nil _
theorem qs_H_some {v : qv_T} {now : Nat → qf_X} {k : Nat} {t : List Nat} (h : now k = some t) : qs_H v now (k + 1) = qs_H v now k ++ qh_file v k t := by
  show qs_H v now k ++ qs_f v (now k) k = _
  rw [h]
  rfl
theorem qs_len (v : qv_T) (now : Nat → qf_X) (hno : ∀ f, f < 10 → qf_o (now f)) : ∀ k, k ≤ 10 → (qs_H v now k).length ≤ 1681 * k
  | 0, _ => Nat.le_refl _
  | k + 1, hk => by
    have ih := qs_len v now hno k (by omega)
    match h : now k with
    | none => rw [qs_H_none h]; omega
    | some t =>
      rw [qs_H_some h, List.length_append]
      have ht := (hno k (by omega) t h).1
      have := qh_file_len v k t ht (t.length + 1) 0 0 0 (by omega)
      have e : (qh_file v k t).length = (qh_sc t (qh_g v k t) (t.length + 1) 0 0 0).length := rfl
      omega
theorem qh_ln_in (E : Nat → Int64) (n : Nat) : ∀ m q x, x ∈ qh_ln E n m q → x.1 ≤ n ∧ x.2 ≤ n
  | 0, _, x, h => nomatch h
  | m + 1, q, x, h => by
    unfold qh_ln at h
    split at h
    · rename_i hq
      split at h
      · exact qh_ln_in E n m _ x h
      · rename_i e he
        rcases List.mem_cons.mp h with z | z
        · subst z
          exact ⟨hq, (qh_last_some _ _ _ he).1⟩
        · exact qh_ln_in E n m _ x z
    · exact nomatch h
theorem qh_sc_in (v : qv_T) (f : Nat) (hf : f < 10) (t : List Nat) (ht : t.length ≤ 40) : ∀ m i b l, i + m = t.length + 1 → l + m ≤ t.length + 1 → ∀ x, x ∈ qh_sc t (qh_g v f t) m i b l → qh_B x
  | 0, _, _, _, _, _, x, h => nomatch h
  | m + 1, i, b, l, hm, hl, x, h => by
    unfold qh_sc at h
    split at h
    · exact qh_sc_in v f hf t ht m (i + 1) b l (by omega) (by omega) x h
    · rcases List.mem_append.mp h with z | z
      · obtain ⟨y, hy, rfl⟩ := List.mem_map.mp z
        have := qh_ln_in _ _ _ _ y hy
        exact ⟨hf, by show l ≤ 40; omega, by show y.1 ≤ 40; omega, by show y.2 ≤ 40; omega⟩
      · exact qh_sc_in v f hf t ht m (i + 1) (i + 1) (l + 1) (by omega) (by omega) x z
theorem qs_inb (v : qv_T) (now : Nat → qf_X) (hno : ∀ f, f < 10 → qf_o (now f)) : ∀ k, k ≤ 10 → ∀ x, x ∈ qs_H v now k → qh_B x
  | 0, _, x, h => nomatch h
  | k + 1, hk, x, h => by
    match hn : now k with
    | none =>
      rw [qs_H_none hn] at h
      exact qs_inb v now hno k (by omega) x h
    | some t =>
      rw [qs_H_some hn] at h
      rcases List.mem_append.mp h with z | z
      · exact qs_inb v now hno k (by omega) x z
      · exact qh_sc_in v k (by omega) t (hno k (by omega) t hn).1 (t.length + 1) 0 0 0 (by omega) (by omega) x z
def qs_wo (v : qv_T) (now : Nat → qf_X) (wo : Nat → Int32) (f : Nat) : Prop := ∀ g, g < 10 → (g < f ∧ qs_op v now g → wo g = 1) ∧ (¬ (g < f ∧ qs_op v now g) → wo g = 0)
theorem qs_wo_n {v : qv_T} {now : Nat → qf_X} {wo : Nat → Int32} {f : Nat} (h : qs_wo v now wo f) (hn : ¬ qs_op v now f) : qs_wo v now wo (f + 1) := by
  intro g hg
  obtain ⟨a, b⟩ := h g hg
  refine ⟨fun ⟨g1, g2⟩ => a ⟨?_, g2⟩, fun hh => b (fun ⟨g1, g2⟩ => hh ⟨by omega, g2⟩)⟩
  rcases Nat.lt_or_ge g f with z | z
  · exact z
  · have : g = f := by omega
    subst this
    exact absurd g2 hn
theorem qs_wo_y {v : qv_T} {now : Nat → qf_X} {wo : Nat → Int32} {f : Nat} (h : qs_wo v now wo f) (hn : qs_op v now f) : qs_wo v now (upd wo f 1) (f + 1) := by
  intro g hg
  obtain ⟨a, b⟩ := h g hg
  by_cases z : g = f
  · subst z
    refine ⟨fun _ => pk_us, fun hh => absurd ⟨by omega, hn⟩ hh⟩
  · rw [pk_un z]
    exact ⟨fun ⟨g1, g2⟩ => a ⟨by omega, g2⟩, fun hh => b (fun ⟨g1, g2⟩ => hh ⟨by omega, g2⟩)⟩
section
variable {xwc xdc xdm xsc xtc xnc xmc xbr xwt : Int32} {xch xtl xwf xdn xdf xdl xss xtk xta xtb xnk xna xnb xnl xnr xns xfa xfs xfi xrc xcl xhd xhi xwo : Nat → Int32} {xrw xre : Nat → Int64}
theorem xl_files (now : Nat → qf_X) (hno : ∀ f, f < 10 → qf_o (now f)) (hs : ∀ f, f < 10 → qx_slot xch xtl f (now f)) (m root : Nat) (D : Nat → qv_T) (hm : m ≤ 33) (hr : root < m) (hnc : xnc = nI m) (hok : qn_ok qv_lf qv_un qv_bi xnk xna xnb xnl xnr m D) (hv : ∀ j, j < m → qv_ok (D j)) (hin : ∀ j, j < m → qx_in xrw xrc j (D j).2.1) (post : Int32 → SX → Prop)
  (hp : ∀ (mc' br' : Int32) (cl' hd' hi' wo' : Nat → Int32) (re' : Nat → Int64), qx_H (qs_H (D root) now 10) hi' mc' → qs_wo (D root) now wo' 10 → br' = nI (qs_bl (D root) now 10) → post mc' (xwc, xdc, xdm, xsc, xtc, xnc, mc', br', xwt, xch, xtl, xwf, xdn, xdf, xdl, xss, xtk, xta, xtb, xnk, xna, xnb, xnl, xnr, xns, xfa, xfs, xfi, xrw, xrc, cl', hd', re', hi', wo')) :
  ∀ (N f : Nat) (mc' br' : Int32) (cl' hd' hi' wo' : Nat → Int32) (re' : Nat → Int64), f ≤ 10 → 10 - f < N → qx_H (qs_H (D root) now f) hi' mc' → qs_wo (D root) now wo' f → br' = nI (qs_bl (D root) now f) → wX_search_61 post (nI root) N (nI f) xwc xdc xdm xsc xtc xnc mc' br' xwt xch xtl xwf xdn xdf xdl xss xtk xta xtb xnk xna xnb xnl xnr xns xfa xfs xfi xrw xrc cl' hd' re' hi' wo' := by
  intro N
  induction N with
  | zero => intro f mc' br' cl' hd' hi' wo' re' h1 h2; omega
  | succ N ih =>
    intro f mc' br' cl' hd' hi' wo' re' h1 h2 h3 h4 h5
    refine pk_le 10 f (fun hle => ?_) (fun hlt => ?_)
    · have e : f = 10 := by omega
      subst e
      exact hp mc' br' cl' hd' hi' wo' re' h3 h4 h5
    · have hlen := qs_len (D root) now hno f (by omega)
      refine xs_there f hlt (now f) (hno f hlt) (hs f hlt) _ (fun hn => br_t rfl (nm_r (nI_1 f) (ih (f + 1) mc' br' cl' hd' hi' wo' re' (by omega) (by omega) ?_ (qs_wo_n h4 (qs_op_n hn)) ?_))) (fun t ht => br_f (by decide) ?_)
      · rw [qs_H_none hn]; exact h3
      · rw [qs_bl_n (qs_op_n hn)]; exact h5
      · have hqt := hno f hlt t ht
        have hst := hs f hlt
        rw [ht] at hst
        refine xc_holds f hlt t hqt hst m root D hm hr hnc hok (fun j hj => (hv j hj).1) hin _ (fun hc hd2 cl2 => br_f (by decide) ?_) (fun hc hd2 cl2 => br_t rfl (nm_r (nI_1 f) (ih (f + 1) mc' br' cl2 hd2 hi' wo' re' (by omega) (by omega) ?_ (qs_wo_n h4 (qs_op_f ht hc)) ?_)))
        · have l40 := hqt.1
          have cf : (nI f).toNatClampNeg = f := nI_clamp (by omega)
          have eb : br' + ((xtl f + 8) - 1) / 8 = nI (qs_bl (D root) now (f + 1)) := by
            rw [qs_bl_y ht hc, h5, hst.1, show (8 : Int32) = nI 8 from rfl, nI_add, show t.length + 8 = t.length + 7 + 1 by omega, nI_pred, pk_div (by omega) (by omega) (by omega), nI_add]
          refine ⟨pk_in f 10 hlt, nm_e ⟨pk_in f 91 (by omega), by decide, nm_r (e' := nI (qs_bl (D root) now (f + 1))) (by rw [cf]; exact eb) ?_⟩⟩
          rw [cf, xs_b1]
          refine xf_file f hlt t hqt hst m root D hm hr hnc hok hv _ h3 (by omega) _ (fun mc2 hi2 re2 h6 => nm_r (nI_1 f) (ih (f + 1) mc2 _ cl2 hd2 hi2 _ re2 (by omega) (by omega) ?_ (qs_wo_y h4 ⟨t, ht, hc⟩) rfl))
          rw [qs_H_some ht]
          exact h6
        · rw [qs_H_some ht, qh_file_nil (hv root hr) f hqt.2 hc, List.append_nil]
          exact h3
        · rw [qs_bl_n (qs_op_f ht hc)]; exact h5
theorem xl_learn (now : Nat → qf_X) (hno : ∀ f, f < 10 → qf_o (now f)) (hs : ∀ f, f < 10 → qx_slot xch xtl f (now f)) (m root : Nat) (D : Nat → qv_T) (hm : m ≤ 33) (hr : root < m) (hnc : xnc = nI m) (hok : qn_ok qv_lf qv_un qv_bi xnk xna xnb xnl xnr m D) (hv : ∀ j, j < m → qv_ok (D j)) (h0H : qx_H [] xhi xmc) (h0w : qs_wo (D root) now xwo 0) (h0b : xbr = 0) (post : Int32 → SX → Prop)
  (hp : ∀ (mc' br' : Int32) (rc' cl' hd' hi' wo' : Nat → Int32) (rw' re' : Nat → Int64), qx_H (qs_H (D root) now 10) hi' mc' → qs_wo (D root) now wo' 10 → br' = nI (qs_bl (D root) now 10) → post mc' (xwc, xdc, xdm, xsc, xtc, xnc, mc', br', xwt, xch, xtl, xwf, xdn, xdf, xdl, xss, xtk, xta, xtb, xnk, xna, xnb, xnl, xnr, xns, xfa, xfs, xfi, rw', rc', cl', hd', re', hi', wo')) :
  ∃ N : Nat, wX_search_40 post (nI root) N 0 xwc xdc xdm xsc xtc xnc xmc xbr xwt xch xtl xwf xdn xdf xdl xss xtk xta xtb xnk xna xnb xnl xnr xns xfa xfs xfi xrw xrc xcl xhd xre xhi xwo := by
  have key : ∀ (N n : Nat) (rw' : Nat → Int64) (rc' : Nat → Int32), n ≤ m → m - n < N → (∀ j, j < n → qx_in rw' rc' j (D j).2.1) → wX_search_40 post (nI root) N (nI n) xwc xdc xdm xsc xtc xnc xmc xbr xwt xch xtl xwf xdn xdf xdl xss xtk xta xtb xnk xna xnb xnl xnr xns xfa xfs xfi rw' rc' xcl xhd xre xhi xwo := by
    intro N
    induction N with
    | zero => intro n rw' rc' h1 h2; omega
    | succ N ih =>
      intro n rw' rc' h1 h2 h3
      refine pk_le m n (fun hle => ⟨11, ?_⟩) (fun hlt => ?_) hnc rfl
      · refine xl_files now hno hs m root D hm hr hnc hok hv (fun j hj => h3 j (by omega)) post (fun mc' br' cl' hd' hi' wo' re' g1 g2 g3 => hp mc' br' rc' cl' hd' hi' wo' rw' re' g1 g2 g3) 11 0 xmc xbr xcl xhd xhi xwo xre (by omega) (by omega) h0H h0w h0b
      · exact xn_learn n m D hm hlt hok (fun j hj => (hv j hj).1) h3 _ (fun rw1 rc1 h4 => nm_r (nI_1 n) (ih (n + 1) rw1 rc1 (by omega) (by omega) h4))
  exact ⟨m + 1, key (m + 1) 0 xrw xrc (by omega) (by omega) (fun j hj => absurd hj (by omega))⟩
theorem xl_forget (post : SX → Prop) (hp : ∀ wo' : Nat → Int32, (∀ g, g < 10 → wo' g = 0) → post (xwc, xdc, xdm, xsc, xtc, xnc, 0, 0, xwt, xch, xtl, xwf, xdn, xdf, xdl, xss, xtk, xta, xtb, xnk, xna, xnb, xnl, xnr, xns, xfa, xfs, xfi, xrw, xrc, xcl, xhd, xre, xhi, wo')) : wpX_forgetFound post (xwc, xdc, xdm, xsc, xtc, xnc, xmc, xbr, xwt, xch, xtl, xwf, xdn, xdf, xdl, xss, xtk, xta, xtb, xnk, xna, xnb, xnl, xnr, xns, xfa, xfs, xfi, xrw, xrc, xcl, xhd, xre, xhi, xwo) := by
  have key : ∀ (N i : Nat) (wo' : Nat → Int32), i ≤ 10 → 10 - i < N → (∀ g, g < i → wo' g = 0) → wX_forgetFound_12 post xwc xdc xdm xsc xtc xnc 0 0 xwt N (nI i) xch xtl xwf xdn xdf xdl xss xtk xta xtb xnk xna xnb xnl xnr xns xfa xfs xfi xrw xrc xcl xhd xre xhi wo' := by
    intro N
    induction N with
    | zero => intro i wo' h1 h2; omega
    | succ N ih =>
      intro i wo' h1 h2 h3
      refine pk_le 10 i (fun hle => hp wo' (fun g hg => h3 g (by omega))) (fun hlt => ⟨pk_in i 10 hlt, nm_e (nm_r (nI_1 i) ?_)⟩)
      rw [nI_clamp (by omega), xs_b0]
      refine ih (i + 1) _ (by omega) (by omega) (fun g hg => ?_)
      by_cases z : g = i
      · subst z; exact pk_us
      · exact (pk_un z).trans (h3 g (by omega))
  exact ⟨11, key 11 0 xwo (by omega) (by omega) (fun g hg => absurd hg (by omega))⟩
end
def qs_od (v : qv_T) (now : Nat → qf_X) (od : Int32) (f : Nat) : Prop := ∀ g, g < 10 → (bt od g = true ↔ g < f ∧ qs_op v now g)
section
variable {ywa ydd ynd yns yma ynt yno yrc yfo ybl yod ywr : Int32} {yan yab yac yad yal yabl yacl yacf ynu yfi ypa ysz yli ytx yki yf1 yf2 yo yoa yob yit yss ymo yst ymy ycl yrw yow yhi yla : Nat → Int32} {yen : Nat → Int64}
theorem yl_files (now : Nat → qf_X) (hno : ∀ f, f < 10 → qf_o (now f)) (hs : ∀ f, f < 10 → qx_slot yan yal f (now f)) (k0 : Nat) (hk0 : k0 ≤ 33) (hyno : yno = nI k0) (root : qv_T) (P : Prop) (hO : qp_YO qv_lf qv_un qv_bi qv_big yo yoa yob k0 [root] P) (x : Int32) (hx : qk_cl now x root.2.1.2.2.2) (post : Int32 → SY → Prop)
  (hp : ∀ (fo' bl' od' : Int32) (hi' : Nat → Int32) (en' : Nat → Int64), qy_H (qs_H root now 10) hi' fo' → qs_od root now od' 10 → bl' = nI (qs_bl root now 10) → post fo' (ywa, ydd, ynd, yns, yma, ynt, yno, yrc, fo', bl', od', ywr, yan, yab, yac, yad, yal, yabl, yacl, yacf, ynu, yfi, ypa, ysz, yli, ytx, yki, yf1, yf2, yo, yoa, yob, yit, yss, ymo, yst, ymy, ycl, yrw, yow, en', hi', yla)) :
  ∀ (N f : Nat) (fo' bl' od' : Int32) (hi' : Nat → Int32) (en' : Nat → Int64), f ≤ 10 → 10 - f < N → qy_H (qs_H root now f) hi' fo' → qs_od root now od' f → bl' = nI (qs_bl root now f) → wY_search_54 post x N (nI f) ywa ydd ynd yns yma ynt yno yrc fo' bl' od' ywr yan yab yac yad yal yabl yacl yacf ynu yfi ypa ysz yli ytx yki yf1 yf2 yo yoa yob yit yss ymo yst ymy ycl yrw yow en' hi' yla := by
  intro N
  induction N with
  | zero => intro f fo' bl' od' hi' en' h1 h2; omega
  | succ N ih =>
    intro f fo' bl' od' hi' en' h1 h2 h3 h4 h5
    refine pk_le 10 f (fun hle => ?_) (fun hlt => ⟨pk_in f 10 hlt, ?_⟩)
    · have e : f = 10 := by omega
      subst e
      exact hp fo' bl' od' hi' en' h3 h4 h5
    · have hlen := qs_len root now hno f (by omega)
      have cf : (nI f).toNatClampNeg = f := nI_clamp (by omega)
      have hst := hs f hlt
      have odn : ¬ qs_op root now f → qs_od root now od' (f + 1) := by
        intro hn g hg
        rw [h4 g hg]
        refine ⟨fun ⟨a, b⟩ => ⟨by omega, b⟩, fun ⟨a, b⟩ => ⟨?_, b⟩⟩
        rcases Nat.lt_or_ge g f with z | z
        · exact z
        · have : g = f := by omega
          subst this
          exact absurd b hn
      match hnf : now f with
      | none =>
        rw [hnf] at hst
        have hst' : yal f = -1 := hst
        rw [cf, hst']
        refine br_f (by decide) (nm_r (nI_1 f) (ih (f + 1) fo' bl' od' hi' en' (by omega) (by omega) ?_ (odn (qs_op_n hnf)) ?_))
        · rw [qs_H_none hnf]; exact h3
        · rw [qs_bl_n (qs_op_n hnf)]; exact h5
      | some t =>
        rw [hnf] at hst
        have hqt := hno f hlt t hnf
        have l40 := hqt.1
        rw [cf, hst.1]
        refine br_t (nI_pos' (by omega)) ?_
        refine ek_if ((qb_s1 x f (by omega)).trans (hx f t hlt hnf)) (fun hc => ?_) (fun hc => ?_)
        · refine nm_e ⟨pk_in f 10 hlt, by decide, nm_r (e' := nI (qs_bl root now (f + 1))) ?_ ?_⟩
          · rw [qs_bl_y hnf hc, h5, show (7 : Int32) = nI 7 from rfl, nI_add, show (8 : Int32) = nI 8 from rfl, pk_div (by omega) (by omega) (by omega), nI_add]
          · unfold wY_search_114
            refine yf_file f hlt t hqt hst k0 hk0 hyno root P hO _ h3 (by omega) _ (fun fo2 hi2 en2 h6 => nm_r (nI_1 f) (ih (f + 1) fo2 _ _ hi2 en2 (by omega) (by omega) (by rw [qs_H_some hnf]; exact h6) (fun g hg => ?_) rfl))
            rw [b_or, Bool.or_eq_true, h4 g hg, qb_h32 f (by omega) g (by omega), decide_eq_true_eq]
            constructor
            · rintro (⟨a, b⟩ | a)
              · exact ⟨by omega, b⟩
              · subst a; exact ⟨by omega, t, hnf, hc⟩
            · rintro ⟨a, b⟩
              by_cases z : g = f
              · exact Or.inr z
              · exact Or.inl ⟨by omega, b⟩
        · unfold wY_search_114
          refine yf_file f hlt t hqt hst k0 hk0 hyno root P hO _ h3 (by omega) _ (fun fo2 hi2 en2 h6 => nm_r (nI_1 f) (ih (f + 1) fo2 bl' od' hi2 en2 (by omega) (by omega) (by rw [qs_H_some hnf]; exact h6) (odn (qs_op_f hnf hc)) ?_))
          rw [qs_bl_n (qs_op_f hnf hc)]; exact h5
end
theorem qp_wr_nn {V : Type} (lf : Nat → Nat → V) (un : Nat → Nat → Nat → V → V) (bi : Nat → V → V → V) (big : V → Prop) (K A B : Nat → Nat) (nt : Nat) : ∀ m t, t + m ≤ nt → qp_wr lf un bi big K A B nt m t = -1 ∨ ∃ j, j ≤ nt ∧ qp_wr lf un bi big K A B nt m t = nI j
  | 0, t, h => by
    unfold qp_wr
    split
    · exact Or.inl rfl
    · exact Or.inr ⟨nt, Nat.le_refl _, rfl⟩
  | m + 1, t, h => by
    unfold qp_wr
    split
    · exact Or.inr ⟨t, by omega, rfl⟩
    · exact qp_wr_nn lf un bi big K A B nt m (t + 1) (by omega)
