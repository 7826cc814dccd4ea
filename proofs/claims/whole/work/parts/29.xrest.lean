/-! the class: segment, document, at, state -/
section
variable {xwc xdc xdm xsc xtc xnc xmc xbr xwt : Int32} {xch xtl xwf xdn xdf xdl xss xtk xta xtb xnk xna xnb xnl xnr xns xfa xfs xfi xrc xcl xhd xhi xwo : Nat → Int32} {xrw xre : Nat → Int64}
theorem xl_alive1 (docs : List qf_D) (e : Nat) (hd : docs.length ≤ 64) (hdl : qx_dl docs xch xtl xdn xdf xdl) (he : e ≤ docs.length) (post : Int32 → Prop) :
  ∀ (n d a : Nat), d ≤ e → e - d < n → post (nI (a + ql_cl ((docs.drop d).take (e - d)))) → wX_countLive_5 post (nI e) xwc xdc xdm xsc xtc xnc xmc xbr xwt xch xtl xwf xdn xdf xdl xss xtk xta xtb xnk xna xnb xnl xnr xns xfa xfs xfi xrw xrc xcl xhd xre xhi xwo n (nI a) (nI d) := by
  intro n
  induction n with
  | zero => intro d a h1 h2; omega
  | succ n ih =>
    intro d a h1 h2 h3
    refine pk_le e d (fun hle => ?_) (fun hlt => ?_)
    · have e' : e - d = 0 := by omega
      rw [e'] at h3
      exact h3
    · have hlt' : d < docs.length := by omega
      obtain ⟨a1, a2, a3, a4⟩ := hdl d _ (List.getElem?_eq_getElem hlt')
      have cd : (nI d).toNatClampNeg = d := nI_clamp (by omega)
      have e1 : (docs.drop d).take (e - d) = docs[d] :: (docs.drop (d + 1)).take (e - (d + 1)) := by
        rw [List.drop_eq_getElem_cons hlt', show e - d = (e - (d + 1)) + 1 by omega, List.take_succ_cons]
      rw [e1] at h3
      unfold ql_cl at h3
      refine ⟨pk_in d 64 (by omega), ?_⟩
      rw [cd, a3]
      by_cases z : docs[d].2.2.1 = true
      · rw [if_pos z]
        rw [if_pos z, ← Nat.add_assoc] at h3
        exact br_f (by decide) (nm_r (nI_1 a) (nm_r (nI_1 d) (ih (d + 1) (a + 1) (by omega) (by omega) h3)))
      · rw [if_neg z]
        rw [if_neg z, Nat.zero_add] at h3
        exact br_t rfl (nm_r (nI_1 d) (ih (d + 1) a (by omega) (by omega) h3))
theorem xl_segOf1 (segs : List Nat) (j : Nat) (hl : segs.length ≤ 16) (hsum : segs.sum < 1000) (hs : qx_sg segs xss) (hsc : xsc = nI segs.length) (hj : j < segs.sum) (post : Int32 → Prop) (hp : post (nI (qd_seg segs j))) :
  ∀ (n k : Nat), k ≤ segs.length → segs.length - k < n → qd_st k segs ≤ j → wX_segmentOf_4 post (nI j) xwc xdc xdm xsc xtc xnc xmc xbr xwt xch xtl xwf xdn xdf xdl xss xtk xta xtb xnk xna xnb xnl xnr xns xfa xfs xfi xrw xrc xcl xhd xre xhi xwo n (nI (qd_st k segs)) (nI k) := by
  intro n
  induction n with
  | zero => intro k h1 h2; omega
  | succ n ih =>
    intro k h1 h2 h3
    refine pk_le segs.length k (fun hle => ?_) (fun hlt => ?_) hsc
    · have e : k = segs.length := by omega
      rw [e, qd_st_all] at h3
      omega
    · have e1 : nI (qd_st k segs) + xss (nI k).toNatClampNeg = nI (qd_st (k + 1) segs) := by
        rw [nI_clamp (by omega), qx_sg_get hs hlt, nI_add, ← qd_st_s]
      have hle := qd_st_le (segs := segs) (k + 1)
      refine ⟨pk_in k 16 (by omega), nm_r e1 (pk_le (qd_st (k + 1) segs) j (fun h => nm_r (nI_1 k) (ih (k + 1) (by omega) (by omega) h)) (fun h => ?_) rfl rfl (by omega) (by omega))⟩
      have := (qd_seg_eq segs j k hj).mpr ⟨h3, h⟩
      rw [this] at hp
      exact hp
theorem xl_segment (now base : Nat → qf_X) (wt : List (Nat × qf_X)) (dr : List Nat) (docs : List qf_D) (segs : List Nat) (made : Nat) (hi : qf_inv now base wt dr docs segs made) (hm : made < 2 ^ 30) (hS : qx_S now base wt dr docs segs made xch xtl xwf xwc xdn xdf xdl xdc xdm xss xsc) (p0 p1 : Int32) (post : Int32 → Prop)
  (hb : (∀ k, k < segs.length → p0 ≠ nI k) ∨ (∀ w, w < 5 → p1 ≠ nI w) → post (-1))
  (g0 : ∀ k, k < segs.length → p0 = nI k → p1 = 0 → post (nI (segs.getD k 0)))
  (g1 : ∀ k, k < segs.length → p0 = nI k → p1 = 1 → post (nI (ql_cl (ql_docs docs segs k))))
  (g2 : ∀ k, k < segs.length → p0 = nI k → p1 = 2 → post (nI (ql_lists (ql_docs docs segs k))))
  (g3 : ∀ k, k < segs.length → p0 = nI k → p1 = 3 → post (nI (ql_bits (ql_docs docs segs k))))
  (g4 : ∀ k x, k < segs.length → p0 = nI k → p1 = 4 → docs[qd_st k segs]? = some x → post (nI x.1)) : wpX_segment post (xwc, xdc, xdm, xsc, xtc, xnc, xmc, xbr, xwt, xch, xtl, xwf, xdn, xdf, xdl, xss, xtk, xta, xtb, xnk, xna, xnb, xnl, xnr, xns, xfa, xfs, xfi, xrw, xrc, xcl, xhd, xre, xhi, xwo) p0 p1 := by
  obtain ⟨i1, i2, i3, i4, i5, i6⟩ := hi
  obtain ⟨s1, s2, s3, s5, ⟨s6, s7⟩, s8, ⟨s9, s10⟩⟩ := hS
  subst s9
  have hb10 := qd_dec10 i6 i5.2.1
  have hsm := i5.1
  have hok : ∀ y, y ∈ docs → y.1 < made ∧ qf_t y.2.2.2 := fun y hy => ⟨(i5.2.2.2.1 y hy).1, (i5.2.2.2.1 y hy).2.2⟩
  rcases pk_ix p0 (n := segs.length) (by omega) with z | z | ⟨k, hk, rfl⟩
  · exact br_t z (hb (Or.inl (fun k hk e => by rw [e] at z; exact nI_pos (by omega) z)))
  · have hbb := hb (Or.inl (fun k hk e => by rw [e, nI_leI (by omega) (by omega)] at z; omega))
    refine br_c (fun _ => hbb) (fun _ => br_f ?_ hbb)
    exact Int32.not_lt.mpr z
  · refine br_f (nI_pos (by omega)) (br_t (nI_lt hk (by omega)) ?_)
    refine xs_st segs (by omega) (by omega) s10 k (by omega) _ ?_
    have ck : (nI k).toNatClampNeg = k := nI_clamp (by omega)
    have hik : vp_in (nI k) 16 := pk_in k 16 (by omega)
    have hsk := qd_st_s segs k
    have hle1 := qd_st_le (segs := segs) (k + 1)
    have hpos : 1 ≤ segs.getD k 0 := by rw [qc_gd hk]; exact (i5.2.1 _ (List.getElem_mem hk)).1
    have e1 : nI (qd_st k segs) + xss (nI k).toNatClampNeg = nI (qd_st (k + 1) segs) := by
      rw [ck, qx_sg_get s10 hk, nI_add, ← qd_st_s]
    have e2 : qd_st (k + 1) segs - qd_st k segs = segs.getD k 0 := by omega
    have hds : (docs.drop (qd_st k segs)).take (qd_st (k + 1) segs - qd_st k segs) = ql_docs docs segs k := by unfold ql_docs; rw [e2]
    refine ⟨hik, nm_r e1 ?_⟩
    have hbad : (p1 < 0 ∨ 4 < p1) → post (-1) := fun y => hb (Or.inr (fun w hw e => by
      rw [e] at y
      rcases y with y | y
      · exact nI_pos (by omega) y
      · rw [show (4 : Int32) = nI 4 from rfl, nI_ltI (by omega) (by omega)] at y; omega))
    refine br_c (fun y => hbad (Or.inl y)) (fun y1 => br_c (fun y => hbad (Or.inr y)) (fun y2 => ?_))
    refine br_c (fun w => ⟨hik, ?_⟩) (fun w0 => br_c (fun w => ?_) (fun w1 => br_c (fun w => ?_) (fun w2 => br_c (fun w => ?_) (fun w3 => br_c (fun w => ⟨pk_in (qd_st k segs) 64 (by omega), ?_⟩) (fun _ => trivial)))))
    · rw [ck, qx_sg_get s10 hk]; exact g0 k hk rfl w
    · exact ⟨qd_st (k + 1) segs - qd_st k segs + 1, xl_alive1 docs (qd_st (k + 1) segs) (by omega) s7 (by omega) post (qd_st (k + 1) segs - qd_st k segs + 1) (qd_st k segs) 0 (by omega) (by omega) (by rw [hds, Nat.zero_add]; exact g1 k hk rfl w)⟩
    · exact ⟨513, xl_cl1 docs made (qd_st k segs) (qd_st (k + 1) segs) (by omega) s7 hok i5.2.2.1 hm (by omega) (by omega) post (by rw [hds, ql_lists8]; exact g2 k hk rfl w) 513 0 (by omega) (by omega)⟩
    · exact ⟨513, xl_cb1 docs made (qd_st k segs) (qd_st (k + 1) segs) (by omega) s7 hok i5.2.2.1 hm (by omega) (by omega) post (by rw [hds, ql_bits8]; exact g3 k hk rfl w) 513 0 (by omega) (by omega)⟩
    · have hlt : qd_st k segs < docs.length := by omega
      have hg := List.getElem?_eq_getElem hlt
      rw [nI_clamp (by omega), (s7 _ _ hg).1]
      exact g4 k _ hk rfl w hg
theorem xl_document (now base : Nat → qf_X) (wt : List (Nat × qf_X)) (dr : List Nat) (docs : List qf_D) (segs : List Nat) (made : Nat) (hi : qf_inv now base wt dr docs segs made) (hS : qx_S now base wt dr docs segs made xch xtl xwf xwc xdn xdf xdl xdc xdm xss xsc) (p0 p1 : Int32) (post : Int32 → Prop)
  (hb : (∀ j, j < docs.length → p0 ≠ nI j) ∨ (∀ w, w < 4 → p1 ≠ nI w) → post (-1))
  (g0 : ∀ j x, docs[j]? = some x → p0 = nI j → p1 = 0 → post (nI x.1))
  (g1 : ∀ j x, docs[j]? = some x → p0 = nI j → p1 = 1 → post (nI x.2.1))
  (g2 : ∀ j x, docs[j]? = some x → p0 = nI j → p1 = 2 → post (if x.2.2.1 = true then 1 else 0))
  (g3 : ∀ j, j < docs.length → p0 = nI j → p1 = 3 → post (nI (qd_seg segs j))) : wpX_document post (xwc, xdc, xdm, xsc, xtc, xnc, xmc, xbr, xwt, xch, xtl, xwf, xdn, xdf, xdl, xss, xtk, xta, xtb, xnk, xna, xnb, xnl, xnr, xns, xfa, xfs, xfi, xrw, xrc, xcl, xhd, xre, xhi, xwo) p0 p1 := by
  obtain ⟨i1, i2, i3, i4, i5, i6⟩ := hi
  obtain ⟨s1, s2, s3, s5, ⟨s6, s7⟩, s8, ⟨s9, s10⟩⟩ := hS
  subst s6
  have hb10 := qd_dec10 i6 i5.2.1
  have hsm := i5.1
  rcases pk_ix p0 (n := docs.length) (by omega) with z | z | ⟨k, hk, rfl⟩
  · exact br_t z (hb (Or.inl (fun k hk e => by rw [e] at z; exact nI_pos (by omega) z)))
  · have hbb := hb (Or.inl (fun k hk e => by rw [e, nI_leI (by omega) (by omega)] at z; omega))
    refine br_c (fun _ => hbb) (fun _ => br_f ?_ hbb)
    exact Int32.not_lt.mpr z
  · refine br_f (nI_pos (by omega)) (br_t (nI_lt hk (by omega)) ?_)
    have ck : (nI k).toNatClampNeg = k := nI_clamp (by omega)
    have hik : vp_in (nI k) 64 := pk_in k 64 (by omega)
    have hg := List.getElem?_eq_getElem hk
    obtain ⟨a1, a2, a3, a4⟩ := s7 k _ hg
    have hbad : (p1 < 0 ∨ 3 < p1) → post (-1) := fun y => hb (Or.inr (fun w hw e => by
      rw [e] at y
      rcases y with y | y
      · exact nI_pos (by omega) y
      · rw [show (3 : Int32) = nI 3 from rfl, nI_ltI (by omega) (by omega)] at y; omega))
    refine br_c (fun y => hbad (Or.inl y)) (fun y1 => br_c (fun y => hbad (Or.inr y)) (fun y2 => ?_))
    refine br_c (fun w => ⟨hik, ?_⟩) (fun w0 => br_c (fun w => ⟨hik, ?_⟩) (fun w1 => br_c (fun w => ⟨hik, ?_⟩) (fun w2 => br_c (fun w => ?_) (fun _ => trivial))))
    · rw [ck, a1]; exact g0 k _ hg rfl w
    · rw [ck, a2]; exact g1 k _ hg rfl w
    · rw [ck, a3]
      have := g2 k _ hg rfl w
      by_cases z : docs[k].2.2.1 = true
      · rw [if_pos z] at this ⊢; exact br_f (by decide) this
      · rw [if_neg z] at this ⊢; exact br_t rfl this
    · exact ⟨segs.length + 1, xl_segOf1 segs k (by omega) (by omega) s10 s9 (by omega) post (g3 k hk rfl w) (segs.length + 1) 0 (by omega) (by omega) (by unfold qd_st; simp)⟩
theorem xl_at (now : Nat → qf_X) (hno : ∀ f, f < 10 → qf_o (now f)) (hs : ∀ f, f < 10 → qx_slot xch xtl f (now f)) (p0 p1 : Int32) (post : Int32 → Prop)
  (hb : (∀ f t i, f < 10 → now f = some t → i < t.length → p0 = nI f → p1 ≠ nI i) → post (-1))
  (hg : ∀ f t i, f < 10 → now f = some t → i < t.length → p0 = nI f → p1 = nI i → post (nI (t.getD i 0))) : wpX_at post (xwc, xdc, xdm, xsc, xtc, xnc, xmc, xbr, xwt, xch, xtl, xwf, xdn, xdf, xdl, xss, xtk, xta, xtb, xnk, xna, xnb, xnl, xnr, xns, xfa, xfs, xfi, xrw, xrc, xcl, xhd, xre, xhi, xwo) p0 p1 := by
  unfold wpX_at
  refine xs_fileC p0 _ (fun z => br_t rfl (hb (fun f t i hf _ _ e => ?_))) (fun f hf e => br_f (by decide) ?_)
  · subst e
    rcases z with z | z
    · exact absurd z (nI_pos (by omega))
    · exact absurd z (nI_ge (b := 10) hf (by decide))
  · subst e
    have cf : (nI f).toNatClampNeg = f := nI_clamp (by omega)
    have hsf := hs f hf
    refine br_c (fun z => hb (fun g t i _ _ hi _ e2 => ?_)) (fun z => ⟨pk_in f 91 (by omega), ?_⟩)
    · have hL := (hno g ‹_› t ‹_›).1
      rw [e2] at z
      exact nI_pos (by omega) z
    · rw [cf]
      obtain ⟨j, hj, rfl⟩ := nI_of z
      cases hnf : now f with
      | none =>
        rw [hnf] at hsf
        rw [show xtl f = -1 from hsf]
        refine br_f ?_ (hb (fun g t i hg' ht _ e1 => ?_))
        · intro y
          have h1 := ys_neg' j hj
          exact absurd y (Int32.not_lt.mpr h1)
        · rw [nI_eq (by omega) (by omega)] at e1
          subst e1
          rw [hnf] at ht
          exact nomatch ht
      | some t =>
        rw [hnf] at hsf
        have ht := hno f hf t hnf
        have hL := ht.1
        rw [hsf.1]
        refine pk_lt j t.length (fun hlt => ⟨pk_in (f * 40 + j) 3640 (by omega) (xs_ix f j), ?_⟩) (fun hle => hb (fun g t' i hg' ht' hi' e1 e2 => ?_)) rfl rfl hj (by omega)
        · rw [xs_ixc (by omega), hsf.2 j hlt]
          exact hg f t j hf hnf hlt rfl rfl
        · rw [nI_eq (by omega) (by omega)] at e1
          subst e1
          rw [hnf] at ht'
          cases ht'
          rw [nI_eq hj (by omega)] at e2
          omega
theorem xl_cf1 (now : Nat → qf_X) (hno : ∀ f, f < 10 → qf_o (now f)) (hs : ∀ f, f < 10 → qx_slot xch xtl f (now f)) (post : Int32 → Prop) (hp : post (nI (qn_th now 10))) :
  ∀ (n f : Nat), f ≤ 10 → 10 - f < n → wX_countFiles_4 post xwc xdc xdm xsc xtc xnc xmc xbr xwt xch xtl xwf xdn xdf xdl xss xtk xta xtb xnk xna xnb xnl xnr xns xfa xfs xfi xrw xrc xcl xhd xre xhi xwo n (nI (qn_th now f)) (nI f) := by
  intro n
  induction n with
  | zero => intro f h1 h2; omega
  | succ n ih =>
    intro f h1 h2
    refine pk_le 10 f (fun hle => ?_) (fun hlt => ?_)
    · have e : f = 10 := by omega
      subst e
      exact hp
    · have := ih (f + 1) (by omega) (by omega)
      refine xs_there f hlt (now f) (hno f hlt) (hs f hlt) _ (fun e => br_t rfl ?_) (fun t e => br_f (by decide) ?_)
      · have e' : qn_th now (f + 1) = qn_th now f := by show qn_th now f + _ = _; rw [e]; rfl
        rw [e'] at this
        exact nm_r (nI_1 f) this
      · have e' : qn_th now (f + 1) = qn_th now f + 1 := by show qn_th now f + _ = _; rw [e]
        rw [e'] at this
        exact nm_r (nI_1 _) (nm_r (nI_1 f) this)
end
