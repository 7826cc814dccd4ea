/-! the class: segments are gathered, merged; a whole sync -/
def qx_sg (segs : List Nat) (ss : Nat → Int32) : Prop := ∀ k s, segs[k]? = some s → ss k = nI s
theorem qx_sg_get {segs : List Nat} {ss : Nat → Int32} (h : qx_sg segs ss) {k : Nat} (hk : k < segs.length) : ss k = nI (segs.getD k 0) := by
  rw [qc_gd hk]
  exact h k _ (List.getElem?_eq_getElem hk)
theorem qd_get_le {segs : List Nat} (k : Nat) : segs.getD k 0 ≤ segs.sum := by
  have a := qd_st_s segs k
  have b := qd_st_le (segs := segs) (k + 1)
  omega
def qd_out (docs : List qf_D) (st d : Nat) : List qf_D := docs.take st ++ ((docs.take d).drop st).filter qd_live
theorem qd_out_0 (docs : List qf_D) (st : Nat) (h : st ≤ docs.length) : qd_out docs st st = docs.take st := by
  unfold qd_out
  have : (docs.take st).drop st = [] := List.drop_of_length_le (by rw [List.length_take]; omega)
  rw [this]
  simp
theorem qd_out_s (docs : List qf_D) (st d : Nat) (h : st ≤ d) (hd : d < docs.length) : qd_out docs st (d + 1) = if docs[d].2.2.1 = true then qd_out docs st d ++ [docs[d]] else qd_out docs st d := by
  unfold qd_out
  rw [List.take_succ_eq_append_getElem hd, List.drop_append_of_le_length (by rw [List.length_take]; omega), List.filter_append]
  by_cases z : docs[d].2.2.1 = true
  · rw [if_pos z]
    have : [docs[d]].filter qd_live = [docs[d]] := by simp [qd_live, z]
    rw [this, List.append_assoc]
  · rw [if_neg z]
    have : [docs[d]].filter qd_live = [] := by simp [qd_live, z]
    rw [this, List.append_nil]
theorem qd_out_len (docs : List qf_D) (st d : Nat) (h : st ≤ d) (hd : d ≤ docs.length) : (qd_out docs st d).length ≤ d ∧ st ≤ (qd_out docs st d).length := by
  unfold qd_out
  rw [List.length_append, List.length_take, Nat.min_eq_left (by omega)]
  have a : (((docs.take d).drop st).filter qd_live).length ≤ ((docs.take d).drop st).length := List.length_filter_le _ _
  rw [List.length_drop, List.length_take] at a
  omega
theorem qd_out_all (docs : List qf_D) (st : Nat) : qd_out docs st docs.length = docs.take st ++ (docs.drop st).filter qd_live := by
  unfold qd_out
  rw [List.take_length]
section
variable {xwc xdc xdm xsc xtc xnc xmc xbr xwt : Int32} {xch xtl xwf xdn xdf xdl xss xtk xta xtb xnk xna xnb xnl xnr xns xfa xfs xfi xrc xcl xhd xhi xwo : Nat → Int32} {xrw xre : Nat → Int64}
theorem xs_st1 (segs : List Nat) (hl : segs.length ≤ 16) (hsum : segs.sum < 1000) (hs : qx_sg segs xss) (first : Nat) (hf : first ≤ segs.length) (post : Int32 → Prop) (hp : post (nI (qd_st first segs))) :
  ∀ (n i : Nat), i ≤ first → first - i < n → wX_segmentStart_4 post (nI first) xwc xdc xdm xsc xtc xnc xmc xbr xwt xch xtl xwf xdn xdf xdl xss xtk xta xtb xnk xna xnb xnl xnr xns xfa xfs xfi xrw xrc xcl xhd xre xhi xwo n (nI (qd_st i segs)) (nI i) := by
  intro n
  induction n with
  | zero => intro i h1 h2; omega
  | succ n ih =>
    intro i h1 h2
    refine pk_le first i (fun hle => ?_) (fun hlt => ?_)
    · have e : i = first := by omega
      subst e
      exact hp
    · refine ⟨pk_in i 16 (by omega), ?_⟩
      have e : nI (qd_st i segs) + xss (nI i).toNatClampNeg = nI (qd_st (i + 1) segs) := by
        rw [nI_clamp (by omega), qx_sg_get hs (by omega), nI_add, ← qd_st_s]
      exact nm_r e (nm_r (nI_1 i) (ih (i + 1) (by omega) (by omega)))
theorem xs_st (segs : List Nat) (hl : segs.length ≤ 16) (hsum : segs.sum < 1000) (hs : qx_sg segs xss) (first : Nat) (hf : first ≤ segs.length) (post : Int32 → Prop) (hp : post (nI (qd_st first segs))) : wpX_segmentStart post (xwc, xdc, xdm, xsc, xtc, xnc, xmc, xbr, xwt, xch, xtl, xwf, xdn, xdf, xdl, xss, xtk, xta, xtb, xnk, xna, xnb, xnl, xnr, xns, xfa, xfs, xfi, xrw, xrc, xcl, xhd, xre, xhi, xwo) (nI first) :=
  ⟨first + 1, xs_st1 segs hl hsum hs first hf post hp (first + 1) 0 (by omega) (by omega)⟩
def qx_ga (docs : List qf_D) (st d : Nat) (ch tl dn df dl : Nat → Int32) : Prop :=
  qx_dl (qd_out docs st d) ch tl dn df dl ∧ ∀ j x, d ≤ j → docs[j]? = some x → qx_doc ch tl dn df dl j x
def qx_lo (ch tl ch' tl' : Nat → Int32) : Prop := ∀ s o', s < 27 → qf_o o' → qx_slot ch tl s o' → qx_slot ch' tl' s o'
theorem xs_ga1 (docs : List qf_D) (segs : List Nat) (first : Nat) (hf : first < 16) (hd : docs.length ≤ 64) (ht : ∀ x, x ∈ docs → qf_t x.2.2.2) (hst : qd_st first segs ≤ docs.length) (hc : xdc = nI docs.length) (hs : ∀ k s, (segs.take first)[k]? = some s → xss k = nI s) (hfl : (segs.take first).length = first) (ch0 tl0 : Nat → Int32) (post : SX → Prop)
  (hp : ∀ ch tl dn df dl ss : Nat → Int32, qx_lo ch0 tl0 ch tl → qx_dl (qd_gd first docs segs) ch tl dn df dl → qx_sg (qd_gs first docs segs) ss → post (xwc, nI (qd_gd first docs segs).length, xdm, nI (qd_gs first docs segs).length, xtc, xnc, xmc, xbr, xwt, ch, tl, xwf, dn, df, dl, ss, xtk, xta, xtb, xnk, xna, xnb, xnl, xnr, xns, xfa, xfs, xfi, xrw, xrc, xcl, xhd, xre, xhi, xwo)) :
  ∀ (n d : Nat) (ch tl dn df dl : Nat → Int32), qd_st first segs ≤ d → d ≤ docs.length → docs.length - d < n → qx_lo ch0 tl0 ch tl → qx_ga docs (qd_st first segs) d ch tl dn df dl → wX_gatherSegments_11 post (nI first) (nI (qd_st first segs)) n (nI (qd_out docs (qd_st first segs) d).length) (nI d) xwc xdc xdm xsc xtc xnc xmc xbr xwt ch tl xwf dn df dl xss xtk xta xtb xnk xna xnb xnl xnr xns xfa xfs xfi xrw xrc xcl xhd xre xhi xwo := by
  intro n
  induction n with
  | zero => intro d ch tl dn df dl h0 h1 h2; omega
  | succ n ih =>
    intro d ch tl dn df dl h0 h1 h2 h3 h4
    have hol := qd_out_len docs (qd_st first segs) d h0 h1
    refine pk_le docs.length d (fun hle => ?_) (fun hlt => ?_) hc
    · have e : d = docs.length := by omega
      subst e
      have e2 : qd_out docs (qd_st first segs) docs.length = qd_gd first docs segs := qd_out_all docs _
      have h41 : qx_dl (qd_gd first docs segs) ch tl dn df dl := by
        have := h4.1
        rw [e2] at this
        exact this
      rw [e2] at hol ⊢
      have e3 : (qd_gd first docs segs).length = qd_st first segs + ((docs.drop (qd_st first segs)).filter qd_live).length := by
        unfold qd_gd
        rw [List.length_append, List.length_take, Nat.min_eq_left hst]
      refine pk_le (qd_gd first docs segs).length (qd_st first segs) (fun hle => ?_) (fun hlt => ?_)
      · have e4 : qd_gs first docs segs = segs.take first := by
          unfold qd_gs
          rw [if_pos (by omega), List.append_nil]
        have := hp ch tl dn df dl xss h3 h41 (by rw [e4]; exact hs)
        rw [e4, hfl] at this
        exact this
      · have e4 : qd_gs first docs segs = segs.take first ++ [((docs.drop (qd_st first segs)).filter qd_live).length] := by
          unfold qd_gs
          rw [if_neg (by omega)]
        have e5 : nI (qd_gd first docs segs).length - nI (qd_st first segs) = nI ((docs.drop (qd_st first segs)).filter qd_live).length := by
          rw [pk_sub (by omega)]
          congr 1
          omega
        have cf : (nI first).toNatClampNeg = first := nI_clamp (by omega)
        refine ⟨pk_in first 16 hf, nm_e (nm_r (nI_1 first) ?_)⟩
        rw [cf, e5]
        have := hp ch tl dn df dl (upd xss first (nI ((docs.drop (qd_st first segs)).filter qd_live).length)) h3 h41 (by
          rw [e4]
          intro k s hk
          by_cases z : k < first
          · rw [List.getElem?_append_left (by omega)] at hk
            exact (pk_un (by omega)).trans (hs k s hk)
          · have hk' := qr_get_lt hk
            rw [List.length_append, hfl, List.length_singleton] at hk'
            have : k = first := by omega
            subst this
            rw [List.getElem?_append_right (by omega), hfl, Nat.sub_self] at hk
            have e : ((docs.drop (qd_st k segs)).filter qd_live).length = s := by simpa using hk
            rw [← e]
            exact pk_us)
        rw [e4, List.length_append, hfl, List.length_singleton] at this
        exact this
    · have hg : docs[d]? = some docs[d] := List.getElem?_eq_getElem hlt
      obtain ⟨a1, a2, a3, a4⟩ := h4.2 d _ (Nat.le_refl _) hg
      have hi : vp_in (nI d) 64 := pk_in d 64 (by omega)
      have cd : (nI d).toNatClampNeg = d := nI_clamp (by omega)
      have hs' := qd_out_s docs (qd_st first segs) d h0 hlt
      refine ⟨hi, ?_⟩
      rw [cd, a3]
      by_cases z : docs[d].2.2.1 = true
      · rw [if_pos z] at hs' ⊢
        have ho : vp_in (nI (qd_out docs (qd_st first segs) d).length) 64 := pk_in (qd_out docs (qd_st first segs) d).length 64 (by omega)
        have co : (nI (qd_out docs (qd_st first segs) d).length).toNatClampNeg = (qd_out docs (qd_st first segs) d).length := nI_clamp (by omega)
        refine br_f (by decide) ⟨hi, ho, nm_e ⟨hi, ho, nm_e ⟨ho, nm_e ?_⟩⟩⟩
        rw [co, xs_b1, a1, a2]
        refine xs_copy' (27 + (qd_out docs (qd_st first segs) d).length) (27 + d) (nI_add 27 _) (nI_add 27 _) (by omega) (by omega) (some docs[d].2.2.2) (qf_o_some (ht _ (List.getElem_mem hlt))) a4 _ (fun ch' tl' hsl hk => ?_)
        refine nm_r (nI_1 _) (nm_r (nI_1 _) ?_)
        have hlen : (qd_out docs (qd_st first segs) (d + 1)).length = (qd_out docs (qd_st first segs) d).length + 1 := by rw [hs', List.length_append]; rfl
        rw [← hlen]
        have hto : ∀ x, x ∈ qd_out docs (qd_st first segs) d → qf_t x.2.2.2 := by
          intro x hx
          apply ht
          unfold qd_out at hx
          rcases List.mem_append.mp hx with y | y
          · exact List.mem_of_mem_take y
          · exact List.mem_of_mem_take (List.mem_of_mem_drop (List.mem_filter.mp y).1)
        refine ih (d + 1) ch' tl' _ _ _ (by omega) (by omega) (by omega) ?_ ⟨?_, ?_⟩
        · intro s o' hs1 ho1 h5
          exact hk s o' (by omega) ho1 (h3 s o' hs1 ho1 h5)
        · rw [hs']
          exact qx_dl_app (y := docs[d]) (qx_dl_kp hto h4.1 hk (Or.inr (Nat.le_refl _))) hsl (by rw [z]; rfl)
        · intro j x hj hx
          obtain ⟨b1, b2, b3, b4⟩ := h4.2 j x (by omega) hx
          exact ⟨(pk_un (by omega)).trans b1, (pk_un (by omega)).trans b2, (pk_un (by omega)).trans b3, hk _ _ (by omega) (qf_o_some (ht _ (qr_get_in hx))) b4⟩
      · rw [if_neg z] at hs' ⊢
        refine br_t rfl (nm_r (nI_1 d) ?_)
        rw [← hs']
        refine ih (d + 1) ch tl dn df dl (by omega) (by omega) (by omega) h3 ⟨?_, ?_⟩
        · rw [hs']; exact h4.1
        · intro j x hj hx
          exact h4.2 j x (by omega) hx
theorem xs_ga (docs : List qf_D) (segs : List Nat) (first : Nat) (hf : first < 16) (hfs : first ≤ segs.length) (hl : segs.length ≤ 16) (hd : docs.length ≤ 64) (ht : ∀ x, x ∈ docs → qf_t x.2.2.2) (hsum : segs.sum = docs.length) (hc : xdc = nI docs.length) (hs : qx_sg segs xss) (hdl : qx_dl docs xch xtl xdn xdf xdl) (xf : Int32) (ef : xf = nI first) (post : SX → Prop)
  (hp : ∀ ch tl dn df dl ss : Nat → Int32, qx_lo xch xtl ch tl → qx_dl (qd_gd first docs segs) ch tl dn df dl → qx_sg (qd_gs first docs segs) ss → post (xwc, nI (qd_gd first docs segs).length, xdm, nI (qd_gs first docs segs).length, xtc, xnc, xmc, xbr, xwt, ch, tl, xwf, dn, df, dl, ss, xtk, xta, xtb, xnk, xna, xnb, xnl, xnr, xns, xfa, xfs, xfi, xrw, xrc, xcl, xhd, xre, xhi, xwo)) : wpX_gatherSegments post (xwc, xdc, xdm, xsc, xtc, xnc, xmc, xbr, xwt, xch, xtl, xwf, xdn, xdf, xdl, xss, xtk, xta, xtb, xnk, xna, xnb, xnl, xnr, xns, xfa, xfs, xfi, xrw, xrc, xcl, xhd, xre, xhi, xwo) xf := by
  subst ef
  have hst : qd_st first segs ≤ docs.length := by rw [← hsum]; exact qd_st_le first
  have hfl : (segs.take first).length = first := by rw [List.length_take]; omega
  unfold wpX_gatherSegments
  refine xs_st segs hl (by omega) hs first hfs _ ⟨docs.length + 1, ?_⟩
  have e : (qd_out docs (qd_st first segs) (qd_st first segs)).length = qd_st first segs := by
    rw [qd_out_0 docs _ hst, List.length_take]; omega
  have HK : ∀ k s, (segs.take first)[k]? = some s → xss k = nI s := by
    intro k s hk
    have hk' := qr_get_lt hk
    rw [hfl] at hk'
    rw [List.getElem?_take_of_lt hk'] at hk
    exact hs k s hk
  have HG : qx_ga docs (qd_st first segs) (qd_st first segs) xch xtl xdn xdf xdl := by
    refine ⟨?_, fun j x _ hx => hdl j x hx⟩
    rw [qd_out_0 docs _ hst]
    intro d x hx
    have hk' := qr_get_lt hx
    rw [List.length_take] at hk'
    rw [List.getElem?_take_of_lt (by omega)] at hx
    exact hdl d x hx
  have this : wX_gatherSegments_11 post (nI first) (nI (qd_st first segs)) (docs.length + 1) (nI (qd_out docs (qd_st first segs) (qd_st first segs)).length) (nI (qd_st first segs)) xwc xdc xdm xsc xtc xnc xmc xbr xwt xch xtl xwf xdn xdf xdl xss xtk xta xtb xnk xna xnb xnl xnr xns xfa xfs xfi xrw xrc xcl xhd xre xhi xwo := xs_ga1 docs segs first hf hd ht hst hc HK hfl xch xtl post hp (docs.length + 1) (qd_st first segs) xch xtl xdn xdf xdl (Nat.le_refl _) hst (by omega) (fun s o' _ _ h => h) HG
  rw [e] at this
  exact this
end
