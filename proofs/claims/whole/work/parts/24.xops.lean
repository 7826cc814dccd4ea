/-! the class: keep, remove, crash, settle -/
abbrev qf_P : Type := (Nat → qf_X) × List (Nat × qf_X) × List qf_D × List Nat × Nat
def qf_room (now base : Nat → qf_X) (wt : List (Nat × qf_X)) (docs : List qf_D) (segs : List Nat) (made : Nat) : qf_P :=
  if wt.length < 6 then (base, wt, docs, segs, made) else (now, [], (qd_sy docs segs wt now made).1, (qd_sy docs segs wt now made).2, qd_m2 wt now made)
theorem qf_now_o {now base : Nat → qf_X} {wt : List (Nat × qf_X)} {dr : List Nat} {docs : List qf_D} {segs : List Nat} {made : Nat} (h : qf_inv now base wt dr docs segs made) : ∀ f, f < 10 → qf_o (now f) := fun f hf => by
  rw [h.1 f hf]; exact qf_aps_o wt base h.2.1 (fun c hc => (h.2.2.1.2 c hc).2) f hf
theorem qf_inv_sync {now base : Nat → qf_X} {wt : List (Nat × qf_X)} {dr : List Nat} {docs : List qf_D} {segs : List Nat} {made : Nat} (h : qf_inv now base wt dr docs segs made) : qf_inv now now [] dr (qd_sy docs segs wt now made).1 (qd_sy docs segs wt now made).2 (qd_m2 wt now made) ∧ qd_m2 wt now made ≤ made + 6 := by
  have hno := qf_now_o h
  obtain ⟨i1, i2, i3, i4, i5, i6⟩ := h
  have hs2 := qd_sync_ok i5 i6 i3.1 hno
  have a := qd_mg_ok (qd_s2 segs wt now made).length (qd_d2 docs wt now made) (qd_s2 segs wt now made) (qd_m2 wt now made) (Nat.le_refl _) hs2.1 hs2.2.1
  refine ⟨⟨fun f _ => rfl, hno, ⟨by simp, (fun c hc => nomatch hc)⟩, i4, a.1, a.2⟩, ?_⟩
  unfold qd_m2
  have := hs2.2.2.2.2
  omega
theorem qf_inv_room {now base : Nat → qf_X} {wt : List (Nat × qf_X)} {dr : List Nat} {docs : List qf_D} {segs : List Nat} {made : Nat} (h : qf_inv now base wt dr docs segs made) : qf_inv now (qf_room now base wt docs segs made).1 (qf_room now base wt docs segs made).2.1 dr (qf_room now base wt docs segs made).2.2.1 (qf_room now base wt docs segs made).2.2.2.1 (qf_room now base wt docs segs made).2.2.2.2 ∧ (qf_room now base wt docs segs made).2.1.length < 6 ∧ (qf_room now base wt docs segs made).2.2.2.2 ≤ made + 6 := by
  unfold qf_room
  split
  · rename_i hl; exact ⟨h, hl, by dsimp only; omega⟩
  · exact ⟨(qf_inv_sync h).1, by simp, (qf_inv_sync h).2⟩
/-- a change is added -/
theorem qf_inv_add {now base : Nat → qf_X} {wt : List (Nat × qf_X)} {dr dr' : List Nat} {docs : List qf_D} {segs : List Nat} {made : Nat} (h : qf_inv now base wt dr docs segs made) (hl : wt.length < 6) {f : Nat} (hf : f < 10) {o : qf_X} (ho : qf_o o) (hd : qf_t dr') : qf_inv (qf_ap now (f, o)) base (wt ++ [(f, o)]) dr' docs segs made := by
  obtain ⟨i1, i2, i3, i4, i5, i6⟩ := h
  refine ⟨fun g hg => ?_, i2, ⟨by simp; omega, fun c hc => ?_⟩, hd, i5, i6⟩
  · rw [qf_aps_1]
    unfold qf_ap
    split
    · rfl
    · exact i1 g hg
  · rcases List.mem_append.mp hc with z | z
    · exact i3.2 c z
    · rw [List.mem_singleton] at z
      subst z
      exact ⟨hf, ho⟩
section
variable {xwc xdc xdm xsc xtc xnc xmc xbr xwt : Int32} {xch xtl xwf xdn xdf xdl xss xtk xta xtb xnk xna xnb xnl xnr xns xfa xfs xfi xrc xcl xhd xhi xwo : Nat → Int32} {xrw xre : Nat → Int64}
theorem xs_room (now base : Nat → qf_X) (wt : List (Nat × qf_X)) (dr : List Nat) (docs : List qf_D) (segs : List Nat) (made : Nat) (hi : qf_inv now base wt dr docs segs made) (hS : qx_S now base wt dr docs segs made xch xtl xwf xwc xdn xdf xdl xdc xdm xss xsc) (post : SX → Prop)
  (hp : ∀ ch tl dn df dl ss : Nat → Int32, ∀ wc dc dm sc : Int32, qx_S now (qf_room now base wt docs segs made).1 (qf_room now base wt docs segs made).2.1 dr (qf_room now base wt docs segs made).2.2.1 (qf_room now base wt docs segs made).2.2.2.1 (qf_room now base wt docs segs made).2.2.2.2 ch tl xwf wc dn df dl dc dm ss sc → post (wc, dc, dm, sc, xtc, xnc, xmc, xbr, xwt, ch, tl, xwf, dn, df, dl, ss, xtk, xta, xtb, xnk, xna, xnb, xnl, xnr, xns, xfa, xfs, xfi, xrw, xrc, xcl, xhd, xre, xhi, xwo)) : wpX_makeRoomForChange post (xwc, xdc, xdm, xsc, xtc, xnc, xmc, xbr, xwt, xch, xtl, xwf, xdn, xdf, xdl, xss, xtk, xta, xtb, xnk, xna, xnb, xnl, xnr, xns, xfa, xfs, xfi, xrw, xrc, xcl, xhd, xre, xhi, xwo) := by
  have h6 := hi.2.2.1.1
  refine pk_lt wt.length 6 (fun hl => ?_) (fun hl => ?_) hS.2.2.1.1
  · unfold qf_room at hp
    rw [if_pos hl] at hp
    exact hp xch xtl xdn xdf xdl xss xwc xdc xdm xsc hS
  · unfold qf_room at hp
    rw [if_neg (by omega)] at hp
    exact xs_sync now base wt dr docs segs made hi hS _ hp
/-- the file that has just changed is noted: its text goes to the waiting ones -/
theorem xs_add (now base : Nat → qf_X) (wt : List (Nat × qf_X)) (dr : List Nat) (docs : List qf_D) (segs : List Nat) (made : Nat) (f : Nat) (hf : f < 10) (hl : wt.length < 6) (ho : qx_Fo now base wt dr) (hdt : ∀ x, x ∈ docs → qf_t x.2.2.2) (hS : qx_S now base wt dr docs segs made xch xtl xwf xwc xdn xdf xdl xdc xdm xss xsc) (post : Int32 → SX → Prop)
  (hp : ∀ ch tl wf : Nat → Int32, ∀ wc : Int32, qx_S now base (wt ++ [(f, now f)]) dr docs segs made ch tl wf wc xdn xdf xdl xdc xdm xss xsc → post (nI (wt.length + 1)) (wc, xdc, xdm, xsc, xtc, xnc, xmc, xbr, xwt, ch, tl, wf, xdn, xdf, xdl, xss, xtk, xta, xtb, xnk, xna, xnb, xnl, xnr, xns, xfa, xfs, xfi, xrw, xrc, xcl, xhd, xre, xhi, xwo)) : wpX_addChange post (xwc, xdc, xdm, xsc, xtc, xnc, xmc, xbr, xwt, xch, xtl, xwf, xdn, xdf, xdl, xss, xtk, xta, xtb, xnk, xna, xnb, xnl, xnr, xns, xfa, xfs, xfi, xrw, xrc, xcl, xhd, xre, xhi, xwo) (nI f) := by
  obtain ⟨s1, s2, ⟨s3, s4⟩, s5, ⟨s6, s7⟩, s8, s9⟩ := hS
  subst s3
  have cw : (nI wt.length).toNatClampNeg = wt.length := nI_clamp (by omega)
  unfold wpX_addChange
  refine ⟨pk_in wt.length 6 hl, nm_e ?_⟩
  rw [cw]
  refine xs_copy' (20 + wt.length) f (nI_add 20 _) rfl (by omega) (by omega) (now f) (ho.1 f hf) (s1 f hf) _ (fun ch tl hsl hk => ?_)
  refine nm_r (nI_1 _) ?_
  have hdl := qx_dl_kp hdt s7 hk (Or.inl (by omega))
  refine hp ch tl _ _ ⟨fun g hg => hk _ _ (by omega) (ho.1 g hg) (s1 g hg), fun g hg => hk _ _ (by omega) (ho.2.1 g hg) (s2 g hg), ⟨by rw [List.length_append]; rfl, fun k c hc => ?_⟩, hk _ _ (by omega) (qf_o_some ho.2.2.2) s5, ⟨s6, hdl⟩, s8, s9⟩
  by_cases z : k < wt.length
  · rw [List.getElem?_append_left z] at hc
    obtain ⟨a1, a2⟩ := s4 k c hc
    exact ⟨(pk_un (by omega)).trans a1, hk _ _ (by omega) (ho.2.2.1.2 c (qr_get_in hc)) a2⟩
  · have hk' := qr_get_lt hc
    rw [List.length_append, List.length_singleton] at hk'
    have : k = wt.length := by omega
    subst this
    rw [List.getElem?_append_right (Nat.le_refl _), Nat.sub_self] at hc
    have e : (f, now f) = c := by simpa using hc
    subst e
    exact ⟨pk_us, hsl⟩
theorem xs_keep (now base : Nat → qf_X) (wt : List (Nat × qf_X)) (dr : List Nat) (docs : List qf_D) (segs : List Nat) (made : Nat) (hi : qf_inv now base wt dr docs segs made) (hS : qx_S now base wt dr docs segs made xch xtl xwf xwc xdn xdf xdl xdc xdm xss xsc) (f : Nat) (hf : f < 10) (post : Int32 → SX → Prop)
  (hp : ∀ ch tl wf dn df dl ss : Nat → Int32, ∀ wc dc dm sc : Int32, qx_S (qf_ap now (f, some dr)) (qf_room now base wt docs segs made).1 ((qf_room now base wt docs segs made).2.1 ++ [(f, some dr)]) [] (qf_room now base wt docs segs made).2.2.1 (qf_room now base wt docs segs made).2.2.2.1 (qf_room now base wt docs segs made).2.2.2.2 ch tl wf wc dn df dl dc dm ss sc → post (nI ((qf_room now base wt docs segs made).2.1.length + 1)) (wc, dc, dm, sc, xtc, xnc, xmc, xbr, xwt, ch, tl, wf, dn, df, dl, ss, xtk, xta, xtb, xnk, xna, xnb, xnl, xnr, xns, xfa, xfs, xfi, xrw, xrc, xcl, xhd, xre, xhi, xwo)) : wpX_keep post (xwc, xdc, xdm, xsc, xtc, xnc, xmc, xbr, xwt, xch, xtl, xwf, xdn, xdf, xdl, xss, xtk, xta, xtb, xnk, xna, xnb, xnl, xnr, xns, xfa, xfs, xfi, xrw, xrc, xcl, xhd, xre, xhi, xwo) (nI f) := by
  have hr := qf_inv_room hi
  have hno := qf_now_o hi
  unfold wpX_keep
  refine xs_isFile f hf _ (br_f (by decide) ?_)
  refine xs_room now base wt dr docs segs made hi hS _ (fun ch tl dn df dl ss wc dc dm sc hS1 => ?_)
  generalize qf_room now base wt docs segs made = R at *
  obtain ⟨rb, rw, rd, rs, rm⟩ := R
  dsimp only at *
  obtain ⟨⟨i1, i2, i3, i4, i5, i6⟩, hl6, _⟩ := hr
  have hdt : ∀ x, x ∈ rd → qf_t x.2.2.2 := fun x hx => (i5.2.2.2.1 x hx).2.2
  obtain ⟨s1, s2, ⟨s3, s4⟩, s5, ⟨s6, s7⟩, s8, s9⟩ := hS1
  have hod := qf_o_some i4
  have hon : ∀ g, g < 10 → qf_o (qf_ap now (f, some dr) g) := fun g hg => by
    unfold qf_ap
    split
    · exact hod
    · exact hno g hg
  refine xs_copy' f 26 rfl rfl (by omega) (by omega) (some dr) hod s5 _ (fun ch1 tl1 hsl hk => ?_)
  have t0 : qf_t [] := ⟨by simp, (fun x hx => nomatch hx)⟩
  have hk2 : qx_kp 26 ch1 tl1 ch1 (upd tl1 26 0) := by
    intro s o' hs _ h
    match o', h with
    | none, h => exact (pk_un hs).trans h
    | some t, h => exact ⟨(pk_un hs).trans h.1, h.2⟩
  have key : ∀ s o', s ≠ f → s ≠ 26 → qf_o o' → qx_slot ch tl s o' → qx_slot ch1 (upd tl1 26 0) s o' := fun s o' h1 h2 h3 h4 => hk2 s o' h2 h3 (hk s o' h1 h3 h4)
  have hS2 : qx_S (qf_ap now (f, some dr)) rb rw [] rd rs rm ch1 (upd tl1 26 0) xwf wc dn df dl dc dm ss sc := by
    refine ⟨fun g hg => ?_, fun g hg => key _ _ (by omega) (by omega) (i2 g hg) (s2 g hg), ⟨s3, fun k c hc => ⟨(s4 k c hc).1, ?_⟩⟩, ⟨pk_us, fun i hi => absurd hi (by simp)⟩, ⟨s6, ?_⟩, s8, s9⟩
    · by_cases z : g = f
      · subst z
        have e : qf_ap now (g, some dr) g = some dr := if_pos rfl
        rw [e]
        exact hk2 g _ (by omega) hod hsl
      · have e : qf_ap now (f, some dr) g = now g := if_neg z
        rw [e]
        exact key g _ z (by omega) (hno g hg) (s1 g hg)
    · have := qr_get_lt hc
      exact key _ _ (by omega) (by omega) (i3.2 c (qr_get_in hc)).2 (s4 k c hc).2
    · exact qx_dl_kp hdt (qx_dl_kp hdt s7 hk (Or.inl (by omega))) hk2 (Or.inl (by omega))
  refine nm_e (xs_add _ rb rw [] rd rs rm f hf hl6 ⟨hon, i2, ⟨by omega, fun c hc => (i3.2 c hc).2⟩, t0⟩ hdt hS2 _ (fun ch3 tl3 wf3 wc3 hS3 => ?_))
  have e : qf_ap now (f, some dr) f = some dr := if_pos rfl
  rw [e] at hS3
  exact hp ch3 tl3 wf3 dn df dl ss wc3 dc dm sc hS3
theorem xs_remove (now base : Nat → qf_X) (wt : List (Nat × qf_X)) (dr : List Nat) (docs : List qf_D) (segs : List Nat) (made : Nat) (hi : qf_inv now base wt dr docs segs made) (hS : qx_S now base wt dr docs segs made xch xtl xwf xwc xdn xdf xdl xdc xdm xss xsc) (f : Nat) (hf : f < 10) (post : Int32 → SX → Prop)
  (h0 : now f = none → post (-1) (xwc, xdc, xdm, xsc, xtc, xnc, xmc, xbr, xwt, xch, xtl, xwf, xdn, xdf, xdl, xss, xtk, xta, xtb, xnk, xna, xnb, xnl, xnr, xns, xfa, xfs, xfi, xrw, xrc, xcl, xhd, xre, xhi, xwo))
  (hp : ∀ t, now f = some t → ∀ ch tl wf dn df dl ss : Nat → Int32, ∀ wc dc dm sc : Int32, qx_S (qf_ap now (f, none)) (qf_room now base wt docs segs made).1 ((qf_room now base wt docs segs made).2.1 ++ [(f, none)]) dr (qf_room now base wt docs segs made).2.2.1 (qf_room now base wt docs segs made).2.2.2.1 (qf_room now base wt docs segs made).2.2.2.2 ch tl wf wc dn df dl dc dm ss sc → post (nI ((qf_room now base wt docs segs made).2.1.length + 1)) (wc, dc, dm, sc, xtc, xnc, xmc, xbr, xwt, ch, tl, wf, dn, df, dl, ss, xtk, xta, xtb, xnk, xna, xnb, xnl, xnr, xns, xfa, xfs, xfi, xrw, xrc, xcl, xhd, xre, xhi, xwo)) : wpX_remove post (xwc, xdc, xdm, xsc, xtc, xnc, xmc, xbr, xwt, xch, xtl, xwf, xdn, xdf, xdl, xss, xtk, xta, xtb, xnk, xna, xnb, xnl, xnr, xns, xfa, xfs, xfi, xrw, xrc, xcl, xhd, xre, xhi, xwo) (nI f) := by
  have hr := qf_inv_room hi
  have hno := qf_now_o hi
  unfold wpX_remove
  refine xs_there f hf (now f) (hno f hf) (hS.1 f hf) _ (fun e => br_t rfl (h0 e)) (fun t et => br_f (by decide) ?_)
  refine xs_room now base wt dr docs segs made hi hS _ (fun ch tl dn df dl ss wc dc dm sc hS1 => ?_)
  generalize qf_room now base wt docs segs made = R at *
  obtain ⟨rb, rw, rd, rs, rm⟩ := R
  dsimp only at *
  obtain ⟨⟨i1, i2, i3, i4, i5, i6⟩, hl6, _⟩ := hr
  have hdt : ∀ x, x ∈ rd → qf_t x.2.2.2 := fun x hx => (i5.2.2.2.1 x hx).2.2
  obtain ⟨s1, s2, ⟨s3, s4⟩, s5, ⟨s6, s7⟩, s8, s9⟩ := hS1
  have hon : ∀ g, g < 10 → qf_o (qf_ap now (f, none) g) := fun g hg => by
    unfold qf_ap
    split
    · exact qf_o_none
    · exact hno g hg
  have cf : (nI f).toNatClampNeg = f := nI_clamp (by omega)
  have hk2 : qx_kp f ch tl ch (upd tl f (-1)) := by
    intro s o' hs _ h
    match o', h with
    | none, h => exact (pk_un hs).trans h
    | some t, h => exact ⟨(pk_un hs).trans h.1, h.2⟩
  have hS2 : qx_S (qf_ap now (f, none)) rb rw dr rd rs rm ch (upd tl f (-1)) xwf wc dn df dl dc dm ss sc := by
    refine ⟨fun g hg => ?_, fun g hg => hk2 _ _ (by omega) (i2 g hg) (s2 g hg), ⟨s3, fun k c hc => ⟨(s4 k c hc).1, ?_⟩⟩, hk2 _ _ (by omega) (qf_o_some i4) s5, ⟨s6, ?_⟩, s8, s9⟩
    · by_cases z : g = f
      · subst z
        have e : qf_ap now (g, none) g = none := if_pos rfl
        rw [e]
        exact pk_us
      · have e : qf_ap now (f, none) g = now g := if_neg z
        rw [e]
        exact hk2 g _ z (hno g hg) (s1 g hg)
    · have := qr_get_lt hc
      exact hk2 _ _ (by omega) (i3.2 c (qr_get_in hc)).2 (s4 k c hc).2
    · exact qx_dl_kp hdt s7 hk2 (Or.inl (by omega))
  refine ⟨pk_in f 91 (by omega), nm_e ?_⟩
  rw [cf]
  refine xs_add _ rb rw dr rd rs rm f hf hl6 ⟨hon, i2, ⟨by omega, fun c hc => (i3.2 c hc).2⟩, i4⟩ hdt hS2 _ (fun ch3 tl3 wf3 wc3 hS3 => ?_)
  have e : qf_ap now (f, none) f = none := if_pos rfl
  rw [e] at hS3
  exact hp t et ch3 tl3 wf3 dn df dl ss wc3 dc dm sc hS3
end
