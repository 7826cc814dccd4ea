/-! the class: crash and settle -/
theorem qx_F_now {now base : Nat → qf_X} {wt : List (Nat × qf_X)} {dr : List Nat} {ch tl ch' tl' : Nat → Int32} {f : Nat} (hf : f < 10) {o : qf_X} (ho : qx_Fo now base wt dr) (h : qx_F now base wt dr ch tl) (hk : qx_kp f ch tl ch' tl') (hs : qx_slot ch' tl' f o) : qx_F (qf_pt f o now) base wt dr ch' tl' := by
  refine ⟨fun g hg => ?_, fun g hg => hk _ _ (by omega) (ho.2.1 g hg) (h.2.1 g hg), fun k c hc => ?_, hk 26 _ (by omega) (qf_o_some ho.2.2.2) h.2.2.2⟩
  · by_cases z : g = f
    · subst z; rw [qf_pt_s]; exact hs
    · rw [qf_pt_n z]; exact hk _ _ z (ho.1 g hg) (h.1 g hg)
  · exact hk _ _ (by omega) (ho.2.2.1.2 c (qr_get_in hc)) (h.2.2.1 k c hc)
theorem qx_F_cg {now now' base : Nat → qf_X} {wt : List (Nat × qf_X)} {dr : List Nat} {ch tl : Nat → Int32} (h : qx_F now base wt dr ch tl) (e : ∀ f, f < 10 → now' f = now f) : qx_F now' base wt dr ch tl := ⟨fun f hf => by rw [e f hf]; exact h.1 f hf, h.2⟩
theorem qf_aps_take {base : Nat → qf_X} {wt : List (Nat × qf_X)} {i : Nat} (hi : i < wt.length) : qf_aps base (wt.take (i + 1)) = qf_ap (qf_aps base (wt.take i)) wt[i] := by
  rw [List.take_succ_eq_append_getElem hi, qf_aps_1]
section
variable {xwc xdc xdm xsc xtc xnc xmc xbr xwt : Int32} {xch xtl xwf xdn xdf xdl xss xtk xta xtb xnk xna xnb xnl xnr xns xfa xfs xfi xrc xcl xhd xhi xwo : Nat → Int32} {xrw xre : Nat → Int64}
theorem xs_cr2 (base : Nat → qf_X) (wt : List (Nat × qf_X)) (dr : List Nat) (docs : List qf_D) (j : Nat) (hj : j ≤ wt.length) (hwl : wt.length ≤ 6) (hb : ∀ f, f < 10 → qf_o (base f)) (hwo : ∀ c, c ∈ wt → c.1 < 10 ∧ qf_o c.2) (hd : qf_t dr) (hdt : ∀ x, x ∈ docs → qf_t x.2.2.2) (hw : ∀ k c, wt[k]? = some c → xwf k = nI c.1) (x2 : Int32) (post : Int32 → SX → Prop)
  (hp : ∀ ch tl : Nat → Int32, qx_F (qf_aps base (wt.take j)) base wt dr ch tl → qx_dl docs ch tl xdn xdf xdl → post x2 (nI j, xdc, xdm, xsc, xtc, xnc, xmc, xbr, xwt, ch, tl, xwf, xdn, xdf, xdl, xss, xtk, xta, xtb, xnk, xna, xnb, xnl, xnr, xns, xfa, xfs, xfi, xrw, xrc, xcl, xhd, xre, xhi, xwo)) :
  ∀ (n i : Nat) (ch tl : Nat → Int32), i ≤ j → j - i < n → qx_F (qf_aps base (wt.take i)) base wt dr ch tl → qx_dl docs ch tl xdn xdf xdl → wX_crash_48 post (nI j) x2 n (nI i) xwc xdc xdm xsc xtc xnc xmc xbr xwt ch tl xwf xdn xdf xdl xss xtk xta xtb xnk xna xnb xnl xnr xns xfa xfs xfi xrw xrc xcl xhd xre xhi xwo := by
  intro n
  induction n with
  | zero => intro i ch tl h1 h2; omega
  | succ n ih =>
    intro i ch tl h1 h2 h3 h4
    refine pk_le j i (fun hle => ?_) (fun hlt => ?_)
    · have e : i = j := by omega
      subst e
      exact hp ch tl h3 h4
    · have hil : i < wt.length := by omega
      have hg : wt[i]? = some wt[i] := List.getElem?_eq_getElem hil
      have ci : (nI i).toNatClampNeg = i := nI_clamp (by omega)
      have hin := hwo _ (List.getElem_mem hil)
      have hon : ∀ f, f < 10 → qf_o (qf_aps base (wt.take i) f) := qf_aps_o _ base hb (fun c hc => (hwo c (List.mem_of_mem_take hc)).2)
      refine ⟨pk_in i 6 (by omega), ?_⟩
      rw [ci]
      refine xs_copy' wt[i].1 (20 + i) (hw i _ hg) (nI_add 20 i) (by omega) (by omega) wt[i].2 hin.2 (h3.2.2.1 i _ hg) _ (fun ch1 tl1 hsl hk => ?_)
      refine nm_r (nI_1 i) (ih (i + 1) ch1 tl1 (by omega) (by omega) ?_ (qx_dl_kp hdt h4 hk (Or.inl (by omega))))
      have := qx_F_now hin.1 ⟨hon, hb, ⟨hwl, fun c hc => (hwo c hc).2⟩, hd⟩ h3 hk hsl
      rw [qf_aps_take hil]
      exact this
theorem xs_cr1 (now base : Nat → qf_X) (wt : List (Nat × qf_X)) (dr : List Nat) (docs : List qf_D) (ho : qx_Fo now base wt dr) (hdt : ∀ x, x ∈ docs → qf_t x.2.2.2) (x1 x2 : Int32) (post : Int32 → SX → Prop)
  (hp : ∀ ch tl : Nat → Int32, qx_F base base wt dr ch tl → qx_dl docs ch tl xdn xdf xdl → ∃ n : Nat, wX_crash_48 post x1 x2 n 0 xwc xdc xdm xsc xtc xnc xmc xbr xwt ch tl xwf xdn xdf xdl xss xtk xta xtb xnk xna xnb xnl xnr xns xfa xfs xfi xrw xrc xcl xhd xre xhi xwo) :
  ∀ (n f : Nat) (ch tl : Nat → Int32), f ≤ 10 → 10 - f < n → qx_F (qf_mx f base now) base wt dr ch tl → qx_dl docs ch tl xdn xdf xdl → wX_crash_25 post x1 x2 n (nI f) xwc xdc xdm xsc xtc xnc xmc xbr xwt ch tl xwf xdn xdf xdl xss xtk xta xtb xnk xna xnb xnl xnr xns xfa xfs xfi xrw xrc xcl xhd xre xhi xwo := by
  intro n
  induction n with
  | zero => intro i ch tl h1 h2; omega
  | succ n ih =>
    intro f ch tl h1 h2 h3 h4
    refine pk_le 10 f (fun hle => ?_) (fun hlt => ?_)
    · exact hp ch tl (qx_F_cg h3 (fun g hg => by rw [qf_mx_lt (by omega)])) h4
    · have ho1 : qx_Fo (qf_mx f base now) base wt dr := ⟨fun g hg => by unfold qf_mx; split; exact ho.2.1 g hg; exact ho.1 g hg, ho.2⟩
      refine xs_copy' f (10 + f) rfl (nI_add 10 f) (by omega) (by omega) (base f) (ho.2.1 f hlt) (h3.2.1 f hlt) _ (fun ch1 tl1 hsl hk => ?_)
      refine nm_r (nI_1 f) (ih (f + 1) ch1 tl1 (by omega) (by omega) ?_ (qx_dl_kp hdt h4 hk (Or.inl (by omega))))
      refine qx_F_cg (qx_F_now hlt ho1 h3 hk hsl) (fun g hg => ?_)
      by_cases z : g = f
      · subst z; rw [qf_pt_s, qf_mx_lt (by omega)]
      · rw [qf_pt_n z]
        by_cases y : g < f
        · rw [qf_mx_lt y, qf_mx_lt (by omega)]
        · rw [qf_mx_ge y, qf_mx_ge (by omega)]
theorem xs_crash (now base : Nat → qf_X) (wt : List (Nat × qf_X)) (dr : List Nat) (docs : List qf_D) (segs : List Nat) (made : Nat) (hi : qf_inv now base wt dr docs segs made) (hS : qx_S now base wt dr docs segs made xch xtl xwf xwc xdn xdf xdl xdc xdm xss xsc) (j : Nat) (hj31 : j < 2 ^ 31) (post : Int32 → SX → Prop)
  (hp : ∀ ch tl : Nat → Int32, ∀ wc : Int32, qx_S (qf_aps base (wt.take j)) base (wt.take j) dr docs segs made ch tl xwf wc xdn xdf xdl xdc xdm xss xsc → post (nI (wt.length - j)) (wc, xdc, xdm, xsc, xtc, xnc, xmc, xbr, xwt, ch, tl, xwf, xdn, xdf, xdl, xss, xtk, xta, xtb, xnk, xna, xnb, xnl, xnr, xns, xfa, xfs, xfi, xrw, xrc, xcl, xhd, xre, xhi, xwo)) : wpX_crash post (xwc, xdc, xdm, xsc, xtc, xnc, xmc, xbr, xwt, xch, xtl, xwf, xdn, xdf, xdl, xss, xtk, xta, xtb, xnk, xna, xnb, xnl, xnr, xns, xfa, xfs, xfi, xrw, xrc, xcl, xhd, xre, xhi, xwo) (nI j) := by
  have hno := qf_now_o hi
  obtain ⟨i1, i2, i3, i4, i5, i6⟩ := hi
  obtain ⟨s1, s2, ⟨s3, s4⟩, s5, ⟨s6, s7⟩, s8, s9⟩ := hS
  subst s3
  have hdt : ∀ x, x ∈ docs → qf_t x.2.2.2 := fun x hx => (i5.2.2.2.1 x hx).2.2
  refine br_t (nI_pos' hj31) (pk_lt j wt.length (fun hlt => ?_) (fun hle => ?_) rfl rfl hj31 (by omega))
  · refine nm_r (pk_sub (by omega)) ⟨11, ?_⟩
    refine xs_cr1 now base wt dr docs ⟨hno, i2, ⟨i3.1, fun c hc => (i3.2 c hc).2⟩, i4⟩ hdt (nI j) (nI (wt.length - j)) post ?_ 11 0 xch xtl (by omega) (by omega) ⟨fun f hf => by rw [qf_mx_ge (by omega)]; exact s1 f hf, s2, fun k c hc => (s4 k c hc).2, s5⟩ s7
    intro ch tl hF hdl
    refine ⟨j + 1, xs_cr2 base wt dr docs j (by omega) i3.1 i2 i3.2 i4 hdt (fun k c hc => (s4 k c hc).1) (nI (wt.length - j)) post ?_ (j + 1) 0 ch tl (by omega) (by omega) hF hdl⟩
    intro ch1 tl1 hF1 hdl1
    refine hp ch1 tl1 (nI j) ⟨hF1.1, hF1.2.1, ⟨by rw [List.length_take]; congr 1; omega, fun k c hc => ?_⟩, hF1.2.2.2, ⟨s6, hdl1⟩, s8, s9⟩
    have hk := qr_get_lt hc
    rw [List.length_take] at hk
    rw [List.getElem?_take_of_lt (by omega)] at hc
    exact ⟨(s4 k c hc).1, hF1.2.2.1 k c hc⟩
  · have e1 : wt.take j = wt := List.take_of_length_le hle
    rw [e1] at hp
    have e2 : wt.length - j = 0 := by omega
    rw [e2] at hp
    exact hp xch xtl _ ⟨fun f hf => by rw [← i1 f hf]; exact s1 f hf, s2, ⟨rfl, s4⟩, s5, ⟨s6, s7⟩, s8, s9⟩
theorem xs_settle (now base : Nat → qf_X) (wt : List (Nat × qf_X)) (dr : List Nat) (docs : List qf_D) (segs : List Nat) (made : Nat) (hi : qf_inv now base wt dr docs segs made) (hS : qx_S now base wt dr docs segs made xch xtl xwf xwc xdn xdf xdl xdc xdm xss xsc) (post : Int32 → SX → Prop)
  (hp : ∀ ch tl dn df dl ss : Nat → Int32, ∀ wc dc dm sc : Int32, qx_S now now [] dr (qd_gd 0 (qd_sy docs segs wt now made).1 (qd_sy docs segs wt now made).2) (qd_gs 0 (qd_sy docs segs wt now made).1 (qd_sy docs segs wt now made).2) (qd_m2 wt now made) ch tl xwf wc dn df dl dc dm ss sc → post (nI (qd_gd 0 (qd_sy docs segs wt now made).1 (qd_sy docs segs wt now made).2).length) (wc, dc, dm, sc, xtc, xnc, xmc, xbr, xwt, ch, tl, xwf, dn, df, dl, ss, xtk, xta, xtb, xnk, xna, xnb, xnl, xnr, xns, xfa, xfs, xfi, xrw, xrc, xcl, xhd, xre, xhi, xwo)) : wpX_settle post (xwc, xdc, xdm, xsc, xtc, xnc, xmc, xbr, xwt, xch, xtl, xwf, xdn, xdf, xdl, xss, xtk, xta, xtb, xnk, xna, xnb, xnl, xnr, xns, xfa, xfs, xfi, xrw, xrc, xcl, xhd, xre, xhi, xwo) := by
  have hi2 := (qf_inv_sync hi).1
  unfold wpX_settle
  refine xs_sync now base wt dr docs segs made hi hS _ (fun ch tl dn df dl ss wc dc dm sc hS1 => ?_)
  generalize qd_sy docs segs wt now made = R at *
  obtain ⟨rd, rs⟩ := R
  dsimp only at *
  obtain ⟨i1, i2, i3, i4, i5, i6⟩ := hi2
  obtain ⟨s1, s2, ⟨s3, s4⟩, s5, ⟨s6, s7⟩, s8, ⟨s9, s10⟩⟩ := hS1
  have hb := qd_dec10 i6 i5.2.1
  have := i5.1
  refine xs_ga rd rs 0 (by omega) (by omega) (by omega) (by omega) (fun x hx => (i5.2.2.2.1 x hx).2.2) i5.1 s6 s10 s7 0 rfl _ (fun ch1 tl1 dn1 df1 dl1 ss1 hlo hdl hsg => ?_)
  exact hp ch1 tl1 dn1 df1 dl1 ss1 wc _ dm _ ⟨fun f hf => hlo _ _ (by omega) (i2 f hf) (s1 f hf), fun f hf => hlo _ _ (by omega) (i2 f hf) (s2 f hf), ⟨s3, (fun k c hc => nomatch hc)⟩, hlo _ _ (by omega) (qf_o_some i4) s5, ⟨rfl, hdl⟩, s8, rfl, hsg⟩
end
