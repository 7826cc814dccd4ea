/-! the class: a whole sync, and what stands on it -/
def qd_d2 (docs : List qf_D) (wt : List (Nat × qf_X)) (now : Nat → qf_X) (made : Nat) : List qf_D := docs.map (qd_dead (qd_ch wt)) ++ qd_new (qd_ch wt) now 10 0 made
def qd_s2 (segs : List Nat) (wt : List (Nat × qf_X)) (now : Nat → qf_X) (made : Nat) : List Nat := qd_s1 segs (qd_new (qd_ch wt) now 10 0 made).length
def qd_m2 (wt : List (Nat × qf_X)) (now : Nat → qf_X) (made : Nat) : Nat := made + (qd_new (qd_ch wt) now 10 0 made).length
def qd_sy (docs : List qf_D) (segs : List Nat) (wt : List (Nat × qf_X)) (now : Nat → qf_X) (made : Nat) : List qf_D × List Nat := qd_mg (qd_s2 segs wt now made).length (qd_d2 docs wt now made) (qd_s2 segs wt now made)
theorem qx_dl_dead {docs : List qf_D} {ch : List Nat} {xch xtl xdn xdf xdl dl : Nat → Int32} (h : qx_dl docs xch xtl xdn xdf xdl) (h' : ∀ d x, docs[d]? = some x → dl d = if (qd_dead ch x).2.2.1 = true then 1 else 0) : qx_dl (docs.map (qd_dead ch)) xch xtl xdn xdf dl := by
  intro d x hx
  rw [List.getElem?_map] at hx
  cases hy : docs[d]? with
  | none => rw [hy] at hx; exact nomatch hx
  | some y =>
    rw [hy] at hx
    have e : qd_dead ch y = x := by simpa using hx
    obtain ⟨a1, a2, a3, a4⟩ := h d y hy
    have b := h' d y hy
    rw [e] at b
    have e2 : x.1 = y.1 ∧ x.2.1 = y.2.1 ∧ x.2.2.2 = y.2.2.2 := by
      rw [← e]
      unfold qd_dead
      split <;> exact ⟨rfl, rfl, rfl⟩
    refine ⟨by rw [e2.1]; exact a1, by rw [e2.2.1]; exact a2, b, by rw [e2.2.2]; exact a4⟩
theorem qd_dead_t {docs : List qf_D} (ch : List Nat) (h : ∀ x, x ∈ docs → qf_t x.2.2.2) : ∀ x, x ∈ docs.map (qd_dead ch) → qf_t x.2.2.2 := by
  intro x hx
  obtain ⟨y, hy, rfl⟩ := List.mem_map.mp hx
  have e : (qd_dead ch y).2.2.2 = y.2.2.2 := by unfold qd_dead; split <;> rfl
  rw [e]
  exact h y hy
theorem qd_new_t {ch : List Nat} {now : Nat → qf_X} (hn : ∀ f, f < 10 → qf_o (now f)) (m made : Nat) (hm : m ≤ 10) : ∀ x, x ∈ qd_new ch now m 0 made → qf_t x.2.2.2 := by
  intro x hx
  obtain ⟨_, _, _, a4, _, _, a7⟩ := qd_new_in ch now m 0 made x hx
  exact hn _ (by omega) _ a7
section
variable {xwc xdc xdm xsc xtc xnc xmc xbr xwt : Int32} {xch xtl xwf xdn xdf xdl xss xtk xta xtb xnk xna xnb xnl xnr xns xfa xfs xfi xrc xcl xhd xhi xwo : Nat → Int32} {xrw xre : Nat → Int64}
theorem xs_sy2 (now base : Nat → qf_X) (wt : List (Nat × qf_X)) (dr : List Nat) (docs : List qf_D) (segs : List Nat) (made : Nat) (ho : qx_Fo now base wt dr) (hb : ∀ f, f < 10 → f ∉ qd_ch wt → base f = now f) (hw : ∀ k c, wt[k]? = some c → xwf k = nI c.1 ∧ c.1 < 10) (hwc : xwc = nI wt.length) (hd : docs.length ≤ 55) (hdt : ∀ x, x ∈ docs → qf_t x.2.2.2) (hsl : segs.length ≤ 10) (hs : qx_sg segs xss) (hsc : xsc = nI segs.length) (post : SX → Prop)
  (hp : ∀ ch tl dn df dl ss : Nat → Int32, qx_F now now wt dr ch tl → qx_dl (docs ++ qd_new (qd_ch wt) now 10 0 made) ch tl dn df dl → qx_sg (qd_s1 segs (qd_new (qd_ch wt) now 10 0 made).length) ss → ∃ m : Nat, wX_syncChanges_126 post m 0 0 (nI (docs ++ qd_new (qd_ch wt) now 10 0 made).length) (nI (made + (qd_new (qd_ch wt) now 10 0 made).length)) (nI (qd_s1 segs (qd_new (qd_ch wt) now 10 0 made).length).length) xtc xnc xmc xbr xwt ch tl xwf dn df dl ss xtk xta xtb xnk xna xnb xnl xnr xns xfa xfs xfi xrw xrc xcl xhd xre xhi xwo) :
  ∀ (n f : Nat) (ch tl dn df dl : Nat → Int32), f ≤ 10 → 10 - f < n → qx_F now (qf_mx f now base) wt dr ch tl → qx_dl (docs ++ qd_new (qd_ch wt) now f 0 made) ch tl dn df dl → wX_syncChanges_43 post (nI docs.length) n (nI f) xwc (nI (docs ++ qd_new (qd_ch wt) now f 0 made).length) (nI (made + (qd_new (qd_ch wt) now f 0 made).length)) xsc xtc xnc xmc xbr xwt ch tl xwf dn df dl xss xtk xta xtb xnk xna xnb xnl xnr xns xfa xfs xfi xrw xrc xcl xhd xre xhi xwo := by
  intro n
  induction n with
  | zero => intro f ch tl dn df dl h1 h2; omega
  | succ n ih =>
    intro f ch tl dn df dl h1 h2 h3 h4
    have hln := qd_new_len (qd_ch wt) now f 0 made
    have hlc : (qd_ch wt).length = wt.length := List.length_map _
    have hwl := ho.2.2.1.1
    refine pk_le 10 f (fun hle => ?_) (fun hlt => ?_)
    · have e : f = 10 := by omega
      subst e
      have hF : qx_F now now wt dr ch tl := ⟨h3.1, fun g hg => by have := h3.2.1 g hg; rw [qf_mx_lt hg] at this; exact this, h3.2.2⟩
      refine pk_le (docs ++ qd_new (qd_ch wt) now 10 0 made).length docs.length (fun hle => ?_) (fun hlt => ?_) rfl rfl (by rw [List.length_append]; omega) (by omega)
      · rw [List.length_append] at hle
        have e4 : qd_s1 segs (qd_new (qd_ch wt) now 10 0 made).length = segs := by
          unfold qd_s1
          rw [if_pos (by omega), List.append_nil]
        have := hp ch tl dn df dl xss hF h4 (by rw [e4]; exact hs)
        rw [e4, ← hsc] at this
        exact this
      · rw [List.length_append] at hlt
        have e4 : qd_s1 segs (qd_new (qd_ch wt) now 10 0 made).length = segs ++ [(qd_new (qd_ch wt) now 10 0 made).length] := by
          unfold qd_s1
          rw [if_neg (by omega)]
        subst hsc
        have e5 : nI (docs ++ qd_new (qd_ch wt) now 10 0 made).length - nI docs.length = nI (qd_new (qd_ch wt) now 10 0 made).length := by
          rw [pk_sub (by rw [List.length_append]; omega)]
          congr 1
          rw [List.length_append]
          omega
        have cs : (nI segs.length).toNatClampNeg = segs.length := nI_clamp (by omega)
        refine br_f (nI_ge (b := 16) (by omega) (by decide)) ⟨pk_in segs.length 16 (by omega), nm_e (nm_r (nI_1 _) ?_)⟩
        rw [cs, e5]
        have := hp ch tl dn df dl (upd xss segs.length (nI (qd_new (qd_ch wt) now 10 0 made).length)) hF h4 (by
          rw [e4]
          intro k s hk
          by_cases z : k < segs.length
          · rw [List.getElem?_append_left z] at hk
            exact (pk_un (by omega)).trans (hs k s hk)
          · have hk' := qr_get_lt hk
            rw [List.length_append, List.length_singleton] at hk'
            have : k = segs.length := by omega
            subst this
            rw [List.getElem?_append_right (Nat.le_refl _), Nat.sub_self] at hk
            have e : (qd_new (qd_ch wt) now 10 0 made).length = s := by simpa using hk
            rw [← e]
            exact pk_us)
        have e6 : (segs ++ [(qd_new (qd_ch wt) now 10 0 made).length]).length = segs.length + 1 := by rw [List.length_append]; rfl
        rw [e4, e6] at this
        exact this
    · have hcut := qd_new_cut (qd_ch wt) now f 0 made
      rw [Nat.zero_add] at hcut
      refine xs_isch wt f hlt hwl hw _ hwc ?_
      by_cases z : f ∈ qd_ch wt
      · rw [if_pos z] at hcut ⊢
        refine br_f (by decide) ?_
        have hon : qf_o (now f) := ho.1 f hlt
        have ho1 : qx_Fo now (qf_mx f now base) wt dr := ⟨ho.1, fun g hg => by unfold qf_mx; split; exact ho.1 g hg; exact ho.2.1 g hg, ho.2.2⟩
        refine xs_copy' (10 + f) f (nI_add 10 f) rfl (by omega) (by omega) (now f) hon (h3.1 f hlt) _ (fun ch1 tl1 hsl1 hk1 => ?_)
        have hF1 := qx_F_base hlt ho1 h3 hk1 hsl1
        have hF2 : qx_F now (qf_mx (f + 1) now base) wt dr ch1 tl1 := by
          refine ⟨hF1.1, fun g hg => ?_, hF1.2.2⟩
          have a := hF1.2.1 g hg
          by_cases y : g = f
          · subst y
            rw [qf_pt_s] at a
            rw [qf_mx_lt (by omega)]
            exact a
          · rw [qf_pt_n y] at a
            by_cases w : g < f
            · rw [qf_mx_lt w] at a; rw [qf_mx_lt (by omega)]; exact a
            · rw [qf_mx_ge w] at a; rw [qf_mx_ge (by omega)]; exact a
        have hot : ∀ x, x ∈ docs ++ qd_new (qd_ch wt) now f 0 made → qf_t x.2.2.2 := by
          intro x hx
          rcases List.mem_append.mp hx with y | y
          · exact hdt x y
          · exact qd_new_t ho.1 f made h1 x y
        have ho2 : qx_Fo now (qf_mx (f + 1) now base) wt dr := ⟨ho.1, fun g hg => by unfold qf_mx; split; exact ho.1 g hg; exact ho.2.1 g hg, ho.2.2⟩
        have h4' := qx_dl_kp hot h4 hk1 (Or.inl (by omega))
        refine xs_mk (docs ++ qd_new (qd_ch wt) now f 0 made) f (made + (qd_new (qd_ch wt) now f 0 made).length) hlt (now f) hon (hF2.1 f hlt) (by rw [List.length_append]; omega) rfl rfl h4' hot _ (fun e => ?_) (fun t e ch2 tl2 dn2 df2 dl2 hd2 hk2 => ?_)
        · rw [e] at hcut
          dsimp only at hcut
          rw [List.append_nil] at hcut
          refine nm_r (nI_1 f) ?_
          have := ih (f + 1) ch1 tl1 dn df dl (by omega) (by omega) hF2 (by rw [hcut]; exact h4')
          rw [hcut] at this
          exact this
        · rw [e] at hcut
          dsimp only at hcut
          refine nm_r (nI_1 f) ?_
          have := ih (f + 1) ch2 tl2 dn2 df2 dl2 (by omega) (by omega) (qx_F_hi ho2 hF2 hk2 (by omega)) (by rw [hcut, ← List.append_assoc]; exact hd2)
          rw [hcut] at this
          simp only [List.length_append, List.length_singleton, ← Nat.add_assoc] at this ⊢
          exact this
      · rw [if_neg z, List.append_nil] at hcut
        rw [if_neg z]
        refine br_t rfl (nm_r (nI_1 f) ?_)
        have := ih (f + 1) ch tl dn df dl (by omega) (by omega) ⟨h3.1, fun g hg => ?_, h3.2.2⟩ (by rw [hcut]; exact h4)
        · rw [hcut] at this
          exact this
        · have a := h3.2.1 g hg
          by_cases y : g = f
          · subst y
            rw [qf_mx_ge (by omega), hb g hg z] at a
            rw [qf_mx_lt (by omega)]
            exact a
          · by_cases w : g < f
            · rw [qf_mx_lt w] at a; rw [qf_mx_lt (by omega)]; exact a
            · rw [qf_mx_ge w] at a; rw [qf_mx_ge (by omega)]; exact a
/-- merges -/
theorem xs_due (segs : List Nat) (hl : segs.length ≤ 16) (hs : qx_sg segs xss) (hsc : xsc = nI segs.length) (hsum : segs.sum < 1000) (post : Int32 → Prop) (h0 : ¬ (2 ≤ segs.length ∧ segs.getD (segs.length - 2) 0 ≤ segs.getD (segs.length - 1) 0) → post 0) (h1 : 2 ≤ segs.length ∧ segs.getD (segs.length - 2) 0 ≤ segs.getD (segs.length - 1) 0 → post 1) : wpX_isMergeDue post (xwc, xdc, xdm, xsc, xtc, xnc, xmc, xbr, xwt, xch, xtl, xwf, xdn, xdf, xdl, xss, xtk, xta, xtb, xnk, xna, xnb, xnl, xnr, xns, xfa, xfs, xfi, xrw, xrc, xcl, xhd, xre, xhi, xwo) := by
  subst hsc
  refine pk_lt segs.length 2 (fun h => h0 (by omega)) (fun h => ?_)
  have e1 : nI segs.length - 1 = nI (segs.length - 1) := pk_sub (b := 1) (by omega)
  have e2 : nI segs.length - 2 = nI (segs.length - 2) := pk_sub (b := 2) (by omega)
  have g1 := qd_get_le (segs := segs) (segs.length - 1)
  have g2 := qd_get_le (segs := segs) (segs.length - 2)
  refine ⟨pk_in (segs.length - 1) 16 (by omega) e1, pk_in (segs.length - 2) 16 (by omega) e2, ?_⟩
  rw [e1, e2, nI_clamp (by omega), nI_clamp (by omega), qx_sg_get hs (by omega), qx_sg_get hs (by omega)]
  exact pk_lt _ _ (fun h => h0 (by omega)) (fun h => h1 (by omega)) rfl rfl (by omega) (by omega)
theorem xs_mgl (made : Nat) (post : SX → Prop) (ch0 tl0 : Nat → Int32) :
  ∀ (k n c : Nat) (docs : List qf_D) (segs : List Nat) (ch tl dn df dl ss : Nat → Int32), k < n → segs.length ≤ k → c + segs.length ≤ 12 → qd_ok docs segs made → qd_dec segs.dropLast → docs.length ≤ 64 → qx_lo ch0 tl0 ch tl → qx_dl docs ch tl dn df dl → qx_sg segs ss →
  (∀ ch tl dn df dl ss : Nat → Int32, qx_lo ch0 tl0 ch tl → qx_dl (qd_mg k docs segs).1 ch tl dn df dl → qx_sg (qd_mg k docs segs).2 ss → post (xwc, nI (qd_mg k docs segs).1.length, xdm, nI (qd_mg k docs segs).2.length, xtc, xnc, xmc, xbr, xwt, ch, tl, xwf, dn, df, dl, ss, xtk, xta, xtb, xnk, xna, xnb, xnl, xnr, xns, xfa, xfs, xfi, xrw, xrc, xcl, xhd, xre, xhi, xwo)) →
  wX_syncChanges_126 post n (nI c) xwc (nI docs.length) xdm (nI segs.length) xtc xnc xmc xbr xwt ch tl xwf dn df dl ss xtk xta xtb xnk xna xnb xnl xnr xns xfa xfs xfi xrw xrc xcl xhd xre xhi xwo := by
  intro k
  induction k with
  | zero =>
    intro n c docs segs ch tl dn df dl ss hn hk hc hok hdec hd hlo hdl hsg hp
    obtain ⟨n, rfl⟩ : ∃ m, n = m + 1 := ⟨n - 1, by omega⟩
    refine br_f (nI_ge (b := 16) (by omega) (by decide)) ?_
    refine xs_due segs (by omega) hsg rfl (by have := hok.1; omega) _ (fun _ => br_t rfl (hp ch tl dn df dl ss hlo hdl hsg)) (fun h => absurd h.1 (by omega))
  | succ k ih =>
    intro n c docs segs ch tl dn df dl ss hn hk hc hok hdec hd hlo hdl hsg hp
    obtain ⟨n, rfl⟩ : ∃ m, n = m + 1 := ⟨n - 1, by omega⟩
    unfold qd_mg at hp
    refine br_f (nI_ge (b := 16) (by omega) (by decide)) ?_
    refine xs_due segs (by omega) hsg rfl (by have := hok.1; omega) _ (fun h => ?_) (fun h => ?_)
    · rw [if_neg h] at hp
      exact br_t rfl (hp ch tl dn df dl ss hlo hdl hsg)
    · rw [if_pos h] at hp
      have hg := qd_gs_dec (docs := docs) hdec h.1
      have hok' := qd_ga_ok hok (segs.length - 2)
      have hsub : (qd_gd (segs.length - 2) docs segs).length ≤ docs.length := (qd_sub (docs := docs) (first := segs.length - 2) (segs := segs)).length_le
      refine br_f (by decide) ?_
      refine xs_ga docs segs (segs.length - 2) (by omega) (by omega) (by omega) hd (fun x hx => (hok.2.2.2.1 x hx).2.2) hok.1 rfl hsg hdl _ (pk_sub (b := 2) (by omega)) _ (fun ch1 tl1 dn1 df1 dl1 ss1 hlo1 hdl1 hsg1 => ?_)
      refine nm_r (nI_1 c) ?_
      exact ih n (c + 1) _ _ ch1 tl1 dn1 df1 dl1 ss1 (by omega) (by omega) (by omega) hok' hg.1 (by omega) (fun s o' h1 h2 h3 => hlo1 s o' h1 h2 (hlo s o' h1 h2 h3)) hdl1 hsg1 hp
theorem xs_sync (now base : Nat → qf_X) (wt : List (Nat × qf_X)) (dr : List Nat) (docs : List qf_D) (segs : List Nat) (made : Nat) (hi : qf_inv now base wt dr docs segs made) (hS : qx_S now base wt dr docs segs made xch xtl xwf xwc xdn xdf xdl xdc xdm xss xsc) (post : SX → Prop)
  (hp : ∀ ch tl dn df dl ss : Nat → Int32, ∀ wc dc dm sc : Int32, qx_S now now [] dr (qd_sy docs segs wt now made).1 (qd_sy docs segs wt now made).2 (qd_m2 wt now made) ch tl xwf wc dn df dl dc dm ss sc → post (wc, dc, dm, sc, xtc, xnc, xmc, xbr, xwt, ch, tl, xwf, dn, df, dl, ss, xtk, xta, xtb, xnk, xna, xnb, xnl, xnr, xns, xfa, xfs, xfi, xrw, xrc, xcl, xhd, xre, xhi, xwo)) : wpX_syncChanges post (xwc, xdc, xdm, xsc, xtc, xnc, xmc, xbr, xwt, xch, xtl, xwf, xdn, xdf, xdl, xss, xtk, xta, xtb, xnk, xna, xnb, xnl, xnr, xns, xfa, xfs, xfi, xrw, xrc, xcl, xhd, xre, xhi, xwo) := by
  obtain ⟨i1, i2, i3, i4, i5, i6⟩ := hi
  obtain ⟨s1, s2, ⟨s3, s4⟩, s5, ⟨s6, s7⟩, s8, s9, s10⟩ := hS
  subst s3; subst s6; subst s8; subst s9
  have hno : ∀ f, f < 10 → qf_o (now f) := fun f hf => by rw [i1 f hf]; exact qf_aps_o wt base i2 (fun c hc => (i3.2 c hc).2) f hf
  have hw : ∀ k c, wt[k]? = some c → xwf k = nI c.1 ∧ c.1 < 10 := fun k c hc => ⟨(s4 k c hc).1, (i3.2 c (qr_get_in hc)).1⟩
  have hs2 := qd_sync_ok i5 i6 i3.1 hno
  have ho : qx_Fo now base wt dr := ⟨hno, i2, ⟨i3.1, fun c hc => (i3.2 c hc).2⟩, i4⟩
  have hF : qx_F now base wt dr xch xtl := ⟨s1, s2, fun k c hc => (s4 k c hc).2, s5⟩
  have hdt : ∀ x, x ∈ docs → qf_t x.2.2.2 := fun x hx => (i5.2.2.2.1 x hx).2.2
  have hml : (docs.map (qd_dead (qd_ch wt))).length = docs.length := List.length_map _
  have hb : ∀ f, f < 10 → f ∉ qd_ch wt → base f = now f := by
    intro f hf hn
    rw [i1 f hf, qf_aps_no]
    intro c hc e
    exact hn (List.mem_map.mpr ⟨c, hc, e⟩)
  unfold wpX_syncChanges
  refine ⟨docs.length + 1, xs_sy1 docs wt i3.1 hw rfl rfl (by omega) (fun d x hx => ⟨(s7 d x hx).2.1, (i5.2.2.2.1 x (qr_get_in hx)).2.1⟩) post ?_ (docs.length + 1) 0 xdl (by omega) (by omega) (fun d x hx => ?_)⟩
  · intro dl1 hdl1
    have hdl2 := qx_dl_dead s7 hdl1
    have e0 : qd_new (qd_ch wt) now 0 0 made = [] := rfl
    have HP : ∀ ch tl dn df dl ss : Nat → Int32, qx_F now now wt dr ch tl → qx_dl (docs.map (qd_dead (qd_ch wt)) ++ qd_new (qd_ch wt) now 10 0 made) ch tl dn df dl → qx_sg (qd_s1 segs (qd_new (qd_ch wt) now 10 0 made).length) ss → ∃ m : Nat, wX_syncChanges_126 post m 0 0 (nI (docs.map (qd_dead (qd_ch wt)) ++ qd_new (qd_ch wt) now 10 0 made).length) (nI (made + (qd_new (qd_ch wt) now 10 0 made).length)) (nI (qd_s1 segs (qd_new (qd_ch wt) now 10 0 made).length).length) xtc xnc xmc xbr xwt ch tl xwf dn df dl ss xtk xta xtb xnk xna xnb xnl xnr xns xfa xfs xfi xrw xrc xcl xhd xre xhi xwo := by
      intro ch tl dn df dl ss hF' hdl' hsg'
      have hl2 : (qd_d2 docs wt now made).length = docs.length + (qd_new (qd_ch wt) now 10 0 made).length := by unfold qd_d2; rw [List.length_append, hml]
      have hl3 : (qd_s2 segs wt now made).length ≤ 11 := by
        unfold qd_s2 qd_s1
        rw [List.length_append]
        split
        · simp; omega
        · simp; omega
      refine ⟨(qd_s2 segs wt now made).length + 1, ?_⟩
      refine xs_mgl (qd_m2 wt now made) post ch tl (qd_s2 segs wt now made).length _ 0 (qd_d2 docs wt now made) (qd_s2 segs wt now made) ch tl dn df dl ss (by omega) (Nat.le_refl _) (by omega) hs2.1 hs2.2.1 (by omega) (fun s o' _ _ h => h) hdl' hsg' ?_
      intro ch3 tl3 dn3 df3 dl3 ss3 hlo3 hdl3 hsg3
      refine hp ch3 tl3 dn3 df3 dl3 ss3 _ _ _ _ ⟨fun f hf => hlo3 _ _ (by omega) (hno f hf) (hF'.1 f hf), fun f hf => hlo3 _ _ (by omega) (hno f hf) (hF'.2.1 f hf), ⟨rfl, (fun k c hc => nomatch hc)⟩, hlo3 _ _ (by omega) (qf_o_some i4) hF'.2.2.2, ⟨rfl, hdl3⟩, rfl, rfl, hsg3⟩
    have this : wX_syncChanges_43 post (nI (docs.map (qd_dead (qd_ch wt))).length) 11 (nI 0) (nI wt.length) (nI (docs.map (qd_dead (qd_ch wt)) ++ qd_new (qd_ch wt) now 0 0 made).length) (nI (made + (qd_new (qd_ch wt) now 0 0 made).length)) (nI segs.length) xtc xnc xmc xbr xwt xch xtl xwf xdn xdf dl1 xss xtk xta xtb xnk xna xnb xnl xnr xns xfa xfs xfi xrw xrc xcl xhd xre xhi xwo := xs_sy2 now base wt dr (docs.map (qd_dead (qd_ch wt))) segs made ho hb hw rfl (by omega) (qd_dead_t _ hdt) hs2.2.2.2.1 s10 rfl post HP 11 0 xch xtl xdn xdf dl1 (by omega) (by omega) ⟨hF.1, fun g hg => by rw [qf_mx_ge (by omega)]; exact hF.2.1 g hg, hF.2.2⟩ (by rw [e0, List.append_nil]; exact hdl2)
    rw [e0, List.append_nil, hml] at this
    exact ⟨11, this⟩
  · rw [qd_dk_ge (by omega)]
    exact (s7 d x hx).2.2.1
end
