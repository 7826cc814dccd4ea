/-! the class: a sync -/
def qf_mx (f : Nat) (a b : Nat → qf_X) : Nat → qf_X := fun g => if g < f then a g else b g
theorem qf_mx_lt {f g : Nat} {a b : Nat → qf_X} (h : g < f) : qf_mx f a b g = a g := if_pos h
theorem qf_mx_ge {f g : Nat} {a b : Nat → qf_X} (h : ¬ g < f) : qf_mx f a b g = b g := if_neg h
def qf_pt (f : Nat) (o : qf_X) (b : Nat → qf_X) : Nat → qf_X := fun g => if g = f then o else b g
theorem qf_pt_s {f : Nat} {o : qf_X} {b : Nat → qf_X} : qf_pt f o b f = o := if_pos rfl
theorem qf_pt_n {f g : Nat} {o : qf_X} {b : Nat → qf_X} (h : ¬ g = f) : qf_pt f o b g = b g := if_neg h
def qx_F (now base : Nat → qf_X) (wt : List (Nat × qf_X)) (dr : List Nat) (ch tl : Nat → Int32) : Prop :=
  (∀ f, f < 10 → qx_slot ch tl f (now f)) ∧ (∀ f, f < 10 → qx_slot ch tl (10 + f) (base f)) ∧ (∀ k c, wt[k]? = some c → qx_slot ch tl (20 + k) c.2) ∧ qx_slot ch tl 26 (some dr)
def qx_Fo (now base : Nat → qf_X) (wt : List (Nat × qf_X)) (dr : List Nat) : Prop :=
  (∀ f, f < 10 → qf_o (now f)) ∧ (∀ f, f < 10 → qf_o (base f)) ∧ (wt.length ≤ 6 ∧ ∀ c, c ∈ wt → qf_o c.2) ∧ qf_t dr
def qx_dl (docs : List qf_D) (ch tl dn df dl : Nat → Int32) : Prop := ∀ d x, docs[d]? = some x → qx_doc ch tl dn df dl d x
def qx_kp (s0 : Nat) (ch tl ch' tl' : Nat → Int32) : Prop := ∀ s o', s ≠ s0 → qf_o o' → qx_slot ch tl s o' → qx_slot ch' tl' s o'
theorem qf_o_some {t : List Nat} (h : qf_t t) : qf_o (some t) := fun t' e => by cases e; exact h
theorem qf_o_none : qf_o none := fun _ e => nomatch e
theorem qx_F_hi {now base : Nat → qf_X} {wt : List (Nat × qf_X)} {dr : List Nat} {ch tl ch' tl' : Nat → Int32} {s0 : Nat} (ho : qx_Fo now base wt dr) (h : qx_F now base wt dr ch tl) (hk : qx_kp s0 ch tl ch' tl') (hs : 27 ≤ s0) : qx_F now base wt dr ch' tl' := by
  refine ⟨fun f hf => hk f _ (by omega) (ho.1 f hf) (h.1 f hf), fun f hf => hk _ _ (by omega) (ho.2.1 f hf) (h.2.1 f hf), fun k c hc => ?_, hk 26 _ (by omega) (qf_o_some ho.2.2.2) h.2.2.2⟩
  have := qr_get_lt hc
  have := ho.2.2.1.1
  exact hk _ _ (by omega) (ho.2.2.1.2 c (qr_get_in hc)) (h.2.2.1 k c hc)
theorem qx_F_base {now base : Nat → qf_X} {wt : List (Nat × qf_X)} {dr : List Nat} {ch tl ch' tl' : Nat → Int32} {f : Nat} (hf : f < 10) {o : qf_X} (ho : qx_Fo now base wt dr) (h : qx_F now base wt dr ch tl) (hk : qx_kp (10 + f) ch tl ch' tl') (hs : qx_slot ch' tl' (10 + f) o) : qx_F now (qf_pt f o base) wt dr ch' tl' := by
  refine ⟨fun g hg => hk g _ (by omega) (ho.1 g hg) (h.1 g hg), fun g hg => ?_, fun k c hc => ?_, hk 26 _ (by omega) (qf_o_some ho.2.2.2) h.2.2.2⟩
  · by_cases z : g = f
    · subst z; rw [qf_pt_s]; exact hs
    · rw [qf_pt_n z]; exact hk _ _ (by omega) (ho.2.1 g hg) (h.2.1 g hg)
  · have := qr_get_lt hc
    have := ho.2.2.1.1
    exact hk _ _ (by omega) (ho.2.2.1.2 c (qr_get_in hc)) (h.2.2.1 k c hc)
theorem qx_dl_kp {docs : List qf_D} {ch tl dn df dl ch' tl' : Nat → Int32} {s0 : Nat} (ht : ∀ x, x ∈ docs → qf_t x.2.2.2) (h : qx_dl docs ch tl dn df dl) (hk : qx_kp s0 ch tl ch' tl') (hs : s0 < 27 ∨ 27 + docs.length ≤ s0) : qx_dl docs ch' tl' dn df dl := by
  intro d x hx
  obtain ⟨a1, a2, a3, a4⟩ := h d x hx
  have := qr_get_lt hx
  exact ⟨a1, a2, a3, hk _ _ (by omega) (qf_o_some (ht x (qr_get_in hx))) a4⟩
theorem qx_dl_app {docs : List qf_D} {ch tl dn df dl : Nat → Int32} {y : qf_D} {b : Int32} (h : qx_dl docs ch tl dn df dl) (hs : qx_slot ch tl (27 + docs.length) (some y.2.2.2)) (hb : b = if y.2.2.1 = true then 1 else 0) : qx_dl (docs ++ [y]) ch tl (upd dn docs.length (nI y.1)) (upd df docs.length (nI y.2.1)) (upd dl docs.length b) := by
  intro d x hx
  by_cases z : d < docs.length
  · rw [List.getElem?_append_left z] at hx
    obtain ⟨a1, a2, a3, a4⟩ := h d x hx
    exact ⟨(pk_un (by omega)).trans a1, (pk_un (by omega)).trans a2, (pk_un (by omega)).trans a3, a4⟩
  · have e : d = docs.length := by
      have := qr_get_lt hx
      rw [List.length_append, List.length_singleton] at this
      omega
    subst e
    rw [List.getElem?_append_right (Nat.le_refl _), Nat.sub_self] at hx
    have e : y = x := by simpa using hx
    subst e
    exact ⟨pk_us, pk_us, pk_us.trans hb, hs⟩
def qd_dk (ch : List Nat) (i d : Nat) (x : qf_D) : qf_D := if d < i then qd_dead ch x else x
theorem qd_dk_lt {ch : List Nat} {i d : Nat} {x : qf_D} (h : d < i) : qd_dk ch i d x = qd_dead ch x := if_pos h
theorem qd_dk_ge {ch : List Nat} {i d : Nat} {x : qf_D} (h : ¬ d < i) : qd_dk ch i d x = x := if_neg h
theorem xs_b1 : vp_nar .boolean 1 = 1 := by decide
theorem xs_b0 : vp_nar .boolean 0 = 0 := by decide
section
variable {xwc xdc xdm xsc xtc xnc xmc xbr xwt : Int32} {xch xtl xwf xdn xdf xdl xss xtk xta xtb xnk xna xnb xnl xnr xns xfa xfs xfi xrc xcl xhd xhi xwo : Nat → Int32} {xrw xre : Nat → Int64}
theorem xs_copy' {xt xf : Int32} (to fr : Nat) (et : xt = nI to) (ef : xf = nI fr) (hto : to < 91) (hfr : fr < 91) (o : qf_X) (ho : qf_o o) (hs : qx_slot xch xtl fr o) (post : SX → Prop)
  (hp : ∀ ch' tl' : Nat → Int32, qx_slot ch' tl' to o → qx_kp to xch xtl ch' tl' → post (xwc, xdc, xdm, xsc, xtc, xnc, xmc, xbr, xwt, ch', tl', xwf, xdn, xdf, xdl, xss, xtk, xta, xtb, xnk, xna, xnb, xnl, xnr, xns, xfa, xfs, xfi, xrw, xrc, xcl, xhd, xre, xhi, xwo)) : wpX_copyText post (xwc, xdc, xdm, xsc, xtc, xnc, xmc, xbr, xwt, xch, xtl, xwf, xdn, xdf, xdl, xss, xtk, xta, xtb, xnk, xna, xnb, xnl, xnr, xns, xfa, xfs, xfi, xrw, xrc, xcl, xhd, xre, xhi, xwo) xt xf := by
  subst et; subst ef
  exact xs_copy to fr hto hfr o ho hs post hp
theorem xs_mk (docs : List qf_D) (f made : Nat) (hf : f < 10) (o : qf_X) (ho : qf_o o) (hs : qx_slot xch xtl f o) (hd : docs.length < 64) (hc : xdc = nI docs.length) (hm : xdm = nI made) (hdl : qx_dl docs xch xtl xdn xdf xdl) (hdt : ∀ x, x ∈ docs → qf_t x.2.2.2) (post : SX → Prop)
  (h0 : o = none → post (xwc, xdc, xdm, xsc, xtc, xnc, xmc, xbr, xwt, xch, xtl, xwf, xdn, xdf, xdl, xss, xtk, xta, xtb, xnk, xna, xnb, xnl, xnr, xns, xfa, xfs, xfi, xrw, xrc, xcl, xhd, xre, xhi, xwo))
  (h1 : ∀ t, o = some t → ∀ ch tl dn df dl : Nat → Int32, qx_dl (docs ++ [(made, f, true, t)]) ch tl dn df dl → qx_kp (27 + docs.length) xch xtl ch tl → post (xwc, nI (docs.length + 1), nI (made + 1), xsc, xtc, xnc, xmc, xbr, xwt, ch, tl, xwf, dn, df, dl, xss, xtk, xta, xtb, xnk, xna, xnb, xnl, xnr, xns, xfa, xfs, xfi, xrw, xrc, xcl, xhd, xre, xhi, xwo)) : wpX_makeDocument post (xwc, xdc, xdm, xsc, xtc, xnc, xmc, xbr, xwt, xch, xtl, xwf, xdn, xdf, xdl, xss, xtk, xta, xtb, xnk, xna, xnb, xnl, xnr, xns, xfa, xfs, xfi, xrw, xrc, xcl, xhd, xre, xhi, xwo) (nI f) := by
  subst hc; subst hm
  unfold wpX_makeDocument
  refine xs_there f hf o ho hs _ (fun e => br_t rfl (h0 e)) (fun t e => br_f (by decide) (br_t (nI_lt (b := 64) hd (by decide)) ?_))
  have hi : vp_in (nI docs.length) 64 := pk_in docs.length 64 hd
  have cc : (nI docs.length).toNatClampNeg = docs.length := nI_clamp (by omega)
  refine ⟨hi, nm_e ⟨hi, nm_e ⟨hi, nm_e ?_⟩⟩⟩
  rw [cc, xs_b1]
  refine xs_copy' (27 + docs.length) f (nI_add 27 docs.length) rfl (by omega) (by omega) o ho hs _ (fun ch tl hsl hk => ?_)
  refine nm_r (nI_1 _) (nm_r (nI_1 _) ?_)
  have hdl' := qx_dl_kp hdt hdl hk (Or.inr (Nat.le_refl _))
  rw [e] at hsl
  exact h1 t e ch tl _ _ _ (qx_dl_app (y := (made, f, true, t)) hdl' hsl rfl) hk
/-- the documents of changed files are LIVE no more -/
theorem xs_sy1 (docs : List qf_D) (wt : List (Nat × qf_X)) (hl : wt.length ≤ 6) (hw : ∀ k c, wt[k]? = some c → xwf k = nI c.1 ∧ c.1 < 10) (hwc : xwc = nI wt.length) (hc : xdc = nI docs.length) (hd : docs.length ≤ 64) (hf : ∀ d x, docs[d]? = some x → xdf d = nI x.2.1 ∧ x.2.1 < 10) (post : SX → Prop)
  (hp : ∀ dl : Nat → Int32, (∀ d x, docs[d]? = some x → dl d = if (qd_dead (qd_ch wt) x).2.2.1 = true then 1 else 0) → ∃ m : Nat, wX_syncChanges_43 post xdc m 0 xwc xdc xdm xsc xtc xnc xmc xbr xwt xch xtl xwf xdn xdf dl xss xtk xta xtb xnk xna xnb xnl xnr xns xfa xfs xfi xrw xrc xcl xhd xre xhi xwo) :
  ∀ (n i : Nat) (dl : Nat → Int32), i ≤ docs.length → docs.length - i < n → (∀ d x, docs[d]? = some x → dl d = if (qd_dk (qd_ch wt) i d x).2.2.1 = true then 1 else 0) → wX_syncChanges_2 post xwc xdc xdm xsc xtc xnc xmc xbr xwt n (nI i) xch xtl xwf xdn xdf dl xss xtk xta xtb xnk xna xnb xnl xnr xns xfa xfs xfi xrw xrc xcl xhd xre xhi xwo := by
  intro n
  induction n with
  | zero => intro i dl h1 h2; omega
  | succ n ih =>
    intro i dl h1 h2 h3
    refine pk_le docs.length i (fun hle => ?_) (fun hlt => ?_) hc
    · refine hp dl (fun d x hx => ?_)
      have := qr_get_lt hx
      rw [h3 d x hx, qd_dk_lt (by omega)]
    · have hg : docs[i]? = some docs[i] := List.getElem?_eq_getElem hlt
      have ci : (nI i).toNatClampNeg = i := nI_clamp (by omega)
      have hi : vp_in (nI i) 64 := pk_in i 64 (by omega)
      obtain ⟨a1, a2⟩ := hf i _ hg
      refine ⟨hi, ?_⟩
      rw [ci, a1]
      refine xs_isch wt docs[i].2.1 a2 hl hw _ hwc ?_
      by_cases z : docs[i].2.1 ∈ qd_ch wt
      · rw [if_pos z]
        refine br_f (by decide) ⟨hi, nm_e (nm_r (nI_1 i) ?_)⟩
        rw [xs_b0]
        refine ih (i + 1) _ (by omega) (by omega) ?_
        intro d x hx
        by_cases y : d = i
        · subst y
          rw [hg] at hx
          cases hx
          rw [pk_us, qd_dk_lt (by omega)]
          unfold qd_dead
          rw [if_pos z]
          rfl
        · rw [pk_un y, h3 d x hx]
          by_cases w : d < i
          · rw [qd_dk_lt w, qd_dk_lt (by omega)]
          · rw [qd_dk_ge w, qd_dk_ge (by omega)]
      · rw [if_neg z]
        refine br_t rfl (nm_r (nI_1 i) ?_)
        refine ih (i + 1) _ (by omega) (by omega) ?_
        intro d x hx
        rw [h3 d x hx]
        by_cases y : d = i
        · subst y
          rw [hg] at hx
          cases hx
          rw [qd_dk_ge (by omega), qd_dk_lt (by omega)]
          unfold qd_dead
          rw [if_neg z]
        · by_cases w : d < i
          · rw [qd_dk_lt w, qd_dk_lt (by omega)]
          · rw [qd_dk_ge w, qd_dk_ge (by omega)]
end
