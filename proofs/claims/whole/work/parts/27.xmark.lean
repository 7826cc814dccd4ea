/-! the class: the trigrams of a text are marked and counted -/
def qx_hd (t : List Nat) (m : Nat) (hd : Nat → Int32) : Prop := ∀ c, c < 216 → hd (qt_68 c) = if qt_any t m c = true then 1 else 0
theorem qt_n_le (t : List Nat) : ∀ i, qt_n t i ≤ i
  | 0 => Nat.le_refl _
  | i + 1 => by
    have := qt_n_le t i
    show qt_n t i + _ ≤ _
    split <;> omega
theorem qx_hd_none {t : List Nat} {i : Nat} {hd : Nat → Int32} (h : qx_hd t i hd) (hg : qt_g t i = none) : qx_hd t (i + 1) hd ∧ qt_n t (i + 1) = qt_n t i := by
  constructor
  · intro c hc
    rw [h c hc, qt_any_s, hg]
    simp
  · show qt_n t i + _ = _
    have : qt_new t i = false := by unfold qt_new; rw [hg]
    rw [this]
    rfl
theorem qx_hd_old {t : List Nat} {i c : Nat} {hd : Nat → Int32} (h : qx_hd t i hd) (hg : qt_g t i = some c) (ha : qt_any t i c = true) : qx_hd t (i + 1) hd ∧ qt_n t (i + 1) = qt_n t i := by
  constructor
  · intro d hd'
    rw [h d hd', qt_any_s, hg]
    by_cases z : c = d
    · subst z; rw [ha]; rfl
    · have : (some c == some d) = false := by simp [z]
      rw [this, Bool.or_false]
  · show qt_n t i + _ = _
    have : qt_new t i = false := by unfold qt_new; rw [hg]; simp [ha]
    rw [this]
    rfl
theorem qx_hd_new {t : List Nat} {i c : Nat} {hd : Nat → Int32} (h : qx_hd t i hd) (hg : qt_g t i = some c) (ha : qt_any t i c = false) : qx_hd t (i + 1) (upd hd (qt_68 c) 1) ∧ qt_n t (i + 1) = qt_n t i + 1 := by
  have hc := (qt_g_lt hg).1
  constructor
  · intro d hd'
    rw [qt_any_s, hg]
    by_cases z : c = d
    · subst z; rw [pk_us]; simp
    · have : (some c == some d) = false := by simp [z]
      rw [this, Bool.or_false, pk_un (fun e => z (qt_68_inj hc hd' e.symm)), h d hd']
  · show qt_n t i + _ = _
    have : qt_new t i = true := by unfold qt_new; rw [hg]; simp [ha]
    rw [this]
    rfl
section
variable {xwc xdc xdm xsc xtc xnc xmc xbr xwt : Int32} {xch xtl xwf xdn xdf xdl xss xtk xta xtb xnk xna xnb xnl xnr xns xfa xfs xfi xrc xcl xhd xhi xwo : Nat → Int32} {xrw xre : Nat → Int64}
theorem xm_1 (s : Nat) (hs : s < 91) (t : List Nat) (ht : qf_t t) (h : qx_slot xch xtl s (some t)) (post : Int32 → SX → Prop)
  (hp : ∀ hd : Nat → Int32, qx_hd t t.length hd → post (nI (qt_cnt t)) (xwc, xdc, xdm, xsc, xtc, xnc, xmc, xbr, xwt, xch, xtl, xwf, xdn, xdf, xdl, xss, xtk, xta, xtb, xnk, xna, xnb, xnl, xnr, xns, xfa, xfs, xfi, xrw, xrc, xcl, hd, xre, xhi, xwo)) :
  ∀ (n i : Nat) (hd : Nat → Int32), i ≤ t.length → t.length - i < n → qx_hd t i hd → wX_markTrigrams_26 post (nI s) xwc xdc xdm xsc xtc xnc xmc xbr xwt n (nI (qt_n t i)) (nI i) xch xtl xwf xdn xdf xdl xss xtk xta xtb xnk xna xnb xnl xnr xns xfa xfs xfi xrw xrc xcl hd xre xhi xwo := by
  intro n
  have hL := ht.1
  induction n with
  | zero => intro i hd h1 h2; omega
  | succ n ih =>
    intro i hd h1 h2 h3
    have cs : (nI s).toNatClampNeg = s := nI_clamp (by omega)
    have hnl := qt_n_le t i
    refine ⟨pk_in s 91 hs, ?_⟩
    rw [cs, h.1]
    refine pk_le t.length (i + 2) (fun hle => ?_) (fun hlt => ?_) rfl (nI_add i 2)
    · have := hp hd (fun c hc => by rw [h3 c hc, qt_any_all hle])
      rw [← qt_n_all i hle h1] at this
      exact this
    · refine xl_tat s i hs t ht h (by omega) _ ?_
      unfold qt_8
      cases hg : qt_g t i with
      | none =>
        dsimp only
        obtain ⟨g1, g2⟩ := qx_hd_none h3 hg
        have := ih (i + 1) hd (by omega) (by omega) g1
        rw [g2] at this
        exact br_t rfl (nm_r (nI_1 i) this)
      | some c =>
        dsimp only
        have hc := (qt_g_lt hg).1
        have hc8 := qt_68_lt hc
        have cc : (nI (qt_68 c)).toNatClampNeg = qt_68 c := nI_clamp (by omega)
        have hi : vp_in (nI (qt_68 c)) 512 := pk_in (qt_68 c) 512 hc8
        refine br_f (xs_nm1 (by omega)) ⟨hi, ?_⟩
        rw [cc, h3 c hc]
        cases ha : qt_any t i c with
        | true =>
          obtain ⟨g1, g2⟩ := qx_hd_old h3 hg ha
          have := ih (i + 1) hd (by omega) (by omega) g1
          rw [g2] at this
          exact br_f (by decide) (nm_r (nI_1 i) this)
        | false =>
          obtain ⟨g1, g2⟩ := qx_hd_new h3 hg ha
          have := ih (i + 1) _ (by omega) (by omega) g1
          rw [g2] at this
          refine br_t (by decide) ⟨hi, nm_e (nm_r (nI_1 _) (nm_r (nI_1 i) ?_))⟩
          rw [xs_b1]
          exact this
theorem xm_0 (x1 : Int32) (post : Int32 → SX → Prop) (hp : ∀ hd : Nat → Int32, (∀ j, j < 512 → hd j = 0) → ∃ n : Nat, wX_markTrigrams_26 post x1 xwc xdc xdm xsc xtc xnc xmc xbr xwt n 0 0 xch xtl xwf xdn xdf xdl xss xtk xta xtb xnk xna xnb xnl xnr xns xfa xfs xfi xrw xrc xcl hd xre xhi xwo) :
  ∀ (n i : Nat) (hd : Nat → Int32), i ≤ 512 → 512 - i < n → (∀ j, j < i → hd j = 0) → wX_markTrigrams_2 post x1 xwc xdc xdm xsc xtc xnc xmc xbr xwt n (nI i) xch xtl xwf xdn xdf xdl xss xtk xta xtb xnk xna xnb xnl xnr xns xfa xfs xfi xrw xrc xcl hd xre xhi xwo := by
  intro n
  induction n with
  | zero => intro i hd h1 h2; omega
  | succ n ih =>
    intro i hd h1 h2 h3
    refine pk_le 512 i (fun hle => hp hd (fun j hj => h3 j (by omega))) (fun hlt => ?_)
    have ci : (nI i).toNatClampNeg = i := nI_clamp (by omega)
    refine ⟨pk_in i 512 hlt, nm_e (nm_r (nI_1 i) ?_)⟩
    rw [ci, xs_b0]
    refine ih (i + 1) _ (by omega) (by omega) (fun j hj => ?_)
    by_cases z : j = i
    · subst z; exact pk_us
    · exact (pk_un z).trans (h3 j (by omega))
theorem xm_mark (s : Nat) (hs : s < 91) (t : List Nat) (ht : qf_t t) (h : qx_slot xch xtl s (some t)) (post : Int32 → SX → Prop)
  (hp : ∀ hd : Nat → Int32, qx_hd t t.length hd → post (nI (qt_cnt t)) (xwc, xdc, xdm, xsc, xtc, xnc, xmc, xbr, xwt, xch, xtl, xwf, xdn, xdf, xdl, xss, xtk, xta, xtb, xnk, xna, xnb, xnl, xnr, xns, xfa, xfs, xfi, xrw, xrc, xcl, hd, xre, xhi, xwo)) : wpX_markTrigrams post (xwc, xdc, xdm, xsc, xtc, xnc, xmc, xbr, xwt, xch, xtl, xwf, xdn, xdf, xdl, xss, xtk, xta, xtb, xnk, xna, xnb, xnl, xnr, xns, xfa, xfs, xfi, xrw, xrc, xcl, xhd, xre, xhi, xwo) (nI s) := by
  refine ⟨513, xm_0 (nI s) post ?_ 513 0 xhd (by omega) (by omega) (fun j hj => absurd hj (by omega))⟩
  intro hd h0
  refine ⟨t.length + 1, xm_1 s hs t ht h post hp (t.length + 1) 0 hd (by omega) (by omega) ?_⟩
  intro c hc
  rw [h0 _ (qt_68_lt hc)]
  have : qt_any t 0 c = false := rfl
  rw [this]
  rfl
/-- file -/
theorem xl_file (now base : Nat → qf_X) (wt : List (Nat × qf_X)) (dr : List Nat) (docs : List qf_D) (segs : List Nat) (made : Nat) (hi : qf_inv now base wt dr docs segs made) (hS : qx_S now base wt dr docs segs made xch xtl xwf xwc xdn xdf xdl xdc xdm xss xsc) (p0 p1 : Int32) (post : Int32 → SX → Prop)
  (hb : (p0 < 0 ∨ 10 ≤ p0) → post (-1) (xwc, xdc, xdm, xsc, xtc, xnc, xmc, xbr, xwt, xch, xtl, xwf, xdn, xdf, xdl, xss, xtk, xta, xtb, xnk, xna, xnb, xnl, xnr, xns, xfa, xfs, xfi, xrw, xrc, xcl, xhd, xre, xhi, xwo))
  (h3 : ∀ f, f < 10 → p0 = nI f → p1 = 3 → post (ql_v f docs) (xwc, xdc, xdm, xsc, xtc, xnc, xmc, xbr, xwt, xch, xtl, xwf, xdn, xdf, xdl, xss, xtk, xta, xtb, xnk, xna, xnb, xnl, xnr, xns, xfa, xfs, xfi, xrw, xrc, xcl, xhd, xre, xhi, xwo))
  (h0 : ∀ f, f < 10 → p0 = nI f → ¬ p1 = 3 → now f = none → post (-1) (xwc, xdc, xdm, xsc, xtc, xnc, xmc, xbr, xwt, xch, xtl, xwf, xdn, xdf, xdl, xss, xtk, xta, xtb, xnk, xna, xnb, xnl, xnr, xns, xfa, xfs, xfi, xrw, xrc, xcl, xhd, xre, xhi, xwo))
  (h1 : ∀ f t, f < 10 → p0 = nI f → now f = some t → ¬ p1 = 0 → ¬ p1 = 1 → ¬ p1 = 2 → ¬ p1 = 3 → post (-1) (xwc, xdc, xdm, xsc, xtc, xnc, xmc, xbr, xwt, xch, xtl, xwf, xdn, xdf, xdl, xss, xtk, xta, xtb, xnk, xna, xnb, xnl, xnr, xns, xfa, xfs, xfi, xrw, xrc, xcl, xhd, xre, xhi, xwo))
  (g0 : ∀ f t, f < 10 → p0 = nI f → now f = some t → p1 = 0 → post (nI t.length) (xwc, xdc, xdm, xsc, xtc, xnc, xmc, xbr, xwt, xch, xtl, xwf, xdn, xdf, xdl, xss, xtk, xta, xtb, xnk, xna, xnb, xnl, xnr, xns, xfa, xfs, xfi, xrw, xrc, xcl, xhd, xre, xhi, xwo))
  (g1 : ∀ f t, f < 10 → p0 = nI f → now f = some t → p1 = 1 → post (nI (qn_6 t t.length)) (xwc, xdc, xdm, xsc, xtc, xnc, xmc, xbr, xwt, xch, xtl, xwf, xdn, xdf, xdl, xss, xtk, xta, xtb, xnk, xna, xnb, xnl, xnr, xns, xfa, xfs, xfi, xrw, xrc, xcl, xhd, xre, xhi, xwo))
  (g2 : ∀ f t, f < 10 → p0 = nI f → now f = some t → p1 = 2 → ∀ hd : Nat → Int32, post (nI (qt_cnt t)) (xwc, xdc, xdm, xsc, xtc, xnc, xmc, xbr, xwt, xch, xtl, xwf, xdn, xdf, xdl, xss, xtk, xta, xtb, xnk, xna, xnb, xnl, xnr, xns, xfa, xfs, xfi, xrw, xrc, xcl, hd, xre, xhi, xwo)) : wpX_file post (xwc, xdc, xdm, xsc, xtc, xnc, xmc, xbr, xwt, xch, xtl, xwf, xdn, xdf, xdl, xss, xtk, xta, xtb, xnk, xna, xnb, xnl, xnr, xns, xfa, xfs, xfi, xrw, xrc, xcl, xhd, xre, xhi, xwo) p0 p1 := by
  have hno := qf_now_o hi
  have hb10 := qd_dec10 hi.2.2.2.2.2 hi.2.2.2.2.1.2.1
  have hsm := hi.2.2.2.2.1.1
  unfold wpX_file
  refine xs_fileC p0 _ (fun z => br_t rfl (hb z)) (fun f hf e => br_f (by decide) ?_)
  subst e
  have cf : (nI f).toNatClampNeg = f := nI_clamp (by omega)
  refine br_c (fun z => ?_) (fun z => ?_)
  · exact xl_live docs f hf (by omega) hS.2.2.2.2.1.2 (fun x hx => (hi.2.2.2.2.1.2.2.2.1 x hx).2.1) hS.2.2.2.2.1.1 _ (h3 f hf rfl z)
  · refine xs_there f hf (now f) (hno f hf) (hS.1 f hf) _ (fun e => br_t rfl (h0 f hf rfl z e)) (fun t e => br_f (by decide) ?_)
    have hs : qx_slot xch xtl f (some t) := by rw [← e]; exact hS.1 f hf
    have ht := hno f hf t e
    have hbad : (p1 < 0 ∨ 2 < p1) → post (-1) (xwc, xdc, xdm, xsc, xtc, xnc, xmc, xbr, xwt, xch, xtl, xwf, xdn, xdf, xdl, xss, xtk, xta, xtb, xnk, xna, xnb, xnl, xnr, xns, xfa, xfs, xfi, xrw, xrc, xcl, xhd, xre, xhi, xwo) := by
      intro y
      refine h1 f t hf rfl e ?_ ?_ ?_ z
      · intro w; subst w; rcases y with y | y <;> exact absurd y (by decide)
      · intro w; subst w; rcases y with y | y <;> exact absurd y (by decide)
      · intro w; subst w; rcases y with y | y <;> exact absurd y (by decide)
    refine br_c (fun y => hbad (Or.inl y)) (fun y1 => br_c (fun y => hbad (Or.inr y)) (fun y2 => ?_))
    refine br_c (fun w => ⟨pk_in f 91 (by omega), ?_⟩) (fun w0 => br_c (fun w => ?_) (fun w1 => br_c (fun w => ?_) (fun _ => trivial)))
    · rw [cf, hs.1]; exact g0 f t hf rfl e w
    · exact xl_lines f (by omega) t ht hs _ (g1 f t hf rfl e w)
    · exact xm_mark f (by omega) t ht hs _ (fun hd _ => g2 f t hf rfl e w hd)
end
