/-! the class: what the calls that only look answer -/
def qn_6 (t : List Nat) : Nat → Nat
  | 0 => 1
  | i + 1 => qn_6 t i + (if t.getD i 0 = 6 then 1 else 0)
theorem qn_6_le (t : List Nat) : ∀ i, qn_6 t i ≤ i + 1
  | 0 => Nat.le_refl _
  | i + 1 => by
    have := qn_6_le t i
    show qn_6 t i + _ ≤ _
    split <;> omega
/-- the number of the LIVE document of a file, from the d-th on -/
def ql_v (f : Nat) : List qf_D → Int32
  | [] => -1
  | x :: l => if x.2.2.1 = true ∧ x.2.1 = f then nI x.1 else ql_v f l
def ql_cl : List qf_D → Nat
  | [] => 0
  | x :: l => (if x.2.2.1 = true then 1 else 0) + ql_cl l
def qn_th (now : Nat → qf_X) : Nat → Nat
  | 0 => 0
  | i + 1 => qn_th now i + (match now i with
      | some _ => 1
      | none => 0)
section
variable {xwc xdc xdm xsc xtc xnc xmc xbr xwt : Int32} {xch xtl xwf xdn xdf xdl xss xtk xta xtb xnk xna xnb xnl xnr xns xfa xfs xfi xrc xcl xhd xhi xwo : Nat → Int32} {xrw xre : Nat → Int64}
theorem xl_lines1 (s : Nat) (hs : s < 91) (t : List Nat) (ht : qf_t t) (h : qx_slot xch xtl s (some t)) (post : Int32 → Prop) (hp : post (nI (qn_6 t t.length))) :
  ∀ (n i : Nat), i ≤ t.length → t.length - i < n → wX_countLines_4 post (nI s) xwc xdc xdm xsc xtc xnc xmc xbr xwt xch xtl xwf xdn xdf xdl xss xtk xta xtb xnk xna xnb xnl xnr xns xfa xfs xfi xrw xrc xcl xhd xre xhi xwo n (nI (qn_6 t i)) (nI i) := by
  intro n
  have hL := ht.1
  induction n with
  | zero => intro i h1 h2; omega
  | succ n ih =>
    intro i h1 h2
    have cs : (nI s).toNatClampNeg = s := nI_clamp (by omega)
    refine ⟨pk_in s 91 hs, ?_⟩
    rw [cs, h.1]
    refine pk_le t.length i (fun hle => ?_) (fun hlt => ?_)
    · have e : i = t.length := by omega
      subst e
      exact hp
    · have hc := qf_t_get ht hlt
      refine ⟨pk_in (s * 40 + i) 3640 (by omega) (xs_ix s i), ?_⟩
      rw [xs_ixc (by omega), h.2 i hlt]
      have := ih (i + 1) (by omega) (by omega)
      refine pk_eq (t.getD i 0) 6 (fun he => ?_) (fun he => ?_)
      · have e : qn_6 t (i + 1) = qn_6 t i + 1 := by show qn_6 t i + _ = _; rw [if_pos he]
        rw [e] at this
        exact nm_r (nI_1 _) (nm_r (nI_1 i) this)
      · have e : qn_6 t (i + 1) = qn_6 t i := by show qn_6 t i + _ = _; rw [if_neg he]; rfl
        rw [e] at this
        exact nm_r (nI_1 i) this
theorem xl_lines (s : Nat) (hs : s < 91) (t : List Nat) (ht : qf_t t) (h : qx_slot xch xtl s (some t)) (post : Int32 → Prop) (hp : post (nI (qn_6 t t.length))) : wpX_countLines post (xwc, xdc, xdm, xsc, xtc, xnc, xmc, xbr, xwt, xch, xtl, xwf, xdn, xdf, xdl, xss, xtk, xta, xtb, xnk, xna, xnb, xnl, xnr, xns, xfa, xfs, xfi, xrw, xrc, xcl, xhd, xre, xhi, xwo) (nI s) :=
  ⟨t.length + 1, xl_lines1 s hs t ht h post hp (t.length + 1) 0 (by omega) (by omega)⟩
theorem xl_live1 (docs : List qf_D) (f : Nat) (hf : f < 10) (hd : docs.length ≤ 64) (hdl : qx_dl docs xch xtl xdn xdf xdl) (hdf : ∀ x, x ∈ docs → x.2.1 < 10) (hdc : xdc = nI docs.length) (post : Int32 → Prop) :
  ∀ (n d : Nat), d ≤ docs.length → docs.length - d < n → post (ql_v f (docs.drop d)) → wX_liveNumber_2 post (nI f) xwc xdc xdm xsc xtc xnc xmc xbr xwt xch xtl xwf xdn xdf xdl xss xtk xta xtb xnk xna xnb xnl xnr xns xfa xfs xfi xrw xrc xcl xhd xre xhi xwo n (nI d) := by
  intro n
  induction n with
  | zero => intro i h1 h2; omega
  | succ n ih =>
    intro d h1 h2 h3
    refine pk_le docs.length d (fun hle => ?_) (fun hlt => ?_) hdc
    · rw [List.drop_of_length_le hle] at h3
      exact h3
    · have cd : (nI d).toNatClampNeg = d := nI_clamp (by omega)
      obtain ⟨a1, a2, a3, a4⟩ := hdl d _ (List.getElem?_eq_getElem hlt)
      have hfd := hdf _ (List.getElem_mem hlt)
      have hi : vp_in (nI d) 64 := pk_in d 64 (by omega)
      rw [List.drop_eq_getElem_cons hlt] at h3
      unfold ql_v at h3
      refine ⟨hi, ?_⟩
      rw [cd, a3]
      by_cases z : docs[d].2.2.1 = true
      · rw [if_pos z]
        refine br_f (by decide) ⟨hi, ?_⟩
        rw [a2]
        refine pk_eq docs[d].2.1 f (fun he => ⟨hi, ?_⟩) (fun he => ?_)
        · rw [a1]
          rw [if_pos ⟨z, he⟩] at h3
          exact h3
        · rw [if_neg (fun y => he y.2)] at h3
          exact nm_r (nI_1 d) (ih (d + 1) (by omega) (by omega) h3)
      · rw [if_neg z]
        rw [if_neg (fun y => z y.1)] at h3
        exact br_t rfl (nm_r (nI_1 d) (ih (d + 1) (by omega) (by omega) h3))
theorem xl_live (docs : List qf_D) (f : Nat) (hf : f < 10) (hd : docs.length ≤ 64) (hdl : qx_dl docs xch xtl xdn xdf xdl) (hdf : ∀ x, x ∈ docs → x.2.1 < 10) (hdc : xdc = nI docs.length) (post : Int32 → Prop) (hp : post (ql_v f docs)) : wpX_liveNumber post (xwc, xdc, xdm, xsc, xtc, xnc, xmc, xbr, xwt, xch, xtl, xwf, xdn, xdf, xdl, xss, xtk, xta, xtb, xnk, xna, xnb, xnl, xnr, xns, xfa, xfs, xfi, xrw, xrc, xcl, xhd, xre, xhi, xwo) (nI f) :=
  ⟨docs.length + 1, xl_live1 docs f hf hd hdl hdf hdc post (docs.length + 1) 0 (by omega) (by omega) hp⟩
theorem xl_let (c : Nat) (hc : c < 7) (post : Int32 → Prop) (h0 : ¬ c < 6 → post 0) (h1 : c < 6 → post 1) : wpX_isLetter post (nI c) :=
  br_f (nI_pos (by omega)) (pk_le 6 c (fun h => h0 (by omega)) (fun h => h1 h))
theorem xl_tof (a b c : Nat) (ha : a < 8) (hb : b < 8) (hc : c < 8) : ((nI a <<< ((6 : Int32) &&& 31)) + (nI b <<< ((3 : Int32) &&& 31))) + nI c = nI (64 * a + 8 * b + c) := by
  rw [pk_shlN (n := a) _ 6 (by decide) (by omega), pk_shlN (n := b) _ 3 (by decide) (by omega), nI_add, nI_add]
  congr 1
  omega
/-- the class's code of the trigram at a place -/
def qt_8 (t : List Nat) (i : Nat) : Int32 := match qt_g t i with
  | none => -1
  | some c => nI (qt_68 c)
theorem qt_68_eq {a b c : Nat} (ha : a < 6) (hb : b < 6) (hc : c < 6) : qt_68 (36 * a + 6 * b + c) = 64 * a + 8 * b + c := by unfold qt_68; omega
theorem qt_68_lt {c : Nat} (h : c < 216) : qt_68 c < 512 := by unfold qt_68; omega
theorem qt_68_inj {c d : Nat} (hc : c < 216) (hd : d < 216) (h : qt_68 c = qt_68 d) : c = d := by unfold qt_68 at h; omega
theorem xl_tat (s i : Nat) (hs : s < 91) (t : List Nat) (ht : qf_t t) (h : qx_slot xch xtl s (some t)) (hi : i + 2 < t.length) (post : Int32 → Prop) (hp : post (qt_8 t i)) : wpX_trigramAt post (xwc, xdc, xdm, xsc, xtc, xnc, xmc, xbr, xwt, xch, xtl, xwf, xdn, xdf, xdl, xss, xtk, xta, xtb, xnk, xna, xnb, xnl, xnr, xns, xfa, xfs, xfi, xrw, xrc, xcl, xhd, xre, xhi, xwo) (nI s) (nI i) := by
  have hL := ht.1
  have c0 := qf_t_get ht (show i < t.length by omega)
  have c1 := qf_t_get ht (show i + 1 < t.length by omega)
  have c2 := qf_t_get ht hi
  refine nm_r (xs_ix s i) ⟨pk_in (s * 40 + i) 3640 (by omega), nm_r (e' := nI (t.getD i 0)) (by rw [nI_clamp (by omega)]; exact h.2 i (by omega)) ⟨pk_in (s * 40 + (i + 1)) 3640 (by omega) (nI_1 _), nm_r (e' := nI (t.getD (i + 1) 0)) (by rw [nI_1, nI_clamp (by omega)]; exact h.2 (i + 1) (by omega)) ⟨pk_in (s * 40 + (i + 2)) 3640 (by omega) (nI_add _ 2), nm_r (e' := nI (t.getD (i + 2) 0)) (by rw [show nI (s * 40 + i) + 2 = nI (s * 40 + (i + 2)) from nI_add _ 2, nI_clamp (by omega)]; exact h.2 (i + 2) hi) ?_⟩⟩⟩
  have hn : ¬ (t.getD i 0 < 6 ∧ t.getD (i + 1) 0 < 6 ∧ t.getD (i + 2) 0 < 6) → post (-1) := by
    intro hh
    have e : qt_8 t i = -1 := by unfold qt_8 qt_g; rw [if_neg (fun y => hh y.2)]
    rw [e] at hp
    exact hp
  refine xl_let _ c0 _ (fun z => br_t rfl (hn (fun y => z y.1))) (fun z0 => br_f (by decide) ?_)
  refine xl_let _ c1 _ (fun z => br_t rfl (hn (fun y => z y.2.1))) (fun z1 => br_f (by decide) ?_)
  refine xl_let _ c2 _ (fun z => br_t rfl (hn (fun y => z y.2.2))) (fun z2 => br_f (by decide) ?_)
  show post _
  rw [xl_tof _ _ _ (by omega) (by omega) (by omega)]
  have e : qt_8 t i = nI (64 * t.getD i 0 + 8 * t.getD (i + 1) 0 + t.getD (i + 2) 0) := by
    unfold qt_8 qt_g
    rw [if_pos ⟨hi, z0, z1, z2⟩]
    dsimp only
    rw [qt_68_eq z0 z1 z2]
  rw [e] at hp
  exact hp
/-- whether a text has a trigram, by the class's code -/
def qt_h8 (t : List Nat) (m x : Nat) : Bool := (List.range m).any (fun i => match qt_g t i with
  | none => false
  | some c => decide (qt_68 c = x))
theorem xl_has1 (s x : Nat) (hs : s < 91) (hx : x < 512) (t : List Nat) (ht : qf_t t) (h : qx_slot xch xtl s (some t)) (post : Int32 → Prop) (hp : post (if qt_h8 t t.length x = true then 1 else 0)) :
  ∀ (n i : Nat), i ≤ t.length → t.length - i < n → qt_h8 t i x = false → wX_hasTrigram_2 post (nI s) (nI x) xwc xdc xdm xsc xtc xnc xmc xbr xwt xch xtl xwf xdn xdf xdl xss xtk xta xtb xnk xna xnb xnl xnr xns xfa xfs xfi xrw xrc xcl xhd xre xhi xwo n (nI i) := by
  intro n
  have hL := ht.1
  induction n with
  | zero => intro i h1 h2; omega
  | succ n ih =>
    intro i h1 h2 h3
    have cs : (nI s).toNatClampNeg = s := nI_clamp (by omega)
    refine ⟨pk_in s 91 hs, ?_⟩
    rw [cs, h.1]
    refine pk_le t.length (i + 2) (fun hle => ?_) (fun hlt => ?_) rfl (nI_add i 2)
    · have e : qt_h8 t t.length x = false := by
        cases hq : qt_h8 t t.length x with
        | false => rfl
        | true =>
          unfold qt_h8 at hq h3
          rw [List.any_eq_true] at hq
          obtain ⟨j, hj, hq⟩ := hq
          rw [List.any_eq_false] at h3
          by_cases z : j < i
          · exact absurd hq (h3 j (List.mem_range.mpr z))
          · rw [qt_g_none (by omega)] at hq
            exact nomatch hq
      rw [e] at hp
      exact hp
    · refine xl_tat s i hs t ht h (by omega) _ ?_
      have e1 : qt_h8 t (i + 1) x = (qt_h8 t i x || (match qt_g t i with
          | none => false
          | some c => decide (qt_68 c = x))) := by
        unfold qt_h8
        rw [List.range_succ, List.any_append]
        simp
      rw [h3, Bool.false_or] at e1
      unfold qt_8
      cases hg : qt_g t i with
      | none =>
        rw [hg] at e1
        dsimp only at e1 ⊢
        refine br_f (fun z => xs_nm1 (by omega) z.symm) (nm_r (nI_1 i) (ih (i + 1) (by omega) (by omega) e1))
      | some c =>
        rw [hg] at e1
        have hc := (qt_g_lt hg).1
        have hc8 := qt_68_lt hc
        dsimp only at e1 ⊢
        refine pk_eq (qt_68 c) x (fun he => ?_) (fun he => nm_r (nI_1 i) (ih (i + 1) (by omega) (by omega) (by rw [e1]; exact decide_eq_false he)))
        have : qt_h8 t t.length x = true := by
          unfold qt_h8
          rw [List.any_eq_true]
          exact ⟨i, List.mem_range.mpr (by omega), by rw [hg]; exact decide_eq_true he⟩
        rw [this] at hp
        exact hp
theorem xl_has (s x : Nat) (hs : s < 91) (hx : x < 512) (t : List Nat) (ht : qf_t t) (h : qx_slot xch xtl s (some t)) (xs' xx : Int32) (es : xs' = nI s) (exx : xx = nI x) (post : Int32 → Prop) (hp : post (if qt_h8 t t.length x = true then 1 else 0)) : wpX_hasTrigram post (xwc, xdc, xdm, xsc, xtc, xnc, xmc, xbr, xwt, xch, xtl, xwf, xdn, xdf, xdl, xss, xtk, xta, xtb, xnk, xna, xnb, xnl, xnr, xns, xfa, xfs, xfi, xrw, xrc, xcl, xhd, xre, xhi, xwo) xs' xx := by
  subst es; subst exx
  exact ⟨t.length + 1, xl_has1 s x hs hx t ht h post hp (t.length + 1) 0 (by omega) (by omega) rfl⟩
theorem xl_has0 (s x : Nat) (hs : s < 91) (h : qx_slot xch xtl s none) (post : Int32 → Prop) (hp : post 0) : wpX_hasTrigram post (xwc, xdc, xdm, xsc, xtc, xnc, xmc, xbr, xwt, xch, xtl, xwf, xdn, xdf, xdl, xss, xtk, xta, xtb, xnk, xna, xnb, xnl, xnr, xns, xfa, xfs, xfi, xrw, xrc, xcl, xhd, xre, xhi, xwo) (nI s) (nI x) := by
  have cs : (nI s).toNatClampNeg = s := nI_clamp (by omega)
  refine ⟨1, pk_in s 91 hs, ?_⟩
  rw [cs, show xtl s = -1 from h]
  exact br_t (by decide) hp
end
