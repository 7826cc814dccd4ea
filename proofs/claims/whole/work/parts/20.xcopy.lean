/-! the class: texts are copied, changes are looked up, documents are made -/
theorem qf_t_get {t : List Nat} (h : qf_t t) {i : Nat} (hi : i < t.length) : t.getD i 0 < 7 := qc_get_in h.2 i hi
theorem ys_neg' (i : Nat) (h : i < 2 ^ 31) : (-1 : Int32) ≤ nI i := by
  rw [Int32.le_iff_toInt_le, nI_toInt h]
  have b : (-1 : Int32).toInt = -1 := by decide
  omega
section
variable {xwc xdc xdm xsc xtc xnc xmc xbr xwt : Int32} {xch xtl xwf xdn xdf xdl xss xtk xta xtb xnk xna xnb xnl xnr xns xfa xfs xfi xrc xcl xhd xhi xwo : Nat → Int32} {xrw xre : Nat → Int64}
theorem xs_ix (s i : Nat) : nI s * 40 + nI i = nI (s * 40 + i) := by
  rw [show (40 : Int32) = nI 40 from rfl, pk_mul, nI_add]
theorem xs_ixc {s i : Nat} (h : s * 40 + i < 2 ^ 31) : (nI s * 40 + nI i).toNatClampNeg = s * 40 + i := by
  rw [xs_ix]; exact nI_clamp h
theorem xs_nm1 {j : Nat} (h : j < 2 ^ 31) : ¬ nI j = -1 := by
  intro e
  have a := nI_toInt h
  rw [e] at a
  have b : (-1 : Int32).toInt = -1 := by decide
  omega
theorem xs_cp1 (to fr L : Nat) (hto : to < 91) (hfr : fr < 91) (hL : L ≤ 40) (ch0 : Nat → Int32) (post : SX → Prop)
  (hp : ∀ ch' : Nat → Int32, (∀ j, j < L → ch' (to * 40 + j) = ch0 (fr * 40 + j)) → (∀ j, j < to * 40 ∨ to * 40 + L ≤ j → ch' j = ch0 j) → post (xwc, xdc, xdm, xsc, xtc, xnc, xmc, xbr, xwt, ch', xtl, xwf, xdn, xdf, xdl, xss, xtk, xta, xtb, xnk, xna, xnb, xnl, xnr, xns, xfa, xfs, xfi, xrw, xrc, xcl, xhd, xre, xhi, xwo)) :
  ∀ (n i : Nat) (ch : Nat → Int32), i ≤ L → L - i < n → (∀ j, j < i → ch (to * 40 + j) = ch0 (fr * 40 + j)) → (∀ j, j < to * 40 ∨ to * 40 + i ≤ j → ch j = ch0 j) → wX_copyText_17 post (nI to) (nI fr) (nI L) xwc xdc xdm xsc xtc xnc xmc xbr xwt n (nI i) ch xtl xwf xdn xdf xdl xss xtk xta xtb xnk xna xnb xnl xnr xns xfa xfs xfi xrw xrc xcl xhd xre xhi xwo := by
  intro n
  induction n with
  | zero => intro i ch h1 h2; omega
  | succ n ih =>
    intro i ch h1 h2 h3 h4
    refine pk_le L i (fun hle => ?_) (fun hlt => ?_)
    · have e : i = L := by omega
      subst e
      exact hp ch h3 h4
    · refine ⟨pk_in (fr * 40 + i) 3640 (by omega) (xs_ix fr i), pk_in (to * 40 + i) 3640 (by omega) (xs_ix to i), fun ch1 hch x hx => ?_⟩
      rw [hx, nI_1]
      rw [xs_ixc (by omega), xs_ixc (by omega)] at hch
      refine ih (i + 1) ch1 (by omega) (by omega) ?_ ?_
      · intro j hj
        rw [hch]
        by_cases z : j = i
        · subst z
          rw [pk_us]
          exact h4 _ (by omega)
        · rw [pk_un (by omega)]
          exact h3 j (by omega)
      · intro j hj
        rw [hch, pk_un (by omega)]
        exact h4 j (by omega)
/-- a text goes to another slot: that slot has it then, the others keep theirs -/
theorem xs_copy (to fr : Nat) (hto : to < 91) (hfr : fr < 91) (o : qf_X) (ho : qf_o o) (hs : qx_slot xch xtl fr o) (post : SX → Prop)
  (hp : ∀ ch' tl' : Nat → Int32, qx_slot ch' tl' to o → (∀ s o', s ≠ to → qf_o o' → qx_slot xch xtl s o' → qx_slot ch' tl' s o') → post (xwc, xdc, xdm, xsc, xtc, xnc, xmc, xbr, xwt, ch', tl', xwf, xdn, xdf, xdl, xss, xtk, xta, xtb, xnk, xna, xnb, xnl, xnr, xns, xfa, xfs, xfi, xrw, xrc, xcl, xhd, xre, xhi, xwo)) : wpX_copyText post (xwc, xdc, xdm, xsc, xtc, xnc, xmc, xbr, xwt, xch, xtl, xwf, xdn, xdf, xdl, xss, xtk, xta, xtb, xnk, xna, xnb, xnl, xnr, xns, xfa, xfs, xfi, xrw, xrc, xcl, xhd, xre, xhi, xwo) (nI to) (nI fr) := by
  have ct : (nI to).toNatClampNeg = to := nI_clamp (by omega)
  have cf : (nI fr).toNatClampNeg = fr := nI_clamp (by omega)
  match o, ho, hs, hp with
  | none, ho, hs, hp =>
    have e : xtl (nI fr).toNatClampNeg = -1 := by rw [cf]; exact hs
    refine And.intro (pk_in fr 91 hfr) (nm_r e (And.intro (pk_in to 91 hto) (nm_e ⟨1, ?_⟩)))
    rw [ct]
    refine br_t (by decide) (hp _ _ ?_ ?_)
    · exact pk_us
    · intro s o' hs' ho' h
      match o', h with
      | none, h => exact (pk_un hs').trans h
      | some t, h => exact ⟨(pk_un hs').trans h.1, h.2⟩
  | some t, ho, hs, hp =>
    have hl : t.length ≤ 40 := (ho t rfl).1
    have e : xtl (nI fr).toNatClampNeg = nI t.length := by rw [cf]; exact hs.1
    refine And.intro (pk_in fr 91 hfr) (nm_r e (And.intro (pk_in to 91 hto) (nm_e ⟨t.length + 1, ?_⟩)))
    rw [ct]
    refine xs_cp1 to fr t.length hto hfr hl xch post ?_ (t.length + 1) 0 xch (by omega) (by omega) (fun j hj => absurd hj (by omega)) (fun j hj => rfl)
    intro ch' h1 h2
    refine hp ch' _ ⟨pk_us, fun i hi => ?_⟩ ?_
    · rw [h1 i hi]; exact hs.2 i hi
    · intro s o' hs' ho' h
      match o', ho', h with
      | none, _, h => exact (pk_un hs').trans h
      | some t', ho', h =>
        have hl' : t'.length ≤ 40 := (ho' t' rfl).1
        refine ⟨(pk_un hs').trans h.1, fun i hi => ?_⟩
        rw [h2 _ (by omega)]
        exact h.2 i hi
theorem xs_isch1 (wt : List (Nat × qf_X)) (f : Nat) (hf : f < 10) (hl : wt.length ≤ 6) (hw : ∀ k c, wt[k]? = some c → xwf k = nI c.1 ∧ c.1 < 10) (post : Int32 → Prop) (hc : xwc = nI wt.length) :
  ∀ (n i : Nat), i ≤ wt.length → wt.length - i < n → post (if f ∈ qd_ch (wt.drop i) then 1 else 0) → wX_isChanged_2 post (nI f) xwc xdc xdm xsc xtc xnc xmc xbr xwt xch xtl xwf xdn xdf xdl xss xtk xta xtb xnk xna xnb xnl xnr xns xfa xfs xfi xrw xrc xcl xhd xre xhi xwo n (nI i) := by
  intro n
  induction n with
  | zero => intro i h1 h2; omega
  | succ n ih =>
    intro i h1 h2 h3
    refine pk_le wt.length i (fun hle => ?_) (fun hlt => ?_) hc
    · rw [List.drop_of_length_le hle] at h3
      exact h3
    · have hg : wt[i]? = some wt[i] := List.getElem?_eq_getElem hlt
      obtain ⟨a1, a2⟩ := hw i _ hg
      have hd : wt.drop i = wt[i] :: wt.drop (i + 1) := List.drop_eq_getElem_cons hlt
      have e : xwf (nI i).toNatClampNeg = nI wt[i].1 := by rw [nI_clamp (by omega)]; exact a1
      rw [hd] at h3
      refine ⟨pk_in i 6 (by omega), pk_eq wt[i].1 f (fun he => ?_) (fun hne => ?_) e⟩
      · rw [if_pos (by unfold qd_ch; rw [List.map_cons]; exact List.mem_cons.mpr (Or.inl he.symm))] at h3
        exact h3
      · intro x hx
        rw [hx, nI_1]
        refine ih (i + 1) (by omega) (by omega) ?_
        have : (f ∈ qd_ch (wt[i] :: wt.drop (i + 1))) ↔ f ∈ qd_ch (wt.drop (i + 1)) := by
          simp only [qd_ch, List.map_cons, List.mem_cons]
          exact ⟨fun z => z.elim (fun z => absurd z.symm hne) id, Or.inr⟩
        simp only [this] at h3
        exact h3
theorem xs_isch (wt : List (Nat × qf_X)) (f : Nat) (hf : f < 10) (hl : wt.length ≤ 6) (hw : ∀ k c, wt[k]? = some c → xwf k = nI c.1 ∧ c.1 < 10) (post : Int32 → Prop) (hc : xwc = nI wt.length) (hp : post (if f ∈ qd_ch wt then 1 else 0)) : wpX_isChanged post (xwc, xdc, xdm, xsc, xtc, xnc, xmc, xbr, xwt, xch, xtl, xwf, xdn, xdf, xdl, xss, xtk, xta, xtb, xnk, xna, xnb, xnl, xnr, xns, xfa, xfs, xfi, xrw, xrc, xcl, xhd, xre, xhi, xwo) (nI f) :=
  ⟨wt.length + 1, xs_isch1 wt f hf hl hw post hc (wt.length + 1) 0 (by omega) (by omega) hp⟩
theorem xs_isFile (f : Nat) (hf : f < 10) (post : Int32 → Prop) (hp : post 1) : wpX_isFile post (nI f) :=
  br_f (nI_pos (by omega)) (br_f (nI_ge (b := 10) hf (by decide)) hp)
theorem xs_isFile0 (x : Int32) (h : x < 0 ∨ 10 ≤ x) (post : Int32 → Prop) (hp : post 0) : wpX_isFile post x := by
  rcases h with h | h
  · exact br_t h hp
  · exact br_c (fun _ => hp) (fun _ => br_t h hp)
theorem xs_fileC (x : Int32) (post : Int32 → Prop) (h0 : (x < 0 ∨ 10 ≤ x) → post 0) (h1 : ∀ f, f < 10 → x = nI f → post 1) : wpX_isFile post x := by
  rcases pk_ix x (n := 10) (by decide) with z | z | ⟨f, hf, rfl⟩
  · exact xs_isFile0 x (Or.inl z) post (h0 (Or.inl z))
  · exact xs_isFile0 x (Or.inr z) post (h0 (Or.inr z))
  · exact xs_isFile f hf post (h1 f hf rfl)
theorem xs_there (f : Nat) (hf : f < 10) (o : qf_X) (ho : qf_o o) (hs : qx_slot xch xtl f o) (post : Int32 → Prop) (h0 : o = none → post 0) (h1 : ∀ t, o = some t → post 1) : wpX_isThere post (xwc, xdc, xdm, xsc, xtc, xnc, xmc, xbr, xwt, xch, xtl, xwf, xdn, xdf, xdl, xss, xtk, xta, xtb, xnk, xna, xnb, xnl, xnr, xns, xfa, xfs, xfi, xrw, xrc, xcl, xhd, xre, xhi, xwo) (nI f) := by
  unfold wpX_isThere
  refine xs_isFile f hf _ ?_
  have cf : (nI f).toNatClampNeg = f := nI_clamp (by omega)
  refine br_f (by decide) ⟨pk_in f 91 (by omega), ?_⟩
  rw [cf]
  match o, ho, hs, h0, h1 with
  | none, _, hs, h0, _ => exact br_t hs (h0 rfl)
  | some t, ho, hs, _, h1 =>
    refine br_f ?_ (h1 t rfl)
    rw [hs.1]
    exact xs_nm1 (by have := (ho t rfl).1; omega)
end
