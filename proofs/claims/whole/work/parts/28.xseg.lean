/-! the class: having, segment, document, and the smaller looks -/
theorem qt_h8_any {t : List Nat} {m c : Nat} (hc : c < 216) : qt_h8 t m (qt_68 c) = qt_any t m c := by
  unfold qt_h8 qt_any
  congr 1
  funext i
  cases hg : qt_g t i with
  | none => rfl
  | some d =>
    have hd := (qt_g_lt hg).1
    by_cases z : d = c
    · subst z; simp
    · have : ¬ qt_68 d = qt_68 c := fun e => z (qt_68_inj hd hc e)
      simp [z, this]
theorem qt_h8_bad {t : List Nat} {m a b c : Nat} (ha : a < 8) (hb : b < 8) (hc : c < 8) (h : 6 ≤ a ∨ 6 ≤ b ∨ 6 ≤ c) : qt_h8 t m (64 * a + 8 * b + c) = false := by
  unfold qt_h8
  rw [List.any_eq_false]
  intro i _
  cases hg : qt_g t i with
  | none => simp
  | some d =>
    have hd := (qt_g_lt hg).1
    simp only [decide_eq_true_eq]
    unfold qt_68
    omega
def qn_hv (now : Nat → qf_X) (c : Nat) : Nat → Nat
  | 0 => 0
  | f + 1 => qn_hv now c f + (match now f with
      | some t => if qt_any t t.length c = true then 1 else 0
      | none => 0)
theorem ql_seg_s (docs : List qf_D) (st k : Nat) (h : st + k < docs.length) : (docs.drop st).take (k + 1) = (docs.drop st).take k ++ [docs[st + k]] := by
  rw [List.take_succ_eq_append_getElem (by rw [List.length_drop]; omega), List.getElem_drop]
section
variable {xwc xdc xdm xsc xtc xnc xmc xbr xwt : Int32} {xch xtl xwf xdn xdf xdl xss xtk xta xtb xnk xna xnb xnl xnr xns xfa xfs xfi xrc xcl xhd xhi xwo : Nat → Int32} {xrw xre : Nat → Int64}
theorem xl_hav1 (now : Nat → qf_X) (hno : ∀ f, f < 10 → qf_o (now f)) (hs : ∀ f, f < 10 → qx_slot xch xtl f (now f)) (c : Nat) (hc : c < 216) (post : Int32 → Prop) (hp : post (nI (qn_hv now c 10))) :
  ∀ (n f : Nat), f ≤ 10 → 10 - f < n → wX_having_37 post (nI (qt_68 c)) xwc xdc xdm xsc xtc xnc xmc xbr xwt xch xtl xwf xdn xdf xdl xss xtk xta xtb xnk xna xnb xnl xnr xns xfa xfs xfi xrw xrc xcl xhd xre xhi xwo n (nI (qn_hv now c f)) (nI f) := by
  intro n
  induction n with
  | zero => intro f h1 h2; omega
  | succ n ih =>
    intro f h1 h2
    refine pk_le 10 f (fun hle => ?_) (fun hlt => ?_)
    · have e : f = 10 := by omega
      subst e
      exact hp
    · have := ih (f + 1) (by omega) (by omega)
      have hsf := hs f hlt
      cases hnf : now f with
      | none =>
        rw [hnf] at hsf
        have e : qn_hv now c (f + 1) = qn_hv now c f := by show qn_hv now c f + _ = _; rw [hnf]; rfl
        rw [e] at this
        exact xl_has0 f (qt_68 c) (by omega) hsf _ (br_t rfl (nm_r (nI_1 f) this))
      | some t =>
        rw [hnf] at hsf
        refine xl_has f (qt_68 c) (by omega) (qt_68_lt hc) t (hno f hlt t hnf) hsf _ _ rfl rfl _ ?_
        rw [qt_h8_any hc]
        by_cases z : qt_any t t.length c = true
        · have e : qn_hv now c (f + 1) = qn_hv now c f + 1 := by show qn_hv now c f + _ = _; rw [hnf]; dsimp only; rw [if_pos z]
          rw [e] at this
          rw [if_pos z]
          exact br_f (by decide) (nm_r (nI_1 _) (nm_r (nI_1 f) this))
        · have e : qn_hv now c (f + 1) = qn_hv now c f := by show qn_hv now c f + _ = _; rw [hnf]; dsimp only; rw [if_neg z]; rfl
          rw [e] at this
          rw [if_neg z]
          exact br_t rfl (nm_r (nI_1 f) this)
theorem xl_letC (x : Int32) (post : Int32 → Prop) (h0 : (∀ c, c < 6 → x ≠ nI c) → post 0) (h1 : ∀ c, c < 6 → x = nI c → post 1) : wpX_isLetter post x := by
  rcases pk_ix x (n := 6) (by decide) with z | z | ⟨f, hf, rfl⟩
  · refine br_t z (h0 (fun c hc e => ?_))
    rw [e] at z
    exact nI_pos (by omega) z
  · refine br_c (fun y => h0 (fun c hc e => ?_)) (fun _ => br_t z (h0 (fun c hc e => ?_)))
    · rw [e] at y
      exact nI_pos (by omega) y
    · rw [e] at z
      exact nI_ge (b := 6) hc (by decide) z
  · exact br_f (nI_pos (by omega)) (br_f (nI_ge (b := 6) hf (by decide)) (h1 f hf rfl))
theorem xl_having (now : Nat → qf_X) (hno : ∀ f, f < 10 → qf_o (now f)) (hs : ∀ f, f < 10 → qx_slot xch xtl f (now f)) (p0 p1 p2 : Int32) (post : Int32 → Prop)
  (h0 : (¬ ∃ a b c, a < 6 ∧ b < 6 ∧ c < 6 ∧ p0 = nI a ∧ p1 = nI b ∧ p2 = nI c) → post (-1))
  (h1 : ∀ a b c, a < 6 → b < 6 → c < 6 → p0 = nI a → p1 = nI b → p2 = nI c → post (nI (qn_hv now (36 * a + 6 * b + c) 10))) : wpX_having post (xwc, xdc, xdm, xsc, xtc, xnc, xmc, xbr, xwt, xch, xtl, xwf, xdn, xdf, xdl, xss, xtk, xta, xtb, xnk, xna, xnb, xnl, xnr, xns, xfa, xfs, xfi, xrw, xrc, xcl, xhd, xre, xhi, xwo) p0 p1 p2 := by
  unfold wpX_having
  refine xl_letC p0 _ (fun z => br_t rfl (h0 (fun ⟨a, b, c, ha, _, _, e, _⟩ => z a ha e))) (fun a ha e0 => br_f (by decide) ?_)
  refine xl_letC p1 _ (fun z => br_t rfl (h0 (fun ⟨_, b, _, _, hb, _, _, e, _⟩ => z b hb e))) (fun b hb e1 => br_f (by decide) ?_)
  refine xl_letC p2 _ (fun z => br_t rfl (h0 (fun ⟨_, _, c, _, _, hc, _, _, e⟩ => z c hc e))) (fun c hc e2 => br_f (by decide) ?_)
  show ∃ n : Nat, wX_having_37 post _ xwc xdc xdm xsc xtc xnc xmc xbr xwt xch xtl xwf xdn xdf xdl xss xtk xta xtb xnk xna xnb xnl xnr xns xfa xfs xfi xrw xrc xcl xhd xre xhi xwo n 0 0
  rw [e0, e1, e2, xl_tof a b c (by omega) (by omega) (by omega), ← qt_68_eq ha hb hc]
  exact ⟨11, xl_hav1 now hno hs (36 * a + 6 * b + c) (by omega) post (h1 a b c ha hb hc e0 e1 e2) 11 0 (by omega) (by omega)⟩
theorem xl_code1 (d : Nat) (hd0 : 0 < d) (hd : d < 2 ^ 31) (post : Int32 → Prop) (hp : post (nI (ql_c d))) :
  ∀ (n g : Nat), 1 ≤ g → g ≤ 32 → 32 - g < n → wX_codeBits_4 post (nI d) n (nI (1 + 2 * min (g - 1) d.log2)) (nI g) := by
  intro n
  have hlog := (Nat.log2_lt (by omega : d ≠ 0)).mpr hd
  induction n with
  | zero => intro g h0 h1 h2; omega
  | succ n ih =>
    intro g h0 h1 h2
    refine pk_le 32 g (fun hle => ?_) (fun hlt => ?_)
    · have e : 1 + 2 * min (g - 1) d.log2 = ql_c d := by unfold ql_c; omega
      rw [e]
      exact hp
    · rw [pk_shrN hd (nI g &&& 31) g (s_l g hlt)]
      have := ih (g + 1) (by omega) (by omega) (by omega)
      have hle2 := Nat.le_log2 (n := d) (k := g) (by omega)
      have hdv : d / 2 ^ g ≤ d := Nat.div_le_self _ _
      refine pk_le (d / 2 ^ g) 0 (fun hz => ?_) (fun hz => ?_) rfl rfl (by omega) (by omega)
      · have hnl : ¬ g ≤ d.log2 := by
          intro y
          have h3 := hle2.mp y
          have : 0 < d / 2 ^ g := Nat.div_pos h3 (Nat.two_pow_pos g)
          omega
        have e : 1 + 2 * min (g + 1 - 1) d.log2 = 1 + 2 * min (g - 1) d.log2 := by omega
        rw [e] at this
        exact nm_r (nI_1 g) this
      · have hgl : g ≤ d.log2 := hle2.mpr (by
          rcases Nat.lt_or_ge d (2 ^ g) with y | y
          · rw [Nat.div_eq_of_lt y] at hz; omega
          · exact y)
        have e : 1 + 2 * min (g + 1 - 1) d.log2 = 1 + 2 * min (g - 1) d.log2 + 2 := by omega
        rw [e] at this
        exact nm_r (nI_add _ 2) (nm_r (nI_1 g) this)
theorem xl_code (d : Nat) (hd0 : 0 < d) (hd : d < 2 ^ 31) (x : Int32) (ex : x = nI d) (post : Int32 → Prop) (hp : post (nI (ql_c d))) : wpX_codeBits post x := by
  subst ex
  have this : wX_codeBits_4 post (nI d) 32 (nI (1 + 2 * min (1 - 1) d.log2)) (nI 1) := xl_code1 d hd0 hd post hp 32 1 (by omega) (by omega) (by omega)
  rw [Nat.sub_self, Nat.zero_min] at this
  exact ⟨32, this⟩
theorem xl_pv {num p : Nat} (h : p ≤ num) : nI num - (nI p - 1) = nI (num + 1 - p) := by
  rw [show nI num - (nI p - 1) = (nI num + 1) - nI p by grind, nI_1, pk_sub (by omega)]
theorem xl_lb1 (docs : List qf_D) (made st e x : Nat) (hx : x < 512) (hd : docs.length ≤ 64) (hdl : qx_dl docs xch xtl xdn xdf xdl) (hok : ∀ y, y ∈ docs → y.1 < made ∧ qf_t y.2.2.2) (hpw : docs.Pairwise (fun x y => x.1 < y.1)) (hm : made < 2 ^ 30) (he : e ≤ docs.length) (post : Int32 → Prop) (hp : post (nI (ql_b (fun t => qt_h8 t t.length x) ((docs.drop st).take (e - st)) 0))) :
  ∀ (n k : Nat), st + k ≤ e → e - (st + k) < n → wX_listBits_9 post (nI e) (nI x) xwc xdc xdm xsc xtc xnc xmc xbr xwt xch xtl xwf xdn xdf xdl xss xtk xta xtb xnk xna xnb xnl xnr xns xfa xfs xfi xrw xrc xcl xhd xre xhi xwo n (nI (ql_b (fun t => qt_h8 t t.length x) ((docs.drop st).take k) 0)) (nI (ql_p (fun t => qt_h8 t t.length x) ((docs.drop st).take k) 0) - 1) (nI (st + k)) := by
  intro n
  induction n with
  | zero => intro k h1 h2; omega
  | succ n ih =>
    intro k h1 h2
    refine pk_le e (st + k) (fun hle => ?_) (fun hlt => ?_)
    · have e' : e - st = k := by omega
      rw [e'] at hp
      exact hp
    · have hlt' : st + k < docs.length := by omega
      obtain ⟨a1, a2, a3, a4⟩ := hdl (st + k) _ (List.getElem?_eq_getElem hlt')
      have ho := hok _ (List.getElem_mem hlt')
      have hs := ql_seg_s docs st k hlt'
      have hb1 := ql_b_1 (fun t => qt_h8 t t.length x) docs[st + k] ((docs.drop st).take k) 0
      have hp1 := ql_p_1 (fun t => qt_h8 t t.length x) docs[st + k] ((docs.drop st).take k) 0
      rw [← hs] at hb1 hp1
      have cd : (nI (st + k)).toNatClampNeg = st + k := nI_clamp (by omega)
      have hle : ql_p (fun t => qt_h8 t t.length x) ((docs.drop st).take k) 0 ≤ docs[st + k].1 := by
        apply ql_p_le
        · omega
        · intro y hy
          rw [List.pairwise_iff_getElem] at hpw
          obtain ⟨j, hj, rfl⟩ := List.getElem_of_mem hy
          rw [List.length_take, List.length_drop] at hj
          rw [List.getElem_take, List.getElem_drop]
          exact hpw (st + j) (st + k) (by omega) hlt' (by omega)
      have := ih (k + 1) (by omega) (by omega)
      refine xl_has (27 + (st + k)) x (by omega) hx docs[st + k].2.2.2 ho.2 a4 _ _ (nI_add 27 _) rfl _ ?_
      by_cases z : qt_h8 docs[st + k].2.2.2 docs[st + k].2.2.2.length x = true
      · rw [if_pos z]
        rw [if_pos z] at hb1 hp1
        have hi : vp_in (nI (st + k)) 64 := pk_in (st + k) 64 (by omega)
        refine br_f (by decide) ⟨hi, ?_⟩
        rw [cd, a1]
        refine xl_code (docs[st + k].1 + 1 - ql_p (fun t => qt_h8 t t.length x) ((docs.drop st).take k) 0) (by omega) (by omega) _ (xl_pv hle) _ ?_
        rw [hb1, hp1] at this
        refine nm_r (nI_add _ _) ⟨hi, nm_r (e' := nI (docs[st + k].1 + 1) - 1) (nI_pred _).symm (nm_r (nI_1 _) this)⟩
      · rw [if_neg z]
        rw [if_neg z] at hb1 hp1
        rw [hb1, hp1] at this
        exact br_t rfl (nm_r (nI_1 _) this)
theorem xl_lb (docs : List qf_D) (made st e x : Nat) (hx : x < 512) (hd : docs.length ≤ 64) (hdl : qx_dl docs xch xtl xdn xdf xdl) (hok : ∀ y, y ∈ docs → y.1 < made ∧ qf_t y.2.2.2) (hpw : docs.Pairwise (fun x y => x.1 < y.1)) (hm : made < 2 ^ 30) (hse : st ≤ e) (he : e ≤ docs.length) (post : Int32 → Prop) (hp : post (nI (ql_b (fun t => qt_h8 t t.length x) ((docs.drop st).take (e - st)) 0))) : wpX_listBits post (xwc, xdc, xdm, xsc, xtc, xnc, xmc, xbr, xwt, xch, xtl, xwf, xdn, xdf, xdl, xss, xtk, xta, xtb, xnk, xna, xnb, xnl, xnr, xns, xfa, xfs, xfi, xrw, xrc, xcl, xhd, xre, xhi, xwo) (nI st) (nI e) (nI x) := by
  have this : wX_listBits_9 post (nI e) (nI x) xwc xdc xdm xsc xtc xnc xmc xbr xwt xch xtl xwf xdn xdf xdl xss xtk xta xtb xnk xna xnb xnl xnr xns xfa xfs xfi xrw xrc xcl xhd xre xhi xwo (e - st + 1) (nI 0) (nI 0 - 1) (nI st) := xl_lb1 docs made st e x hx hd hdl hok hpw hm he post hp (e - st + 1) 0 (by omega) (by omega)
  rw [show nI 0 - 1 = (-1 : Int32) by decide] at this
  exact ⟨e - st + 1, this⟩
theorem xl_cl1 (docs : List qf_D) (made st e : Nat) (hd : docs.length ≤ 64) (hdl : qx_dl docs xch xtl xdn xdf xdl) (hok : ∀ y, y ∈ docs → y.1 < made ∧ qf_t y.2.2.2) (hpw : docs.Pairwise (fun x y => x.1 < y.1)) (hm : made < 2 ^ 30) (hse : st ≤ e) (he : e ≤ docs.length) (post : Int32 → Prop) (hp : post (nI (qs_sum (fun x => if ql_b (fun t => qt_h8 t t.length x) ((docs.drop st).take (e - st)) 0 = 0 then 0 else 1) 512))) :
  ∀ (n x : Nat), x ≤ 512 → 512 - x < n → wX_countLists_5 post (nI st) (nI e) xwc xdc xdm xsc xtc xnc xmc xbr xwt xch xtl xwf xdn xdf xdl xss xtk xta xtb xnk xna xnb xnl xnr xns xfa xfs xfi xrw xrc xcl xhd xre xhi xwo n (nI (qs_sum (fun x => if ql_b (fun t => qt_h8 t t.length x) ((docs.drop st).take (e - st)) 0 = 0 then 0 else 1) x)) (nI x) := by
  intro n
  induction n with
  | zero => intro x h1 h2; omega
  | succ n ih =>
    intro x h1 h2
    refine pk_le 512 x (fun hle => ?_) (fun hlt => ?_)
    · have e : x = 512 := by omega
      subst e
      exact hp
    · have := ih (x + 1) (by omega) (by omega)
      rw [show qs_sum (fun x => if ql_b (fun t => qt_h8 t t.length x) ((docs.drop st).take (e - st)) 0 = 0 then 0 else 1) (x + 1) = qs_sum (fun x => if ql_b (fun t => qt_h8 t t.length x) ((docs.drop st).take (e - st)) 0 = 0 then 0 else 1) x + (if ql_b (fun t => qt_h8 t t.length x) ((docs.drop st).take (e - st)) 0 = 0 then 0 else 1) from rfl] at this
      refine xl_lb docs made st e x hlt hd hdl hok hpw hm hse he _ ?_
      have hbl := ql_b_le (fun t => qt_h8 t t.length x) ((docs.drop st).take (e - st)) 0 (fun y hy => by have := (hok y (List.mem_of_mem_drop (List.mem_of_mem_take hy))).1; omega)
      have hll : ((docs.drop st).take (e - st)).length ≤ 64 := by rw [List.length_take, List.length_drop]; omega
      generalize ql_b (fun t => qt_h8 t t.length x) ((docs.drop st).take (e - st)) 0 = B at *
      refine pk_le B 0 (fun hz => ?_) (fun hz => ?_) rfl rfl (by omega) (by omega)
      · rw [if_pos (by omega), Nat.add_zero] at this
        exact nm_r (nI_1 x) this
      · rw [if_neg (by omega)] at this
        exact nm_r (nI_1 _) (nm_r (nI_1 x) this)
theorem xl_cb1 (docs : List qf_D) (made st e : Nat) (hd : docs.length ≤ 64) (hdl : qx_dl docs xch xtl xdn xdf xdl) (hok : ∀ y, y ∈ docs → y.1 < made ∧ qf_t y.2.2.2) (hpw : docs.Pairwise (fun x y => x.1 < y.1)) (hm : made < 2 ^ 30) (hse : st ≤ e) (he : e ≤ docs.length) (post : Int32 → Prop) (hp : post (nI (qs_sum (fun x => ql_b (fun t => qt_h8 t t.length x) ((docs.drop st).take (e - st)) 0) 512))) :
  ∀ (n x : Nat), x ≤ 512 → 512 - x < n → wX_countBits_5 post (nI st) (nI e) xwc xdc xdm xsc xtc xnc xmc xbr xwt xch xtl xwf xdn xdf xdl xss xtk xta xtb xnk xna xnb xnl xnr xns xfa xfs xfi xrw xrc xcl xhd xre xhi xwo n (nI (qs_sum (fun x => ql_b (fun t => qt_h8 t t.length x) ((docs.drop st).take (e - st)) 0) x)) (nI x) := by
  intro n
  induction n with
  | zero => intro x h1 h2; omega
  | succ n ih =>
    intro x h1 h2
    refine pk_le 512 x (fun hle => ?_) (fun hlt => ?_)
    · have e : x = 512 := by omega
      subst e
      exact hp
    · have := ih (x + 1) (by omega) (by omega)
      rw [show qs_sum (fun x => ql_b (fun t => qt_h8 t t.length x) ((docs.drop st).take (e - st)) 0) (x + 1) = qs_sum (fun x => ql_b (fun t => qt_h8 t t.length x) ((docs.drop st).take (e - st)) 0) x + ql_b (fun t => qt_h8 t t.length x) ((docs.drop st).take (e - st)) 0 from rfl] at this
      refine xl_lb docs made st e x hlt hd hdl hok hpw hm hse he _ ?_
      exact nm_r (nI_add _ _) (nm_r (nI_1 x) this)
end
/-- over the reference's codes -/
theorem ql_lists8 (l : List qf_D) : qs_sum (fun x => if ql_b (fun t => qt_h8 t t.length x) l 0 = 0 then 0 else 1) 512 = ql_lists l := by
  rw [qs_conv]
  · apply qs_cg
    intro c hc
    rw [ql_b_cg (Q := qt_P c) (fun t => qt_h8_any hc)]
  · intro a b c ha hb hc h
    rw [ql_b_0 (fun t => qt_h8_bad ha hb hc h)]
    rfl
theorem ql_bits8 (l : List qf_D) : qs_sum (fun x => ql_b (fun t => qt_h8 t t.length x) l 0) 512 = ql_bits l := by
  rw [qs_conv]
  · apply qs_cg
    intro c hc
    exact ql_b_cg (Q := qt_P c) (fun t => qt_h8_any hc) l 0
  · intro a b c ha hb hc h
    exact ql_b_0 (fun t => qt_h8_bad ha hb hc h) l 0
