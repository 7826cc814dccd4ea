/-! the relation; the answers of the calls that look -/
def qk_ok (tk ta tb : Nat → Int32) (nt : Nat) : Prop := nt ≤ 16 ∧ ∀ t, t < nt → ∃ k : Nat, k < 12 ∧ tk t = nI k ∧ (k = 0 → ∃ a : Nat, a < 6 ∧ ta t = nI a) ∧ (k = 2 → ∃ a : Nat, 1 ≤ a ∧ a ≤ 63 ∧ ta t = nI a) ∧ (k = 9 → ∃ a b : Nat, a ≤ b ∧ b ≤ 3 ∧ ta t = nI a ∧ tb t = nI b)
def qR_T (xtk xta xtb yki yf1 yf2 : Nat → Int32) (xtc ynt : Int32) : Prop := ∃ nt : Nat, yki = xtk ∧ yf1 = xta ∧ yf2 = xtb ∧ xtc = nI nt ∧ ynt = nI nt ∧ qk_ok xtk xta xtb nt
def qR_H (H : List (Nat × Nat × Nat × Nat)) : Prop := H.length < 2 ^ 30 ∧ ∀ x, x ∈ H → x.1 < 10 ∧ x.2.1 ≤ 40 ∧ x.2.2.1 ≤ 40 ∧ x.2.2.2 ≤ 40
def qR_pk (x : Nat × Nat × Nat × Nat) : Nat := x.1 + 256 * x.2.1 + 65536 * x.2.2.1 + 16777216 * x.2.2.2
def qx_R (H : List (Nat × Nat × Nat × Nat)) (op : Nat → Prop) (hi : Nat → Int32) (mc : Int32) (wo : Nat → Int32) : Prop :=
  mc = nI H.length ∧ (∀ k x, k < 40 → H[k]? = some x → hi (k * 4) = nI x.1 ∧ hi (k * 4 + 1) = nI x.2.1 ∧ hi (k * 4 + 2) = nI x.2.2.1 ∧ hi (k * 4 + 3) = nI x.2.2.2) ∧ ∀ f, f < 10 → (op f → wo f = 1) ∧ (¬ op f → wo f = 0)
def qy_R (H : List (Nat × Nat × Nat × Nat)) (op : Nat → Prop) (hi : Nat → Int32) (fo od : Int32) : Prop :=
  fo = nI H.length ∧ (∀ k x, k < 40 → H[k]? = some x → hi k = nI (qR_pk x)) ∧ ∀ f, f < 10 → (bt od f = true ↔ op f)
def qR_R (xhi xwo : Nat → Int32) (xmc : Int32) (yhi : Nat → Int32) (yfo yod : Int32) : Prop := ∃ (H : List (Nat × Nat × Nat × Nat)) (op : Nat → Prop), qR_H H ∧ qx_R H op xhi xmc xwo ∧ qy_R H op yhi yfo yod
def i_Rel (k : Nat) (u : SX) (v : SY) : Prop := match u with
  | (xwc, xdc, xdm, xsc, xtc, xnc, xmc, xbr, xwt, xch, xtl, xwf, xdn, xdf, xdl, xss, xtk, xta, xtb, xnk, xna, xnb, xnl, xnr, xns, xfa, xfs, xfi, xrw, xrc, xcl, xhd, xre, xhi, xwo) => match v with
    | (ywa, ydd, ynd, yns, yma, ynt, yno, yrc, yfo, ybl, yod, ywr, yan, yab, yac, yad, yal, yabl, yacl, yacf, ynu, yfi, ypa, ysz, yli, ytx, yki, yf1, yf2, yo, yoa, yob, yit, yss, ymo, yst, ymy, ycl, yrw, yow, yen, yhi, yla) => ∃ (now base : Nat → qf_X) (wt : List (Nat × qf_X)) (dr : List Nat) (docs : List qf_D) (segs : List Nat) (made : Nat), qf_inv now base wt dr docs segs made ∧ made ≤ 2 * k ∧ qx_S now base wt dr docs segs made xch xtl xwf xwc xdn xdf xdl xdc xdm xss xsc ∧ qy_S now base wt dr docs segs made yan yal yab yabl yac yacl yacf yad ywa ydd ynu yfi ypa ysz yli ytx ynd yns yma ∧ qR_T xtk xta xtb yki yf1 yf2 xtc ynt ∧ qR_R xhi xwo xmc yhi yfo yod ∧ xbr = ybl ∧ xwt = ywr
theorem i_up {k : Nat} {u : SX} {v : SY} (h : i_Rel k u v) : i_Rel (k + 4) u v := by
  obtain ⟨xwc, xdc, xdm, xsc, xtc, xnc, xmc, xbr, xwt, xch, xtl, xwf, xdn, xdf, xdl, xss, xtk, xta, xtb, xnk, xna, xnb, xnl, xnr, xns, xfa, xfs, xfi, xrw, xrc, xcl, xhd, xre, xhi, xwo⟩ := u
  obtain ⟨ywa, ydd, ynd, yns, yma, ynt, yno, yrc, yfo, ybl, yod, ywr, yan, yab, yac, yad, yal, yabl, yacl, yacf, ynu, yfi, ypa, ysz, yli, ytx, yki, yf1, yf2, yo, yoa, yob, yit, yss, ymo, yst, ymy, ycl, yrw, yow, yen, yhi, yla⟩ := v
  obtain ⟨now, base, wt, dr, docs, segs, made, hi, hm, hX, hY, hT, hR, hb, hw⟩ := h
  exact ⟨now, base, wt, dr, docs, segs, made, hi, by omega, hX, hY, hT, hR, hb, hw⟩
theorem qa_nn {x : Int32} (h : ¬ x < 0) : x = nI x.toNatClampNeg ∧ x.toNatClampNeg < 2 ^ 31 := by
  obtain ⟨j, hj, rfl⟩ := nI_of h
  rw [nI_clamp hj]
  exact ⟨rfl, hj⟩
section
variable {xwc xdc xdm xsc xtc xnc xmc xbr xwt : Int32} {xch xtl xwf xdn xdf xdl xss xtk xta xtb xnk xna xnb xnl xnr xns xfa xfs xfi xrc xcl xhd xhi xwo : Nat → Int32} {xrw xre : Nat → Int64} {ywa ydd ynd yns yma ynt yno yrc yfo ybl yod ywr : Int32} {yan yab yac yad yal yabl yacl yacf ynu yfi ypa ysz yli ytx yki yf1 yf2 yo yoa yob yit yss ymo yst ymy ycl yrw yow yhi yla : Nat → Int32} {yen : Nat → Int64}
theorem i0_x (post : SX → Prop) (hp : ∀ tl : Nat → Int32, (∀ j, j < 91 → tl j = -1) → post (xwc, xdc, xdm, xsc, xtc, xnc, xmc, xbr, (-1), xch, upd tl 26 0, xwf, xdn, xdf, xdl, xss, xtk, xta, xtb, xnk, xna, xnb, xnl, xnr, xns, xfa, xfs, xfi, xrw, xrc, xcl, xhd, xre, xhi, xwo)) :
  ∀ (n i : Nat) (tl : Nat → Int32), i ≤ 91 → 91 - i < n → (∀ j, j < i → tl j = -1) → wX_init_219 post xwc xdc xdm xsc xtc xnc xmc xbr xwt n (nI i) xch tl xwf xdn xdf xdl xss xtk xta xtb xnk xna xnb xnl xnr xns xfa xfs xfi xrw xrc xcl xhd xre xhi xwo := by
  intro n
  induction n with
  | zero => intro i tl h1 h2; omega
  | succ n ih =>
    intro i tl h1 h2 h3
    refine pk_le 91 i (fun hle => nm_e (hp tl (fun j hj => h3 j (by omega)))) (fun hlt => ⟨pk_in i 91 hlt, nm_e (nm_r (nI_1 i) ?_)⟩)
    rw [nI_clamp (by omega)]
    refine ih (i + 1) _ (by omega) (by omega) (fun j hj => ?_)
    by_cases z : j = i
    · subst z; exact pk_us
    · exact (pk_un z).trans (h3 j (by omega))
theorem i0_y (post : SY → Prop) (hp : ∀ al abl : Nat → Int32, (∀ j, j < 10 → al j = -1 ∧ abl j = -1) → post (ywa, ydd, ynd, yns, yma, ynt, yno, yrc, yfo, ybl, yod, ywr, yan, yab, yac, yad, al, abl, yacl, yacf, ynu, yfi, ypa, ysz, yli, ytx, yki, yf1, yf2, yo, yoa, yob, yit, yss, ymo, yst, ymy, ycl, yrw, yow, yen, yhi, yla)) :
  ∀ (n i : Nat) (al abl : Nat → Int32), i ≤ 10 → 10 - i < n → (∀ j, j < i → al j = -1 ∧ abl j = -1) → wY_init_267 post ywa ydd ynd yns yma ynt yno yrc yfo ybl yod ywr n (nI i) yan yab yac yad al abl yacl yacf ynu yfi ypa ysz yli ytx yki yf1 yf2 yo yoa yob yit yss ymo yst ymy ycl yrw yow yen yhi yla := by
  intro n
  induction n with
  | zero => intro i al abl h1 h2; omega
  | succ n ih =>
    intro i al abl h1 h2 h3
    refine pk_le 10 i (fun hle => hp al abl (fun j hj => h3 j (by omega))) (fun hlt => ⟨pk_in i 10 hlt, nm_e ⟨pk_in i 10 hlt, nm_e (nm_r (nI_1 i) ?_)⟩⟩)
    rw [nI_clamp (by omega)]
    refine ih (i + 1) _ _ (by omega) (by omega) (fun j hj => ?_)
    by_cases z : j = i
    · subst z; exact ⟨pk_us, pk_us⟩
    · exact ⟨(pk_un z).trans (h3 j (by omega)).1, (pk_un z).trans (h3 j (by omega)).2⟩
end
theorem i_vc0 : wpX_init (fun u => wpY_init (fun v => i_Rel 0 u v)) := by
  refine ⟨92, i0_x _ ?_ 92 0 (fun _ => 0) (by omega) (by omega) (fun j hj => absurd hj (by omega))⟩
  intro tl htl
  refine ⟨11, i0_y _ ?_ 11 0 (fun _ => 0) (fun _ => 0) (by omega) (by omega) (fun j hj => absurd hj (by omega))⟩
  intro al abl h
  refine ⟨fun _ => none, fun _ => none, [], [], [], [], 0, ⟨fun f _ => rfl, fun f _ => qf_o_none, ⟨by simp, (fun c hc => nomatch hc)⟩, ⟨by simp, (fun x hx => nomatch hx)⟩, ⟨rfl, (fun s hs => nomatch hs), List.Pairwise.nil, (fun x hx => nomatch hx), List.Pairwise.nil⟩, List.Pairwise.nil⟩, by omega, ?_, ?_, ?_, ?_, rfl, rfl⟩
  · refine ⟨fun f hf => ?_, fun f hf => ?_, ⟨rfl, (fun k c hc => nomatch hc)⟩, ⟨pk_us, fun i hi => absurd hi (by simp)⟩, ⟨rfl, (fun d x hx => nomatch hx)⟩, rfl, rfl, (fun k s hk => nomatch hk)⟩
    · exact (pk_un (by omega)).trans (htl f (by omega))
    · exact (pk_un (by omega)).trans (htl _ (by omega))
  · exact ⟨fun f hf => (h f hf).1, fun f hf => (h f hf).2, ⟨rfl, (fun k c hc => nomatch hc)⟩, ⟨rfl, fun i hi => absurd hi (by simp)⟩, ⟨rfl, (fun d x hx => nomatch hx)⟩, rfl, rfl⟩
  · exact ⟨0, rfl, rfl, rfl, rfl, rfl, by omega, fun t ht => absurd ht (by omega)⟩
  · refine ⟨[], fun _ => False, ⟨by simp, (fun x hx => nomatch hx)⟩, ⟨rfl, (fun k x _ hx => nomatch hx), fun f _ => ⟨fun h => h.elim, fun _ => rfl⟩⟩, ⟨rfl, (fun k x _ hx => nomatch hx), fun f _ => ?_⟩⟩
    rw [b_0]
    exact ⟨fun z => (nomatch z), fun z => z.elim⟩
