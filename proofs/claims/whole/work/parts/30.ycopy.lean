/-! the reference: texts, changes, documents -/
theorem ys_nar {c : Nat} (h : c < 7) : vp_nar .byte (nI c) = nI c := by
  rw [vp_nar_byte]
  exact (by decide +kernel : ∀ c, c < 7 → (nI c).toInt8.toInt32 = nI c) c h
theorem ys_ix (s i : Nat) : (40 : Int32) * nI s + nI i = nI (s * 40 + i) := by
  rw [show (40 : Int32) = nI 40 from rfl, pk_mul, nI_add, Nat.mul_comm]
theorem ys_ixc {s i : Nat} (h : s * 40 + i < 2 ^ 31) : ((40 : Int32) * nI s + nI i).toNatClampNeg = s * 40 + i := by
  rw [ys_ix]; exact nI_clamp h
theorem ys_neg : (-1 : Int32) < 0 := by decide
def qy_kp (n s0 : Nat) (ch tl ch' tl' : Nat → Int32) : Prop := ∀ s o', s < n → s ≠ s0 → qf_o o' → qx_slot ch tl s o' → qx_slot ch' tl' s o'
theorem qx_slot_cp {ch ch' tl tl' : Nat → Int32} {f L n : Nat} (hl : ∀ s, s ≠ f → tl' s = tl s) (hL : L ≤ 40) (h2 : ∀ j, j < f * 40 ∨ f * 40 + L ≤ j → ch' j = ch j) : qy_kp n f ch tl ch' tl' := by
  intro s o' _ hs ho h
  match o', ho, h with
  | none, _, h => exact (hl s hs).trans h
  | some t', ho, h =>
    have hl' : t'.length ≤ 40 := (ho t' rfl).1
    refine ⟨(hl s hs).trans h.1, fun i hi => ?_⟩
    rw [h2 _ (by omega)]
    exact h.2 i hi
section
variable {ywa ydd ynd yns yma ynt yno yrc yfo ybl yod ywr : Int32} {yan yab yac yad yal yabl yacl yacf ynu yfi ypa ysz yli ytx yki yf1 yf2 yo yoa yob yit yss ymo yst ymy ycl yrw yow yhi yla : Nat → Int32} {yen : Nat → Int64}
theorem ys_ap1 (k f : Nat) (hk : k < 6) (hf : f < 10) (t : List Nat) (ht : qf_t t) (hc : ∀ i, i < t.length → yac (k * 40 + i) = nI (t.getD i 0)) (hl : yal f = nI t.length) (an0 : Nat → Int32) (post : SY → Prop)
  (hp : ∀ an : Nat → Int32, (∀ j, j < t.length → an (f * 40 + j) = nI (t.getD j 0)) → (∀ j, j < f * 40 ∨ f * 40 + t.length ≤ j → an j = an0 j) → post (ywa, ydd, ynd, yns, yma, ynt, yno, yrc, yfo, ybl, yod, ywr, an, yab, yac, yad, yal, yabl, yacl, yacf, ynu, yfi, ypa, ysz, yli, ytx, yki, yf1, yf2, yo, yoa, yob, yit, yss, ymo, yst, ymy, ycl, yrw, yow, yen, yhi, yla)) :
  ∀ (n i : Nat) (an : Nat → Int32), i ≤ t.length → t.length - i < n → (∀ j, j < i → an (f * 40 + j) = nI (t.getD j 0)) → (∀ j, j < f * 40 ∨ f * 40 + i ≤ j → an j = an0 j) → wY_apply_21 post (nI k) (nI f) ywa ydd ynd yns yma ynt yno yrc yfo ybl yod ywr n (nI i) an yab yac yad yal yabl yacl yacf ynu yfi ypa ysz yli ytx yki yf1 yf2 yo yoa yob yit yss ymo yst ymy ycl yrw yow yen yhi yla := by
  intro n
  have hL := ht.1
  induction n with
  | zero => intro i an h1 h2; omega
  | succ n ih =>
    intro i an h1 h2 h3 h4
    have cf : (nI f).toNatClampNeg = f := nI_clamp (by omega)
    refine ⟨pk_in f 10 hf, ?_⟩
    rw [cf, hl]
    refine pk_le t.length i (fun hle => ?_) (fun hlt => ?_)
    · have e : i = t.length := by omega
      subst e
      exact hp an h3 h4
    · refine ⟨pk_in (k * 40 + i) 240 (by omega) (ys_ix k i), pk_in (f * 40 + i) 400 (by omega) (ys_ix f i), fun ch1 hch x hx => ?_⟩
      rw [hx, nI_1]
      rw [ys_ixc (by omega), ys_ixc (by omega), hc i hlt, ys_nar (qf_t_get ht hlt)] at hch
      refine ih (i + 1) ch1 (by omega) (by omega) ?_ ?_
      · intro j hj
        rw [hch]
        by_cases z : j = i
        · subst z; exact pk_us
        · rw [pk_un (by omega)]; exact h3 j (by omega)
      · intro j hj
        rw [hch, pk_un (by omega)]
        exact h4 j (by omega)
theorem ys_ap {xk : Int32} (k : Nat) (ek : xk = nI k) (hk : k < 6) (f : Nat) (hf : f < 10) (o : qf_X) (ho : qf_o o) (hcf : yacf k = nI f) (hs : qx_slot yac yacl k o) (post : SY → Prop)
  (hp : ∀ an al : Nat → Int32, qx_slot an al f o → qy_kp 10 f yan yal an al → post (ywa, ydd, ynd, yns, yma, ynt, yno, yrc, yfo, ybl, yod, ywr, an, yab, yac, yad, al, yabl, yacl, yacf, ynu, yfi, ypa, ysz, yli, ytx, yki, yf1, yf2, yo, yoa, yob, yit, yss, ymo, yst, ymy, ycl, yrw, yow, yen, yhi, yla)) : wpY_apply post (ywa, ydd, ynd, yns, yma, ynt, yno, yrc, yfo, ybl, yod, ywr, yan, yab, yac, yad, yal, yabl, yacl, yacf, ynu, yfi, ypa, ysz, yli, ytx, yki, yf1, yf2, yo, yoa, yob, yit, yss, ymo, yst, ymy, ycl, yrw, yow, yen, yhi, yla) xk := by
  subst ek
  have ck : (nI k).toNatClampNeg = k := nI_clamp (by omega)
  have cf : (nI f).toNatClampNeg = f := nI_clamp (by omega)
  have e : yacf (nI k).toNatClampNeg = nI f := by rw [ck]; exact hcf
  refine And.intro (pk_in k 6 hk) (nm_r e (And.intro (pk_in k 6 hk) (And.intro (pk_in f 10 hf) (nm_e ?_))))
  rw [cf, ck]
  match o, ho, hs, hp with
  | none, ho, hs, hp =>
    refine ⟨1, pk_in f 10 hf, ?_⟩
    rw [cf, pk_us, show yacl k = -1 from hs]
    refine br_t (by decide) (hp yan _ pk_us ?_)
    exact qx_slot_cp (L := 0) (fun s hs => pk_un hs) (by omega) (fun j _ => rfl)
  | some t, ho, hs, hp =>
    have ht := ho t rfl
    refine ⟨t.length + 1, ?_⟩
    refine ys_ap1 (yal := upd yal f (yacl k)) k f hk hf t ht hs.2 (pk_us.trans hs.1) yan post ?_ (t.length + 1) 0 yan (by omega) (by omega) (fun j hj => absurd hj (by omega)) (fun j _ => rfl)
    intro an h1 h2
    exact hp an _ ⟨pk_us.trans hs.1, h1⟩ (qx_slot_cp (fun s hs => pk_un hs) ht.1 h2)
/-- a document is made -/
theorem ys_mk1 (d f : Nat) (hd : d < 64) (hf : f < 10) (t : List Nat) (ht : qf_t t) (hs : qx_slot yan yal f (some t)) (tx0 : Nat → Int32) (hnd : ynd = nI d) (post : SY → Prop)
  (hp : ∀ tx : Nat → Int32, (∀ j, j < t.length → tx (d * 40 + j) = nI (t.getD j 0)) → (∀ j, j < d * 40 ∨ d * 40 + t.length ≤ j → tx j = tx0 j) → post (ywa, ydd, nI (d + 1), yns, yma, ynt, yno, yrc, yfo, ybl, yod, ywr, yan, yab, yac, yad, yal, yabl, yacl, yacf, ynu, yfi, ypa, ysz, yli, tx, yki, yf1, yf2, yo, yoa, yob, yit, yss, ymo, yst, ymy, ycl, yrw, yow, yen, yhi, yla)) :
  ∀ (n i : Nat) (tx : Nat → Int32), i ≤ t.length → t.length - i < n → (∀ j, j < i → tx (d * 40 + j) = nI (t.getD j 0)) → (∀ j, j < d * 40 ∨ d * 40 + i ≤ j → tx j = tx0 j) → wY_make_70 post (nI f) ywa ydd ynd yns yma ynt yno yrc yfo ybl yod ywr n (nI i) yan yab yac yad yal yabl yacl yacf ynu yfi ypa ysz yli tx yki yf1 yf2 yo yoa yob yit yss ymo yst ymy ycl yrw yow yen yhi yla := by
  intro n
  subst hnd
  have hL := ht.1
  induction n with
  | zero => intro i an h1 h2; omega
  | succ n ih =>
    intro i an h1 h2 h3 h4
    have cf : (nI f).toNatClampNeg = f := nI_clamp (by omega)
    refine ⟨pk_in f 10 hf, ?_⟩
    rw [cf, hs.1]
    refine pk_le t.length i (fun hle => ?_) (fun hlt => ?_)
    · have e : i = t.length := by omega
      subst e
      exact nm_r (nI_1 d) (hp an h3 h4)
    · refine ⟨pk_in (f * 40 + i) 400 (by omega) (ys_ix f i), pk_in (d * 40 + i) 2560 (by omega) (ys_ix d i), fun ch1 hch x hx => ?_⟩
      rw [hx, nI_1]
      rw [ys_ixc (by omega), ys_ixc (by omega), hs.2 i hlt, ys_nar (qf_t_get ht hlt)] at hch
      refine ih (i + 1) ch1 (by omega) (by omega) ?_ ?_
      · intro j hj
        rw [hch]
        by_cases z : j = i
        · subst z; exact pk_us
        · rw [pk_un (by omega)]; exact h3 j (by omega)
      · intro j hj
        rw [hch, pk_un (by omega)]
        exact h4 j (by omega)
def qy_dl (docs : List qf_D) (pt : Nat → Nat) (tx sz nu fi pa li : Nat → Int32) : Prop := ∀ d x, docs[d]? = some x → nu d = nI x.1 ∧ fi d = nI x.2.1 ∧ li d = (if x.2.2.1 = true then 1 else 0) ∧ pa d = nI (pt d) ∧ qx_slot tx sz d (some x.2.2.2)
theorem qy_dl_app {docs : List qf_D} {pt : Nat → Nat} {tx sz nu fi pa li tx' sz' : Nat → Int32} {y : qf_D} {b p : Int32} (ht : ∀ x, x ∈ docs → qf_t x.2.2.2) (hd : docs.length < 64) (h : qy_dl docs pt tx sz nu fi pa li) (hs : qx_slot tx' sz' docs.length (some y.2.2.2)) (hk : qy_kp 64 docs.length tx sz tx' sz') (hb : b = if y.2.2.1 = true then 1 else 0) (hp : p = nI (pt docs.length)) : qy_dl (docs ++ [y]) pt tx' sz' (upd nu docs.length (nI y.1)) (upd fi docs.length (nI y.2.1)) (upd pa docs.length p) (upd li docs.length b) := by
  intro d x hx
  by_cases z : d < docs.length
  · rw [List.getElem?_append_left z] at hx
    obtain ⟨a1, a2, a3, a4, a5⟩ := h d x hx
    exact ⟨(pk_un (by omega)).trans a1, (pk_un (by omega)).trans a2, (pk_un (by omega)).trans a3, (pk_un (by omega)).trans a4, hk d _ (by omega) (by omega) (qf_o_some (ht x (qr_get_in hx))) a5⟩
  · have e : d = docs.length := by
      have := qr_get_lt hx
      rw [List.length_append, List.length_singleton] at this
      omega
    subst e
    rw [List.getElem?_append_right (Nat.le_refl _), Nat.sub_self] at hx
    have e : y = x := by simpa using hx
    subst e
    exact ⟨pk_us, pk_us, pk_us.trans hb, pk_us.trans hp, hs⟩
theorem ys_mk (docs : List qf_D) (pt : Nat → Nat) (f made : Nat) (hf : f < 10) (t : List Nat) (ht : qf_t t) (hs : qx_slot yan yal f (some t)) (hd : docs.length < 64) (hc : ynd = nI docs.length) (hm : yma = nI made) (hns : yns = nI (pt docs.length)) (hdl : qy_dl docs pt ytx ysz ynu yfi ypa yli) (hdt : ∀ x, x ∈ docs → qf_t x.2.2.2) (post : SY → Prop)
  (hp : ∀ tx sz nu fi pa li : Nat → Int32, qy_dl (docs ++ [(made, f, true, t)]) pt tx sz nu fi pa li → post (ywa, ydd, nI (docs.length + 1), yns, nI (made + 1), ynt, yno, yrc, yfo, ybl, yod, ywr, yan, yab, yac, yad, yal, yabl, yacl, yacf, nu, fi, pa, sz, li, tx, yki, yf1, yf2, yo, yoa, yob, yit, yss, ymo, yst, ymy, ycl, yrw, yow, yen, yhi, yla)) : wpY_make post (ywa, ydd, ynd, yns, yma, ynt, yno, yrc, yfo, ybl, yod, ywr, yan, yab, yac, yad, yal, yabl, yacl, yacf, ynu, yfi, ypa, ysz, yli, ytx, yki, yf1, yf2, yo, yoa, yob, yit, yss, ymo, yst, ymy, ycl, yrw, yow, yen, yhi, yla) (nI f) := by
  subst hc; subst hm
  have hi : vp_in (nI docs.length) 64 := pk_in docs.length 64 hd
  have cc : (nI docs.length).toNatClampNeg = docs.length := nI_clamp (by omega)
  have cf : (nI f).toNatClampNeg = f := nI_clamp (by omega)
  unfold wpY_make
  refine nm_r (nI_1 made) ⟨hi, nm_e ⟨hi, nm_e ⟨hi, nm_e ⟨hi, nm_e ⟨pk_in f 10 hf, hi, nm_e ⟨t.length + 1, ?_⟩⟩⟩⟩⟩⟩
  rw [cc, cf, xs_b1]
  refine ys_mk1 docs.length f hd hf t ht hs ytx rfl post ?_ (t.length + 1) 0 ytx (by omega) (by omega) (fun j hj => absurd hj (by omega)) (fun j _ => rfl)
  intro tx h1 h2
  refine hp tx _ _ _ _ _ (qy_dl_app (y := (made, f, true, t)) (p := yns) hdt hd hdl ⟨pk_us.trans hs.1, h1⟩ (qx_slot_cp (fun s hs => pk_un hs) ht.1 h2) rfl hns)
end
