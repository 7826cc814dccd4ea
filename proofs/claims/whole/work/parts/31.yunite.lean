/-! the reference: segments are united, a sync -/
def qd_oy (docs : List qf_D) (st d : Nat) : List qf_D := if d ≤ st then docs.take d else qd_out docs st d
theorem qd_oy_len (docs : List qf_D) (st d : Nat) (hst : st ≤ docs.length) (hd : d ≤ docs.length) : (qd_oy docs st d).length ≤ d ∧ (d ≤ st → (qd_oy docs st d).length = d) ∧ (st ≤ d → st ≤ (qd_oy docs st d).length) := by
  unfold qd_oy
  by_cases z : d ≤ st
  · rw [if_pos z, List.length_take]; omega
  · rw [if_neg z]
    have := qd_out_len docs st d (by omega) hd
    omega
theorem qd_oy_s (docs : List qf_D) (st d : Nat) (hst : st ≤ docs.length) (hd : d < docs.length) : qd_oy docs st (d + 1) = if d < st ∨ docs[d].2.2.1 = true then qd_oy docs st d ++ [docs[d]] else qd_oy docs st d := by
  unfold qd_oy
  by_cases z : d < st
  · rw [if_pos (Or.inl z), if_pos (by omega), if_pos (by omega), List.take_succ_eq_append_getElem hd]
  · rw [if_neg (by omega)]
    have e : (if d ≤ st then docs.take d else qd_out docs st d) = qd_out docs st d := by
      by_cases y : d ≤ st
      · have : d = st := by omega
        subst this
        rw [if_pos y, qd_out_0 docs d hst]
      · rw [if_neg y]
    rw [e, qd_out_s docs st d (by omega) hd]
    by_cases y : docs[d].2.2.1 = true
    · rw [if_pos y, if_pos (Or.inr y)]
    · rw [if_neg y, if_neg (by intro h; rcases h with h | h; exact z h; exact y h)]
theorem qd_oy_all (docs : List qf_D) (st : Nat) (hst : st ≤ docs.length) : qd_oy docs st docs.length = docs.take st ++ (docs.drop st).filter qd_live := by
  unfold qd_oy
  by_cases y : docs.length ≤ st
  · have : docs.length = st := by omega
    rw [if_pos y, ← this, List.take_length, List.drop_length]
    simp
  · rw [if_neg y, qd_out_all]
theorem qd_oy_t {docs : List qf_D} {st d : Nat} (ht : ∀ x, x ∈ docs → qf_t x.2.2.2) : ∀ x, x ∈ qd_oy docs st d → qf_t x.2.2.2 := by
  intro x hx
  apply ht
  unfold qd_oy at hx
  split at hx
  · exact List.mem_of_mem_take hx
  · unfold qd_out at hx
    rcases List.mem_append.mp hx with y | y
    · exact List.mem_of_mem_take y
    · exact List.mem_of_mem_take (List.mem_of_mem_drop (List.mem_filter.mp y).1)
/-- the segment of the documents that are kept, while two segments become one -/
def qd_pt (segs : List Nat) (first : Nat) (j : Nat) : Nat := if j < qd_st first segs then qd_seg segs j else first
theorem qd_pt_new {docs : List qf_D} {segs : List Nat} {first : Nat} (hf : first ≤ segs.length) (hst : qd_st first segs ≤ docs.length) (j : Nat) (hj : j < (qd_gd first docs segs).length) : qd_pt segs first j = qd_seg (qd_gs first docs segs) j := by
  have hl : (qd_gd first docs segs).length = qd_st first segs + ((docs.drop (qd_st first segs)).filter qd_live).length := by
    unfold qd_gd
    rw [List.length_append, List.length_take, Nat.min_eq_left hst]
  have e0 : segs.take first ++ segs.drop first = segs := List.take_append_drop _ _
  unfold qd_pt qd_gs
  by_cases z : j < qd_st first segs
  · rw [if_pos z, qd_seg_app _ (segs.take first) j z]
    have := qd_seg_app (segs.drop first) (segs.take first) j z
    rw [e0] at this
    exact this
  · rw [if_neg z, if_neg (by omega), qd_seg_new _ (segs.take first) j (by show qd_st first segs ≤ j; omega) (by show j < qd_st first segs + _; omega), List.length_take]
    omega
section
variable {ywa ydd ynd yns yma ynt yno yrc yfo ybl yod ywr : Int32} {yan yab yac yad yal yabl yacl yacf ynu yfi ypa ysz yli ytx yki yf1 yf2 yo yoa yob yit yss ymo yst ymy ycl yrw yow yhi yla : Nat → Int32} {yen : Nat → Int64}
theorem ys_un1 (to d : Nat) (hto : to ≤ d) (hd : d < 64) (t : List Nat) (ht : qf_t t) (x1 x3 : Int32) (post : SY → Prop) (J7 : Int32 → Int32 → Int32 → (Nat → Int32) → (Nat → Int32) → (Nat → Int32) → (Nat → Int32) → (Nat → Int32) → (Nat → Int32) → (Nat → Int32) → (Nat → Int32) → (Nat → Int32) → (Nat → Int32) → (Nat → Int32) → (Nat → Int32) → (Nat → Int32) → (Nat → Int32) → (Nat → Int32) → (Nat → Int32) → (Nat → Int32) → (Nat → Int32) → (Nat → Int32) → (Nat → Int32) → (Nat → Int32) → (Nat → Int32) → (Nat → Int32) → (Nat → Int32) → (Nat → Int32) → (Nat → Int32) → (Nat → Int32) → (Nat → Int32) → (Nat → Int64) → (Nat → Int32) → (Nat → Int32) → Prop) (hz : ysz d = nI t.length) (tx0 : Nat → Int32) (h0 : ∀ i, i < t.length → tx0 (d * 40 + i) = nI (t.getD i 0))
  (hp : ∀ tx : Nat → Int32, (∀ j, j < t.length → tx (to * 40 + j) = nI (t.getD j 0)) → (∀ j, j < to * 40 ∨ to * 40 + t.length ≤ j → tx j = tx0 j) → J7 (nI (to + 1)) x3 (nI (d + 1)) yan yab yac yad yal yabl yacl yacf ynu yfi ypa ysz yli tx yki yf1 yf2 yo yoa yob yit yss ymo yst ymy ycl yrw yow yen yhi yla) :
  ∀ (n i : Nat) (tx : Nat → Int32), i ≤ t.length → t.length - i < n → (∀ j, j < i → tx (to * 40 + j) = nI (t.getD j 0)) → (∀ j, j < to * 40 ∨ to * 40 + i ≤ j → tx j = tx0 j) → wY_unite_137 post J7 x1 (nI to) x3 (nI d) ywa ydd ynd yns yma ynt yno yrc yfo ybl yod ywr n (nI i) yan yab yac yad yal yabl yacl yacf ynu yfi ypa ysz yli tx yki yf1 yf2 yo yoa yob yit yss ymo yst ymy ycl yrw yow yen yhi yla := by
  intro n
  have hL := ht.1
  induction n with
  | zero => intro i an h1 h2; omega
  | succ n ih =>
    intro i an h1 h2 h3 h4
    have cd : (nI d).toNatClampNeg = d := nI_clamp (by omega)
    refine ⟨pk_in d 64 hd, ?_⟩
    rw [cd, hz]
    refine pk_le t.length i (fun hle => ?_) (fun hlt => ?_)
    · have e : i = t.length := by omega
      subst e
      exact nm_r (nI_1 to) (nm_r (nI_1 d) (hp an h3 h4))
    · refine ⟨pk_in (d * 40 + i) 2560 (by omega) (ys_ix d i), pk_in (to * 40 + i) 2560 (by omega) (ys_ix to i), fun ch1 hch x hx => ?_⟩
      rw [hx, nI_1]
      rw [ys_ixc (by omega), ys_ixc (by omega), h4 (d * 40 + i) (by omega), h0 i hlt, ys_nar (qf_t_get ht hlt)] at hch
      refine ih (i + 1) ch1 (by omega) (by omega) ?_ ?_
      · intro j hj
        rw [hch]
        by_cases z : j = i
        · subst z; exact pk_us
        · rw [pk_un (by omega)]; exact h3 j (by omega)
      · intro j hj
        rw [hch, pk_un (by omega)]
        exact h4 j (by omega)
def qy_rest (docs : List qf_D) (segs : List Nat) (d : Nat) (tx sz nu fi pa li : Nat → Int32) : Prop := ∀ j x, d ≤ j → docs[j]? = some x → nu j = nI x.1 ∧ fi j = nI x.2.1 ∧ li j = (if x.2.2.1 = true then 1 else 0) ∧ pa j = nI (qd_seg segs j) ∧ qx_slot tx sz j (some x.2.2.2)
theorem ys_un3 (docs : List qf_D) (segs : List Nat) (first d : Nat) (hd : docs.length ≤ 64) (hlt : d < docs.length) (ht : ∀ x, x ∈ docs → qf_t x.2.2.2) (hst : qd_st first segs ≤ docs.length) (hsum : segs.sum = docs.length) (hsl : segs.length ≤ 16) (hf : first ≤ 16) (x3 : Int32) (post : SY → Prop) (J7 : Int32 → Int32 → Int32 → (Nat → Int32) → (Nat → Int32) → (Nat → Int32) → (Nat → Int32) → (Nat → Int32) → (Nat → Int32) → (Nat → Int32) → (Nat → Int32) → (Nat → Int32) → (Nat → Int32) → (Nat → Int32) → (Nat → Int32) → (Nat → Int32) → (Nat → Int32) → (Nat → Int32) → (Nat → Int32) → (Nat → Int32) → (Nat → Int32) → (Nat → Int32) → (Nat → Int32) → (Nat → Int32) → (Nat → Int32) → (Nat → Int32) → (Nat → Int32) → (Nat → Int32) → (Nat → Int32) → (Nat → Int32) → (Nat → Int32) → (Nat → Int64) → (Nat → Int32) → (Nat → Int32) → Prop)
  (hk : d < qd_st first segs ∨ docs[d].2.2.1 = true) (h1 : qy_dl (qd_oy docs (qd_st first segs) d) (qd_pt segs first) ytx ysz ynu yfi ypa yli) (h2 : qy_rest docs segs d ytx ysz ynu yfi ypa yli)
  (hp : ∀ tx sz nu fi pa li : Nat → Int32, qy_dl (qd_oy docs (qd_st first segs) (d + 1)) (qd_pt segs first) tx sz nu fi pa li → qy_rest docs segs (d + 1) tx sz nu fi pa li → J7 (nI (qd_oy docs (qd_st first segs) (d + 1)).length) x3 (nI (d + 1)) yan yab yac yad yal yabl yacl yacf nu fi pa sz li tx yki yf1 yf2 yo yoa yob yit yss ymo yst ymy ycl yrw yow yen yhi yla) :
  wY_unite_54 post J7 (nI first) (nI (qd_oy docs (qd_st first segs) d).length) x3 (nI d) ywa ydd ynd yns yma ynt yno yrc yfo ybl yod ywr yan yab yac yad yal yabl yacl yacf ynu yfi ypa ysz yli ytx yki yf1 yf2 yo yoa yob yit yss ymo yst ymy ycl yrw yow yen yhi yla := by
  have hg : docs[d]? = some docs[d] := List.getElem?_eq_getElem hlt
  obtain ⟨a1, a2, a3, a4, a5⟩ := h2 d _ (Nat.le_refl _) hg
  have hol := qd_oy_len docs (qd_st first segs) d hst (by omega)
  have hs' := qd_oy_s docs (qd_st first segs) d hst hlt
  rw [if_pos hk] at hs'
  have htd := ht _ (List.getElem_mem hlt)
  have hto := qd_oy_t (st := qd_st first segs) (d := d) ht
  have hge := qd_seg_ge segs d first (by omega)
  have hsg := qd_seg_lt segs d (by omega)
  generalize hO : qd_oy docs (qd_st first segs) d = O at *
  rw [hs'] at hp
  have hi : vp_in (nI d) 64 := pk_in d 64 (by omega)
  have ho : vp_in (nI O.length) 64 := pk_in O.length 64 (by omega)
  have cd : (nI d).toNatClampNeg = d := nI_clamp (by omega)
  have co : (nI O.length).toNatClampNeg = O.length := nI_clamp (by omega)
  have hli : vp_nar .boolean (yli d) = if docs[d].2.2.1 = true then 1 else 0 := by
    rw [a3]
    split
    · exact xs_b1
    · exact xs_b0
  have key : ∀ p : Nat, p = qd_pt segs first O.length → wY_unite_107 post J7 (nI first) (nI O.length) x3 (nI d) (nI p) (nI O.length) ywa ydd ynd yns yma ynt yno yrc yfo ybl yod ywr yan yab yac yad yal yabl yacl yacf (upd ynu O.length (nI docs[d].1)) (upd yfi O.length (nI docs[d].2.1)) ypa ysz yli ytx yki yf1 yf2 yo yoa yob yit yss ymo yst ymy ycl yrw yow yen yhi yla := by
    intro p hpp
    refine ⟨ho, nm_e ⟨hi, ho, nm_e ⟨hi, ho, nm_e ⟨docs[d].2.2.2.length + 1, ?_⟩⟩⟩⟩
    rw [cd, co, hli, a5.1]
    refine ys_un1 (ysz := upd ysz O.length (nI docs[d].2.2.2.length)) O.length d (by omega) (by omega) docs[d].2.2.2 htd (nI first) x3 post J7 ?_ ytx a5.2 ?_ (docs[d].2.2.2.length + 1) 0 ytx (by omega) (by omega) (fun j hj => absurd hj (by omega)) (fun j _ => rfl)
    · by_cases z : d = O.length
      · exact if_pos z
      · exact (pk_un z).trans a5.1
    · intro tx g1 g2
      have hkp : qy_kp 64 O.length ytx ysz tx (upd ysz O.length (nI docs[d].2.2.2.length)) := qx_slot_cp (fun s hs => pk_un hs) htd.1 g2
      have := hp tx (upd ysz O.length (nI docs[d].2.2.2.length)) (upd ynu O.length (nI docs[d].1)) (upd yfi O.length (nI docs[d].2.1)) (upd ypa O.length (nI p)) (upd yli O.length (if docs[d].2.2.1 = true then 1 else 0)) (qy_dl_app hto (by omega) h1 ⟨pk_us, g1⟩ hkp rfl (by rw [hpp])) ?_
      · rw [List.length_append, List.length_singleton] at this
        exact this
      · intro j x hj hx
        obtain ⟨b1, b2, b3, b4, b5⟩ := h2 j x (by omega) hx
        have hjl := qr_get_lt hx
        exact ⟨(pk_un (by omega)).trans b1, (pk_un (by omega)).trans b2, (pk_un (by omega)).trans b3, (pk_un (by omega)).trans b4, hkp j _ (by omega) (by omega) (qf_o_some (ht x (qr_get_in hx))) b5⟩
  refine ⟨hi, ho, nm_e ⟨hi, ho, nm_e ⟨hi, ?_⟩⟩⟩
  rw [cd, co, a1, a2, a4]
  refine pk_le first (qd_seg segs d) (fun hle => key first ?_) (fun hlt' => ⟨hi, key (qd_seg segs d) ?_⟩)
  · unfold qd_pt
    rw [if_neg (by have := hge.mp hle; omega)]
  · have : ¬ qd_st first segs ≤ d := fun z => by have := hge.mpr z; omega
    have e : O.length = d := hol.2.1 (by omega)
    unfold qd_pt
    rw [e, if_pos (by omega)]
theorem ys_un2 (docs : List qf_D) (segs : List Nat) (first : Nat) (hf : first ≤ segs.length) (hsl : segs.length ≤ 16) (hd : docs.length ≤ 64) (ht : ∀ x, x ∈ docs → qf_t x.2.2.2) (hsum : segs.sum = docs.length) (hnd : ynd = nI docs.length) (post : SY → Prop)
  (hp : ∀ tx sz nu fi pa li : Nat → Int32, qy_dl (qd_gd first docs segs) (qd_seg (qd_gs first docs segs)) tx sz nu fi pa li → post (ywa, ydd, nI (qd_gd first docs segs).length, nI (qd_gs first docs segs).length, yma, ynt, yno, yrc, yfo, ybl, yod, ywr, yan, yab, yac, yad, yal, yabl, yacl, yacf, nu, fi, pa, sz, li, tx, yki, yf1, yf2, yo, yoa, yob, yit, yss, ymo, yst, ymy, ycl, yrw, yow, yen, yhi, yla)) :
  ∀ (n d : Nat) (tx sz nu fi pa li : Nat → Int32), d ≤ docs.length → docs.length - d < n → qy_dl (qd_oy docs (qd_st first segs) d) (qd_pt segs first) tx sz nu fi pa li → qy_rest docs segs d tx sz nu fi pa li → wY_unite_7 post (nI first) ywa ydd ynd yns yma ynt yno yrc yfo ybl yod ywr n (nI (qd_oy docs (qd_st first segs) d).length) (nI ((qd_oy docs (qd_st first segs) d).length - qd_st first segs)) (nI d) yan yab yac yad yal yabl yacl yacf nu fi pa sz li tx yki yf1 yf2 yo yoa yob yit yss ymo yst ymy ycl yrw yow yen yhi yla := by
  intro n
  have hst : qd_st first segs ≤ docs.length := by rw [← hsum]; exact qd_st_le first
  induction n with
  | zero => intro d tx sz nu fi pa li h1 h2; omega
  | succ n ih =>
    intro d tx sz nu fi pa li h1 h2 h3 h4
    have hol := qd_oy_len docs (qd_st first segs) d hst h1
    refine pk_le docs.length d (fun hle => ?_) (fun hlt => ?_) hnd
    · have e : d = docs.length := by omega
      subst e
      have e2 : qd_oy docs (qd_st first segs) docs.length = qd_gd first docs segs := qd_oy_all docs _ hst
      rw [e2] at h3 hol ⊢
      have h3' : qy_dl (qd_gd first docs segs) (qd_seg (qd_gs first docs segs)) tx sz nu fi pa li := by
        intro j x hx
        obtain ⟨b1, b2, b3, b4, b5⟩ := h3 j x hx
        exact ⟨b1, b2, b3, by rw [b4, qd_pt_new hf hst j (qr_get_lt hx)], b5⟩
      have hl : (qd_gd first docs segs).length = qd_st first segs + ((docs.drop (qd_st first segs)).filter qd_live).length := by
        unfold qd_gd
        rw [List.length_append, List.length_take, Nat.min_eq_left hst]
      have hfl : (segs.take first).length = first := by rw [List.length_take]; omega
      have := hp tx sz nu fi pa li h3'
      refine pk_le ((qd_gd first docs segs).length - qd_st first segs) 0 (fun hle => ?_) (fun hlt => ?_)
      · have e4 : qd_gs first docs segs = segs.take first := by
          unfold qd_gs
          rw [if_pos (by omega), List.append_nil]
        rw [e4, hfl] at this
        exact this
      · have e4 : (qd_gs first docs segs).length = first + 1 := by
          unfold qd_gs
          rw [if_neg (by omega), List.length_append, hfl]
          rfl
        rw [e4] at this
        exact nm_r (nI_1 first) this
    · have hg : docs[d]? = some docs[d] := List.getElem?_eq_getElem hlt
      obtain ⟨a1, a2, a3, a4, a5⟩ := h4 d _ (Nat.le_refl _) hg
      have hi : vp_in (nI d) 64 := pk_in d 64 (by omega)
      have cd : (nI d).toNatClampNeg = d := nI_clamp (by omega)
      have hge := qd_seg_ge segs d first (by omega)
      have hsg := qd_seg_lt segs d (by omega)
      have hs' := qd_oy_s docs (qd_st first segs) d hst hlt
      refine ⟨hi, ?_⟩
      rw [cd, a4]
      refine pk_lt (qd_seg segs d) first (fun hlt' => ?_) (fun hle => ?_)
      · have hds : d < qd_st first segs := by
          rcases Nat.lt_or_ge d (qd_st first segs) with z | z
          · exact z
          · have := hge.mpr z; omega
        rw [if_pos (Or.inl hds)] at hs'
        refine ⟨hi, ?_⟩
        rw [cd, a4]
        refine br_t (nI_lt hlt' (by omega)) ?_
        refine ys_un3 docs segs first d hd hlt ht hst hsum hsl (by omega) _ post _ (Or.inl hds) h3 h4 ?_
        intro tx' sz' nu' fi' pa' li' g1 g2
        have := ih (d + 1) tx' sz' nu' fi' pa' li' (by omega) (by omega) g1 g2
        have e : (qd_oy docs (qd_st first segs) (d + 1)).length - qd_st first segs = (qd_oy docs (qd_st first segs) d).length - qd_st first segs := by
          rw [hs', List.length_append, List.length_singleton]
          have := hol.2.1 (by omega)
          omega
        rw [e] at this
        exact this
      · have hds : qd_st first segs ≤ d := hge.mp hle
        refine ⟨hi, ?_⟩
        rw [a3]
        by_cases z : docs[d].2.2.1 = true
        · rw [if_pos (Or.inr z)] at hs'
          rw [if_pos z]
          refine br_f (by decide) ⟨hi, ?_⟩
          rw [cd, a4]
          refine br_f (nI_nlt hle (by omega)) (nm_r (nI_1 _) ?_)
          refine ys_un3 docs segs first d hd hlt ht hst hsum hsl (by omega) _ post _ (Or.inr z) h3 h4 ?_
          intro tx' sz' nu' fi' pa' li' g1 g2
          have := ih (d + 1) tx' sz' nu' fi' pa' li' (by omega) (by omega) g1 g2
          have e : (qd_oy docs (qd_st first segs) (d + 1)).length - qd_st first segs = (qd_oy docs (qd_st first segs) d).length - qd_st first segs + 1 := by
            rw [hs', List.length_append, List.length_singleton]
            have := hol.2.2 hds
            omega
          rw [e] at this
          exact this
        · rw [if_neg (by intro h; rcases h with h | h; omega; exact z h)] at hs'
          rw [if_neg z]
          refine br_t rfl (nm_r (nI_1 d) ?_)
          rw [← hs']
          refine ih (d + 1) tx sz nu fi pa li (by omega) (by omega) (by rw [hs']; exact h3) (fun j x hj hx => h4 j x (by omega) hx)
theorem ys_un (docs : List qf_D) (segs : List Nat) (first : Nat) (hf : first ≤ segs.length) (hsl : segs.length ≤ 16) (hd : docs.length ≤ 64) (ht : ∀ x, x ∈ docs → qf_t x.2.2.2) (hsum : segs.sum = docs.length) (hnd : ynd = nI docs.length) (hdl : qy_dl docs (qd_seg segs) ytx ysz ynu yfi ypa yli) (xf : Int32) (ef : xf = nI first) (post : SY → Prop)
  (hp : ∀ tx sz nu fi pa li : Nat → Int32, qy_dl (qd_gd first docs segs) (qd_seg (qd_gs first docs segs)) tx sz nu fi pa li → post (ywa, ydd, nI (qd_gd first docs segs).length, nI (qd_gs first docs segs).length, yma, ynt, yno, yrc, yfo, ybl, yod, ywr, yan, yab, yac, yad, yal, yabl, yacl, yacf, nu, fi, pa, sz, li, tx, yki, yf1, yf2, yo, yoa, yob, yit, yss, ymo, yst, ymy, ycl, yrw, yow, yen, yhi, yla)) : wpY_unite post (ywa, ydd, ynd, yns, yma, ynt, yno, yrc, yfo, ybl, yod, ywr, yan, yab, yac, yad, yal, yabl, yacl, yacf, ynu, yfi, ypa, ysz, yli, ytx, yki, yf1, yf2, yo, yoa, yob, yit, yss, ymo, yst, ymy, ycl, yrw, yow, yen, yhi, yla) xf := by
  subst ef
  have e : qd_oy docs (qd_st first segs) 0 = [] := by unfold qd_oy; rw [if_pos (by omega)]; rfl
  have this : wY_unite_7 post (nI first) ywa ydd ynd yns yma ynt yno yrc yfo ybl yod ywr (docs.length + 1) (nI (qd_oy docs (qd_st first segs) 0).length) (nI ((qd_oy docs (qd_st first segs) 0).length - qd_st first segs)) (nI 0) yan yab yac yad yal yabl yacl yacf ynu yfi ypa ysz yli ytx yki yf1 yf2 yo yoa yob yit yss ymo yst ymy ycl yrw yow yen yhi yla := ys_un2 docs segs first hf hsl hd ht hsum hnd post hp (docs.length + 1) 0 ytx ysz ynu yfi ypa yli (by omega) (by omega) (by rw [e]; exact (fun j x hx => nomatch hx)) (fun j x _ hx => hdl j x hx)
  rw [e, List.length_nil, Nat.zero_sub] at this
  exact ⟨docs.length + 1, this⟩
end
