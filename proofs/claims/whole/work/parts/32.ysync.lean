/-! the reference: a sync -/
def qd_p1 (docs : List qf_D) (segs : List Nat) (j : Nat) : Nat := if j < docs.length then qd_seg segs j else segs.length
theorem qy_dl_dead {docs : List qf_D} {ch : List Nat} {pt : Nat → Nat} {tx sz nu fi pa li li' : Nat → Int32} (h : qy_dl docs pt tx sz nu fi pa li) (h' : ∀ d x, docs[d]? = some x → li' d = if (qd_dead ch x).2.2.1 = true then 1 else 0) : qy_dl (docs.map (qd_dead ch)) pt tx sz nu fi pa li' := by
  intro d x hx
  rw [List.getElem?_map] at hx
  cases hy : docs[d]? with
  | none => rw [hy] at hx; exact nomatch hx
  | some y =>
    rw [hy] at hx
    have e : qd_dead ch y = x := by simpa using hx
    obtain ⟨a1, a2, a3, a4, a5⟩ := h d y hy
    have b := h' d y hy
    rw [e] at b
    have e2 : x.1 = y.1 ∧ x.2.1 = y.2.1 ∧ x.2.2.2 = y.2.2.2 := by
      rw [← e]
      unfold qd_dead
      split <;> exact ⟨rfl, rfl, rfl⟩
    exact ⟨by rw [e2.1]; exact a1, by rw [e2.2.1]; exact a2, b, a4, by rw [e2.2.2]; exact a5⟩
section
variable {ywa ydd ynd yns yma ynt yno yrc yfo ybl yod ywr : Int32} {yan yab yac yad yal yabl yacl yacf ynu yfi ypa ysz yli ytx yki yf1 yf2 yo yoa yob yit yss ymo yst ymy ycl yrw yow yhi yla : Nat → Int32} {yen : Nat → Int64}
theorem ys_in (x : Int32) (lo hi : Nat) (hhi : hi < 2 ^ 31) (hlo : lo < 2 ^ 31) (xl xh : Int32) (el : xl = nI lo) (eh : xh = nI hi) (post : Int32 → Prop) (h0 : (∀ j, lo ≤ j → j ≤ hi → x ≠ nI j) → post 0) (h1 : ∀ j, lo ≤ j → j ≤ hi → x = nI j → post 1) : wpY_in post x xl xh := by
  subst el; subst eh
  by_cases hle : lo ≤ hi
  · by_cases a : x < nI lo
    · refine br_t a (h0 (fun j h2 h3 e => ?_))
      rw [e, nI_ltI (by omega) (by omega)] at a
      omega
    · refine br_f a ?_
      by_cases b : nI hi < x
      · refine br_t b (h0 (fun j h2 h3 e => ?_))
        rw [e, nI_ltI (by omega) (by omega)] at b
        omega
      · refine br_f b ?_
        have hx0 : ¬ x < 0 := by
          intro z
          rw [Int32.lt_iff_toInt_lt] at z a
          rw [nI_toInt (by omega)] at a
          have : (0 : Int32).toInt = 0 := by decide
          omega
        obtain ⟨j, hj, rfl⟩ := nI_of hx0
        rw [nI_ltI hj (by omega)] at a
        rw [nI_ltI (by omega) hj] at b
        exact h1 j (by omega) (by omega) rfl
  · have hh := h0 (fun j h2 h3 => absurd h3 (by omega))
    refine br_c (fun _ => hh) (fun a => br_t ?_ hh)
    rw [Int32.lt_iff_toInt_lt] at a ⊢
    rw [nI_toInt hhi]
    rw [nI_toInt hlo] at a
    omega
theorem ys_m (wt : List (Nat × qf_X)) (hl : wt.length ≤ 6) (hw : ∀ k c, wt[k]? = some c → yacf k = nI c.1 ∧ c.1 < 10) (hwa : ywa = nI wt.length) (post : Int32 → SY → Prop)
  (hp : ∀ x1 : Int32, (∀ f, f < 10 → (bt x1 f = true ↔ f ∈ qd_ch wt)) → ∃ n : Nat, wY_sync_31 post x1 ywa ydd ynd yns yma ynt yno yrc yfo ybl yod ywr n 0 yan yab yac yad yal yabl yacl yacf ynu yfi ypa ysz yli ytx yki yf1 yf2 yo yoa yob yit yss ymo yst ymy ycl yrw yow yen yhi yla) :
  ∀ (n i : Nat) (x1 : Int32), i ≤ wt.length → wt.length - i < n → (∀ f, f < 10 → (bt x1 f = true ↔ f ∈ qd_ch (wt.take i))) → wY_sync_4 post ywa ydd ynd yns yma ynt yno yrc yfo ybl yod ywr yan yab yac yad yal yabl yacl yacf ynu yfi ypa ysz yli ytx yki yf1 yf2 yo yoa yob yit yss ymo yst ymy ycl yrw yow yen yhi yla n x1 (nI i) := by
  intro n
  induction n with
  | zero => intro i x1 h1 h2; omega
  | succ n ih =>
    intro i x1 h1 h2 h3
    refine pk_le wt.length i (fun hle => ?_) (fun hlt => ?_) hwa
    · rw [List.take_of_length_le hle] at h3
      exact hp x1 h3
    · obtain ⟨a1, a2⟩ := hw i _ (List.getElem?_eq_getElem hlt)
      have ci : (nI i).toNatClampNeg = i := nI_clamp (by omega)
      refine ⟨pk_in i 6 (by omega), nm_e (nm_r (nI_1 i) ?_)⟩
      rw [ci, a1]
      refine ih (i + 1) _ (by omega) (by omega) ?_
      intro f hf
      rw [b_or, qb_h32 _ (by omega) f (by omega), Bool.or_eq_true, h3 f hf, decide_eq_true_eq, List.take_succ_eq_append_getElem hlt]
      unfold qd_ch
      rw [List.map_append, List.mem_append]
      simp
theorem ys_d (docs : List qf_D) (ch : List Nat) (x1 : Int32) (hx : ∀ f, f < 10 → (bt x1 f = true ↔ f ∈ ch)) (hd : docs.length ≤ 64) (hnd : ynd = nI docs.length) (hf : ∀ d x, docs[d]? = some x → yfi d = nI x.2.1 ∧ x.2.1 < 10) (post : Int32 → SY → Prop)
  (hp : ∀ li : Nat → Int32, (∀ d x, docs[d]? = some x → li d = if (qd_dead ch x).2.2.1 = true then 1 else 0) → ∃ n : Nat, wY_sync_73 post x1 ynd n 0 ywa ydd ynd yns yma ynt yno yrc yfo ybl yod ywr yan yab yac yad yal yabl yacl yacf ynu yfi ypa ysz li ytx yki yf1 yf2 yo yoa yob yit yss ymo yst ymy ycl yrw yow yen yhi yla) :
  ∀ (n i : Nat) (li : Nat → Int32), i ≤ docs.length → docs.length - i < n → (∀ d x, docs[d]? = some x → li d = if (qd_dk ch i d x).2.2.1 = true then 1 else 0) → wY_sync_31 post x1 ywa ydd ynd yns yma ynt yno yrc yfo ybl yod ywr n (nI i) yan yab yac yad yal yabl yacl yacf ynu yfi ypa ysz li ytx yki yf1 yf2 yo yoa yob yit yss ymo yst ymy ycl yrw yow yen yhi yla := by
  intro n
  induction n with
  | zero => intro i dl h1 h2; omega
  | succ n ih =>
    intro i dl h1 h2 h3
    refine pk_le docs.length i (fun hle => ?_) (fun hlt => ?_) hnd
    · refine hp dl (fun d x hx => ?_)
      have := qr_get_lt hx
      rw [h3 d x hx, qd_dk_lt (by omega)]
    · have hg : docs[i]? = some docs[i] := List.getElem?_eq_getElem hlt
      have ci : (nI i).toNatClampNeg = i := nI_clamp (by omega)
      have hi : vp_in (nI i) 64 := pk_in i 64 (by omega)
      obtain ⟨a1, a2⟩ := hf i _ hg
      refine ⟨hi, ?_⟩
      rw [ci, a1]
      refine ek_if ((qb_s1 x1 docs[i].2.1 (by omega)).trans (hx _ a2)) (fun z => ⟨hi, nm_e (nm_r (nI_1 i) ?_)⟩) (fun z => nm_r (nI_1 i) ?_)
      · rw [xs_b0]
        refine ih (i + 1) _ (by omega) (by omega) ?_
        intro d x hx
        by_cases y : d = i
        · subst y
          rw [hg] at hx
          cases hx
          rw [pk_us, qd_dk_lt (by omega)]
          unfold qd_dead
          rw [if_pos z]
          rfl
        · rw [pk_un y, h3 d x hx]
          by_cases w : d < i
          · rw [qd_dk_lt w, qd_dk_lt (by omega)]
          · rw [qd_dk_ge w, qd_dk_ge (by omega)]
      · refine ih (i + 1) _ (by omega) (by omega) ?_
        intro d x hx
        rw [h3 d x hx]
        by_cases y : d = i
        · subst y
          rw [hg] at hx
          cases hx
          rw [qd_dk_ge (by omega), qd_dk_lt (by omega)]
          unfold qd_dead
          rw [if_neg z]
        · by_cases w : d < i
          · rw [qd_dk_lt w, qd_dk_lt (by omega)]
          · rw [qd_dk_ge w, qd_dk_ge (by omega)]
theorem ys_n (now : Nat → qf_X) (ch : List Nat) (docs : List qf_D) (segs : List Nat) (made : Nat) (pt : Nat → Nat) (x1 : Int32) (hx : ∀ f, f < 10 → (bt x1 f = true ↔ f ∈ ch)) (hc : ch.length ≤ 6) (hno : ∀ f, f < 10 → qf_o (now f)) (hn : ∀ f, f < 10 → qx_slot yan yal f (now f)) (hd : docs.length ≤ 55) (hdt : ∀ x, x ∈ docs → qf_t x.2.2.2) (hns : yns = nI segs.length) (hpt : ∀ j, docs.length ≤ j → pt j = segs.length) (post : Int32 → SY → Prop)
  (hp : ∀ tx sz nu fi pa li : Nat → Int32, qy_dl (docs ++ qd_new ch now 10 0 made) pt tx sz nu fi pa li → ∃ n : Nat, wY_sync_128 post ywa ydd (nI (docs ++ qd_new ch now 10 0 made).length) (nI (qd_s1 segs (qd_new ch now 10 0 made).length).length) (nI (made + (qd_new ch now 10 0 made).length)) ynt yno yrc yfo ybl yod ywr n 0 yan yab yac yad yal yabl yacl yacf nu fi pa sz li tx yki yf1 yf2 yo yoa yob yit yss ymo yst ymy ycl yrw yow yen yhi yla) :
  ∀ (n f : Nat) (tx sz nu fi pa li : Nat → Int32), f ≤ 10 → 10 - f < n → qy_dl (docs ++ qd_new ch now f 0 made) pt tx sz nu fi pa li → wY_sync_73 post x1 (nI docs.length) n (nI f) ywa ydd (nI (docs ++ qd_new ch now f 0 made).length) yns (nI (made + (qd_new ch now f 0 made).length)) ynt yno yrc yfo ybl yod ywr yan yab yac yad yal yabl yacl yacf nu fi pa sz li tx yki yf1 yf2 yo yoa yob yit yss ymo yst ymy ycl yrw yow yen yhi yla := by
  intro n
  subst hns
  induction n with
  | zero => intro f tx sz nu fi pa li h1 h2; omega
  | succ n ih =>
    intro f tx sz nu fi pa li h1 h2 h3
    have hln := qd_new_len ch now f 0 made
    refine pk_le 10 f (fun hle => ?_) (fun hlt => ?_)
    · have e : f = 10 := by omega
      subst e
      have := hp tx sz nu fi pa li h3
      refine pk_le (docs ++ qd_new ch now 10 0 made).length docs.length (fun hle => ?_) (fun hlt => ?_) rfl rfl (by rw [List.length_append]; omega) (by omega)
      · rw [List.length_append] at hle
        have e4 : qd_s1 segs (qd_new ch now 10 0 made).length = segs := by
          unfold qd_s1
          rw [if_pos (by omega), List.append_nil]
        rw [e4] at this
        exact this
      · rw [List.length_append] at hlt
        have e4 : (qd_s1 segs (qd_new ch now 10 0 made).length).length = segs.length + 1 := by
          unfold qd_s1
          rw [if_neg (by omega), List.length_append]
          rfl
        rw [e4] at this
        exact nm_r (nI_1 _) this
    · have hcut := qd_new_cut ch now f 0 made
      rw [Nat.zero_add] at hcut
      have cf : (nI f).toNatClampNeg = f := nI_clamp (by omega)
      refine ek_if ((qb_s1 x1 f (by omega)).trans (hx f hlt)) (fun z => ⟨pk_in f 10 hlt, ?_⟩) (fun z => nm_r (nI_1 f) ?_)
      · rw [if_pos z] at hcut
        rw [cf]
        have hs := hn f hlt
        have hot : ∀ x, x ∈ docs ++ qd_new ch now f 0 made → qf_t x.2.2.2 := by
          intro x hx
          rcases List.mem_append.mp hx with y | y
          · exact hdt x y
          · exact qd_new_t hno f made h1 x y
        cases hnf : now f with
        | none =>
          rw [hnf] at hs hcut
          dsimp only at hcut
          rw [List.append_nil] at hcut
          rw [show yal f = -1 from hs]
          refine br_t (by decide) (nm_r (nI_1 f) ?_)
          have := ih (f + 1) tx sz nu fi pa li (by omega) (by omega) (by rw [hcut]; exact h3)
          rw [hcut] at this
          exact this
        | some t =>
          rw [hnf] at hs hcut
          dsimp only at hcut
          have ht := hno f hlt t hnf
          rw [show yal f = nI t.length from hs.1]
          refine br_f (nI_pos (by have := ht.1; omega)) ?_
          refine ys_mk (docs ++ qd_new ch now f 0 made) pt f (made + (qd_new ch now f 0 made).length) hlt t ht hs (by rw [List.length_append]; omega) rfl rfl (by rw [hpt _ (by rw [List.length_append]; omega)]) h3 hot _ (fun tx' sz' nu' fi' pa' li' hd' => ?_)
          refine nm_r (nI_1 f) ?_
          have := ih (f + 1) tx' sz' nu' fi' pa' li' (by omega) (by omega) (by rw [hcut, ← List.append_assoc]; exact hd')
          rw [hcut] at this
          simp only [List.length_append, List.length_singleton, ← Nat.add_assoc] at this ⊢
          exact this
      · rw [if_neg z, List.append_nil] at hcut
        have := ih (f + 1) tx sz nu fi pa li (by omega) (by omega) (by rw [hcut]; exact h3)
        rw [hcut] at this
        exact this
theorem ys_b1 (post : Int32 → SY → Prop) (hp : ∀ ab : Nat → Int32, (∀ j, j < 400 → ab j = vp_nar .byte (yan j)) → ∃ n : Nat, wY_sync_155 post ywa ydd ynd yns yma ynt yno yrc yfo ybl yod ywr n 0 yan ab yac yad yal yabl yacl yacf ynu yfi ypa ysz yli ytx yki yf1 yf2 yo yoa yob yit yss ymo yst ymy ycl yrw yow yen yhi yla) :
  ∀ (n i : Nat) (ab : Nat → Int32), i ≤ 400 → 400 - i < n → (∀ j, j < i → ab j = vp_nar .byte (yan j)) → wY_sync_128 post ywa ydd ynd yns yma ynt yno yrc yfo ybl yod ywr n (nI i) yan ab yac yad yal yabl yacl yacf ynu yfi ypa ysz yli ytx yki yf1 yf2 yo yoa yob yit yss ymo yst ymy ycl yrw yow yen yhi yla := by
  intro n
  induction n with
  | zero => intro i ab h1 h2; omega
  | succ n ih =>
    intro i ab h1 h2 h3
    refine pk_le 400 i (fun hle => ?_) (fun hlt => ?_)
    · exact hp ab (fun j hj => h3 j (by omega))
    · have ci : (nI i).toNatClampNeg = i := nI_clamp (by omega)
      refine ⟨pk_in i 400 hlt, pk_in i 400 hlt, nm_e (nm_r (nI_1 i) ?_)⟩
      rw [ci]
      refine ih (i + 1) _ (by omega) (by omega) (fun j hj => ?_)
      by_cases z : j = i
      · subst z; exact pk_us
      · exact (pk_un z).trans (h3 j (by omega))
theorem ys_b2 (post : Int32 → SY → Prop) (hp : ∀ abl : Nat → Int32, (∀ j, j < 10 → abl j = yal j) → ∃ n : Nat, wY_sync_184 post n 0 ydd ynd yns yma ynt yno yrc yfo ybl yod ywr yan yab yac yad yal abl yacl yacf ynu yfi ypa ysz yli ytx yki yf1 yf2 yo yoa yob yit yss ymo yst ymy ycl yrw yow yen yhi yla) :
  ∀ (n i : Nat) (abl : Nat → Int32), i ≤ 10 → 10 - i < n → (∀ j, j < i → abl j = yal j) → wY_sync_155 post ywa ydd ynd yns yma ynt yno yrc yfo ybl yod ywr n (nI i) yan yab yac yad yal abl yacl yacf ynu yfi ypa ysz yli ytx yki yf1 yf2 yo yoa yob yit yss ymo yst ymy ycl yrw yow yen yhi yla := by
  intro n
  induction n with
  | zero => intro i ab h1 h2; omega
  | succ n ih =>
    intro i ab h1 h2 h3
    refine pk_le 10 i (fun hle => ?_) (fun hlt => ?_)
    · exact hp ab (fun j hj => h3 j (by omega))
    · have ci : (nI i).toNatClampNeg = i := nI_clamp (by omega)
      refine ⟨pk_in i 10 hlt, pk_in i 10 hlt, nm_e (nm_r (nI_1 i) ?_)⟩
      rw [ci]
      refine ih (i + 1) _ (by omega) (by omega) (fun j hj => ?_)
      by_cases z : j = i
      · subst z; exact pk_us
      · exact (pk_un z).trans (h3 j (by omega))
theorem ys_sz1 (docs : List qf_D) (segs : List Nat) (k : Nat) (hk : k < segs.length) (hsl : segs.length ≤ 16) (hd : docs.length ≤ 64) (hsum : segs.sum = docs.length) (hnd : ynd = nI docs.length) (hpa : ∀ d, d < docs.length → ypa d = nI (qd_seg segs d)) (post : Int32 → Prop) (hp : post (nI (segs.getD k 0))) :
  ∀ (n d : Nat), d ≤ docs.length → docs.length - d < n → wY_sizeOf_4 post (nI k) ywa ydd ynd yns yma ynt yno yrc yfo ybl yod ywr yan yab yac yad yal yabl yacl yacf ynu yfi ypa ysz yli ytx yki yf1 yf2 yo yoa yob yit yss ymo yst ymy ycl yrw yow yen yhi yla n (nI (min d (qd_st (k + 1) segs) - min d (qd_st k segs))) (nI d) := by
  intro n
  have hss := qd_st_s segs k
  have hle1 := qd_st_le (segs := segs) (k + 1)
  induction n with
  | zero => intro d h1 h2; omega
  | succ n ih =>
    intro d h1 h2
    refine pk_le docs.length d (fun hle => ?_) (fun hlt => ?_) hnd
    · have e : min d (qd_st (k + 1) segs) - min d (qd_st k segs) = segs.getD k 0 := by omega
      rw [e]
      exact hp
    · have cd : (nI d).toNatClampNeg = d := nI_clamp (by omega)
      have hq := qd_seg_eq segs d k (by omega)
      have hsg := qd_seg_lt segs d (by omega)
      refine ⟨pk_in d 64 (by omega), ?_⟩
      rw [cd, hpa d hlt]
      refine pk_eq (qd_seg segs d) k (fun he => nm_r (nI_1 _) (nm_r (nI_1 d) ?_)) (fun he => nm_r (nI_1 d) ?_)
      · have := hq.mp he
        have e : min d (qd_st (k + 1) segs) - min d (qd_st k segs) + 1 = min (d + 1) (qd_st (k + 1) segs) - min (d + 1) (qd_st k segs) := by omega
        rw [e]
        exact ih (d + 1) (by omega) (by omega)
      · have : ¬ (qd_st k segs ≤ d ∧ d < qd_st (k + 1) segs) := fun z => he (hq.mpr z)
        have e : min d (qd_st (k + 1) segs) - min d (qd_st k segs) = min (d + 1) (qd_st (k + 1) segs) - min (d + 1) (qd_st k segs) := by omega
        rw [e]
        exact ih (d + 1) (by omega) (by omega)
theorem ys_sz (docs : List qf_D) (segs : List Nat) (k : Nat) (hk : k < segs.length) (hsl : segs.length ≤ 16) (hd : docs.length ≤ 64) (hsum : segs.sum = docs.length) (hnd : ynd = nI docs.length) (hpa : ∀ d, d < docs.length → ypa d = nI (qd_seg segs d)) (xk : Int32) (ek : xk = nI k) (post : Int32 → Prop) (hp : post (nI (segs.getD k 0))) : wpY_sizeOf post (ywa, ydd, ynd, yns, yma, ynt, yno, yrc, yfo, ybl, yod, ywr, yan, yab, yac, yad, yal, yabl, yacl, yacf, ynu, yfi, ypa, ysz, yli, ytx, yki, yf1, yf2, yo, yoa, yob, yit, yss, ymo, yst, ymy, ycl, yrw, yow, yen, yhi, yla) xk := by
  subst ek
  have this : wY_sizeOf_4 post (nI k) ywa ydd ynd yns yma ynt yno yrc yfo ybl yod ywr yan yab yac yad yal yabl yacl yacf ynu yfi ypa ysz yli ytx yki yf1 yf2 yo yoa yob yit yss ymo yst ymy ycl yrw yow yen yhi yla (docs.length + 1) (nI (min 0 (qd_st (k + 1) segs) - min 0 (qd_st k segs))) (nI 0) := ys_sz1 docs segs k hk hsl hd hsum hnd hpa post hp (docs.length + 1) 0 (by omega) (by omega)
  rw [Nat.zero_min, Nat.zero_min] at this
  exact ⟨docs.length + 1, this⟩
theorem ys_mgl (made : Nat) (post : Int32 → SY → Prop) :
  ∀ (k n : Nat) (docs : List qf_D) (segs : List Nat) (tx sz nu fi pa li : Nat → Int32), k < n → segs.length ≤ k → segs.length ≤ 12 → qd_ok docs segs made → qd_dec segs.dropLast → docs.length ≤ 64 → qy_dl docs (qd_seg segs) tx sz nu fi pa li →
  (∀ tx sz nu fi pa li : Nat → Int32, qy_dl (qd_mg k docs segs).1 (qd_seg (qd_mg k docs segs).2) tx sz nu fi pa li → post (nI (qd_mg k docs segs).2.length) (ywa, ydd, nI (qd_mg k docs segs).1.length, nI (qd_mg k docs segs).2.length, yma, ynt, yno, yrc, yfo, ybl, yod, ywr, yan, yab, yac, yad, yal, yabl, yacl, yacf, nu, fi, pa, sz, li, tx, yki, yf1, yf2, yo, yoa, yob, yit, yss, ymo, yst, ymy, ycl, yrw, yow, yen, yhi, yla)) →
  wY_sync_184 post n ywa ydd (nI docs.length) (nI segs.length) yma ynt yno yrc yfo ybl yod ywr yan yab yac yad yal yabl yacl yacf nu fi pa sz li tx yki yf1 yf2 yo yoa yob yit yss ymo yst ymy ycl yrw yow yen yhi yla := by
  intro k
  induction k with
  | zero =>
    intro n docs segs tx sz nu fi pa li hn hk hc hok hdec hd hdl hp
    obtain ⟨n, rfl⟩ : ∃ m, n = m + 1 := ⟨n - 1, by omega⟩
    exact br_t (nI_le (b := 1) (by omega) (by decide)) (hp tx sz nu fi pa li hdl)
  | succ k ih =>
    intro n docs segs tx sz nu fi pa li hn hk hc hok hdec hd hdl hp
    obtain ⟨n, rfl⟩ : ∃ m, n = m + 1 := ⟨n - 1, by omega⟩
    unfold qd_mg at hp
    have hpa : ∀ d, d < docs.length → pa d = nI (qd_seg segs d) := fun d hd => (hdl d _ (List.getElem?_eq_getElem hd)).2.2.2.1
    refine pk_le segs.length 1 (fun hle => ?_) (fun hlt => ?_)
    · rw [if_neg (by omega)] at hp
      exact hp tx sz nu fi pa li hdl
    · have g1 := qd_get_le (segs := segs) (segs.length - 1)
      have g2 := qd_get_le (segs := segs) (segs.length - 2)
      have := hok.1
      refine ys_sz docs segs (segs.length - 1) (by omega) (by omega) hd hok.1 rfl hpa _ (pk_sub (b := 1) (by omega)) _ ?_
      refine ys_sz docs segs (segs.length - 2) (by omega) (by omega) hd hok.1 rfl hpa _ (pk_sub (b := 2) (by omega)) _ ?_
      refine pk_lt _ _ (fun h => ?_) (fun h => ?_) rfl rfl (by omega) (by omega)
      · rw [if_neg (by omega)] at hp
        exact hp tx sz nu fi pa li hdl
      · rw [if_pos ⟨by omega, h⟩] at hp
        have hg := qd_gs_dec (docs := docs) hdec (by omega)
        have hok' := qd_ga_ok hok (segs.length - 2)
        have hsub : (qd_gd (segs.length - 2) docs segs).length ≤ docs.length := (qd_sub (docs := docs) (first := segs.length - 2) (segs := segs)).length_le
        refine ys_un docs segs (segs.length - 2) (by omega) (by omega) hd (fun x hx => (hok.2.2.2.1 x hx).2.2) hok.1 rfl hdl _ (pk_sub (b := 2) (by omega)) _ (fun tx1 sz1 nu1 fi1 pa1 li1 hdl1 => ?_)
        exact ih n _ _ tx1 sz1 nu1 fi1 pa1 li1 (by omega) (by omega) (by omega) hok' hg.1 (by omega) hdl1 hp
theorem ys_sync (now base : Nat → qf_X) (wt : List (Nat × qf_X)) (dr : List Nat) (docs : List qf_D) (segs : List Nat) (made : Nat) (hi : qf_inv now base wt dr docs segs made) (hS : qy_S now base wt dr docs segs made yan yal yab yabl yac yacl yacf yad ywa ydd ynu yfi ypa ysz yli ytx ynd yns yma) (post : Int32 → SY → Prop)
  (hp : ∀ ab abl nu fi pa sz li tx : Nat → Int32, ∀ wa nd ns ma : Int32, qy_S now now [] dr (qd_sy docs segs wt now made).1 (qd_sy docs segs wt now made).2 (qd_m2 wt now made) yan yal ab abl yac yacl yacf yad wa ydd nu fi pa sz li tx nd ns ma → post ns (wa, ydd, nd, ns, ma, ynt, yno, yrc, yfo, ybl, yod, ywr, yan, ab, yac, yad, yal, abl, yacl, yacf, nu, fi, pa, sz, li, tx, yki, yf1, yf2, yo, yoa, yob, yit, yss, ymo, yst, ymy, ycl, yrw, yow, yen, yhi, yla)) : wpY_sync post (ywa, ydd, ynd, yns, yma, ynt, yno, yrc, yfo, ybl, yod, ywr, yan, yab, yac, yad, yal, yabl, yacl, yacf, ynu, yfi, ypa, ysz, yli, ytx, yki, yf1, yf2, yo, yoa, yob, yit, yss, ymo, yst, ymy, ycl, yrw, yow, yen, yhi, yla) := by
  obtain ⟨i1, i2, i3, i4, i5, i6⟩ := hi
  obtain ⟨s1, s2, ⟨s3, s4⟩, s5, ⟨s6, s7⟩, s8, s9⟩ := hS
  subst s3; subst s6; subst s8; subst s9
  have hno : ∀ f, f < 10 → qf_o (now f) := fun f hf => by rw [i1 f hf]; exact qf_aps_o wt base i2 (fun c hc => (i3.2 c hc).2) f hf
  have hw : ∀ k c, wt[k]? = some c → yacf k = nI c.1 ∧ c.1 < 10 := fun k c hc => ⟨(s4 k c hc).1, (i3.2 c (qr_get_in hc)).1⟩
  have hs2 := qd_sync_ok i5 i6 i3.1 hno
  have hdt : ∀ x, x ∈ docs → qf_t x.2.2.2 := fun x hx => (i5.2.2.2.1 x hx).2.2
  have hml : (docs.map (qd_dead (qd_ch wt))).length = docs.length := List.length_map _
  have hcl : (qd_ch wt).length = wt.length := List.length_map _
  refine ⟨wt.length + 1, ys_m wt i3.1 hw rfl post ?_ (wt.length + 1) 0 0 (by omega) (by omega) (fun f hf => by rw [b_0]; simp [qd_ch])⟩
  intro x1 hx1
  refine ⟨docs.length + 1, ys_d docs (qd_ch wt) x1 hx1 (by omega) rfl (fun d x hx => ⟨(s7 d x hx).2.1, (i5.2.2.2.1 x (qr_get_in hx)).2.1⟩) post ?_ (docs.length + 1) 0 yli (by omega) (by omega) (fun d x hx => ?_)⟩
  · intro li1 hli1
    have hdl1 : qy_dl docs (qd_p1 docs segs) ytx ysz ynu yfi ypa yli := by
      intro d x hx
      obtain ⟨a1, a2, a3, a4, a5⟩ := s7 d x hx
      refine ⟨a1, a2, a3, ?_, a5⟩
      unfold qd_p1
      rw [if_pos (qr_get_lt hx)]
      exact a4
    have hdl2 := qy_dl_dead hdl1 hli1
    have e0 : qd_new (qd_ch wt) now 0 0 made = [] := rfl
    have HP : ∀ tx sz nu fi pa li : Nat → Int32, qy_dl (docs.map (qd_dead (qd_ch wt)) ++ qd_new (qd_ch wt) now 10 0 made) (qd_p1 docs segs) tx sz nu fi pa li → ∃ n : Nat, wY_sync_128 post (nI wt.length) ydd (nI (docs.map (qd_dead (qd_ch wt)) ++ qd_new (qd_ch wt) now 10 0 made).length) (nI (qd_s1 segs (qd_new (qd_ch wt) now 10 0 made).length).length) (nI (made + (qd_new (qd_ch wt) now 10 0 made).length)) ynt yno yrc yfo ybl yod ywr n 0 yan yab yac yad yal yabl yacl yacf nu fi pa sz li tx yki yf1 yf2 yo yoa yob yit yss ymo yst ymy ycl yrw yow yen yhi yla := by
      intro tx sz nu fi pa li hdl3
      refine ⟨401, ys_b1 post ?_ 401 0 yab (by omega) (by omega) (fun j hj => absurd hj (by omega))⟩
      intro ab hab
      refine ⟨11, ys_b2 post ?_ 11 0 yabl (by omega) (by omega) (fun j hj => absurd hj (by omega))⟩
      intro abl habl
      have hl2 : (qd_d2 docs wt now made).length = docs.length + (qd_new (qd_ch wt) now 10 0 made).length := by unfold qd_d2; rw [List.length_append, hml]
      have hl3 : (qd_s2 segs wt now made).length ≤ 11 := by
        unfold qd_s2 qd_s1
        rw [List.length_append]
        split
        · simp; omega
        · simp; omega
      have hdl4 : qy_dl (qd_d2 docs wt now made) (qd_seg (qd_s2 segs wt now made)) tx sz nu fi pa li := by
        intro d x hx
        obtain ⟨a1, a2, a3, a4, a5⟩ := hdl3 d x hx
        refine ⟨a1, a2, a3, ?_, a5⟩
        rw [a4]
        congr 1
        have hdl := qr_get_lt hx
        rw [hl2] at hdl
        have hsm := i5.1
        unfold qd_p1 qd_s2 qd_s1
        by_cases z : d < docs.length
        · rw [if_pos z, qd_seg_app _ segs d (by omega)]
        · rw [if_neg z, if_neg (by omega), qd_seg_new _ segs d (by omega) (by omega)]
      refine ⟨(qd_s2 segs wt now made).length + 1, ?_⟩
      refine ys_mgl (qd_m2 wt now made) post (qd_s2 segs wt now made).length _ (qd_d2 docs wt now made) (qd_s2 segs wt now made) tx sz nu fi pa li (by omega) (Nat.le_refl _) (by omega) hs2.1 hs2.2.1 (by omega) hdl4 ?_
      intro tx3 sz3 nu3 fi3 pa3 li3 hdl5
      refine hp ab abl nu3 fi3 pa3 sz3 li3 tx3 _ _ _ _ ⟨s1, fun f hf => ?_, ⟨rfl, (fun k c hc => nomatch hc)⟩, s5, ⟨rfl, hdl5⟩, rfl, rfl⟩
      have a := s1 f hf
      cases hnf : now f with
      | none => rw [hnf] at a; exact (habl f hf).trans a
      | some t =>
        rw [hnf] at a
        have ht := hno f hf t hnf
        refine ⟨(habl f hf).trans a.1, fun i hi => ?_⟩
        have := ht.1
        rw [hab _ (by omega), a.2 i hi, ys_nar (qf_t_get ht hi)]
    have this : wY_sync_73 post x1 (nI (docs.map (qd_dead (qd_ch wt))).length) 11 (nI 0) (nI wt.length) ydd (nI (docs.map (qd_dead (qd_ch wt)) ++ qd_new (qd_ch wt) now 0 0 made).length) (nI segs.length) (nI (made + (qd_new (qd_ch wt) now 0 0 made).length)) ynt yno yrc yfo ybl yod ywr yan yab yac yad yal yabl yacl yacf ynu yfi ypa ysz li1 ytx yki yf1 yf2 yo yoa yob yit yss ymo yst ymy ycl yrw yow yen yhi yla := ys_n now (qd_ch wt) (docs.map (qd_dead (qd_ch wt))) segs made (qd_p1 docs segs) x1 hx1 (by omega) hno s1 (by omega) (qd_dead_t _ hdt) rfl (fun j hj => by unfold qd_p1; rw [if_neg (by omega)]) post HP 11 0 ytx ysz ynu yfi ypa li1 (by omega) (by omega) (by rw [e0, List.append_nil]; exact hdl2)
    rw [e0, List.append_nil, hml] at this
    exact ⟨11, this⟩
  · rw [qd_dk_ge (by omega)]
    exact (s7 d x hx).2.2.1
end
