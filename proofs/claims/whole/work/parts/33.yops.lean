/-! the reference: keep, remove, crash, settle -/
section
variable {ywa ydd ynd yns yma ynt yno yrc yfo ybl yod ywr : Int32} {yan yab yac yad yal yabl yacl yacf ynu yfi ypa ysz yli ytx yki yf1 yf2 yo yoa yob yit yss ymo yst ymy ycl yrw yow yhi yla : Nat → Int32} {yen : Nat → Int64}
theorem ys_file (f : Nat) (hf : f < 10) (post : Int32 → Prop) (hp : post 1) : wpY_in post (nI f) 0 9 :=
  ys_in (nI f) 0 9 (by decide) (by decide) 0 9 rfl rfl post (fun h => absurd rfl (h f (by omega) (by omega))) (fun _ _ _ _ => hp)
theorem ys_fileC (x : Int32) (post : Int32 → Prop) (h0 : (x < 0 ∨ 10 ≤ x) → post 0) (h1 : ∀ f, f < 10 → x = nI f → post 1) : wpY_in post x 0 9 := by
  rcases pk_ix x (n := 10) (by decide) with z | z | ⟨f, hf, rfl⟩
  · exact br_t z (h0 (Or.inl z))
  · refine br_f ?_ (br_t ?_ (h0 (Or.inr z)))
    · intro y
      have : (10 : Int32) < 0 := Int32.lt_of_le_of_lt z y
      exact absurd this (by decide)
    · exact Int32.lt_of_lt_of_le (by decide) z
  · exact ys_file f hf post (h1 f hf rfl)
theorem ys_there (f : Nat) (hf : f < 10) (o : qf_X) (ho : qf_o o) (hs : qx_slot yan yal f o) (post : Int32 → Prop) (h0 : o = none → post 0) (h1 : ∀ t, o = some t → post 1) : wpY_isThere post (ywa, ydd, ynd, yns, yma, ynt, yno, yrc, yfo, ybl, yod, ywr, yan, yab, yac, yad, yal, yabl, yacl, yacf, ynu, yfi, ypa, ysz, yli, ytx, yki, yf1, yf2, yo, yoa, yob, yit, yss, ymo, yst, ymy, ycl, yrw, yow, yen, yhi, yla) (nI f) := by
  unfold wpY_isThere
  refine ys_file f hf _ ?_
  have cf : (nI f).toNatClampNeg = f := nI_clamp (by omega)
  refine br_f (by decide) ⟨pk_in f 10 (by omega), ?_⟩
  rw [cf]
  match o, ho, hs, h0, h1 with
  | none, _, hs, h0, _ =>
    rw [show yal f = -1 from hs]
    exact br_t (by decide) (h0 rfl)
  | some t, ho, hs, _, h1 =>
    rw [show yal f = nI t.length from hs.1]
    exact br_f (nI_pos (by have := (ho t rfl).1; omega)) (h1 t rfl)
theorem ys_chg (now base : Nat → qf_X) (wt : List (Nat × qf_X)) (dr : List Nat) (docs : List qf_D) (segs : List Nat) (made : Nat) (f : Nat) (hf : f < 10) (hl : wt.length < 6) (hno : ∀ f, f < 10 → qf_o (now f)) (hwo : ∀ c, c ∈ wt → qf_o c.2) (o : qf_X) (ho : qf_o o) (hS : qy_S now base wt dr docs segs made yan yal yab yabl yac yacl yacf yad ywa ydd ynu yfi ypa ysz yli ytx ynd yns yma) (p1 : Int32) (hs : qx_slot yac (upd yacl wt.length p1) wt.length o) (post : SY → Prop)
  (hp : ∀ an al acl acf : Nat → Int32, qy_S (qf_ap now (f, o)) base (wt ++ [(f, o)]) dr docs segs made an al yab yabl yac acl acf yad (nI (wt.length + 1)) ydd ynu yfi ypa ysz yli ytx ynd yns yma → post (nI (wt.length + 1), ydd, ynd, yns, yma, ynt, yno, yrc, yfo, ybl, yod, ywr, an, yab, yac, yad, al, yabl, acl, acf, ynu, yfi, ypa, ysz, yli, ytx, yki, yf1, yf2, yo, yoa, yob, yit, yss, ymo, yst, ymy, ycl, yrw, yow, yen, yhi, yla)) : wpY_change post (ywa, ydd, ynd, yns, yma, ynt, yno, yrc, yfo, ybl, yod, ywr, yan, yab, yac, yad, yal, yabl, yacl, yacf, ynu, yfi, ypa, ysz, yli, ytx, yki, yf1, yf2, yo, yoa, yob, yit, yss, ymo, yst, ymy, ycl, yrw, yow, yen, yhi, yla) (nI f) p1 := by
  obtain ⟨s1, s2, ⟨s3, s4⟩, s5, s6⟩ := hS
  subst s3
  have cw : (nI wt.length).toNatClampNeg = wt.length := nI_clamp (by omega)
  unfold wpY_change
  refine ⟨pk_in wt.length 6 hl, nm_e ⟨pk_in wt.length 6 hl, nm_e (nm_r (nI_1 _) ?_)⟩⟩
  rw [cw]
  refine ys_ap wt.length rfl hl f hf o ho pk_us hs _ (fun an al hsl hk => ?_)
  refine hp an al _ _ ⟨fun g hg => ?_, s2, ⟨by rw [List.length_append]; rfl, fun k c hc => ?_⟩, s5, s6⟩
  · by_cases z : g = f
    · subst z
      have e : qf_ap now (g, o) g = o := if_pos rfl
      rw [e]
      exact hsl
    · have e : qf_ap now (f, o) g = now g := if_neg z
      rw [e]
      exact hk g _ hg z (hno g hg) (s1 g hg)
  · by_cases z : k < wt.length
    · rw [List.getElem?_append_left z] at hc
      obtain ⟨a1, a2⟩ := s4 k c hc
      refine ⟨(pk_un (by omega)).trans a1, ?_⟩
      have hk2 : qy_kp 6 wt.length yac yacl yac (upd yacl wt.length p1) := qx_slot_cp (L := 0) (fun s hs => pk_un hs) (by omega) (fun j _ => rfl)
      exact hk2 k _ (by omega) (by omega) (hwo c (qr_get_in hc)) a2
    · have hk' := qr_get_lt hc
      rw [List.length_append, List.length_singleton] at hk'
      have : k = wt.length := by omega
      subst this
      rw [List.getElem?_append_right (Nat.le_refl _), Nat.sub_self] at hc
      have e : (f, o) = c := by simpa using hc
      subst e
      exact ⟨pk_us, hs⟩
theorem ys_kp1 (w : Nat) (hw : w < 6) (dr : List Nat) (hdr : qf_t dr) (hwa : ywa = nI w) (hdd : ydd = nI dr.length) (had : ∀ i, i < dr.length → yad i = nI (dr.getD i 0)) (ac0 : Nat → Int32) (x1 : Int32) (post : Int32 → SY → Prop)
  (hp : ∀ ac : Nat → Int32, (∀ j, j < dr.length → ac (w * 40 + j) = nI (dr.getD j 0)) → (∀ j, j < w * 40 ∨ w * 40 + dr.length ≤ j → ac j = ac0 j) → wpY_change (fun u => match u with | (ywa, ydd, ynd, yns, yma, ynt, yno, yrc, yfo, ybl, yod, ywr, yan, yab, yac, yad, yal, yabl, yacl, yacf, ynu, yfi, ypa, ysz, yli, ytx, yki, yf1, yf2, yo, yoa, yob, yit, yss, ymo, yst, ymy, ycl, yrw, yow, yen, yhi, yla) => post ywa (ywa, 0, ynd, yns, yma, ynt, yno, yrc, yfo, ybl, yod, ywr, yan, yab, yac, yad, yal, yabl, yacl, yacf, ynu, yfi, ypa, ysz, yli, ytx, yki, yf1, yf2, yo, yoa, yob, yit, yss, ymo, yst, ymy, ycl, yrw, yow, yen, yhi, yla)) (ywa, ydd, ynd, yns, yma, ynt, yno, yrc, yfo, ybl, yod, ywr, yan, yab, ac, yad, yal, yabl, yacl, yacf, ynu, yfi, ypa, ysz, yli, ytx, yki, yf1, yf2, yo, yoa, yob, yit, yss, ymo, yst, ymy, ycl, yrw, yow, yen, yhi, yla) x1 ydd) :
  ∀ (n i : Nat) (ac : Nat → Int32), i ≤ dr.length → dr.length - i < n → (∀ j, j < i → ac (w * 40 + j) = nI (dr.getD j 0)) → (∀ j, j < w * 40 ∨ w * 40 + i ≤ j → ac j = ac0 j) → wY_keep_28 post x1 ywa ydd ynd yns yma ynt yno yrc yfo ybl yod ywr n (nI i) yan yab ac yad yal yabl yacl yacf ynu yfi ypa ysz yli ytx yki yf1 yf2 yo yoa yob yit yss ymo yst ymy ycl yrw yow yen yhi yla := by
  intro n
  subst hwa
  have hL := hdr.1
  induction n with
  | zero => intro i an h1 h2; omega
  | succ n ih =>
    intro i an h1 h2 h3 h4
    refine pk_le dr.length i (fun hle => ?_) (fun hlt => ?_) hdd
    · have e : i = dr.length := by omega
      subst e
      exact hp an h3 h4
    · have ci : (nI i).toNatClampNeg = i := nI_clamp (by omega)
      refine ⟨pk_in i 40 (by omega), pk_in (w * 40 + i) 240 (by omega) (ys_ix w i), fun ch1 hch x hx => ?_⟩
      rw [hx, nI_1]
      rw [ys_ixc (by omega), ci, had i hlt, ys_nar (qf_t_get hdr hlt)] at hch
      refine ih (i + 1) ch1 (by omega) (by omega) ?_ ?_
      · intro j hj
        rw [hch]
        by_cases z : j = i
        · subst z; exact pk_us
        · rw [pk_un (by omega)]; exact h3 j (by omega)
      · intro j hj
        rw [hch, pk_un (by omega)]
        exact h4 j (by omega)
theorem ys_kp2 (now base : Nat → qf_X) (wt : List (Nat × qf_X)) (dr : List Nat) (docs : List qf_D) (segs : List Nat) (made : Nat) (hi : qf_inv now base wt dr docs segs made) (hl : wt.length < 6) (hS : qy_S now base wt dr docs segs made yan yal yab yabl yac yacl yacf yad ywa ydd ynu yfi ypa ysz yli ytx ynd yns yma) (f : Nat) (hf : f < 10) (post : Int32 → SY → Prop)
  (hp : ∀ an al ac acl acf : Nat → Int32, qy_S (qf_ap now (f, some dr)) base (wt ++ [(f, some dr)]) [] docs segs made an al yab yabl ac acl acf yad (nI (wt.length + 1)) 0 ynu yfi ypa ysz yli ytx ynd yns yma → post (nI (wt.length + 1)) (nI (wt.length + 1), 0, ynd, yns, yma, ynt, yno, yrc, yfo, ybl, yod, ywr, an, yab, ac, yad, al, yabl, acl, acf, ynu, yfi, ypa, ysz, yli, ytx, yki, yf1, yf2, yo, yoa, yob, yit, yss, ymo, yst, ymy, ycl, yrw, yow, yen, yhi, yla)) : ∃ n : Nat, wY_keep_28 post (nI f) ywa ydd ynd yns yma ynt yno yrc yfo ybl yod ywr n 0 yan yab yac yad yal yabl yacl yacf ynu yfi ypa ysz yli ytx yki yf1 yf2 yo yoa yob yit yss ymo yst ymy ycl yrw yow yen yhi yla := by
  have hno := qf_now_o hi
  obtain ⟨i1, i2, i3, i4, i5, i6⟩ := hi
  obtain ⟨s1, s2, ⟨s3, s4⟩, ⟨s5, s5'⟩, s6⟩ := hS
  refine ⟨dr.length + 1, ys_kp1 wt.length hl dr i4 s3 s5 s5' yac (nI f) post ?_ (dr.length + 1) 0 yac (by omega) (by omega) (fun j hj => absurd hj (by omega)) (fun j _ => rfl)⟩
  intro ac h1 h2
  have hk : qy_kp 6 wt.length yac yacl ac yacl := qx_slot_cp (fun s _ => rfl) i4.1 h2
  have hS' : qy_S now base wt dr docs segs made yan yal yab yabl ac yacl yacf yad ywa ydd ynu yfi ypa ysz yli ytx ynd yns yma := by
    refine ⟨s1, s2, ⟨s3, fun k c hc => ⟨(s4 k c hc).1, ?_⟩⟩, ⟨s5, s5'⟩, s6⟩
    have := qr_get_lt hc
    exact hk k _ (by omega) (by omega) (i3.2 c (qr_get_in hc)).2 (s4 k c hc).2
  refine ys_chg (yac := ac) now base wt dr docs segs made f hf hl hno (fun c hc => (i3.2 c hc).2) (some dr) (qf_o_some i4) hS' ydd ⟨pk_us.trans s5, h1⟩ _ (fun an al acl acf hS2 => ?_)
  obtain ⟨t1, t2, t3, t4, t5⟩ := hS2
  exact hp an al ac acl acf ⟨t1, t2, t3, ⟨rfl, fun i hi => absurd hi (by simp)⟩, t5⟩
theorem ys_keep (now base : Nat → qf_X) (wt : List (Nat × qf_X)) (dr : List Nat) (docs : List qf_D) (segs : List Nat) (made : Nat) (hi : qf_inv now base wt dr docs segs made) (hS : qy_S now base wt dr docs segs made yan yal yab yabl yac yacl yacf yad ywa ydd ynu yfi ypa ysz yli ytx ynd yns yma) (f : Nat) (hf : f < 10) (post : Int32 → SY → Prop)
  (hp : ∀ an al ab abl ac acl acf nu fi pa sz li tx : Nat → Int32, ∀ wa dd nd ns ma : Int32, qy_S (qf_ap now (f, some dr)) (qf_room now base wt docs segs made).1 ((qf_room now base wt docs segs made).2.1 ++ [(f, some dr)]) [] (qf_room now base wt docs segs made).2.2.1 (qf_room now base wt docs segs made).2.2.2.1 (qf_room now base wt docs segs made).2.2.2.2 an al ab abl ac acl acf yad wa dd nu fi pa sz li tx nd ns ma → post (nI ((qf_room now base wt docs segs made).2.1.length + 1)) (wa, dd, nd, ns, ma, ynt, yno, yrc, yfo, ybl, yod, ywr, an, ab, ac, yad, al, abl, acl, acf, nu, fi, pa, sz, li, tx, yki, yf1, yf2, yo, yoa, yob, yit, yss, ymo, yst, ymy, ycl, yrw, yow, yen, yhi, yla)) : wpY_keep post (ywa, ydd, ynd, yns, yma, ynt, yno, yrc, yfo, ybl, yod, ywr, yan, yab, yac, yad, yal, yabl, yacl, yacf, ynu, yfi, ypa, ysz, yli, ytx, yki, yf1, yf2, yo, yoa, yob, yit, yss, ymo, yst, ymy, ycl, yrw, yow, yen, yhi, yla) (nI f) := by
  have hr := qf_inv_room hi
  have h6 := hi.2.2.1.1
  unfold wpY_keep
  refine ys_file f hf _ (br_f (by decide) (pk_eq wt.length 6 (fun h => ?_) (fun h => ?_) hS.2.2.1.1))
  · unfold qf_room at hp hr
    rw [if_neg (by omega)] at hp hr
    dsimp only at hp hr
    refine ys_sync now base wt dr docs segs made hi hS _ (fun ab abl nu fi pa sz li tx wa nd ns ma hS1 => ?_)
    exact ys_kp2 now now [] dr _ _ _ hr.1 hr.2.1 hS1 f hf post (fun an al ac acl acf hS2 => hp an al ab abl ac acl acf nu fi pa sz li tx _ _ nd ns ma hS2)
  · unfold qf_room at hp
    rw [if_pos (by omega)] at hp
    exact ys_kp2 now base wt dr docs segs made hi (by omega) hS f hf post (fun an al ac acl acf hS2 => hp an al yab yabl ac acl acf ynu yfi ypa ysz yli ytx _ _ ynd yns yma hS2)
theorem ys_rm2 (now base : Nat → qf_X) (wt : List (Nat × qf_X)) (dr : List Nat) (docs : List qf_D) (segs : List Nat) (made : Nat) (hi : qf_inv now base wt dr docs segs made) (hl : wt.length < 6) (hS : qy_S now base wt dr docs segs made yan yal yab yabl yac yacl yacf yad ywa ydd ynu yfi ypa ysz yli ytx ynd yns yma) (f : Nat) (hf : f < 10) (post : Int32 → SY → Prop)
  (hp : ∀ an al acl acf : Nat → Int32, qy_S (qf_ap now (f, none)) base (wt ++ [(f, none)]) dr docs segs made an al yab yabl yac acl acf yad (nI (wt.length + 1)) ydd ynu yfi ypa ysz yli ytx ynd yns yma → post (nI (wt.length + 1)) (nI (wt.length + 1), ydd, ynd, yns, yma, ynt, yno, yrc, yfo, ybl, yod, ywr, an, yab, yac, yad, al, yabl, acl, acf, ynu, yfi, ypa, ysz, yli, ytx, yki, yf1, yf2, yo, yoa, yob, yit, yss, ymo, yst, ymy, ycl, yrw, yow, yen, yhi, yla)) : wY_remove_24 post (nI f) ywa ydd ynd yns yma ynt yno yrc yfo ybl yod ywr yan yab yac yad yal yabl yacl yacf ynu yfi ypa ysz yli ytx yki yf1 yf2 yo yoa yob yit yss ymo yst ymy ycl yrw yow yen yhi yla := by
  unfold wY_remove_24
  exact ys_chg now base wt dr docs segs made f hf hl (qf_now_o hi) (fun c hc => (hi.2.2.1.2 c hc).2) none qf_o_none hS (-1) pk_us _ hp
theorem ys_remove (now base : Nat → qf_X) (wt : List (Nat × qf_X)) (dr : List Nat) (docs : List qf_D) (segs : List Nat) (made : Nat) (hi : qf_inv now base wt dr docs segs made) (hS : qy_S now base wt dr docs segs made yan yal yab yabl yac yacl yacf yad ywa ydd ynu yfi ypa ysz yli ytx ynd yns yma) (f : Nat) (hf : f < 10) (post : Int32 → SY → Prop)
  (h0 : now f = none → post (-1) (ywa, ydd, ynd, yns, yma, ynt, yno, yrc, yfo, ybl, yod, ywr, yan, yab, yac, yad, yal, yabl, yacl, yacf, ynu, yfi, ypa, ysz, yli, ytx, yki, yf1, yf2, yo, yoa, yob, yit, yss, ymo, yst, ymy, ycl, yrw, yow, yen, yhi, yla))
  (hp : ∀ t, now f = some t → ∀ an al ab abl acl acf nu fi pa sz li tx : Nat → Int32, ∀ wa nd ns ma : Int32, qy_S (qf_ap now (f, none)) (qf_room now base wt docs segs made).1 ((qf_room now base wt docs segs made).2.1 ++ [(f, none)]) dr (qf_room now base wt docs segs made).2.2.1 (qf_room now base wt docs segs made).2.2.2.1 (qf_room now base wt docs segs made).2.2.2.2 an al ab abl yac acl acf yad wa ydd nu fi pa sz li tx nd ns ma → post (nI ((qf_room now base wt docs segs made).2.1.length + 1)) (wa, ydd, nd, ns, ma, ynt, yno, yrc, yfo, ybl, yod, ywr, an, ab, yac, yad, al, abl, acl, acf, nu, fi, pa, sz, li, tx, yki, yf1, yf2, yo, yoa, yob, yit, yss, ymo, yst, ymy, ycl, yrw, yow, yen, yhi, yla)) : wpY_remove post (ywa, ydd, ynd, yns, yma, ynt, yno, yrc, yfo, ybl, yod, ywr, yan, yab, yac, yad, yal, yabl, yacl, yacf, ynu, yfi, ypa, ysz, yli, ytx, yki, yf1, yf2, yo, yoa, yob, yit, yss, ymo, yst, ymy, ycl, yrw, yow, yen, yhi, yla) (nI f) := by
  have hr := qf_inv_room hi
  have h6 := hi.2.2.1.1
  unfold wpY_remove
  refine ys_there f hf (now f) (qf_now_o hi f hf) (hS.1 f hf) _ (fun e => br_t rfl (h0 e)) (fun t et => br_f (by decide) (pk_eq wt.length 6 (fun h => ?_) (fun h => ?_) hS.2.2.1.1))
  · unfold qf_room at hp hr
    rw [if_neg (by omega)] at hp hr
    dsimp only at hp hr
    refine ys_sync now base wt dr docs segs made hi hS _ (fun ab abl nu fi pa sz li tx wa nd ns ma hS1 => ?_)
    exact ys_rm2 now now [] dr _ _ _ hr.1 hr.2.1 hS1 f hf post (fun an al acl acf hS2 => hp t et an al ab abl acl acf nu fi pa sz li tx _ nd ns ma hS2)
  · unfold qf_room at hp
    rw [if_pos (by omega)] at hp
    exact ys_rm2 now base wt dr docs segs made hi (by omega) hS f hf post (fun an al acl acf hS2 => hp t et an al yab yabl acl acf ynu yfi ypa ysz yli ytx _ ynd yns yma hS2)
/-! crash -/
theorem ys_c1 (x2 x3 : Int32) (post : Int32 → SY → Prop) (hp : ∀ an : Nat → Int32, (∀ j, j < 400 → an j = vp_nar .byte (yab j)) → ∃ n : Nat, wY_crash_64 post x2 x3 ywa ydd ynd yns yma ynt yno yrc yfo ybl yod ywr n 0 an yab yac yad yal yabl yacl yacf ynu yfi ypa ysz yli ytx yki yf1 yf2 yo yoa yob yit yss ymo yst ymy ycl yrw yow yen yhi yla) :
  ∀ (n i : Nat) (an : Nat → Int32), i ≤ 400 → 400 - i < n → (∀ j, j < i → an j = vp_nar .byte (yab j)) → wY_crash_33 post x2 x3 ywa ydd ynd yns yma ynt yno yrc yfo ybl yod ywr n (nI i) an yab yac yad yal yabl yacl yacf ynu yfi ypa ysz yli ytx yki yf1 yf2 yo yoa yob yit yss ymo yst ymy ycl yrw yow yen yhi yla := by
  intro n
  induction n with
  | zero => intro i ab h1 h2; omega
  | succ n ih =>
    intro i ab h1 h2 h3
    refine pk_le 400 i (fun hle => ?_) (fun hlt => ?_)
    · exact hp ab (fun j hj => h3 j (by omega))
    · have ci : (nI i).toNatClampNeg = i := nI_clamp (by omega)
      refine ⟨pk_in i 400 hlt, pk_in i 400 hlt, nm_e (nm_r (nI_1 i) ?_)⟩
      rw [ci]
      refine ih (i + 1) _ (by omega) (by omega) (fun j hj => ?_)
      by_cases z : j = i
      · subst z; exact pk_us
      · exact (pk_un z).trans (h3 j (by omega))
theorem ys_c2 (x2 x3 : Int32) (post : Int32 → SY → Prop) (hp : ∀ al : Nat → Int32, (∀ j, j < 10 → al j = yabl j) → ∃ n : Nat, wY_crash_94 post x2 x3 n 0 ywa ydd ynd yns yma ynt yno yrc yfo ybl yod ywr yan yab yac yad al yabl yacl yacf ynu yfi ypa ysz yli ytx yki yf1 yf2 yo yoa yob yit yss ymo yst ymy ycl yrw yow yen yhi yla) :
  ∀ (n i : Nat) (al : Nat → Int32), i ≤ 10 → 10 - i < n → (∀ j, j < i → al j = yabl j) → wY_crash_64 post x2 x3 ywa ydd ynd yns yma ynt yno yrc yfo ybl yod ywr n (nI i) yan yab yac yad al yabl yacl yacf ynu yfi ypa ysz yli ytx yki yf1 yf2 yo yoa yob yit yss ymo yst ymy ycl yrw yow yen yhi yla := by
  intro n
  induction n with
  | zero => intro i ab h1 h2; omega
  | succ n ih =>
    intro i ab h1 h2 h3
    refine pk_le 10 i (fun hle => ?_) (fun hlt => ?_)
    · exact hp ab (fun j hj => h3 j (by omega))
    · have ci : (nI i).toNatClampNeg = i := nI_clamp (by omega)
      refine ⟨pk_in i 10 hlt, pk_in i 10 hlt, nm_e (nm_r (nI_1 i) ?_)⟩
      rw [ci]
      refine ih (i + 1) _ (by omega) (by omega) (fun j hj => ?_)
      by_cases z : j = i
      · subst z; exact pk_us
      · exact (pk_un z).trans (h3 j (by omega))
theorem ys_c3 (base : Nat → qf_X) (wt : List (Nat × qf_X)) (j : Nat) (hj : j ≤ wt.length) (hwl : wt.length ≤ 6) (hb : ∀ f, f < 10 → qf_o (base f)) (hwo : ∀ c, c ∈ wt → c.1 < 10 ∧ qf_o c.2) (hw : ∀ k c, wt[k]? = some c → yacf k = nI c.1 ∧ qx_slot yac yacl k c.2) (x3 : Int32) (post : Int32 → SY → Prop)
  (hp : ∀ an al : Nat → Int32, (∀ f, f < 10 → qx_slot an al f (qf_aps base (wt.take j) f)) → post x3 (nI j, ydd, ynd, yns, yma, ynt, yno, yrc, yfo, ybl, yod, ywr, an, yab, yac, yad, al, yabl, yacl, yacf, ynu, yfi, ypa, ysz, yli, ytx, yki, yf1, yf2, yo, yoa, yob, yit, yss, ymo, yst, ymy, ycl, yrw, yow, yen, yhi, yla)) :
  ∀ (n i : Nat) (an al : Nat → Int32), i ≤ j → j - i < n → (∀ f, f < 10 → qx_slot an al f (qf_aps base (wt.take i) f)) → wY_crash_94 post (nI j) x3 n (nI i) ywa ydd ynd yns yma ynt yno yrc yfo ybl yod ywr an yab yac yad al yabl yacl yacf ynu yfi ypa ysz yli ytx yki yf1 yf2 yo yoa yob yit yss ymo yst ymy ycl yrw yow yen yhi yla := by
  intro n
  induction n with
  | zero => intro i an al h1 h2; omega
  | succ n ih =>
    intro i an al h1 h2 h3
    refine pk_le j i (fun hle => ?_) (fun hlt => ?_)
    · have e : i = j := by omega
      subst e
      exact hp an al h3
    · have hil : i < wt.length := by omega
      have hg : wt[i]? = some wt[i] := List.getElem?_eq_getElem hil
      have hin := hwo _ (List.getElem_mem hil)
      have hon : ∀ f, f < 10 → qf_o (qf_aps base (wt.take i) f) := qf_aps_o _ base hb (fun c hc => (hwo c (List.mem_of_mem_take hc)).2)
      refine ys_ap i rfl (by omega) wt[i].1 hin.1 wt[i].2 hin.2 (hw i _ hg).1 (hw i _ hg).2 _ (fun an1 al1 hsl hk => ?_)
      refine nm_r (nI_1 i) (ih (i + 1) an1 al1 (by omega) (by omega) ?_)
      intro f hf
      rw [qf_aps_take hil]
      unfold qf_ap
      split
      · rename_i e; rw [e]; exact hsl
      · rename_i e; exact hk f _ hf e (hon f hf) (h3 f hf)
theorem ys_crash (now base : Nat → qf_X) (wt : List (Nat × qf_X)) (dr : List Nat) (docs : List qf_D) (segs : List Nat) (made : Nat) (hi : qf_inv now base wt dr docs segs made) (hS : qy_S now base wt dr docs segs made yan yal yab yabl yac yacl yacf yad ywa ydd ynu yfi ypa ysz yli ytx ynd yns yma) (j : Nat) (hj31 : j < 2 ^ 31) (post : Int32 → SY → Prop)
  (hp : ∀ an al : Nat → Int32, ∀ wa : Int32, qy_S (qf_aps base (wt.take j)) base (wt.take j) dr docs segs made an al yab yabl yac yacl yacf yad wa ydd ynu yfi ypa ysz yli ytx ynd yns yma → post (nI (wt.length - j)) (wa, ydd, ynd, yns, yma, ynt, yno, yrc, yfo, ybl, yod, ywr, an, yab, yac, yad, al, yabl, yacl, yacf, ynu, yfi, ypa, ysz, yli, ytx, yki, yf1, yf2, yo, yoa, yob, yit, yss, ymo, yst, ymy, ycl, yrw, yow, yen, yhi, yla)) : wpY_crash post (ywa, ydd, ynd, yns, yma, ynt, yno, yrc, yfo, ybl, yod, ywr, yan, yab, yac, yad, yal, yabl, yacl, yacf, ynu, yfi, ypa, ysz, yli, ytx, yki, yf1, yf2, yo, yoa, yob, yit, yss, ymo, yst, ymy, ycl, yrw, yow, yen, yhi, yla) (nI j) := by
  obtain ⟨i1, i2, i3, i4, i5, i6⟩ := hi
  obtain ⟨s1, s2, ⟨s3, s4⟩, s5, s6⟩ := hS
  subst s3
  have key : ∀ m : Nat, m ≤ wt.length → wt.take m = wt.take j → wt.length - m = wt.length - j → wY_crash_22 post (nI m) (nI wt.length) ydd ynd yns yma ynt yno yrc yfo ybl yod ywr yan yab yac yad yal yabl yacl yacf ynu yfi ypa ysz yli ytx yki yf1 yf2 yo yoa yob yit yss ymo yst ymy ycl yrw yow yen yhi yla := by
    intro m hm e1 e2
    refine nm_r (pk_sub hm) ⟨401, ys_c1 (nI m) _ post ?_ 401 0 yan (by omega) (by omega) (fun k hk => absurd hk (by omega))⟩
    intro an han
    refine ⟨11, ys_c2 (nI m) _ post ?_ 11 0 yal (by omega) (by omega) (fun k hk => absurd hk (by omega))⟩
    intro al hal
    refine ⟨m + 1, ys_c3 base wt m hm i3.1 i2 i3.2 s4 _ post ?_ (m + 1) 0 an al (by omega) (by omega) ?_⟩
    · intro an1 al1 h1
      rw [e2]
      rw [e1] at h1
      refine hp an1 al1 (nI m) ⟨h1, s2, ⟨by rw [← e1, List.length_take]; congr 1; omega, fun k c hc => ?_⟩, s5, s6⟩
      rw [← e1] at hc
      have hk := qr_get_lt hc
      rw [List.length_take] at hk
      rw [List.getElem?_take_of_lt (by omega)] at hc
      exact s4 k c hc
    · intro f hf
      show qx_slot an al f (base f)
      have a := s2 f hf
      cases hnf : base f with
      | none => rw [hnf] at a; exact (hal f hf).trans a
      | some t =>
        rw [hnf] at a
        have ht := i2 f hf t hnf
        refine ⟨(hal f hf).trans a.1, fun i hi => ?_⟩
        have := ht.1
        rw [han _ (by omega), a.2 i hi, ys_nar (qf_t_get ht hi)]
  refine br_t (nI_pos' hj31) (pk_le wt.length j (fun hle => ?_) (fun hlt => ?_) rfl rfl (by omega) hj31)
  · exact key wt.length (Nat.le_refl _) (by rw [List.take_length, List.take_of_length_le hle]) (by omega)
  · exact key j (by omega) rfl rfl
theorem ys_settle (now base : Nat → qf_X) (wt : List (Nat × qf_X)) (dr : List Nat) (docs : List qf_D) (segs : List Nat) (made : Nat) (hi : qf_inv now base wt dr docs segs made) (hS : qy_S now base wt dr docs segs made yan yal yab yabl yac yacl yacf yad ywa ydd ynu yfi ypa ysz yli ytx ynd yns yma) (post : Int32 → SY → Prop)
  (hp : ∀ ab abl nu fi pa sz li tx : Nat → Int32, ∀ wa nd ns ma : Int32, qy_S now now [] dr (qd_gd 0 (qd_sy docs segs wt now made).1 (qd_sy docs segs wt now made).2) (qd_gs 0 (qd_sy docs segs wt now made).1 (qd_sy docs segs wt now made).2) (qd_m2 wt now made) yan yal ab abl yac yacl yacf yad wa ydd nu fi pa sz li tx nd ns ma → post (nI (qd_gd 0 (qd_sy docs segs wt now made).1 (qd_sy docs segs wt now made).2).length) (wa, ydd, nd, ns, ma, ynt, yno, yrc, yfo, ybl, yod, ywr, yan, ab, yac, yad, yal, abl, yacl, yacf, nu, fi, pa, sz, li, tx, yki, yf1, yf2, yo, yoa, yob, yit, yss, ymo, yst, ymy, ycl, yrw, yow, yen, yhi, yla)) : wpY_settle post (ywa, ydd, ynd, yns, yma, ynt, yno, yrc, yfo, ybl, yod, ywr, yan, yab, yac, yad, yal, yabl, yacl, yacf, ynu, yfi, ypa, ysz, yli, ytx, yki, yf1, yf2, yo, yoa, yob, yit, yss, ymo, yst, ymy, ycl, yrw, yow, yen, yhi, yla) := by
  have hi2 := (qf_inv_sync hi).1
  unfold wpY_settle
  refine ys_sync now base wt dr docs segs made hi hS _ (fun ab abl nu fi pa sz li tx wa nd ns ma hS1 => ?_)
  generalize qd_sy docs segs wt now made = R at *
  obtain ⟨rd, rs⟩ := R
  dsimp only at *
  obtain ⟨i1, i2, i3, i4, i5, i6⟩ := hi2
  obtain ⟨s1, s2, s3, s5, ⟨s6, s7⟩, s8, s9⟩ := hS1
  have hb := qd_dec10 i6 i5.2.1
  have hsm := i5.1
  subst s9
  refine pk_le rs.length 0 (fun hle => ?_) (fun hlt => ?_)
  · have e1 : rs = [] := List.eq_nil_of_length_eq_zero (by omega)
    subst e1
    have e2 : rd = [] := List.eq_nil_of_length_eq_zero (by rw [← hsm]; rfl)
    subst e2
    subst s6
    exact hp ab abl nu fi pa sz li tx wa _ _ ma ⟨s1, s2, s3, s5, ⟨rfl, (fun d x hx => nomatch hx)⟩, s8, rfl⟩
  · refine ys_un rd rs 0 (by omega) (by omega) (by omega) (fun x hx => (i5.2.2.2.1 x hx).2.2) i5.1 s6 s7 0 rfl _ (fun tx1 sz1 nu1 fi1 pa1 li1 hdl => ?_)
    exact hp ab abl nu1 fi1 pa1 sz1 li1 tx1 wa _ _ ma ⟨s1, s2, s3, s5, ⟨rfl, hdl⟩, s8, rfl⟩
end
