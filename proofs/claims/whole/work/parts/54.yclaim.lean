/-! the reference: the claim of each part -/
theorem qk_w_all {m : Nat} {l : List (List Nat)} (h : ∀ r, r ∈ l → qk_w m r) : ∀ r, r ∈ qr_all [] l → qk_w m r := fun r hr => h r ((qr_mem_all.mp hr).elim (fun z => absurd z (by simp)) id)
theorem qk_cut0 (l : List (List Nat)) : l.map (qr_cut 0) = l := List.map_id'' (fun _ => rfl) l
theorem qk_cut1 (l : List (List Nat)) : l.map (qr_cut 1) = l.map qr_hd := rfl
theorem qk_cut2 (l : List (List Nat)) : l.map (qr_cut 2) = l.map qr_tl := rfl
theorem qk_cutw {m c : Nat} {l : List (List Nat)} (h : ∀ r, r ∈ l → qk_w m r) : ∀ r, r ∈ l.map (qr_cut c) → qk_w m r := by
  intro r hr
  obtain ⟨s, hs, rfl⟩ := List.mem_map.mp hr
  exact qk_w_cut (h s hs)
def qk_tr (ow : Nat → Int32) (q : List Nat) (f : Nat) : Prop := ∀ i, i + 2 < q.length → bt (ow ((q.getD i 0 * 6 + q.getD (i + 1) 0) * 6 + q.getD (i + 2) 0)) f = true
theorem qk_gt (q : List Nat) (m i : Nat) (h : i < m) : (q.take m).getD i 0 = q.getD i 0 := by
  rw [List.getD_eq_getElem?_getD, List.getD_eq_getElem?_getD, List.getElem?_take, if_pos h]
theorem qk_tr_s (ow : Nat → Int32) (q : List Nat) (f : Nat) (h : 3 ≤ q.length) : qk_tr ow q f ↔ bt (ow ((q.getD (q.length - 3) 0 * 6 + q.getD (q.length - 3 + 1) 0) * 6 + q.getD (q.length - 3 + 2) 0)) f = true ∧ qk_tr ow (q.take (q.length - 1)) f := by
  have el : (q.take (q.length - 1)).length = q.length - 1 := by rw [List.length_take]; omega
  constructor
  · intro hh
    refine ⟨hh (q.length - 3) (by omega), fun i hi => ?_⟩
    rw [el] at hi
    rw [qk_gt q _ i (by omega), qk_gt q _ (i + 1) (by omega), qk_gt q _ (i + 2) (by omega)]
    exact hh i (by omega)
  · rintro ⟨h1, h2⟩ i hi
    by_cases z : i = q.length - 3
    · subst z; exact h1
    · have := h2 i (by rw [el]; omega)
      rw [qk_gt q _ i (by omega), qk_gt q _ (i + 1) (by omega), qk_gt q _ (i + 2) (by omega)] at this
      exact this
theorem qk_has {now : Nat → qf_X} {ow : Nat → Int32} (how : qy_own now ow) {f : Nat} (hf : f < 10) {t : List Nat} (ht : now f = some t) {r : List Nat} (hr : ∀ x, x ∈ r → x < 6) : qk_tr ow r f ↔ qr_has r (qt_T t) := by
  have key : ∀ i, i + 2 < r.length → (bt (ow ((r.getD i 0 * 6 + r.getD (i + 1) 0) * 6 + r.getD (i + 2) 0)) f = true ↔ qt_T t (r.getD i 0) (r.getD (i + 1) 0) (r.getD (i + 2) 0)) := by
    intro i hi
    have a := qc_get_in hr i (by omega)
    have b := qc_get_in hr (i + 1) (by omega)
    have c := qc_get_in hr (i + 2) (by omega)
    rw [how _ (by omega) f hf, qt_g_T a b c]
    have e : (r.getD i 0 * 6 + r.getD (i + 1) 0) * 6 + r.getD (i + 2) 0 = 36 * r.getD i 0 + 6 * r.getD (i + 1) 0 + r.getD (i + 2) 0 := by omega
    rw [e]
    constructor
    · rintro ⟨t', h1, h2⟩
      rw [ht] at h1
      cases h1
      obtain ⟨j, _, hj⟩ := qt_any_iff.mp h2
      exact ⟨j, hj⟩
    · rintro ⟨j, hj⟩
      exact ⟨t, ht, qt_any_iff.mpr ⟨j, by have := (qt_g_lt hj).2; omega, hj⟩⟩
  exact ⟨fun h i hi => (key i hi).mp (h i hi), fun h i hi => (key i hi).mpr (h i hi)⟩
theorem qk_1023 : ∀ f, f < 10 → bt 1023 f = true := by decide +kernel
def qk_cl (now : Nat → qf_X) (x : Int32) (C : (Nat → Nat → Nat → Prop) → Prop) : Prop := ∀ f t, f < 10 → now f = some t → (bt x f = true ↔ C (qt_T t))
section
variable {ywa ydd ynd yns yma ynt yno yrc yfo ybl yod ywr : Int32} {yan yab yac yad yal yabl yacl yacf ynu yfi ypa ysz yli ytx yki yf1 yf2 yo yoa yob yit yss ymo yst ymy ycl yrw yow yhi yla : Nat → Int32} {yen : Nat → Int64}
theorem yk_so2 (post : Int32 → SY → Prop) (J : Int32 → Int32 → Prop) (x1 x2 : Int32) : ∀ (N : Nat) (x3 : Int32) (r : List Nat), r.length < N → qk_w 10 r → (∀ x3' : Int32, (∀ f, f < 10 → (bt x3' f = true ↔ bt x3 f = true ∧ qk_tr yow r f)) → J (x1 ||| x3') (x2 + 1)) → wY_some_24 post J x1 x2 ywa ydd ynd yns yma ynt yno yrc yfo ybl yod ywr yan yab yac yad yal yabl yacl yacf ynu yfi ypa ysz yli ytx yki yf1 yf2 yo yoa yob yit yss ymo yst ymy ycl yrw yow yen yhi yla N x3 (nI (qc_y r)) := by
  intro N
  induction N with
  | zero => intro x3 r h1; omega
  | succ N ih =>
    intro x3 r h1 h2 h3
    have hi := qk_i h2
    have hb := qc_y_big r h2.2 3
    rw [show (6 : Nat) ^ 3 = 216 by decide] at hb
    refine pk_lt (qc_y r) 216 (fun hle => nm_e (nm_e (h3 x3 (fun f hf => ?_)))) (fun hlt => ?_)
    · have hs : r.length ≤ 2 := by
        rcases Nat.lt_or_ge r.length 3 with z | z
        · omega
        · have := hb.mpr z; omega
      exact ⟨fun h => ⟨h, fun i hi => absurd hi (by omega)⟩, fun h => h.1⟩
    · have hl : 3 ≤ r.length := hb.mp hlt
      have em : nI (qc_y r) - nI (qc_y r) / 216 * 216 = nI (qc_y r % 216) := pk_rem (by omega) (d := 216) (by omega) (by omega)
      have hm : qc_y r % 216 < 216 := Nat.mod_lt _ (by omega)
      refine ⟨by decide, pk_in (qc_y r % 216) 216 hm em, nm_e ⟨by decide, nm_r (e' := nI (qc_y r / 6)) (pk_div (d := 6) (by omega) (by omega) (by omega)) ?_⟩⟩
      rw [pk_cl _ em]
      have e := qc_y_take r h2.2 1 (by omega)
      rw [Nat.pow_one] at e
      rw [e]
      have e3 : (r.take (r.length - 1)).length = r.length - 1 := by rw [List.length_take]; omega
      refine ih _ (r.take (r.length - 1)) (by omega) ⟨by have := h2.1; omega, fun x hx => h2.2 x (List.mem_of_mem_take hx)⟩ (fun x3' h4 => h3 x3' (fun f hf => ?_))
      have et := qc_y_tri r h2.2 (r.length - 3) (by omega)
      rw [show r.length - 3 - (r.length - 3) = 0 by omega, Nat.pow_zero, Nat.div_one] at et
      rw [h4 f hf, b_and, Bool.and_eq_true, qk_tr_s yow r f hl, et, and_assoc]
theorem yk_so1 (l : List (List Nat)) (hb : qk_buf yrw yrc l) (hl : l.length ≤ 64) (post : Int32 → SY → Prop) (hp : ∀ x : Int32, (∀ f, f < 10 → (bt x f = true ↔ ∃ r, r ∈ l ∧ qk_tr yow r f)) → post x (ywa, ydd, ynd, yns, yma, ynt, yno, 0, yfo, ybl, yod, ywr, yan, yab, yac, yad, yal, yabl, yacl, yacf, ynu, yfi, ypa, ysz, yli, ytx, yki, yf1, yf2, yo, yoa, yob, yit, yss, ymo, yst, ymy, ycl, yrw, yow, yen, yhi, yla)) : ∀ (N i : Nat) (x : Int32), i ≤ l.length → l.length - i < N → (∀ f, f < 10 → (bt x f = true ↔ ∃ r, r ∈ l.take i ∧ qk_tr yow r f)) → wY_some_4 post ywa ydd ynd yns yma ynt yno yrc yfo ybl yod ywr yan yab yac yad yal yabl yacl yacf ynu yfi ypa ysz yli ytx yki yf1 yf2 yo yoa yob yit yss ymo yst ymy ycl yrw yow yen yhi yla N x (nI i) := by
  obtain ⟨b1, b2, b3⟩ := hb
  subst b2
  intro N
  induction N with
  | zero => intro i x h1 h2; omega
  | succ N ih =>
    intro i x h1 h2 h3
    refine pk_le l.length i (fun hle => hp x (fun f hf => ?_)) (fun hlt => ⟨pk_in i 64 (by omega), ?_⟩)
    · have := h3 f hf
      rw [List.take_of_length_le hle] at this
      exact this
    · have hg := List.getElem?_eq_getElem hlt
      have hw := b1 _ (List.getElem_mem hlt)
      refine nm_r (e' := nI (qc_y l[i])) (by rw [nI_clamp (by omega)]; exact b3 i _ hg) ⟨l[i].length + 1, ?_⟩
      refine yk_so2 post _ x (nI i) _ 1023 l[i] (by omega) hw (fun x3 h4 => ?_)
      rw [nI_1 i]
      refine ih (i + 1) _ (by omega) (by omega) (fun f hf => ?_)
      rw [b_or, Bool.or_eq_true, h3 f hf, h4 f hf, List.take_succ_eq_append_getElem hlt]
      constructor
      · rintro (⟨r, h5, h6⟩ | ⟨_, h6⟩)
        · exact ⟨r, List.mem_append.mpr (Or.inl h5), h6⟩
        · exact ⟨l[i], List.mem_append.mpr (Or.inr (List.mem_singleton.mpr rfl)), h6⟩
      · rintro ⟨r, h5, h6⟩
        rcases List.mem_append.mp h5 with z | z
        · exact Or.inl ⟨r, z, h6⟩
        · rw [List.mem_singleton.mp z] at h6
          exact Or.inr ⟨qk_1023 f hf, h6⟩
theorem yk_some {now : Nat → qf_X} (how : qy_own now yow) (l : List (List Nat)) (hb : qk_buf yrw yrc l) (hl : l.length ≤ 64) (post : Int32 → SY → Prop) (hp : ∀ x : Int32, qk_cl now x (qr_some l) → post x (ywa, ydd, ynd, yns, yma, ynt, yno, 0, yfo, ybl, yod, ywr, yan, yab, yac, yad, yal, yabl, yacl, yacf, ynu, yfi, ypa, ysz, yli, ytx, yki, yf1, yf2, yo, yoa, yob, yit, yss, ymo, yst, ymy, ycl, yrw, yow, yen, yhi, yla)) : wpY_some post (ywa, ydd, ynd, yns, yma, ynt, yno, yrc, yfo, ybl, yod, ywr, yan, yab, yac, yad, yal, yabl, yacl, yacf, ynu, yfi, ypa, ysz, yli, ytx, yki, yf1, yf2, yo, yoa, yob, yit, yss, ymo, yst, ymy, ycl, yrw, yow, yen, yhi, yla) := by
  refine ⟨l.length + 1, yk_so1 l hb hl post (fun x hx => hp x (fun f t hf ht => ?_)) (l.length + 1) 0 0 (by omega) (by omega) (fun f hf => ?_)⟩
  · rw [hx f hf]
    constructor
    · rintro ⟨r, h1, h2⟩
      exact ⟨r, h1, (qk_has how hf ht (hb.1 r h1).2).mp h2⟩
    · rintro ⟨r, h1, h2⟩
      exact ⟨r, h1, (qk_has how hf ht (hb.1 r h1).2).mpr h2⟩
  · rw [b_0]
    exact ⟨fun h => (nomatch h), fun ⟨r, h, _⟩ => (nomatch h)⟩
end
def qk_lo (now : Nat → qf_X) (st my cl : Nat → Int32) (p : Nat) (v : qi_T) : Prop := qk_set st my (3 * p + 1) v.2.1 ∧ qk_set st my (3 * p + 2) v.2.2.1 ∧ qk_cl now (cl p) v.2.2.2
def qk_sl (now : Nat → qf_X) (st my cl : Nat → Int32) (p : Nat) (v : qi_T) : Prop := (∀ ws, v.1 = some ws → qk_set st my (3 * p) ws) ∧ (v.1 = none → my (3 * p) = -1 ∧ qk_lo now st my cl p v)
def qk_kp (p : Nat) (st my cl st' my' cl' : Nat → Int32) : Prop := qk_k (fun s => s < 3 * p) st my st' my' ∧ ∀ q, q < p → cl' q = cl q
theorem qk_kp_rf (p : Nat) (st my cl : Nat → Int32) : qk_kp p st my cl st my cl := ⟨qk_k_rf _ _ _, fun _ _ => rfl⟩
theorem qk_sl_kp {now : Nat → qf_X} {p q : Nat} {st my cl st' my' cl' : Nat → Int32} {v : qi_T} (h : qk_kp p st my cl st' my' cl') (hq : q < p) (hv : qk_sl now st my cl q v) : qk_sl now st' my' cl' q v := by
  refine ⟨fun ws e => qk_set_k h.1 (by show 3 * q < 3 * p; omega) (hv.1 ws e), fun e => ?_⟩
  obtain ⟨a, b, c, d⟩ := hv.2 e
  refine ⟨(h.1 (3 * q) (by show 3 * q < 3 * p; omega)).1.trans a, qk_set_k h.1 (by show 3 * q + 1 < 3 * p; omega) b, qk_set_k h.1 (by show 3 * q + 2 < 3 * p; omega) c, ?_⟩
  rw [h.2 q hq]
  exact d
theorem qk_ne (l : List (List Nat)) (h : l.length ≤ 8) : ¬ nI l.length < 0 := nI_nlt (a := l.length) (b := 0) (Nat.zero_le _) (by omega)
section
variable {ywa ydd ynd yns yma ynt yno yrc yfo ybl yod ywr : Int32} {yan yab yac yad yal yabl yacl yacf ynu yfi ypa ysz yli ytx yki yf1 yf2 yo yoa yob yit yss ymo yst ymy ycl yrw yow yhi yla : Nat → Int32} {yen : Nat → Int64} {now : Nat → qf_X}
theorem yk_isk (p : Nat) (hp : p < 20) (v : qi_T) (hs : qk_sl now yst ymy ycl p v) (x : Int32) (ex : x = nI p) (post : Int32 → Prop) (h0 : v.1 = none → post 0) (h1 : ∀ ws, v.1 = some ws → post 1) : wpY_isKnown post (ywa, ydd, ynd, yns, yma, ynt, yno, yrc, yfo, ybl, yod, ywr, yan, yab, yac, yad, yal, yabl, yacl, yacf, ynu, yfi, ypa, ysz, yli, ytx, yki, yf1, yf2, yo, yoa, yob, yit, yss, ymo, yst, ymy, ycl, yrw, yow, yen, yhi, yla) x := by
  subst ex
  have e : (3 : Int32) * nI p = nI (3 * p) := by rw [show (3 : Int32) = nI 3 from rfl, pk_mul]
  unfold wpY_isKnown
  refine And.intro (pk_in (3 * p) 60 (by omega) e) ?_
  rw [pk_cl (3 * p) e]
  match hv : v.1 with
  | none =>
    rw [((hs.2 hv).1)]
    exact br_t (by decide) (h0 hv)
  | some ws =>
    have hk := hs.1 ws hv
    rw [hk.2.2.1]
    exact br_f (qk_ne ws hk.1) (h1 ws hv)
/-- a set of words is loosened -/
theorem yk_loosen (how : qy_own now yow) (p : Nat) (hp20 : p < 20) (v : qi_T) (hwf : qi_wf v) (hs : qk_sl now yst ymy ycl p v) (x : Int32) (ex : x = nI p) (post : SY → Prop)
  (hp : ∀ (rc' : Int32) (rw' st' my' cl' : Nat → Int32), qk_lo now st' my' cl' p v → qk_k (fun s => s ≠ 3 * p + 1 ∧ s ≠ 3 * p + 2) yst ymy st' my' → (∀ q, q ≠ p → cl' q = ycl q) → post (ywa, ydd, ynd, yns, yma, ynt, yno, rc', yfo, ybl, yod, ywr, yan, yab, yac, yad, yal, yabl, yacl, yacf, ynu, yfi, ypa, ysz, yli, ytx, yki, yf1, yf2, yo, yoa, yob, yit, yss, ymo, st', my', cl', rw', yow, yen, yhi, yla)) : wpY_loosen post (ywa, ydd, ynd, yns, yma, ynt, yno, yrc, yfo, ybl, yod, ywr, yan, yab, yac, yad, yal, yabl, yacl, yacf, ynu, yfi, ypa, ysz, yli, ytx, yki, yf1, yf2, yo, yoa, yob, yit, yss, ymo, yst, ymy, ycl, yrw, yow, yen, yhi, yla) x := by
  subst ex
  have e0 : (3 : Int32) * nI p = nI (3 * p) := by rw [show (3 : Int32) = nI 3 from rfl, pk_mul]
  have e1 : (3 : Int32) * nI p + 1 = nI (3 * p + 1) := by rw [e0, nI_1]
  have e2 : (3 : Int32) * nI p + 2 = nI (3 * p + 2) := by rw [e0]; exact nI_add _ 2
  unfold wpY_loosen
  refine yk_isk p hp20 v hs _ rfl _ (fun hv => br_t rfl ?_) (fun ws hv => br_f (by decide) ?_)
  · exact hp yrc yrw yst ymy ycl (hs.2 hv).2 (qk_k_rf _ _ _) (fun _ _ => rfl)
  · obtain ⟨hw, ev⟩ := hwf.1 ws hv
    have h0 := hs.1 ws hv
    have l8 := h0.1
    refine yk_gather (3 * p) 1 (by omega) (by omega) ws [] h0 (qk_buf0 yrw) (by simp; omega) _ _ e0 rfl _ (fun rc1 rw1 hb1 => ?_)
    have len1 : ∀ c, (qr_all [] (ws.map (qr_cut c))).length ≤ 8 := fun c => by
      have := qr_len_all1 (ws.map (qr_cut c)) []
      rw [List.length_map, List.length_nil] at this
      omega
    have w5 : ∀ c r, r ∈ qr_all [] (ws.map (qr_cut c)) → qk_w 5 r := fun c => qk_w_all (qk_cutw h0.2.1)
    refine yk_store (3 * p + 1) (by omega) _ hb1 (by have := len1 1; omega) (fun _ => w5 1) _ e1 _ (fun rw2 st2 my2 hs2 hk2 => ?_)
    have h2 : qk_set st2 my2 (3 * p) ws := qk_set_k hk2 (by show 3 * p ≠ 3 * p + 1; omega) h0
    refine yk_gather (3 * p) 2 (by omega) (by omega) ws [] h2 (qk_buf0 rw2) (by simp; omega) _ _ e0 rfl _ (fun rc3 rw3 hb3 => ?_)
    refine yk_store (3 * p + 2) (by omega) _ hb3 (by have := len1 2; omega) (fun _ => w5 2) _ e2 _ (fun rw4 st4 my4 hs4 hk4 => ?_)
    have h4 : qk_set st4 my4 (3 * p) ws := qk_set_k hk4 (by show 3 * p ≠ 3 * p + 2; omega) h2
    refine yk_gather (3 * p) 0 (by omega) (by omega) ws [] h4 (qk_buf0 rw4) (by simp; omega) _ _ e0 rfl _ (fun rc5 rw5 hb5 => ?_)
    refine yk_some how _ hb5 (by have := len1 0; omega) _ (fun x hx => ⟨pk_in p 20 hp20, nm_e ?_⟩)
    rw [nI_clamp (by omega)]
    refine hp _ _ _ _ _ ⟨?_, ?_, ?_⟩ ?_ (fun q hq => pk_un hq)
    · rw [ev]
      exact qk_set_k hk4 (by show 3 * p + 1 ≠ 3 * p + 2; omega) hs2
    · rw [ev]
      exact hs4
    · rw [pk_us, ev]
      rw [qk_cut0, qr_all_self hw.1] at hx
      exact hx
    · exact qk_k_tr hk2 hk4 (fun s hs => hs)
theorem qk_3 (p : Nat) : (3 : Int32) * nI p = nI (3 * p) := by rw [show (3 : Int32) = nI 3 from rfl, pk_mul]
theorem qk_lt_w (a l : Nat) (hl : l ≤ 6) : ∀ r, r ∈ (qi_lt a l).map (fun l => [l]) → qk_w 1 r := by
  intro r hr
  obtain ⟨x, hx, rfl⟩ := List.mem_map.mp hr
  refine ⟨by simp, fun y hy => ?_⟩
  rw [List.mem_singleton] at hy
  subst hy
  have := List.mem_range.mp (List.mem_filter.mp hx).1
  omega
theorem qk_lt_len (a l : Nat) (hl : l ≤ 6) : (qi_lt a l).length ≤ l := by
  have := List.length_filter_le (fun l => a.testBit l) (List.range l)
  rw [List.length_range] at this
  exact this
theorem qk_row1 (l : Nat) : qc_y [l] = 6 + l := by
  unfold qc_y
  rw [qc_one, List.length_singleton]
theorem yk_let1 (p a : Nat) (ha : a < 64) (post : SY → Prop) (hp : ∀ (rc' : Int32) (rw' : Nat → Int32), qk_buf rw' rc' (if a = 0 then [[]] else qr_all [] ((qi_ls a).map (fun l => [l]))) → wY_letters_45 post (nI p) ywa ydd ynd yns yma ynt yno rc' yfo ybl yod ywr yan yab yac yad yal yabl yacl yacf ynu yfi ypa ysz yli ytx yki yf1 yf2 yo yoa yob yit yss ymo yst ymy ycl rw' yow yen yhi yla) :
  ∀ (N l : Nat) (rc' : Int32) (rw' : Nat → Int32), l ≤ 6 → 6 - l < N → qk_buf rw' rc' (qr_all [] ((qi_lt a l).map (fun l => [l]))) → wY_letters_7 post (nI p) (nI a) N (nI l) ywa ydd ynd yns yma ynt yno rc' yfo ybl yod ywr yan yab yac yad yal yabl yacl yacf ynu yfi ypa ysz yli ytx yki yf1 yf2 yo yoa yob yit yss ymo yst ymy ycl rw' yow yen yhi yla := by
  intro N
  induction N with
  | zero => intro l rc' rw' h1 h2; omega
  | succ N ih =>
    intro l rc' rw' h1 h2 h3
    have hlen : (qr_all [] ((qi_lt a l).map (fun l => [l]))).length < 64 := by
      have := qr_len_all1 ((qi_lt a l).map (fun l => [l])) []
      rw [List.length_map, List.length_nil] at this
      have := qk_lt_len a l h1
      omega
    refine pk_le 6 l (fun hle => ?_) (fun hlt => ?_)
    · have e : l = 6 := by omega
      subst e
      refine pk_eq a 0 (fun e0 => ?_) (fun e0 => ?_)
      · subst e0
        have el : qr_all [] ((qi_lt 0 6).map (fun l => [l])) = [] := by decide +kernel
        rw [el] at h3
        refine yk_add [] h3 (by simp) [] ⟨by simp, (fun x hx => nomatch hx)⟩ _ rfl _ (fun rc2 rw2 hb2 => ?_)
        exact hp rc2 rw2 hb2
      · have := hp rc' rw'
        rw [if_neg e0] at this
        exact this h3
    · refine ek_if (qb_s1 (nI a) l (by omega)) (fun hb => ?_) (fun hb => nm_r (nI_1 l) (ih (l + 1) rc' rw' (by omega) (by omega) ?_))
      · rw [qb_nI a l (by omega)] at hb
        refine yk_add _ h3 hlen [l] ⟨by simp, fun x hx => by rw [List.mem_singleton] at hx; omega⟩ _ (by rw [qk_row1]; exact nI_add 6 l) _ (fun rc2 rw2 hb2 => nm_r (nI_1 l) (ih (l + 1) rc2 rw2 (by omega) (by omega) ?_))
        rw [qi_lt_s, hb, if_pos rfl, List.map_append, qr_all_app]
        exact hb2
      · rw [qb_nI a l (by omega)] at hb
        rw [qi_lt_s]
        have : a.testBit l = false := by simpa using hb
        rw [this]
        simpa using h3
/-- letters: a set of one-letter rows, or of the empty row -/
theorem yk_letters (p a : Nat) (hp20 : p < 20) (ha : a < 64) (x y : Int32) (ex : x = nI p) (ey : y = nI a) (post : SY → Prop)
  (hp : ∀ (rc' : Int32) (rw' st' my' cl' : Nat → Int32), qk_sl now st' my' cl' p (qi_known (if a = 0 then [[]] else (qi_ls a).map (fun l => [l]))) → qk_kp p yst ymy ycl st' my' cl' → cl' = ycl → qk_k (fun s => s ≠ 3 * p) yst ymy st' my' → post (ywa, ydd, ynd, yns, yma, ynt, yno, rc', yfo, ybl, yod, ywr, yan, yab, yac, yad, yal, yabl, yacl, yacf, ynu, yfi, ypa, ysz, yli, ytx, yki, yf1, yf2, yo, yoa, yob, yit, yss, ymo, st', my', cl', rw', yow, yen, yhi, yla)) : wpY_letters post (ywa, ydd, ynd, yns, yma, ynt, yno, yrc, yfo, ybl, yod, ywr, yan, yab, yac, yad, yal, yabl, yacl, yacf, ynu, yfi, ypa, ysz, yli, ytx, yki, yf1, yf2, yo, yoa, yob, yit, yss, ymo, yst, ymy, ycl, yrw, yow, yen, yhi, yla) x y := by
  subst ex; subst ey
  refine ⟨7, yk_let1 p a ha post (fun rc1 rw1 hb1 => ?_) 7 0 0 yrw (by omega) (by omega) (qk_buf0 yrw)⟩
  have hnd : (qi_ls a).Nodup := List.Pairwise.filter _ List.nodup_range
  have hn2 : ((qi_ls a).map (fun l => [l])).Nodup := List.Pairwise.map _ (fun x y hxy e => hxy (by simpa using e)) hnd
  have hlen : ((qi_ls a).map (fun l => [l])).length ≤ 6 := by rw [List.length_map]; exact qk_lt_len a 6 (by omega)
  rw [qr_all_self hn2] at hb1
  have hl8 : (if a = 0 then [[]] else (qi_ls a).map (fun l => [l])).length ≤ 8 := by
    split
    · simp
    · omega
  have hw5 : ∀ r, r ∈ (if a = 0 then [[]] else (qi_ls a).map (fun l => [l])) → qk_w 5 r := by
    split
    · intro r hr
      rw [List.mem_singleton.mp hr]
      exact ⟨by simp, (fun x hx => nomatch hx)⟩
    · exact fun r hr => qk_w_up (qk_lt_w a 6 (by omega) r hr) (by omega)
  unfold wY_letters_45
  refine yk_store (3 * p) (by omega) _ hb1 (by omega) (fun _ => hw5) _ (qk_3 p) _ (fun rw2 st2 my2 hs2 hk2 => hp _ _ _ _ _ ⟨fun ws e => ?_, fun e => nomatch e⟩ ⟨fun s hs => hk2 s (by have : s < 3 * p := hs; omega), fun _ _ => rfl⟩ rfl hk2)
  cases e
  have el : qr_lim (if a = 0 then [[]] else (qi_ls a).map (fun l => [l])) = (if a = 0 then [[]] else (qi_ls a).map (fun l => [l])) := if_pos hl8
  rw [el] at hs2
  exact hs2
end
