/-! the reference: the claims of parts put together -/
theorem qk_unk1 : qr_lim (qr_all [] ([[]].map qr_hd)) = [[]] := by decide +kernel
theorem qk_unk2 : qr_lim (qr_all [] ([[]].map qr_tl)) = [[]] := by decide +kernel
theorem qk_some1 (T : Nat → Nat → Nat → Prop) : qr_some [[]] T := ⟨[], by simp, fun i hi => absurd hi (by simp)⟩
theorem qk_lo_unk {now : Nat → qf_X} {st my cl : Nat → Int32} {p : Nat} (h : qk_lo now st my cl p (qi_known [[]])) : qk_lo now st my cl p qi_unk := by
  obtain ⟨a, b, c⟩ := h
  refine ⟨?_, ?_, fun f t hf ht => (c f t hf ht).trans ⟨fun _ => trivial, fun _ => qk_some1 _⟩⟩
  · have a' : qk_set st my (3 * p + 1) (qr_lim (qr_all [] ([[]].map qr_hd))) := a
    rw [qk_unk1] at a'
    exact a'
  · have b' : qk_set st my (3 * p + 2) (qr_lim (qr_all [] ([[]].map qr_tl))) := b
    rw [qk_unk2] at b'
    exact b'
theorem qk_k_my (s : Nat) (st my : Nat → Int32) (x : Int32) : qk_k (fun s' => s' ≠ s) st my st (upd my s x) := fun _ hs => ⟨pk_un hs, fun _ _ => rfl⟩
theorem qk_sl_none {now : Nat → qf_X} {st my cl : Nat → Int32} {p : Nat} {v : qi_T} (hv : v.1 = none) (h : qk_lo now st my cl p v) : qk_sl now st (upd my (3 * p) (-1)) cl p v := by
  refine ⟨fun ws e => (by rw [hv] at e; exact (nomatch e)), fun _ => ⟨pk_us, ?_, ?_, h.2.2⟩⟩
  · exact qk_set_k (qk_k_my _ _ _ _) (by show 3 * p + 1 ≠ 3 * p; omega) h.1
  · exact qk_set_k (qk_k_my _ _ _ _) (by show 3 * p + 2 ≠ 3 * p; omega) h.2.1
theorem qk_lo_rep {now : Nat → qf_X} {st my cl : Nat → Int32} {p : Nat} {v : qi_T} (h : qk_lo now st my cl p v) : qk_lo now st my cl p (qi_rep v) := h
theorem qk_2 (p : Nat) : (3 : Int32) * nI p + 2 = nI (3 * p + 2) := by rw [qk_3]; exact nI_add _ 2
section
variable {ywa ydd ynd yns yma ynt yno yrc yfo ybl yod ywr : Int32} {yan yab yac yad yal yabl yacl yacf ynu yfi ypa ysz yli ytx yki yf1 yf2 yo yoa yob yit yss ymo yst ymy ycl yrw yow yhi yla : Nat → Int32} {yen : Nat → Int64} {now : Nat → qf_X}
theorem yk_nothing (how : qy_own now yow) (p : Nat) (hp20 : p < 20) (x : Int32) (ex : x = nI p) (post : SY → Prop)
  (hp : ∀ (rc' : Int32) (rw' st' my' cl' : Nat → Int32), qk_sl now st' my' cl' p qi_unk → qk_kp p yst ymy ycl st' my' cl' → post (ywa, ydd, ynd, yns, yma, ynt, yno, rc', yfo, ybl, yod, ywr, yan, yab, yac, yad, yal, yabl, yacl, yacf, ynu, yfi, ypa, ysz, yli, ytx, yki, yf1, yf2, yo, yoa, yob, yit, yss, ymo, st', my', cl', rw', yow, yen, yhi, yla)) : wpY_nothing post (ywa, ydd, ynd, yns, yma, ynt, yno, yrc, yfo, ybl, yod, ywr, yan, yab, yac, yad, yal, yabl, yacl, yacf, ynu, yfi, ypa, ysz, yli, ytx, yki, yf1, yf2, yo, yoa, yob, yit, yss, ymo, yst, ymy, ycl, yrw, yow, yen, yhi, yla) x := by
  subst ex
  have e24 : (24 : Int32) * nI p = nI (24 * p) := by rw [show (24 : Int32) = nI 24 from rfl, pk_mul]
  unfold wpY_nothing
  refine And.intro (pk_in (3 * p) 60 (by omega) (qk_3 p)) (nm_e (And.intro (pk_in (24 * p) 480 (by omega) e24) (nm_e ?_)))
  rw [pk_cl (3 * p) (qk_3 p), pk_cl (24 * p) e24]
  refine yk_loosen how p hp20 (qi_known [[]]) (qi_wf_known (qr_wf1 5)) ⟨fun ws e => ?_, fun e => nomatch e⟩ _ rfl _ (fun rc' rw' st' my' cl' h1 h2 h3 => And.intro (pk_in (3 * p) 60 (by omega) (qk_3 p)) (nm_e ?_))
  · cases e
    refine ⟨by simp, fun r hr => ?_, pk_us, fun k r hk => ?_⟩
    · rw [List.mem_singleton.mp hr]
      exact ⟨by simp, (fun x hx => nomatch hx)⟩
    · match k, hk with
      | 0, hk =>
        cases hk
        rw [show 8 * (3 * p) + 0 = 24 * p by omega]
        exact pk_us
  · refine hp _ _ _ _ _ (qk_sl_none rfl (qk_lo_unk h1)) ⟨fun s hs => ?_, fun q hq => h3 q (by omega)⟩
    have hs' : s < 3 * p := hs
    obtain ⟨a, b⟩ := h2 s ⟨by omega, by omega⟩
    refine ⟨(pk_un (by omega)).trans (a.trans (pk_un (by omega))), fun k hk => (b k hk).trans (pk_un (by omega))⟩
theorem yk_join (s : Nat) (hs : s + 3 < 60) (a b : List (List Nat)) (ha : qk_set yst ymy s a) (hb : qk_set yst ymy (s + 3) b) (x : Int32) (ex : x = nI s) (post : SY → Prop)
  (hp : ∀ (rc' : Int32) (rw' : Nat → Int32), qk_buf rw' rc' (qr_all [] (a ++ b)) → post (ywa, ydd, ynd, yns, yma, ynt, yno, rc', yfo, ybl, yod, ywr, yan, yab, yac, yad, yal, yabl, yacl, yacf, ynu, yfi, ypa, ysz, yli, ytx, yki, yf1, yf2, yo, yoa, yob, yit, yss, ymo, yst, ymy, ycl, rw', yow, yen, yhi, yla)) : wpY_join post (ywa, ydd, ynd, yns, yma, ynt, yno, yrc, yfo, ybl, yod, ywr, yan, yab, yac, yad, yal, yabl, yacl, yacf, ynu, yfi, ypa, ysz, yli, ytx, yki, yf1, yf2, yo, yoa, yob, yit, yss, ymo, yst, ymy, ycl, yrw, yow, yen, yhi, yla) x := by
  subst ex
  have l1 := ha.1
  have l2 := hb.1
  unfold wpY_join
  refine yk_gather s 0 (by omega) (by omega) a [] ha (qk_buf0 yrw) (by simp; omega) _ _ rfl rfl _ (fun rc1 rw1 h1 => ?_)
  have hl : (qr_all [] (a.map (qr_cut 0))).length + b.length ≤ 64 := by
    have := qr_len_all1 (a.map (qr_cut 0)) []
    rw [List.length_map, List.length_nil] at this
    omega
  refine yk_gather (s + 3) 0 (by omega) (by omega) b _ hb h1 hl _ _ (nI_add s 3) rfl _ (fun rc2 rw2 h2 => hp rc2 rw2 ?_)
  rw [qk_cut0, qk_cut0, ← qr_all_app] at h2
  exact h2
theorem qk_jl {a b : List (List Nat)} (ha : a.length ≤ 8) (hb : b.length ≤ 8) : (qr_all [] (a ++ b)).length ≤ 64 := by
  have := qr_len_all1 (a ++ b) []
  rw [List.length_append, List.length_nil] at this
  omega
theorem qk_jw {a b : List (List Nat)} (ha : ∀ r, r ∈ a → qk_w 5 r) (hb : ∀ r, r ∈ b → qk_w 5 r) : ∀ r, r ∈ qr_all [] (a ++ b) → qk_w 5 r :=
  qk_w_all (fun r hr => (List.mem_append.mp hr).elim (ha r) (hb r))
theorem yk_alt60 (how : qy_own now yow) (p : Nat) (hp20 : p + 1 < 20) (v w : qi_T) (wv : qi_wf v) (ww : qi_wf w) (hv : qk_sl now yst ymy ycl p v) (hw : qk_sl now yst ymy ycl (p + 1) w) (post : SY → Prop)
  (hp : ∀ (rc' : Int32) (rw' st' my' cl' : Nat → Int32), qk_sl now st' my' cl' p (qi_alt2 v w) → qk_kp p yst ymy ycl st' my' cl' → post (ywa, ydd, ynd, yns, yma, ynt, yno, rc', yfo, ybl, yod, ywr, yan, yab, yac, yad, yal, yabl, yacl, yacf, ynu, yfi, ypa, ysz, yli, ytx, yki, yf1, yf2, yo, yoa, yob, yit, yss, ymo, st', my', cl', rw', yow, yen, yhi, yla)) : wY_alt_60 post (nI p) (nI (3 * p)) ywa ydd ynd yns yma ynt yno yrc yfo ybl yod ywr yan yab yac yad yal yabl yacl yacf ynu yfi ypa ysz yli ytx yki yf1 yf2 yo yoa yob yit yss ymo yst ymy ycl yrw yow yen yhi yla := by
  unfold wY_alt_60
  refine yk_loosen how p (by omega) v wv hv _ rfl _ (fun rc1 rw1 st1 my1 cl1 h1 k1 c1 => ?_)
  have hw1 : qk_sl now st1 my1 cl1 (p + 1) w := by
    refine ⟨fun ws e => qk_set_k k1 ⟨by omega, by omega⟩ (hw.1 ws e), fun e => ?_⟩
    obtain ⟨a, b, c, d⟩ := hw.2 e
    refine ⟨(k1 _ ⟨by omega, by omega⟩).1.trans a, qk_set_k k1 ⟨by omega, by omega⟩ b, qk_set_k k1 ⟨by omega, by omega⟩ c, ?_⟩
    rw [c1 (p + 1) (by omega)]
    exact d
  refine yk_loosen how (p + 1) hp20 w ww hw1 _ (nI_1 p) _ (fun rc2 rw2 st2 my2 cl2 h2 k2 c2 => ?_)
  obtain ⟨a1, a2, a3⟩ := h1
  obtain ⟨b1, b2, b3⟩ := h2
  have a1' : qk_set st2 my2 (3 * p + 1) v.2.1 := qk_set_k k2 ⟨by omega, by omega⟩ a1
  have a2' : qk_set st2 my2 (3 * p + 2) v.2.2.1 := qk_set_k k2 ⟨by omega, by omega⟩ a2
  rw [show 3 * (p + 1) + 1 = 3 * p + 1 + 3 by omega] at b1
  rw [show 3 * (p + 1) + 2 = 3 * p + 2 + 3 by omega] at b2
  refine yk_join (3 * p + 1) (by omega) _ _ a1' b1 _ (nI_1 _) _ (fun rc3 rw3 hb3 => ?_)
  refine yk_store (3 * p + 1) (by omega) _ hb3 (qk_jl a1'.1 b1.1) (fun _ => qk_jw a1'.2.1 b1.2.1) _ (nI_1 _) _ (fun rw4 st4 my4 s4 k4 => ?_)
  have a2'' : qk_set st4 my4 (3 * p + 2) v.2.2.1 := qk_set_k k4 (by show 3 * p + 2 ≠ 3 * p + 1; omega) a2'
  have b2' : qk_set st4 my4 (3 * p + 2 + 3) w.2.2.1 := qk_set_k k4 (by show 3 * p + 2 + 3 ≠ 3 * p + 1; omega) b2
  refine yk_join (3 * p + 2) (by omega) _ _ a2'' b2' _ (nI_add _ 2) _ (fun rc5 rw5 hb5 => ?_)
  refine yk_store (3 * p + 2) (by omega) _ hb5 (qk_jl a2''.1 b2'.1) (fun _ => qk_jw a2''.2.1 b2'.2.1) _ (nI_add _ 2) _ (fun rw6 st6 my6 s6 k6 => ?_)
  refine And.intro (pk_in p 20 (by omega)) (And.intro (pk_in (p + 1) 20 (by omega) (nI_1 p)) (And.intro (pk_in p 20 (by omega)) (nm_e (And.intro (pk_in (3 * p) 60 (by omega)) (nm_e ?_)))))
  rw [nI_clamp (show p < 2 ^ 31 by omega), nI_clamp (show 3 * p < 2 ^ 31 by omega), pk_cl (p + 1) (nI_1 p)]
  refine hp _ _ _ _ _ (qk_sl_none rfl ⟨?_, s6, ?_⟩) ⟨fun s hs => ?_, fun q hq => ?_⟩
  · exact qk_set_k k6 (by show 3 * p + 1 ≠ 3 * p + 2; omega) s4
  · intro f t hf ht
    rw [pk_us, b_or, Bool.or_eq_true, b3 f t hf ht, c2 p (by omega), a3 f t hf ht]
    exact Iff.rfl
  · have hs' : s < 3 * p := hs
    have g1 := k1 s ⟨by omega, by omega⟩
    have g2 := k2 s ⟨by omega, by omega⟩
    have g4 := k4 s (show s ≠ 3 * p + 1 by omega)
    have g6 := k6 s (show s ≠ 3 * p + 2 by omega)
    exact ⟨(pk_un (by omega)).trans (g6.1.trans (g4.1.trans (g2.1.trans g1.1))), fun k hk => (g6.2 k hk).trans ((g4.2 k hk).trans ((g2.2 k hk).trans (g1.2 k hk)))⟩
  · exact (pk_un (by omega)).trans ((c2 q (by omega)).trans (c1 q (by omega)))
theorem qi_alt_n1 {v w : qi_T} (h : v.1 = none) : qi_alt v w = qi_alt2 v w := by
  unfold qi_alt
  rw [h]
theorem qi_alt_n2 {v w : qi_T} (h : w.1 = none) : qi_alt v w = qi_alt2 v w := by
  unfold qi_alt
  rw [h]
  cases v.1 <;> rfl
theorem qi_alt_ss {v w : qi_T} {xs ys : List (List Nat)} (h : v.1 = some xs) (h' : w.1 = some ys) : qi_alt v w = if (qr_all [] (xs ++ ys)).length ≤ 8 then qi_known (qr_all [] (xs ++ ys)) else qi_alt2 v w := by
  unfold qi_alt
  rw [h, h']
theorem yk_alt (how : qy_own now yow) (p : Nat) (hp20 : p + 1 < 20) (v w : qi_T) (wv : qi_wf v) (ww : qi_wf w) (hv : qk_sl now yst ymy ycl p v) (hw : qk_sl now yst ymy ycl (p + 1) w) (x : Int32) (ex : x = nI p) (post : SY → Prop)
  (hp : ∀ (rc' : Int32) (rw' st' my' cl' : Nat → Int32), qk_sl now st' my' cl' p (qi_alt v w) → qk_kp p yst ymy ycl st' my' cl' → post (ywa, ydd, ynd, yns, yma, ynt, yno, rc', yfo, ybl, yod, ywr, yan, yab, yac, yad, yal, yabl, yacl, yacf, ynu, yfi, ypa, ysz, yli, ytx, yki, yf1, yf2, yo, yoa, yob, yit, yss, ymo, st', my', cl', rw', yow, yen, yhi, yla)) : wpY_alt post (ywa, ydd, ynd, yns, yma, ynt, yno, yrc, yfo, ybl, yod, ywr, yan, yab, yac, yad, yal, yabl, yacl, yacf, ynu, yfi, ypa, ysz, yli, ytx, yki, yf1, yf2, yo, yoa, yob, yit, yss, ymo, yst, ymy, ycl, yrw, yow, yen, yhi, yla) x := by
  subst ex
  unfold wpY_alt
  refine nm_r (qk_3 p) ?_
  refine yk_isk p (by omega) v hv _ rfl _ (fun nv => br_t rfl ?_) (fun xs ev => br_f (by decide) ?_)
  · rw [qi_alt_n1 nv] at hp
    unfold wY_alt_27
    refine yk_isk p (by omega) v hv _ rfl _ (fun nv => br_t rfl ?_) (fun xs ev => by rw [nv] at ev; exact nomatch ev)
    exact yk_alt60 how p hp20 v w wv ww hv hw post hp
  · refine yk_isk (p + 1) hp20 w hw _ (nI_1 p) _ (fun nw => br_t rfl ?_) (fun ys ew => br_f (by decide) ?_)
    · rw [qi_alt_n2 nw] at hp
      unfold wY_alt_27
      refine yk_isk p (by omega) v hv _ rfl _ (fun nv => by rw [ev] at nv; exact nomatch nv) (fun _ _ => br_f (by decide) ?_)
      refine yk_isk (p + 1) hp20 w hw _ (nI_1 p) _ (fun nw => br_t rfl ?_) (fun _ ew => by rw [nw] at ew; exact nomatch ew)
      exact yk_alt60 how p hp20 v w wv ww hv hw post hp
    · rw [qi_alt_ss ev ew] at hp
      have hx := hv.1 xs ev
      have hy := hw.1 ys ew
      rw [show 3 * (p + 1) = 3 * p + 3 by omega] at hy
      refine yk_join (3 * p) (by omega) xs ys hx hy _ rfl _ (fun rc1 rw1 hb1 => ?_)
      have hrc := hb1.2.1
      subst hrc
      unfold wY_alt_27
      refine yk_isk p (by omega) v hv _ rfl _ (fun nv => by rw [ev] at nv; exact nomatch nv) (fun _ _ => br_f (by decide) ?_)
      refine yk_isk (p + 1) hp20 w hw _ (nI_1 p) _ (fun nw => by rw [ew] at nw; exact nomatch nw) (fun _ _ => br_f (by decide) ?_)
      have hl64 := qk_jl hx.1 hy.1
      refine pk_lt 8 (qr_all [] (xs ++ ys)).length (fun hlt => ?_) (fun hle => ?_)
      · rw [if_neg (by omega)] at hp
        exact yk_alt60 how p hp20 v w wv ww hv hw post hp
      · rw [if_pos hle] at hp
        refine yk_store (3 * p) (by omega) _ hb1 hl64 (fun _ => qk_jw hx.2.1 hy.2.1) _ rfl _ (fun rw2 st2 my2 s2 k2 => hp _ _ _ _ _ ⟨fun ws e => ?_, fun e => nomatch e⟩ ⟨fun s hs => k2 s (by have : s < 3 * p := hs; omega), fun _ _ => rfl⟩)
        cases e
        have el : qr_lim (qr_all [] (xs ++ ys)) = qr_all [] (xs ++ ys) := if_pos hle
        rw [el] at s2
        exact s2
/-! a seq -/
theorem yk_short1 (l : List (List Nat)) (hb : qk_buf yrw yrc l) (hl : l.length ≤ 64) (post : Int32 → Prop) (h1 : l.length ≤ 8 → (∀ r, r ∈ l → r.length ≤ 5) → post 1) (h0 : ¬ (l.length ≤ 8 ∧ ∀ r, r ∈ l → r.length ≤ 5) → post 0) :
  ∀ (N i : Nat), i ≤ l.length → l.length - i < N → (∀ k r, k < i → l[k]? = some r → r.length ≤ 5) → wY_isShort_2 post ywa ydd ynd yns yma ynt yno yrc yfo ybl yod ywr yan yab yac yad yal yabl yacl yacf ynu yfi ypa ysz yli ytx yki yf1 yf2 yo yoa yob yit yss ymo yst ymy ycl yrw yow yen yhi yla N (nI i) := by
  obtain ⟨b1, b2, b3⟩ := hb
  subst b2
  intro N
  induction N with
  | zero => intro i h2 h3; omega
  | succ N ih =>
    intro i h2 h3 h4
    refine pk_le l.length i (fun hle => pk_lt 8 l.length (fun hlt => h0 (fun h => by omega)) (fun h8 => h1 h8 (fun r hr => ?_))) (fun hlt => ⟨pk_in i 64 (by omega), ?_⟩)
    · obtain ⟨k, hk⟩ := List.getElem?_of_mem hr
      exact h4 k r (by have := qr_get_lt hk; omega) hk
    · have hg := List.getElem?_eq_getElem hlt
      have hw := b1 _ (List.getElem_mem hlt)
      have hw1 := hw.1
      rw [nI_clamp (by omega), b3 i _ hg]
      refine yk_len hw _ (pk_le l[i].length 5 (fun hle => nm_r (nI_1 i) (ih (i + 1) (by omega) (by omega) (fun k r hk hr => ?_))) (fun hgt => h0 (fun h => ?_)))
      · by_cases z : k = i
        · subst z
          rw [hg] at hr
          cases hr
          exact hle
        · exact h4 k r (by omega) hr
      · have := h.2 l[i] (List.getElem_mem hlt)
        omega
theorem yk_short (l : List (List Nat)) (hb : qk_buf yrw yrc l) (hl : l.length ≤ 64) (post : Int32 → Prop) (h1 : l.length ≤ 8 → (∀ r, r ∈ l → r.length ≤ 5) → post 1) (h0 : ¬ (l.length ≤ 8 ∧ ∀ r, r ∈ l → r.length ≤ 5) → post 0) : wpY_isShort post (ywa, ydd, ynd, yns, yma, ynt, yno, yrc, yfo, ybl, yod, ywr, yan, yab, yac, yad, yal, yabl, yacl, yacf, ynu, yfi, ypa, ysz, yli, ytx, yki, yf1, yf2, yo, yoa, yob, yit, yss, ymo, yst, ymy, ycl, yrw, yow, yen, yhi, yla) :=
  ⟨l.length + 1, yk_short1 l hb hl post h1 h0 (l.length + 1) 0 (by omega) (by omega) (fun k r hk => absurd hk (by omega))⟩
theorem qk_pl {a b : List (List Nat)} (c : Nat) (ha : a.length ≤ 8) (hb : b.length ≤ 8) : (qr_all [] ((qr_pr a b).map (qr_cut c))).length ≤ 64 := by
  have := qr_len_all1 ((qr_pr a b).map (qr_cut c)) []
  rw [List.length_map, qr_pr_len, List.length_nil] at this
  have := Nat.mul_le_mul ha hb
  omega
theorem qk_cut_2 {c : Nat} (hc : c = 1 ∨ c = 2) (r : List Nat) : (qr_cut c r).length ≤ 2 := by
  rcases hc with rfl | rfl
  · exact qr_hd_len r
  · exact qr_tl_len r
theorem qk_pw {a b : List (List Nat)} {c : Nat} (hc : c = 1 ∨ c = 2) (ha : ∀ r, r ∈ a → qk_w 5 r) (hb : ∀ r, r ∈ b → qk_w 5 r) : ∀ r, r ∈ qr_all [] ((qr_pr a b).map (qr_cut c)) → qk_w 5 r := by
  apply qk_w_all
  intro r hr
  obtain ⟨s, hs, rfl⟩ := List.mem_map.mp hr
  obtain ⟨x, hx, y, hy, rfl⟩ := qr_mem_pr.mp hs
  have := qk_w_cut (c := c) (qk_w_app (ha x hx) (hb y hy))
  exact ⟨by have := qk_cut_2 hc (x ++ y); omega, this.2⟩
/-- behind the claim and the heads: the tails -/
theorem yk_seq124 (p : Nat) (hp20 : p + 1 < 20) (v w : qi_T) (ww : qi_wf w) (x4 : Int32) (h40 : w.1 = none → x4 = 0) (h41 : ∀ ys, w.1 = some ys → x4 = 1) (ht : qk_set yst ymy (3 * p + 2) v.2.2.1) (htw : qk_set yst ymy (3 * p + 5) w.2.2.1) (hyw : ∀ ys, w.1 = some ys → qk_set yst ymy (3 * p + 3) ys) (post : SY → Prop)
  (hp : ∀ (rc' : Int32) (rw' st' my' : Nat → Int32), qk_set st' my' (3 * p + 2) (qi_ty v w) → qk_k (fun s => s ≠ 3 * p + 2) yst ymy st' my' → post (ywa, ydd, ynd, yns, yma, ynt, yno, rc', yfo, ybl, yod, ywr, yan, yab, yac, yad, yal, yabl, yacl, yacf, ynu, yfi, ypa, ysz, yli, ytx, yki, yf1, yf2, yo, yoa, yob, yit, yss, ymo, st', upd my' (3 * p) (-1), ycl, rw', yow, yen, yhi, yla)) : wY_seq_124 post (nI (3 * p)) x4 ywa ydd ynd yns yma ynt yno yrc yfo ybl yod ywr yan yab yac yad yal yabl yacl yacf ynu yfi ypa ysz yli ytx yki yf1 yf2 yo yoa yob yit yss ymo yst ymy ycl yrw yow yen yhi yla := by
  have fin : ∀ (l : List (List Nat)) (rc' : Int32) (rw' : Nat → Int32), qk_buf rw' rc' l → l.length ≤ 64 → (∀ r, r ∈ l → qk_w 5 r) → qr_lim l = qi_ty v w → wY_seq_156 post (nI (3 * p)) ywa ydd ynd yns yma ynt yno rc' yfo ybl yod ywr yan yab yac yad yal yabl yacl yacf ynu yfi ypa ysz yli ytx yki yf1 yf2 yo yoa yob yit yss ymo yst ymy ycl rw' yow yen yhi yla := by
    intro l rc' rw' hb hl h5 el
    unfold wY_seq_156
    refine yk_store (3 * p + 2) (by omega) l hb hl (fun _ => h5) _ (nI_add _ 2) _ (fun rw2 st2 my2 s2 k2 => And.intro (pk_in (3 * p) 60 (by omega)) (nm_e ?_))
    rw [nI_clamp (by omega)]
    rw [el] at s2
    exact hp _ _ _ _ s2 k2
  unfold wY_seq_124
  match hw : w.1 with
  | none =>
    refine br_t (h40 hw) ?_
    have l8 := htw.1
    refine yk_gather (3 * p + 5) 0 (by omega) (by omega) _ [] htw (qk_buf0 yrw) (by simp; omega) _ _ (nI_add _ 5) rfl _ (fun rc1 rw1 hb1 => ?_)
    have hn := (qi_wf_t ww).1
    rw [qk_cut0, qr_all_self hn] at hb1
    refine fin _ rc1 rw1 hb1 (by omega) htw.2.1 ?_
    have e1 : qr_lim w.2.2.1 = w.2.2.1 := if_pos l8
    rw [e1]
    unfold qi_ty
    rw [hw]
  | some ys =>
    refine br_f (by rw [h41 ys hw]; decide) ?_
    have hy := hyw ys hw
    refine yk_product (3 * p + 2) (3 * p + 3) 2 (by omega) (by omega) (by omega) _ ys ht hy _ _ _ (nI_add _ 2) (nI_add _ 3) rfl _ (fun rc1 rw1 hb1 => ?_)
    refine fin _ rc1 rw1 hb1 (qk_pl 2 ht.1 hy.1) (qk_pw (Or.inr rfl) ht.2.1 hy.2.1) ?_
    unfold qi_ty
    rw [hw]
    rfl
theorem yk_seq59 (how : qy_own now yow) (p : Nat) (hp20 : p + 1 < 20) (v w : qi_T) (wv : qi_wf v) (ww : qi_wf w) (hv : qk_sl now yst ymy ycl p v) (hw : qk_sl now yst ymy ycl (p + 1) w) (x3 x4 : Int32) (h30 : v.1 = none → x3 = 0) (h31 : ∀ xs, v.1 = some xs → x3 = 1) (h40 : w.1 = none → x4 = 0) (h41 : ∀ ys, w.1 = some ys → x4 = 1) (post : SY → Prop)
  (hp : ∀ (rc' : Int32) (rw' st' my' cl' : Nat → Int32), qk_sl now st' my' cl' p (qi_seq2 v w) → qk_kp p yst ymy ycl st' my' cl' → post (ywa, ydd, ynd, yns, yma, ynt, yno, rc', yfo, ybl, yod, ywr, yan, yab, yac, yad, yal, yabl, yacl, yacf, ynu, yfi, ypa, ysz, yli, ytx, yki, yf1, yf2, yo, yoa, yob, yit, yss, ymo, st', my', cl', rw', yow, yen, yhi, yla)) : wY_seq_59 post (nI p) (nI (3 * p)) x3 x4 ywa ydd ynd yns yma ynt yno yrc yfo ybl yod ywr yan yab yac yad yal yabl yacl yacf ynu yfi ypa ysz yli ytx yki yf1 yf2 yo yoa yob yit yss ymo yst ymy ycl yrw yow yen yhi yla := by
  unfold wY_seq_59
  refine yk_loosen how p (by omega) v wv hv _ rfl _ (fun rc1 rw1 st1 my1 cl1 h1 k1 c1 => ?_)
  have hw1 : qk_sl now st1 my1 cl1 (p + 1) w := by
    refine ⟨fun ws e => qk_set_k k1 ⟨by omega, by omega⟩ (hw.1 ws e), fun e => ?_⟩
    obtain ⟨a, b, c, d⟩ := hw.2 e
    refine ⟨(k1 _ ⟨by omega, by omega⟩).1.trans a, qk_set_k k1 ⟨by omega, by omega⟩ b, qk_set_k k1 ⟨by omega, by omega⟩ c, ?_⟩
    rw [c1 (p + 1) (by omega)]
    exact d
  refine yk_loosen how (p + 1) hp20 w ww hw1 _ (nI_1 p) _ (fun rc2 rw2 st2 my2 cl2 h2 k2 c2 => ?_)
  obtain ⟨a1, a2, a3⟩ := h1
  obtain ⟨b1, b2, b3⟩ := h2
  have a1' : qk_set st2 my2 (3 * p + 1) v.2.1 := qk_set_k k2 ⟨by omega, by omega⟩ a1
  have a2' : qk_set st2 my2 (3 * p + 2) v.2.2.1 := qk_set_k k2 ⟨by omega, by omega⟩ a2
  rw [show 3 * (p + 1) + 1 = 3 * p + 4 by omega] at b1
  rw [show 3 * (p + 1) + 2 = 3 * p + 5 by omega] at b2
  have xw : ∀ xs, v.1 = some xs → qk_set st2 my2 (3 * p) xs := fun xs e => qk_set_k k2 ⟨by omega, by omega⟩ (qk_set_k k1 ⟨by omega, by omega⟩ (hv.1 xs e))
  have yw : ∀ ys, w.1 = some ys → qk_set st2 my2 (3 * p + 3) ys := fun ys e => qk_set_k k2 ⟨by omega, by omega⟩ (by have := hw1.1 ys e; rw [show 3 * (p + 1) = 3 * p + 3 by omega] at this; exact this)
  refine yk_product (3 * p + 2) (3 * p + 4) 0 (by omega) (by omega) (by omega) _ _ a2' b1 _ _ _ (nI_add _ 2) (nI_add _ 4) rfl _ (fun rc3 rw3 hb3 => ?_)
  refine And.intro (pk_in p 20 (by omega)) (And.intro (pk_in (p + 1) 20 (by omega) (nI_1 p)) ?_)
  refine yk_some how _ hb3 (qk_pl 0 a2'.1 b1.1) _ (fun x hx => And.intro (pk_in p 20 (by omega)) (nm_e ?_))
  rw [nI_clamp (show p < 2 ^ 31 by omega), pk_cl (p + 1) (nI_1 p)]
  generalize hcl : upd cl2 p (cl2 p &&& (cl2 (p + 1) &&& x)) = cl4
  have c4 : qk_cl now (cl4 p) (qi_seq2 v w).2.2.2 := by
    intro f t hf ht
    rw [← hcl, pk_us, b_and, b_and, Bool.and_eq_true, Bool.and_eq_true, c2 p (by omega), a3 f t hf ht, b3 f t hf ht, hx f t hf ht]
    show _ ∧ _ ∧ qr_some _ _ ↔ _ ∧ _ ∧ qr_some _ _
    rw [qk_cut0]
    have em : qr_some (qr_all [] (qr_pr v.2.2.1 w.2.1)) (qt_T t) ↔ qr_some (qr_pr v.2.2.1 w.2.1) (qt_T t) := by
      constructor
      · rintro ⟨r, h5, h6⟩
        exact ⟨r, (qr_mem_all.mp h5).elim (fun z => absurd z (by simp)) id, h6⟩
      · rintro ⟨r, h5, h6⟩
        exact ⟨r, qr_mem_all.mpr (Or.inr h5), h6⟩
    rw [em]
  have k4 : ∀ q, q < p → cl4 q = ycl q := fun q hq => by
    rw [← hcl]
    exact (pk_un (by omega)).trans ((c2 q (by omega)).trans (c1 q (by omega)))
  -- the heads
  have fin : ∀ (rc' : Int32) (rw' st' my' : Nat → Int32), qk_set st' my' (3 * p + 1) (qi_hx v w) → qk_k (fun s => s ≠ 3 * p + 1) st2 my2 st' my' → wY_seq_124 post (nI (3 * p)) x4 ywa ydd ynd yns yma ynt yno rc' yfo ybl yod ywr yan yab yac yad yal yabl yacl yacf ynu yfi ypa ysz yli ytx yki yf1 yf2 yo yoa yob yit yss ymo st' my' cl4 rw' yow yen yhi yla := by
    intro rc' rw' st' my' hh hk
    refine yk_seq124 p hp20 v w ww x4 h40 h41 (qk_set_k hk (by show 3 * p + 2 ≠ 3 * p + 1; omega) a2') (qk_set_k hk (by show 3 * p + 5 ≠ 3 * p + 1; omega) b2) (fun ys e => qk_set_k hk (by show 3 * p + 3 ≠ 3 * p + 1; omega) (yw ys e)) post (fun rc5 rw5 st5 my5 t5 k5 => ?_)
    refine hp _ _ _ _ _ (qk_sl_none (v := qi_seq2 v w) rfl ⟨qk_set_k k5 (by show 3 * p + 1 ≠ 3 * p + 2; omega) hh, t5, c4⟩) ⟨fun s hs => ?_, k4⟩
    have hs' : s < 3 * p := hs
    have g1 := k1 s ⟨by omega, by omega⟩
    have g2 := k2 s ⟨by omega, by omega⟩
    have g4 := hk s (show s ≠ 3 * p + 1 by omega)
    have g6 := k5 s (show s ≠ 3 * p + 2 by omega)
    exact ⟨(pk_un (by omega)).trans (g6.1.trans (g4.1.trans (g2.1.trans g1.1))), fun k hk => (g6.2 k hk).trans ((g4.2 k hk).trans ((g2.2 k hk).trans (g1.2 k hk)))⟩
  match ev : v.1 with
  | none =>
    refine br_t (h30 ev) (fin _ _ _ _ ?_ (qk_k_rf _ _ _))
    unfold qi_hx
    rw [ev]
    exact a1'
  | some xs =>
    refine br_f (by rw [h31 xs ev]; decide) ?_
    have hx' := xw xs ev
    refine yk_product (3 * p) (3 * p + 4) 1 (by omega) (by omega) (by omega) xs _ hx' b1 _ _ _ rfl (nI_add _ 4) rfl _ (fun rc5 rw5 hb5 => ?_)
    refine yk_store (3 * p + 1) (by omega) _ hb5 (qk_pl 1 hx'.1 b1.1) (fun _ => qk_pw (Or.inl rfl) hx'.2.1 b1.2.1) _ (nI_1 _) _ (fun rw6 st6 my6 s6 k6 => fin _ _ _ _ ?_ k6)
    unfold qi_hx
    rw [ev]
    exact s6
theorem qi_seq_n1 {v w : qi_T} (h : v.1 = none) : qi_seq v w = qi_seq2 v w := by
  unfold qi_seq
  rw [h]
theorem qi_seq_n2 {v w : qi_T} (h : w.1 = none) : qi_seq v w = qi_seq2 v w := by
  unfold qi_seq
  rw [h]
  cases v.1 <;> rfl
theorem qi_seq_ss {v w : qi_T} {xs ys : List (List Nat)} (h : v.1 = some xs) (h' : w.1 = some ys) : qi_seq v w = if qi_sh xs ys = true then qi_known (qr_all [] (qr_pr xs ys)) else qi_seq2 v w := by
  unfold qi_seq
  rw [h, h']
theorem qk_sh (xs ys : List (List Nat)) : qi_sh xs ys = true ↔ (qr_all [] (qr_pr xs ys)).length ≤ 8 ∧ ∀ r, r ∈ qr_all [] (qr_pr xs ys) → r.length ≤ 5 := by
  unfold qi_sh
  rw [Bool.and_eq_true, decide_eq_true_eq, List.all_eq_true]
  constructor
  · rintro ⟨h1, h2⟩
    exact ⟨h1, fun r hr => of_decide_eq_true (h2 r ((qr_mem_all.mp hr).elim (fun z => absurd z (by simp)) id))⟩
  · rintro ⟨h1, h2⟩
    exact ⟨h1, fun r hr => decide_eq_true (h2 r (qr_mem_all.mpr (Or.inr hr)))⟩
theorem yk_seq (how : qy_own now yow) (p : Nat) (hp20 : p + 1 < 20) (v w : qi_T) (wv : qi_wf v) (ww : qi_wf w) (hv : qk_sl now yst ymy ycl p v) (hw : qk_sl now yst ymy ycl (p + 1) w) (x : Int32) (ex : x = nI p) (post : SY → Prop)
  (hp : ∀ (rc' : Int32) (rw' st' my' cl' : Nat → Int32), qk_sl now st' my' cl' p (qi_seq v w) → qk_kp p yst ymy ycl st' my' cl' → post (ywa, ydd, ynd, yns, yma, ynt, yno, rc', yfo, ybl, yod, ywr, yan, yab, yac, yad, yal, yabl, yacl, yacf, ynu, yfi, ypa, ysz, yli, ytx, yki, yf1, yf2, yo, yoa, yob, yit, yss, ymo, st', my', cl', rw', yow, yen, yhi, yla)) : wpY_seq post (ywa, ydd, ynd, yns, yma, ynt, yno, yrc, yfo, ybl, yod, ywr, yan, yab, yac, yad, yal, yabl, yacl, yacf, ynu, yfi, ypa, ysz, yli, ytx, yki, yf1, yf2, yo, yoa, yob, yit, yss, ymo, yst, ymy, ycl, yrw, yow, yen, yhi, yla) x := by
  subst ex
  unfold wpY_seq
  refine nm_r (qk_3 p) ?_
  refine yk_isk p (by omega) v hv _ rfl _ (fun nv => ?_) (fun xs ev => ?_)
  · rw [qi_seq_n1 nv] at hp
    refine yk_isk (p + 1) hp20 w hw _ (nI_1 p) _ (fun nw => br_t rfl (br_t rfl ?_)) (fun ys ew => br_t rfl (br_t rfl ?_))
    · exact yk_seq59 how p hp20 v w wv ww hv hw 0 0 (fun _ => rfl) (fun _ e => by rw [nv] at e; exact nomatch e) (fun _ => rfl) (fun _ e => by rw [nw] at e; exact nomatch e) post hp
    · exact yk_seq59 how p hp20 v w wv ww hv hw 0 1 (fun _ => rfl) (fun _ e => by rw [nv] at e; exact nomatch e) (fun e => by rw [ew] at e; exact nomatch e) (fun _ _ => rfl) post hp
  · refine yk_isk (p + 1) hp20 w hw _ (nI_1 p) _ (fun nw => br_f (by decide) (br_t rfl (br_f (by decide) (br_t rfl ?_)))) (fun ys ew => br_f (by decide) (br_f (by decide) ?_))
    · rw [qi_seq_n2 nw] at hp
      exact yk_seq59 how p hp20 v w wv ww hv hw 1 0 (fun e => by rw [ev] at e; exact nomatch e) (fun _ _ => rfl) (fun _ => rfl) (fun _ e => by rw [nw] at e; exact nomatch e) post hp
    · rw [qi_seq_ss ev ew] at hp
      have hx := hv.1 xs ev
      have hy := hw.1 ys ew
      rw [show 3 * (p + 1) = 3 * p + 3 by omega] at hy
      refine yk_product (3 * p) (3 * p + 3) 0 (by omega) (by omega) (by omega) xs ys hx hy _ _ _ rfl (nI_add _ 3) rfl _ (fun rc1 rw1 hb1 => br_f (by decide) (br_f (by decide) ?_))
      rw [qk_cut0] at hb1
      have hl64 := qk_pl 0 hx.1 hy.1
      rw [qk_cut0] at hl64
      refine yk_short _ hb1 hl64 _ (fun h8 h5 => br_f (by decide) ?_) (fun hn => br_t rfl ?_)
      · rw [if_pos ((qk_sh xs ys).mpr ⟨h8, h5⟩)] at hp
        refine yk_store (3 * p) (by omega) _ hb1 hl64 (fun _ r hr => ⟨h5 r hr, (hb1.1 r hr).2⟩) _ rfl _ (fun rw2 st2 my2 s2 k2 => hp _ _ _ _ _ ⟨fun ws e => ?_, fun e => nomatch e⟩ ⟨fun s hs => k2 s (by have : s < 3 * p := hs; omega), fun _ _ => rfl⟩)
        cases e
        have el : qr_lim (qr_all [] (qr_pr xs ys)) = qr_all [] (qr_pr xs ys) := if_pos h8
        rw [el] at s2
        exact s2
      · rw [if_neg (fun h => hn ((qk_sh xs ys).mp h))] at hp
        exact yk_seq59 how p hp20 v w wv ww hv hw 1 1 (fun e => by rw [ev] at e; exact nomatch e) (fun _ _ => rfl) (fun e => by rw [ew] at e; exact nomatch e) (fun _ _ => rfl) post hp
end
