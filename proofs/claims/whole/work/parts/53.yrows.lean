/-! the reference: rows are counted, cut, joined, added, gathered, stored -/
def qk_w (m : Nat) (r : List Nat) : Prop := r.length ≤ m ∧ ∀ x, x ∈ r → x < 6
theorem qk_w_up {m m' : Nat} {r : List Nat} (h : qk_w m r) (hm : m ≤ m') : qk_w m' r := ⟨Nat.le_trans h.1 hm, h.2⟩
theorem qk_w_cut {m c : Nat} {r : List Nat} (h : qk_w m r) : qk_w m (qr_cut c r) := by
  unfold qr_cut
  split
  · exact h
  · split
    · refine ⟨?_, fun x hx => h.2 x (qr_hd_in hx)⟩
      have : (qr_hd r).length ≤ r.length := by unfold qr_hd; rw [List.length_take]; omega
      exact Nat.le_trans this h.1
    · refine ⟨?_, fun x hx => h.2 x (qr_tl_in hx)⟩
      have : (qr_tl r).length ≤ r.length := by unfold qr_tl; rw [List.length_drop]; omega
      exact Nat.le_trans this h.1
theorem qk_w_app {m m' : Nat} {a b : List Nat} (ha : qk_w m a) (hb : qk_w m' b) : qk_w (m + m') (a ++ b) := by
  refine ⟨by rw [List.length_append]; have := ha.1; have := hb.1; omega, fun x hx => ?_⟩
  rcases List.mem_append.mp hx with z | z
  · exact ha.2 x z
  · exact hb.2 x z
theorem qk_i {r : List Nat} (h : qk_w 10 r) : qc_y r < 120932352 := qc_y_lt 10 r h.2 h.1
theorem qk_ii {r s : List Nat} (hr : qk_w 10 r) (hs : qk_w 10 s) : nI (qc_y r) = nI (qc_y s) ↔ r = s := by
  have a := qk_i hr
  have b := qk_i hs
  rw [nI_eq (by omega) (by omega)]
  exact ⟨fun h => qc_y_inj hr.2 hs.2 h, fun h => by rw [h]⟩
theorem qk_pos (r : List Nat) : 1 ≤ qc_y r := by
  have : 0 < 6 ^ r.length := Nat.pow_pos (by omega)
  unfold qc_y
  omega
theorem qk_le1 {r : List Nat} (h : ∀ x, x ∈ r → x < 6) : qc_y r ≤ 1 ↔ r = [] := by
  constructor
  · intro z
    have := (qc_y_big r h 1)
    match r, this with
    | [], _ => rfl
    | x :: r, this =>
      have := this.mpr (by simp)
      omega
  · rintro rfl
    exact Nat.le_refl _
def qk_buf (rows : Nat → Int32) (rc : Int32) (l : List (List Nat)) : Prop := (∀ r, r ∈ l → qk_w 10 r) ∧ rc = nI l.length ∧ ∀ k r, l[k]? = some r → rows k = nI (qc_y r)
def qk_set (sets many : Nat → Int32) (s : Nat) (l : List (List Nat)) : Prop := l.length ≤ 8 ∧ (∀ r, r ∈ l → qk_w 5 r) ∧ many s = nI l.length ∧ ∀ k r, l[k]? = some r → sets (8 * s + k) = nI (qc_y r)
/-- the sets of K are kept -/
def qk_k (K : Nat → Prop) (st my st' my' : Nat → Int32) : Prop := ∀ s, K s → my' s = my s ∧ ∀ k, k < 8 → st' (8 * s + k) = st (8 * s + k)
theorem qk_k_rf (K : Nat → Prop) (st my : Nat → Int32) : qk_k K st my st my := fun _ _ => ⟨rfl, fun _ _ => rfl⟩
theorem qk_k_tr {K K1 K2 : Nat → Prop} {st my st' my' st'' my'' : Nat → Int32} (h1 : qk_k K1 st my st' my') (h2 : qk_k K2 st' my' st'' my'') (hK : ∀ s, K s → K1 s ∧ K2 s) : qk_k K st my st'' my'' :=
  fun s hs => ⟨(h2 s (hK s hs).2).1.trans (h1 s (hK s hs).1).1, fun k hk => ((h2 s (hK s hs).2).2 k hk).trans ((h1 s (hK s hs).1).2 k hk)⟩
theorem qk_set_k {K : Nat → Prop} {st my st' my' : Nat → Int32} (h : qk_k K st my st' my') {s : Nat} {l : List (List Nat)} (hs : K s) (hl : qk_set st my s l) : qk_set st' my' s l := by
  obtain ⟨a, b, c, d⟩ := hl
  obtain ⟨e1, e2⟩ := h s hs
  refine ⟨a, b, e1.trans c, fun k r hk => ?_⟩
  have := qr_get_lt hk
  rw [e2 k (by omega)]
  exact d k r hk
theorem yk_len1 (post : Int32 → Prop) : ∀ (N j : Nat) (r : List Nat), r.length < N → qk_w 10 r → post (nI (j + r.length)) → wY_lettersOf_4 post N (nI j) (nI (qc_y r)) := by
  intro N
  induction N with
  | zero => intro j r h1; omega
  | succ N ih =>
    intro j r h1 h2 h3
    have hi := qk_i h2
    refine pk_le (qc_y r) 1 (fun hle => ?_) (fun hlt => nm_r (nI_1 j) ⟨by decide, nm_r (e' := nI (qc_y r / 6)) (pk_div (d := 6) (by omega) (by omega) (by omega)) ?_⟩)
    · have := (qk_le1 h2.2).mp hle
      subst this
      exact h3
    · have hl : 1 ≤ r.length := by
        match r, hlt with
        | [], h => exact absurd h (by decide)
        | _ :: _, _ => simp
      have e := qc_y_take r h2.2 1 hl
      rw [Nat.pow_one] at e
      rw [e]
      have e3 : (r.take (r.length - 1)).length = r.length - 1 := by rw [List.length_take]; omega
      refine ih (j + 1) (r.take (r.length - 1)) (by omega) ⟨by have := h2.1; omega, fun x hx => h2.2 x (List.mem_of_mem_take hx)⟩ ?_
      rw [e3, show j + 1 + (r.length - 1) = j + r.length by omega]
      exact h3
theorem yk_len {r : List Nat} (h : qk_w 10 r) (post : Int32 → Prop) (hp : post (nI r.length)) : wpY_lettersOf post (nI (qc_y r)) :=
  ⟨r.length + 1, yk_len1 post _ 0 r (by omega) h (by rw [Nat.zero_add]; exact hp)⟩
theorem yk_row1 (a b : Int32) (n : Nat) (hn : n ≤ 10) (post : Int32 → Prop) (hp : post (a * nI (6 ^ n) + b - nI (6 ^ n))) : ∀ (N i : Nat), i ≤ n → n - i < N → wY_row_10 post a b (nI n) N (nI (6 ^ i)) (nI i) := by
  intro N
  induction N with
  | zero => intro i h1 h2; omega
  | succ N ih =>
    intro i h1 h2
    refine pk_le n i (fun hle => ?_) (fun hlt => nm_r (e' := nI (6 ^ (i + 1))) (by rw [Nat.pow_succ]; exact pk_mul _ 6) (nm_r (nI_1 i) (ih (i + 1) (by omega) (by omega))))
    have : i = n := by omega
    subst this
    exact hp
theorem yk_row {a b : List Nat} (ha : qk_w 5 a) (hb : qk_w 5 b) (post : Int32 → Prop) (hp : post (nI (qc_y (a ++ b)))) : wpY_row post (nI (qc_y a)) (nI (qc_y b)) := by
  unfold wpY_row
  refine yk_len (qk_w_up hb (by omega)) _ ⟨b.length + 1, ?_⟩
  refine yk_row1 _ _ b.length (by have := hb.1; omega) post ?_ (b.length + 1) 0 (by omega) (by omega)
  have e : nI (qc_y a) * nI (6 ^ b.length) + nI (qc_y b) - nI (6 ^ b.length) = nI (qc_y (a ++ b)) := by
    rw [pk_mul, nI_add, pk_sub (by have := (qc_y_rng b hb.2).1; omega), qc_y_app]
    congr 1
    unfold qc_y
    omega
  rw [e]
  exact hp
theorem yk_cut1 (post : Int32 → Prop) : ∀ (N : Nat) (r : List Nat), r.length < N → qk_w 10 r → post (nI (qc_y (qr_hd r))) → wY_cut_26 post 1 N (nI (qc_y r)) := by
  intro N
  induction N with
  | zero => intro r h1; omega
  | succ N ih =>
    intro r h1 h2 h3
    have hi := qk_i h2
    have hb := qc_y_big r h2.2 3
    rw [show (6 : Nat) ^ 3 = 216 by decide] at hb
    refine br_t rfl (pk_lt (qc_y r) 216 (fun hle => ?_) (fun hlt => ⟨by decide, nm_r (e' := nI (qc_y r / 6)) (pk_div (d := 6) (by omega) (by omega) (by omega)) ?_⟩))
    · have : r.length ≤ 2 := by
        rcases Nat.lt_or_ge r.length 3 with z | z
        · omega
        · have := hb.mpr z; omega
      rw [qc_hd_id this] at h3
      exact h3
    · have hl : 3 ≤ r.length := hb.mp hlt
      have e := qc_y_take r h2.2 1 (by omega)
      rw [Nat.pow_one] at e
      rw [e]
      have e3 : (r.take (r.length - 1)).length = r.length - 1 := by rw [List.length_take]; omega
      refine ih (r.take (r.length - 1)) (by omega) ⟨by have := h2.1; omega, fun x hx => h2.2 x (List.mem_of_mem_take hx)⟩ ?_
      have e4 : qr_hd (r.take (r.length - 1)) = qr_hd r := by
        unfold qr_hd
        rw [List.take_take, Nat.min_eq_left (by omega)]
      rw [e4]
      exact h3
theorem yk_cut {r : List Nat} (h : qk_w 10 r) (c : Nat) (hc : c ≤ 2) (post : Int32 → Prop) (hp : post (nI (qc_y (qr_cut c r)))) : wpY_cut post (nI (qc_y r)) (nI c) := by
  have hi := qk_i h
  have hb := qc_y_big r h.2 3
  rw [show (6 : Nat) ^ 3 = 216 by decide] at hb
  refine pk_eq c 2 (fun e2 => ?_) (fun e2 => ?_)
  · have e : qr_cut c r = qr_tl r := by unfold qr_cut; rw [if_neg (by omega), if_neg (by omega)]
    rw [e] at hp
    refine pk_le 216 (qc_y r) (fun hle => ⟨by decide, ?_⟩) (fun hlt => ?_)
    · have e3 : nI (qc_y r) - nI (qc_y r) / 36 * 36 = nI (qc_y r % 36) := pk_rem (by omega) (d := 36) (by omega) (by omega)
      rw [e3, show (36 : Int32) = nI 36 from rfl, nI_add, qc_y_tl r h.2 (by have := hb.mp hle; omega)]
      exact hp
    · have : r.length ≤ 2 := by
        rcases Nat.lt_or_ge r.length 3 with z | z
        · omega
        · have := hb.mpr z; omega
      rw [qc_tl_id this] at hp
      exact hp
  · rcases Nat.eq_zero_or_pos c with z | z
    · subst z
      refine ⟨1, br_f (by decide) ?_⟩
      have e : qr_cut 0 r = r := rfl
      rw [e] at hp
      exact hp
    · have e1 : c = 1 := by omega
      subst e1
      exact ⟨r.length + 1, yk_cut1 post _ r (by omega) h hp⟩
section
variable {ywa ydd ynd yns yma ynt yno yrc yfo ybl yod ywr : Int32} {yan yab yac yad yal yabl yacl yacf ynu yfi ypa ysz yli ytx yki yf1 yf2 yo yoa yob yit yss ymo yst ymy ycl yrw yow yhi yla : Nat → Int32} {yen : Nat → Int64}
theorem yk_add1 (l : List (List Nat)) (hb : qk_buf yrw yrc l) (hl : l.length < 64) (r : List Nat) (hr : qk_w 10 r) (post : SY → Prop) (hp : ∀ (rc' : Int32) (rw' : Nat → Int32), qk_buf rw' rc' (qr_add l r) → post (ywa, ydd, ynd, yns, yma, ynt, yno, rc', yfo, ybl, yod, ywr, yan, yab, yac, yad, yal, yabl, yacl, yacf, ynu, yfi, ypa, ysz, yli, ytx, yki, yf1, yf2, yo, yoa, yob, yit, yss, ymo, yst, ymy, ycl, rw', yow, yen, yhi, yla)) :
  ∀ (N i : Nat), i ≤ l.length → l.length - i < N → (∀ k, k < i → l[k]? ≠ some r) → wY_add_2 post (nI (qc_y r)) ywa ydd ynd yns yma ynt yno yrc yfo ybl yod ywr yan yab yac yad yal yabl yacl yacf ynu yfi ypa ysz yli ytx yki yf1 yf2 yo yoa yob yit yss ymo yst ymy ycl yrw yow yen yhi yla N (nI i) := by
  obtain ⟨b1, b2, b3⟩ := hb
  subst b2
  intro N
  induction N with
  | zero => intro i h1 h2; omega
  | succ N ih =>
    intro i h1 h2 h3
    refine pk_le l.length i (fun hle => ?_) (fun hlt => ⟨pk_in i 64 (by omega), ?_⟩)
    · have hn : r ∉ l := by
        intro z
        obtain ⟨k, hk⟩ := List.getElem?_of_mem z
        exact h3 k (by have := qr_get_lt hk; omega) hk
      refine nm_r (nI_1 l.length) ⟨pk_in l.length 64 hl, nm_e (hp _ _ ?_)⟩
      have e : qr_add l r = l ++ [r] := if_neg hn
      rw [e, nI_clamp (by omega)]
      refine ⟨fun s hs => ?_, by rw [List.length_append]; rfl, fun k s hk => ?_⟩
      · rcases List.mem_append.mp hs with z | z
        · exact b1 s z
        · rw [List.mem_singleton.mp z]; exact hr
      · by_cases z : k = l.length
        · subst z
          rw [List.getElem?_append_right (Nat.le_refl _), Nat.sub_self] at hk
          cases hk
          exact pk_us
        · have hk2 := qr_get_lt hk
          rw [List.length_append] at hk2
          have : k < l.length := by simp at hk2; omega
          rw [List.getElem?_append_left this] at hk
          exact (pk_un z).trans (b3 k s hk)
    · have hg := List.getElem?_eq_getElem hlt
      rw [nI_clamp (by omega), b3 i _ hg]
      refine ek_if (qk_ii (b1 _ (List.getElem_mem hlt)) hr) (fun e => ?_) (fun e => nm_r (nI_1 i) (ih (i + 1) (by omega) (by omega) (fun k hk => ?_)))
      · have := hp (nI l.length) yrw
        have e2 : qr_add l r = l := if_pos (e ▸ List.getElem_mem hlt)
        rw [e2] at this
        exact this ⟨b1, rfl, b3⟩
      · by_cases z : k = i
        · subst z
          rw [hg]
          exact fun w => e (Option.some.inj w)
        · exact h3 k (by omega)
theorem yk_add (l : List (List Nat)) (hb : qk_buf yrw yrc l) (hl : l.length < 64) (r : List Nat) (hr : qk_w 10 r) (x : Int32) (hx : x = nI (qc_y r)) (post : SY → Prop) (hp : ∀ (rc' : Int32) (rw' : Nat → Int32), qk_buf rw' rc' (qr_add l r) → post (ywa, ydd, ynd, yns, yma, ynt, yno, rc', yfo, ybl, yod, ywr, yan, yab, yac, yad, yal, yabl, yacl, yacf, ynu, yfi, ypa, ysz, yli, ytx, yki, yf1, yf2, yo, yoa, yob, yit, yss, ymo, yst, ymy, ycl, rw', yow, yen, yhi, yla)) : wpY_add post (ywa, ydd, ynd, yns, yma, ynt, yno, yrc, yfo, ybl, yod, ywr, yan, yab, yac, yad, yal, yabl, yacl, yacf, ynu, yfi, ypa, ysz, yli, ytx, yki, yf1, yf2, yo, yoa, yob, yit, yss, ymo, yst, ymy, ycl, yrw, yow, yen, yhi, yla) x := by
  subst hx
  exact ⟨l.length + 1, yk_add1 l hb hl r hr post hp (l.length + 1) 0 (by omega) (by omega) (fun k hk => absurd hk (by omega))⟩
theorem yk_ga1 (s c : Nat) (hs : s < 60) (hc : c ≤ 2) (w l : List (List Nat)) (hset : qk_set yst ymy s w) (hl : l.length + w.length ≤ 64) (post : SY → Prop) (hp : ∀ (rc' : Int32) (rw' : Nat → Int32), qk_buf rw' rc' (qr_all l (w.map (qr_cut c))) → post (ywa, ydd, ynd, yns, yma, ynt, yno, rc', yfo, ybl, yod, ywr, yan, yab, yac, yad, yal, yabl, yacl, yacf, ynu, yfi, ypa, ysz, yli, ytx, yki, yf1, yf2, yo, yoa, yob, yit, yss, ymo, yst, ymy, ycl, rw', yow, yen, yhi, yla)) :
  ∀ (N i : Nat) (rc' : Int32) (rw' : Nat → Int32), i ≤ w.length → w.length - i < N → qk_buf rw' rc' (qr_all l ((w.take i).map (qr_cut c))) → wY_gather_2 post (nI s) (nI c) N (nI i) ywa ydd ynd yns yma ynt yno rc' yfo ybl yod ywr yan yab yac yad yal yabl yacl yacf ynu yfi ypa ysz yli ytx yki yf1 yf2 yo yoa yob yit yss ymo yst ymy ycl rw' yow yen yhi yla := by
  obtain ⟨s1, s2, s3, s4⟩ := hset
  intro N
  induction N with
  | zero => intro i rc' rw' h1 h2; omega
  | succ N ih =>
    intro i rc' rw' h1 h2 h3
    refine ⟨pk_in s 60 hs, pk_le w.length i (fun hle => ?_) (fun hlt => ⟨pk_in (8 * s + i) 480 (by omega) (by rw [show (8 : Int32) = nI 8 from rfl, pk_mul, nI_add]), ?_⟩) (by rw [nI_clamp (by omega)]; exact s3) rfl⟩
    · rw [List.take_of_length_le hle] at h3
      exact hp rc' rw' h3
    · have hg := List.getElem?_eq_getElem hlt
      have hw := s2 _ (List.getElem_mem hlt)
      have ec : ((8 : Int32) * nI s + nI i).toNatClampNeg = 8 * s + i := pk_cl (8 * s + i) (by rw [show (8 : Int32) = nI 8 from rfl, pk_mul, nI_add])
      rw [ec, s4 i _ hg]
      refine yk_cut (qk_w_up hw (by omega)) c hc _ ?_
      have hlen : (qr_all l ((w.take i).map (qr_cut c))).length < 64 := by
        have := qr_len_all1 ((w.take i).map (qr_cut c)) l
        rw [List.length_map, List.length_take] at this
        omega
      refine yk_add _ h3 hlen _ (qk_w_cut (qk_w_up hw (by omega))) _ rfl _ (fun rc2 rw2 hb2 => nm_r (nI_1 i) (ih (i + 1) rc2 rw2 (by omega) (by omega) ?_))
      rw [List.take_succ_eq_append_getElem hlt, List.map_append, qr_all_app]
      exact hb2
theorem yk_gather (s c : Nat) (hs : s < 60) (hc : c ≤ 2) (w l : List (List Nat)) (hset : qk_set yst ymy s w) (hbuf : qk_buf yrw yrc l) (hl : l.length + w.length ≤ 64) (xs xc : Int32) (es : xs = nI s) (ec : xc = nI c) (post : SY → Prop) (hp : ∀ (rc' : Int32) (rw' : Nat → Int32), qk_buf rw' rc' (qr_all l (w.map (qr_cut c))) → post (ywa, ydd, ynd, yns, yma, ynt, yno, rc', yfo, ybl, yod, ywr, yan, yab, yac, yad, yal, yabl, yacl, yacf, ynu, yfi, ypa, ysz, yli, ytx, yki, yf1, yf2, yo, yoa, yob, yit, yss, ymo, yst, ymy, ycl, rw', yow, yen, yhi, yla)) : wpY_gather post (ywa, ydd, ynd, yns, yma, ynt, yno, yrc, yfo, ybl, yod, ywr, yan, yab, yac, yad, yal, yabl, yacl, yacf, ynu, yfi, ypa, ysz, yli, ytx, yki, yf1, yf2, yo, yoa, yob, yit, yss, ymo, yst, ymy, ycl, yrw, yow, yen, yhi, yla) xs xc := by
  subst es; subst ec
  exact ⟨w.length + 1, yk_ga1 s c hs hc w l hset hl post hp (w.length + 1) 0 yrc yrw (by omega) (by omega) hbuf⟩
theorem qk_buf0 (rw : Nat → Int32) : qk_buf rw 0 [] := ⟨(fun r hr => nomatch hr), rfl, (fun k r hk => nomatch hk)⟩
theorem yk_pr2 (s1 s2 c : Nat) (hs1 : s1 < 60) (hs2 : s2 < 60) (hc : c ≤ 2) (xs ys l : List (List Nat)) (h1 : qk_set yst ymy s1 xs) (h2 : qk_set yst ymy s2 ys) (i : Nat) (hi : i < xs.length) (hl : l.length + ys.length ≤ 64) (post : SY → Prop) (J : Int32 → Int32 → Int32 → Int32 → Int32 → Int32 → Int32 → Int32 → Int32 → Int32 → Int32 → Int32 → Int32 → (Nat → Int32) → (Nat → Int32) → (Nat → Int32) → (Nat → Int32) → (Nat → Int32) → (Nat → Int32) → (Nat → Int32) → (Nat → Int32) → (Nat → Int32) → (Nat → Int32) → (Nat → Int32) → (Nat → Int32) → (Nat → Int32) → (Nat → Int32) → (Nat → Int32) → (Nat → Int32) → (Nat → Int32) → (Nat → Int32) → (Nat → Int32) → (Nat → Int32) → (Nat → Int32) → (Nat → Int32) → (Nat → Int32) → (Nat → Int32) → (Nat → Int32) → (Nat → Int32) → (Nat → Int32) → (Nat → Int32) → (Nat → Int64) → (Nat → Int32) → (Nat → Int32) → Prop)
  (hp : ∀ (rc' : Int32) (rw' : Nat → Int32), qk_buf rw' rc' (qr_all l (ys.map (fun b => qr_cut c (xs[i] ++ b)))) → J (nI (i + 1)) ywa ydd ynd yns yma ynt yno rc' yfo ybl yod ywr yan yab yac yad yal yabl yacl yacf ynu yfi ypa ysz yli ytx yki yf1 yf2 yo yoa yob yit yss ymo yst ymy ycl rw' yow yen yhi yla) :
  ∀ (N j : Nat) (rc' : Int32) (rw' : Nat → Int32), j ≤ ys.length → ys.length - j < N → qk_buf rw' rc' (qr_all l ((ys.take j).map (fun b => qr_cut c (xs[i] ++ b)))) → wY_product_22 post J (nI s1) (nI s2) (nI c) (nI i) N (nI j) ywa ydd ynd yns yma ynt yno rc' yfo ybl yod ywr yan yab yac yad yal yabl yacl yacf ynu yfi ypa ysz yli ytx yki yf1 yf2 yo yoa yob yit yss ymo yst ymy ycl rw' yow yen yhi yla := by
  obtain ⟨a1, a2, a3, a4⟩ := h1
  obtain ⟨b1, b2, b3, b4⟩ := h2
  intro N
  induction N with
  | zero => intro j rc' rw' h1 h2; omega
  | succ N ih =>
    intro j rc' rw' g1 g2 g3
    have ei : ∀ a b : Nat, (8 : Int32) * nI a + nI b = nI (8 * a + b) := fun a b => by rw [show (8 : Int32) = nI 8 from rfl, pk_mul, nI_add]
    refine ⟨pk_in s2 60 hs2, pk_le ys.length j (fun hle => nm_r (nI_1 i) ?_) (fun hlt => ⟨pk_in (8 * s1 + i) 480 (by omega) (ei _ _), pk_in (8 * s2 + j) 480 (by omega) (ei _ _), ?_⟩) (by rw [nI_clamp (by omega)]; exact b3) rfl⟩
    · rw [List.take_of_length_le hle] at g3
      exact hp rc' rw' g3
    · rw [pk_cl (8 * s1 + i) (ei _ _), pk_cl (8 * s2 + j) (ei _ _), a4 i _ (List.getElem?_eq_getElem hi), b4 j _ (List.getElem?_eq_getElem hlt)]
      have ha := a2 _ (List.getElem_mem hi)
      have hb := b2 _ (List.getElem_mem hlt)
      have hw : qk_w 10 (xs[i] ++ ys[j]) := qk_w_app ha hb
      refine yk_row ha hb _ (yk_cut hw c hc _ ?_)
      have hlen : (qr_all l ((ys.take j).map (fun b => qr_cut c (xs[i] ++ b)))).length < 64 := by
        have := qr_len_all1 ((ys.take j).map (fun b => qr_cut c (xs[i] ++ b))) l
        rw [List.length_map, List.length_take] at this
        omega
      refine yk_add _ g3 hlen _ (qk_w_cut hw) _ rfl _ (fun rc2 rw2 hb2 => nm_r (nI_1 j) (ih (j + 1) rc2 rw2 (by omega) (by omega) ?_))
      rw [List.take_succ_eq_append_getElem hlt, List.map_append, qr_all_app]
      exact hb2
theorem qk_pr_s (c : Nat) (xs ys : List (List Nat)) (i : Nat) (hi : i < xs.length) : (qr_pr (xs.take (i + 1)) ys).map (qr_cut c) = (qr_pr (xs.take i) ys).map (qr_cut c) ++ ys.map (fun b => qr_cut c (xs[i] ++ b)) := by
  rw [qr_pr_s xs ys i hi, List.map_append, List.map_map]
  rfl
theorem yk_pr1 (s1 s2 c : Nat) (hs1 : s1 < 60) (hs2 : s2 < 60) (hc : c ≤ 2) (xs ys : List (List Nat)) (h1 : qk_set yst ymy s1 xs) (h2 : qk_set yst ymy s2 ys) (post : SY → Prop)
  (hp : ∀ (rc' : Int32) (rw' : Nat → Int32), qk_buf rw' rc' (qr_all [] ((qr_pr xs ys).map (qr_cut c))) → post (ywa, ydd, ynd, yns, yma, ynt, yno, rc', yfo, ybl, yod, ywr, yan, yab, yac, yad, yal, yabl, yacl, yacf, ynu, yfi, ypa, ysz, yli, ytx, yki, yf1, yf2, yo, yoa, yob, yit, yss, ymo, yst, ymy, ycl, rw', yow, yen, yhi, yla)) :
  ∀ (N i : Nat) (rc' : Int32) (rw' : Nat → Int32), i ≤ xs.length → xs.length - i < N → qk_buf rw' rc' (qr_all [] ((qr_pr (xs.take i) ys).map (qr_cut c))) → wY_product_8 post (nI s1) (nI s2) (nI c) N (nI i) ywa ydd ynd yns yma ynt yno rc' yfo ybl yod ywr yan yab yac yad yal yabl yacl yacf ynu yfi ypa ysz yli ytx yki yf1 yf2 yo yoa yob yit yss ymo yst ymy ycl rw' yow yen yhi yla := by
  intro N
  induction N with
  | zero => intro i rc' rw' h1 h2; omega
  | succ N ih =>
    intro i rc' rw' g1 g2 g3
    refine ⟨pk_in s1 60 hs1, pk_le xs.length i (fun hle => ?_) (fun hlt => ⟨ys.length + 1, ?_⟩) (by rw [nI_clamp (by omega)]; exact h1.2.2.1) rfl (by have := h1.1; omega) (by have := h1.1; omega)⟩
    · rw [List.take_of_length_le hle] at g3
      exact hp rc' rw' g3
    · have hlen : (qr_all [] ((qr_pr (xs.take i) ys).map (qr_cut c))).length + ys.length ≤ 64 := by
        have := qr_len_all1 ((qr_pr (xs.take i) ys).map (qr_cut c)) []
        rw [List.length_map, qr_pr_len, List.length_take, Nat.min_eq_left (by omega), List.length_nil, Nat.zero_add] at this
        have h8 : (i + 1) * ys.length ≤ 8 * 8 := Nat.mul_le_mul (by have := h1.1; omega) h2.1
        rw [Nat.succ_mul] at h8
        omega
      refine yk_pr2 s1 s2 c hs1 hs2 hc xs ys _ h1 h2 i hlt hlen post _ (fun rc2 rw2 hb2 => ih (i + 1) rc2 rw2 (by omega) (by omega) ?_) (ys.length + 1) 0 rc' rw' (by omega) (by omega) g3
      rw [qk_pr_s c xs ys i hlt, qr_all_app]
      exact hb2
theorem yk_product (s1 s2 c : Nat) (hs1 : s1 < 60) (hs2 : s2 < 60) (hc : c ≤ 2) (xs ys : List (List Nat)) (h1 : qk_set yst ymy s1 xs) (h2 : qk_set yst ymy s2 ys) (x1 x2 xc : Int32) (e1 : x1 = nI s1) (e2 : x2 = nI s2) (ec : xc = nI c) (post : SY → Prop)
  (hp : ∀ (rc' : Int32) (rw' : Nat → Int32), qk_buf rw' rc' (qr_all [] ((qr_pr xs ys).map (qr_cut c))) → post (ywa, ydd, ynd, yns, yma, ynt, yno, rc', yfo, ybl, yod, ywr, yan, yab, yac, yad, yal, yabl, yacl, yacf, ynu, yfi, ypa, ysz, yli, ytx, yki, yf1, yf2, yo, yoa, yob, yit, yss, ymo, yst, ymy, ycl, rw', yow, yen, yhi, yla)) : wpY_product post (ywa, ydd, ynd, yns, yma, ynt, yno, yrc, yfo, ybl, yod, ywr, yan, yab, yac, yad, yal, yabl, yacl, yacf, ynu, yfi, ypa, ysz, yli, ytx, yki, yf1, yf2, yo, yoa, yob, yit, yss, ymo, yst, ymy, ycl, yrw, yow, yen, yhi, yla) x1 x2 xc := by
  subst e1; subst e2; subst ec
  exact ⟨xs.length + 1, yk_pr1 s1 s2 c hs1 hs2 hc xs ys h1 h2 post hp (xs.length + 1) 0 0 yrw (by omega) (by omega) (qk_buf0 yrw)⟩
theorem yk_st1 (s : Nat) (hs : s < 60) (l : List (List Nat)) (hb : qk_buf yrw yrc l) (hl : l.length ≤ 8) (st0 : Nat → Int32) (post : SY → Prop) (hp : ∀ st' : Nat → Int32, (∀ k r, l[k]? = some r → st' (8 * s + k) = nI (qc_y r)) → (∀ s', s' ≠ s → ∀ k, k < 8 → st' (8 * s' + k) = st0 (8 * s' + k)) → post (ywa, ydd, ynd, yns, yma, ynt, yno, 0, yfo, ybl, yod, ywr, yan, yab, yac, yad, yal, yabl, yacl, yacf, ynu, yfi, ypa, ysz, yli, ytx, yki, yf1, yf2, yo, yoa, yob, yit, yss, ymo, st', ymy, ycl, yrw, yow, yen, yhi, yla)) :
  ∀ (N i : Nat) (st' : Nat → Int32), i ≤ l.length → l.length - i < N → (∀ k r, k < i → l[k]? = some r → st' (8 * s + k) = nI (qc_y r)) → (∀ s', s' ≠ s → ∀ k, k < 8 → st' (8 * s' + k) = st0 (8 * s' + k)) → wY_store_33 post (nI s) ywa ydd ynd yns yma ynt yno yrc yfo ybl yod ywr N (nI i) yan yab yac yad yal yabl yacl yacf ynu yfi ypa ysz yli ytx yki yf1 yf2 yo yoa yob yit yss ymo st' ymy ycl yrw yow yen yhi yla := by
  obtain ⟨b1, b2, b3⟩ := hb
  subst b2
  intro N
  induction N with
  | zero => intro i st' h1 h2; omega
  | succ N ih =>
    intro i st' h1 h2 h3 h4
    have ei : (8 : Int32) * nI s + nI i = nI (8 * s + i) := by rw [show (8 : Int32) = nI 8 from rfl, pk_mul, nI_add]
    refine pk_le l.length i (fun hle => hp st' (fun k r hk => h3 k r (by have := qr_get_lt hk; omega) hk) h4) (fun hlt => ⟨pk_in i 64 (by omega), pk_in (8 * s + i) 480 (by omega) ei, nm_e (nm_r (nI_1 i) ?_)⟩)
    rw [pk_cl (8 * s + i) ei, nI_clamp (by omega)]
    refine ih (i + 1) _ (by omega) (by omega) (fun k r hk hr => ?_) (fun s' hs' k hk => (pk_un (by omega)).trans (h4 s' hs' k hk))
    by_cases z : k = i
    · subst z
      exact pk_us.trans (b3 k r hr)
    · exact (pk_un (by omega)).trans (h3 k r (by omega) hr)
theorem yk_st2 (s : Nat) (hs : s < 60) (l : List (List Nat)) (hb : qk_buf yrw yrc l) (hl : l.length ≤ 8) (h5 : ∀ r, r ∈ l → qk_w 5 r) (post : SY → Prop) (hp : ∀ st' my' : Nat → Int32, qk_set st' my' s l → qk_k (fun s' => s' ≠ s) yst ymy st' my' → post (ywa, ydd, ynd, yns, yma, ynt, yno, 0, yfo, ybl, yod, ywr, yan, yab, yac, yad, yal, yabl, yacl, yacf, ynu, yfi, ypa, ysz, yli, ytx, yki, yf1, yf2, yo, yoa, yob, yit, yss, ymo, st', my', ycl, yrw, yow, yen, yhi, yla)) : wY_store_21 post (nI s) ywa ydd ynd yns yma ynt yno yrc yfo ybl yod ywr yan yab yac yad yal yabl yacl yacf ynu yfi ypa ysz yli ytx yki yf1 yf2 yo yoa yob yit yss ymo yst ymy ycl yrw yow yen yhi yla := by
  have b2 := hb.2.1
  refine ⟨pk_in s 60 hs, nm_e ⟨l.length + 1, ?_⟩⟩
  rw [nI_clamp (by omega)]
  refine yk_st1 s hs l hb hl yst post (fun st' g1 g2 => hp _ _ ⟨hl, h5, pk_us.trans b2, g1⟩ (fun s' hs' => ⟨pk_un hs', g2 s' hs'⟩)) (l.length + 1) 0 yst (by omega) (by omega) (fun k r hk => absurd hk (by omega)) (fun _ _ _ _ => rfl)
theorem yk_store (s : Nat) (hs : s < 60) (l : List (List Nat)) (hb : qk_buf yrw yrc l) (hl : l.length ≤ 64) (h5 : l.length ≤ 8 → ∀ r, r ∈ l → qk_w 5 r) (xs : Int32) (es : xs = nI s) (post : SY → Prop) (hp : ∀ rw' st' my' : Nat → Int32, qk_set st' my' s (qr_lim l) → qk_k (fun s' => s' ≠ s) yst ymy st' my' → post (ywa, ydd, ynd, yns, yma, ynt, yno, 0, yfo, ybl, yod, ywr, yan, yab, yac, yad, yal, yabl, yacl, yacf, ynu, yfi, ypa, ysz, yli, ytx, yki, yf1, yf2, yo, yoa, yob, yit, yss, ymo, st', my', ycl, rw', yow, yen, yhi, yla)) : wpY_store post (ywa, ydd, ynd, yns, yma, ynt, yno, yrc, yfo, ybl, yod, ywr, yan, yab, yac, yad, yal, yabl, yacl, yacf, ynu, yfi, ypa, ysz, yli, ytx, yki, yf1, yf2, yo, yoa, yob, yit, yss, ymo, yst, ymy, ycl, yrw, yow, yen, yhi, yla) xs := by
  subst es
  have b2 := hb.2.1
  subst b2
  refine pk_le l.length 8 (fun hle => ?_) (fun hlt => nm_e ?_)
  · have e : qr_lim l = l := if_pos hle
    rw [e] at hp
    exact yk_st2 s hs l hb hle (h5 hle) post (fun st' my' h1 h2 => hp yrw st' my' h1 h2)
  · have e : qr_lim l = [[]] := if_neg (by omega)
    rw [e] at hp
    refine yk_st2 s hs [[]] ⟨?_, rfl, ?_⟩ (by simp) ?_ post (fun st' my' h1 h2 => hp _ st' my' h1 h2)
    · intro r hr
      rw [List.mem_singleton.mp hr]
      exact ⟨by simp, (fun x hx => nomatch hx)⟩
    · intro k r hk
      match k, hk with
      | 0, hk => cases hk; exact pk_us
    · intro r hr
      rw [List.mem_singleton.mp hr]
      exact ⟨by simp, (fun x hx => nomatch hx)⟩
end
