/-! the reference: what the calls that only look answer -/
section
variable {ywa ydd ynd yns yma ynt yno yrc yfo ybl yod ywr : Int32} {yan yab yac yad yal yabl yacl yacf ynu yfi ypa ysz yli ytx yki yf1 yf2 yo yoa yob yit yss ymo yst ymy ycl yrw yow yhi yla : Nat → Int32} {yen : Nat → Int64}
/-- the reference's code of the trigram at a place -/
def qt_6 (t : List Nat) (i : Nat) : Int32 := match qt_g t i with
  | none => -1
  | some c => nI c
def qt_6o (o : qf_X) (i : Nat) : Int32 := match o with
  | none => -1
  | some t => qt_6 t i
theorem yl_tr3 (a b c : Nat) (ha : a < 7) (hb : b < 7) (hc : c < 7) (post : Int32 → Prop) (h0 : ¬ (a < 6 ∧ b < 6 ∧ c < 6) → post (-1)) (h1 : a < 6 → b < 6 → c < 6 → post (nI (36 * a + 6 * b + c))) : wY_trigram_110 post (nI a) (nI b) (nI c) ywa ydd ynd yns yma ynt yno yrc yfo ybl yod ywr yan yab yac yad yal yabl yacl yacf ynu yfi ypa ysz yli ytx yki yf1 yf2 yo yoa yob yit yss ymo yst ymy ycl yrw yow yen yhi yla := by
  refine pk_eq a 6 (fun e => h0 (by omega)) (fun e0 => pk_eq b 6 (fun e => h0 (by omega)) (fun e1 => pk_eq c 6 (fun e => h0 (by omega)) (fun e2 => ?_)))
  have e : ((36 : Int32) * nI a + 6 * nI b) + nI c = nI (36 * a + 6 * b + c) := by
    rw [show (36 : Int32) = nI 36 from rfl, show (6 : Int32) = nI 6 from rfl, pk_mul, pk_mul, nI_add, nI_add]
  rw [e]
  exact h1 (by omega) (by omega) (by omega)
theorem yl_trN (d i : Nat) (hd : d < 10) (hi : i < 1000) (o : qf_X) (ho : qf_o o) (h : qx_slot yan yal d o) (xd xi : Int32) (ed : xd = nI d) (ei : xi = nI i) (post : Int32 → Prop) (hp : post (qt_6o o i)) : wpY_trigram post (ywa, ydd, ynd, yns, yma, ynt, yno, yrc, yfo, ybl, yod, ywr, yan, yab, yac, yad, yal, yabl, yacl, yacf, ynu, yfi, ypa, ysz, yli, ytx, yki, yf1, yf2, yo, yoa, yob, yit, yss, ymo, yst, ymy, ycl, yrw, yow, yen, yhi, yla) 0 xd xi := by
  subst ed; subst ei
  have cd : (nI d).toNatClampNeg = d := nI_clamp (by omega)
  refine nm_r (ys_ix d i) (br_t rfl ⟨pk_in d 10 hd, ?_⟩)
  rw [cd]
  match o, ho, h, hp with
  | none, _, h, hp =>
    rw [show yal d = -1 from h]
    refine br_f ?_ hp
    rw [show nI i + 2 = nI (i + 2) from nI_add i 2]
    exact Int32.not_lt.mpr (ys_neg' _ (by omega))
  | some t, ho, h, hp =>
    have ht := ho t rfl
    have hL := ht.1
    rw [h.1]
    refine pk_lt (i + 2) t.length (fun hlt => ?_) (fun hle => ?_) (nI_add i 2)
    · have c0 := qf_t_get ht (show i < t.length by omega)
      have c1 := qf_t_get ht (show i + 1 < t.length by omega)
      have c2 := qf_t_get ht hlt
      refine br_t rfl ⟨pk_in (d * 40 + i) 400 (by omega), ?_⟩
      rw [nI_clamp (by omega), h.2 i (by omega)]
      refine br_t rfl ⟨pk_in (d * 40 + (i + 1)) 400 (by omega) (nI_1 _), ?_⟩
      rw [nI_1, nI_clamp (by omega), show d * 40 + i + 1 = d * 40 + (i + 1) from rfl, h.2 (i + 1) (by omega)]
      refine br_t rfl ⟨pk_in (d * 40 + (i + 2)) 400 (by omega) (nI_add _ 2), ?_⟩
      rw [show nI (d * 40 + i) + 2 = nI (d * 40 + (i + 2)) from nI_add _ 2, nI_clamp (by omega), h.2 (i + 2) hlt]
      refine yl_tr3 _ _ _ c0 c1 c2 post (fun z => ?_) (fun z0 z1 z2 => ?_)
      · have e : qt_6 t i = -1 := by unfold qt_6 qt_g; rw [if_neg (fun y => z y.2)]
        rw [← e]; exact hp
      · have e : qt_6 t i = nI (36 * t.getD i 0 + 6 * t.getD (i + 1) 0 + t.getD (i + 2) 0) := by unfold qt_6 qt_g; rw [if_pos ⟨hlt, z0, z1, z2⟩]
        rw [← e]; exact hp
    · have e : qt_6 t i = -1 := by unfold qt_6; rw [qt_g_none (by omega)]
      rw [← e]; exact hp
theorem yl_trK (d i : Nat) (hd : d < 64) (hi : i < 1000) (t : List Nat) (ht : qf_t t) (h : qx_slot ytx ysz d (some t)) (xd xi : Int32) (ed : xd = nI d) (ei : xi = nI i) (post : Int32 → Prop) (hp : post (qt_6 t i)) : wpY_trigram post (ywa, ydd, ynd, yns, yma, ynt, yno, yrc, yfo, ybl, yod, ywr, yan, yab, yac, yad, yal, yabl, yacl, yacf, ynu, yfi, ypa, ysz, yli, ytx, yki, yf1, yf2, yo, yoa, yob, yit, yss, ymo, yst, ymy, ycl, yrw, yow, yen, yhi, yla) 1 xd xi := by
  subst ed; subst ei
  have cd : (nI d).toNatClampNeg = d := nI_clamp (by omega)
  have hL := ht.1
  refine nm_r (ys_ix d i) (br_f (by decide) ⟨pk_in d 64 hd, ?_⟩)
  rw [cd, h.1]
  refine pk_lt (i + 2) t.length (fun hlt => ?_) (fun hle => ?_) (nI_add i 2)
  · have c0 := qf_t_get ht (show i < t.length by omega)
    have c1 := qf_t_get ht (show i + 1 < t.length by omega)
    have c2 := qf_t_get ht hlt
    refine br_f (by decide) ⟨pk_in (d * 40 + i) 2560 (by omega), ?_⟩
    rw [nI_clamp (by omega), h.2 i (by omega)]
    refine br_f (by decide) ⟨pk_in (d * 40 + (i + 1)) 2560 (by omega) (nI_1 _), ?_⟩
    rw [nI_1, nI_clamp (by omega), show d * 40 + i + 1 = d * 40 + (i + 1) from rfl, h.2 (i + 1) (by omega)]
    refine br_f (by decide) ⟨pk_in (d * 40 + (i + 2)) 2560 (by omega) (nI_add _ 2), ?_⟩
    rw [show nI (d * 40 + i) + 2 = nI (d * 40 + (i + 2)) from nI_add _ 2, nI_clamp (by omega), h.2 (i + 2) hlt]
    refine yl_tr3 _ _ _ c0 c1 c2 post (fun z => ?_) (fun z0 z1 z2 => ?_)
    · have e : qt_6 t i = -1 := by unfold qt_6 qt_g; rw [if_neg (fun y => z y.2)]
      rw [← e]; exact hp
    · have e : qt_6 t i = nI (36 * t.getD i 0 + 6 * t.getD (i + 1) 0 + t.getD (i + 2) 0) := by unfold qt_6 qt_g; rw [if_pos ⟨hlt, z0, z1, z2⟩]
      rw [← e]; exact hp
  · have e : qt_6 t i = -1 := by unfold qt_6; rw [qt_g_none (by omega)]
    rw [← e]; exact hp
theorem yl_live1 (docs : List qf_D) (pt : Nat → Nat) (f : Nat) (hf : f < 10) (hd : docs.length ≤ 64) (hdl : qy_dl docs pt ytx ysz ynu yfi ypa yli) (hdf : ∀ x, x ∈ docs → x.2.1 < 10) (hdc : ynd = nI docs.length) (post : Int32 → Prop) :
  ∀ (n d : Nat), d ≤ docs.length → docs.length - d < n → post (ql_v f (docs.drop d)) → wY_living_2 post (nI f) ywa ydd ynd yns yma ynt yno yrc yfo ybl yod ywr yan yab yac yad yal yabl yacl yacf ynu yfi ypa ysz yli ytx yki yf1 yf2 yo yoa yob yit yss ymo yst ymy ycl yrw yow yen yhi yla n (nI d) := by
  intro n
  induction n with
  | zero => intro i h1 h2; omega
  | succ n ih =>
    intro d h1 h2 h3
    refine pk_le docs.length d (fun hle => ?_) (fun hlt => ?_) hdc
    · rw [List.drop_of_length_le hle] at h3
      exact h3
    · have cd : (nI d).toNatClampNeg = d := nI_clamp (by omega)
      obtain ⟨a1, a2, a3, a4⟩ := hdl d _ (List.getElem?_eq_getElem hlt)
      have hfd := hdf _ (List.getElem_mem hlt)
      have hi : vp_in (nI d) 64 := pk_in d 64 (by omega)
      rw [List.drop_eq_getElem_cons hlt] at h3
      unfold ql_v at h3
      refine ⟨hi, ?_⟩
      rw [cd, a2]
      refine pk_eq docs[d].2.1 f (fun he => ⟨hi, ?_⟩) (fun he => ?_)
      · rw [a3]
        by_cases z : docs[d].2.2.1 = true
        · rw [if_pos z]
          rw [if_pos ⟨z, he⟩] at h3
          refine br_f (by decide) ⟨hi, ?_⟩
          rw [a1]
          exact h3
        · rw [if_neg z]
          rw [if_neg (fun y => z y.1)] at h3
          exact br_t rfl (nm_r (nI_1 d) (ih (d + 1) (by omega) (by omega) h3))
      · rw [if_neg (fun y => he y.2)] at h3
        exact nm_r (nI_1 d) (ih (d + 1) (by omega) (by omega) h3)
/-! file -/
def qy_la (t : List Nat) (m : Nat) (la : Nat → Int32) : Prop := ∀ c, c < 216 → if qt_any t m c = true then ¬ la c < 0 else la c < 0
theorem yl_f0 (x1 x2 x3 : Int32) (post : Int32 → SY → Prop) (hp : ∀ la : Nat → Int32, (∀ j, j < 216 → la j = -1) → ∃ n : Nat, wY_file_91 post x1 x2 ywa ydd ynd yns yma ynt yno yrc yfo ybl yod ywr n x3 0 yan yab yac yad yal yabl yacl yacf ynu yfi ypa ysz yli ytx yki yf1 yf2 yo yoa yob yit yss ymo yst ymy ycl yrw yow yen yhi la) :
  ∀ (n i : Nat) (la : Nat → Int32), i ≤ 216 → 216 - i < n → (∀ j, j < i → la j = -1) → wY_file_66 post x1 x2 x3 ywa ydd ynd yns yma ynt yno yrc yfo ybl yod ywr n (nI i) yan yab yac yad yal yabl yacl yacf ynu yfi ypa ysz yli ytx yki yf1 yf2 yo yoa yob yit yss ymo yst ymy ycl yrw yow yen yhi la := by
  intro n
  induction n with
  | zero => intro i hd h1 h2; omega
  | succ n ih =>
    intro i hd h1 h2 h3
    refine pk_le 216 i (fun hle => hp hd (fun j hj => h3 j (by omega))) (fun hlt => ?_)
    have ci : (nI i).toNatClampNeg = i := nI_clamp (by omega)
    refine ⟨pk_in i 216 hlt, nm_e (nm_r (nI_1 i) ?_)⟩
    rw [ci]
    refine ih (i + 1) _ (by omega) (by omega) (fun j hj => ?_)
    by_cases z : j = i
    · subst z; exact pk_us
    · exact (pk_un z).trans (h3 j (by omega))
theorem yl_f1 (f : Nat) (hf : f < 10) (t : List Nat) (ht : qf_t t) (h : qx_slot yan yal f (some t)) (post : Int32 → SY → Prop) (hp : post (nI (qn_6 t t.length)) (ywa, ydd, ynd, yns, yma, ynt, yno, yrc, yfo, ybl, yod, ywr, yan, yab, yac, yad, yal, yabl, yacl, yacf, ynu, yfi, ypa, ysz, yli, ytx, yki, yf1, yf2, yo, yoa, yob, yit, yss, ymo, yst, ymy, ycl, yrw, yow, yen, yhi, yla)) :
  ∀ (n i : Nat), i ≤ t.length → t.length - i < n → wY_file_91 post (nI f) 1 ywa ydd ynd yns yma ynt yno yrc yfo ybl yod ywr n (nI (qn_6 t i)) (nI i) yan yab yac yad yal yabl yacl yacf ynu yfi ypa ysz yli ytx yki yf1 yf2 yo yoa yob yit yss ymo yst ymy ycl yrw yow yen yhi yla := by
  intro n
  have hL := ht.1
  induction n with
  | zero => intro i h1 h2; omega
  | succ n ih =>
    intro i h1 h2
    have cf : (nI f).toNatClampNeg = f := nI_clamp (by omega)
    refine ⟨pk_in f 10 hf, ?_⟩
    rw [cf, h.1]
    refine pk_le t.length i (fun hle => ?_) (fun hlt => br_t rfl ⟨pk_in (f * 40 + i) 400 (by omega) (ys_ix f i), ?_⟩)
    · have e : i = t.length := by omega
      subst e
      exact hp
    · have hc := qf_t_get ht hlt
      rw [ys_ixc (by omega), h.2 i hlt]
      have := ih (i + 1) (by omega) (by omega)
      refine pk_eq (t.getD i 0) 6 (fun he => ?_) (fun he => ?_)
      · have e : qn_6 t (i + 1) = qn_6 t i + 1 := by show qn_6 t i + _ = _; rw [if_pos he]
        rw [e] at this
        exact nm_r (nI_1 _) (br_f (by decide) (br_t (by decide) (nm_r (nI_1 i) this)))
      · have e : qn_6 t (i + 1) = qn_6 t i := by show qn_6 t i + _ = _; rw [if_neg he]; rfl
        rw [e] at this
        exact br_f (by decide) (br_t (by decide) (nm_r (nI_1 i) this))
theorem yl_f2 (f : Nat) (hf : f < 10) (t : List Nat) (ht : qf_t t) (h : qx_slot yan yal f (some t)) (post : Int32 → SY → Prop) (hp : ∀ la : Nat → Int32, post (nI (qt_cnt t)) (ywa, ydd, ynd, yns, yma, ynt, yno, yrc, yfo, ybl, yod, ywr, yan, yab, yac, yad, yal, yabl, yacl, yacf, ynu, yfi, ypa, ysz, yli, ytx, yki, yf1, yf2, yo, yoa, yob, yit, yss, ymo, yst, ymy, ycl, yrw, yow, yen, yhi, la)) :
  ∀ (n i : Nat) (la : Nat → Int32), i ≤ t.length → t.length - i < n → qy_la t i la → wY_file_91 post (nI f) 2 ywa ydd ynd yns yma ynt yno yrc yfo ybl yod ywr n (nI (qt_n t i)) (nI i) yan yab yac yad yal yabl yacl yacf ynu yfi ypa ysz yli ytx yki yf1 yf2 yo yoa yob yit yss ymo yst ymy ycl yrw yow yen yhi la := by
  intro n
  have hL := ht.1
  induction n with
  | zero => intro i la h1 h2; omega
  | succ n ih =>
    intro i la h1 h2 h3
    have cf : (nI f).toNatClampNeg = f := nI_clamp (by omega)
    refine ⟨pk_in f 10 hf, ?_⟩
    rw [cf, h.1]
    refine pk_le t.length i (fun hle => ?_) (fun hlt => br_f (by decide) (br_t rfl ?_))
    · have e : i = t.length := by omega
      subst e
      exact hp la
    · refine yl_trN f i hf (by omega) (some t) (fun t' e => by cases e; exact ht) h _ _ rfl rfl _ ?_
      unfold qt_6o
      dsimp only
      unfold qt_6
      cases hg : qt_g t i with
      | none =>
        dsimp only
        have e : qt_n t (i + 1) = qt_n t i := by
          show qt_n t i + _ = _
          have : qt_new t i = false := by unfold qt_new; rw [hg]
          rw [this]; rfl
        have := ih (i + 1) la (by omega) (by omega) (fun c hc => by have := h3 c hc; rw [qt_any_s, hg]; simpa using this)
        rw [e] at this
        exact br_t (by decide) (nm_r (nI_1 i) this)
      | some c =>
        dsimp only
        have hc := (qt_g_lt hg).1
        have cc : (nI c).toNatClampNeg = c := nI_clamp (by omega)
        have hi : vp_in (nI c) 216 := pk_in c 216 hc
        refine br_f (nI_pos (by omega)) ⟨hi, ?_⟩
        rw [cc]
        have h3c := h3 c hc
        cases ha : qt_any t i c with
        | true =>
          rw [ha, if_pos rfl] at h3c
          have e : qt_n t (i + 1) = qt_n t i := by
            show qt_n t i + _ = _
            have : qt_new t i = false := by unfold qt_new; rw [hg]; simp [ha]
            rw [this]; rfl
          have := ih (i + 1) la (by omega) (by omega) (fun d hd => by
            have h4 := h3 d hd
            rw [qt_any_s, hg]
            by_cases z : c = d
            · subst z; rw [ha] at h4 ⊢; exact h4
            · have : (some c == some d) = false := by simp [z]
              rw [this, Bool.or_false]; exact h4)
          rw [e] at this
          exact br_f h3c (nm_r (nI_1 i) this)
        | false =>
          rw [ha, if_neg (by decide)] at h3c
          have e : qt_n t (i + 1) = qt_n t i + 1 := by
            show qt_n t i + _ = _
            have : qt_new t i = true := by unfold qt_new; rw [hg]; simp [ha]
            rw [this]; rfl
          refine br_t h3c ⟨hi, nm_e (nm_r (nI_1 _) (nm_r (nI_1 i) ?_))⟩
          have := ih (i + 1) (upd la c (nI i)) (by omega) (by omega) (fun d hd => by
            have h4 := h3 d hd
            rw [qt_any_s, hg]
            by_cases z : c = d
            · subst z
              simp only [BEq.rfl, Bool.or_true, if_true]
              rw [pk_us]
              exact nI_pos (by omega)
            · have : (some c == some d) = false := by simp [z]
              rw [this, Bool.or_false, pk_un (fun e => z e.symm)]; exact h4)
          rw [e] at this
          exact this
theorem yl_file (now base : Nat → qf_X) (wt : List (Nat × qf_X)) (dr : List Nat) (docs : List qf_D) (segs : List Nat) (made : Nat) (hi : qf_inv now base wt dr docs segs made) (hS : qy_S now base wt dr docs segs made yan yal yab yabl yac yacl yacf yad ywa ydd ynu yfi ypa ysz yli ytx ynd yns yma) (p0 p1 : Int32) (post : Int32 → SY → Prop)
  (hb : (p0 < 0 ∨ 10 ≤ p0) → post (-1) (ywa, ydd, ynd, yns, yma, ynt, yno, yrc, yfo, ybl, yod, ywr, yan, yab, yac, yad, yal, yabl, yacl, yacf, ynu, yfi, ypa, ysz, yli, ytx, yki, yf1, yf2, yo, yoa, yob, yit, yss, ymo, yst, ymy, ycl, yrw, yow, yen, yhi, yla))
  (h3 : ∀ f, f < 10 → p0 = nI f → p1 = 3 → post (ql_v f docs) (ywa, ydd, ynd, yns, yma, ynt, yno, yrc, yfo, ybl, yod, ywr, yan, yab, yac, yad, yal, yabl, yacl, yacf, ynu, yfi, ypa, ysz, yli, ytx, yki, yf1, yf2, yo, yoa, yob, yit, yss, ymo, yst, ymy, ycl, yrw, yow, yen, yhi, yla))
  (h0 : ∀ f, f < 10 → p0 = nI f → ¬ p1 = 3 → now f = none → post (-1) (ywa, ydd, ynd, yns, yma, ynt, yno, yrc, yfo, ybl, yod, ywr, yan, yab, yac, yad, yal, yabl, yacl, yacf, ynu, yfi, ypa, ysz, yli, ytx, yki, yf1, yf2, yo, yoa, yob, yit, yss, ymo, yst, ymy, ycl, yrw, yow, yen, yhi, yla))
  (h1 : ∀ f t, f < 10 → p0 = nI f → now f = some t → ¬ p1 = 0 → ¬ p1 = 1 → ¬ p1 = 2 → ¬ p1 = 3 → post (-1) (ywa, ydd, ynd, yns, yma, ynt, yno, yrc, yfo, ybl, yod, ywr, yan, yab, yac, yad, yal, yabl, yacl, yacf, ynu, yfi, ypa, ysz, yli, ytx, yki, yf1, yf2, yo, yoa, yob, yit, yss, ymo, yst, ymy, ycl, yrw, yow, yen, yhi, yla))
  (g0 : ∀ f t, f < 10 → p0 = nI f → now f = some t → p1 = 0 → post (nI t.length) (ywa, ydd, ynd, yns, yma, ynt, yno, yrc, yfo, ybl, yod, ywr, yan, yab, yac, yad, yal, yabl, yacl, yacf, ynu, yfi, ypa, ysz, yli, ytx, yki, yf1, yf2, yo, yoa, yob, yit, yss, ymo, yst, ymy, ycl, yrw, yow, yen, yhi, yla))
  (g1 : ∀ f t, f < 10 → p0 = nI f → now f = some t → p1 = 1 → ∀ la : Nat → Int32, post (nI (qn_6 t t.length)) (ywa, ydd, ynd, yns, yma, ynt, yno, yrc, yfo, ybl, yod, ywr, yan, yab, yac, yad, yal, yabl, yacl, yacf, ynu, yfi, ypa, ysz, yli, ytx, yki, yf1, yf2, yo, yoa, yob, yit, yss, ymo, yst, ymy, ycl, yrw, yow, yen, yhi, la))
  (g2 : ∀ f t, f < 10 → p0 = nI f → now f = some t → p1 = 2 → ∀ la : Nat → Int32, post (nI (qt_cnt t)) (ywa, ydd, ynd, yns, yma, ynt, yno, yrc, yfo, ybl, yod, ywr, yan, yab, yac, yad, yal, yabl, yacl, yacf, ynu, yfi, ypa, ysz, yli, ytx, yki, yf1, yf2, yo, yoa, yob, yit, yss, ymo, yst, ymy, ycl, yrw, yow, yen, yhi, la)) : wpY_file post (ywa, ydd, ynd, yns, yma, ynt, yno, yrc, yfo, ybl, yod, ywr, yan, yab, yac, yad, yal, yabl, yacl, yacf, ynu, yfi, ypa, ysz, yli, ytx, yki, yf1, yf2, yo, yoa, yob, yit, yss, ymo, yst, ymy, ycl, yrw, yow, yen, yhi, yla) p0 p1 := by
  have hno := qf_now_o hi
  have hb10 := qd_dec10 hi.2.2.2.2.2 hi.2.2.2.2.1.2.1
  have hsm := hi.2.2.2.2.1.1
  unfold wpY_file
  refine ys_fileC p0 _ (fun z => br_t rfl (hb z)) (fun f hf e => br_f (by decide) ?_)
  subst e
  have cf : (nI f).toNatClampNeg = f := nI_clamp (by omega)
  have hsf := hS.1 f hf
  refine ys_in p1 0 3 (by decide) (by decide) 0 3 rfl rfl _ (fun z => br_t rfl ?_) (fun w _ hw e => br_f (by decide) ?_)
  · have n0 : ¬ p1 = 0 := z 0 (by omega) (by omega)
    have n1 : ¬ p1 = 1 := z 1 (by omega) (by omega)
    have n2 : ¬ p1 = 2 := z 2 (by omega) (by omega)
    have n3 : ¬ p1 = 3 := z 3 (by omega) (by omega)
    cases hnf : now f with
    | none => exact h0 f hf rfl n3 hnf
    | some t => exact h1 f t hf rfl hnf n0 n1 n2 n3
  · refine br_c (fun z => ?_) (fun z => ⟨pk_in f 10 hf, ?_⟩)
    · exact ⟨docs.length + 1, yl_live1 docs (qd_seg segs) f hf (by omega) hS.2.2.2.2.1.2 (fun x hx => (hi.2.2.2.2.1.2.2.2.1 x hx).2.1) hS.2.2.2.2.1.1 _ (docs.length + 1) 0 (by omega) (by omega) (h3 f hf rfl z)⟩
    · rw [cf]
      cases hnf : now f with
      | none =>
        rw [hnf] at hsf
        rw [show yal f = -1 from hsf]
        exact br_t (by decide) ⟨pk_in f 10 hf, h0 f hf rfl z hnf⟩
      | some t =>
        rw [hnf] at hsf
        have ht := hno f hf t hnf
        have hL := ht.1
        rw [show yal f = nI t.length from hsf.1]
        refine br_f (nI_pos (by omega)) (br_c (fun y => ⟨pk_in f 10 hf, g0 f t hf rfl hnf y⟩) (fun y0 => br_c (fun y => ?_) (fun y1 => ?_)))
        · subst y
          refine ⟨217, yl_f0 (nI f) 1 1 post ?_ 217 0 yla (by omega) (by omega) (fun j hj => absurd hj (by omega))⟩
          intro la hla
          exact ⟨t.length + 1, yl_f1 (yla := la) f hf t ht hsf post (g1 f t hf rfl hnf rfl la) (t.length + 1) 0 (by omega) (by omega)⟩
        · have y2 : p1 = 2 := by
            subst e
            have : w ≠ 0 := fun h => y0 (by rw [h]; rfl)
            have : w ≠ 1 := fun h => y1 (by rw [h]; rfl)
            have : w ≠ 3 := fun h => z (by rw [h]; rfl)
            have : w = 2 := by omega
            rw [this]; rfl
          subst y2
          refine ⟨217, yl_f0 (nI f) 2 0 post ?_ 217 0 yla (by omega) (by omega) (fun j hj => absurd hj (by omega))⟩
          intro la hla
          refine ⟨t.length + 1, yl_f2 f hf t ht hsf post (g2 f t hf rfl hnf rfl) (t.length + 1) 0 la (by omega) (by omega) ?_⟩
          intro c hc
          rw [show qt_any t 0 c = false from rfl, if_neg (by decide), hla c hc]
          decide
end
