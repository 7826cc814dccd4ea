/-! the reference reads the expression -/
section
variable {V : Type} (lf : Nat → Nat → V) (un : Nat → Nat → Nat → V → V) (bi : Nat → V → V → V) (big : V → Prop)
variable {ywa ydd ynd yns yma ynt yno yrc yfo ybl yod ywr : Int32} {yan yab yac yad yal yabl yacl yacf ynu yfi ypa ysz yli ytx yki yf1 yf2 yo yoa yob yit yss ymo yst ymy ycl yrw yow yhi yla : Nat → Int32} {yen : Nat → Int64}
theorem yp_open (S : qp_S V) (t n a b : Nat) (ht : t < 16) (hno : yno = nI n) (hY : qp_Y lf un bi big S t yo yoa yob n yit ymo) (post : SY → Prop)
  (hp : ∀ (n' : Nat) (o' oa' ob' it' : Nat → Int32), qp_Y lf un bi big (qp_step lf un bi big 3 a b S) (t + 1) o' oa' ob' n' (upd it' (S.1 + 1) 0) (upd ymo (S.1 + 1) 0) → post (ywa, ydd, ynd, yns, yma, ynt, nI n', yrc, yfo, ybl, yod, ywr, yan, yab, yac, yad, yal, yabl, yacl, yacf, ynu, yfi, ypa, ysz, yli, ytx, yki, yf1, yf2, o', oa', ob', it', yss, ymo, yst, ymy, ycl, yrw, yow, yen, yhi, yla)) : wpY_both post (ywa, ydd, ynd, yns, yma, ynt, yno, yrc, yfo, ybl, yod, ywr, yan, yab, yac, yad, yal, yabl, yacl, yacf, ynu, yfi, ypa, ysz, yli, ytx, yki, yf1, yf2, yo, yoa, yob, yit, yss, ymo, yst, ymy, ycl, yrw, yow, yen, yhi, yla) (nI S.1) := by
  obtain ⟨d, fa, fs, fi, B⟩ := S
  obtain ⟨h1, h2, h3, h4, h5, g1, g2, g3⟩ := hY
  dsimp only at h1 h2 h3 h4 h5 g1 g2 g3
  unfold qp_st at h3 h4 h5
  dsimp only at h3 h4 h5
  refine ye_both lf un bi big d n (by omega) (by omega) hno (fa d) (fs d) (fi d) (qp_lows bi fa fs fi d) _ h5 (by omega) (h1 d (Nat.le_refl _)) g2 post (fun n' o' oa' ob' it' hO hn hl hi0 hoth => ?_)
  apply hp
  have e1 : qp_step lf un bi big 3 a b (d, fa, fs, fi, B) = (d + 1, qp_set fa (d + 1) none, qp_set fs (d + 1) none, qp_set fi (d + 1) none, B) := rfl
  rw [e1]
  have hlo : qp_lows bi (qp_set fa (d + 1) none) (qp_set fs (d + 1) none) (qp_set fi (d + 1) none) (d + 1) = qp_lows bi fa fs fi (d + 1) := qp_lows_cg bi (d + 1) (fun l hl => ⟨qp_set_n (by omega), qp_set_n (by omega), qp_set_n (by omega)⟩)
  have hst' : qp_st bi (d + 1, qp_set fa (d + 1) none, qp_set fs (d + 1) none, qp_set fi (d + 1) none, B) = qp_low bi (fa d) (fs d) (fi d) ++ qp_lows bi fa fs fi d := by
    unfold qp_st
    dsimp only
    rw [qp_set_s, qp_set_s, qp_set_s, hlo]
    rfl
  refine ⟨?_, by dsimp only; omega, by rw [hst']; omega, by rw [hst']; omega, ?_, ?_⟩
  · intro l hl hn
    dsimp only at hn hl ⊢
    by_cases z : l = d + 1
    · subst z; rw [qp_set_s]
    · rw [qp_set_n z] at hn ⊢; exact h1 l (by omega) hn
  · rw [hst']
    refine qp_YO_iff lf un bi big hO rfl ?_
    unfold qp_pd
    dsimp only
    have hpe : (∃ l, l < d + 1 ∧ qp_jbig bi big (qp_set fs (d + 1) none l) (qp_set fi (d + 1) none l)) ↔ qp_jbig bi big (fs d) (fi d) ∨ ∃ l, l < d ∧ qp_jbig bi big (fs l) (fi l) := by
      constructor
      · rintro ⟨l, hl, h⟩
        rw [qp_set_n (by omega), qp_set_n (by omega)] at h
        by_cases z : l = d
        · subst z; exact Or.inl h
        · exact Or.inr ⟨l, by omega, h⟩
      · rintro (h | ⟨l, hl, h⟩)
        · exact ⟨d, by omega, by rw [qp_set_n (by omega), qp_set_n (by omega)]; exact h⟩
        · exact ⟨l, by omega, by rw [qp_set_n (by omega), qp_set_n (by omega)]; exact h⟩
    rw [hpe]
    constructor
    · rintro ((h | h) | h)
      · exact Or.inl h
      · exact Or.inr (Or.inr h)
      · exact Or.inr (Or.inl h)
    · rintro (h | (h | h))
      · exact Or.inl (Or.inl h)
      · exact Or.inr h
      · exact Or.inl (Or.inr h)
  · refine ⟨fun l hl => ?_, ?_, fun l hl => ?_⟩
    · dsimp only at hl ⊢
      rw [qp_set_n (by omega), pk_un (by omega)]
      by_cases z : l = d
      · subst z; exact hi0
      · rw [hoth l z]; exact g1 l (by omega)
    · dsimp only
      rw [qp_set_s, qp_set_s, pk_us]
      rfl
    · dsimp only at hl ⊢
      by_cases z : l = d + 1
      · subst z; rw [qp_set_s, pk_us]; rfl
      · rw [qp_set_n z, pk_un z]; exact g3 l (by omega)
theorem yp_leaf (S : qp_S V) (t n k a b : Nat) (ht : t < 16) (hk : k < 3 ∨ k = 10 ∨ k = 11) (hk0 : k = 0 → a < 6) (hk2 : k = 2 → 1 ≤ a ∧ a ≤ 63) (xa xb : Int32) (ha : xa.toNatClampNeg = a) (hb : xb.toNatClampNeg = b) (hA : k = 0 ∨ k = 2 → xa = nI a) (hno : yno = nI n) (hY : qp_Y lf un bi big S t yo yoa yob n yit ymo) (post : SY → Prop)
  (hp : ∀ (n' : Nat) (o' oa' ob' it' : Nat → Int32) (c : Nat), n' < 40 → it' S.1 = nI c → qp_Y lf un bi big (qp_step lf un bi big k a b S) (t + 1) (upd o' n' (nI k)) (upd oa' n' xa) (upd ob' n' xb) (n' + 1) (upd it' S.1 (nI (c + 1))) ymo → post (ywa, ydd, ynd, yns, yma, ynt, nI n', yrc, yfo, ybl, yod, ywr, yan, yab, yac, yad, yal, yabl, yacl, yacf, ynu, yfi, ypa, ysz, yli, ytx, yki, yf1, yf2, o', oa', ob', it', yss, ymo, yst, ymy, ycl, yrw, yow, yen, yhi, yla)) : wpY_both post (ywa, ydd, ynd, yns, yma, ynt, yno, yrc, yfo, ybl, yod, ywr, yan, yab, yac, yad, yal, yabl, yacl, yacf, ynu, yfi, ypa, ysz, yli, ytx, yki, yf1, yf2, yo, yoa, yob, yit, yss, ymo, yst, ymy, ycl, yrw, yow, yen, yhi, yla) (nI S.1) := by
  obtain ⟨d, fa, fs, fi, B⟩ := S
  obtain ⟨h1, h2, h3, h4, h5, g1, g2, g3⟩ := hY
  dsimp only at h1 h2 h3 h4 h5 g1 g2 g3
  unfold qp_st at h3 h4 h5
  dsimp only at h3 h4 h5
  have hsi := h1 d (Nat.le_refl _)
  refine ye_both lf un bi big d n (by omega) (by omega) hno (fa d) (fs d) (fi d) (qp_lows bi fa fs fi d) _ h5 (by omega) hsi g2 post (fun n' o' oa' ob' it' hO hn hl hi0 hoth => ?_)
  refine hp n' o' oa' ob' it' (qp_c (fi d)) (by omega) hi0 ?_
  have e1 : qp_step lf un bi big k a b (d, fa, fs, fi, B) = (d, fa, qp_set fs d (qp_join bi (fs d) (fi d)), qp_set fi d (some (qp_leaf lf k a)), (B ∨ qp_jbig bi big (fs d) (fi d)) ∨ big (qp_leaf lf k a)) := by
    unfold qp_step
    rw [if_neg (by omega), if_neg (by omega), if_neg (by omega), if_neg (by omega)]
    rfl
  rw [e1]
  have hyy : qp_y lf un bi k a b (qp_low bi (fa d) (fs d) (fi d) ++ qp_lows bi fa fs fi d) = qp_leaf lf k a :: (qp_low bi (fa d) (fs d) (fi d) ++ qp_lows bi fa fs fi d) := by
    unfold qp_y
    rw [if_neg (by omega), if_neg (by omega), if_neg (by omega)]
  have hO' := qp_YO_emit lf un bi big hO k a b xa xb (by omega) ha hb hA (fun h => absurd h (by omega)) ⟨by omega, by omega, hk0, hk2, fun h => absurd h (by omega), fun h => absurd h (by omega), fun h => absurd h (by omega)⟩ (by rw [hyy, List.length_cons]; omega)
  rw [hyy] at hO'
  generalize hLF : qp_leaf lf k a = LF at *
  have hlo : qp_lows bi fa (qp_set fs d (qp_join bi (fs d) (fi d))) (qp_set fi d (some LF)) d = qp_lows bi fa fs fi d := qp_lows_cg bi d (fun l hl => ⟨rfl, qp_set_n (by omega), qp_set_n (by omega)⟩)
  have hst' : ∀ Q : Prop, qp_st bi (d, fa, qp_set fs d (qp_join bi (fs d) (fi d)), qp_set fi d (some LF), Q) = LF :: (qp_low bi (fa d) (fs d) (fi d) ++ qp_lows bi fa fs fi d) := by
    intro Q
    unfold qp_st
    dsimp only
    rw [qp_set_s, qp_set_s, hlo]
    rfl
  refine ⟨?_, by dsimp only; omega, by rw [hst', List.length_cons]; omega, by rw [hst', List.length_cons]; omega, ?_, ?_⟩
  · intro l hl hn'
    dsimp only at hn' hl ⊢
    by_cases z : l = d
    · subst z; rw [qp_set_s] at hn'; exact nomatch hn'
    · rw [qp_set_n z] at hn' ⊢; exact h1 l hl hn'
  · rw [hst']
    refine qp_YO_iff lf un bi big hO' rfl ?_
    unfold qp_pd
    dsimp only
    have hpe : (∃ l, l < d ∧ qp_jbig bi big (qp_set fs d (qp_join bi (fs d) (fi d)) l) (qp_set fi d (some LF) l)) ↔ ∃ l, l < d ∧ qp_jbig bi big (fs l) (fi l) := by
      constructor
      · rintro ⟨l, hl, h⟩; rw [qp_set_n (by omega), qp_set_n (by omega)] at h; exact ⟨l, hl, h⟩
      · rintro ⟨l, hl, h⟩; exact ⟨l, hl, by rw [qp_set_n (by omega), qp_set_n (by omega)]; exact h⟩
    rw [hpe]
    have hbb : qp_big1 big (LF :: (qp_low bi (fa d) (fs d) (fi d) ++ qp_lows bi fa fs fi d)) ↔ big LF := by
      constructor
      · rintro ⟨v, s, e, h⟩; rw [(List.cons.inj e).1]; exact h
      · exact fun h => ⟨_, _, rfl, h⟩
    rw [hbb]
    constructor
    · rintro (((h | h) | h) | h)
      · exact Or.inl (Or.inl (Or.inl h))
      · exact Or.inr h
      · exact Or.inl (Or.inl (Or.inr h))
      · exact Or.inl (Or.inr h)
    · rintro (((h | h) | h) | h)
      · exact Or.inl (Or.inl (Or.inl h))
      · exact Or.inl (Or.inr h)
      · exact Or.inr h
      · exact Or.inl (Or.inl (Or.inr h))
  · refine ⟨fun l hl => ?_, ?_, g3⟩
    · dsimp only at hl ⊢
      rw [qp_set_n (by omega), pk_un (by omega), hoth l (by omega)]; exact g1 l hl
    · dsimp only
      rw [qp_set_s, qp_set_s, pk_us, qp_c_join bi _ _ hsi]
      rfl
/-- the first token that no alt goes on with -/
def qp_badb (k : Nat) (S : qp_S V) : Bool := (decide (6 ≤ k ∧ k ≤ 9) && (S.2.2.2.1 S.1).isNone) || (decide (k = 4) && decide (S.1 = 0))
def qp_wr (K A B : Nat → Nat) (nt : Nat) : Nat → Nat → Int32
  | 0, _ => if (qp_run lf un bi big K A B nt).1 = 0 then -1 else nI nt
  | m + 1, t => if qp_badb (K t) (qp_run lf un bi big K A B t) = true then nI t else qp_wr K A B nt m (t + 1)
def qp_wrong (K A B : Nat → Nat) (nt : Nat) : Int32 := qp_wr lf un bi big K A B nt nt 0
def qk_K (a : Nat → Int32) : Nat → Nat := fun t => (a t).toNatClampNeg
theorem yp_loop (nt : Nat) (hk : qk_ok yki yf1 yf2 nt) (hnt : ynt = nI nt) (hnb : ¬ big (lf 12 0)) (post : Int32 → SY → Prop)
  (hb : ∀ (r : Int32) (no : Int32) (o' oa' ob' it' mo' : Nat → Int32), r = qp_wrong lf un bi big (qk_K yki) (qk_K yf1) (qk_K yf2) nt → r ≠ -1 → post r (ywa, ydd, ynd, yns, yma, ynt, no, yrc, yfo, ybl, yod, ywr, yan, yab, yac, yad, yal, yabl, yacl, yacf, ynu, yfi, ypa, ysz, yli, ytx, yki, yf1, yf2, o', oa', ob', it', yss, mo', yst, ymy, ycl, yrw, yow, yen, yhi, yla))
  (hg : ∀ (n' : Nat) (o' oa' ob' it' mo' : Nat → Int32), qp_wrong lf un bi big (qk_K yki) (qk_K yf1) (qk_K yf2) nt = -1 → n' ≤ 33 → qp_YO lf un bi big o' oa' ob' n' [qp_alt bi ((qp_run lf un bi big (qk_K yki) (qk_K yf1) (qk_K yf2) nt).2.1 0) (qp_sq lf (qp_join bi ((qp_run lf un bi big (qk_K yki) (qk_K yf1) (qk_K yf2) nt).2.2.1 0) ((qp_run lf un bi big (qk_K yki) (qk_K yf1) (qk_K yf2) nt).2.2.2.1 0)))] (qp_end lf bi big 0 (qp_run lf un bi big (qk_K yki) (qk_K yf1) (qk_K yf2) nt)).2.2.2.2 → post (-1) (ywa, ydd, ynd, yns, yma, ynt, nI n', yrc, yfo, ybl, yod, ywr, yan, yab, yac, yad, yal, yabl, yacl, yacf, ynu, yfi, ypa, ysz, yli, ytx, yki, yf1, yf2, o', oa', ob', it', yss, mo', yst, ymy, ycl, yrw, yow, yen, yhi, yla)) :
  ∀ (N t n : Nat) (o' oa' ob' it' mo' : Nat → Int32), t ≤ nt → nt - t < N → qp_wr lf un bi big (qk_K yki) (qk_K yf1) (qk_K yf2) nt (nt - t) t = qp_wrong lf un bi big (qk_K yki) (qk_K yf1) (qk_K yf2) nt → qp_Y lf un bi big (qp_run lf un bi big (qk_K yki) (qk_K yf1) (qk_K yf2) t) t o' oa' ob' n it' mo' → wY_parse_16 post N (nI (qp_run lf un bi big (qk_K yki) (qk_K yf1) (qk_K yf2) t).1) (nI (qp_c ((qp_run lf un bi big (qk_K yki) (qk_K yf1) (qk_K yf2) t).2.2.2.1 (qp_run lf un bi big (qk_K yki) (qk_K yf1) (qk_K yf2) t).1))) (nI t) ywa ydd ynd yns yma ynt (nI n) yrc yfo ybl yod ywr yan yab yac yad yal yabl yacl yacf ynu yfi ypa ysz yli ytx yki yf1 yf2 o' oa' ob' it' yss mo' yst ymy ycl yrw yow yen yhi yla := by
  intro N
  subst hnt
  have h16 := hk.1
  induction N with
  | zero => intro t n o' oa' ob' it' mo' h1 h2; omega
  | succ N ih =>
    intro t n o' oa' ob' it' mo' h1 h2 h3 h4
    have hdt := h4.2.1
    refine pk_le nt t (fun hle => ?_) (fun hlt => ?_)
    · have e : t = nt := by omega
      subst e
      rw [Nat.sub_self] at h3
      unfold qp_wr at h3
      refine pk_le (qp_run lf un bi big (qk_K yki) (qk_K yf1) (qk_K yf2) t).1 0 (fun hz => ?_) (fun hz => ?_)
      · rw [if_pos (by omega)] at h3
        have e0 : (qp_run lf un bi big (qk_K yki) (qk_K yf1) (qk_K yf2) t).1 = 0 := by omega
        obtain ⟨g1, g2, g3, g4, g5, l1, l2, l3⟩ := h4
        generalize qp_run lf un bi big (qk_K yki) (qk_K yf1) (qk_K yf2) t = S at *
        obtain ⟨d, fa, fs, fi, B⟩ := S
        dsimp only at e0 g1 g2 g3 g4 g5 l1 l2 l3 hg
        subst e0
        unfold qp_st at g3 g4 g5
        dsimp only at g3 g4 g5
        refine ye_end lf un bi big 0 n (by omega) (by omega) rfl (fa 0) (fs 0) (fi 0) [] _ hnb g5 (by show _ ≤ 16; exact Nat.le_trans g4 (by omega)) (g1 0 (Nat.le_refl _)) l2 (l3 0 (Nat.le_refl _)) _ (fun n' o2 oa2 ob2 it2 mo2 hO hn hl hi0 hm1 hoth => ?_)
        have g3' : n + (qp_top (fa 0) (fs 0) (fi 0) ++ []).length ≤ 2 * t := g3
        refine hg n' o2 oa2 ob2 it2 mo2 h3.symm (by simp only [List.length_nil] at hn; omega) (qp_YO_iff lf un bi big hO rfl ?_)
        unfold qp_end qp_pd
        dsimp only
        constructor
        · rintro (((h | ⟨l, hl, _⟩) | h) | h)
          · exact Or.inl (Or.inl h)
          · exact absurd hl (by omega)
          · exact Or.inl (Or.inr h)
          · exact Or.inr h
        · rintro ((h | h) | h)
          · exact Or.inl (Or.inl (Or.inl h))
          · exact Or.inl (Or.inr h)
          · exact Or.inr h
      · rw [if_neg (by omega)] at h3
        exact hb _ _ _ _ _ _ _ h3 (xs_nm1 (by omega))
    · have hm : nt - t = (nt - (t + 1)) + 1 := by omega
      rw [hm] at h3
      unfold qp_wr at h3
      obtain ⟨k, hk12, ek, q0, q2, q9⟩ := hk.2 t hlt
      have eK : qk_K yki t = k := by unfold qk_K; rw [ek]; exact nI_clamp (by omega)
      have hrun : qp_run lf un bi big (qk_K yki) (qk_K yf1) (qk_K yf2) (t + 1) = qp_step lf un bi big k (qk_K yf1 t) (qk_K yf2 t) (qp_run lf un bi big (qk_K yki) (qk_K yf1) (qk_K yf2) t) := by
        show qp_step lf un bi big (qk_K yki t) _ _ _ = _
        rw [eK]
      rw [eK] at h3
      have ct : (nI t).toNatClampNeg = t := nI_clamp (by omega)
      have hit : vp_in (nI t) 16 := pk_in t 16 (by omega)
      have next := fun (n2 : Nat) (o2 oa2 ob2 it2 mo2 : Nat → Int32) (hw : qp_badb k (qp_run lf un bi big (qk_K yki) (qk_K yf1) (qk_K yf2) t) = false) (h : qp_Y lf un bi big (qp_step lf un bi big k (qk_K yf1 t) (qk_K yf2 t) (qp_run lf un bi big (qk_K yki) (qk_K yf1) (qk_K yf2) t)) (t + 1) o2 oa2 ob2 n2 it2 mo2) => ih (t + 1) n2 o2 oa2 ob2 it2 mo2 (by omega) (by omega) (by rw [hw] at h3; exact h3) (by rw [hrun]; exact h)
      rw [hrun] at next
      generalize hS : qp_run lf un bi big (qk_K yki) (qk_K yf1) (qk_K yf2) t = S at *
      refine ⟨hit, nm_r (e' := nI k) (by rw [ct]; exact ek) ?_⟩
      by_cases hrep : 6 ≤ k ∧ k ≤ 9
      · refine ys_in (nI k) 6 9 (by decide) (by decide) 6 9 rfl rfl _ (fun z => absurd rfl (z k hrep.1 hrep.2)) (fun _ _ _ _ => br_f (by decide) ?_)
        cases hfi : S.2.2.2.1 S.1 with
        | none =>
          refine br_t rfl ?_
          have hbad : qp_badb k S = true := by unfold qp_badb; rw [hfi]; simp [hrep]
          rw [if_pos hbad] at h3
          exact hb _ _ _ _ _ _ _ h3 (xs_nm1 (by omega))
        | some x =>
          have hnb' : qp_badb k S = false := by unfold qp_badb; rw [hfi]; simp; omega
          have n4 : ¬ nI k = 4 := fun e => by rw [show (4 : Int32) = nI 4 from rfl, nI_eq (by omega) (by omega)] at e; omega
          have n5 : ¬ nI k = 5 := fun e => by rw [show (5 : Int32) = nI 5 from rfl, nI_eq (by omega) (by omega)] at e; omega
          have n3 : ¬ nI k = 3 := fun e => by rw [show (3 : Int32) = nI 3 from rfl, nI_eq (by omega) (by omega)] at e; omega
          have hn40 : n < 40 := by have := h4.2.2.1; omega
          refine br_f (by show ¬ nI 1 = 0; decide) (br_f n4 (br_f n5 (br_f n3 (br_f (by decide) ⟨hit, hit, ?_⟩))))
          rw [ct]
          refine ye_emit n hn40 rfl _ _ _ _ (nm_r (nI_1 t) ?_)
          have hh := yp_rep lf un bi big S t n k (qk_K yf1 t) (qk_K yf2 t) x (by omega) hrep (fun e9 => by
            obtain ⟨a, b, h1, h2, e1, e2⟩ := q9 e9
            unfold qk_K
            rw [e1, e2, nI_clamp (by omega), nI_clamp (by omega)]
            exact ⟨h1, h2⟩) (yf1 t) (yf2 t) rfl rfl (fun e9 => by
            obtain ⟨a, b, h1, h2, e1, e2⟩ := q9 e9
            unfold qk_K
            rw [e1, e2, nI_clamp (by omega), nI_clamp (by omega)]
            exact ⟨rfl, rfl⟩) hfi h4
          have hnx := next _ _ _ _ _ _ hnb' hh
          have e1 : qp_step lf un bi big k (qk_K yf1 t) (qk_K yf2 t) S = (S.1, S.2.1, S.2.2.1, qp_set S.2.2.2.1 S.1 (some (qp_rep lf un bi k (qk_K yf1 t) (qk_K yf2 t) ((S.2.2.2.1 S.1).getD (lf 12 0)))), S.2.2.2.2 ∨ big (qp_rep lf un bi k (qk_K yf1 t) (qk_K yf2 t) ((S.2.2.2.1 S.1).getD (lf 12 0)))) := by
            unfold qp_step
            rw [if_neg (by omega), if_neg (by omega), if_neg (by omega), if_pos (by omega)]
          rw [e1] at hnx
          dsimp only at hnx
          rw [qp_set_s] at hnx
          exact hnx
      · refine ys_in (nI k) 6 9 (by decide) (by decide) 6 9 rfl rfl _ (fun _ => br_t rfl ?_) (fun j h5 h6 e => by rw [nI_eq (by omega) (by omega)] at e; omega)
        by_cases k4 : k = 4
        · subst k4
          refine br_t rfl (pk_eq S.1 0 (fun hz => ?_) (fun hz => ?_))
          · have hbad : qp_badb 4 S = true := by unfold qp_badb; simp [hz]
            rw [if_pos hbad] at h3
            exact hb _ _ _ _ _ _ _ h3 (xs_nm1 (by omega))
          · have hnb' : qp_badb 4 S = false := by unfold qp_badb; simp [hz]
            refine br_f (by decide) (br_f (by decide) (br_t rfl (br_f (by decide) (br_t rfl ?_))))
            refine yp_close lf un bi big S t n (qk_K yf1 t) (qk_K yf2 t) (by omega) hz hnb rfl h4 _ (fun n' o2 oa2 ob2 it2 mo2 c hc hh => ?_)
            have e1 : nI S.1 + (-1) = nI (S.1 - 1) := by
              obtain ⟨m, hm'⟩ : ∃ m, S.1 = m + 1 := ⟨S.1 - 1, by omega⟩
              rw [hm', pk_m1]
              rfl
            refine nm_r e1 ⟨pk_in (S.1 - 1) 20 (by omega), pk_in (S.1 - 1) 20 (by omega), nm_e (nm_r (nI_1 t) ?_)⟩
            rw [nI_clamp (by omega), hc, nI_1]
            have hnx := next _ _ _ _ _ _ hnb' hh
            have e2 : (qp_step lf un bi big 4 (qk_K yf1 t) (qk_K yf2 t) S).1 = S.1 - 1 := rfl
            have e3 : (qp_step lf un bi big 4 (qk_K yf1 t) (qk_K yf2 t) S).2.2.2.1 (S.1 - 1) = some (qp_alt bi (S.2.1 S.1) (qp_sq lf (qp_join bi (S.2.2.1 S.1) (S.2.2.2.1 S.1)))) := by
              show qp_set _ (S.1 - 1) ((qp_set S.2.1 S.1 _) S.1) (S.1 - 1) = _
              rw [qp_set_s, qp_set_s]
            rw [e2, e3] at hnx
            exact hnx
        · have n4 : ¬ nI k = 4 := fun e => by rw [show (4 : Int32) = nI 4 from rfl, nI_eq (by omega) (by omega)] at e; omega
          have hnb' : qp_badb k S = false := by unfold qp_badb; simp [hrep, k4]
          refine br_f n4 ?_
          by_cases k5 : k = 5
          · subst k5
            refine br_t rfl (br_t rfl (br_t rfl ?_))
            refine yp_bar lf un bi big S t n (qk_K yf1 t) (qk_K yf2 t) (by omega) hnb rfl h4 _ (fun n' o2 oa2 ob2 it2 mo2 hh => nm_r (nI_1 t) ?_)
            have hnx := next _ _ _ _ _ _ hnb' hh
            have e2 : (qp_step lf un bi big 5 (qk_K yf1 t) (qk_K yf2 t) S).1 = S.1 := rfl
            have e3 : (qp_step lf un bi big 5 (qk_K yf1 t) (qk_K yf2 t) S).2.2.2.1 S.1 = none := by
              show qp_set S.2.2.2.1 S.1 none S.1 = none
              rw [qp_set_s]
            rw [e2, e3] at hnx
            exact hnx
          · have n5 : ¬ nI k = 5 := fun e => by rw [show (5 : Int32) = nI 5 from rfl, nI_eq (by omega) (by omega)] at e; omega
            refine br_f n5 ?_
            by_cases k3 : k = 3
            · subst k3
              refine br_t rfl (br_t rfl (br_f (by decide) (br_f (by decide) ?_)))
              refine yp_open lf un bi big S t n (qk_K yf1 t) (qk_K yf2 t) (by omega) rfl h4 _ (fun n' o2 oa2 ob2 it2 hh => br_t rfl (nm_r (nI_1 _) ?_))
              have hil : vp_in (nI (S.1 + 1)) 20 := pk_in (S.1 + 1) 20 (by omega)
              refine And.intro hil (nm_e (And.intro hil (nm_e (nm_r (nI_1 t) ?_))))
              rw [nI_clamp (by omega), xs_b0]
              have hnx := next _ _ _ _ _ _ hnb' hh
              have e2 : (qp_step lf un bi big 3 (qk_K yf1 t) (qk_K yf2 t) S).1 = S.1 + 1 := rfl
              have e3 : (qp_step lf un bi big 3 (qk_K yf1 t) (qk_K yf2 t) S).2.2.2.1 (S.1 + 1) = none := by
                show qp_set S.2.2.2.1 (S.1 + 1) none (S.1 + 1) = none
                rw [qp_set_s]
              rw [e2, e3] at hnx
              exact hnx
            · have n3 : ¬ nI k = 3 := fun e => by rw [show (3 : Int32) = nI 3 from rfl, nI_eq (by omega) (by omega)] at e; omega
              refine br_f n3 (br_t rfl (br_f n5 (br_f n4 ?_)))
              have hq0 : k = 0 → qk_K yf1 t < 6 := fun e => by
                obtain ⟨a, h1, e1⟩ := q0 e
                unfold qk_K
                rw [e1, nI_clamp (by omega)]; exact h1
              have hq2 : k = 2 → 1 ≤ qk_K yf1 t ∧ qk_K yf1 t ≤ 63 := fun e => by
                obtain ⟨a, h1, h2, e1⟩ := q2 e
                unfold qk_K
                rw [e1, nI_clamp (by omega)]; exact ⟨h1, h2⟩
              have hqA : k = 0 ∨ k = 2 → yf1 t = nI (qk_K yf1 t) := fun e => by
                unfold qk_K
                rcases e with e | e
                · obtain ⟨a, h1, e1⟩ := q0 e
                  rw [e1, nI_clamp (by omega)]
                · obtain ⟨a, h1, h2, e1⟩ := q2 e
                  rw [e1, nI_clamp (by omega)]
              refine yp_leaf lf un bi big S t n k (qk_K yf1 t) (qk_K yf2 t) (by omega) (by omega) hq0 hq2 (yf1 t) (yf2 t) rfl rfl hqA rfl h4 _ (fun n' o2 oa2 ob2 it2 c hn' hc hh => br_f n3 ⟨hit, hit, ?_⟩)
              rw [ct]
              refine ye_emit n' hn' rfl _ _ _ _ ⟨pk_in S.1 20 (by omega), pk_in S.1 20 (by omega), nm_e (nm_r (nI_1 t) ?_)⟩
              rw [nI_clamp (by omega), hc, nI_1]
              have hnx := next _ _ _ _ _ _ hnb' hh
              have e1 : qp_step lf un bi big k (qk_K yf1 t) (qk_K yf2 t) S = ((qp_take bi big S.1 (some (qp_leaf lf k (qk_K yf1 t))) S).1, (qp_take bi big S.1 (some (qp_leaf lf k (qk_K yf1 t))) S).2.1, (qp_take bi big S.1 (some (qp_leaf lf k (qk_K yf1 t))) S).2.2.1, (qp_take bi big S.1 (some (qp_leaf lf k (qk_K yf1 t))) S).2.2.2.1, (qp_take bi big S.1 (some (qp_leaf lf k (qk_K yf1 t))) S).2.2.2.2 ∨ big (qp_leaf lf k (qk_K yf1 t))) := by
                unfold qp_step
                rw [if_neg (by omega), if_neg (by omega), if_neg (by omega), if_neg (by omega)]
              rw [e1] at hnx
              have e3 : (qp_take bi big S.1 (some (qp_leaf lf k (qk_K yf1 t))) S).2.2.2.1 S.1 = some (qp_leaf lf k (qk_K yf1 t)) := by
                show qp_set S.2.2.2.1 S.1 _ S.1 = _
                rw [qp_set_s]
              have e2 : (qp_take bi big S.1 (some (qp_leaf lf k (qk_K yf1 t))) S).1 = S.1 := rfl
              dsimp only at hnx
              rw [e2, e3] at hnx
              exact hnx
end
