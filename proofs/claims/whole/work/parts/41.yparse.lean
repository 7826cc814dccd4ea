/-! the reference reads a token -/
section
variable {V : Type} (lf : Nat → Nat → V) (un : Nat → Nat → Nat → V → V) (bi : Nat → V → V → V) (big : V → Prop)
theorem qp_c_join (s i : Option V) (h : i = none → s = none) : qp_c (qp_join bi s i) = qp_c i := by
  match s, i with
  | none, none => rfl
  | none, some x => rfl
  | some y, none => exact absurd (h rfl) (fun z => nomatch z)
  | some y, some x => rfl
theorem qp_top_cons (a s : Option V) (x : V) : qp_top a s (some x) = x :: (s.toList ++ a.toList) := rfl
variable {ywa ydd ynd yns yma ynt yno yrc yfo ybl yod ywr : Int32} {yan yab yac yad yal yabl yacl yacf ynu yfi ypa ysz yli ytx yki yf1 yf2 yo yoa yob yit yss ymo yst ymy ycl yrw yow yhi yla : Nat → Int32} {yen : Nat → Int64}
theorem yp_rep (S : qp_S V) (t n k a b : Nat) (x : V) (ht : t < 16) (hk : 6 ≤ k ∧ k ≤ 9) (hab : k = 9 → a ≤ b ∧ b ≤ 3) (xa xb : Int32) (ha : xa.toNatClampNeg = a) (hb : xb.toNatClampNeg = b) (hB : k = 9 → xa = nI a ∧ xb = nI b) (hx : S.2.2.2.1 S.1 = some x) (hY : qp_Y lf un bi big S t yo yoa yob n yit ymo) : qp_Y lf un bi big (qp_step lf un bi big k a b S) (t + 1) (upd yo n (nI k)) (upd yoa n xa) (upd yob n xb) (n + 1) yit ymo := by
  obtain ⟨d, fa, fs, fi, B⟩ := S
  obtain ⟨h1, h2, h3, h4, h5, h6⟩ := hY
  dsimp only at hx h1 h2 h3 h4 h5 h6
  have hst : qp_st bi (d, fa, fs, fi, B) = x :: (((fs d).toList ++ (fa d).toList) ++ qp_lows bi fa fs fi d) := by
    unfold qp_st
    dsimp only
    rw [hx]
    rfl
  have e1 : qp_step lf un bi big k a b (d, fa, fs, fi, B) = (d, fa, fs, qp_set fi d (some (qp_rep lf un bi k a b x)), B ∨ big (qp_rep lf un bi k a b x)) := by
    unfold qp_step
    rw [if_neg (by omega), if_neg (by omega), if_neg (by omega), if_pos (by omega)]
    dsimp only
    rw [hx]
    rfl
  rw [e1]
  have hlo : qp_lows bi fa fs (qp_set fi d (some (qp_rep lf un bi k a b x))) d = qp_lows bi fa fs fi d := qp_lows_cg bi d (fun l hl => ⟨rfl, rfl, qp_set_n (by omega)⟩)
  have hst' : qp_st bi (d, fa, fs, qp_set fi d (some (qp_rep lf un bi k a b x)), B ∨ big (qp_rep lf un bi k a b x)) = qp_rep lf un bi k a b x :: (((fs d).toList ++ (fa d).toList) ++ qp_lows bi fa fs fi d) := by
    unfold qp_st
    dsimp only
    rw [qp_set_s, hlo]
    rfl
  rw [hst] at h3 h4 h5
  have hyy : qp_y lf un bi k a b (x :: (((fs d).toList ++ (fa d).toList) ++ qp_lows bi fa fs fi d)) = qp_rep lf un bi k a b x :: (((fs d).toList ++ (fa d).toList) ++ qp_lows bi fa fs fi d) := by
    unfold qp_y
    rw [if_neg (by omega), if_pos hk]
  have hO' := qp_YO_emit lf un bi big h5 k a b xa xb (by omega) ha hb (fun h => absurd h (by omega)) hB ⟨by omega, by omega, fun h => absurd h (by omega), fun h => absurd h (by omega), hab, fun h => absurd h (by omega), fun _ => by simp⟩ (by rw [hyy]; simp at h4 ⊢; omega)
  rw [hyy] at hO'
  refine ⟨?_, by dsimp only; omega, by rw [hst']; simp at h3 ⊢; omega, by rw [hst']; simp at h4 ⊢; omega, ?_, ?_⟩
  · intro l hl hn
    dsimp only at hn hl ⊢
    by_cases z : l = d
    · subst z; rw [qp_set_s] at hn; exact nomatch hn
    · rw [qp_set_n z] at hn; exact h1 l hl hn
  · rw [hst']
    refine qp_YO_iff lf un bi big hO' rfl ?_
    unfold qp_pd
    dsimp only
    have hpe : (∃ l, l < d ∧ qp_jbig bi big (fs l) (qp_set fi d (some (qp_rep lf un bi k a b x)) l)) ↔ ∃ l, l < d ∧ qp_jbig bi big (fs l) (fi l) := by
      constructor
      · rintro ⟨l, hl, h⟩; rw [qp_set_n (by omega)] at h; exact ⟨l, hl, h⟩
      · rintro ⟨l, hl, h⟩; exact ⟨l, hl, by rw [qp_set_n (by omega)]; exact h⟩
    rw [hpe]
    have hbb : qp_big1 big (qp_rep lf un bi k a b x :: (((fs d).toList ++ (fa d).toList) ++ qp_lows bi fa fs fi d)) ↔ big (qp_rep lf un bi k a b x) := by
      constructor
      · rintro ⟨v, s, e, h⟩; rw [(List.cons.inj e).1]; exact h
      · exact fun h => ⟨_, _, rfl, h⟩
    rw [hbb]
    constructor
    · rintro ((h | h) | h)
      · exact Or.inl (Or.inl h)
      · exact Or.inr h
      · exact Or.inl (Or.inr h)
    · rintro ((h | h) | h)
      · exact Or.inl (Or.inl h)
      · exact Or.inr h
      · exact Or.inl (Or.inr h)
  · obtain ⟨g1, g2, g3⟩ := h6
    dsimp only at g1 g2 g3
    refine ⟨fun l hl => ?_, ?_, g3⟩
    · dsimp only at hl ⊢
      rw [qp_set_n (by omega)]; exact g1 l hl
    · dsimp only
      rw [qp_set_s, g2, hx]
      rfl
theorem yp_bar (S : qp_S V) (t n a b : Nat) (ht : t < 16) (hnb : ¬ big (lf 12 0)) (hno : yno = nI n) (hY : qp_Y lf un bi big S t yo yoa yob n yit ymo) (post : SY → Prop)
  (hp : ∀ (n' : Nat) (o' oa' ob' it' mo' : Nat → Int32), qp_Y lf un bi big (qp_step lf un bi big 5 a b S) (t + 1) o' oa' ob' n' it' mo' → post (ywa, ydd, ynd, yns, yma, ynt, nI n', yrc, yfo, ybl, yod, ywr, yan, yab, yac, yad, yal, yabl, yacl, yacf, ynu, yfi, ypa, ysz, yli, ytx, yki, yf1, yf2, o', oa', ob', it', yss, mo', yst, ymy, ycl, yrw, yow, yen, yhi, yla)) : wpY_endSeq post (ywa, ydd, ynd, yns, yma, ynt, yno, yrc, yfo, ybl, yod, ywr, yan, yab, yac, yad, yal, yabl, yacl, yacf, ynu, yfi, ypa, ysz, yli, ytx, yki, yf1, yf2, yo, yoa, yob, yit, yss, ymo, yst, ymy, ycl, yrw, yow, yen, yhi, yla) (nI S.1) := by
  obtain ⟨d, fa, fs, fi, B⟩ := S
  obtain ⟨h1, h2, h3, h4, h5, g1, g2, g3⟩ := hY
  dsimp only at h1 h2 h3 h4 h5 g1 g2 g3
  unfold qp_st at h3 h4 h5
  dsimp only at h3 h4 h5
  refine ye_end lf un bi big d n (by omega) (by omega) hno (fa d) (fs d) (fi d) (qp_lows bi fa fs fi d) _ hnb h5 (by omega) (h1 d (Nat.le_refl _)) g2 (g3 d (Nat.le_refl _)) post (fun n' o' oa' ob' it' mo' hO hn hl hi0 hm1 hoth => ?_)
  apply hp
  have e1 : qp_step lf un bi big 5 a b (d, fa, fs, fi, B) = qp_end lf bi big d (d, fa, fs, fi, B) := rfl
  rw [e1]
  unfold qp_end
  dsimp only
  generalize hal : qp_alt bi (fa d) (qp_sq lf (qp_join bi (fs d) (fi d))) = al at *
  have hlo : qp_lows bi (qp_set fa d (some al)) (qp_set fs d none) (qp_set fi d none) d = qp_lows bi fa fs fi d := qp_lows_cg bi d (fun l hl => ⟨qp_set_n (by omega), qp_set_n (by omega), qp_set_n (by omega)⟩)
  have hst' : ∀ Q : Prop, qp_st bi (d, qp_set fa d (some al), qp_set fs d none, qp_set fi d none, Q) = al :: qp_lows bi fa fs fi d := by
    intro Q
    unfold qp_st
    dsimp only
    rw [qp_set_s, qp_set_s, qp_set_s, hlo]
    rfl
  refine ⟨?_, by dsimp only; omega, by rw [hst']; rw [List.length_cons]; omega, by rw [hst']; rw [List.length_cons]; omega, ?_, ?_⟩
  · intro l hl hn
    dsimp only at hn hl ⊢
    by_cases z : l = d
    · subst z; rw [qp_set_s]
    · rw [qp_set_n z] at hn ⊢; exact h1 l hl hn
  · rw [hst']
    refine qp_YO_iff lf un bi big hO rfl ?_
    unfold qp_pd
    dsimp only
    have hpe : (∃ l, l < d ∧ qp_jbig bi big (qp_set fs d none l) (qp_set fi d none l)) ↔ ∃ l, l < d ∧ qp_jbig bi big (fs l) (fi l) := by
      constructor
      · rintro ⟨l, hl, h⟩; rw [qp_set_n (by omega), qp_set_n (by omega)] at h; exact ⟨l, hl, h⟩
      · rintro ⟨l, hl, h⟩; exact ⟨l, hl, by rw [qp_set_n (by omega), qp_set_n (by omega)]; exact h⟩
    rw [hpe]
    constructor
    · rintro (((h | h) | h) | h)
      · exact Or.inl (Or.inl (Or.inl h))
      · exact Or.inr h
      · exact Or.inl (Or.inl (Or.inr h))
      · exact Or.inl (Or.inr h)
    · rintro (((h | h) | h) | h)
      · exact Or.inl (Or.inl (Or.inl h))
      · exact Or.inl (Or.inr h)
      · exact Or.inr h
      · exact Or.inl (Or.inl (Or.inr h))
  · refine ⟨fun l hl => ?_, ?_, fun l hl => ?_⟩
    · dsimp only at hl ⊢
      rw [qp_set_n (by omega), (hoth l (by omega)).1]; exact g1 l hl
    · dsimp only
      rw [qp_set_s, qp_set_s, hi0]
      rfl
    · dsimp only at hl ⊢
      by_cases z : l = d
      · subst z; rw [qp_set_s, hm1]; rfl
      · rw [qp_set_n z, (hoth l z).2]; exact g3 l hl
theorem yp_close (S : qp_S V) (t n a b : Nat) (ht : t < 16) (hd0 : S.1 ≠ 0) (hnb : ¬ big (lf 12 0)) (hno : yno = nI n) (hY : qp_Y lf un bi big S t yo yoa yob n yit ymo) (post : SY → Prop)
  (hp : ∀ (n' : Nat) (o' oa' ob' it' mo' : Nat → Int32) (c : Nat), it' (S.1 - 1) = nI c → qp_Y lf un bi big (qp_step lf un bi big 4 a b S) (t + 1) o' oa' ob' n' (upd it' (S.1 - 1) (nI (c + 1))) mo' → post (ywa, ydd, ynd, yns, yma, ynt, nI n', yrc, yfo, ybl, yod, ywr, yan, yab, yac, yad, yal, yabl, yacl, yacf, ynu, yfi, ypa, ysz, yli, ytx, yki, yf1, yf2, o', oa', ob', it', yss, mo', yst, ymy, ycl, yrw, yow, yen, yhi, yla)) : wpY_endSeq post (ywa, ydd, ynd, yns, yma, ynt, yno, yrc, yfo, ybl, yod, ywr, yan, yab, yac, yad, yal, yabl, yacl, yacf, ynu, yfi, ypa, ysz, yli, ytx, yki, yf1, yf2, yo, yoa, yob, yit, yss, ymo, yst, ymy, ycl, yrw, yow, yen, yhi, yla) (nI S.1) := by
  obtain ⟨d, fa, fs, fi, B⟩ := S
  obtain ⟨e, rfl⟩ : ∃ e, d = e + 1 := ⟨d - 1, by dsimp only at hd0; omega⟩
  obtain ⟨h1, h2, h3, h4, h5, g1, g2, g3⟩ := hY
  dsimp only at h1 h2 h3 h4 h5 g1 g2 g3
  unfold qp_st at h3 h4 h5
  dsimp only at h3 h4 h5
  refine ye_end lf un bi big (e + 1) n (by omega) (by omega) hno (fa (e + 1)) (fs (e + 1)) (fi (e + 1)) (qp_lows bi fa fs fi (e + 1)) _ hnb h5 (by omega) (h1 (e + 1) (Nat.le_refl _)) g2 (g3 (e + 1) (Nat.le_refl _)) post (fun n' o' oa' ob' it' mo' hO hn hl hi0 hm1 hoth => ?_)
  have hsi : fi e = none → fs e = none := h1 e (by omega)
  refine hp n' o' oa' ob' it' mo' (qp_c (fi e)) ?_ ?_
  · show it' (e + 1 - 1) = _
    rw [Nat.add_sub_cancel, (hoth e (by omega)).1]
    exact g1 e (by omega)
  have e1 : qp_step lf un bi big 4 a b (e + 1, fa, fs, fi, B) = qp_take bi big e ((qp_end lf bi big (e + 1) (e + 1, fa, fs, fi, B)).2.1 (e + 1)) (e, (qp_end lf bi big (e + 1) (e + 1, fa, fs, fi, B)).2) := rfl
  rw [e1]
  unfold qp_end qp_take
  dsimp only
  rw [qp_set_s, qp_set_n (show e ≠ e + 1 by omega), qp_set_n (show e ≠ e + 1 by omega)]
  generalize hal : qp_alt bi (fa (e + 1)) (qp_sq lf (qp_join bi (fs (e + 1)) (fi (e + 1)))) = al at *
  have hlo : qp_lows bi (qp_set fa (e + 1) (some al)) (qp_set (qp_set fs (e + 1) none) e (qp_join bi (fs e) (fi e))) (qp_set (qp_set fi (e + 1) none) e (some al)) e = qp_lows bi fa fs fi e := qp_lows_cg bi e (fun l hl => ⟨qp_set_n (by omega), by rw [qp_set_n (by omega), qp_set_n (by omega)], by rw [qp_set_n (by omega), qp_set_n (by omega)]⟩)
  have hst' : ∀ Q : Prop, qp_st bi (e, qp_set fa (e + 1) (some al), qp_set (qp_set fs (e + 1) none) e (qp_join bi (fs e) (fi e)), qp_set (qp_set fi (e + 1) none) e (some al), Q) = al :: qp_lows bi fa fs fi (e + 1) := by
    intro Q
    unfold qp_st
    dsimp only
    rw [qp_set_s, qp_set_s, qp_set_n (show e ≠ e + 1 by omega), hlo, qp_top_cons]
    show _ = al :: (qp_low bi (fa e) (fs e) (fi e) ++ qp_lows bi fa fs fi e)
    rfl
  refine ⟨?_, by dsimp only; omega, by rw [hst']; rw [List.length_cons]; omega, by rw [hst']; rw [List.length_cons]; omega, ?_, ?_⟩
  · intro l hl hn
    dsimp only at hn hl ⊢
    by_cases z : l = e
    · subst z; rw [qp_set_s] at hn; exact nomatch hn
    · rw [qp_set_n z, qp_set_n (by omega)] at hn ⊢; exact h1 l (by omega) hn
  · rw [hst']
    refine qp_YO_iff lf un bi big hO rfl ?_
    unfold qp_pd
    dsimp only
    have hpe : (∃ l, l < e ∧ qp_jbig bi big (qp_set (qp_set fs (e + 1) none) e (qp_join bi (fs e) (fi e)) l) (qp_set (qp_set fi (e + 1) none) e (some al) l)) ↔ ∃ l, l < e ∧ qp_jbig bi big (fs l) (fi l) := by
      constructor
      · rintro ⟨l, hl, h⟩; rw [qp_set_n (by omega), qp_set_n (by omega), qp_set_n (by omega), qp_set_n (by omega)] at h; exact ⟨l, hl, h⟩
      · rintro ⟨l, hl, h⟩; exact ⟨l, hl, by rw [qp_set_n (by omega), qp_set_n (by omega), qp_set_n (by omega), qp_set_n (by omega)]; exact h⟩
    have hpe2 : (∃ l, l < e + 1 ∧ qp_jbig bi big (fs l) (fi l)) ↔ qp_jbig bi big (fs e) (fi e) ∨ ∃ l, l < e ∧ qp_jbig bi big (fs l) (fi l) := by
      constructor
      · rintro ⟨l, hl, h⟩
        by_cases z : l = e
        · subst z; exact Or.inl h
        · exact Or.inr ⟨l, by omega, h⟩
      · rintro (h | ⟨l, hl, h⟩)
        · exact ⟨e, by omega, h⟩
        · exact ⟨l, by omega, h⟩
    rw [hpe, hpe2]
    constructor
    · rintro (((h | (h | h)) | h) | h)
      · exact Or.inl (Or.inl (Or.inl (Or.inl h)))
      · exact Or.inl (Or.inr h)
      · exact Or.inr h
      · exact Or.inl (Or.inl (Or.inl (Or.inr h)))
      · exact Or.inl (Or.inl (Or.inr h))
    · rintro ((((h | h) | h) | h) | h)
      · exact Or.inl (Or.inl (Or.inl h))
      · exact Or.inl (Or.inr h)
      · exact Or.inr h
      · exact Or.inl (Or.inl (Or.inr (Or.inl h)))
      · exact Or.inl (Or.inl (Or.inr (Or.inr h)))
  · refine ⟨fun l hl => ?_, ?_, fun l hl => ?_⟩
    · dsimp only at hl ⊢
      rw [qp_set_n (by omega), qp_set_n (by omega), pk_un (by omega), (hoth l (by omega)).1]; exact g1 l (by omega)
    · dsimp only
      rw [qp_set_s, qp_set_s, show e + 1 - 1 = e from rfl, pk_us, qp_c_join bi _ _ hsi]
      rfl
    · dsimp only at hl ⊢
      rw [qp_set_n (by omega), (hoth l (by omega)).2]; exact g3 l (by omega)
end
