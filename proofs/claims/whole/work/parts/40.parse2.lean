/-! the reader: what the reference's stack keeps -/
section
variable {V : Type} (lf : Nat → Nat → V) (un : Nat → Nat → Nat → V → V) (bi : Nat → V → V → V) (big : V → Prop)
theorem qp_y_mem (k a b : Nat) (st : List V) : ∀ v, v ∈ qp_y lf un bi k a b st → (∃ s, qp_y lf un bi k a b st = v :: s) ∨ v ∈ st := by
  intro v hv
  unfold qp_y at hv ⊢
  split at hv
  · rename_i h
    match st, hv with
    | [], hv => exact Or.inr hv
    | [x], hv => exact Or.inr hv
    | y :: x :: s, hv =>
      rcases List.mem_cons.mp hv with e | h'
      · exact Or.inl ⟨s, by rw [if_pos h, e]⟩
      · exact Or.inr (List.mem_cons_of_mem _ (List.mem_cons_of_mem _ h'))
  · rename_i h
    split at hv
    · rename_i h2
      match st, hv with
      | [], hv => exact Or.inr hv
      | x :: s, hv =>
        rcases List.mem_cons.mp hv with e | h'
        · exact Or.inl ⟨s, by rw [if_neg h, if_pos h2, e]⟩
        · exact Or.inr (List.mem_cons_of_mem _ h')
    · rename_i h2
      split at hv
      · rename_i h3
        rcases List.mem_cons.mp hv with e | h'
        · exact Or.inl ⟨st, by rw [if_neg h, if_neg h2, if_pos h3, e]⟩
        · exact Or.inr h'
      · rename_i h3
        rcases List.mem_cons.mp hv with e | h'
        · exact Or.inl ⟨st, by rw [if_neg h, if_neg h2, if_neg h3, e]⟩
        · exact Or.inr h'
theorem qp_yr_mem (O A B : Nat → Nat) : ∀ n v, v ∈ qp_yr lf un bi O A B n → ∃ k, k < n ∧ ∃ s, qp_yr lf un bi O A B (k + 1) = v :: s
  | 0, v, h => absurd h (by simp [qp_yr])
  | n + 1, v, h => by
    rcases qp_y_mem lf un bi (O n) (A n) (B n) (qp_yr lf un bi O A B n) v h with ⟨s, e⟩ | h'
    · exact ⟨n, by omega, s, e⟩
    · obtain ⟨k, hk, s, e⟩ := qp_yr_mem O A B n v h'
      exact ⟨k, by omega, s, e⟩
theorem qp_YO_big {op oa ob : Nat → Int32} {n : Nat} {st : List V} {P : Prop} (h : qp_YO lf un bi big op oa ob n st P) {v : V} (hv : v ∈ st) (hb : big v) : P := by
  obtain ⟨h1, h2, _⟩ := h
  rw [← h1] at hv
  obtain ⟨k, hk, s, e⟩ := qp_yr_mem lf un bi _ _ _ n v hv
  exact h2.mpr ⟨k, hk, v, s, e, hb⟩
theorem qp_YO_iff {op oa ob : Nat → Int32} {n : Nat} {st st' : List V} {P Q : Prop} (h : qp_YO lf un bi big op oa ob n st P) (e : st = st') (hq : P ↔ Q) : qp_YO lf un bi big op oa ob n st' Q := by
  subst e
  exact ⟨h.1, hq.symm.trans h.2.1, h.2.2⟩
def qp_c (o : Option V) : Nat := match o with
  | none => 0
  | some _ => 1
def qp_st (S : qp_S V) : List V := qp_top (S.2.1 S.1) (S.2.2.1 S.1) (S.2.2.2.1 S.1) ++ qp_lows bi S.2.1 S.2.2.1 S.2.2.2.1 S.1
def qp_pd (S : qp_S V) : Prop := S.2.2.2.2 ∨ ∃ l, l < S.1 ∧ qp_jbig bi big (S.2.2.1 l) (S.2.2.2.1 l)
def qp_inv (S : qp_S V) : Prop := ∀ l, l ≤ S.1 → S.2.2.2.1 l = none → S.2.2.1 l = none
def qp_lv (S : qp_S V) (yit ymo : Nat → Int32) : Prop := (∀ l, l < S.1 → yit l = nI (qp_c (S.2.2.2.1 l))) ∧ yit S.1 = nI (qp_c (S.2.2.1 S.1) + qp_c (S.2.2.2.1 S.1)) ∧ ∀ l, l ≤ S.1 → ymo l = nI (qp_c (S.2.1 l))
def qp_Y (S : qp_S V) (t : Nat) (yo yoa yob : Nat → Int32) (n : Nat) (yit ymo : Nat → Int32) : Prop :=
  qp_inv S ∧ S.1 ≤ t ∧ n + (qp_st bi S).length ≤ 2 * t ∧ (qp_st bi S).length ≤ t ∧ qp_YO lf un bi big yo yoa yob n (qp_st bi S) (qp_pd bi big S) ∧ qp_lv S yit ymo
theorem qp_set_s (f : Nat → Option V) (l : Nat) (x : Option V) : qp_set f l x l = x := if_pos rfl
theorem qp_set_n {f : Nat → Option V} {l j : Nat} {x : Option V} (h : j ≠ l) : qp_set f l x j = f j := if_neg h
theorem qp_lows_cg {fa fs fi fa' fs' fi' : Nat → Option V} : ∀ d, (∀ l, l < d → fa l = fa' l ∧ fs l = fs' l ∧ fi l = fi' l) → qp_lows bi fa fs fi d = qp_lows bi fa' fs' fi' d
  | 0, _ => rfl
  | d + 1, h => by
    show qp_low bi _ _ _ ++ _ = qp_low bi _ _ _ ++ _
    rw [qp_lows_cg d (fun l hl => h l (by omega)), (h d (by omega)).1, (h d (by omega)).2.1, (h d (by omega)).2.2]
theorem qp_top_low (a s i : Option V) (h : i = none → s = none) (hn : ¬ (qp_c s + qp_c i = 2)) : qp_top a s i = qp_low bi a s i ∧ ¬ qp_jbig bi big s i := by
  match s, i with
  | none, none => exact ⟨rfl, fun ⟨x, y, e, _⟩ => nomatch e⟩
  | none, some x => exact ⟨rfl, fun ⟨x, y, _, e, _⟩ => nomatch e⟩
  | some y, none => exact absurd (h rfl) (fun z => nomatch z)
  | some y, some x => exact absurd rfl hn
end
section
variable {V : Type} (lf : Nat → Nat → V) (un : Nat → Nat → Nat → V → V) (bi : Nat → V → V → V) (big : V → Prop)
variable {ywa ydd ynd yns yma ynt yno yrc yfo ybl yod ywr : Int32} {yan yab yac yad yal yabl yacl yacf ynu yfi ypa ysz yli ytx yki yf1 yf2 yo yoa yob yit yss ymo yst ymy ycl yrw yow yhi yla : Nat → Int32} {yen : Nat → Int64}
theorem ye_emit (n : Nat) (hn : n < 40) (hno : yno = nI n) (o a b : Int32) (post : SY → Prop) (hp : post (ywa, ydd, ynd, yns, yma, ynt, nI (n + 1), yrc, yfo, ybl, yod, ywr, yan, yab, yac, yad, yal, yabl, yacl, yacf, ynu, yfi, ypa, ysz, yli, ytx, yki, yf1, yf2, upd yo n o, upd yoa n a, upd yob n b, yit, yss, ymo, yst, ymy, ycl, yrw, yow, yen, yhi, yla)) : wpY_emit post (ywa, ydd, ynd, yns, yma, ynt, yno, yrc, yfo, ybl, yod, ywr, yan, yab, yac, yad, yal, yabl, yacl, yacf, ynu, yfi, ypa, ysz, yli, ytx, yki, yf1, yf2, yo, yoa, yob, yit, yss, ymo, yst, ymy, ycl, yrw, yow, yen, yhi, yla) o a b := by
  subst hno
  have hi : vp_in (nI n) 40 := pk_in n 40 hn
  refine And.intro hi (nm_e (And.intro hi (nm_e (nm_r (nI_1 n) (And.intro hi (nm_e ?_))))))
  rw [nI_clamp (by omega)]
  exact hp
/-- the first items of a seq and the next one are joined -/
theorem ye_both (l n : Nat) (hl : l < 20) (hn : n < 40) (hno : yno = nI n) (a s i : Option V) (R : List V) (P : Prop) (hO : qp_YO lf un bi big yo yoa yob n (qp_top a s i ++ R) P) (hlen : (qp_top a s i ++ R).length ≤ 17) (hsi : i = none → s = none) (hit : yit l = nI (qp_c s + qp_c i)) (post : SY → Prop)
  (hp : ∀ (n' : Nat) (o' oa' ob' it' : Nat → Int32), qp_YO lf un bi big o' oa' ob' n' (qp_low bi a s i ++ R) (P ∨ qp_jbig bi big s i) → n' ≤ n + 1 ∧ n' + (qp_low bi a s i ++ R).length ≤ n + (qp_top a s i ++ R).length → (qp_low bi a s i ++ R).length ≤ (qp_top a s i ++ R).length → it' l = nI (qp_c i) → (∀ j, j ≠ l → it' j = yit j) → post (ywa, ydd, ynd, yns, yma, ynt, nI n', yrc, yfo, ybl, yod, ywr, yan, yab, yac, yad, yal, yabl, yacl, yacf, ynu, yfi, ypa, ysz, yli, ytx, yki, yf1, yf2, o', oa', ob', it', yss, ymo, yst, ymy, ycl, yrw, yow, yen, yhi, yla)) : wpY_both post (ywa, ydd, ynd, yns, yma, ynt, yno, yrc, yfo, ybl, yod, ywr, yan, yab, yac, yad, yal, yabl, yacl, yacf, ynu, yfi, ypa, ysz, yli, ytx, yki, yf1, yf2, yo, yoa, yob, yit, yss, ymo, yst, ymy, ycl, yrw, yow, yen, yhi, yla) (nI l) := by
  have cl : (nI l).toNatClampNeg = l := nI_clamp (by omega)
  refine And.intro (pk_in l 20 hl) ?_
  rw [cl, hit]
  have hc : qp_c s + qp_c i ≤ 2 := by cases s <;> cases i <;> simp [qp_c]
  refine pk_le 2 (qp_c s + qp_c i) (fun hle => ?_) (fun hlt => ?_)
  · match s, i, hO, hp, hlen, hle with
    | some y, some x, hO, hp, hlen, hle =>
      refine ye_emit n hn hno 13 0 0 _ ⟨pk_in l 20 hl, nm_e ?_⟩
      have hO' := qp_YO_emit lf un bi big hO 13 0 0 0 0 (by omega) rfl rfl (fun h => absurd h (by omega)) (fun h => absurd h (by omega)) ⟨by omega, by omega, fun h => absurd h (by omega), fun h => absurd h (by omega), fun h => absurd h (by omega), fun _ => by simp [qp_top], fun h => absurd h (by omega)⟩ (by
        have e : (qp_y lf un bi 13 0 0 (qp_top a (some y) (some x) ++ R)).length + 1 = (qp_top a (some y) (some x) ++ R).length := by simp [qp_y, qp_top]
        omega)
      refine hp (n + 1) _ _ _ _ (qp_YO_iff lf un bi big hO' rfl ?_) ?_ ?_ pk_us (fun j hj => pk_un hj)
      · constructor
        · rintro (h | ⟨v, st, e, hb⟩)
          · exact Or.inl h
          · have e2 : bi 13 y x = v := by
              have : qp_y lf un bi 13 0 0 (qp_top a (some y) (some x) ++ R) = bi 13 y x :: (a.toList ++ R) := rfl
              rw [this] at e
              exact (List.cons.inj e).1
            exact Or.inr ⟨x, y, rfl, rfl, by rw [e2]; exact hb⟩
        · rintro (h | ⟨x', y', e1, e2, hb⟩)
          · exact Or.inl h
          · cases e1; cases e2
            exact Or.inr ⟨_, _, rfl, hb⟩
      · refine ⟨Nat.le_refl _, ?_⟩
        simp [qp_low, qp_top, qp_join]; omega
      · simp [qp_low, qp_top, qp_join]
    | none, none, _, _, _, hle => exact absurd hle (by simp [qp_c])
    | none, some x, _, _, _, hle => exact absurd hle (by simp [qp_c])
    | some y, none, _, _, _, hle => exact absurd hle (by simp [qp_c])
  · obtain ⟨e1, e2⟩ := qp_top_low bi big a s i hsi (by omega)
    rw [e1] at hp hO hlen
    have e3 : yit l = nI (qp_c i) := by
      rw [hit]
      congr 1
      match s, i with
      | none, none => rfl
      | none, some x => rfl
      | some y, none => exact absurd (hsi rfl) (fun z => nomatch z)
      | some y, some x => exact absurd hlt (by simp [qp_c])
    subst hno
    exact hp n yo yoa yob yit (qp_YO_iff lf un bi big hO rfl ⟨Or.inl, fun h => h.elim id (fun h => absurd h e2)⟩) ⟨by omega, Nat.le_refl _⟩ (Nat.le_refl _) e3 (fun j _ => rfl)
/-- a seq ends -/
theorem ye_end (l n : Nat) (hl : l < 20) (hn : n < 37) (hno : yno = nI n) (a s i : Option V) (R : List V) (P : Prop) (hnb : ¬ big (lf 12 0)) (hO : qp_YO lf un bi big yo yoa yob n (qp_top a s i ++ R) P) (hlen : (qp_top a s i ++ R).length ≤ 16) (hsi : i = none → s = none) (hit : yit l = nI (qp_c s + qp_c i)) (hmo : ymo l = nI (qp_c a)) (post : SY → Prop)
  (hp : ∀ (n' : Nat) (o' oa' ob' it' mo' : Nat → Int32), qp_YO lf un bi big o' oa' ob' n' (qp_alt bi a (qp_sq lf (qp_join bi s i)) :: R) ((P ∨ qp_jbig bi big s i) ∨ big (qp_alt bi a (qp_sq lf (qp_join bi s i)))) → n' + (1 + R.length) ≤ n + (qp_top a s i ++ R).length + 2 → 1 + R.length ≤ (qp_top a s i ++ R).length + 1 → it' l = 0 → mo' l = 1 → (∀ j, j ≠ l → it' j = yit j ∧ mo' j = ymo j) → post (ywa, ydd, ynd, yns, yma, ynt, nI n', yrc, yfo, ybl, yod, ywr, yan, yab, yac, yad, yal, yabl, yacl, yacf, ynu, yfi, ypa, ysz, yli, ytx, yki, yf1, yf2, o', oa', ob', it', yss, mo', yst, ymy, ycl, yrw, yow, yen, yhi, yla)) : wpY_endSeq post (ywa, ydd, ynd, yns, yma, ynt, yno, yrc, yfo, ybl, yod, ywr, yan, yab, yac, yad, yal, yabl, yacl, yacf, ynu, yfi, ypa, ysz, yli, ytx, yki, yf1, yf2, yo, yoa, yob, yit, yss, ymo, yst, ymy, ycl, yrw, yow, yen, yhi, yla) (nI l) := by
  have cl : (nI l).toNatClampNeg = l := nI_clamp (by omega)
  have hil : vp_in (nI l) 20 := pk_in l 20 hl
  unfold wpY_endSeq
  refine ye_both lf un bi big l n hl (by omega) hno a s i R P hO (by omega) hsi hit _ (fun n1 o1 oa1 ob1 it1 hO1 hn1 hl1 e1 ho1 => ?_)
  refine ⟨hil, ?_⟩
  rw [cl, e1]
  have hlen1 : (qp_low bi a s i ++ R).length ≤ 16 := by omega
  -- behind the items: the alt, if there is one
  have fin : ∀ (n2 : Nat) (o2 oa2 ob2 : Nat → Int32), n2 ≤ n1 + 1 → n2 + (1 + (a.toList.length + R.length)) ≤ n1 + (qp_low bi a s i ++ R).length + 2 → 1 + (a.toList.length + R.length) ≤ (qp_low bi a s i ++ R).length + 1 → qp_YO lf un bi big o2 oa2 ob2 n2 (qp_sq lf (qp_join bi s i) :: (a.toList ++ R)) (P ∨ qp_jbig bi big s i) → wY_endSeq_22 (fun u => post u) (nI l) ywa ydd ynd yns yma ynt (nI n2) yrc yfo ybl yod ywr yan yab yac yad yal yabl yacl yacf ynu yfi ypa ysz yli ytx yki yf1 yf2 o2 oa2 ob2 it1 yss ymo yst ymy ycl yrw yow yen yhi yla := by
    intro n2 o2 oa2 ob2 hn2 hn3 hl3 hO2
    refine ⟨hil, ?_⟩
    rw [cl, hmo]
    cases a with
    | none =>
      refine br_t rfl ⟨hil, nm_e ⟨hil, nm_e ?_⟩⟩
      rw [cl, xs_b1]
      refine hp n2 o2 oa2 ob2 _ _ (qp_YO_iff lf un bi big hO2 rfl ⟨Or.inl, fun h => h.elim id (fun h => qp_YO_big lf un bi big hO2 (List.mem_cons_self) h)⟩) ?_ ?_ pk_us pk_us (fun j hj => ⟨(pk_un hj).trans (ho1 j hj), pk_un hj⟩)
      · rw [show (none : Option V).toList.length = 0 from rfl] at hn3; omega
      · rw [show (none : Option V).toList.length = 0 from rfl] at hl3; omega
    | some y =>
      rw [show (some y).toList.length = 1 from rfl] at hn3 hl3
      refine br_f (by show ¬ nI 1 = 0; decide) ?_
      refine ye_emit n2 (by omega) rfl 14 0 0 _ ⟨hil, nm_e ⟨hil, nm_e ?_⟩⟩
      rw [cl, xs_b1]
      have hO' := qp_YO_emit lf un bi big hO2 14 0 0 0 0 (by omega) rfl rfl (fun h => absurd h (by omega)) (fun h => absurd h (by omega)) ⟨by omega, by omega, fun h => absurd h (by omega), fun h => absurd h (by omega), fun h => absurd h (by omega), fun _ => by simp, fun h => absurd h (by omega)⟩ (by
        have e : (qp_y lf un bi 14 0 0 (qp_sq lf (qp_join bi s i) :: ((some y).toList ++ R))).length = R.length + 1 := rfl
        omega)
      refine hp (n2 + 1) _ _ _ _ _ (qp_YO_iff lf un bi big hO' rfl ?_) ?_ ?_ pk_us pk_us (fun j hj => ⟨(pk_un hj).trans (ho1 j hj), pk_un hj⟩)
      · have e0 : qp_y lf un bi 14 0 0 (qp_sq lf (qp_join bi s i) :: ((some y).toList ++ R)) = bi 5 y (qp_sq lf (qp_join bi s i)) :: R := rfl
        rw [e0]
        constructor
        · rintro (h | ⟨v, st, e, hb⟩)
          · exact Or.inl h
          · have := (List.cons.inj e).1
            exact Or.inr (by show big (bi 5 y _); rw [this]; exact hb)
        · rintro (h | h)
          · exact Or.inl h
          · exact Or.inr ⟨_, _, rfl, h⟩
      · omega
      · omega
  cases i with
  | none =>
    have hs0 := hsi rfl
    subst hs0
    refine br_t rfl ?_
    have hO' := qp_YO_emit lf un bi big hO1 12 0 0 0 0 (by omega) rfl rfl (fun h => absurd h (by omega)) (fun h => absurd h (by omega)) ⟨by omega, by omega, fun h => absurd h (by omega), fun h => absurd h (by omega), fun h => absurd h (by omega), fun h => absurd h (by omega), fun h => absurd h (by omega)⟩ (by
      have e : (qp_y lf un bi 12 0 0 (qp_low bi a (none : Option V) none ++ R)).length = (qp_low bi a (none : Option V) none ++ R).length + 1 := rfl
      omega)
    refine ye_emit n1 (by have : (qp_low bi a (none : Option V) none ++ R).length ≥ 0 := Nat.zero_le _; omega) rfl 12 0 0 _ (fin (n1 + 1) _ _ _ (Nat.le_refl _) ?_ ?_ (qp_YO_iff lf un bi big hO' rfl ?_))
    · simp [qp_low, qp_join]; omega
    · simp [qp_low, qp_join]; omega
    · constructor
      · rintro (h | ⟨v, st, e, hb⟩)
        · exact h
        · have : lf 12 0 = v := (List.cons.inj e).1
          rw [← this] at hb
          exact absurd hb hnb
      · exact Or.inl
  | some x =>
    refine br_f (by show ¬ nI 1 = 0; decide) (fin n1 o1 oa1 ob1 (by omega) ?_ ?_ (qp_YO_iff lf un bi big hO1 ?_ Iff.rfl))
    · cases s <;> (simp [qp_low, qp_join]; omega)
    · cases s <;> (simp [qp_low, qp_join]; omega)
    · cases s <;> rfl
end
