/-! the class: where the pieces of a line end -/
def qe_b (x : Int64) (M : Nat → Prop) : Prop := ∀ e, e < 64 → (qb_l x e = true ↔ M e)
def qe_rp (re : Nat → Int64) (D : Nat → qv_T) (c : Nat → Nat) (n nd k : Nat) : Prop := ∀ i, k ≤ i → i ≤ n → qe_b (re (nd * 41 + i)) ((D nd).2.2 c n i)
def qe_re (re : Nat → Int64) (D : Nat → qv_T) (c : Nat → Nat) (n m : Nat) : Prop := ∀ j, j < m → qe_rp re D c n j 0
theorem xg_i (r m : Nat) : nI r * 41 + nI m = nI (r * 41 + m) := by rw [show (41 : Int32) = nI 41 from rfl, pk_mul, nI_add]
section
variable {xwc xdc xdm xsc xtc xnc xmc xbr xwt : Int32} {xch xtl xwf xdn xdf xdl xss xtk xta xtb xnk xna xnb xnl xnr xns xfa xfs xfi xrc xcl xhd xhi xwo : Nat → Int32} {xrw xre : Nat → Int64}
theorem xg_on (r : Nat) (hr : r < 40) (x1 : Int64) (xr' : Int32) (er : xr' = nI r) (post : Int64 → Prop) (hp : ∀ x : Int64, qe_b x (fun e => ∃ m, m < 41 ∧ qb_l x1 m = true ∧ qb_l (xre (r * 41 + m)) e = true) → post x) : wpX_goOn post (xwc, xdc, xdm, xsc, xtc, xnc, xmc, xbr, xwt, xch, xtl, xwf, xdn, xdf, xdl, xss, xtk, xta, xtb, xnk, xna, xnb, xnl, xnr, xns, xfa, xfs, xfi, xrw, xrc, xcl, xhd, xre, xhi, xwo) x1 xr' := by
  subst er
  have key : ∀ (N i : Nat) (x4 : Int64), i ≤ 41 → 41 - i < N → qe_b x4 (fun e => ∃ m, m < i ∧ qb_l x1 m = true ∧ qb_l (xre (r * 41 + m)) e = true) → wX_goOn_6 post x1 (nI r) xwc xdc xdm xsc xtc xnc xmc xbr xwt xch xtl xwf xdn xdf xdl xss xtk xta xtb xnk xna xnb xnl xnr xns xfa xfs xfi xrw xrc xcl xhd xre xhi xwo N x4 (nI i) := by
    intro N
    induction N with
    | zero => intro i x4 h1 h2; omega
    | succ N ih =>
      intro i x4 h1 h2 h3
      refine pk_le 41 i (fun hle => hp x4 ?_) (fun hlt => ek_if (qb_S1 x1 i (by omega)) (fun hb => ⟨pk_in (r * 41 + i) 1640 (by omega) (xg_i r i), nm_e (nm_r (nI_1 i) (ih (i + 1) _ (by omega) (by omega) (fun e he => ?_)))⟩) (fun hb => nm_r (nI_1 i) (ih (i + 1) x4 (by omega) (by omega) (fun e he => ?_))))
      · have : i = 41 := by omega
        subst this
        exact h3
      · rw [pk_cl (r * 41 + i) (xg_i r i), qb_or, Bool.or_eq_true, h3 e he]
        constructor
        · rintro (⟨m, g1, g2, g3⟩ | g)
          · exact ⟨m, by omega, g2, g3⟩
          · exact ⟨i, by omega, hb, g⟩
        · rintro ⟨m, g1, g2, g3⟩
          by_cases z : m = i
          · subst z; exact Or.inr g3
          · exact Or.inl ⟨m, by omega, g2, g3⟩
      · rw [h3 e he]
        constructor
        · rintro ⟨m, g1, g2, g3⟩
          exact ⟨m, by omega, g2, g3⟩
        · rintro ⟨m, g1, g2, g3⟩
          by_cases z : m = i
          · subst z; exact absurd g2 hb
          · exact ⟨m, by omega, g2, g3⟩
  exact ⟨42, key 42 0 0 (by omega) (by omega) (fun e he => by rw [qb_0]; exact ⟨fun h => (nomatch h), fun ⟨m, h, _⟩ => absurd h (by omega)⟩)⟩
/-- the ends of a count of pieces -/
theorem xg_cnt (nd a b l : Nat) (hnd : nd < 40) (ea : xna nd = nI a) (eb : xnb nd = nI b) (el : xnl nd = nI l) (hl : l < 40) (hab : a ≤ b) (hb : b ≤ 3) (n : Nat) (hn : n ≤ 40) (M : qe_M) (hM : ∀ i e, i ≤ n → M i e → i ≤ e ∧ e ≤ n) (hre : ∀ i, i ≤ n → qe_b (xre (l * 41 + i)) (M i)) (i : Nat) (hi : i ≤ n) (x5 : Int64) (h5 : qe_b x5 (fun e => e = i)) (post : Int64 → Prop) (hp : ∀ x, qe_b x (fun e => ∃ q, a ≤ q ∧ q ≤ b ∧ qe_pow M q i e) → post x) : wpX_countedEnds post (xwc, xdc, xdm, xsc, xtc, xnc, xmc, xbr, xwt, xch, xtl, xwf, xdn, xdf, xdl, xss, xtk, xta, xtb, xnk, xna, xnb, xnl, xnr, xns, xfa, xfs, xfi, xrw, xrc, xcl, xhd, xre, xhi, xwo) (nI nd) x5 := by
  have cn : (nI nd).toNatClampNeg = nd := nI_clamp (by omega)
  have hin : vp_in (nI nd) 40 := pk_in nd 40 hnd
  have key : ∀ (N k : Nat) (x4 x6 : Int64), 1 ≤ k → k ≤ b + 1 → b + 1 - k < N → qe_b x4 (fun e => qe_pow M (k - 1) i e) → qe_b x6 (fun e => ∃ q, a ≤ q ∧ q ≤ b ∧ q < k ∧ qe_pow M q i e) → wX_countedEnds_22 post (nI nd) xwc xdc xdm xsc xtc xnc xmc xbr xwt xch xtl xwf xdn xdf xdl xss xtk xta xtb xnk xna xnb xnl xnr xns xfa xfs xfi xrw xrc xcl xhd xre xhi xwo N x4 x6 (nI k) := by
    intro N
    induction N with
    | zero => intro k x4 x6 h1 h2 h3; omega
    | succ N ih =>
      intro k x4 x6 h1 h2 h3 h4 h6
      refine ⟨hin, pk_lt b k (fun hlt => hp x6 (fun e he => ?_)) (fun hle => ⟨hin, ?_⟩) (by rw [cn]; exact eb) rfl⟩
      · rw [h6 e he]
        exact ⟨fun ⟨q, g1, g2, g3, g4⟩ => ⟨q, g1, g2, g4⟩, fun ⟨q, g1, g2, g4⟩ => ⟨q, g1, g2, by omega, g4⟩⟩
      · refine xg_on l hl x4 _ (by rw [cn]; exact el) _ (fun x hx => ⟨hin, ?_⟩)
        have hx' : qe_b x (fun e => qe_pow M k i e) := by
          intro e he
          rw [hx e he]
          obtain ⟨k', rfl⟩ : ∃ k', k = k' + 1 := ⟨k - 1, by omega⟩
          constructor
          · rintro ⟨m, g1, g2, g3⟩
            have g4 := (h4 m (by omega)).mp g2
            have g5 := qe_pow_in M n hM k' i m hi g4
            exact ⟨m, g4, (hre m g5.2 e he).mp g3⟩
          · rintro ⟨m, g1, g2⟩
            have g5 := qe_pow_in M n hM k' i m hi g1
            exact ⟨m, by omega, (h4 m (by omega)).mpr g1, (hre m g5.2 e he).mpr g2⟩
        refine pk_lt k a (fun hka => nm_r (nI_1 k) (ih (k + 1) x x6 (by omega) (by omega) (by omega) hx' (fun e he => ?_))) (fun hka => nm_e (nm_r (nI_1 k) (ih (k + 1) x _ (by omega) (by omega) (by omega) hx' (fun e he => ?_)))) rfl (by rw [cn]; exact ea)
        · rw [h6 e he]
          exact ⟨fun ⟨q, g1, g2, g3, g4⟩ => ⟨q, g1, g2, by omega, g4⟩, fun ⟨q, g1, g2, g3, g4⟩ => ⟨q, g1, g2, by omega, g4⟩⟩
        · rw [qb_or, Bool.or_eq_true, h6 e he, hx' e he]
          constructor
          · rintro (⟨q, g1, g2, g3, g4⟩ | g)
            · exact ⟨q, g1, g2, by omega, g4⟩
            · exact ⟨k, hka, hle, by omega, g⟩
          · rintro ⟨q, g1, g2, g3, g4⟩
            by_cases z : q = k
            · subst z; exact Or.inr g4
            · exact Or.inl ⟨q, g1, g2, by omega, g4⟩
  have h0 : qe_b x5 (fun e => qe_pow M (1 - 1) i e) := fun e he => (h5 e he).trans ⟨fun h => h.symm, fun h => Eq.symm h⟩
  refine And.intro hin (pk_eq a 0 (fun e0 => ⟨b + 1, key (b + 1) 1 x5 x5 (by omega) (by omega) (by omega) h0 (fun e he => ?_)⟩) (fun e0 => ⟨b + 1, key (b + 1) 1 x5 0 (by omega) (by omega) (by omega) h0 (fun e he => ?_)⟩) (by rw [cn]; exact ea) rfl)
  · rw [h0 e he]
    constructor
    · exact fun g => ⟨0, by omega, by omega, by omega, g⟩
    · rintro ⟨q, g1, g2, g3, g4⟩
      have : q = 0 := by omega
      subst this
      exact g4
  · rw [qb_0]
    exact ⟨fun h => (nomatch h), fun ⟨q, g1, g2, g3, g4⟩ => by omega⟩
/-- what goes on from the other ends of a piece -/
theorem qe_go {x1 x : Int64} {re : Nat → Int64} {r n k : Nat} {A : Nat → Prop} {C : qe_M} (hn : n ≤ 40) (hx : qe_b x (fun e => ∃ m, m < 41 ∧ qb_l x1 m = true ∧ qb_l (re (r * 41 + m)) e = true)) (h1 : qe_b x1 A) (hA : ∀ m, A m → k ≤ m ∧ m ≤ n) (hre : ∀ m, k ≤ m → m ≤ n → qe_b (re (r * 41 + m)) (C m)) : qe_b x (fun e => ∃ m, A m ∧ C m e) := by
  intro e he
  rw [hx e he]
  constructor
  · rintro ⟨m, g1, g2, g3⟩
    have a := (h1 m (by omega)).mp g2
    have b := hA m a
    exact ⟨m, a, (hre m b.1 b.2 e he).mp g3⟩
  · rintro ⟨m, a, g⟩
    have b := hA m a
    exact ⟨m, by omega, (h1 m (by omega)).mpr a, (hre m b.1 b.2 e he).mpr g⟩
theorem xg_from (nd m i n B : Nat) (c : Nat → Nat) (D : Nat → qv_T) (hm : m ≤ 33) (hnd : nd < m) (hi : i ≤ n) (hn : n ≤ 40) (hc : ∀ j, j < n → c j < 6) (hB : B + n ≤ 3640) (hch : ∀ j, j < n → xch (B + j) = nI (c j)) (hok : qn_ok qv_lf qv_un qv_bi xnk xna xnb xnl xnr m D) (hv : ∀ j, j < m → qv_ok (D j)) (hre : qe_re xre D c n nd) (hrp : qe_rp xre D c n nd (i + 1)) (post : Int64 → Prop) (hp : ∀ x, qe_b x ((D nd).2.2 c n i) → post x) : wpX_endsFrom post (xwc, xdc, xdm, xsc, xtc, xnc, xmc, xbr, xwt, xch, xtl, xwf, xdn, xdf, xdl, xss, xtk, xta, xtb, xnk, xna, xnb, xnl, xnr, xns, xfa, xfs, xfi, xrw, xrc, xcl, xhd, xre, xhi, xwo) (nI nd) (nI i) (nI B) (nI n) := by
  have cn : (nI nd).toNatClampNeg = nd := nI_clamp (by omega)
  have hin : vp_in (nI nd) 40 := pk_in nd 40 (by omega)
  obtain ⟨k', l', r', h1, h2, h3, h4, h5, h6⟩ := hok nd hnd
  have hh : qe_b ((1 : Int64) <<< ((nI i).toInt64 &&& 63)) (fun e => e = i) := fun e he => by rw [qb_here i (by omega) e he, decide_eq_true_eq]
  unfold wpX_endsFrom
  refine nm_e (And.intro hin (nm_r (e' := nI l') (by rw [cn]; exact h2) (And.intro hin (nm_r (e' := nI r') (by rw [cn]; exact h3) (And.intro (pk_in (l' * 41 + i) 1640 (by omega) (xg_i l' i)) (nm_r (e' := xre (l' * 41 + i)) (by rw [pk_cl (l' * 41 + i) (xg_i l' i)]) (And.intro hin (nm_r (e' := nI k') (by rw [cn]; exact h1) ?_))))))))
  have hother : qe_b ((((1 : Int64) <<< ((nI i).toInt64 &&& 63))) ^^^ (-1)) (fun e => e ≠ i) := fun e he => by
    rw [qb_not _ e he]
    have := hh e he
    cases z : qb_l ((1 : Int64) <<< ((nI i).toInt64 &&& 63)) e
    · rw [z] at this
      simpa using this
    · rw [z] at this
      simpa using this
  have hxo : l' < nd → qe_b (xre (l' * 41 + i) &&& (((1 : Int64) <<< ((nI i).toInt64 &&& 63)) ^^^ (-1))) (fun e => i < e ∧ (D l').2.2 c n i e) := fun hl e he => by
    rw [qb_and, Bool.and_eq_true, hre l' hl i (by omega) hi e he, hother e he]
    constructor
    · rintro ⟨g1, g2⟩
      have := qv_in (hv l' (by omega)) hc hi g1
      exact ⟨by omega, g1⟩
    · rintro ⟨g1, g2⟩
      exact ⟨g2, by omega⟩
  rcases h6 with ⟨hk, a', e1, e2, e3, ev⟩ | ⟨hk, ev⟩ | ⟨hk, hl, ev⟩ | ⟨hk, hl, a', b', e1, e2, e3, e4, e5, ev⟩ | ⟨hk, hl, hr, ev⟩
  · subst hk
    have eM : ∀ e, (D nd).2.2 c n i e ↔ i < n ∧ e = i + 1 ∧ a'.testBit (c i) = true := fun e => by
      rw [ev]
      show qe_lf 2 a' c n i e ↔ _
      unfold qe_lf
      rw [if_pos rfl]
    refine br_f (by decide) (br_f (by decide) (br_t rfl (pk_le n i (fun hle => hp 0 (fun e he => ?_)) (fun hlt => ⟨hin, pk_in (B + i) 3640 (by omega) (nI_add B i), ?_⟩))))
    · rw [qb_0, eM e]
      exact ⟨fun h => (nomatch h), fun h => by omega⟩
    · rw [cn, pk_cl (B + i) (nI_add B i)]
      refine xn_incl a' (c i) (hc i hlt) _ _ e1 (hch i hlt) _ (fun hb => br_f (by decide) (hp _ (fun e he => ?_))) (fun hb => br_t rfl (hp 0 (fun e he => ?_)))
      · rw [qb_here1 i (by omega) e he, decide_eq_true_eq, eM e]
        exact ⟨fun h => ⟨hlt, h, hb⟩, fun h => h.2.1⟩
      · rw [qb_0, eM e, hb]
        exact ⟨fun h => (nomatch h), fun h => (nomatch h.2.2)⟩
  · refine br_f (nI_nlt (a := k') (b := 2) (by omega) (by omega)) (br_f (nI_nlt (a := 13) (b := k') (by omega) (by omega)) (br_f (xe_kne (q := 2) (by omega) (by omega) (by omega)) (br_f (xe_kne (q := 3) (by omega) (by omega) (by omega)) (br_f (xe_kne (q := 4) (by omega) (by omega) (by omega)) (br_f (xe_kne (q := 5) (by omega) (by omega) (by omega)) (br_f (xe_kne (q := 6) (by omega) (by omega) (by omega)) (br_f (xe_kne (q := 7) (by omega) (by omega) (by omega)) (br_f (xe_kne (q := 8) (by omega) (by omega) (by omega)) (br_f (xe_kne (q := 9) (by omega) (by omega) (by omega)) ?_)))))))))
    have eM : ∀ e, (D nd).2.2 c n i e ↔ (if k' = 10 then i = 0 ∧ e = i else if k' = 11 then i = n ∧ e = i else e = i) := fun e => by
      rw [ev]
      show qe_lf k' 0 c n i e ↔ _
      unfold qe_lf
      rw [if_neg (by omega)]
    refine pk_eq k' 10 (fun e10 => pk_eq i 0 (fun z => hp _ (fun e he => ?_)) (fun z => hp 0 (fun e he => ?_))) (fun e10 => pk_eq k' 11 (fun e11 => pk_eq i n (fun z => hp _ (fun e he => ?_)) (fun z => hp 0 (fun e he => ?_))) (fun e11 => br_t (by rw [show k' = 12 by omega]; rfl) (hp _ (fun e he => ?_))))
    · rw [hh e he, eM e, if_pos e10]
      exact ⟨fun h => ⟨z, h⟩, fun h => h.2⟩
    · rw [qb_0, eM e, if_pos e10]
      exact ⟨fun h => (nomatch h), fun h => absurd h.1 z⟩
    · rw [hh e he, eM e, if_neg e10, if_pos e11]
      exact ⟨fun h => ⟨z, h⟩, fun h => h.2⟩
    · rw [qb_0, eM e, if_neg e10, if_pos e11]
      exact ⟨fun h => (nomatch h), fun h => absurd h.1 z⟩
    · rw [hh e he, eM e, if_neg e10, if_neg e11]
  · have hMl : ∀ a b, a ≤ n → (D l').2.2 c n a b → a ≤ b ∧ b ≤ n := fun a b ha => qv_in (hv l' (by omega)) hc ha
    refine br_f (nI_nlt (a := k') (b := 2) (by omega) (by omega)) (br_f (nI_nlt (a := 13) (b := k') (by omega) (by omega)) (br_f (xe_kne (q := 2) (by omega) (by omega) (by omega)) (br_f (xe_kne (q := 3) (by omega) (by omega) (by omega)) (br_f (xe_kne (q := 4) (by omega) (by omega) (by omega)) (br_f (xe_kne (q := 5) (by omega) (by omega) (by omega)) ?_)))))
    have hA : ∀ m, i < m ∧ (D l').2.2 c n i m → i + 1 ≤ m ∧ m ≤ n := fun m hm => ⟨hm.1, (hMl i m hi hm.2).2⟩
    refine pk_eq k' 6 (fun e6 => ?_) (fun e6 => br_t (by rw [show k' = 7 by omega]; rfl) ?_)
    · refine xg_on nd (by omega) _ _ rfl _ (fun x hx => hp _ (fun e he => ?_))
      have hx2 := qe_go (k := i + 1) hn hx (hxo hl) hA (fun m g1 g2 => hrp m g1 g2)
      have eM : ∀ a b, (D nd).2.2 c n a b ↔ qe_star ((D l').2.2 c n) a b := fun a b => by
        rw [ev]
        show qe_un k' 0 0 _ a b ↔ _
        unfold qe_un
        rw [if_pos e6]
      rw [qb_or, Bool.or_eq_true, hh e he, hx2 e he, eM i e, qe_star_eq]
      constructor
      · rintro (g | ⟨m, ⟨g1, g2⟩, g3⟩)
        · exact Or.inl g.symm
        · exact Or.inr ⟨m, g1, g2, (eM m e).mp g3⟩
      · rintro (g | ⟨m, g1, g2, g3⟩)
        · exact Or.inl g.symm
        · exact Or.inr ⟨m, ⟨g1, g2⟩, (eM m e).mpr g3⟩
    · have e7 : k' = 7 := by omega
      refine xg_on nd (by omega) _ _ rfl _ (fun x hx => hp _ (fun e he => ?_))
      have hx2 := qe_go (k := i + 1) hn hx (hxo hl) hA (fun m g1 g2 => hrp m g1 g2)
      have eM : ∀ a b, (D nd).2.2 c n a b ↔ ∃ m, (D l').2.2 c n a m ∧ qe_star ((D l').2.2 c n) m b := fun a b => by
        rw [ev]
        show qe_un k' 0 0 _ a b ↔ _
        unfold qe_un
        rw [if_neg e6, if_pos e7]
      rw [qb_or, Bool.or_eq_true, hre l' hl i (by omega) hi e he, hx2 e he, eM i e, qe_plus_eq _ n hMl i e hi]
      constructor
      · rintro (g | ⟨m, ⟨g1, g2⟩, g3⟩)
        · exact Or.inl g
        · exact Or.inr ⟨m, g1, g2, (eM m e).mp g3⟩
      · rintro (g | ⟨m, g1, g2, g3⟩)
        · exact Or.inl g
        · exact Or.inr ⟨m, ⟨g1, g2⟩, (eM m e).mpr g3⟩
  · have hMl : ∀ a b, a ≤ n → (D l').2.2 c n a b → a ≤ b ∧ b ≤ n := fun a b ha => qv_in (hv l' (by omega)) hc ha
    subst hk
    refine br_f (by decide) (br_f (by decide) (br_f (by decide) (br_f (by decide) (br_f (by decide) (br_f (by decide) (br_f (by decide) (br_f (by decide) (br_f (by decide) (br_t rfl ?_)))))))))
    refine xg_cnt nd a' b' l' (by omega) e1 e2 h2 (by omega) e3 e4 n hn _ hMl (fun j hj => hre l' hl j (by omega) hj) i hi _ hh _ (fun x hx => hp x (fun e he => ?_))
    rw [hx e he, ev]
    show _ ↔ qe_un 9 a' b' _ i e
    unfold qe_un
    rw [if_neg (by decide), if_neg (by decide)]
  · have alt : (k' = 5 ∨ k' = 8) → wX_endsFrom_166 post (nI i) (nI r') (xre (l' * 41 + i)) xwc xdc xdm xsc xtc xnc xmc xbr xwt xch xtl xwf xdn xdf xdl xss xtk xta xtb xnk xna xnb xnl xnr xns xfa xfs xfi xrw xrc xcl xhd xre xhi xwo := by
      intro hk2
      refine And.intro (pk_in (r' * 41 + i) 1640 (by omega) (xg_i r' i)) (hp _ (fun e he => ?_))
      rw [pk_cl (r' * 41 + i) (xg_i r' i), qb_or, Bool.or_eq_true, hre l' hl i (by omega) hi e he, hre r' hr i (by omega) hi e he, ev]
      show _ ↔ qe_bi k' _ _ i e
      unfold qe_bi
      rw [if_neg (by omega)]
    refine br_f (nI_nlt (a := k') (b := 2) (by omega) (by omega)) (br_f (nI_nlt (a := 13) (b := k') (by omega) (by omega)) (br_f (xe_kne (q := 2) (by omega) (by omega) (by omega)) (br_f (xe_kne (q := 3) (by omega) (by omega) (by omega)) (br_f (xe_kne (q := 4) (by omega) (by omega) (by omega)) (pk_eq k' 5 (fun e5 => alt (Or.inl e5)) (fun e5 => ?_))))))
    refine br_f (xe_kne (q := 6) (by omega) (by omega) (by omega)) (br_f (xe_kne (q := 7) (by omega) (by omega) (by omega)) (pk_eq k' 8 (fun e8 => alt (Or.inr e8)) (fun e8 => ?_)))
    refine br_f (xe_kne (q := 9) (by omega) (by omega) (by omega)) (br_f (xe_kne (q := 10) (by omega) (by omega) (by omega)) (br_f (xe_kne (q := 11) (by omega) (by omega) (by omega)) (br_f (xe_kne (q := 12) (by omega) (by omega) (by omega)) (br_t (by rw [show k' = 13 by omega]; rfl) ?_))))
    refine xg_on r' (by omega) _ _ rfl _ (fun x hx => hp _ (fun e he => ?_))
    have hx2 := qe_go (k := 0) hn hx (hre l' hl i (by omega) hi) (fun m hm => ⟨by omega, (qv_in (hv l' (by omega)) hc hi hm).2⟩) (fun m g1 g2 => hre r' hr m g1 g2)
    rw [hx2 e he, ev]
    show _ ↔ qe_bi k' _ _ i e
    unfold qe_bi
    rw [if_pos (by omega)]
theorem xg_find (m n B : Nat) (c : Nat → Nat) (D : Nat → qv_T) (hm : m ≤ 33) (hnc : xnc = nI m) (hn : n ≤ 40) (hc : ∀ j, j < n → c j < 6) (hB : B + n ≤ 3640) (hch : ∀ j, j < n → xch (B + j) = nI (c j)) (hok : qn_ok qv_lf qv_un qv_bi xnk xna xnb xnl xnr m D) (hv : ∀ j, j < m → qv_ok (D j)) (xB xn : Int32) (eB : xB = nI B) (en : xn = nI n) (post : SX → Prop) (hp : ∀ re' : Nat → Int64, qe_re re' D c n m → post (xwc, xdc, xdm, xsc, xtc, xnc, xmc, xbr, xwt, xch, xtl, xwf, xdn, xdf, xdl, xss, xtk, xta, xtb, xnk, xna, xnb, xnl, xnr, xns, xfa, xfs, xfi, xrw, xrc, xcl, xhd, re', xhi, xwo)) : wpX_findPieces post (xwc, xdc, xdm, xsc, xtc, xnc, xmc, xbr, xwt, xch, xtl, xwf, xdn, xdf, xdl, xss, xtk, xta, xtb, xnk, xna, xnb, xnl, xnr, xns, xfa, xfs, xfi, xrw, xrc, xcl, xhd, xre, xhi, xwo) xB xn := by
  subst eB; subst en; subst hnc
  have inner : ∀ (nd : Nat) (J : Int32 → (Nat → Int32) → (Nat → Int32) → (Nat → Int32) → (Nat → Int32) → (Nat → Int32) → (Nat → Int32) → (Nat → Int32) → (Nat → Int32) → (Nat → Int32) → (Nat → Int32) → (Nat → Int32) → (Nat → Int32) → (Nat → Int32) → (Nat → Int32) → (Nat → Int32) → (Nat → Int32) → (Nat → Int32) → (Nat → Int32) → (Nat → Int32) → (Nat → Int64) → (Nat → Int32) → (Nat → Int32) → (Nat → Int32) → (Nat → Int64) → (Nat → Int32) → (Nat → Int32) → Prop), nd < m → (∀ re' : Nat → Int64, qe_re re' D c n (nd + 1) → J (nI (nd + 1)) xch xtl xwf xdn xdf xdl xss xtk xta xtb xnk xna xnb xnl xnr xns xfa xfs xfi xrw xrc xcl xhd re' xhi xwo) → ∀ (N k : Nat) (x4 : Int32) (re' : Nat → Int64), k ≤ n + 1 → k < N → x4 = nI k + (-1) → qe_re re' D c n nd → qe_rp re' D c n nd k → wX_findPieces_13 post J (nI B) (nI n) (nI nd) xwc xdc xdm xsc xtc (nI m) xmc xbr xwt N x4 xch xtl xwf xdn xdf xdl xss xtk xta xtb xnk xna xnb xnl xnr xns xfa xfs xfi xrw xrc xcl xhd re' xhi xwo := by
    intro nd J hnd hJ N
    induction N with
    | zero => intro k x4 re' h1 h2; omega
    | succ N ih =>
      intro k x4 re' h1 h2 e4 h3 h4
      rcases Nat.eq_zero_or_pos k with z0 | z0
      · subst z0
        subst e4
        refine br_t (by decide) (nm_r (nI_1 nd) (hJ re' (fun j hj => ?_)))
        by_cases z : j = nd
        · subst z; exact h4
        · exact h3 j (by omega)
      · obtain ⟨q, rfl⟩ : ∃ q, k = q + 1 := ⟨k - 1, by omega⟩
        rw [pk_m1] at e4
        subst e4
        refine br_f (nI_nlt (a := q) (b := 0) (Nat.zero_le _) (by omega)) ?_
        refine xg_from nd m q n B c D hm hnd (by omega) hn hc hB hch hok hv h3 h4 _ (fun x hx => ⟨pk_in (nd * 41 + q) 1640 (by omega) (xg_i nd q), nm_e (nm_e ?_)⟩)
        rw [pk_cl (nd * 41 + q) (xg_i nd q)]
        refine ih q _ _ (by omega) (by omega) rfl (fun j hj i g1 g2 => ?_) (fun i g1 g2 => ?_)
        · rw [pk_uLn (by omega)]
          exact h3 j hj i g1 g2
        · by_cases z : i = q
          · subst z
            rw [pk_uLs]
            exact hx
          · rw [pk_uLn (by omega)]
            exact h4 i (by omega) g2
  have outer : ∀ (N nd : Nat) (re' : Nat → Int64), nd ≤ m → m - nd < N → qe_re re' D c n nd → wX_findPieces_2 post (nI B) (nI n) xwc xdc xdm xsc xtc (nI m) xmc xbr xwt N (nI nd) xch xtl xwf xdn xdf xdl xss xtk xta xtb xnk xna xnb xnl xnr xns xfa xfs xfi xrw xrc xcl xhd re' xhi xwo := by
    intro N
    induction N with
    | zero => intro nd re' h1 h2; omega
    | succ N ih =>
      intro nd re' h1 h2 h3
      refine pk_le m nd (fun hle => hp re' ?_) (fun hlt => ⟨n + 2, inner nd _ hlt (fun re2 h => ih (nd + 1) re2 (by omega) (by omega) h) (n + 2) (n + 1) _ re' (by omega) (by omega) (pk_m1 n).symm h3 (fun i g1 g2 => by omega)⟩)
      have : nd = m := by omega
      subst this
      exact h3
  exact ⟨m + 1, outer (m + 1) 0 xre (by omega) (by omega) (fun j hj => absurd hj (by omega))⟩
end
