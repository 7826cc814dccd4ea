/-! the class: sizes of its nodes -/
section
variable {xwc xdc xdm xsc xtc xnc xmc xbr xwt : Int32} {xch xtl xwf xdn xdf xdl xss xtk xta xtb xnk xna xnb xnl xnr xns xfa xfs xfi xrc xcl xhd xhi xwo : Nat → Int32} {xrw xre : Nat → Int64}
theorem xz_size (n m : Nat) (D : Nat → qv_T) (hm : m ≤ 33) (hn : n < m) (hok : qn_ok qv_lf qv_un qv_bi xnk xna xnb xnl xnr m D) (hs : ∀ j, j < n → xns j = nI (D j).1 ∧ (D j).1 ≤ 60) (post : Int32 → Prop) (hp : (D n).1 ≤ 1000 → post (nI (D n).1)) : wpX_sizeOf post (xwc, xdc, xdm, xsc, xtc, xnc, xmc, xbr, xwt, xch, xtl, xwf, xdn, xdf, xdl, xss, xtk, xta, xtb, xnk, xna, xnb, xnl, xnr, xns, xfa, xfs, xfi, xrw, xrc, xcl, xhd, xre, xhi, xwo) (nI n) := by
  have hin : vp_in (nI n) 40 := pk_in n 40 (by omega)
  have cn : (nI n).toNatClampNeg = n := nI_clamp (by omega)
  obtain ⟨k, l, r, ek, el, er, hl, hr, hc⟩ := hok n hn
  unfold wpX_sizeOf
  refine ⟨hin, ?_⟩
  rw [cn, el, er, ek, nI_clamp (show l < 2 ^ 31 by omega), nI_clamp (show r < 2 ^ 31 by omega)]
  refine ⟨pk_in l 40 (by omega), nm_e ⟨hin, pk_in r 40 (by omega), nm_e ⟨hin, nm_e ?_⟩⟩⟩
  rcases hc with ⟨hk, a, _, _, _, ev⟩ | ⟨hk, ev⟩ | ⟨hk, hl', ev⟩ | ⟨hk, hl', a, b, ea, eb, hab, hb3, hb1, ev⟩ | ⟨hk, hl', hr', ev⟩
  · rw [ev] at hp
    exact br_t (nI_lt (b := 5) (by omega) (by decide)) (hp (by show 1 ≤ 1000; omega))
  · rw [ev] at hp
    refine br_f (nI_nlt (b := 5) (by omega) (by omega)) (br_f (nI_nlt (a := 13) (b := k) (by omega) (by omega)) ?_)
    refine br_f (xe_kne (q := 5) (by omega) (by omega) (by omega)) (br_f (xe_kne (q := 6) (by omega) (by omega) (by omega)) (br_f (xe_kne (q := 7) (by omega) (by omega) (by omega)) (br_f (xe_kne (q := 8) (by omega) (by omega) (by omega)) (br_f (xe_kne (q := 9) (by omega) (by omega) (by omega)) ?_))))
    rcases hk with h | h | h
    · subst h; exact br_t rfl (hp (by show 1 ≤ 1000; omega))
    · subst h; exact br_f (by decide) (br_t rfl (hp (by show 1 ≤ 1000; omega)))
    · subst h; exact br_f (by decide) (br_f (by decide) (br_t rfl (hp (by show 0 ≤ 1000; omega))))
  · rw [ev] at hp
    obtain ⟨s1, s2⟩ := hs l hl'
    rw [s1]
    refine br_f (nI_nlt (b := 5) (by omega) (by omega)) (br_f (nI_nlt (a := 13) (b := k) (by omega) (by omega)) ?_)
    refine br_f (xe_kne (q := 5) (by omega) (by omega) (by omega)) ?_
    rcases hk with h | h
    · subst h
      refine br_t rfl ?_
      rw [show nI (D l).1 + 2 = nI ((D l).1 + 2) from nI_add _ 2]
      exact hp (by show (D l).1 + 2 ≤ 1000; omega)
    · subst h
      refine br_f (by decide) (br_t rfl ?_)
      rw [nI_1]
      exact hp (by show (D l).1 + 1 ≤ 1000; omega)
  · rw [ev] at hp
    obtain ⟨s1, s2⟩ := hs l hl'
    rw [s1]
    subst hk
    refine br_f (by decide) (br_f (by decide) (br_f (by decide) (br_f (by decide) (br_f (by decide) (br_f (by decide) (br_t rfl ⟨hin, hin, hin, ?_⟩))))))
    have hbx : b * (D l).1 ≤ 180 := by
      have := Nat.mul_le_mul hb3 s2
      omega
    rw [ea, eb, pk_mul, nI_add, pk_sub (by omega)]
    have e : b * (D l).1 + b - a = b * (D l).1 + (b - a) := by omega
    rw [e]
    exact hp (by show b * (D l).1 + (b - a) ≤ 1000; omega)
  · rw [ev] at hp
    obtain ⟨s1, s2⟩ := hs l hl'
    obtain ⟨t1, t2⟩ := hs r hr'
    rw [s1, t1]
    refine br_f (nI_nlt (b := 5) (by omega) (by omega)) (br_f (nI_nlt (a := 13) (b := k) (by omega) (by omega)) ?_)
    rcases hk with h | h | h
    · subst h
      refine br_t rfl ?_
      rw [nI_add, show nI ((D l).1 + (D r).1) + 2 = nI ((D l).1 + (D r).1 + 2) from nI_add _ 2]
      exact hp (by show (D l).1 + (D r).1 + 2 ≤ 1000; omega)
    · subst h
      refine br_f (by decide) (br_f (by decide) (br_f (by decide) (br_t rfl ?_)))
      rw [nI_1]
      exact hp (by show (D l).1 + 1 ≤ 1000; omega)
    · subst h
      refine br_f (by decide) (br_f (by decide) (br_f (by decide) (br_f (by decide) (br_f (by decide) (br_f (by decide) (br_f (by decide) (br_f (by decide) (br_t rfl ?_))))))))
      rw [nI_add]
      exact hp (by show (D l).1 + (D r).1 ≤ 1000; omega)
theorem xz_large (m : Nat) (D : Nat → qv_T) (hm : m ≤ 33) (hnc : xnc = nI m) (hok : qn_ok qv_lf qv_un qv_bi xnk xna xnb xnl xnr m D) (post : Int32 → SX → Prop)
  (h0 : (¬ ∃ n, n < m ∧ qv_big (D n)) → ∀ ns : Nat → Int32, post 0 (xwc, xdc, xdm, xsc, xtc, xnc, xmc, xbr, xwt, xch, xtl, xwf, xdn, xdf, xdl, xss, xtk, xta, xtb, xnk, xna, xnb, xnl, xnr, ns, xfa, xfs, xfi, xrw, xrc, xcl, xhd, xre, xhi, xwo)) (h1 : (∃ n, n < m ∧ qv_big (D n)) → ∀ ns : Nat → Int32, post 1 (xwc, xdc, xdm, xsc, xtc, xnc, xmc, xbr, xwt, xch, xtl, xwf, xdn, xdf, xdl, xss, xtk, xta, xtb, xnk, xna, xnb, xnl, xnr, ns, xfa, xfs, xfi, xrw, xrc, xcl, xhd, xre, xhi, xwo)) : wpX_isLarge post (xwc, xdc, xdm, xsc, xtc, xnc, xmc, xbr, xwt, xch, xtl, xwf, xdn, xdf, xdl, xss, xtk, xta, xtb, xnk, xna, xnb, xnl, xnr, xns, xfa, xfs, xfi, xrw, xrc, xcl, xhd, xre, xhi, xwo) := by
  have key : ∀ (N n : Nat) (ns : Nat → Int32), n ≤ m → m - n < N → (∀ j, j < n → ns j = nI (D j).1 ∧ (D j).1 ≤ 60) → wX_isLarge_2 post xwc xdc xdm xsc xtc xnc xmc xbr xwt N (nI n) xch xtl xwf xdn xdf xdl xss xtk xta xtb xnk xna xnb xnl xnr ns xfa xfs xfi xrw xrc xcl xhd xre xhi xwo := by
    intro N
    subst hnc
    induction N with
    | zero => intro n ns h2 h3; omega
    | succ N ih =>
      intro n ns h2 h3 h4
      refine pk_le m n (fun hle => h0 (fun ⟨j, hj, hb⟩ => ?_) ns) (fun hlt => ?_)
      · have := (h4 j (by omega)).2
        unfold qv_big at hb
        omega
      · refine xz_size (xns := ns) n m D hm hlt hok h4 _ (fun hv => ⟨pk_in n 40 (by omega), nm_e ⟨pk_in n 40 (by omega), ?_⟩⟩)
        rw [nI_clamp (by omega), pk_us]
        refine pk_le (D n).1 60 (fun hle => nm_r (nI_1 n) (ih (n + 1) _ (by omega) (by omega) (fun j hj => ?_))) (fun hgt => h1 ⟨n, hlt, hgt⟩ _) rfl rfl (by omega) (by omega)
        by_cases z : j = n
        · subst z; exact ⟨pk_us, hle⟩
        · exact ⟨(pk_un z).trans (h4 j (by omega)).1, (h4 j (by omega)).2⟩
  exact ⟨m + 1, key (m + 1) 0 xns (by omega) (by omega) (fun j hj => absurd hj (by omega))⟩
end
/-! rows in the class's sets -/
theorem xr_ix (s k : Nat) : nI s * 8 + nI k = nI (s * 8 + k) := by
  rw [show (8 : Int32) = nI 8 from rfl, pk_mul, nI_add]
theorem xr_ixc {s k : Nat} (h : s * 8 + k < 2 ^ 31) : (nI s * 8 + nI k).toNatClampNeg = s * 8 + k := by
  rw [xr_ix]; exact nI_clamp h
def qx_ko (s0 : Nat) (rw' rc' : Nat → Int64) (r c : Nat → Int32) : Prop := True
section
variable {xwc xdc xdm xsc xtc xnc xmc xbr xwt : Int32} {xch xtl xwf xdn xdf xdl xss xtk xta xtb xnk xna xnb xnl xnr xns xfa xfs xfi xrc xcl xhd xhi xwo : Nat → Int32} {xrw xre : Nat → Int64}
/-- one row more in a set -/
theorem xr_add1 (s : Nat) (hs : s < 120) (l : List (List Nat)) (hl : l.length ≤ 8) (hset : qx_set xrw xrc s (some l)) (r : List Nat) (hr : qr_rw r) (post : SX → Prop)
  (hp : ∀ (rw1 : Nat → Int64) (rc1 : Nat → Int32), qx_set rw1 rc1 s (qr_oadd (some l) r) → (∀ s' o, s' ≠ s → qx_set xrw xrc s' o → qx_set rw1 rc1 s' o) → post (xwc, xdc, xdm, xsc, xtc, xnc, xmc, xbr, xwt, xch, xtl, xwf, xdn, xdf, xdl, xss, xtk, xta, xtb, xnk, xna, xnb, xnl, xnr, xns, xfa, xfs, xfi, rw1, rc1, xcl, xhd, xre, xhi, xwo)) :
  ∀ (N k : Nat), k ≤ l.length → l.length - k < N → (∀ j q, j < k → l[j]? = some q → q ≠ r) → wX_addRow_19 post (nI s) (lN (qc_x r)) (nI l.length) xwc xdc xdm xsc xtc xnc xmc xbr xwt xch xtl xwf xdn xdf xdl xss xtk xta xtb xnk xna xnb xnl xnr xns xfa xfs xfi xrw xrc xcl xhd xre xhi xwo N (nI k) := by
  intro N
  obtain ⟨_, b2, b3, b4⟩ := hset
  have cs : (nI s).toNatClampNeg = s := nI_clamp (by omega)
  induction N with
  | zero => intro k h1 h2; omega
  | succ N ih =>
    intro k h1 h2 h3
    refine pk_le l.length k (fun hle => ?_) (fun hlt => ?_)
    · have hni : r ∉ l := by
        intro hm
        obtain ⟨j, hj, e⟩ := List.getElem_of_mem hm
        exact h3 j l[j] (by omega) (List.getElem?_eq_getElem hj) e
      have fin : ∀ (rw1 : Nat → Int64), (∀ j, ¬ (l.length < 8 ∧ j = s * 8 + l.length) → rw1 j = xrw j) → (l.length < 8 → rw1 (s * 8 + l.length) = lN (qc_x r)) → wX_addRow_70 post (nI s) (nI l.length) xwc xdc xdm xsc xtc xnc xmc xbr xwt xch xtl xwf xdn xdf xdl xss xtk xta xtb xnk xna xnb xnl xnr xns xfa xfs xfi rw1 xrc xcl xhd xre xhi xwo := by
        intro rw1 hk hn
        refine ⟨pk_in s 120 hs, nm_e ?_⟩
        rw [cs, nI_1]
        refine hp rw1 _ ?_ (fun s' o hs' h => ?_)
        · unfold qr_oadd
          dsimp only
          rw [if_neg hni]
          by_cases z : l.length < 8
          · rw [if_pos z]
            refine ⟨by simp; omega, fun q hq => ?_, by rw [pk_us, List.length_append]; rfl, fun j q hq => ?_⟩
            · rcases List.mem_append.mp hq with y | y
              · exact b2 q y
              · rw [List.mem_singleton] at y; rw [y]; exact hr
            · by_cases y : j < l.length
              · rw [List.getElem?_append_left y] at hq
                rw [hk _ (by omega)]
                exact b4 j q hq
              · have hj := qr_get_lt hq
                rw [List.length_append, List.length_singleton] at hj
                have e : j = l.length := by omega
                subst e
                rw [List.getElem?_append_right (Nat.le_refl _), Nat.sub_self] at hq
                have e : r = q := by simpa using hq
                rw [← e]
                exact hn z
          · rw [if_neg z]
            show upd xrc s (nI (l.length + 1)) s = 9
            rw [pk_us, show l.length = 8 by omega]
            rfl
        · refine qx_set_cg h (pk_un hs') (fun j hj => hk _ ?_)
          omega
      refine pk_le 8 l.length (fun h8 => fin xrw (fun _ _ => rfl) (fun h => absurd h (by omega))) (fun h8 => ⟨pk_in (s * 8 + l.length) 960 (by omega) (xr_ix s _), nm_e ?_⟩)
      rw [xr_ixc (by omega)]
      exact fin _ (fun j hj => pk_uLn (fun e => hj ⟨h8, e⟩)) (fun _ => pk_uLs)
    · have hg := List.getElem?_eq_getElem hlt
      refine ⟨pk_in (s * 8 + k) 960 (by omega) (xr_ix s k), ?_⟩
      rw [xr_ixc (by omega), b4 k _ hg]
      refine ek_if (qc_x_ii (b2 _ (List.getElem_mem hlt)) hr) (fun he => ?_) (fun hne => nm_r (nI_1 k) (ih (k + 1) (by omega) (by omega) (fun j q hj hq => ?_)))
      · have hm : r ∈ l := by rw [← he]; exact List.getElem_mem hlt
        refine hp xrw xrc ?_ (fun _ _ _ h => h)
        unfold qr_oadd
        dsimp only
        rw [if_pos hm]
        exact ⟨hl, b2, b3, b4⟩
      · by_cases z : j = k
        · subst z
          rw [hg] at hq
          cases hq
          exact hne
        · exact h3 j q (by omega) hq
theorem xr_add (s : Nat) (hs : s < 120) (o : Option (List (List Nat))) (hset : qx_set xrw xrc s o) (r : List Nat) (hr : qr_rw r) (xs' : Int32) (es : xs' = nI s) (xr' : Int64) (er : xr' = lN (qc_x r)) (post : SX → Prop)
  (hp : ∀ (rw1 : Nat → Int64) (rc1 : Nat → Int32), qx_set rw1 rc1 s (qr_oadd o r) → (∀ s' o, s' ≠ s → qx_set xrw xrc s' o → qx_set rw1 rc1 s' o) → post (xwc, xdc, xdm, xsc, xtc, xnc, xmc, xbr, xwt, xch, xtl, xwf, xdn, xdf, xdl, xss, xtk, xta, xtb, xnk, xna, xnb, xnl, xnr, xns, xfa, xfs, xfi, rw1, rc1, xcl, xhd, xre, xhi, xwo)) : wpX_addRow post (xwc, xdc, xdm, xsc, xtc, xnc, xmc, xbr, xwt, xch, xtl, xwf, xdn, xdf, xdl, xss, xtk, xta, xtb, xnk, xna, xnb, xnl, xnr, xns, xfa, xfs, xfi, xrw, xrc, xcl, xhd, xre, xhi, xwo) xs' xr' := by
  subst es; subst er
  have cs : (nI s).toNatClampNeg = s := nI_clamp (by omega)
  cases o with
  | none =>
    refine And.intro (pk_in s 120 hs) (nm_r (e' := 9) (by rw [cs]; exact hset) (br_f (by decide) (hp xrw xrc hset (fun _ _ _ h => h))))
  | some l =>
    have hl := hset.1
    refine And.intro (pk_in s 120 hs) (nm_r (e' := nI l.length) (by rw [cs]; exact hset.2.2.1) (br_t (nI_le (b := 8) hl (by decide)) ⟨l.length + 1, ?_⟩))
    exact xr_add1 s hs l hl hset r hr post hp (l.length + 1) 0 (by omega) (by omega) (fun j q hj => absurd hj (by omega))
end
