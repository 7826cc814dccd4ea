/-! the class reads a token -/
section
variable {V : Type} (lf : Nat → Nat → V) (un : Nat → Nat → Nat → V → V) (bi : Nat → V → V → V) (big : V → Prop)
variable {xwc xdc xdm xsc xtc xnc xmc xbr xwt : Int32} {xch xtl xwf xdn xdf xdl xss xtk xta xtb xnk xna xnb xnl xnr xns xfa xfs xfi xrc xcl xhd xhi xwo : Nat → Int32} {xrw xre : Nat → Int64}
def qk_a0 (k : Nat) (x : Int32) : Prop := k = 0 → ∃ a : Nat, a < 6 ∧ x = nI a
def qk_a2 (k : Nat) (x : Int32) : Prop := k = 2 → ∃ a : Nat, 1 ≤ a ∧ a ≤ 63 ∧ x = nI a
def qk_a9 (k : Nat) (x y : Int32) : Prop := k = 9 → ∃ a b : Nat, a ≤ b ∧ b ≤ 3 ∧ x = nI a ∧ y = nI b
theorem xe_kne {k q : Nat} (hk : k < 100) (hq : q < 100) (h : k ≠ q) : ¬ nI k = nI q := fun e => h ((nI_eq (by omega) (by omega)).mp e)
theorem xe_leaf (t m k : Nat) (ht : t < 16) (hm : m < 40) (hnc : xnc = nI m) (hk : k < 3 ∨ k = 10 ∨ k = 11) (ek : xtk t = nI k) (hk0 : qk_a0 k (xta t)) (hk2 : qk_a2 k (xta t)) (D : Nat → V) (hok : qn_ok lf un bi xnk xna xnb xnl xnr m D) (post : Int32 → SX → Prop)
  (hp : ∀ (K' A' B' L' R' : Nat → Int32), qn_ok lf un bi K' A' B' L' R' (m + 1) (qn_D D m (qp_leaf lf k (qk_K xta t))) → post (nI m) (xwc, xdc, xdm, xsc, xtc, nI (m + 1), xmc, xbr, xwt, xch, xtl, xwf, xdn, xdf, xdl, xss, xtk, xta, xtb, K', A', B', L', R', xns, xfa, xfs, xfi, xrw, xrc, xcl, xhd, xre, xhi, xwo)) : wpX_addLeaf post (xwc, xdc, xdm, xsc, xtc, xnc, xmc, xbr, xwt, xch, xtl, xwf, xdn, xdf, xdl, xss, xtk, xta, xtb, xnk, xna, xnb, xnl, xnr, xns, xfa, xfs, xfi, xrw, xrc, xcl, xhd, xre, xhi, xwo) (nI t) := by
  have hit : vp_in (nI t) 16 := pk_in t 16 ht
  have ct : (nI t).toNatClampNeg = t := nI_clamp (by omega)
  unfold wpX_addLeaf
  refine ⟨hit, nm_r (e' := nI k) (by rw [ct]; exact ek) (br_f (nI_pos (by omega)) (pk_lt 2 k (fun h2 => ⟨hit, ?_⟩) (fun h2 => ?_)))⟩
  · rw [ct, ek]
    refine xe_add m hm hnc _ _ _ _ _ _ (hp _ _ _ _ _ (qn_add lf un bi hok ?_))
    have e : qp_leaf lf k (qk_K xta t) = lf k 0 := by unfold qp_leaf; rw [if_neg (by omega), if_neg (by omega), if_neg (by omega)]
    rw [e]
    exact ⟨k, 0, 0, rfl, rfl, rfl, by omega, by omega, Or.inr (Or.inl ⟨by omega, rfl⟩)⟩
  · refine pk_eq k 0 (fun e0 => ⟨hit, ?_⟩) (fun e0 => pk_eq k 1 (fun e1 => ?_) (fun e1 => pk_eq k 2 (fun e2 => ⟨hit, ?_⟩) (fun e2 => trivial)))
    · obtain ⟨a, ha, ea⟩ := hk0 e0
      rw [ct, ea]
      refine xe_add m hm hnc _ _ _ _ _ _ (hp _ _ _ _ _ (qn_add lf un bi hok ?_))
      have e : qp_leaf lf k (qk_K xta t) = lf 2 (2 ^ a) := by unfold qp_leaf qk_K; rw [if_pos e0, ea, nI_clamp (by omega)]
      rw [e]
      have hp2 : 2 ^ a ≤ 32 := by
        have : 2 ^ a ≤ 2 ^ 5 := Nat.pow_le_pow_right (by omega) (by omega)
        omega
      have e1 : (1 : Int32) <<< (nI a &&& 31) = nI (2 ^ a) := by
        have := pk_shlN (n := 1) (nI a &&& 31) a (s_l a (by omega)) (by omega)
        rw [Nat.one_mul] at this
        exact this
      exact ⟨2, 0, 0, rfl, rfl, rfl, by omega, by omega, Or.inl ⟨rfl, 2 ^ a, e1, Nat.two_pow_pos a, by omega, rfl⟩⟩
    · refine xe_add m hm hnc _ _ _ _ _ _ (hp _ _ _ _ _ (qn_add lf un bi hok ?_))
      have e : qp_leaf lf k (qk_K xta t) = lf 2 63 := by unfold qp_leaf; rw [if_neg e0, if_pos e1]
      rw [e]
      exact ⟨2, 0, 0, rfl, rfl, rfl, by omega, by omega, Or.inl ⟨rfl, 63, rfl, by omega, by omega, rfl⟩⟩
    · obtain ⟨a, h1, h3, ea⟩ := hk2 e2
      rw [ct, ea]
      refine xe_add m hm hnc _ _ _ _ _ _ (hp _ _ _ _ _ (qn_add lf un bi hok ?_))
      have e : qp_leaf lf k (qk_K xta t) = lf 2 a := by unfold qp_leaf qk_K; rw [if_neg e0, if_neg e1, if_pos e2, ea, nI_clamp (by omega)]
      rw [e]
      exact ⟨2, 0, 0, rfl, rfl, rfl, by omega, by omega, Or.inl ⟨rfl, a, rfl, h1, h3, rfl⟩⟩
theorem xe_rep (t m k : Nat) (ht : t < 16) (hm : m < 39) (hnc : xnc = nI m) (hk : 6 ≤ k ∧ k ≤ 9) (ek : xtk t = nI k) (hk9 : qk_a9 k (xta t) (xtb t)) (D : Nat → V) (hnb : ¬ big (lf 12 0)) (hok : qn_ok lf un bi xnk xna xnb xnl xnr m D) (xi : Int32) (x : V) (hx : qn_fr D m xi (some x)) (post : Int32 → SX → Prop)
  (hp : ∀ (r : Int32) (m' : Nat) (D' : Nat → V) (K' A' B' L' R' : Nat → Int32), m' ≤ m + 2 → qn_ok lf un bi K' A' B' L' R' m' D' → (∀ y o, qn_fr D m y o → qn_fr D' m' y o) → qn_fr D' m' r (some (qp_rep lf un bi k (qk_K xta t) (qk_K xtb t) x)) → ((∃ n, n < m' ∧ big (D' n)) ↔ (∃ n, n < m ∧ big (D n)) ∨ big (qp_rep lf un bi k (qk_K xta t) (qk_K xtb t) x)) → post r (xwc, xdc, xdm, xsc, xtc, nI m', xmc, xbr, xwt, xch, xtl, xwf, xdn, xdf, xdl, xss, xtk, xta, xtb, K', A', B', L', R', xns, xfa, xfs, xfi, xrw, xrc, xcl, xhd, xre, xhi, xwo)) : wpX_addRepeat post (xwc, xdc, xdm, xsc, xtc, xnc, xmc, xbr, xwt, xch, xtl, xwf, xdn, xdf, xdl, xss, xtk, xta, xtb, xnk, xna, xnb, xnl, xnr, xns, xfa, xfs, xfi, xrw, xrc, xcl, xhd, xre, xhi, xwo) (nI t) xi := by
  have hit : vp_in (nI t) 16 := pk_in t 16 ht
  have ct : (nI t).toNatClampNeg = t := nI_clamp (by omega)
  obtain ⟨j, hj, ej, dj⟩ := hx
  have lc12 : ∀ (D : Nat → V) (m : Nat), qn_lc lf un bi 12 0 0 0 0 D m (lf 12 0) := fun D m => ⟨12, 0, 0, rfl, rfl, rfl, by omega, by omega, Or.inr (Or.inl ⟨by omega, rfl⟩)⟩
  unfold wpX_addRepeat
  refine ⟨hit, nm_r (e' := nI k) (by rw [ct]; exact ek) ⟨hit, nm_r (e' := xta t) (by rw [ct]) ⟨hit, nm_r (e' := xtb t) (by rw [ct]) ?_⟩⟩⟩
  refine pk_eq k 8 (fun e8 => ?_) (fun e8 => ?_)
  · refine xe_add m (by omega) hnc 12 0 0 0 0 _ ?_
    refine xe_add (m + 1) (by omega) rfl 8 0 0 _ _ _ ?_
    have e : qp_rep lf un bi k (qk_K xta t) (qk_K xtb t) x = bi 8 x (lf 12 0) := by unfold qp_rep; rw [if_pos e8]
    rw [e] at hp
    have hlc : qn_lc lf un bi 8 0 0 xi (nI m) (qn_D D m (lf 12 0)) (m + 1) (bi 8 x (lf 12 0)) := ⟨8, j, m, rfl, ej, rfl, by omega, by omega, Or.inr (Or.inr (Or.inr (Or.inr ⟨by omega, by omega, by omega, by rw [qn_D_n D _ (by omega), qn_D_s, dj]⟩)))⟩
    refine hp _ (m + 2) (qn_D (qn_D D m (lf 12 0)) (m + 1) (bi 8 x (lf 12 0))) _ _ _ _ _ (Nat.le_refl _) (qn_add lf un bi (qn_add lf un bi hok (lc12 D m)) hlc) (fun y o h => qn_fr_up _ (qn_fr_up _ h)) (qn_fr_new _ _ _) ?_
    rw [qn_big, qn_big]
    constructor
    · rintro ((h | h) | h)
      · exact Or.inl h
      · exact absurd h hnb
      · exact Or.inr h
    · rintro (h | h)
      · exact Or.inl (Or.inl h)
      · exact Or.inr h
  · have fin : ∀ (v : V), qp_rep lf un bi k (qk_K xta t) (qk_K xtb t) x = v → qn_lc lf un bi (nI k) (xta t) (xtb t) xi 0 D m v → wX_addRepeat_95 post xi (nI k) (xta t) (xtb t) xwc xdc xdm xsc xtc xnc xmc xbr xwt xch xtl xwf xdn xdf xdl xss xtk xta xtb xnk xna xnb xnl xnr xns xfa xfs xfi xrw xrc xcl xhd xre xhi xwo := by
      intro v ev hlc
      refine xe_add m (by omega) hnc _ _ _ _ _ _ ?_
      rw [ev] at hp
      exact hp _ (m + 1) (qn_D D m v) _ _ _ _ _ (by omega) (qn_add lf un bi hok hlc) (fun y o h => qn_fr_up _ h) (qn_fr_new D m v) (qn_big big D m v)
    refine pk_eq k 9 (fun e9 => ?_) (fun e9 => ?_)
    · obtain ⟨a, b, hab, hb3, ea, eb⟩ := hk9 e9
      have ea' : qk_K xta t = a := by unfold qk_K; rw [ea, nI_clamp (by omega)]
      have eb' : qk_K xtb t = b := by unfold qk_K; rw [eb, nI_clamp (by omega)]
      rw [ea, eb] at fin ⊢
      rw [ea', eb'] at hp fin
      refine pk_eq b 0 (fun eb0 => ?_) (fun eb0 => ?_)
      · refine xe_add m (by omega) hnc 12 0 0 0 0 _ ?_
        have e : qp_rep lf un bi k a b x = lf 12 0 := by unfold qp_rep; rw [if_neg e8, if_pos e9, if_pos eb0]
        rw [e] at hp
        refine hp _ (m + 1) (qn_D D m (lf 12 0)) _ _ _ _ _ (by omega) (qn_add lf un bi hok (lc12 D m)) (fun y o h => qn_fr_up _ h) (qn_fr_new D m _) (qn_big big D m _)
      · have fin9 : ¬ (a = 1 ∧ b = 1) → wX_addRepeat_95 post xi (nI k) (nI a) (nI b) xwc xdc xdm xsc xtc xnc xmc xbr xwt xch xtl xwf xdn xdf xdl xss xtk xta xtb xnk xna xnb xnl xnr xns xfa xfs xfi xrw xrc xcl xhd xre xhi xwo := by
          intro hn
          refine fin (un 9 a b x) ?_ ?_
          · unfold qp_rep; rw [if_neg e8, if_pos e9, if_neg eb0, if_neg hn]
          · exact ⟨9, j, 0, by rw [e9], ej, rfl, by omega, by omega, Or.inr (Or.inr (Or.inr (Or.inl ⟨rfl, hj, a, b, rfl, rfl, hab, hb3, by omega, by rw [dj]⟩)))⟩
        refine br_t (by rw [e9]; rfl) (pk_eq a 1 (fun ea1 => pk_eq b 1 (fun eb1 => ?_) (fun eb1 => fin9 (fun h => eb1 h.2))) (fun ea1 => fin9 (fun h => ea1 h.1)))
        have e : qp_rep lf un bi k a b x = x := by unfold qp_rep; rw [if_neg e8, if_pos e9, if_neg eb0, if_pos ⟨ea1, eb1⟩]
        rw [e] at hp
        subst hnc
        refine hp xi m D _ _ _ _ _ (by omega) hok (fun y o h => h) ⟨j, hj, ej, dj⟩ ⟨Or.inl, fun h => h.elim id (fun h => ⟨j, hj, by rw [dj]; exact h⟩)⟩
    · refine br_f (xe_kne (q := 9) (by omega) (by omega) e9) (fin (un k 0 0 x) ?_ ?_)
      · unfold qp_rep; rw [if_neg e8, if_neg e9]
      · exact ⟨k, j, 0, rfl, ej, rfl, by omega, by omega, Or.inr (Or.inr (Or.inl ⟨by omega, hj, by rw [dj]⟩))⟩
theorem xe_isrep (k : Nat) (hk : k < 12) (post : Int32 → Prop) (h1 : 6 ≤ k ∧ k ≤ 9 → post 1) (h0 : ¬ (6 ≤ k ∧ k ≤ 9) → post 0) : wpX_isRepeat post (nI k) :=
  pk_eq k 6 (fun e => h1 (by omega)) (fun e6 => pk_eq k 7 (fun e => h1 (by omega)) (fun e7 => pk_eq k 8 (fun e => h1 (by omega)) (fun e8 => pk_eq k 9 (fun e => h1 (by omega)) (fun e9 => h0 (by omega)))))
/-- the wrong token -/
theorem xe_wrong1 (nt : Nat) (hk : qk_ok xtk xta xtb nt) (htc : xtc = nI nt) (post : Int32 → Prop) (hp : post (qp_wrong lf un bi big (qk_K xtk) (qk_K xta) (qk_K xtb) nt)) :
  ∀ (N t : Nat), t ≤ nt → nt - t < N → (qp_run lf un bi big (qk_K xtk) (qk_K xta) (qk_K xtb) t).1 ≤ t → qp_wr lf un bi big (qk_K xtk) (qk_K xta) (qk_K xtb) nt (nt - t) t = qp_wrong lf un bi big (qk_K xtk) (qk_K xta) (qk_K xtb) nt → wX_findWrongToken_6 post xwc xdc xdm xsc xtc xnc xmc xbr xwt xch xtl xwf xdn xdf xdl xss xtk xta xtb xnk xna xnb xnl xnr xns xfa xfs xfi xrw xrc xcl xhd xre xhi xwo N (nI (qp_run lf un bi big (qk_K xtk) (qk_K xta) (qk_K xtb) t).1) (nI (qp_c ((qp_run lf un bi big (qk_K xtk) (qk_K xta) (qk_K xtb) t).2.2.2.1 (qp_run lf un bi big (qk_K xtk) (qk_K xta) (qk_K xtb) t).1))) (nI t) := by
  intro N
  subst htc
  have h16 := hk.1
  induction N with
  | zero => intro t h1 h2; omega
  | succ N ih =>
    intro t h1 h2 hdt h3
    refine pk_le nt t (fun hle => ?_) (fun hlt => ?_)
    · have e : t = nt := by omega
      subst e
      rw [Nat.sub_self] at h3
      unfold qp_wr at h3
      refine pk_le (qp_run lf un bi big (qk_K xtk) (qk_K xta) (qk_K xtb) t).1 0 (fun hz => ?_) (fun hz => ?_)
      · rw [if_pos (by omega)] at h3; rw [h3]; exact hp
      · rw [if_neg (by omega)] at h3; rw [h3]; exact hp
    · have hm : nt - t = (nt - (t + 1)) + 1 := by omega
      rw [hm] at h3
      unfold qp_wr at h3
      obtain ⟨k, hk12, ek, q0, q2, q9⟩ := hk.2 t hlt
      have eK : qk_K xtk t = k := by unfold qk_K; rw [ek]; exact nI_clamp (by omega)
      have hrun : qp_run lf un bi big (qk_K xtk) (qk_K xta) (qk_K xtb) (t + 1) = qp_step lf un bi big k (qk_K xta t) (qk_K xtb t) (qp_run lf un bi big (qk_K xtk) (qk_K xta) (qk_K xtb) t) := by
        show qp_step lf un bi big (qk_K xtk t) _ _ _ = _
        rw [eK]
      rw [eK] at h3
      have ct : (nI t).toNatClampNeg = t := nI_clamp (by omega)
      have next := ih (t + 1) (by omega) (by omega)
      rw [hrun] at next
      generalize hS : qp_run lf un bi big (qk_K xtk) (qk_K xta) (qk_K xtb) t = S at *
      refine ⟨pk_in t 16 (by omega), nm_r (e' := nI k) (by rw [ct]; exact ek) ?_⟩
      -- the walk behind the check
      have goon : qp_badb k S = false → wX_findWrongToken_34 post (wX_findWrongToken_6 post xwc xdc xdm xsc (nI nt) xnc xmc xbr xwt xch xtl xwf xdn xdf xdl xss xtk xta xtb xnk xna xnb xnl xnr xns xfa xfs xfi xrw xrc xcl xhd xre xhi xwo N) (nI S.1) (nI t) (nI k) xwc xdc xdm xsc (nI nt) xnc xmc xbr xwt xch xtl xwf xdn xdf xdl xss xtk xta xtb xnk xna xnb xnl xnr xns xfa xfs xfi xrw xrc xcl xhd xre xhi xwo := by
        intro hnb
        rw [hnb] at h3
        have k46 : wX_findWrongToken_46 post (wX_findWrongToken_6 post xwc xdc xdm xsc (nI nt) xnc xmc xbr xwt xch xtl xwf xdn xdf xdl xss xtk xta xtb xnk xna xnb xnl xnr xns xfa xfs xfi xrw xrc xcl xhd xre xhi xwo N) (nI S.1) (nI t) (nI k) xwc xdc xdm xsc (nI nt) xnc xmc xbr xwt xch xtl xwf xdn xdf xdl xss xtk xta xtb xnk xna xnb xnl xnr xns xfa xfs xfi xrw xrc xcl xhd xre xhi xwo := by
          by_cases k3 : k = 3
          · subst k3
            have e2 : (qp_step lf un bi big 3 (qk_K xta t) (qk_K xtb t) S).1 = S.1 + 1 := rfl
            have e3 : (qp_step lf un bi big 3 (qk_K xta t) (qk_K xtb t) S).2.2.2.1 (S.1 + 1) = none := by
              show qp_set S.2.2.2.1 (S.1 + 1) none (S.1 + 1) = none
              rw [qp_set_s]
            have hn := next (by rw [e2]; omega) h3
            rw [e2, e3] at hn
            exact br_t rfl (nm_r (nI_1 _) (br_t rfl (nm_r (nI_1 t) hn)))
          · have n3 : ¬ nI k = 3 := xe_kne (q := 3) (by omega) (by omega) k3
            refine br_f n3 ?_
            by_cases k4 : k = 4
            · subst k4
              have hz : S.1 ≠ 0 := fun z => by unfold qp_badb at hnb; simp [z] at hnb
              have e1 : nI S.1 + (-1) = nI (S.1 - 1) := by
                obtain ⟨m, hm'⟩ : ∃ m, S.1 = m + 1 := ⟨S.1 - 1, by omega⟩
                rw [hm', pk_m1]
                rfl
              have e2 : (qp_step lf un bi big 4 (qk_K xta t) (qk_K xtb t) S).1 = S.1 - 1 := rfl
              have e3 : (qp_step lf un bi big 4 (qk_K xta t) (qk_K xtb t) S).2.2.2.1 (S.1 - 1) = some (qp_alt bi (S.2.1 S.1) (qp_sq lf (qp_join bi (S.2.2.1 S.1) (S.2.2.2.1 S.1)))) := by
                show qp_set _ (S.1 - 1) ((qp_set S.2.1 S.1 _) S.1) (S.1 - 1) = _
                rw [qp_set_s, qp_set_s]
              have hn := next (by rw [e2]; omega) h3
              rw [e2, e3] at hn
              exact br_t rfl (nm_r e1 (br_f (by decide) (br_f (by decide) (nm_r (nI_1 t) hn))))
            · have n4 : ¬ nI k = 4 := xe_kne (q := 4) (by omega) (by omega) k4
              refine br_f n4 (br_f n3 ?_)
              by_cases k5 : k = 5
              · subst k5
                have e2 : (qp_step lf un bi big 5 (qk_K xta t) (qk_K xtb t) S).1 = S.1 := rfl
                have e3 : (qp_step lf un bi big 5 (qk_K xta t) (qk_K xtb t) S).2.2.2.1 S.1 = none := by
                  show qp_set S.2.2.2.1 S.1 none S.1 = none
                  rw [qp_set_s]
                have hn := next (by rw [e2]; omega) h3
                rw [e2, e3] at hn
                exact br_t rfl (nm_r (nI_1 t) hn)
              · have n5 : ¬ nI k = 5 := xe_kne (q := 5) (by omega) (by omega) k5
                refine br_f n5 (nm_r (nI_1 t) ?_)
                have e2 : (qp_step lf un bi big k (qk_K xta t) (qk_K xtb t) S).1 = S.1 ∧ ∃ v, (qp_step lf un bi big k (qk_K xta t) (qk_K xtb t) S).2.2.2.1 S.1 = some v := by
                  unfold qp_step
                  rw [if_neg k3, if_neg k4, if_neg k5]
                  split
                  · exact ⟨rfl, _, qp_set_s _ _ _⟩
                  · exact ⟨rfl, _, qp_set_s _ _ _⟩
                obtain ⟨e2, v, e3⟩ := e2
                have hn := next (by rw [e2]; omega) h3
                rw [e2, e3] at hn
                exact hn
        by_cases k4 : k = 4
        · subst k4
          refine br_t rfl (br_f ?_ k46)
          intro z
          rw [show (0 : Int32) = nI 0 from rfl, nI_eq (by omega) (by omega)] at z
          unfold qp_badb at hnb
          simp [z] at hnb
        · exact br_f (xe_kne (q := 4) (by omega) (by omega) k4) k46
      have isbad : qp_badb k S = true → post (nI t) := by
        intro hb
        rw [if_pos hb] at h3
        rw [h3]
        exact hp
      refine xe_isrep k hk12 _ (fun hr => br_f (by decide) ?_) (fun hr => br_t rfl ?_)
      · cases hfi : S.2.2.2.1 S.1 with
        | none => exact br_t rfl (isbad (by unfold qp_badb; rw [hfi]; simp [hr]))
        | some x => exact br_f (by show ¬ nI 1 = 0; decide) (goon (by unfold qp_badb; rw [hfi]; simp; omega))
      · by_cases hb : qp_badb k S = true
        · have k4 : k = 4 ∧ S.1 = 0 := by unfold qp_badb at hb; simp [hr] at hb; exact hb
          rw [k4.1, k4.2]
          exact br_t rfl (br_t rfl (isbad hb))
        · exact goon (by simpa using hb)
theorem xe_wrong (nt : Nat) (hk : qk_ok xtk xta xtb nt) (htc : xtc = nI nt) (post : Int32 → Prop) (hp : post (qp_wrong lf un bi big (qk_K xtk) (qk_K xta) (qk_K xtb) nt)) : wpX_findWrongToken post (xwc, xdc, xdm, xsc, xtc, xnc, xmc, xbr, xwt, xch, xtl, xwf, xdn, xdf, xdl, xss, xtk, xta, xtb, xnk, xna, xnb, xnl, xnr, xns, xfa, xfs, xfi, xrw, xrc, xcl, xhd, xre, xhi, xwo) :=
  ⟨nt + 1, xe_wrong1 lf un bi big nt hk htc post hp (nt + 1) 0 (by omega) (by omega) (Nat.le_refl _) rfl⟩
end
