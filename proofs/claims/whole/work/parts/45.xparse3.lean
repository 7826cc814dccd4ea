/-! the class reads the whole expression -/
section
variable {V : Type} (lf : Nat → Nat → V) (un : Nat → Nat → Nat → V → V) (bi : Nat → V → V → V) (big : V → Prop)
def qp_cn (fa fs fi : Nat → Option V) : Nat → Nat
  | 0 => 0
  | l + 1 => qp_cn fa fs fi l + (qp_c (fa l) + qp_c (fs l) + qp_c (fi l))
theorem qp_cn_cg {fa fs fi fa' fs' fi' : Nat → Option V} : ∀ d, (∀ l, l < d → fa l = fa' l ∧ fs l = fs' l ∧ fi l = fi' l) → qp_cn fa fs fi d = qp_cn fa' fs' fi' d
  | 0, _ => rfl
  | d + 1, h => by
    unfold qp_cn
    rw [qp_cn_cg d (fun l hl => h l (by omega)), (h d (by omega)).1, (h d (by omega)).2.1, (h d (by omega)).2.2]
def qp_X (S : qp_S V) (t : Nat) (K A B L R : Nat → Int32) (m : Nat) (D : Nat → V) (FA FS FI : Nat → Int32) : Prop :=
  qp_inv S ∧ S.1 ≤ t ∧ m + qp_cn S.2.1 S.2.2.1 S.2.2.2.1 (S.1 + 1) ≤ 2 * t ∧ qn_ok lf un bi K A B L R m D ∧ (∀ l, l ≤ S.1 → qn_fr D m (FA l) (S.2.1 l) ∧ qn_fr D m (FS l) (S.2.2.1 l) ∧ qn_fr D m (FI l) (S.2.2.2.1 l)) ∧ (S.2.2.2.2 ↔ ∃ n, n < m ∧ big (D n))
theorem qp_wr_ok (K A B : Nat → Nat) (nt : Nat) : ∀ m t, t + m = nt → nt < 2 ^ 31 → qp_wr lf un bi big K A B nt m t = -1 → (∀ j, t ≤ j → j < nt → qp_badb (K j) (qp_run lf un bi big K A B j) = false) ∧ (qp_run lf un bi big K A B nt).1 = 0
  | 0, t, e, hn, h => by
    unfold qp_wr at h
    refine ⟨fun j h1 h2 => absurd h2 (by omega), ?_⟩
    by_cases z : (qp_run lf un bi big K A B nt).1 = 0
    · exact z
    · rw [if_neg z] at h
      exact absurd h (xs_nm1 hn)
  | m + 1, t, e, hn, h => by
    unfold qp_wr at h
    by_cases z : qp_badb (K t) (qp_run lf un bi big K A B t) = true
    · rw [if_pos z] at h
      exact absurd h (xs_nm1 (by omega))
    · rw [if_neg z] at h
      obtain ⟨h1, h2⟩ := qp_wr_ok K A B nt m (t + 1) (by omega) hn h
      refine ⟨fun j hj hj' => ?_, h2⟩
      by_cases y : j = t
      · subst y; simpa using z
      · exact h1 j (by omega) hj'
variable {xwc xdc xdm xsc xtc xnc xmc xbr xwt : Int32} {xch xtl xwf xdn xdf xdl xss xtk xta xtb xnk xna xnb xnl xnr xns xfa xfs xfi xrc xcl xhd xhi xwo : Nat → Int32} {xrw xre : Nat → Int64}
theorem xe_loop (nt : Nat) (hk : qk_ok xtk xta xtb nt) (htc : xtc = nI nt) (hnb : ¬ big (lf 12 0)) (hgood : ∀ j, j < nt → qp_badb (qk_K xtk j) (qp_run lf un bi big (qk_K xtk) (qk_K xta) (qk_K xtb) j) = false) (h0 : (qp_run lf un bi big (qk_K xtk) (qk_K xta) (qk_K xtb) nt).1 = 0) (post : Int32 → SX → Prop)
  (hp : ∀ (root : Int32) (m' : Nat) (D' : Nat → V) (K' A' B' L' R' FA' FS' FI' : Nat → Int32), m' ≤ 33 → qn_ok lf un bi K' A' B' L' R' m' D' → qn_fr D' m' root (some (qp_alt bi ((qp_run lf un bi big (qk_K xtk) (qk_K xta) (qk_K xtb) nt).2.1 0) (qp_sq lf (qp_join bi ((qp_run lf un bi big (qk_K xtk) (qk_K xta) (qk_K xtb) nt).2.2.1 0) ((qp_run lf un bi big (qk_K xtk) (qk_K xta) (qk_K xtb) nt).2.2.2.1 0))))) → ((qp_end lf bi big 0 (qp_run lf un bi big (qk_K xtk) (qk_K xta) (qk_K xtb) nt)).2.2.2.2 ↔ ∃ n, n < m' ∧ big (D' n)) → post root (xwc, xdc, xdm, xsc, xtc, nI m', xmc, xbr, xwt, xch, xtl, xwf, xdn, xdf, xdl, xss, xtk, xta, xtb, K', A', B', L', R', xns, FA', FS', FI', xrw, xrc, xcl, xhd, xre, xhi, xwo)) :
  ∀ (N t m : Nat) (D : Nat → V) (K' A' B' L' R' FA' FS' FI' : Nat → Int32), t ≤ nt → nt - t < N → qp_X lf un bi big (qp_run lf un bi big (qk_K xtk) (qk_K xta) (qk_K xtb) t) t K' A' B' L' R' m D FA' FS' FI' → wX_parse_14 post N (nI (qp_run lf un bi big (qk_K xtk) (qk_K xta) (qk_K xtb) t).1) (nI t) xwc xdc xdm xsc xtc (nI m) xmc xbr xwt xch xtl xwf xdn xdf xdl xss xtk xta xtb K' A' B' L' R' xns FA' FS' FI' xrw xrc xcl xhd xre xhi xwo := by
  intro N
  subst htc
  have h16 := hk.1
  induction N with
  | zero => intro t m D K' A' B' L' R' FA' FS' FI' h1 h2; omega
  | succ N ih =>
    intro t m D K' A' B' L' R' FA' FS' FI' h1 h2 h4
    refine pk_le nt t (fun hle => ?_) (fun hlt => ?_)
    · have e : t = nt := by omega
      subst e
      obtain ⟨g1, g2, g3, g4, g5, g6⟩ := h4
      generalize qp_run lf un bi big (qk_K xtk) (qk_K xta) (qk_K xtb) t = S at *
      obtain ⟨d, fa, fs, fi, B⟩ := S
      dsimp only at h0 g1 g2 g3 g4 g5 g6 hp
      subst h0
      have hcn : qp_cn fa fs fi (0 + 1) = qp_c (fa 0) + qp_c (fs 0) + qp_c (fi 0) := Nat.zero_add _
      rw [hcn] at g3
      obtain ⟨f1, f2, f3⟩ := g5 0 (Nat.le_refl _)
      refine xe_end lf un bi big 0 m (by omega) (by omega) rfl (fa 0) (fs 0) (fi 0) D hnb g4 f1 f2 f3 (g1 0 (Nat.le_refl _)) _ (fun m' D' K2 A2 B2 L2 R2 FA2 FS2 FI2 hc hm' hok hup hfr hs1 hi1 hoth hbig => ?_)
      refine ⟨pk_in 0 17 (by omega), hp _ m' D' _ _ _ _ _ _ _ _ (by omega) hok hfr ?_⟩
      unfold qp_end
      dsimp only
      rw [hbig, g6]
    · obtain ⟨k, hk12, ek, p0, p2, p9⟩ := hk.2 t hlt
      have q0 : qk_a0 k (xta t) := p0
      have q2 : qk_a2 k (xta t) := p2
      have q9 : qk_a9 k (xta t) (xtb t) := p9
      clear p0 p2 p9
      have eK : qk_K xtk t = k := by unfold qk_K; rw [ek]; exact nI_clamp (by omega)
      have hrun : qp_run lf un bi big (qk_K xtk) (qk_K xta) (qk_K xtb) (t + 1) = qp_step lf un bi big k (qk_K xta t) (qk_K xtb t) (qp_run lf un bi big (qk_K xtk) (qk_K xta) (qk_K xtb) t) := by
        show qp_step lf un bi big (qk_K xtk t) _ _ _ = _
        rw [eK]
      have hbad := hgood t hlt
      rw [eK] at hbad
      have ct : (nI t).toNatClampNeg = t := nI_clamp (by omega)
      have next := fun (m2 : Nat) (D2 : Nat → V) (K2 A2 B2 L2 R2 FA2 FS2 FI2 : Nat → Int32) => ih (t + 1) m2 D2 K2 A2 B2 L2 R2 FA2 FS2 FI2 (by omega) (by omega)
      rw [hrun] at next
      clear hrun hp hgood h0
      generalize hS : qp_run lf un bi big (qk_K xtk) (qk_K xta) (qk_K xtb) t = S at *
      obtain ⟨d, fa, fs, fi, B⟩ := S
      obtain ⟨g1, g2, g3, g4, g5, g6⟩ := h4
      dsimp only at g1 g2 g3 g4 g5 g6
      have hcnd : qp_cn fa fs fi (d + 1) = qp_cn fa fs fi d + (qp_c (fa d) + qp_c (fs d) + qp_c (fi d)) := rfl
      obtain ⟨f1, f2, f3⟩ := g5 d (Nat.le_refl _)
      have cd : (nI d).toNatClampNeg = d := nI_clamp (by omega)
      have hid : vp_in (nI d) 17 := pk_in d 17 (by omega)
      refine ⟨pk_in t 16 (by omega), nm_r (e' := nI k) (by rw [ct]; exact ek) ?_⟩
      by_cases k3 : k = 3
      · subst k3
        have hi1 : vp_in (nI (d + 1)) 17 := pk_in (d + 1) 17 (by omega)
        refine br_t rfl (nm_r (nI_1 d) ?_)
        refine And.intro hi1 (nm_e (And.intro hi1 (nm_e (And.intro hi1 (nm_e (nm_r (nI_1 t) ?_))))))
        rw [nI_clamp (by omega)]
        refine next m D K' A' B' L' R' _ _ _ ⟨?_, ?_, ?_, g4, ?_, g6⟩
        · intro l hl hn
          show qp_set fs (d + 1) none l = none
          have hn : qp_set fi (d + 1) none l = none := hn
          have hl : l ≤ d + 1 := hl
          by_cases z : l = d + 1
          · subst z; rw [qp_set_s]
          · rw [qp_set_n z] at hn ⊢; exact g1 l (by omega) hn
        · show d + 1 ≤ t + 1
          omega
        · show m + qp_cn (qp_set fa (d + 1) none) (qp_set fs (d + 1) none) (qp_set fi (d + 1) none) (d + 1 + 1) ≤ 2 * (t + 1)
          have e : qp_cn (qp_set fa (d + 1) none) (qp_set fs (d + 1) none) (qp_set fi (d + 1) none) (d + 1 + 1) = qp_cn fa fs fi (d + 1) := by
            show qp_cn _ _ _ (d + 1) + (qp_c (qp_set fa (d + 1) none (d + 1)) + qp_c (qp_set fs (d + 1) none (d + 1)) + qp_c (qp_set fi (d + 1) none (d + 1))) = _
            rw [qp_set_s, qp_set_s, qp_set_s, qp_cn_cg (fa' := fa) (fs' := fs) (fi' := fi) (d + 1) (fun l hl => ⟨qp_set_n (by omega), qp_set_n (by omega), qp_set_n (by omega)⟩)]
            rfl
          rw [e]
          omega
        · intro l hl
          have hl : l ≤ d + 1 := hl
          show qn_fr D m (upd FA' (d + 1) (-1) l) (qp_set fa (d + 1) none l) ∧ qn_fr D m (upd FS' (d + 1) (-1) l) (qp_set fs (d + 1) none l) ∧ qn_fr D m (upd FI' (d + 1) (-1) l) (qp_set fi (d + 1) none l)
          by_cases z : l = d + 1
          · subst z
            rw [qp_set_s, qp_set_s, qp_set_s, pk_us, pk_us, pk_us]
            exact ⟨rfl, rfl, rfl⟩
          · rw [qp_set_n z, qp_set_n z, qp_set_n z, pk_un z, pk_un z, pk_un z]
            exact g5 l (by omega)
      · have n3 : ¬ nI k = 3 := xe_kne (q := 3) (by omega) (by omega) k3
        refine br_f n3 ?_
        by_cases k4 : k = 4
        · subst k4
          have hz : d ≠ 0 := fun z => by unfold qp_badb at hbad; simp [z] at hbad
          obtain ⟨e, rfl⟩ : ∃ e, d = e + 1 := ⟨d - 1, by omega⟩
          refine br_t rfl (br_f (nI_nle (by omega) (by omega)) ?_)
          refine xe_end lf un bi big (e + 1) m (by omega) (by omega) rfl (fa (e + 1)) (fs (e + 1)) (fi (e + 1)) D hnb g4 f1 f2 f3 (g1 (e + 1) (Nat.le_refl _)) _ (fun m' D' K2 A2 B2 L2 R2 FA2 FS2 FI2 hc hm' hok hup hfr hs1 hi1 hoth hbig => ?_)
          have hcne : qp_cn fa fs fi (e + 1) = qp_cn fa fs fi e + (qp_c (fa e) + qp_c (fs e) + qp_c (fi e)) := rfl
          obtain ⟨p1, p2, p3⟩ := g5 e (by omega)
          refine nm_r (pk_m1 e) ⟨pk_in (e + 1) 17 (by omega) (nI_1 e), ?_⟩
          rw [show (nI e + 1).toNatClampNeg = e + 1 from by rw [nI_1]; exact nI_clamp (by omega)]
          have hsi : fi e = none → fs e = none := g1 e (by omega)
          refine xe_take lf un bi big e m' (by omega) (by omega) rfl (fs e) (fi e) D' hok (by rw [(hoth e (by omega)).2.1]; exact hup _ _ p2) (by rw [(hoth e (by omega)).2.2]; exact hup _ _ p3) hsi (FA2 (e + 1)) _ (fun m3 D3 K3 A3 B3 L3 R3 FS3 hm3 hm3' hc3 hok3 hup3 hfs3 ho3 hb3 => ?_)
          refine nm_r (nI_1 t) ?_
          generalize hal : qp_alt bi (fa (e + 1)) (qp_sq lf (qp_join bi (fs (e + 1)) (fi (e + 1)))) = al at *
          have estep : qp_step lf un bi big 4 (qk_K xta t) (qk_K xtb t) (e + 1, fa, fs, fi, B) = (e, qp_set fa (e + 1) (some al), qp_set (qp_set fs (e + 1) none) e (qp_join bi (fs e) (fi e)), qp_set (qp_set fi (e + 1) none) e (some al), ((B ∨ qp_jbig bi big (fs (e + 1)) (fi (e + 1))) ∨ big al) ∨ qp_jbig bi big (fs e) (fi e)) := by
            show qp_take bi big e ((qp_end lf bi big (e + 1) (e + 1, fa, fs, fi, B)).2.1 (e + 1)) (e, (qp_end lf bi big (e + 1) (e + 1, fa, fs, fi, B)).2) = _
            unfold qp_end qp_take
            dsimp only
            rw [qp_set_s, qp_set_n (show e ≠ e + 1 by omega), qp_set_n (show e ≠ e + 1 by omega), hal]
          rw [estep] at next
          refine next m3 D3 K3 A3 B3 L3 R3 FA2 FS3 _ ⟨?_, ?_, ?_, hok3, ?_, ?_⟩
          · intro l hl hn
            show qp_set (qp_set fs (e + 1) none) e (qp_join bi (fs e) (fi e)) l = none
            have hn : qp_set (qp_set fi (e + 1) none) e (some al) l = none := hn
            have hl : l ≤ e := hl
            by_cases z : l = e
            · subst z; rw [qp_set_s] at hn; exact nomatch hn
            · rw [qp_set_n z, qp_set_n (by omega)] at hn ⊢; exact g1 l (by omega) hn
          · show e ≤ t + 1
            omega
          · show m3 + qp_cn (qp_set fa (e + 1) (some al)) (qp_set (qp_set fs (e + 1) none) e (qp_join bi (fs e) (fi e))) (qp_set (qp_set fi (e + 1) none) e (some al)) (e + 1) ≤ 2 * (t + 1)
            have ecn : qp_cn (qp_set fa (e + 1) (some al)) (qp_set (qp_set fs (e + 1) none) e (qp_join bi (fs e) (fi e))) (qp_set (qp_set fi (e + 1) none) e (some al)) (e + 1) = qp_cn fa fs fi e + (qp_c (fa e) + qp_c (qp_join bi (fs e) (fi e)) + 1) := by
              show qp_cn _ _ _ e + (qp_c (qp_set fa (e + 1) (some al) e) + qp_c (qp_set _ e _ e) + qp_c (qp_set _ e _ e)) = _
              rw [qp_set_s, qp_set_s, qp_set_n (by omega), qp_cn_cg (fa' := fa) (fs' := fs) (fi' := fi) e (fun l hl => ⟨qp_set_n (by omega), by rw [qp_set_n (by omega), qp_set_n (by omega)], by rw [qp_set_n (by omega), qp_set_n (by omega)]⟩)]
              rfl
            rw [ecn]
            omega
          · intro l hl
            have hl : l ≤ e := hl
            show qn_fr D3 m3 (FA2 l) (qp_set fa (e + 1) (some al) l) ∧ qn_fr D3 m3 (FS3 l) (qp_set (qp_set fs (e + 1) none) e (qp_join bi (fs e) (fi e)) l) ∧ qn_fr D3 m3 (upd FI2 e (FA2 (e + 1)) l) (qp_set (qp_set fi (e + 1) none) e (some al) l)
            rw [qp_set_n (show l ≠ e + 1 by omega)]
            by_cases z : l = e
            · subst z
              rw [qp_set_s, qp_set_s, pk_us, (hoth l (by omega)).1]
              exact ⟨hup3 _ _ (hup _ _ p1), hfs3, hup3 _ _ hfr⟩
            · obtain ⟨r1, r2, r3⟩ := g5 l (by omega)
              rw [qp_set_n z, qp_set_n z, qp_set_n (by omega), qp_set_n (by omega), pk_un z, ho3 l z, (hoth l (by omega)).1, (hoth l (by omega)).2.1, (hoth l (by omega)).2.2]
              exact ⟨hup3 _ _ (hup _ _ r1), hup3 _ _ (hup _ _ r2), hup3 _ _ (hup _ _ r3)⟩
          · show (((B ∨ qp_jbig bi big (fs (e + 1)) (fi (e + 1))) ∨ big al) ∨ qp_jbig bi big (fs e) (fi e)) ↔ _
            rw [hb3, hbig, g6]
        · have n4 : ¬ nI k = 4 := xe_kne (q := 4) (by omega) (by omega) k4
          refine br_f n4 ?_
          by_cases k5 : k = 5
          · subst k5
            refine br_t rfl ?_
            refine xe_end lf un bi big d m (by omega) (by omega) rfl (fa d) (fs d) (fi d) D hnb g4 f1 f2 f3 (g1 d (Nat.le_refl _)) _ (fun m' D' K2 A2 B2 L2 R2 FA2 FS2 FI2 hc hm' hok hup hfr hs1 hi1 hoth hbig => nm_r (nI_1 t) ?_)
            generalize hal : qp_alt bi (fa d) (qp_sq lf (qp_join bi (fs d) (fi d))) = al at *
            have estep : qp_step lf un bi big 5 (qk_K xta t) (qk_K xtb t) (d, fa, fs, fi, B) = (d, qp_set fa d (some al), qp_set fs d none, qp_set fi d none, (B ∨ qp_jbig bi big (fs d) (fi d)) ∨ big al) := by
              show qp_end lf bi big d (d, fa, fs, fi, B) = _
              unfold qp_end
              dsimp only
              rw [hal]
            rw [estep] at next
            refine next m' D' K2 A2 B2 L2 R2 FA2 FS2 FI2 ⟨?_, ?_, ?_, hok, ?_, ?_⟩
            · intro l hl hn
              show qp_set fs d none l = none
              have hn : qp_set fi d none l = none := hn
              have hl : l ≤ d := hl
              by_cases z : l = d
              · subst z; rw [qp_set_s]
              · rw [qp_set_n z] at hn ⊢; exact g1 l hl hn
            · show d ≤ t + 1
              omega
            · show m' + qp_cn (qp_set fa d (some al)) (qp_set fs d none) (qp_set fi d none) (d + 1) ≤ 2 * (t + 1)
              have ecn : qp_cn (qp_set fa d (some al)) (qp_set fs d none) (qp_set fi d none) (d + 1) = qp_cn fa fs fi d + 1 := by
                show qp_cn _ _ _ d + (qp_c (qp_set fa d (some al) d) + qp_c (qp_set fs d none d) + qp_c (qp_set fi d none d)) = _
                rw [qp_set_s, qp_set_s, qp_set_s, qp_cn_cg (fa' := fa) (fs' := fs) (fi' := fi) d (fun l hl => ⟨qp_set_n (by omega), qp_set_n (by omega), qp_set_n (by omega)⟩)]
                rfl
              rw [ecn]
              omega
            · intro l hl
              have hl : l ≤ d := hl
              show qn_fr D' m' (FA2 l) (qp_set fa d (some al) l) ∧ qn_fr D' m' (FS2 l) (qp_set fs d none l) ∧ qn_fr D' m' (FI2 l) (qp_set fi d none l)
              by_cases z : l = d
              · subst z
                rw [qp_set_s, qp_set_s, qp_set_s]
                exact ⟨hfr, hs1, hi1⟩
              · obtain ⟨r1, r2, r3⟩ := g5 l hl
                rw [qp_set_n z, qp_set_n z, qp_set_n z, (hoth l z).1, (hoth l z).2.1, (hoth l z).2.2]
                exact ⟨hup _ _ r1, hup _ _ r2, hup _ _ r3⟩
            · show ((B ∨ qp_jbig bi big (fs d) (fi d)) ∨ big al) ↔ _
              rw [hbig, g6]
          · have n5 : ¬ nI k = 5 := xe_kne (q := 5) (by omega) (by omega) k5
            refine br_f n5 ?_
            refine xe_isrep k hk12 _ (fun hr => br_f (by decide) ⟨hid, ?_⟩) (fun hr => br_t rfl ?_)
            · rw [cd]
              cases hfi : fi d with
              | none =>
                exfalso
                unfold qp_badb at hbad
                dsimp only at hbad
                rw [hfi] at hbad
                simp [hr] at hbad
              | some x =>
                rw [hfi] at f3 hcnd
                refine xe_rep lf un bi big t m k (by omega) (by omega) rfl hr ek q9 D hnb g4 (FI' d) x f3 _ (fun r m' D' K2 A2 B2 L2 R2 hm' hok hup hfr hbig => ⟨hid, nm_e (nm_r (nI_1 t) ?_)⟩)
                try rw [cd]
                have estep : qp_step lf un bi big k (qk_K xta t) (qk_K xtb t) (d, fa, fs, fi, B) = (d, fa, fs, qp_set fi d (some (qp_rep lf un bi k (qk_K xta t) (qk_K xtb t) x)), B ∨ big (qp_rep lf un bi k (qk_K xta t) (qk_K xtb t) x)) := by
                  unfold qp_step
                  rw [if_neg k3, if_neg k4, if_neg k5, if_pos (by omega)]
                  dsimp only
                  rw [hfi]
                  rfl
                rw [estep] at next
                generalize qp_rep lf un bi k (qk_K xta t) (qk_K xtb t) x = rp at *
                refine next m' D' K2 A2 B2 L2 R2 FA' FS' _ ⟨?_, ?_, ?_, hok, ?_, ?_⟩
                · intro l hl hn
                  show fs l = none
                  have hn : qp_set fi d (some rp) l = none := hn
                  have hl : l ≤ d := hl
                  by_cases z : l = d
                  · subst z; rw [qp_set_s] at hn; exact nomatch hn
                  · rw [qp_set_n z] at hn; exact g1 l hl hn
                · show d ≤ t + 1
                  omega
                · show m' + qp_cn fa fs (qp_set fi d (some rp)) (d + 1) ≤ 2 * (t + 1)
                  have ecn : qp_cn fa fs (qp_set fi d (some rp)) (d + 1) = qp_cn fa fs fi d + (qp_c (fa d) + qp_c (fs d) + 1) := by
                    show qp_cn _ _ _ d + (qp_c (fa d) + qp_c (fs d) + qp_c (qp_set fi d (some rp) d)) = _
                    rw [qp_set_s, qp_cn_cg (fa' := fa) (fs' := fs) (fi' := fi) d (fun l hl => ⟨rfl, rfl, qp_set_n (by omega)⟩)]
                    rfl
                  have : qp_c (some x) = 1 := rfl
                  rw [ecn]
                  omega
                · intro l hl
                  have hl : l ≤ d := hl
                  show qn_fr D' m' (FA' l) (fa l) ∧ qn_fr D' m' (FS' l) (fs l) ∧ qn_fr D' m' (upd FI' d r l) (qp_set fi d (some rp) l)
                  obtain ⟨r1, r2, r3⟩ := g5 l hl
                  by_cases z : l = d
                  · subst z
                    rw [qp_set_s, pk_us]
                    exact ⟨hup _ _ r1, hup _ _ r2, hfr⟩
                  · rw [qp_set_n z, pk_un z]
                    exact ⟨hup _ _ r1, hup _ _ r2, hup _ _ r3⟩
                · show (B ∨ big rp) ↔ _
                  rw [hbig, g6]
            · have hk6 : ¬ (k = 6 ∨ k = 7 ∨ k = 8 ∨ k = 9) := by clear g6; omega
              refine xe_leaf lf un bi t m k (by omega) (by omega) rfl (by omega) ek q0 q2 D g4 _ (fun K2 A2 B2 L2 R2 hok => ?_)
              have hsi := g1 d (Nat.le_refl _)
              refine xe_take lf un bi big d (m + 1) (by omega) (by omega) rfl (fs d) (fi d) _ hok (qn_fr_up _ f2) (qn_fr_up _ f3) hsi (nI m) _ (fun m3 D3 K3 A3 B3 L3 R3 FS3 hm3 hm3' hc3 hok3 hup3 hfs3 ho3 hb3 => nm_r (nI_1 t) ?_)
              have estep : qp_step lf un bi big k (qk_K xta t) (qk_K xtb t) (d, fa, fs, fi, B) = (d, fa, qp_set fs d (qp_join bi (fs d) (fi d)), qp_set fi d (some (qp_leaf lf k (qk_K xta t))), (B ∨ qp_jbig bi big (fs d) (fi d)) ∨ big (qp_leaf lf k (qk_K xta t))) := by
                unfold qp_step
                rw [if_neg k3, if_neg k4, if_neg k5, if_neg hk6]
                rfl
              rw [estep] at next
              generalize hlf : qp_leaf lf k (qk_K xta t) = LF at *
              refine next m3 D3 K3 A3 B3 L3 R3 FA' FS3 _ ⟨?_, ?_, ?_, hok3, ?_, ?_⟩
              · intro l hl hn
                show qp_set fs d (qp_join bi (fs d) (fi d)) l = none
                have hn : qp_set fi d (some LF) l = none := hn
                have hl : l ≤ d := hl
                by_cases z : l = d
                · subst z; rw [qp_set_s] at hn; exact nomatch hn
                · rw [qp_set_n z] at hn ⊢; exact g1 l hl hn
              · show d ≤ t + 1
                omega
              · show m3 + qp_cn fa (qp_set fs d (qp_join bi (fs d) (fi d))) (qp_set fi d (some LF)) (d + 1) ≤ 2 * (t + 1)
                have ecn : qp_cn fa (qp_set fs d (qp_join bi (fs d) (fi d))) (qp_set fi d (some LF)) (d + 1) = qp_cn fa fs fi d + (qp_c (fa d) + qp_c (qp_join bi (fs d) (fi d)) + 1) := by
                  show qp_cn _ _ _ d + (qp_c (fa d) + qp_c (qp_set fs d _ d) + qp_c (qp_set fi d (some LF) d)) = _
                  rw [qp_set_s, qp_set_s, qp_cn_cg (fa' := fa) (fs' := fs) (fi' := fi) d (fun l hl => ⟨rfl, qp_set_n (by omega), qp_set_n (by omega)⟩)]
                  rfl
                rw [ecn]
                omega
              · intro l hl
                have hl : l ≤ d := hl
                show qn_fr D3 m3 (FA' l) (fa l) ∧ qn_fr D3 m3 (FS3 l) (qp_set fs d (qp_join bi (fs d) (fi d)) l) ∧ qn_fr D3 m3 (upd FI' d (nI m) l) (qp_set fi d (some LF) l)
                obtain ⟨r1, r2, r3⟩ := g5 l hl
                by_cases z : l = d
                · subst z
                  rw [qp_set_s, qp_set_s, pk_us]
                  exact ⟨hup3 _ _ (qn_fr_up _ r1), hfs3, hup3 _ _ (qn_fr_new D m LF)⟩
                · rw [qp_set_n z, qp_set_n z, pk_un z, ho3 l z]
                  exact ⟨hup3 _ _ (qn_fr_up _ r1), hup3 _ _ (qn_fr_up _ r2), hup3 _ _ (qn_fr_up _ r3)⟩
              · show ((B ∨ qp_jbig bi big (fs d) (fi d)) ∨ big LF) ↔ _
                rw [hb3, qn_big, g6]
                constructor
                · rintro ((h | h) | h)
                  · exact Or.inl (Or.inl h)
                  · exact Or.inr h
                  · exact Or.inl (Or.inr h)
                · rintro ((h | h) | h)
                  · exact Or.inl (Or.inl h)
                  · exact Or.inr h
                  · exact Or.inl (Or.inr h)
theorem xe_parse (nt : Nat) (hk : qk_ok xtk xta xtb nt) (htc : xtc = nI nt) (hnb : ¬ big (lf 12 0)) (hw : qp_wrong lf un bi big (qk_K xtk) (qk_K xta) (qk_K xtb) nt = -1) (post : Int32 → SX → Prop)
  (hp : ∀ (root : Int32) (m' : Nat) (D' : Nat → V) (K' A' B' L' R' FA' FS' FI' : Nat → Int32), m' ≤ 33 → qn_ok lf un bi K' A' B' L' R' m' D' → qn_fr D' m' root (some (qp_alt bi ((qp_run lf un bi big (qk_K xtk) (qk_K xta) (qk_K xtb) nt).2.1 0) (qp_sq lf (qp_join bi ((qp_run lf un bi big (qk_K xtk) (qk_K xta) (qk_K xtb) nt).2.2.1 0) ((qp_run lf un bi big (qk_K xtk) (qk_K xta) (qk_K xtb) nt).2.2.2.1 0))))) → ((qp_end lf bi big 0 (qp_run lf un bi big (qk_K xtk) (qk_K xta) (qk_K xtb) nt)).2.2.2.2 ↔ ∃ n, n < m' ∧ big (D' n)) → post root (xwc, xdc, xdm, xsc, xtc, nI m', xmc, xbr, xwt, xch, xtl, xwf, xdn, xdf, xdl, xss, xtk, xta, xtb, K', A', B', L', R', xns, FA', FS', FI', xrw, xrc, xcl, xhd, xre, xhi, xwo)) : wpX_parse post (xwc, xdc, xdm, xsc, xtc, xnc, xmc, xbr, xwt, xch, xtl, xwf, xdn, xdf, xdl, xss, xtk, xta, xtb, xnk, xna, xnb, xnl, xnr, xns, xfa, xfs, xfi, xrw, xrc, xcl, xhd, xre, xhi, xwo) := by
  have h16 := hk.1
  obtain ⟨hg, h0⟩ := qp_wr_ok lf un bi big _ _ _ nt nt 0 (by omega) (by omega) hw
  unfold wpX_parse
  have hi1 : vp_in (0 : Int32) 17 := pk_in 0 17 (by omega)
  refine And.intro hi1 (nm_e (And.intro hi1 (nm_e (And.intro hi1 (nm_e ⟨nt + 1, ?_⟩)))))
  refine xe_loop lf un bi big nt hk htc hnb (fun j hj => hg j (by omega) hj) h0 post hp (nt + 1) 0 0 (fun _ => lf 12 0) xnk xna xnb xnl xnr _ _ _ (by omega) (by omega) ⟨fun l _ _ => rfl, Nat.le_refl _, Nat.le_refl _, fun n hn => absurd hn (by omega), fun l hl => ?_, ⟨fun h => h.elim, fun ⟨n, hn, _⟩ => absurd hn (by omega)⟩⟩
  have e : l = 0 := Nat.le_zero.mp hl
  subst e
  exact ⟨pk_us, pk_us, pk_us⟩
end
