/-! the reference: the claims of all ops -/
theorem qz_ok {op oa ob : Nat → Int32} {n : Nat} {st : List qv_T} {P : Prop} (h : qp_YO qv_lf qv_un qv_bi qv_big op oa ob n st P) : ∀ k, k ≤ n → ∀ v, v ∈ qz_R qv_lf qv_un qv_bi op oa ob k → qv_ok v := by
  intro k
  induction k with
  | zero => exact fun _ v hv => nomatch hv
  | succ k ih =>
    intro hk v hv
    have hi := ih (by omega)
    obtain ⟨o, eo, hc, _, _⟩ := qz_step qv_lf qv_un qv_bi qv_big h (show k < n by omega)
    rcases hc with ⟨hk, hk0, hk2, er⟩ | ⟨hk, er⟩ | ⟨hk, h9, x, s, e0, er⟩ | ⟨hk, y, x, s, e0, er⟩
    · rw [er] at hv
      rcases List.mem_cons.mp hv with z | z
      · subst z
        unfold qp_leaf
        split
        · rename_i o0
          have := (hk0 o0).1
          exact qv_ok_lf 2 _ (fun _ => ⟨_, this, Nat.testBit_two_pow_self⟩)
        · split
          · exact qv_ok_lf 2 63 (fun _ => qi_bit (by omega) (by omega))
          · split
            · rename_i o2
              have := (hk2 o2).1
              exact qv_ok_lf 2 _ (fun _ => qi_bit this.1 this.2)
            · rename_i o2
              exact qv_ok_lf o 0 (fun h => absurd h o2)
      · exact hi v z
    · rw [er] at hv
      rcases List.mem_cons.mp hv with z | z
      · subst z
        exact qv_ok_lf 12 0 (fun h => nomatch h)
      · exact hi v z
    · rw [er] at hv
      rw [e0] at hi
      have hx := hi x (List.mem_cons_self)
      rcases List.mem_cons.mp hv with z | z
      · subst z
        unfold qp_rep
        split
        · exact qv_ok_bi 8 hx (qv_ok_lf 12 0 (fun h => nomatch h))
        · split
          · split
            · exact qv_ok_lf 12 0 (fun h => nomatch h)
            · split
              · exact hx
              · exact qv_ok_un _ _ _ hx
          · exact qv_ok_un _ _ _ hx
      · exact hi v (List.mem_cons_of_mem _ z)
    · rw [er] at hv
      rw [e0] at hi
      rcases List.mem_cons.mp hv with z | z
      · subst z
        exact qv_ok_bi _ (hi x (List.mem_cons_of_mem _ List.mem_cons_self)) (hi y List.mem_cons_self)
      · exact hi v (List.mem_cons_of_mem _ (List.mem_cons_of_mem _ z))
def qk_cnt (a b : Nat) (v : qi_T) : qi_T := if b = 0 then qi_known [[]] else if a = 0 then qi_unk else if b ≤ 1 then v else qi_rep v
section
variable {ywa ydd ynd yns yma ynt yno yrc yfo ybl yod ywr : Int32} {yan yab yac yad yal yabl yacl yacf ynu yfi ypa ysz yli ytx yki yf1 yf2 yo yoa yob yit yss ymo yst ymy ycl yrw yow yhi yla : Nat → Int32} {yen : Nat → Int64} {now : Nat → qf_X}
theorem yk_count (how : qy_own now yow) (p a b : Nat) (hp20 : p < 20) (ha : a < 2 ^ 31) (hb : b < 2 ^ 31) (v : qi_T) (wv : qi_wf v) (hv : qk_sl now yst ymy ycl p v) (x y z : Int32) (ex : x = nI p) (ey : y = nI a) (ez : z = nI b) (post : SY → Prop)
  (hp : ∀ (rc' : Int32) (rw' st' my' cl' : Nat → Int32), qk_sl now st' my' cl' p (qk_cnt a b v) → qk_kp p yst ymy ycl st' my' cl' → post (ywa, ydd, ynd, yns, yma, ynt, yno, rc', yfo, ybl, yod, ywr, yan, yab, yac, yad, yal, yabl, yacl, yacf, ynu, yfi, ypa, ysz, yli, ytx, yki, yf1, yf2, yo, yoa, yob, yit, yss, ymo, st', my', cl', rw', yow, yen, yhi, yla)) : wpY_count post (ywa, ydd, ynd, yns, yma, ynt, yno, yrc, yfo, ybl, yod, ywr, yan, yab, yac, yad, yal, yabl, yacl, yacf, ynu, yfi, ypa, ysz, yli, ytx, yki, yf1, yf2, yo, yoa, yob, yit, yss, ymo, yst, ymy, ycl, yrw, yow, yen, yhi, yla) x y z := by
  subst ex; subst ey; subst ez
  unfold qk_cnt at hp
  unfold wpY_count
  refine pk_eq b 0 (fun e0 => ?_) (fun e0 => pk_eq a 0 (fun ea => ?_) (fun ea => pk_le b 1 (fun h1 => ?_) (fun h1 => ?_)))
  · rw [if_pos e0] at hp
    refine yk_letters (now := now) p 0 hp20 (by omega) _ _ rfl rfl _ (fun rc' rw' st' my' cl' g1 g2 _ _ => hp _ _ _ _ _ ?_ g2)
    exact g1
  · rw [if_neg e0, if_pos ea] at hp
    exact yk_nothing how p hp20 _ rfl _ hp
  · rw [if_neg e0, if_neg ea, if_pos h1] at hp
    exact hp _ _ _ _ _ hv (qk_kp_rf _ _ _ _)
  · rw [if_neg e0, if_neg ea, if_neg (by omega)] at hp
    refine yk_loosen how p hp20 v wv hv _ rfl _ (fun rc' rw' st' my' cl' g1 g2 g3 => And.intro (pk_in (3 * p) 60 (by omega) (qk_3 p)) (nm_e ?_))
    rw [pk_cl (3 * p) (qk_3 p)]
    refine hp _ _ _ _ _ (qk_sl_none (v := qi_rep v) rfl (qk_lo_rep g1)) ⟨fun s hs => ?_, fun q hq => g3 q (by omega)⟩
    have hs' : s < 3 * p := hs
    obtain ⟨c1, c2⟩ := g2 s ⟨by omega, by omega⟩
    exact ⟨(pk_un (by omega)).trans c1, c2⟩
theorem qk_bit1 (a l : Nat) (ha : a < 64) (hl : l < 6) : ((nI a >>> (nI l &&& 31)) &&& 1) = nI (if a.testBit l = true then 1 else 0) := by
  by_cases z : a.testBit l = true
  · rw [if_pos z]
    exact (qb_s1 (nI a) l (by omega)).mpr (by rw [qb_nI a l (by omega)]; exact z)
  · rw [if_neg z]
    exact (qb_s0 (nI a) l (by omega)).mpr (by rw [qb_nI a l (by omega)]; simpa using z)
theorem yk_bits (a : Nat) (ha : a < 64) (x : Int32) (ex : x = nI a) (post : Int32 → Prop) (hp : post (nI (qi_ls a).length)) : wpY_bits post x := by
  subst ex
  have key : ∀ (N l : Nat), l ≤ 6 → 6 - l < N → wY_bits_4 post (nI a) N (nI (qi_lt a l).length) (nI l) := by
    intro N
    induction N with
    | zero => intro l h1 h2; omega
    | succ N ih =>
      intro l h1 h2
      refine pk_le 6 l (fun hle => ?_) (fun hlt => nm_r (e' := nI (qi_lt a (l + 1)).length) ?_ (nm_r (nI_1 l) (ih (l + 1) (by omega) (by omega))))
      · have e : l = 6 := by omega
        subst e
        exact hp
      · rw [qk_bit1 a l ha hlt, nI_add, qi_lt_s, List.length_append]
        congr 2
        split <;> rfl
  exact ⟨7, key 7 0 (by omega) (by omega)⟩
theorem qk_rep_info (o a b : Nat) (x : qv_T) (ho : 6 ≤ o ∧ o ≤ 9) (hab : o = 9 → a ≤ b) : (qp_rep qv_lf qv_un qv_bi o a b x).2.1 = if o = 6 then qi_unk else if o = 7 then qk_cnt 1 2 x.2.1 else if o = 8 then qi_alt x.2.1 (qi_known [[]]) else qk_cnt a b x.2.1 := by
  unfold qp_rep
  by_cases o8 : o = 8
  · subst o8; rfl
  · rw [if_neg o8]
    by_cases o9 : o = 9
    · rw [if_pos o9]
      subst o9
      rw [if_neg (show ¬ 9 = 6 by omega), if_neg (show ¬ 9 = 7 by omega), if_neg o8]
      unfold qk_cnt
      by_cases b0 : b = 0
      · rw [if_pos b0, if_pos b0]; rfl
      · rw [if_neg b0, if_neg b0]
        by_cases h11 : a = 1 ∧ b = 1
        · rw [if_pos h11, if_neg (by omega), if_pos (by omega)]
        · rw [if_neg h11]
          show qi_un 9 a x.2.1 = _
          unfold qi_un
          rw [if_neg (show ¬ 9 = 7 by omega), if_pos rfl]
          by_cases a0 : a = 0
          · rw [if_pos a0, if_pos a0]
          · have := hab rfl
            rw [if_neg a0, if_neg a0, if_neg (show ¬ b ≤ 1 by omega)]
    · rw [if_neg o9]
      by_cases o6 : o = 6
      · subst o6; rfl
      · have o7 : o = 7 := by omega
        subst o7; rfl
theorem yk_claim1 (n : Nat) (hn : n ≤ 33) (hno : yno = nI n) (root : qv_T) (P : Prop) (hO : qp_YO qv_lf qv_un qv_bi qv_big yo yoa yob n [root] P) (how : qy_own now yow) (post : Int32 → SY → Prop)
  (hp : ∀ (x rc' : Int32) (rw' st' my' cl' : Nat → Int32), qk_cl now x root.2.1.2.2.2 → post x (ywa, ydd, ynd, yns, yma, ynt, yno, rc', yfo, ybl, yod, ywr, yan, yab, yac, yad, yal, yabl, yacl, yacf, ynu, yfi, ypa, ysz, yli, ytx, yki, yf1, yf2, yo, yoa, yob, yit, yss, ymo, st', my', cl', rw', yow, yen, yhi, yla)) :
  ∀ (N k : Nat) (rc' : Int32) (rw' st' my' cl' : Nat → Int32), k ≤ n → n - k < N → qz_sl (fun p v => qk_sl now st' my' cl' p v.2.1) (qz_R qv_lf qv_un qv_bi yo yoa yob k) → wY_claim_4 post N (nI (qz_R qv_lf qv_un qv_bi yo yoa yob k).length) (nI k) ywa ydd ynd yns yma ynt yno rc' yfo ybl yod ywr yan yab yac yad yal yabl yacl yacf ynu yfi ypa ysz yli ytx yki yf1 yf2 yo yoa yob yit yss ymo st' my' cl' rw' yow yen yhi yla := by
  intro N
  subst hno
  induction N with
  | zero => intro k rc' rw' st' my' cl' h2 h3; omega
  | succ N ih =>
    intro k rc' rw' st' my' cl' h2 h3 h4
    have hall := qz_ok hO k h2
    refine pk_le n k (fun hle => ?_) (fun hlt => ?_)
    · have e : k = n := by omega
      subst e
      have er : qz_R qv_lf qv_un qv_bi yo yoa yob k = [root] := hO.1
      rw [er] at h4 hall
      refine yk_loosen how 0 (by omega) root.2.1 (hall root List.mem_cons_self).1 h4.1 _ rfl _ (fun rc2 rw2 st2 my2 cl2 g1 g2 g3 => hp _ _ _ _ _ _ g1.2.2)
    · have ck : (nI k).toNatClampNeg = k := nI_clamp (by omega)
      obtain ⟨o, eo, hc, hl1, hl0⟩ := qz_step qv_lf qv_un qv_bi qv_big hO hlt
      have ho : o < 15 := by rcases hc with h | h | h | h <;> omega
      have fin : ∀ (v : qv_T) (s : List qv_T) (rc2 : Int32) (rw2 st2 my2 cl2 : Nat → Int32), qz_R qv_lf qv_un qv_bi yo yoa yob (k + 1) = v :: s → qz_sl (fun p v => qk_sl now st' my' cl' p v.2.1) s → qk_sl now st2 my2 cl2 s.length v.2.1 → qk_kp s.length st' my' cl' st2 my2 cl2 → wY_claim_4 post N (nI (s.length + 1)) (nI (k + 1)) ywa ydd ynd yns yma ynt (nI n) rc2 yfo ybl yod ywr yan yab yac yad yal yabl yacl yacf ynu yfi ypa ysz yli ytx yki yf1 yf2 yo yoa yob yit yss ymo st2 my2 cl2 rw2 yow yen yhi yla := by
        intro v s rc2 rw2 st2 my2 cl2 er hs hv hkp
        have := ih (k + 1) rc2 rw2 st2 my2 cl2 (by omega) (by omega) (by
          rw [er]
          exact ⟨hv, qz_sl_cg (fun p w hp h => qk_sl_kp hkp hp h) hs⟩)
        rw [er, List.length_cons] at this
        exact this
      refine ⟨pk_in k 40 (by omega), nm_r (e' := nI o) (by rw [ck]; exact eo) ?_⟩
      refine yz_gr o ho _ (fun hg => ?_) (fun hg => ?_) (fun hg => ?_)
      · -- a leaf
        generalize hR : qz_R qv_lf qv_un qv_bi yo yoa yob k = s at *
        refine nm_r (nI_1 _) (nm_r (nI_pred _) ?_)
        have unk : ∀ v : qv_T, qz_R qv_lf qv_un qv_bi yo yoa yob (k + 1) = v :: s → v.2.1 = qi_unk → (o = 1 ∨ o = 2) → wY_claim_85 post (wY_claim_4 post N) (nI (s.length + 1)) (nI k) (nI o) (nI s.length) ywa ydd ynd yns yma ynt (nI n) rc' yfo ybl yod ywr yan yab yac yad yal yabl yacl yacf ynu yfi ypa ysz yli ytx yki yf1 yf2 yo yoa yob yit yss ymo st' my' cl' rw' yow yen yhi yla := by
          intro v er ev ho12
          refine pk_lt o 10 (fun _ => ?_) (fun h => by omega)
          refine br_f (xe_kne (q := 13) (by omega) (by omega) (by omega)) (br_f (xe_kne (q := 14) (by omega) (by omega) (by omega)) (br_f (xe_kne (q := 8) (by omega) (by omega) (by omega)) (br_f (xe_kne (q := 7) (by omega) (by omega) (by omega)) (br_f (xe_kne (q := 9) (by omega) (by omega) (by omega)) ?_))))
          refine yk_nothing how s.length (by omega) _ rfl _ (fun rc2 rw2 st2 my2 cl2 g1 g2 => nm_r (nI_1 k) (fin v s _ _ _ _ _ er h4 (by rw [ev]; exact g1) g2))
        have emp : ∀ v : qv_T, qz_R qv_lf qv_un qv_bi yo yoa yob (k + 1) = v :: s → v.2.1 = qi_known [[]] → (10 ≤ o ∧ o ≤ 12) → wY_claim_85 post (wY_claim_4 post N) (nI (s.length + 1)) (nI k) (nI o) (nI s.length) ywa ydd ynd yns yma ynt (nI n) rc' yfo ybl yod ywr yan yab yac yad yal yabl yacl yacf ynu yfi ypa ysz yli ytx yki yf1 yf2 yo yoa yob yit yss ymo st' my' cl' rw' yow yen yhi yla := by
          intro v er ev ho12
          refine pk_lt o 10 (fun _ => by omega) (fun h => pk_lt 12 o (fun _ => by omega) (fun _ => ?_))
          refine yk_letters (now := now) s.length 0 (by omega) (by omega) _ _ rfl rfl _ (fun rc2 rw2 st2 my2 cl2 g1 g2 _ _ => nm_r (nI_1 k) (fin v s _ _ _ _ _ er h4 (by rw [ev]; exact g1) g2))
        rcases hc with ⟨hk, hk0, hk2, er⟩ | ⟨hk, er⟩ | ⟨hk, _⟩ | ⟨hk, _⟩
        · refine pk_eq o 0 (fun o0 => ?_) (fun o0 => pk_eq o 2 (fun o2 => ?_) (fun o2 => ?_))
          · obtain ⟨h6, ea⟩ := hk0 o0
            refine ⟨pk_in k 40 (by omega), ?_⟩
            have e1 : (1 : Int32) <<< (yoa k &&& 31) = nI (2 ^ (yoa k).toNatClampNeg) := by
              have : ∀ a, a < 6 → (1 : Int32) <<< (nI a &&& 31) = nI (2 ^ a) := by decide +kernel
              rw [← this _ h6, ← ea]
            have e2 : ∀ a, a < 6 → 2 ^ a < 64 ∧ 2 ^ a ≠ 0 ∧ (qi_ls (2 ^ a)).length ≤ 3 := by decide +kernel
            obtain ⟨e3, e4, e5⟩ := e2 _ h6
            rw [ck, e1]
            refine yk_letters (now := now) s.length (2 ^ (yoa k).toNatClampNeg) (by omega) e3 _ _ rfl rfl _ (fun rc2 rw2 st2 my2 cl2 g1 g2 _ _ => nm_r (nI_1 k) (fin _ s _ _ _ _ _ er h4 ?_ g2))
            rw [if_neg e4] at g1
            have ei : (qp_leaf qv_lf o (yoa k).toNatClampNeg).2.1 = qi_known ((qi_ls (2 ^ (yoa k).toNatClampNeg)).map (fun l => [l])) := by
              unfold qp_leaf
              rw [if_pos o0]
              show qi_lf 2 _ = _
              unfold qi_lf
              rw [if_pos rfl, if_pos e5]
            rw [ei]
            exact g1
          · obtain ⟨⟨h6, h7⟩, ea⟩ := hk2 o2
            have ei : (qp_leaf qv_lf o (yoa k).toNatClampNeg).2.1 = if (qi_ls (yoa k).toNatClampNeg).length ≤ 3 then qi_known ((qi_ls (yoa k).toNatClampNeg).map (fun l => [l])) else qi_unk := by
              unfold qp_leaf
              rw [if_neg o0, if_neg (by omega), if_pos o2]
              show qi_lf 2 _ = _
              unfold qi_lf
              rw [if_pos rfl]
            refine ⟨pk_in k 40 (by omega), ?_⟩
            rw [ck]
            have hlt6 : (qi_ls (yoa k).toNatClampNeg).length ≤ 6 := qk_lt_len _ 6 (by omega)
            refine yk_bits (yoa k).toNatClampNeg (by omega) _ ea _ (pk_le 4 (qi_ls (yoa k).toNatClampNeg).length (fun h => ?_) (fun h => ⟨pk_in k 40 (by omega), ?_⟩))
            · rw [if_neg (by omega)] at ei
              exact unk _ er ei (by omega)
            · rw [if_pos (by omega)] at ei
              refine yk_letters (now := now) s.length (yoa k).toNatClampNeg (by omega) (by omega) _ _ rfl ea _ (fun rc2 rw2 st2 my2 cl2 g1 g2 _ _ => nm_r (nI_1 k) (fin _ s _ _ _ _ _ er h4 ?_ g2))
              rw [if_neg (by omega)] at g1
              rw [ei]
              exact g1
          · by_cases o1 : o = 1
            · refine unk _ er ?_ (by omega)
              unfold qp_leaf
              rw [if_neg o0, if_pos o1]
              show qi_lf 2 63 = _
              have e6 : ¬ (qi_ls 63).length ≤ 3 := by decide +kernel
              unfold qi_lf
              rw [if_pos rfl, if_neg e6]
            · refine emp _ er ?_ (by omega)
              unfold qp_leaf
              rw [if_neg o0, if_neg o1, if_neg o2]
              show qi_lf o 0 = _
              unfold qi_lf
              rw [if_neg o2]
        · refine br_f (xe_kne (q := 0) (by omega) (by omega) (by omega)) (br_f (xe_kne (q := 2) (by omega) (by omega) (by omega)) ?_)
          exact emp _ er rfl (by omega)
        · omega
        · omega
      · -- a repeat
        rcases hc with ⟨hk, _⟩ | ⟨hk, _⟩ | ⟨hk, h9, x, s, e0, er⟩ | ⟨hk, _⟩
        · omega
        · omega
        · rw [e0] at h4 hl0 hall ⊢
          rw [List.length_cons] at hl0 ⊢
          obtain ⟨hx, hs⟩ := h4
          have wx := (hall x List.mem_cons_self).1
          have hi := qk_rep_info o (yoa k).toNatClampNeg (yob k).toNatClampNeg x hk (fun h => (h9 h).1)
          refine nm_r (e' := nI (s.length + 1)) (by grind) (nm_r (nI_pred _) ?_)
          refine br_f (xe_kne (q := 0) (by omega) (by omega) (by omega)) (br_f (xe_kne (q := 2) (by omega) (by omega) (by omega)) (pk_lt o 10 (fun _ => ?_) (fun h => by omega)))
          refine br_f (xe_kne (q := 13) (by omega) (by omega) (by omega)) (br_f (xe_kne (q := 14) (by omega) (by omega) (by omega)) (pk_eq o 8 (fun e8 => ?_) (fun e8 => pk_eq o 7 (fun e7 => ?_) (fun e7 => pk_eq o 9 (fun e9 => ?_) (fun e9 => ?_)))))
          · rw [if_neg (by omega), if_neg (by omega), if_pos e8] at hi
            refine yk_letters (now := now) (s.length + 1) 0 (by omega) (by omega) _ _ rfl rfl _ (fun rc2 rw2 st2 my2 cl2 g1 g2 _ _ => ?_)
            refine yk_alt how s.length (by omega) x.2.1 (qi_known [[]]) wx (qi_wf_known (qr_wf1 5)) (qk_sl_kp g2 (by omega) hx) g1 _ rfl _ (fun rc3 rw3 st3 my3 cl3 g3 g4 => nm_r (nI_1 k) (fin _ s _ _ _ _ _ er hs (by rw [hi]; exact g3) ?_))
            refine ⟨qk_k_tr g2.1 g4.1 (fun s' hs' => ⟨by have : s' < 3 * s.length := hs'; show s' < 3 * (s.length + 1); omega, hs'⟩), fun q hq => (g4.2 q hq).trans (g2.2 q (by omega))⟩
          · rw [if_neg (by omega), if_pos e7] at hi
            refine yk_count how s.length 1 2 (by omega) (by omega) (by omega) x.2.1 wx hx _ _ _ rfl rfl rfl _ (fun rc2 rw2 st2 my2 cl2 g1 g2 => nm_r (nI_1 k) (fin _ s _ _ _ _ _ er hs (by rw [hi]; exact g1) g2))
          · rw [if_neg (by omega), if_neg e7, if_neg e8] at hi
            obtain ⟨hab, hb3, ea, eb⟩ := h9 e9
            refine ⟨pk_in k 40 (by omega), pk_in k 40 (by omega), ?_⟩
            rw [ck]
            refine yk_count how s.length (yoa k).toNatClampNeg (yob k).toNatClampNeg (by omega) (by omega) (by omega) x.2.1 wx hx _ _ _ rfl ea eb _ (fun rc2 rw2 st2 my2 cl2 g1 g2 => nm_r (nI_1 k) (fin _ s _ _ _ _ _ er hs (by rw [hi]; exact g1) g2))
          · rw [if_pos (by omega)] at hi
            refine yk_nothing how s.length (by omega) _ rfl _ (fun rc2 rw2 st2 my2 cl2 g1 g2 => nm_r (nI_1 k) (fin _ s _ _ _ _ _ er hs (by rw [hi]; exact g1) g2))
        · omega
      · -- a seq, an alt
        rcases hc with ⟨hk, _⟩ | ⟨hk, _⟩ | ⟨hk, _⟩ | ⟨hk, y, x, s, e0, er⟩
        · omega
        · omega
        · omega
        · rw [e0] at h4 hl0 hall ⊢
          rw [List.length_cons, List.length_cons] at hl0 ⊢
          obtain ⟨hy, hx, hs⟩ := h4
          rw [List.length_cons] at hy
          have wx := (hall x (List.mem_cons_of_mem _ List.mem_cons_self)).1
          have wy := (hall y List.mem_cons_self).1
          refine nm_r (pk_m1 _) (nm_r (nI_pred _) ?_)
          refine br_f (xe_kne (q := 0) (by omega) (by omega) (by omega)) (br_f (xe_kne (q := 2) (by omega) (by omega) (by omega)) (pk_lt o 10 (fun _ => by omega) (fun h => pk_lt 12 o (fun _ => ?_) (fun h => by omega))))
          refine pk_eq o 13 (fun e13 => ?_) (fun e13 => br_t (by rw [show o = 14 by omega]; rfl) ?_)
          · rw [if_pos e13] at er
            refine yk_seq how s.length (by omega) x.2.1 y.2.1 wx wy hx hy _ rfl _ (fun rc3 rw3 st3 my3 cl3 g3 g4 => nm_r (nI_1 k) (fin _ s _ _ _ _ _ er hs g3 g4))
          · rw [if_neg e13] at er
            refine yk_alt how s.length (by omega) x.2.1 y.2.1 wx wy hx hy _ rfl _ (fun rc3 rw3 st3 my3 cl3 g3 g4 => nm_r (nI_1 k) (fin _ s _ _ _ _ _ er hs g3 g4))
theorem yk_claim (n : Nat) (hn : n ≤ 33) (hno : yno = nI n) (root : qv_T) (P : Prop) (hO : qp_YO qv_lf qv_un qv_bi qv_big yo yoa yob n [root] P) (how : qy_own now yow) (post : Int32 → SY → Prop)
  (hp : ∀ (x rc' : Int32) (rw' st' my' cl' : Nat → Int32), qk_cl now x root.2.1.2.2.2 → post x (ywa, ydd, ynd, yns, yma, ynt, yno, rc', yfo, ybl, yod, ywr, yan, yab, yac, yad, yal, yabl, yacl, yacf, ynu, yfi, ypa, ysz, yli, ytx, yki, yf1, yf2, yo, yoa, yob, yit, yss, ymo, st', my', cl', rw', yow, yen, yhi, yla)) : wpY_claim post (ywa, ydd, ynd, yns, yma, ynt, yno, yrc, yfo, ybl, yod, ywr, yan, yab, yac, yad, yal, yabl, yacl, yacf, ynu, yfi, ypa, ysz, yli, ytx, yki, yf1, yf2, yo, yoa, yob, yit, yss, ymo, yst, ymy, ycl, yrw, yow, yen, yhi, yla) :=
  ⟨n + 1, yk_claim1 n hn hno root P hO how post hp (n + 1) 0 yrc yrw yst ymy ycl (by omega) (by omega) trivial⟩
end
