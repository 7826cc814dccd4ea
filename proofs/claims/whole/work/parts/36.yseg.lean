/-! the reference: segment -/
def qz_p (l : List qf_D) (o : Option qf_D) (i c : Nat) : Nat := match o with
  | none => ql_p (qt_P c) l 0
  | some x => if qt_any x.2.2.2 i c = true then x.1 + 1 else ql_p (qt_P c) l 0
def qz_b (l : List qf_D) (o : Option qf_D) (i c : Nat) : Nat := match o with
  | none => ql_b (qt_P c) l 0
  | some x => ql_b (qt_P c) l 0 + (if qt_any x.2.2.2 i c = true then ql_c (x.1 + 1 - ql_p (qt_P c) l 0) else 0)
def qz_n (b : Nat) : Nat := if b = 0 then 0 else 1
/-- the documents of a segment ahead of the d-th -/
def qz_l (docs : List qf_D) (st e d : Nat) : List qf_D := (docs.drop st).take (min d e - st)
def qz_o (docs : List qf_D) (st e d : Nat) : Option qf_D := if st ≤ d ∧ d < e then docs[d]? else none
theorem ql_p_pos (P : List Nat → Bool) : ∀ (l : List qf_D) (p : Nat), 0 < p → 0 < ql_p P l p
  | [], _, h => h
  | z :: l, p, h => by
    unfold ql_p
    split
    · exact ql_p_pos P l _ (by omega)
    · exact ql_p_pos P l _ h
theorem ql_b0 (P : List Nat → Bool) : ∀ (l : List qf_D), ql_b P l 0 = 0 ↔ ql_p P l 0 = 0
  | [] => by simp [ql_b, ql_p]
  | y :: l => by
    unfold ql_b ql_p
    split
    · have h1 := ql_c_pos (y.1 + 1 - 0)
      have h2 := ql_p_pos P l (y.1 + 1) (by omega)
      constructor
      · intro h; omega
      · intro h; omega
    · exact ql_b0 P l
theorem qz_end {docs : List qf_D} {st e d : Nat} (he : e ≤ docs.length) (ht : ∀ x, x ∈ docs → qf_t x.2.2.2) (c : Nat) : qz_p (qz_l docs st e d) (qz_o docs st e d) 40 c = qz_p (qz_l docs st e (d + 1)) (qz_o docs st e (d + 1)) 0 c ∧ qz_b (qz_l docs st e d) (qz_o docs st e d) 40 c = qz_b (qz_l docs st e (d + 1)) (qz_o docs st e (d + 1)) 0 c := by
  have h0 : ∀ o : Option qf_D, ∀ l, qz_p l o 0 c = ql_p (qt_P c) l 0 ∧ qz_b l o 0 c = ql_b (qt_P c) l 0 := by
    intro o l
    cases o with
    | none => exact ⟨rfl, rfl⟩
    | some x =>
      unfold qz_p qz_b
      dsimp only
      rw [show qt_any x.2.2.2 0 c = false from rfl]
      exact ⟨rfl, rfl⟩
  rw [(h0 _ _).1, (h0 _ _).2]
  unfold qz_o
  by_cases z : st ≤ d ∧ d < e
  · rw [if_pos z]
    have hd : d < docs.length := by omega
    rw [List.getElem?_eq_getElem hd]
    have hs : qz_l docs st e (d + 1) = qz_l docs st e d ++ [docs[d]] := by
      unfold qz_l
      have e1 : min (d + 1) e - st = (d - st) + 1 := by omega
      have e2 : min d e - st = d - st := by omega
      rw [e1, e2, ql_seg_s docs st (d - st) (by omega)]
      congr 2
      congr 1
      omega
    rw [hs, ql_p_1, ql_b_1]
    unfold qz_p qz_b
    dsimp only
    have hany : qt_any docs[d].2.2.2 40 c = qt_P c docs[d].2.2.2 := by
      unfold qt_P
      exact qt_any_all (by have := (ht _ (List.getElem_mem hd)).1; omega)
    rw [hany]
    exact ⟨rfl, rfl⟩
  · rw [if_neg z]
    have e1 : qz_l docs st e (d + 1) = qz_l docs st e d := by
      unfold qz_l
      congr 1
      omega
    rw [e1]
    exact ⟨rfl, rfl⟩
section
variable {ywa ydd ynd yns yma ynt yno yrc yfo ybl yod ywr : Int32} {yan yab yac yad yal yabl yacl yacf ynu yfi ypa ysz yli ytx yki yf1 yf2 yo yoa yob yit yss ymo yst ymy ycl yrw yow yhi yla : Nat → Int32} {yen : Nat → Int64}
theorem yg_cost1 (post : Int32 → Prop) : ∀ (n v a : Nat), v < n → 0 < v → v < 2 ^ 31 → post (nI (a + 2 * v.log2)) → wY_cost_4 post n (nI a) (nI v) := by
  intro n
  induction n with
  | zero => intro v a h1; omega
  | succ n ih =>
    intro v a h1 h0 h2 h3
    refine pk_le v 1 (fun hle => ?_) (fun hlt => nm_r (nI_add a 2) ⟨by decide, nm_r (pk_div (d := 2) h2 (by omega) (by omega)) ?_⟩)
    · have e : v = 1 := by omega
      subst e
      exact h3
    · refine ih (v / 2) (a + 2) (by omega) (by omega) (by omega) ?_
      have e : v.log2 = (v / 2).log2 + 1 := by
        rw [Nat.log2_def]
        rw [if_pos (by omega)]
      rw [e] at h3
      have e2 : a + 2 + 2 * (v / 2).log2 = a + 2 * ((v / 2).log2 + 1) := by omega
      rw [e2]
      exact h3
theorem yg_cost (d : Nat) (h0 : 0 < d) (hd : d < 2 ^ 31) (x : Int32) (ex : x = nI d) (post : Int32 → Prop) (hp : post (nI (ql_c d))) : wpY_cost post x := by
  subst ex
  refine ⟨d + 1, yg_cost1 post (d + 1) d 1 (by omega) h0 hd ?_⟩
  have e : 1 + 2 * d.log2 = ql_c d := by unfold ql_c; omega
  rw [e]
  exact hp
def qy_st (docs : List qf_D) (st e d i : Nat) (la : Nat → Int32) : Prop := ∀ c, c < 216 → la c = nI (qz_p (qz_l docs st e d) (qz_o docs st e d) i c) - 1
def qy_v (bits : Bool) (docs : List qf_D) (st e d i : Nat) : Nat := qs_sum (fun c => if bits = true then qz_b (qz_l docs st e d) (qz_o docs st e d) i c else qz_n (qz_b (qz_l docs st e d) (qz_o docs st e d) i c)) 216
theorem qy_adv {docs : List qf_D} {st e d i : Nat} {la : Nat → Int32} {bits : Bool} (he : e ≤ docs.length) (ht : ∀ x, x ∈ docs → qf_t x.2.2.2) (hi : i < 40) (h : qy_st docs st e d (i + 1) la) : qy_st docs st e ((40 * d + i + 1) / 40) ((40 * d + i + 1) % 40) la ∧ qy_v bits docs st e d (i + 1) = qy_v bits docs st e ((40 * d + i + 1) / 40) ((40 * d + i + 1) % 40) := by
  by_cases z : i = 39
  · subst z
    have e1 : (40 * d + 39 + 1) / 40 = d + 1 := by omega
    have e2 : (40 * d + 39 + 1) % 40 = 0 := by omega
    rw [e1, e2]
    constructor
    · intro c hc
      rw [h c hc]
      congr 2
      exact (qz_end he ht c).1
    · unfold qy_v
      apply qs_cg
      intro c _
      rw [(qz_end he ht c).2]
  · have e1 : (40 * d + i + 1) / 40 = d := by omega
    have e2 : (40 * d + i + 1) % 40 = i + 1 := by omega
    rw [e1, e2]
    exact ⟨h, rfl⟩
theorem yg_l1 (docs : List qf_D) (segs : List Nat) (made k : Nat) (bits : Bool) (hk : k < segs.length) (hd : docs.length ≤ 64) (hsl : segs.length ≤ 16) (hsum : segs.sum = docs.length) (hdl : qy_dl docs (qd_seg segs) ytx ysz ynu yfi ypa yli) (hok : ∀ y, y ∈ docs → y.1 < made ∧ qf_t y.2.2.2) (hpw : docs.Pairwise (fun x y => x.1 < y.1)) (hm : made < 2 ^ 30) (hnd : ynd = nI docs.length) (post : Int32 → SY → Prop)
  (hp : ∀ la : Nat → Int32, post (nI (if bits = true then ql_bits (ql_docs docs segs k) else ql_lists (ql_docs docs segs k))) (ywa, ydd, ynd, yns, yma, ynt, yno, yrc, yfo, ybl, yod, ywr, yan, yab, yac, yad, yal, yabl, yacl, yacf, ynu, yfi, ypa, ysz, yli, ytx, yki, yf1, yf2, yo, yoa, yob, yit, yss, ymo, yst, ymy, ycl, yrw, yow, yen, yhi, la)) :
  ∀ (n x : Nat) (la : Nat → Int32), x ≤ 40 * docs.length → 40 * docs.length - x < n → qy_st docs (qd_st k segs) (qd_st (k + 1) segs) (x / 40) (x % 40) la → wY_lists_30 post (nI k) (if bits = true then 1 else 0) ywa ydd ynd yns yma ynt yno yrc yfo ybl yod ywr n (nI (qy_v bits docs (qd_st k segs) (qd_st (k + 1) segs) (x / 40) (x % 40))) (nI x) yan yab yac yad yal yabl yacl yacf ynu yfi ypa ysz yli ytx yki yf1 yf2 yo yoa yob yit yss ymo yst ymy ycl yrw yow yen yhi la := by
  intro n
  subst hnd
  have hst := qd_st_s segs k
  have hle1 := qd_st_le (segs := segs) (k + 1)
  have htt : ∀ x, x ∈ docs → qf_t x.2.2.2 := fun x hx => (hok x hx).2
  induction n with
  | zero => intro x la h1 h2; omega
  | succ n ih =>
    intro x la h1 h2 h3
    refine pk_le (40 * docs.length) x (fun hle => ?_) (fun hlt => ?_) (pk_mul 40 _)
    · have e : x = 40 * docs.length := by omega
      subst e
      have e1 : 40 * docs.length / 40 = docs.length := by omega
      have e2 : 40 * docs.length % 40 = 0 := by omega
      rw [e1, e2]
      have hl : qz_l docs (qd_st k segs) (qd_st (k + 1) segs) docs.length = ql_docs docs segs k := by
        unfold qz_l ql_docs
        congr 1
        omega
      have hoo : qz_o docs (qd_st k segs) (qd_st (k + 1) segs) docs.length = none := by
        unfold qz_o
        rw [if_neg (by omega)]
      have hv : qy_v bits docs (qd_st k segs) (qd_st (k + 1) segs) docs.length 0 = if bits = true then ql_bits (ql_docs docs segs k) else ql_lists (ql_docs docs segs k) := by
        unfold qy_v
        rw [hl, hoo]
        cases bits with
        | true => rfl
        | false => rfl
      rw [hv]
      exact hp la
    · have hdl' : x / 40 < docs.length := by omega
      have hx4 : 40 * (x / 40) + x % 40 = x := by omega
      have hi40 : x % 40 < 40 := by omega
      generalize hd' : x / 40 = d at *
      generalize hi' : x % 40 = i at *
      obtain ⟨a1, a2, a3, a4, a5⟩ := hdl d _ (List.getElem?_eq_getElem hdl')
      have ho := hok _ (List.getElem_mem hdl')
      have hid : vp_in (nI d) 64 := pk_in d 64 (by omega)
      have cd : (nI d).toNatClampNeg = d := nI_clamp (by omega)
      have hsg := qd_seg_lt segs d (by omega)
      have hq := qd_seg_eq segs d k (by omega)
      have next : ∀ la', qy_st docs (qd_st k segs) (qd_st (k + 1) segs) d (i + 1) la' → wY_lists_30 post (nI k) (if bits = true then 1 else 0) ywa ydd (nI docs.length) yns yma ynt yno yrc yfo ybl yod ywr n (nI (qy_v bits docs (qd_st k segs) (qd_st (k + 1) segs) d (i + 1))) (nI (x + 1)) yan yab yac yad yal yabl yacl yacf ynu yfi ypa ysz yli ytx yki yf1 yf2 yo yoa yob yit yss ymo yst ymy ycl yrw yow yen yhi la' := by
        intro la' h
        have ha := qy_adv (bits := bits) (by omega) htt hi40 h
        have := ih (x + 1) la' (by omega) (by omega) (by rw [← hx4]; exact ha.1)
        rw [show (x + 1) / 40 = (40 * d + i + 1) / 40 by omega, show (x + 1) % 40 = (40 * d + i + 1) % 40 by omega, ← ha.2] at this
        exact this
      have same : (∀ c, c < 216 → qz_p (qz_l docs (qd_st k segs) (qd_st (k + 1) segs) d) (qz_o docs (qd_st k segs) (qd_st (k + 1) segs) d) (i + 1) c = qz_p (qz_l docs (qd_st k segs) (qd_st (k + 1) segs) d) (qz_o docs (qd_st k segs) (qd_st (k + 1) segs) d) i c ∧ qz_b (qz_l docs (qd_st k segs) (qd_st (k + 1) segs) d) (qz_o docs (qd_st k segs) (qd_st (k + 1) segs) d) (i + 1) c = qz_b (qz_l docs (qd_st k segs) (qd_st (k + 1) segs) d) (qz_o docs (qd_st k segs) (qd_st (k + 1) segs) d) i c) → wY_lists_30 post (nI k) (if bits = true then 1 else 0) ywa ydd (nI docs.length) yns yma ynt yno yrc yfo ybl yod ywr n (nI (qy_v bits docs (qd_st k segs) (qd_st (k + 1) segs) d i)) (nI (x + 1)) yan yab yac yad yal yabl yacl yacf ynu yfi ypa ysz yli ytx yki yf1 yf2 yo yoa yob yit yss ymo yst ymy ycl yrw yow yen yhi la := by
        intro hs
        have := next la (fun c hc => by rw [(hs c hc).1]; exact h3 c hc)
        have e : qy_v bits docs (qd_st k segs) (qd_st (k + 1) segs) d (i + 1) = qy_v bits docs (qd_st k segs) (qd_st (k + 1) segs) d i := by
          unfold qy_v
          apply qs_cg
          intro c hc
          rw [(hs c hc).2]
        rw [e] at this
        exact this
      have hdv : nI x / 40 = nI d := by rw [yr_div (by omega), hd']
      refine ⟨by decide, nm_r hdv ⟨hid, ?_⟩⟩
      rw [cd, a4]
      refine pk_eq (qd_seg segs d) k (fun he => ⟨by decide, ?_⟩) (fun he => ?_)
      · have hin := hq.mp he
        have hoo : qz_o docs (qd_st k segs) (qd_st (k + 1) segs) d = some docs[d] := by
          unfold qz_o
          rw [if_pos hin, List.getElem?_eq_getElem hdl']
        rw [hoo] at same
        have h3 : ∀ c, c < 216 → la c = nI (qz_p (qz_l docs (qd_st k segs) (qd_st (k + 1) segs) d) (some docs[d]) i c) - 1 := by
          intro c hc
          have h := h3 c hc
          rw [hoo] at h
          exact h
        refine yl_trK d i (by omega) (by omega) docs[d].2.2.2 ho.2 a5 _ _ rfl (by rw [yr_rem (by omega), hi']) _ ?_
        unfold qt_6
        cases hg : qt_g docs[d].2.2.2 i with
        | none =>
          dsimp only
          refine br_t (by decide) (nm_r (nI_1 x) (same (fun c hc => ?_)))
          have : qt_any docs[d].2.2.2 (i + 1) c = qt_any docs[d].2.2.2 i c := by rw [qt_any_s, hg]; simp
          unfold qz_p qz_b
          dsimp only
          rw [this]
          exact ⟨rfl, rfl⟩
        | some c =>
          dsimp only
          have hc := (qt_g_lt hg).1
          have cc : (nI c).toNatClampNeg = c := nI_clamp (by omega)
          have hic : vp_in (nI c) 216 := pk_in c 216 hc
          have hle : ∀ c', ql_p (qt_P c') (qz_l docs (qd_st k segs) (qd_st (k + 1) segs) d) 0 ≤ docs[d].1 := by
            intro c'
            apply ql_p_le
            · omega
            · intro y hy
              rw [List.pairwise_iff_getElem] at hpw
              unfold qz_l at hy
              obtain ⟨j, hj, rfl⟩ := List.getElem_of_mem hy
              rw [List.length_take, List.length_drop] at hj
              rw [List.getElem_take, List.getElem_drop]
              exact hpw (qd_st k segs + j) d (by omega) hdl' (by omega)
          generalize hL : qz_l docs (qd_st k segs) (qd_st (k + 1) segs) d = L at *
          have oth : ∀ c', c' ≠ c → qt_any docs[d].2.2.2 (i + 1) c' = qt_any docs[d].2.2.2 i c' := by
            intro c' z
            rw [qt_any_s, hg]
            have hcc : ¬ c = c' := fun h => z h.symm
            have : (some c == some c') = false := by simp [hcc]
            rw [this, Bool.or_false]
          have h3c := h3 c hc
          refine br_f (nI_pos (by omega)) ⟨hic, hid, ?_⟩
          rw [cc, cd, h3c]
          cases ha : qt_any docs[d].2.2.2 i c with
          | true =>
            have e : qz_p L (some docs[d]) i c = docs[d].1 + 1 := by unfold qz_p; dsimp only; rw [if_pos ha]
            rw [e, nI_pred, a1]
            refine br_t rfl (nm_r (nI_1 x) (same (fun c' hc' => ?_)))
            unfold qz_p qz_b
            dsimp only
            by_cases z : c' = c
            · subst z
              rw [show qt_any docs[d].2.2.2 (i + 1) c' = true by rw [qt_any_s, ha]; rfl, ha]
              exact ⟨rfl, rfl⟩
            · rw [oth c' z]
              exact ⟨rfl, rfl⟩
          | false =>
            have e : qz_p L (some docs[d]) i c = ql_p (qt_P c) L 0 := by unfold qz_p; dsimp only; rw [ha]; rfl
            have hlc := hle c
            have han : qt_any docs[d].2.2.2 (i + 1) c = true := by rw [qt_any_s, hg]; simp
            rw [e]
            have hne : ¬ nI (ql_p (qt_P c) L 0) - 1 = ynu d := by
              rw [a1]
              intro h
              have h5 : nI (ql_p (qt_P c) L 0) = nI (docs[d].1 + 1) := by
                rw [← nI_1, ← h]
                grind
              rw [nI_eq (by omega) (by omega)] at h5
              omega
            have hst2 : qy_st docs (qd_st k segs) (qd_st (k + 1) segs) d (i + 1) (upd la c (nI docs[d].1)) := by
              intro c' hc'
              rw [hL, hoo]
              by_cases z : c' = c
              · subst z
                rw [pk_us]
                unfold qz_p
                dsimp only
                rw [if_pos han, nI_pred]
              · rw [pk_un z, h3 c' hc']
                unfold qz_p
                dsimp only
                rw [oth c' z]
            have nx := next (upd la c (nI docs[d].1)) hst2
            have hb1 : qz_b L (some docs[d]) (i + 1) c = qz_b L (some docs[d]) i c + ql_c (docs[d].1 + 1 - ql_p (qt_P c) L 0) := by
              unfold qz_b
              dsimp only
              rw [if_pos han, ha]
              simp
            have hbo : ∀ c', c' ≠ c → qz_b L (some docs[d]) (i + 1) c' = qz_b L (some docs[d]) i c' := by
              intro c' z
              unfold qz_b
              dsimp only
              rw [oth c' z]
            have fin : ∀ v : Nat, v = qy_v bits docs (qd_st k segs) (qd_st (k + 1) segs) d (i + 1) → wY_lists_144 post (wY_lists_30 post (nI k) (if bits = true then 1 else 0) ywa ydd (nI docs.length) yns yma ynt yno yrc yfo ybl yod ywr n) (nI k) (if bits = true then 1 else 0) (nI v) (nI x) (nI d) (nI c) ywa ydd (nI docs.length) yns yma ynt yno yrc yfo ybl yod ywr yan yab yac yad yal yabl yacl yacf ynu yfi ypa ysz yli ytx yki yf1 yf2 yo yoa yob yit yss ymo yst ymy ycl yrw yow yen yhi la := by
              intro v hv
              refine ⟨hid, hic, nm_e (nm_r (nI_1 x) ?_)⟩
              rw [cd, cc, a1, hv]
              exact nx
            refine br_f hne ?_
            have hvv : qy_v bits docs (qd_st k segs) (qd_st (k + 1) segs) d (i + 1) = qy_v bits docs (qd_st k segs) (qd_st (k + 1) segs) d i + (if bits = true then ql_c (docs[d].1 + 1 - ql_p (qt_P c) L 0) else (if qz_b L (some docs[d]) i c = 0 then 1 else 0)) := by
              unfold qy_v
              rw [hL, hoo]
              refine qs_upd (j := c) 216 hc (fun c' _ z => ?_) ?_
              · rw [hbo c' z]
              · rw [hb1]
                have := ql_c_pos (docs[d].1 + 1 - ql_p (qt_P c) L 0)
                cases bits with
                | true => rfl
                | false =>
                  simp only [Bool.false_eq_true, if_false]
                  unfold qz_n
                  rw [if_neg (by omega)]
                  split <;> rfl
            cases bits with
            | true =>
              simp only [if_true] at fin hvv ⊢
              refine br_f (by decide) ⟨hid, hic, ?_⟩
              refine yg_cost (docs[d].1 + 1 - ql_p (qt_P c) L 0) (by omega) (by omega) _ (by rw [a1]; exact xl_pv hlc) _ ?_
              exact nm_r (nI_add _ _) (fin _ hvv.symm)
            | false =>
              simp only [Bool.false_eq_true, if_false] at fin hvv ⊢
              refine br_t (by trivial) ⟨hic, ?_⟩
              have hb0 : qz_b L (some docs[d]) i c = 0 ↔ ql_p (qt_P c) L 0 = 0 := by
                unfold qz_b
                dsimp only
                rw [ha]
                simp only [Bool.false_eq_true, if_false, Nat.add_zero]
                exact ql_b0 (qt_P c) L
              by_cases z : ql_p (qt_P c) L 0 = 0
              · rw [if_pos (hb0.mpr z)] at hvv
                rw [z]
                refine br_f (by decide) (nm_r (nI_1 _) (fin _ hvv.symm))
              · rw [if_neg (fun y => z (hb0.mp y)), Nat.add_zero] at hvv
                refine br_t ?_ (fin _ hvv.symm)
                rw [show nI (ql_p (qt_P c) L 0) - 1 = nI (ql_p (qt_P c) L 0 - 1) from pk_sub (b := 1) (by omega)]
                exact nI_pos' (by omega)
      · have hoo : qz_o docs (qd_st k segs) (qd_st (k + 1) segs) d = none := by
          unfold qz_o
          rw [if_neg (fun z => he (hq.mpr z))]
        rw [hoo] at same
        exact br_t (by decide) (nm_r (nI_1 x) (same (fun c hc => ⟨rfl, rfl⟩)))
end
