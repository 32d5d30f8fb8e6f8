/-! THE CLASS'S Reader: comparisons, brackets, plain ones, parts; written by wip/whole/mdl.py from zp_pl.txt -/
section Pl
variable {b w w0 : Nat → Nat} {n s e f k c d D p cs cs0 lv lv0 sl j dp y : Nat} {X Y Z X0 : cx_T} {t g : ms_S} {res : pr_T} {as : List Value} {f0 f1 : dn_T}
theorem k_readComparison (hW : HW) (hS : KN b n f 5 78 (d + 6) dp) : KN b n (f + 1) 4 77 (d + 7) dp := by
  intro X t f0 s cs lv sl w res hres h hs hcs hlv
  rw [pz_4] at hres
  have hn := h.1.1
  obtain ⟨r1, hr1⟩ := pzB_e hres
  rw [hr1] at hres
  refine mx_m (fun a b c => m_X5_readComparison a b ⟨_, xo_3⟩ c) RDq_l (b_X5_readComparison_0 (rd_c1 (hS X t f0 s cs lv sl w r1 hr1 h hs hcs hlv) (fun Z p e1 k1 t1 h6 => ?_) (fun a Y w1 cs1 m1 e1 k1 R1 hsn l1 c1 mm1 v1 cw1 => ?_)))
  · subst e1
    have e2 : res = .inr p := (Option.some.inj hres).symm
    subst e2
    exact ms_yes rfl ⟨(by first | exact Or.inr rfl | exact Or.inl rfl | exact Or.inl trivial | exact Or.inr trivial | trivial), RD_fail k1 t1 h6⟩
  · subst e1
    have hq : (if tkc b n a.2.1 = 60 ∨ tkc b n a.2.1 = 62 ∨ tkc b n a.2.1 = 61 then pzB (pz b n f 5 dp f0 (tkx b n a.2.1) a.2.2) (fun g s2 lv2 => some (.inl (dn_op (tkc b n a.2.1) a.1 g, s2, lv2))) else some (.inr (tkp b n a.2.1))) = some res := hres
    have htl := tkc_lt (s := a.2.1) R1.1
    have h28 := R1.2.1.2.2.1
    refine ms_no (by decide) (ms_oI_i xf_3_8 ?_)
    rw [h28]
    by_cases hc : tkc b n a.2.1 = 60 ∨ tkc b n a.2.1 = 62 ∨ tkc b n a.2.1 = 61
    · rw [if_pos hc] at hq
      have gt := tok_gt hsn (show tkc b n a.2.1 ≠ 301 by omega)
      have body : ms_c0 (ms_Cl (d + 6) 86 [.ref 3] (ms_x Y t)) fun g4 => ms_c1 (ms_Cl (d + 6) 78 [.ref 3, .int (nI dp)] g4) fun r6 g5 => if r6 = 0 then ((0 = (0 : Int32) ∨ 0 = (1 : Int32)) ∧ RDq b n sl cs lv w X t res (some (.int 0)) g5) else (ms_c0 (ms_Cl (d + 6) 85 [.ref 3, .int (nI (tkc b n a.2.1))] g5) fun g7 => (1 = (0 : Int32) ∨ 1 = (1 : Int32)) ∧ RDq b n sl cs lv w X t res (some (.int 1)) g7) := by
        refine mk_n0 (k_adv (d := d) hW R1 hsn) (fun V hk hR => ?_)
        obtain ⟨r2, hr2⟩ := pzB_e hq
        rw [hr2] at hq
        refine rd_c1 (hS V t f0 (tkx b n a.2.1) cs1 a.2.2 (sl + 1) w1 r2 hr2 hR gt.2 (by omega) v1) (fun Z p e1 k2 t1 h6 => ?_) (fun a2 Z w2 cs2 m2 e1 k2 R2 hsn2 l2 c2 mm2 v2 cw2 => ?_)
        · subst e1
          have e2 : res = .inr p := (Option.some.inj hq).symm
          subst e2
          exact ms_yes rfl ⟨(by first | exact Or.inr rfl | exact Or.inl rfl | exact Or.inl trivial | exact Or.inr trivial | trivial), RD_fail (kp4_t k1 (kp4_t (kp4_3 hk) k2)) t1 h6⟩
        · subst e1
          have e2 : res = .inl (dn_op (tkc b n a.2.1) a.1 a2.1, a2.2.1, a2.2.2) := (Option.some.inj hq).symm
          subst e2
          have q1 := cw1.1
          have q2 := cw2.1
          refine ms_no (by decide) (ms_c0_i (k_emit (d := d + 5) R2.2.2.1 (by omega)) ⟨(by first | exact Or.inr rfl | exact Or.inl rfl | exact Or.inl trivial | exact Or.inr trivial | trivial), _, _, cs2 + 1, m1 + m2, kp4_t k1 (kp4_t (kp4_3 hk) (kp4_t k2 em_k)), rfl, rfl, RS_e (v := tkc b n a.2.1) R2 (by omega), hsn2, fun i hi => ?_, ?_, ?_, v2, ?_⟩)
          · show (if i = cs2 then tkc b n a.2.1 else w2 i) = w i
            rw [if_neg (by omega), l2 i (by omega), l1 i hi]
          · show cs2 + 1 + sl ≤ 2 * a2.2.1
            omega
          · show m1 + m2 + lv ≤ a2.2.2
            omega
          · refine CW_op (CW.loc cw1 (fun i i1 i2 => ?_)) (CW.loc cw2 (fun i i1 i2 => ?_)) (k := tkc b n a.2.1) ?_ (by omega)
            · show (if i = cs2 then tkc b n a.2.1 else w2 i) = w1 i
              rw [if_neg (by omega), l2 i (by omega)]
            · show (if i = cs2 then tkc b n a.2.1 else w2 i) = w2 i
              rw [if_neg (by omega)]
            · show (if cs2 = cs2 then tkc b n a.2.1 else w2 cs2) = tkc b n a.2.1
              rw [if_pos rfl]
      refine ms_ite2 (fun _ => body) (fun z => ?_)
      refine ms_ite2 (fun _ => body) (fun z2 => ?_)
      refine ms_yes ?_ body
      rcases hc with hc | hc | hc
      · exact absurd (by rw [hc]; rfl) z
      · exact absurd (by rw [hc]; rfl) z2
      · rw [hc]; rfl
    · rw [if_neg hc] at hq
      have e2 := Option.some.inj hq
      subst e2
      exact ms_no (tk_ne htl (v := 60) (by decide) (by omega)) (ms_no (tk_ne htl (v := 62) (by decide) (by omega)) (ms_no (tk_ne htl (v := 61) (by decide) (by omega)) ⟨(by first | exact Or.inr rfl | exact Or.inl rfl | exact Or.inl trivial | exact Or.inr trivial | trivial), RD_fail k1 R1.1 R1.2.1.1⟩))
/-- a round bracket -/
theorem k_brP (hW : HW) (hS : KN b n f 0 73 (d + 6) (dp + 1)) (h : RS b n s cs lv w X) (hs : s ≤ n) (hcs : cs + sl ≤ 2 * s) (hlv : lv ≤ 50) (htk : tkc b n s = 40) (hdp : dp < 8) (hres : pzB (pz b n f 0 (dp + 1) f0 (tkx b n s) lv) (fun g s1 lv1 => if tkc b n s1 = 41 then some (.inl (g, tkx b n s1, lv1)) else some (.inr (tkp b n s1))) = some res) : ms_H' (d + 7) 76 [.ref 3, .int (nI dp)] (ms_x X t) (RDq b n sl cs lv w X t res) := by
  have gt := tok_gt hs (show tkc b n s ≠ 301 by omega)
  refine mx_m (fun a b c => m_X5_readBracket a b ⟨_, xo_3⟩ c) RDq_l (b_X5_readBracket_0 ?_)
  refine ms_yes (by rw [show (8 : Int32) = nI 8 from rfl, ms_nlt (by omega) (by omega)]; exact hdp) (ms_oI_i xf_3_8 ?_)
  rw [h.2.1.2.2.1, htk]
  refine ms_no (by decide) (mk_n0 (k_adv (d := d) hW h hs) (fun Y hk hR => ms_yes rfl ?_))
  rw [show nI dp + 1 = nI (dp + 1) from ms_p1 1]
  have hkY := kp4_3 hk
  obtain ⟨r1, hr1⟩ := pzB_e hres
  rw [hr1] at hres
  refine rd_c1 (hS Y t f0 (tkx b n s) cs lv sl w r1 hr1 hR gt.2 (by omega) hlv) (fun Z p e1 k1 t1 h6 => ?_) (fun a Z w' cs' m e1 k1 R1 hsn l1 c1 m1 v1 cw => ?_)
  · subst e1
    have e2 : res = .inr p := (Option.some.inj hres).symm
    subst e2
    exact ms_yes rfl ⟨(by first | exact Or.inr rfl | exact Or.inl rfl | exact Or.inl trivial | exact Or.inr trivial | trivial), Z, kp4_t hkY k1, rfl, rfl, t1, h6⟩
  · subst e1
    have hq : (if tkc b n a.2.1 = 41 then some (.inl (a.1, tkx b n a.2.1, a.2.2)) else some (.inr (tkp b n a.2.1))) = some res := hres
    refine ms_no (by decide) (ms_oI_i xf_3_8 ?_)
    rw [R1.2.1.2.2.1]
    refine ms_yes rfl ?_
    refine ms_ite2 (fun z => ?_) (fun z => ?_) <;> rw [show (41 : Int32) = nI 41 from rfl] at z
    · have htc : tkc b n a.2.1 < 2 ^ 31 := tkc_lt R1.1
      rw [ms_nI_eq htc (by decide)] at z
      rw [if_pos z] at hq
      have e2 := Option.some.inj hq
      subst e2
      have gt2 := tok_gt hsn (show tkc b n a.2.1 ≠ 301 by omega)
      exact mk_n0 (k_adv (d := d) hW R1 hsn) (fun V hk2 hR2 => ⟨(by first | exact Or.inr rfl | exact Or.inl rfl | exact Or.inl trivial | exact Or.inr trivial | trivial), V, w', cs', m, kp4_t hkY (kp4_t k1 (kp4_3 hk2)), rfl, rfl, hR2, gt2.2, l1, by show cs' + sl ≤ 2 * tkx b n a.2.1; omega, m1, v1, cw⟩)
    · have htc : tkc b n a.2.1 < 2 ^ 31 := tkc_lt R1.1
      rw [ms_nI_eq htc (by decide)] at z
      rw [if_neg z] at hq
      have e2 := Option.some.inj hq
      subst e2
      exact ⟨(by first | exact Or.inr rfl | exact Or.inl rfl | exact Or.inl trivial | exact Or.inr trivial | trivial), Z, kp4_t hkY k1, rfl, rfl, R1.1, R1.2.1.1⟩
/-- brackets too deep -/
theorem k_brF (h : RS b n s cs lv w X) (hdp : 8 ≤ dp) (hd2 : dp < 2 ^ 31) : ms_H' (d + 1) 76 [.ref 3, .int (nI dp)] (ms_x X t) (RDq b n sl cs lv w X t (.inr (tkp b n s))) :=
  mx_m (fun a b c => m_X5_readBracket a b ⟨_, xo_3⟩ c) RDq_l (b_X5_readBracket_0 (ms_no (fun z => by rw [show (8 : Int32) = nI 8 from rfl, ms_nlt (by omega) (by omega)] at z; omega) ⟨(by first | exact Or.inr rfl | exact Or.inl rfl | exact Or.inl trivial | exact Or.inr trivial | trivial), RD_fail kp4_0 h.1 h.2.1.1⟩))
def adj (tn : Bool) (res : pr_T) : pr_T := match res with
  | .inr p => .inr p
  | .inl a => .inl (bif tn then dn_not a.1 else a.1, a.2.1, a.2.2)
theorem pl_fin {tn : Bool} (hn : n ≤ 400) (h0 : kp4 X0 X) (hh : ms_H' (d + 7) y as (ms_x X t) (RDq b n (sl + (bif tn then 1 else 0)) cs lv w X t res)) : ms_c1 (ms_Cl (d + 7) y as (ms_x X t)) fun r3 g2 => if r3 = 0 then ((r3 = (0 : Int32) ∨ r3 = (1 : Int32)) ∧ RDq b n sl cs lv w X0 t (adj tn res) (some (.int r3)) g2) else (if ms_bi tn = 0 then ((r3 = (0 : Int32) ∨ r3 = (1 : Int32)) ∧ RDq b n sl cs lv w X0 t (adj tn res) (some (.int r3)) g2) else (ms_c0 (ms_Cl (d + 7) 85 [.ref 3, .int 276] g2) fun g4 => (r3 = (0 : Int32) ∨ r3 = (1 : Int32)) ∧ RDq b n sl cs lv w X0 t (adj tn res) (some (.int r3)) g4)) := by
  refine rd_c1 hh (fun Z p e1 k1 t1 h6 => ?_) (fun a Z w' cs' m' e1 k1 R1 hsn l1 c1 m1 v1 cw => ?_)
  · subst e1
    exact ms_yes rfl ⟨Or.inl rfl, RD_fail (kp4_t h0 k1) t1 h6⟩
  · subst e1
    refine ms_no (by decide) ?_
    cases tn with
    | false => exact ms_yes rfl ⟨Or.inr rfl, Z, w', cs', m', kp4_t h0 k1, rfl, rfl, R1, hsn, l1, c1, m1, v1, cw⟩
    | true =>
      have c1 : cs' + (sl + 1) ≤ 2 * a.2.1 := c1
      have q1 := cw.1
      refine ms_no (by decide) ?_
      rw [show (276 : Int32) = nI 276 from rfl]
      refine ms_c0_i (k_emit (d := d + 6) R1.2.2.1 (by omega)) ⟨Or.inr rfl, _, _, cs' + 1, m', kp4_t h0 (kp4_t k1 em_k), rfl, rfl, RS_e (v := 276) R1 (by decide), hsn, fun i hi => ?_, ?_, m1, v1, ?_⟩
      · show (if i = cs' then 276 else w' i) = w i
        rw [if_neg (by omega), l1 i hi]
      · show cs' + 1 + sl ≤ 2 * a.2.1
        omega
      · refine CW_not (CW.loc cw (fun i i1 i2 => ?_)) ?_
        · show (if i = cs' then 276 else w' i) = w' i
          rw [if_neg (by omega)]
        · show (if cs' = cs' then 276 else w' cs') = 276
          rw [if_pos rfl]
theorem pl_dup {C A B : Prop} {dc : Decidable C} {o : Option Int32} {x : Int32} (ho : o = some x) (hB : ¬ C → x = 276 → B) (hA : ¬ x = 276 → A) (hc : C → ¬ x = 276) : @ite _ C dc A (ms_oI o fun x13 => if x13 = 276 then B else A) := by
  by_cases h : C
  · rw [if_pos h]
    exact hA (hc h)
  · rw [if_neg h]
    exact ms_oI_i ho (ms_ite2 (hB h) hA)
/-- signs of denial, and what stands behind them -/
def KP (b : Nat → Nat) (n F D dp : Nat) : Prop := ∀ (X0 X : cx_T) (t : ms_S) (f0 : dn_T) (s cs lv sl j : Nat) (w : Nat → Nat) (tn : Bool) (res : pr_T), pz b n F 2 dp f0 s lv = some res → kp4 X0 X → RS b n s cs lv w X → s ≤ n → cs + sl + (bif tn then 1 else 0) ≤ 2 * s → lv ≤ 50 → j ≤ s → ms_V cd_X5_readPlain none 4 (ms_Cl D) (RDq b n sl cs lv w X0 t (adj tn res)) 4 [(0, .ref 3), (1, .int (nI dp)), (2, .int (ms_bi tn)), (3, .int (nI j))] [] (ms_x X t)
theorem k_loopPlain (hW : HW) (hdp : dp ≤ 8) (hP : KP b n f (d + 7) dp) (hC : KN b n f 4 77 (d + 7) dp) (hT : dp < 8 → KN b n f 0 73 (d + 6) (dp + 1)) : KP b n (f + 1) (d + 7) dp := by
  intro X0 X t f0 s cs lv sl j w tn res hres h0 h hs hcs hlv hj
  have hn := h.1.1
  have htl := tkc_lt (s := s) h.1
  have h8 := h.2.1.2.2.1
  refine b_X5_readPlain_4 (pl_dup (x := nI (tkc b n s)) (by rw [xf_3_8, h8]) (fun _ hx => ?_) (fun hx => ?_) (fun hc hx => ?_))
  · have ht : tkc b n s = 276 := (ms_nI_eq htl (by decide)).mp hx
    have gt := tok_gt hs (show tkc b n s ≠ 301 by omega)
    rw [pz_2, if_pos ht] at hres
    obtain ⟨r1, hr1⟩ := pzB_e hres
    rw [hr1] at hres
    have key : adj (!tn) r1 = adj tn res := by
      cases r1 with
      | inr p =>
        have e2 : res = .inr p := (Option.some.inj hres).symm
        subst e2
        rfl
      | inl a =>
        have e2 : res = .inl (dn_not a.1, a.2.1, a.2.2) := (Option.some.inj hres).symm
        subst e2
        cases tn with
        | false => rfl
        | true =>
          show (.inl (a.1, a.2.1, a.2.2) : pr_T) = .inl (dn_not (dn_not a.1), a.2.1, a.2.2)
          rw [dn_nn]
    cases tn with
    | false =>
      have hcs : cs + sl + 0 ≤ 2 * s := hcs
      refine ms_yes rfl (mk_n0 (k_adv (d := d + 1) hW h hs) (fun Y hk hR => ?_))
      rw [show nI j + 1 = nI (j + 1) from ms_p1 1, ← key]
      exact hP X0 Y t f0 (tkx b n s) cs lv sl (j + 1) w true r1 hr1 (kp4_t h0 (kp4_3 hk)) hR gt.2 (by show cs + sl + 1 ≤ 2 * tkx b n s; omega) hlv (by omega)
    | true =>
      have hcs : cs + sl + 1 ≤ 2 * s := hcs
      refine ms_no (by decide) (mk_n0 (k_adv (d := d + 1) hW h hs) (fun Y hk hR => ?_))
      rw [show nI j + 1 = nI (j + 1) from ms_p1 1, ← key]
      exact hP X0 Y t f0 (tkx b n s) cs lv sl (j + 1) w false r1 hr1 (kp4_t h0 (kp4_3 hk)) hR gt.2 (by show cs + sl + 0 ≤ 2 * tkx b n s; omega) hlv (by omega)
  · have ht : ¬ tkc b n s = 276 := fun z => hx (by rw [z]; rfl)
    rw [pz_2, if_neg ht] at hres
    refine ms_oI_i xf_3_8 ?_
    rw [h8]
    by_cases h40 : tkc b n s = 40
    · rw [if_pos h40] at hres
      refine ms_yes (by rw [h40]; rfl) (pl_fin hn h0 ?_)
      by_cases hd8 : 8 ≤ dp
      · rw [if_pos hd8] at hres
        have e2 := Option.some.inj hres
        subst e2
        exact k_brF (d := d + 6) h hd8 (by omega)
      · rw [if_neg hd8] at hres
        exact k_brP (d := d) hW (hT (by omega)) h hs (by omega) hlv h40 (by omega) hres
    · rw [if_neg h40] at hres
      refine ms_no (tk_ne htl (v := 40) (by decide) h40) (ms_c1_i (k_isPlain (d := d + 6) h.2.1 htl) ?_)
      by_cases hp : 263 ≤ tkc b n s ∧ tkc b n s < 268
      · rw [if_pos hp] at hres
        rw [decide_eq_true hp]
        refine ms_no (by decide) (pl_fin hn h0 ?_)
        by_cases hl : 50 ≤ lv
        · rw [if_pos hl] at hres
          have e2 := Option.some.inj hres
          subst e2
          exact k_leafN (d := d) h hl (by omega)
        · rw [if_neg hl] at hres
          have e2 := Option.some.inj hres
          subst e2
          exact k_leafW (d := d) hW h hs (by omega) (by omega) (by omega) (by omega)
      · rw [if_neg hp] at hres
        rw [decide_eq_false hp]
        exact ms_yes rfl (pl_fin hn h0 (hC X t f0 s cs lv _ w res hres h hs (by omega) hlv))
  · have ht : tkc b n s = 276 := (ms_nI_eq htl (by decide)).mp hx
    have gt := tok_gt hs (show tkc b n s ≠ 301 by omega)
    rw [show (400 : Int32) = nI 400 from rfl, ms_nle (by omega) (by omega)] at hc
    omega
theorem k_readPlain (hP : KP b n f (d + 7) dp) : KN b n f 2 75 (d + 8) dp := by
  intro X t f0 s cs lv sl w res hres h hs hcs hlv
  refine mx_m (fun a b c => m_X5_readPlain a b ⟨_, xo_3⟩ c) RDq_l (b_X5_readPlain_0 ?_)
  have := hP X X t f0 s cs lv sl 0 w false res hres kp4_0 h hs hcs hlv (Nat.zero_le _)
  have e : adj false res = res := by
    cases res with
    | inr p => rfl
    | inl a => rfl
  rw [e] at this
  exact this
theorem pa_fin (hh : ms_H' D y as (ms_x X t) (RDq b n sl cs lv w X t res)) : ms_c1 (ms_Cl D y as (ms_x X t)) fun r2 g2 => if r2 = 0 then ((0 = (0 : Int32) ∨ 0 = (1 : Int32)) ∧ RDq b n sl cs lv w X t res (some (.int 0)) g2) else ((1 = (0 : Int32) ∨ 1 = (1 : Int32)) ∧ RDq b n sl cs lv w X t res (some (.int 1)) g2) := by
  refine rd_c1 hh (fun Z p e1 k1 t1 h6 => ?_) (fun a Z w' cs' m' e1 k1 R1 hsn l1 c1 m1 v1 cw => ?_)
  · subst e1
    exact ms_yes rfl ⟨(by first | exact Or.inr rfl | exact Or.inl rfl | exact Or.inl trivial | exact Or.inr trivial | trivial), RD_fail k1 t1 h6⟩
  · subst e1
    exact ms_no (by decide) ⟨(by first | exact Or.inr rfl | exact Or.inl rfl | exact Or.inl trivial | exact Or.inr trivial | trivial), Z, w', cs', m', k1, rfl, rfl, R1, hsn, l1, c1, m1, v1, cw⟩
theorem pa_br (hh : ms_H' D y as (ms_x X t) (RDq b n sl cs lv w X t res)) : ms_c1 (ms_Cl D y as (ms_x X t)) fun r3 g2 => (r3 = (0 : Int32) ∨ r3 = (1 : Int32)) ∧ RDq b n sl cs lv w X t res (some (.int r3)) g2 := by
  refine rd_c1 hh (fun Z p e1 k1 t1 h6 => ?_) (fun a Z w' cs' m' e1 k1 R1 hsn l1 c1 m1 v1 cw => ?_)
  · subst e1
    exact ⟨Or.inl rfl, RD_fail k1 t1 h6⟩
  · subst e1
    exact ⟨Or.inr rfl, Z, w', cs', m', k1, rfl, rfl, R1, hsn, l1, c1, m1, v1, cw⟩
theorem tkn_le : tkn b n s ≤ 100001 := by
  unfold tkn
  by_cases h1 : n ≤ skp b n s
  · rw [tok_e h1]
    exact Nat.zero_le _
  · have h1 : skp b n s < n := by omega
    cases h2 : ltr (b (skp b n s)) with
    | true =>
      rw [tok_w h1 h2]
      exact Nat.zero_le _
    | false =>
      cases h3 : dgt (b (skp b n s)) with
      | true =>
        rw [tok_d h1 h2 h3]
        exact nmb_le _
      | false =>
        rw [tok_s h1 h2 h3]
        exact Nat.zero_le _
theorem k_readPart (hW : HW) (hdp : dp ≤ 8) (hS : dp < 8 → KN b n f 5 78 (d + 6) (dp + 1)) : KN b n (f + 1) 7 80 (d + 8) dp := by
  intro X t f0 s cs lv sl w res hres h hs hcs hlv
  rw [pz_7] at hres
  have hn := h.1.1
  have htl := tkc_lt (s := s) h.1
  have h8 := h.2.1.2.2.1
  have h39 : ¬ tkc b n s = 91 → ¬ (256 ≤ tkc b n s ∧ tkc b n s < 263) → ms_V cd_X5_readPart none 4 (ms_Cl (d + 7)) (RDq b n sl cs lv w X t res) 39 [(0, .ref 3)] [] (ms_x X t) := by
    intro g1 g2
    rw [if_neg g1, if_neg g2] at hres
    refine b_X5_readPart_39 (ms_oI_i xf_3_8 ?_)
    rw [h8]
    by_cases h3 : tkc b n s = 300
    · refine ms_yes (by rw [h3]; rfl) (ms_oI_i xf_3_9 ?_)
      rw [h.2.1.2.2.2 h3]
      have hle := tkn_le (b := b) (n := n) (s := s)
      by_cases h4 : tkn b n s ≤ 100000
      · rw [if_pos ⟨h3, h4⟩] at hres
        refine ms_no (fun z => by rw [show (100000 : Int32) = nI 100000 from rfl, ms_nlt (by omega) (by omega)] at z; omega) (ms_yes rfl (ms_no (by decide) (pa_fin ?_)))
        by_cases hl : 50 ≤ lv
        · rw [if_pos hl] at hres
          have e2 := Option.some.inj hres
          subst e2
          exact k_leafN (d := d) h hl (by omega)
        · rw [if_neg hl] at hres
          have e2 := Option.some.inj hres
          subst e2
          exact k_leafNum (d := d) hW h hs hcs (by omega) h3 h4
      · rw [if_neg (fun z => h4 z.2)] at hres
        have e2 := Option.some.inj hres
        subst e2
        exact ms_yes (by rw [show (100000 : Int32) = nI 100000 from rfl, ms_nlt (by omega) (by omega)]; omega) (ms_yes rfl (ms_yes rfl ⟨(by first | exact Or.inr rfl | exact Or.inl rfl | exact Or.inl trivial | exact Or.inr trivial | trivial), RD_fail kp4_0 h.1 h.2.1.1⟩))
    · rw [if_neg (fun z => h3 z.1)] at hres
      have e2 := Option.some.inj hres
      subst e2
      exact ms_no (tk_ne htl (v := 300) (by decide) h3) (ms_yes rfl (ms_yes rfl ⟨(by first | exact Or.inr rfl | exact Or.inl rfl | exact Or.inl trivial | exact Or.inr trivial | trivial), RD_fail kp4_0 h.1 h.2.1.1⟩))
  refine mx_m (fun a b c => m_X5_readPart a b ⟨_, xo_3⟩ c) RDq_l (b_X5_readPart_0 (ms_oI_i xf_3_8 ?_))
  rw [h8]
  by_cases h91 : tkc b n s = 91
  · rw [if_pos h91] at hres
    refine ms_yes (by rw [h91]; rfl) (pa_br ?_)
    by_cases hd8 : 8 ≤ dp
    · rw [if_pos hd8] at hres
      have e2 := Option.some.inj hres
      subst e2
      exact k_brF (d := d + 6) h hd8 (by omega)
    · rw [if_neg hd8] at hres
      exact k_brS (d := d) hW (hS (by omega)) h hs hcs hlv h91 (by omega) hres
  · refine ms_no (tk_ne htl (v := 91) (by decide) h91) (ms_oI_i xf_3_8 ?_)
    rw [h8]
    by_cases ha : tkc b n s < 256
    · exact ms_yes (by rw [show (256 : Int32) = nI 256 from rfl, ms_nlt (by omega) (by omega)]; exact ha) (h39 h91 (fun z => by omega))
    refine ms_no (fun z => by rw [show (256 : Int32) = nI 256 from rfl, ms_nlt (by omega) (by omega)] at z; omega) (ms_oI_i xf_3_8 ?_)
    rw [h8]
    by_cases hb : 263 ≤ tkc b n s
    · exact ms_yes (by rw [show (263 : Int32) = nI 263 from rfl, ms_nle (by omega) (by omega)]; exact hb) (h39 h91 (fun z => by omega))
    refine ms_no (fun z => by rw [show (263 : Int32) = nI 263 from rfl, ms_nle (by omega) (by omega)] at z; omega) (ms_oI_i xf_3_8 ?_)
    rw [h8]
    rw [if_neg h91, if_pos ⟨by omega, by omega⟩] at hres
    refine ms_no (tk_ne htl (v := 300) (by decide) (by omega)) (ms_no (by decide) (pa_fin ?_))
    by_cases hl : 50 ≤ lv
    · rw [if_pos hl] at hres
      have e2 := Option.some.inj hres
      subst e2
      exact k_leafN (d := d) h hl (by omega)
    · rw [if_neg hl] at hres
      have e2 := Option.some.inj hres
      subst e2
      exact k_leafW (d := d) hW h hs hcs (by omega) (by omega) (by omega)
theorem KN_mono {D2 : Nat} (hD : D ≤ D2) (h : KN b n f k y D dp) : KN b n f k y D2 dp := by
  intro X t f0 s cs lv sl w res hres h1 hs hcs hlv
  obtain ⟨r, g', hq, hc⟩ := h X t f0 s cs lv sl w res hres h1 hs hcs hlv
  exact ⟨r, g', hq, ms_Cl_mono hD hc⟩
/-- frames at a depth of brackets -/
def dD (dp : Nat) : Nat := 8 * (8 - dp)
theorem dD_s (h : dp < 8) : dD dp = dD (dp + 1) + 8 := by unfold dD; omega
/-- all the reading methods -/
def KA (b : Nat → Nat) (n F dp : Nat) : Prop := (KN b n F 7 80 (dD dp + 8) dp ∧ KN b n F 6 79 (dD dp + 9) dp ∧ KN b n F 5 78 (dD dp + 10) dp ∧ KN b n F 4 77 (dD dp + 11) dp ∧ KN b n F 2 75 (dD dp + 12) dp ∧ KN b n F 1 74 (dD dp + 13) dp ∧ KN b n F 0 73 (dD dp + 14) dp) ∧ KL b n F 11 dp (gTerm (dD dp + 8) dp) ∧ KL b n F 10 dp (gSum (dD dp + 9) dp) ∧ KL b n F 9 dp (gBoth (dD dp + 12) dp) ∧ KL b n F 8 dp (gTest (dD dp + 13) dp) ∧ KP b n F (dD dp + 11) dp
theorem KA_all (hW : HW) : ∀ F dp, dp ≤ 8 → KA b n F dp := by
  intro F
  induction F with
  | zero =>
    intro dp hdp
    have z : ∀ k y D, KN b n 0 k y D dp := by
      intro k y D X t f0 s cs lv sl w res hres
      cases hres
    have zl : ∀ k G, KL b n 0 k dp G := by
      intro k G X0 X t f1 s cs lv sl cs0 lv0 j w0 w res hres
      cases hres
    refine ⟨⟨z _ _ _, z _ _ _, z _ _ _, z _ _ _, z _ _ _, z _ _ _, z _ _ _⟩, zl _ _, zl _ _, zl _ _, zl _ _, ?_⟩
    intro X0 X t f0 s cs lv sl j w tn res hres
    cases hres
  | succ F ih =>
    intro dp hdp
    obtain ⟨⟨a7, a6, a5, a4, a2, a1, a0⟩, l11, l10, l9, l8, lp⟩ := ih dp hdp
    have hS : dp < 8 → KN b n F 5 78 (dD dp + 6) (dp + 1) := fun h => KN_mono (by rw [dD_s h]; omega) (ih (dp + 1) h).1.2.2.1
    have hT : dp < 8 → KN b n F 0 73 (dD dp + 10) (dp + 1) := fun h => KN_mono (by rw [dD_s h]; omega) (ih (dp + 1) h).1.2.2.2.2.2.2
    have lp' : KP b n (F + 1) (dD dp + 11) dp := k_loopPlain (d := dD dp + 4) hW hdp lp (KN_mono (by omega) a4) hT
    exact ⟨⟨k_readPart (d := dD dp) hW hdp hS, k_readTerm (d := dD dp + 2) a7 l11, k_readSum (d := dD dp + 3) a6 l10, k_readComparison (d := dD dp + 4) hW a5, k_readPlain (d := dD dp + 4) lp', k_readBoth (d := dD dp + 6) a2 l9, k_readTest (d := dD dp + 7) a1 l8⟩, k_loopTerm (d := dD dp + 2) hW a7 l11, k_loopSum (d := dD dp + 3) hW a6 l10, k_loopBoth (d := dD dp + 5) hW a2 l9, k_loopTest (d := dD dp + 6) hW a1 l8, lp'⟩
end Pl
